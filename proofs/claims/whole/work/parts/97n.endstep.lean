/-! HANDS: the class at a STEP's end -/
def kpN (M : Nat → Int32) (d : Nat) : Nat := ix (aKp M d)
/-- the class's counts of a HAND at t: since when each stands -/
def snc (h : TH) (t : Nat) (M : Nat → Int32) (S U old : Int32) (A : Nat → Nat) (k : Nat) : Prop := ∀ d, d < aN M → bt S d = true → bt U d = false → ¬ aKp M d = 0 → (bt old d = true → h.I (t + 1) d = nI (k + A d - kpN M d) ∧ 1 ≤ A d ∧ A d ≤ kpN M d ∧ kpN M d ≤ k + A d) ∧ (bt old d = false → h.I (t + 1) d = nI (k + 1))
section EST
variable {h : TH} {M : Nat → Int32} {S U old : Int32} {A : Nat → Nat} {t tm k : Nat}
theorem kpN_eq (hw : Wf M) {d : Nat} (hd : d < aN M) : aKp M d = nI (kpN M d) ∧ kpN M d ≤ 99 ∧ (¬ aKp M d = 0 ↔ 1 ≤ kpN M d) := by
  obtain ⟨w, h1, h2⟩ := (hw.D hd).2.2.1
  have e : kpN M d = w := by unfold kpN; rw [h2, ix_n (by omega)]
  rw [e]
  refine ⟨h2, h1, ?_⟩
  rw [h2]
  constructor
  · intro q
    rcases Nat.eq_zero_or_pos w with y | y
    · rw [y] at q; exact absurd rfl q
    · exact y
  · intro q; exact nI_ne0 q (by omega)
theorem bt_made {d : Nat} (hd : d < 32) : bt (S &&& (U ^^^ (-1))) d = (bt S d && !bt U d) := by rw [bt_and, bt_not _ hd]
theorem or_not {a x b : Int32} : (a &&& (x ^^^ (-1))) &&& (b ^^^ (-1)) = a &&& ((x ||| b) ^^^ (-1)) := by
  refine bt_ext (fun d hd => ?_)
  rw [bt_and, bt_and, bt_and, bt_not _ hd, bt_not _ hd, bt_not _ hd, bt_or]
  cases bt a d <;> cases bt x d <;> cases bt b d <;> rfl
theorem and_not0 {a : Int32} : a &&& ((0 : Int32) ^^^ (-1)) = a := by
  refine bt_ext (fun d hd => ?_)
  rw [bt_and, bt_not _ hd, bt_0]; simp
theorem pc_gon {n : Nat} (hn : n ≤ 12) : pc (gon M S U old A (n + 1)) = pc (gon M S U old A n) + (if agP M S U old n = true ∧ A n = 1 then 1 else 0) ∨ 12 ≤ n := by
  rcases Nat.lt_or_ge n 12 with w | w
  · left
    rw [gon_s]
    by_cases q : agP M S U old n = true ∧ A n = 1
    · rw [if_pos q, if_pos q, pc_add w]
      cases e : bt (gon M S U old A n) n with
      | false => rfl
      | true => have := (gon_bt (by omega)).mp e; omega
    · rw [if_neg q, if_neg q]; rfl
  · exact Or.inr w
theorem S26 {C : TH → Prop} (hw : Wf M) (hr : CMr h tm M) (hdis : ∀ a, tm ≤ a → a < tm + 15 → a ≠ t ∧ a ≠ t + 1) (e0 : h.I t 0 = S) (e1 : h.I t 1 = U) (e4 : h.I t 4 = nI k) (hk : k ≤ 1000000) (sS : St (aN M) S) (sU : St (aN M) U) (hs : snc h t M S U old A k) (kk : ∀ g, Sm (fun a => a = t) h g → g.I t 0 = S &&& (gon M S U old A (aN M) ^^^ (-1)) → g.I t 1 = U &&& (gon M S U old A (aN M) ^^^ (-1)) → g.I t 4 = nI (k + 1) → g.I t 9 = h.I t 9 + nI (pc (gon M S U old A (aN M))) → g.I t 7 = imax (h.I t 7) (nI (pc (S &&& (gon M S U old A (aN M) ^^^ (-1))))) → (∀ j, j ≠ 0 → j ≠ 1 → j ≠ 4 → j ≠ 7 → j ≠ 9 → g.I t j = h.I t j) → C g) : W26 t tm h C := by
  have h12 := hw.n12
  unfold W26 B26_12
  rw [e4, nI_1]
  refine LFP.up (aN M) (fun (j : Nat) (q : Int32 × TH) => q.1 = nI j ∧ Sm (fun a => a = t) h q.2 ∧ q.2.I t 0 = S &&& (gon M S U old A j ^^^ (-1)) ∧ q.2.I t 1 = U &&& (gon M S U old A j ^^^ (-1)) ∧ q.2.I t 4 = nI (k + 1) ∧ q.2.I t 9 = h.I t 9 + nI (pc (gon M S U old A j)) ∧ ∀ i, i ≠ 0 → i ≠ 1 → i ≠ 4 → i ≠ 9 → q.2.I t i = h.I t i) ?_ ?_ (Nat.zero_le _) ⟨rfl, Sm.sI (S := fun a => a = t) Sm.refl rfl _, ?_, ?_, I_eq, ?_, fun i _ _ i4 _ => I_nk i4⟩
  · rintro X j ⟨x2, g⟩ hj ⟨ex, sm, a0, a1, a4, a9, ao⟩ ih
    (try dsimp only at ex sm a0 a1 a4 a9 ao)
    subst ex
    have hrg : CMr g tm M := CMr_pt hr (fun i _ _ => by rw [sm.I (fun e => (hdis tm (by omega) (by omega)).1 e)]) (fun a _ _ e _ => by rw [sm.I (fun e => (hdis (tm + a) (by omega) (by omega)).1 e)]) (fun i _ => by rw [sm.I (fun e => (hdis (tm + 8) (by omega) (by omega)).1 e)])
    obtain ⟨kp1, kp2, kp3⟩ := kpN_eq hw hj
    unfold F26_12 W17
    (try dsimp only)
    rw [hrg.n, if_neg (nI_ge hj (by omega)), a0, a1, ix_n (by omega), hrg.kp hj, a4, sm.I (by omega)]
    have bG : bt (gon M S U old A j) j = false := by
      cases e : bt (gon M S U old A j) j with
      | false => rfl
      | true => have := (gon_bt (by omega)).mp e; omega
    have bm : bt ((S &&& (gon M S U old A j ^^^ (-1))) &&& ((U &&& (gon M S U old A j ^^^ (-1))) ^^^ (-1))) j = (bt S j && !bt U j) := by
      rw [bt_and, bt_not _ (by omega), bt_and, bt_and, bt_not _ (by omega), bG]; simp
    have next : ¬ (agP M S U old j = true ∧ A j = 1) → X (nI j + 1, g) := by
      intro w
      rw [nI_1]
      have eg : gon M S U old A (j + 1) = gon M S U old A j := by rw [gon_s, if_neg w]
      exact ih _ ⟨rfl, sm, by rw [eg]; exact a0, by rw [eg]; exact a1, a4, by rw [eg]; exact a9, ao⟩
    by_cases q1 : bt S j = true ∧ bt U j = false
    · rw [if_neg (fun n => by rw [bt_in (by omega), bm, q1.1, q1.2] at n; exact absurd n (by decide))]
      refine ⟨inb_n (by omega), ?_⟩
      by_cases q2 : aKp M j = 0
      · rw [if_pos (by rw [q2]; decide)]
        exact next (fun w => (agP_iff.mp w.1).2.2.2 q2)
      · have kpos := kp3.mp q2
        rw [kp1, if_neg (nI_nle kpos (by omega))]
        obtain ⟨s1, s2⟩ := hs j hj q1.1 q1.2 q2
        refine ⟨inb_n (by omega), inb_n (by omega), ?_⟩
        cases eo : bt old j with
        | true =>
          obtain ⟨b1, b2, b3, b4⟩ := s1 eo
          rw [b1, pk_sub (by omega), show k + 1 - (k + A j - kpN M j) = kpN M j + 1 - A j by omega]
          by_cases q3 : A j = 1
          · rw [if_neg (nI_nlt (by omega) (by omega))]
            have hP : agP M S U old j = true := agP_iff.mpr ⟨q1.1, q1.2, eo, q2⟩
            have eg : gon M S U old A (j + 1) = gon M S U old A j ||| ishl 1 (nI j) := by rw [gon_s, if_pos ⟨hP, q3⟩]
            have ep : pc (gon M S U old A (j + 1)) = pc (gon M S U old A j) + 1 := by rw [eg]; exact pc_add (by omega) bG
            unfold W23
            rw [a0, I_nk (by decide), a1, nI_1]
            refine ih _ ⟨rfl, Sm.sI (S := fun a => a = t) (Sm.sI (S := fun a => a = t) (Sm.sI (S := fun a => a = t) sm rfl _) rfl _) rfl _, ?_, ?_, ?_, ?_, fun i i0 i1 i4 i9 => ?_⟩
            · show ((((g.sI t 0 _).sI t 1 _).sI t 9 _)).I t 0 = _
              rw [I_nk (by decide), I_nk (by decide), I_eq, eg, or_not]
            · show ((((g.sI t 0 _).sI t 1 _).sI t 9 _)).I t 1 = _
              rw [I_nk (by decide), I_eq, eg, or_not]
            · show ((((g.sI t 0 _).sI t 1 _).sI t 9 _)).I t 4 = _
              rw [I_nk (by decide), I_nk (by decide), I_nk (by decide)]; exact a4
            · show ((((g.sI t 0 _).sI t 1 _).sI t 9 _)).I t 9 = _
              rw [I_eq, I_nk (by decide), I_nk (by decide), a9, ep, Int32.add_assoc, nI_1]
            · show ((((g.sI t 0 _).sI t 1 _).sI t 9 _)).I t i = _
              rw [I_nk i9, I_nk i1, I_nk i0]; exact ao i i0 i1 i4 i9
          · rw [if_pos (nI_lt (by omega) (by omega))]
            exact next (fun w => q3 w.2)
        | false =>
          rw [s2 eo, pk_sub (by omega), show k + 1 - (k + 1) = 0 by omega, if_pos (nI_lt (by omega) (by omega))]
          exact next (fun w => by have := (agP_iff.mp w.1).2.2.1; rw [eo] at this; exact absurd this (by decide))
    · rw [if_pos ((bt_in (by omega)).mpr (by
        rw [bm]
        cases u1 : bt S j with
        | false => rfl
        | true => cases u2 : bt U j with
          | false => exact absurd ⟨u1, u2⟩ q1
          | true => rfl))]
      exact next (fun w => q1 ⟨(agP_iff.mp w.1).1, (agP_iff.mp w.1).2.1⟩)
  · rintro X ⟨x2, g⟩ ⟨ex, sm, a0, a1, a4, a9, ao⟩
    (try dsimp only at ex sm a0 a1 a4 a9 ao)
    subst ex
    have hn : g.I tm 1 = nI (aN M) := by rw [sm.I (fun e => (hdis tm (by omega) (by omega)).1 e)]; exact hr.n
    unfold F26_12
    (try dsimp only)
    rw [hn, if_pos (nI_le (Nat.le_refl _) (by omega)), a0]
    refine S327 (St_mono (St_and _ sS (by omega)) h12) ?_
    refine kk _ (Sm.sI (S := fun a => a = t) sm rfl _) ?_ ?_ ?_ ?_ ?_ (fun j j0 j1 j4 j7 j9 => ?_)
    · rw [I_nk (by decide)]; exact a0
    · rw [I_nk (by decide)]; exact a1
    · rw [I_nk (by decide)]; exact a4
    · rw [I_nk (by decide)]; exact a9
    · rw [I_eq, ao 7 (by decide) (by decide) (by decide) (by decide)]
    · rw [I_nk j7]; exact ao j j0 j1 j4 j9
  · rw [I_nk (by decide), e0]; exact and_not0.symm
  · rw [I_nk (by decide), e1]; exact and_not0.symm
  · rw [I_nk (by decide)]
    show h.I t 9 = h.I t 9 + nI (pc 0)
    rw [pc_0]
    show h.I t 9 = h.I t 9 + 0
    exact (Int32.add_zero _).symm
end EST
