/-! HOW A ROOM IS LAID -/
def RmI (h : TH) (r : Nat) (M : Nat → Int32) (k lo : Nat) (Q : Int32 → Prop) : Prop := h.I r 2 = nI k ∧ (∀ i, i < k → St (aN M) (h.I (r + 1) i) ∧ ∃ l, lo ≤ l ∧ l ≤ 20 ∧ h.I (r + 2) i = nI l) ∧ ∀ s, St (aN M) s → ((∀ i, i < k → pc (s &&& h.I (r + 1) i) ≤ ix (h.I (r + 2) i)) ↔ Q s)
def inR (r : Nat) (a : Nat) : Prop := r ≤ a ∧ a < r + 3
section RM
variable {h : TH} {M : Nat → Int32} {r k lo l : Nat} {C : TH → Prop} {m : Int32} {Q : Int32 → Prop}
theorem S111b (hw : Wf M) (hk : k ≤ 8) (hi : RmI h r M k lo Q) (hm : St (aN M) m) (hl : l ≤ lo) (hl2 : l ≤ 20) (kk : ∀ h' k', Sm (inR r) h h' → k' ≤ k + 1 → RmI h' r M k' l (fun s => Q s ∧ pc (s &&& m) ≤ l) → C h') : B111_46 r m (nI l) h C := by
  obtain ⟨e1, e2, e3⟩ := hi
  unfold B111_46
  rw [e1, if_neg (show ¬ (9 : Int32) ≤ nI k from nI_ge (b := 9) (by omega) (by omega)), ix_n (by omega)]
  simp only [I_sI, J_sI, P_sI, K_sI, N_sI, n_sI, sl_sI, R_sI, I_sJ, J_sJ, P_sJ, K_sJ, N_sJ, n_sJ, sl_sJ, R_sJ, I_sP, J_sP, P_sP, K_sP, N_sP, n_sP, sl_sP, R_sP, I_cI, J_cI, P_cI, K_cI, N_cI, n_cI, sl_cI, R_cI, I_cJ, J_cJ, P_cJ, K_cJ, N_cJ, n_cJ, sl_cJ, R_cJ, I_new, J_new, P_new, K_new, N_new, n_new, sl_new, R_new]
  rw [if_neg (by omega), e1, ix_n (by omega)]
  refine ⟨inb_n (by omega), inb_n (by omega), ?_⟩
  intro h2 eh2
  subst eh2
  simp only [I_sI, J_sI, P_sI, K_sI, N_sI, n_sI, sl_sI, R_sI, I_sJ, J_sJ, P_sJ, K_sJ, N_sJ, n_sJ, sl_sJ, R_sJ, I_sP, J_sP, P_sP, K_sP, N_sP, n_sP, sl_sP, R_sP, I_cI, J_cI, P_cI, K_cI, N_cI, n_cI, sl_cI, R_cI, I_cJ, J_cJ, P_cJ, K_cJ, N_cJ, n_cJ, sl_cJ, R_cJ, I_new, J_new, P_new, K_new, N_new, n_new, sl_new, R_new]
  rw [if_neg (by omega), if_neg (by omega), e1, nI_1]
  refine kk _ (k + 1) (((Sm.refl.sI (by unfold inR; omega) _).sI (by unfold inR; omega) _).sI (by unfold inR; omega) _) (by omega) ?_
  have q1 : ∀ i, (((h.sI (r + 1) k m).sI (r + 2) k (nI l)).sI r 2 (nI (k + 1))).I (r + 1) i = if i = k then m else h.I (r + 1) i := by
    intro i
    simp only [I_sI, J_sI, P_sI, K_sI, N_sI, n_sI, sl_sI, R_sI, I_sJ, J_sJ, P_sJ, K_sJ, N_sJ, n_sJ, sl_sJ, R_sJ, I_sP, J_sP, P_sP, K_sP, N_sP, n_sP, sl_sP, R_sP, I_cI, J_cI, P_cI, K_cI, N_cI, n_cI, sl_cI, R_cI, I_cJ, J_cJ, P_cJ, K_cJ, N_cJ, n_cJ, sl_cJ, R_cJ, I_new, J_new, P_new, K_new, N_new, n_new, sl_new, R_new]
    rw [if_neg (by omega), if_neg (by omega)]
    by_cases e : i = k
    · rw [if_pos e, if_pos ⟨trivial, e⟩]
    · rw [if_neg e, if_neg (fun z => e z.2)]
  have q2 : ∀ i, (((h.sI (r + 1) k m).sI (r + 2) k (nI l)).sI r 2 (nI (k + 1))).I (r + 2) i = if i = k then nI l else h.I (r + 2) i := by
    intro i
    simp only [I_sI, J_sI, P_sI, K_sI, N_sI, n_sI, sl_sI, R_sI, I_sJ, J_sJ, P_sJ, K_sJ, N_sJ, n_sJ, sl_sJ, R_sJ, I_sP, J_sP, P_sP, K_sP, N_sP, n_sP, sl_sP, R_sP, I_cI, J_cI, P_cI, K_cI, N_cI, n_cI, sl_cI, R_cI, I_cJ, J_cJ, P_cJ, K_cJ, N_cJ, n_cJ, sl_cJ, R_cJ, I_new, J_new, P_new, K_new, N_new, n_new, sl_new, R_new]
    rw [if_neg (by omega)]
    by_cases e : i = k
    · rw [if_pos e, if_pos ⟨trivial, e⟩]
    · rw [if_neg e, if_neg (fun z => e z.2), if_neg (by omega)]
  refine ⟨?_, ?_, ?_⟩
  · simp only [I_sI, J_sI, P_sI, K_sI, N_sI, n_sI, sl_sI, R_sI, I_sJ, J_sJ, P_sJ, K_sJ, N_sJ, n_sJ, sl_sJ, R_sJ, I_sP, J_sP, P_sP, K_sP, N_sP, n_sP, sl_sP, R_sP, I_cI, J_cI, P_cI, K_cI, N_cI, n_cI, sl_cI, R_cI, I_cJ, J_cJ, P_cJ, K_cJ, N_cJ, n_cJ, sl_cJ, R_cJ, I_new, J_new, P_new, K_new, N_new, n_new, sl_new, R_new]
    rw [if_pos ⟨trivial, trivial⟩]
  · intro i hi
    rw [q1, q2]
    by_cases e : i = k
    · rw [if_pos e, if_pos e]; exact ⟨hm, l, Nat.le_refl _, hl2, rfl⟩
    · rw [if_neg e, if_neg e]
      obtain ⟨a, b, c, d, f⟩ := e2 i (by omega)
      exact ⟨a, b, by omega, d, f⟩
  · intro s hs
    show _ ↔ (Q s ∧ _)
    rw [← e3 s hs]
    refine ⟨fun z => ⟨fun i hi => ?_, ?_⟩, fun z i hi => ?_⟩
    · have := z i (by omega)
      rwa [q1, q2, if_neg (by omega), if_neg (by omega)] at this
    · have := z k (by omega)
      rwa [q1, q2, if_pos rfl, if_pos rfl, ix_n (by omega)] at this
    · rw [q1, q2]
      by_cases e : i = k
      · rw [if_pos e, if_pos e, ix_n (by omega)]; exact z.2
      · rw [if_neg e, if_neg e]; exact z.1 i (by omega)
theorem S111 (hw : Wf M) (hk : k ≤ 8) (hi : RmI h r M k lo Q) (hm : St (aN M) m) (hl : l ≤ lo) (hl2 : l ≤ 20) (kk : ∀ h' k', Sm (inR r) h h' → k' ≤ k + 1 → RmI h' r M k' l (fun s => Q s ∧ pc (s &&& m) ≤ l) → C h') : W111 r m (nI l) h C := by
  have h12 := hw.n12
  have hi9 := hi
  obtain ⟨e1, e2, e3⟩ := hi
  unfold W111
  refine S327 (St_mono hm h12) ?_
  have hp := pc_le m
  by_cases e : l < pc m
  · rw [if_pos (nI_lt e (by omega)), e1]
    by_cases e0 : k = 0
    · rw [if_pos (by rw [e0]; decide)]
      exact S111b hw hk hi9 hm hl hl2 kk
    · obtain ⟨j, rfl⟩ : ∃ j, k = j + 1 := ⟨k - 1, by omega⟩
      rw [if_neg (nI_nle (by omega) (by omega)), nI_pred, ix_n (by omega)]
      refine ⟨inb_n (by omega), ?_⟩
      by_cases e5 : h.I (r + 1) j = m
      · rw [if_neg (fun q => q e5)]
        refine ⟨inb_n (by omega), kk _ (j + 1) (Sm.refl.sI (by unfold inR; omega) _) (by omega) ?_⟩
        have q1 : ∀ i, (h.sI (r + 2) j (nI l)).I (r + 1) i = h.I (r + 1) i := by
          intro i
          rw [I_sI, if_neg (by omega)]
        have q2 : ∀ i, (h.sI (r + 2) j (nI l)).I (r + 2) i = if i = j then nI l else h.I (r + 2) i := by
          intro i
          rw [I_sI]
          by_cases e : i = j
          · rw [if_pos e, if_pos ⟨rfl, e⟩]
          · rw [if_neg e, if_neg (fun z => e z.2)]
        refine ⟨?_, ?_, ?_⟩
        · rw [I_sI, if_neg (by omega)]; exact e1
        · intro i hi
          rw [q1, q2]
          obtain ⟨a, b, c, d, f⟩ := e2 i (by omega)
          refine ⟨a, ?_⟩
          by_cases e : i = j
          · rw [if_pos e]; exact ⟨l, Nat.le_refl _, hl2, rfl⟩
          · rw [if_neg e]; exact ⟨b, by omega, d, f⟩
        · intro s hs
          show _ ↔ (Q s ∧ _)
          rw [← e3 s hs]
          refine ⟨fun z => ⟨fun i hi => ?_, ?_⟩, fun z i hi => ?_⟩
          · have := z i (by omega)
            rw [q1, q2] at this
            by_cases e : i = j
            · rw [if_pos e, ix_n (by omega)] at this
              obtain ⟨_, b, c, d, f⟩ := e2 i (by omega)
              rw [f, ix_n (by omega)]
              omega
            · rwa [if_neg e] at this
          · have := z j (by omega)
            rwa [q1, q2, if_pos rfl, ix_n (by omega), e5] at this
          · rw [q1, q2]
            by_cases e : i = j
            · rw [if_pos e, ix_n (by omega), e, e5]; exact z.2
            · rw [if_neg e]; exact z.1 i (by omega)
      · rw [if_pos e5]
        exact S111b hw hk hi9 hm hl hl2 kk
  · rw [if_neg (nI_nlt (by omega) (by omega))]
    refine kk _ k Sm.refl (by omega) ⟨e1, ?_, ?_⟩
    · intro i hi
      obtain ⟨a, b, c, d, f⟩ := e2 i hi
      exact ⟨a, b, by omega, d, f⟩
    · intro s hs
      rw [e3 s hs]
      refine ⟨fun z => ⟨z, ?_⟩, fun z => z.1⟩
      refine Nat.le_trans (pc_mono (fun d _ q => ?_)) (by omega : pc m ≤ l)
      rw [bt_and] at q
      simp only [Bool.and_eq_true] at q
      exact q.2
theorem fcnt_pc (hw : Wf M) {s : Int32} (hs : St (aN M) s) (z : Nat) : fcnt M s z = pc (s &&& dS M z) := by
  have h12 := hw.n12
  rw [pc_n (St_and _ hs) h12]
  unfold fcnt
  refine fb_ct_cong (fun d hd => ?_)
  rw [bt_and]
  unfold dS
  rw [bt_setOf _ _ (by omega)]
  simp [hd]
theorem bigK_le (more z : Nat) (hw : Wf M) : bigK M more z ≤ 9 := by
  have := hw.2.2.2.1
  unfold bigK
  have := fb_ct_le (fun k => decide (z ≤ ix (M (8 + k)))) (aP M)
  split <;> omega
theorem bigK_anti (more z : Nat) : bigK M more (z + 1) ≤ bigK M more z := by
  unfold bigK
  have : fb_ct (fun k => decide (z + 1 ≤ ix (M (8 + k)))) (aP M) ≤ fb_ct (fun k => decide (z ≤ ix (M (8 + k)))) (aP M) := fb_ct_sub (fun k _ q => by simp at q ⊢; omega)
  split <;> split <;> omega
end RM
section RM2
variable {h : TH} {M : Nat → Int32} {r t : Nat} {C : TH → Prop}
theorem Sm_CMr {h' : TH} (hc : CMr h t M) (hs : Sm (inR r) h h') (ht : r + 3 ≤ t ∨ t + 9 ≤ r) : CMr h' t M := by
  unfold CMr at hc ⊢
  have hI : ∀ a, t ≤ a → a < t + 9 → h'.I a = h.I a := fun a h1 h2 => hs.I (by unfold inR; omega)
  rw [hI t (by omega) (by omega), hI (t + 2) (by omega) (by omega), hI (t + 3) (by omega) (by omega), hI (t + 4) (by omega) (by omega), hI (t + 5) (by omega) (by omega), hI (t + 6) (by omega) (by omega), hI (t + 7) (by omega) (by omega), hI (t + 8) (by omega) (by omega)]
  exact hc
theorem S109 (hw : Wf M) (hc : CMr h t M) (ht : r + 3 ≤ t ∨ t + 9 ≤ r) (more : Nat) {x : Int32} (hx : x = nI more) (hm : more ≤ 9) (kk : ∀ h', Sm (inR r) h h' → RoomOk h' r M (bigK M more) → C h') : W109 r t x h C := by
  have h12 := hw.n12
  have hp8 := hw.2.2.2.1
  subst hx
  unfold W109 B109_7
  refine LFP.up 10 (fun z q => q.1 = nI z ∧ 1 ≤ z ∧ Sm (inR r) h q.2 ∧ ∃ k, k + 1 ≤ z ∧ RmI q.2 r M k (bigK M more (z - 1)) (fun s => ∀ y, y < z → 1 ≤ y → fcnt M s y ≤ bigK M more y)) ?_ ?_ (show 1 ≤ 10 by omega) ⟨rfl, Nat.le_refl _, Sm.refl.sI (by unfold inR; omega) _, 0, by omega, ?_⟩
  · rintro X z ⟨x3, g⟩ hz ⟨h1, h2, h3, k, h4, h5⟩ ih
    dsimp only at h1 h3 h5
    subst h1
    have hc' := Sm_CMr hc h3 ht
    have inner : ∀ x4 : Int32, x4 = nI (if z ≤ more then 1 else 0) → B109_28 r t (nI more) (nI z) x4 0 g C X := by
      intro x4 hx4
      unfold B109_28
      refine LFP.up (aP M) (fun j q => q.2.1 = nI j ∧ q.1 = nI (fb_ct (fun k => decide (z ≤ ix (M (8 + k)))) j + (if z ≤ more then 1 else 0)) ∧ q.2.2 = g) ?_ ?_ (Nat.zero_le _) ⟨rfl, by rw [hx4]; show _ = nI (0 + _); rw [Nat.zero_add], rfl⟩
      · rintro Y j ⟨y4, y5, g'⟩ hj ⟨f1, f2, f3⟩ ih2
        dsimp only at f1 f2 f3
        subst f1 f2 f3
        unfold F109_28 B109_55
        dsimp only
        obtain ⟨zz, z1, z2, z3⟩ := hw.2.2.2.2.1 j hj
        rw [hc'.p, if_neg (nI_ge hj (by omega)), ix_n (by omega), hc'.pot hj, z3]
        refine ⟨inb_n (by omega), ?_⟩
        by_cases e : zz < z
        · rw [if_pos (nI_lt e (by omega))]
          refine ih2 _ ⟨nI_1 j, ?_, rfl⟩
          show _ + nI 0 = _
          rw [nI_add, fb_ct_succ, z3, ix_n (by omega), show decide (z ≤ zz) = false from decide_eq_false (by omega)]
          simp only [Bool.false_eq_true, if_false]
          exact congrArg nI (by omega)
        · rw [if_neg (nI_nlt (by omega) (by omega))]
          refine ih2 _ ⟨nI_1 j, ?_, rfl⟩
          show _ + nI 1 = _
          rw [nI_add, fb_ct_succ, z3, ix_n (by omega), show decide (z ≤ zz) = true from decide_eq_true (by omega)]
          simp only [if_true]
          exact congrArg nI (by omega)
      · rintro Y ⟨y4, y5, g'⟩ ⟨f1, f2, f3⟩
        dsimp only at f1 f2 f3
        subst f1 f2 f3
        unfold F109_28
        dsimp only
        rw [hc'.p, if_pos (nI_le (Nat.le_refl _) (by omega))]
        refine S58 hw hc' z (by omega) rfl ?_
        have hb := bigK_le (M := M) more z hw
        refine S111 (l := bigK M more z) hw (by omega) h5 (St_setOf _ (by omega)) ?_ (by omega) (fun h' k' s1 s2 s3 => ?_)
        · have := bigK_anti (M := M) more (z - 1)
          rwa [show z - 1 + 1 = z by omega] at this
        · refine ih _ ⟨nI_1 z, by omega, h3.trans s1, k', by omega, ?_⟩
          obtain ⟨a, b, c⟩ := s3
          refine ⟨a, b, fun s hs => ?_⟩
          rw [c s hs]
          constructor
          · intro q y y1 y2
            by_cases e : y = z
            · subst e; rw [fcnt_pc hw hs]; exact q.2
            · exact q.1 y (by omega) y2
          · intro q
            refine ⟨fun y y1 y2 => q y (by omega) y2, ?_⟩
            have := q z (by omega) h2
            rwa [fcnt_pc hw hs] at this
    unfold F109_7
    dsimp only
    rw [if_neg (show ¬ (9 : Int32) < nI z from nI_nlt (a := 9) (by omega) (by omega))]
    by_cases e : more < z
    · rw [if_pos (nI_lt e (by omega))]
      exact inner 0 (by rw [if_neg (by omega)]; rfl)
    · rw [if_neg (nI_nlt (by omega) (by omega))]
      exact inner 1 (by rw [if_pos (by omega)]; rfl)
  · rintro X ⟨x3, g⟩ ⟨h1, h2, h3, k, h4, h5⟩
    dsimp only at h1 h3 h5
    subst h1
    unfold F109_7
    dsimp only
    rw [if_pos (show (9 : Int32) < nI 10 by decide +kernel)]
    obtain ⟨a, b, c⟩ := h5
    refine kk _ h3 ⟨k, by omega, a, fun i hi => ?_, fun s hs => ?_⟩
    · obtain ⟨q1, q2, q3, q4, q5⟩ := b i hi
      exact ⟨q1, q2, q4, q5⟩
    · rw [c s hs]
      rw [fitB_iff]
  · refine ⟨?_, fun i hi => absurd hi (Nat.not_lt_zero _), fun s _ => ⟨fun _ y y1 y2 => by omega, fun _ i hi => absurd hi (Nat.not_lt_zero _)⟩⟩
    show (h.sI r 2 0).I r 2 = _
    rw [I_sI, if_pos ⟨rfl, rfl⟩]
    rfl
theorem S110 (hw : Wf M) (hc : CMr h t M) (ht : r + 3 ≤ t ∨ t + 9 ≤ r) (p : Nat) {x : Int32} (hx : x = nI p) (hm : p ≤ 12) (kk : ∀ h', Sm (inR r) h h' → RoomOk h' r M (fun _ => p) → C h') : W110 r t x h C := by
  have h12 := hw.n12
  subst hx
  unfold W110
  have s0 : Sm (inR r) h (h.sI r 2 0) := Sm.refl.sI (by unfold inR; omega) _
  refine S57 hw (Sm_CMr hc s0 ht) ?_
  refine S111 (k := 0) (lo := 20) (l := p) (Q := fun _ => True) hw (by omega) ⟨?_, fun i hi => absurd hi (Nat.not_lt_zero _), fun s _ => ⟨fun _ => trivial, fun _ i hi => absurd hi (Nat.not_lt_zero _)⟩⟩ (St_setOf _ (by omega)) (by omega) (by omega) (fun h' k' s1 s2 s3 => ?_)
  · rw [I_sI, if_pos ⟨rfl, rfl⟩]
    rfl
  · obtain ⟨a, b, c⟩ := s3
    refine kk _ (s0.trans s1) ⟨k', by omega, a, fun i hi => ?_, fun s hs => ?_⟩
    · obtain ⟨q1, q2, q3, q4, q5⟩ := b i hi
      exact ⟨q1, q2, q4, q5⟩
    · rw [c s hs]
      have e : s &&& setOf (fun _ => true) (aN M) = s := by
        refine St_ext (n := aN M) (St_and _ hs) hs (fun d hd => ?_)
        rw [bt_and, bt_setOf _ _ (by omega)]
        simp [hd]
      show (True ∧ pc (s &&& setOf (fun _ => true) (aN M)) ≤ p) ↔ _
      rw [e, fitB_iff]
      have h1 : fcnt M s 1 = pc s := by
        rw [pc_n hs h12]
        unfold fcnt
        refine fb_ct_cong (fun d hd => ?_)
        have := (hw.szb hd).2.1
        simp [this]
      constructor
      · intro q z z1 z2
        refine Nat.le_trans ?_ q.2
        rw [pc_n hs h12]
        unfold fcnt
        exact fb_ct_sub (fun d hd q => by simp only [Bool.and_eq_true] at q; exact q.1)
      · intro q
        refine ⟨trivial, ?_⟩
        have := q 1 (by omega) (by omega)
        rwa [h1] at this
end RM2
