/-! COOKING: the class's way through its STEPS -/
def rL (M : Nat → Int32) (R : Nat → Nat) (o : Nat) : Nat := if kK M o = 20 then R o else 0
def CW (h : TH) (tp : Nat) (M : Nat → Int32) (cn : Nat) (R : Nat → Nat) (k : Nat) (L : List Nat) : Prop := h.I tp 9 = nI (cc M cn k) ∧ h.I tp 8 = nI L.length ∧ ∀ j o, L.reverse[j]? = some o → h.I (tp + 5) j = nI (cc M cn o) ∧ h.I (tp + 6) j = nI (rL M R o + 1) ∧ rL M R o ≤ 98
section CRN
variable {h : TH} {M : Nat → Int32} {cn n0 tp k : Nat} {R : Nat → Nat} {L : List Nat}
theorem S93 {C : Int32 → Prop} (p : PI M n0 cn []) (cp : CPl h tp M cn []) (hk : k ≤ qn M) (b : inB M [] k L) (c : CW h tp M cn R k L) (kt : (k < qn M ∧ kK M k = 21) → C 1) (kf : ¬ (k < qn M ∧ kK M k = 21) → C 0) : W93 tp h C := by
  have n60 := p.n60
  have c30 := p.2.1.2.1
  obtain ⟨c9, c8, cs⟩ := c
  unfold W93
  rw [c8]
  cases L with
  | nil =>
    rw [if_pos (show nI ([] : List Nat).length ≤ 0 by decide)]
    refine kf (fun u => ?_)
    obtain ⟨L', e, _⟩ := inB_end p b u.1 u.2
    cases e
  | cons x r =>
    have hl : (x :: r).length = r.length + 1 := rfl
    have l3 := b.2.1
    have hx := (inB_iff b x).mp (by simp)
    have x21 : ¬ kK M x = 21 := fun u => opn_21 u hx.2.2.1
    have lx := (p.2.2.2.2.2.2.2.1 x hx.2.1 hx.2.2.1 (by simp)).2.1
    have cx : cc M cn x < 30 := by have := cc_lt p (k := x) (b := qn M) hx.2.1 (Nat.le_refl _) x21; rw [cc_n] at this; omega
    have ck := cc_le p hk
    have cl := cc_le p (k := lk M x) (by omega)
    obtain ⟨s1, s2, s3⟩ := cs r.length x rev_top
    rw [hl, if_neg (nI_nle (by omega) (by omega)), nI_pred, ix_n (j := r.length) (by omega), s1, ix_n (j := cc M cn x) (by omega), (cp x hx.2.1 x21).2 hx.2.2.1 (by simp), c9]
    refine ⟨inb_n (by omega), inb_n cx, ?_⟩
    by_cases q : cc M cn k = cc M cn (lk M x)
    · rw [if_neg (fun n => n (by rw [q]))]
      exact kt ((at_end p b hk).mp q)
    · rw [if_pos (fun e => q ((nI_eq (by omega) (by omega)).mp e))]
      exact kf (fun u => q ((at_end p b hk).mpr u))
theorem S94 {C : TH → Prop} (p : PI M n0 cn []) (hk : k < qn M) (h21 : kK M k = 21) (b : inB M [] k L) (c : CW h tp M cn R k L) (kk : ∀ g L', Sm (fun a => a = tp ∨ a = tp + 6) h g → (∀ j, j ≠ 8 → j ≠ 9 → g.I tp j = h.I tp j) → inB M [] (clK M R k) L' → CW g tp M cn (clR M R k) (clK M R k) L' → clK M R k ≤ qn M → (L'.length + 1 = L.length ∨ (L'.length = L.length ∧ ¬ (clK M R k < qn M ∧ kK M (clK M R k) = 21)) ∨ lk M k + 1 = k) → C g) : W94 tp h C := by
  have n60 := p.n60
  have c30 := p.2.1.2.1
  obtain ⟨c9, c8, cs⟩ := c
  obtain ⟨a1, a2, a3, a4, a5⟩ := p.2.2.2.2.2.2.2.2.1 k hk h21
  obtain ⟨r, eL, bn, bo⟩ := inB_end p b hk h21
  have b' := b
  rw [eL] at b' c8 cs
  have hl : (lk M k :: r).length = r.length + 1 := rfl
  have l3 : r.length + 1 ≤ 3 := by have := b'.2.1; rw [hl] at this; exact this
  have x21 : ¬ kK M (lk M k) = 21 := fun u => opn_21 u a2
  obtain ⟨s1, s2, s3⟩ := cs r.length (lk M k) rev_top
  have r1 : ∀ y, y ∈ r → y ≠ lk M k := fun y hy u => by have := (List.pairwise_cons.mp b'.1).1 y hy; omega
  have ccx : cc M cn (lk M k + 1) = cc M cn (lk M k) + 1 := by have := (p.2.2.2.1 (lk M k) (by omega)).2; rw [if_neg x21] at this; exact this
  have cck : cc M cn (k + 1) = cc M cn k := by have := (p.2.2.2.1 k hk).2; rw [if_pos h21] at this; exact this
  unfold W94
  rw [c8, hl, nI_pred, ix_n (j := r.length) (by omega), s2, nI_pred, I_ne (show tp ≠ tp + 6 by omega), c8, hl, nI_pred, ix_n (j := r.length) (by omega), I_eq]
  refine ⟨inb_n (by omega), inb_n (by omega), inb_n (by omega), ?_⟩
  have smH : Sm (fun a => a = tp ∨ a = tp + 6) h (h.sI (tp + 6) r.length (nI (rL M R (lk M k)))) := Sm.sI (S := fun a => a = tp ∨ a = tp + 6) Sm.refl (Or.inr rfl) _
  have mem_r : ∀ j o, r.reverse[j]? = some o → j < r.length ∧ o ∈ r := fun j o ho => by
    have hm := List.mem_of_getElem? ho
    refine ⟨?_, by simpa using hm⟩
    apply Classical.byContradiction
    intro w
    rw [List.getElem?_eq_none (by simp; omega)] at ho; cases ho
  by_cases q0 : rL M R (lk M k) = 0
  · rw [q0] at smH ⊢
    rw [if_pos (show nI 0 ≤ 0 by decide)]
    have na : ¬ again1 M R k := fun u => by unfold rL at q0; rw [if_pos u.1] at q0; have := u.2; omega
    have e1 : clK M R k = k + 1 := by unfold clK; rw [if_neg na]
    have e2 : clR M R k = R := by unfold clR; rw [if_neg na]
    rw [e1, e2] at kk
    refine kk _ r (Sm.sI (S := fun a => a = tp ∨ a = tp + 6) smH (Or.inl rfl) _) (fun j j8 _ => by rw [I_nk j8, I_ne (by omega)]) bn ⟨?_, I_eq, fun j o ho => ?_⟩ (by omega) (Or.inl (by rw [eL, hl]))
    · rw [I_nk (by decide), I_ne (by omega), c9, cck]
    · obtain ⟨j1, j2⟩ := mem_r j o ho
      obtain ⟨t1, t2, t3⟩ := cs j o (rev_old ho)
      rw [I_ne (by omega), I_ne (by omega), I_ne (by omega), I_nk (by omega)]
      exact ⟨t1, t2, t3⟩
  · rw [if_neg (nI_nle (by omega) (by omega)), I_ne (show tp + 5 ≠ tp + 6 by omega), s1, nI_1]
    refine ⟨inb_n (by omega), ?_⟩
    have k20 : kK M (lk M k) = 20 := by
      apply Classical.byContradiction
      intro w
      unfold rL at q0; rw [if_neg w] at q0; exact q0 rfl
    have eR : rL M R (lk M k) = R (lk M k) := by unfold rL; rw [if_pos k20]
    have na : again1 M R k := ⟨k20, by omega⟩
    have e1 : clK M R k = lk M k + 1 := by unfold clK; rw [if_pos na]
    have e2 : clR M R k = updR R (lk M k) (R (lk M k) - 1) := by unfold clR; rw [if_pos na]
    rw [e1, e2] at kk
    refine kk _ L (Sm.sI (S := fun a => a = tp ∨ a = tp + 6) smH (Or.inl rfl) _) (fun j _ j9 => by rw [I_nk j9, I_ne (by omega)]) bo ⟨?_, ?_, fun j o ho => ?_⟩ (by omega) ?_
    · rw [I_eq, ccx]
    · rw [I_nk (by decide), I_ne (by omega), c8, eL]
    · rw [eL] at ho
      obtain ⟨t1, t2, t3⟩ := cs j o ho
      rw [I_ne (by omega), I_ne (by omega), I_ne (by omega), I_at]
      rcases rev_new ho with ⟨j1, j2⟩ | ⟨j1, j2⟩
      · have ne := r1 o (mem_r j o j2).2
        rw [if_neg (by omega)]
        have er : rL M (updR R (lk M k) (R (lk M k) - 1)) o = rL M R o := by unfold rL updR; rw [if_neg ne]
        rw [er]; exact ⟨t1, t2, t3⟩
      · rw [if_pos j1, j2]
        have er : rL M (updR R (lk M k) (R (lk M k) - 1)) (lk M k) + 1 = rL M R (lk M k) := by rw [eR]; unfold rL updR; rw [if_pos k20, if_pos rfl]; omega
        refine ⟨by rw [← j2]; exact t1, by rw [er], by omega⟩
    · by_cases u : lk M k + 1 = k
      · exact Or.inr (Or.inr u)
      · refine Or.inr (Or.inl ⟨rfl, fun w => ?_⟩)
        obtain ⟨b1, b2, b3, b4, b5⟩ := p.2.2.2.2.2.2.2.2.1 (lk M k + 1) w.1 w.2
        rcases Nat.eq_or_lt_of_le (show lk M (lk M k + 1) ≤ lk M k by omega) with v | v
        · rw [v] at b5; omega
        · rcases p.2.2.2.2.2.2.2.2.2.1 (lk M (lk M k + 1)) (lk M k) v (by omega) b2 a2 (by simp) with y | y
          · omega
          · omega
end CRN
