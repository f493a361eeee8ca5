/-! COOKING: the reference's way through the rows -/
def cont (M : Nat → Int32) (k o : Nat) : Prop := o < k ∧ o < qn M ∧ opn M o ∧ k ≤ lk M o
def MP (h : TH) (M : Nat → Int32) : Prop := h.I 198 6 = M 6 ∧ ∀ k, 124 ≤ k → k < 440 → h.I 198 k = M k
def RI (h : TH) (M : Nat → Int32) (R : Nat → Nat) (k : Nat) : Prop := ∀ o, cont M k o → kK M o = 20 → h.I 219 o = nI (R o) ∧ R o ≤ 98
section MRN
variable {h : TH} {M : Nat → Int32} {cn n0 : Nat} {dr : Int32} {st0 : PST} {k d : Nat} {R : Nat → Nat} {s : CK}
theorem cont_end (p : PI M n0 cn []) {e y : Nat} (he : e < qn M) (h21 : kK M e = 21) (c : cont M (lk M e + 1) y) : cont M e y := by
  obtain ⟨a1, a2, a3, a4, a5⟩ := p.2.2.2.2.2.2.2.2.1 e he h21
  obtain ⟨c1, c2, c3, c4⟩ := c
  by_cases q : y = lk M e
  · rw [q]; exact ⟨a1, by omega, a2, by rw [a5]; omega⟩
  · refine ⟨by omega, c2, c3, ?_⟩
    rcases p.2.2.2.2.2.2.2.2.2.1 y (lk M e) (by omega) (by omega) c3 a2 (by simp) with u | u
    · omega
    · rw [a5] at u; omega
theorem cont_skip (p : PI M n0 cn []) {y : Nat} (hk : k < qn M) (ok : opn M k) (c : cont M (lk M k + 1) y) : cont M k y := by
  obtain ⟨b1, b2, b3, b4, b5⟩ := p.2.2.2.2.2.2.2.1 k hk ok (by simp)
  obtain ⟨c1, c2, c3, c4⟩ := c
  have y1 : y ≠ lk M k := fun u => opn_21 b4 (u ▸ c3)
  have y2 : y ≠ k := fun u => by rw [u] at c4; omega
  rcases Nat.lt_or_gt_of_ne y2 with u | u
  · exact ⟨u, c2, c3, by omega⟩
  · rcases p.2.2.2.2.2.2.2.2.2.1 k y u (by omega) ok c3 (by simp) with v | v
    · omega
    · omega
theorem S317 {C : Int32 → TH → Prop} (p : PI M n0 cn []) (mp : MP h M) (hk : k ≤ qn M) (l : leads0 M cn dr st0 (k, R, d, s)) (ri : RI h M R k) (kk : ∀ g k' R', Sm (fun a => a = 219) h g → leads0 M cn dr st0 (k', R', d, s) → RI g M R' k' → k' ≤ qn M → ¬ (k' < qn M ∧ kK M k' = 21) → C (nI k') g) : W317 (nI k) h C := by
  have n60 := p.n60
  unfold W317 B317_2
  refine LFP.ix (fun (m : Nat) (q : Int32 × TH) => ∃ (k1 : Nat) (R1 : Nat → Nat), q.1 = nI k1 ∧ k1 ≤ qn M ∧ Sm (fun a => a = 219) h q.2 ∧ leads0 M cn dr st0 (k1, R1, d, s) ∧ RI q.2 M R1 k1 ∧ m = (if k1 < qn M ∧ kK M k1 = 21 then 1 + (qn M - k1) * 200 + (if kK M (lk M k1) = 20 then R1 (lk M k1) else 0) else 0)) ?_ ⟨k, R, rfl, hk, Sm.refl, l, ri, rfl⟩
  rintro X m ⟨x2, g⟩ ⟨k1, R1, e1, hk1, sm, l1, r1, em⟩ ih
  (try dsimp only at e1 sm r1)
  subst e1
  have e8 : g.I 198 = h.I 198 := sm.I (by decide)
  unfold F317_2
  (try dsimp only)
  rw [show ix 6 = 6 from rfl, e8, mp.1, p.1]
  by_cases q : k1 < qn M
  · rw [if_neg (nI_ge q (by omega)), show (5 : Int32) = nI 5 from rfl, pk_mul, show (124 : Int32) = nI 124 from rfl, nI_add, ix_n (by omega), mp.2 _ (by omega) (by omega)]
    refine ⟨inb_n (by omega), ?_⟩
    by_cases q21 : kK M k1 = 21
    · have q21' : M (124 + 5 * k1) = 21 := q21
      rw [if_neg (fun n => n q21')]
      obtain ⟨a1, a2, a3, a4, a5⟩ := p.2.2.2.2.2.2.2.2.1 k1 q q21
      have eL : h.I 198 (124 + 5 * k1 + 3) = nI (lk M k1) := by rw [mp.2 _ (by omega) (by omega)]; exact a4
      rw [show (3 : Int32) = nI 3 from rfl, nI_add, ix_n (by omega), eL, pk_mul, nI_add, ix_n (j := 124 + 5 * lk M k1) (by omega), mp.2 (124 + 5 * lk M k1) (by omega) (by omega), ix_n (j := lk M k1) (by omega)]
      refine ⟨inb_n (by omega), inb_n (by omega), ?_⟩
      have co : cont M k1 (lk M k1) := ⟨a1, by omega, a2, by rw [a5]; omega⟩
      rw [if_pos ⟨q, q21⟩] at em
      have fwd : ¬ again1 M R1 k1 → B317_72 (nI k1) (nI (lk M k1)) g C X := by
        intro na
        unfold B317_72 B317_73
        rw [ix_n (by omega), if_pos rfl]
        refine ⟨inb_n (by omega), ?_⟩
        unfold B317_92
        rw [ix_n (by omega), if_pos rfl, nI_1]
        refine ⟨inb_n (by omega), ?_⟩
        have lc := l0_close l1 q q21
        have e1 : clK M R1 k1 = k1 + 1 := by unfold clK; rw [if_neg na]
        have e2 : clR M R1 k1 = R1 := by unfold clR; rw [if_neg na]
        rw [e1, e2] at lc
        have same : ∀ j, (g.sI 219 (lk M k1) ((g.I 219 (lk M k1)) - 0)).I 219 j = g.I 219 j := fun j => by
          rw [I_at]
          by_cases u : j = lk M k1
          · rw [if_pos u, u]; exact Int32.sub_zero _
          · rw [if_neg u]
        have rn : RI (g.sI 219 (lk M k1) ((g.I 219 (lk M k1)) - 0)) M R1 (k1 + 1) := fun o c o20 => by
          rw [same]
          refine r1 o ⟨?_, c.2.1, c.2.2.1, by have := c.2.2.2; omega⟩ o20
          have := c.1
          have ne : o ≠ k1 := fun u => by rw [u] at o20; rw [q21] at o20; exact absurd o20 (by decide)
          omega
        refine ih _ _ ?_ ⟨k1 + 1, R1, rfl, by omega, Sm.sI (S := fun a => a = 219) sm rfl _, lc, rn, rfl⟩
        rw [em]
        split
        · rename_i v
          obtain ⟨b1, b2, b3, b4, b5⟩ := p.2.2.2.2.2.2.2.2.1 (k1 + 1) v.1 v.2
          have le : (if kK M (lk M (k1 + 1)) = 20 then R1 (lk M (k1 + 1)) else 0) ≤ 98 := by
            split
            · rename_i w
              exact (r1 (lk M (k1 + 1)) ⟨by
                have ne : lk M (k1 + 1) ≠ k1 := fun u => opn_21 q21 (u ▸ b2)
                omega, by omega, b2, by rw [b5]; omega⟩ w).2
            · omega
          have : (qn M - k1) * 200 = (qn M - (k1 + 1)) * 200 + 200 := by omega
          omega
        · omega
      by_cases q20 : kK M (lk M k1) = 20
      · have q20' : M (124 + 5 * lk M k1) = 20 := q20
        rw [if_neg (fun n => n q20')]
        obtain ⟨c1, c2⟩ := r1 _ co q20
        rw [c1]
        refine ⟨inb_n (by omega), ?_⟩
        by_cases q0 : 0 < R1 (lk M k1)
        · rw [if_neg (nI_nle q0 (by omega))]
          unfold B317_73
          rw [ix_n (by omega), if_neg (by decide)]
          refine ⟨inb_n (by omega), ?_⟩
          unfold B317_92
          obtain ⟨v, hv⟩ : ∃ v, R1 (lk M k1) = v + 1 := ⟨R1 (lk M k1) - 1, by omega⟩
          rw [ix_n (by omega), if_neg (by decide), c1, hv, nI_pred, nI_1]
          refine ⟨inb_n (by omega), ?_⟩
          have na : again1 M R1 k1 := ⟨q20, q0⟩
          have lc := l0_close l1 q q21
          have e1 : clK M R1 k1 = lk M k1 + 1 := by unfold clK; rw [if_pos na]
          have e2 : clR M R1 k1 = updR R1 (lk M k1) v := by unfold clR; rw [if_pos na, hv]; rfl
          rw [e1, e2] at lc
          refine ih _ _ ?_ ⟨lk M k1 + 1, updR R1 (lk M k1) v, rfl, by omega, Sm.sI (S := fun a => a = 219) sm rfl _, lc, fun o c o20 => ?_, rfl⟩
          · rw [em, if_pos q20]
            split
            · rename_i w
              obtain ⟨b1, b2, b3, b4, b5⟩ := p.2.2.2.2.2.2.2.2.1 (lk M k1 + 1) w.1 w.2
              -- an empty LOOP
              have ek : lk M k1 + 1 = k1 := by
                rcases Nat.eq_or_lt_of_le (show lk M (lk M k1 + 1) ≤ lk M k1 by omega) with u | u
                · rw [u] at b5; omega
                · rcases p.2.2.2.2.2.2.2.2.2.1 (lk M (lk M k1 + 1)) (lk M k1) u (by omega) b2 a2 (by simp) with y | y
                  · omega
                  · omega
              rw [ek, if_pos q20]
              show 1 + (qn M - k1) * 200 + updR R1 (lk M k1) v (lk M k1) < _
              unfold updR
              rw [if_pos rfl, hv]; omega
            · omega
          · have := r1 o (cont_end p q q21 c) o20
            rw [I_at]
            unfold updR
            by_cases u : o = lk M k1
            · rw [if_pos u, if_pos u]; exact ⟨rfl, by omega⟩
            · rw [if_neg u, if_neg u]; exact this
        · have z : R1 (lk M k1) = 0 := by omega
          rw [z, if_pos (by decide)]
          exact fwd (fun w => q0 w.2)
      · have q20' : ¬ M (124 + 5 * lk M k1) = 20 := q20
        rw [if_pos q20']
        exact fwd (fun w => q20 w.1)
    · have q21' : ¬ M (124 + 5 * k1) = 21 := q21
      rw [if_pos q21']
      exact kk g k1 R1 sm l1 r1 hk1 (fun u => q21 u.2)
  · rw [if_pos (nI_le (by omega) (by omega))]
    exact kk g k1 R1 sm l1 r1 hk1 (fun u => q u.1)
end MRN
