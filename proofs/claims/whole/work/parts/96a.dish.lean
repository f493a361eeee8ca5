/-! WHAT IS TOLD OF A DISH, OF A POT -/
section DSH
variable {h : TH} {M : Nat → Int32} {t : Nat}
theorem S64 {C : Int32 → TH → Prop} {x y : Int32} {d f : Nat} (hw : Wf M) (hr : CMr h t M) (ht : t + 15 ≤ h.n) (hx : x = nI d) (hd : d < aN M) (hy : y = nI f) (hf : f ≤ 8) (hn : h.n < 1000000) (k : f < 8 → C (M (16 + 8 * d + f)) h) (k8 : f = 8 → ∀ g l, Gr (fun _ => False) h g → g.n = h.n + 1 → g.sl = h.sl + 12 → isLay M d l → l ≤ 12 → C (nI l) g) : W64 t x y h C := by
  have h12 := hw.n12
  have hx0 := hx
  subst hx hy
  have row := hr.row hd
  have ne : ∀ u : Nat, u < 9 → u ≠ f → ¬ nI f = nI u := fun u hu w q => w ((nI_eq (by omega) (by omega)).mp q).symm
  unfold W64
  rw [ix_n (j := d) (by omega)]
  rcases (show f = 0 ∨ f = 1 ∨ f = 2 ∨ f = 3 ∨ f = 4 ∨ f = 5 ∨ f = 6 ∨ f = 7 ∨ f = 8 by omega) with rfl | rfl | rfl | rfl | rfl | rfl | rfl | rfl | rfl
  · rw [if_pos (show nI 0 = 0 from rfl), row.1]
    exact ⟨inb_n (by omega), k (by omega)⟩
  · rw [if_neg (show ¬ nI 1 = 0 from ne 0 (by omega) (by omega)), if_pos (show nI 1 = 1 from rfl), row.2.1]
    exact ⟨inb_n (by omega), k (by omega)⟩
  · rw [if_neg (show ¬ nI 2 = 0 from ne 0 (by omega) (by omega)), if_neg (show ¬ nI 2 = 1 from ne 1 (by omega) (by omega)), if_pos (show nI 2 = 2 from rfl), row.2.2.1]
    exact ⟨inb_n (by omega), k (by omega)⟩
  · rw [if_neg (show ¬ nI 3 = 0 from ne 0 (by omega) (by omega)), if_neg (show ¬ nI 3 = 1 from ne 1 (by omega) (by omega)), if_neg (show ¬ nI 3 = 2 from ne 2 (by omega) (by omega)), if_pos (show nI 3 = 3 from rfl), row.2.2.2.1]
    exact ⟨inb_n (by omega), k (by omega)⟩
  · rw [if_neg (show ¬ nI 4 = 0 from ne 0 (by omega) (by omega)), if_neg (show ¬ nI 4 = 1 from ne 1 (by omega) (by omega)), if_neg (show ¬ nI 4 = 2 from ne 2 (by omega) (by omega)), if_neg (show ¬ nI 4 = 3 from ne 3 (by omega) (by omega)), if_pos (show nI 4 = 4 from rfl), row.2.2.2.2.1]
    exact ⟨inb_n (by omega), k (by omega)⟩
  · rw [if_neg (show ¬ nI 5 = 0 from ne 0 (by omega) (by omega)), if_neg (show ¬ nI 5 = 1 from ne 1 (by omega) (by omega)), if_neg (show ¬ nI 5 = 2 from ne 2 (by omega) (by omega)), if_neg (show ¬ nI 5 = 3 from ne 3 (by omega) (by omega)), if_neg (show ¬ nI 5 = 4 from ne 4 (by omega) (by omega)), if_pos (show nI 5 = 5 from rfl), hr.po]
    have e := bt_setOf (fun d => decide (aPo M d = 1)) (aN M) (by omega) d
    have hb := has_bt (s := pS M) (d := d) (St_setOf _ (by omega) : St (aN M) (pS M)) (by omega)
    rw [hb]
    have := k (by omega)
    rcases (hw.D hd).2.2.2.2.2.1 with q | q
    · rw [show bt (pS M) d = false by unfold pS; rw [e, q]; simp]
      have q' : M (16 + 8 * d + 5) = 0 := q
      rw [q'] at this; exact this
    · rw [show bt (pS M) d = true by unfold pS; rw [e, q]; simp [hd]]
      have q' : M (16 + 8 * d + 5) = 1 := q
      rw [q'] at this; exact this
  · rw [if_neg (show ¬ nI 6 = 0 from ne 0 (by omega) (by omega)), if_neg (show ¬ nI 6 = 1 from ne 1 (by omega) (by omega)), if_neg (show ¬ nI 6 = 2 from ne 2 (by omega) (by omega)), if_neg (show ¬ nI 6 = 3 from ne 3 (by omega) (by omega)), if_neg (show ¬ nI 6 = 4 from ne 4 (by omega) (by omega)), if_neg (show ¬ nI 6 = 5 from ne 5 (by omega) (by omega)), if_pos (show nI 6 = 6 from rfl), hr.on]
    have e := bt_setOf (fun d => decide (aOn M d = 1)) (aN M) (by omega) d
    have hb := has_bt (s := oS M) (d := d) (St_setOf _ (by omega) : St (aN M) (oS M)) (by omega)
    rw [hb]
    have := k (by omega)
    rcases (hw.D hd).2.2.2.2.2.2.1 with q | q
    · rw [show bt (oS M) d = false by unfold oS; rw [e, q]; simp]
      have q' : M (16 + 8 * d + 6) = 0 := q
      rw [q'] at this; exact this
    · rw [show bt (oS M) d = true by unfold oS; rw [e, q]; simp [hd]]
      have q' : M (16 + 8 * d + 6) = 1 := q
      rw [q'] at this; exact this
  · rw [if_neg (show ¬ nI 7 = 0 from ne 0 (by omega) (by omega)), if_neg (show ¬ nI 7 = 1 from ne 1 (by omega) (by omega)), if_neg (show ¬ nI 7 = 2 from ne 2 (by omega) (by omega)), if_neg (show ¬ nI 7 = 3 from ne 3 (by omega) (by omega)), if_neg (show ¬ nI 7 = 4 from ne 4 (by omega) (by omega)), if_neg (show ¬ nI 7 = 5 from ne 5 (by omega) (by omega)), if_neg (show ¬ nI 7 = 6 from ne 6 (by omega) (by omega)), if_pos (show nI 7 = 7 from rfl), row.2.2.2.2.2]
    exact ⟨inb_n (by omega), k (by omega)⟩
  · rw [if_neg (show ¬ nI 8 = 0 from ne 0 (by omega) (by omega)), if_neg (show ¬ nI 8 = 1 from ne 1 (by omega) (by omega)), if_neg (show ¬ nI 8 = 2 from ne 2 (by omega) (by omega)), if_neg (show ¬ nI 8 = 3 from ne 3 (by omega) (by omega)), if_neg (show ¬ nI 8 = 4 from ne 4 (by omega) (by omega)), if_neg (show ¬ nI 8 = 5 from ne 5 (by omega) (by omega)), if_neg (show ¬ nI 8 = 6 from ne 6 (by omega) (by omega)), if_neg (show ¬ nI 8 = 7 from ne 7 (by omega) (by omega))]
    exact S65 hw hr ht rfl hd hn (fun g l w1 w2 w3 w4 w5 => k8 rfl g l w1 w2 w3 w4 w5)
end DSH
