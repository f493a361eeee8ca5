/-! THE CLASS'S CALLS cook, cooked, judged -/
def PlC (h : TH) (i : Nat) (M : Nat → Int32) (cn : Nat) : Prop := h.I (58 + 24 * i) 0 = 1 ∧ h.I (58 + 24 * i) 1 = nI cn ∧ PI M (aN M) cn [] ∧ CPl h (58 + 24 * i) M cn []
def inCk (i t a : Nat) : Prop := a = 58 + 24 * i ∨ a = 58 + 24 * i + 5 ∨ a = 58 + 24 * i + 6 ∨ a = t ∨ a = t + 1
section CCA
variable {h : TH} {M : Nat → Int32} {i cn : Nat} {x : Int32}
theorem PlC_fr {g : TH} {t : Nat} (p : PlC h i M cn) (sm : Sm (inCk i t) h g) (fo : ∀ j, j ≠ 8 → j ≠ 9 → g.I (58 + 24 * i) j = h.I (58 + 24 * i) j) (ht : 193 ≤ t) (hi : i < 4) : PlC g i M cn :=
  ⟨by rw [fo 0 (by decide) (by decide)]; exact p.1, by rw [fo 1 (by decide) (by decide)]; exact p.2.1, p.2.2.1, CPl_fr p.2.2.2 (fun a a1 a2 => sm.I (by unfold inCk; omega))⟩
theorem S186 {C : Int32 → TH → Prop} (hw : Wf M) (hi : i < 4) (cur : h.I 0 10 = nI i) (hc : CM h (43 + 24 * i) M) (hp : h.I (58 + 24 * i) 0 = 0 ∨ PlC h i M cn) (kb : (x < -1 ∨ ¬ x ≤ 9999) → C (-1) (h.sI 0 0 1)) (kn : h.I (58 + 24 * i) 0 = 0 → C (-1) (h.sI 0 0 6)) (kt : PlC h i M cn → ∀ g s, (∃ F, prun M cn (drF x) F (st00 x) = some s) → Sm (fun a => a = 0 ∨ inCk i 193 a) h g → (∀ j, j ≠ 8 → j ≠ 9 → g.I (58 + 24 * i) j = h.I (58 + 24 * i) j) → CKc g 193 M (drF x) s → g.I 0 19 = 1 → g.I 0 0 = 0 → (∀ j, j ≠ 0 → j ≠ 19 → g.I 0 j = h.I 0 j) → C (ckS s) g) : W186 x h C := by
  unfold W186 W194
  by_cases q : x < -1
  · rw [if_pos q]; exact kb (Or.inl q)
  · rw [if_neg q]
    by_cases q2 : x ≤ 9999
    · rw [if_pos q2, cur, ix_n (by omega)]
      refine ⟨inb_n hi, ?_⟩
      rcases hp with p | p
      · rw [if_neg (fun n => n p)]; exact kn p
      · rw [if_pos (show ¬ h.I (58 + 24 * i) 0 = 0 by rw [p.1]; decide)]
        refine ⟨inb_n hi, W192_i hi cur ?_⟩
        refine S91 (x := x) hw p.2.2.1 hc (fun a a1 a2 => by omega) (by omega) (by omega) p.2.2.2 p.2.1 (fun g s hs sm fo ck => ?_)
        unfold W193
        rw [I_ne (by decide), ck.1]
        refine kt p _ s hs (Sm.sI (S := fun a => a = 0 ∨ inCk i 193 a) (Sm.sI (S := fun a => a = 0 ∨ inCk i 193 a) (sm.mono (fun a ha => Or.inr ha)) (Or.inl rfl) _) (Or.inl rfl) _) (fun j j8 j9 => by rw [I_ne (by omega), I_ne (by omega)]; exact fo j j8 j9) (CKc_fr ck (by funext j; rw [I_ne (by decide), I_ne (by decide)]) (by funext j; rw [I_ne (by decide), I_ne (by decide)])) (by rw [I_nk (by decide), I_eq]) I_eq (fun j j0 j19 => by rw [I_nk j0, I_nk j19, sm.I (by omega)])
    · rw [if_neg q2]; exact kb (Or.inr q2)
theorem S188 {C : Int32 → TH → Prop} (hw : Wf M) (hi : i < 4) (cur : h.I 0 10 = nI i) (hc : CM h (43 + 24 * i) M) (hp : h.I (58 + 24 * i) 0 = 0 ∨ PlC h i M cn) (kn : h.I (58 + 24 * i) 0 = 0 → C (-1) (h.sI 0 0 6)) (kt : PlC h i M cn → ∀ g s, (∃ F, prun M cn (drF (-1)) F (st00 (-1)) = some s) → Sm (inCk i 195) h g → (∀ j, j ≠ 8 → j ≠ 9 → g.I (58 + 24 * i) j = h.I (58 + 24 * i) j) → CKc g 195 M (drF (-1)) s → W195 (ckF s) g C) : W188 h C := by
  unfold W188 W194
  rw [cur, ix_n (by omega)]
  refine ⟨inb_n hi, ?_⟩
  rcases hp with p | p
  · rw [if_neg (fun n => n p)]; exact kn p
  · rw [if_pos (show ¬ h.I (58 + 24 * i) 0 = 0 by rw [p.1]; decide)]
    refine ⟨inb_n hi, W192_i hi cur ?_⟩
    refine S91 (x := -1) hw p.2.2.1 hc (fun a a1 a2 => by omega) (by omega) (by omega) p.2.2.2 p.2.1 (fun g s hs sm fo ck => ?_)
    rw [ck.2.2.2.2.2.1]
    exact kt p g s hs sm fo ck
/-- what is told of what was COOKED -/
def ckT (s : CK) (j : Nat) : Int32 := if j = 0 then ckW s else if j = 1 then nI (ckK s) else if j = 2 then ckM s else if j = 3 then ckO s else if j = 4 then ckU s else if j = 5 then ckB s else ckP s
theorem S29 {C : Int32 → Prop} {s : CK} {dr : Int32} {t j : Nat} (hj : j ≤ 6) (ck : CKc h t M dr s) (k : C (ckT s j)) : W29 t (nI j) h C := by
  obtain ⟨k0, k1, k3, k4, k5, k6, k7, k8, k9, k10, k11, _⟩ := ck
  unfold W29
  unfold ckT at k
  rcases (show j = 0 ∨ j = 1 ∨ j = 2 ∨ j = 3 ∨ j = 4 ∨ j = 5 ∨ j = 6 by omega) with rfl | rfl | rfl | rfl | rfl | rfl | rfl
  · rw [if_pos (show nI 0 = 0 from rfl), k3]; exact k
  · rw [if_neg (show ¬ nI 1 = 0 by decide), if_pos (show nI 1 = 1 from rfl), k4]; exact k
  · rw [if_neg (show ¬ nI 2 = 0 by decide), if_neg (show ¬ nI 2 = 1 by decide), if_pos (show nI 2 = 2 from rfl), k5]; exact k
  · rw [if_neg (show ¬ nI 3 = 0 by decide), if_neg (show ¬ nI 3 = 1 by decide), if_neg (show ¬ nI 3 = 2 by decide), if_pos (show nI 3 = 3 from rfl), k7]; exact k
  · rw [if_neg (show ¬ nI 4 = 0 by decide), if_neg (show ¬ nI 4 = 1 by decide), if_neg (show ¬ nI 4 = 2 by decide), if_neg (show ¬ nI 4 = 3 by decide), if_pos (show nI 4 = 4 from rfl), k1]; exact k
  · rw [if_neg (show ¬ nI 5 = 0 by decide), if_neg (show ¬ nI 5 = 1 by decide), if_neg (show ¬ nI 5 = 2 by decide), if_neg (show ¬ nI 5 = 3 by decide), if_neg (show ¬ nI 5 = 4 by decide), if_pos (show nI 5 = 5 from rfl), k8]; exact k
  · rw [if_neg (show ¬ nI 6 = 0 by decide), if_neg (show ¬ nI 6 = 1 by decide), if_neg (show ¬ nI 6 = 2 by decide), if_neg (show ¬ nI 6 = 3 by decide), if_neg (show ¬ nI 6 = 4 by decide), if_neg (show ¬ nI 6 = 5 by decide), k9]; exact k
end CCA
