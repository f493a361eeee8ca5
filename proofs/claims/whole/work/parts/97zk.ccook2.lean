/-! COOKING: the class begins with an empty HAND -/
section CC2
variable {h : TH} {M : Nat → Int32} {cn tp th tm : Nat}
theorem S91 {C : TH → Prop} {x : Int32} (hw : Wf M) (p : PI M (aN M) cn []) (hc : CM h tm M) (hdis : ∀ a, tm ≤ a → a < tm + 15 → a ≠ th ∧ a ≠ th + 1) (hpt : tp + 7 ≤ th ∨ th + 1 < tp) (hpm : tm + 15 ≤ tp ∨ tp + 7 ≤ tm) (cp : CPl h tp M cn []) (e1 : h.I tp 1 = nI cn) (kk : ∀ g s, (∃ F, prun M cn (drF x) F (st00 x) = some s) → Sm (fun a => a = tp ∨ a = tp + 5 ∨ a = tp + 6 ∨ a = th ∨ a = th + 1) h g → (∀ j, j ≠ 8 → j ≠ 9 → g.I tp j = h.I tp j) → CKc g th M (drF x) s → C g) : W91 tp tm th x h C := by
  unfold W91 W16
  refine S14 (fun g sm z z6 zo => ?_)
  have go : ∀ v : Int32, v = drF x → B91_21 tp tm th 0 0 ((((g.sI th 10 v).sI th 11 x).sI tp 8 0).sI tp 9 0) C := by
    intro v hv
    have sH : Sm (fun a => a = tp ∨ a = th) h ((((g.sI th 10 v).sI th 11 x).sI tp 8 0).sI tp 9 0) := Sm.sI (S := fun a => a = tp ∨ a = th) (Sm.sI (S := fun a => a = tp ∨ a = th) (Sm.sI (S := fun a => a = tp ∨ a = th) (Sm.sI (S := fun a => a = tp ∨ a = th) (sm.mono (fun a ha => Or.inr ha)) (Or.inr rfl) _) (Or.inr rfl) _) (Or.inl rfl) _) (Or.inl rfl) _
    have ht : ∀ j, ((((g.sI th 10 v).sI th 11 x).sI tp 8 0).sI tp 9 0).I th j = if j = 11 then x else if j = 10 then v else g.I th j := fun j => by rw [I_ne (by omega), I_ne (by omega), I_at, I_at]
    have hp : ∀ j, ((((g.sI th 10 v).sI th 11 x).sI tp 8 0).sI tp 9 0).I tp j = if j = 9 then 0 else if j = 8 then 0 else h.I tp j := fun j => by rw [I_at, I_at, I_ne (by omega), I_ne (by omega), sm.I (by omega)]
    generalize (((g.sI th 10 v).sI th 11 x).sI tp 8 0).sI tp 9 0 = H at sH ht hp ⊢
    refine S91l (dr := drF x) (x := x) hw p (hc.frame (fun a a1 a2 => sH.I (by have := hdis a a1 a2; omega))) hdis hpt hpm (CPl_fr cp (fun a a1 a2 => sH.I (by omega))) (by rw [hp]; exact e1) (by rw [hp]; rfl) (by rw [hp]; rfl) ⟨?_, ?_, ?_, ?_, ?_, ?_, ?_, ?_, ?_, ?_, ?_, ?_⟩ (fun g2 s hs sm2 fo2 ck => ?_)
    · rw [ht]; exact z 0 (by decide) (by decide) (by decide)
    · rw [ht]; exact z 1 (by decide) (by decide) (by decide)
    · rw [ht]; exact z 3 (by decide) (by decide) (by decide)
    · rw [ht]; exact z 4 (by decide) (by decide) (by decide)
    · rw [ht]; exact z 5 (by decide) (by decide) (by decide)
    · rw [ht]; exact z6
    · rw [ht]; exact z 7 (by decide) (by decide) (by decide)
    · rw [ht]; exact z 8 (by decide) (by decide) (by decide)
    · rw [ht]; exact z 9 (by decide) (by decide) (by decide)
    · rw [ht]; exact hv
    · rw [ht]; rfl
    · intro d _ u
      have u' : bt (0 : Int32) d = true := u
      rw [bt_0] at u'; exact absurd u' (by decide)
    · exact kk g2 s hs ((sH.mono (fun a ha => by omega)).trans sm2) (fun j j8 j9 => by rw [fo2 j j8 j9, hp, if_neg j9, if_neg j8]) ck
  by_cases q : x = (-1)
  · rw [if_pos q]
    exact go 0 (by unfold drF; rw [if_pos q])
  · rw [if_neg q]
    exact go 1 (by unfold drF; rw [if_neg q])
end CC2
