/-! MOVES: to MAKE, to POUR, as numbers (-1: it can't be) -/
def mkT (M : Nat → Int32) (s : Int32) (d : Nat) : Int32 := (s ||| gP M d) &&& ((nP M d &&& oS M) ^^^ (-1))
abbrev mkC (M : Nat → Int32) (big : Nat → Nat) (s : Int32) (d : Nat) : Prop := s &&& gP M d = 0 ∧ nP M d &&& (s ^^^ (-1)) = 0 ∧ fitB M big (s ||| gP M d) = true
def poW (s : Int32) (d o : Nat) : Int32 := (s &&& (ishl 1 (nI o) ^^^ (-1))) ||| ishl 1 (nI d)
def poT (M : Nat → Int32) (s : Int32) (d o : Nat) : Int32 := poW s d o &&& ((aNe M d &&& oS M) ^^^ (-1))
abbrev poC (M : Nat → Int32) (big : Nat → Nat) (s made : Int32) (d o : Nat) : Prop := aPo M d = 1 ∧ aPa M d = (-1) ∧ bt s d = false ∧ aNe M d &&& (s ^^^ (-1)) = 0 ∧ bt (aNe M d) o = true ∧ bt made o = true ∧ fitB M big (poW s d o) = true
section MV
variable {h : TH} {M : Nat → Int32} {C : Int32 → Prop} {s made : Int32} {big : Nat → Nat} {d o : Nat}
theorem mkT_St (hw : Wf M) (hs : St (aN M) s) (hd : d < aN M) : St (aN M) (mkT M s d) := by
  have h12 := hw.n12
  exact St_and _ (St_or hs (hw.gS hd))
theorem poW_St (hw : Wf M) (hs : St (aN M) s) (hd : d < aN M) : St (aN M) (poW s d o) := by
  have h12 := hw.n12
  exact St_or (St_and _ hs) (St_bit hd)
theorem poT_St (hw : Wf M) (hs : St (aN M) s) (hd : d < aN M) : St (aN M) (poT M s d o) := by
  have h12 := hw.n12
  exact St_and _ (poW_St hw hs hd)
theorem S267 (hw : Wf M) (hM : MA h M) (hf : MFit h M big) (hs : St (aN M) s) {x : Int32} (hx : x = nI d) (hd : d < aN M) (kt : mkC M big s d → C (mkT M s d)) (kf : ¬ mkC M big s d → C (-1)) : W267 s x h C := by
  have h12 := hw.n12
  unfold W267
  refine S253 d hM hx (by omega) ?_
  refine S254 hw d hM hx hd ?_
  by_cases e1 : s &&& gP M d = 0
  · rw [if_neg (fun q => q e1)]
    by_cases e2 : nP M d &&& (s ^^^ (-1)) = 0
    · rw [if_neg (fun q => q e2)]
      refine S262 hw hM hf (St_or hs (hw.gS hd)) (fun q => ?_) (fun q => ?_)
      · rw [if_pos (by decide)]
        refine S256 hw hM (hw.nS hd) ?_
        exact kt ⟨e1, e2, q⟩
      · rw [if_neg (by decide)]
        exact kf (fun z => by rw [z.2.2] at q; exact absurd q (by decide))
    · rw [if_pos e2]; exact kf (fun z => e2 z.2.1)
  · rw [if_pos e1]; exact kf (fun z => e1 z.1)
theorem S268 (hw : Wf M) (hM : MA h M) (hf : MFit h M big) (hs : St (aN M) s) (hm : St (aN M) made) {x y : Int32} (hx : x = nI d) (hy : y = nI o) (hd : d < aN M) (ho : o < 32) (kt : poC M big s made d o → C (poT M s d o)) (kf : ¬ poC M big s made d o → C (-1)) : W268 s made x y h C := by
  have h12 := hw.n12
  unfold W268
  refine S251 d 4 hM hx rfl (by omega) (by omega) ?_
  refine S251 d 5 hM hx rfl (by omega) (by omega) ?_
  have hpo : aPo M d = 0 ∨ aPo M d = 1 := (hw.D hd).2.2.2.2.2.1
  by_cases e1 : M (16 + 8 * d + 5) = 0
  · rw [if_pos e1]
    exact kf (fun z => by have := z.1; unfold aPo at this; rw [e1] at this; exact absurd this (by decide))
  · rw [if_neg e1]
    have e1' : aPo M d = 1 := hpo.resolve_left e1
    refine S252 d hM hx (by omega) ?_
    by_cases e2 : aPa M d = (-1)
    · rw [if_neg (fun q => q e2)]
      refine S250 d hx hs (by omega) (by omega) (fun q => ?_) (fun e3 => ?_)
      · rw [if_pos (by decide)]
        exact kf (fun z => by rw [z.2.2.1] at q; exact absurd q (by decide))
      · rw [if_neg (by decide)]
        by_cases e4 : M (16 + 8 * d + 4) &&& (s ^^^ (-1)) = 0
        · rw [if_neg (fun q => q e4)]
          refine S250 o hy (hw.neN hd) ho (by omega) (fun e5 => ?_) (fun q => ?_)
          · rw [if_neg (by decide)]
            refine S250 o hy hm ho (by omega) (fun e6 => ?_) (fun q => ?_)
            · rw [if_pos (by decide)]
              subst hx hy
              refine S262 hw hM hf (poW_St hw hs hd) (fun e7 => ?_) (fun q => ?_)
              · rw [if_neg (by decide)]
                refine S256 hw hM (hw.neN hd) ?_
                exact kt ⟨e1', e2, e3, e4, e5, e6, e7⟩
              · rw [if_pos rfl]
                exact kf (fun z => absurd (z.2.2.2.2.2.2.symm.trans q) (by decide))
            · rw [if_neg (by decide)]
              exact kf (fun z => by rw [z.2.2.2.2.2.1] at q; exact absurd q (by decide))
          · rw [if_pos rfl]
            exact kf (fun z => absurd (z.2.2.2.2.1.symm.trans q) (by decide))
        · rw [if_pos e4]; exact kf (fun z => e4 z.2.2.2.1)
    · rw [if_pos e2]; exact kf (fun z => e2 z.2.1)
end MV
