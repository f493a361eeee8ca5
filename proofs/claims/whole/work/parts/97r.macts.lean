/-! HANDS: the reference's acts -/
def RAo (h g : TH) : Prop := Sm (fun a => a = 197 ∨ a = 198 ∨ a = 206) h g ∧ (∀ j, j ≠ 25 → g.I 197 j = h.I 197 j) ∧ ∀ j, j ≠ 2 → j ≠ 3 → (j < 112 ∨ 124 ≤ j) → g.I 198 j = h.I 198 j
section RAC
variable {h : TH} {M : Nat → Int32} {S U : Int32} {d o : Nat}
theorem RAo.refl : RAo h h := ⟨Sm.refl, fun _ _ => rfl, fun _ _ _ _ => rfl⟩
theorem RAo.trans {g g' : TH} (p : RAo h g) (q : RAo g g') : RAo h g' := ⟨p.1.trans q.1, fun j hj => by rw [q.2.1 j hj, p.2.1 j hj], fun j a b c => by rw [q.2.2 j a b c, p.2.2 j a b c]⟩
theorem RAo.ma {g : TH} (p : RAo h g) (hM : MA h M) : MA g M := fun k hk => by rw [p.2.2 k (by omega) (by omega) (by omega)]; exact hM k hk
theorem bigK_20 (hw : Wf M) : ∀ z, z < 10 → bigK M 0 z ≤ 20 := fun z _ => by
  unfold bigK
  have h1 : fb_ct (fun k => decide (z ≤ ix (M (8 + k)))) (aP M) ≤ aP M := fb_ct_le _ _
  have h2 : aP M ≤ 8 := hw.2.2.2.1
  split <;> omega
/-- the fits are laid -/
theorem S261h {C : TH → Prop} (hw : Wf M) (hM : MA h M) (k : ∀ g, RAo h g → g.I 198 = h.I 198 → MFit g M (bigK M 0) → C g) : W261 0 (-1) h C :=
  S261 hw hM 0 rfl (by omega) (fun g sm e197 mb => k g ⟨sm.mono (fun a ha => by unfold in206 at ha; omega), fun j hj => by rw [e197, I_nk hj], fun j _ _ _ => by rw [sm.I (by unfold in206; omega)]⟩ (sm.I (by unfold in206; omega)) ⟨bigK_20 hw, Or.inl ⟨by rw [e197, I_eq], mb⟩⟩)
theorem S270 {C : TH → Prop} {v w : Int32} (hw : Wf M) (hM : MA h M) (hU : h.I 198 3 = U) (sw : St (aN M) w) (k : ∀ g, Sm (fun a => a = 198) h g → g.I 198 2 = v → g.I 198 3 = U &&& v → (∀ d, d < 12 → g.I 198 (112 + d) = if d < aN M ∧ bt w d = true then aKp M d else h.I 198 (112 + d)) → (∀ j, j ≠ 2 → j ≠ 3 → (j < 112 ∨ 124 ≤ j) → g.I 198 j = h.I 198 j) → C g) : W270 v w h C := by
  have h12 := hw.n12
  unfold W270 B270_2
  refine LFP.up (aN M) (fun (j : Nat) (q : Int32 × TH) => q.1 = nI j ∧ Sm (fun a => a = 198) h q.2 ∧ (∀ i, (i < 112 ∨ 124 ≤ i) → q.2.I 198 i = h.I 198 i) ∧ ∀ d, d < 12 → q.2.I 198 (112 + d) = if d < j ∧ bt w d = true then aKp M d else h.I 198 (112 + d)) ?_ ?_ (Nat.zero_le _) ⟨rfl, Sm.refl, fun _ _ => rfl, fun d _ => by rw [if_neg (by omega)]⟩
  · rintro X j ⟨x3, g⟩ hj ⟨e1, sm, ao, a⟩ ih
    (try dsimp only at e1 sm ao a)
    subst e1
    have hMg : MA g M := fun i hi => by rw [ao i (by omega)]; exact hM i hi
    unfold F270_2
    (try dsimp only)
    rw [show ix 0 = 0 from rfl, ao 0 (by omega), hM 0 (by omega), hw.eN, if_neg (nI_ge hj (by omega))]
    refine S250 j rfl sw (by omega) (by omega) (fun q => ?_) (fun q => ?_)
    · rw [if_neg (by decide)]
      refine S251 j 2 hMg rfl rfl (by omega) (by omega) ?_
      rw [show (112 : Int32) = nI 112 from rfl, nI_add, ix_n (by omega), nI_1]
      refine ⟨inb_n (by omega), ih _ ⟨rfl, Sm.sI (S := fun a => a = 198) sm rfl _, fun i hi => by rw [I_nk (by omega)]; exact ao i hi, fun e he => ?_⟩⟩
      (try dsimp only)
      rw [I_at]
      by_cases y : e = j
      · rw [if_pos (by omega), y, if_pos ⟨by omega, q⟩]; rfl
      · rw [if_neg (by omega), a e he]
        by_cases y2 : e < j ∧ bt w e = true
        · rw [if_pos y2, if_pos ⟨by omega, y2.2⟩]
        · rw [if_neg y2, if_neg (fun u => y2 ⟨by omega, u.2⟩)]
    · rw [if_pos rfl, nI_1]
      refine ih _ ⟨rfl, sm, ao, fun e he => ?_⟩
      rw [a e he]
      by_cases y : e = j
      · rw [y, if_neg (by omega), if_neg (fun u => by rw [q] at u; exact absurd u.2 (by decide))]
      · by_cases y2 : e < j ∧ bt w e = true
        · rw [if_pos y2, if_pos ⟨by omega, y2.2⟩]
        · rw [if_neg y2, if_neg (fun u => y2 ⟨by omega, u.2⟩)]
  · rintro X ⟨x3, g⟩ ⟨e1, sm, ao, a⟩
    (try dsimp only at e1 sm ao a)
    subst e1
    unfold F270_2
    (try dsimp only)
    rw [show ix 0 = 0 from rfl, show ix 2 = 2 from rfl, show ix 3 = 3 from rfl, ao 0 (by omega), hM 0 (by omega), hw.eN, if_pos (nI_le (Nat.le_refl _) (by omega)), I_nk (by decide), ao 3 (by omega), hU]
    refine k _ (Sm.sI (S := fun a => a = 198) (Sm.sI (S := fun a => a = 198) sm rfl _) rfl _) (by rw [I_nk (by decide), I_eq]) I_eq (fun e he => ?_) (fun j j2 j3 hj => ?_)
    · rw [I_nk (by omega), I_nk (by omega)]; exact a e he
    · rw [I_nk j3, I_nk j2]; exact ao j hj
theorem S272 {C : Int32 → TH → Prop} (hw : Wf M) (hM : MA h M) (hS : h.I 198 2 = S) (hU : h.I 198 3 = U) (sS : St (aN M) S) (hd : d < aN M) (kt : mkC M (bigK M 0) S d → ∀ g, RAo h g → g.I 198 2 = mkT M S d → g.I 198 3 = U &&& mkT M S d → (∀ e, e < 12 → g.I 198 (112 + e) = if e < aN M ∧ bt (gP M d) e = true then aKp M e else h.I 198 (112 + e)) → C 1 g) (kf : ¬ mkC M (bigK M 0) S d → ∀ g, RAo h g → g.I 198 = h.I 198 → C 0 g) : W272 (nI d) h C := by
  have h12 := hw.n12
  unfold W272
  refine S261h hw hM (fun g ra e8 mf => ?_)
  have hMg := ra.ma hM
  rw [show ix 2 = 2 from rfl, e8, hS]
  refine S267 hw hMg mf sS rfl hd (fun q => ?_) (fun q => ?_)
  · rw [if_pos (show ¬ mkT M S d = (-1) from (St_and _ (St_or sS (hw.gS hd) (by omega)) (by omega) : St (aN M) (mkT M S d)).ne1 (by omega))]
    refine S253 d hMg rfl (by omega) ?_
    refine S270 (U := U) hw hMg (by rw [e8]; exact hU) (hw.gS hd) (fun g2 s2 a2 a3 aa ao => ?_)
    exact kt q g2 (ra.trans ⟨s2.mono (fun a ha => Or.inr (Or.inl ha)), fun j _ => by rw [s2.I (by decide)], ao⟩) a2 a3 (fun e he => by rw [aa e he, e8])
  · rw [if_neg (fun n => n rfl)]
    exact kf q g ra e8
theorem S273 {C : Int32 → TH → Prop} (hw : Wf M) (hM : MA h M) (hS : h.I 198 2 = S) (hU : h.I 198 3 = U) (sS : St (aN M) S) (hd : d < aN M) (ho : o < aN M) (kt : poC M (bigK M 0) S (S &&& (U ^^^ (-1))) d o → ∀ g, RAo h g → g.I 198 2 = poT M S d o → g.I 198 3 = U &&& poT M S d o → (∀ e, e < 12 → g.I 198 (112 + e) = if e = d then aKp M e else h.I 198 (112 + e)) → C 1 g) (kf : ¬ poC M (bigK M 0) S (S &&& (U ^^^ (-1))) d o → ∀ g, RAo h g → g.I 198 = h.I 198 → C 0 g) : W273 (nI d) (nI o) h C := by
  have h12 := hw.n12
  unfold W273
  refine S261h hw hM (fun g ra e8 mf => ?_)
  have hMg := ra.ma hM
  rw [show ix 2 = 2 from rfl, show ix 3 = 3 from rfl, e8, hS, hU]
  refine S268 hw hMg mf sS (St_and _ sS (by omega)) rfl rfl hd (by omega) (fun q => ?_) (fun q => ?_)
  · have sp : St (aN M) (poT M S d o) := St_and _ (St_or (St_and _ sS (by omega)) (St_bit hd (by omega)) (by omega)) (by omega)
    rw [if_pos (sp.ne1 (by omega))]
    refine S270 (U := U) hw hMg (by rw [e8]; exact hU) (St_bit hd (by omega)) (fun g2 s2 a2 a3 aa ao => ?_)
    refine kt q g2 (ra.trans ⟨s2.mono (fun a ha => Or.inr (Or.inl ha)), fun j _ => by rw [s2.I (by decide)], ao⟩) a2 a3 (fun e he => ?_)
    rw [aa e he, e8, bt_bit (by omega)]
    by_cases y : e = d
    · rw [if_pos y, if_pos ⟨by omega, by simp [y]⟩]
    · rw [if_neg y, if_neg (fun u => y (by simpa using u.2))]
  · rw [if_neg (fun n => n rfl)]
    exact kf q g ra e8
theorem S274 {C : Int32 → TH → Prop} (hw : Wf M) (hS : h.I 198 2 = S) (hU : h.I 198 3 = U) (sS : St (aN M) S) (hd : d < aN M) (kt : bt (S &&& (U ^^^ (-1))) d = true → ∀ g, RAo h g → g.I 198 2 = nob S d → g.I 198 3 = U → (∀ e, e < 12 → g.I 198 (112 + e) = h.I 198 (112 + e)) → C 1 g) (kf : bt (S &&& (U ^^^ (-1))) d = false → C 0 h) : W274 (nI d) h C := by
  have h12 := hw.n12
  unfold W274
  rw [show ix 2 = 2 from rfl, show ix 3 = 3 from rfl, hS, hU]
  refine S250 d rfl (St_and _ sS (by omega) : St (aN M) (S &&& (U ^^^ (-1)))) (by omega) (by omega) (fun q => ?_) (fun q => ?_)
  · rw [if_pos (by decide)]
    exact kt q _ ⟨Sm.sI (S := fun a => a = 197 ∨ a = 198 ∨ a = 206) Sm.refl (Or.inr (Or.inl rfl)) _, fun j _ => I_ne (by decide), fun j j2 _ _ => I_nk j2⟩ I_eq (by rw [I_nk (by decide)]; exact hU) (fun e he => I_nk (by omega))
  · rw [if_neg (by decide)]; exact kf q
theorem S275 {C : Int32 → TH → Prop} (hw : Wf M) (hM : MA h M) (hS : h.I 198 2 = S) (hU : h.I 198 3 = U) (sS : St (aN M) S) (hd : d < aN M) (kt : bt S d = false → fitB M (bigK M 0) (S ||| ishl 1 (nI d)) = true → ∀ g, RAo h g → g.I 198 2 = S ||| ishl 1 (nI d) → g.I 198 3 = U ||| ishl 1 (nI d) → (∀ e, e < 12 → g.I 198 (112 + e) = h.I 198 (112 + e)) → C 1 g) (kf : ¬ (bt S d = false ∧ fitB M (bigK M 0) (S ||| ishl 1 (nI d)) = true) → ∀ g, RAo h g → g.I 198 = h.I 198 → C 0 g) : W275 (nI d) h C := by
  have h12 := hw.n12
  unfold W275
  refine S261h hw hM (fun g ra e8 mf => ?_)
  have hMg := ra.ma hM
  rw [show ix 2 = 2 from rfl, show ix 3 = 3 from rfl, e8, hS]
  refine S250 d rfl sS (by omega) (by omega) (fun q => ?_) (fun q => ?_)
  · rw [if_pos (by decide)]
    exact kf (fun w => by rw [q] at w; exact absurd w.1 (by decide)) g ra e8
  · rw [if_neg (by decide)]
    refine S262 (big := bigK M 0) hw hMg mf (St_or sS (St_bit hd (by omega)) (by omega)) (fun q2 => ?_) (fun q2 => ?_)
    · rw [if_pos (by decide), I_nk (by decide), e8, hU]
      refine kt q q2 _ (ra.trans ⟨Sm.sI (S := fun a => a = 197 ∨ a = 198 ∨ a = 206) (Sm.sI (S := fun a => a = 197 ∨ a = 198 ∨ a = 206) Sm.refl (Or.inr (Or.inl rfl)) _) (Or.inr (Or.inl rfl)) _, fun j _ => by rw [I_ne (by decide), I_ne (by decide)], fun j j2 j3 _ => by rw [I_nk j3, I_nk j2]⟩) (by rw [I_nk (by decide), I_eq]) I_eq (fun e he => by rw [I_nk (by omega), I_nk (by omega), e8])
    · rw [if_neg (by decide)]
      exact kf (fun w => by rw [w.2] at q2; exact absurd q2 (by decide)) g ra e8
theorem S276 {C : Int32 → TH → Prop} (hw : Wf M) (hM : MA h M) (hS : h.I 198 2 = S) (hU : h.I 198 3 = U) (sU : St (aN M) U) (hd : d < aN M) (kt : bt U d = true → aNe M d &&& (S ^^^ (-1)) = 0 → ∀ g, RAo h g → g.I 198 2 = nob S d → g.I 198 3 = nob U d → (∀ e, e < 12 → g.I 198 (112 + e) = h.I 198 (112 + e)) → C 1 g) (kf : ¬ (bt U d = true ∧ aNe M d &&& (S ^^^ (-1)) = 0) → C 0 h) : W276 (nI d) h C := by
  have h12 := hw.n12
  unfold W276
  rw [show ix 2 = 2 from rfl, show ix 3 = 3 from rfl, hU, hS]
  refine S250 d rfl sU (by omega) (by omega) (fun q => ?_) (fun q => ?_)
  · rw [if_neg (by decide)]
    refine S251 d 4 hM rfl rfl (by omega) (by omega) ?_
    by_cases q2 : aNe M d &&& (S ^^^ (-1)) = 0
    · have q2' : M (16 + 8 * d + 4) &&& (S ^^^ (-1)) = 0 := q2
      rw [if_pos q2', I_nk (by decide), hU]
      exact kt q q2 _ ⟨Sm.sI (S := fun a => a = 197 ∨ a = 198 ∨ a = 206) (Sm.sI (S := fun a => a = 197 ∨ a = 198 ∨ a = 206) Sm.refl (Or.inr (Or.inl rfl)) _) (Or.inr (Or.inl rfl)) _, fun j _ => by rw [I_ne (by decide), I_ne (by decide)], fun j j2 j3 _ => by rw [I_nk j3, I_nk j2]⟩ (by rw [I_nk (by decide), I_eq]; rfl) I_eq (fun e he => by rw [I_nk (by omega), I_nk (by omega)])
    · have q2' : ¬ M (16 + 8 * d + 4) &&& (S ^^^ (-1)) = 0 := q2
      rw [if_neg q2']
      exact kf (fun w => q2 w.2)
  · rw [if_pos rfl]
    exact kf (fun w => by rw [q] at w; exact absurd w.1 (by decide))
end RAC
