/-! told, dish, pot, fits, needed, keeps, bound, treeRule -/
section TLD
variable {h g h2 : TH} {L z : Nat} {xs : Nat → Int32} {S T : Nat → Prop} {D : Int32 → TH → Prop} {x y : Int32}
theorem sp_in {a : Nat} (h : a = 206 ∨ a = 207 ∨ a = 208 ∨ a = 204 ∨ a = 205 ∨ (212 ≤ a ∧ a ≤ 220)) : spare a ∧ outS a := by unfold spare outS; omega
/-- the class has made rows of its own and set the status -/
theorem Jn.gr {R : TH → (Int32 → TH → Prop) → Prop} (k : Jn L xs z R D) (hI : Inv L xs h z) (hz : z < 1000) (p : Gr T h g) (hT : ∀ a, T a → spare a ∧ outS a) (hn : g.n ≤ h.n + 16 ∧ g.sl ≤ h.sl + 50000) (J0 : g.J 0 = h.J 0) {v s : Int32} (q : ∀ Y : Int32 → TH → Prop, (∀ (S : Nat → Prop) g2, Sm S (g.sI 0 0 s) g2 → (∀ a, S a → a = 197 ∨ (spare a ∧ outS a)) → (∀ j, (j = 10 ∨ j = 16 ∨ j = 17 ∨ j = 30 ∨ j = 52 ∨ j = 55) → g2.I 197 j = g.I 197 j) → g2.I 197 2 = s → Y v g2) → R (g.sI 0 0 s) Y) : D v (g.sI 0 0 s) := by
  have hn0 := hI.nn
  have t0 : ¬ T 0 := fun w => by have := (hT 0 w).1; unfold spare at this; omega
  have tM : ¬ T 1000000 := fun w => by have := (hT 1000000 w).1; unfold spare at this; omega
  have p2 : Gr (fun a => a = 0 ∨ T a) h (g.sI 0 0 s) := Gr.trans (p.mono (fun a ha => Or.inr ha)) (Sm.gr (Sm.sI Sm.refl (Or.inl rfl) s))
  refine k v _ (hI.sc.gr p2 (fun w => w.elim (by omega) tM)) (fun Y hY => q Y (fun S g2 sm hS f f2 => hY g2 ?_))
  refine hI.go hz p2 (fun a ha => ha.elim Or.inl (fun w => Or.inr (hT a w))) (fun j hj => ?_) hn J0 sm hS f ?_
  · rw [I_sI, if_neg (by omega), p.i (by omega) t0]
  · rw [f2, I_sI, if_pos ⟨rfl, rfl⟩]
theorem MA.gr {M : Nat → Int32} (m : MA h M) (p : Gr T h g) (hn : 222 ≤ h.n) (hT : ¬ T 198) : MA g M := fun k hk => by rw [p.i (by omega) hT]; exact m k hk
theorem Q162 (hI : Inv L xs h z) (hz : z < 1000) (k : Jn L xs z (W258 x) D) : W162 x h D := by
  obtain ⟨i, M, cn, S, U, W, kk, A, hi, cur, hw, hc, hM, hC, hR, -⟩ := hI.cur
  have cur' : ix (h.I 0 10) = i := by rw [cur, ix_n (by omega)]
  have hin : inb (h.I 0 10) 4 := by rw [cur]; exact inb_n hi
  have cm : ∀ j, j < 6 → ¬ nI j < 0 ∧ nI j ≤ 5 := by decide +kernel
  have R : ∀ (j : Nat) (v : Int32), j < 6 → h.I 198 j = v → x = nI j → D v (h.sI 0 0 0) := fun j v hj e ex => k.st hI hz (fun Y hY => by
    unfold W258 W206
    subst ex
    rw [if_neg (cm j hj).1, if_pos (cm j hj).2, ix_n (by omega), I_sI, if_neg (by omega), e]
    exact ⟨inb_n (by omega), hY⟩)
  have m0 : h.I 198 0 = nI (aN M) := (hM 0 (by omega)).trans hw.1
  have m1 : h.I 198 1 = nI (aP M) := (hM 1 (by omega)).trans hw.2.2.1
  unfold W162 W192 W193 W194
  dsimp only
  rw [cur']
  refine ⟨hin, ?_⟩
  by_cases e0 : x = 0
  · rw [if_pos e0, hc.1.1]; exact ⟨hin, R 0 _ (by omega) m0 e0⟩
  rw [if_neg e0]
  by_cases e1 : x = 1
  · rw [if_pos e1, hc.1.2.1]; exact ⟨hin, R 1 _ (by omega) m1 e1⟩
  rw [if_neg e1]
  by_cases e2 : x = 2
  · rw [if_pos e2, hC.1]; exact R 2 _ (by omega) hR.1 e2
  rw [if_neg e2]
  by_cases e3 : x = 3
  · rw [if_pos e3, hC.2.1]; exact R 3 _ (by omega) hR.2.1 e3
  rw [if_neg e3]
  by_cases e4 : x = 4
  · rw [if_pos e4, hC.2.2.1]; exact R 4 _ (by omega) hR.2.2.1 e4
  rw [if_neg e4]
  by_cases e5 : x = 5
  · rw [if_pos e5, hC.2.2.2.1]; exact R 5 _ (by omega) hR.2.2.2.1 e5
  rw [if_neg e5]
  refine k.st hI hz (fun Y hY => ?_)
  unfold W258 W205
  by_cases q : x < 0
  · rw [if_pos q]; exact hY
  rw [if_neg q]
  by_cases q2 : x ≤ 5
  · exfalso
    obtain ⟨j, hj, e⟩ := nI_of2 (n := 5) (M := 5) rfl q q2
    have : j = 0 ∨ j = 1 ∨ j = 2 ∨ j = 3 ∨ j = 4 ∨ j = 5 := by omega
    rcases this with w | w | w | w | w | w <;> subst w
    · exact e0 e
    · exact e1 e
    · exact e2 e
    · exact e3 e
    · exact e4 e
    · exact e5 e
  · rw [if_neg q2]; exact hY
theorem Q163 (hI : Inv L xs h z) (hz : z < 1000) (k : Jn L xs z (W259 x y) D) : W163 x y h D := by
  obtain ⟨i, M, cn, S, U, W, kk, A, hi, cur, hw, hc, hM, hC, hR, -⟩ := hI.cur
  have hn := hI.nn
  have cur' : ix (h.I 0 10) = i := by rw [cur, ix_n (by omega)]
  have hin : inb (h.I 0 10) 4 := by rw [cur]; exact inb_n hi
  have h12 := hw.n12
  unfold W163 W192 W194
  dsimp only
  rw [cur']
  refine ⟨hin, S55 hw hc.1 (fun d hd ex => ?_) (fun e => ?_)⟩
  · rw [if_neg (by decide)]
    subst ex
    have ref : ∀ {s : Int32} {Y : Int32 → TH → Prop}, (if y < 0 then (W205 1 (h.sI 0 0 s) (fun v4 h5 => Y v4 h5)) else (if y ≤ 8 then (if ¬ y = 7 then (B259_46 (nI d) y (h.sI 0 0 s) Y) else (W252 (nI d) (h.sI 0 0 s) (fun v6 => if ¬ v6 = (-1) then (B259_46 (nI d) y (h.sI 0 0 s) Y) else (W205 6 (h.sI 0 0 s) (fun v7 h8 => Y v7 h8))))) else (W205 1 (h.sI 0 0 s) (fun v9 h10 => Y v9 h10)))) → W259 (nI d) y (h.sI 0 0 s) Y := fun {s} {Y} w => by
      unfold W259
      refine S247 hw (hM.s0 s) (fun d' hd' _ => ?_) (fun e => (dno hd h12 e).elim)
      rw [if_neg (by decide)]; exact w
    by_cases q : y < 0
    · rw [if_pos q]
      refine k.st hI hz (fun Y hY => ref ?_)
      rw [if_pos q]; exact hY
    rw [if_neg q]
    by_cases q2 : y ≤ 8
    · rw [if_pos q2]
      obtain ⟨f, hf, e⟩ := nI_of2 (n := 8) (M := 8) rfl q q2
      subst e
      have go : ¬ (nI f = 7 ∧ aPa M d = -1) → B163_52 (nI d) (nI f) (43 + 24 * i) h D := fun np => by
        unfold B163_52 W193
        have fin : ∀ {g : TH} {s : Int32} {Y : Int32 → TH → Prop}, MA g M → B259_46 (nI d) (nI f) (g.sI 0 0 s) Y → (h2 : True) → W259 (nI d) (nI f) (g.sI 0 0 s) Y := fun {g} {s} {Y} hMg w _ => by
          unfold W259
          refine S247 hw (hMg.s0 s) (fun d' hd' _ => ?_) (fun e => (dno hd h12 e).elim)
          rw [if_neg (by decide), if_neg q, if_pos q2]
          by_cases q7 : nI f = 7
          · rw [if_neg (fun n => n q7)]
            refine S252 d (hMg.s0 s) rfl (by omega) ?_
            rw [if_pos (fun e => np ⟨q7, e⟩)]; exact w
          · rw [if_pos q7]; exact w
        refine S64 hw hc.1 (by omega) rfl hd rfl hf (by omega) (fun f8 => ?_) (fun f8 g l gr n1 s1 il l12 => ?_)
        · refine k.st hI hz (fun Y hY => fin hM ?_ trivial)
          unfold B259_46 W206
          have : ∀ f, f < 8 → ¬ nI f = 8 := by decide +kernel
          rw [if_pos (this f f8)]
          exact S251 d f (hM.s0 _) rfl rfl (by omega) f8 hY
        · have hMg : MA g M := hM.gr gr hn.1 id
          have J0 : g.J 0 = h.J 0 := (gr.2.2 0 (by omega) id).2.1
          refine k.gr hI hz gr (fun a w => w.elim) ⟨by omega, by omega⟩ J0 (fun Y hY => fin hMg ?_ trivial)
          unfold B259_46 W206
          rw [if_neg (by rw [f8]; decide)]
          refine S257 hw (hMg.s0 _) rfl hd il ?_
          refine hY (fun a => a = 197) _ (sm1 _ _ _ _) (fun a w => Or.inl w) (fun j hj => ?_) ?_
          · rw [I_sI, if_neg (by omega)]; rfl
          · rw [I_sI, if_pos ⟨rfl, rfl⟩]
      by_cases q7 : nI f = 7
      · rw [if_neg (fun n => n q7)]
        have pa := (hc.1.2.2.2.2.1 d hd).2.2.2.2.2
        refine ⟨inb_n (by omega), ?_⟩
        rw [ix_n (by omega), pa]
        by_cases q8 : aPa M d = -1
        · rw [if_neg (fun n => n q8)]
          refine k.st hI hz (fun Y hY => ref ?_)
          rw [if_neg q, if_pos q2, if_neg (fun n => n q7)]
          refine S252 d (hM.s0 _) rfl (by omega) ?_
          rw [if_neg (fun n => n q8)]; exact hY
        · rw [if_pos q8]
          exact go (fun w => q8 w.2)
      · rw [if_pos q7]
        exact go (fun w => q7 w.1)
    · rw [if_neg q2]
      refine k.st hI hz (fun Y hY => ref ?_)
      rw [if_neg q, if_neg q2]; exact hY
  · rw [if_pos rfl]
    refine k.st hI hz (fun Y hY => ?_)
    unfold W259
    refine S247 hw (hM.s0 _) (fun d' hd' ex => (dno hd' h12 (ex ▸ e)).elim) (fun _ => ?_)
    rw [if_pos rfl]; exact hY
theorem Q164 (hI : Inv L xs h z) (hz : z < 1000) (k : Jn L xs z (W260 x) D) : W164 x h D := by
  obtain ⟨i, M, cn, S, U, W, kk, A, hi, cur, hw, hc, hM, hC, hR, -⟩ := hI.cur
  have cur' : ix (h.I 0 10) = i := by rw [cur, ix_n (by omega)]
  have hin : inb (h.I 0 10) 4 := by rw [cur]; exact inb_n hi
  have w8 := hw.2.2.2.1
  have m1 : h.I 198 1 = nI (aP M) := (hM 1 (by omega)).trans hw.2.2.1
  unfold W164 W192 W193 W194
  dsimp only
  rw [cur', hc.1.2.1]
  refine ⟨hin, ?_⟩
  by_cases q : x < 0
  · rw [if_pos q]
    refine k.st hI hz (fun Y hY => ?_)
    unfold W260
    rw [if_pos q]; exact hY
  rw [if_neg q]
  obtain ⟨j, hj, e⟩ := nI_of q
  subst e
  by_cases q2 : nI j < nI (aP M)
  · rw [if_pos q2]
    have q3 := (nI_ltI hj (by omega)).mp q2
    refine ⟨inb_n (by omega), ?_⟩
    rw [ix_n (by omega), hc.1.2.2.2.2.2 j q3]
    refine k.st hI hz (fun Y hY => ?_)
    unfold W260 W206
    have e8 : (8 : Int32) + nI j = nI (8 + j) := nI_add 8 j
    rw [if_neg q, show ix 1 = 1 from rfl, show (h.sI 0 0 0).I 198 1 = _ from m1, if_pos q2, e8, ix_n (by omega), show (h.sI 0 0 0).I 198 (8 + j) = _ from hM (8 + j) (by omega)]
    exact ⟨inb_n (by omega), hY⟩
  · rw [if_neg q2]
    refine k.st hI hz (fun Y hY => ?_)
    unfold W260
    rw [if_neg q, show ix 1 = 1 from rfl, show (h.sI 0 0 6).I 198 1 = _ from m1, if_neg q2]; exact hY
theorem Q165 (hI : Inv L xs h z) (hz : z < 1000) (k : Jn L xs z (W264 x) D) : W165 x h D := by
  obtain ⟨i, M, cn, S, U, W, kk, A, hi, cur, hw, hc, hM, hC, hR, -⟩ := hI.cur
  have cur' : ix (h.I 0 10) = i := by rw [cur, ix_n (by omega)]
  have hin : inb (h.I 0 10) 4 := by rw [cur]; exact inb_n hi
  have h12 := hw.n12
  unfold W165 W192 W193 W194
  dsimp only
  rw [cur']
  refine ⟨hin, S56 hw hc.1 (fun hs => ?_) (fun e => ?_)⟩
  · rw [if_pos (by decide)]
    refine ⟨hin, ?_⟩
    have key : ∀ b : Int32, (b = 1 ∧ fitB M (bigK M 0) x = true ∨ b = 0 ∧ fitB M (bigK M 0) x = false) → D b (h.sI 0 0 0) := fun b hb => k _ _ (hI.sc0 0) (fun Y hY => by
      unfold W264
      refine S249 hw (hM.s0 _) (fun _ => ?_) (fun e => (hs.no h12 e).elim)
      rw [if_pos (by decide)]
      refine S261 hw (hM.s0 0) 0 rfl (by omega) (fun g sm e197 mb => ?_)
      have mf : MFit g M (bigK M 0) := ⟨bigK_20 hw, Or.inl ⟨by rw [e197, I_eq], mb⟩⟩
      have hMg : MA g M := (hM.s0 0).sm sm (by unfold in206; omega)
      have fin : Y b (g.sI 197 2 0) := hY _ (hI.st (S := in206) hz (g := g.sI 197 2 0) (s := 0) (Sm.sI sm (Or.inr rfl) 0) (fun a ha => by unfold in206 at ha; exact ha.elim (fun w => Or.inr (sp_in (by omega))) Or.inl) (fun j hj => by rw [I_nk (by omega), e197, I_nk (by omega)]; rfl) I_eq)
      refine S262 hw hMg mf hs (fun q => ?_) (fun q => ?_)
      · rw [if_neg (by decide)]
        rcases hb with ⟨rfl, -⟩ | ⟨-, w⟩
        · exact fin
        · rw [q] at w; exact absurd w (by decide)
      · rw [if_pos rfl]
        rcases hb with ⟨-, w⟩ | ⟨rfl, -⟩
        · rw [q] at w; exact absurd w (by decide)
        · exact fin)
    refine S112 hw hc.2.2 hs (fun q => ?_) (fun q => ?_)
    · rw [if_neg (by decide)]; exact key 1 (Or.inl ⟨rfl, q⟩)
    · rw [if_pos rfl]; exact key 0 (Or.inr ⟨rfl, q⟩)
  · rw [if_neg (fun n => n rfl)]
    refine k.st hI hz (fun Y hY => ?_)
    unfold W264
    refine S249 hw (hM.s0 _) (fun hs => (hs.no h12 e).elim) (fun _ => ?_)
    rw [if_neg (fun n => n rfl)]; exact hY
theorem Q166 (hI : Inv L xs h z) (hz : z < 1000) (k : Jn L xs z (W266 x) D) : W166 x h D := by
  obtain ⟨i, M, cn, S, U, W, kk, A, hi, cur, hw, hc, hM, hC, hR, -⟩ := hI.cur
  have cur' : ix (h.I 0 10) = i := by rw [cur, ix_n (by omega)]
  have hin : inb (h.I 0 10) 4 := by rw [cur]; exact inb_n hi
  have h12 := hw.n12
  unfold W166 W192 W193 W194
  dsimp only
  rw [cur']
  refine ⟨hin, S56 hw hc.1 (fun hs => ?_) (fun e => ?_)⟩
  · rw [if_pos (by decide)]
    refine ⟨hin, S67 hw hc.1 hc.2.1 hs (fun a ha => k.st hI hz (fun Y hY => ?_))⟩
    unfold W266
    refine S249 hw (hM.s0 _) (fun _ => ?_) (fun e => (hs.no h12 e).elim)
    rw [if_neg (by decide)]
    refine S265 hw (hM.s0 _) hs (fun b hb => ?_)
    rw [Clo_one hb ha]; exact hY
  · rw [if_neg (fun n => n rfl)]
    refine k.st hI hz (fun Y hY => ?_)
    unfold W266
    refine S249 hw (hM.s0 _) (fun hs => (hs.no h12 e).elim) (fun _ => ?_)
    rw [if_pos rfl]; exact hY
theorem Q172 (hI : Inv L xs h z) (hz : z < 1000) (k : Jn L xs z (W282 x) D) : W172 x h D := by
  obtain ⟨i, M, cn, S, U, W, kk, A, hi, cur, hw, hc, hM, hC, hR, hk, sS, sU, -⟩ := hI.cur
  have h12 := hw.n12
  refine S172 hw hi cur hc (by omega) hC sS sU (fun e => ?_) (fun d hd ex q => ?_) (fun d hd ex q => ?_)
  · exact k.st hI hz (fun Y hY => S282 hw (hM.s0 _) (hR.s0 _) sS sU (fun _ => hY) (fun d hd ex _ => (dno hd h12 (ex ▸ e)).elim) (fun d hd ex _ => (dno hd h12 (ex ▸ e)).elim))
  · refine k.st hI hz (fun Y hY => S282 hw (hM.s0 _) (hR.s0 _) sS sU (fun e => (dno hd h12 (ex ▸ e)).elim) (fun d' hd' ex' _ => hY) (fun d' hd' ex' q' => ?_))
    have : d' = d := (nI_eq (by omega) (by omega)).mp (ex'.symm.trans ex)
    rw [this, q] at q'; exact absurd q' (by decide)
  · refine k.st hI hz (fun Y hY => S282 hw (hM.s0 _) (hR.s0 _) sS sU (fun e => (dno hd h12 (ex ▸ e)).elim) (fun d' hd' ex' q' => ?_) (fun d' hd' ex' q' => ?_))
    · have : d' = d := (nI_eq (by omega) (by omega)).mp (ex'.symm.trans ex)
      rw [this, q] at q'; exact absurd q' (by decide)
    · have : d' = d := (nI_eq (by omega) (by omega)).mp (ex'.symm.trans ex)
      rw [this]; exact hY
theorem Q181 (hI : Inv L xs h z) (hz : z < 1000) (k : Jn L xs z (W305 x) D) : W181 x h D := by
  obtain ⟨i, M, cn, S, U, W, kk, A, hi, cur, hw, hc, hM, hC, hR, -⟩ := hI.cur
  have cur' : ix (h.I 0 10) = i := by rw [cur, ix_n (by omega)]
  have hin : inb (h.I 0 10) 4 := by rw [cur]; exact inb_n hi
  have h12 := hw.n12
  unfold W181 W192 W193 W194
  dsimp only
  rw [cur']
  refine ⟨hin, S56 hw hc.1 (fun hs => ?_) (fun e => ?_)⟩
  · rw [if_pos (by decide)]
    refine ⟨hin, S69 hw hc.1 hc.2.1 hs (fun a ha => k.st hI hz (fun Y hY => ?_))⟩
    refine S305 hw (hM.s0 _) (fun n => (n hs).elim) (fun b _ hb => ?_)
    rw [Clo_one hb ha]; exact hY
  · rw [if_neg (fun n => n rfl)]
    exact k.st hI hz (fun Y hY => S305 hw (hM.s0 _) (fun n => hY) (fun b hs hb => (hs.no h12 e).elim))
theorem Q182 (hI : Inv L xs h z) (hz : z < 1000) (k : Jn L xs z (W307 x) D) : W182 x h D := by
  obtain ⟨i, M, cn, S, U, W, kk, A, hi, cur, hw, hc, hM, hC, hR, -⟩ := hI.cur
  have hn := hI.nn
  have cur' : ix (h.I 0 10) = i := by rw [cur, ix_n (by omega)]
  have hin : inb (h.I 0 10) 4 := by rw [cur]; exact inb_n hi
  have h12 := hw.n12
  unfold W182 W192 W193 W194
  dsimp only
  rw [cur']
  refine ⟨hin, S55 hw hc.1 (fun d hd ex => ?_) (fun e => ?_)⟩
  · rw [if_pos (by decide)]
    refine ⟨hin, S71 hw hc.1 hc.2.1 (by omega) ex hd (by omega) (fun a g v ha tr gr n1 s1 ru v1 => ?_) (fun a ha tr => ?_)⟩
    · rw [if_pos (nI_ne1 (by omega))]
      have hMg : MA g M := hM.gr gr hn.1 id
      have J0 : g.J 0 = h.J 0 := (gr.2.2 0 (by omega) id).2.1
      refine k.gr hI hz gr (fun a w => w.elim) ⟨by omega, by omega⟩ J0 (fun Y hY => ?_)
      refine S307 hw (hMg.s0 _) (fun e => (dno hd h12 (ex ▸ e)).elim) (fun d' a' g' v' hd' ex' ha' tr' sm ru' _ => ?_) (fun d' a' hd' ex' ha' tr' => ?_)
      · have ed : d' = d := (nI_eq (by omega) (by omega)).mp (ex'.symm.trans ex)
        subst ed
        rw [RulF_one _ _ _ _ _ ru' ru]
        refine hY (fun a => a = 197 ∨ in215 a) _ (Sm.sI (S := fun a => a = 197 ∨ in215 a) (sm.mono (fun a w => Or.inr w)) (Or.inl rfl) _) (fun a w => w.imp id (fun w => sp_in (by unfold in215 at w; omega))) (fun j hj => ?_) I_eq
        rw [I_nk (by omega), sm.I (by unfold in215; omega)]; rfl
      · have ed : d' = d := (nI_eq (by omega) (by omega)).mp (ex'.symm.trans ex)
        subst ed
        exact absurd (Clo_one ha ha' ▸ tr) tr'
    · rw [if_neg (fun n => n rfl)]
      refine k.st hI hz (fun Y hY => ?_)
      refine S307 hw (hM.s0 _) (fun e => (dno hd h12 (ex ▸ e)).elim) (fun d' a' g' v' hd' ex' ha' tr' sm ru' _ => ?_) (fun d' a' hd' ex' ha' tr' => hY)
      have ed : d' = d := (nI_eq (by omega) (by omega)).mp (ex'.symm.trans ex)
      subst ed
      exact absurd (Clo_one ha' ha ▸ tr') tr
  · rw [if_neg (fun n => n rfl)]
    refine k.st hI hz (fun Y hY => S307 hw (hM.s0 _) (fun _ => hY) (fun d' a' g' v' hd' ex' _ _ _ _ _ => (dno hd' h12 (ex' ▸ e)).elim) (fun d' a' hd' ex' _ _ => (dno hd' h12 (ex' ▸ e)).elim))
end TLD
