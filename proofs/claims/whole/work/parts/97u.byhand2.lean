/-! BY HAND: the class's five acts, the reference's five acts -/
section CBH
variable {h : TH} {M : Nat → Int32} {S U W y : Int32} {i k : Nat} {A : Nat → Nat}
theorem HCs.hc {t : Nat} (c : HCs h t M S U W k A) : HC h t S U W k (h.I t 8) 0 (h.I t 11) := ⟨c.1, c.2.1, c.2.2.1, c.2.2.2.1, rfl, c.2.2.2.2.1, rfl⟩
theorem S198n {C : Int32 → TH → Prop} (k0 : C (-1) (h.sI 0 0 7)) : W198 0 h C := by
  unfold W198 W194
  rw [if_neg (fun n => n rfl)]; exact k0
theorem W192_i {C : Nat → Prop} (hi : i < 4) (cur : h.I 0 10 = nI i) (k : C (43 + 24 * i)) : W192 h C := by
  unfold W192
  rw [cur, ix_n (by omega)]
  exact ⟨inb_n hi, k⟩
theorem St_mk (hw : Wf M) {d : Nat} (hd : d < aN M) (sS : St (aN M) S) : St (aN M) (mkT M S d) := by
  have h12 := hw.n12
  exact St_and _ (St_or sS (hw.gS hd) (by omega)) (by omega)
theorem St_po (h12 : aN M ≤ 12) {d o : Nat} (hd : d < aN M) (sS : St (aN M) S) : St (aN M) (poT M S d o) := St_and _ (St_or (St_and _ sS (by omega)) (St_bit hd (by omega)) (by omega)) (by omega)
theorem S167 {C : Int32 → TH → Prop} (hw : Wf M) (hi : i < 4) (cur : h.I 0 10 = nI i) (hc : CM h (43 + 24 * i) M) (hk : k ≤ 1000000) (c : HCs h (65 + 24 * i) M S U W k A) (sS : St (aN M) S) (sU : St (aN M) U) (kb : (y < 0 ∨ nI (aN M) ≤ y) → C (-1) (h.sI 0 0 1)) (kf : ∀ d, d < aN M → y = nI d → ¬ mkC M (bigK M 0) S d → C (-1) (h.sI 0 0 7)) (kt : ∀ d, d < aN M → y = nI d → mkC M (bigK M 0) S d → ∀ g, HG h g (65 + 24 * i) → HCs g (65 + 24 * i) M (stS M (mkT M S d) (lvS M U d) S A) (lvS M U d) (W + wP M d) (k + 1) (A3 M S A) → C (stS M (mkT M S d) (lvS M U d) S A) g) : W167 y h C := by
  have h12 := hw.n12
  unfold W167
  refine W192_i hi cur (S55 hw hc.r (fun d hd e => ?_) (fun w => ?_))
  · subst e
    rw [if_pos (by decide), cur, ix_n (by omega)]
    refine ⟨inb_n hi, W192_i hi cur ?_⟩
    refine S18 hw hc dis24 hd c.hc sS c.2.2.2.2.2 (fun q g co cg sn => ?_) (fun q => S198n (kf d hd rfl q))
    rw [mkS_0 hw hd] at cg sn
    exact S198y hw hi cur hc hk co cg (St_mk hw hd sS) (St_and _ sU (by omega)) sn (fun g' hg hcs => kt d hd rfl q g' hg hcs)
  · rw [if_neg (fun n => n rfl)]; exact kb w
theorem S168 {C : Int32 → TH → Prop} {y2 : Int32} (hw : Wf M) (hi : i < 4) (cur : h.I 0 10 = nI i) (hc : CM h (43 + 24 * i) M) (hk : k ≤ 1000000) (c : HCs h (65 + 24 * i) M S U W k A) (sS : St (aN M) S) (sU : St (aN M) U) (kb : ((y < 0 ∨ nI (aN M) ≤ y) ∨ (y2 < 0 ∨ nI (aN M) ≤ y2)) → C (-1) (h.sI 0 0 1)) (kf : ∀ d o, d < aN M → y = nI d → o < aN M → y2 = nI o → ¬ poC M (bigK M 0) S (S &&& (U ^^^ (-1))) d o → C (-1) (h.sI 0 0 7)) (kt : ∀ d o, d < aN M → y = nI d → o < aN M → y2 = nI o → poC M (bigK M 0) S (S &&& (U ^^^ (-1))) d o → ∀ g, HG h g (65 + 24 * i) → HCs g (65 + 24 * i) M (stS M (poT M S d o) (lvP M U d o) S A) (lvP M U d o) (W + aW M d) (k + 1) (A3 M S A) → C (stS M (poT M S d o) (lvP M U d o) S A) g) : W168 y y2 h C := by
  have h12 := hw.n12
  unfold W168
  refine W192_i hi cur (S55 hw hc.r (fun d hd e => ?_) (fun w => ?_))
  · subst e
    rw [if_neg (by decide)]
    refine W192_i hi cur (S55 hw hc.r (fun o ho e => ?_) (fun w => ?_))
    · subst e
      rw [if_pos (by decide), cur, ix_n (by omega)]
      refine ⟨inb_n hi, W192_i hi cur ?_⟩
      refine S19 hw hc dis24 hd ho c.hc sS c.2.2.2.2.2 (fun q g co cg sn => ?_) (fun q => S198n (kf d o hd rfl ho rfl q))
      rw [poS_0 hw hd q] at cg sn
      exact S198y hw hi cur hc hk co cg (St_po h12 hd sS) (St_and _ sU (by omega)) sn (fun g' hg hcs => kt d o hd rfl ho rfl q g' hg hcs)
    · rw [if_neg (fun n => n rfl)]; exact kb (Or.inr w)
  · rw [if_pos rfl]; exact kb (Or.inl w)
theorem S169 {C : Int32 → TH → Prop} (hw : Wf M) (hi : i < 4) (cur : h.I 0 10 = nI i) (hc : CM h (43 + 24 * i) M) (hk : k ≤ 1000000) (c : HCs h (65 + 24 * i) M S U W k A) (sS : St (aN M) S) (sU : St (aN M) U) (kb : (y < 0 ∨ nI (aN M) ≤ y) → C (-1) (h.sI 0 0 1)) (kf : ∀ d, d < aN M → y = nI d → bt (S &&& (U ^^^ (-1))) d = false → C (-1) (h.sI 0 0 7)) (kt : ∀ d, d < aN M → y = nI d → bt (S &&& (U ^^^ (-1))) d = true → ∀ g, HG h g (65 + 24 * i) → HCs g (65 + 24 * i) M (stS M (nob S d) (nob U d) S A) (nob U d) W (k + 1) (A3 M S A) → C (stS M (nob S d) (nob U d) S A) g) : W169 y h C := by
  have h12 := hw.n12
  unfold W169
  refine W192_i hi cur (S55 hw hc.r (fun d hd e => ?_) (fun w => ?_))
  · subst e
    rw [if_pos (by decide), cur, ix_n (by omega)]
    refine ⟨inb_n hi, ?_⟩
    refine S20 (M := M) h12 hd c.hc c.2.2.2.2.2 (fun q g co cg sn => ?_) (fun q => S198n (kf d hd rfl q))
    exact S198y hw hi cur hc hk co cg (St_and _ sS (by omega)) (St_and _ sU (by omega)) sn (fun g' hg hcs => kt d hd rfl q g' hg hcs)
  · rw [if_neg (fun n => n rfl)]; exact kb w
theorem S170 {C : Int32 → TH → Prop} (hw : Wf M) (hi : i < 4) (cur : h.I 0 10 = nI i) (hc : CM h (43 + 24 * i) M) (hk : k ≤ 1000000) (c : HCs h (65 + 24 * i) M S U W k A) (sS : St (aN M) S) (sU : St (aN M) U) (kb : (y < 0 ∨ nI (aN M) ≤ y) → C (-1) (h.sI 0 0 1)) (kf : ∀ d, d < aN M → y = nI d → ¬ (bt S d = false ∧ fitB M (bigK M 0) (S ||| ishl 1 (nI d)) = true) → C (-1) (h.sI 0 0 7)) (kt : ∀ d, d < aN M → y = nI d → bt S d = false → fitB M (bigK M 0) (S ||| ishl 1 (nI d)) = true → ∀ g, HG h g (65 + 24 * i) → HCs g (65 + 24 * i) M (stS M (S ||| ishl 1 (nI d)) (U ||| ishl 1 (nI d)) S A) (U ||| ishl 1 (nI d)) W (k + 1) (A3 M S A) → C (stS M (S ||| ishl 1 (nI d)) (U ||| ishl 1 (nI d)) S A) g) : W170 y h C := by
  have h12 := hw.n12
  unfold W170
  refine W192_i hi cur (S55 hw hc.r (fun d hd e => ?_) (fun w => ?_))
  · subst e
    rw [if_pos (by decide), cur, ix_n (by omega)]
    refine ⟨inb_n hi, W192_i hi cur ?_⟩
    refine S21 hw hc hd c.hc sS c.2.2.2.2.2 (fun q q2 g co cg sn => ?_) (fun q => S198n (kf d hd rfl q))
    exact S198y hw hi cur hc hk co cg (St_or sS (St_bit hd (by omega)) (by omega)) (St_or sU (St_bit hd (by omega)) (by omega)) sn (fun g' hg hcs => kt d hd rfl q q2 g' hg hcs)
  · rw [if_neg (fun n => n rfl)]; exact kb w
theorem S171 {C : Int32 → TH → Prop} (hw : Wf M) (hi : i < 4) (cur : h.I 0 10 = nI i) (hc : CM h (43 + 24 * i) M) (hk : k ≤ 1000000) (c : HCs h (65 + 24 * i) M S U W k A) (sS : St (aN M) S) (sU : St (aN M) U) (kb : (y < 0 ∨ nI (aN M) ≤ y) → C (-1) (h.sI 0 0 1)) (kf : ∀ d, d < aN M → y = nI d → ¬ (bt U d = true ∧ aNe M d &&& (S ^^^ (-1)) = 0) → C (-1) (h.sI 0 0 7)) (kt : ∀ d, d < aN M → y = nI d → bt U d = true → aNe M d &&& (S ^^^ (-1)) = 0 → ∀ g, HG h g (65 + 24 * i) → HCs g (65 + 24 * i) M (stS M (nob S d) (nob U d) S A) (nob U d) W (k + 1) (A3 M S A) → C (stS M (nob S d) (nob U d) S A) g) : W171 y h C := by
  have h12 := hw.n12
  unfold W171
  refine W192_i hi cur (S55 hw hc.r (fun d hd e => ?_) (fun w => ?_))
  · subst e
    rw [if_pos (by decide), cur, ix_n (by omega)]
    refine ⟨inb_n hi, W192_i hi cur ?_⟩
    refine S22 hw hc.r hd c.hc c.2.2.2.2.2 (fun q q2 g co cg sn => ?_) (fun q => S198n (kf d hd rfl q))
    exact S198y hw hi cur hc hk co cg (St_and _ sS (by omega)) (St_and _ sU (by omega)) sn (fun g' hg hcs => kt d hd rfl q q2 g' hg hcs)
  · rw [if_neg (fun n => n rfl)]; exact kb w
end CBH
section RBH
variable {h : TH} {M : Nat → Int32} {S U W y : Int32} {k : Nat} {A : Nat → Nat}
theorem RH_of {g g' : TH} (a : RAo h g) (b : RH g g') : RH h g' := ⟨a.1.trans b.1, fun j h2 h25 => by rw [b.2.1 j h2 h25, a.2.1 j h25], fun j h1 h2 => by rw [b.2.2 j h1 h2, a.2.2 j (by omega) (by omega) h2]⟩
theorem agR_keep {g : TH} {S2 U2 : Int32} (h12 : aN M ≤ 12) (s : agS h M S U A) (sub : ∀ e, e < 32 → bt S2 e = true → bt U2 e = false → bt S e = true → bt U e = false) (new : ∀ e, e < 32 → bt S2 e = true → bt U2 e = false → bt S e = true) (hg : ∀ e, e < 12 → g.I 198 (112 + e) = h.I 198 (112 + e)) : agR g M S2 U2 S A := fun d hd a b c => ⟨fun o => by rw [hg d (by omega)]; exact s d hd o (sub d (by omega) a b o) c, fun o => by rw [new d (by omega) a b] at o; exact absurd o (by decide)⟩
theorem S277 {C : Int32 → TH → Prop} (hw : Wf M) (hM : MA h M) (c : HMs h M S U W k A) (sS : St (aN M) S) (sU : St (aN M) U) (hU : sb U S) (ab : abd M S U A) (kb : (y < 0 ∨ nI (aN M) ≤ y) → C (-1) (h.sI 197 2 1)) (kf : ∀ d, d < aN M → y = nI d → ¬ mkC M (bigK M 0) S d → ∀ g, RAo h g → g.I 198 = h.I 198 → C (-1) (g.sI 197 2 7)) (kt : ∀ d, d < aN M → y = nI d → mkC M (bigK M 0) S d → ∀ g, RH h g → HMs g M (stS M (mkT M S d) (lvS M U d) S A) (lvS M U d) (W + wP M d) (k + 1) (A3 M S A) → g.I 197 2 = 0 → C (stS M (mkT M S d) (lvS M U d) S A) g) : W277 y h C := by
  have h12 := hw.n12
  obtain ⟨e2, e3, e4, e5, ag⟩ := c
  unfold W277
  refine S247 hw hM (fun d hd e => ?_) (fun w => ?_)
  · subst e
    rw [if_pos (by decide)]
    refine S272 hw hM e2 e3 sS hd (fun q g ra a2 a3 aa => ?_) (fun q g ra e8 => ?_)
    · rw [if_neg (by decide)]
      refine S255 hw d (ra.ma hM) rfl hd ?_
      rw [show ix 2 = 2 from rfl, e2]
      rw [U_mk hw hd hU] at a3
      have dis := bt_dis.mp q.1
      have sub : ∀ e, e < 32 → bt (mkT M S d) e = true → bt (lvS M U d) e = false → bt S e = true → bt U e = false := by
        intro e he w1 w2 w3
        have y1 : bt (lvS M S d) e = true := by
          rcases (bt_mkT hw hd he).mp w1 with y | y
          · exact y
          · rw [dis e he w3] at y; exact absurd y (by decide)
        unfold lvS at y1 w2
        rw [bt_and, bt_not _ he] at y1 w2
        simp only [Bool.and_eq_true] at y1
        rw [y1.2] at w2
        simpa using w2
      refine S271 (S := S) (A := A) hw (ra.ma hM) a2 a3 (by rw [ra.2.2 4 (by decide) (by decide) (by decide)]; exact e4) (by rw [ra.2.2 5 (by decide) (by decide) (by decide)]; exact e5) (St_mk hw hd sS) (St_and _ sU (by omega)) sS (fun e he w1 w2 w3 => ?_) (agP_bd hw ab sub) (fun g' rh hms z => kt d hd rfl q g' (RH_of ra rh) hms z)
      rw [aa e (by omega)]
      refine ⟨fun o => ?_, fun o => ?_⟩
      · rw [if_neg (fun u => by rw [dis e (by omega) o] at u; exact absurd u.2 (by decide))]
        exact ag e he o (sub e (by omega) w1 w2 o) w3
      · have : bt (gP M d) e = true := by
          rcases (bt_mkT hw hd (by omega)).mp w1 with y | y
          · unfold lvS at y; rw [bt_and, o] at y; exact absurd y (by simp)
          · exact y
        rw [if_pos ⟨he, this⟩]
    · rw [if_pos rfl]; exact kf d hd rfl q g ra e8
  · rw [if_neg (fun n => n rfl)]; exact kb w
theorem S278 {C : Int32 → TH → Prop} {y2 : Int32} (hw : Wf M) (hM : MA h M) (c : HMs h M S U W k A) (sS : St (aN M) S) (sU : St (aN M) U) (hU : sb U S) (ab : abd M S U A) (kb : ((y < 0 ∨ nI (aN M) ≤ y) ∨ (y2 < 0 ∨ nI (aN M) ≤ y2)) → C (-1) (h.sI 197 2 1)) (kf : ∀ d o, d < aN M → y = nI d → o < aN M → y2 = nI o → ¬ poC M (bigK M 0) S (S &&& (U ^^^ (-1))) d o → ∀ g, RAo h g → g.I 198 = h.I 198 → C (-1) (g.sI 197 2 7)) (kt : ∀ d o, d < aN M → y = nI d → o < aN M → y2 = nI o → poC M (bigK M 0) S (S &&& (U ^^^ (-1))) d o → ∀ g, RH h g → HMs g M (stS M (poT M S d o) (lvP M U d o) S A) (lvP M U d o) (W + aW M d) (k + 1) (A3 M S A) → g.I 197 2 = 0 → C (stS M (poT M S d o) (lvP M U d o) S A) g) : W278 y y2 h C := by
  have h12 := hw.n12
  obtain ⟨e2, e3, e4, e5, ag⟩ := c
  unfold W278
  refine S247 hw hM (fun d hd e => ?_) (fun w => ?_)
  · subst e
    rw [if_neg (by decide)]
    refine S247 hw hM (fun o ho e => ?_) (fun w => ?_)
    · subst e
      rw [if_pos (by decide)]
      refine S273 hw hM e2 e3 sS hd ho (fun q g ra a2 a3 aa => ?_) (fun q g ra e8 => ?_)
      · rw [if_neg (by decide)]
        refine S251 d 0 (ra.ma hM) rfl rfl (by omega) (by omega) ?_
        rw [show ix 2 = 2 from rfl, e2]
        rw [U_po hd h12 hU q (by omega)] at a3
        have ePo := poS_0 (x := 0) hw hd q
        have inv : ∀ e, e < 32 → bt (poT M S d o) e = true → bt (lvP M S d o) e = true ∨ e = d := by
          intro e he w1
          rw [← ePo] at w1
          unfold poS at w1
          rcases (bt_arS (by omega)).mp w1 with y | y
          · exact Or.inl y
          · exact Or.inr y.1
        have sub : ∀ e, e < 32 → bt (poT M S d o) e = true → bt (lvP M U d o) e = false → bt S e = true → bt U e = false := by
          intro e he w1 w2 w3
          rcases inv e he w1 with y | y
          · unfold lvP at y w2
            rw [bt_and, bt_not _ he] at y w2
            simp only [Bool.and_eq_true] at y
            rw [y.2] at w2
            simpa using w2
          · rw [y, q.2.2.1] at w3; exact absurd w3 (by decide)
        refine S271 (S := S) (A := A) hw (ra.ma hM) a2 a3 (by rw [ra.2.2 4 (by decide) (by decide) (by decide)]; exact e4) (by rw [ra.2.2 5 (by decide) (by decide) (by decide)]; exact e5) (St_po h12 hd sS) (St_and _ sU (by omega)) sS (fun e he w1 w2 w3 => ?_) (agP_bd hw ab sub) (fun g' rh hms z => kt d o hd rfl ho rfl q g' (RH_of ra rh) hms z)
        rw [aa e (by omega)]
        refine ⟨fun oo => ?_, fun oo => ?_⟩
        · rw [if_neg (fun u => by rw [u, q.2.2.1] at oo; exact absurd oo (by decide))]
          exact ag e he oo (sub e (by omega) w1 w2 oo) w3
        · rcases inv e (by omega) w1 with y | y
          · unfold lvP at y; rw [bt_and, oo] at y; exact absurd y (by simp)
          · rw [if_pos y]
      · rw [if_pos rfl]; exact kf d o hd rfl ho rfl q g ra e8
    · rw [if_neg (fun n => n rfl)]; exact kb (Or.inr w)
  · rw [if_pos rfl]; exact kb (Or.inl w)
end RBH
