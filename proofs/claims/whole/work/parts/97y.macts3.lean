/-! COOKING: the reference's act -/
section RAF
variable {h : TH} {M : Nat → Int32} {S U W dr x bu y3 : Int32} {a b w : Nat} {A : Nat → Nat}
theorem S314 {C : Int32 → TH → Prop} (hw : Wf M) (hM : MA h M) (hwa : isAct w) (ha : a < aN M) (hb : w = 11 → b < aN M ∧ y3 = nI b) (r : RX h W dr x bu) (e2 : h.I 198 2 = S) (e3 : h.I 198 3 = U) (sS : St (aN M) S) (sU : St (aN M) U) (hU : sb U S) (ag : agS h M S U A) (kt : ∀ r, actR M dr x bu S U w a b = some r → ∀ g, RBo h g → RX g (W + r.2.2.1) dr r.2.2.2.1 r.2.2.2.2 → g.I 198 2 = r.1 → g.I 198 3 = r.2.1 → agR g M r.1 r.2.1 S A → C 1 g) (kf : actR M dr x bu S U w a b = none → ∀ g, RAo h g → g.I 198 = h.I 198 → C 0 g) : W314 (nI w) (nI a) y3 h C := by
  have h12 := hw.n12
  have w0 : W + 0 = W := Int32.add_zero W
  have hok : ∀ r, actR M dr x bu S U w a b = some r → _ := fun r e => act_ok hw ha (fun u => (hb u).1) sS sU hU e
  -- the WORK is added
  have work : ∀ (g : TH) (v : Int32), RX g W dr x bu → RAo h g → MA g M → RX (g.sI 197 41 (W + v)) (W + v) dr x bu ∧ RBo h (g.sI 197 41 (W + v)) ∧ MA (g.sI 197 41 (W + v)) M ∧ ∀ j, (g.sI 197 41 (W + v)).I 198 j = g.I 198 j := by
    intro g v rx ra ma
    exact ⟨⟨I_eq, by rw [I_nk (by decide)]; exact rx.2.1, by rw [I_nk (by decide)]; exact rx.2.2.1, by rw [I_nk (by decide)]; exact rx.2.2.2⟩, ra.b.trans ⟨Sm.sI (S := fun a => a = 197 ∨ a = 198 ∨ a = 206) Sm.refl (Or.inl rfl) _, fun j _ _ c _ => I_nk c, fun j _ _ _ => I_ne (by decide)⟩, fun j hj => by rw [I_ne (by decide)]; exact ma j hj, fun j => I_ne (by decide)⟩
  have go : B314_22 (nI w) (nI a) y3 h C := by
    unfold B314_22
    rcases hwa with rfl | rfl | rfl | rfl | rfl
    · rw [if_pos (show ¬ nI 10 = 13 by decide), if_pos (show ¬ nI 10 = 14 by decide), if_pos (show ¬ nI 10 = 15 by decide), if_neg (fun n => n (show nI 10 = 10 from rfl))]
      refine S272 hw hM e2 e3 sS ha (fun q g ra a2 a3 aa => ?_) (fun q g ra e8 => ?_)
      · unfold B314_92
        rw [if_pos (by decide), if_neg (fun n => n rfl)]
        refine S255 hw a (ra.ma hM) rfl ha ?_
        have rx := RX_a ra r
        rw [U_mk hw ha hU] at a3
        have eR : actR M dr x bu S U 10 a b = some (mkS M dr x S a, lvS M U a, wP M a, mkX M dr x a, mkB M dr x bu a) := by unfold actR; rw [if_pos rfl, if_pos q]
        have dis := bt_dis.mp q.1
        obtain ⟨o1, o2, o3, o4⟩ := hok _ eR
        have agN : ∀ (g' : TH), (∀ j, j ≠ 2 → g'.I 198 j = g.I 198 j) → agR g' M (mkS M dr x S a) (lvS M U a) S A := by
          intro g' hg' e he w1 w2 w3
          rw [hg' _ (by omega), aa e (by omega)]
          refine ⟨fun o => ?_, fun o => ?_⟩
          · rw [if_neg (fun u => by rw [dis e (by omega) o] at u; exact absurd u.2 (by decide))]
            exact ag e he o (o4 e (by omega) w1 w2 o) w3
          · have : bt (gP M a) e = true := by
              rcases bt_mkS hw ha w1 with y | y
              · unfold lvS at y; rw [bt_and, o] at y; exact absurd y (by simp)
              · exact y
            rw [if_pos ⟨he, this⟩]
        unfold B314_126
        rw [if_neg (fun n => n rfl), rx.1]
        obtain ⟨rx1, rb1, ma1, e81⟩ := work g (wP M a) rx ra (ra.ma hM)
        generalize g.sI 197 41 (W + wP M a) = G at rx1 rb1 ma1 e81 ⊢
        refine S252 a ma1 rfl (by omega) ?_
        have e2G : G.I 198 2 = mkT M S a := by rw [e81]; exact a2
        have lvd : ∀ e, e < 32 → bt (gP M a) e = true → bt (lvS M S a) e = false := fun e he u => lv_no hw ha q.1 he u
        unfold B314_145
        rcases lohi hw ha with ⟨pa, lo⟩ | ⟨npa, l1, l2, l3, l4, l5⟩
        · rw [pa, if_pos rfl]
          unfold B314_165
          refine S313 hw ma1 ha rx1 e2G (fun g2 rb2 rx2 a22 o2' => ?_)
          rw [if_pos (show (-1 : Int32) ≤ nI a from by rw [show (-1 : Int32) = -1 from rfl]; exact Int32.le_iff_toInt_le.mpr (by rw [nI_toInt (by omega)]; show (-1 : Int) ≤ _; omega))]
          refine kt _ eR g2 (rb1.trans rb2) ?_ ?_ ?_ (agN g2 (fun j hj => by rw [o2' j hj, e81]))
          · show RX g2 (W + wP M a) dr (mkX M dr x a) (mkB M dr x bu a)
            unfold mkX mkB; rw [if_pos pa, if_pos pa]; exact rx2
          · show g2.I 198 2 = mkS M dr x S a
            rw [a22]; unfold mkS; rw [if_pos pa]
            exact bu_ar (by omega) (fun e he => by rw [bt_mkT hw ha he, gP_alone pa, bt_bit (by omega)]; simp) (lvd a (by omega) ((gP_mem hw ha).mpr (Or.inl rfl)))
          · rw [o2' 3 (by decide), e81]; exact a3
        · have T2 : ∀ e, e < 32 → (bt (mkT M S a) e = true ↔ bt (lvS M S a) e = true ∨ e = loD M a ∨ e = hiD M a) := by
            intro e he
            rw [bt_mkT hw ha he, gP_mem hw ha]
            have : e = a ∨ (¬ aPa M a = (-1) ∧ (e = loD M a ∨ e = hiD M a)) ↔ (e = loD M a ∨ e = hiD M a) := by
              constructor
              · rintro (u | u)
                · rcases l5 with ⟨v, _⟩ | ⟨v, _⟩
                  · exact Or.inl (u.trans v.symm)
                  · exact Or.inr (u.trans v.symm)
                · exact u.2
              · exact fun u => Or.inr ⟨npa, u⟩
            rw [this]
          have Llo : bt (lvS M S a) (loD M a) = false := lvd _ (by omega) ((gP_mem hw ha).mpr (Or.inr ⟨npa, Or.inl rfl⟩))
          have Lhi : bt (lvS M S a) (hiD M a) = false := lvd _ (by omega) ((gP_mem hw ha).mpr (Or.inr ⟨npa, Or.inr rfl⟩))
          have Lhi2 : bt (arS M dr x (lvS M S a) (loD M a)) (hiD M a) = false := by
            cases e : bt (arS M dr x (lvS M S a) (loD M a)) (hiD M a) with
            | false => rfl
            | true =>
              rcases (bt_arS (by omega)).mp e with u | u
              · rw [Lhi] at u; exact absurd u (by decide)
              · omega
          -- first the one, then the other
          have two : W313 (nI (loD M a)) G (fun h5 => W313 (nI (hiD M a)) h5 (fun h6 => C 1 h6)) := by
            refine S313 hw ma1 l1 rx1 e2G (fun g2 rb2 rx2 a22 o2' => ?_)
            refine S313 hw (rb2.ma ma1) l2 rx2 a22 (fun g3 rb3 rx3 a23 o3' => ?_)
            refine kt _ eR g3 ((rb1.trans rb2).trans rb3) ?_ ?_ ?_ (agN g3 (fun j hj => by rw [o3' j hj, o2' j hj, e81]))
            · show RX g3 (W + wP M a) dr (mkX M dr x a) (mkB M dr x bu a)
              unfold mkX mkB; rw [if_neg npa, if_neg npa]; exact rx3
            · show g3.I 198 2 = mkS M dr x S a
              rw [a23]; unfold mkS; rw [if_neg npa]
              exact bu_ar (by omega) (bu_ar2 (by omega) (by omega) T2 Llo) Lhi2
            · rw [o3' 3 (by decide), o2' 3 (by decide), e81]; exact a3
          rcases l5 with ⟨u, v⟩ | ⟨u, v⟩
          · rw [v, if_neg (nI_ne1 (by omega)), if_pos (nI_le (by omega) (by omega))]
            unfold B314_165
            simp only [if_neg (show ¬ nI (hiD M a) ≤ nI a from nI_ge (by omega) (by omega))]
            rw [u] at two; exact two
          · rw [v, if_neg (nI_ne1 (by omega)), if_neg (nI_ge (by omega) (by omega))]
            unfold B314_165
            simp only [if_pos (show nI (loD M a) ≤ nI a from nI_le (by omega) (by omega))]
            rw [u] at two; exact two
      · unfold B314_92
        rw [if_neg (fun n => n rfl)]
        exact kf (by unfold actR; rw [if_pos rfl, if_neg q]) g ra e8
    · rw [if_pos (show ¬ nI 11 = 13 by decide), if_pos (show ¬ nI 11 = 14 by decide), if_pos (show ¬ nI 11 = 15 by decide), if_pos (show ¬ nI 11 = 10 by decide)]
      obtain ⟨hb1, hb2⟩ := hb rfl
      subst hb2
      refine S273 hw hM e2 e3 sS ha hb1 (fun q g ra a2 a3 aa => ?_) (fun q g ra e8 => ?_)
      · unfold B314_92
        rw [if_pos (by decide), if_pos (show ¬ nI 11 = 10 by decide)]
        refine S251 a 0 (ra.ma hM) rfl rfl (by omega) (by omega) ?_
        have rx := RX_a ra r
        rw [U_po ha h12 hU q (by omega)] at a3
        have eR : actR M dr x bu S U 11 a b = some (poS M dr x S a b, lvP M U a b, aW M a, brX M dr x a, arB M dr x bu a) := by unfold actR; rw [if_neg (by omega), if_pos rfl, if_pos q]
        obtain ⟨o1, o2, o3, o4⟩ := hok _ eR
        unfold B314_126
        rw [if_pos (show ¬ nI 11 = 10 by decide), rx.1]
        obtain ⟨rx1, rb1, ma1, e81⟩ := work g (aW M a) rx ra (ra.ma hM)
        change B314_145 (nI a) (-1) (g.sI 197 41 (W + aW M a)) C
        generalize g.sI 197 41 (W + aW M a) = G at rx1 rb1 ma1 e81 ⊢
        have e2G : G.I 198 2 = poT M S a b := by rw [e81]; exact a2
        unfold B314_145
        rw [if_pos rfl]
        unfold B314_165
        refine S313 hw ma1 ha rx1 e2G (fun g2 rb2 rx2 a22 o2' => ?_)
        rw [if_pos (show (-1 : Int32) ≤ nI a from Int32.le_iff_toInt_le.mpr (by rw [nI_toInt (by omega)]; show (-1 : Int) ≤ _; omega))]
        have inv : ∀ e, e < 32 → (bt (poT M S a b) e = true ↔ bt (lvP M S a b) e = true ∨ e = a) := by
          intro e he
          rw [← poS_0 (x := 0) hw ha q]
          unfold poS
          rw [bt_arS (by omega)]
          exact ⟨fun u => u.imp id (fun v => v.1), fun u => u.imp id (fun v => ⟨v, brn_0⟩)⟩
        have Ld : bt (lvP M S a b) a = false := by unfold lvP; rw [bt_and, q.2.2.1]; rfl
        refine kt _ eR g2 (rb1.trans rb2) rx2 ?_ ?_ (fun e he w1 w2 w3 => ?_)
        · show g2.I 198 2 = poS M dr x S a b
          rw [a22]; exact bu_ar (by omega) inv Ld
        · rw [o2' 3 (by decide), e81]; exact a3
        · rw [o2' _ (by omega), e81, aa e (by omega)]
          refine ⟨fun oo => ?_, fun oo => ?_⟩
          · rw [if_neg (fun u => by rw [u, q.2.2.1] at oo; exact absurd oo (by decide))]
            exact ag e he oo (o4 e (by omega) w1 w2 oo) w3
          · have w1' : bt (poS M dr x S a b) e = true := w1
            rcases (bt_arS (by omega)).mp w1' with y | y
            · unfold lvP at y; rw [bt_and, oo] at y; exact absurd y (by simp)
            · rw [if_pos y.1]
      · unfold B314_92
        rw [if_neg (fun n => n rfl)]
        exact kf (by unfold actR; rw [if_neg (by omega), if_pos rfl, if_neg q]) g ra e8
    · rw [if_neg (fun n => n (show nI 13 = 13 from rfl))]
      refine S274 hw e2 e3 sS ha (fun q g ra a2 a3 aa => ⟨Or.inr rfl, ?_⟩) (fun q => ⟨Or.inl rfl, ?_⟩)
      · have qU : bt U a = false := by rw [bt_made (by omega)] at q; simp at q; exact q.2
        rw [← nob_U (by omega) qU] at a3
        exact kt (nob S a, nob U a, 0, x, bu) (by unfold actR; rw [if_neg (by omega), if_neg (by omega), if_pos rfl, if_pos q]) g ra.b (by rw [w0]; exact RX_a ra r) a2 a3 (agR_keep h12 ag (sub_nob (by omega)) (new_nob (by omega)) aa)
      · exact kf (by unfold actR; rw [if_neg (by omega), if_neg (by omega), if_pos rfl, if_neg (by rw [q]; decide)]) h RAo.refl rfl
    · rw [if_pos (show ¬ nI 14 = 13 by decide), if_neg (fun n => n (show nI 14 = 14 from rfl))]
      refine S275 hw hM e2 e3 sS ha (fun q q2 g ra a2 a3 aa => ⟨Or.inr rfl, ?_⟩) (fun q g ra e8 => ⟨Or.inl rfl, ?_⟩)
      · have both : ∀ e, e < 32 → bt (S ||| ishl 1 (nI a)) e = true → bt (U ||| ishl 1 (nI a)) e = false → bt S e = true ∧ bt U e = false := by
          intro e he w1 w2
          rw [bt_or, bt_bit (by omega)] at w1 w2
          have ed : ¬ e = a := by simp at w2; exact w2.2
          exact ⟨by simpa [ed] using w1, by simpa [ed] using w2⟩
        exact kt (S ||| ishl 1 (nI a), U ||| ishl 1 (nI a), 0, x, bu) (by unfold actR; rw [if_neg (by omega), if_neg (by omega), if_neg (by omega), if_pos rfl, if_pos ⟨q, q2⟩]) g ra.b (by rw [w0]; exact RX_a ra r) a2 a3 (agR_keep h12 ag (fun e he w1 w2 _ => (both e he w1 w2).2) (fun e he w1 w2 => (both e he w1 w2).1) aa)
      · exact kf (by unfold actR; rw [if_neg (by omega), if_neg (by omega), if_neg (by omega), if_pos rfl, if_neg q]) g ra e8
    · rw [if_pos (show ¬ nI 15 = 13 by decide), if_pos (show ¬ nI 15 = 14 by decide), if_neg (fun n => n (show nI 15 = 15 from rfl))]
      refine S276 hw hM e2 e3 sU ha (fun q q2 g ra a2 a3 aa => ⟨Or.inr rfl, ?_⟩) (fun q => ⟨Or.inl rfl, ?_⟩)
      · exact kt (nob S a, nob U a, 0, x, bu) (by unfold actR; rw [if_neg (by omega), if_neg (by omega), if_neg (by omega), if_neg (by omega), if_pos ⟨q, q2⟩]) g ra.b (by rw [w0]; exact RX_a ra r) a2 a3 (agR_keep h12 ag (sub_nob (by omega)) (new_nob (by omega)) aa)
      · exact kf (by unfold actR; rw [if_neg (by omega), if_neg (by omega), if_neg (by omega), if_neg (by omega), if_neg q]) h RAo.refl rfl
  unfold W314
  refine S247 hw hM (fun d hd e => ?_) (fun u => ?_)
  · rw [if_neg (by decide)]
    by_cases w11 : w = 11
    · rw [if_neg (fun n => n (by rw [w11]; rfl))]
      obtain ⟨hb1, hb2⟩ := hb w11
      refine S247 hw hM (fun d hd e => ?_) (fun u => ?_)
      · rw [if_neg (by decide)]; exact go
      · rw [hb2] at u
        rcases u with u | u
        · exact absurd u (nI_pos (by omega))
        · exact absurd u (nI_ge hb1 (by omega))
    · rw [if_pos (show ¬ nI w = 11 from nIw (by unfold isAct at hwa; omega) 11 (by omega) w11)]; exact go
  · rcases u with u | u
    · exact absurd u (nI_pos (by omega))
    · exact absurd u (nI_ge ha (by omega))
end RAF
