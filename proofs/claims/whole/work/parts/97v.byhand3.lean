/-! BY HAND: the reference WASHES, TRUSTS, SHOWS; KEEPS; EMPTY -/
section RB3
variable {h : TH} {M : Nat → Int32} {S U W y : Int32} {k i : Nat} {A : Nat → Nat}
theorem nob_U {d : Nat} (hd : d < 32) (q : bt U d = false) : nob U d = U := by
  refine bt_ext (fun e he => ?_)
  rw [bt_nob hd he]
  by_cases w : e = d
  · rw [w, q]; rfl
  · simp [w]
theorem sub_nob {d : Nat} (hd : d < 32) : ∀ e, e < 32 → bt (nob S d) e = true → bt (nob U d) e = false → bt S e = true → bt U e = false := by
  intro e he w1 w2 _
  rw [bt_nob hd he] at w1 w2
  have : ¬ e = d := by simp at w1; exact w1.2
  simpa [this] using w2
theorem new_nob {d : Nat} (hd : d < 32) : ∀ e, e < 32 → bt (nob S d) e = true → bt (nob U d) e = false → bt S e = true := by
  intro e he w1 _
  rw [bt_nob hd he] at w1
  simp at w1; exact w1.1
theorem S279 {C : Int32 → TH → Prop} (hw : Wf M) (hM : MA h M) (c : HMs h M S U W k A) (sS : St (aN M) S) (sU : St (aN M) U) (ab : abd M S U A) (kb : (y < 0 ∨ nI (aN M) ≤ y) → C (-1) (h.sI 197 2 1)) (kf : ∀ d, d < aN M → y = nI d → bt (S &&& (U ^^^ (-1))) d = false → C (-1) (h.sI 197 2 7)) (kt : ∀ d, d < aN M → y = nI d → bt (S &&& (U ^^^ (-1))) d = true → ∀ g, RH h g → HMs g M (stS M (nob S d) (nob U d) S A) (nob U d) W (k + 1) (A3 M S A) → g.I 197 2 = 0 → C (stS M (nob S d) (nob U d) S A) g) : W279 y h C := by
  have h12 := hw.n12
  obtain ⟨e2, e3, e4, e5, ag⟩ := c
  unfold W279
  refine S247 hw hM (fun d hd e => ?_) (fun w => ?_)
  · subst e
    rw [if_pos (by decide)]
    refine S274 hw e2 e3 sS hd (fun q g ra a2 a3 aa => ?_) (fun q => ?_)
    · rw [if_neg (by decide), show ix 2 = 2 from rfl, e2]
      have qU : bt U d = false := by rw [bt_made (by omega)] at q; simp at q; exact q.2
      rw [← nob_U (by omega) qU] at a3
      refine S271 (S := S) (A := A) (W := W) (k := k) hw (ra.ma hM) a2 a3 (by rw [ra.2.2 4 (by decide) (by decide) (by decide)]; exact e4) (by rw [ra.2.2 5 (by decide) (by decide) (by decide)]; exact e5) (St_and _ sS (by omega)) (St_and _ sU (by omega)) sS (agR_keep h12 ag (sub_nob (by omega)) (new_nob (by omega)) aa) (agP_bd hw ab (sub_nob (by omega))) (fun g' rh hms z => ?_)
      rw [show W + 0 = W from Int32.add_zero W] at hms
      exact kt d hd rfl q g' (RH_of ra rh) hms z
    · rw [if_pos rfl]; exact kf d hd rfl q
  · rw [if_neg (fun n => n rfl)]; exact kb w
theorem S280 {C : Int32 → TH → Prop} (hw : Wf M) (hM : MA h M) (c : HMs h M S U W k A) (sS : St (aN M) S) (sU : St (aN M) U) (ab : abd M S U A) (kb : (y < 0 ∨ nI (aN M) ≤ y) → C (-1) (h.sI 197 2 1)) (kf : ∀ d, d < aN M → y = nI d → ¬ (bt S d = false ∧ fitB M (bigK M 0) (S ||| ishl 1 (nI d)) = true) → ∀ g, RAo h g → g.I 198 = h.I 198 → C (-1) (g.sI 197 2 7)) (kt : ∀ d, d < aN M → y = nI d → bt S d = false → fitB M (bigK M 0) (S ||| ishl 1 (nI d)) = true → ∀ g, RH h g → HMs g M (stS M (S ||| ishl 1 (nI d)) (U ||| ishl 1 (nI d)) S A) (U ||| ishl 1 (nI d)) W (k + 1) (A3 M S A) → g.I 197 2 = 0 → C (stS M (S ||| ishl 1 (nI d)) (U ||| ishl 1 (nI d)) S A) g) : W280 y h C := by
  have h12 := hw.n12
  obtain ⟨e2, e3, e4, e5, ag⟩ := c
  unfold W280
  refine S247 hw hM (fun d hd e => ?_) (fun w => ?_)
  · subst e
    rw [if_pos (by decide)]
    refine S275 hw hM e2 e3 sS hd (fun q q2 g ra a2 a3 aa => ?_) (fun q g ra e8 => ?_)
    · rw [if_neg (by decide), show ix 2 = 2 from rfl, e2]
      have both : ∀ e, e < 32 → bt (S ||| ishl 1 (nI d)) e = true → bt (U ||| ishl 1 (nI d)) e = false → bt S e = true ∧ bt U e = false := by
        intro e he w1 w2
        rw [bt_or, bt_bit (by omega)] at w1 w2
        have ed : ¬ e = d := by simp at w2; exact w2.2
        exact ⟨by simpa [ed] using w1, by simpa [ed] using w2⟩
      refine S271 (S := S) (A := A) (W := W) (k := k) hw (ra.ma hM) a2 a3 (by rw [ra.2.2 4 (by decide) (by decide) (by decide)]; exact e4) (by rw [ra.2.2 5 (by decide) (by decide) (by decide)]; exact e5) (St_or sS (St_bit hd (by omega)) (by omega)) (St_or sU (St_bit hd (by omega)) (by omega)) sS (agR_keep h12 ag (fun e he w1 w2 _ => (both e he w1 w2).2) (fun e he w1 w2 => (both e he w1 w2).1) aa) (agP_bd hw ab (fun e he w1 w2 _ => (both e he w1 w2).2)) (fun g' rh hms z => ?_)
      rw [show W + 0 = W from Int32.add_zero W] at hms
      exact kt d hd rfl q q2 g' (RH_of ra rh) hms z
    · rw [if_pos rfl]; exact kf d hd rfl q g ra e8
  · rw [if_neg (fun n => n rfl)]; exact kb w
theorem S281 {C : Int32 → TH → Prop} (hw : Wf M) (hM : MA h M) (c : HMs h M S U W k A) (sS : St (aN M) S) (sU : St (aN M) U) (ab : abd M S U A) (kb : (y < 0 ∨ nI (aN M) ≤ y) → C (-1) (h.sI 197 2 1)) (kf : ∀ d, d < aN M → y = nI d → ¬ (bt U d = true ∧ aNe M d &&& (S ^^^ (-1)) = 0) → C (-1) (h.sI 197 2 7)) (kt : ∀ d, d < aN M → y = nI d → bt U d = true → aNe M d &&& (S ^^^ (-1)) = 0 → ∀ g, RH h g → HMs g M (stS M (nob S d) (nob U d) S A) (nob U d) W (k + 1) (A3 M S A) → g.I 197 2 = 0 → C (stS M (nob S d) (nob U d) S A) g) : W281 y h C := by
  have h12 := hw.n12
  obtain ⟨e2, e3, e4, e5, ag⟩ := c
  unfold W281
  refine S247 hw hM (fun d hd e => ?_) (fun w => ?_)
  · subst e
    rw [if_pos (by decide)]
    refine S276 hw hM e2 e3 sU hd (fun q q2 g ra a2 a3 aa => ?_) (fun q => ?_)
    · rw [if_neg (by decide), show ix 2 = 2 from rfl, e2]
      refine S271 (S := S) (A := A) (W := W) (k := k) hw (ra.ma hM) a2 a3 (by rw [ra.2.2 4 (by decide) (by decide) (by decide)]; exact e4) (by rw [ra.2.2 5 (by decide) (by decide) (by decide)]; exact e5) (St_and _ sS (by omega)) (St_and _ sU (by omega)) sS (agR_keep h12 ag (sub_nob (by omega)) (new_nob (by omega)) aa) (agP_bd hw ab (sub_nob (by omega))) (fun g' rh hms z => ?_)
      rw [show W + 0 = W from Int32.add_zero W] at hms
      exact kt d hd rfl q q2 g' (RH_of ra rh) hms z
    · rw [if_pos rfl]; exact kf d hd rfl q
  · rw [if_neg (fun n => n rfl)]; exact kb w
/-- KEEPS: how many STEPS a DISH still stands -/
def kpA (M : Nat → Int32) (U : Int32) (A : Nat → Nat) (d : Nat) : Int32 := if bt U d = true ∨ aKp M d = 0 then 0 else nI (A d)
theorem S172 {C : Int32 → TH → Prop} (hw : Wf M) (hi : i < 4) (cur : h.I 0 10 = nI i) (hc : CM h (43 + 24 * i) M) (hk : k ≤ 1000000) (c : HCs h (65 + 24 * i) M S U W k A) (sS : St (aN M) S) (sU : St (aN M) U) (kb : (y < 0 ∨ nI (aN M) ≤ y) → C (-1) (h.sI 0 0 1)) (kf : ∀ d, d < aN M → y = nI d → bt S d = false → C (-1) (h.sI 0 0 6)) (kt : ∀ d, d < aN M → y = nI d → bt S d = true → C (kpA M U A d) (h.sI 0 0 0)) : W172 y h C := by
  have h12 := hw.n12
  obtain ⟨e0, e1, e3, e4, e10, sn⟩ := c
  unfold W172
  refine W192_i hi cur (S55 hw hc.r (fun d hd e => ?_) (fun w => ?_))
  · subst e
    rw [if_pos (by decide), cur, ix_n (by omega), e0]
    refine ⟨inb_n hi, ?_⟩
    cases q : bt S d with
    | false =>
      rw [if_neg (fun n => n ((bt_in (by omega)).mpr q))]
      exact kf d hd rfl q
    | true =>
      rw [if_pos ((bt_in' (by omega)).mpr q)]
      refine ⟨inb_n hi, W192_i hi cur ?_⟩
      have kk := kt d hd rfl q
      unfold kpA at kk
      unfold W28 B28_20
      rw [ix_n (by omega), hc.r.kp hd, e1, e4]
      refine ⟨inb_n (by omega), ?_⟩
      by_cases z0 : aKp M d = 0
      · rw [if_pos z0]
        rw [if_pos (Or.inr z0)] at kk; exact kk
      · rw [if_neg z0]
        cases qu : bt U d with
        | true =>
          rw [if_neg (fun n => absurd qu (by rw [(bt_in (by omega)).mp n]; decide))]
          rw [if_pos (Or.inl qu)] at kk; exact kk
        | false =>
          rw [if_pos ((bt_in (by omega)).mpr qu)]
          rw [if_neg (fun u => by rcases u with u | u; rw [qu] at u; exact absurd u (by decide); exact z0 u)] at kk
          obtain ⟨a1, a2, a3, a4⟩ := sn d hd q qu z0
          obtain ⟨k1, k2, k3⟩ := kpN_eq hw hd
          refine ⟨inb_n (by omega), inb_n (by omega), ?_⟩
          rw [a1, k1, pk_sub (by omega), pk_sub (by omega), show kpN M d - (k - (k + A d - kpN M d)) = A d by omega]
          exact kk
  · rw [if_neg (fun n => n rfl)]; exact kb w
theorem S282 {C : Int32 → TH → Prop} (hw : Wf M) (hM : MA h M) (c : HMs h M S U W k A) (sS : St (aN M) S) (sU : St (aN M) U) (kb : (y < 0 ∨ nI (aN M) ≤ y) → C (-1) (h.sI 197 2 1)) (kf : ∀ d, d < aN M → y = nI d → bt S d = false → C (-1) (h.sI 197 2 6)) (kt : ∀ d, d < aN M → y = nI d → bt S d = true → C (kpA M U A d) (h.sI 197 2 0)) : W282 y h C := by
  have h12 := hw.n12
  obtain ⟨e2, e3, e4, e5, ag⟩ := c
  unfold W282
  refine S247 hw hM (fun d hd e => ?_) (fun w => ?_)
  · subst e
    rw [if_pos (by decide), show ix 2 = 2 from rfl, show ix 3 = 3 from rfl, e2, e3]
    refine S250 d rfl sS (by omega) (by omega) (fun q => ?_) (fun q => ?_)
    · rw [if_pos (by decide)]
      have kk := kt d hd rfl q
      unfold kpA at kk
      refine S250 d rfl sU (by omega) (by omega) (fun qu => ?_) (fun qu => ?_)
      · rw [if_pos (by decide)]
        rw [if_pos (Or.inl qu)] at kk; exact kk
      · rw [if_neg (by decide)]
        refine S251 d 2 hM rfl rfl (by omega) (by omega) ?_
        by_cases z0 : M (16 + 8 * d + 2) = 0
        · rw [if_neg (fun n => n z0)]
          rw [if_pos (Or.inr (show aKp M d = 0 from z0))] at kk; exact kk
        · rw [if_pos z0, show (112 : Int32) = nI 112 from rfl, nI_add, ix_n (by omega), ag d hd q qu z0]
          rw [if_neg (fun u => by rcases u with u | u; rw [qu] at u; exact absurd u (by decide); exact z0 u)] at kk
          exact ⟨inb_n (by omega), kk⟩
    · rw [if_neg (by decide)]; exact kf d hd rfl q
  · rw [if_neg (fun n => n rfl)]; exact kb w
/-- an empty HAND -/
theorem S14 {C : TH → Prop} {t : Nat} (k : ∀ g, Sm (fun a => a = t) h g → (∀ j, j < 12 → j ≠ 2 → j ≠ 6 → g.I t j = 0) → g.I t 6 = -1 → (∀ j, (j = 2 ∨ 12 ≤ j) → g.I t j = h.I t j) → C g) : W14 t h C := by
  unfold W14
  intro h1 eh
  have s1 : Sm (fun a => a = t) h h1 := by
    rw [eh]
    exact Sm.sI (S := fun a => a = t) (Sm.sI (S := fun a => a = t) (Sm.sI (S := fun a => a = t) (Sm.sI (S := fun a => a = t) (Sm.sI (S := fun a => a = t) (Sm.sI (S := fun a => a = t) (Sm.sI (S := fun a => a = t) (Sm.sI (S := fun a => a = t) Sm.refl rfl _) rfl _) rfl _) rfl _) rfl _) rfl _) rfl _) rfl _
  have v : ∀ j, h1.I t j = if j = 8 then 0 else if j = 7 then 0 else if j = 6 then -1 else if j = 5 then 0 else if j = 4 then 0 else if j = 3 then 0 else if j = 1 then 0 else if j = 0 then 0 else h.I t j := fun j => by
    rw [eh, I_at, I_at, I_at, I_at, I_at, I_at, I_at, I_at]
  clear eh
  refine k _ (Sm.sI (S := fun a => a = t) (Sm.sI (S := fun a => a = t) (Sm.sI (S := fun a => a = t) s1 rfl _) rfl _) rfl _) (fun j hj h2 h6 => ?_) ?_ (fun j hj => ?_)
  · rw [I_at, I_at, I_at, v]
    rcases (show j = 0 ∨ j = 1 ∨ j = 3 ∨ j = 4 ∨ j = 5 ∨ j = 7 ∨ j = 8 ∨ j = 9 ∨ j = 10 ∨ j = 11 by omega) with rfl | rfl | rfl | rfl | rfl | rfl | rfl | rfl | rfl | rfl <;> rfl
  · rw [I_nk (by decide), I_nk (by decide), I_nk (by decide), v]; rfl
  · rw [I_nk (by omega), I_nk (by omega), I_nk (by omega), v, if_neg (by omega), if_neg (by omega), if_neg (by omega), if_neg (by omega), if_neg (by omega), if_neg (by omega), if_neg (by omega), if_neg (by omega)]
end RB3
