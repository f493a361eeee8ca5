section MTS
variable {h : TH} {M : Nat → Int32} {d : Nat} {a : Int32}
def in215 (a : Nat) : Prop := a = 215 ∨ a = 216
theorem S307r {C : Int32 → TH → Prop} (hw : Wf M) (hM : MA h M) (hd : d < aN M) (kk : ∀ g v, Sm in215 h g → RulF M (d + 1) d v → v ≤ 1000 → C (nI v) (g.sI 197 2 0)) : B307_142 (nI d) 0 h C := by
  have h12 := hw.n12
  unfold B307_142
  refine LFP.up (d + 1) (fun j z => z.1 = nI j ∧ Sm in215 h z.2 ∧ ∃ A : Nat → Nat, ∀ e, e < j → RulF M (e + 1) e (A e) ∧ z.2.I 215 e = nI (A e)) ?_ ?_ (Nat.zero_le _) ⟨rfl, Sm.refl, fun _ => 0, fun e he => absurd he (Nat.not_lt_zero _)⟩
  · rintro X j ⟨x3, g⟩ hj ⟨e1, e2, A, e3⟩ ih
    (try dsimp only at e1 e2 e3)
    subst e1
    have hM1 : MA g M := hM.sm e2 (by unfold in215; omega)
    unfold F307_142
    (try dsimp only)
    rw [if_neg (nI_nlt (by omega) (by omega))]
    refine S306 (A := A) hw hM1 rfl (by omega) (fun o ho => ?_) (fun g' v l1 l2 => ?_)
    · obtain ⟨n3, n4⟩ := e3 o ho
      have := RulF_le hw _ o _ (by omega) n3
      exact ⟨n4, by omega⟩
    · have rj := Rul_mk hw (show j < aN M by omega) (fun o q => (e3 o (need_lt hw (by omega) q)).1) l2
      rw [ix_n (by omega)]
      refine ⟨inb_n (by omega), ih _ ⟨nI_1 j, (e2.trans (l1.mono (fun a z => Or.inr z))).sI (Or.inl rfl) _, fun e => if e = j then v else A e, fun e he => ?_⟩⟩
      (try dsimp only)
      rw [I_at]
      by_cases y : e = j
      · rw [if_pos y, if_pos y, y]; exact ⟨rj, rfl⟩
      · rw [if_neg y, if_neg y, l1.I (by omega)]; exact e3 e (by omega)
  · rintro X ⟨x3, g⟩ ⟨e1, e2, A, e3⟩
    (try dsimp only at e1 e2 e3)
    subst e1
    unfold F307_142
    (try dsimp only)
    rw [if_pos (nI_lt (by omega) (by omega)), ix_n (by omega)]
    obtain ⟨r1, r2⟩ := e3 d (by omega)
    have := RulF_le hw _ d _ hd r1
    rw [r2]
    exact ⟨inb_n (by omega), kk g (A d) e2 r1 (by omega)⟩
/-- how many need it -/
theorem S307c {C : Int32 → TH → Prop} {X24 : Int32 × TH → Prop} {x a1 : Int32} (hw : Wf M) (hM : MA h M) (ha : St (aN M) a) (hx : x = nI d) (hd : d < aN M) (kt : (aPa M d = (-1) ∧ aOn M d = 0 ∧ ∀ e e', e < aN M → e' < aN M → bt a e = true → bt a e' = true → bt (aNe M e) d = true → bt (aNe M e') d = true → e = e') → X24 (nI (d + 1), h)) (kf : ¬ (aPa M d = (-1) ∧ aOn M d = 0 ∧ ∀ e e', e < aN M → e' < aN M → bt a e = true → bt a e' = true → bt (aNe M e) d = true → bt (aNe M e') d = true → e = e') → C (-1) (h.sI 197 2 7)) : B307_51 a1 a x 0 0 h C X24 := by
  have h12 := hw.n12
  subst hx
  have eN : h.I 198 (ix 0) = nI (aN M) := by rw [ix_0, hM 0 (by omega)]; exact hw.eN
  have cnt : fb_ct (fun e => bt a e && bt (aNe M e) d) (aN M) ≤ 1 ↔ ∀ e e', e < aN M → e' < aN M → bt a e = true → bt a e' = true → bt (aNe M e) d = true → bt (aNe M e') d = true → e = e' := by
    constructor
    · intro q
      have lem : ∀ e e', e < e' → e' < aN M → bt a e = true → bt a e' = true → bt (aNe M e) d = true → bt (aNe M e') d = true → False := by
        intro e e' h0 h1 h2 h3 h4 h5
        have c1 := fb_ct_upd (fun e => bt a e && bt (aNe M e) d) false (show e < aN M by omega)
        have c2 := fb_ct_pos (p := fun k => if k = e then false else bt a k && bt (aNe M k) d) (n := aN M) |>.mpr ⟨e', h1, by (try dsimp only); rw [if_neg (by omega), h3, h5]; rfl⟩
        (try dsimp only at c1)
        rw [h2, h4] at c1
        simp only [Bool.and_self, if_true, Bool.false_eq_true, if_false] at c1
        omega
      intro e e' h1 h1' h2 h3 h4 h5
      rcases Nat.lt_trichotomy e e' with z | z | z
      · exact (lem e e' z h1' h2 h3 h4 h5).elim
      · exact z
      · exact (lem e' e z h1 h3 h2 h5 h4).elim
    · intro q
      refine Classical.byContradiction (fun z => ?_)
      obtain ⟨i, i1, i2, i3⟩ := fb_ct_kth (p := fun e => bt a e && bt (aNe M e) d) (k := 0) (n := aN M) (by omega)
      obtain ⟨i', i1', i2', i3'⟩ := fb_ct_kth (p := fun e => bt a e && bt (aNe M e) d) (k := 1) (n := aN M) (by omega)
      simp only [Bool.and_eq_true] at i2 i2'
      have := q i i' i1 i1' i2.1 i2'.1 i2.2 i2'.2
      rw [this] at i3
      omega
  unfold B307_51
  refine LFP.up (aN M) (fun j z => z.1 = nI (fb_ct (fun e => bt a e && bt (aNe M e) d) j) ∧ z.2.1 = nI j ∧ z.2.2 = h) ?_ ?_ (Nat.zero_le _) ⟨rfl, rfl, rfl⟩
  · rintro X j ⟨x4, x5, g⟩ hj ⟨e1, e2, e3⟩ ih
    (try dsimp only at e1 e2 e3)
    subst e1 e2 e3
    have es := fb_ct_succ (fun e => bt a e && bt (aNe M e) d) j
    unfold F307_51
    (try dsimp only)
    rw [eN, if_neg (nI_ge hj (by omega))]
    have no : (bt a j && bt (aNe M j) d) = false → B307_91 a1 a (nI d) (nI j) (nI (fb_ct (fun e => bt a e && bt (aNe M e) d) j)) g C X24 X := by
      intro q
      unfold B307_91 B307_92
      refine ih _ ⟨?_, nI_1 j, rfl⟩
      (try dsimp only)
      rw [es, q]
      exact nI_add _ 0
    refine S250 j rfl ha (by omega) (by omega) (fun b => ?_) (fun b => ?_)
    · rw [if_neg (by decide)]
      refine S251 j 4 hM rfl rfl (by omega) (by omega) ?_
      refine S250 d rfl (hw.neN hj) (by omega) (by omega) (fun b2 => ?_) (fun b2 => ?_)
      · rw [if_neg (by decide)]
        unfold B307_92
        refine ih _ ⟨?_, nI_1 j, rfl⟩
        have b2' : bt (aNe M j) d = true := b2
        (try dsimp only)
        rw [es, b, b2']
        exact nI_add _ 1
      · rw [if_pos rfl]
        have b2' : bt (aNe M j) d = false := b2
        exact no (by rw [b2', Bool.and_false])
    · rw [if_pos rfl]
      exact no (by rw [b, Bool.false_and])
  · rintro X ⟨x4, x5, g⟩ ⟨e1, e2, e3⟩
    (try dsimp only at e1 e2 e3)
    subst e1 e2 e3
    have cl : fb_ct (fun e => bt a e && bt (aNe M e) d) (aN M) ≤ aN M := fb_ct_le _ _
    unfold F307_51
    (try dsimp only)
    rw [eN, if_pos (nI_le (Nat.le_refl _) (by omega))]
    refine S252 d hM rfl (by omega) ?_
    by_cases z1 : aPa M d = (-1)
    · rw [if_neg (fun q => q z1)]
      refine S251 d 6 hM rfl rfl (by omega) (by omega) ?_
      show if aOn M d = 1 then _ else _
      by_cases z2 : aOn M d = 1
      · rw [if_pos z2]
        exact kf (fun q => by rw [q.2.1] at z2; exact absurd z2 (by decide))
      · rw [if_neg z2]
        have z2' : aOn M d = 0 := ((hw.D hd).2.2.2.2.2.2.1).resolve_right z2
        by_cases z3 : fb_ct (fun e => bt a e && bt (aNe M e) d) (aN M) ≤ 1
        · rw [if_pos (show nI (fb_ct (fun e => bt a e && bt (aNe M e) d) (aN M)) ≤ 1 from nI_le (b := 1) z3 (by omega)), nI_1]
          exact kt ⟨z1, z2', cnt.mp z3⟩
        · rw [if_neg (show ¬ nI (fb_ct (fun e => bt a e && bt (aNe M e) d) (aN M)) ≤ 1 from nI_ge (a := 1) (by omega) (by omega))]
          exact kf (fun q => z3 (cnt.mpr q.2.2))
    · rw [if_pos z1]
      exact kf (fun q => z1 q.1)
theorem isTr_all (hw : Wf M) (ha : Clo M (ishl 1 (nI d)) a) : isTr M a ↔ ∀ o, o < aN M → bt a o = true → (aPa M o = (-1) ∧ aOn M o = 0 ∧ ∀ e e', e < aN M → e' < aN M → bt a e = true → bt a e' = true → bt (aNe M e) o = true → bt (aNe M e') o = true → e = e') := by
  have h12 := hw.n12
  constructor
  · intro q o ho b
    exact ⟨(q.1 o ho b).1, (q.1 o ho b).2, fun e e' h1 h2 h3 h4 h5 h6 => q.2 e e' o h1 h2 h3 h4 h5 h6⟩
  · intro q
    refine ⟨fun o ho b => ⟨(q o ho b).1, (q o ho b).2.1⟩, fun e e' o h1 h2 h3 h4 h5 h6 => ?_⟩
    have l := need_lt hw h1 h5
    exact (q o (by omega) ((ha.2.2.1 e h1 h3).2 o (by omega) h5)).2.2 e e' h1 h2 h3 h4 h5 h6
theorem S247 {C : Int32 → Prop} {x : Int32} (hw : Wf M) (hM : MA h M) (kt : ∀ d, d < aN M → x = nI d → C 1) (kf : (x < 0 ∨ nI (aN M) ≤ x) → C 0) : W247 x h C := by
  have h12 := hw.n12
  have eN : h.I 198 (ix 0) = nI (aN M) := by rw [ix_0, hM 0 (by omega)]; exact hw.eN
  unfold W247
  rw [eN]
  by_cases z : x < 0
  · rw [if_pos z]; exact kf (Or.inl z)
  · rw [if_neg z]
    by_cases q : nI (aN M) ≤ x
    · rw [if_pos q]; exact kf (Or.inr q)
    · rw [if_neg q]
      rcases pk_ix x (n := aN M) (by omega) with w | w | ⟨d, hd, e⟩
      · exact absurd w z
      · exact absurd w q
      · exact kt d hd e
theorem S307 {C : Int32 → TH → Prop} {x : Int32} (hw : Wf M) (hM : MA h M) (kno : (x < 0 ∨ nI (aN M) ≤ x) → C (-1) (h.sI 197 2 1)) (kt : ∀ d a g v, d < aN M → x = nI d → Clo M (ishl 1 (nI d)) a → isTr M a → Sm in215 h g → RulF M (d + 1) d v → v ≤ 1000 → C (nI v) (g.sI 197 2 0)) (kf : ∀ d a, d < aN M → x = nI d → Clo M (ishl 1 (nI d)) a → ¬ isTr M a → C (-1) (h.sI 197 2 7)) : W307 x h C := by
  have h12 := hw.n12
  have eN : h.I 198 (ix 0) = nI (aN M) := by rw [ix_0, hM 0 (by omega)]; exact hw.eN
  unfold W307
  refine S247 hw hM (fun d hd e => ?_) (fun q => ?_)
  · subst e
    rw [if_pos (by decide)]
    refine S265 hw hM (St_bit hd) (fun a ha => ?_)
    unfold B307_24
    refine LFP.up (aN M) (fun j z => z.1 = nI j ∧ z.2 = h ∧ ∀ o, o < j → bt a o = true → (aPa M o = (-1) ∧ aOn M o = 0 ∧ ∀ e e', e < aN M → e' < aN M → bt a e = true → bt a e' = true → bt (aNe M e) o = true → bt (aNe M e') o = true → e = e')) ?_ ?_ (Nat.zero_le _) ⟨rfl, rfl, fun o ho => absurd ho (Nat.not_lt_zero _)⟩
    · rintro X j ⟨x3, g⟩ hj ⟨e1, e2, e3⟩ ih
      (try dsimp only at e1 e2)
      subst e1 e2
      unfold F307_24
      (try dsimp only)
      rw [eN, if_neg (nI_ge hj (by omega))]
      refine S250 j rfl ha.1 (by omega) (by omega) (fun b => ?_) (fun b => ?_)
      · rw [if_pos (by decide)]
        refine S307c hw hM ha.1 rfl hj (fun q => ih _ ⟨rfl, rfl, fun o ho b2 => ?_⟩) (fun q => ?_)
        · rcases Nat.lt_or_ge o j with y | y
          · exact e3 o y b2
          · rw [show o = j by omega]; exact q
        · exact kf d a hd rfl ha (fun z => q ((isTr_all hw ha).mp z j hj b))
      · rw [if_neg (fun z => z rfl)]
        refine ih _ ⟨nI_1 j, rfl, fun o ho b2 => ?_⟩
        rcases Nat.lt_or_ge o j with y | y
        · exact e3 o y b2
        · rw [show o = j by omega, b] at b2; exact absurd b2 (by decide)
    · rintro X ⟨x3, g⟩ ⟨e1, e2, e3⟩
      (try dsimp only at e1 e2)
      subst e1 e2
      unfold F307_24
      (try dsimp only)
      rw [eN, if_pos (nI_le (Nat.le_refl _) (by omega))]
      exact S307r hw hM hd (fun g' v l1 l2 l3 => kt d a g' v hd rfl ha ((isTr_all hw ha).mpr e3) l1 l2 l3)
  · rw [if_neg (fun z => z rfl)]
    exact kno q
end MTS
