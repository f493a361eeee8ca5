/-! THE CLASS READS A PLAN: all of it -/
section CP4
variable {h : TH} {T : Nat → Nat} {z m a1 : Nat} {N : Nat → List Nat} {n0 : Nat} {s : QS}
theorem S102 {C : Int32 → TH → Prop} (c : CPs h T z m a1 N n0 s) (q21 : kd T z s.1 ≠ 21) (k1 : ∀ g s', qStep T z N n0 s = .inr s' → Sm inP h g → CPs g T z m a1 N n0 s' → C 1 g) (k0 : ∀ g e, qStep T z N n0 s = .inl e → Sm inP h g → CFt g e → C 0 g) : W102 a1 h C := by
  have e9 := c.1.2.2.2.2
  unfold W102
  rw [e9]
  by_cases q16 : kd T z s.1 = 16
  · rw [if_pos ((ck_is (x := 16) (w := 16) (by omega) rfl).mpr q16)]
    unfold B102_20
    rw [q16, ck_st 16 (by omega) (by omega)]
    exact S102b c q16 (by unfold isSt; omega) (Or.inl ⟨rfl, by omega⟩) k1 k0
  · rw [if_neg (show ¬ nI (ck (kd T z s.1)) = 16 from fun e => q16 ((ck_is (x := 16) (w := 16) (by omega) rfl).mp e))]
    by_cases q20 : kd T z s.1 = 20
    · rw [if_neg (fun n => n ((ck_is (x := 20) (w := 20) (by omega) rfl).mpr q20))]
      unfold B102_20
      rw [q20, ck_st 20 (by omega) (by omega)]
      exact S102b c q20 (by unfold isSt; omega) (Or.inl ⟨rfl, by omega⟩) k1 k0
    · rw [if_pos (show ¬ nI (ck (kd T z s.1)) = 20 from fun e => q20 ((ck_is (x := 20) (w := 20) (by omega) rfl).mp e))]
      have yes : ∀ w, kd T z s.1 = w → isSt w → ¬ (w = 16 ∨ w = 20) → (fun v1 => if ¬ v1 = 0 then (B102_45 a1 (nI (ck (kd T z s.1))) 0 h C) else (W136 h (fun v2 h3 => (v2 = 0 ∨ v2 = 1) ∧ C v2 h3))) (1 : Int32) := by
        intro w hw hst hno
        show if ¬ (1 : Int32) = 0 then _ else _
        rw [if_pos (by decide), hw, ck_st w (by unfold isSt at hst; omega) (by unfold isSt at hst; omega)]
        exact S102b c hw hst (Or.inr ⟨rfl, hno⟩) k1 k0
      unfold W103
      by_cases q10 : kd T z s.1 = 10
      · rw [if_pos ((ck_is (x := 10) (w := 10) (by omega) rfl).mpr q10)]
        exact yes 10 q10 (by unfold isSt; omega) (by omega)
      rw [if_neg (show ¬ nI (ck (kd T z s.1)) = 10 from fun e => q10 ((ck_is (x := 10) (w := 10) (by omega) rfl).mp e))]
      by_cases q11 : kd T z s.1 = 11
      · rw [if_pos ((ck_is (x := 11) (w := 11) (by omega) rfl).mpr q11)]
        exact yes 11 q11 (by unfold isSt; omega) (by omega)
      rw [if_neg (show ¬ nI (ck (kd T z s.1)) = 11 from fun e => q11 ((ck_is (x := 11) (w := 11) (by omega) rfl).mp e))]
      by_cases q13 : kd T z s.1 = 13
      · rw [if_pos ((ck_is (x := 13) (w := 13) (by omega) rfl).mpr q13)]
        exact yes 13 q13 (by unfold isSt; omega) (by omega)
      rw [if_neg (show ¬ nI (ck (kd T z s.1)) = 13 from fun e => q13 ((ck_is (x := 13) (w := 13) (by omega) rfl).mp e))]
      by_cases q14 : kd T z s.1 = 14
      · rw [if_pos ((ck_is (x := 14) (w := 14) (by omega) rfl).mpr q14)]
        exact yes 14 q14 (by unfold isSt; omega) (by omega)
      rw [if_neg (show ¬ nI (ck (kd T z s.1)) = 14 from fun e => q14 ((ck_is (x := 14) (w := 14) (by omega) rfl).mp e))]
      by_cases q15 : kd T z s.1 = 15
      · rw [if_pos ((ck_is (x := 15) (w := 15) (by omega) rfl).mpr q15)]
        exact yes 15 q15 (by unfold isSt; omega) (by omega)
      rw [if_neg (show ¬ nI (ck (kd T z s.1)) = 15 from fun e => q15 ((ck_is (x := 15) (w := 15) (by omega) rfl).mp e))]
      by_cases q22 : kd T z s.1 = 22
      · rw [if_neg (fun n => n ((ck_is (x := 22) (w := 22) (by omega) rfl).mpr q22))]
        exact yes 22 q22 (by unfold isSt; omega) (by omega)
      rw [if_pos (show ¬ nI (ck (kd T z s.1)) = 22 from fun e => q22 ((ck_is (x := 22) (w := 22) (by omega) rfl).mp e))]
      show if ¬ (0 : Int32) = 0 then _ else _
      rw [if_neg (fun n => n rfl)]
      exact S136 c.1 (fun g s1 f p => ⟨Or.inl rfl, k0 g _ (by unfold qStep; rw [if_neg q21, if_neg (by unfold isSt; omega)]) (p9 s1) p⟩)
theorem S101 {C : Int32 → TH → Prop} (c : CPs h T z m a1 N n0 s) (q21 : kd T z s.1 = 21) (k1 : ∀ g s', qStep T z N n0 s = .inr s' → Sm inP h g → CPs g T z m a1 N n0 s' → C 1 g) (k0 : ∀ g e, qStep T z N n0 s = .inl e → Sm inP h g → CFt g e → C 0 g) : W101 h C := by
  obtain ⟨i, M, cn, st⟩ := s
  obtain ⟨ct, p, e32, e31, e39, cpl, o, cm⟩ := c
  dsimp only at ct p e32 e31 e39 cpl q21
  have n60 := p.n60
  obtain ⟨p2, p3, p4⟩ := p.2.1
  unfold W101
  rw [e31]
  cases st with
  | nil =>
    rw [if_neg (show ¬ (0 : Int32) < nI ([] : List Nat).length by decide)]
    exact S136 ct (fun g s1 f pf => ⟨Or.inl rfl, k0 g _ (by unfold qStep; rw [if_pos q21]) (p9 s1) pf⟩)
  | cons x r =>
    have hlen : (x :: r).length = r.length + 1 := rfl
    obtain ⟨hx, ox⟩ := p.2.2.2.2.2.1 x (by simp)
    have x21 : ¬ kK M x = 21 := fun w => opn_21 w ox
    have hcx : cc M cn x < cn := by have := cc_lt p hx (Nat.le_refl _) x21; rw [cc_n] at this; exact this
    have e39x : h.I 39 r.length = nI (cc M cn x) := e39 _ _ rev_top
    rw [if_pos (show (0 : Int32) < nI (x :: r).length from nI_lt (a := 0) (by rw [hlen]; omega) (by omega)), hlen, nI_pred, I_eq, ix_n (by omega), I_ne (by decide), e39x, I_ne (by decide), e32, ix_n (by omega)]
    refine ⟨inb_n (by omega), inb_n (by omega), fun h1 eh => ?_⟩
    have s1 : Sm inP h h1 := by rw [eh]; exact Sm.sI (S := inP) (Sm.sI (S := inP) Sm.refl (by unfold inP; omega) _) (by unfold inP; omega) _
    have a31 : h1.I 31 3 = nI r.length := by rw [eh, I_ne (by decide), I_eq]
    have a36 : h1.I 36 (cc M cn x) = nI cn := by rw [eh]; exact I_eq
    have aO : ∀ b j, b ≠ 31 → (b ≠ 36 ∨ j ≠ cc M cn x) → h1.I b j = h.I b j := fun b j b1 b2 => by rw [eh, I_sI, if_neg (by omega), I_ne b1]
    have aJ : h1.J 14 = h.J 14 := by rw [eh]; rfl
    have ctH : CTT h1 T z m i := ct.frame (fun j => aO 9 j (by omega) (by omega)) (by funext j; exact aO 12 j (by omega) (by omega)) (by funext j; exact aO 13 j (by omega) (by omega)) aJ
    have oH : okF h1 := ⟨by rw [aO 9 10 (by omega) (by omega)]; exact o.1, by rw [aO 9 11 (by omega) (by omega)]; exact o.2⟩
    clear eh
    refine S133 ctH (by omega) (fun g2 s2 t2 f2 => ?_)
    obtain ⟨M', hM'⟩ : ∃ M', M' = upd (upd (qRow 21 (i, M, cn, x :: r)).2.1 (124 + 5 * qn M + 3) (nI x)) (124 + 5 * x + 3) (nI (qn M)) := ⟨_, rfl⟩
    have eS : qStep T z N n0 (i, M, cn, x :: r) = qSemi T z (i + 1, M', cn, r) := by unfold qStep; rw [if_pos q21, hM']
    refine S137 (w := 33) t2 (by omega) (by omega) (fun q33 g6 s6 t6 f6 => ⟨Or.inr rfl, ?_⟩) (fun q33 g6 s6 f6 p6 => ⟨Or.inl rfl, ?_⟩)
    · have eR : qStep T z N n0 (i, M, cn, x :: r) = .inr (i + 1 + 1, M', cn, r) := by rw [eS]; unfold qSemi; rw [if_pos q33]
      have pi := (qStep_PI eR p).1
      dsimp only at pi
      have smF : Sm inP h g6 := s1.trans ((p9 s2).trans (p9 s6))
      have gO : ∀ b j, b ≠ 9 → b ≠ 31 → (b ≠ 36 ∨ j ≠ cc M cn x) → g6.I b j = h.I b j := fun b j b0 b1 b2 => by rw [s6.I b0, s2.I b0, aO b j b1 b2]
      have mo : ∀ j, j ≠ 6 → j < 124 + 5 * qn M → j ≠ 124 + 5 * x + 3 → M' j = M j := fun j j1 j2 j3 => by rw [hM', pk_un j3, pk_un (by omega)]; exact qRow_o (s := (i, M, cn, x :: r)) j1 (Or.inl j2)
      have eqn : qn M' = qn M + 1 := by
        show ix (M' 6) = _
        rw [hM', pk_un (by omega), pk_un (by omega), qRow_6 (s := (i, M, cn, x :: r))]
        exact ix_n (by show qn M + 1 < 2 ^ 31; omega)
      have mK : ∀ k, k < qn M → kK M' k = kK M k := fun k hk => mo _ (by omega) (by omega) (by omega)
      have mA : ∀ k, k < qn M → kA M' k = kA M k := fun k hk => mo _ (by omega) (by omega) (by omega)
      have mB : ∀ k, k < qn M → kB M' k = kB M k := fun k hk => mo _ (by omega) (by omega) (by omega)
      have mC : ∀ k, k < qn M → kC M' k = kC M k := fun k hk => mo _ (by omega) (by omega) (by omega)
      have mL : ∀ k, k < qn M → k ≠ x → lk M' k = lk M k := fun k hk hkx => by unfold lk kL; rw [mo _ (by omega) (by omega) (by omega)]
      have mLx : lk M' x = qn M := by
        unfold lk kL
        rw [hM', pk_us]; exact ix_n (by omega)
      have mKn : kK M' (qn M) = 21 := by
        show M' (124 + 5 * qn M) = 21
        rw [hM', pk_un (by omega), pk_un (by omega)]
        exact qRow_f (s := (i, M, cn, x :: r)) (w := 21) (f := 0) (by omega)
      have mCn : kC M' (qn M) = nI cn := by
        show M' (124 + 5 * qn M + 4) = nI cn
        rw [hM', pk_un (by omega), pk_un (by omega)]
        exact qRow_f (s := (i, M, cn, x :: r)) (w := 21) (f := 4) (by omega)
      have hcc : ∀ k, k ≤ qn M → cc M' cn k = cc M cn k := fun k hk => by
        unfold cc
        by_cases u : k < qn M
        · rw [if_pos (by omega), if_pos u, mC k u]
        · have ek : k = qn M := by omega
          rw [if_pos (by omega), if_neg u, ek, mCn, ix_n (by omega)]
      refine k1 g6 _ eR smF ⟨t6, pi, ?_, ?_, fun j y hy => ?_, fun k hk h21 => ?_, okF_9 (okF_9 oH f2) f6, CMn_sm cm smF⟩
      · show g6.I 32 1 = nI cn
        rw [gO 32 1 (by omega) (by omega) (by omega)]; exact e32
      · show g6.I 31 3 = nI r.length
        rw [s6.I (by decide), s2.I (by decide)]; exact a31
      · have hy' : r.reverse[j]? = some y := hy
        have hym : y ∈ r := by
          have := List.mem_of_getElem? hy'
          simpa using this
        have hyn := (p.2.2.2.2.2.1 y (by simp [hym])).1
        show g6.I 39 j = nI (cc M' cn y)
        rw [gO 39 j (by omega) (by omega) (by omega), e39 j y (rev_old hy'), hcc y (by omega)]
      · have hk' : k < qn M' := hk
        rw [eqn] at hk'
        have h21' : ¬ kK M' k = 21 := h21
        have u : k < qn M := by
          apply Classical.byContradiction
          intro u
          have ek : k = qn M := by omega
          rw [ek] at h21'; exact h21' mKn
        rw [mK k u] at h21'
        obtain ⟨c1, c2⟩ := cpl k u h21'
        show CRow g6 32 (cc M' cn k) M' k ∧ (opn M' k → k ∉ r → g6.I (32 + 4) (cc M' cn k) = nI (cc M' cn (lk M' k)))
        rw [hcc k (by omega)]
        refine ⟨?_, fun ok hns => ?_⟩
        · unfold CRow at c1 ⊢
          rw [mK k u, mA k u, mB k u, gO (32 + 1) _ (by omega) (by omega) (by omega), gO (32 + 2) _ (by omega) (by omega) (by omega), gO (32 + 3) _ (by omega) (by omega) (by omega)]
          exact c1
        · have ok' : opn M k := (opn_cg (mK k u)).mp ok
          by_cases v : k = x
          · rw [v, mLx, hcc _ (Nat.le_refl _), cc_n]
            show g6.I 36 _ = _
            rw [s6.I (by decide), s2.I (by decide)]; exact a36
          · have hns2 : k ∉ x :: r := by simp [v, hns]
            have hl := (p.2.2.2.2.2.2.2.1 k u ok' hns2).2.1
            have ne : cc M cn k ≠ cc M cn x := by
              rcases Nat.lt_or_gt_of_ne v with y | y
              · have := cc_lt p y (by omega) h21'; omega
              · have := cc_lt p y (by omega) x21; omega
            rw [mL k u v, hcc _ (by omega), gO (32 + 4) _ (by omega) (by omega) (Or.inr ne)]
            exact c2 ok' hns2
    · exact k0 g6 _ (by rw [eS]; unfold qSemi; rw [if_neg q33]) (s1.trans ((p9 s2).trans (p9 s6))) p6
end CP4
