def inRd (a : Nat) : Prop := a = 197 ∨ a = 206 ∨ a = 207 ∨ a = 217 ∨ a = 218
def rdKeep (h g : TH) : Prop := Sm inRd h g ∧ ∀ j, j ≠ 25 → g.I 197 j = h.I 197 j
section MRI
variable {h : TH} {M : Nat → Int32} {goal : Int32} {P : Nat}
theorem S215 {C : Int32 → Prop} {x : Int32} {y z : Int64} (lo hi : Nat) (hl : lo < 2 ^ 31) (hh : hi < 2 ^ 31) (hy : y = lN lo) (hz : z = lN hi) (kt : ∀ p, x = nI p → lo ≤ p → p ≤ hi → C 1) (kf : (x < nI lo ∨ nI hi < x) → C 0) : W215 x.toInt64 y z h C := by
  subst hy hz
  have a1 : x.toInt64 < lN lo ↔ x < nI lo := by rw [Int64.lt_iff_toInt_lt, Int32.lt_iff_toInt_lt, Int32.toInt_toInt64, lN_toInt hl, nI_toInt hl]
  have a2 : lN hi < x.toInt64 ↔ nI hi < x := by rw [Int64.lt_iff_toInt_lt, Int32.lt_iff_toInt_lt, Int32.toInt_toInt64, lN_toInt hh, nI_toInt hh]
  unfold W215
  by_cases z1 : x < nI lo
  · rw [if_pos (lgc_lt.mpr (a1.mpr z1))]; exact kf (Or.inl z1)
  · rw [if_neg (fun q => z1 (a1.mp (lgc_lt.mp q)))]
    by_cases z2 : nI hi < x
    · rw [if_pos (lgc_gt.mpr (a2.mpr z2))]; exact kf (Or.inr z2)
    · rw [if_neg (fun q => z2 (a2.mp (lgc_gt.mp q)))]
      have n0 : ¬ x < 0 := by
        intro q
        rw [Int32.lt_iff_toInt_lt] at q z1
        rw [nI_toInt hl] at z1
        have : (0 : Int32).toInt = 0 := by decide
        omega
      obtain ⟨p, p1, p2⟩ := nI_of n0
      rw [p2, Int32.lt_iff_toInt_lt, nI_toInt p1, nI_toInt hl] at z1
      rw [p2, Int32.lt_iff_toInt_lt, nI_toInt p1, nI_toInt hh] at z2
      exact kt p p2 (by omega) (by omega)
/-- round after round -/
theorem S309r {C : Int32 → TH → Prop} (hw : Wf M) (hM : MA h M) (hf : MFit h M (bigK M 0)) (hP4 : P ≤ 12) (hg0 : ¬ LvGo M (-1) P goal 0) (h01 : is01 h 217 (aN M)) (h17 : ∀ w, w < 2 ^ aN M → (h.I 217 w = 1 ↔ w = 0)) (kk : ∀ g r, Sm in217 h g → Rnd M (-1) P goal r → (∀ k, r = some k → k ≤ 4097) → C (match r with | none => (-1) | some p => nI p) (g.sI 197 2 (match r with | none => 6 | some _ => 0))) : B309_120 goal (nI P) 1 1 h C := by
  have h12 := hw.n12
  have p12 := pow12 h12
  have p0 : 0 < 2 ^ aN M := Nat.pow_pos (by omega)
  unfold B309_120
  have h00 : (fun (k : Nat) (z : Int32 × Int32 × TH) => Sm in217 h z.2.2 ∧ ((z.1 = 0 ∧ ∀ q, ¬ LvGo M (-1) P goal q) ∨ (¬ z.1 = 0 ∧ ∃ r, z.2.1 = nI (r + 1) ∧ is01 z.2.2 217 (aN M) ∧ (∀ w, w < 2 ^ aN M → (z.2.2.I 217 w = 1 ↔ Lv M (-1) P r (nI w))) ∧ ¬ LvGo M (-1) P goal r ∧ (∀ k, k < r → ¬ LvGo M (-1) P goal k) ∧ r < fb_ct (fun w => decide (z.2.2.I 217 w = 1)) (2 ^ aN M) ∧ k + fb_ct (fun w => decide (z.2.2.I 217 w = 1)) (2 ^ aN M) = 4097))) (4097 - fb_ct (fun w => decide (h.I 217 w = 1)) (2 ^ aN M)) ((1 : Int32), (1 : Int32), h) := by
    have c := fb_ct_le (fun w => decide (h.I 217 w = 1)) (2 ^ aN M)
    refine ⟨Sm.refl, Or.inr ⟨fun q => absurd (show (1 : Int32) = 0 from q) (by decide), 0, rfl, h01, fun w hw' => (h17 w hw').trans ?_, hg0, fun k hk => absurd hk (Nat.not_lt_zero _), ?_, ?_⟩⟩
    · constructor
      · intro q; rw [q]; rfl
      · intro q
        have q : nI w = 0 := q
        rw [show (0 : Int32) = nI 0 from rfl, nI_eq (by omega) (by omega)] at q
        exact q
    · refine fb_ct_pos.mpr ⟨0, p0, ?_⟩
      exact decide_eq_true ((h17 0 p0).mpr rfl)
    · (try dsimp only)
      omega
  refine LFP.ix (fun (k : Nat) (z : Int32 × Int32 × TH) => Sm in217 h z.2.2 ∧ ((z.1 = 0 ∧ ∀ q, ¬ LvGo M (-1) P goal q) ∨ (¬ z.1 = 0 ∧ ∃ r, z.2.1 = nI (r + 1) ∧ is01 z.2.2 217 (aN M) ∧ (∀ w, w < 2 ^ aN M → (z.2.2.I 217 w = 1 ↔ Lv M (-1) P r (nI w))) ∧ ¬ LvGo M (-1) P goal r ∧ (∀ k, k < r → ¬ LvGo M (-1) P goal k) ∧ r < fb_ct (fun w => decide (z.2.2.I 217 w = 1)) (2 ^ aN M) ∧ k + fb_ct (fun w => decide (z.2.2.I 217 w = 1)) (2 ^ aN M) = 4097))) ?_ h00
  rintro X k ⟨x3, x4, g⟩ ⟨e1, e2⟩ ih
  (try dsimp only at e1 e2)
  unfold F309_120
  (try dsimp only)
  rcases e2 with ⟨z, no⟩ | ⟨z, r, f1, f2, f3, f4, f5, f6, f7⟩
  · rw [if_pos z]
    exact kk g none e1 no (fun k q => absurd q (by simp))
  · subst f1
    rw [if_neg z]
    have cb := fb_ct_le (fun w => decide (g.I 217 w = 1)) (2 ^ aN M)
    have hM1 : MA g M := hM.sm e1 (by unfold in217; omega)
    have hf1 : MFit g M (bigK M 0) := hf.sm e1 (by unfold in217; omega)
    refine S309c hw hM1 f2 (fun g1 l1 l2 => ?_)
    have hM2 : MA g1 M := hM1.sm l1 (by omega)
    have i17 : g1.I 217 = g.I 217 := l1.I (by omega)
    refine S309s (Q := Lv M (-1) P r) hw hM2 (hf1.sm l1 (by omega)) rfl hP4 (fun w hw' => by rw [i17]; exact f2 w hw') (fun w hw' => by rw [i17]; exact f3 w hw') (fun w hw' => by rw [i17]; exact l2 w hw') (fun g2 s x m1 m2 m3 m4 m5 => ?_) (fun g2 m1 m2 m3 m4 => ?_)
    · have := kk g2 (some (r + 1)) (e1.trans ((l1.trans m1).mono (fun a z => Or.inr z))) ⟨⟨_, Lv_step m3 m4, m5⟩, fun k hk => ?_⟩ (fun k q => by cases q; omega)
      · exact this
      · rcases Nat.lt_or_ge k r with y | y
        · exact f5 k y
        · rw [show k = r by omega]; exact f4
    · have hM3 : MA g2 M := hM2.sm m1 (by omega)
      have j17 : g2.I 217 = g.I 217 := by rw [m1.I (by omega), i17]
      have ng : ¬ LvGo M (-1) P goal (r + 1) := by
        intro q
        obtain ⟨s, x, w1, w2, w3⟩ := (LvGo_step f4 hw).mp q
        by_cases x0 : x = 0
        · rw [x0, out_0 hw] at w3
          exact f4 ⟨s, w1, w3⟩
        · exact m4 s x (Lv_St hw r s w1) w1 x0 w2 w3
      refine S309d hw hM3 m2 (fun w hw' => by rw [j17]; exact f2 w hw') (fun g3 y3 n1 n2 n3 n4 n5 => ?_)
      have hM4 : MA g3 M := hM3.sm n1 (by omega)
      /- it is the next one -/
      have lv : ∀ w, w < 2 ^ aN M → (g3.I 218 w = 1 ↔ Lv M (-1) P (r + 1) (nI w)) := by
        intro w hw'
        rw [n3 w hw']
        constructor
        · rintro ⟨v, v1, v2, v3⟩
          rcases (m3 v v1).mp v2 with q | ⟨s, x, q1, q2, q3, q4, q5⟩
          · exact Lv_sub (Lv_up hw q) v3
          · have := Lv_step q2 q4
            rw [q5] at this
            exact Lv_sub this v3
        · rintro ⟨s0, x, q1, q2, q3⟩
          have s0S := Lv_St hw r s0 q1
          by_cases x0 : x = 0
          · rw [x0, out_0 hw] at q3
            have l := s0S.lt
            refine ⟨ix s0, l.1, (m3 _ l.1).mpr (Or.inl ?_), ?_⟩
            · rw [← l.2.1]; exact q1
            · rw [← l.2.1]; exact q3
          · have st := q2.resolve_left x0
            have l := (out_St hw s0S st.1).lt
            refine ⟨ix (out M s0 x), l.1, (m3 _ l.1).mpr (Or.inr ⟨s0, x, s0S, q1, x0, st, l.2.1⟩), ?_⟩
            rw [← l.2.1]; exact q3
      refine S309n hw hM4 n2 (fun g4 o1 o2 => ?_)
      have sm4 : Sm in217 h g4 := e1.trans ((((l1.trans m1).trans n1).mono (fun a z => Or.inr z)).trans (o1.mono (fun a z => Or.inl z)))
      rcases n4 with n4 | n4
      · have fx : ∀ s, Lv M (-1) P (r + 1) s → Lv M (-1) P r s := by
          intro s q
          have l := (Lv_St hw _ s q).lt
          rw [l.2.1] at q ⊢
          refine (f3 _ l.1).mp ?_
          rcases f2 _ l.1 with w | w
          · have := n5.mpr ⟨ix s, l.1, (lv _ l.1).mpr q, by rw [j17]; exact w⟩
            rw [this] at n4; exact absurd n4 (by decide)
          · exact w
        refine ih 0 _ (by omega) ⟨sm4, Or.inl ⟨n4, fun q => ?_⟩⟩
        rintro ⟨s, w1, w2⟩
        rcases Nat.lt_or_ge q r with y | y
        · exact f5 q y ⟨s, w1, w2⟩
        · exact f4 ⟨s, Lv_fix hw fx (q - r) s (by rw [show r + (q - r) = q by omega]; exact w1), w2⟩
      · obtain ⟨v, v1, v2, v3⟩ := n5.mp n4
        rw [j17] at v3
        have c1 : fb_ct (fun w => decide (g.I 217 w = 1)) (2 ^ aN M) + 1 ≤ fb_ct (fun w => decide (g4.I 217 w = 1)) (2 ^ aN M) := by
          have u := fb_ct_upd (fun w => decide (g.I 217 w = 1)) true v1
          (try dsimp only at u)
          rw [decide_eq_false (show ¬ g.I 217 v = 1 by rw [v3]; decide)] at u
          simp only [if_true, Bool.false_eq_true, if_false] at u
          have s := fb_ct_sub (p := fun k => if k = v then true else decide (g.I 217 k = 1)) (q := fun w => decide (g4.I 217 w = 1)) (n := 2 ^ aN M) (fun w hw' q => by
            (try dsimp only at q ⊢)
            refine decide_eq_true ?_
            rw [o2 w hw', lv w hw']
            by_cases y : w = v
            · rw [y]; exact (lv v v1).mp v2
            · rw [if_neg y, decide_eq_true_eq] at q
              exact Lv_up hw ((f3 w hw').mp q))
          omega
        have cb4 := fb_ct_le (fun w => decide (g4.I 217 w = 1)) (2 ^ aN M)
        refine ih (4097 - fb_ct (fun w => decide (g4.I 217 w = 1)) (2 ^ aN M)) _ (by omega) ⟨sm4, Or.inr ⟨by rw [n4]; exact fun q => absurd (show (1 : Int32) = 0 from q) (by decide), r + 1, nI_1 (r + 1), fun w hw' => ?_, fun w hw' => ?_, ng, fun k hk => ?_, by (try dsimp only); omega, by (try dsimp only); omega⟩⟩
        · (try dsimp only); rw [o2 w hw']; exact n2 w hw'
        · (try dsimp only); rw [o2 w hw']; exact lv w hw'
        · rcases Nat.lt_or_ge k r with y | y
          · exact f5 k y
          · rw [show k = r by omega]; exact f4
end MRI
