/-! THE RULE OF A TREE, at the reference -/
section MTR
variable {h : TH} {M : Nat → Int32} {A : Nat → Nat} {d j k : Nat}
/-- one more is put in its place -/
theorem S306i {C : Int32 → TH → Prop} {X15 : Int32 × Int32 × TH → Prop} {a1 : Int32} {S : Nat → Prop} {s pk : Nat → Nat} (hk : k < 12) (hj : j < 12) (hA : h.I 215 j = nI (A j) ∧ A j ≤ 1000) (hs : ∀ i, i < k → h.I 216 i = nI (s i) ∧ s i ≤ 1000) (hS : Sd A S s pk k) (hnj : ¬ S j) (kk : ∀ g s' pk', Sm (fun a => a = 216) h g → (∀ i, i < k + 1 → g.I 216 i = nI (s' i) ∧ s' i ≤ 1000) → Sd A (fun o => S o ∨ o = j) s' pk' (k + 1) → X15 (nI (k + 1), nI (j + 1), g)) : B306_39 a1 (nI k) (nI j) (nI k) h C X15 := by
  have place : ∀ p g, p ≤ k → Sm (fun a => a = 216) h g → (∀ i, i < p → g.I 216 i = nI (s i)) → (∀ i, p < i → i ≤ k → g.I 216 i = nI (s (i - 1))) → (∀ i, p ≤ i → i < k → s i < A j) → (∀ i, i < p → A j ≤ s i) → B306_84 a1 (nI k) (nI j) (nI p) g C X15 := by
    intro p g hp e2 e3 e4 e5 e6
    unfold B306_84
    rw [ix_n (by omega), ix_n (by omega), e2.I (by omega), hA.1, nI_1, nI_1]
    refine ⟨inb_n (by omega), inb_n (by omega), kk _ (fun i => if i < p then s i else if i = p then A j else s (i - 1)) (fun i => if i < p then pk i else if i = p then j else pk (i - 1)) (Sm.sI (S := fun a => a = 216) e2 rfl _) (fun i hi => ?_) ⟨fun i hi => ?_, fun a b hab hb q => ?_, fun e he => ?_, fun a b hab hb => ?_⟩⟩
    · (try dsimp only)
      rw [I_at]
      by_cases y : i = p
      · rw [if_pos y, if_neg (by omega), if_pos y]; exact ⟨rfl, hA.2⟩
      · rw [if_neg y]
        by_cases y2 : i < p
        · rw [if_pos y2]; exact ⟨e3 i y2, (hs i (by omega)).2⟩
        · rw [if_neg y2, if_neg y]; exact ⟨e4 i (by omega) (by omega), (hs (i - 1) (by omega)).2⟩
    · (try dsimp only)
      by_cases y2 : i < p
      · rw [if_pos y2, if_pos y2]
        have := hS.1 i (by omega)
        exact ⟨Or.inl this.1, this.2⟩
      · rw [if_neg y2, if_neg y2]
        by_cases y : i = p
        · rw [if_pos y, if_pos y]; exact ⟨Or.inr rfl, rfl⟩
        · rw [if_neg y, if_neg y]
          have := hS.1 (i - 1) (by omega)
          exact ⟨Or.inl this.1, this.2⟩
    · (try dsimp only at q)
      have nj : ∀ i, i < k → pk i ≠ j := fun i hi z => hnj (by rw [← z]; exact (hS.1 i hi).1)
      by_cases y1 : a < p
      · rw [if_pos y1] at q
        by_cases y2 : b < p
        · rw [if_pos y2] at q; exact hS.2.1 a b hab (by omega) q
        · rw [if_neg y2] at q
          by_cases y3 : b = p
          · rw [if_pos y3] at q; exact nj a (by omega) q
          · rw [if_neg y3] at q; exact hS.2.1 a (b - 1) (by omega) (by omega) q
      · rw [if_neg y1, if_neg (show ¬ b < p by omega), if_neg (show ¬ b = p by omega)] at q
        by_cases y3 : a = p
        · rw [if_pos y3] at q; exact nj (b - 1) (by omega) q.symm
        · rw [if_neg y3] at q; exact hS.2.1 (a - 1) (b - 1) (by omega) (by omega) q
    · rcases he with he | he
      · obtain ⟨i, i1, i2⟩ := hS.2.2.1 e he
        by_cases y : i < p
        · exact ⟨i, by omega, by (try dsimp only); rw [if_pos y]; exact i2⟩
        · exact ⟨i + 1, by omega, by (try dsimp only); rw [if_neg (by omega), if_neg (by omega), Nat.add_sub_cancel]; exact i2⟩
      · exact ⟨p, by omega, by (try dsimp only); rw [if_neg (by omega), if_pos rfl]; exact he.symm⟩
    · (try dsimp only)
      by_cases y1 : b < p
      · rw [if_pos y1, if_pos (by omega)]; exact hS.2.2.2 a b hab (by omega)
      · rw [if_neg y1]
        by_cases y2 : b = p
        · rw [if_pos y2]
          by_cases y3 : a < p
          · rw [if_pos y3]; exact e6 a y3
          · rw [if_neg y3, if_pos (by omega)]; exact Nat.le_refl _
        · rw [if_neg y2]
          by_cases y3 : a < p
          · rw [if_pos y3]; exact hS.2.2.2 a (b - 1) (by omega) (by omega)
          · rw [if_neg y3]
            by_cases y4 : a = p
            · rw [if_pos y4]; exact Nat.le_of_lt (e5 (b - 1) (by omega) (by omega))
            · rw [if_neg y4]; exact hS.2.2.2 (a - 1) (b - 1) (by omega) (by omega)
  unfold B306_39
  have h00 : (fun (p : Nat) (z : Int32 × TH) => p ≤ k ∧ z.1 = nI p ∧ Sm (fun a => a = 216) h z.2 ∧ (∀ i, i < p → z.2.I 216 i = nI (s i)) ∧ (∀ i, p < i → i ≤ k → z.2.I 216 i = nI (s (i - 1))) ∧ (∀ i, p ≤ i → i < k → s i < A j)) k (nI k, h) := ⟨Nat.le_refl _, rfl, Sm.refl, fun i hi => (hs i hi).1, fun i z1 z2 => by omega, fun i z1 z2 => by omega⟩
  refine LFP.ix (fun (p : Nat) (z : Int32 × TH) => p ≤ k ∧ z.1 = nI p ∧ Sm (fun a => a = 216) h z.2 ∧ (∀ i, i < p → z.2.I 216 i = nI (s i)) ∧ (∀ i, p < i → i ≤ k → z.2.I 216 i = nI (s (i - 1))) ∧ (∀ i, p ≤ i → i < k → s i < A j)) ?_ h00
  rintro X p ⟨x4, g⟩ ⟨e0, e1, e2, e3, e4, e5⟩ ih
  (try dsimp only at e1 e2 e3 e4)
  subst e1
  unfold F306_39
  (try dsimp only)
  cases p with
  | zero =>
    rw [if_pos (show nI 0 ≤ 0 by decide +kernel)]
    exact place 0 g (Nat.zero_le _) e2 e3 e4 e5 (fun i hi => absurd hi (Nat.not_lt_zero _))
  | succ p =>
    rw [if_neg (nI_nle (by omega) (by omega)), nI_pred, ix_n (by omega), ix_n (by omega), ix_n (by omega), e2.I (by omega), hA.1, e3 p (by omega)]
    refine ⟨inb_n (by omega), inb_n (by omega), ?_⟩
    have sp := (hs p (by omega)).2
    by_cases z : A j ≤ s p
    · rw [if_pos (nI_le z (by omega))]
      refine place (p + 1) g e0 e2 e3 e4 e5 (fun i hi => ?_)
      have := hS.2.2.2 i p (by omega) (by omega)
      omega
    · rw [if_neg (nI_ge (by omega) (by have := hA.2; omega))]
      refine ⟨inb_n (by omega), inb_n (by omega), ih p _ (Nat.lt_succ_self _) ⟨by omega, pk_m1 p, Sm.sI (S := fun a => a = 216) e2 rfl _, fun i hi => ?_, fun i z1 z2 => ?_, fun i z1 z2 => ?_⟩⟩
      · (try dsimp only)
        rw [I_nk (by omega)]; exact e3 i (by omega)
      · (try dsimp only)
        rw [I_at]
        by_cases y : i = p + 1
        · rw [if_pos y, y, Nat.add_sub_cancel]
        · rw [if_neg y]; exact e4 i (by omega) z2
      · rcases Nat.lt_or_ge p i with y | y
        · exact e5 i (by omega) z2
        · rw [show i = p by omega]; omega
theorem S306 {C : Int32 → TH → Prop} {x : Int32} (hw : Wf M) (hM : MA h M) (hx : x = nI d) (hd : d < aN M) (hA : ∀ o, o < d → h.I 215 o = nI (A o) ∧ A o ≤ 1000) (kk : ∀ g v, Sm (fun a => a = 216) h g → isRule M d A v → C (nI v) g) : W306 x h C := by
  have h12 := hw.n12
  have ho := own_le hw hd
  subst hx
  unfold W306
  refine S251 d 4 hM rfl rfl (by omega) (by omega) ?_
  show if ¬ aNe M d = 0 then _ else _
  by_cases z : aNe M d = 0
  · rw [if_neg (fun q => q z)]
    have o1 : own M d = 1 := by
      unfold own
      rw [z, pc_0, if_neg (fun q => (hw.D hd).2.2.2.2.2.2.2.1 q z)]
    have := kk h (own M d) Sm.refl (isRule_0 z)
    rw [o1] at this
    exact this
  · rw [if_pos z]
    unfold B306_15
    refine LFP.up d (fun j z => ∃ k s pk, z.1 = nI k ∧ z.2.1 = nI j ∧ Sm (fun a => a = 216) h z.2.2 ∧ (∀ i, i < k → z.2.2.I 216 i = nI (s i) ∧ s i ≤ 1000) ∧ Sd A (fun o => o < j ∧ bt (aNe M d) o = true) s pk k) ?_ ?_ (Nat.zero_le _) ⟨0, fun _ => 0, fun _ => 0, rfl, rfl, Sm.refl, fun i hi => absurd hi (Nat.not_lt_zero _), fun i hi => absurd hi (Nat.not_lt_zero _), fun a b _ hb => absurd hb (Nat.not_lt_zero _), fun e he => absurd he.1 (Nat.not_lt_zero _), fun a b _ hb => absurd hb (Nat.not_lt_zero _)⟩
    · rintro X j ⟨x2, x3, g⟩ hj ⟨k, s, pk, e1, e2, e3, e4, e5⟩ ih
      (try dsimp only at e1 e2 e3 e4)
      subst e1 e2
      have hM1 : MA g M := hM.sm e3 (by omega)
      have kd : k ≤ j := Sd_k12 e5 (fun e q => q.1)
      unfold F306_15
      (try dsimp only)
      rw [if_neg (nI_ge hj (by omega))]
      refine S251 d 4 hM1 rfl rfl (by omega) (by omega) ?_
      refine S250 j rfl (hw.neN hd) (by omega) (by omega) (fun b => ?_) (fun b => ?_)
      · rw [if_pos (by decide)]
        refine S306i (by omega) (by omega) (by rw [e3.I (by omega)]; exact hA j hj) e4 e5 (fun q => absurd q.1 (Nat.lt_irrefl _)) (fun g' s' pk' l1 l2 l3 => ih _ ⟨k + 1, s', pk', rfl, rfl, e3.trans l1, l2, ?_⟩)
        refine ⟨fun i hi => ?_, l3.2.1, fun e he => l3.2.2.1 e ?_, l3.2.2.2⟩
        · obtain ⟨q1, q2⟩ := l3.1 i hi
          refine ⟨?_, q2⟩
          rcases q1 with q1 | q1
          · exact ⟨by omega, q1.2⟩
          · rw [q1]; exact ⟨by omega, b⟩
        · rcases Nat.lt_or_ge e j with y | y
          · exact Or.inl ⟨y, he.2⟩
          · exact Or.inr (by omega)
      · rw [if_neg (fun q => q rfl)]
        refine ih _ ⟨k, s, pk, rfl, nI_1 j, e3, e4, fun i hi => ?_, e5.2.1, fun e he => e5.2.2.1 e ⟨?_, he.2⟩, e5.2.2.2⟩
        · obtain ⟨q1, q2⟩ := e5.1 i hi
          exact ⟨⟨by omega, q1.2⟩, q2⟩
        · rcases Nat.lt_or_ge e j with y | y
          · exact y
          · have := he.2
            have b' : bt (aNe M d) j = false := b
            rw [show e = j by omega, b'] at this; exact absurd this (by decide)
    · rintro X ⟨x2, x3, g⟩ ⟨k, s, pk, e1, e2, e3, e4, e5⟩
      (try dsimp only at e1 e2 e3 e4)
      subst e1 e2
      have hM1 : MA g M := hM.sm e3 (by omega)
      have kd : k ≤ d := Sd_k12 e5 (fun e q => q.1)
      unfold F306_15
      (try dsimp only)
      rw [if_pos (nI_le (Nat.le_refl _) (by omega))]
      refine S304 hw hM1 d rfl hd ?_
      have rb : ∀ i, i ≤ k → rmx (own M d) s i ≤ 1100 := fun i hi => rmx_le i (by omega) (fun j hj => by
        have := (e4 j (by omega)).2
        omega)
      unfold B306_115
      refine LFP.up k (fun i z => z.1 = nI (rmx (own M d) s i) ∧ z.2.1 = nI i ∧ z.2.2 = g) ?_ ?_ (Nat.zero_le _) ⟨rfl, rfl, rfl⟩
      · rintro X i ⟨y3, y4, g1⟩ hi ⟨f1, f2, f3⟩ ih
        (try dsimp only at f1 f2 f3)
        subst f1 f2 f3
        have r1 := rb i (by omega)
        have r2 := (e4 i hi).2
        unfold F306_115
        (try dsimp only)
        rw [if_neg (nI_ge hi (by omega)), ix_n (by omega), (e4 i hi).1, nI_add, imax_n (by omega) (by omega)]
        exact ⟨inb_n (by omega), ih _ ⟨rfl, nI_1 i, rfl⟩⟩
      · rintro X ⟨y3, y4, g1⟩ ⟨f1, f2, f3⟩
        (try dsimp only at f1 f2 f3)
        subst f1 f2 f3
        unfold F306_115
        (try dsimp only)
        rw [if_pos (nI_le (Nat.le_refl _) (by omega))]
        refine kk g1 _ e3 ⟨s, pk, k, ⟨fun i hi => ?_, e5.2.1, fun e he => e5.2.2.1 e ⟨need_lt hw hd he, he⟩, e5.2.2.2⟩, rfl⟩
        obtain ⟨q1, q2⟩ := e5.1 i hi
        exact ⟨q1.2, q2⟩
end MTR
