/-! ROUNDS, at the reference: one of them from one state -/
theorem nI_and {a b : Nat} (ha : a < 2 ^ 31) (hb : b < 2 ^ 31) : nI a &&& nI b = nI (a &&& b) := by
  have : a &&& b ≤ a := Nat.and_le_left
  refine bt_ext (fun d hd => ?_)
  rw [bt_and, bt_nI (by omega), bt_nI (by omega), bt_nI (by omega), Nat.testBit_and]
/-- the subsets, downward -/
theorem sub_next : ∀ n x m y : Nat, x ≤ n → x &&& m = x → y &&& m = y → y < x → y ≤ (x - 1) &&& m := by
  intro n
  induction n with
  | zero => intro x m y h1 _ _ h4; omega
  | succ n ih =>
    intro x m y h1 h2 h3 h4
    have hx2 : x / 2 &&& m / 2 = x / 2 := by rw [← Nat.and_div_two, h2]
    have hy2 : y / 2 &&& m / 2 = y / 2 := by rw [← Nat.and_div_two, h3]
    have hyc : y % 2 ≤ m % 2 := by
      have := Nat.and_mod_two_eq_one (a := y) (b := m)
      rw [h3] at this
      omega
    have hxc : x % 2 ≤ m % 2 := by
      have := Nat.and_mod_two_eq_one (a := x) (b := m)
      rw [h2] at this
      omega
    have e1 : ((x - 1) &&& m) / 2 = (x - 1) / 2 &&& m / 2 := Nat.and_div_two
    have e2 : ((x - 1) &&& m) % 2 = 1 ↔ (x - 1) % 2 = 1 ∧ m % 2 = 1 := Nat.and_mod_two_eq_one
    rcases Nat.mod_two_eq_zero_or_one x with z | z
    · have i := ih (x / 2) (m / 2) (y / 2) (by omega) hx2 hy2 (by omega)
      rw [show (x - 1) / 2 = x / 2 - 1 by omega] at e1
      have : (x - 1) % 2 = 1 := by omega
      omega
    · rw [show (x - 1) / 2 = x / 2 by omega, hx2] at e1
      omega
section MRD
variable {h : TH} {M : Nat → Int32} {goal s : Int32} {P : Nat}
theorem ix_sub {a b : Int32} {n : Nat} (hn : n ≤ 12) (ha : St n a) (hb : St n b) (h : sb a b) : ix a &&& ix b = ix a := by
  have la := ha.lt
  have lb := hb.lt
  have p := pow12 hn
  have e : nI (ix a &&& ix b) = nI (ix a) := by
    rw [← nI_and (by omega) (by omega), ← la.2.1, ← lb.2.1]
    refine bt_ext (fun d hd => ?_)
    rw [bt_and]
    cases q : bt a d
    · rfl
    · rw [h d hd q]; rfl
  have l : ix a &&& ix b ≤ ix a := Nat.and_le_left
  exact (nI_eq (by omega) (by omega)).mp e
/-- those that are ready -/
theorem S308r {C : Int32 → TH → Prop} {a3 : Int32} (hw : Wf M) (hM : MA h M) (hs : St (aN M) s) (kk : ∀ m, St (aN M) m → (∀ d, d < 32 → (bt m d = true ↔ d < aN M ∧ rdy M s d)) → B308_76 s goal a3 m 0 m h C) : W308 s goal a3 h C := by
  have h12 := hw.n12
  have eN : h.I 198 (ix 0) = nI (aN M) := by rw [ix_0, hM 0 (by omega)]; exact hw.eN
  unfold W308 B308_6
  refine LFP.up (aN M) (fun j z => z.2.1 = nI j ∧ z.2.2 = h ∧ St (aN M) z.1 ∧ ∀ d, d < 32 → (bt z.1 d = true ↔ d < j ∧ rdy M s d)) ?_ ?_ (Nat.zero_le _) ⟨rfl, rfl, St_0 _, fun d hd => ⟨fun q => by (try dsimp only at q); rw [bt_0] at q; exact absurd q (by decide), fun q => absurd q.1 (Nat.not_lt_zero _)⟩⟩
  · rintro X j ⟨x4, x5, g⟩ hj ⟨e1, e2, e3, e4⟩ ih
    (try dsimp only at e1 e2 e3 e4)
    subst e1 e2
    have no : ¬ rdy M s j → B308_59 s goal a3 (nI j) x4 g C X := by
      intro q
      unfold B308_59 B308_60
      rw [Int32.or_zero]
      refine ih _ ⟨nI_1 j, rfl, e3, fun d hd => ?_⟩
      (try dsimp only)
      rw [e4 d hd]
      constructor
      · rintro ⟨w1, w2⟩; exact ⟨by omega, w2⟩
      · rintro ⟨w1, w2⟩
        rcases Nat.lt_or_ge d j with y | y
        · exact ⟨y, w2⟩
        · rw [show d = j by omega] at w2; exact absurd w2 q
    unfold F308_6
    (try dsimp only)
    rw [eN, if_neg (nI_ge hj (by omega))]
    refine S250 j rfl hs (by omega) (by omega) (fun b => ?_) (fun b => ?_)
    · rw [if_pos (by decide)]
      exact no (fun q => by rw [q.1] at b; exact absurd b (by decide))
    · rw [if_neg (fun q => q rfl)]
      refine S252 j hM rfl (by omega) ?_
      by_cases z : aPa M j = (-1)
      · rw [if_neg (fun q => q z)]
        refine S251 j 4 hM rfl rfl (by omega) (by omega) ?_
        show if ¬ aNe M j &&& (s ^^^ (-1)) = 0 then _ else _
        by_cases z2 : aNe M j &&& (s ^^^ (-1)) = 0
        · rw [if_neg (fun q => q z2)]
          unfold B308_60
          refine ih _ ⟨nI_1 j, rfl, St_or e3 (St_bit hj), fun d hd => ?_⟩
          (try dsimp only)
          rw [bt_or, bt_bit (by omega), Bool.or_eq_true, e4 d hd, decide_eq_true_eq]
          constructor
          · rintro (⟨w1, w2⟩ | w)
            · exact ⟨by omega, w2⟩
            · rw [w]; exact ⟨by omega, b, z, z2⟩
          · rintro ⟨w1, w2⟩
            rcases Nat.lt_or_ge d j with y | y
            · exact Or.inl ⟨y, w2⟩
            · exact Or.inr (by omega)
        · rw [if_pos z2]
          exact no (fun q => z2 q.2.2)
      · rw [if_pos z]
        exact no (fun q => z q.2.1)
  · rintro X ⟨x4, x5, g⟩ ⟨e1, e2, e3, e4⟩
    (try dsimp only at e1 e2 e3 e4)
    subst e1 e2
    unfold F308_6
    (try dsimp only)
    rw [eN, if_pos (nI_le (Nat.le_refl _) (by omega))]
    exact kk x4 e3 e4
/-- what their cooking takes -/
theorem S308u {C : Int32 → TH → Prop} {X76 : Int32 × Int32 × TH → Prop} {a3 x4 x5 x : Int32} (hw : Wf M) (hM : MA h M) (hs : St (aN M) s) (hx : St (aN M) x) (kk : if ¬ x5 = 0 then B308_190 s goal a3 x4 x (h.sI 218 (ix (out M s x)) 1) C X76 else if ¬ goal &&& ((out M s x) ^^^ (-1)) = 0 then B308_195 s goal a3 x4 x 0 (h.sI 218 (ix (out M s x)) 1) C X76 else B308_190 s goal a3 x4 x (h.sI 218 (ix (out M s x)) 1) C X76) : B308_110 s goal a3 x4 x5 x 0 0 h C X76 := by
  have h12 := hw.n12
  have p12 := pow12 h12
  have eN : h.I 198 (ix 0) = nI (aN M) := by rw [ix_0, hM 0 (by omega)]; exact hw.eN
  unfold B308_110
  refine LFP.up (aN M) (fun j z => z.2.1 = nI j ∧ z.2.2 = h ∧ St (aN M) z.1 ∧ ∀ o, o < 32 → (bt z.1 o = true ↔ ∃ e, e < j ∧ bt x e = true ∧ bt (aNe M e) o = true)) ?_ ?_ (Nat.zero_le _) ⟨rfl, rfl, St_0 _, fun d hd => ⟨fun q => by (try dsimp only at q); rw [bt_0] at q; exact absurd q (by decide), fun ⟨e, q, _⟩ => absurd q (Nat.not_lt_zero _)⟩⟩
  · rintro X j ⟨x7, x8, g⟩ hj ⟨e1, e2, e3, e4⟩ ih
    (try dsimp only at e1 e2 e3 e4)
    subst e1 e2
    unfold F308_110
    (try dsimp only)
    rw [eN, if_neg (nI_ge hj (by omega))]
    refine S250 j rfl hx (by omega) (by omega) (fun b => ?_) (fun b => ?_)
    · rw [if_neg (by decide)]
      refine S251 j 4 hM rfl rfl (by omega) (by omega) ?_
      unfold B308_144
      refine ih _ ⟨nI_1 j, rfl, St_or e3 (hw.neN hj), fun o ho => ?_⟩
      (try dsimp only)
      rw [bt_or, Bool.or_eq_true, e4 o ho]
      constructor
      · rintro (⟨e, w1, w2, w3⟩ | w)
        · exact ⟨e, by omega, w2, w3⟩
        · exact ⟨j, by omega, b, w⟩
      · rintro ⟨e, w1, w2, w3⟩
        rcases Nat.lt_or_ge e j with y | y
        · exact Or.inl ⟨e, y, w2, w3⟩
        · rw [show e = j by omega] at w3; exact Or.inr w3
    · rw [if_pos rfl]
      unfold B308_144
      rw [Int32.or_zero]
      refine ih _ ⟨nI_1 j, rfl, e3, fun o ho => ?_⟩
      (try dsimp only)
      rw [e4 o ho]
      constructor
      · rintro ⟨e, w1, w2, w3⟩; exact ⟨e, by omega, w2, w3⟩
      · rintro ⟨e, w1, w2, w3⟩
        rcases Nat.lt_or_ge e j with y | y
        · exact ⟨e, y, w2, w3⟩
        · rw [show e = j by omega, b] at w2; exact absurd w2 (by decide)
  · rintro X ⟨x7, x8, g⟩ ⟨e1, e2, e3, e4⟩
    (try dsimp only at e1 e2 e3 e4)
    subst e1 e2
    have e7 : x7 = unn M x := bt_ext (fun o ho => by
      have a1 := e4 o ho
      have a2 := bt_unn (x := x) (o := o) hw
      cases q : bt x7 o
      · cases q2 : bt (unn M x) o
        · rfl
        · rw [a2.mp q2 |> a1.mpr] at q; exact absurd q (by decide)
      · exact (a2.mpr (a1.mp q)).symm)
    subst e7
    unfold F308_110
    (try dsimp only)
    rw [eN, if_pos (nI_le (Nat.le_refl _) (by omega))]
    refine S256 hw hM e3 ?_
    have os := out_St hw hs hx
    exact ⟨os.inb p12, kk⟩
end MRD
