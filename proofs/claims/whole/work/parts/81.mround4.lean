section MRH
variable {h : TH} {M : Nat → Int32} {goal : Int32} {P : Nat}
theorem wash_le {n v d : Nat} (hn : n ≤ 12) (hv : v < 2 ^ n) : St n (nI v &&& (ishl 1 (nI d) ^^^ (-1))) ∧ ix (nI v &&& (ishl 1 (nI d) ^^^ (-1))) ≤ v := by
  have p := pow12 hn
  have s1 : St n (nI v) := ⟨v, hv, rfl⟩
  have s2 : St n (nI v &&& (ishl 1 (nI d) ^^^ (-1))) := St_and _ s1
  refine ⟨s2, ?_⟩
  have := ix_sub hn s2 s1 (sb_and _ _)
  rw [ix_n (j := v) (by omega)] at this
  have l : ix (nI v &&& (ishl 1 (nI d) ^^^ (-1))) &&& v ≤ v := Nat.and_le_right
  omega
/-- one state is washed -/
theorem S309w {C : Int32 → TH → Prop} {X120 X212 : Int32 × Int32 × TH → Prop} {a2 x3 x4 : Int32} {v : Nat} (hw : Wf M) (hM : MA h M) (hv : v < 2 ^ aN M) (h01 : is01 h 218 (aN M)) (kk : ∀ g, Sm (fun a => a = 218) h g → is01 g 218 (aN M) → (∀ w, w < 2 ^ aN M → (g.I 218 w = 1 ↔ h.I 218 w = 1 ∨ (h.I 218 v = 1 ∧ ∃ d, d < aN M ∧ w = ix (nI v &&& (ishl 1 (nI d) ^^^ (-1)))))) → B309_262 goal a2 x3 x4 (nI v) g C X120 X212) : B309_220 goal a2 x3 x4 (nI v) 0 h C X120 X212 := by
  have h12 := hw.n12
  have p12 := pow12 h12
  unfold B309_220
  refine LFP.up (aN M) (fun j z => z.1 = nI j ∧ Sm (fun a => a = 218) h z.2 ∧ is01 z.2 218 (aN M) ∧ (∀ w, w < 2 ^ aN M → (z.2.I 218 w = 1 ↔ h.I 218 w = 1 ∨ (h.I 218 v = 1 ∧ ∃ d, d < j ∧ w = ix (nI v &&& (ishl 1 (nI d) ^^^ (-1))))))) ?_ ?_ (Nat.zero_le _) ⟨rfl, Sm.refl, h01, fun w hw' => ⟨Or.inl, fun q => q.elim id (fun q => by obtain ⟨_, d, hd, _⟩ := q; exact absurd hd (Nat.not_lt_zero _))⟩⟩
  · rintro X j ⟨x6, g⟩ hj ⟨e1, e2, e3, e4⟩ ih
    (try dsimp only at e1 e2 e3 e4)
    subst e1
    have hM1 := hM.sm e2 (by omega)
    have eN : g.I 198 (ix 0) = nI (aN M) := by rw [ix_0, hM1 0 (by omega)]; exact hw.eN
    unfold F309_220
    (try dsimp only)
    rw [eN, if_neg (nI_ge hj (by omega)), ix_n (by omega)]
    refine ⟨inb_n (by omega), ?_⟩
    rcases e3 v hv with z | z
    · rw [if_pos z]
      have nv : ¬ h.I 218 v = 1 := fun q => by rw [(e4 v hv).mpr (Or.inl q)] at z; exact absurd z (by decide)
      refine kk g e2 e3 (fun w hw' => (e4 w hw').trans ⟨fun q => q.elim Or.inl (fun q => absurd q.1 nv), fun q => q.elim Or.inl (fun q => absurd q.1 nv)⟩)
    · rw [if_neg (by rw [z]; decide)]
      have yv : h.I 218 v = 1 := by
        rcases (e4 v hv).mp z with q | q
        · exact q
        · exact q.1
      obtain ⟨s1, s2⟩ := wash_le (d := j) h12 hv
      refine ⟨s1.inb p12, ih _ ⟨nI_1 j, Sm.sI (S := fun a => a = 218) e2 rfl _, fun w hw' => ?_, fun w hw' => ?_⟩⟩
      · (try dsimp only)
        rw [I_at]
        by_cases q : w = ix (nI v &&& (ishl 1 (nI j) ^^^ (-1)))
        · rw [if_pos q]; exact Or.inr rfl
        · rw [if_neg q]; exact e3 w hw'
      · (try dsimp only)
        rw [I_at]
        by_cases q : w = ix (nI v &&& (ishl 1 (nI j) ^^^ (-1)))
        · rw [if_pos q]
          exact ⟨fun _ => Or.inr ⟨yv, j, by omega, q⟩, fun _ => rfl⟩
        · rw [if_neg q, e4 w hw']
          constructor
          · rintro (w1 | ⟨w1, d, w2, w3⟩)
            · exact Or.inl w1
            · exact Or.inr ⟨w1, d, by omega, w3⟩
          · rintro (w1 | ⟨w1, d, w2, w3⟩)
            · exact Or.inl w1
            · rcases Nat.lt_or_ge d j with y | y
              · exact Or.inr ⟨w1, d, y, w3⟩
              · rw [show d = j by omega] at w3; exact absurd w3 q
  · rintro X ⟨x6, g⟩ ⟨e1, e2, e3, e4⟩
    (try dsimp only at e1 e2 e3 e4)
    subst e1
    have hM1 := hM.sm e2 (by omega)
    have eN : g.I 198 (ix 0) = nI (aN M) := by rw [ix_0, hM1 0 (by omega)]; exact hw.eN
    unfold F309_220
    (try dsimp only)
    rw [eN, if_pos (nI_le (Nat.le_refl _) (by omega))]
    exact kk g e2 e3 e4
/-- all states are washed, the greatest first -/
theorem S309d {C : Int32 → TH → Prop} {X120 : Int32 × Int32 × TH → Prop} {a2 x4 : Int32} (hw : Wf M) (hM : MA h M) (h01 : is01 h 218 (aN M)) (h17 : is01 h 217 (aN M)) (kk : ∀ g x3, Sm (fun a => a = 218) h g → is01 g 218 (aN M) → (∀ w, w < 2 ^ aN M → (g.I 218 w = 1 ↔ ∃ v, v < 2 ^ aN M ∧ h.I 218 v = 1 ∧ sb (nI w) (nI v))) → (x3 = 0 ∨ x3 = 1) → (x3 = 1 ↔ ∃ v, v < 2 ^ aN M ∧ g.I 218 v = 1 ∧ h.I 217 v = 0) → B309_301 goal a2 x3 x4 0 g C X120) : B309_212 goal a2 x4 0 (nI (2 ^ aN M) - 1) h C X120 := by
  have h12 := hw.n12
  have p12 := pow12 h12
  unfold B309_212
  have h00 : (fun (j : Nat) (z : Int32 × Int32 × TH) => j ≤ 2 ^ aN M ∧ z.2.1 = nI j - 1 ∧ Sm (fun a => a = 218) h z.2.2 ∧ is01 z.2.2 218 (aN M) ∧ (∀ w, w < 2 ^ aN M → z.2.2.I 218 w = 1 → ∃ v, v < 2 ^ aN M ∧ h.I 218 v = 1 ∧ sb (nI w) (nI v)) ∧ (∀ w, w < 2 ^ aN M → h.I 218 w = 1 → z.2.2.I 218 w = 1) ∧ (∀ v, j ≤ v → v < 2 ^ aN M → z.2.2.I 218 v = 1 → ∀ d, d < aN M → z.2.2.I 218 (ix (nI v &&& (ishl 1 (nI d) ^^^ (-1)))) = 1) ∧ (z.1 = 0 ∨ z.1 = 1) ∧ (z.1 = 1 ↔ ∃ v, j ≤ v ∧ v < 2 ^ aN M ∧ z.2.2.I 218 v = 1 ∧ h.I 217 v = 0)) (2 ^ aN M) ((0 : Int32), nI (2 ^ aN M) - 1, h) := ⟨Nat.le_refl _, rfl, Sm.refl, h01, fun w hw' q => ⟨w, hw', q, sb_refl _⟩, fun w _ q => q, fun v z1 z2 => by omega, Or.inl rfl, ⟨fun q => absurd (show (0 : Int32) = 1 from q) (by decide), fun ⟨v, z1, z2, _⟩ => by omega⟩⟩
  refine LFP.ix (fun (j : Nat) (z : Int32 × Int32 × TH) => j ≤ 2 ^ aN M ∧ z.2.1 = nI j - 1 ∧ Sm (fun a => a = 218) h z.2.2 ∧ is01 z.2.2 218 (aN M) ∧ (∀ w, w < 2 ^ aN M → z.2.2.I 218 w = 1 → ∃ v, v < 2 ^ aN M ∧ h.I 218 v = 1 ∧ sb (nI w) (nI v)) ∧ (∀ w, w < 2 ^ aN M → h.I 218 w = 1 → z.2.2.I 218 w = 1) ∧ (∀ v, j ≤ v → v < 2 ^ aN M → z.2.2.I 218 v = 1 → ∀ d, d < aN M → z.2.2.I 218 (ix (nI v &&& (ishl 1 (nI d) ^^^ (-1)))) = 1) ∧ (z.1 = 0 ∨ z.1 = 1) ∧ (z.1 = 1 ↔ ∃ v, j ≤ v ∧ v < 2 ^ aN M ∧ z.2.2.I 218 v = 1 ∧ h.I 217 v = 0)) ?_ h00
  rintro X j ⟨x3, x5, g⟩ ⟨e1, e2, e3, e4, e5, e6, e7, e8, e9⟩ ih
  (try dsimp only at e2 e3 e4 e5 e6 e7 e8 e9)
  subst e2
  unfold F309_212
  (try dsimp only)
  cases j with
  | zero =>
    rw [if_pos nI_0s]
    refine kk g x3 e3 e4 (fun w hw' => ⟨e5 w hw', fun ⟨v, v1, v2, v3⟩ => ?_⟩) e8 (e9.trans ⟨fun ⟨v, _, z⟩ => ⟨v, z⟩, fun ⟨v, z⟩ => ⟨v, Nat.zero_le _, z⟩⟩)
    have := sub_closed (n := aN M) h12 (Q := fun s => g.I 218 (ix s) = 1) (fun s hs q d hd => by
      obtain ⟨u, u1, u2⟩ := hs
      subst u2
      rw [ix_n (by omega)] at q
      exact e7 u (Nat.zero_le _) u1 q d hd) 12 (nI v) (nI w) (pc_le _) ⟨v, v1, rfl⟩ (by (try dsimp only); rw [ix_n (by omega)]; exact e6 v v1 v2) v3
    (try dsimp only at this)
    rw [ix_n (by omega)] at this
    exact this
  | succ j =>
    rw [nI_pred, if_neg (nI_pos (by omega))]
    refine S309w hw (hM.sm e3 (by omega)) (by omega) e4 (fun g' l1 l2 l3 => ?_)
    have big : ∀ v, j ≤ v → v < 2 ^ aN M → (g'.I 218 v = 1 ↔ g.I 218 v = 1) := by
      intro v z1 z2
      rw [l3 v z2]
      constructor
      · rintro (q | ⟨q, d, q2, q3⟩)
        · exact q
        · have := (wash_le (v := j) (d := d) h12 (by omega)).2
          rw [show v = j by omega]; exact q
      · exact Or.inl
    have nx : nI j + (-1) = nI j - 1 := by rw [Int32.sub_eq_add_neg]
    have fin : ∀ y : Int32, (y = 0 ∨ y = 1) → (y = 1 ↔ x3 = 1 ∨ (g'.I 218 j = 1 ∧ h.I 217 j = 0)) → X (y, nI j - 1, g') := by
      intro y y1 y2
      refine ih j _ (Nat.lt_succ_self _) ⟨by omega, rfl, e3.trans l1, l2, fun w hw' q => ?_, fun w hw' q => (l3 w hw').mpr (Or.inl (e6 w hw' q)), fun v z1 z2 q d hd => ?_, y1, y2.trans ?_⟩
      · rcases (l3 w hw').mp q with q | ⟨q, d, q2, q3⟩
        · exact e5 w hw' q
        · obtain ⟨v, v1, v2, v3⟩ := e5 j (by omega) q
          refine ⟨v, v1, v2, sb_trans ?_ v3⟩
          have s1 := (wash_le (v := j) (d := d) h12 (by omega)).1
          rw [q3, ← s1.lt.2.1]
          exact sb_and _ _
      · (try dsimp only at q ⊢)
        obtain ⟨s1, s2⟩ := wash_le (v := v) (d := d) h12 z2
        refine (l3 _ (by omega)).mpr ?_
        have qq := (big v z1 z2).mp q
        rcases Nat.lt_or_ge j v with w | w
        · exact Or.inl (e7 v w z2 qq d hd)
        · have : v = j := by omega
          rw [this] at qq ⊢
          exact Or.inr ⟨qq, d, hd, rfl⟩
      · rw [e9]
        (try dsimp only)
        constructor
        · rintro (⟨v, z1, z2, z3, z4⟩ | ⟨z1, z2⟩)
          · exact ⟨v, by omega, z2, (big v (by omega) z2).mpr z3, z4⟩
          · exact ⟨j, Nat.le_refl _, by omega, z1, z2⟩
        · rintro ⟨v, z1, z2, z3, z4⟩
          rcases Nat.lt_or_ge j v with w | w
          · exact Or.inl ⟨v, w, z2, (big v z1 z2).mp z3, z4⟩
          · have : v = j := by omega
            rw [this] at z3 z4
            exact Or.inr ⟨z3, z4⟩
    have i17 : g'.I 217 = h.I 217 := by rw [l1.I (by omega), e3.I (by omega)]
    unfold B309_262 B309_286 B309_290
    rw [nx]
    by_cases zf : x3 = 0
    · rw [if_neg (fun q => q zf), ix_n (by omega), i17]
      have x1 : ¬ x3 = 1 := fun q => by rw [zf] at q; exact absurd q (by decide)
      refine ⟨inb_n (by omega), ?_⟩
      rcases l2 j (by omega) with z | z
      · rw [if_pos z]
        exact fin 0 (Or.inl rfl) ⟨fun q => absurd q (by decide), fun q => q.elim (fun q => absurd q x1) (fun q => by rw [q.1] at z; exact absurd z (by decide))⟩
      · rw [if_neg (by rw [z]; decide)]
        refine ⟨inb_n (by omega), ?_⟩
        rcases h17 j (by omega) with y | y
        · rw [if_neg (fun q => q y)]
          exact fin 1 (Or.inr rfl) ⟨fun _ => Or.inr ⟨z, y⟩, fun _ => rfl⟩
        · rw [if_pos (by rw [y]; decide)]
          exact fin 0 (Or.inl rfl) ⟨fun q => absurd q (by decide), fun q => q.elim (fun q => absurd q x1) (fun q => by rw [q.2] at y; exact absurd y (by decide))⟩
    · rw [if_pos zf]
      exact fin 1 (Or.inr rfl) ⟨fun _ => Or.inl (e8.resolve_left zf), fun _ => rfl⟩
end MRH
