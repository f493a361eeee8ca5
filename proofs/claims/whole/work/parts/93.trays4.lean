section TRD
variable {h : TH}
theorem TI.lay {g : TH} {i n : Nat} {y z : Int32} (hT : TI h) (hn : n ≤ 60) (hz : z = nI n) (g7 : ∀ k, g.I 7 k = if k = i then y else h.I 7 k) (g8 : ∀ k, g.I 8 k = if k = i then z else h.I 8 k) (g200 : ∀ k, g.I 200 k = if k = i then y else h.I 200 k) (g201 : ∀ k, g.I 201 k = if k = i then z else h.I 201 k) (gJ : ∀ k, k < 4 → k ≠ i → g.J (3 + k) = h.J (3 + k)) (gJi : ∀ j, j < 60 → g.J (3 + i) j = 0) (gM0 : ∀ j, j < n → g.J 202 (60 * i + j) = 0) (gM : ∀ k, (k < 60 * i ∨ 60 * i + 60 ≤ k) → g.J 202 k = h.J 202 k) (gK : ∀ k, k < 4 → g.K (3 + k) = h.K (3 + k) ∧ g.N (3 + k) = h.N (3 + k)) : TI g := by
  intro k hk
  obtain ⟨t1, t2, t3, t4, t5⟩ := hT k hk
  rw [g7, g8, g200, g201, (gK k hk).1, (gK k hk).2]
  by_cases q : k = i
  · rw [if_pos q, if_pos q, if_pos q, if_pos q]
    refine ⟨rfl, rfl, Or.inr ⟨n, hn, hz, fun j hj => ?_⟩, t4, t5⟩
    rw [q, gJi j (by omega), gM0 j hj]
  · rw [if_neg q, if_neg q, if_neg q, if_neg q, gJ k hk q]
    refine ⟨t1, t2, t3.imp id (fun ⟨m, m1, m2, m3⟩ => ⟨m, m1, m2, fun l hl => ?_⟩), t4, t5⟩
    rw [gM _ (by omega)]; exact m3 l hl
theorem run_lt {n a c : Nat} (hn : n ≤ 60) (ha : a < 2 ^ 31) (hc : c < 2 ^ 31) : nI n - nI a < nI c ↔ n < a + c := by
  have e : (nI n - nI a).toInt = (n : Int) - a := by
    rw [Int32.toInt_sub, nI_toInt (by omega), nI_toInt ha]
    exact Int.bmod_eq_of_le (by omega) (by omega)
  rw [Int32.lt_iff_toInt_lt, e, nI_toInt hc]
  omega
theorem S144 {C : Int32 → Prop} {i n a c : Nat} (hi : i < 4) (h8 : h.I 8 i = nI n) (hn : n ≤ 60) (ha : a < 2 ^ 31) (hc : c < 2 ^ 31) (kt : a + c ≤ n → C 1) (kf : ¬ a + c ≤ n → C 0) : W144 (nI i) (nI a) (nI c) h C := by
  unfold W144
  rw [ix_n (by omega), h8]
  refine ⟨inb_n hi, ?_⟩
  by_cases z : n < a
  · rw [if_pos (nI_lt z ha)]; exact kf (by omega)
  · rw [if_neg (nI_nlt (by omega) (by omega))]
    refine ⟨inb_n hi, ?_⟩
    by_cases z2 : n < a + c
    · rw [if_pos ((run_lt hn ha hc).mpr z2)]; exact kf (by omega)
    · rw [if_neg (fun w => z2 ((run_lt hn ha hc).mp w))]; exact kt (by omega)
/-- many at once, at the reference -/
theorem S214m {C : Int32 → TH → Prop} {i k a b c : Nat} (hi : i < 4) (hk : k < 4) (ha : a + c ≤ 60) (hb : b + c ≤ 60) (kk : ∀ g : TH, g.n = h.n ∧ g.sl = h.sl ∧ g.K = h.K ∧ g.N = h.N ∧ g.P = h.P ∧ g.I = h.I ∧ (∀ d, d ≠ 202 → g.J d = h.J d) → (∀ l, g.J 202 l = if 60 * k + b ≤ l ∧ l < 60 * k + b + c then h.J 202 (60 * i + a + (l - (60 * k + b))) else h.J 202 l) → C 1 (g.sI 197 2 0)) : B214_118 (nI i) (nI a) (nI k) (nI b) (nI c) 0 h C := by
  have e60 : ∀ u v w : Nat, (60 : Int32) * nI u + nI v + nI w = nI (60 * u + v + w) := fun u v w => by
    show nI 60 * nI u + nI v + nI w = _
    rw [pk_mul, nI_add, nI_add]
  unfold B214_118
  by_cases dir : b ≤ a
  · refine LFP.up c (fun j q => q.1 = nI j ∧ (q.2.n = h.n ∧ q.2.sl = h.sl ∧ q.2.K = h.K ∧ q.2.N = h.N ∧ q.2.P = h.P ∧ q.2.I = h.I ∧ (∀ d, d ≠ 202 → q.2.J d = h.J d)) ∧ ∀ l, q.2.J 202 l = if 60 * k + b ≤ l ∧ l < 60 * k + b + j then h.J 202 (60 * i + a + (l - (60 * k + b))) else h.J 202 l) ?_ ?_ (Nat.zero_le _) ⟨rfl, ⟨rfl, rfl, rfl, rfl, rfl, rfl, fun _ _ => rfl⟩, fun l => (if_neg (by omega)).symm⟩
    · rintro X j ⟨x6, g⟩ hj ⟨f0, ⟨f1, f2, f3, f4, f5, f6, f7⟩, f8⟩ ih
      (try dsimp only at f0 f1 f2 f3 f4 f5 f6 f7 f8)
      subst f0
      unfold F214_118 B214_143
      (try dsimp only)
      rw [if_neg (nI_ge hj (by omega)), if_pos (nI_le dir (by omega)), e60, e60, ix_n (by omega), ix_n (by omega)]
      refine ⟨inb_n (by omega), inb_n (by omega), ih _ ⟨nI_1 j, ⟨f1, f2, f3, f4, f5, f6, fun d hd => ?_⟩, fun l => ?_⟩⟩
      · funext m
        (try dsimp only)
        rw [J_ne hd, f7 d hd]
      · (try dsimp only)
        rw [J_at, f8 (60 * i + a + j), if_neg (show ¬ (60 * k + b ≤ 60 * i + a + j ∧ 60 * i + a + j < 60 * k + b + j) by omega)]
        by_cases q : l = 60 * k + b + j
        · rw [if_pos q, if_pos (by omega), q]
          congr 1
          omega
        · rw [if_neg q, f8 l]
          by_cases w : 60 * k + b ≤ l ∧ l < 60 * k + b + j
          · rw [if_pos w, if_pos (by omega)]
          · rw [if_neg w, if_neg (by omega)]
    · rintro X ⟨x6, g⟩ ⟨f0, f1, f8⟩
      (try dsimp only at f0 f1 f8)
      subst f0
      unfold F214_118 W204
      (try dsimp only)
      rw [if_pos (nI_le (Nat.le_refl _) (by omega)), if_neg (fun q => q rfl)]
      exact ⟨Or.inr rfl, kk g f1 f8⟩
  · refine LFP.up c (fun j q => q.1 = nI j ∧ (q.2.n = h.n ∧ q.2.sl = h.sl ∧ q.2.K = h.K ∧ q.2.N = h.N ∧ q.2.P = h.P ∧ q.2.I = h.I ∧ (∀ d, d ≠ 202 → q.2.J d = h.J d)) ∧ ∀ l, q.2.J 202 l = if 60 * k + b + (c - j) ≤ l ∧ l < 60 * k + b + c then h.J 202 (60 * i + a + (l - (60 * k + b))) else h.J 202 l) ?_ ?_ (Nat.zero_le _) ⟨rfl, ⟨rfl, rfl, rfl, rfl, rfl, rfl, fun _ _ => rfl⟩, fun l => (if_neg (by omega)).symm⟩
    · rintro X j ⟨x6, g⟩ hj ⟨f0, ⟨f1, f2, f3, f4, f5, f6, f7⟩, f8⟩ ih
      (try dsimp only at f0 f1 f2 f3 f4 f5 f6 f7 f8)
      subst f0
      unfold F214_118 B214_143
      (try dsimp only)
      rw [if_neg (nI_ge hj (by omega)), if_neg (nI_ge (by omega) (by omega)), show nI c - 1 - nI j = nI (c - 1 - j) by rw [show nI c - 1 = nI (c - 1) from pk_sub (b := 1) (by omega), pk_sub (by omega)], e60, e60, ix_n (by omega), ix_n (by omega)]
      refine ⟨inb_n (by omega), inb_n (by omega), ih _ ⟨nI_1 j, ⟨f1, f2, f3, f4, f5, f6, fun d hd => ?_⟩, fun l => ?_⟩⟩
      · funext m
        (try dsimp only)
        rw [J_ne hd, f7 d hd]
      · (try dsimp only)
        rw [J_at, f8 (60 * i + a + (c - 1 - j)), if_neg (show ¬ (60 * k + b + (c - j) ≤ 60 * i + a + (c - 1 - j) ∧ 60 * i + a + (c - 1 - j) < 60 * k + b + c) by omega)]
        by_cases q : l = 60 * k + b + (c - 1 - j)
        · rw [if_pos q, if_pos (by omega), q]
          congr 1
          omega
        · rw [if_neg q, f8 l]
          by_cases w : 60 * k + b + (c - j) ≤ l ∧ l < 60 * k + b + c
          · rw [if_pos w, if_pos (by omega)]
          · rw [if_neg w, if_neg (by omega)]
    · rintro X ⟨x6, g⟩ ⟨f0, f1, f8⟩
      (try dsimp only at f0 f1 f8)
      subst f0
      unfold F214_118 W204
      (try dsimp only)
      rw [if_pos (nI_le (Nat.le_refl _) (by omega)), if_neg (fun q => q rfl)]
      exact ⟨Or.inr rfl, kk g f1 (fun l => by rw [f8 l, Nat.sub_self, Nat.add_zero])⟩
/-- the TRAYS after it -/
theorem TI.pour {g : TH} {i k a b c n m : Nat} (hT : TI h) (hi : i < 4) (hk : k < 4) (h8 : h.I 8 i = nI n) (h8' : h.I 8 k = nI m) (hn : n ≤ 60) (hm : m ≤ 60) (ha : a + c ≤ n) (hb : b + c ≤ m) (gI : ∀ a, a = 7 ∨ a = 8 ∨ a = 200 ∨ a = 201 → g.I a = h.I a) (gJ : ∀ d, d < 4 → ∀ l, g.J (3 + d) l = if d = k ∧ b ≤ l ∧ l < b + c then h.J (3 + i) (a + (l - b)) else h.J (3 + d) l) (gM : ∀ l, g.J 202 l = if 60 * k + b ≤ l ∧ l < 60 * k + b + c then h.J 202 (60 * i + a + (l - (60 * k + b))) else h.J 202 l) (gK : ∀ k, k < 4 → g.K (3 + k) = h.K (3 + k) ∧ g.N (3 + k) = h.N (3 + k)) : TI g := by
  intro d hd
  obtain ⟨t1, t2, t3, t4, t5⟩ := hT d hd
  rw [gI 7 (by omega), gI 8 (by omega), gI 200 (by omega), gI 201 (by omega), (gK d hd).1, (gK d hd).2]
  refine ⟨t1, t2, t3.imp id (fun ⟨p, p1, p2, p3⟩ => ⟨p, p1, p2, fun l hl => ?_⟩), t4, t5⟩
  rw [gJ d hd, gM]
  by_cases q : d = k ∧ b ≤ l ∧ l < b + c
  · rw [if_pos q, if_pos (by omega)]
    rcases (hT i hi).2.2.1 with w | ⟨n', n1, n2, n3⟩
    · rw [h8] at w; exact absurd w (nI_ne1 (by omega))
    · rw [h8] at n2
      have : n = n' := (nI_eq (by omega) (by omega)).mp n2
      rw [n3 _ (by omega)]
      congr 1
      omega
  · rw [if_neg q, if_neg (fun w => q (by omega))]
    exact p3 l hl
end TRD
