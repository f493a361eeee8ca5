/-! ROUNDS, at the class: the list of states -/
def RcA (h : TH) (L a3 a4 : Nat) : Prop := (h.P 190 3 = some a3 ∧ h.P 190 4 = some a4) ∧ (h.K a3 = 100 ∧ h.K a4 = 102) ∧ (h.N a3 = L ∧ h.N a4 = L) ∧ L ≤ 4096 ∧ a3 ≠ a4 ∧ (L = 0 ∨ 222 ≤ a3 ∧ 222 ≤ a4) ∧ a3 < h.n ∧ a4 < h.n
def RQ (h : TH) (tm : Nat) (M : Nat → Int32) (goal Sc : Int32) (L a3 a4 : Nat) (q : Nat → Nat) (F : Nat) : Prop := RcA h L a3 a4 ∧ (h.P 190 0 = some tm ∧ is3 tm ∧ CM h tm M) ∧ h.I 190 1 = goal ∧ h.I 190 2 = Sc ∧ 2 ^ aN M ≤ L ∧ h.I 190 5 = nI F ∧ (∀ i, i < F → h.I a3 i = nI (q i) ∧ q i < 2 ^ aN M) ∧ (∀ i j, i < j → j < F → q i ≠ q j) ∧ (∀ u, u < 2 ^ aN M → (inQ q F u → h.I a4 u = 1) ∧ (¬ inQ q F u → h.I a4 u = 0)) ∧ (h.I 190 6 = 0 ∨ h.I 190 6 = 1) ∧ (h.I 190 6 = 1 ↔ ∃ i, i < F ∧ sb goal (nI (q i)))
def inRq (a3 a4 a : Nat) : Prop := a = 190 ∨ a = a3 ∨ a = a4
section CRD
variable {h : TH} {M : Nat → Int32} {goal Sc : Int32} {tm L a3 a4 F : Nat} {q : Nat → Nat} {C : TH → Prop}
theorem RcA.sm {S : Nat → Prop} {h' : TH} (ha : RcA h L a3 a4) (hs : Sm S h h') : RcA h' L a3 a4 := by
  unfold RcA at ha ⊢
  rw [hs.P, hs.K, hs.N, hs.n]; exact ha
theorem RQ.le (hq : RQ h tm M goal Sc L a3 a4 q F) : F ≤ 2 ^ aN M := fb_holes _ F q (fun i hi => (hq.2.2.2.2.2.2.1 i hi).2) hq.2.2.2.2.2.2.2.1
theorem RQ.big (hq : RQ h tm M goal Sc L a3 a4 q F) : 222 ≤ a3 ∧ 222 ≤ a4 ∧ a3 ≠ a4 ∧ L ≤ 4096 ∧ 2 ^ aN M ≤ L := by
  obtain ⟨⟨_, _, _, l1, l2, l3, _⟩, _, _, _, l4, _⟩ := hq
  have p0 : 0 < 2 ^ aN M := Nat.pow_pos (Nat.succ_pos 1)
  rcases l3 with l3 | l3
  · rw [l3] at l4
    exact absurd (Nat.lt_of_lt_of_le p0 l4) (Nat.lt_irrefl 0)
  · exact ⟨l3.1, l3.2, l2, l1, l4⟩
theorem S117 {u : Nat} {x : Int32} (hx : x = nI u) (hu : u < 2 ^ aN M) (hq : RQ h tm M goal Sc L a3 a4 q F) (kk : ∀ g q' F', Sm (inRq a3 a4) h g → RQ g tm M goal Sc L a3 a4 q' F' → CqE q F q' F' → inQ q' F' u → (∀ i, F ≤ i → i < F' → q' i = u) → C g) : W117 x h C := by
  have hbig := hq.big
  have hle := hq.le
  have hq0 := hq
  obtain ⟨hA, ⟨t1, t2, t3⟩, r1, r2, r3, r4, r5, r6, r7, r8, r9⟩ := hq
  have hA0 := hA
  obtain ⟨⟨p3, p4⟩, ⟨k3, k4⟩, ⟨n3, n4⟩, l1, l2, l3, m3, m4⟩ := hA
  have r3m := is3_rng t2
  subst hx
  unfold W117
  rw [R_of p4, ix_n (by omega)]
  have ok4 : okA h a4 102 (nI u) := okA_n k4 (by omega) (by omega)
  refine ⟨p4, ok4, ?_⟩
  by_cases e : inQ q F u
  · rw [if_pos (by rw [(r7 u hu).1 e]; decide)]
    exact kk h q F Sm.refl hq0 CqE.refl e (fun i z1 z2 => by omega)
  · have hF : F + 1 ≤ 2 ^ aN M := by
      refine fb_holes _ (F + 1) (fun i => if i = F then u else q i) (fun i hi => ?_) (fun i j hij hj z => ?_)
      · (try dsimp only)
        split
        · exact hu
        · exact (r5 i (by omega)).2
      · (try dsimp only at z)
        rw [if_neg (by omega)] at z
        by_cases e2 : j = F
        · rw [if_pos e2] at z; exact e ⟨i, by omega, z⟩
        · rw [if_neg e2] at z; exact r6 i j hij (by omega) z
    rw [if_neg (fun z => z ((r7 u hu).2 e)), R_of p3, r4, n3, if_pos (nI_lt (by omega) (by omega))]
    refine ⟨p3, k3, p4, ok4, ?_⟩
    have P3 : (h.sI a4 u (1 &&& 1)).P 190 3 = some a3 := by rw [P_sI]; exact p3
    have I5 : (h.sI a4 u (1 &&& 1)).I 190 5 = nI F := by rw [I_ne (by omega)]; exact r4
    rw [R_of P3, I5, ix_n (by omega)]
    refine ⟨P3, okA_n (by rw [K_sI]; exact k3) (by rw [N_sI]; omega) (by rw [N_sI]; omega), ?_⟩
    intro h1 eh1
    have s1 : Sm (inRq a3 a4) h h1 := by
      rw [eh1]
      exact (Sm.refl.sI (by unfold inRq; omega) _).sI (by unfold inRq; omega) _
    have T : ∀ j, h1.I 190 j = h.I 190 j := fun j => by rw [eh1, I_ne (by omega), I_ne (by omega)]
    have A3 : ∀ i, h1.I a3 i = if i = F then nI u else h.I a3 i := fun i => by rw [eh1, I_at, I_ne (by omega)]
    have A4 : ∀ i, h1.I a4 i = if i = u then 1 else h.I a4 i := fun i => by rw [eh1, I_ne (by omega), I_at]; rfl
    rw [T 5, r4, nI_1]
    have U : ∀ j, j ≠ 5 → (h1.sI 190 5 (nI (F + 1))).I 190 j = h.I 190 j := fun j hj => by rw [I_nk hj, T]
    rw [U 1 (by omega), U 6 (by omega), r1]
    have fin : ∀ v : Int32, (v = 0 ∨ v = 1) → (v = 1 ↔ h.I 190 6 = 1 ∨ sb goal (nI u)) → C ((h1.sI 190 5 (nI (F + 1))).sI 190 6 v) := by
      intro v v1 v2
      have sg : Sm (inRq a3 a4) h ((h1.sI 190 5 (nI (F + 1))).sI 190 6 v) := (s1.sI (by unfold inRq; omega) _).sI (by unfold inRq; omega) _
      have iq : ∀ w, inQ (fun i => if i = F then u else q i) (F + 1) w ↔ w = u ∨ inQ q F w := by
        intro w
        constructor
        · rintro ⟨i, i1, i2⟩
          (try dsimp only at i2)
          by_cases e2 : i = F
          · rw [if_pos e2] at i2; exact Or.inl i2.symm
          · rw [if_neg e2] at i2; exact Or.inr ⟨i, by omega, i2⟩
        · rintro (z | ⟨i, i1, i2⟩)
          · exact ⟨F, by omega, by (try dsimp only); rw [if_pos rfl]; exact z.symm⟩
          · exact ⟨i, by omega, by (try dsimp only); rw [if_neg (by omega)]; exact i2⟩
      refine kk _ (fun i => if i = F then u else q i) (F + 1) sg ⟨hA0.sm sg, ⟨by rw [sg.P]; exact t1, t2, t3.frame (fun a z1 z2 => sg.I (by unfold inRq; omega))⟩, ?_, ?_, r3, ?_, fun i hi => ?_, fun i j hij hj z => ?_, fun w hw => ?_, ?_, ?_⟩ ⟨by omega, fun i hi => if_neg (by omega)⟩ ((iq u).mpr (Or.inl rfl)) (fun i z1 z2 => if_pos (by omega))
      · rw [I_nk (by omega), U 1 (by omega)]; exact r1
      · rw [I_nk (by omega), U 2 (by omega)]; exact r2
      · rw [I_nk (by omega), I_eq]
      · rw [I_ne (by omega), I_ne (by omega), A3]
        (try dsimp only)
        by_cases e2 : i = F
        · rw [if_pos e2, if_pos e2]; exact ⟨rfl, hu⟩
        · rw [if_neg e2, if_neg e2]; exact r5 i (by omega)
      · (try dsimp only at z)
        rw [if_neg (by omega)] at z
        by_cases e2 : j = F
        · rw [if_pos e2] at z; exact e ⟨i, by omega, z⟩
        · rw [if_neg e2] at z; exact r6 i j hij (by omega) z
      · rw [iq, I_ne (by omega), I_ne (by omega), A4]
        by_cases e2 : w = u
        · rw [if_pos e2]; exact ⟨fun _ => rfl, fun z => absurd (Or.inl e2) z⟩
        · rw [if_neg e2]
          exact ⟨fun z => (r7 w hw).1 (z.resolve_left e2), fun z => (r7 w hw).2 (fun y => z (Or.inr y))⟩
      · rw [I_eq]; exact v1
      · rw [I_eq, v2, r9]
        constructor
        · rintro (⟨i, i1, i2⟩ | z)
          · exact ⟨i, by omega, by (try dsimp only); rw [if_neg (by omega)]; exact i2⟩
          · exact ⟨F, by omega, by (try dsimp only); rw [if_pos rfl]; exact z⟩
        · rintro ⟨i, i1, i2⟩
          (try dsimp only at i2)
          by_cases e2 : i = F
          · rw [if_pos e2] at i2; exact Or.inr i2
          · rw [if_neg e2] at i2; exact Or.inl ⟨i, by omega, i2⟩
    have or0 : ∀ v : Int32, (v = 0 ∨ v = 1) → v ||| 0 = v := fun v hv => Int32.or_zero
    have or1 : ∀ v : Int32, (v = 0 ∨ v = 1) → v ||| 1 = 1 := fun v hv => by rcases hv with hv | hv <;> rw [hv] <;> decide
    by_cases zg : nI u &&& goal = goal
    · rw [if_neg (fun z => z zg), or1 _ r8]
      exact ⟨Or.inr rfl, fin 1 (Or.inr rfl) ⟨fun _ => Or.inr (bt_sup.mp zg), fun _ => rfl⟩⟩
    · rw [if_pos zg, or0 _ r8]
      exact ⟨r8, fin _ r8 ⟨Or.inl, fun z => z.elim id (fun y => absurd (bt_sup.mpr y) zg)⟩⟩
end CRD
