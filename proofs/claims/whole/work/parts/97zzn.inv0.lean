/-! THE LAW'S HEAP AT ITS LOOP'S HEAD: its layout, and all that holds between calls. -/
section H4
variable {L : Nat} {xs : Nat → Int32}
theorem i4 {a k : Nat} {v : Int32} (h : (decide (a < 1000000) && decide (yI yD4 a k = v)) = true) : (ydn L xs yD4).I a k = v := by
  simp only [Bool.and_eq_true, decide_eq_true_eq] at h
  rw [ydn_I h.1]
  exact h.2
theorem j4 {a k : Nat} {v : Int64} (h : decide (yJ yD4 a k = v) = true) : (ydn L xs yD4).J a k = v := of_decide_eq_true h
theorem p4 {a k v : Nat} (h : decide (yP yD4 a k = some v) = true) : (ydn L xs yD4).P a k = some v := of_decide_eq_true h
theorem k4 {a v : Nat} (h : (decide (a < 1000000) && decide (yK yD4 a = v)) = true) : (ydn L xs yD4).K a = v := by
  simp only [Bool.and_eq_true, decide_eq_true_eq] at h
  rw [ydn_K h.1]
  exact h.2
theorem n4 {a v : Nat} (h : (decide (a < 1000000) && decide (yN yD4 a = v)) = true) : (ydn L xs yD4).N a = v := by
  simp only [Bool.and_eq_true, decide_eq_true_eq] at h
  rw [ydn_N h.1]
  exact h.2
theorem lay4t : ∀ a, a < 222 → yK yD4 a = lKt.getD a 999 ∧ yN yD4 a = lNt.getD a 0 := by decide +kernel
theorem lay4p : ∀ q, q ∈ lPt → yP yD4 q.1 q.2.1 = some q.2.2 := by decide +kernel
theorem lay4 (hL : L ≤ 384) : Lay (ydn L xs yD4) := by
  refine ⟨fun a ha => ?_, fun a f b hb => lay4p (a, f, b) hb, Nat.le_refl _, rfl, hL⟩
  rw [ydn_K (by omega), ydn_N (by omega)]
  exact lay4t a ha
theorem r198 : ∀ k, k < 440 → k ≠ 6 → yI yD4 198 k = 0 := by decide +kernel
theorem words4 : ∀ x, x < 23 → yJ yD4 11 x = lN (cod 32 96 (wC x)) := by decide +kernel
theorem fit4 : fitB (fun _ => 0) (bigK (fun _ => 0) 0) (nI 0) = true := by decide +kernel
theorem tr4 : ∀ i, i < 4 → yI yD4 7 i = yI yD4 200 i ∧ yI yD4 8 i = yI yD4 201 i ∧ yI yD4 8 i = -1 ∧ yK yD4 (3 + i) = 101 ∧ yN yD4 (3 + i) = 60 := by decide +kernel
theorem z43 : ∀ k, k < 5 → yI yD4 43 k = 0 := by decide +kernel
theorem z65 : ∀ k, k < 12 → yI yD4 65 k = 0 := by decide +kernel
theorem lev4 : Lev (ydn L xs yD4) 0 ((ydn L xs yD4).I 198) ((ydn L xs yD4).J 199) (fun _ _ => 0) 0 0 := by
  have aN0 : aN (fun _ => (0 : Int32)) = 0 := rfl
  have aP0 : aP (fun _ => (0 : Int32)) = 0 := rfl
  refine ⟨fun _ => 0, fun _ => [], 0, 0, 0, 0, 0, fun _ => 0, 0, ?_, ?_, ?_, ⟨i4 (by decide +kernel), Nat.le_refl _, fun k hk => rfl⟩, ?_, ?_, ⟨⟨i4 (by decide +kernel), i4 (by decide +kernel), i4 (by decide +kernel), i4 (by decide +kernel), i4 (by decide +kernel), ?_⟩, Nat.le_refl _, ⟨0, by decide, rfl⟩, ⟨0, by decide, rfl⟩, fun d hd h => h, ?_⟩, ⟨i4 (by decide +kernel), i4 (by decide +kernel), i4 (by decide +kernel), i4 (by decide +kernel), ?_⟩, Or.inl ⟨i4 (by decide +kernel), i4 (by decide +kernel)⟩⟩
  · refine ⟨rfl, by rw [aN0]; omega, rfl, by rw [aP0]; omega, fun k hk => ?_, fun d hd => ?_⟩
    · rw [aP0] at hk; omega
    · rw [aN0] at hd; omega
  · refine ⟨⟨i4 (by decide +kernel), i4 (by decide +kernel), i4 (by decide +kernel), i4 (by decide +kernel), fun d hd => ?_, fun d hd => ?_⟩, fun d hd => ?_, 0, by omega, i4 (by decide +kernel), fun i hi => ?_, fun s hs => ?_⟩
    · rw [aN0] at hd; omega
    · rw [aP0] at hd; omega
    · rw [aN0] at hd; omega
    · omega
    · obtain ⟨u, hu, rfl⟩ := hs
      rw [aN0] at hu
      have : u = 0 := by omega
      subst this
      exact ⟨fun _ => fit4, fun _ i hi => by omega⟩
  · intro d hd
    rw [aN0] at hd; omega
  · intro k hk
    show (ydn L xs yD4).I 198 k = 0
    rw [ydn_I (by omega)]
    exact r198 k (by omega) (by omega)
  · intro d hd
    rw [aN0] at hd; omega
  · intro d hd
    rw [aN0] at hd; omega
  · intro d hd
    rw [aN0] at hd; omega
  · intro d hd
    rw [aN0] at hd; omega
theorem lk_memP (l : List ((Nat × Nat) × Nat)) (t f a : Nat) (h : l.lookup (t, f) = some a) : ((t, f), a) ∈ l := by
  induction l with
  | nil => cases h
  | cons x r ih =>
    obtain ⟨⟨b, k⟩, v⟩ := x
    rw [lk_pair] at h
    by_cases c : t = b ∧ f = k
    · rw [if_pos c] at h
      cases h
      rw [c.1, c.2]
      exact List.mem_cons_self
    · rw [if_neg c] at h
      exact List.mem_cons_of_mem _ (ih h)
def ySF : List ((Nat × Nat) × Nat) := yD4.2.2.2.2.2.filter (fun q => (decide (139 ≤ q.1.1) && decide (q.1.1 ≤ 190)) && (decide (3 ≤ q.1.2) && decide (q.1.2 ≤ 16)))
theorem ow4a : ∀ q, q ∈ ySF → ((((q.1.1 = 139 ∨ q.1.1 = 152 ∨ q.1.1 = 165) ∧ (5 ≤ q.1.2 ∧ q.1.2 ≤ 9 ∨ q.1.2 = 16)) ∨ ((q.1.1 = 178 ∨ q.1.1 = 184) ∧ 5 ≤ q.1.2 ∧ q.1.2 ≤ 7) ∨ (q.1.1 = 190 ∧ 3 ≤ q.1.2 ∧ q.1.2 ≤ 4)) → ((q.1.1 ≤ q.2 ∧ (q.1.1 ≤ 165 → q.2 < q.1.1 + 13) ∧ (165 < q.1.1 → q.1.1 < 190 → q.2 < q.1.1 + 6) ∧ (q.1.1 = 190 → q.2 < 193)) ∧ q.2 < 222)) := by decide +kernel
theorem ow4b : ∀ q, q ∈ ySF → ∀ p, p ∈ ySF → q.2 = p.2 → q.1.1 = p.1.1 ∧ q.1.2 = p.1.2 := by decide +kernel
theorem ySF_mem {t f a : Nat} (h : sF t f) (hp : (ydn L xs yD4).P t f = some a) : ((t, f), a) ∈ ySF := by
  have h1 : ((t, f), a) ∈ yD4.2.2.2.2.2 := lk_memP _ t f a hp
  refine List.mem_filter.mpr ⟨h1, ?_⟩
  simp only [Bool.and_eq_true, decide_eq_true_eq]
  unfold sF at h
  omega
theorem ow4 : Ow (ydn L xs yD4) := by
  refine ⟨fun t f a h hp => ?_, fun t f t' f' a h h' hp hp' => ?_⟩
  · have := ow4a _ (ySF_mem h hp) h
    exact ⟨Or.inr this.1, this.2⟩
  · exact ow4b _ (ySF_mem h hp) _ (ySF_mem h' hp') rfl
theorem se4 : Se (ydn L xs yD4) (fun _ _ => 0) 0 := by
  refine ⟨ow4, ⟨0, 143, 144, 145, 146, 147, ?_, Or.inl rfl, Or.inr ⟨rfl, ?_⟩, Or.inl (i4 (by decide +kernel))⟩, ⟨0, 156, 157, 158, 159, 160, ?_, Or.inr (Or.inl rfl), Or.inr ⟨rfl, ?_⟩, Or.inl (i4 (by decide +kernel))⟩, ⟨0, 169, 170, 171, 172, 173, ?_, Or.inr (Or.inr rfl), Or.inl ⟨rfl, i4 (by decide +kernel)⟩, Or.inl (i4 (by decide +kernel))⟩, ⟨0, 179, 180, 181, ?_, ?_, i4 (by decide +kernel), i4 (by decide +kernel), Or.inl ⟨rfl, rfl, i4 (by decide +kernel)⟩, Or.inl (i4 (by decide +kernel))⟩, ⟨0, 185, 186, 187, ?_, ?_, i4 (by decide +kernel), i4 (by decide +kernel), Or.inr ⟨rfl, rfl, ?_⟩, Or.inl (i4 (by decide +kernel))⟩, ⟨0, 191, 192, ?_⟩, ⟨151, 0, fun _ => 0, ?_, by omega, i4 (by decide +kernel), i4 (by decide +kernel), Nat.zero_le _, fun j hj => by omega, fun j hj => by omega⟩, ?_⟩
  · exact ⟨⟨p4 (by decide +kernel), p4 (by decide +kernel), p4 (by decide +kernel), p4 (by decide +kernel), p4 (by decide +kernel)⟩, ⟨k4 (by decide +kernel), k4 (by decide +kernel), k4 (by decide +kernel), k4 (by decide +kernel), k4 (by decide +kernel)⟩, ⟨n4 (by decide +kernel), n4 (by decide +kernel), n4 (by decide +kernel), n4 (by decide +kernel), n4 (by decide +kernel)⟩, by omega, by decide, Or.inl rfl, (by decide : 143 < 222), (by decide : 144 < 222), (by decide : 145 < 222), (by decide : 146 < 222), (by decide : 147 < 222)⟩
  · rw [i4 (v := 1) (by decide +kernel)]; decide
  · exact ⟨⟨p4 (by decide +kernel), p4 (by decide +kernel), p4 (by decide +kernel), p4 (by decide +kernel), p4 (by decide +kernel)⟩, ⟨k4 (by decide +kernel), k4 (by decide +kernel), k4 (by decide +kernel), k4 (by decide +kernel), k4 (by decide +kernel)⟩, ⟨n4 (by decide +kernel), n4 (by decide +kernel), n4 (by decide +kernel), n4 (by decide +kernel), n4 (by decide +kernel)⟩, by omega, by decide, Or.inl rfl, (by decide : 156 < 222), (by decide : 157 < 222), (by decide : 158 < 222), (by decide : 159 < 222), (by decide : 160 < 222)⟩
  · rw [i4 (v := 1) (by decide +kernel)]; decide
  · exact ⟨⟨p4 (by decide +kernel), p4 (by decide +kernel), p4 (by decide +kernel), p4 (by decide +kernel), p4 (by decide +kernel)⟩, ⟨k4 (by decide +kernel), k4 (by decide +kernel), k4 (by decide +kernel), k4 (by decide +kernel), k4 (by decide +kernel)⟩, ⟨n4 (by decide +kernel), n4 (by decide +kernel), n4 (by decide +kernel), n4 (by decide +kernel), n4 (by decide +kernel)⟩, by omega, by decide, Or.inl rfl, (by decide : 169 < 222), (by decide : 170 < 222), (by decide : 171 < 222), (by decide : 172 < 222), (by decide : 173 < 222)⟩
  · exact ⟨Or.inl rfl, p4 (by decide +kernel), p4 (by decide +kernel), k4 (by decide +kernel), n4 (by decide +kernel), k4 (by decide +kernel), n4 (by decide +kernel)⟩
  · exact ⟨⟨p4 (by decide +kernel), p4 (by decide +kernel), p4 (by decide +kernel)⟩, ⟨k4 (by decide +kernel), k4 (by decide +kernel), k4 (by decide +kernel)⟩, ⟨n4 (by decide +kernel), n4 (by decide +kernel), n4 (by decide +kernel)⟩, by omega, by decide, Or.inl rfl, (by decide : 179 < 222), (by decide : 180 < 222), (by decide : 181 < 222)⟩
  · exact ⟨Or.inr rfl, p4 (by decide +kernel), p4 (by decide +kernel), k4 (by decide +kernel), n4 (by decide +kernel), k4 (by decide +kernel), n4 (by decide +kernel)⟩
  · exact ⟨⟨p4 (by decide +kernel), p4 (by decide +kernel), p4 (by decide +kernel)⟩, ⟨k4 (by decide +kernel), k4 (by decide +kernel), k4 (by decide +kernel)⟩, ⟨n4 (by decide +kernel), n4 (by decide +kernel), n4 (by decide +kernel)⟩, by omega, by decide, Or.inl rfl, (by decide : 185 < 222), (by decide : 186 < 222), (by decide : 187 < 222)⟩
  · rw [i4 (v := 1) (by decide +kernel)]; decide
  · exact ⟨⟨p4 (by decide +kernel), p4 (by decide +kernel)⟩, ⟨k4 (by decide +kernel), k4 (by decide +kernel)⟩, ⟨n4 (by decide +kernel), n4 (by decide +kernel)⟩, by omega, by decide, Or.inl rfl, (by decide : 191 < 222), (by decide : 192 < 222)⟩
  · exact ⟨p4 (by decide +kernel), k4 (by decide +kernel), by rw [n4 (v := 0) (by decide +kernel)]; omega, Or.inl rfl, (by decide : 151 < 222)⟩
  · rintro t f (⟨rfl | rfl | rfl, rfl⟩ | ⟨rfl | rfl, rfl⟩) <;> exact Or.inl (i4 (by decide +kernel))
theorem inv4 : Inv L xs (ydn L xs yD4) 0 := by
  refine ⟨⟨?_, ?_, ?_⟩, fun _ _ => 0, 0, 0, ⟨⟨⟨0, fun _ => 0, by omega, i4 (by decide +kernel), i4 (by decide +kernel), fun k hk => by omega⟩, ?_, ?_, fun x hx => words4 x hx⟩, Or.inl ⟨i4 (by decide +kernel), i4 (by decide +kernel)⟩, ?_, ⟨k4 (by decide +kernel), n4 (by decide +kernel)⟩, ⟨Nat.le_refl _, Nat.le_refl _, (by decide : 52844 ≤ 4000000 + 50000 * 0), by omega⟩, ⟨rfl, rfl⟩, ⟨i4 (by decide +kernel), Nat.le_refl _⟩, by omega, i4 (by decide +kernel), i4 (by decide +kernel), lev4, fun j hj => by omega⟩, se4⟩
  · rw [i4 (v := 0) (a := 0) (by decide +kernel), i4 (v := 0) (a := 197) (by decide +kernel)]
  · rw [j4 (v := 0) (a := 0) (by decide +kernel), j4 (v := 0) (a := 197) (by decide +kernel)]
  · rw [j4 (v := 1) (a := 0) (by decide +kernel), j4 (v := 1) (a := 197) (by decide +kernel)]
  · rw [i4 (v := -1) (a := 9) (by decide +kernel), i4 (v := -1) (a := 197) (by decide +kernel)]
  · rw [i4 (v := -1) (a := 9) (by decide +kernel), i4 (v := -1) (a := 197) (by decide +kernel)]
  · intro i hi
    obtain ⟨h1, h2, h3, h4, h5⟩ := tr4 i hi
    rw [ydn_I (by omega), ydn_I (by omega), ydn_I (by omega), ydn_I (by omega), ydn_K (by omega), ydn_N (by omega)]
    exact ⟨h1, h2, Or.inl h3, h4, h5⟩
end H4
