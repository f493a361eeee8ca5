/-! THE CONSTRUCTORS: the small machine run on a heap of lists, so that what it comes to is a closed computation. -/
/-- cells made, slots made, kinds and lengths, ints, longs, references -/
abbrev yD : Type := Nat × Nat × List (Nat × Nat × Nat) × List ((Nat × Nat) × Int32) × List ((Nat × Nat) × Int64) × List ((Nat × Nat) × Nat)
def yKN (D : yD) (a : Nat) : Nat × Nat := (D.2.2.1.lookup a).getD (999, 0)
def yK (D : yD) (a : Nat) : Nat := (yKN D a).1
def yN (D : yD) (a : Nat) : Nat := (yKN D a).2
def yI (D : yD) (a k : Nat) : Int32 := (D.2.2.2.1.lookup (a, k)).getD 0
def yJ (D : yD) (a k : Nat) : Int64 := (D.2.2.2.2.1.lookup (a, k)).getD 0
def yP (D : yD) (a k : Nat) : Option Nat := D.2.2.2.2.2.lookup (a, k)
/-- the typed heap that it tells, with the script -/
def ydn (L : Nat) (xs : Nat → Int32) (D : yD) : TH := (D.1, D.2.1, fun a => if a = 1000000 then 108 else yK D a, fun a => if a = 1000000 then L else yN D a, fun a k => if a = 1000000 then xs k else yI D a k, fun a k => yJ D a k, fun a k => yP D a k)
def ysI (D : yD) (a k : Nat) (v : Int32) : yD := (D.1, D.2.1, D.2.2.1, ((a, k), v) :: D.2.2.2.1, D.2.2.2.2.1, D.2.2.2.2.2)
def ysJ (D : yD) (a k : Nat) (v : Int64) : yD := (D.1, D.2.1, D.2.2.1, D.2.2.2.1, ((a, k), v) :: D.2.2.2.2.1, D.2.2.2.2.2)
def ysP (D : yD) (a k : Nat) (v : Nat) : yD := (D.1, D.2.1, D.2.2.1, D.2.2.2.1, D.2.2.2.2.1, ((a, k), v) :: D.2.2.2.2.2)
def ynew (D : yD) (k l m : Nat) : yD := (D.1 + 1, D.2.1 + m, (D.1, k, l) :: D.2.2.1, D.2.2.2.1, D.2.2.2.2.1, D.2.2.2.2.2)
def ymna (D : yD) : yD := (D.1 + 5, D.2.1 + 244, (D.1, 107, 4) :: (D.1 + 1, 101, 60) :: (D.1 + 2, 101, 60) :: (D.1 + 3, 101, 60) :: (D.1 + 4, 101, 60) :: D.2.2.1, D.2.2.2.1, D.2.2.2.2.1, ((D.1, 0), D.1 + 1) :: ((D.1, 1), D.1 + 2) :: ((D.1, 2), D.1 + 3) :: ((D.1, 3), D.1 + 4) :: D.2.2.2.2.2)
/-- no place of a cell yet unmade is written -/
def ynk (D : yD) : Bool := Nat.blt (D.1 + 5) 1000000 && (D.2.2.2.1.all (fun q => Nat.blt q.1.1 D.1) && (D.2.2.2.2.1.all (fun q => Nat.blt q.1.1 D.1) && D.2.2.2.2.2.all (fun q => Nat.blt q.1.1 D.1)))
theorem lk_pair {α : Type} (l : List ((Nat × Nat) × α)) (a k b j : Nat) (v : α) : (((a, k), v) :: l).lookup (b, j) = if b = a ∧ j = k then some v else l.lookup (b, j) := by
  rw [List.lookup_cons]
  by_cases h : b = a ∧ j = k
  · rw [if_pos h, h.1, h.2]
    simp
  · rw [if_neg h]
    have : ((b, j) == (a, k)) = false := by
      rw [beq_eq_false_iff_ne]
      intro q
      exact h (by simpa using q)
    rw [this]
theorem lk_none {α : Type} (l : List ((Nat × Nat) × α)) (n : Nat) (h : l.all (fun q => Nat.blt q.1.1 n) = true) (b : Nat) (hb : n ≤ b) (j : Nat) : l.lookup (b, j) = none := by
  induction l with
  | nil => rfl
  | cons x t ih =>
    obtain ⟨⟨a, k⟩, v⟩ := x
    simp only [List.all_cons, Bool.and_eq_true] at h
    rw [lk_pair, if_neg, ih h.2]
    have h1 : a < n := Nat.le_of_ble_eq_true h.1
    omega
section YDN
variable {L : Nat} {xs : Nat → Int32} {D : yD}
theorem ydn_K {a : Nat} (h : a < 1000000) : (ydn L xs D).K a = yK D a := if_neg (by omega)
theorem ydn_N {a : Nat} (h : a < 1000000) : (ydn L xs D).N a = yN D a := if_neg (by omega)
theorem ydn_I {a k : Nat} (h : a < 1000000) : (ydn L xs D).I a k = yI D a k := if_neg (by omega)
theorem ydn_sI {a k : Nat} {v : Int32} (h : a < 1000000) : (ydn L xs D).sI a k v = ydn L xs (ysI D a k v) := by
  have : up2 (fun a k => if a = 1000000 then xs k else yI D a k) a k v = fun b j => if b = 1000000 then xs j else yI (ysI D a k v) b j := by
    funext b j
    unfold up2 yI ysI
    dsimp only
    rw [lk_pair]
    by_cases h1 : b = a ∧ j = k
    · rw [if_pos h1, if_pos h1, if_neg (by omega)]
      rfl
    · rw [if_neg h1, if_neg h1]
  show (_, _, _, _, up2 _ a k v, _, _) = _
  unfold ydn
  rw [← this]
  rfl
theorem ydn_sJ {a k : Nat} {v : Int64} : (ydn L xs D).sJ a k v = ydn L xs (ysJ D a k v) := by
  have : up2 (fun a k => yJ D a k) a k v = fun b j => yJ (ysJ D a k v) b j := by
    funext b j
    unfold up2 yJ ysJ
    dsimp only
    rw [lk_pair]
    by_cases h1 : b = a ∧ j = k
    · rw [if_pos h1, if_pos h1]
      rfl
    · rw [if_neg h1, if_neg h1]
  show (_, _, _, _, _, up2 _ a k v, _) = _
  unfold ydn
  rw [← this]
  rfl
theorem ydn_sP {a k v : Nat} : (ydn L xs D).sP a k v = ydn L xs (ysP D a k v) := by
  have : up2 (fun a k => yP D a k) a k (some v) = fun b j => yP (ysP D a k v) b j := by
    funext b j
    unfold up2 yP ysP
    dsimp only
    rw [lk_pair]
  show (_, _, _, _, _, _, up2 _ a k (some v)) = _
  unfold ydn
  rw [← this]
  rfl
theorem lk_kn (l : List (Nat × Nat × Nat)) (n b : Nat) (q : Nat × Nat) : ((n, q) :: l).lookup b = if b = n then some q else l.lookup b := by
  rw [List.lookup_cons]
  by_cases h : b = n
  · subst h
    simp
  · rw [if_neg h]
    have : (b == n) = false := by
      rw [beq_eq_false_iff_ne]
      exact h
    rw [this]
theorem ynk_spec (h : ynk D = true) : D.1 + 5 < 1000000 ∧ (∀ b, D.1 ≤ b → ∀ j, D.2.2.2.1.lookup (b, j) = none) ∧ (∀ b, D.1 ≤ b → ∀ j, D.2.2.2.2.1.lookup (b, j) = none) ∧ (∀ b, D.1 ≤ b → ∀ j, D.2.2.2.2.2.lookup (b, j) = none) := by
  unfold ynk at h
  simp only [Bool.and_eq_true] at h
  exact ⟨Nat.le_of_ble_eq_true h.1, fun b hb j => lk_none _ _ h.2.1 b hb j, fun b hb j => lk_none _ _ h.2.2.1 b hb j, fun b hb j => lk_none _ _ h.2.2.2 b hb j⟩
theorem ydn_new {k l m : Nat} (h : ynk D = true) : (ydn L xs D).new k l m = ydn L xs (ynew D k l m) := by
  obtain ⟨h0, h1, h2, h3⟩ := ynk_spec h
  have e1 : upr (fun a => if a = 1000000 then 108 else yK D a) D.1 k = fun a => if a = 1000000 then 108 else yK (ynew D k l m) a := by
    funext b
    unfold upr yK yKN ynew
    dsimp only
    rw [lk_kn]
    by_cases hb : b = D.1
    · rw [if_pos hb, if_pos hb, if_neg (by omega)]
      rfl
    · rw [if_neg hb, if_neg hb]
  have e2 : upr (fun a => if a = 1000000 then L else yN D a) D.1 l = fun a => if a = 1000000 then L else yN (ynew D k l m) a := by
    funext b
    unfold upr yN yKN ynew
    dsimp only
    rw [lk_kn]
    by_cases hb : b = D.1
    · rw [if_pos hb, if_pos hb, if_neg (by omega)]
      rfl
    · rw [if_neg hb, if_neg hb]
  have e3 : upr (fun a k => if a = 1000000 then xs k else yI D a k) D.1 (fun _ => 0) = fun a k => if a = 1000000 then xs k else yI D a k := by
    funext b j
    unfold upr yI
    by_cases hb : b = D.1
    · rw [if_pos hb, if_neg (by omega), h1 b (by omega) j]
      rfl
    · rw [if_neg hb]
  have e4 : upr (fun a k => yJ D a k) D.1 (fun _ => 0) = fun a k => yJ D a k := by
    funext b j
    unfold upr yJ
    by_cases hb : b = D.1
    · rw [if_pos hb, h2 b (by omega) j]
      rfl
    · rw [if_neg hb]
  have e5 : upr (fun a k => yP D a k) D.1 (fun _ => none) = fun a k => yP D a k := by
    funext b j
    unfold upr yP
    by_cases hb : b = D.1
    · rw [if_pos hb, h3 b (by omega) j]
    · rw [if_neg hb]
  show (_, _, upr _ _ _, upr _ _ _, upr _ _ _, upr _ _ _, upr _ _ _) = _
  unfold ydn
  rw [← e1, ← e2]
  refine congrArg (fun z => (D.1 + 1, D.2.1 + m, upr (fun a => if a = 1000000 then 108 else yK D a) D.1 k, upr (fun a => if a = 1000000 then L else yN D a) D.1 l, z)) ?_
  show (upr _ _ _, upr _ _ _, upr _ _ _) = _
  exact congr (congrArg Prod.mk e3) (congr (congrArg Prod.mk e4) e5)
theorem ydn_mna (h : ynk D = true) : ((D.1 + 5, D.2.1 + 244, tc (fun a => if a = D.1 then 107 else if D.1 < a ∧ a < D.1 + 5 then 101 else (ydn L xs D).K a) (fun a => if a = D.1 then 4 else if D.1 < a ∧ a < D.1 + 5 then 60 else (ydn L xs D).N a) (ydn L xs D).I (fun a => if D.1 < a ∧ a < D.1 + 5 then (fun _ => 0) else (ydn L xs D).J a) (fun a => if a = D.1 then (fun i => if i < 4 then some (D.1 + 1 + i) else none) else (ydn L xs D).P a)) : xH) = (ydn L xs (ymna D)).X := by
  obtain ⟨h0, h1, h2, h3⟩ := ynk_spec h
  have e1 : (fun a => if a = D.1 then 107 else if D.1 < a ∧ a < D.1 + 5 then 101 else (ydn L xs D).K a) = (ydn L xs (ymna D)).K := by
    funext b
    show _ = if b = 1000000 then 108 else yK (ymna D) b
    show (if b = D.1 then 107 else if D.1 < b ∧ b < D.1 + 5 then 101 else if b = 1000000 then 108 else yK D b) = _
    unfold yK yKN ymna
    dsimp only
    rw [lk_kn, lk_kn, lk_kn, lk_kn, lk_kn]
    by_cases c0 : b = D.1
    · rw [if_pos c0, if_pos c0, if_neg (by omega)]; rfl
    rw [if_neg c0, if_neg c0]
    by_cases c1 : b = D.1 + 1
    · rw [if_pos (by omega), if_pos c1, if_neg (by omega)]; rfl
    rw [if_neg c1]
    by_cases c2 : b = D.1 + 2
    · rw [if_pos (by omega), if_pos c2, if_neg (by omega)]; rfl
    rw [if_neg c2]
    by_cases c3 : b = D.1 + 3
    · rw [if_pos (by omega), if_pos c3, if_neg (by omega)]; rfl
    rw [if_neg c3]
    by_cases c4 : b = D.1 + 4
    · rw [if_pos (by omega), if_pos c4, if_neg (by omega)]; rfl
    rw [if_neg c4, if_neg (by omega)]
  have e2 : (fun a => if a = D.1 then 4 else if D.1 < a ∧ a < D.1 + 5 then 60 else (ydn L xs D).N a) = (ydn L xs (ymna D)).N := by
    funext b
    show _ = if b = 1000000 then L else yN (ymna D) b
    show (if b = D.1 then 4 else if D.1 < b ∧ b < D.1 + 5 then 60 else if b = 1000000 then L else yN D b) = _
    unfold yN yKN ymna
    dsimp only
    rw [lk_kn, lk_kn, lk_kn, lk_kn, lk_kn]
    by_cases c0 : b = D.1
    · rw [if_pos c0, if_pos c0, if_neg (by omega)]; rfl
    rw [if_neg c0, if_neg c0]
    by_cases c1 : b = D.1 + 1
    · rw [if_pos (by omega), if_pos c1, if_neg (by omega)]; rfl
    rw [if_neg c1]
    by_cases c2 : b = D.1 + 2
    · rw [if_pos (by omega), if_pos c2, if_neg (by omega)]; rfl
    rw [if_neg c2]
    by_cases c3 : b = D.1 + 3
    · rw [if_pos (by omega), if_pos c3, if_neg (by omega)]; rfl
    rw [if_neg c3]
    by_cases c4 : b = D.1 + 4
    · rw [if_pos (by omega), if_pos c4, if_neg (by omega)]; rfl
    rw [if_neg c4, if_neg (by omega)]
  have e4 : (fun a => if D.1 < a ∧ a < D.1 + 5 then (fun _ => 0) else (ydn L xs D).J a) = (ydn L xs (ymna D)).J := by
    funext b j
    show (if D.1 < b ∧ b < D.1 + 5 then (fun _ => (0 : Int64)) else (ydn L xs D).J b) j = yJ D b j
    by_cases c : D.1 < b ∧ b < D.1 + 5
    · rw [if_pos c]
      unfold yJ
      rw [h2 b (by omega) j]
      rfl
    · rw [if_neg c]
      rfl
  have e5 : (fun a => if a = D.1 then (fun i => if i < 4 then some (D.1 + 1 + i) else none) else (ydn L xs D).P a) = (ydn L xs (ymna D)).P := by
    funext b j
    show (if b = D.1 then (fun i => if i < 4 then some (D.1 + 1 + i) else none) else (ydn L xs D).P b) j = yP (ymna D) b j
    unfold yP ymna
    dsimp only
    rw [lk_pair, lk_pair, lk_pair, lk_pair]
    by_cases c : b = D.1
    · rw [if_pos c]
      show (if j < 4 then some (D.1 + 1 + j) else none) = _
      by_cases c0 : j = 0
      · rw [if_pos (show j < 4 by omega), if_pos (show b = D.1 ∧ j = 0 from ⟨c, c0⟩), c0]
      rw [if_neg (show ¬ (b = D.1 ∧ j = 0) from fun q => c0 q.2)]
      by_cases c1 : j = 1
      · rw [if_pos (show j < 4 by omega), if_pos (show b = D.1 ∧ j = 1 from ⟨c, c1⟩), c1]
      rw [if_neg (show ¬ (b = D.1 ∧ j = 1) from fun q => c1 q.2)]
      by_cases c2 : j = 2
      · rw [if_pos (show j < 4 by omega), if_pos (show b = D.1 ∧ j = 2 from ⟨c, c2⟩), c2]
      rw [if_neg (show ¬ (b = D.1 ∧ j = 2) from fun q => c2 q.2)]
      by_cases c3 : j = 3
      · rw [if_pos (show j < 4 by omega), if_pos (show b = D.1 ∧ j = 3 from ⟨c, c3⟩), c3]
      rw [if_neg (show ¬ (b = D.1 ∧ j = 3) from fun q => c3 q.2), if_neg (by omega), h3 b (by omega) j]
    · rw [if_neg c, if_neg (fun q => c q.1), if_neg (fun q => c q.1), if_neg (fun q => c q.1), if_neg (fun q => c q.1)]
      rfl
  rw [e1, e2, e4, e5]
  rfl
end YDN
