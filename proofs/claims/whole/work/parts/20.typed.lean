/-! THE TYPED HEAP: what each cell is (K), how long a row is (N), its ints (I), longs (J), references (P): of an object by its fields' numbers, of a row by its places. K: 0 to 12 an object of that kind, 100 .. 107 a row, 108 the script, 999 nothing. -/
def xnf (ci : Nat) : Nat := match vwCl[ci]? with
  | some (_, _, n) => n
  | none => 0
def tv (ty : FieldType) (i : Int32) (j : Int64) (p : Option Nat) : Value := match ty with
  | .long => .long j
  | .object _ => va_rf p
  | .array _ => va_rf p
  | _ => .int i
def tcell (k n : Nat) (I : Nat → Int32) (J : Nat → Int64) (P : Nat → Option Nat) : xA :=
  if k < 13 then .inr (k, (List.range (xnf k)).map (fun f => tv (xfty k f) (I f) (J f) (P f)))
  else if k = 999 then .inr (999, [])
  else if k = 101 then .inl (1, n, .inr (.inl J))
  else if k = 104 ∨ k = 105 ∨ k = 106 ∨ k = 107 then .inl (k - 100, n, .inr (.inr (.inr (.inr P))))
  else .inl (k - 100, n, .inl I)
abbrev tK : Type := Nat → Nat
abbrev tI : Type := Nat → Nat → Int32
abbrev tJ : Type := Nat → Nat → Int64
abbrev tP : Type := Nat → Nat → Option Nat
def tc (K N : tK) (I : tI) (J : tJ) (P : tP) : Nat → xA := fun a => tcell (K a) (N a) (I a) (J a) (P a)
/-- one place of one cell -/
def up2 {α : Type} (f : Nat → Nat → α) (a k : Nat) (v : α) : Nat → Nat → α := fun b j => if b = a ∧ j = k then v else f b j
theorem up2_same {α : Type} {f : Nat → Nat → α} {a k : Nat} {v : α} : up2 f a k v a k = v := by simp [up2]
theorem up2_ne {α : Type} {f : Nat → Nat → α} {a k b j : Nat} {v : α} (h : ¬ (b = a ∧ j = k)) : up2 f a k v b j = f b j := by simp only [up2, if_neg h]
theorem up2_nea {α : Type} {f : Nat → Nat → α} {a k b j : Nat} {v : α} (h : b ≠ a) : up2 f a k v b j = f b j := up2_ne (fun q => h q.1)
theorem up2_nek {α : Type} {f : Nat → Nat → α} {a k b j : Nat} {v : α} (h : j ≠ k) : up2 f a k v b j = f b j := up2_ne (fun q => h q.2)
theorem up2_row {α : Type} (f : Nat → Nat → α) (a k : Nat) (v : α) (b : Nat) : up2 f a k v b = if b = a then (fun j => if j = k then v else f a j) else f b := by
  funext j
  unfold up2
  by_cases h : b = a
  · subst h
    by_cases h2 : j = k <;> simp [h2]
  · simp [h]
section TPUT
variable {n sl : Nat} {K N : tK} {I : tI} {J : tJ} {P : tP}
theorem tc_obj {a ci : Nat} (hK : K a = ci) (hc : ci < 13) : tc K N I J P a = .inr (ci, (List.range (xnf ci)).map (fun f => tv (xfty ci f) (I a f) (J a f) (P a f))) := by
  subst hK
  unfold tc tcell
  rw [if_pos hc]
theorem tc_ne {K' N' : tK} {I' : tI} {J' : tJ} {P' : tP} {b : Nat} (h1 : K' b = K b) (h2 : N' b = N b) (h3 : I' b = I b) (h4 : J' b = J b) (h5 : P' b = P b) : tc K' N' I' J' P' b = tc K N I J P b := by
  unfold tc
  rw [h1, h2, h3, h4, h5]
theorem range_set {α : Type} {m k : Nat} {f g : Nat → α} (hk : k < m) (h : ∀ j, j ≠ k → g j = f j) : ((List.range m).map f).set k (g k) = (List.range m).map g := by
  apply List.ext_getElem?
  intro j
  rw [List.getElem?_set]
  by_cases e : k = j
  · subst e
    simp [hk]
  · rw [if_neg e, List.getElem?_map, List.getElem?_map]
    by_cases hj : j < m
    · rw [List.getElem?_range hj]
      exact congrArg some (h j (Ne.symm e)).symm
    · rw [List.getElem?_eq_none (by simp; omega)]
      rfl
/-- a field is written -/
theorem tput_obj {a ci k : Nat} {I' : tI} {J' : tJ} {P' : tP} {v : Value} (hK : K a = ci) (hc : ci < 13) (hk : k < xnf ci) (hv : tv (xfty ci k) (I' a k) (J' a k) (P' a k) = v) (hI : ∀ b j, ¬ (b = a ∧ j = k) → I' b j = I b j) (hJ : ∀ b j, ¬ (b = a ∧ j = k) → J' b j = J b j) (hP : ∀ b j, ¬ (b = a ∧ j = k) → P' b j = P b j) :
    xput (n, sl, tc K N I J P) a (.inr (ci, ((List.range (xnf ci)).map (fun f => tv (xfty ci f) (I a f) (J a f) (P a f))).set k v)) = (n, sl, tc K N I' J' P') := by
  unfold xput
  refine congrArg (fun z => (n, sl, z)) (funext fun b => ?_)
  unfold va_up
  by_cases hb : b = a
  · subst hb
    rw [if_pos rfl, tc_obj hK hc]
    refine congrArg (fun z => Sum.inr (ci, z)) ?_
    rw [← hv]
    exact range_set (g := fun f => tv (xfty ci f) (I' b f) (J' b f) (P' b f)) hk (fun j hj => by show tv (xfty ci j) (I' b j) (J' b j) (P' b j) = _; rw [hI b j (fun q => hj q.2), hJ b j (fun q => hj q.2), hP b j (fun q => hj q.2)])
  · rw [if_neg hb]
    exact (tc_ne rfl rfl (funext fun j => hI b j (fun q => hb q.1)) (funext fun j => hJ b j (fun q => hb q.1)) (funext fun j => hP b j (fun q => hb q.1))).symm
theorem tc_iarr {a : Nat} {k : Nat} (hK : K a = 100 + k) (hk : k = 0 ∨ k = 2 ∨ k = 3 ∨ k = 8) : tc K N I J P a = .inl (k, N a, .inl (I a)) := by
  unfold tc tcell
  rw [hK, if_neg (by omega), if_neg (by omega), if_neg (by omega), if_neg (by omega), Nat.add_sub_cancel_left]
theorem tc_jarr {a : Nat} (hK : K a = 101) : tc K N I J P a = .inl (1, N a, .inr (.inl (J a))) := by
  unfold tc tcell
  rw [hK, if_neg (by omega), if_neg (by omega), if_pos rfl]
theorem tc_parr {a : Nat} {k : Nat} (hK : K a = 100 + k) (hk : k = 4 ∨ k = 5 ∨ k = 6 ∨ k = 7) : tc K N I J P a = .inl (k, N a, .inr (.inr (.inr (.inr (P a))))) := by
  unfold tc tcell
  rw [hK, if_neg (by omega), if_neg (by omega), if_neg (by omega), if_pos (by omega), Nat.add_sub_cancel_left]
theorem tput_i {a : Nat} {k j : Nat} {x : Int32} (hK : K a = 100 + k) (hk : k = 0 ∨ k = 2 ∨ k = 3) : xput (n, sl, tc K N I J P) a (.inl (k, N a, .inl (upd (I a) j x))) = (n, sl, tc K N (up2 I a j x) J P) := by
  unfold xput
  refine congrArg (fun z => (n, sl, z)) (funext fun b => ?_)
  unfold va_up
  by_cases hb : b = a
  · subst hb
    rw [if_pos rfl, tc_iarr hK (by omega), up2_row, if_pos rfl]
    rfl
  · rw [if_neg hb]
    exact (tc_ne rfl rfl (by rw [up2_row, if_neg hb]) rfl rfl).symm
theorem tput_j {a : Nat} {j : Nat} {x : Int64} (hK : K a = 101) : xput (n, sl, tc K N I J P) a (.inl (1, N a, .inr (.inl (vp_updL (J a) j x)))) = (n, sl, tc K N I (up2 J a j x) P) := by
  unfold xput
  refine congrArg (fun z => (n, sl, z)) (funext fun b => ?_)
  unfold va_up
  by_cases hb : b = a
  · subst hb
    rw [if_pos rfl, tc_jarr hK, up2_row, if_pos rfl]
    rfl
  · rw [if_neg hb]
    exact (tc_ne rfl rfl rfl (by rw [up2_row, if_neg hb]) rfl).symm
theorem tput_p {a : Nat} {k j : Nat} {x : Option Nat} (hK : K a = 100 + k) (hk : k = 4 ∨ k = 5 ∨ k = 6 ∨ k = 7) : xput (n, sl, tc K N I J P) a (.inl (k, N a, .inr (.inr (.inr (.inr (va_up (P a) j x)))))) = (n, sl, tc K N I J (up2 P a j x)) := by
  unfold xput
  refine congrArg (fun z => (n, sl, z)) (funext fun b => ?_)
  unfold va_up
  by_cases hb : b = a
  · subst hb
    rw [if_pos rfl, tc_parr hK hk, up2_row, if_pos rfl]
  · rw [if_neg hb]
    exact (tc_ne rfl rfl rfl rfl (by rw [up2_row, if_neg hb])).symm
/-- a row of ints is written anew -/
def upr {α : Type} (f : Nat → α) (a : Nat) (v : α) : Nat → α := fun b => if b = a then v else f b
theorem upr_same {α : Type} {f : Nat → α} {a : Nat} {v : α} : upr f a v a = v := if_pos rfl
theorem upr_ne {α : Type} {f : Nat → α} {a b : Nat} {v : α} (h : b ≠ a) : upr f a v b = f b := if_neg h
theorem tput_ir {a : Nat} {k : Nat} {g : Nat → Int32} (hK : K a = 100 + k) (hk : k = 0 ∨ k = 2 ∨ k = 3) : xput (n, sl, tc K N I J P) a (.inl (k, N a, .inl g)) = (n, sl, tc K N (upr I a g) J P) := by
  unfold xput
  refine congrArg (fun z => (n, sl, z)) (funext fun b => ?_)
  unfold va_up
  by_cases hb : b = a
  · subst hb
    rw [if_pos rfl, tc_iarr hK (by omega), upr_same]
  · rw [if_neg hb]
    exact (tc_ne rfl rfl (upr_ne hb) rfl rfl).symm
theorem tput_jr {a : Nat} {g : Nat → Int64} (hK : K a = 101) : xput (n, sl, tc K N I J P) a (.inl (1, N a, .inr (.inl g))) = (n, sl, tc K N I (upr J a g) P) := by
  unfold xput
  refine congrArg (fun z => (n, sl, z)) (funext fun b => ?_)
  unfold va_up
  by_cases hb : b = a
  · subst hb
    rw [if_pos rfl, tc_jarr hK, upr_same]
  · rw [if_neg hb]
    exact (tc_ne rfl rfl rfl (upr_ne hb) rfl).symm
/-- a cell is made -/
theorem tadd {m k l : Nat} {E : xA} (hE : E = tcell k l (fun _ => 0) (fun _ => 0) (fun _ => none)) : xadd (n, sl, tc K N I J P) m E = (n + 1, sl + m, tc (upr K n k) (upr N n l) (upr I n (fun _ => 0)) (upr J n (fun _ => 0)) (upr P n (fun _ => none))) := by
  unfold xadd
  refine congrArg (fun z => (n + 1, sl + m, z)) (funext fun b => ?_)
  unfold va_up
  by_cases hb : b = n
  · subst hb
    rw [if_pos rfl, hE]
    unfold tc
    rw [upr_same, upr_same, upr_same, upr_same, upr_same]
  · rw [if_neg hb]
    exact (tc_ne (upr_ne hb) (upr_ne hb) (upr_ne hb) (upr_ne hb) (upr_ne hb)).symm
end TPUT
/-- an index that is a number -/
theorem xin_nI {j m : Nat} (h : j < m) (hm : m ≤ 60000) : xin (nI j) m = true ∧ (nI j).toNatClampNeg = j := by
  have h1 : j < 2 ^ 31 := by omega
  refine ⟨?_, nI_clamp h1⟩
  unfold xin
  rw [nI_clamp h1]
  simp only [Bool.not_eq_true', Bool.or_eq_false_iff, decide_eq_false_iff_not]
  exact ⟨nI_pos h1, by omega⟩
section TEV
variable {d m pc nx n sl : Nat} {lv : xL} {st : List Value} {r : xR} {K N : tK} {I : tI} {J : tJ} {P : tP} {i : Nat} {z : Int}
def tisI (ty : FieldType) : Bool := match ty with
  | .int => true
  | .boolean => true
  | _ => false
def tisP (ty : FieldType) : Bool := match ty with
  | .object _ => true
  | .array _ => true
  | _ => false
theorem tv_I {ty : FieldType} {x : Int32} {y : Int64} {p : Option Nat} (h : tisI ty = true) : tv ty x y p = .int x := by
  cases ty <;> first | rfl | (simp [tisI] at h; done)
theorem tv_P {ty : FieldType} {x : Int32} {y : Int64} {p : Option Nat} (h : tisP ty = true) : tv ty x y p = va_rf p := by
  cases ty <;> first | rfl | (simp [tisP] at h; done)
/-- a field is read -/
theorem tget {a ci k : Nat} (hf : xfetch m pc = some (.getfield i, nx, ci, k, z)) (hK : K a = ci) (hc : ci < 13) (hk : k < xnf ci) (kk : xEv d m (nx, lv, tv (xfty ci k) (I a k) (J a k) (P a k) :: st, n, sl, tc K N I J P) r) : xEv d m (pc, lv, .ref a :: st, n, sl, tc K N I J P) r := by
  refine xEv_step hf ?_ kk
  unfold xstep
  dsimp only
  unfold xget
  dsimp only
  rw [tc_obj hK hc]
  dsimp only
  simp only [if_true, List.getElem?_map, List.getElem?_range hk, Option.map_some]
theorem tgetI {a ci k : Nat} (hf : xfetch m pc = some (.getfield i, nx, ci, k, z)) (hK : K a = ci) (hc : (decide (ci < 13) && decide (k < xnf ci) && tisI (xfty ci k)) = true) (kk : xEv d m (nx, lv, .int (I a k) :: st, n, sl, tc K N I J P) r) : xEv d m (pc, lv, .ref a :: st, n, sl, tc K N I J P) r := by
  simp only [Bool.and_eq_true, decide_eq_true_eq] at hc
  refine tget hf hK hc.1.1 hc.1.2 ?_
  rw [tv_I hc.2]
  exact kk
theorem tgetJ {a ci k : Nat} (hf : xfetch m pc = some (.getfield i, nx, ci, k, z)) (hK : K a = ci) (hc : (decide (ci < 13) && decide (k < xnf ci) && decide (xfty ci k = .long)) = true) (kk : xEv d m (nx, lv, .long (J a k) :: st, n, sl, tc K N I J P) r) : xEv d m (pc, lv, .ref a :: st, n, sl, tc K N I J P) r := by
  simp only [Bool.and_eq_true, decide_eq_true_eq] at hc
  refine tget hf hK hc.1.1 hc.1.2 ?_
  rw [hc.2]
  exact kk
theorem tgetP {a ci k b : Nat} (hf : xfetch m pc = some (.getfield i, nx, ci, k, z)) (hK : K a = ci) (hc : (decide (ci < 13) && decide (k < xnf ci) && tisP (xfty ci k)) = true) (hp : P a k = some b) (kk : xEv d m (nx, lv, .ref b :: st, n, sl, tc K N I J P) r) : xEv d m (pc, lv, .ref a :: st, n, sl, tc K N I J P) r := by
  simp only [Bool.and_eq_true, decide_eq_true_eq] at hc
  refine tget hf hK hc.1.1 hc.1.2 ?_
  rw [tv_P hc.2, hp]
  exact kk
/-- a field is written -/
theorem tputv {a ci k : Nat} {v : Value} {h' : xH} (hf : xfetch m pc = some (.putfield i, nx, ci, k, z)) (hK : K a = ci) (hc : ci < 13) (hk : k < xnf ci) (hv : xfit (xfty ci k) v = true) (hh : xput (n, sl, tc K N I J P) a (.inr (ci, ((List.range (xnf ci)).map (fun f => tv (xfty ci f) (I a f) (J a f) (P a f))).set k v)) = h') (kk : xEv d m (nx, lv, st, h') r) : xEv d m (pc, lv, v :: .ref a :: st, n, sl, tc K N I J P) r := by
  refine xEv_step hf ?_ kk
  unfold xstep
  dsimp only
  unfold xsetf
  dsimp only
  rw [tc_obj hK hc]
  dsimp only
  simp only [List.length_map, List.length_range]
  rw [if_pos ⟨trivial, hk, hv⟩, hh]
theorem tputI {a ci k : Nat} {x : Int32} (hf : xfetch m pc = some (.putfield i, nx, ci, k, z)) (hK : K a = ci) (hc : (decide (ci < 13) && decide (k < xnf ci) && decide (xfty ci k = .int)) = true) (kk : xEv d m (nx, lv, st, n, sl, tc K N (up2 I a k x) J P) r) : xEv d m (pc, lv, .int x :: .ref a :: st, n, sl, tc K N I J P) r := by
  simp only [Bool.and_eq_true, decide_eq_true_eq] at hc
  refine tputv hf hK hc.1.1 hc.1.2 (by rw [hc.2]; rfl) (tput_obj (I' := up2 I a k x) (J' := J) (P' := P) hK hc.1.1 hc.1.2 (by rw [hc.2, up2_same]; rfl) (fun b j h => up2_ne h) (fun _ _ _ => rfl) (fun _ _ _ => rfl)) kk
theorem tputZ {a ci k : Nat} {x : Int32} (hf : xfetch m pc = some (.putfield i, nx, ci, k, z)) (hK : K a = ci) (hc : (decide (ci < 13) && decide (k < xnf ci) && decide (xfty ci k = .boolean)) = true) (hx : x = 0 ∨ x = 1) (kk : xEv d m (nx, lv, st, n, sl, tc K N (up2 I a k x) J P) r) : xEv d m (pc, lv, .int x :: .ref a :: st, n, sl, tc K N I J P) r := by
  simp only [Bool.and_eq_true, decide_eq_true_eq] at hc
  refine tputv hf hK hc.1.1 hc.1.2 (by rw [hc.2]; rcases hx with rfl | rfl <;> rfl) (tput_obj (I' := up2 I a k x) (J' := J) (P' := P) hK hc.1.1 hc.1.2 (by rw [hc.2, up2_same]; rfl) (fun b j h => up2_ne h) (fun _ _ _ => rfl) (fun _ _ _ => rfl)) kk
theorem tputJ {a ci k : Nat} {x : Int64} (hf : xfetch m pc = some (.putfield i, nx, ci, k, z)) (hK : K a = ci) (hc : (decide (ci < 13) && decide (k < xnf ci) && decide (xfty ci k = .long)) = true) (kk : xEv d m (nx, lv, st, n, sl, tc K N I (up2 J a k x) P) r) : xEv d m (pc, lv, .long x :: .ref a :: st, n, sl, tc K N I J P) r := by
  simp only [Bool.and_eq_true, decide_eq_true_eq] at hc
  refine tputv hf hK hc.1.1 hc.1.2 (by rw [hc.2]; rfl) (tput_obj (I' := I) (J' := up2 J a k x) (P' := P) hK hc.1.1 hc.1.2 (by rw [hc.2, up2_same]; rfl) (fun _ _ _ => rfl) (fun b j h => up2_ne h) (fun _ _ _ => rfl)) kk
theorem tputP {a ci k b : Nat} (hf : xfetch m pc = some (.putfield i, nx, ci, k, z)) (hK : K a = ci) (hc : (decide (ci < 13) && decide (k < xnf ci) && tisP (xfty ci k)) = true) (kk : xEv d m (nx, lv, st, n, sl, tc K N I J (up2 P a k (some b))) r) : xEv d m (pc, lv, .ref b :: .ref a :: st, n, sl, tc K N I J P) r := by
  simp only [Bool.and_eq_true, decide_eq_true_eq] at hc
  refine tputv hf hK hc.1.1 hc.1.2 (by have h9 := hc.2; revert h9; cases xfty ci k <;> intro h9 <;> first | rfl | (simp [tisP] at h9; done)) (tput_obj (I' := I) (J' := J) (P' := up2 P a k (some b)) hK hc.1.1 hc.1.2 (by rw [tv_P hc.2, up2_same]; rfl) (fun _ _ _ => rfl) (fun _ _ _ => rfl) (fun b j h => up2_ne h)) kk
/-- rows -/
theorem tald {a k j : Nat} {x : Int32} (hf : xfetch m pc = some (.iaload, nx, i, k, z)) (hK : K a = 100 ∨ K a = 108) (hx : x = nI j) (hj : j < N a) (hN : N a ≤ 60000) (kk : xEv d m (nx, lv, .int (I a j) :: st, n, sl, tc K N I J P) r) : xEv d m (pc, lv, .int x :: .ref a :: st, n, sl, tc K N I J P) r := by
  subst hx
  obtain ⟨h1, h2⟩ := xin_nI hj hN
  refine xEv_step hf ?_ kk
  unfold xstep
  dsimp only
  unfold xiald
  rcases hK with hK | hK
  · dsimp only
    rw [tc_iarr (k := 0) hK (by omega)]
    dsimp only
    rw [h1, h2]
    rfl
  · dsimp only
    rw [tc_iarr (k := 8) hK (by omega)]
    dsimp only
    rw [h1, h2]
    rfl
theorem tbald {a k j : Nat} {x : Int32} (hf : xfetch m pc = some (.baload, nx, i, k, z)) (hK : K a = 102 ∨ K a = 103) (hx : x = nI j) (hj : j < N a) (hN : N a ≤ 60000) (kk : xEv d m (nx, lv, .int (I a j) :: st, n, sl, tc K N I J P) r) : xEv d m (pc, lv, .int x :: .ref a :: st, n, sl, tc K N I J P) r := by
  subst hx
  obtain ⟨h1, h2⟩ := xin_nI hj hN
  refine xEv_step hf ?_ kk
  unfold xstep
  dsimp only
  unfold xbald
  rcases hK with hK | hK
  · dsimp only
    rw [tc_iarr (k := 2) hK (by omega)]
    dsimp only
    rw [h1, h2]
    rfl
  · dsimp only
    rw [tc_iarr (k := 3) hK (by omega)]
    dsimp only
    rw [h1, h2]
    rfl
theorem tlald {a k j : Nat} {x : Int32} (hf : xfetch m pc = some (.laload, nx, i, k, z)) (hK : K a = 101) (hx : x = nI j) (hj : j < N a) (hN : N a ≤ 60000) (kk : xEv d m (nx, lv, .long (J a j) :: st, n, sl, tc K N I J P) r) : xEv d m (pc, lv, .int x :: .ref a :: st, n, sl, tc K N I J P) r := by
  subst hx
  obtain ⟨h1, h2⟩ := xin_nI hj hN
  refine xEv_step hf ?_ kk
  unfold xstep
  dsimp only
  unfold xlald
  dsimp only
  rw [tc_jarr hK]
  dsimp only
  simp only [h1, h2]
  rfl
theorem taald {a k j b kd : Nat} {x : Int32} (hf : xfetch m pc = some (.aaload, nx, i, k, z)) (hK : K a = 100 + kd) (hkd : kd = 4 ∨ kd = 5 ∨ kd = 6 ∨ kd = 7) (hx : x = nI j) (hj : j < N a) (hN : N a ≤ 60000) (hp : P a j = some b) (kk : xEv d m (nx, lv, .ref b :: st, n, sl, tc K N I J P) r) : xEv d m (pc, lv, .int x :: .ref a :: st, n, sl, tc K N I J P) r := by
  subst hx
  obtain ⟨h1, h2⟩ := xin_nI hj hN
  refine xEv_step hf ?_ kk
  unfold xstep
  dsimp only
  unfold xaald
  dsimp only
  rw [tc_parr hK hkd]
  dsimp only
  simp only [h1, h2, hp, hkd, and_self, if_true]
  rfl
theorem tast {a k j : Nat} {x y : Int32} (hf : xfetch m pc = some (.iastore, nx, i, k, z)) (hK : K a = 100) (hx : x = nI j) (hj : j < N a) (hN : N a ≤ 60000) (kk : xEv d m (nx, lv, st, n, sl, tc K N (up2 I a j y) J P) r) : xEv d m (pc, lv, .int y :: .int x :: .ref a :: st, n, sl, tc K N I J P) r := by
  subst hx
  obtain ⟨h1, h2⟩ := xin_nI hj hN
  refine xEv_step hf ?_ kk
  unfold xstep
  dsimp only
  unfold xiast
  dsimp only
  rw [tc_iarr (k := 0) hK (by omega)]
  dsimp only
  simp only [h1, h2, and_self, if_true]
  rw [tput_i (k := 0) hK (by omega)]
theorem tbast {a k j : Nat} {x y : Int32} (hf : xfetch m pc = some (.bastore, nx, i, k, z)) (hK : K a = 103) (hx : x = nI j) (hj : j < N a) (hN : N a ≤ 60000) (kk : xEv d m (nx, lv, st, n, sl, tc K N (up2 I a j y.toInt8.toInt32) J P) r) : xEv d m (pc, lv, .int y :: .int x :: .ref a :: st, n, sl, tc K N I J P) r := by
  subst hx
  obtain ⟨h1, h2⟩ := xin_nI hj hN
  refine xEv_step hf ?_ kk
  unfold xstep
  dsimp only
  unfold xbast
  dsimp only
  rw [tc_iarr (k := 3) hK (by omega)]
  dsimp only
  simp only [h1, h2, and_self, if_true]
  rw [if_neg (by omega), tput_i (k := 3) hK (by omega)]
theorem tzast {a k j : Nat} {x y : Int32} (hf : xfetch m pc = some (.bastore, nx, i, k, z)) (hK : K a = 102) (hx : x = nI j) (hj : j < N a) (hN : N a ≤ 60000) (kk : xEv d m (nx, lv, st, n, sl, tc K N (up2 I a j (y &&& 1)) J P) r) : xEv d m (pc, lv, .int y :: .int x :: .ref a :: st, n, sl, tc K N I J P) r := by
  subst hx
  obtain ⟨h1, h2⟩ := xin_nI hj hN
  refine xEv_step hf ?_ kk
  unfold xstep
  dsimp only
  unfold xbast
  dsimp only
  rw [tc_iarr (k := 2) hK (by omega)]
  dsimp only
  simp only [h1, h2, and_self, if_true]
  rw [tput_i (k := 2) hK (by omega)]
theorem tlast {a k j : Nat} {x : Int32} {y : Int64} (hf : xfetch m pc = some (.lastore, nx, i, k, z)) (hK : K a = 101) (hx : x = nI j) (hj : j < N a) (hN : N a ≤ 60000) (kk : xEv d m (nx, lv, st, n, sl, tc K N I (up2 J a j y) P) r) : xEv d m (pc, lv, .long y :: .int x :: .ref a :: st, n, sl, tc K N I J P) r := by
  subst hx
  obtain ⟨h1, h2⟩ := xin_nI hj hN
  refine xEv_step hf ?_ kk
  unfold xstep
  dsimp only
  unfold xlast
  dsimp only
  rw [tc_jarr hK]
  dsimp only
  simp only [h1, h2, and_self, if_true]
  rw [tput_j hK]
theorem taast {a k j b kd : Nat} {x : Int32} (hf : xfetch m pc = some (.aastore, nx, i, k, z)) (hK : K a = 100 + kd) (hkd : kd = 4 ∨ kd = 5 ∨ kd = 6) (hb : K b = xokind kd) (hx : x = nI j) (hj : j < N a) (hN : N a ≤ 60000) (kk : xEv d m (nx, lv, st, n, sl, tc K N I J (up2 P a j (some b))) r) : xEv d m (pc, lv, .ref b :: .int x :: .ref a :: st, n, sl, tc K N I J P) r := by
  subst hx
  obtain ⟨h1, h2⟩ := xin_nI hj hN
  refine xEv_step hf ?_ kk
  unfold xstep
  dsimp only
  unfold xaast
  dsimp only
  have hlt : xokind kd < 13 := by unfold xokind; split <;> (try split) <;> omega
  rw [tc_parr hK (by omega), tc_obj hb hlt]
  simp only [h1, h2, hkd, and_self, if_true]
  rw [tput_p hK (by omega)]
theorem talen {a k kd : Nat} (hf : xfetch m pc = some (.arraylength, nx, i, k, z)) (hK : K a = 100 + kd) (hk : kd < 9) (kk : xEv d m (nx, lv, .int (nI (N a)) :: st, n, sl, tc K N I J P) r) : xEv d m (pc, lv, .ref a :: st, n, sl, tc K N I J P) r := by
  refine xEv_step hf ?_ kk
  unfold xstep
  dsimp only
  unfold xalen
  dsimp only
  by_cases h1 : kd = 1
  · subst h1
    rw [tc_jarr hK]
    rfl
  · by_cases h2 : kd = 4 ∨ kd = 5 ∨ kd = 6 ∨ kd = 7
    · rw [tc_parr hK h2]
      rfl
    · rw [tc_iarr hK (by omega)]
      rfl
end TEV
