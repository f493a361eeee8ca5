/-! THE HEAP AS ONE THING, and the rules in its words -/
def TH : Type := Nat × Nat × tK × tK × tI × tJ × tP
def TH.n (h : TH) : Nat := h.1
def TH.sl (h : TH) : Nat := h.2.1
def TH.K (h : TH) : tK := h.2.2.1
def TH.N (h : TH) : tK := h.2.2.2.1
def TH.I (h : TH) : tI := h.2.2.2.2.1
def TH.J (h : TH) : tJ := h.2.2.2.2.2.1
def TH.P (h : TH) : tP := h.2.2.2.2.2.2
def TH.X (h : TH) : xH := (h.n, h.sl, tc h.K h.N h.I h.J h.P)
def TH.sI (h : TH) (a k : Nat) (v : Int32) : TH := (h.n, h.sl, h.K, h.N, up2 h.I a k v, h.J, h.P)
def TH.sJ (h : TH) (a k : Nat) (v : Int64) : TH := (h.n, h.sl, h.K, h.N, h.I, up2 h.J a k v, h.P)
def TH.sP (h : TH) (a k b : Nat) : TH := (h.n, h.sl, h.K, h.N, h.I, h.J, up2 h.P a k (some b))
def TH.cI (h : TH) (a : Nat) (g : Nat → Int32) : TH := (h.n, h.sl, h.K, h.N, upr h.I a g, h.J, h.P)
def TH.cJ (h : TH) (a : Nat) (g : Nat → Int64) : TH := (h.n, h.sl, h.K, h.N, h.I, upr h.J a g, h.P)
def TH.new (h : TH) (k l m : Nat) : TH := (h.n + 1, h.sl + m, upr h.K h.n k, upr h.N h.n l, upr h.I h.n (fun _ => 0), upr h.J h.n (fun _ => 0), upr h.P h.n (fun _ => none))
/-- what a reference is -/
def TH.R (h : TH) (a k : Nat) : Nat := (h.P a k).getD 0
def ix (x : Int32) : Nat := x.toNatClampNeg
def inb (x : Int32) (n : Nat) : Prop := 0 ≤ x ∧ ix x < n
/-- a row of a kind and a place in it -/
def okA (h : TH) (a kind : Nat) (x : Int32) : Prop := h.K a = kind ∧ inb x (h.N a) ∧ h.N a ≤ 60000
def cpok (sp dp l : Int32) (na nb : Nat) : Prop := ¬ l < 0 ∧ ¬ dp < 0 ∧ ¬ sp < 0 ∧ ix sp + ix l ≤ na ∧ ix dp + ix l ≤ nb
abbrev imax (x y : Int32) : Int32 := if x < y then y else x
abbrev imin (x y : Int32) : Int32 := if y < x then y else x
abbrev irem (x y : Int32) : Int32 := x - x / y * y
abbrev lrem (x y : Int64) : Int64 := x - x / y * y
abbrev ishl (x y : Int32) : Int32 := x <<< (y &&& 31)
abbrev ishr (x y : Int32) : Int32 := x >>> (y &&& 31)
abbrev iushr (x y : Int32) : Int32 := (x.toUInt32 >>> (y.toUInt32 &&& Int32.toUInt32 31)).toInt32
abbrev lshl (x : Int64) (y : Int32) : Int64 := x <<< (y.toInt64 &&& 63)
/-- the least that is closed -/
def LFP {S : Type} (F : (S → Prop) → S → Prop) (s : S) : Prop := ∀ X : S → Prop, (∀ s, F X s → X s) → X s
theorem LFP.ind {S : Type} {F : (S → Prop) → S → Prop} (Inv : S → Prop) (mu : S → Nat) (hF : ∀ (X : S → Prop) s, Inv s → (∀ s', Inv s' → mu s' < mu s → X s') → F X s) {s : S} (h0 : Inv s) : LFP F s := by
  intro X hX
  have key : ∀ n s, mu s < n → Inv s → X s := by
    intro n
    induction n with
    | zero => intro s h; omega
    | succ n ih => intro s h1 h2; exact hX s (hF X s h2 (fun s' h3 h4 => ih s' (by omega) h3))
  exact key (mu s + 1) s (by omega) h0
theorem inb_x {x : Int32} {n : Nat} (h : inb x n) (hn : n ≤ 60000) : ∃ j, x = nI j ∧ j < n ∧ ix x = j := by
  obtain ⟨j, h1, h2⟩ := nI_of (x := x) (by have := h.1; exact Int32.not_lt.mpr this)
  refine ⟨j, h2, ?_, ?_⟩
  · have := h.2; rw [h2] at this; unfold ix at this; rwa [nI_clamp h1] at this
  · rw [h2]; exact nI_clamp h1
theorem inb_nI {j n : Nat} (h : j < n) (hn : n < 2 ^ 31) : inb (nI j) n := ⟨nI_pos' (by omega), by unfold ix; rw [nI_clamp (by omega)]; exact h⟩
theorem ix_nI {j : Nat} (h : j < 2 ^ 31) : ix (nI j) = j := nI_clamp h
section WRL
variable {d m pc nx : Nat} {lv : xL} {st : List Value} {C : xR → Prop} {h : TH} {z : Int}
theorem wgetI {i a ci k : Nat} (hf : xfetch m pc = some (.getfield i, nx, ci, k, z)) (hK : h.K a = ci) (hc : (decide (ci < 13) && decide (k < xnf ci) && tisI (xfty ci k)) = true) (kk : xEk d m (nx, lv, .int (h.I a k) :: st, h.X) C) : xEk d m (pc, lv, .ref a :: st, h.X) C := kgetI hf hK hc kk
theorem wgetJ {i a ci k : Nat} (hf : xfetch m pc = some (.getfield i, nx, ci, k, z)) (hK : h.K a = ci) (hc : (decide (ci < 13) && decide (k < xnf ci) && decide (xfty ci k = .long)) = true) (kk : xEk d m (nx, lv, .long (h.J a k) :: st, h.X) C) : xEk d m (pc, lv, .ref a :: st, h.X) C := kgetJ hf hK hc kk
theorem wgetP {i a ci k b : Nat} (hf : xfetch m pc = some (.getfield i, nx, ci, k, z)) (hK : h.K a = ci) (hc : (decide (ci < 13) && decide (k < xnf ci) && tisP (xfty ci k)) = true) (hp : h.P a k = some b) (kk : xEk d m (nx, lv, .ref b :: st, h.X) C) : xEk d m (pc, lv, .ref a :: st, h.X) C := kgetP hf hK hc hp kk
theorem wputI {i a ci k : Nat} {x : Int32} (hf : xfetch m pc = some (.putfield i, nx, ci, k, z)) (hK : h.K a = ci) (hc : (decide (ci < 13) && decide (k < xnf ci) && decide (xfty ci k = .int)) = true) (kk : xEk d m (nx, lv, st, (h.sI a k x).X) C) : xEk d m (pc, lv, .int x :: .ref a :: st, h.X) C := kputI hf hK hc kk
theorem wputZ {i a ci k : Nat} {x : Int32} (hf : xfetch m pc = some (.putfield i, nx, ci, k, z)) (hK : h.K a = ci) (hc : (decide (ci < 13) && decide (k < xnf ci) && decide (xfty ci k = .boolean)) = true) (hx : x = 0 ∨ x = 1) (kk : xEk d m (nx, lv, st, (h.sI a k x).X) C) : xEk d m (pc, lv, .int x :: .ref a :: st, h.X) C := kputZ hf hK hc hx kk
theorem wputJ {i a ci k : Nat} {x : Int64} (hf : xfetch m pc = some (.putfield i, nx, ci, k, z)) (hK : h.K a = ci) (hc : (decide (ci < 13) && decide (k < xnf ci) && decide (xfty ci k = .long)) = true) (kk : xEk d m (nx, lv, st, (h.sJ a k x).X) C) : xEk d m (pc, lv, .long x :: .ref a :: st, h.X) C := kputJ hf hK hc kk
theorem wputP {i a ci k b : Nat} (hf : xfetch m pc = some (.putfield i, nx, ci, k, z)) (hK : h.K a = ci) (hc : (decide (ci < 13) && decide (k < xnf ci) && tisP (xfty ci k)) = true) (kk : xEk d m (nx, lv, st, (h.sP a k b).X) C) : xEk d m (pc, lv, .ref b :: .ref a :: st, h.X) C := kputP hf hK hc kk
theorem wald {i a k n : Nat} {x : Int32} (hf : xfetch m pc = some (.iaload, nx, i, k, z)) (hK : h.K a = 100 ∨ h.K a = 108) (hN : h.N a = n) (hn : n ≤ 60000) (hx : inb x n) (kk : xEk d m (nx, lv, .int (h.I a (ix x)) :: st, h.X) C) : xEk d m (pc, lv, .int x :: .ref a :: st, h.X) C := by
  subst hN
  obtain ⟨j, h1, h2, h3⟩ := inb_x hx hn
  rw [h3] at kk
  exact kald hf hK h1 h2 hn kk
theorem wbald {i a k n : Nat} {x : Int32} (hf : xfetch m pc = some (.baload, nx, i, k, z)) (hK : h.K a = 102 ∨ h.K a = 103) (hN : h.N a = n) (hn : n ≤ 60000) (hx : inb x n) (kk : xEk d m (nx, lv, .int (h.I a (ix x)) :: st, h.X) C) : xEk d m (pc, lv, .int x :: .ref a :: st, h.X) C := by
  subst hN
  obtain ⟨j, h1, h2, h3⟩ := inb_x hx hn
  rw [h3] at kk
  exact kbald hf hK h1 h2 hn kk
theorem wlald {i a k n : Nat} {x : Int32} (hf : xfetch m pc = some (.laload, nx, i, k, z)) (hK : h.K a = 101) (hN : h.N a = n) (hn : n ≤ 60000) (hx : inb x n) (kk : xEk d m (nx, lv, .long (h.J a (ix x)) :: st, h.X) C) : xEk d m (pc, lv, .int x :: .ref a :: st, h.X) C := by
  subst hN
  obtain ⟨j, h1, h2, h3⟩ := inb_x hx hn
  rw [h3] at kk
  exact klald hf hK h1 h2 hn kk
theorem waald {i a k n b kd : Nat} {x : Int32} (hf : xfetch m pc = some (.aaload, nx, i, k, z)) (hK : h.K a = 100 + kd) (hkd : kd = 4 ∨ kd = 5 ∨ kd = 6 ∨ kd = 7) (hN : h.N a = n) (hn : n ≤ 60000) (hx : inb x n) (hp : h.P a (ix x) = some b) (kk : xEk d m (nx, lv, .ref b :: st, h.X) C) : xEk d m (pc, lv, .int x :: .ref a :: st, h.X) C := by
  subst hN
  obtain ⟨j, h1, h2, h3⟩ := inb_x hx hn
  rw [h3] at hp
  exact kaald hf hK hkd h1 h2 hn hp kk
theorem wast {i a k n : Nat} {x y : Int32} (hf : xfetch m pc = some (.iastore, nx, i, k, z)) (hK : h.K a = 100) (hN : h.N a = n) (hn : n ≤ 60000) (hx : inb x n) (kk : xEk d m (nx, lv, st, (h.sI a (ix x) y).X) C) : xEk d m (pc, lv, .int y :: .int x :: .ref a :: st, h.X) C := by
  subst hN
  obtain ⟨j, h1, h2, h3⟩ := inb_x hx hn
  rw [h3] at kk
  exact kast hf hK h1 h2 hn kk
theorem wbast {i a k n : Nat} {x y : Int32} (hf : xfetch m pc = some (.bastore, nx, i, k, z)) (hK : h.K a = 103) (hN : h.N a = n) (hn : n ≤ 60000) (hx : inb x n) (kk : xEk d m (nx, lv, st, (h.sI a (ix x) y.toInt8.toInt32).X) C) : xEk d m (pc, lv, .int y :: .int x :: .ref a :: st, h.X) C := by
  subst hN
  obtain ⟨j, h1, h2, h3⟩ := inb_x hx hn
  rw [h3] at kk
  exact kbast hf hK h1 h2 hn kk
theorem wzast {i a k n : Nat} {x y : Int32} (hf : xfetch m pc = some (.bastore, nx, i, k, z)) (hK : h.K a = 102) (hN : h.N a = n) (hn : n ≤ 60000) (hx : inb x n) (kk : xEk d m (nx, lv, st, (h.sI a (ix x) (y &&& 1)).X) C) : xEk d m (pc, lv, .int y :: .int x :: .ref a :: st, h.X) C := by
  subst hN
  obtain ⟨j, h1, h2, h3⟩ := inb_x hx hn
  rw [h3] at kk
  exact kzast hf hK h1 h2 hn kk
theorem wlast {i a k n : Nat} {x : Int32} {y : Int64} (hf : xfetch m pc = some (.lastore, nx, i, k, z)) (hK : h.K a = 101) (hN : h.N a = n) (hn : n ≤ 60000) (hx : inb x n) (kk : xEk d m (nx, lv, st, (h.sJ a (ix x) y).X) C) : xEk d m (pc, lv, .long y :: .int x :: .ref a :: st, h.X) C := by
  subst hN
  obtain ⟨j, h1, h2, h3⟩ := inb_x hx hn
  rw [h3] at kk
  exact klast hf hK h1 h2 hn kk
theorem walen {i a k kd n : Nat} (hf : xfetch m pc = some (.arraylength, nx, i, k, z)) (hK : h.K a = 100 + kd) (hk : kd < 9) (hN : h.N a = n) (kk : xEk d m (nx, lv, .int (nI n) :: st, h.X) C) : xEk d m (pc, lv, .ref a :: st, h.X) C := by
  subst hN
  exact kalen hf hK hk kk
theorem wnewA {at' : ArrayType} {kd k : Nat} {x : Int32} (hf : xfetch m pc = some (.newarray at', nx, kd, k, z)) (hk : kd = 0 ∨ kd = 2 ∨ kd = 3) (hx : inb x 60001) (kk : xEk d m (nx, lv, .ref h.n :: st, (h.new (100 + kd) (ix x) (ix x)).X) C) : xEk d m (pc, lv, .int x :: st, h.X) C := by
  obtain ⟨j, h1, h2⟩ := nI_of (x := x) (by have := hx.1; exact Int32.not_lt.mpr this)
  have h3 : ix x = j := by rw [h2]; exact nI_clamp h1
  have h4 := hx.2
  rw [h3] at kk h4
  exact knewA (j := j) hf hk h2 (by omega) rfl rfl kk
theorem wcopyI {i k a b : Nat} {na nb : Nat} {sp dp l : Int32} (hf : xfetch m pc = some (.invokestatic i, nx, 9996, k, z)) (ha : h.K a = 100) (hb : h.K b = 100) (hna : h.N a = na) (hnb : h.N b = nb) (ha9 : na ≤ 60000) (hb9 : nb ≤ 60000) (hc : cpok sp dp l na nb) (hs : (st.map fun v => v.category).sum ≤ 8) (kk : xEk d m (nx, lv, st, (h.cI b (va_cpy (h.I a) (h.I b) (ix sp) (ix dp) (ix l))).X) C) : xEk d m (pc, lv, .int l :: .int dp :: .ref b :: .int sp :: .ref a :: st, h.X) C := by
  subst hna hnb
  obtain ⟨c1, c2, c3, c4, c5⟩ := hc
  obtain ⟨jl, e1, e2⟩ := nI_of c1
  obtain ⟨jd, e3, e4⟩ := nI_of c2
  obtain ⟨js, e5, e6⟩ := nI_of c3
  have f1 : ix l = jl := by rw [e2]; exact nI_clamp e1
  have f2 : ix dp = jd := by rw [e4]; exact nI_clamp e3
  have f3 : ix sp = js := by rw [e6]; exact nI_clamp e5
  rw [f1, f3] at c4
  rw [f1, f2] at c5
  rw [f1, f2, f3] at kk
  exact kcopyI hf ha hb e6 e4 e2 c4 c5 ha9 hb9 hs kk
theorem wcopyJ {i k a b : Nat} {na nb : Nat} {sp dp l : Int32} (hf : xfetch m pc = some (.invokestatic i, nx, 9996, k, z)) (ha : h.K a = 101) (hb : h.K b = 101) (hna : h.N a = na) (hnb : h.N b = nb) (ha9 : na ≤ 60000) (hb9 : nb ≤ 60000) (hc : cpok sp dp l na nb) (hs : (st.map fun v => v.category).sum ≤ 8) (kk : xEk d m (nx, lv, st, (h.cJ b (va_cpy (h.J a) (h.J b) (ix sp) (ix dp) (ix l))).X) C) : xEk d m (pc, lv, .int l :: .int dp :: .ref b :: .int sp :: .ref a :: st, h.X) C := by
  subst hna hnb
  obtain ⟨c1, c2, c3, c4, c5⟩ := hc
  obtain ⟨jl, e1, e2⟩ := nI_of c1
  obtain ⟨jd, e3, e4⟩ := nI_of c2
  obtain ⟨js, e5, e6⟩ := nI_of c3
  have f1 : ix l = jl := by rw [e2]; exact nI_clamp e1
  have f2 : ix dp = jd := by rw [e4]; exact nI_clamp e3
  have f3 : ix sp = js := by rw [e6]; exact nI_clamp e5
  rw [f1, f3] at c4
  rw [f1, f2] at c5
  rw [f1, f2, f3] at kk
  exact kcopyJ hf ha hb e6 e4 e2 c4 c5 ha9 hb9 hs kk
/-- a letter of the second text -/
theorem wchr {i k n : Nat} {x : Int32} (hf : xfetch m pc = some (.invokevirtual i, nx, 9997, k, z)) (hs : (st.map fun v => v.category).sum ≤ 8) (hn : (xby 1).length = n) (hx : inb x n) (kk : xEk d m (nx, lv, .int ((xby 1).getD (ix x) 0) :: st, h.X) C) : xEk d m (pc, lv, .int x :: .ref 1000002 :: st, h.X) C := by
  have hx' : xin x (xby 1).length = true := by
    rw [hn]
    unfold xin
    have h1 := hx.1
    have h2 := hx.2
    unfold ix at h2
    simp only [Bool.not_eq_true', Bool.or_eq_false_iff, decide_eq_false_iff_not]
    exact ⟨Int32.not_lt.mpr h1, by omega⟩
  refine kst hf ?_ kk
  unfold xstep
  dsimp only
  rw [if_neg (by decide), if_pos rfl]
  unfold xschr
  dsimp only
  rw [if_pos ⟨Or.inr rfl, hs, hx'⟩]
  rfl
/-- division -/
theorem wdiv {i k : Nat} {x y : Int32} (hf : xfetch m pc = some (.idiv, nx, i, k, z)) (hy : ¬ y = 0) (kk : xEk d m (nx, lv, .int (x / y) :: st, h.X) C) : xEk d m (pc, lv, .int y :: .int x :: st, h.X) C := by
  refine kst hf ?_ kk
  show (if y = 0 then none else _) = _
  rw [if_neg hy]
theorem wrem {i k : Nat} {x y : Int32} (hf : xfetch m pc = some (.irem, nx, i, k, z)) (hy : ¬ y = 0) (kk : xEk d m (nx, lv, .int (irem x y) :: st, h.X) C) : xEk d m (pc, lv, .int y :: .int x :: st, h.X) C := by
  refine kst hf ?_ kk
  show (if y = 0 then none else _) = _
  rw [if_neg hy]
theorem wldiv {i k : Nat} {x y : Int64} (hf : xfetch m pc = some (.ldiv, nx, i, k, z)) (hy : ¬ y = 0) (kk : xEk d m (nx, lv, .long (x / y) :: st, h.X) C) : xEk d m (pc, lv, .long y :: .long x :: st, h.X) C := by
  refine kst hf ?_ kk
  show (if y = 0 then none else _) = _
  rw [if_neg hy]
theorem wlrem {i k : Nat} {x y : Int64} (hf : xfetch m pc = some (.lrem, nx, i, k, z)) (hy : ¬ y = 0) (kk : xEk d m (nx, lv, .long (lrem x y) :: st, h.X) C) : xEk d m (pc, lv, .long y :: .long x :: st, h.X) C := by
  refine kst hf ?_ kk
  show (if y = 0 then none else _) = _
  rw [if_neg hy]
/-- a boolean is given back -/
theorem wrZ {i k : Nat} {v : Int32} (hf : xfetch m pc = some (.ireturn, nx, i, k, z)) (hv : v = 0 ∨ v = 1) (hc : C (some (.int v), h.X)) : xEk d m (pc, lv, [.int v], h.X) C := by
  refine kre hf ?_ hc
  show (if i = 1 ∧ ¬ (v = 0 ∨ v = 1) then none else _) = _
  rw [if_neg (fun q => q.2 hv)]
end WRL
theorem wcm_eq {d m pc nx : Nat} {lv : xL} {st : List Value} {C : xR → Prop} {h : xH} {x y : Int32} {off z : Int} {t a : Nat} {A B : Prop} (hf : xfetch m pc = some (.if_icmp .eq off, nx, t, a, z)) (hW : if x = y then A else B) (kt : A → xEk d m (t, lv, st, h) C) (kf : B → xEk d m (nx, lv, st, h) C) : xEk d m (pc, lv, .int y :: .int x :: st, h) C :=
  kcm_eq hf (fun c => kt (by rwa [if_pos c] at hW)) (fun c => kf (by first | rwa [if_neg c] at hW | (rw [if_neg (fun q => q c)] at hW; exact hW)))
theorem wif_eq {d m pc nx : Nat} {lv : xL} {st : List Value} {C : xR → Prop} {h : xH} {x : Int32} {off z : Int} {t a : Nat} {A B : Prop} (hf : xfetch m pc = some (.ifCond .eq off, nx, t, a, z)) (hW : if x = 0 then A else B) (kt : A → xEk d m (t, lv, st, h) C) (kf : B → xEk d m (nx, lv, st, h) C) : xEk d m (pc, lv, .int x :: st, h) C :=
  kif_eq hf (fun c => kt (by rwa [if_pos c] at hW)) (fun c => kf (by first | rwa [if_neg c] at hW | (rw [if_neg (fun q => q c)] at hW; exact hW)))
theorem wcm_ne {d m pc nx : Nat} {lv : xL} {st : List Value} {C : xR → Prop} {h : xH} {x y : Int32} {off z : Int} {t a : Nat} {A B : Prop} (hf : xfetch m pc = some (.if_icmp .ne off, nx, t, a, z)) (hW : if ¬ x = y then A else B) (kt : A → xEk d m (t, lv, st, h) C) (kf : B → xEk d m (nx, lv, st, h) C) : xEk d m (pc, lv, .int y :: .int x :: st, h) C :=
  kcm_ne hf (fun c => kt (by rwa [if_pos c] at hW)) (fun c => kf (by first | rwa [if_neg c] at hW | (rw [if_neg (fun q => q c)] at hW; exact hW)))
theorem wif_ne {d m pc nx : Nat} {lv : xL} {st : List Value} {C : xR → Prop} {h : xH} {x : Int32} {off z : Int} {t a : Nat} {A B : Prop} (hf : xfetch m pc = some (.ifCond .ne off, nx, t, a, z)) (hW : if ¬ x = 0 then A else B) (kt : A → xEk d m (t, lv, st, h) C) (kf : B → xEk d m (nx, lv, st, h) C) : xEk d m (pc, lv, .int x :: st, h) C :=
  kif_ne hf (fun c => kt (by rwa [if_pos c] at hW)) (fun c => kf (by first | rwa [if_neg c] at hW | (rw [if_neg (fun q => q c)] at hW; exact hW)))
theorem wcm_lt {d m pc nx : Nat} {lv : xL} {st : List Value} {C : xR → Prop} {h : xH} {x y : Int32} {off z : Int} {t a : Nat} {A B : Prop} (hf : xfetch m pc = some (.if_icmp .lt off, nx, t, a, z)) (hW : if x < y then A else B) (kt : A → xEk d m (t, lv, st, h) C) (kf : B → xEk d m (nx, lv, st, h) C) : xEk d m (pc, lv, .int y :: .int x :: st, h) C :=
  kcm_lt hf (fun c => kt (by rwa [if_pos c] at hW)) (fun c => kf (by first | rwa [if_neg c] at hW | (rw [if_neg (fun q => q c)] at hW; exact hW)))
theorem wif_lt {d m pc nx : Nat} {lv : xL} {st : List Value} {C : xR → Prop} {h : xH} {x : Int32} {off z : Int} {t a : Nat} {A B : Prop} (hf : xfetch m pc = some (.ifCond .lt off, nx, t, a, z)) (hW : if x < 0 then A else B) (kt : A → xEk d m (t, lv, st, h) C) (kf : B → xEk d m (nx, lv, st, h) C) : xEk d m (pc, lv, .int x :: st, h) C :=
  kif_lt hf (fun c => kt (by rwa [if_pos c] at hW)) (fun c => kf (by first | rwa [if_neg c] at hW | (rw [if_neg (fun q => q c)] at hW; exact hW)))
theorem wcm_ge {d m pc nx : Nat} {lv : xL} {st : List Value} {C : xR → Prop} {h : xH} {x y : Int32} {off z : Int} {t a : Nat} {A B : Prop} (hf : xfetch m pc = some (.if_icmp .ge off, nx, t, a, z)) (hW : if y ≤ x then A else B) (kt : A → xEk d m (t, lv, st, h) C) (kf : B → xEk d m (nx, lv, st, h) C) : xEk d m (pc, lv, .int y :: .int x :: st, h) C :=
  kcm_ge hf (fun c => kt (by rwa [if_pos c] at hW)) (fun c => kf (by first | rwa [if_neg c] at hW | (rw [if_neg (fun q => q c)] at hW; exact hW)))
theorem wif_ge {d m pc nx : Nat} {lv : xL} {st : List Value} {C : xR → Prop} {h : xH} {x : Int32} {off z : Int} {t a : Nat} {A B : Prop} (hf : xfetch m pc = some (.ifCond .ge off, nx, t, a, z)) (hW : if 0 ≤ x then A else B) (kt : A → xEk d m (t, lv, st, h) C) (kf : B → xEk d m (nx, lv, st, h) C) : xEk d m (pc, lv, .int x :: st, h) C :=
  kif_ge hf (fun c => kt (by rwa [if_pos c] at hW)) (fun c => kf (by first | rwa [if_neg c] at hW | (rw [if_neg (fun q => q c)] at hW; exact hW)))
theorem wcm_gt {d m pc nx : Nat} {lv : xL} {st : List Value} {C : xR → Prop} {h : xH} {x y : Int32} {off z : Int} {t a : Nat} {A B : Prop} (hf : xfetch m pc = some (.if_icmp .gt off, nx, t, a, z)) (hW : if y < x then A else B) (kt : A → xEk d m (t, lv, st, h) C) (kf : B → xEk d m (nx, lv, st, h) C) : xEk d m (pc, lv, .int y :: .int x :: st, h) C :=
  kcm_gt hf (fun c => kt (by rwa [if_pos c] at hW)) (fun c => kf (by first | rwa [if_neg c] at hW | (rw [if_neg (fun q => q c)] at hW; exact hW)))
theorem wif_gt {d m pc nx : Nat} {lv : xL} {st : List Value} {C : xR → Prop} {h : xH} {x : Int32} {off z : Int} {t a : Nat} {A B : Prop} (hf : xfetch m pc = some (.ifCond .gt off, nx, t, a, z)) (hW : if 0 < x then A else B) (kt : A → xEk d m (t, lv, st, h) C) (kf : B → xEk d m (nx, lv, st, h) C) : xEk d m (pc, lv, .int x :: st, h) C :=
  kif_gt hf (fun c => kt (by rwa [if_pos c] at hW)) (fun c => kf (by first | rwa [if_neg c] at hW | (rw [if_neg (fun q => q c)] at hW; exact hW)))
theorem wcm_le {d m pc nx : Nat} {lv : xL} {st : List Value} {C : xR → Prop} {h : xH} {x y : Int32} {off z : Int} {t a : Nat} {A B : Prop} (hf : xfetch m pc = some (.if_icmp .le off, nx, t, a, z)) (hW : if x ≤ y then A else B) (kt : A → xEk d m (t, lv, st, h) C) (kf : B → xEk d m (nx, lv, st, h) C) : xEk d m (pc, lv, .int y :: .int x :: st, h) C :=
  kcm_le hf (fun c => kt (by rwa [if_pos c] at hW)) (fun c => kf (by first | rwa [if_neg c] at hW | (rw [if_neg (fun q => q c)] at hW; exact hW)))
theorem wif_le {d m pc nx : Nat} {lv : xL} {st : List Value} {C : xR → Prop} {h : xH} {x : Int32} {off z : Int} {t a : Nat} {A B : Prop} (hf : xfetch m pc = some (.ifCond .le off, nx, t, a, z)) (hW : if x ≤ 0 then A else B) (kt : A → xEk d m (t, lv, st, h) C) (kf : B → xEk d m (nx, lv, st, h) C) : xEk d m (pc, lv, .int x :: st, h) C :=
  kif_le hf (fun c => kt (by rwa [if_pos c] at hW)) (fun c => kf (by first | rwa [if_neg c] at hW | (rw [if_neg (fun q => q c)] at hW; exact hW)))
