/-! ONE STEP OF THE SMALL MACHINE: the machine goes on from where it leads. -/
def xadr (ad : Nat → Nat) (sz0 : Nat) : Prop := (∀ i, i < 1000000 → ad i = sz0 + i) ∧ ad 1000000 < sz0 ∧ ad 1000001 < sz0 ∧ ad 1000002 < sz0
def xA0 (sz0 : Nat) : Nat → Prop := fun q => sz0 ≤ q
theorem xws_D {cy : Nat → ClassId} {ad : Nat → Nat} {sz0 : Nat} (hA : xadr ad sz0) {h : xH} (hn : h.1 ≤ 600000) : va_D (xA0 sz0) (xws cy ad h) := by
  refine ⟨fun i j p q hp hq e => ?_, fun k q hq => ?_⟩
  · by_cases hi : i < h.1
    · by_cases hj : j < h.1
      · rw [xws_get hi] at hp
        rw [xws_get hj] at hq
        cases hp
        cases hq
        have e : ad i = ad j := e
        rw [hA.1 i (by omega), hA.1 j (by omega)] at e
        omega
      · rw [xws_none hj] at hq; cases hq
    · rw [xws_none hi] at hp; cases hp
  · by_cases hk : k < h.1
    · rw [xws_get hk] at hq
      cases hq
      show sz0 ≤ ad k
      rw [hA.1 k (by omega)]
      omega
    · rw [xws_none hk] at hq; cases hq
/-- the two texts, as the tables have them -/
def xlens : List Nat := [(xby 0).length, (xby 1).length]
def xbyts : List (List Int32) := [xby 0, xby 1]
def xstr (ad : Nat → Nat) (sz0 : Nat) (U : State) : Prop := vk_R RX9 35 xtx0 (ad 1000001) U ∧ vk_R RX12 196 xtx1 (ad 1000002) U ∧ (∃ adV, vk_S 2 xlens xbyts (fun i => ad (1000001 + i)) adV (xA0 sz0) U U.heap) ∧ va_Z "java/lang/String" "COMPACT_STRINGS" "Z" (.int 1) (xA0 sz0) U U.heap ∧ va_Zq "jdk/internal/util/Preconditions" "SIOOBE_FORMATTER" "Ljava/util/function/BiFunction;" (xA0 sz0) U U.heap
def xsta (D : va_G) (cy : Nat → ClassId) (ad : Nat → Nat) (sz0 L : Nat) (xs : Nat → Int32) (U : State) : Prop :=
  va_K D vwCl (xtys cy) U ∧ va_X (ad 1000000) L xs U U.heap ∧ (∀ w ∈ xnest, va_Nw w U) ∧ (va_AO RX1 U ∧ va_AO RX3 U ∧ va_AO RX5 U ∧ va_AOA .long U) ∧ sz0 ≤ U.heap.size ∧ xstr ad sz0 U
def xctx (D : va_G) (cy : Nat → ClassId) (ad : Nat → Nat) (sz0 L : Nat) (xs : Nat → Int32) (q : xMI) (p : Program) (s : State) (mid : MethodId) (args : Array Value) (meth : Method) (c : Code) : Prop :=
  p.tables.exec = Jvm.exec ∧ c.code = q.2.2.1 ∧ meth.sig.returnType = q.2.2.2.2.1 ∧ c.maxLocals = q.2.2.2.1 ∧ (∀ w ∈ xTB, w.before args s = true) ∧ s.vm.findClass q.1 = some mid.cls ∧ meth.locks = false ∧ (q.2.1.name = "<init>" → meth.name = "<init>") ∧ xsta D cy ad sz0 L xs s
theorem xTB_of {w : Cond} (h : w ∈ lw_tbl) (g : goodWord w = true) : w ∈ xTB := List.mem_filter.mpr ⟨h, g⟩
theorem xlook {lv : xL} {i : Nat} {v : Value} (h : lv.lookup i = some v) : (i, v) ∈ lv := by
  induction lv with
  | nil => cases h
  | cons a t ih =>
    obtain ⟨j, w⟩ := a
    rw [List.lookup_cons] at h
    split at h
    · next e =>
      cases h
      have : i = j := by simpa using e
      subst this
      exact List.mem_cons_self
    · exact List.mem_cons_of_mem _ (ih h)
theorem xst1_map (ad : Nat → Nat) (lv : xL) (i : Nat) (v : Value) : (i, xcv ad v) :: (lv.map (xlc ad)).filter (fun q => !(q.1 == i) && !(q.1 + 1 == i && q.2.category == 2)) = (xst1 lv i v).map (xlc ad) := by
  unfold xst1
  rw [List.map_cons, List.filter_map]
  refine congrArg _ (congrArg _ ?_)
  congr 1
  funext q
  simp [Function.comp, xlc, xcv_cat]
theorem xst2_map (ad : Nat → Nat) (lv : xL) (i : Nat) (v : Value) : (i, xcv ad v) :: (lv.map (xlc ad)).filter (fun q => !(q.1 == i) && (!(q.1 == i + 1) && !(q.1 + 1 == i && q.2.category == 2))) = (xst2 lv i v).map (xlc ad) := by
  unfold xst2
  rw [List.map_cons, List.filter_map]
  refine congrArg _ (congrArg _ ?_)
  congr 1
  funext q
  simp [Function.comp, xlc, xcv_cat]
theorem xpool_in {t : xCP} {i a1 a2 : Nat} {z : Int} (h : xpool t i a1 a2 z = true) : ∃ hint, (i, hint, a1, a2, z) ∈ t := by
  unfold xpool at h
  obtain ⟨⟨i', hi, b1, b2, w⟩, hm, hc⟩ := List.any_eq_true.mp h
  simp only [Bool.and_eq_true, beq_iff_eq, decide_eq_true_eq] at hc
  obtain ⟨⟨⟨rfl, rfl⟩, rfl⟩, rfl⟩ := hc
  exact ⟨hi, hm⟩
section XSTEP
variable {p : Program} {l : Launch} {e : Env} {R : Room} {s : State} {mid : MethodId} {args : Array Value} {below : List Frame} {meth : Method} {c : Code} {H : Heap} {locs : List Loc} {cells slots : Nat} {Q : State → Prop}
variable {D : va_G} {cy : Nat → ClassId} {ad : Nat → Nat} {sz0 L : Nat} {xs : Nat → Int32} {q : xMI} {cn : Nat} {ls : Array Slot} {pc : Nat} {lv : xL} {st : List Value} {h : xH} {σ : xS}
/-- where the machine is to go on -/
abbrev xgo (p : Program) (l : Launch) (e : Env) (R : Room) (s : State) (mid : MethodId) (args : Array Value) (below : List Frame) (meth : Method) (c : Code) (cells slots : Nat) (Q : State → Prop) (D : va_G) (cy : Nat → ClassId) (ad : Nat → Nat) (sz0 : Nat) (nL : Nat) (h : xH) (σ : xS) : Prop :=
  ∀ (ls' : Array Slot) (H' : Heap) (locs' : List Loc), lv_has ls' nL (σ.2.1.map (xlc ad)) → va_P D vwCl (xws cy ad σ.2.2.2) H' → va_S (xA0 sz0) s.heap H' locs' → W p l e R s mid args below meth c H' locs' (cells + (σ.2.2.2.1 - h.1)) (slots + (σ.2.2.2.2.1 - h.2.1)) Q (F0 mid σ.1 ls' (σ.2.2.1.map (xcv ad)))
theorem xgo_same {pc' : Nat} {lv' : xL} {st' : List Value} {nL : Nat} (k : xgo p l e R s mid args below meth c cells slots Q D cy ad sz0 nL h (pc', lv', st', h)) {ls' : Array Slot} (hl : lv_has ls' nL (lv'.map (xlc ad))) (hP : va_P D vwCl (xws cy ad h) H) (hS : va_S (xA0 sz0) s.heap H locs) : W p l e R s mid args below meth c H locs cells slots Q (F0 mid pc' ls' (st'.map (xcv ad))) := by
  have := k ls' H locs hl hP hS
  simpa only [Nat.sub_self, Nat.add_zero] using this
/-- the size of the heap, from the room -/
theorem W_size {g : JFrame} (hlo : sz0 + h.1 ≤ H.size) (hc : s.heap.size + cells = sz0 + h.1) (k : H.size = sz0 + h.1 → W p l e R s mid args below meth c H locs cells slots Q g) : W p l e R s mid args below meth c H locs cells slots Q g := by
  intro T hT X
  have h1 := X.heapSize
  rw [hT] at h1
  exact k (by omega) T hT X
theorem xsize (hA : xadr ad sz0) (hn : h.1 ≤ 600000) (hsz : sz0 ≤ s.heap.size) (hP : va_P D vwCl (xws cy ad h) H) (hS : va_S (xA0 sz0) s.heap H locs) (hc : s.heap.size + cells = sz0 + h.1) : sz0 + h.1 ≤ H.size := by
  by_cases z : h.1 = 0
  · have := hS.1
    omega
  · have h1 := (hP (h.1 - 1) _ (xws_get (by omega))).lt
    have h2 : ad (h.1 - 1) < H.size := h1
    rw [hA.1 _ (by omega)] at h2
    omega
/-- a new cell at the end -/
theorem xws_push {E : xA} {H1 : Heap} {n : Nat} (hA : xadr ad sz0) (hn : h.1 ≤ 600000) (hz : H.size = sz0 + h.1) (hP : va_P D vwCl (xws cy ad h) H) (o1 : ∀ a, a < H.size → H1[a]? = H[a]?) (he : va_at D vwCl (sz0 + h.1, xca cy ad E) H1) : va_P D vwCl (xws cy ad (xadd h n E)) H1 := by
  rw [← xws_add]
  refine (hP.kept (fun k x hx => o1 x.1 ((hP k x hx).lt))).app (fun k x hx => ?_)
  have hz : k < 1 := (List.getElem?_eq_some_iff.mp hx).1
  rw [show k = 0 by omega] at hx
  cases hx
  show va_at D vwCl (ad h.1, _) H1
  rw [hA.1 _ (by omega)]
  exact he
theorem xS_push {H1 : Heap} {n : Nat} (hz : H.size = n) (hS : va_S (xA0 sz0) s.heap H locs) (z1 : H1.size = n + 1) (o1 : ∀ a, a < n → H1[a]? = H[a]?) : va_S (xA0 sz0) s.heap H1 locs := ⟨Nat.le_trans hS.1 (by omega), fun x h1 h2 => (o1 x (Nat.lt_of_lt_of_le h1 (by rw [← hz]; exact hS.1))).trans (hS.2.1 x h1 h2), hS.2.2⟩

theorem x_step_iconst (C : xctx D cy ad sz0 L xs q p s mid args meth c) (hA : xadr ad sz0) {nx a1 a2 : Nat} {z : Int} {n : Int} (hok : xokE cn q pc (.iconst n, nx, a1, a2, z) = true) (hcn : q.1 = xown cn) (o : xok L xs h) (hs : xstep (.iconst n, nx, a1, a2, z) pc lv st h = some (.inl σ)) (hn : h.1 ≤ 600000) (hm : σ.2.2.2.1 ≤ 600000) (hc : s.heap.size + cells = sz0 + h.1) (hR1 : cells + (σ.2.2.2.1 - h.1) ≤ R.cells) (hR2 : slots + (σ.2.2.2.2.1 - h.2.1) ≤ R.slots) (hfr : 1 ≤ R.frames) (hlo : 64 ≤ R.locals) (hfr5 : 5 ≤ R.frames) (hlo5 : 320 ≤ R.locals) (hl : lv_has ls q.2.2.2.1 (lv.map (xlc ad))) (hP : va_P D vwCl (xws cy ad h) H) (hS : va_S (xA0 sz0) s.heap H locs) (k : xgo p l e R s mid args below meth c cells slots Q D cy ad sz0 q.2.2.2.1 h σ) : W p l e R s mid args below meth c H locs cells slots Q (F0 mid pc ls (st.map (xcv ad))) := by
  obtain ⟨hx, hb, hr, hml, hts, hown, hlk, hnm, hst⟩ := C
  simp only [xokE, xokE2, Bool.and_eq_true, decide_eq_true_eq, Bool.true_and, and_true] at hok
  obtain ⟨hd, hnx⟩ := hok
  simp only [xlen] at hd hnx
  subst hnx
  cases hs
  exact lv_iconst hx hb hd rfl (xgo_same k hl hP hS)

theorem x_step_bipush (C : xctx D cy ad sz0 L xs q p s mid args meth c) (hA : xadr ad sz0) {nx a1 a2 : Nat} {z : Int} {n : Int} (hok : xokE cn q pc (.bipush n, nx, a1, a2, z) = true) (hcn : q.1 = xown cn) (o : xok L xs h) (hs : xstep (.bipush n, nx, a1, a2, z) pc lv st h = some (.inl σ)) (hn : h.1 ≤ 600000) (hm : σ.2.2.2.1 ≤ 600000) (hc : s.heap.size + cells = sz0 + h.1) (hR1 : cells + (σ.2.2.2.1 - h.1) ≤ R.cells) (hR2 : slots + (σ.2.2.2.2.1 - h.2.1) ≤ R.slots) (hfr : 1 ≤ R.frames) (hlo : 64 ≤ R.locals) (hfr5 : 5 ≤ R.frames) (hlo5 : 320 ≤ R.locals) (hl : lv_has ls q.2.2.2.1 (lv.map (xlc ad))) (hP : va_P D vwCl (xws cy ad h) H) (hS : va_S (xA0 sz0) s.heap H locs) (k : xgo p l e R s mid args below meth c cells slots Q D cy ad sz0 q.2.2.2.1 h σ) : W p l e R s mid args below meth c H locs cells slots Q (F0 mid pc ls (st.map (xcv ad))) := by
  obtain ⟨hx, hb, hr, hml, hts, hown, hlk, hnm, hst⟩ := C
  simp only [xokE, xokE2, Bool.and_eq_true, decide_eq_true_eq, Bool.true_and, and_true] at hok
  obtain ⟨⟨hd, hnx⟩, hk⟩ := hok
  simp only [xlen] at hd hnx
  subst hnx
  cases hs
  exact lv_bipush hx hb hd hk (xgo_same k hl hP hS)

theorem x_step_sipush (C : xctx D cy ad sz0 L xs q p s mid args meth c) (hA : xadr ad sz0) {nx a1 a2 : Nat} {z : Int} {n : Int} (hok : xokE cn q pc (.sipush n, nx, a1, a2, z) = true) (hcn : q.1 = xown cn) (o : xok L xs h) (hs : xstep (.sipush n, nx, a1, a2, z) pc lv st h = some (.inl σ)) (hn : h.1 ≤ 600000) (hm : σ.2.2.2.1 ≤ 600000) (hc : s.heap.size + cells = sz0 + h.1) (hR1 : cells + (σ.2.2.2.1 - h.1) ≤ R.cells) (hR2 : slots + (σ.2.2.2.2.1 - h.2.1) ≤ R.slots) (hfr : 1 ≤ R.frames) (hlo : 64 ≤ R.locals) (hfr5 : 5 ≤ R.frames) (hlo5 : 320 ≤ R.locals) (hl : lv_has ls q.2.2.2.1 (lv.map (xlc ad))) (hP : va_P D vwCl (xws cy ad h) H) (hS : va_S (xA0 sz0) s.heap H locs) (k : xgo p l e R s mid args below meth c cells slots Q D cy ad sz0 q.2.2.2.1 h σ) : W p l e R s mid args below meth c H locs cells slots Q (F0 mid pc ls (st.map (xcv ad))) := by
  obtain ⟨hx, hb, hr, hml, hts, hown, hlk, hnm, hst⟩ := C
  simp only [xokE, xokE2, Bool.and_eq_true, decide_eq_true_eq, Bool.true_and, and_true] at hok
  obtain ⟨⟨hd, hnx⟩, hk⟩ := hok
  simp only [xlen] at hd hnx
  subst hnx
  cases hs
  exact lv_sipush hx hb hd hk (xgo_same k hl hP hS)

theorem x_step_lconst (C : xctx D cy ad sz0 L xs q p s mid args meth c) (hA : xadr ad sz0) {nx a1 a2 : Nat} {z : Int} {n : Fin 2} (hok : xokE cn q pc (.lconst n, nx, a1, a2, z) = true) (hcn : q.1 = xown cn) (o : xok L xs h) (hs : xstep (.lconst n, nx, a1, a2, z) pc lv st h = some (.inl σ)) (hn : h.1 ≤ 600000) (hm : σ.2.2.2.1 ≤ 600000) (hc : s.heap.size + cells = sz0 + h.1) (hR1 : cells + (σ.2.2.2.1 - h.1) ≤ R.cells) (hR2 : slots + (σ.2.2.2.2.1 - h.2.1) ≤ R.slots) (hfr : 1 ≤ R.frames) (hlo : 64 ≤ R.locals) (hfr5 : 5 ≤ R.frames) (hlo5 : 320 ≤ R.locals) (hl : lv_has ls q.2.2.2.1 (lv.map (xlc ad))) (hP : va_P D vwCl (xws cy ad h) H) (hS : va_S (xA0 sz0) s.heap H locs) (k : xgo p l e R s mid args below meth c cells slots Q D cy ad sz0 q.2.2.2.1 h σ) : W p l e R s mid args below meth c H locs cells slots Q (F0 mid pc ls (st.map (xcv ad))) := by
  obtain ⟨hx, hb, hr, hml, hts, hown, hlk, hnm, hst⟩ := C
  simp only [xokE, xokE2, Bool.and_eq_true, decide_eq_true_eq, Bool.true_and, and_true] at hok
  obtain ⟨hd, hnx⟩ := hok
  simp only [xlen] at hd hnx
  subst hnx
  cases hs
  exact lv_lconst hx hb hd rfl (xgo_same k hl hP hS)

theorem x_step_ldc (C : xctx D cy ad sz0 L xs q p s mid args meth c) (hA : xadr ad sz0) {nx a1 a2 : Nat} {z : Int} {i : Nat} (hok : xokE cn q pc (.ldc i, nx, a1, a2, z) = true) (hcn : q.1 = xown cn) (o : xok L xs h) (hs : xstep (.ldc i, nx, a1, a2, z) pc lv st h = some (.inl σ)) (hn : h.1 ≤ 600000) (hm : σ.2.2.2.1 ≤ 600000) (hc : s.heap.size + cells = sz0 + h.1) (hR1 : cells + (σ.2.2.2.1 - h.1) ≤ R.cells) (hR2 : slots + (σ.2.2.2.2.1 - h.2.1) ≤ R.slots) (hfr : 1 ≤ R.frames) (hlo : 64 ≤ R.locals) (hfr5 : 5 ≤ R.frames) (hlo5 : 320 ≤ R.locals) (hl : lv_has ls q.2.2.2.1 (lv.map (xlc ad))) (hP : va_P D vwCl (xws cy ad h) H) (hS : va_S (xA0 sz0) s.heap H locs) (k : xgo p l e R s mid args below meth c cells slots Q D cy ad sz0 q.2.2.2.1 h σ) : W p l e R s mid args below meth c H locs cells slots Q (F0 mid pc ls (st.map (xcv ad))) := by
  obtain ⟨hx, hb, hr, hml, hts, hown, hlk, hnm, hst⟩ := C
  simp only [xokE, xokE2, Bool.and_eq_true, decide_eq_true_eq, Bool.true_and, and_true] at hok
  obtain ⟨⟨hd, hnx⟩, hk⟩ := hok
  simp only [xlen] at hd hnx
  subst hnx
  change xldc (.ldc i, pc + 2, a1, a2, z) lv st h = _ at hs
  unfold xldc at hs
  by_cases h1 : a1 = 0
  · rw [if_pos h1] at hk hs
    cases hs
    obtain ⟨hint, hm1⟩ := xpool_in hk
    have hw := xK_place cn _ hm1
    rw [← hcn] at hw
    exact lv_ldc hx hb hown (hts _ (xTB_of hw rfl)) hd (xgo_same k hl hP hS)
  · rw [if_neg h1] at hk hs
    cases hs
    simp only [Bool.or_eq_true, Bool.and_eq_true, decide_eq_true_eq] at hk
    obtain ⟨-, -, -, -, -, r1, r2, -⟩ := hst
    rcases hk with ⟨⟨rfl, rfl⟩, rfl⟩ | ⟨⟨rfl, rfl⟩, rfl⟩
    · exact va_ldcS hx hb (own := RX9) (by rw [← show q.1 = RX9 from hcn]; exact hown) r1 hd (xgo_same k hl hP hS)
    · exact va_ldcS hx hb (own := RX12) (by rw [← show q.1 = RX12 from hcn]; exact hown) r2 hd (xgo_same k hl hP hS)

theorem x_step_ldcw (C : xctx D cy ad sz0 L xs q p s mid args meth c) (hA : xadr ad sz0) {nx a1 a2 : Nat} {z : Int} {i : Nat} (hok : xokE cn q pc (.ldc_w i, nx, a1, a2, z) = true) (hcn : q.1 = xown cn) (o : xok L xs h) (hs : xstep (.ldc_w i, nx, a1, a2, z) pc lv st h = some (.inl σ)) (hn : h.1 ≤ 600000) (hm : σ.2.2.2.1 ≤ 600000) (hc : s.heap.size + cells = sz0 + h.1) (hR1 : cells + (σ.2.2.2.1 - h.1) ≤ R.cells) (hR2 : slots + (σ.2.2.2.2.1 - h.2.1) ≤ R.slots) (hfr : 1 ≤ R.frames) (hlo : 64 ≤ R.locals) (hfr5 : 5 ≤ R.frames) (hlo5 : 320 ≤ R.locals) (hl : lv_has ls q.2.2.2.1 (lv.map (xlc ad))) (hP : va_P D vwCl (xws cy ad h) H) (hS : va_S (xA0 sz0) s.heap H locs) (k : xgo p l e R s mid args below meth c cells slots Q D cy ad sz0 q.2.2.2.1 h σ) : W p l e R s mid args below meth c H locs cells slots Q (F0 mid pc ls (st.map (xcv ad))) := by
  obtain ⟨hx, hb, hr, hml, hts, hown, hlk, hnm, hst⟩ := C
  simp only [xokE, xokE2, Bool.and_eq_true, decide_eq_true_eq, Bool.true_and, and_true] at hok
  obtain ⟨⟨hd, hnx⟩, hk⟩ := hok
  simp only [xlen] at hd hnx
  subst hnx
  obtain ⟨h1, hk⟩ := hk
  subst h1
  change xldc (.ldc_w i, pc + 3, 0, a2, z) lv st h = _ at hs
  unfold xldc at hs
  rw [if_pos rfl] at hs
  cases hs
  obtain ⟨hint, hm1⟩ := xpool_in hk
  have hw := xK_place cn _ hm1
  rw [← hcn] at hw
  exact lv_ldcw hx hb hown (hts _ (xTB_of hw rfl)) hd (xgo_same k hl hP hS)

theorem x_step_ldc2 (C : xctx D cy ad sz0 L xs q p s mid args meth c) (hA : xadr ad sz0) {nx a1 a2 : Nat} {z : Int} {i : Nat} (hok : xokE cn q pc (.ldc2_w i, nx, a1, a2, z) = true) (hcn : q.1 = xown cn) (o : xok L xs h) (hs : xstep (.ldc2_w i, nx, a1, a2, z) pc lv st h = some (.inl σ)) (hn : h.1 ≤ 600000) (hm : σ.2.2.2.1 ≤ 600000) (hc : s.heap.size + cells = sz0 + h.1) (hR1 : cells + (σ.2.2.2.1 - h.1) ≤ R.cells) (hR2 : slots + (σ.2.2.2.2.1 - h.2.1) ≤ R.slots) (hfr : 1 ≤ R.frames) (hlo : 64 ≤ R.locals) (hfr5 : 5 ≤ R.frames) (hlo5 : 320 ≤ R.locals) (hl : lv_has ls q.2.2.2.1 (lv.map (xlc ad))) (hP : va_P D vwCl (xws cy ad h) H) (hS : va_S (xA0 sz0) s.heap H locs) (k : xgo p l e R s mid args below meth c cells slots Q D cy ad sz0 q.2.2.2.1 h σ) : W p l e R s mid args below meth c H locs cells slots Q (F0 mid pc ls (st.map (xcv ad))) := by
  obtain ⟨hx, hb, hr, hml, hts, hown, hlk, hnm, hst⟩ := C
  simp only [xokE, xokE2, Bool.and_eq_true, decide_eq_true_eq, Bool.true_and, and_true] at hok
  obtain ⟨⟨hd, hnx⟩, hk⟩ := hok
  simp only [xlen] at hd hnx
  subst hnx
  cases hs
  obtain ⟨hint, hm1⟩ := xpool_in hk
  have hw := xK_place cn _ hm1
  rw [← hcn] at hw
  exact lv_ldc2 hx hb hown (hts _ (xTB_of hw rfl)) hd (xgo_same k hl hP hS)

theorem x_step_iload_n (C : xctx D cy ad sz0 L xs q p s mid args meth c) (hA : xadr ad sz0) {nx a1 a2 : Nat} {z : Int} {n : Fin 4} (hok : xokE cn q pc (.iload_n n, nx, a1, a2, z) = true) (hcn : q.1 = xown cn) (o : xok L xs h) (hs : xstep (.iload_n n, nx, a1, a2, z) pc lv st h = some (.inl σ)) (hn : h.1 ≤ 600000) (hm : σ.2.2.2.1 ≤ 600000) (hc : s.heap.size + cells = sz0 + h.1) (hR1 : cells + (σ.2.2.2.1 - h.1) ≤ R.cells) (hR2 : slots + (σ.2.2.2.2.1 - h.2.1) ≤ R.slots) (hfr : 1 ≤ R.frames) (hlo : 64 ≤ R.locals) (hfr5 : 5 ≤ R.frames) (hlo5 : 320 ≤ R.locals) (hl : lv_has ls q.2.2.2.1 (lv.map (xlc ad))) (hP : va_P D vwCl (xws cy ad h) H) (hS : va_S (xA0 sz0) s.heap H locs) (k : xgo p l e R s mid args below meth c cells slots Q D cy ad sz0 q.2.2.2.1 h σ) : W p l e R s mid args below meth c H locs cells slots Q (F0 mid pc ls (st.map (xcv ad))) := by
  obtain ⟨hx, hb, hr, hml, hts, hown, hlk, hnm, hst⟩ := C
  simp only [xokE, xokE2, Bool.and_eq_true, decide_eq_true_eq, Bool.true_and, and_true] at hok
  obtain ⟨hd, hnx⟩ := hok
  simp only [xlen] at hd hnx
  subst hnx
  obtain ⟨x, hq, rfl⟩ := xldI_inv hs
  exact lv_iload_n hx hb hd rfl (hl.2.2 _ (List.mem_map.mpr ⟨_, xlook hq, rfl⟩)) (xgo_same k hl hP hS)

theorem x_step_iload (C : xctx D cy ad sz0 L xs q p s mid args meth c) (hA : xadr ad sz0) {nx a1 a2 : Nat} {z : Int} {n : Nat} (hok : xokE cn q pc (.iload n, nx, a1, a2, z) = true) (hcn : q.1 = xown cn) (o : xok L xs h) (hs : xstep (.iload n, nx, a1, a2, z) pc lv st h = some (.inl σ)) (hn : h.1 ≤ 600000) (hm : σ.2.2.2.1 ≤ 600000) (hc : s.heap.size + cells = sz0 + h.1) (hR1 : cells + (σ.2.2.2.1 - h.1) ≤ R.cells) (hR2 : slots + (σ.2.2.2.2.1 - h.2.1) ≤ R.slots) (hfr : 1 ≤ R.frames) (hlo : 64 ≤ R.locals) (hfr5 : 5 ≤ R.frames) (hlo5 : 320 ≤ R.locals) (hl : lv_has ls q.2.2.2.1 (lv.map (xlc ad))) (hP : va_P D vwCl (xws cy ad h) H) (hS : va_S (xA0 sz0) s.heap H locs) (k : xgo p l e R s mid args below meth c cells slots Q D cy ad sz0 q.2.2.2.1 h σ) : W p l e R s mid args below meth c H locs cells slots Q (F0 mid pc ls (st.map (xcv ad))) := by
  obtain ⟨hx, hb, hr, hml, hts, hown, hlk, hnm, hst⟩ := C
  simp only [xokE, xokE2, Bool.and_eq_true, decide_eq_true_eq, Bool.true_and, and_true] at hok
  obtain ⟨hd, hnx⟩ := hok
  simp only [xlen] at hd hnx
  subst hnx
  obtain ⟨x, hq, rfl⟩ := xldI_inv hs
  exact lv_iload hx hb hd (hl.2.2 _ (List.mem_map.mpr ⟨_, xlook hq, rfl⟩)) (xgo_same k hl hP hS)

theorem x_step_lload_n (C : xctx D cy ad sz0 L xs q p s mid args meth c) (hA : xadr ad sz0) {nx a1 a2 : Nat} {z : Int} {n : Fin 4} (hok : xokE cn q pc (.lload_n n, nx, a1, a2, z) = true) (hcn : q.1 = xown cn) (o : xok L xs h) (hs : xstep (.lload_n n, nx, a1, a2, z) pc lv st h = some (.inl σ)) (hn : h.1 ≤ 600000) (hm : σ.2.2.2.1 ≤ 600000) (hc : s.heap.size + cells = sz0 + h.1) (hR1 : cells + (σ.2.2.2.1 - h.1) ≤ R.cells) (hR2 : slots + (σ.2.2.2.2.1 - h.2.1) ≤ R.slots) (hfr : 1 ≤ R.frames) (hlo : 64 ≤ R.locals) (hfr5 : 5 ≤ R.frames) (hlo5 : 320 ≤ R.locals) (hl : lv_has ls q.2.2.2.1 (lv.map (xlc ad))) (hP : va_P D vwCl (xws cy ad h) H) (hS : va_S (xA0 sz0) s.heap H locs) (k : xgo p l e R s mid args below meth c cells slots Q D cy ad sz0 q.2.2.2.1 h σ) : W p l e R s mid args below meth c H locs cells slots Q (F0 mid pc ls (st.map (xcv ad))) := by
  obtain ⟨hx, hb, hr, hml, hts, hown, hlk, hnm, hst⟩ := C
  simp only [xokE, xokE2, Bool.and_eq_true, decide_eq_true_eq, Bool.true_and, and_true] at hok
  obtain ⟨hd, hnx⟩ := hok
  simp only [xlen] at hd hnx
  subst hnx
  obtain ⟨x, hq, rfl⟩ := xldL_inv hs
  exact lv_lload_n hx hb hd rfl (hl.2.2 _ (List.mem_map.mpr ⟨_, xlook hq, rfl⟩)) (xgo_same k hl hP hS)

theorem x_step_lload (C : xctx D cy ad sz0 L xs q p s mid args meth c) (hA : xadr ad sz0) {nx a1 a2 : Nat} {z : Int} {n : Nat} (hok : xokE cn q pc (.lload n, nx, a1, a2, z) = true) (hcn : q.1 = xown cn) (o : xok L xs h) (hs : xstep (.lload n, nx, a1, a2, z) pc lv st h = some (.inl σ)) (hn : h.1 ≤ 600000) (hm : σ.2.2.2.1 ≤ 600000) (hc : s.heap.size + cells = sz0 + h.1) (hR1 : cells + (σ.2.2.2.1 - h.1) ≤ R.cells) (hR2 : slots + (σ.2.2.2.2.1 - h.2.1) ≤ R.slots) (hfr : 1 ≤ R.frames) (hlo : 64 ≤ R.locals) (hfr5 : 5 ≤ R.frames) (hlo5 : 320 ≤ R.locals) (hl : lv_has ls q.2.2.2.1 (lv.map (xlc ad))) (hP : va_P D vwCl (xws cy ad h) H) (hS : va_S (xA0 sz0) s.heap H locs) (k : xgo p l e R s mid args below meth c cells slots Q D cy ad sz0 q.2.2.2.1 h σ) : W p l e R s mid args below meth c H locs cells slots Q (F0 mid pc ls (st.map (xcv ad))) := by
  obtain ⟨hx, hb, hr, hml, hts, hown, hlk, hnm, hst⟩ := C
  simp only [xokE, xokE2, Bool.and_eq_true, decide_eq_true_eq, Bool.true_and, and_true] at hok
  obtain ⟨hd, hnx⟩ := hok
  simp only [xlen] at hd hnx
  subst hnx
  obtain ⟨x, hq, rfl⟩ := xldL_inv hs
  exact lv_lload hx hb hd (hl.2.2 _ (List.mem_map.mpr ⟨_, xlook hq, rfl⟩)) (xgo_same k hl hP hS)

theorem x_step_aload_n (C : xctx D cy ad sz0 L xs q p s mid args meth c) (hA : xadr ad sz0) {nx a1 a2 : Nat} {z : Int} {n : Fin 4} (hok : xokE cn q pc (.aload_n n, nx, a1, a2, z) = true) (hcn : q.1 = xown cn) (o : xok L xs h) (hs : xstep (.aload_n n, nx, a1, a2, z) pc lv st h = some (.inl σ)) (hn : h.1 ≤ 600000) (hm : σ.2.2.2.1 ≤ 600000) (hc : s.heap.size + cells = sz0 + h.1) (hR1 : cells + (σ.2.2.2.1 - h.1) ≤ R.cells) (hR2 : slots + (σ.2.2.2.2.1 - h.2.1) ≤ R.slots) (hfr : 1 ≤ R.frames) (hlo : 64 ≤ R.locals) (hfr5 : 5 ≤ R.frames) (hlo5 : 320 ≤ R.locals) (hl : lv_has ls q.2.2.2.1 (lv.map (xlc ad))) (hP : va_P D vwCl (xws cy ad h) H) (hS : va_S (xA0 sz0) s.heap H locs) (k : xgo p l e R s mid args below meth c cells slots Q D cy ad sz0 q.2.2.2.1 h σ) : W p l e R s mid args below meth c H locs cells slots Q (F0 mid pc ls (st.map (xcv ad))) := by
  obtain ⟨hx, hb, hr, hml, hts, hown, hlk, hnm, hst⟩ := C
  simp only [xokE, xokE2, Bool.and_eq_true, decide_eq_true_eq, Bool.true_and, and_true] at hok
  obtain ⟨hd, hnx⟩ := hok
  simp only [xlen] at hd hnx
  subst hnx
  obtain ⟨x, hq, rfl⟩ := xldA_inv hs
  exact lv_aload_n hx hb hd rfl (hl.2.2 _ (List.mem_map.mpr ⟨_, xlook hq, rfl⟩)) (xgo_same k hl hP hS)

theorem x_step_aload (C : xctx D cy ad sz0 L xs q p s mid args meth c) (hA : xadr ad sz0) {nx a1 a2 : Nat} {z : Int} {n : Nat} (hok : xokE cn q pc (.aload n, nx, a1, a2, z) = true) (hcn : q.1 = xown cn) (o : xok L xs h) (hs : xstep (.aload n, nx, a1, a2, z) pc lv st h = some (.inl σ)) (hn : h.1 ≤ 600000) (hm : σ.2.2.2.1 ≤ 600000) (hc : s.heap.size + cells = sz0 + h.1) (hR1 : cells + (σ.2.2.2.1 - h.1) ≤ R.cells) (hR2 : slots + (σ.2.2.2.2.1 - h.2.1) ≤ R.slots) (hfr : 1 ≤ R.frames) (hlo : 64 ≤ R.locals) (hfr5 : 5 ≤ R.frames) (hlo5 : 320 ≤ R.locals) (hl : lv_has ls q.2.2.2.1 (lv.map (xlc ad))) (hP : va_P D vwCl (xws cy ad h) H) (hS : va_S (xA0 sz0) s.heap H locs) (k : xgo p l e R s mid args below meth c cells slots Q D cy ad sz0 q.2.2.2.1 h σ) : W p l e R s mid args below meth c H locs cells slots Q (F0 mid pc ls (st.map (xcv ad))) := by
  obtain ⟨hx, hb, hr, hml, hts, hown, hlk, hnm, hst⟩ := C
  simp only [xokE, xokE2, Bool.and_eq_true, decide_eq_true_eq, Bool.true_and, and_true] at hok
  obtain ⟨hd, hnx⟩ := hok
  simp only [xlen] at hd hnx
  subst hnx
  obtain ⟨x, hq, rfl⟩ := xldA_inv hs
  exact lv_aload hx hb hd (hl.2.2 _ (List.mem_map.mpr ⟨_, xlook hq, rfl⟩)) (xgo_same k hl hP hS)

theorem x_step_istore_n (C : xctx D cy ad sz0 L xs q p s mid args meth c) (hA : xadr ad sz0) {nx a1 a2 : Nat} {z : Int} {n : Fin 4} (hok : xokE cn q pc (.istore_n n, nx, a1, a2, z) = true) (hcn : q.1 = xown cn) (o : xok L xs h) (hs : xstep (.istore_n n, nx, a1, a2, z) pc lv st h = some (.inl σ)) (hn : h.1 ≤ 600000) (hm : σ.2.2.2.1 ≤ 600000) (hc : s.heap.size + cells = sz0 + h.1) (hR1 : cells + (σ.2.2.2.1 - h.1) ≤ R.cells) (hR2 : slots + (σ.2.2.2.2.1 - h.2.1) ≤ R.slots) (hfr : 1 ≤ R.frames) (hlo : 64 ≤ R.locals) (hfr5 : 5 ≤ R.frames) (hlo5 : 320 ≤ R.locals) (hl : lv_has ls q.2.2.2.1 (lv.map (xlc ad))) (hP : va_P D vwCl (xws cy ad h) H) (hS : va_S (xA0 sz0) s.heap H locs) (k : xgo p l e R s mid args below meth c cells slots Q D cy ad sz0 q.2.2.2.1 h σ) : W p l e R s mid args below meth c H locs cells slots Q (F0 mid pc ls (st.map (xcv ad))) := by
  obtain ⟨hx, hb, hr, hml, hts, hown, hlk, hnm, hst⟩ := C
  simp only [xokE, xokE2, Bool.and_eq_true, decide_eq_true_eq, Bool.true_and, and_true] at hok
  obtain ⟨⟨hd, hnx⟩, hk⟩ := hok
  simp only [xlen] at hd hnx
  subst hnx
  obtain ⟨x, r, rfl, rfl⟩ := xstI_inv hs
  exact lv_istore_n hx hb hd rfl hl hk (xst1_map ad lv n (.int x)) (fun ls' hl' => xgo_same k hl' hP hS)

theorem x_step_istore (C : xctx D cy ad sz0 L xs q p s mid args meth c) (hA : xadr ad sz0) {nx a1 a2 : Nat} {z : Int} {n : Nat} (hok : xokE cn q pc (.istore n, nx, a1, a2, z) = true) (hcn : q.1 = xown cn) (o : xok L xs h) (hs : xstep (.istore n, nx, a1, a2, z) pc lv st h = some (.inl σ)) (hn : h.1 ≤ 600000) (hm : σ.2.2.2.1 ≤ 600000) (hc : s.heap.size + cells = sz0 + h.1) (hR1 : cells + (σ.2.2.2.1 - h.1) ≤ R.cells) (hR2 : slots + (σ.2.2.2.2.1 - h.2.1) ≤ R.slots) (hfr : 1 ≤ R.frames) (hlo : 64 ≤ R.locals) (hfr5 : 5 ≤ R.frames) (hlo5 : 320 ≤ R.locals) (hl : lv_has ls q.2.2.2.1 (lv.map (xlc ad))) (hP : va_P D vwCl (xws cy ad h) H) (hS : va_S (xA0 sz0) s.heap H locs) (k : xgo p l e R s mid args below meth c cells slots Q D cy ad sz0 q.2.2.2.1 h σ) : W p l e R s mid args below meth c H locs cells slots Q (F0 mid pc ls (st.map (xcv ad))) := by
  obtain ⟨hx, hb, hr, hml, hts, hown, hlk, hnm, hst⟩ := C
  simp only [xokE, xokE2, Bool.and_eq_true, decide_eq_true_eq, Bool.true_and, and_true] at hok
  obtain ⟨⟨hd, hnx⟩, hk⟩ := hok
  simp only [xlen] at hd hnx
  subst hnx
  obtain ⟨x, r, rfl, rfl⟩ := xstI_inv hs
  exact lv_istore hx hb hd hl hk (xst1_map ad lv n (.int x)) (fun ls' hl' => xgo_same k hl' hP hS)

theorem x_step_lstore_n (C : xctx D cy ad sz0 L xs q p s mid args meth c) (hA : xadr ad sz0) {nx a1 a2 : Nat} {z : Int} {n : Fin 4} (hok : xokE cn q pc (.lstore_n n, nx, a1, a2, z) = true) (hcn : q.1 = xown cn) (o : xok L xs h) (hs : xstep (.lstore_n n, nx, a1, a2, z) pc lv st h = some (.inl σ)) (hn : h.1 ≤ 600000) (hm : σ.2.2.2.1 ≤ 600000) (hc : s.heap.size + cells = sz0 + h.1) (hR1 : cells + (σ.2.2.2.1 - h.1) ≤ R.cells) (hR2 : slots + (σ.2.2.2.2.1 - h.2.1) ≤ R.slots) (hfr : 1 ≤ R.frames) (hlo : 64 ≤ R.locals) (hfr5 : 5 ≤ R.frames) (hlo5 : 320 ≤ R.locals) (hl : lv_has ls q.2.2.2.1 (lv.map (xlc ad))) (hP : va_P D vwCl (xws cy ad h) H) (hS : va_S (xA0 sz0) s.heap H locs) (k : xgo p l e R s mid args below meth c cells slots Q D cy ad sz0 q.2.2.2.1 h σ) : W p l e R s mid args below meth c H locs cells slots Q (F0 mid pc ls (st.map (xcv ad))) := by
  obtain ⟨hx, hb, hr, hml, hts, hown, hlk, hnm, hst⟩ := C
  simp only [xokE, xokE2, Bool.and_eq_true, decide_eq_true_eq, Bool.true_and, and_true] at hok
  obtain ⟨⟨hd, hnx⟩, hk⟩ := hok
  simp only [xlen] at hd hnx
  subst hnx
  obtain ⟨x, r, rfl, rfl⟩ := xstL_inv hs
  exact lv_lstore_n hx hb hd rfl hl hk (xst2_map ad lv n (.long x)) (fun ls' hl' => xgo_same k hl' hP hS)

theorem x_step_lstore (C : xctx D cy ad sz0 L xs q p s mid args meth c) (hA : xadr ad sz0) {nx a1 a2 : Nat} {z : Int} {n : Nat} (hok : xokE cn q pc (.lstore n, nx, a1, a2, z) = true) (hcn : q.1 = xown cn) (o : xok L xs h) (hs : xstep (.lstore n, nx, a1, a2, z) pc lv st h = some (.inl σ)) (hn : h.1 ≤ 600000) (hm : σ.2.2.2.1 ≤ 600000) (hc : s.heap.size + cells = sz0 + h.1) (hR1 : cells + (σ.2.2.2.1 - h.1) ≤ R.cells) (hR2 : slots + (σ.2.2.2.2.1 - h.2.1) ≤ R.slots) (hfr : 1 ≤ R.frames) (hlo : 64 ≤ R.locals) (hfr5 : 5 ≤ R.frames) (hlo5 : 320 ≤ R.locals) (hl : lv_has ls q.2.2.2.1 (lv.map (xlc ad))) (hP : va_P D vwCl (xws cy ad h) H) (hS : va_S (xA0 sz0) s.heap H locs) (k : xgo p l e R s mid args below meth c cells slots Q D cy ad sz0 q.2.2.2.1 h σ) : W p l e R s mid args below meth c H locs cells slots Q (F0 mid pc ls (st.map (xcv ad))) := by
  obtain ⟨hx, hb, hr, hml, hts, hown, hlk, hnm, hst⟩ := C
  simp only [xokE, xokE2, Bool.and_eq_true, decide_eq_true_eq, Bool.true_and, and_true] at hok
  obtain ⟨⟨hd, hnx⟩, hk⟩ := hok
  simp only [xlen] at hd hnx
  subst hnx
  obtain ⟨x, r, rfl, rfl⟩ := xstL_inv hs
  exact lv_lstore hx hb hd hl hk (xst2_map ad lv n (.long x)) (fun ls' hl' => xgo_same k hl' hP hS)

theorem x_step_astore_n (C : xctx D cy ad sz0 L xs q p s mid args meth c) (hA : xadr ad sz0) {nx a1 a2 : Nat} {z : Int} {n : Fin 4} (hok : xokE cn q pc (.astore_n n, nx, a1, a2, z) = true) (hcn : q.1 = xown cn) (o : xok L xs h) (hs : xstep (.astore_n n, nx, a1, a2, z) pc lv st h = some (.inl σ)) (hn : h.1 ≤ 600000) (hm : σ.2.2.2.1 ≤ 600000) (hc : s.heap.size + cells = sz0 + h.1) (hR1 : cells + (σ.2.2.2.1 - h.1) ≤ R.cells) (hR2 : slots + (σ.2.2.2.2.1 - h.2.1) ≤ R.slots) (hfr : 1 ≤ R.frames) (hlo : 64 ≤ R.locals) (hfr5 : 5 ≤ R.frames) (hlo5 : 320 ≤ R.locals) (hl : lv_has ls q.2.2.2.1 (lv.map (xlc ad))) (hP : va_P D vwCl (xws cy ad h) H) (hS : va_S (xA0 sz0) s.heap H locs) (k : xgo p l e R s mid args below meth c cells slots Q D cy ad sz0 q.2.2.2.1 h σ) : W p l e R s mid args below meth c H locs cells slots Q (F0 mid pc ls (st.map (xcv ad))) := by
  obtain ⟨hx, hb, hr, hml, hts, hown, hlk, hnm, hst⟩ := C
  simp only [xokE, xokE2, Bool.and_eq_true, decide_eq_true_eq, Bool.true_and, and_true] at hok
  obtain ⟨⟨hd, hnx⟩, hk⟩ := hok
  simp only [xlen] at hd hnx
  subst hnx
  obtain ⟨x, r, rfl, rfl⟩ := xstA_inv hs
  exact lv_astore_n hx hb hd rfl hl hk (xst1_map ad lv n (.ref x)) (fun ls' hl' => xgo_same k hl' hP hS)

theorem x_step_astore (C : xctx D cy ad sz0 L xs q p s mid args meth c) (hA : xadr ad sz0) {nx a1 a2 : Nat} {z : Int} {n : Nat} (hok : xokE cn q pc (.astore n, nx, a1, a2, z) = true) (hcn : q.1 = xown cn) (o : xok L xs h) (hs : xstep (.astore n, nx, a1, a2, z) pc lv st h = some (.inl σ)) (hn : h.1 ≤ 600000) (hm : σ.2.2.2.1 ≤ 600000) (hc : s.heap.size + cells = sz0 + h.1) (hR1 : cells + (σ.2.2.2.1 - h.1) ≤ R.cells) (hR2 : slots + (σ.2.2.2.2.1 - h.2.1) ≤ R.slots) (hfr : 1 ≤ R.frames) (hlo : 64 ≤ R.locals) (hfr5 : 5 ≤ R.frames) (hlo5 : 320 ≤ R.locals) (hl : lv_has ls q.2.2.2.1 (lv.map (xlc ad))) (hP : va_P D vwCl (xws cy ad h) H) (hS : va_S (xA0 sz0) s.heap H locs) (k : xgo p l e R s mid args below meth c cells slots Q D cy ad sz0 q.2.2.2.1 h σ) : W p l e R s mid args below meth c H locs cells slots Q (F0 mid pc ls (st.map (xcv ad))) := by
  obtain ⟨hx, hb, hr, hml, hts, hown, hlk, hnm, hst⟩ := C
  simp only [xokE, xokE2, Bool.and_eq_true, decide_eq_true_eq, Bool.true_and, and_true] at hok
  obtain ⟨⟨hd, hnx⟩, hk⟩ := hok
  simp only [xlen] at hd hnx
  subst hnx
  obtain ⟨x, r, rfl, rfl⟩ := xstA_inv hs
  exact lv_astore hx hb hd hl hk (xst1_map ad lv n (.ref x)) (fun ls' hl' => xgo_same k hl' hP hS)

theorem x_step_iinc (C : xctx D cy ad sz0 L xs q p s mid args meth c) (hA : xadr ad sz0) {nx a1 a2 : Nat} {z : Int} {n : Nat} {v : Int} (hok : xokE cn q pc (.iinc n v, nx, a1, a2, z) = true) (hcn : q.1 = xown cn) (o : xok L xs h) (hs : xstep (.iinc n v, nx, a1, a2, z) pc lv st h = some (.inl σ)) (hn : h.1 ≤ 600000) (hm : σ.2.2.2.1 ≤ 600000) (hc : s.heap.size + cells = sz0 + h.1) (hR1 : cells + (σ.2.2.2.1 - h.1) ≤ R.cells) (hR2 : slots + (σ.2.2.2.2.1 - h.2.1) ≤ R.slots) (hfr : 1 ≤ R.frames) (hlo : 64 ≤ R.locals) (hfr5 : 5 ≤ R.frames) (hlo5 : 320 ≤ R.locals) (hl : lv_has ls q.2.2.2.1 (lv.map (xlc ad))) (hP : va_P D vwCl (xws cy ad h) H) (hS : va_S (xA0 sz0) s.heap H locs) (k : xgo p l e R s mid args below meth c cells slots Q D cy ad sz0 q.2.2.2.1 h σ) : W p l e R s mid args below meth c H locs cells slots Q (F0 mid pc ls (st.map (xcv ad))) := by
  obtain ⟨hx, hb, hr, hml, hts, hown, hlk, hnm, hst⟩ := C
  simp only [xokE, xokE2, Bool.and_eq_true, decide_eq_true_eq, Bool.true_and, and_true] at hok
  obtain ⟨⟨hd, hnx⟩, hk⟩ := hok
  simp only [xlen] at hd hnx
  subst hnx
  obtain ⟨x, hq, rfl⟩ := xinc_inv hs
  obtain ⟨j, hj⟩ := List.getElem?_of_mem (List.mem_map.mpr ⟨_, xlook hq, rfl⟩ : (n, Value.int x) ∈ lv.map (xlc ad))
  exact lv_iinc hx hb hd hl hj rfl hk (xst1_map ad lv n (.int (x + Int32.ofInt v))) (fun ls' hl' => xgo_same k hl' hP hS)

theorem x_step_iadd (C : xctx D cy ad sz0 L xs q p s mid args meth c) (hA : xadr ad sz0) {nx a1 a2 : Nat} {z : Int} (hok : xokE cn q pc (.iadd, nx, a1, a2, z) = true) (hcn : q.1 = xown cn) (o : xok L xs h) (hs : xstep (.iadd, nx, a1, a2, z) pc lv st h = some (.inl σ)) (hn : h.1 ≤ 600000) (hm : σ.2.2.2.1 ≤ 600000) (hc : s.heap.size + cells = sz0 + h.1) (hR1 : cells + (σ.2.2.2.1 - h.1) ≤ R.cells) (hR2 : slots + (σ.2.2.2.2.1 - h.2.1) ≤ R.slots) (hfr : 1 ≤ R.frames) (hlo : 64 ≤ R.locals) (hfr5 : 5 ≤ R.frames) (hlo5 : 320 ≤ R.locals) (hl : lv_has ls q.2.2.2.1 (lv.map (xlc ad))) (hP : va_P D vwCl (xws cy ad h) H) (hS : va_S (xA0 sz0) s.heap H locs) (k : xgo p l e R s mid args below meth c cells slots Q D cy ad sz0 q.2.2.2.1 h σ) : W p l e R s mid args below meth c H locs cells slots Q (F0 mid pc ls (st.map (xcv ad))) := by
  obtain ⟨hx, hb, hr, hml, hts, hown, hlk, hnm, hst⟩ := C
  simp only [xokE, xokE2, Bool.and_eq_true, decide_eq_true_eq, Bool.true_and, and_true] at hok
  obtain ⟨hd, hnx⟩ := hok
  simp only [xlen] at hd hnx
  subst hnx
  obtain ⟨x, y, r, rfl, rfl⟩ := xb2_inv hs
  exact lv_iadd hx hb hd (xgo_same k hl hP hS)

theorem x_step_isub (C : xctx D cy ad sz0 L xs q p s mid args meth c) (hA : xadr ad sz0) {nx a1 a2 : Nat} {z : Int} (hok : xokE cn q pc (.isub, nx, a1, a2, z) = true) (hcn : q.1 = xown cn) (o : xok L xs h) (hs : xstep (.isub, nx, a1, a2, z) pc lv st h = some (.inl σ)) (hn : h.1 ≤ 600000) (hm : σ.2.2.2.1 ≤ 600000) (hc : s.heap.size + cells = sz0 + h.1) (hR1 : cells + (σ.2.2.2.1 - h.1) ≤ R.cells) (hR2 : slots + (σ.2.2.2.2.1 - h.2.1) ≤ R.slots) (hfr : 1 ≤ R.frames) (hlo : 64 ≤ R.locals) (hfr5 : 5 ≤ R.frames) (hlo5 : 320 ≤ R.locals) (hl : lv_has ls q.2.2.2.1 (lv.map (xlc ad))) (hP : va_P D vwCl (xws cy ad h) H) (hS : va_S (xA0 sz0) s.heap H locs) (k : xgo p l e R s mid args below meth c cells slots Q D cy ad sz0 q.2.2.2.1 h σ) : W p l e R s mid args below meth c H locs cells slots Q (F0 mid pc ls (st.map (xcv ad))) := by
  obtain ⟨hx, hb, hr, hml, hts, hown, hlk, hnm, hst⟩ := C
  simp only [xokE, xokE2, Bool.and_eq_true, decide_eq_true_eq, Bool.true_and, and_true] at hok
  obtain ⟨hd, hnx⟩ := hok
  simp only [xlen] at hd hnx
  subst hnx
  obtain ⟨x, y, r, rfl, rfl⟩ := xb2_inv hs
  exact lv_isub hx hb hd (xgo_same k hl hP hS)

theorem x_step_imul (C : xctx D cy ad sz0 L xs q p s mid args meth c) (hA : xadr ad sz0) {nx a1 a2 : Nat} {z : Int} (hok : xokE cn q pc (.imul, nx, a1, a2, z) = true) (hcn : q.1 = xown cn) (o : xok L xs h) (hs : xstep (.imul, nx, a1, a2, z) pc lv st h = some (.inl σ)) (hn : h.1 ≤ 600000) (hm : σ.2.2.2.1 ≤ 600000) (hc : s.heap.size + cells = sz0 + h.1) (hR1 : cells + (σ.2.2.2.1 - h.1) ≤ R.cells) (hR2 : slots + (σ.2.2.2.2.1 - h.2.1) ≤ R.slots) (hfr : 1 ≤ R.frames) (hlo : 64 ≤ R.locals) (hfr5 : 5 ≤ R.frames) (hlo5 : 320 ≤ R.locals) (hl : lv_has ls q.2.2.2.1 (lv.map (xlc ad))) (hP : va_P D vwCl (xws cy ad h) H) (hS : va_S (xA0 sz0) s.heap H locs) (k : xgo p l e R s mid args below meth c cells slots Q D cy ad sz0 q.2.2.2.1 h σ) : W p l e R s mid args below meth c H locs cells slots Q (F0 mid pc ls (st.map (xcv ad))) := by
  obtain ⟨hx, hb, hr, hml, hts, hown, hlk, hnm, hst⟩ := C
  simp only [xokE, xokE2, Bool.and_eq_true, decide_eq_true_eq, Bool.true_and, and_true] at hok
  obtain ⟨hd, hnx⟩ := hok
  simp only [xlen] at hd hnx
  subst hnx
  obtain ⟨x, y, r, rfl, rfl⟩ := xb2_inv hs
  exact lv_imul hx hb hd (xgo_same k hl hP hS)

theorem x_step_iand (C : xctx D cy ad sz0 L xs q p s mid args meth c) (hA : xadr ad sz0) {nx a1 a2 : Nat} {z : Int} (hok : xokE cn q pc (.iand, nx, a1, a2, z) = true) (hcn : q.1 = xown cn) (o : xok L xs h) (hs : xstep (.iand, nx, a1, a2, z) pc lv st h = some (.inl σ)) (hn : h.1 ≤ 600000) (hm : σ.2.2.2.1 ≤ 600000) (hc : s.heap.size + cells = sz0 + h.1) (hR1 : cells + (σ.2.2.2.1 - h.1) ≤ R.cells) (hR2 : slots + (σ.2.2.2.2.1 - h.2.1) ≤ R.slots) (hfr : 1 ≤ R.frames) (hlo : 64 ≤ R.locals) (hfr5 : 5 ≤ R.frames) (hlo5 : 320 ≤ R.locals) (hl : lv_has ls q.2.2.2.1 (lv.map (xlc ad))) (hP : va_P D vwCl (xws cy ad h) H) (hS : va_S (xA0 sz0) s.heap H locs) (k : xgo p l e R s mid args below meth c cells slots Q D cy ad sz0 q.2.2.2.1 h σ) : W p l e R s mid args below meth c H locs cells slots Q (F0 mid pc ls (st.map (xcv ad))) := by
  obtain ⟨hx, hb, hr, hml, hts, hown, hlk, hnm, hst⟩ := C
  simp only [xokE, xokE2, Bool.and_eq_true, decide_eq_true_eq, Bool.true_and, and_true] at hok
  obtain ⟨hd, hnx⟩ := hok
  simp only [xlen] at hd hnx
  subst hnx
  obtain ⟨x, y, r, rfl, rfl⟩ := xb2_inv hs
  exact lv_iand hx hb hd (xgo_same k hl hP hS)

theorem x_step_ior (C : xctx D cy ad sz0 L xs q p s mid args meth c) (hA : xadr ad sz0) {nx a1 a2 : Nat} {z : Int} (hok : xokE cn q pc (.ior, nx, a1, a2, z) = true) (hcn : q.1 = xown cn) (o : xok L xs h) (hs : xstep (.ior, nx, a1, a2, z) pc lv st h = some (.inl σ)) (hn : h.1 ≤ 600000) (hm : σ.2.2.2.1 ≤ 600000) (hc : s.heap.size + cells = sz0 + h.1) (hR1 : cells + (σ.2.2.2.1 - h.1) ≤ R.cells) (hR2 : slots + (σ.2.2.2.2.1 - h.2.1) ≤ R.slots) (hfr : 1 ≤ R.frames) (hlo : 64 ≤ R.locals) (hfr5 : 5 ≤ R.frames) (hlo5 : 320 ≤ R.locals) (hl : lv_has ls q.2.2.2.1 (lv.map (xlc ad))) (hP : va_P D vwCl (xws cy ad h) H) (hS : va_S (xA0 sz0) s.heap H locs) (k : xgo p l e R s mid args below meth c cells slots Q D cy ad sz0 q.2.2.2.1 h σ) : W p l e R s mid args below meth c H locs cells slots Q (F0 mid pc ls (st.map (xcv ad))) := by
  obtain ⟨hx, hb, hr, hml, hts, hown, hlk, hnm, hst⟩ := C
  simp only [xokE, xokE2, Bool.and_eq_true, decide_eq_true_eq, Bool.true_and, and_true] at hok
  obtain ⟨hd, hnx⟩ := hok
  simp only [xlen] at hd hnx
  subst hnx
  obtain ⟨x, y, r, rfl, rfl⟩ := xb2_inv hs
  exact lv_ior hx hb hd (xgo_same k hl hP hS)

theorem x_step_ixor (C : xctx D cy ad sz0 L xs q p s mid args meth c) (hA : xadr ad sz0) {nx a1 a2 : Nat} {z : Int} (hok : xokE cn q pc (.ixor, nx, a1, a2, z) = true) (hcn : q.1 = xown cn) (o : xok L xs h) (hs : xstep (.ixor, nx, a1, a2, z) pc lv st h = some (.inl σ)) (hn : h.1 ≤ 600000) (hm : σ.2.2.2.1 ≤ 600000) (hc : s.heap.size + cells = sz0 + h.1) (hR1 : cells + (σ.2.2.2.1 - h.1) ≤ R.cells) (hR2 : slots + (σ.2.2.2.2.1 - h.2.1) ≤ R.slots) (hfr : 1 ≤ R.frames) (hlo : 64 ≤ R.locals) (hfr5 : 5 ≤ R.frames) (hlo5 : 320 ≤ R.locals) (hl : lv_has ls q.2.2.2.1 (lv.map (xlc ad))) (hP : va_P D vwCl (xws cy ad h) H) (hS : va_S (xA0 sz0) s.heap H locs) (k : xgo p l e R s mid args below meth c cells slots Q D cy ad sz0 q.2.2.2.1 h σ) : W p l e R s mid args below meth c H locs cells slots Q (F0 mid pc ls (st.map (xcv ad))) := by
  obtain ⟨hx, hb, hr, hml, hts, hown, hlk, hnm, hst⟩ := C
  simp only [xokE, xokE2, Bool.and_eq_true, decide_eq_true_eq, Bool.true_and, and_true] at hok
  obtain ⟨hd, hnx⟩ := hok
  simp only [xlen] at hd hnx
  subst hnx
  obtain ⟨x, y, r, rfl, rfl⟩ := xb2_inv hs
  exact lv_ixor hx hb hd (xgo_same k hl hP hS)

theorem x_step_ishl (C : xctx D cy ad sz0 L xs q p s mid args meth c) (hA : xadr ad sz0) {nx a1 a2 : Nat} {z : Int} (hok : xokE cn q pc (.ishl, nx, a1, a2, z) = true) (hcn : q.1 = xown cn) (o : xok L xs h) (hs : xstep (.ishl, nx, a1, a2, z) pc lv st h = some (.inl σ)) (hn : h.1 ≤ 600000) (hm : σ.2.2.2.1 ≤ 600000) (hc : s.heap.size + cells = sz0 + h.1) (hR1 : cells + (σ.2.2.2.1 - h.1) ≤ R.cells) (hR2 : slots + (σ.2.2.2.2.1 - h.2.1) ≤ R.slots) (hfr : 1 ≤ R.frames) (hlo : 64 ≤ R.locals) (hfr5 : 5 ≤ R.frames) (hlo5 : 320 ≤ R.locals) (hl : lv_has ls q.2.2.2.1 (lv.map (xlc ad))) (hP : va_P D vwCl (xws cy ad h) H) (hS : va_S (xA0 sz0) s.heap H locs) (k : xgo p l e R s mid args below meth c cells slots Q D cy ad sz0 q.2.2.2.1 h σ) : W p l e R s mid args below meth c H locs cells slots Q (F0 mid pc ls (st.map (xcv ad))) := by
  obtain ⟨hx, hb, hr, hml, hts, hown, hlk, hnm, hst⟩ := C
  simp only [xokE, xokE2, Bool.and_eq_true, decide_eq_true_eq, Bool.true_and, and_true] at hok
  obtain ⟨hd, hnx⟩ := hok
  simp only [xlen] at hd hnx
  subst hnx
  obtain ⟨x, y, r, rfl, rfl⟩ := xb2_inv hs
  exact lv_ishl hx hb hd (xgo_same k hl hP hS)

theorem x_step_ishr (C : xctx D cy ad sz0 L xs q p s mid args meth c) (hA : xadr ad sz0) {nx a1 a2 : Nat} {z : Int} (hok : xokE cn q pc (.ishr, nx, a1, a2, z) = true) (hcn : q.1 = xown cn) (o : xok L xs h) (hs : xstep (.ishr, nx, a1, a2, z) pc lv st h = some (.inl σ)) (hn : h.1 ≤ 600000) (hm : σ.2.2.2.1 ≤ 600000) (hc : s.heap.size + cells = sz0 + h.1) (hR1 : cells + (σ.2.2.2.1 - h.1) ≤ R.cells) (hR2 : slots + (σ.2.2.2.2.1 - h.2.1) ≤ R.slots) (hfr : 1 ≤ R.frames) (hlo : 64 ≤ R.locals) (hfr5 : 5 ≤ R.frames) (hlo5 : 320 ≤ R.locals) (hl : lv_has ls q.2.2.2.1 (lv.map (xlc ad))) (hP : va_P D vwCl (xws cy ad h) H) (hS : va_S (xA0 sz0) s.heap H locs) (k : xgo p l e R s mid args below meth c cells slots Q D cy ad sz0 q.2.2.2.1 h σ) : W p l e R s mid args below meth c H locs cells slots Q (F0 mid pc ls (st.map (xcv ad))) := by
  obtain ⟨hx, hb, hr, hml, hts, hown, hlk, hnm, hst⟩ := C
  simp only [xokE, xokE2, Bool.and_eq_true, decide_eq_true_eq, Bool.true_and, and_true] at hok
  obtain ⟨hd, hnx⟩ := hok
  simp only [xlen] at hd hnx
  subst hnx
  obtain ⟨x, y, r, rfl, rfl⟩ := xb2_inv hs
  exact lv_ishr hx hb hd (xgo_same k hl hP hS)

theorem x_step_iushr (C : xctx D cy ad sz0 L xs q p s mid args meth c) (hA : xadr ad sz0) {nx a1 a2 : Nat} {z : Int} (hok : xokE cn q pc (.iushr, nx, a1, a2, z) = true) (hcn : q.1 = xown cn) (o : xok L xs h) (hs : xstep (.iushr, nx, a1, a2, z) pc lv st h = some (.inl σ)) (hn : h.1 ≤ 600000) (hm : σ.2.2.2.1 ≤ 600000) (hc : s.heap.size + cells = sz0 + h.1) (hR1 : cells + (σ.2.2.2.1 - h.1) ≤ R.cells) (hR2 : slots + (σ.2.2.2.2.1 - h.2.1) ≤ R.slots) (hfr : 1 ≤ R.frames) (hlo : 64 ≤ R.locals) (hfr5 : 5 ≤ R.frames) (hlo5 : 320 ≤ R.locals) (hl : lv_has ls q.2.2.2.1 (lv.map (xlc ad))) (hP : va_P D vwCl (xws cy ad h) H) (hS : va_S (xA0 sz0) s.heap H locs) (k : xgo p l e R s mid args below meth c cells slots Q D cy ad sz0 q.2.2.2.1 h σ) : W p l e R s mid args below meth c H locs cells slots Q (F0 mid pc ls (st.map (xcv ad))) := by
  obtain ⟨hx, hb, hr, hml, hts, hown, hlk, hnm, hst⟩ := C
  simp only [xokE, xokE2, Bool.and_eq_true, decide_eq_true_eq, Bool.true_and, and_true] at hok
  obtain ⟨hd, hnx⟩ := hok
  simp only [xlen] at hd hnx
  subst hnx
  obtain ⟨x, y, r, rfl, rfl⟩ := xb2_inv hs
  exact lv_iushr hx hb hd rfl (xgo_same k hl hP hS)

theorem x_step_idiv (C : xctx D cy ad sz0 L xs q p s mid args meth c) (hA : xadr ad sz0) {nx a1 a2 : Nat} {z : Int} (hok : xokE cn q pc (.idiv, nx, a1, a2, z) = true) (hcn : q.1 = xown cn) (o : xok L xs h) (hs : xstep (.idiv, nx, a1, a2, z) pc lv st h = some (.inl σ)) (hn : h.1 ≤ 600000) (hm : σ.2.2.2.1 ≤ 600000) (hc : s.heap.size + cells = sz0 + h.1) (hR1 : cells + (σ.2.2.2.1 - h.1) ≤ R.cells) (hR2 : slots + (σ.2.2.2.2.1 - h.2.1) ≤ R.slots) (hfr : 1 ≤ R.frames) (hlo : 64 ≤ R.locals) (hfr5 : 5 ≤ R.frames) (hlo5 : 320 ≤ R.locals) (hl : lv_has ls q.2.2.2.1 (lv.map (xlc ad))) (hP : va_P D vwCl (xws cy ad h) H) (hS : va_S (xA0 sz0) s.heap H locs) (k : xgo p l e R s mid args below meth c cells slots Q D cy ad sz0 q.2.2.2.1 h σ) : W p l e R s mid args below meth c H locs cells slots Q (F0 mid pc ls (st.map (xcv ad))) := by
  obtain ⟨hx, hb, hr, hml, hts, hown, hlk, hnm, hst⟩ := C
  simp only [xokE, xokE2, Bool.and_eq_true, decide_eq_true_eq, Bool.true_and, and_true] at hok
  obtain ⟨hd, hnx⟩ := hok
  simp only [xlen] at hd hnx
  subst hnx
  obtain ⟨x, y, r, hy, rfl, rfl⟩ := xb2z_inv hs
  exact lv_idiv hx hb hd hy (xgo_same k hl hP hS)

theorem x_step_irem (C : xctx D cy ad sz0 L xs q p s mid args meth c) (hA : xadr ad sz0) {nx a1 a2 : Nat} {z : Int} (hok : xokE cn q pc (.irem, nx, a1, a2, z) = true) (hcn : q.1 = xown cn) (o : xok L xs h) (hs : xstep (.irem, nx, a1, a2, z) pc lv st h = some (.inl σ)) (hn : h.1 ≤ 600000) (hm : σ.2.2.2.1 ≤ 600000) (hc : s.heap.size + cells = sz0 + h.1) (hR1 : cells + (σ.2.2.2.1 - h.1) ≤ R.cells) (hR2 : slots + (σ.2.2.2.2.1 - h.2.1) ≤ R.slots) (hfr : 1 ≤ R.frames) (hlo : 64 ≤ R.locals) (hfr5 : 5 ≤ R.frames) (hlo5 : 320 ≤ R.locals) (hl : lv_has ls q.2.2.2.1 (lv.map (xlc ad))) (hP : va_P D vwCl (xws cy ad h) H) (hS : va_S (xA0 sz0) s.heap H locs) (k : xgo p l e R s mid args below meth c cells slots Q D cy ad sz0 q.2.2.2.1 h σ) : W p l e R s mid args below meth c H locs cells slots Q (F0 mid pc ls (st.map (xcv ad))) := by
  obtain ⟨hx, hb, hr, hml, hts, hown, hlk, hnm, hst⟩ := C
  simp only [xokE, xokE2, Bool.and_eq_true, decide_eq_true_eq, Bool.true_and, and_true] at hok
  obtain ⟨hd, hnx⟩ := hok
  simp only [xlen] at hd hnx
  subst hnx
  obtain ⟨x, y, r, hy, rfl, rfl⟩ := xb2z_inv hs
  exact lv_irem hx hb hd hy (xgo_same k hl hP hS)

theorem x_step_ladd (C : xctx D cy ad sz0 L xs q p s mid args meth c) (hA : xadr ad sz0) {nx a1 a2 : Nat} {z : Int} (hok : xokE cn q pc (.ladd, nx, a1, a2, z) = true) (hcn : q.1 = xown cn) (o : xok L xs h) (hs : xstep (.ladd, nx, a1, a2, z) pc lv st h = some (.inl σ)) (hn : h.1 ≤ 600000) (hm : σ.2.2.2.1 ≤ 600000) (hc : s.heap.size + cells = sz0 + h.1) (hR1 : cells + (σ.2.2.2.1 - h.1) ≤ R.cells) (hR2 : slots + (σ.2.2.2.2.1 - h.2.1) ≤ R.slots) (hfr : 1 ≤ R.frames) (hlo : 64 ≤ R.locals) (hfr5 : 5 ≤ R.frames) (hlo5 : 320 ≤ R.locals) (hl : lv_has ls q.2.2.2.1 (lv.map (xlc ad))) (hP : va_P D vwCl (xws cy ad h) H) (hS : va_S (xA0 sz0) s.heap H locs) (k : xgo p l e R s mid args below meth c cells slots Q D cy ad sz0 q.2.2.2.1 h σ) : W p l e R s mid args below meth c H locs cells slots Q (F0 mid pc ls (st.map (xcv ad))) := by
  obtain ⟨hx, hb, hr, hml, hts, hown, hlk, hnm, hst⟩ := C
  simp only [xokE, xokE2, Bool.and_eq_true, decide_eq_true_eq, Bool.true_and, and_true] at hok
  obtain ⟨hd, hnx⟩ := hok
  simp only [xlen] at hd hnx
  subst hnx
  obtain ⟨x, y, r, rfl, rfl⟩ := xl2_inv hs
  exact lv_ladd hx hb hd (xgo_same k hl hP hS)

theorem x_step_lmul (C : xctx D cy ad sz0 L xs q p s mid args meth c) (hA : xadr ad sz0) {nx a1 a2 : Nat} {z : Int} (hok : xokE cn q pc (.lmul, nx, a1, a2, z) = true) (hcn : q.1 = xown cn) (o : xok L xs h) (hs : xstep (.lmul, nx, a1, a2, z) pc lv st h = some (.inl σ)) (hn : h.1 ≤ 600000) (hm : σ.2.2.2.1 ≤ 600000) (hc : s.heap.size + cells = sz0 + h.1) (hR1 : cells + (σ.2.2.2.1 - h.1) ≤ R.cells) (hR2 : slots + (σ.2.2.2.2.1 - h.2.1) ≤ R.slots) (hfr : 1 ≤ R.frames) (hlo : 64 ≤ R.locals) (hfr5 : 5 ≤ R.frames) (hlo5 : 320 ≤ R.locals) (hl : lv_has ls q.2.2.2.1 (lv.map (xlc ad))) (hP : va_P D vwCl (xws cy ad h) H) (hS : va_S (xA0 sz0) s.heap H locs) (k : xgo p l e R s mid args below meth c cells slots Q D cy ad sz0 q.2.2.2.1 h σ) : W p l e R s mid args below meth c H locs cells slots Q (F0 mid pc ls (st.map (xcv ad))) := by
  obtain ⟨hx, hb, hr, hml, hts, hown, hlk, hnm, hst⟩ := C
  simp only [xokE, xokE2, Bool.and_eq_true, decide_eq_true_eq, Bool.true_and, and_true] at hok
  obtain ⟨hd, hnx⟩ := hok
  simp only [xlen] at hd hnx
  subst hnx
  obtain ⟨x, y, r, rfl, rfl⟩ := xl2_inv hs
  exact lv_lmul hx hb hd (xgo_same k hl hP hS)

theorem x_step_land (C : xctx D cy ad sz0 L xs q p s mid args meth c) (hA : xadr ad sz0) {nx a1 a2 : Nat} {z : Int} (hok : xokE cn q pc (.land, nx, a1, a2, z) = true) (hcn : q.1 = xown cn) (o : xok L xs h) (hs : xstep (.land, nx, a1, a2, z) pc lv st h = some (.inl σ)) (hn : h.1 ≤ 600000) (hm : σ.2.2.2.1 ≤ 600000) (hc : s.heap.size + cells = sz0 + h.1) (hR1 : cells + (σ.2.2.2.1 - h.1) ≤ R.cells) (hR2 : slots + (σ.2.2.2.2.1 - h.2.1) ≤ R.slots) (hfr : 1 ≤ R.frames) (hlo : 64 ≤ R.locals) (hfr5 : 5 ≤ R.frames) (hlo5 : 320 ≤ R.locals) (hl : lv_has ls q.2.2.2.1 (lv.map (xlc ad))) (hP : va_P D vwCl (xws cy ad h) H) (hS : va_S (xA0 sz0) s.heap H locs) (k : xgo p l e R s mid args below meth c cells slots Q D cy ad sz0 q.2.2.2.1 h σ) : W p l e R s mid args below meth c H locs cells slots Q (F0 mid pc ls (st.map (xcv ad))) := by
  obtain ⟨hx, hb, hr, hml, hts, hown, hlk, hnm, hst⟩ := C
  simp only [xokE, xokE2, Bool.and_eq_true, decide_eq_true_eq, Bool.true_and, and_true] at hok
  obtain ⟨hd, hnx⟩ := hok
  simp only [xlen] at hd hnx
  subst hnx
  obtain ⟨x, y, r, rfl, rfl⟩ := xl2_inv hs
  exact lv_land hx hb hd (xgo_same k hl hP hS)

theorem x_step_lor (C : xctx D cy ad sz0 L xs q p s mid args meth c) (hA : xadr ad sz0) {nx a1 a2 : Nat} {z : Int} (hok : xokE cn q pc (.lor, nx, a1, a2, z) = true) (hcn : q.1 = xown cn) (o : xok L xs h) (hs : xstep (.lor, nx, a1, a2, z) pc lv st h = some (.inl σ)) (hn : h.1 ≤ 600000) (hm : σ.2.2.2.1 ≤ 600000) (hc : s.heap.size + cells = sz0 + h.1) (hR1 : cells + (σ.2.2.2.1 - h.1) ≤ R.cells) (hR2 : slots + (σ.2.2.2.2.1 - h.2.1) ≤ R.slots) (hfr : 1 ≤ R.frames) (hlo : 64 ≤ R.locals) (hfr5 : 5 ≤ R.frames) (hlo5 : 320 ≤ R.locals) (hl : lv_has ls q.2.2.2.1 (lv.map (xlc ad))) (hP : va_P D vwCl (xws cy ad h) H) (hS : va_S (xA0 sz0) s.heap H locs) (k : xgo p l e R s mid args below meth c cells slots Q D cy ad sz0 q.2.2.2.1 h σ) : W p l e R s mid args below meth c H locs cells slots Q (F0 mid pc ls (st.map (xcv ad))) := by
  obtain ⟨hx, hb, hr, hml, hts, hown, hlk, hnm, hst⟩ := C
  simp only [xokE, xokE2, Bool.and_eq_true, decide_eq_true_eq, Bool.true_and, and_true] at hok
  obtain ⟨hd, hnx⟩ := hok
  simp only [xlen] at hd hnx
  subst hnx
  obtain ⟨x, y, r, rfl, rfl⟩ := xl2_inv hs
  exact lv_lor hx hb hd (xgo_same k hl hP hS)

theorem x_step_ldiv (C : xctx D cy ad sz0 L xs q p s mid args meth c) (hA : xadr ad sz0) {nx a1 a2 : Nat} {z : Int} (hok : xokE cn q pc (.ldiv, nx, a1, a2, z) = true) (hcn : q.1 = xown cn) (o : xok L xs h) (hs : xstep (.ldiv, nx, a1, a2, z) pc lv st h = some (.inl σ)) (hn : h.1 ≤ 600000) (hm : σ.2.2.2.1 ≤ 600000) (hc : s.heap.size + cells = sz0 + h.1) (hR1 : cells + (σ.2.2.2.1 - h.1) ≤ R.cells) (hR2 : slots + (σ.2.2.2.2.1 - h.2.1) ≤ R.slots) (hfr : 1 ≤ R.frames) (hlo : 64 ≤ R.locals) (hfr5 : 5 ≤ R.frames) (hlo5 : 320 ≤ R.locals) (hl : lv_has ls q.2.2.2.1 (lv.map (xlc ad))) (hP : va_P D vwCl (xws cy ad h) H) (hS : va_S (xA0 sz0) s.heap H locs) (k : xgo p l e R s mid args below meth c cells slots Q D cy ad sz0 q.2.2.2.1 h σ) : W p l e R s mid args below meth c H locs cells slots Q (F0 mid pc ls (st.map (xcv ad))) := by
  obtain ⟨hx, hb, hr, hml, hts, hown, hlk, hnm, hst⟩ := C
  simp only [xokE, xokE2, Bool.and_eq_true, decide_eq_true_eq, Bool.true_and, and_true] at hok
  obtain ⟨hd, hnx⟩ := hok
  simp only [xlen] at hd hnx
  subst hnx
  obtain ⟨x, y, r, hy, rfl, rfl⟩ := xl2z_inv hs
  exact lv_ldiv hx hb hd hy (xgo_same k hl hP hS)

theorem x_step_lrem (C : xctx D cy ad sz0 L xs q p s mid args meth c) (hA : xadr ad sz0) {nx a1 a2 : Nat} {z : Int} (hok : xokE cn q pc (.lrem, nx, a1, a2, z) = true) (hcn : q.1 = xown cn) (o : xok L xs h) (hs : xstep (.lrem, nx, a1, a2, z) pc lv st h = some (.inl σ)) (hn : h.1 ≤ 600000) (hm : σ.2.2.2.1 ≤ 600000) (hc : s.heap.size + cells = sz0 + h.1) (hR1 : cells + (σ.2.2.2.1 - h.1) ≤ R.cells) (hR2 : slots + (σ.2.2.2.2.1 - h.2.1) ≤ R.slots) (hfr : 1 ≤ R.frames) (hlo : 64 ≤ R.locals) (hfr5 : 5 ≤ R.frames) (hlo5 : 320 ≤ R.locals) (hl : lv_has ls q.2.2.2.1 (lv.map (xlc ad))) (hP : va_P D vwCl (xws cy ad h) H) (hS : va_S (xA0 sz0) s.heap H locs) (k : xgo p l e R s mid args below meth c cells slots Q D cy ad sz0 q.2.2.2.1 h σ) : W p l e R s mid args below meth c H locs cells slots Q (F0 mid pc ls (st.map (xcv ad))) := by
  obtain ⟨hx, hb, hr, hml, hts, hown, hlk, hnm, hst⟩ := C
  simp only [xokE, xokE2, Bool.and_eq_true, decide_eq_true_eq, Bool.true_and, and_true] at hok
  obtain ⟨hd, hnx⟩ := hok
  simp only [xlen] at hd hnx
  subst hnx
  obtain ⟨x, y, r, hy, rfl, rfl⟩ := xl2z_inv hs
  exact lv_lrem hx hb hd hy (xgo_same k hl hP hS)

theorem x_step_lshl (C : xctx D cy ad sz0 L xs q p s mid args meth c) (hA : xadr ad sz0) {nx a1 a2 : Nat} {z : Int} (hok : xokE cn q pc (.lshl, nx, a1, a2, z) = true) (hcn : q.1 = xown cn) (o : xok L xs h) (hs : xstep (.lshl, nx, a1, a2, z) pc lv st h = some (.inl σ)) (hn : h.1 ≤ 600000) (hm : σ.2.2.2.1 ≤ 600000) (hc : s.heap.size + cells = sz0 + h.1) (hR1 : cells + (σ.2.2.2.1 - h.1) ≤ R.cells) (hR2 : slots + (σ.2.2.2.2.1 - h.2.1) ≤ R.slots) (hfr : 1 ≤ R.frames) (hlo : 64 ≤ R.locals) (hfr5 : 5 ≤ R.frames) (hlo5 : 320 ≤ R.locals) (hl : lv_has ls q.2.2.2.1 (lv.map (xlc ad))) (hP : va_P D vwCl (xws cy ad h) H) (hS : va_S (xA0 sz0) s.heap H locs) (k : xgo p l e R s mid args below meth c cells slots Q D cy ad sz0 q.2.2.2.1 h σ) : W p l e R s mid args below meth c H locs cells slots Q (F0 mid pc ls (st.map (xcv ad))) := by
  obtain ⟨hx, hb, hr, hml, hts, hown, hlk, hnm, hst⟩ := C
  simp only [xokE, xokE2, Bool.and_eq_true, decide_eq_true_eq, Bool.true_and, and_true] at hok
  obtain ⟨hd, hnx⟩ := hok
  simp only [xlen] at hd hnx
  subst hnx
  obtain ⟨x, y, r, rfl, rfl⟩ := xlsh_inv hs
  exact lv_lshl hx hb hd rfl (xgo_same k hl hP hS)

theorem x_step_lcmp (C : xctx D cy ad sz0 L xs q p s mid args meth c) (hA : xadr ad sz0) {nx a1 a2 : Nat} {z : Int} (hok : xokE cn q pc (.lcmp, nx, a1, a2, z) = true) (hcn : q.1 = xown cn) (o : xok L xs h) (hs : xstep (.lcmp, nx, a1, a2, z) pc lv st h = some (.inl σ)) (hn : h.1 ≤ 600000) (hm : σ.2.2.2.1 ≤ 600000) (hc : s.heap.size + cells = sz0 + h.1) (hR1 : cells + (σ.2.2.2.1 - h.1) ≤ R.cells) (hR2 : slots + (σ.2.2.2.2.1 - h.2.1) ≤ R.slots) (hfr : 1 ≤ R.frames) (hlo : 64 ≤ R.locals) (hfr5 : 5 ≤ R.frames) (hlo5 : 320 ≤ R.locals) (hl : lv_has ls q.2.2.2.1 (lv.map (xlc ad))) (hP : va_P D vwCl (xws cy ad h) H) (hS : va_S (xA0 sz0) s.heap H locs) (k : xgo p l e R s mid args below meth c cells slots Q D cy ad sz0 q.2.2.2.1 h σ) : W p l e R s mid args below meth c H locs cells slots Q (F0 mid pc ls (st.map (xcv ad))) := by
  obtain ⟨hx, hb, hr, hml, hts, hown, hlk, hnm, hst⟩ := C
  simp only [xokE, xokE2, Bool.and_eq_true, decide_eq_true_eq, Bool.true_and, and_true] at hok
  obtain ⟨hd, hnx⟩ := hok
  simp only [xlen] at hd hnx
  subst hnx
  obtain ⟨x, y, r, rfl, rfl⟩ := xlcmp_inv hs
  exact W.lcmp hx hb hd (xgo_same k hl hP hS)

theorem x_step_i2l (C : xctx D cy ad sz0 L xs q p s mid args meth c) (hA : xadr ad sz0) {nx a1 a2 : Nat} {z : Int} (hok : xokE cn q pc (.i2l, nx, a1, a2, z) = true) (hcn : q.1 = xown cn) (o : xok L xs h) (hs : xstep (.i2l, nx, a1, a2, z) pc lv st h = some (.inl σ)) (hn : h.1 ≤ 600000) (hm : σ.2.2.2.1 ≤ 600000) (hc : s.heap.size + cells = sz0 + h.1) (hR1 : cells + (σ.2.2.2.1 - h.1) ≤ R.cells) (hR2 : slots + (σ.2.2.2.2.1 - h.2.1) ≤ R.slots) (hfr : 1 ≤ R.frames) (hlo : 64 ≤ R.locals) (hfr5 : 5 ≤ R.frames) (hlo5 : 320 ≤ R.locals) (hl : lv_has ls q.2.2.2.1 (lv.map (xlc ad))) (hP : va_P D vwCl (xws cy ad h) H) (hS : va_S (xA0 sz0) s.heap H locs) (k : xgo p l e R s mid args below meth c cells slots Q D cy ad sz0 q.2.2.2.1 h σ) : W p l e R s mid args below meth c H locs cells slots Q (F0 mid pc ls (st.map (xcv ad))) := by
  obtain ⟨hx, hb, hr, hml, hts, hown, hlk, hnm, hst⟩ := C
  simp only [xokE, xokE2, Bool.and_eq_true, decide_eq_true_eq, Bool.true_and, and_true] at hok
  obtain ⟨hd, hnx⟩ := hok
  simp only [xlen] at hd hnx
  subst hnx
  obtain ⟨x, r, rfl, rfl⟩ := xi1_inv hs
  exact lv_i2l hx hb hd rfl (xgo_same k hl hP hS)

theorem x_step_i2b (C : xctx D cy ad sz0 L xs q p s mid args meth c) (hA : xadr ad sz0) {nx a1 a2 : Nat} {z : Int} (hok : xokE cn q pc (.i2b, nx, a1, a2, z) = true) (hcn : q.1 = xown cn) (o : xok L xs h) (hs : xstep (.i2b, nx, a1, a2, z) pc lv st h = some (.inl σ)) (hn : h.1 ≤ 600000) (hm : σ.2.2.2.1 ≤ 600000) (hc : s.heap.size + cells = sz0 + h.1) (hR1 : cells + (σ.2.2.2.1 - h.1) ≤ R.cells) (hR2 : slots + (σ.2.2.2.2.1 - h.2.1) ≤ R.slots) (hfr : 1 ≤ R.frames) (hlo : 64 ≤ R.locals) (hfr5 : 5 ≤ R.frames) (hlo5 : 320 ≤ R.locals) (hl : lv_has ls q.2.2.2.1 (lv.map (xlc ad))) (hP : va_P D vwCl (xws cy ad h) H) (hS : va_S (xA0 sz0) s.heap H locs) (k : xgo p l e R s mid args below meth c cells slots Q D cy ad sz0 q.2.2.2.1 h σ) : W p l e R s mid args below meth c H locs cells slots Q (F0 mid pc ls (st.map (xcv ad))) := by
  obtain ⟨hx, hb, hr, hml, hts, hown, hlk, hnm, hst⟩ := C
  simp only [xokE, xokE2, Bool.and_eq_true, decide_eq_true_eq, Bool.true_and, and_true] at hok
  obtain ⟨hd, hnx⟩ := hok
  simp only [xlen] at hd hnx
  subst hnx
  obtain ⟨x, r, rfl, rfl⟩ := xi1_inv hs
  exact lv_i2b hx hb hd rfl (xgo_same k hl hP hS)

theorem x_step_i2s (C : xctx D cy ad sz0 L xs q p s mid args meth c) (hA : xadr ad sz0) {nx a1 a2 : Nat} {z : Int} (hok : xokE cn q pc (.i2s, nx, a1, a2, z) = true) (hcn : q.1 = xown cn) (o : xok L xs h) (hs : xstep (.i2s, nx, a1, a2, z) pc lv st h = some (.inl σ)) (hn : h.1 ≤ 600000) (hm : σ.2.2.2.1 ≤ 600000) (hc : s.heap.size + cells = sz0 + h.1) (hR1 : cells + (σ.2.2.2.1 - h.1) ≤ R.cells) (hR2 : slots + (σ.2.2.2.2.1 - h.2.1) ≤ R.slots) (hfr : 1 ≤ R.frames) (hlo : 64 ≤ R.locals) (hfr5 : 5 ≤ R.frames) (hlo5 : 320 ≤ R.locals) (hl : lv_has ls q.2.2.2.1 (lv.map (xlc ad))) (hP : va_P D vwCl (xws cy ad h) H) (hS : va_S (xA0 sz0) s.heap H locs) (k : xgo p l e R s mid args below meth c cells slots Q D cy ad sz0 q.2.2.2.1 h σ) : W p l e R s mid args below meth c H locs cells slots Q (F0 mid pc ls (st.map (xcv ad))) := by
  obtain ⟨hx, hb, hr, hml, hts, hown, hlk, hnm, hst⟩ := C
  simp only [xokE, xokE2, Bool.and_eq_true, decide_eq_true_eq, Bool.true_and, and_true] at hok
  obtain ⟨hd, hnx⟩ := hok
  simp only [xlen] at hd hnx
  subst hnx
  obtain ⟨x, r, rfl, rfl⟩ := xi1_inv hs
  exact lv_i2s hx hb hd rfl (xgo_same k hl hP hS)

theorem x_step_l2i (C : xctx D cy ad sz0 L xs q p s mid args meth c) (hA : xadr ad sz0) {nx a1 a2 : Nat} {z : Int} (hok : xokE cn q pc (.l2i, nx, a1, a2, z) = true) (hcn : q.1 = xown cn) (o : xok L xs h) (hs : xstep (.l2i, nx, a1, a2, z) pc lv st h = some (.inl σ)) (hn : h.1 ≤ 600000) (hm : σ.2.2.2.1 ≤ 600000) (hc : s.heap.size + cells = sz0 + h.1) (hR1 : cells + (σ.2.2.2.1 - h.1) ≤ R.cells) (hR2 : slots + (σ.2.2.2.2.1 - h.2.1) ≤ R.slots) (hfr : 1 ≤ R.frames) (hlo : 64 ≤ R.locals) (hfr5 : 5 ≤ R.frames) (hlo5 : 320 ≤ R.locals) (hl : lv_has ls q.2.2.2.1 (lv.map (xlc ad))) (hP : va_P D vwCl (xws cy ad h) H) (hS : va_S (xA0 sz0) s.heap H locs) (k : xgo p l e R s mid args below meth c cells slots Q D cy ad sz0 q.2.2.2.1 h σ) : W p l e R s mid args below meth c H locs cells slots Q (F0 mid pc ls (st.map (xcv ad))) := by
  obtain ⟨hx, hb, hr, hml, hts, hown, hlk, hnm, hst⟩ := C
  simp only [xokE, xokE2, Bool.and_eq_true, decide_eq_true_eq, Bool.true_and, and_true] at hok
  obtain ⟨hd, hnx⟩ := hok
  simp only [xlen] at hd hnx
  subst hnx
  obtain ⟨x, r, rfl, rfl⟩ := xl2i_inv hs
  exact lv_l2i hx hb hd rfl (xgo_same k hl hP hS)

theorem x_step_dup (C : xctx D cy ad sz0 L xs q p s mid args meth c) (hA : xadr ad sz0) {nx a1 a2 : Nat} {z : Int} (hok : xokE cn q pc (.dup, nx, a1, a2, z) = true) (hcn : q.1 = xown cn) (o : xok L xs h) (hs : xstep (.dup, nx, a1, a2, z) pc lv st h = some (.inl σ)) (hn : h.1 ≤ 600000) (hm : σ.2.2.2.1 ≤ 600000) (hc : s.heap.size + cells = sz0 + h.1) (hR1 : cells + (σ.2.2.2.1 - h.1) ≤ R.cells) (hR2 : slots + (σ.2.2.2.2.1 - h.2.1) ≤ R.slots) (hfr : 1 ≤ R.frames) (hlo : 64 ≤ R.locals) (hfr5 : 5 ≤ R.frames) (hlo5 : 320 ≤ R.locals) (hl : lv_has ls q.2.2.2.1 (lv.map (xlc ad))) (hP : va_P D vwCl (xws cy ad h) H) (hS : va_S (xA0 sz0) s.heap H locs) (k : xgo p l e R s mid args below meth c cells slots Q D cy ad sz0 q.2.2.2.1 h σ) : W p l e R s mid args below meth c H locs cells slots Q (F0 mid pc ls (st.map (xcv ad))) := by
  obtain ⟨hx, hb, hr, hml, hts, hown, hlk, hnm, hst⟩ := C
  simp only [xokE, xokE2, Bool.and_eq_true, decide_eq_true_eq, Bool.true_and, and_true] at hok
  obtain ⟨hd, hnx⟩ := hok
  simp only [xlen] at hd hnx
  subst hnx
  obtain ⟨v, r, hv, rfl, rfl⟩ := xdup_inv hs
  exact lv_dup hx hb hd ((xcv_cat ad v).trans hv) (xgo_same k hl hP hS)

theorem x_step_dup2 (C : xctx D cy ad sz0 L xs q p s mid args meth c) (hA : xadr ad sz0) {nx a1 a2 : Nat} {z : Int} (hok : xokE cn q pc (.dup2, nx, a1, a2, z) = true) (hcn : q.1 = xown cn) (o : xok L xs h) (hs : xstep (.dup2, nx, a1, a2, z) pc lv st h = some (.inl σ)) (hn : h.1 ≤ 600000) (hm : σ.2.2.2.1 ≤ 600000) (hc : s.heap.size + cells = sz0 + h.1) (hR1 : cells + (σ.2.2.2.1 - h.1) ≤ R.cells) (hR2 : slots + (σ.2.2.2.2.1 - h.2.1) ≤ R.slots) (hfr : 1 ≤ R.frames) (hlo : 64 ≤ R.locals) (hfr5 : 5 ≤ R.frames) (hlo5 : 320 ≤ R.locals) (hl : lv_has ls q.2.2.2.1 (lv.map (xlc ad))) (hP : va_P D vwCl (xws cy ad h) H) (hS : va_S (xA0 sz0) s.heap H locs) (k : xgo p l e R s mid args below meth c cells slots Q D cy ad sz0 q.2.2.2.1 h σ) : W p l e R s mid args below meth c H locs cells slots Q (F0 mid pc ls (st.map (xcv ad))) := by
  obtain ⟨hx, hb, hr, hml, hts, hown, hlk, hnm, hst⟩ := C
  simp only [xokE, xokE2, Bool.and_eq_true, decide_eq_true_eq, Bool.true_and, and_true] at hok
  obtain ⟨hd, hnx⟩ := hok
  simp only [xlen] at hd hnx
  subst hnx
  obtain ⟨v, w, r, hv, rfl, rfl⟩ := xdup2_inv hs
  exact lv_dup2_11 hx hb hd ((xcv_cat ad v).trans hv.1) ((xcv_cat ad w).trans hv.2) (xgo_same k hl hP hS)

theorem x_step_pop (C : xctx D cy ad sz0 L xs q p s mid args meth c) (hA : xadr ad sz0) {nx a1 a2 : Nat} {z : Int} (hok : xokE cn q pc (.pop, nx, a1, a2, z) = true) (hcn : q.1 = xown cn) (o : xok L xs h) (hs : xstep (.pop, nx, a1, a2, z) pc lv st h = some (.inl σ)) (hn : h.1 ≤ 600000) (hm : σ.2.2.2.1 ≤ 600000) (hc : s.heap.size + cells = sz0 + h.1) (hR1 : cells + (σ.2.2.2.1 - h.1) ≤ R.cells) (hR2 : slots + (σ.2.2.2.2.1 - h.2.1) ≤ R.slots) (hfr : 1 ≤ R.frames) (hlo : 64 ≤ R.locals) (hfr5 : 5 ≤ R.frames) (hlo5 : 320 ≤ R.locals) (hl : lv_has ls q.2.2.2.1 (lv.map (xlc ad))) (hP : va_P D vwCl (xws cy ad h) H) (hS : va_S (xA0 sz0) s.heap H locs) (k : xgo p l e R s mid args below meth c cells slots Q D cy ad sz0 q.2.2.2.1 h σ) : W p l e R s mid args below meth c H locs cells slots Q (F0 mid pc ls (st.map (xcv ad))) := by
  obtain ⟨hx, hb, hr, hml, hts, hown, hlk, hnm, hst⟩ := C
  simp only [xokE, xokE2, Bool.and_eq_true, decide_eq_true_eq, Bool.true_and, and_true] at hok
  obtain ⟨hd, hnx⟩ := hok
  simp only [xlen] at hd hnx
  subst hnx
  obtain ⟨v, r, hv, rfl, rfl⟩ := xpop_inv hs
  exact lv_pop hx hb hd ((xcv_cat ad v).trans hv) (xgo_same k hl hP hS)

theorem x_step_if1 (C : xctx D cy ad sz0 L xs q p s mid args meth c) (hA : xadr ad sz0) {nx a1 a2 : Nat} {z : Int} {cd : Jvm.ClassFile.Cond} {off : Int} (hok : xokE cn q pc (.ifCond cd off, nx, a1, a2, z) = true) (hcn : q.1 = xown cn) (o : xok L xs h) (hs : xstep (.ifCond cd off, nx, a1, a2, z) pc lv st h = some (.inl σ)) (hn : h.1 ≤ 600000) (hm : σ.2.2.2.1 ≤ 600000) (hc : s.heap.size + cells = sz0 + h.1) (hR1 : cells + (σ.2.2.2.1 - h.1) ≤ R.cells) (hR2 : slots + (σ.2.2.2.2.1 - h.2.1) ≤ R.slots) (hfr : 1 ≤ R.frames) (hlo : 64 ≤ R.locals) (hfr5 : 5 ≤ R.frames) (hlo5 : 320 ≤ R.locals) (hl : lv_has ls q.2.2.2.1 (lv.map (xlc ad))) (hP : va_P D vwCl (xws cy ad h) H) (hS : va_S (xA0 sz0) s.heap H locs) (k : xgo p l e R s mid args below meth c cells slots Q D cy ad sz0 q.2.2.2.1 h σ) : W p l e R s mid args below meth c H locs cells slots Q (F0 mid pc ls (st.map (xcv ad))) := by
  obtain ⟨hx, hb, hr, hml, hts, hown, hlk, hnm, hst⟩ := C
  simp only [xokE, xokE2, Bool.and_eq_true, decide_eq_true_eq, Bool.true_and, and_true] at hok
  obtain ⟨⟨hd, hnx⟩, hk⟩ := hok
  simp only [xlen] at hd hnx
  subst hnx
  obtain ⟨x, r, rfl, rfl⟩ := xif1_inv hs
  have kt : xcmp cd x 0 = true → W p l e R s mid args below meth c H locs cells slots Q (F0 mid a1 ls (r.map (xcv ad))) := fun t => by
    have := xgo_same k hl hP hS
    rw [t] at this
    exact this
  have kf : xcmp cd x 0 = false → W p l e R s mid args below meth c H locs cells slots Q (F0 mid (pc + 3) ls (r.map (xcv ad))) := fun t => by
    have := xgo_same k hl hP hS
    rw [t] at this
    exact this
  cases cd
  · exact lv_if_eq hx hb hd hk (fun t => kt (decide_eq_true t)) (fun t => kf (decide_eq_false t))
  · exact lv_if_ne hx hb hd hk (fun t => kt (decide_eq_true t)) (fun t => kf (decide_eq_false (fun z => z t)))
  · exact lv_if_lt hx hb hd hk (fun t => kt (decide_eq_true t)) (fun t => kf (decide_eq_false t))
  · exact lv_if_ge hx hb hd hk (fun t => kt (decide_eq_true t)) (fun t => kf (decide_eq_false t))
  · exact lv_if_gt hx hb hd hk (fun t => kt (decide_eq_true t)) (fun t => kf (decide_eq_false t))
  · exact lv_if_le hx hb hd hk (fun t => kt (decide_eq_true t)) (fun t => kf (decide_eq_false t))

theorem x_step_if2 (C : xctx D cy ad sz0 L xs q p s mid args meth c) (hA : xadr ad sz0) {nx a1 a2 : Nat} {z : Int} {cd : Jvm.ClassFile.Cond} {off : Int} (hok : xokE cn q pc (.if_icmp cd off, nx, a1, a2, z) = true) (hcn : q.1 = xown cn) (o : xok L xs h) (hs : xstep (.if_icmp cd off, nx, a1, a2, z) pc lv st h = some (.inl σ)) (hn : h.1 ≤ 600000) (hm : σ.2.2.2.1 ≤ 600000) (hc : s.heap.size + cells = sz0 + h.1) (hR1 : cells + (σ.2.2.2.1 - h.1) ≤ R.cells) (hR2 : slots + (σ.2.2.2.2.1 - h.2.1) ≤ R.slots) (hfr : 1 ≤ R.frames) (hlo : 64 ≤ R.locals) (hfr5 : 5 ≤ R.frames) (hlo5 : 320 ≤ R.locals) (hl : lv_has ls q.2.2.2.1 (lv.map (xlc ad))) (hP : va_P D vwCl (xws cy ad h) H) (hS : va_S (xA0 sz0) s.heap H locs) (k : xgo p l e R s mid args below meth c cells slots Q D cy ad sz0 q.2.2.2.1 h σ) : W p l e R s mid args below meth c H locs cells slots Q (F0 mid pc ls (st.map (xcv ad))) := by
  obtain ⟨hx, hb, hr, hml, hts, hown, hlk, hnm, hst⟩ := C
  simp only [xokE, xokE2, Bool.and_eq_true, decide_eq_true_eq, Bool.true_and, and_true] at hok
  obtain ⟨⟨hd, hnx⟩, hk⟩ := hok
  simp only [xlen] at hd hnx
  subst hnx
  obtain ⟨x, y, r, rfl, rfl⟩ := xif2_inv hs
  have kt : xcmp cd x y = true → W p l e R s mid args below meth c H locs cells slots Q (F0 mid a1 ls (r.map (xcv ad))) := fun t => by
    have := xgo_same k hl hP hS
    rw [t] at this
    exact this
  have kf : xcmp cd x y = false → W p l e R s mid args below meth c H locs cells slots Q (F0 mid (pc + 3) ls (r.map (xcv ad))) := fun t => by
    have := xgo_same k hl hP hS
    rw [t] at this
    exact this
  cases cd
  · exact lv_icmp_eq hx hb hd hk (fun t => kt (decide_eq_true t)) (fun t => kf (decide_eq_false t))
  · exact lv_icmp_ne hx hb hd hk (fun t => kt (decide_eq_true t)) (fun t => kf (decide_eq_false (fun z => z t)))
  · exact lv_icmp_lt hx hb hd hk (fun t => kt (decide_eq_true t)) (fun t => kf (decide_eq_false t))
  · exact lv_icmp_ge hx hb hd hk (fun t => kt (decide_eq_true t)) (fun t => kf (decide_eq_false t))
  · exact lv_icmp_gt hx hb hd hk (fun t => kt (decide_eq_true t)) (fun t => kf (decide_eq_false t))
  · exact lv_icmp_le hx hb hd hk (fun t => kt (decide_eq_true t)) (fun t => kf (decide_eq_false t))

theorem x_step_goto (C : xctx D cy ad sz0 L xs q p s mid args meth c) (hA : xadr ad sz0) {nx a1 a2 : Nat} {z : Int} {off : Int} (hok : xokE cn q pc (.goto off, nx, a1, a2, z) = true) (hcn : q.1 = xown cn) (o : xok L xs h) (hs : xstep (.goto off, nx, a1, a2, z) pc lv st h = some (.inl σ)) (hn : h.1 ≤ 600000) (hm : σ.2.2.2.1 ≤ 600000) (hc : s.heap.size + cells = sz0 + h.1) (hR1 : cells + (σ.2.2.2.1 - h.1) ≤ R.cells) (hR2 : slots + (σ.2.2.2.2.1 - h.2.1) ≤ R.slots) (hfr : 1 ≤ R.frames) (hlo : 64 ≤ R.locals) (hfr5 : 5 ≤ R.frames) (hlo5 : 320 ≤ R.locals) (hl : lv_has ls q.2.2.2.1 (lv.map (xlc ad))) (hP : va_P D vwCl (xws cy ad h) H) (hS : va_S (xA0 sz0) s.heap H locs) (k : xgo p l e R s mid args below meth c cells slots Q D cy ad sz0 q.2.2.2.1 h σ) : W p l e R s mid args below meth c H locs cells slots Q (F0 mid pc ls (st.map (xcv ad))) := by
  obtain ⟨hx, hb, hr, hml, hts, hown, hlk, hnm, hst⟩ := C
  simp only [xokE, xokE2, Bool.and_eq_true, decide_eq_true_eq, Bool.true_and, and_true] at hok
  obtain ⟨⟨hd, hnx⟩, hk⟩ := hok
  simp only [xlen] at hd hnx
  subst hnx
  cases hs
  exact lv_goto hx hb hd hk (xgo_same k hl hP hS)

theorem x_step_tsw (C : xctx D cy ad sz0 L xs q p s mid args meth c) (hA : xadr ad sz0) {nx a1 a2 : Nat} {z : Int} {dflt lo hi : Int} {offs : Array Int} (hok : xokE cn q pc (.tableswitch dflt lo hi offs, nx, a1, a2, z) = true) (hcn : q.1 = xown cn) (o : xok L xs h) (hs : xstep (.tableswitch dflt lo hi offs, nx, a1, a2, z) pc lv st h = some (.inl σ)) (hn : h.1 ≤ 600000) (hm : σ.2.2.2.1 ≤ 600000) (hc : s.heap.size + cells = sz0 + h.1) (hR1 : cells + (σ.2.2.2.1 - h.1) ≤ R.cells) (hR2 : slots + (σ.2.2.2.2.1 - h.2.1) ≤ R.slots) (hfr : 1 ≤ R.frames) (hlo : 64 ≤ R.locals) (hfr5 : 5 ≤ R.frames) (hlo5 : 320 ≤ R.locals) (hl : lv_has ls q.2.2.2.1 (lv.map (xlc ad))) (hP : va_P D vwCl (xws cy ad h) H) (hS : va_S (xA0 sz0) s.heap H locs) (k : xgo p l e R s mid args below meth c cells slots Q D cy ad sz0 q.2.2.2.1 h σ) : W p l e R s mid args below meth c H locs cells slots Q (F0 mid pc ls (st.map (xcv ad))) := by
  obtain ⟨hx, hb, hr, hml, hts, hown, hlk, hnm, hst⟩ := C
  simp only [xokE, xokE2, Bool.and_eq_true, decide_eq_true_eq, Bool.true_and, and_true] at hok
  obtain ⟨⟨hd, h0⟩, h1⟩ := hok
  obtain ⟨x, r, t, rfl, ht, rfl⟩ := xswi_inv hs
  change (if x.toInt < lo ∨ hi < x.toInt then some ((pc : Int) + dflt).toNat else (offs[(x.toInt - lo).toNat]?).map (fun o => ((pc : Int) + o).toNat)) = some t at ht
  split at ht
  · next hh =>
    cases ht
    exact lv_tableOut hx hb hd hh (Int.toNat_of_nonneg h0).symm (xgo_same k hl hP hS)
  · next hh =>
    obtain ⟨o9, h2, h3⟩ := Option.map_eq_some_iff.mp ht
    subst h3
    have h4 : 0 ≤ (pc : Int) + o9 := by
      have h5 : o9 ∈ offs.toList := by
        rw [← Array.getElem?_toList] at h2
        exact List.mem_of_getElem? h2
      have := List.all_eq_true.mp h1 o9 h5
      simpa using this
    exact lv_tableIn hx hb hd (fun t => hh (Or.inl t)) (fun t => hh (Or.inr t)) h2 (Int.toNat_of_nonneg h4).symm (xgo_same k hl hP hS)

theorem x_step_lsw (C : xctx D cy ad sz0 L xs q p s mid args meth c) (hA : xadr ad sz0) {nx a1 a2 : Nat} {z : Int} {dflt : Int} {ps : Array (Int × Int)} (hok : xokE cn q pc (.lookupswitch dflt ps, nx, a1, a2, z) = true) (hcn : q.1 = xown cn) (o : xok L xs h) (hs : xstep (.lookupswitch dflt ps, nx, a1, a2, z) pc lv st h = some (.inl σ)) (hn : h.1 ≤ 600000) (hm : σ.2.2.2.1 ≤ 600000) (hc : s.heap.size + cells = sz0 + h.1) (hR1 : cells + (σ.2.2.2.1 - h.1) ≤ R.cells) (hR2 : slots + (σ.2.2.2.2.1 - h.2.1) ≤ R.slots) (hfr : 1 ≤ R.frames) (hlo : 64 ≤ R.locals) (hfr5 : 5 ≤ R.frames) (hlo5 : 320 ≤ R.locals) (hl : lv_has ls q.2.2.2.1 (lv.map (xlc ad))) (hP : va_P D vwCl (xws cy ad h) H) (hS : va_S (xA0 sz0) s.heap H locs) (k : xgo p l e R s mid args below meth c cells slots Q D cy ad sz0 q.2.2.2.1 h σ) : W p l e R s mid args below meth c H locs cells slots Q (F0 mid pc ls (st.map (xcv ad))) := by
  obtain ⟨hx, hb, hr, hml, hts, hown, hlk, hnm, hst⟩ := C
  simp only [xokE, xokE2, Bool.and_eq_true, decide_eq_true_eq, Bool.true_and, and_true] at hok
  obtain ⟨⟨⟨hd, h0⟩, h1⟩, h2⟩ := hok
  obtain ⟨x, r, t, rfl, ht, rfl⟩ := xswi_inv hs
  change some ((pc : Int) + Op.lookupswitch.offset ps.toList dflt x.toInt).toNat = some t at ht
  cases ht
  have h4 : 0 ≤ (pc : Int) + Op.lookupswitch.offset ps.toList dflt x.toInt := by
    have key : ∀ ts : List (Int × Int), (∀ o ∈ ts, 0 ≤ (pc : Int) + o.2) → 0 ≤ (pc : Int) + Op.lookupswitch.offset ts dflt x.toInt := by
      intro ts
      induction ts with
      | nil => intro _; exact h0
      | cons a ts ih =>
        intro ho
        rw [Op.lookupswitch.offset_cons]
        split
        · exact ho a List.mem_cons_self
        · exact ih (fun o h => ho o (List.mem_cons_of_mem _ h))
    exact key _ (fun o ho => by have := List.all_eq_true.mp h1 o ho; simpa using this)
  exact lv_lookup hx hb hd h2 rfl (Int.toNat_of_nonneg h4).symm (xgo_same k hl hP hS)
end XSTEP
