/-! THE SMALL MACHINE IS RIGHT: what it comes to, the machine of the Statement comes to. First: its steps turned round, its heap beside the machine's. -/
def xcv (ad : Nat → Nat) (v : Value) : Value := match v with
  | .ref a => .ref (ad a)
  | v => v
theorem xcv_cat (ad : Nat → Nat) (v : Value) : (xcv ad v).category = v.category := by cases v <;> rfl
def xlc (ad : Nat → Nat) (q : Nat × Value) : Nat × Value := (q.1, xcv ad q.2)
theorem xcats (ad : Nat → Nat) (st : List Value) : ((st.map (xcv ad)).map fun v => v.category) = st.map fun v => v.category := by
  rw [List.map_map]
  exact List.map_congr_left (fun v _ => xcv_cat ad v)
abbrev xC : Type := (Nat → Int32) ⊕ (Nat → Int64) ⊕ (Nat → UInt32) ⊕ (Nat → UInt64) ⊕ (Nat → Option Nat)
def xcc (ad : Nat → Nat) (c : xC) : xC := match c with
  | .inr (.inr (.inr (.inr f))) => .inr (.inr (.inr (.inr (fun i => (f i).map ad))))
  | c => c
def xca (cy : Nat → ClassId) (ad : Nat → Nat) (a : xA) : va_E := match a with
  | .inl (k, n, c) => .inl (cy k, n, xcc ad c)
  | .inr (ci, fs) => .inr (ci, fs.map (xcv ad))
def xws (cy : Nat → ClassId) (ad : Nat → Nat) (h : xH) : va_W := (List.range h.1).map (fun i => (ad i, xca cy ad (h.2.2 i)))
section XWS
variable {cy : Nat → ClassId} {ad : Nat → Nat}
theorem xws_get {h : xH} {a : Nat} (ha : a < h.1) : (xws cy ad h)[a]? = some (ad a, xca cy ad (h.2.2 a)) := by
  simp [xws, ha]
theorem xws_none {h : xH} {a : Nat} (ha : ¬ a < h.1) : (xws cy ad h)[a]? = none := by
  simp [xws]; omega
theorem xws_put {h : xH} {a : Nat} {e : xA} (ha : a < h.1) : (xws cy ad h).set a (ad a, xca cy ad e) = xws cy ad (xput h a e) := by
  apply List.ext_getElem?
  intro j
  rw [List.getElem?_set]
  have hl : (xws cy ad h).length = h.1 := by simp [xws]
  by_cases hj : j < h.1
  · rw [xws_get (h := xput h a e) (show j < (xput h a e).1 from hj)]
    by_cases e1 : a = j
    · subst e1
      simp [hl, ha, xput, va_up]
    · rw [if_neg e1, xws_get hj]
      simp [xput, va_up, Ne.symm e1]
  · rw [xws_none (h := xput h a e) (show ¬ j < (xput h a e).1 from hj)]
    have : ¬ a = j := by omega
    rw [if_neg this, xws_none hj]
theorem xws_add {h : xH} {n : Nat} {e : xA} : xws cy ad h ++ [(ad h.1, xca cy ad e)] = xws cy ad (xadd h n e) := by
  unfold xws xadd
  simp only [List.range_succ, List.map_append, List.map_cons, List.map_nil]
  congr 1
  · apply List.map_congr_left
    intro i hi
    have : i ≠ h.1 := Nat.ne_of_lt (List.mem_range.mp hi)
    simp [va_up, this]
  · simp [va_up]
end XWS
def xtys (cy : Nat → ClassId) : List (ClassId × FieldType) := [(cy 0, .int), (cy 1, .long), (cy 2, .boolean), (cy 3, .byte), (cy 4, .object RX1), (cy 5, .object RX3), (cy 6, .object RX5), (cy 7, .array .long)]
/-- the heap of the small machine is in order -/
def xok (L : Nat) (xs : Nat → Int32) (h : xH) : Prop := (∀ a, h.1 ≤ a → a ≠ 1000000 → h.2.2 a = .inr (999, [])) ∧ h.2.2 1000000 = .inl (8, L, .inl xs) ∧ ∀ a, a < h.1 → ∀ k c, h.2.2 a = .inl (k, c) → k < 8
section XOK
variable {L : Nat} {xs : Nat → Int32} {h : xH}
theorem xok.obj (o : xok L xs h) {a ci : Nat} {fs : List Value} (e : h.2.2 a = .inr (ci, fs)) (hc : ci ≠ 999) : a < h.1 := by
  by_cases q : a < h.1
  · exact q
  · by_cases z : a = 1000000
    · rw [z, o.2.1] at e; cases e
    · rw [o.1 a (by omega) z] at e; cases e; exact absurd rfl hc
theorem xok.arr (o : xok L xs h) {a k : Nat} {c : vp_A} (e : h.2.2 a = .inl (k, c)) (hk : k ≠ 8) : a < h.1 := by
  by_cases q : a < h.1
  · exact q
  · by_cases z : a = 1000000
    · rw [z, o.2.1] at e; cases e; exact absurd rfl hk
    · rw [o.1 a (by omega) z] at e; cases e
theorem xok.scr (o : xok L xs h) {a : Nat} {c : vp_A} (e : h.2.2 a = .inl (8, c)) : a = 1000000 ∧ c = (L, .inl xs) := by
  by_cases q : a < h.1
  · exact absurd (o.2.2 a q 8 c e) (by decide)
  · by_cases z : a = 1000000
    · refine ⟨z, ?_⟩
      rw [z, o.2.1] at e; cases e; rfl
    · rw [o.1 a (by omega) z] at e; cases e
theorem xok.put (o : xok L xs h) {a : Nat} {e : xA} (ha : a < h.1) (hn : h.1 ≤ 600000) (hk : ∀ k c, e = .inl (k, c) → k < 8) : xok L xs (xput h a e) := by
  refine ⟨fun b hb z => ?_, ?_, fun b hb k c hc => ?_⟩
  · have hb' : h.1 ≤ b := hb
    have : b ≠ a := by omega
    show va_up h.2.2 a e b = _
    simp only [va_up, if_neg this]
    exact o.1 b hb' z
  · have : (1000000 : Nat) ≠ a := by omega
    show va_up h.2.2 a e 1000000 = _
    simp only [va_up, if_neg this]
    exact o.2.1
  · change va_up h.2.2 a e b = _ at hc
    by_cases z : b = a
    · subst z
      simp only [va_up, if_pos] at hc
      exact hk k c hc
    · simp only [va_up, if_neg z] at hc
      exact o.2.2 b hb k c hc
theorem xok.add (o : xok L xs h) {n : Nat} {e : xA} (hn : h.1 + 1 ≤ 600000) (hk : ∀ k c, e = .inl (k, c) → k < 8) : xok L xs (xadd h n e) := by
  refine ⟨fun b hb z => ?_, ?_, fun b hb k c hc => ?_⟩
  · have hb' : h.1 + 1 ≤ b := hb
    have : b ≠ h.1 := by omega
    show va_up h.2.2 h.1 e b = _
    simp only [va_up, if_neg this]
    exact o.1 b (by omega) z
  · have : (1000000 : Nat) ≠ h.1 := by omega
    show va_up h.2.2 h.1 e 1000000 = _
    simp only [va_up, if_neg this]
    exact o.2.1
  · change va_up h.2.2 h.1 e b = _ at hc
    have hb' : b < h.1 + 1 := hb
    by_cases z : b = h.1
    · subst z
      simp only [va_up, if_pos] at hc
      exact hk k c hc
    · simp only [va_up, if_neg z] at hc
      exact o.2.2 b (by omega) k c hc
end XOK
section XINV
variable {e : xE} {lv : xL} {st : List Value} {h : xH} {σ : xS}
theorem xin_vp {i : Int32} {n : Nat} (hh : xin i n = true) : vp_in i n := by
  unfold xin at hh
  unfold vp_in
  simpa using hh
theorem xldI_inv {i : Nat} (hs : xldI e i lv st h = some (.inl σ)) : ∃ x, lv.lookup i = some (.int x) ∧ σ = (e.2.1, lv, .int x :: st, h) := by
  unfold xldI at hs; split at hs
  · next x hx => cases hs; exact ⟨_, hx, rfl⟩
  · cases hs
theorem xldL_inv {i : Nat} (hs : xldL e i lv st h = some (.inl σ)) : ∃ x, lv.lookup i = some (.long x) ∧ σ = (e.2.1, lv, .long x :: st, h) := by
  unfold xldL at hs; split at hs
  · next x hx => cases hs; exact ⟨_, hx, rfl⟩
  · cases hs
theorem xldA_inv {i : Nat} (hs : xldA e i lv st h = some (.inl σ)) : ∃ x, lv.lookup i = some (.ref x) ∧ σ = (e.2.1, lv, .ref x :: st, h) := by
  unfold xldA at hs; split at hs
  · next x hx => cases hs; exact ⟨_, hx, rfl⟩
  · cases hs
theorem xstI_inv {i : Nat} (hs : xstI e i lv st h = some (.inl σ)) : ∃ x r, st = .int x :: r ∧ σ = (e.2.1, xst1 lv i (.int x), r, h) := by
  unfold xstI at hs; split at hs
  · cases hs; exact ⟨_, _, rfl, rfl⟩
  · cases hs
theorem xstA_inv {i : Nat} (hs : xstA e i lv st h = some (.inl σ)) : ∃ x r, st = .ref x :: r ∧ σ = (e.2.1, xst1 lv i (.ref x), r, h) := by
  unfold xstA at hs; split at hs
  · cases hs; exact ⟨_, _, rfl, rfl⟩
  · cases hs
theorem xstL_inv {i : Nat} (hs : xstL e i lv st h = some (.inl σ)) : ∃ x r, st = .long x :: r ∧ σ = (e.2.1, xst2 lv i (.long x), r, h) := by
  unfold xstL at hs; split at hs
  · cases hs; exact ⟨_, _, rfl, rfl⟩
  · cases hs
theorem xinc_inv {i : Nat} {n : Int} (hs : xinc e i n lv st h = some (.inl σ)) : ∃ x, lv.lookup i = some (.int x) ∧ σ = (e.2.1, xst1 lv i (.int (x + Int32.ofInt n)), st, h) := by
  unfold xinc at hs; split at hs
  · next x hx => cases hs; exact ⟨_, hx, rfl⟩
  · cases hs
theorem xb2_inv {f : Int32 → Int32 → Int32} (hs : xb2 e f lv st h = some (.inl σ)) : ∃ x y r, st = .int y :: .int x :: r ∧ σ = (e.2.1, lv, .int (f x y) :: r, h) := by
  unfold xb2 at hs; split at hs
  · cases hs; exact ⟨_, _, _, rfl, rfl⟩
  · cases hs
theorem xb2z_inv {f : Int32 → Int32 → Int32} (hs : xb2z e f lv st h = some (.inl σ)) : ∃ x y r, ¬ y = 0 ∧ st = .int y :: .int x :: r ∧ σ = (e.2.1, lv, .int (f x y) :: r, h) := by
  unfold xb2z at hs; split at hs
  · split at hs
    · cases hs
    · next hy => cases hs; exact ⟨_, _, _, hy, rfl, rfl⟩
  · cases hs
theorem xl2_inv {f : Int64 → Int64 → Int64} (hs : xl2 e f lv st h = some (.inl σ)) : ∃ x y r, st = .long y :: .long x :: r ∧ σ = (e.2.1, lv, .long (f x y) :: r, h) := by
  unfold xl2 at hs; split at hs
  · cases hs; exact ⟨_, _, _, rfl, rfl⟩
  · cases hs
theorem xl2z_inv {f : Int64 → Int64 → Int64} (hs : xl2z e f lv st h = some (.inl σ)) : ∃ x y r, ¬ y = 0 ∧ st = .long y :: .long x :: r ∧ σ = (e.2.1, lv, .long (f x y) :: r, h) := by
  unfold xl2z at hs; split at hs
  · split at hs
    · cases hs
    · next hy => cases hs; exact ⟨_, _, _, hy, rfl, rfl⟩
  · cases hs
theorem xlsh_inv (hs : xlsh e lv st h = some (.inl σ)) : ∃ x y r, st = .int y :: .long x :: r ∧ σ = (e.2.1, lv, .long (x <<< (y.toInt64 &&& 63)) :: r, h) := by
  unfold xlsh at hs; split at hs
  · cases hs; exact ⟨_, _, _, rfl, rfl⟩
  · cases hs
theorem xlcmp_inv (hs : xlcmp e lv st h = some (.inl σ)) : ∃ x y r, st = .long y :: .long x :: r ∧ σ = (e.2.1, lv, .int (lg_cmp x y) :: r, h) := by
  unfold xlcmp at hs; split at hs
  · cases hs; exact ⟨_, _, _, rfl, rfl⟩
  · cases hs
theorem xi1_inv {f : Int32 → Value} (hs : xi1 e f lv st h = some (.inl σ)) : ∃ x r, st = .int x :: r ∧ σ = (e.2.1, lv, f x :: r, h) := by
  unfold xi1 at hs; split at hs
  · cases hs; exact ⟨_, _, rfl, rfl⟩
  · cases hs
theorem xl2i_inv (hs : xl2i e lv st h = some (.inl σ)) : ∃ x r, st = .long x :: r ∧ σ = (e.2.1, lv, .int x.toInt32 :: r, h) := by
  unfold xl2i at hs; split at hs
  · cases hs; exact ⟨_, _, rfl, rfl⟩
  · cases hs
theorem xdup_inv (hs : xdup e lv st h = some (.inl σ)) : ∃ v r, v.category = 1 ∧ st = v :: r ∧ σ = (e.2.1, lv, v :: v :: r, h) := by
  unfold xdup at hs; split at hs
  · split at hs
    · next hv => cases hs; exact ⟨_, _, hv, rfl, rfl⟩
    · cases hs
  · cases hs
theorem xdup2_inv (hs : xdup2 e lv st h = some (.inl σ)) : ∃ v w r, (v.category = 1 ∧ w.category = 1) ∧ st = v :: w :: r ∧ σ = (e.2.1, lv, v :: w :: v :: w :: r, h) := by
  unfold xdup2 at hs; split at hs
  · split at hs
    · next hv => cases hs; exact ⟨_, _, _, hv, rfl, rfl⟩
    · cases hs
  · cases hs
theorem xpop_inv (hs : xpop e lv st h = some (.inl σ)) : ∃ v r, v.category = 1 ∧ st = v :: r ∧ σ = (e.2.1, lv, r, h) := by
  unfold xpop at hs; split at hs
  · split at hs
    · next hv => cases hs; exact ⟨_, _, hv, rfl, rfl⟩
    · cases hs
  · cases hs
theorem xif1_inv {c : Jvm.ClassFile.Cond} (hs : xif1 e c lv st h = some (.inl σ)) : ∃ x r, st = .int x :: r ∧ σ = (bif xcmp c x 0 then e.2.2.1 else e.2.1, lv, r, h) := by
  unfold xif1 at hs; split at hs
  · cases hs; exact ⟨_, _, rfl, rfl⟩
  · cases hs
theorem xif2_inv {c : Jvm.ClassFile.Cond} (hs : xif2 e c lv st h = some (.inl σ)) : ∃ x y r, st = .int y :: .int x :: r ∧ σ = (bif xcmp c x y then e.2.2.1 else e.2.1, lv, r, h) := by
  unfold xif2 at hs; split at hs
  · cases hs; exact ⟨_, _, _, rfl, rfl⟩
  · cases hs
theorem xswi_inv {pc : Nat} (hs : xswi e pc lv st h = some (.inl σ)) : ∃ x r t, st = .int x :: r ∧ xsw pc e.1 x = some t ∧ σ = (t, lv, r, h) := by
  unfold xswi at hs; split at hs
  · obtain ⟨t, h1, h2⟩ := Option.map_eq_some_iff.mp hs
    cases h2; exact ⟨_, _, _, rfl, h1, rfl⟩
  · cases hs
theorem xget_inv (hs : xget e lv st h = some (.inl σ)) : ∃ a r fs v, h.2.2 a = .inr (e.2.2.1, fs) ∧ fs[e.2.2.2.1]? = some v ∧ st = .ref a :: r ∧ σ = (e.2.1, lv, v :: r, h) := by
  unfold xget at hs; split at hs
  · split at hs
    · next hm =>
      split at hs
      · next hc =>
        obtain ⟨v, h1, h2⟩ := Option.map_eq_some_iff.mp hs
        cases h2
        subst hc
        exact ⟨_, _, _, _, hm, h1, rfl, rfl⟩
      · cases hs
    · cases hs
  · cases hs
theorem xsetf_inv (hs : xsetf e lv st h = some (.inl σ)) : ∃ v a r fs, h.2.2 a = .inr (e.2.2.1, fs) ∧ e.2.2.2.1 < fs.length ∧ xfit (xfty e.2.2.1 e.2.2.2.1) v = true ∧ st = v :: .ref a :: r ∧ σ = (e.2.1, lv, r, xput h a (.inr (e.2.2.1, fs.set e.2.2.2.1 v))) := by
  unfold xsetf at hs; split at hs
  · split at hs
    · next hm =>
      split at hs
      · next hc =>
        cases hs
        obtain ⟨rfl, h2, h3⟩ := hc
        exact ⟨_, _, _, _, hm, h2, h3, rfl, rfl⟩
      · cases hs
    · cases hs
  · cases hs
theorem xiald_inv (hs : xiald e lv st h = some (.inl σ)) : ∃ i a r k n f, h.2.2 a = .inl (k, n, .inl f) ∧ (k = 0 ∨ k = 8) ∧ xin i n = true ∧ st = .int i :: .ref a :: r ∧ σ = (e.2.1, lv, .int (f i.toNatClampNeg) :: r, h) := by
  unfold xiald at hs; split at hs
  · split at hs
    · next hm =>
      split at hs
      · next hc => cases hs; exact ⟨_, _, _, _, _, _, hm, hc.1, hc.2, rfl, rfl⟩
      · cases hs
    · cases hs
  · cases hs
theorem xbald_inv (hs : xbald e lv st h = some (.inl σ)) : ∃ i a r k n f, h.2.2 a = .inl (k, n, .inl f) ∧ (k = 2 ∨ k = 3) ∧ xin i n = true ∧ st = .int i :: .ref a :: r ∧ σ = (e.2.1, lv, .int (f i.toNatClampNeg) :: r, h) := by
  unfold xbald at hs; split at hs
  · split at hs
    · next hm =>
      split at hs
      · next hc => cases hs; exact ⟨_, _, _, _, _, _, hm, hc.1, hc.2, rfl, rfl⟩
      · cases hs
    · cases hs
  · cases hs
theorem xlald_inv (hs : xlald e lv st h = some (.inl σ)) : ∃ i a r n f, h.2.2 a = .inl (1, n, .inr (.inl f)) ∧ xin i n = true ∧ st = .int i :: .ref a :: r ∧ σ = (e.2.1, lv, .long (f i.toNatClampNeg) :: r, h) := by
  unfold xlald at hs; split at hs
  · split at hs
    · next hm =>
      split at hs
      · next hc => cases hs; obtain ⟨rfl, h2⟩ := hc; exact ⟨_, _, _, _, _, hm, h2, rfl, rfl⟩
      · cases hs
    · cases hs
  · cases hs
theorem xaald_inv (hs : xaald e lv st h = some (.inl σ)) : ∃ i a r k n f b, h.2.2 a = .inl (k, n, .inr (.inr (.inr (.inr f)))) ∧ (k = 4 ∨ k = 5 ∨ k = 6 ∨ k = 7) ∧ xin i n = true ∧ f i.toNatClampNeg = some b ∧ st = .int i :: .ref a :: r ∧ σ = (e.2.1, lv, .ref b :: r, h) := by
  unfold xaald at hs; split at hs
  · split at hs
    · next hm =>
      split at hs
      · next hc =>
        obtain ⟨b, h1, h2⟩ := Option.map_eq_some_iff.mp hs
        cases h2
        exact ⟨_, _, _, _, _, _, _, hm, hc.1, hc.2, h1, rfl, rfl⟩
      · cases hs
    · cases hs
  · cases hs
theorem xiast_inv (hs : xiast e lv st h = some (.inl σ)) : ∃ x i a r n f, h.2.2 a = .inl (0, n, .inl f) ∧ xin i n = true ∧ st = .int x :: .int i :: .ref a :: r ∧ σ = (e.2.1, lv, r, xput h a (.inl (0, n, .inl (upd f i.toNatClampNeg x)))) := by
  unfold xiast at hs; split at hs
  · split at hs
    · next hm =>
      split at hs
      · next hc => cases hs; obtain ⟨rfl, h2⟩ := hc; exact ⟨_, _, _, _, _, _, hm, h2, rfl, rfl⟩
      · cases hs
    · cases hs
  · cases hs
theorem xbast_inv (hs : xbast e lv st h = some (.inl σ)) : ∃ x i a r k n f, h.2.2 a = .inl (k, n, .inl f) ∧ xin i n = true ∧ st = .int x :: .int i :: .ref a :: r ∧ ((k = 2 ∧ σ = (e.2.1, lv, r, xput h a (.inl (2, n, .inl (upd f i.toNatClampNeg (x &&& 1)))))) ∨ (k = 3 ∧ σ = (e.2.1, lv, r, xput h a (.inl (3, n, .inl (upd f i.toNatClampNeg x.toInt8.toInt32)))))) := by
  unfold xbast at hs; split at hs
  · split at hs
    · next hm =>
      split at hs
      · next hc => cases hs; obtain ⟨rfl, h2⟩ := hc; exact ⟨_, _, _, _, _, _, _, hm, h2, rfl, Or.inl ⟨rfl, rfl⟩⟩
      · split at hs
        · next hc => cases hs; obtain ⟨rfl, h2⟩ := hc; exact ⟨_, _, _, _, _, _, _, hm, h2, rfl, Or.inr ⟨rfl, rfl⟩⟩
        · cases hs
    · cases hs
  · cases hs
theorem xlast_inv (hs : xlast e lv st h = some (.inl σ)) : ∃ x i a r n f, h.2.2 a = .inl (1, n, .inr (.inl f)) ∧ xin i n = true ∧ st = .long x :: .int i :: .ref a :: r ∧ σ = (e.2.1, lv, r, xput h a (.inl (1, n, .inr (.inl (vp_updL f i.toNatClampNeg x))))) := by
  unfold xlast at hs; split at hs
  · split at hs
    · next hm =>
      split at hs
      · next hc => cases hs; obtain ⟨rfl, h2⟩ := hc; exact ⟨_, _, _, _, _, _, hm, h2, rfl, rfl⟩
      · cases hs
    · cases hs
  · cases hs
theorem xaast_inv (hs : xaast e lv st h = some (.inl σ)) : ∃ v i a r k n f fs, h.2.2 a = .inl (k, n, .inr (.inr (.inr (.inr f)))) ∧ h.2.2 v = .inr (xokind k, fs) ∧ (k = 4 ∨ k = 5 ∨ k = 6) ∧ xin i n = true ∧ st = .ref v :: .int i :: .ref a :: r ∧ σ = (e.2.1, lv, r, xput h a (.inl (k, n, .inr (.inr (.inr (.inr (va_up f i.toNatClampNeg (some v)))))))) := by
  unfold xaast at hs; split at hs
  · split at hs
    · next hm hv =>
      split at hs
      · next hc => cases hs; obtain ⟨h1, rfl, h2⟩ := hc; exact ⟨_, _, _, _, _, _, _, _, hm, hv, h1, h2, rfl, rfl⟩
      · cases hs
    · cases hs
  · cases hs
theorem xalen_inv (hs : xalen e lv st h = some (.inl σ)) : ∃ a r k n c, h.2.2 a = .inl (k, n, c) ∧ st = .ref a :: r ∧ σ = (e.2.1, lv, .int (Int32.ofNat n) :: r, h) := by
  unfold xalen at hs; split at hs
  · split at hs
    · next hm => cases hs; exact ⟨_, _, _, _, _, hm, rfl, rfl⟩
    · cases hs
  · cases hs
theorem xnar_inv (hs : xnar e lv st h = some (.inl σ)) : ∃ n r, ¬ n < 0 ∧ n.toNatClampNeg ≤ 60000 ∧ st = .int n :: r ∧ ((e.2.2.1 = 1 ∧ σ = (e.2.1, lv, .ref h.1 :: r, xadd h n.toNatClampNeg (.inl (1, n.toNatClampNeg, .inr (.inl (fun _ => 0)))))) ∨ (e.2.2.1 ≠ 1 ∧ σ = (e.2.1, lv, .ref h.1 :: r, xadd h n.toNatClampNeg (.inl (e.2.2.1, n.toNatClampNeg, .inl (fun _ => 0)))))) := by
  unfold xnar at hs; split at hs
  · split at hs
    · cases hs
    · next hn =>
      have h1 := fun q => hn (Or.inl q)
      have h2 := Nat.not_lt.mp (fun q => hn (Or.inr q))
      split at hs
      · next hk => cases hs; exact ⟨_, _, h1, h2, rfl, Or.inl ⟨hk, by rw [hk]⟩⟩
      · next hk => cases hs; exact ⟨_, _, h1, h2, rfl, Or.inr ⟨hk, rfl⟩⟩
  · cases hs
theorem xanar_inv (hs : xanar e lv st h = some (.inl σ)) : ∃ n r, ¬ n < 0 ∧ n.toNatClampNeg ≤ 60000 ∧ st = .int n :: r ∧ σ = (e.2.1, lv, .ref h.1 :: r, xadd h n.toNatClampNeg (.inl (e.2.2.1, n.toNatClampNeg, .inr (.inr (.inr (.inr (fun _ => none))))))) := by
  unfold xanar at hs; split at hs
  · split at hs
    · cases hs
    · next hn => cases hs; exact ⟨_, _, fun q => hn (Or.inl q), Nat.not_lt.mp (fun q => hn (Or.inr q)), rfl, rfl⟩
  · cases hs
theorem xoinit_inv (hs : xoinit e lv st h = some (.inl σ)) : ∃ a r, (r.map fun v => v.category).sum ≤ 8 ∧ st = .ref a :: r ∧ σ = (e.2.1, lv, r, h) := by
  unfold xoinit at hs; split at hs
  · split at hs
    · next hc => cases hs; exact ⟨_, _, hc, rfl, rfl⟩
    · cases hs
  · cases hs
theorem xslen_inv (hs : xslen e lv st h = some (.inl σ)) : ∃ a r, (a = 1000001 ∨ a = 1000002) ∧ (r.map fun v => v.category).sum ≤ 8 ∧ st = .ref a :: r ∧ σ = (e.2.1, lv, .int (Int32.ofNat (xby (a - 1000001)).length) :: r, h) := by
  unfold xslen at hs; split at hs
  · split at hs
    · next hc => cases hs; exact ⟨_, _, hc.1, hc.2, rfl, rfl⟩
    · cases hs
  · cases hs
theorem xschr_inv (hs : xschr e lv st h = some (.inl σ)) : ∃ i a r, (a = 1000001 ∨ a = 1000002) ∧ (r.map fun v => v.category).sum ≤ 8 ∧ xin i (xby (a - 1000001)).length = true ∧ st = .int i :: .ref a :: r ∧ σ = (e.2.1, lv, .int ((xby (a - 1000001)).getD i.toNatClampNeg 0) :: r, h) := by
  unfold xschr at hs; split at hs
  · split at hs
    · next hc => cases hs; exact ⟨_, _, _, hc.1, hc.2.1, hc.2.2, rfl, rfl⟩
    · cases hs
  · cases hs
theorem xmm_inv {f : Int32 → Int32 → Int32} (hs : xmm e f lv st h = some (.inl σ)) : ∃ x y r, (r.map fun v => v.category).sum ≤ 8 ∧ st = .int y :: .int x :: r ∧ σ = (e.2.1, lv, .int (f x y) :: r, h) := by
  unfold xmm at hs; split at hs
  · split at hs
    · next hc => cases hs; exact ⟨_, _, _, hc, rfl, rfl⟩
    · cases hs
  · cases hs
theorem xcopy_inv (hs : xcopy e lv st h = some (.inl σ)) : ∃ n dp b sp a r, (¬ n < 0 ∧ ¬ dp < 0 ∧ ¬ sp < 0 ∧ (r.map fun v => v.category).sum ≤ 8) ∧ st = .int n :: .int dp :: .ref b :: .int sp :: .ref a :: r ∧
    ((∃ n0 n1 f g, h.2.2 a = .inl (0, n0, .inl f) ∧ h.2.2 b = .inl (0, n1, .inl g) ∧ sp.toNatClampNeg + n.toNatClampNeg ≤ n0 ∧ dp.toNatClampNeg + n.toNatClampNeg ≤ n1 ∧ σ = (e.2.1, lv, r, xput h b (.inl (0, n1, .inl (va_cpy f g sp.toNatClampNeg dp.toNatClampNeg n.toNatClampNeg))))) ∨
     (∃ n0 n1 f g, h.2.2 a = .inl (1, n0, .inr (.inl f)) ∧ h.2.2 b = .inl (1, n1, .inr (.inl g)) ∧ sp.toNatClampNeg + n.toNatClampNeg ≤ n0 ∧ dp.toNatClampNeg + n.toNatClampNeg ≤ n1 ∧ σ = (e.2.1, lv, r, xput h b (.inl (1, n1, .inr (.inl (va_cpy f g sp.toNatClampNeg dp.toNatClampNeg n.toNatClampNeg))))))) := by
  unfold xcopy at hs; split at hs
  · split at hs
    · cases hs
    · next hn =>
      have hb : _ ∧ _ ∧ _ ∧ _ := ⟨fun q => hn (Or.inl q), fun q => hn (Or.inr (Or.inl q)), fun q => hn (Or.inr (Or.inr (Or.inl q))), Nat.not_lt.mp (fun q => hn (Or.inr (Or.inr (Or.inr q))))⟩
      split at hs
      · next h1 h2 =>
        split at hs
        · next hc => cases hs; obtain ⟨rfl, rfl, h3, h4⟩ := hc; exact ⟨_, _, _, _, _, _, hb, rfl, Or.inl ⟨_, _, _, _, h1, h2, h3, h4, rfl⟩⟩
        · cases hs
      · next h1 h2 =>
        split at hs
        · next hc => cases hs; obtain ⟨rfl, rfl, h3, h4⟩ := hc; exact ⟨_, _, _, _, _, _, hb, rfl, Or.inr ⟨_, _, _, _, h1, h2, h3, h4, rfl⟩⟩
        · cases hs
      · cases hs
  · cases hs
end XINV
