theorem xlg_len (ad : Nat → Nat) : ∀ as : List Value, (lg_sl (as.map (xcv ad))).length = (lg_sl as).length
  | [] => rfl
  | a :: t => by
    have ih := xlg_len ad t
    unfold lg_sl at ih ⊢
    rw [List.map_cons, List.flatMap_cons, List.flatMap_cons, List.length_append, List.length_append, ih, xcv_cat]
    split <;> rfl
theorem xargs_map (ad : Nat → Nat) : ∀ (as : List Value) (i : Nat), lv_args i (as.map (xcv ad)) = (lv_args i as).map (xlc ad)
  | [], _ => rfl
  | a :: t, i => by
    rw [List.map_cons]
    unfold lv_args
    rw [List.map_cons, xcv_cat, xargs_map ad t]
    rfl
section XCL
variable (l : Launch) (D : va_G) (cy : Nat → ClassId) (ad : Nat → Nat) (sz0 L : Nat) (xs : Nat → Int32)
def xSE (d m : Nat) (σ : xS) (r : xR) : Prop :=
  (σ.2.2.2.1 ≤ r.2.1 ∧ σ.2.2.2.2.1 ≤ r.2.2.1) ∧ (r.2.1 ≤ 600000 → xok L xs σ.2.2.2 → xok L xs r.2 ∧
    ∀ q, xms[m]? = some q → ∀ (p : Program) (e : Env) (R : Room) (s : State) (mid : MethodId) (args : Array Value) (below : List Frame) (meth : Method) (c : Code) (H : Heap) (locs : List Loc) (cells slots : Nat) (Q : State → Prop) (ls : Array Slot),
      xctx D cy ad sz0 L xs q p s mid args meth c → d + 5 ≤ R.frames → 64 * (d + 5) ≤ R.locals → s.heap.size + cells = sz0 + σ.2.2.2.1 → cells + (r.2.1 - σ.2.2.2.1) ≤ R.cells → slots + (r.2.2.1 - σ.2.2.2.2.1) ≤ R.slots → lv_has ls q.2.2.2.1 (σ.2.1.map (xlc ad)) → va_P D vwCl (xws cy ad σ.2.2.2) H → va_S (xA0 sz0) s.heap H locs →
      (∀ (pc' : Nat) (ls' : Array Slot) (H' : Heap) (locs' : List Loc) (ins : Instr), decode q.2.2.1 pc' = .ok (ins, 1) → xretI ins q r.1 → va_P D vwCl (xws cy ad r.2) H' → va_S (xA0 sz0) s.heap H' locs' → W p l e R s mid args below meth c H' locs' (cells + (r.2.1 - σ.2.2.2.1)) (slots + (r.2.2.1 - σ.2.2.2.2.1)) Q (F0 mid pc' ls' (r.1.toList.map (xcv ad)))) →
      W p l e R s mid args below meth c H locs cells slots Q (F0 mid σ.1 ls (σ.2.2.1.map (xcv ad))))
def xSP (d m : Nat) (as : List Value) (h : xH) (r : xR) : Prop :=
  (h.1 ≤ r.2.1 ∧ h.2.1 ≤ r.2.2.1) ∧ (r.2.1 ≤ 600000 → xok L xs h → xok L xs r.2 ∧ (m < 330 → ∀ q, xms[m]? = some q → Met l q.2.1 (xww q) (xrm d (r.2.1 - h.1) (r.2.2.1 - h.2.1)) (xPc D cy ad sz0 L xs as h) (xQ D cy ad sz0 r) (r.2.1 - h.1) (r.2.2.1 - h.2.1) (xA0 sz0)))
variable {l D cy ad sz0 L xs}
/-- a step -/
theorem xcl_step (hA : xadr ad sz0) {d m pc : Nat} {lv : xL} {st : List Value} {h : xH} {e' : xE} {σ : xS} {r : xR} (hf : xfetch m pc = some e') (hs : xstep e' pc lv st h = some (.inl σ)) (ih : xSE l D cy ad sz0 L xs d m σ r) : xSE l D cy ad sz0 L xs d m (pc, lv, st, h) r := by
  obtain ⟨q0, hq0, cn, hcn, hok⟩ := xfetch_inv hf
  obtain ⟨m1, m2⟩ := x_mono hs
  obtain ⟨⟨i1, i2⟩, ih⟩ := ih
  refine ⟨⟨Nat.le_trans m1 i1, Nat.le_trans m2 i2⟩, fun hb o => ?_⟩
  have o' := x_pres o hok hs (Nat.le_trans i1 hb)
  obtain ⟨or, ih⟩ := ih hb o'
  refine ⟨or, fun q hq p e R s mid args below meth c H locs cells slots Q ls C hfr hlo hc hR1 hR2 hl hP hS hret => ?_⟩
  cases hq0.symm.trans hq
  have e1 : cells + (σ.2.2.2.1 - h.1) + (r.2.1 - σ.2.2.2.1) = cells + (r.2.1 - h.1) := by omega
  have e2 : slots + (σ.2.2.2.2.1 - h.2.1) + (r.2.2.1 - σ.2.2.2.2.1) = slots + (r.2.2.1 - h.2.1) := by omega
  have hc : s.heap.size + cells = sz0 + h.1 := hc
  have hR1 : cells + (r.2.1 - h.1) ≤ R.cells := hR1
  have hR2 : slots + (r.2.2.1 - h.2.1) ≤ R.slots := hR2
  refine x_step C hA hok hcn o hs (by omega) (by omega) hc (by omega) (by omega) (by omega) (by omega) (by omega) (by omega) hl hP hS (fun ls' H' locs' hl' hP' hS' => ?_)
  refine ih q0 hq0 p e R s mid args below meth c H' locs' _ _ Q ls' C hfr hlo (by omega) (by omega) (by omega) hl' hP' hS' ?_
  rw [e1, e2]
  exact hret
/-- the end of a method -/
theorem xcl_ret {d m pc : Nat} {lv : xL} {st : List Value} {h : xH} {e' : xE} {r : xR} (hf : xfetch m pc = some e') (hs : xstep e' pc lv st h = some (.inr r)) : xSE l D cy ad sz0 L xs d m (pc, lv, st, h) r := by
  obtain ⟨q0, hq0, cn, hcn, hok⟩ := xfetch_inv hf
  obtain ⟨v, h'⟩ := r
  obtain ⟨rfl, rfl, hd, hr⟩ := xret_inv hok hs
  refine ⟨⟨Nat.le_refl _, Nat.le_refl _⟩, fun hb o => ⟨o, fun q hq p e R s mid args below meth c H locs cells slots Q ls C hfr hlo hc hR1 hR2 hl hP hS hret => ?_⟩⟩
  cases hq0.symm.trans hq
  have := hret pc ls H locs e'.1 hd hr hP hS
  simp only [Nat.sub_self, Nat.add_zero] at this
  exact this
/-- a method out of its body -/
theorem xcl_in (hA : xadr ad sz0) {d m : Nat} {as : List Value} {h : xH} {r : xR} (hlen : (lg_sl as).length ≤ xmaxL m) (ih : xSE l D cy ad sz0 L xs d m (0, lv_args 0 as, [], h) r) : xSP l D cy ad sz0 L xs d m as h r := by
  obtain ⟨mm, ih⟩ := ih
  refine ⟨mm, fun hb o => ?_⟩
  obtain ⟨or, ih⟩ := ih hb o
  refine ⟨or, fun hm q hq => ?_⟩
  have hlm : m < xmh.length := by
    have : xmh.length = 331 := by decide +kernel
    omega
  obtain ⟨w1, w2, w3, w4, w5⟩ := xQ_all hm hq (List.getElem?_eq_getElem hlm)
  simp only [xsdQ, Bool.and_eq_true, decide_eq_true_eq] at w5
  obtain ⟨⟨⟨y1, y2⟩, y3⟩, y4⟩ := w5
  have hmx : xmaxL m = q.2.2.2.1 := by unfold xmaxL; rw [hq]
  refine Met.ofW (cc := q.2.2.1) (maxL := q.2.2.2.1) (ret := q.2.2.2.2.1) y1 rfl ?_
  intro p e s mid args below meth c s₁ B hml hv
  obtain ⟨rfl, hP, hst, hsz⟩ := hv
  have hts := atoms_spec (ws := xww q) B.pre
  have hlk := B.notSynchronized
  have C : xctx D cy ad sz0 L xs q p s mid ((as.map (xcv ad)).toArray) meth c := ⟨B.exec, B.bytes, B.returns, hml, fun w hw => hts w (List.mem_cons_of_mem _ hw), by rw [← y2]; exact findClass_of_methodNamed B.named, hlk, fun h9 => (name_of_methodNamed B.named B.method).1.trans h9, hst⟩
  have hsl := xlg_len ad as
  have hl := lv_entry (as.map (xcv ad)) (n := q.2.2.2.1) (by rw [hsl, ← hmx]; exact hlen)
  have hla := xargs_map ad as 0
  rw [hla] at hl
  rw [lg_entry_eq]
  have hS : va_S (xA0 sz0) s.heap s.heap [] := va_S.rf
  refine ih q hq p e _ s mid _ below meth c s.heap [] 0 0 _ _ C (Nat.le_refl _) (Nat.le_refl _) (by rw [hsz]; rfl) (by show 0 + _ ≤ _; rw [Nat.zero_add]; exact Nat.le_refl _) (by show 0 + _ ≤ _; rw [Nat.zero_add]; exact Nat.le_refl _) hl hP hS ?_
  intro pc' ls' H' locs' ins hd hr hP' hS'
  simp only [Nat.zero_add]
  obtain ⟨hx, hb2, hrt, -, -, -, -, -, -⟩ := C
  have hfin : ∀ t : State, t.heap = H' → va_F (xA0 sz0) s t := fun t ht => hS'.F ht
  obtain ⟨v, h'⟩ := r
  have hQ : ∀ t : State, t.heap = H' → s.WarmedH t.vm → xQ D cy ad sz0 (v, h') ((as.map (xcv ad)).toArray) s (.returned (v.map (xcv ad))) t := fun t ht _ => ⟨rfl, by rw [ht]; exact hP', hS'.F ht⟩
  cases v with
  | none =>
    obtain ⟨rfl, hr2⟩ := hr
    exact W.vret hx hb2 (hrt.trans hr2) hQ hS'.2.2 hd
  | some w =>
    cases w with
    | int x =>
      obtain ⟨rfl, hr2⟩ := hr
      rcases hr2 with hr2 | ⟨hr2, hz⟩
      · exact W.iret (v := x) hx hb2 (hrt.trans hr2) hQ hS'.2.2 hd
      · refine W.zret (v := x) hx hb2 (hrt.trans hr2) ?_ hQ hS'.2.2 hd
        rcases hz with rfl | rfl <;> rfl
    | long x =>
      obtain ⟨rfl, hr2⟩ := hr
      exact W.lret (v := x) hx hb2 (hrt.trans hr2) hQ hS'.2.2 hd
    | ref x =>
      obtain ⟨rfl, hr2⟩ := hr
      exact W.aret (v := .ref (ad x)) hx hb2 (hrt.trans hr2) (Or.inl ⟨_, rfl⟩) (Or.inr ⟨_, rfl⟩) hQ hS'.2.2 hd
    | _ => exact absurd hr (fun h9 => h9)
end XCL
