/-! METHODS AND CALLS: the small machine's rules hold of the machine's contracts. -/
theorem xlook2 {α : Type} {lv : List (Nat × α)} {i : Nat} {v : α} (h : lv.lookup i = some v) : (i, v) ∈ lv := by
  induction lv with
  | nil => cases h
  | cons a t ih =>
    obtain ⟨j, w⟩ := a
    rw [List.lookup_cons] at h
    split at h
    · next e =>
      cases h
      have : i = j := by simpa using e
      subst this
      exact List.mem_cons_self
    · exact List.mem_cons_of_mem _ (ih h)
theorem xfetch_inv {m pc : Nat} {e : xE} (h : xfetch m pc = some e) : ∃ q, xms[m]? = some q ∧ ∃ cn, q.1 = xown cn ∧ xokE cn q pc e = true := by
  unfold xfetch xrows at h
  cases hq : xms[m]? with
  | none => rw [hq] at h; cases h
  | some q =>
    rw [hq] at h
    obtain ⟨cn, hk⟩ := xk_all (List.mem_of_getElem? hq)
    unfold xokQ at hk
    simp only [Bool.and_eq_true, decide_eq_true_eq] at hk
    exact ⟨q, rfl, cn, hk.1, List.all_eq_true.mp hk.2 _ (xlook2 h)⟩
def xrm (d mc ms : Nat) : Room := { frames := d + 5, cells := mc, slots := ms, locals := 64 * (d + 5) }
def xQ (D : va_G) (cy : Nat → ClassId) (ad : Nat → Nat) (sz0 : Nat) (r : xR) : Array Value → State → Outcome → State → Prop := fun _ st oc t => oc = .returned (r.1.map (xcv ad)) ∧ va_P D vwCl (xws cy ad r.2) t.heap ∧ va_F (xA0 sz0) st t
def xPc (D : va_G) (cy : Nat → ClassId) (ad : Nat → Nat) (sz0 L : Nat) (xs : Nat → Int32) (as : List Value) (h : xH) : Array Value → State → Prop := va_Pc (as.map (xcv ad)) (fun U => va_P D vwCl (xws cy ad h) U.heap ∧ xsta D cy ad sz0 L xs U ∧ U.heap.size = sz0 + h.1)
def xww (q : xMI) : List Cond := Cond.code q.2.1 q.2.2.1 q.2.2.2.1 q.2.2.2.2.1 :: xTB
def xretI (ins : Instr) (q : xMI) (v : Option Value) : Prop := match v with
  | none => ins = .return_ ∧ q.2.2.2.2.1 = none
  | some (.int x) => ins = .ireturn ∧ (q.2.2.2.2.1 = some .int ∨ (q.2.2.2.2.1 = some .boolean ∧ (x = 0 ∨ x = 1)))
  | some (.long _) => ins = .lreturn ∧ q.2.2.2.2.1 = some .long
  | some (.ref _) => ins = .areturn ∧ q.2.2.2.2.1 = some (.object RX3)
  | _ => False
/-- what a step that leaves the method says -/
theorem xret_inv {cn : Nat} {q : xMI} {pc : Nat} {e' : xE} {lv : xL} {st : List Value} {h : xH} {r : xR} (hok : xokE cn q pc e' = true) (hs : xstep e' pc lv st h = some (.inr r)) : r.2 = h ∧ st = r.1.toList ∧ decode q.2.2.1 pc = .ok (e'.1, 1) ∧ xretI e'.1 q r.1 := by
  obtain ⟨ins, nx, a1, a2, z⟩ := e'
  cases ins
  case ireturn =>
    simp only [xokE, xokE2, Bool.and_eq_true, Bool.or_eq_true, decide_eq_true_eq] at hok
    unfold xstep at hs
    simp only at hs
    split at hs
    · split at hs
      · cases hs
      · next v hv =>
        cases hs
        refine ⟨rfl, rfl, hok.1.1, rfl, ?_⟩
        rcases hok.2 with h9 | h9
        · exact Or.inl h9.1
        · refine Or.inr ⟨h9.1, ?_⟩
          by_cases hz : v = 0 ∨ v = 1
          · exact hz
          · exact absurd ⟨h9.2, hz⟩ hv
    · cases hs
  case lreturn =>
    simp only [xokE, xokE2, Bool.and_eq_true, decide_eq_true_eq] at hok
    unfold xstep at hs
    simp only at hs
    split at hs
    · cases hs
      exact ⟨rfl, rfl, hok.1.1, rfl, hok.2⟩
    · cases hs
  case areturn =>
    simp only [xokE, xokE2, Bool.and_eq_true, decide_eq_true_eq] at hok
    unfold xstep at hs
    simp only at hs
    split at hs
    · cases hs
      exact ⟨rfl, rfl, hok.1.1, rfl, hok.2⟩
    · cases hs
  case return_ =>
    simp only [xokE, xokE2, Bool.and_eq_true, decide_eq_true_eq] at hok
    unfold xstep at hs
    simp only at hs
    split at hs
    · cases hs
      exact ⟨rfl, rfl, hok.1.1, rfl, hok.2⟩
    · cases hs
  all_goals
    exfalso
    clear hok
    first
      | (cases hs; done)
      | (unfold xstep at hs; simp only [xldI, xldL, xldA, xstI, xstA, xstL, xinc, xb2, xb2z, xl2, xl2z, xlsh, xlcmp, xi1, xl2i, xdup, xdup2, xpop, xif1, xif2, xswi, xldc, xget, xsetf, xiald, xbald, xlald, xaald, xiast, xbast, xlast, xaast, xalen, xnar, xanar, xmna, xnewo, xoinit, xslen, xschr, xcopy, xmm] at hs; (repeat' split at hs) <;> first | (cases hs; done) | (obtain ⟨_, _, h9⟩ := Option.map_eq_some_iff.mp hs; cases h9; done))
