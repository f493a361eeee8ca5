/-! MORE LOCALS DO NO HARM -/
def xnd (lv : xL) : Prop := ∀ i v w, (i, v) ∈ lv → (i, w) ∈ lv → v = w
def xsb (lv lv' : xL) : Prop := xnd lv ∧ ∀ i v, (i, v) ∈ lv → lv'.lookup i = some v
theorem lk_mem {lv : xL} {i : Nat} {v : Value} (h : lv.lookup i = some v) : (i, v) ∈ lv := by
  induction lv with
  | nil => simp at h
  | cons q r ih =>
    obtain ⟨j, w⟩ := q
    rw [List.lookup_cons] at h
    by_cases e : i == j
    · rw [e] at h
      simp only [cond_true] at h
      cases h
      have : i = j := by simpa using e
      subst this
      exact List.mem_cons_self
    · have e' : (i == j) = false := by simpa using e
      rw [e'] at h
      exact List.mem_cons_of_mem _ (ih h)
theorem lk_filter {lv : xL} {i : Nat} {v : Value} (p : Nat × Value → Bool) (h : lv.lookup i = some v) (hp : p (i, v) = true) : (lv.filter p).lookup i = some v := by
  induction lv with
  | nil => simp at h
  | cons q r ih =>
    obtain ⟨j, w⟩ := q
    rw [List.lookup_cons] at h
    by_cases e : i == j
    · rw [e] at h
      simp only [cond_true] at h
      cases h
      have : i = j := by simpa using e
      subst this
      rw [List.filter_cons, if_pos hp, List.lookup_cons]
      simp
    · have e' : (i == j) = false := by simpa using e
      rw [e'] at h
      rw [List.filter_cons]
      split
      · rw [List.lookup_cons, e']
        exact ih h
      · exact ih h
theorem xsb_look {lv lv' : xL} {i : Nat} {v : Value} (h : xsb lv lv') (hl : lv.lookup i = some v) : lv'.lookup i = some v := h.2 i v (lk_mem hl)
theorem xsb_st1 {lv lv' : xL} (i : Nat) (v : Value) (h : xsb lv lv') : xsb (xst1 lv i v) (xst1 lv' i v) := by
  unfold xst1
  refine ⟨?_, ?_⟩
  · intro j a b ha hb
    rcases List.mem_cons.mp ha with ha | ha <;> rcases List.mem_cons.mp hb with hb | hb
    · cases ha; cases hb; rfl
    · cases ha
      have := (List.mem_filter.mp hb).2
      simp at this
    · cases hb
      have := (List.mem_filter.mp ha).2
      simp at this
    · exact h.1 j a b (List.mem_filter.mp ha).1 (List.mem_filter.mp hb).1
  · intro j a ha
    rcases List.mem_cons.mp ha with ha | ha
    · cases ha
      rw [List.lookup_cons]
      simp
    · obtain ⟨h1, h2⟩ := List.mem_filter.mp ha
      have h3 := h.2 j a h1
      have hne : (j == i) = false := by
        simp only [Bool.and_eq_true, Bool.not_eq_true'] at h2
        exact h2.1
      rw [List.lookup_cons, hne]
      exact lk_filter _ h3 h2
theorem xsb_st2 {lv lv' : xL} (i : Nat) (v : Value) (h : xsb lv lv') : xsb (xst2 lv i v) (xst2 lv' i v) := by
  unfold xst2
  refine ⟨?_, ?_⟩
  · intro j a b ha hb
    rcases List.mem_cons.mp ha with ha | ha <;> rcases List.mem_cons.mp hb with hb | hb
    · cases ha; cases hb; rfl
    · cases ha
      have := (List.mem_filter.mp hb).2
      simp at this
    · cases hb
      have := (List.mem_filter.mp ha).2
      simp at this
    · exact h.1 j a b (List.mem_filter.mp ha).1 (List.mem_filter.mp hb).1
  · intro j a ha
    rcases List.mem_cons.mp ha with ha | ha
    · cases ha
      rw [List.lookup_cons]
      simp
    · obtain ⟨h1, h2⟩ := List.mem_filter.mp ha
      have h3 := h.2 j a h1
      have hne : (j == i) = false := by
        simp only [Bool.and_eq_true, Bool.not_eq_true'] at h2
        exact h2.1
      rw [List.lookup_cons, hne]
      exact lk_filter _ h3 h2
/-- a step does the same -/
def xsame (a b : Option (xS ⊕ xR)) : Prop := ∀ o, a = some o → ∃ o', b = some o' ∧ match o, o' with
  | .inl (pc, lv, st, h), .inl (pc', lv', st', h') => pc = pc' ∧ xsb lv lv' ∧ st = st' ∧ h = h'
  | .inr r, .inr r' => r = r'
  | _, _ => False
theorem xsame_k {lv lv' : xL} (hb : xsb lv lv') {pc : Nat} {st : List Value} {h : xH} : xsame (some (.inl (pc, lv, st, h))) (some (.inl (pc, lv', st, h))) := by
  intro o ho
  cases ho
  exact ⟨_, rfl, rfl, hb, rfl, rfl⟩
theorem xsame_n {b : Option (xS ⊕ xR)} : xsame none b := by
  intro o ho
  cases ho
theorem xsame_r {r : xR} : xsame (some (.inr r)) (some (.inr r)) := by
  intro o ho
  cases ho
  exact ⟨_, rfl, rfl⟩
theorem xsame_map {lv lv' : xL} (hb : xsb lv lv') {α : Type} (q : Option α) (f : α → Nat) (g : α → List Value) (h : xH) : xsame (q.map (fun t => .inl (f t, lv, g t, h))) (q.map (fun t => .inl (f t, lv', g t, h))) := by
  cases q with
  | none => exact xsame_n
  | some t => exact xsame_k hb
