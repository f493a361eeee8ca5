/-! COOKING: the open ones around a row -/
theorem dec_uniq : ∀ {L L' : List Nat}, L.Pairwise (fun a b => b < a) → L'.Pairwise (fun a b => b < a) → (∀ x, x ∈ L ↔ x ∈ L') → L = L'
  | [], [], _, _, _ => rfl
  | [], y :: r, _, _, h => absurd ((h y).mpr (by simp)) (by simp)
  | x :: r, [], _, _, h => absurd ((h x).mp (by simp)) (by simp)
  | x :: r, y :: r', p, p', h => by
    obtain ⟨p1, p2⟩ := List.pairwise_cons.mp p
    obtain ⟨q1, q2⟩ := List.pairwise_cons.mp p'
    have e : x = y := by
      have a := (h x).mp (by simp)
      have b := (h y).mpr (by simp)
      rcases List.mem_cons.mp a with u | u
      · exact u
      · rcases List.mem_cons.mp b with v | v
        · exact v.symm
        · have := q1 x u; have := p1 y v; omega
    subst e
    have nx : x ∉ r := fun u => by have := p1 x u; omega
    have ny : x ∉ r' := fun u => by have := q1 x u; omega
    rw [dec_uniq p2 q2 (fun z => ?_)]
    constructor
    · intro hz
      rcases List.mem_cons.mp ((h z).mp (by simp [hz])) with u | u
      · rw [u] at hz; exact absurd hz nx
      · exact u
    · intro hz
      rcases List.mem_cons.mp ((h z).mpr (by simp [hz])) with u | u
      · rw [u] at hz; exact absurd hz ny
      · exact u
section BLK
variable {M : Nat → Int32} {cn n0 k : Nat} {L : List Nat}
theorem inB_iff (b : inB M [] k L) (o : Nat) : o ∈ L ↔ cont M k o := by
  rw [b.2.2 o]
  constructor
  · rintro ⟨b1, b2, b3, b4 | b4⟩
    · exact absurd b4 (by simp)
    · exact ⟨b1, b2, b3, b4⟩
  · rintro ⟨b1, b2, b3, b4⟩; exact ⟨b1, b2, b3, Or.inr b4⟩
theorem inB_of (p : PI M n0 cn []) {k' : Nat} {L' : List Nat} (hk : k' ≤ qn M) (pw : L'.Pairwise (fun a b => b < a)) (h : ∀ o, o ∈ L' ↔ cont M k' o) : inB M [] k' L' := by
  obtain ⟨L2, i2⟩ := p.2.2.2.2.2.2.2.2.2.2 k' hk
  have : L' = L2 := dec_uniq pw i2.1 (fun o => by rw [h o, inB_iff i2 o])
  rw [this]; exact i2
/-- a plain row is passed -/
theorem inB_next (p : PI M n0 cn []) (b : inB M [] k L) (hk : k < qn M) (no : ¬ opn M k) (n21 : ¬ kK M k = 21) : inB M [] (k + 1) L := by
  refine inB_of p (by omega) b.1 (fun o => ?_)
  rw [inB_iff b o]
  constructor
  · rintro ⟨c1, c2, c3, c4⟩
    refine ⟨by omega, c2, c3, ?_⟩
    have : lk M o ≠ k := fun u => by
      have := (p.2.2.2.2.2.2.2.1 o c2 c3 (by simp)).2.2.2.1
      rw [u] at this; exact n21 this
    omega
  · rintro ⟨c1, c2, c3, c4⟩
    have : o ≠ k := fun u => no (u ▸ c3)
    exact ⟨by omega, c2, c3, by omega⟩
/-- an open one is entered -/
theorem inB_in (p : PI M n0 cn []) (b : inB M [] k L) (hk : k < qn M) (ok : opn M k) : inB M [] (k + 1) (k :: L) := by
  obtain ⟨b1, b2, b3, b4, b5⟩ := p.2.2.2.2.2.2.2.1 k hk ok (by simp)
  have mem := inB_iff b
  refine inB_of p (by omega) (List.pairwise_cons.mpr ⟨fun a ha => ((mem a).mp ha).1, b.1⟩) (fun o => ?_)
  rw [List.mem_cons, mem o]
  constructor
  · rintro (u | ⟨c1, c2, c3, c4⟩)
    · rw [u]; exact ⟨by omega, hk, ok, by omega⟩
    · refine ⟨by omega, c2, c3, ?_⟩
      have : lk M o ≠ k := fun u => by
        have := (p.2.2.2.2.2.2.2.1 o c2 c3 (by simp)).2.2.2.1
        rw [u] at this; exact opn_21 this ok
      omega
  · rintro ⟨c1, c2, c3, c4⟩
    by_cases u : o = k
    · exact Or.inl u
    · exact Or.inr ⟨by omega, c2, c3, by omega⟩
/-- an open one is passed over -/
theorem inB_skip (p : PI M n0 cn []) (b : inB M [] k L) (hk : k < qn M) (ok : opn M k) : inB M [] (lk M k + 1) L := by
  obtain ⟨b1, b2, b3, b4, b5⟩ := p.2.2.2.2.2.2.2.1 k hk ok (by simp)
  refine inB_of p (by omega) b.1 (fun o => ?_)
  rw [inB_iff b o]
  constructor
  · rintro ⟨c1, c2, c3, c4⟩
    have := p.2.2.2.2.2.2.2.2.2.1 o k c1 hk c3 ok (by simp)
    have ne : lk M o ≠ k := fun u => by
      have := (p.2.2.2.2.2.2.2.1 o c2 c3 (by simp)).2.2.2.1
      rw [u] at this; exact opn_21 this ok
    exact ⟨by omega, c2, c3, by omega⟩
  · exact cont_skip p hk ok
/-- at an END the innermost is its own -/
theorem inB_end (p : PI M n0 cn []) (b : inB M [] k L) (hk : k < qn M) (h21 : kK M k = 21) : ∃ L', L = lk M k :: L' ∧ inB M [] (k + 1) L' ∧ inB M [] (lk M k + 1) L := by
  obtain ⟨a1, a2, a3, a4, a5⟩ := p.2.2.2.2.2.2.2.2.1 k hk h21
  have mem := inB_iff b
  have inL : lk M k ∈ L := (mem _).mpr ⟨a1, by omega, a2, by omega⟩
  cases L with
  | nil => exact absurd inL (by simp)
  | cons x r =>
    obtain ⟨p1, p2⟩ := List.pairwise_cons.mp b.1
    have hx := (mem x).mp (by simp)
    have ex : x = lk M k := by
      rcases List.mem_cons.mp inL with u | u
      · exact u.symm
      · have lt := p1 _ u
        rcases p.2.2.2.2.2.2.2.2.2.1 (lk M k) x lt hx.2.1 a2 hx.2.2.1 (by simp) with v | v
        · rw [a5] at v; have := hx.1; omega
        · rw [a5] at v; have := hx.2.2.2; omega
    subst ex
    refine ⟨r, rfl, ?_, ?_⟩
    · refine inB_of p (by omega) p2 (fun o => ?_)
      constructor
      · intro ho
        obtain ⟨c1, c2, c3, c4⟩ := (mem o).mp (by simp [ho])
        have lt := p1 o ho
        have ne : lk M o ≠ k := fun u => by
          have := (p.2.2.2.2.2.2.2.1 o c2 c3 (by simp)).2.2.2.2
          rw [u, a4] at this
          have := (nI_eq (by have := p.n60; omega) (by have := p.n60; omega)).mp this
          omega
        exact ⟨by omega, c2, c3, by omega⟩
      · rintro ⟨c1, c2, c3, c4⟩
        have ne : o ≠ k := fun u => opn_21 h21 (u ▸ c3)
        rcases List.mem_cons.mp ((mem o).mpr ⟨by omega, c2, c3, by omega⟩) with u | u
        · rw [u, a5] at c4; omega
        · exact u
    · refine inB_of p (by omega) b.1 (fun o => ?_)
      constructor
      · intro ho
        rcases List.mem_cons.mp ho with u | u
        · rw [u]; exact ⟨by omega, by omega, a2, by omega⟩
        · obtain ⟨c1, c2, c3, c4⟩ := (mem o).mp ho
          have lt := p1 o u
          exact ⟨by omega, c2, c3, by omega⟩
      · intro c; exact (mem o).mpr (cont_end p hk h21 c)
/-- the class's sign of an END: as many STEPS ahead as ahead of the innermost's END -/
theorem at_end (p : PI M n0 cn []) {x : Nat} {r : List Nat} (b : inB M [] k (x :: r)) (hk : k ≤ qn M) : cc M cn k = cc M cn (lk M x) ↔ (k < qn M ∧ kK M k = 21) := by
  have hx := (inB_iff b x).mp (by simp)
  obtain ⟨b1, b2, b3, b4, b5⟩ := p.2.2.2.2.2.2.2.1 x hx.2.1 hx.2.2.1 (by simp)
  constructor
  · intro e
    have hle := hx.2.2.2
    have hkq : k < qn M := by omega
    refine ⟨hkq, ?_⟩
    apply Classical.byContradiction
    intro n21
    have ne : k ≠ lk M x := fun u => n21 (u ▸ b4)
    have := cc_lt p (k := k) (b := lk M x) (by omega) (by omega) n21
    omega
  · rintro ⟨h1, h2⟩
    obtain ⟨L', e, _, _⟩ := inB_end p b h1 h2
    have ex : x = lk M k := (List.cons.inj e).1
    rw [ex, (p.2.2.2.2.2.2.2.2.1 k h1 h2).2.2.2.2]
end BLK
