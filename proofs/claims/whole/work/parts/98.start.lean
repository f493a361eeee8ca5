/-- THE PURE CLAIM: the small machine comes from the law's entry to 1, within the room -/
theorem law_pure (L : Nat) (xs : Nat → Int32) (hL : L ≤ 384) : ∃ (d : Nat) (h' : xH), d ≤ 1000 ∧ xEv d 330 (0, [(0, .ref 1000000)], [], xh0 L xs) (some (.int 1), h') ∧ h'.1 ≤ 600000 ∧ h'.2.1 ≤ 7302250 := by
  sorry
/-- YOUR PART: from the entry, for every script of at most 384 ints, the law comes to its end with true -/
theorem whole_start {p : Program} {e : Env} {s : State} {m : MethodId} {below : List Frame} {meth : Method} {c : Code} (l : Launch) {b L : Nat} {xs : Nat → Int32} (hL : L ≤ 384) (C0 : lw_At p s m meth c b L xs) : W p l e room_1 s m #[Value.ref b] below meth c s.heap [] 0 0 (lw_Z below #[Value.ref b] s) (entryFrame m ([Value.ref b] : List Value).toArray 4) := by
  obtain ⟨d, h', hd, hev, h1, h2⟩ := law_pure L xs hL
  exact xstart l C0 hd hev h1 h2
