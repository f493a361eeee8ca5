theorem ydn0 (L : Nat) (xs : Nat → Int32) : (ydn L xs (0, 0, [], [], [], [])).X = xh0 L xs := by
  show ((0, 0, _) : xH) = (0, 0, _)
  refine congrArg (fun z => ((0, 0, z) : xH)) (funext fun a => ?_)
  show tcell (if a = 1000000 then 108 else 999) (if a = 1000000 then L else 0) (fun k => if a = 1000000 then xs k else 0) (fun _ => 0) (fun _ => none) = if a = 1000000 then .inl (8, L, .inl xs) else .inr (999, [])
  by_cases h : a = 1000000
  · simp only [if_pos h]
    rfl
  · simp only [if_neg h]
    rfl
/-- THE PURE CLAIM: the small machine comes from the law's entry to 1, within the room -/
theorem law_pure (L : Nat) (xs : Nat → Int32) (hL : L ≤ 384) : ∃ (d : Nat) (h' : xH), d ≤ 1000 ∧ xEv d 330 (0, [(0, .ref 1000000)], [], xh0 L xs) (some (.int 1), h') ∧ h'.1 ≤ 600000 ∧ h'.2.1 ≤ 7300000 := by
  have k18 : xEk 9 330 (18, [(0, .ref 1000000), (1, .ref 0), (2, .ref 197), (3, .int 0)], [], (ydn L xs yD4).X) (postI (fun v g => v = 1 ∧ g.n ≤ 20000 ∧ g.sl ≤ 7300000)) :=
    R330_18 (d := 0) (lay4 hL) (law_loop hL inv4 (fun g _ h1 h2 => ⟨rfl, h1, h2⟩))
  have k : xEk 9 330 (0, [(0, .ref 1000000)], [], xh0 L xs) (postI (fun v g => v = 1 ∧ g.n ≤ 20000 ∧ g.sl ≤ 7300000)) := by
    rw [← ydn0]
    refine yheap_ok (s := (3, [(0, .ref 1000000)], [.ref 0], yD1)) rfl rfl ?_
    refine kst rfl rfl ?_
    refine kca (d := 8) rfl rfl ?_
    obtain ⟨r1, q1, q2⟩ := yE_ok L xs 5000 8 150 0 [(0, .ref 0)] [] yD1 none yD2 (yis_ok yrun150) (fun r => r = (none, (ydn L xs yD2).X)) rfl
    subst q2
    refine ⟨_, xPv_in (Nat.le_of_ble_eq_true rfl) q1, ?_⟩
    refine kst rfl rfl ?_
    refine yheap_ok (s := (11, [(1, .ref 0), (0, .ref 1000000)], [.ref 197], yD3)) rfl rfl ?_
    refine kst rfl rfl ?_
    refine kca (d := 8) rfl rfl ?_
    obtain ⟨r1, q1, q2⟩ := yE_ok L xs 500 8 200 0 [(0, .ref 197)] [] yD3 none yD4 (yis_ok yrun200) (fun r => r = (none, (ydn L xs yD4).X)) rfl
    subst q2
    refine ⟨_, xPv_in (Nat.le_of_ble_eq_true rfl) q1, ?_⟩
    iterate 3 (refine kst rfl rfl ?_)
    refine wjp (lv := [(0, .ref 1000000), (1, .ref 0), (2, .ref 197), (3, .int 0)]) ?_ k18
    exact ⟨rfl, rfl, rfl, rfl, trivial⟩
  obtain ⟨r, hr, v, h', rfl, -, rfl, h1, h2⟩ := k
  exact ⟨9, h'.X, by omega, hr, Nat.le_trans h1 (by omega), h2⟩
/-- YOUR PART: from the entry, for every script of at most 384 ints, the law comes to its end with true -/
theorem whole_start {p : Program} {e : Env} {s : State} {m : MethodId} {below : List Frame} {meth : Method} {c : Code} (l : Launch) {b L : Nat} {xs : Nat → Int32} (hL : L ≤ 384) (C0 : lw_At p s m meth c b L xs) : W p l e room_1 s m #[Value.ref b] below meth c s.heap [] 0 0 (lw_Z below #[Value.ref b] s) (entryFrame m ([Value.ref b] : List Value).toArray 4) := by
  obtain ⟨d, h', hd, hev, h1, h2⟩ := law_pure L xs hL
  exact xstart l C0 hd hev h1 h2
