/-! THE SAME RULES FOR WHAT IS TO HOLD BEHIND: xEk, xPk: it comes to something of which C holds -/
def xEk (d m : Nat) (σ : xS) (C : xR → Prop) : Prop := ∃ r, xEv d m σ r ∧ C r
def xPk (d m : Nat) (as : List Value) (h : xH) (C : xR → Prop) : Prop := ∃ r, xPv d m as h r ∧ C r
theorem xPk.mono {d m : Nat} {as : List Value} {h : xH} {C C' : xR → Prop} (k : xPk d m as h C) (hc : ∀ r, C r → C' r) : xPk d m as h C' := by
  obtain ⟨r, h1, h2⟩ := k
  exact ⟨r, h1, hc r h2⟩
theorem xPk_of {d m : Nat} {as : List Value} {h : xH} {r : xR} {C : xR → Prop} (k : xPv d m as h r) (hc : C r) : xPk d m as h C := ⟨r, k, hc⟩
theorem xPk.to {d m : Nat} {as : List Value} {h : xH} {r : xR} (k : xPk d m as h (fun q => q = r)) : xPv d m as h r := by
  obtain ⟨q, h1, rfl⟩ := k
  exact h1
section TKV
variable {d m pc nx n sl : Nat} {lv : xL} {st : List Value} {C : xR → Prop} {h : xH} {K N : tK} {I : tI} {J : tJ} {P : tP} {z : Int}
theorem kst {e : xE} {σ : xS} (hf : xfetch m pc = some e) (hs : xstep e pc lv st h = some (.inl σ)) (kk : xEk d m σ C) : xEk d m (pc, lv, st, h) C := by
  obtain ⟨r, h1, h2⟩ := kk
  exact ⟨r, xEv_step hf hs h1, h2⟩
theorem kre {e : xE} {r : xR} (hf : xfetch m pc = some e) (hs : xstep e pc lv st h = some (.inr r)) (hc : C r) : xEk d m (pc, lv, st, h) C := ⟨r, xEv_ret hf hs, hc⟩
theorem kin {as : List Value} (hl : (lg_sl as).length ≤ xmaxL m) (kk : xEk d m (0, lv_args 0 as, [], h) C) : xPk d m as h C := by
  obtain ⟨r, h1, h2⟩ := kk
  exact ⟨r, xPv_in hl h1, h2⟩
theorem kca {e : xE} {m' : Nat} {as rest : List Value} (hf : xfetch m pc = some e) (hc : xcall e st h = some (m', as, rest)) (kk : xPk d m' as h (fun q => xEk (d + 1) m (e.2.1, lv, q.1.toList ++ rest, q.2) C)) : xEk (d + 1) m (pc, lv, st, h) C := by
  obtain ⟨⟨v, h'⟩, h1, r, h3, h4⟩ := kk
  exact ⟨r, xEv_call hf hc h1 h3, h4⟩
theorem kcaV {i m' np ci a : Nat} {rest : List Value} (hf : xfetch m pc = some (.invokevirtual i, nx, m', np, z)) (hK : K a = ci) (hc : (decide (ci < 13) && decide (m' < 9000) && decide (np ≤ st.length) && decide ((xms[m']?).map (fun q => q.1) = (vwCl[ci]?).map (fun q => q.1)) && decide ((rest.map fun v => v.category).sum ≤ 8)) = true) (hd : st.drop np = .ref a :: rest) (kk : xPk d m' (.ref a :: (st.take np).reverse) (n, sl, tc K N I J P) (fun q => xEk (d + 1) m (nx, lv, q.1.toList ++ rest, q.2) C)) : xEk (d + 1) m (pc, lv, st, n, sl, tc K N I J P) C := by
  obtain ⟨⟨v, h'⟩, h1, r, h3, h4⟩ := kk
  exact ⟨r, tcallV hf hK hc hd h1 h3, h4⟩
theorem kgetI {i : Nat} {a ci k : Nat} (hf : xfetch m pc = some (.getfield i, nx, ci, k, z)) (hK : K a = ci) (hc : (decide (ci < 13) && decide (k < xnf ci) && tisI (xfty ci k)) = true) (kk : xEk d m (nx, lv, .int (I a k) :: st, n, sl, tc K N I J P) C) : xEk d m (pc, lv, .ref a :: st, n, sl, tc K N I J P) C := by
  obtain ⟨r, q1, q2⟩ := kk
  exact ⟨r, tgetI hf hK hc q1, q2⟩
theorem kgetJ {i : Nat} {a ci k : Nat} (hf : xfetch m pc = some (.getfield i, nx, ci, k, z)) (hK : K a = ci) (hc : (decide (ci < 13) && decide (k < xnf ci) && decide (xfty ci k = .long)) = true) (kk : xEk d m (nx, lv, .long (J a k) :: st, n, sl, tc K N I J P) C) : xEk d m (pc, lv, .ref a :: st, n, sl, tc K N I J P) C := by
  obtain ⟨r, q1, q2⟩ := kk
  exact ⟨r, tgetJ hf hK hc q1, q2⟩
theorem kgetP {i : Nat} {a ci k b : Nat} (hf : xfetch m pc = some (.getfield i, nx, ci, k, z)) (hK : K a = ci) (hc : (decide (ci < 13) && decide (k < xnf ci) && tisP (xfty ci k)) = true) (hp : P a k = some b) (kk : xEk d m (nx, lv, .ref b :: st, n, sl, tc K N I J P) C) : xEk d m (pc, lv, .ref a :: st, n, sl, tc K N I J P) C := by
  obtain ⟨r, q1, q2⟩ := kk
  exact ⟨r, tgetP hf hK hc hp q1, q2⟩
theorem kputI {i : Nat} {a ci k : Nat} {x : Int32} (hf : xfetch m pc = some (.putfield i, nx, ci, k, z)) (hK : K a = ci) (hc : (decide (ci < 13) && decide (k < xnf ci) && decide (xfty ci k = .int)) = true) (kk : xEk d m (nx, lv, st, n, sl, tc K N (up2 I a k x) J P) C) : xEk d m (pc, lv, .int x :: .ref a :: st, n, sl, tc K N I J P) C := by
  obtain ⟨r, q1, q2⟩ := kk
  exact ⟨r, tputI hf hK hc q1, q2⟩
theorem kputZ {i : Nat} {a ci k : Nat} {x : Int32} (hf : xfetch m pc = some (.putfield i, nx, ci, k, z)) (hK : K a = ci) (hc : (decide (ci < 13) && decide (k < xnf ci) && decide (xfty ci k = .boolean)) = true) (hx : x = 0 ∨ x = 1) (kk : xEk d m (nx, lv, st, n, sl, tc K N (up2 I a k x) J P) C) : xEk d m (pc, lv, .int x :: .ref a :: st, n, sl, tc K N I J P) C := by
  obtain ⟨r, q1, q2⟩ := kk
  exact ⟨r, tputZ hf hK hc hx q1, q2⟩
theorem kputJ {i : Nat} {a ci k : Nat} {x : Int64} (hf : xfetch m pc = some (.putfield i, nx, ci, k, z)) (hK : K a = ci) (hc : (decide (ci < 13) && decide (k < xnf ci) && decide (xfty ci k = .long)) = true) (kk : xEk d m (nx, lv, st, n, sl, tc K N I (up2 J a k x) P) C) : xEk d m (pc, lv, .long x :: .ref a :: st, n, sl, tc K N I J P) C := by
  obtain ⟨r, q1, q2⟩ := kk
  exact ⟨r, tputJ hf hK hc q1, q2⟩
theorem kputP {i : Nat} {a ci k b : Nat} (hf : xfetch m pc = some (.putfield i, nx, ci, k, z)) (hK : K a = ci) (hc : (decide (ci < 13) && decide (k < xnf ci) && tisP (xfty ci k)) = true) (kk : xEk d m (nx, lv, st, n, sl, tc K N I J (up2 P a k (some b))) C) : xEk d m (pc, lv, .ref b :: .ref a :: st, n, sl, tc K N I J P) C := by
  obtain ⟨r, q1, q2⟩ := kk
  exact ⟨r, tputP hf hK hc q1, q2⟩
theorem kald {i : Nat} {a k j : Nat} {x : Int32} (hf : xfetch m pc = some (.iaload, nx, i, k, z)) (hK : K a = 100 ∨ K a = 108) (hx : x = nI j) (hj : j < N a) (hN : N a ≤ 60000) (kk : xEk d m (nx, lv, .int (I a j) :: st, n, sl, tc K N I J P) C) : xEk d m (pc, lv, .int x :: .ref a :: st, n, sl, tc K N I J P) C := by
  obtain ⟨r, q1, q2⟩ := kk
  exact ⟨r, tald hf hK hx hj hN q1, q2⟩
theorem kbald {i : Nat} {a k j : Nat} {x : Int32} (hf : xfetch m pc = some (.baload, nx, i, k, z)) (hK : K a = 102 ∨ K a = 103) (hx : x = nI j) (hj : j < N a) (hN : N a ≤ 60000) (kk : xEk d m (nx, lv, .int (I a j) :: st, n, sl, tc K N I J P) C) : xEk d m (pc, lv, .int x :: .ref a :: st, n, sl, tc K N I J P) C := by
  obtain ⟨r, q1, q2⟩ := kk
  exact ⟨r, tbald hf hK hx hj hN q1, q2⟩
theorem klald {i : Nat} {a k j : Nat} {x : Int32} (hf : xfetch m pc = some (.laload, nx, i, k, z)) (hK : K a = 101) (hx : x = nI j) (hj : j < N a) (hN : N a ≤ 60000) (kk : xEk d m (nx, lv, .long (J a j) :: st, n, sl, tc K N I J P) C) : xEk d m (pc, lv, .int x :: .ref a :: st, n, sl, tc K N I J P) C := by
  obtain ⟨r, q1, q2⟩ := kk
  exact ⟨r, tlald hf hK hx hj hN q1, q2⟩
theorem kaald {i : Nat} {a k j b kd : Nat} {x : Int32} (hf : xfetch m pc = some (.aaload, nx, i, k, z)) (hK : K a = 100 + kd) (hkd : kd = 4 ∨ kd = 5 ∨ kd = 6 ∨ kd = 7) (hx : x = nI j) (hj : j < N a) (hN : N a ≤ 60000) (hp : P a j = some b) (kk : xEk d m (nx, lv, .ref b :: st, n, sl, tc K N I J P) C) : xEk d m (pc, lv, .int x :: .ref a :: st, n, sl, tc K N I J P) C := by
  obtain ⟨r, q1, q2⟩ := kk
  exact ⟨r, taald hf hK hkd hx hj hN hp q1, q2⟩
theorem kast {i : Nat} {a k j : Nat} {x y : Int32} (hf : xfetch m pc = some (.iastore, nx, i, k, z)) (hK : K a = 100) (hx : x = nI j) (hj : j < N a) (hN : N a ≤ 60000) (kk : xEk d m (nx, lv, st, n, sl, tc K N (up2 I a j y) J P) C) : xEk d m (pc, lv, .int y :: .int x :: .ref a :: st, n, sl, tc K N I J P) C := by
  obtain ⟨r, q1, q2⟩ := kk
  exact ⟨r, tast hf hK hx hj hN q1, q2⟩
theorem kbast {i : Nat} {a k j : Nat} {x y : Int32} (hf : xfetch m pc = some (.bastore, nx, i, k, z)) (hK : K a = 103) (hx : x = nI j) (hj : j < N a) (hN : N a ≤ 60000) (kk : xEk d m (nx, lv, st, n, sl, tc K N (up2 I a j y.toInt8.toInt32) J P) C) : xEk d m (pc, lv, .int y :: .int x :: .ref a :: st, n, sl, tc K N I J P) C := by
  obtain ⟨r, q1, q2⟩ := kk
  exact ⟨r, tbast hf hK hx hj hN q1, q2⟩
theorem kzast {i : Nat} {a k j : Nat} {x y : Int32} (hf : xfetch m pc = some (.bastore, nx, i, k, z)) (hK : K a = 102) (hx : x = nI j) (hj : j < N a) (hN : N a ≤ 60000) (kk : xEk d m (nx, lv, st, n, sl, tc K N (up2 I a j (y &&& 1)) J P) C) : xEk d m (pc, lv, .int y :: .int x :: .ref a :: st, n, sl, tc K N I J P) C := by
  obtain ⟨r, q1, q2⟩ := kk
  exact ⟨r, tzast hf hK hx hj hN q1, q2⟩
theorem klast {i : Nat} {a k j : Nat} {x : Int32} {y : Int64} (hf : xfetch m pc = some (.lastore, nx, i, k, z)) (hK : K a = 101) (hx : x = nI j) (hj : j < N a) (hN : N a ≤ 60000) (kk : xEk d m (nx, lv, st, n, sl, tc K N I (up2 J a j y) P) C) : xEk d m (pc, lv, .long y :: .int x :: .ref a :: st, n, sl, tc K N I J P) C := by
  obtain ⟨r, q1, q2⟩ := kk
  exact ⟨r, tlast hf hK hx hj hN q1, q2⟩
theorem kaast {i : Nat} {a k j b kd : Nat} {x : Int32} (hf : xfetch m pc = some (.aastore, nx, i, k, z)) (hK : K a = 100 + kd) (hkd : kd = 4 ∨ kd = 5 ∨ kd = 6) (hb : K b = xokind kd) (hx : x = nI j) (hj : j < N a) (hN : N a ≤ 60000) (kk : xEk d m (nx, lv, st, n, sl, tc K N I J (up2 P a j (some b))) C) : xEk d m (pc, lv, .ref b :: .int x :: .ref a :: st, n, sl, tc K N I J P) C := by
  obtain ⟨r, q1, q2⟩ := kk
  exact ⟨r, taast hf hK hkd hb hx hj hN q1, q2⟩
theorem kalen {i : Nat} {a k kd : Nat} (hf : xfetch m pc = some (.arraylength, nx, i, k, z)) (hK : K a = 100 + kd) (hk : kd < 9) (kk : xEk d m (nx, lv, .int (nI (N a)) :: st, n, sl, tc K N I J P) C) : xEk d m (pc, lv, .ref a :: st, n, sl, tc K N I J P) C := by
  obtain ⟨r, q1, q2⟩ := kk
  exact ⟨r, talen hf hK hk q1, q2⟩
theorem kif_eq {x : Int32} {off z : Int} {t a : Nat} (hf : xfetch m pc = some (.ifCond .eq off, nx, t, a, z)) (kt : x = 0 → xEk d m (t, lv, st, h) C) (kf : ¬ x = 0 → xEk d m (nx, lv, st, h) C) : xEk d m (pc, lv, .int x :: st, h) C := by
  by_cases c9 : x = 0
  · obtain ⟨r, h1, h2⟩ := kt c9
    exact ⟨r, tif_eq hf (fun _ => h1) (fun c8 => absurd c9 c8), h2⟩
  · obtain ⟨r, h1, h2⟩ := kf c9
    exact ⟨r, tif_eq hf (fun c8 => absurd c8 c9) (fun _ => h1), h2⟩
theorem kcm_eq {x y : Int32} {off z : Int} {t a : Nat} (hf : xfetch m pc = some (.if_icmp .eq off, nx, t, a, z)) (kt : x = y → xEk d m (t, lv, st, h) C) (kf : ¬ x = y → xEk d m (nx, lv, st, h) C) : xEk d m (pc, lv, .int y :: .int x :: st, h) C := by
  by_cases c9 : x = y
  · obtain ⟨r, h1, h2⟩ := kt c9
    exact ⟨r, tcm_eq hf (fun _ => h1) (fun c8 => absurd c9 c8), h2⟩
  · obtain ⟨r, h1, h2⟩ := kf c9
    exact ⟨r, tcm_eq hf (fun c8 => absurd c8 c9) (fun _ => h1), h2⟩
theorem kif_ne {x : Int32} {off z : Int} {t a : Nat} (hf : xfetch m pc = some (.ifCond .ne off, nx, t, a, z)) (kt : ¬ x = 0 → xEk d m (t, lv, st, h) C) (kf : x = 0 → xEk d m (nx, lv, st, h) C) : xEk d m (pc, lv, .int x :: st, h) C := by
  by_cases c9 : ¬ x = 0
  · obtain ⟨r, h1, h2⟩ := kt c9
    exact ⟨r, tif_ne hf (fun _ => h1) (fun c8 => absurd c8 c9), h2⟩
  · obtain ⟨r, h1, h2⟩ := kf (Decidable.byContradiction c9)
    exact ⟨r, tif_ne hf (fun c8 => absurd c8 c9) (fun _ => h1), h2⟩
theorem kcm_ne {x y : Int32} {off z : Int} {t a : Nat} (hf : xfetch m pc = some (.if_icmp .ne off, nx, t, a, z)) (kt : ¬ x = y → xEk d m (t, lv, st, h) C) (kf : x = y → xEk d m (nx, lv, st, h) C) : xEk d m (pc, lv, .int y :: .int x :: st, h) C := by
  by_cases c9 : ¬ x = y
  · obtain ⟨r, h1, h2⟩ := kt c9
    exact ⟨r, tcm_ne hf (fun _ => h1) (fun c8 => absurd c8 c9), h2⟩
  · obtain ⟨r, h1, h2⟩ := kf (Decidable.byContradiction c9)
    exact ⟨r, tcm_ne hf (fun c8 => absurd c8 c9) (fun _ => h1), h2⟩
theorem kif_lt {x : Int32} {off z : Int} {t a : Nat} (hf : xfetch m pc = some (.ifCond .lt off, nx, t, a, z)) (kt : x < 0 → xEk d m (t, lv, st, h) C) (kf : ¬ x < 0 → xEk d m (nx, lv, st, h) C) : xEk d m (pc, lv, .int x :: st, h) C := by
  by_cases c9 : x < 0
  · obtain ⟨r, h1, h2⟩ := kt c9
    exact ⟨r, tif_lt hf (fun _ => h1) (fun c8 => absurd c9 c8), h2⟩
  · obtain ⟨r, h1, h2⟩ := kf c9
    exact ⟨r, tif_lt hf (fun c8 => absurd c8 c9) (fun _ => h1), h2⟩
theorem kcm_lt {x y : Int32} {off z : Int} {t a : Nat} (hf : xfetch m pc = some (.if_icmp .lt off, nx, t, a, z)) (kt : x < y → xEk d m (t, lv, st, h) C) (kf : ¬ x < y → xEk d m (nx, lv, st, h) C) : xEk d m (pc, lv, .int y :: .int x :: st, h) C := by
  by_cases c9 : x < y
  · obtain ⟨r, h1, h2⟩ := kt c9
    exact ⟨r, tcm_lt hf (fun _ => h1) (fun c8 => absurd c9 c8), h2⟩
  · obtain ⟨r, h1, h2⟩ := kf c9
    exact ⟨r, tcm_lt hf (fun c8 => absurd c8 c9) (fun _ => h1), h2⟩
theorem kif_ge {x : Int32} {off z : Int} {t a : Nat} (hf : xfetch m pc = some (.ifCond .ge off, nx, t, a, z)) (kt : 0 ≤ x → xEk d m (t, lv, st, h) C) (kf : ¬ 0 ≤ x → xEk d m (nx, lv, st, h) C) : xEk d m (pc, lv, .int x :: st, h) C := by
  by_cases c9 : 0 ≤ x
  · obtain ⟨r, h1, h2⟩ := kt c9
    exact ⟨r, tif_ge hf (fun _ => h1) (fun c8 => absurd c9 c8), h2⟩
  · obtain ⟨r, h1, h2⟩ := kf c9
    exact ⟨r, tif_ge hf (fun c8 => absurd c8 c9) (fun _ => h1), h2⟩
theorem kcm_ge {x y : Int32} {off z : Int} {t a : Nat} (hf : xfetch m pc = some (.if_icmp .ge off, nx, t, a, z)) (kt : y ≤ x → xEk d m (t, lv, st, h) C) (kf : ¬ y ≤ x → xEk d m (nx, lv, st, h) C) : xEk d m (pc, lv, .int y :: .int x :: st, h) C := by
  by_cases c9 : y ≤ x
  · obtain ⟨r, h1, h2⟩ := kt c9
    exact ⟨r, tcm_ge hf (fun _ => h1) (fun c8 => absurd c9 c8), h2⟩
  · obtain ⟨r, h1, h2⟩ := kf c9
    exact ⟨r, tcm_ge hf (fun c8 => absurd c8 c9) (fun _ => h1), h2⟩
theorem kif_gt {x : Int32} {off z : Int} {t a : Nat} (hf : xfetch m pc = some (.ifCond .gt off, nx, t, a, z)) (kt : 0 < x → xEk d m (t, lv, st, h) C) (kf : ¬ 0 < x → xEk d m (nx, lv, st, h) C) : xEk d m (pc, lv, .int x :: st, h) C := by
  by_cases c9 : 0 < x
  · obtain ⟨r, h1, h2⟩ := kt c9
    exact ⟨r, tif_gt hf (fun _ => h1) (fun c8 => absurd c9 c8), h2⟩
  · obtain ⟨r, h1, h2⟩ := kf c9
    exact ⟨r, tif_gt hf (fun c8 => absurd c8 c9) (fun _ => h1), h2⟩
theorem kcm_gt {x y : Int32} {off z : Int} {t a : Nat} (hf : xfetch m pc = some (.if_icmp .gt off, nx, t, a, z)) (kt : y < x → xEk d m (t, lv, st, h) C) (kf : ¬ y < x → xEk d m (nx, lv, st, h) C) : xEk d m (pc, lv, .int y :: .int x :: st, h) C := by
  by_cases c9 : y < x
  · obtain ⟨r, h1, h2⟩ := kt c9
    exact ⟨r, tcm_gt hf (fun _ => h1) (fun c8 => absurd c9 c8), h2⟩
  · obtain ⟨r, h1, h2⟩ := kf c9
    exact ⟨r, tcm_gt hf (fun c8 => absurd c8 c9) (fun _ => h1), h2⟩
theorem kif_le {x : Int32} {off z : Int} {t a : Nat} (hf : xfetch m pc = some (.ifCond .le off, nx, t, a, z)) (kt : x ≤ 0 → xEk d m (t, lv, st, h) C) (kf : ¬ x ≤ 0 → xEk d m (nx, lv, st, h) C) : xEk d m (pc, lv, .int x :: st, h) C := by
  by_cases c9 : x ≤ 0
  · obtain ⟨r, h1, h2⟩ := kt c9
    exact ⟨r, tif_le hf (fun _ => h1) (fun c8 => absurd c9 c8), h2⟩
  · obtain ⟨r, h1, h2⟩ := kf c9
    exact ⟨r, tif_le hf (fun c8 => absurd c8 c9) (fun _ => h1), h2⟩
theorem kcm_le {x y : Int32} {off z : Int} {t a : Nat} (hf : xfetch m pc = some (.if_icmp .le off, nx, t, a, z)) (kt : x ≤ y → xEk d m (t, lv, st, h) C) (kf : ¬ x ≤ y → xEk d m (nx, lv, st, h) C) : xEk d m (pc, lv, .int y :: .int x :: st, h) C := by
  by_cases c9 : x ≤ y
  · obtain ⟨r, h1, h2⟩ := kt c9
    exact ⟨r, tcm_le hf (fun _ => h1) (fun c8 => absurd c9 c8), h2⟩
  · obtain ⟨r, h1, h2⟩ := kf c9
    exact ⟨r, tcm_le hf (fun c8 => absurd c8 c9) (fun _ => h1), h2⟩
theorem knewO {i ci k n' sl' : Nat} (hf : xfetch m pc = some (.new i, nx, ci, k, z)) (hc : ci < 13) (hn : n + 1 = n') (hsl : sl + xnf ci = sl') (kk : xEk d m (nx, lv, .ref n :: st, n', sl', tc (upr K n ci) (upr N n 0) (upr I n (fun _ => 0)) (upr J n (fun _ => 0)) (upr P n (fun _ => none))) C) : xEk d m (pc, lv, st, n, sl, tc K N I J P) C := by
  obtain ⟨r, q1, q2⟩ := kk
  exact ⟨r, tnewO hf hc hn hsl q1, q2⟩
theorem knewA {at' : ArrayType} {kd k j n' sl' : Nat} {x : Int32} (hf : xfetch m pc = some (.newarray at', nx, kd, k, z)) (hk : kd = 0 ∨ kd = 2 ∨ kd = 3) (hx : x = nI j) (hj : j ≤ 60000) (hn : n + 1 = n') (hsl : sl + j = sl') (kk : xEk d m (nx, lv, .ref n :: st, n', sl', tc (upr K n (100 + kd)) (upr N n j) (upr I n (fun _ => 0)) (upr J n (fun _ => 0)) (upr P n (fun _ => none))) C) : xEk d m (pc, lv, .int x :: st, n, sl, tc K N I J P) C := by
  obtain ⟨r, q1, q2⟩ := kk
  exact ⟨r, tnewA hf hk hx hj hn hsl q1, q2⟩
theorem knewL {at' : ArrayType} {k j n' sl' : Nat} {x : Int32} (hf : xfetch m pc = some (.newarray at', nx, 1, k, z)) (hx : x = nI j) (hj : j ≤ 60000) (hn : n + 1 = n') (hsl : sl + j = sl') (kk : xEk d m (nx, lv, .ref n :: st, n', sl', tc (upr K n 101) (upr N n j) (upr I n (fun _ => 0)) (upr J n (fun _ => 0)) (upr P n (fun _ => none))) C) : xEk d m (pc, lv, .int x :: st, n, sl, tc K N I J P) C := by
  obtain ⟨r, q1, q2⟩ := kk
  exact ⟨r, tnewL hf hx hj hn hsl q1, q2⟩
theorem knewR {i kd k j n' sl' : Nat} {x : Int32} (hf : xfetch m pc = some (.anewarray i, nx, kd, k, z)) (hk : kd = 4 ∨ kd = 5 ∨ kd = 6) (hx : x = nI j) (hj : j ≤ 60000) (hn : n + 1 = n') (hsl : sl + j = sl') (kk : xEk d m (nx, lv, .ref n :: st, n', sl', tc (upr K n (100 + kd)) (upr N n j) (upr I n (fun _ => 0)) (upr J n (fun _ => 0)) (upr P n (fun _ => none))) C) : xEk d m (pc, lv, .int x :: st, n, sl, tc K N I J P) C := by
  obtain ⟨r, q1, q2⟩ := kk
  exact ⟨r, tnewR hf hk hx hj hn hsl q1, q2⟩
theorem kmna {i n2 k k2 n' sl' : Nat} (hf : xfetch m pc = some (.multianewarray i n2, nx, k, k2, z)) (hn : n + 5 = n') (hsl : sl + 244 = sl') (kk : xEk d m (nx, lv, .ref n :: st, n', sl', tc (fun a => if a = n then 107 else if n < a ∧ a < n + 5 then 101 else K a) (fun a => if a = n then 4 else if n < a ∧ a < n + 5 then 60 else N a) I (fun a => if n < a ∧ a < n + 5 then (fun _ => 0) else J a) (fun a => if a = n then (fun i => if i < 4 then some (n + 1 + i) else none) else P a)) C) : xEk d m (pc, lv, .int 60 :: .int 4 :: st, n, sl, tc K N I J P) C := by
  obtain ⟨r, q1, q2⟩ := kk
  exact ⟨r, tmna hf hn hsl q1, q2⟩
theorem kcopyI {i k a b sp dp l : Nat} {xsp xdp xl : Int32} (hf : xfetch m pc = some (.invokestatic i, nx, 9996, k, z)) (ha : K a = 100) (hb : K b = 100) (h1 : xsp = nI sp) (h2 : xdp = nI dp) (h3 : xl = nI l) (h4 : sp + l ≤ N a) (h5 : dp + l ≤ N b) (ha9 : N a ≤ 60000) (hb9 : N b ≤ 60000) (hs : (st.map fun v => v.category).sum ≤ 8) (kk : xEk d m (nx, lv, st, n, sl, tc K N (upr I b (va_cpy (I a) (I b) sp dp l)) J P) C) : xEk d m (pc, lv, .int xl :: .int xdp :: .ref b :: .int xsp :: .ref a :: st, n, sl, tc K N I J P) C := by
  obtain ⟨r, q1, q2⟩ := kk
  exact ⟨r, tcopyI hf ha hb h1 h2 h3 h4 h5 ha9 hb9 hs q1, q2⟩
theorem kcopyJ {i k a b sp dp l : Nat} {xsp xdp xl : Int32} (hf : xfetch m pc = some (.invokestatic i, nx, 9996, k, z)) (ha : K a = 101) (hb : K b = 101) (h1 : xsp = nI sp) (h2 : xdp = nI dp) (h3 : xl = nI l) (h4 : sp + l ≤ N a) (h5 : dp + l ≤ N b) (ha9 : N a ≤ 60000) (hb9 : N b ≤ 60000) (hs : (st.map fun v => v.category).sum ≤ 8) (kk : xEk d m (nx, lv, st, n, sl, tc K N I (upr J b (va_cpy (J a) (J b) sp dp l)) P) C) : xEk d m (pc, lv, .int xl :: .int xdp :: .ref b :: .int xsp :: .ref a :: st, n, sl, tc K N I J P) C := by
  obtain ⟨r, q1, q2⟩ := kk
  exact ⟨r, tcopyJ hf ha hb h1 h2 h3 h4 h5 ha9 hb9 hs q1, q2⟩
end TKV
