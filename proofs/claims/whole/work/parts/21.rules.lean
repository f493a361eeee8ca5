/-! branches, makings, copies, calls in the small machine -/
section TBR
variable {d m pc nx n sl : Nat} {lv : xL} {st : List Value} {r : xR} {h : xH}
theorem tif_eq {x : Int32} {off z : Int} {t a : Nat} (hf : xfetch m pc = some (.ifCond .eq off, nx, t, a, z)) (kt : x = 0 → xEv d m (t, lv, st, h) r) (kf : ¬ x = 0 → xEv d m (nx, lv, st, h) r) : xEv d m (pc, lv, .int x :: st, h) r := by
  refine xEv_step hf rfl ?_
  by_cases c9 : x = 0
  · rw [show xcmp .eq x 0 = true from decide_eq_true c9]; exact kt c9
  · rw [show xcmp .eq x 0 = false from decide_eq_false c9]; exact kf c9
theorem tcm_eq {x y : Int32} {off z : Int} {t a : Nat} (hf : xfetch m pc = some (.if_icmp .eq off, nx, t, a, z)) (kt : x = y → xEv d m (t, lv, st, h) r) (kf : ¬ x = y → xEv d m (nx, lv, st, h) r) : xEv d m (pc, lv, .int y :: .int x :: st, h) r := by
  refine xEv_step hf rfl ?_
  by_cases c9 : x = y
  · rw [show xcmp .eq x y = true from decide_eq_true c9]; exact kt c9
  · rw [show xcmp .eq x y = false from decide_eq_false c9]; exact kf c9
theorem tif_ne {x : Int32} {off z : Int} {t a : Nat} (hf : xfetch m pc = some (.ifCond .ne off, nx, t, a, z)) (kt : ¬ x = 0 → xEv d m (t, lv, st, h) r) (kf : x = 0 → xEv d m (nx, lv, st, h) r) : xEv d m (pc, lv, .int x :: st, h) r := by
  refine xEv_step hf rfl ?_
  by_cases c9 : ¬ x = 0
  · rw [show xcmp .ne x 0 = true from decide_eq_true c9]; exact kt c9
  · rw [show xcmp .ne x 0 = false from decide_eq_false c9]; exact kf (Decidable.byContradiction c9)
theorem tcm_ne {x y : Int32} {off z : Int} {t a : Nat} (hf : xfetch m pc = some (.if_icmp .ne off, nx, t, a, z)) (kt : ¬ x = y → xEv d m (t, lv, st, h) r) (kf : x = y → xEv d m (nx, lv, st, h) r) : xEv d m (pc, lv, .int y :: .int x :: st, h) r := by
  refine xEv_step hf rfl ?_
  by_cases c9 : ¬ x = y
  · rw [show xcmp .ne x y = true from decide_eq_true c9]; exact kt c9
  · rw [show xcmp .ne x y = false from decide_eq_false c9]; exact kf (Decidable.byContradiction c9)
theorem tif_lt {x : Int32} {off z : Int} {t a : Nat} (hf : xfetch m pc = some (.ifCond .lt off, nx, t, a, z)) (kt : x < 0 → xEv d m (t, lv, st, h) r) (kf : ¬ x < 0 → xEv d m (nx, lv, st, h) r) : xEv d m (pc, lv, .int x :: st, h) r := by
  refine xEv_step hf rfl ?_
  by_cases c9 : x < 0
  · rw [show xcmp .lt x 0 = true from decide_eq_true c9]; exact kt c9
  · rw [show xcmp .lt x 0 = false from decide_eq_false c9]; exact kf c9
theorem tcm_lt {x y : Int32} {off z : Int} {t a : Nat} (hf : xfetch m pc = some (.if_icmp .lt off, nx, t, a, z)) (kt : x < y → xEv d m (t, lv, st, h) r) (kf : ¬ x < y → xEv d m (nx, lv, st, h) r) : xEv d m (pc, lv, .int y :: .int x :: st, h) r := by
  refine xEv_step hf rfl ?_
  by_cases c9 : x < y
  · rw [show xcmp .lt x y = true from decide_eq_true c9]; exact kt c9
  · rw [show xcmp .lt x y = false from decide_eq_false c9]; exact kf c9
theorem tif_ge {x : Int32} {off z : Int} {t a : Nat} (hf : xfetch m pc = some (.ifCond .ge off, nx, t, a, z)) (kt : 0 ≤ x → xEv d m (t, lv, st, h) r) (kf : ¬ 0 ≤ x → xEv d m (nx, lv, st, h) r) : xEv d m (pc, lv, .int x :: st, h) r := by
  refine xEv_step hf rfl ?_
  by_cases c9 : 0 ≤ x
  · rw [show xcmp .ge x 0 = true from decide_eq_true c9]; exact kt c9
  · rw [show xcmp .ge x 0 = false from decide_eq_false c9]; exact kf c9
theorem tcm_ge {x y : Int32} {off z : Int} {t a : Nat} (hf : xfetch m pc = some (.if_icmp .ge off, nx, t, a, z)) (kt : y ≤ x → xEv d m (t, lv, st, h) r) (kf : ¬ y ≤ x → xEv d m (nx, lv, st, h) r) : xEv d m (pc, lv, .int y :: .int x :: st, h) r := by
  refine xEv_step hf rfl ?_
  by_cases c9 : y ≤ x
  · rw [show xcmp .ge x y = true from decide_eq_true c9]; exact kt c9
  · rw [show xcmp .ge x y = false from decide_eq_false c9]; exact kf c9
theorem tif_gt {x : Int32} {off z : Int} {t a : Nat} (hf : xfetch m pc = some (.ifCond .gt off, nx, t, a, z)) (kt : 0 < x → xEv d m (t, lv, st, h) r) (kf : ¬ 0 < x → xEv d m (nx, lv, st, h) r) : xEv d m (pc, lv, .int x :: st, h) r := by
  refine xEv_step hf rfl ?_
  by_cases c9 : 0 < x
  · rw [show xcmp .gt x 0 = true from decide_eq_true c9]; exact kt c9
  · rw [show xcmp .gt x 0 = false from decide_eq_false c9]; exact kf c9
theorem tcm_gt {x y : Int32} {off z : Int} {t a : Nat} (hf : xfetch m pc = some (.if_icmp .gt off, nx, t, a, z)) (kt : y < x → xEv d m (t, lv, st, h) r) (kf : ¬ y < x → xEv d m (nx, lv, st, h) r) : xEv d m (pc, lv, .int y :: .int x :: st, h) r := by
  refine xEv_step hf rfl ?_
  by_cases c9 : y < x
  · rw [show xcmp .gt x y = true from decide_eq_true c9]; exact kt c9
  · rw [show xcmp .gt x y = false from decide_eq_false c9]; exact kf c9
theorem tif_le {x : Int32} {off z : Int} {t a : Nat} (hf : xfetch m pc = some (.ifCond .le off, nx, t, a, z)) (kt : x ≤ 0 → xEv d m (t, lv, st, h) r) (kf : ¬ x ≤ 0 → xEv d m (nx, lv, st, h) r) : xEv d m (pc, lv, .int x :: st, h) r := by
  refine xEv_step hf rfl ?_
  by_cases c9 : x ≤ 0
  · rw [show xcmp .le x 0 = true from decide_eq_true c9]; exact kt c9
  · rw [show xcmp .le x 0 = false from decide_eq_false c9]; exact kf c9
theorem tcm_le {x y : Int32} {off z : Int} {t a : Nat} (hf : xfetch m pc = some (.if_icmp .le off, nx, t, a, z)) (kt : x ≤ y → xEv d m (t, lv, st, h) r) (kf : ¬ x ≤ y → xEv d m (nx, lv, st, h) r) : xEv d m (pc, lv, .int y :: .int x :: st, h) r := by
  refine xEv_step hf rfl ?_
  by_cases c9 : x ≤ y
  · rw [show xcmp .le x y = true from decide_eq_true c9]; exact kt c9
  · rw [show xcmp .le x y = false from decide_eq_false c9]; exact kf c9
end TBR
theorem tdef_ok : ∀ ci, ci < 13 → ∀ k, k < xnf ci → xfty ci k ≠ .float ∧ xfty ci k ≠ .double := by decide +kernel
theorem tdef {ty : FieldType} (h1 : ty ≠ .float) (h2 : ty ≠ .double) : defaultValue ty = tv ty 0 0 none := by
  cases ty <;> first | rfl | exact absurd rfl h1 | exact absurd rfl h2
theorem tnew_obj {ci : Nat} (hc : ci < 13) : (Sum.inr (ci, xdefs ci) : xA) = tcell ci 0 (fun _ => 0) (fun _ => 0) (fun _ => none) := by
  unfold tcell
  rw [if_pos hc]
  refine congrArg (fun z => Sum.inr (ci, z)) ?_
  have hd := tdef_ok ci hc
  unfold xdefs
  unfold xnf at hd ⊢
  cases hv : vwCl[ci]? with
  | none => rfl
  | some t =>
    obtain ⟨C, T, N⟩ := t
    rw [hv] at hd
    dsimp only at hd ⊢
    exact List.map_congr_left (fun k hk => tdef (hd k (List.mem_range.mp hk)).1 (hd k (List.mem_range.mp hk)).2)
theorem xdefs_len {ci : Nat} (hc : ci < 13) : (xdefs ci).length = xnf ci := by
  unfold xdefs xnf
  cases vwCl[ci]? with
  | none => rfl
  | some t => simp
section TMK
variable {d m pc nx n sl : Nat} {lv : xL} {st : List Value} {r : xR} {K N : tK} {I : tI} {J : tJ} {P : tP} {z : Int}
theorem tnewO {i ci k n' sl' : Nat} (hf : xfetch m pc = some (.new i, nx, ci, k, z)) (hc : ci < 13) (hn : n + 1 = n') (hsl : sl + xnf ci = sl') (kk : xEv d m (nx, lv, .ref n :: st, n', sl', tc (upr K n ci) (upr N n 0) (upr I n (fun _ => 0)) (upr J n (fun _ => 0)) (upr P n (fun _ => none))) r) : xEv d m (pc, lv, st, n, sl, tc K N I J P) r := by
  subst hn hsl
  refine xEv_step hf ?_ kk
  unfold xstep
  dsimp only
  unfold xnewo
  dsimp only
  rw [tadd (tnew_obj hc), xdefs_len hc]
theorem tnewA {at' : ArrayType} {kd k j n' sl' : Nat} {x : Int32} (hf : xfetch m pc = some (.newarray at', nx, kd, k, z)) (hk : kd = 0 ∨ kd = 2 ∨ kd = 3) (hx : x = nI j) (hj : j ≤ 60000) (hn : n + 1 = n') (hsl : sl + j = sl') (kk : xEv d m (nx, lv, .ref n :: st, n', sl', tc (upr K n (100 + kd)) (upr N n j) (upr I n (fun _ => 0)) (upr J n (fun _ => 0)) (upr P n (fun _ => none))) r) : xEv d m (pc, lv, .int x :: st, n, sl, tc K N I J P) r := by
  subst hn hsl
  subst hx
  refine xEv_step hf ?_ kk
  unfold xstep
  dsimp only
  unfold xnar
  dsimp only
  have h1 : (nI j).toNatClampNeg = j := nI_clamp (by omega)
  rw [if_neg (by rintro (q | q); exact nI_pos (by omega) q; rw [h1] at q; omega), if_neg (by omega), h1, tadd (k := 100 + kd) (l := j)]
  unfold tcell
  rw [if_neg (by omega), if_neg (by omega), if_neg (by omega), if_neg (by omega), Nat.add_sub_cancel_left]
theorem tnewL {at' : ArrayType} {k j n' sl' : Nat} {x : Int32} (hf : xfetch m pc = some (.newarray at', nx, 1, k, z)) (hx : x = nI j) (hj : j ≤ 60000) (hn : n + 1 = n') (hsl : sl + j = sl') (kk : xEv d m (nx, lv, .ref n :: st, n', sl', tc (upr K n 101) (upr N n j) (upr I n (fun _ => 0)) (upr J n (fun _ => 0)) (upr P n (fun _ => none))) r) : xEv d m (pc, lv, .int x :: st, n, sl, tc K N I J P) r := by
  subst hn hsl
  subst hx
  refine xEv_step hf ?_ kk
  unfold xstep
  dsimp only
  unfold xnar
  dsimp only
  have h1 : (nI j).toNatClampNeg = j := nI_clamp (by omega)
  rw [if_neg (by rintro (q | q); exact nI_pos (by omega) q; rw [h1] at q; omega), if_pos rfl, h1, tadd (k := 101) (l := j)]
  rfl
theorem tnewR {i kd k j n' sl' : Nat} {x : Int32} (hf : xfetch m pc = some (.anewarray i, nx, kd, k, z)) (hk : kd = 4 ∨ kd = 5 ∨ kd = 6) (hx : x = nI j) (hj : j ≤ 60000) (hn : n + 1 = n') (hsl : sl + j = sl') (kk : xEv d m (nx, lv, .ref n :: st, n', sl', tc (upr K n (100 + kd)) (upr N n j) (upr I n (fun _ => 0)) (upr J n (fun _ => 0)) (upr P n (fun _ => none))) r) : xEv d m (pc, lv, .int x :: st, n, sl, tc K N I J P) r := by
  subst hn hsl
  subst hx
  refine xEv_step hf ?_ kk
  unfold xstep
  dsimp only
  unfold xanar
  dsimp only
  have h1 : (nI j).toNatClampNeg = j := nI_clamp (by omega)
  rw [if_neg (by rintro (q | q); exact nI_pos (by omega) q; rw [h1] at q; omega), h1, tadd (k := 100 + kd) (l := j)]
  unfold tcell
  rw [if_neg (by omega), if_neg (by omega), if_neg (by omega), if_pos (by omega), Nat.add_sub_cancel_left]
theorem tmna {i n2 k k2 n' sl' : Nat} (hf : xfetch m pc = some (.multianewarray i n2, nx, k, k2, z)) (hn : n + 5 = n') (hsl : sl + 244 = sl') (kk : xEv d m (nx, lv, .ref n :: st, n', sl', tc (fun a => if a = n then 107 else if n < a ∧ a < n + 5 then 101 else K a) (fun a => if a = n then 4 else if n < a ∧ a < n + 5 then 60 else N a) I (fun a => if n < a ∧ a < n + 5 then (fun _ => 0) else J a) (fun a => if a = n then (fun i => if i < 4 then some (n + 1 + i) else none) else P a)) r) : xEv d m (pc, lv, .int 60 :: .int 4 :: st, n, sl, tc K N I J P) r := by
  subst hn hsl
  refine xEv_step hf ?_ kk
  unfold xstep
  dsimp only
  unfold xmna
  dsimp only
  rw [if_pos ⟨rfl, rfl⟩]
  refine congrArg (fun z => some (Sum.inl (nx, lv, Value.ref n :: st, n + 5, sl + 244, z))) (funext fun a => ?_)
  unfold tc
  by_cases h1 : a = n
  · subst h1
    simp only [if_true]
    rw [if_neg (by omega)]
    rfl
  · simp only [if_neg h1]
    by_cases h2 : n < a ∧ a < n + 5
    · simp only [if_pos h2]
      rfl
    · simp only [if_neg h2]
/-- arraycopy -/
theorem tcopyI {i k a b sp dp l : Nat} {xsp xdp xl : Int32} (hf : xfetch m pc = some (.invokestatic i, nx, 9996, k, z)) (ha : K a = 100) (hb : K b = 100) (h1 : xsp = nI sp) (h2 : xdp = nI dp) (h3 : xl = nI l) (h4 : sp + l ≤ N a) (h5 : dp + l ≤ N b) (ha9 : N a ≤ 60000) (hb9 : N b ≤ 60000) (hs : (st.map fun v => v.category).sum ≤ 8) (kk : xEv d m (nx, lv, st, n, sl, tc K N (upr I b (va_cpy (I a) (I b) sp dp l)) J P) r) : xEv d m (pc, lv, .int xl :: .int xdp :: .ref b :: .int xsp :: .ref a :: st, n, sl, tc K N I J P) r := by
  subst h1 h2 h3
  refine xEv_step hf ?_ kk
  unfold xstep
  dsimp only
  rw [if_pos rfl]
  unfold xcopy
  dsimp only
  have c1 : (nI sp).toNatClampNeg = sp := nI_clamp (by omega)
  have c2 : (nI dp).toNatClampNeg = dp := nI_clamp (by omega)
  have c3 : (nI l).toNatClampNeg = l := nI_clamp (by omega)
  rw [if_neg (by rintro (q | q | q | q); exact nI_pos (by omega) q; exact nI_pos (by omega) q; exact nI_pos (by omega) q; omega), tc_iarr (k := 0) ha (by omega), tc_iarr (k := 0) hb (by omega)]
  dsimp only
  rw [c1, c2, c3, if_pos ⟨rfl, rfl, h4, h5⟩, tput_ir (k := 0) hb (by omega)]
theorem tcopyJ {i k a b sp dp l : Nat} {xsp xdp xl : Int32} (hf : xfetch m pc = some (.invokestatic i, nx, 9996, k, z)) (ha : K a = 101) (hb : K b = 101) (h1 : xsp = nI sp) (h2 : xdp = nI dp) (h3 : xl = nI l) (h4 : sp + l ≤ N a) (h5 : dp + l ≤ N b) (ha9 : N a ≤ 60000) (hb9 : N b ≤ 60000) (hs : (st.map fun v => v.category).sum ≤ 8) (kk : xEv d m (nx, lv, st, n, sl, tc K N I (upr J b (va_cpy (J a) (J b) sp dp l)) P) r) : xEv d m (pc, lv, .int xl :: .int xdp :: .ref b :: .int xsp :: .ref a :: st, n, sl, tc K N I J P) r := by
  subst h1 h2 h3
  refine xEv_step hf ?_ kk
  unfold xstep
  dsimp only
  rw [if_pos rfl]
  unfold xcopy
  dsimp only
  have c1 : (nI sp).toNatClampNeg = sp := nI_clamp (by omega)
  have c2 : (nI dp).toNatClampNeg = dp := nI_clamp (by omega)
  have c3 : (nI l).toNatClampNeg = l := nI_clamp (by omega)
  rw [if_neg (by rintro (q | q | q | q); exact nI_pos (by omega) q; exact nI_pos (by omega) q; exact nI_pos (by omega) q; omega), tc_jarr ha, tc_jarr hb]
  dsimp only
  rw [c1, c2, c3, if_pos ⟨rfl, rfl, h4, h5⟩, tput_jr hb]
/-- calls -/
theorem tcallS {i m' np : Nat} {as rest : List Value} {v : Option Value} {h h' : xH} (hf : xfetch m pc = some (.invokestatic i, nx, m', np, z)) (hc : xcall (.invokestatic i, nx, m', np, z) st h = some (m', as, rest)) (hp : xPv d m' as h (v, h')) (kk : xEv (d + 1) m (nx, lv, v.toList ++ rest, h') r) : xEv (d + 1) m (pc, lv, st, h) r := xEv_call hf hc hp kk
theorem tcallI {i m' np : Nat} {as rest : List Value} {v : Option Value} {h h' : xH} (hf : xfetch m pc = some (.invokespecial i, nx, m', np, z)) (hc : xcall (.invokespecial i, nx, m', np, z) st h = some (m', as, rest)) (hp : xPv d m' as h (v, h')) (kk : xEv (d + 1) m (nx, lv, v.toList ++ rest, h') r) : xEv (d + 1) m (pc, lv, st, h) r := xEv_call hf hc hp kk
theorem tcallV {i m' np ci a : Nat} {rest : List Value} {v : Option Value} {h' : xH} (hf : xfetch m pc = some (.invokevirtual i, nx, m', np, z)) (hK : K a = ci) (hc : (decide (ci < 13) && decide (m' < 9000) && decide (np ≤ st.length) && decide ((xms[m']?).map (fun q => q.1) = (vwCl[ci]?).map (fun q => q.1)) && decide ((rest.map fun v => v.category).sum ≤ 8)) = true) (hd : st.drop np = .ref a :: rest) (hp : xPv d m' (.ref a :: (st.take np).reverse) (n, sl, tc K N I J P) (v, h')) (kk : xEv (d + 1) m (nx, lv, v.toList ++ rest, h') r) : xEv (d + 1) m (pc, lv, st, n, sl, tc K N I J P) r := by
  simp only [Bool.and_eq_true, decide_eq_true_eq] at hc
  obtain ⟨⟨⟨⟨h1, h2⟩, h3⟩, h4⟩, h5⟩ := hc
  refine xEv_call hf (m' := m') (as := .ref a :: (st.take np).reverse) (rest := rest) ?_ hp kk
  unfold xcall
  dsimp only
  rw [hd]
  dsimp only
  rw [tc_obj hK h1]
  dsimp only
  rw [if_pos ⟨h2, h3, h4, h5⟩]
end TMK
