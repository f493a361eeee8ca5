/-! THE LAW'S START: what the Statement gives, in the small machine's words. -/
def xh0 (L : Nat) (xs : Nat → Int32) : xH := (0, 0, fun a => if a = 1000000 then .inl (8, L, .inl xs) else .inr (999, []))
theorem xok0 (L : Nat) (xs : Nat → Int32) : xok L xs (xh0 L xs) := ⟨fun a _ hz => by unfold xh0; exact if_neg hz, by simp [xh0], fun a ha => absurd ha (Nat.not_lt_zero _)⟩
set_option maxRecDepth 100000 in
theorem xo_ao4 : Cond.arrayOver (.object RX1) ∈ lw_tbl := List.mem_of_getElem? (i := 503) (by rfl)
set_option maxRecDepth 100000 in
theorem xo_ao5 : Cond.arrayOver (.object RX3) ∈ lw_tbl := List.mem_of_getElem? (i := 499) (by rfl)
set_option maxRecDepth 100000 in
theorem xo_ao6 : Cond.arrayOver (.object RX5) ∈ lw_tbl := List.mem_of_getElem? (i := 501) (by rfl)
set_option maxRecDepth 100000 in
theorem xo_ao7 : Cond.arrayOver (.array .long) ∈ lw_tbl := List.mem_of_getElem? (i := 184) (by rfl)
set_option maxRecDepth 100000 in
theorem xo_s0 : Cond.stringRef RX9 35 xtx0 ∈ lw_tbl := List.mem_of_getElem? (i := 203) (by rfl)
set_option maxRecDepth 100000 in
theorem xo_s1 : Cond.stringRef RX12 196 xtx1 ∈ lw_tbl := List.mem_of_getElem? (i := 1849) (by rfl)
set_option maxRecDepth 100000 in
theorem xo_cs : Cond.laysStatic "java/lang/String" "COMPACT_STRINGS" "Z" ∈ lw_tbl := List.mem_of_getElem? (i := 213) (by rfl)
set_option maxRecDepth 100000 in
theorem xo_fm : Cond.laysStatic "jdk/internal/util/Preconditions" "SIOOBE_FORMATTER" "Ljava/util/function/BiFunction;" ∈ lw_tbl := List.mem_of_getElem? (i := 229) (by rfl)
set_option maxRecDepth 100000 in
theorem xo_is : Cond.initialized "java/lang/String" ∈ lw_tbl := List.mem_of_getElem? (i := 151) (by rfl)
set_option maxRecDepth 100000 in
theorem xo_ip : Cond.initialized "jdk/internal/util/Preconditions" ∈ lw_tbl := List.mem_of_getElem? (i := 153) (by rfl)
def xtm (i : Nat) : Term := if i = 0 then .string RX9 35 else .string RX12 196
abbrev xfl : List Cond := flatC (Jvm.Cond.and given_1 narrow_1)
theorem xs_ex : ∀ i, i < 2 → Cond.exactly (xtm i) "java/lang/String" ∈ xfl := by decide +kernel
theorem xs_co : ∀ i, i < 2 → Cond.eq (.field (xtm i) "java/lang/String" "coder" "B") (.int 0) ∈ xfl := by decide +kernel
theorem xs_ar : ∀ i, i < 2 → Cond.arrayOf (.field (xtm i) "java/lang/String" "value" "[B") .byte ∈ xfl := by decide +kernel
theorem xs_le : ∀ i, i < 2 → Cond.eq (.length (.field (xtm i) "java/lang/String" "value" "[B")) (.int (Int32.ofNat (xlens.getD i 0))) ∈ xfl := by decide +kernel
def xb0 : List Int32 := [100, 105, 115, 104, 32, 119, 111, 114, 107, 32, 115, 105, 122, 101, 32, 107, 101, 101, 112, 115, 32, 98, 117, 114, 110, 115, 32, 102, 114, 111, 109, 32, 112, 111, 117, 114, 101, 100, 32, 111, 110, 99, 101, 32, 112, 97, 105, 114, 32, 112, 111, 116, 115, 32, 109, 97, 107, 101, 32, 112, 111, 117, 114, 32, 111, 118, 101, 114, 32, 119, 97, 115, 104, 32, 116, 114, 117, 115, 116, 32, 115, 104, 111, 119, 32, 119, 104, 101, 110, 32, 115, 116, 97, 110, 100, 115, 32, 116, 114, 117, 115, 116, 101, 100, 32, 102, 117, 108, 108, 32, 108, 111, 111, 112, 32, 101, 110, 100, 32, 115, 116, 111, 112, 32]
def xb1 : List Int32 := [32, 100, 105, 115, 104, 32, 112, 97, 105, 114, 32, 112, 111, 116, 115, 32, 119, 111, 114, 107, 32, 115, 105, 122, 101, 32, 107, 101, 101, 112, 115, 32, 98, 117, 114, 110, 115, 32, 102, 114, 111, 109, 32, 112, 111, 117, 114, 101, 100, 32, 111, 110, 99, 101, 32, 109, 97, 107, 101, 32, 112, 111, 117, 114, 32, 111, 118, 101, 114, 32, 119, 97, 115, 104, 32, 116, 114, 117, 115, 116, 32, 115, 104, 111, 119, 32, 119, 104, 101, 110, 32, 115, 116, 97, 110, 100, 115, 32, 116, 114, 117, 115, 116, 101, 100, 32, 102, 117, 108, 108, 32, 108, 111, 111, 112, 32, 101, 110, 100, 32, 115, 116, 111, 112, 32]
theorem xby_0 : xby 0 = xb0 := by decide +kernel
theorem xby_1 : xby 1 = xb1 := by decide +kernel
theorem xbyts_eq : xbyts = [xb0, xb1] := by
  unfold xbyts
  rw [xby_0, xby_1]
theorem xlens_eq : xlens = [124, 125] := by
  unfold xlens
  rw [xby_0, xby_1]
  rfl
set_option maxRecDepth 100000 in
theorem xs_el0 : (List.range 124).map (fun j => xfl[52 + j]?) = (List.range 124).map (fun j => some (Cond.eq (.elem (.field (.string RX9 35) "java/lang/String" "value" "[B") (.int (Int32.ofNat j))) (.int (xb0.getD j 0)))) := by rfl
set_option maxRecDepth 100000 in
theorem xs_el1 : (List.range 125).map (fun j => xfl[180 + j]?) = (List.range 125).map (fun j => some (Cond.eq (.elem (.field (.string RX12 196) "java/lang/String" "value" "[B") (.int (Int32.ofNat j))) (.int (xb1.getD j 0)))) := by rfl
theorem xs_el : ∀ i, i < 2 → ∀ j, j < xlens.getD i 0 → Cond.eq (.elem (.field (xtm i) "java/lang/String" "value" "[B") (.int (Int32.ofNat j))) (.int ((xbyts.getD i []).getD j 0)) ∈ xfl := by
  intro i hi j hj
  rcases (show i = 0 ∨ i = 1 by omega) with rfl | rfl
  · rw [xlens_eq] at hj
    have hj : j < 124 := hj
    have h := List.map_inj_left.mp xs_el0 j (List.mem_range.mpr hj)
    rw [xbyts_eq]
    exact List.mem_of_getElem? h
  · rw [xlens_eq] at hj
    have hj : j < 125 := hj
    have h := List.map_inj_left.mp xs_el1 j (List.mem_range.mpr hj)
    rw [xbyts_eq]
    exact List.mem_of_getElem? h
theorem xs_ne : Cond.not (Cond.eq (xtm 0) (xtm 1)) ∈ xfl ∨ Cond.not (Cond.eq (xtm 1) (xtm 0)) ∈ xfl := by decide +kernel
theorem xs_cs : Cond.eq (.static "java/lang/String" "COMPACT_STRINGS" "Z") (.int 1) ∈ xfl := by decide +kernel
theorem xs_fm : Cond.isRef (.static "jdk/internal/util/Preconditions" "SIOOBE_FORMATTER" "Ljava/util/function/BiFunction;") ∈ xfl := by decide +kernel

/-- from the law's entry: what the small machine comes to, the machine comes to -/
theorem xstart {p : Program} {e : Env} {s : State} {m : MethodId} {below : List Frame} {meth : Method} {c : Code} (l : Launch) {b L : Nat} {xs : Nat → Int32} (C0 : lw_At p s m meth c b L xs) {d : Nat} {h' : xH} (hd : d ≤ 1000) (hev : xEv d 330 (0, [(0, .ref 1000000)], [], xh0 L xs) (some (.int 1), h')) (h1 : h'.1 ≤ 600000) (h2 : h'.2.1 ≤ 7300000) : W p l e room_1 s m #[Value.ref b] below meth c s.heap [] 0 0 (lw_Z below #[Value.ref b] s) (entryFrame m ([Value.ref b] : List Value).toArray 4) := by
  obtain ⟨hx, hb, hr, hml, hown, hts, hX, hbl, hlocks, hgv⟩ := C0
  have hts' : ∀ w ∈ xTB, w.before #[Value.ref b] s = true := fun w hw => hts w (List.mem_filter.mp hw).1
  have hfl := flat_of_before _ hgv
  -- the classes
  have hcl : ∀ ci : Nat, ∃ z : ClassId × (Nat → Nat), ∀ q, vwCl[ci]? = some q → u_Kn s q.1 q.2.1 q.2.2 z.1 z.2 := by
    intro ci
    cases hq : vwCl[ci]? with
    | none => exact ⟨(0, fun _ => 0), fun q h => by cases h⟩
    | some q =>
      obtain ⟨C, T, N⟩ := q
      obtain ⟨ty0, f1, f2, f3, f4, f5⟩ := xcl_facts hq
      obtain ⟨w1, w2⟩ := xH_place hq
      obtain ⟨cC, iS, hk⟩ := u_known (C := C) (T := T) (N := N) (n := N) hts' f4 (hts _ w1)
      exact ⟨(cC, iS), fun q h => by cases h; exact hk⟩
  obtain ⟨dz, hdz⟩ := Classical.axiomOfChoice hcl
  -- the arrays' classes
  have hpr : ∀ ty : FieldType, Cond.arrayClass ty ∈ lw_tbl → (∀ C, ty ≠ .object C) → ∃ cA, ArrOfT s cA ty ∧ va_RA s cA ty := by
    intro ty hm hne
    obtain ⟨cA, kA, comp, g1, g2, g3⟩ := Cond.arrayClass_spec (hts _ hm)
    refine ⟨cA, fun n z => ⟨fun k h => (by cases h), kA, g2, comp, g3⟩, ?_⟩
    cases ty with
    | object C => exact absurd rfl (hne C)
    | _ => exact g1
  have hob : ∀ C : String, Cond.arrayOver (.object C) ∈ lw_tbl → ∃ cA, ArrOfT s cA (.object C) ∧ va_RA s cA (.object C) := by
    intro C hm
    obtain ⟨comp, cA, kA, g1, -, g2, g3, g4⟩ := Cond.arrayOver_spec (hts _ hm)
    exact ⟨cA, fun n z => ⟨fun k h => (by cases h), kA, g2, comp, g3⟩, kA, comp, g2, g3, g1, g4⟩
  obtain ⟨y0, hy0⟩ := hpr .int (xo_arr .int (by decide)) (fun C h => by cases h)
  obtain ⟨y1, hy1⟩ := hpr .long (xo_arr .long (by decide)) (fun C h => by cases h)
  obtain ⟨y2, hy2⟩ := hpr .boolean (xo_arr .boolean (by decide)) (fun C h => by cases h)
  obtain ⟨y3, hy3⟩ := hpr .byte (xo_arr .byte (by decide)) (fun C h => by cases h)
  obtain ⟨y4, hy4⟩ := hob RX1 xo_ao4
  obtain ⟨y5, hy5⟩ := hob RX3 xo_ao5
  obtain ⟨y6, hy6⟩ := hob RX5 xo_ao6
  have h7 : ∃ cA, ArrOfT s cA (.array .long) ∧ va_RA s cA (.array .long) := by
    obtain ⟨comp, cA, kA, g1, -, g2, g3, g4⟩ := arrayOver_specB (hts _ xo_ao7)
    exact ⟨cA, fun n z => ⟨fun k h => (by cases h), kA, g2, comp, g3⟩, g4⟩
  obtain ⟨y7, hy7⟩ := h7
  -- the texts
  obtain ⟨adK, adV, hvs, hev2⟩ := vk_Sof (args := #[Value.ref b]) (s := s) (N := 2) (tm := xtm) (len := xlens) (byt := xbyts) (A := xA0 s.heap.size) (fun i hi => by
      rw [xlens_eq]
      rcases (show i = 0 ∨ i = 1 by omega) with rfl | rfl
      · show 124 < _
        decide
      · show 125 < _
        decide) (fun i hi => hfl _ (xs_ex i hi)) (fun i hi => hfl _ (xs_co i hi)) (fun i hi => hfl _ (xs_ar i hi)) (fun i hi => hfl _ (xs_le i hi)) (fun i hi j hj => hfl _ (xs_el i hi j hj)) (fun i j hi hj hij => by
      rcases (show (i = 0 ∧ j = 1) ∨ (i = 1 ∧ j = 0) by omega) with ⟨rfl, rfl⟩ | ⟨rfl, rfl⟩
      · exact xs_ne.imp (hfl _) (hfl _)
      · exact (xs_ne.imp (hfl _) (hfl _)).symm) (fun a ha => Nat.not_le.mpr ha)
  have hlt : ∀ i, i < 2 → adK i < s.heap.size := fun i hi => by
    obtain ⟨cell, g1, -⟩ := (hvs.1 i hi).1
    exact (Array.getElem?_eq_some_iff.mp g1).1
  obtain ⟨ad, had⟩ : ∃ ad : Nat → Nat, ad = fun i => if i < 1000000 then s.heap.size + i else if i = 1000000 then b else adK (i - 1000001) := ⟨_, rfl⟩
  have a0 : ad 1000000 = b := by rw [had]; rfl
  have a1 : ad 1000001 = adK 0 := by rw [had]; rfl
  have a2 : ad 1000002 = adK 1 := by rw [had]; rfl
  have hA : xadr ad s.heap.size := ⟨fun i hi => by rw [had]; exact if_pos hi, by rw [a0]; exact hbl, by rw [a1]; exact hlt 0 (by decide), by rw [a2]; exact hlt 1 (by decide)⟩
  obtain ⟨cy, hcy⟩ : ∃ cy : Nat → ClassId, cy = fun k => match k with
    | 0 => y0
    | 1 => y1
    | 2 => y2
    | 3 => y3
    | 4 => y4
    | 5 => y5
    | 6 => y6
    | _ => y7 := ⟨_, rfl⟩
  have hK : va_K (fun k => (dz k).1, fun k => (dz k).2) vwCl (xtys cy) s := by
    refine ⟨fun k q hq => hdz k q hq, fun k q hq => ?_⟩
    subst hcy
    match k, hq with
    | 0, hq => cases hq; exact hy0
    | 1, hq => cases hq; exact hy1
    | 2, hq => cases hq; exact hy2
    | 3, hq => cases hq; exact hy3
    | 4, hq => cases hq; exact hy4
    | 5, hq => cases hq; exact hy5
    | 6, hq => cases hq; exact hy6
    | 7, hq => cases hq; exact hy7
    | n + 8, hq => simp [xtys] at hq
  have hn : ∀ w ∈ xnest, va_Nw w s := by
    intro w hw
    have h3 := hts w (List.mem_filter.mp hw).1
    have h4 := (List.mem_filter.mp hw).2
    cases w <;> first | exact va_Nw.of rfl h3 | (simp [xisnest] at h4; done)
  have hvs2 : vk_S 2 xlens xbyts (fun i => ad (1000001 + i)) adV (xA0 s.heap.size) s s.heap := by
    have e9 : ∀ i, ad (1000001 + i) = adK i := fun i => by rw [had]; show (if 1000001 + i < 1000000 then _ else if 1000001 + i = 1000000 then _ else adK (1000001 + i - 1000001)) = _; rw [if_neg (by omega), if_neg (by omega), Nat.add_sub_cancel_left]
    rw [show (fun i => ad (1000001 + i)) = adK from funext e9]
    exact hvs
  have hst : xsta (fun k => (dz k).1, fun k => (dz k).2) cy ad s.heap.size L xs s := ⟨hK, by rw [a0]; exact hX, hn, ⟨va_AO.of (hts _ xo_ao4), va_AO.of (hts _ xo_ao5), va_AO.of (hts _ xo_ao6), hts _ xo_ao7⟩, Nat.le_refl _,
    vk_R.of (hts _ xo_s0) (by rw [a1]; exact hev2 0 (by decide)), vk_R.of (hts _ xo_s1) (by rw [a2]; exact hev2 1 (by decide)), ⟨adV, hvs2⟩,
    va_Zof (hts _ xo_cs) (hts _ xo_is) (va_eqt (hfl _ xs_cs)) (fun a ha => Nat.not_le.mpr ha), va_Zqof (hts _ xo_fm) (hts _ xo_ip) (hfl _ xs_fm) (fun a ha => Nat.not_le.mpr ha)⟩
  obtain ⟨-, hSE⟩ := hev (xSP l (fun k => (dz k).1, fun k => (dz k).2) cy ad s.heap.size L xs) (xSE l (fun k => (dz k).1, fun k => (dz k).2) cy ad s.heap.size L xs) (xcl_holds l _ cy L xs hA)
  obtain ⟨-, hW⟩ := hSE h1 (xok0 L xs)
  have hl := lv_entry ([.ref b]) (n := 4) (Nat.le_of_ble_eq_true rfl)
  rw [lg_entry_eq]
  have hl : lv_has _ 4 [(0, .ref b)] := hl
  have hS : va_S (xA0 s.heap.size) s.heap s.heap [] := va_S.rf
  have hg := hW xqL (by rfl) p e room_1 s m #[Value.ref b] below meth c s.heap [] 0 0 (lw_Z below #[Value.ref b] s) _ ⟨hx, hb, hr, hml, hts', hown, hlocks, ?_, hst⟩ (show d + 5 ≤ 2048 by omega) (show 64 * (d + 5) ≤ 84000 by omega) rfl (by show 0 + (h'.1 - 0) ≤ 600000; omega) (by show 0 + (h'.2.1 - 0) ≤ room_1.slots; exact Nat.le_trans (show 0 + (h'.2.1 - 0) ≤ 7300000 by omega) (by decide)) (by rw [show ([(0, Value.ref 1000000)] : xL).map (xlc ad) = [(0, .ref b)] by show [(0, Value.ref (ad 1000000))] = _; rw [a0]]; exact hl) (fun k q hq => by cases hq) hS ?_
  · exact hg
  · intro h9
    exact absurd h9 (by decide)
  · intro pc' ls' H' locs' ins hd9 hr9 hP9 hS9
    obtain ⟨rfl, -⟩ := hr9
    refine va_forget (fun q hq => hS9.2.2 q hq) ?_
    refine W.widen (k := 600000) (n := room_1.slots) (by show 0 + (h'.1 - 0) ≤ 600000; omega) (by show 0 + (h'.2.1 - 0) ≤ room_1.slots; exact Nat.le_trans (show 0 + (h'.2.1 - 0) ≤ 7300000 by omega) (by decide)) ?_
    exact lw_ret hx hb hr hlocks hd9
