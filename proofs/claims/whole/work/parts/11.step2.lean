def xlh_0 : List Nat := [642, 644, 646, 648, 650, 652, 654, 656, 658, 660, 662, 664, 666, 668]
set_option maxRecDepth 100000 in
theorem xly_0 : (List.range 14).map (fun k => lw_tbl[xlh_0.getD k 0]?) = (List.range 14).map (fun k => some (u_lay RX0 TX0 k)) := by rfl
theorem xlg_0 : (List.range 14).all (fun k => goodWord (u_lay RX0 TX0 k)) = true := by decide +kernel
def xlh_1 : List Nat := [531, 533, 535, 537, 539, 541, 543, 545, 547, 549, 551, 553]
set_option maxRecDepth 100000 in
theorem xly_1 : (List.range 12).map (fun k => lw_tbl[xlh_1.getD k 0]?) = (List.range 12).map (fun k => some (u_lay RX1 TX1 k)) := by rfl
theorem xlg_1 : (List.range 12).all (fun k => goodWord (u_lay RX1 TX1 k)) = true := by decide +kernel
def xlh_2 : List Nat := [584, 586, 588, 590, 592, 594, 596, 598, 600, 602, 604, 606, 608, 610, 612, 614, 616, 618]
set_option maxRecDepth 100000 in
theorem xly_2 : (List.range 18).map (fun k => lw_tbl[xlh_2.getD k 0]?) = (List.range 18).map (fun k => some (u_lay RX2 TX2 k)) := by rfl
theorem xlg_2 : (List.range 18).all (fun k => goodWord (u_lay RX2 TX2 k)) = true := by decide +kernel
def xlh_3 : List Nat := [387, 389, 391, 393, 395, 397, 399, 401, 403, 405, 407, 409, 411, 413, 415, 417, 419]
set_option maxRecDepth 100000 in
theorem xly_3 : (List.range 17).map (fun k => lw_tbl[xlh_3.getD k 0]?) = (List.range 17).map (fun k => some (u_lay RX3 TX3 k)) := by rfl
theorem xlg_3 : (List.range 17).all (fun k => goodWord (u_lay RX3 TX3 k)) = true := by decide +kernel
def xlh_4 : List Nat := [426, 428, 430]
set_option maxRecDepth 100000 in
theorem xly_4 : (List.range 3).map (fun k => lw_tbl[xlh_4.getD k 0]?) = (List.range 3).map (fun k => some (u_lay RX4 TX4 k)) := by rfl
theorem xlg_4 : (List.range 3).all (fun k => goodWord (u_lay RX4 TX4 k)) = true := by decide +kernel
def xlh_5 : List Nat := [463, 465, 467, 469, 471, 473, 475, 477, 479, 481]
set_option maxRecDepth 100000 in
theorem xly_5 : (List.range 10).map (fun k => lw_tbl[xlh_5.getD k 0]?) = (List.range 10).map (fun k => some (u_lay RX5 TX5 k)) := by rfl
theorem xlg_5 : (List.range 10).all (fun k => goodWord (u_lay RX5 TX5 k)) = true := by decide +kernel
def xlh_6 : List Nat := [489, 491, 493, 495]
set_option maxRecDepth 100000 in
theorem xly_6 : (List.range 4).map (fun k => lw_tbl[xlh_6.getD k 0]?) = (List.range 4).map (fun k => some (u_lay RX6 TX6 k)) := by rfl
theorem xlg_6 : (List.range 4).all (fun k => goodWord (u_lay RX6 TX6 k)) = true := by decide +kernel
def xlh_7 : List Nat := [320, 322, 324]
set_option maxRecDepth 100000 in
theorem xly_7 : (List.range 3).map (fun k => lw_tbl[xlh_7.getD k 0]?) = (List.range 3).map (fun k => some (u_lay RX7 TX7 k)) := by rfl
theorem xlg_7 : (List.range 3).all (fun k => goodWord (u_lay RX7 TX7 k)) = true := by decide +kernel
def xlh_8 : List Nat := [684, 686, 688, 690, 692, 694, 696]
set_option maxRecDepth 100000 in
theorem xly_8 : (List.range 7).map (fun k => lw_tbl[xlh_8.getD k 0]?) = (List.range 7).map (fun k => some (u_lay RX8 TX8 k)) := by rfl
theorem xlg_8 : (List.range 7).all (fun k => goodWord (u_lay RX8 TX8 k)) = true := by decide +kernel
def xlh_9 : List Nat := [273, 275, 277, 279, 281, 283, 285, 287, 289, 291, 293, 295]
set_option maxRecDepth 100000 in
theorem xly_9 : (List.range 12).map (fun k => lw_tbl[xlh_9.getD k 0]?) = (List.range 12).map (fun k => some (u_lay RX9 TX9 k)) := by rfl
theorem xlg_9 : (List.range 12).all (fun k => goodWord (u_lay RX9 TX9 k)) = true := by decide +kernel
def xlh_10 : List Nat := [188, 190, 192]
set_option maxRecDepth 100000 in
theorem xly_10 : (List.range 3).map (fun k => lw_tbl[xlh_10.getD k 0]?) = (List.range 3).map (fun k => some (u_lay RX10 TX10 k)) := by rfl
theorem xlg_10 : (List.range 3).all (fun k => goodWord (u_lay RX10 TX10 k)) = true := by decide +kernel
def xlh_11 : List Nat := [719, 721, 723, 725, 727, 729, 731, 733, 735, 737, 739, 741, 743, 745, 747, 749, 751, 753, 755, 757]
set_option maxRecDepth 100000 in
theorem xly_11 : (List.range 20).map (fun k => lw_tbl[xlh_11.getD k 0]?) = (List.range 20).map (fun k => some (u_lay RX11 TX11 k)) := by rfl
theorem xlg_11 : (List.range 20).all (fun k => goodWord (u_lay RX11 TX11 k)) = true := by decide +kernel
def xlh_12 : List Nat := [1649, 1651, 1653, 1655, 1657, 1659, 1661, 1663, 1665, 1667, 1669, 1671, 1673, 1675, 1677, 1679, 1681, 1683, 1685, 1687, 1689, 1691, 1693, 1695, 1697, 1699, 1701, 1703, 1705, 1707, 1709, 1711, 1713, 1715, 1717, 1719, 1721, 1723, 1725, 1727, 1729, 1731, 1733, 1735, 1737, 1739, 1741, 1743, 1745, 1747, 1749, 1751, 1753, 1755, 1757, 1759]
set_option maxRecDepth 100000 in
theorem xly_12 : (List.range 56).map (fun k => lw_tbl[xlh_12.getD k 0]?) = (List.range 56).map (fun k => some (u_lay RX12 TX12 k)) := by rfl
theorem xlg_12 : (List.range 56).all (fun k => goodWord (u_lay RX12 TX12 k)) = true := by decide +kernel
theorem xlays {C : String} {T : u_T} {N : Nat} {f : Nat → Nat} (h1 : (List.range N).map (fun k => lw_tbl[f k]?) = (List.range N).map (fun k => some (u_lay C T k))) (h2 : (List.range N).all (fun k => goodWord (u_lay C T k)) = true) : ∀ w ∈ u_ws C T N, w ∈ xTB := by
  intro w hw
  obtain ⟨k, hk, rfl⟩ := List.mem_map.mp hw
  exact xTB_of (xplace h1 k hk) (List.all_eq_true.mp h2 k hk)
/-- what the tables say of a class -/
theorem xcl_facts {ci : Nat} {C : String} {T : u_T} {N : Nat} (h : vwCl[ci]? = some (C, T, N)) : ∃ ty0 : Nat → FieldType, (∀ k, xfty ci k = ty0 k) ∧ (∀ k, k < N → parseFieldDescriptor (T k).2.2.1 = some (ty0 k)) ∧ (∀ a, a < N → ∀ b, b < N → a ≠ b → (T a).2.1 ≠ (T b).2.1) ∧ (∀ w ∈ u_ws C T N, w ∈ xTB) ∧ ci < 13 := by
  match ci, h with
  | 0, h => cases h; exact ⟨tyX0, fun _ => rfl, tyX0_ok, nmX0, xlays xly_0 xlg_0, by decide⟩
  | 1, h => cases h; exact ⟨tyX1, fun _ => rfl, tyX1_ok, nmX1, xlays xly_1 xlg_1, by decide⟩
  | 2, h => cases h; exact ⟨tyX2, fun _ => rfl, tyX2_ok, nmX2, xlays xly_2 xlg_2, by decide⟩
  | 3, h => cases h; exact ⟨tyX3, fun _ => rfl, tyX3_ok, nmX3, xlays xly_3 xlg_3, by decide⟩
  | 4, h => cases h; exact ⟨tyX4, fun _ => rfl, tyX4_ok, nmX4, xlays xly_4 xlg_4, by decide⟩
  | 5, h => cases h; exact ⟨tyX5, fun _ => rfl, tyX5_ok, nmX5, xlays xly_5 xlg_5, by decide⟩
  | 6, h => cases h; exact ⟨tyX6, fun _ => rfl, tyX6_ok, nmX6, xlays xly_6 xlg_6, by decide⟩
  | 7, h => cases h; exact ⟨tyX7, fun _ => rfl, tyX7_ok, nmX7, xlays xly_7 xlg_7, by decide⟩
  | 8, h => cases h; exact ⟨tyX8, fun _ => rfl, tyX8_ok, nmX8, xlays xly_8 xlg_8, by decide⟩
  | 9, h => cases h; exact ⟨tyX9, fun _ => rfl, tyX9_ok, nmX9, xlays xly_9 xlg_9, by decide⟩
  | 10, h => cases h; exact ⟨tyX10, fun _ => rfl, tyX10_ok, nmX10, xlays xly_10 xlg_10, by decide⟩
  | 11, h => cases h; exact ⟨tyX11, fun _ => rfl, tyX11_ok, nmX11, xlays xly_11 xlg_11, by decide⟩
  | 12, h => cases h; exact ⟨tyX12, fun _ => rfl, tyX12_ok, nmX12, xlays xly_12 xlg_12, by decide⟩
  | n + 13, h => simp [vwCl] at h
theorem xfit_ok {ty : FieldType} {v : Value} (ad : Nat → Nat) (h : xfit ty v = true) : narrow ty (xcv ad v) = xcv ad v ∧ fits ty (xcv ad v) = true := by
  unfold xfit at h
  cases ty <;> cases v <;> first | (simp [fits] at h; done) | exact ⟨rfl, rfl⟩ | skip
  next x =>
    simp only [fits, Bool.and_true, Bool.or_eq_true, beq_iff_eq] at h
    rcases h with rfl | rfl <;> exact ⟨rfl, rfl⟩
theorem xdef_cv (ad : Nat → Nat) (ty : FieldType) : xcv ad (defaultValue ty) = defaultValue ty := by cases ty <;> rfl
theorem xtys_get (cy : Nat → ClassId) {k : Nat} (hk : k < 8) : ∃ ty, (xtys cy)[k]? = some (cy k, ty) := by
  match k, hk with
  | 0, _ => exact ⟨_, rfl⟩
  | 1, _ => exact ⟨_, rfl⟩
  | 2, _ => exact ⟨_, rfl⟩
  | 3, _ => exact ⟨_, rfl⟩
  | 4, _ => exact ⟨_, rfl⟩
  | 5, _ => exact ⟨_, rfl⟩
  | 6, _ => exact ⟨_, rfl⟩
  | 7, _ => exact ⟨_, rfl⟩
  | n + 8, h => exact absurd h (by omega)
set_option maxRecDepth 100000 in
theorem xo_inst : Cond.instanceMethod Lib.objectInit ∈ lw_tbl := List.mem_of_getElem? (i := 175) (by rfl)
set_option maxRecDepth 100000 in
theorem xo_code : Cond.code Lib.objectInit ⟨#[0xb1]⟩ 1 none ∈ lw_tbl := List.mem_of_getElem? (i := 176) (by rfl)
set_option maxRecDepth 100000 in
theorem xo_nat : Cond.native arraycopyName ∈ lw_tbl := List.mem_of_getElem? (i := 844) (by rfl)
set_option maxRecDepth 100000 in
theorem xo_sta : Cond.static arraycopyName ∈ lw_tbl := List.mem_of_getElem? (i := 843) (by rfl)
set_option maxRecDepth 100000 in
theorem xo_sys : Cond.initialized "java/lang/System" ∈ lw_tbl := List.mem_of_getElem? (i := 166) (by rfl)
set_option maxRecDepth 100000 in
theorem xo_mth : Cond.initialized "java/lang/Math" ∈ lw_tbl := List.mem_of_getElem? (i := 167) (by rfl)
set_option maxRecDepth 100000 in
theorem xo_mxs : Cond.static Lib.Math.max.name ∈ lw_tbl := List.mem_of_getElem? (i := 988) (by rfl)
set_option maxRecDepth 100000 in
theorem xo_mxc : Cond.code Lib.Math.max.name Lib.Math.max.code 2 (some .int) ∈ lw_tbl := List.mem_of_getElem? (i := 989) (by rfl)
set_option maxRecDepth 100000 in
theorem xo_mns : Cond.static Lib.Math.min.name ∈ lw_tbl := List.mem_of_getElem? (i := 878) (by rfl)
set_option maxRecDepth 100000 in
theorem xo_mnc : Cond.code Lib.Math.min.name Lib.Math.min.code 2 (some .int) ∈ lw_tbl := List.mem_of_getElem? (i := 879) (by rfl)
set_option maxRecDepth 100000 in
theorem xo_arr (at' : ArrayType) (h : xatype at' < 4) : Cond.arrayClass (newarray.typeOf at') ∈ lw_tbl := by
  cases at' <;> first | exact List.mem_of_getElem? (i := 196) (by rfl) | exact List.mem_of_getElem? (i := 195) (by rfl) | exact List.mem_of_getElem? (i := 621) (by rfl) | exact List.mem_of_getElem? (i := 298) (by rfl) | exact absurd h (by decide)
theorem xby_at {j : Nat} (hj : j < 2) : xby j = xbyts.getD j [] ∧ (xby j).length = xlens.getD j 0 := by
  have : j = 0 ∨ j = 1 := by omega
  rcases this with rfl | rfl <;> simp [xbyts, xlens]
theorem xsm_all : ∀ i, i < 2 → (xbyts.getD i []).length < 2 ^ 31 ∧ ∀ b ∈ xbyts.getD i [], ((b &&& 255).toUInt32 % 65536).toInt32 = b ∧ narrow .char (.int b) = .int b := by decide +kernel
section XSTEP2
variable {p : Program} {l : Launch} {e : Env} {R : Room} {s : State} {mid : MethodId} {args : Array Value} {below : List Frame} {meth : Method} {c : Code} {H : Heap} {locs : List Loc} {cells slots : Nat} {Q : State → Prop}
variable {D : va_G} {cy : Nat → ClassId} {ad : Nat → Nat} {sz0 L : Nat} {xs : Nat → Int32} {q : xMI} {cn : Nat} {ls : Array Slot} {pc : Nat} {lv : xL} {st : List Value} {h : xH} {σ : xS}
theorem xgo_put {pc' : Nat} {lv' : xL} {st' : List Value} {nL a : Nat} {E : xA} {H1 : Heap} {locs1 : List Loc} (k : xgo p l e R s mid args below meth c cells slots Q D cy ad sz0 nL h (pc', lv', st', xput h a E)) {ls' : Array Slot} (hl : lv_has ls' nL (lv'.map (xlc ad))) (hP : va_P D vwCl (xws cy ad (xput h a E)) H1) (hS : va_S (xA0 sz0) s.heap H1 locs1) : W p l e R s mid args below meth c H1 locs1 cells slots Q (F0 mid pc' ls' (st'.map (xcv ad))) := by
  have := k ls' H1 locs1 hl hP hS
  simpa only [xput, Nat.sub_self, Nat.add_zero] using this
theorem xgo_add {pc' : Nat} {lv' : xL} {st' : List Value} {nL n : Nat} {E : xA} {H1 : Heap} {locs1 : List Loc} (k : xgo p l e R s mid args below meth c cells slots Q D cy ad sz0 nL h (pc', lv', st', xadd h n E)) {ls' : Array Slot} (hl : lv_has ls' nL (lv'.map (xlc ad))) (hP : va_P D vwCl (xws cy ad (xadd h n E)) H1) (hS : va_S (xA0 sz0) s.heap H1 locs1) : W p l e R s mid args below meth c H1 locs1 (cells + 1) (slots + n) Q (F0 mid pc' ls' (st'.map (xcv ad))) := by
  have := k ls' H1 locs1 hl hP hS
  simpa only [xadd, Nat.add_sub_cancel_left] using this

theorem x_step_getfield (C : xctx D cy ad sz0 L xs q p s mid args meth c) (hA : xadr ad sz0) {nx a1 a2 : Nat} {z : Int} {i : Nat} (hok : xokE cn q pc (.getfield i, nx, a1, a2, z) = true) (hcn : q.1 = xown cn) (o : xok L xs h) (hs : xstep (.getfield i, nx, a1, a2, z) pc lv st h = some (.inl σ)) (hn : h.1 ≤ 600000) (hm : σ.2.2.2.1 ≤ 600000) (hc : s.heap.size + cells = sz0 + h.1) (hR1 : cells + (σ.2.2.2.1 - h.1) ≤ R.cells) (hR2 : slots + (σ.2.2.2.2.1 - h.2.1) ≤ R.slots) (hfr : 1 ≤ R.frames) (hlo : 64 ≤ R.locals) (hfr5 : 5 ≤ R.frames) (hlo5 : 320 ≤ R.locals) (hl : lv_has ls q.2.2.2.1 (lv.map (xlc ad))) (hP : va_P D vwCl (xws cy ad h) H) (hS : va_S (xA0 sz0) s.heap H locs) (k : xgo p l e R s mid args below meth c cells slots Q D cy ad sz0 q.2.2.2.1 h σ) : W p l e R s mid args below meth c H locs cells slots Q (F0 mid pc ls (st.map (xcv ad))) := by
  obtain ⟨hx, hb, hr, hml, hts, hown, hlk, hnm, hst⟩ := C
  simp only [xokE, xokE2, Bool.and_eq_true, decide_eq_true_eq, Bool.true_and, and_true] at hok
  obtain ⟨⟨hd, hnx⟩, hk⟩ := hok
  simp only [xlen] at hd hnx
  subst hnx
  obtain ⟨a, r, fs, v, hm1, hv, rfl, rfl⟩ := xget_inv hs
  obtain ⟨hint, hm2⟩ := xpool_in hk
  have hw := xF_place cn _ hm2
  have hsd := xF_side cn _ hm2
  rw [← hcn] at hw
  unfold xwdF at hw
  unfold xsdF at hsd
  cases hcl : vwCl[a1]? with
  | none => simp only [hcl] at hsd; cases hsd
  | some t =>
  obtain ⟨C, T, N⟩ := t
  simp only [hcl, Bool.and_eq_true, decide_eq_true_eq] at hw hsd
  obtain ⟨ty0, f1, f2, f3, f4, f5⟩ := xcl_facts hcl
  have ha : a < h.1 := o.obj hm1 (show a1 ≠ 999 by omega)
  have hget := xws_get (cy := cy) (ad := ad) ha
  rw [hm1] at hget
  have hsame : ∀ x, s.fieldFound? (T a2).1 (T a2).2.1 (T a2).2.2.1 = some x → s.fieldFound? C (T a2).2.1 (T a2).2.2.1 = some x := fun x h9 => by rw [hsd.2] at h9; exact h9
  have hv2 : (fs.map (xcv ad))[a2]? = some (xcv ad v) := by rw [List.getElem?_map, hv]; rfl
  by_cases hz : z = 0
  · rw [if_pos hz] at hw
    exact va_get hx hb hts f4 hown hst.1 hP a hget hcl a2 hsd.1 (hts _ (xTB_of hw rfl)) hsame hv2 hd (xgo_same k hl hP hS)
  · rw [if_neg hz] at hw
    exact va_getN hx hb hts f4 hown hst.1 hP a hget hcl a2 hsd.1 (va_Nw.use rfl (hst.2.2.1 _ (List.mem_filter.mpr ⟨hw, rfl⟩))) hsame hv2 hd (xgo_same k hl hP hS)

theorem x_step_putfield (C : xctx D cy ad sz0 L xs q p s mid args meth c) (hA : xadr ad sz0) {nx a1 a2 : Nat} {z : Int} {i : Nat} (hok : xokE cn q pc (.putfield i, nx, a1, a2, z) = true) (hcn : q.1 = xown cn) (o : xok L xs h) (hs : xstep (.putfield i, nx, a1, a2, z) pc lv st h = some (.inl σ)) (hn : h.1 ≤ 600000) (hm : σ.2.2.2.1 ≤ 600000) (hc : s.heap.size + cells = sz0 + h.1) (hR1 : cells + (σ.2.2.2.1 - h.1) ≤ R.cells) (hR2 : slots + (σ.2.2.2.2.1 - h.2.1) ≤ R.slots) (hfr : 1 ≤ R.frames) (hlo : 64 ≤ R.locals) (hfr5 : 5 ≤ R.frames) (hlo5 : 320 ≤ R.locals) (hl : lv_has ls q.2.2.2.1 (lv.map (xlc ad))) (hP : va_P D vwCl (xws cy ad h) H) (hS : va_S (xA0 sz0) s.heap H locs) (k : xgo p l e R s mid args below meth c cells slots Q D cy ad sz0 q.2.2.2.1 h σ) : W p l e R s mid args below meth c H locs cells slots Q (F0 mid pc ls (st.map (xcv ad))) := by
  obtain ⟨hx, hb, hr, hml, hts, hown, hlk, hnm, hst⟩ := C
  simp only [xokE, xokE2, Bool.and_eq_true, decide_eq_true_eq, Bool.true_and, and_true] at hok
  obtain ⟨⟨hd, hnx⟩, hk⟩ := hok
  simp only [xlen] at hd hnx
  subst hnx
  obtain ⟨v, a, r, fs, hm1, hlen, hfit, rfl, rfl⟩ := xsetf_inv hs
  obtain ⟨hk, hfin⟩ := hk
  obtain ⟨hint, hm2⟩ := xpool_in hk
  have hw := xF_place cn _ hm2
  have hsd := xF_side cn _ hm2
  rw [← hcn] at hw
  unfold xwdF at hw
  unfold xsdF at hsd
  cases hcl : vwCl[a1]? with
  | none => simp only [hcl] at hsd; cases hsd
  | some t =>
  obtain ⟨C, T, N⟩ := t
  simp only [hcl, Bool.and_eq_true, decide_eq_true_eq] at hw hsd
  obtain ⟨ty0, f1, f2, f3, f4, f5⟩ := xcl_facts hcl
  have ha : a < h.1 := o.obj hm1 (show a1 ≠ 999 by omega)
  have hget := xws_get (cy := cy) (ad := ad) ha
  rw [hm1] at hget
  have hsame : ∀ x, s.fieldFound? (T a2).1 (T a2).2.1 (T a2).2.2.1 = some x → s.fieldFound? C (T a2).2.1 (T a2).2.2.1 = some x := fun x h9 => by rw [hsd.2] at h9; exact h9
  simp only [hcl] at hfin
  obtain ⟨g1, g2⟩ := xfit_ok ad hfit
  rw [show xfty (a1, a2, z).1 (a1, a2, z).2.1 = ty0 a2 from f1 a2] at g1 g2
  have hlen2 : a2 < (fs.map (xcv ad)).length := by rw [List.length_map]; exact hlen
  have hD := xws_D (cy := cy) hA hn
  have kk : ∀ (H1 : Heap) (locs1 : List Loc), va_P D vwCl ((xws cy ad h).set a (ad a, .inr (a1, (fs.map (xcv ad)).set a2 (xcv ad v)))) H1 → va_D (xA0 sz0) ((xws cy ad h).set a (ad a, .inr (a1, (fs.map (xcv ad)).set a2 (xcv ad v)))) → va_S (xA0 sz0) s.heap H1 locs1 → W p l e R s mid args below meth c H1 locs1 cells slots Q (F0 mid (pc + 3) ls (r.map (xcv ad))) := by
    intro H1 locs1 p1 _ p3
    rw [← List.map_set] at p1
    have p1 : va_P D vwCl ((xws cy ad h).set a (ad a, xca cy ad (.inr (a1, fs.set a2 v)))) H1 := p1
    rw [xws_put ha] at p1
    exact xgo_put k hl p1 p3
  by_cases hz : z = 0
  · rw [if_pos hz] at hw
    by_cases hf : (T a2).2.2.2 = true
    · rw [if_pos hf] at hfin
      simp only [Bool.and_eq_true, decide_eq_true_eq] at hfin
      have hC : C = q.1 := by
        have h9 := hfin.2
        subst h9
        rw [hcn]
        have := f5
        revert hcl
        match a1, f5 with
        | 0, _ => intro h; cases h; rfl
        | 1, _ => intro h; cases h; rfl
        | 2, _ => intro h; cases h; rfl
        | 3, _ => intro h; cases h; rfl
        | 4, _ => intro h; cases h; rfl
        | 5, _ => intro h; cases h; rfl
        | 6, _ => intro h; cases h; rfl
        | 7, _ => intro h; cases h; rfl
        | 8, _ => intro h; cases h; rfl
        | 9, _ => intro h; cases h; rfl
        | 10, _ => intro h; cases h; rfl
        | 11, _ => intro h; cases h; rfl
        | 12, _ => intro h; cases h; rfl
        | n + 13, h => exact absurd h (by omega)
      exact va_putF hx hb hts f4 ty0 f2 f3 hown hst.1 hP hD hS a hget hcl a2 hsd.1 (hts _ (xTB_of hw rfl)) hsame hf (hnm hfin.1.2) (hsd.2.trans hC) (f2 a2 hsd.1) g1 g2 hlen2 hd kk
    · exact va_put hx hb hts f4 ty0 f2 f3 hown hst.1 hP hD hS a hget hcl a2 hsd.1 (hts _ (xTB_of hw rfl)) hsame (Bool.not_eq_true _ ▸ hf) (f2 a2 hsd.1) g1 g2 hlen2 hd kk
  · rw [if_neg hz] at hw
    have hf : (T a2).2.2.2 = false := by
      cases hq : (T a2).2.2.2 with
      | false => rfl
      | true =>
        rw [if_pos hq] at hfin
        simp only [Bool.and_eq_true, decide_eq_true_eq] at hfin
        exact absurd hfin.1.1 hz
    exact va_putN hx hb hts f4 ty0 f2 f3 hown hst.1 hP hD hS a hget hcl a2 hsd.1 (va_Nw.use rfl (hst.2.2.1 _ (List.mem_filter.mpr ⟨hw, rfl⟩))) hsame hf (f2 a2 hsd.1) g1 g2 hlen2 hd kk

theorem x_step_iaload (C : xctx D cy ad sz0 L xs q p s mid args meth c) (hA : xadr ad sz0) {nx a1 a2 : Nat} {z : Int} (hok : xokE cn q pc (.iaload, nx, a1, a2, z) = true) (hcn : q.1 = xown cn) (o : xok L xs h) (hs : xstep (.iaload, nx, a1, a2, z) pc lv st h = some (.inl σ)) (hn : h.1 ≤ 600000) (hm : σ.2.2.2.1 ≤ 600000) (hc : s.heap.size + cells = sz0 + h.1) (hR1 : cells + (σ.2.2.2.1 - h.1) ≤ R.cells) (hR2 : slots + (σ.2.2.2.2.1 - h.2.1) ≤ R.slots) (hfr : 1 ≤ R.frames) (hlo : 64 ≤ R.locals) (hfr5 : 5 ≤ R.frames) (hlo5 : 320 ≤ R.locals) (hl : lv_has ls q.2.2.2.1 (lv.map (xlc ad))) (hP : va_P D vwCl (xws cy ad h) H) (hS : va_S (xA0 sz0) s.heap H locs) (k : xgo p l e R s mid args below meth c cells slots Q D cy ad sz0 q.2.2.2.1 h σ) : W p l e R s mid args below meth c H locs cells slots Q (F0 mid pc ls (st.map (xcv ad))) := by
  obtain ⟨hx, hb, hr, hml, hts, hown, hlk, hnm, hst⟩ := C
  simp only [xokE, xokE2, Bool.and_eq_true, decide_eq_true_eq, Bool.true_and, and_true] at hok
  obtain ⟨hd, hnx⟩ := hok
  simp only [xlen] at hd hnx
  subst hnx
  obtain ⟨i, a, r, kd, n, f, hm1, hkd, hi, rfl, rfl⟩ := xiald_inv hs
  rcases hkd with rfl | rfl
  · have ha : a < h.1 := o.arr hm1 (by decide)
    have hget := xws_get (cy := cy) (ad := ad) ha
    rw [hm1] at hget
    exact va_iald hx hb hst.1 hP a 0 hget rfl (xin_vp hi) hd (xgo_same k hl hP hS)
  · obtain ⟨rfl, h9⟩ := o.scr hm1
    cases h9
    exact va_sld hx hb hst.2.1 (Nat.lt_of_lt_of_le hA.2.1 hst.2.2.2.2.1) (Nat.not_le.mpr hA.2.1) hS (xin_vp hi) hd (xgo_same k hl hP hS)

theorem x_step_baload (C : xctx D cy ad sz0 L xs q p s mid args meth c) (hA : xadr ad sz0) {nx a1 a2 : Nat} {z : Int} (hok : xokE cn q pc (.baload, nx, a1, a2, z) = true) (hcn : q.1 = xown cn) (o : xok L xs h) (hs : xstep (.baload, nx, a1, a2, z) pc lv st h = some (.inl σ)) (hn : h.1 ≤ 600000) (hm : σ.2.2.2.1 ≤ 600000) (hc : s.heap.size + cells = sz0 + h.1) (hR1 : cells + (σ.2.2.2.1 - h.1) ≤ R.cells) (hR2 : slots + (σ.2.2.2.2.1 - h.2.1) ≤ R.slots) (hfr : 1 ≤ R.frames) (hlo : 64 ≤ R.locals) (hfr5 : 5 ≤ R.frames) (hlo5 : 320 ≤ R.locals) (hl : lv_has ls q.2.2.2.1 (lv.map (xlc ad))) (hP : va_P D vwCl (xws cy ad h) H) (hS : va_S (xA0 sz0) s.heap H locs) (k : xgo p l e R s mid args below meth c cells slots Q D cy ad sz0 q.2.2.2.1 h σ) : W p l e R s mid args below meth c H locs cells slots Q (F0 mid pc ls (st.map (xcv ad))) := by
  obtain ⟨hx, hb, hr, hml, hts, hown, hlk, hnm, hst⟩ := C
  simp only [xokE, xokE2, Bool.and_eq_true, decide_eq_true_eq, Bool.true_and, and_true] at hok
  obtain ⟨hd, hnx⟩ := hok
  simp only [xlen] at hd hnx
  subst hnx
  obtain ⟨i, a, r, kd, n, f, hm1, hkd, hi, rfl, rfl⟩ := xbald_inv hs
  have ha : a < h.1 := o.arr hm1 (by omega)
  have hget := xws_get (cy := cy) (ad := ad) ha
  rw [hm1] at hget
  rcases hkd with rfl | rfl
  · exact va_zald hx hb hst.1 hP a 2 hget rfl (xin_vp hi) hd (xgo_same k hl hP hS)
  · exact va_bald hx hb hst.1 hP a 3 hget rfl (xin_vp hi) hd (xgo_same k hl hP hS)

theorem x_step_laload (C : xctx D cy ad sz0 L xs q p s mid args meth c) (hA : xadr ad sz0) {nx a1 a2 : Nat} {z : Int} (hok : xokE cn q pc (.laload, nx, a1, a2, z) = true) (hcn : q.1 = xown cn) (o : xok L xs h) (hs : xstep (.laload, nx, a1, a2, z) pc lv st h = some (.inl σ)) (hn : h.1 ≤ 600000) (hm : σ.2.2.2.1 ≤ 600000) (hc : s.heap.size + cells = sz0 + h.1) (hR1 : cells + (σ.2.2.2.1 - h.1) ≤ R.cells) (hR2 : slots + (σ.2.2.2.2.1 - h.2.1) ≤ R.slots) (hfr : 1 ≤ R.frames) (hlo : 64 ≤ R.locals) (hfr5 : 5 ≤ R.frames) (hlo5 : 320 ≤ R.locals) (hl : lv_has ls q.2.2.2.1 (lv.map (xlc ad))) (hP : va_P D vwCl (xws cy ad h) H) (hS : va_S (xA0 sz0) s.heap H locs) (k : xgo p l e R s mid args below meth c cells slots Q D cy ad sz0 q.2.2.2.1 h σ) : W p l e R s mid args below meth c H locs cells slots Q (F0 mid pc ls (st.map (xcv ad))) := by
  obtain ⟨hx, hb, hr, hml, hts, hown, hlk, hnm, hst⟩ := C
  simp only [xokE, xokE2, Bool.and_eq_true, decide_eq_true_eq, Bool.true_and, and_true] at hok
  obtain ⟨hd, hnx⟩ := hok
  simp only [xlen] at hd hnx
  subst hnx
  obtain ⟨i, a, r, n, f, hm1, hi, rfl, rfl⟩ := xlald_inv hs
  have ha : a < h.1 := o.arr hm1 (by omega)
  have hget := xws_get (cy := cy) (ad := ad) ha
  rw [hm1] at hget
  exact va_lald hx hb hst.1 hP a 1 hget rfl (xin_vp hi) hd (xgo_same k hl hP hS)

theorem x_step_aaload (C : xctx D cy ad sz0 L xs q p s mid args meth c) (hA : xadr ad sz0) {nx a1 a2 : Nat} {z : Int} (hok : xokE cn q pc (.aaload, nx, a1, a2, z) = true) (hcn : q.1 = xown cn) (o : xok L xs h) (hs : xstep (.aaload, nx, a1, a2, z) pc lv st h = some (.inl σ)) (hn : h.1 ≤ 600000) (hm : σ.2.2.2.1 ≤ 600000) (hc : s.heap.size + cells = sz0 + h.1) (hR1 : cells + (σ.2.2.2.1 - h.1) ≤ R.cells) (hR2 : slots + (σ.2.2.2.2.1 - h.2.1) ≤ R.slots) (hfr : 1 ≤ R.frames) (hlo : 64 ≤ R.locals) (hfr5 : 5 ≤ R.frames) (hlo5 : 320 ≤ R.locals) (hl : lv_has ls q.2.2.2.1 (lv.map (xlc ad))) (hP : va_P D vwCl (xws cy ad h) H) (hS : va_S (xA0 sz0) s.heap H locs) (k : xgo p l e R s mid args below meth c cells slots Q D cy ad sz0 q.2.2.2.1 h σ) : W p l e R s mid args below meth c H locs cells slots Q (F0 mid pc ls (st.map (xcv ad))) := by
  obtain ⟨hx, hb, hr, hml, hts, hown, hlk, hnm, hst⟩ := C
  simp only [xokE, xokE2, Bool.and_eq_true, decide_eq_true_eq, Bool.true_and, and_true] at hok
  obtain ⟨hd, hnx⟩ := hok
  simp only [xlen] at hd hnx
  subst hnx
  obtain ⟨i, a, r, kd, n, f, b, hm1, hkd, hi, hf, rfl, rfl⟩ := xaald_inv hs
  have ha : a < h.1 := o.arr hm1 (by omega)
  have hget := xws_get (cy := cy) (ad := ad) ha
  rw [hm1] at hget
  have hv : va_rf (((fun j => (f j).map ad) : Nat → Option Nat) i.toNatClampNeg) = .ref (ad b) := by
    show va_rf ((f i.toNatClampNeg).map ad) = _
    rw [hf]
    rfl
  have kk : W p l e R s mid args below meth c H locs cells slots Q (F0 mid (pc + 1) ls (va_rf (((fun j => (f j).map ad) : Nat → Option Nat) i.toNatClampNeg) :: r.map (xcv ad))) := by
    rw [hv]
    exact xgo_same k hl hP hS
  rcases hkd with rfl | rfl | rfl | rfl
  · exact va_aldq hx hb hst.1 hP a 4 hget rfl (xin_vp hi) hd kk
  · exact va_aldq hx hb hst.1 hP a 5 hget rfl (xin_vp hi) hd kk
  · exact va_aldq hx hb hst.1 hP a 6 hget rfl (xin_vp hi) hd kk
  · have hin := xin_vp hi
    have hlt : i.toNatClampNeg < n := Nat.not_le.mp fun q => hin (Or.inr q)
    exact W.aald (v := va_rf (((fun j => (f j).map ad) : Nat → Option Nat) i.toNatClampNeg)) (ty := .array .long) hx hb (hP a _ hget) ((hst.1.2 7 _ rfl).1 n (fun j => va_rf (((fun j => (f j).map ad) : Nat → Option Nat) j))) rfl (fun q => by cases q) (by show ¬ (i < 0 ∨ (arrV _ _ _).slots.size ≤ _); rw [arrV_size]; exact hin) (by show (arrV _ _ _).slots[_]? = _; rw [arrV_read _ _ hlt]) rfl rfl hd kk

theorem x_step_iastore (C : xctx D cy ad sz0 L xs q p s mid args meth c) (hA : xadr ad sz0) {nx a1 a2 : Nat} {z : Int} (hok : xokE cn q pc (.iastore, nx, a1, a2, z) = true) (hcn : q.1 = xown cn) (o : xok L xs h) (hs : xstep (.iastore, nx, a1, a2, z) pc lv st h = some (.inl σ)) (hn : h.1 ≤ 600000) (hm : σ.2.2.2.1 ≤ 600000) (hc : s.heap.size + cells = sz0 + h.1) (hR1 : cells + (σ.2.2.2.1 - h.1) ≤ R.cells) (hR2 : slots + (σ.2.2.2.2.1 - h.2.1) ≤ R.slots) (hfr : 1 ≤ R.frames) (hlo : 64 ≤ R.locals) (hfr5 : 5 ≤ R.frames) (hlo5 : 320 ≤ R.locals) (hl : lv_has ls q.2.2.2.1 (lv.map (xlc ad))) (hP : va_P D vwCl (xws cy ad h) H) (hS : va_S (xA0 sz0) s.heap H locs) (k : xgo p l e R s mid args below meth c cells slots Q D cy ad sz0 q.2.2.2.1 h σ) : W p l e R s mid args below meth c H locs cells slots Q (F0 mid pc ls (st.map (xcv ad))) := by
  obtain ⟨hx, hb, hr, hml, hts, hown, hlk, hnm, hst⟩ := C
  simp only [xokE, xokE2, Bool.and_eq_true, decide_eq_true_eq, Bool.true_and, and_true] at hok
  obtain ⟨hd, hnx⟩ := hok
  simp only [xlen] at hd hnx
  subst hnx
  obtain ⟨x, i, a, r, n, f, hm1, hi, rfl, rfl⟩ := xiast_inv hs
  have ha : a < h.1 := o.arr hm1 (by omega)
  have hget := xws_get (cy := cy) (ad := ad) ha
  rw [hm1] at hget
  have hD := xws_D (cy := cy) hA hn
  exact va_iast hx hb hst.1 hP hD hS a 0 hget rfl (xin_vp hi) hd (fun H1 locs1 p1 _ p3 => xgo_put k hl (by rw [← xws_put ha]; exact p1) p3)

theorem x_step_bastore (C : xctx D cy ad sz0 L xs q p s mid args meth c) (hA : xadr ad sz0) {nx a1 a2 : Nat} {z : Int} (hok : xokE cn q pc (.bastore, nx, a1, a2, z) = true) (hcn : q.1 = xown cn) (o : xok L xs h) (hs : xstep (.bastore, nx, a1, a2, z) pc lv st h = some (.inl σ)) (hn : h.1 ≤ 600000) (hm : σ.2.2.2.1 ≤ 600000) (hc : s.heap.size + cells = sz0 + h.1) (hR1 : cells + (σ.2.2.2.1 - h.1) ≤ R.cells) (hR2 : slots + (σ.2.2.2.2.1 - h.2.1) ≤ R.slots) (hfr : 1 ≤ R.frames) (hlo : 64 ≤ R.locals) (hfr5 : 5 ≤ R.frames) (hlo5 : 320 ≤ R.locals) (hl : lv_has ls q.2.2.2.1 (lv.map (xlc ad))) (hP : va_P D vwCl (xws cy ad h) H) (hS : va_S (xA0 sz0) s.heap H locs) (k : xgo p l e R s mid args below meth c cells slots Q D cy ad sz0 q.2.2.2.1 h σ) : W p l e R s mid args below meth c H locs cells slots Q (F0 mid pc ls (st.map (xcv ad))) := by
  obtain ⟨hx, hb, hr, hml, hts, hown, hlk, hnm, hst⟩ := C
  simp only [xokE, xokE2, Bool.and_eq_true, decide_eq_true_eq, Bool.true_and, and_true] at hok
  obtain ⟨hd, hnx⟩ := hok
  simp only [xlen] at hd hnx
  subst hnx
  obtain ⟨x, i, a, r, kd, n, f, hm1, hi, rfl, hkd⟩ := xbast_inv hs
  rcases hkd with ⟨rfl, rfl⟩ | ⟨rfl, rfl⟩
  · have ha : a < h.1 := o.arr hm1 (by decide)
    have hget := xws_get (cy := cy) (ad := ad) ha
    rw [hm1] at hget
    exact va_zast hx hb hst.1 hP (xws_D (cy := cy) hA hn) hS a 2 hget rfl (xin_vp hi) hd (fun H1 locs1 p1 _ p3 => xgo_put k hl (by rw [← xws_put ha]; exact p1) p3)
  · have ha : a < h.1 := o.arr hm1 (by decide)
    have hget := xws_get (cy := cy) (ad := ad) ha
    rw [hm1] at hget
    exact va_bast hx hb hst.1 hP (xws_D (cy := cy) hA hn) hS a 3 hget rfl (xin_vp hi) hd (fun H1 locs1 p1 _ p3 => xgo_put k hl (by rw [← xws_put ha]; exact p1) p3)

theorem x_step_lastore (C : xctx D cy ad sz0 L xs q p s mid args meth c) (hA : xadr ad sz0) {nx a1 a2 : Nat} {z : Int} (hok : xokE cn q pc (.lastore, nx, a1, a2, z) = true) (hcn : q.1 = xown cn) (o : xok L xs h) (hs : xstep (.lastore, nx, a1, a2, z) pc lv st h = some (.inl σ)) (hn : h.1 ≤ 600000) (hm : σ.2.2.2.1 ≤ 600000) (hc : s.heap.size + cells = sz0 + h.1) (hR1 : cells + (σ.2.2.2.1 - h.1) ≤ R.cells) (hR2 : slots + (σ.2.2.2.2.1 - h.2.1) ≤ R.slots) (hfr : 1 ≤ R.frames) (hlo : 64 ≤ R.locals) (hfr5 : 5 ≤ R.frames) (hlo5 : 320 ≤ R.locals) (hl : lv_has ls q.2.2.2.1 (lv.map (xlc ad))) (hP : va_P D vwCl (xws cy ad h) H) (hS : va_S (xA0 sz0) s.heap H locs) (k : xgo p l e R s mid args below meth c cells slots Q D cy ad sz0 q.2.2.2.1 h σ) : W p l e R s mid args below meth c H locs cells slots Q (F0 mid pc ls (st.map (xcv ad))) := by
  obtain ⟨hx, hb, hr, hml, hts, hown, hlk, hnm, hst⟩ := C
  simp only [xokE, xokE2, Bool.and_eq_true, decide_eq_true_eq, Bool.true_and, and_true] at hok
  obtain ⟨hd, hnx⟩ := hok
  simp only [xlen] at hd hnx
  subst hnx
  obtain ⟨x, i, a, r, n, f, hm1, hi, rfl, rfl⟩ := xlast_inv hs
  have ha : a < h.1 := o.arr hm1 (by omega)
  have hget := xws_get (cy := cy) (ad := ad) ha
  rw [hm1] at hget
  have hD := xws_D (cy := cy) hA hn
  exact va_last hx hb hst.1 hP hD hS a 1 hget rfl (xin_vp hi) hd (fun H1 locs1 p1 _ p3 => xgo_put k hl (by rw [← xws_put ha]; exact p1) p3)

theorem x_step_aastore (C : xctx D cy ad sz0 L xs q p s mid args meth c) (hA : xadr ad sz0) {nx a1 a2 : Nat} {z : Int} (hok : xokE cn q pc (.aastore, nx, a1, a2, z) = true) (hcn : q.1 = xown cn) (o : xok L xs h) (hs : xstep (.aastore, nx, a1, a2, z) pc lv st h = some (.inl σ)) (hn : h.1 ≤ 600000) (hm : σ.2.2.2.1 ≤ 600000) (hc : s.heap.size + cells = sz0 + h.1) (hR1 : cells + (σ.2.2.2.1 - h.1) ≤ R.cells) (hR2 : slots + (σ.2.2.2.2.1 - h.2.1) ≤ R.slots) (hfr : 1 ≤ R.frames) (hlo : 64 ≤ R.locals) (hfr5 : 5 ≤ R.frames) (hlo5 : 320 ≤ R.locals) (hl : lv_has ls q.2.2.2.1 (lv.map (xlc ad))) (hP : va_P D vwCl (xws cy ad h) H) (hS : va_S (xA0 sz0) s.heap H locs) (k : xgo p l e R s mid args below meth c cells slots Q D cy ad sz0 q.2.2.2.1 h σ) : W p l e R s mid args below meth c H locs cells slots Q (F0 mid pc ls (st.map (xcv ad))) := by
  obtain ⟨hx, hb, hr, hml, hts, hown, hlk, hnm, hst⟩ := C
  simp only [xokE, xokE2, Bool.and_eq_true, decide_eq_true_eq, Bool.true_and, and_true] at hok
  obtain ⟨hd, hnx⟩ := hok
  simp only [xlen] at hd hnx
  subst hnx
  obtain ⟨v, i, a, r, kd, n, f, fs, hm1, hv, hkd, hi, rfl, rfl⟩ := xaast_inv hs
  have ha : a < h.1 := o.arr hm1 (by omega)
  have hget := xws_get (cy := cy) (ad := ad) ha
  rw [hm1] at hget
  have hD := xws_D (cy := cy) hA hn
  have hva : v < h.1 := o.obj hv (by unfold xokind; split <;> (try split) <;> decide)
  have hgv := xws_get (cy := cy) (ad := ad) hva
  rw [hv] at hgv
  have e9 : (va_up (fun j => (f j).map ad) i.toNatClampNeg (some (ad v)) : Nat → Option Nat) = fun j => (va_up f i.toNatClampNeg (some v) j).map ad := by
    funext j
    unfold va_up
    split <;> rfl
  have kk : ∀ (cA : ClassId), cA = cy kd → ∀ (H1 : Heap) (locs1 : List Loc), va_P D vwCl ((xws cy ad h).set a (ad a, .inl (cA, n, .inr (.inr (.inr (.inr (va_up (fun j => (f j).map ad) i.toNatClampNeg (some (ad v))))))))) H1 → va_S (xA0 sz0) s.heap H1 locs1 → W p l e R s mid args below meth c H1 locs1 cells slots Q (F0 mid (pc + 1) ls (r.map (xcv ad))) := by
    intro cA hcA H1 locs1 p1 p3
    subst hcA
    rw [e9] at p1
    exact xgo_put k hl (by rw [← xws_put ha]; exact p1) p3
  rcases hkd with rfl | rfl | rfl
  · exact va_astq hx hb hst.1 hP hD hS a 4 v 1 hget (r := (RX1, TX1, 12)) rfl hgv rfl (xin_vp hi) hd (fun H1 locs1 p1 _ p3 => kk _ rfl H1 locs1 p1 p3)
  · exact va_astq hx hb hst.1 hP hD hS a 5 v 3 hget (r := (RX3, TX3, 17)) rfl hgv rfl (xin_vp hi) hd (fun H1 locs1 p1 _ p3 => kk _ rfl H1 locs1 p1 p3)
  · exact va_astq hx hb hst.1 hP hD hS a 6 v 5 hget (r := (RX5, TX5, 10)) rfl hgv rfl (xin_vp hi) hd (fun H1 locs1 p1 _ p3 => kk _ rfl H1 locs1 p1 p3)

theorem x_step_alen (C : xctx D cy ad sz0 L xs q p s mid args meth c) (hA : xadr ad sz0) {nx a1 a2 : Nat} {z : Int} (hok : xokE cn q pc (.arraylength, nx, a1, a2, z) = true) (hcn : q.1 = xown cn) (o : xok L xs h) (hs : xstep (.arraylength, nx, a1, a2, z) pc lv st h = some (.inl σ)) (hn : h.1 ≤ 600000) (hm : σ.2.2.2.1 ≤ 600000) (hc : s.heap.size + cells = sz0 + h.1) (hR1 : cells + (σ.2.2.2.1 - h.1) ≤ R.cells) (hR2 : slots + (σ.2.2.2.2.1 - h.2.1) ≤ R.slots) (hfr : 1 ≤ R.frames) (hlo : 64 ≤ R.locals) (hfr5 : 5 ≤ R.frames) (hlo5 : 320 ≤ R.locals) (hl : lv_has ls q.2.2.2.1 (lv.map (xlc ad))) (hP : va_P D vwCl (xws cy ad h) H) (hS : va_S (xA0 sz0) s.heap H locs) (k : xgo p l e R s mid args below meth c cells slots Q D cy ad sz0 q.2.2.2.1 h σ) : W p l e R s mid args below meth c H locs cells slots Q (F0 mid pc ls (st.map (xcv ad))) := by
  obtain ⟨hx, hb, hr, hml, hts, hown, hlk, hnm, hst⟩ := C
  simp only [xokE, xokE2, Bool.and_eq_true, decide_eq_true_eq, Bool.true_and, and_true] at hok
  obtain ⟨hd, hnx⟩ := hok
  simp only [xlen] at hd hnx
  subst hnx
  obtain ⟨a, r, kd, n, cc, hm1, rfl, rfl⟩ := xalen_inv hs
  by_cases h8 : kd = 8
  · subst h8
    obtain ⟨rfl, h9⟩ := o.scr hm1
    cases h9
    exact va_slen hx hb hst.2.1 (Nat.lt_of_lt_of_le hA.2.1 hst.2.2.2.2.1) (Nat.not_le.mpr hA.2.1) hS hd (xgo_same k hl hP hS)
  · have ha : a < h.1 := o.arr hm1 h8
    have hget := xws_get (cy := cy) (ad := ad) ha
    rw [hm1] at hget
    obtain ⟨ty, hty⟩ := xtys_get cy (o.2.2 a ha kd _ hm1)
    exact va_alen hx hb hst.1 hP a kd hget hty rfl hd (xgo_same k hl hP hS)

theorem x_step_new_int (C : xctx D cy ad sz0 L xs q p s mid args meth c) (hA : xadr ad sz0) {nx a1 a2 : Nat} {z : Int} (hok : xokE cn q pc ((.newarray .int), nx, a1, a2, z) = true) (hcn : q.1 = xown cn) (o : xok L xs h) (hs : xstep ((.newarray .int), nx, a1, a2, z) pc lv st h = some (.inl σ)) (hn : h.1 ≤ 600000) (hm : σ.2.2.2.1 ≤ 600000) (hc : s.heap.size + cells = sz0 + h.1) (hR1 : cells + (σ.2.2.2.1 - h.1) ≤ R.cells) (hR2 : slots + (σ.2.2.2.2.1 - h.2.1) ≤ R.slots) (hfr : 1 ≤ R.frames) (hlo : 64 ≤ R.locals) (hfr5 : 5 ≤ R.frames) (hlo5 : 320 ≤ R.locals) (hl : lv_has ls q.2.2.2.1 (lv.map (xlc ad))) (hP : va_P D vwCl (xws cy ad h) H) (hS : va_S (xA0 sz0) s.heap H locs) (k : xgo p l e R s mid args below meth c cells slots Q D cy ad sz0 q.2.2.2.1 h σ) : W p l e R s mid args below meth c H locs cells slots Q (F0 mid pc ls (st.map (xcv ad))) := by
  obtain ⟨hx, hb, hr, hml, hts, hown, hlk, hnm, hst⟩ := C
  simp only [xokE, xokE2, Bool.and_eq_true, decide_eq_true_eq, Bool.true_and, and_true] at hok
  obtain ⟨⟨hd, hnx⟩, hk⟩ := hok
  simp only [xlen] at hd hnx
  subst hnx
  obtain ⟨n, r, h1, h2, rfl, hh⟩ := xnar_inv hs
  have hk1 : 0 = a1 := hk.1
  subst hk1
  rcases hh with ⟨ha, rfl⟩ | ⟨ha, rfl⟩
  · exact absurd ha (show ¬ (0 : Nat) = 1 by decide)
  · have hR1' : cells + 1 ≤ R.cells := by have := hR1; simp only [xadd, Nat.add_sub_cancel_left] at this; exact this
    have hR2' : slots + n.toNatClampNeg ≤ R.slots := by have := hR2; simp only [xadd, Nat.add_sub_cancel_left] at this; exact this
    refine W_size (xsize hA hn hst.2.2.2.2.1 hP hS hc) hc (fun hz => ?_)
    refine va_newaK (atype := .int) hx hb (hts _ (xTB_of (xo_arr .int (by decide)) rfl)) rfl hd rfl h1 rfl (by show n.toNatClampNeg * 4 ≤ _; omega) hR1' hR2' hz (fun H1 cA e1 z1 o1 hAr hNm => ?_)
    have hcA : cA = cy 0 := Option.some.inj (hNm.symm.trans (hst.1.2 0 _ rfl).2)
    subst hcA
    have := xgo_add k hl (xws_push (n := n.toNatClampNeg) hA hn hz hP (fun a h9 => o1 a (by omega)) e1) (xS_push hz hS z1 o1)
    rw [List.map_cons, show xcv ad (.ref h.1) = .ref (sz0 + h.1) from congrArg Value.ref (hA.1 _ (by omega))] at this
    exact this

theorem x_step_new_long (C : xctx D cy ad sz0 L xs q p s mid args meth c) (hA : xadr ad sz0) {nx a1 a2 : Nat} {z : Int} (hok : xokE cn q pc ((.newarray .long), nx, a1, a2, z) = true) (hcn : q.1 = xown cn) (o : xok L xs h) (hs : xstep ((.newarray .long), nx, a1, a2, z) pc lv st h = some (.inl σ)) (hn : h.1 ≤ 600000) (hm : σ.2.2.2.1 ≤ 600000) (hc : s.heap.size + cells = sz0 + h.1) (hR1 : cells + (σ.2.2.2.1 - h.1) ≤ R.cells) (hR2 : slots + (σ.2.2.2.2.1 - h.2.1) ≤ R.slots) (hfr : 1 ≤ R.frames) (hlo : 64 ≤ R.locals) (hfr5 : 5 ≤ R.frames) (hlo5 : 320 ≤ R.locals) (hl : lv_has ls q.2.2.2.1 (lv.map (xlc ad))) (hP : va_P D vwCl (xws cy ad h) H) (hS : va_S (xA0 sz0) s.heap H locs) (k : xgo p l e R s mid args below meth c cells slots Q D cy ad sz0 q.2.2.2.1 h σ) : W p l e R s mid args below meth c H locs cells slots Q (F0 mid pc ls (st.map (xcv ad))) := by
  obtain ⟨hx, hb, hr, hml, hts, hown, hlk, hnm, hst⟩ := C
  simp only [xokE, xokE2, Bool.and_eq_true, decide_eq_true_eq, Bool.true_and, and_true] at hok
  obtain ⟨⟨hd, hnx⟩, hk⟩ := hok
  simp only [xlen] at hd hnx
  subst hnx
  obtain ⟨n, r, h1, h2, rfl, hh⟩ := xnar_inv hs
  have hk1 : 1 = a1 := hk.1
  subst hk1
  rcases hh with ⟨ha, rfl⟩ | ⟨ha, rfl⟩
  · have hR1' : cells + 1 ≤ R.cells := by have := hR1; simp only [xadd, Nat.add_sub_cancel_left] at this; exact this
    have hR2' : slots + n.toNatClampNeg ≤ R.slots := by have := hR2; simp only [xadd, Nat.add_sub_cancel_left] at this; exact this
    refine W_size (xsize hA hn hst.2.2.2.2.1 hP hS hc) hc (fun hz => ?_)
    refine va_newaK (atype := .long) hx hb (hts _ (xTB_of (xo_arr .long (by decide)) rfl)) rfl hd rfl h1 rfl (by show n.toNatClampNeg * 8 ≤ _; omega) hR1' hR2' hz (fun H1 cA e1 z1 o1 hAr hNm => ?_)
    have hcA : cA = cy 1 := Option.some.inj (hNm.symm.trans (hst.1.2 1 _ rfl).2)
    subst hcA
    have := xgo_add k hl (xws_push (n := n.toNatClampNeg) hA hn hz hP (fun a h9 => o1 a (by omega)) e1) (xS_push hz hS z1 o1)
    rw [List.map_cons, show xcv ad (.ref h.1) = .ref (sz0 + h.1) from congrArg Value.ref (hA.1 _ (by omega))] at this
    exact this
  · exact absurd rfl ha

theorem x_step_new_boolean (C : xctx D cy ad sz0 L xs q p s mid args meth c) (hA : xadr ad sz0) {nx a1 a2 : Nat} {z : Int} (hok : xokE cn q pc ((.newarray .boolean), nx, a1, a2, z) = true) (hcn : q.1 = xown cn) (o : xok L xs h) (hs : xstep ((.newarray .boolean), nx, a1, a2, z) pc lv st h = some (.inl σ)) (hn : h.1 ≤ 600000) (hm : σ.2.2.2.1 ≤ 600000) (hc : s.heap.size + cells = sz0 + h.1) (hR1 : cells + (σ.2.2.2.1 - h.1) ≤ R.cells) (hR2 : slots + (σ.2.2.2.2.1 - h.2.1) ≤ R.slots) (hfr : 1 ≤ R.frames) (hlo : 64 ≤ R.locals) (hfr5 : 5 ≤ R.frames) (hlo5 : 320 ≤ R.locals) (hl : lv_has ls q.2.2.2.1 (lv.map (xlc ad))) (hP : va_P D vwCl (xws cy ad h) H) (hS : va_S (xA0 sz0) s.heap H locs) (k : xgo p l e R s mid args below meth c cells slots Q D cy ad sz0 q.2.2.2.1 h σ) : W p l e R s mid args below meth c H locs cells slots Q (F0 mid pc ls (st.map (xcv ad))) := by
  obtain ⟨hx, hb, hr, hml, hts, hown, hlk, hnm, hst⟩ := C
  simp only [xokE, xokE2, Bool.and_eq_true, decide_eq_true_eq, Bool.true_and, and_true] at hok
  obtain ⟨⟨hd, hnx⟩, hk⟩ := hok
  simp only [xlen] at hd hnx
  subst hnx
  obtain ⟨n, r, h1, h2, rfl, hh⟩ := xnar_inv hs
  have hk1 : 2 = a1 := hk.1
  subst hk1
  rcases hh with ⟨ha, rfl⟩ | ⟨ha, rfl⟩
  · exact absurd ha (show ¬ (2 : Nat) = 1 by decide)
  · have hR1' : cells + 1 ≤ R.cells := by have := hR1; simp only [xadd, Nat.add_sub_cancel_left] at this; exact this
    have hR2' : slots + n.toNatClampNeg ≤ R.slots := by have := hR2; simp only [xadd, Nat.add_sub_cancel_left] at this; exact this
    refine W_size (xsize hA hn hst.2.2.2.2.1 hP hS hc) hc (fun hz => ?_)
    refine va_newaK (atype := .boolean) hx hb (hts _ (xTB_of (xo_arr .boolean (by decide)) rfl)) rfl hd rfl h1 rfl (by show n.toNatClampNeg * 1 ≤ _; omega) hR1' hR2' hz (fun H1 cA e1 z1 o1 hAr hNm => ?_)
    have hcA : cA = cy 2 := Option.some.inj (hNm.symm.trans (hst.1.2 2 _ rfl).2)
    subst hcA
    have := xgo_add k hl (xws_push (n := n.toNatClampNeg) hA hn hz hP (fun a h9 => o1 a (by omega)) e1) (xS_push hz hS z1 o1)
    rw [List.map_cons, show xcv ad (.ref h.1) = .ref (sz0 + h.1) from congrArg Value.ref (hA.1 _ (by omega))] at this
    exact this

theorem x_step_new_byte (C : xctx D cy ad sz0 L xs q p s mid args meth c) (hA : xadr ad sz0) {nx a1 a2 : Nat} {z : Int} (hok : xokE cn q pc ((.newarray .byte), nx, a1, a2, z) = true) (hcn : q.1 = xown cn) (o : xok L xs h) (hs : xstep ((.newarray .byte), nx, a1, a2, z) pc lv st h = some (.inl σ)) (hn : h.1 ≤ 600000) (hm : σ.2.2.2.1 ≤ 600000) (hc : s.heap.size + cells = sz0 + h.1) (hR1 : cells + (σ.2.2.2.1 - h.1) ≤ R.cells) (hR2 : slots + (σ.2.2.2.2.1 - h.2.1) ≤ R.slots) (hfr : 1 ≤ R.frames) (hlo : 64 ≤ R.locals) (hfr5 : 5 ≤ R.frames) (hlo5 : 320 ≤ R.locals) (hl : lv_has ls q.2.2.2.1 (lv.map (xlc ad))) (hP : va_P D vwCl (xws cy ad h) H) (hS : va_S (xA0 sz0) s.heap H locs) (k : xgo p l e R s mid args below meth c cells slots Q D cy ad sz0 q.2.2.2.1 h σ) : W p l e R s mid args below meth c H locs cells slots Q (F0 mid pc ls (st.map (xcv ad))) := by
  obtain ⟨hx, hb, hr, hml, hts, hown, hlk, hnm, hst⟩ := C
  simp only [xokE, xokE2, Bool.and_eq_true, decide_eq_true_eq, Bool.true_and, and_true] at hok
  obtain ⟨⟨hd, hnx⟩, hk⟩ := hok
  simp only [xlen] at hd hnx
  subst hnx
  obtain ⟨n, r, h1, h2, rfl, hh⟩ := xnar_inv hs
  have hk1 : 3 = a1 := hk.1
  subst hk1
  rcases hh with ⟨ha, rfl⟩ | ⟨ha, rfl⟩
  · exact absurd ha (show ¬ (3 : Nat) = 1 by decide)
  · have hR1' : cells + 1 ≤ R.cells := by have := hR1; simp only [xadd, Nat.add_sub_cancel_left] at this; exact this
    have hR2' : slots + n.toNatClampNeg ≤ R.slots := by have := hR2; simp only [xadd, Nat.add_sub_cancel_left] at this; exact this
    refine W_size (xsize hA hn hst.2.2.2.2.1 hP hS hc) hc (fun hz => ?_)
    refine va_newaK (atype := .byte) hx hb (hts _ (xTB_of (xo_arr .byte (by decide)) rfl)) rfl hd rfl h1 rfl (by show n.toNatClampNeg * 1 ≤ _; omega) hR1' hR2' hz (fun H1 cA e1 z1 o1 hAr hNm => ?_)
    have hcA : cA = cy 3 := Option.some.inj (hNm.symm.trans (hst.1.2 3 _ rfl).2)
    subst hcA
    have := xgo_add k hl (xws_push (n := n.toNatClampNeg) hA hn hz hP (fun a h9 => o1 a (by omega)) e1) (xS_push hz hS z1 o1)
    rw [List.map_cons, show xcv ad (.ref h.1) = .ref (sz0 + h.1) from congrArg Value.ref (hA.1 _ (by omega))] at this
    exact this

theorem x_step_anew (C : xctx D cy ad sz0 L xs q p s mid args meth c) (hA : xadr ad sz0) {nx a1 a2 : Nat} {z : Int} {i : Nat} (hok : xokE cn q pc ((.anewarray i), nx, a1, a2, z) = true) (hcn : q.1 = xown cn) (o : xok L xs h) (hs : xstep ((.anewarray i), nx, a1, a2, z) pc lv st h = some (.inl σ)) (hn : h.1 ≤ 600000) (hm : σ.2.2.2.1 ≤ 600000) (hc : s.heap.size + cells = sz0 + h.1) (hR1 : cells + (σ.2.2.2.1 - h.1) ≤ R.cells) (hR2 : slots + (σ.2.2.2.2.1 - h.2.1) ≤ R.slots) (hfr : 1 ≤ R.frames) (hlo : 64 ≤ R.locals) (hfr5 : 5 ≤ R.frames) (hlo5 : 320 ≤ R.locals) (hl : lv_has ls q.2.2.2.1 (lv.map (xlc ad))) (hP : va_P D vwCl (xws cy ad h) H) (hS : va_S (xA0 sz0) s.heap H locs) (k : xgo p l e R s mid args below meth c cells slots Q D cy ad sz0 q.2.2.2.1 h σ) : W p l e R s mid args below meth c H locs cells slots Q (F0 mid pc ls (st.map (xcv ad))) := by
  obtain ⟨hx, hb, hr, hml, hts, hown, hlk, hnm, hst⟩ := C
  simp only [xokE, xokE2, Bool.and_eq_true, decide_eq_true_eq, Bool.true_and, and_true] at hok
  obtain ⟨⟨hd, hnx⟩, hk⟩ := hok
  simp only [xlen] at hd hnx
  subst hnx
  obtain ⟨n, r, h1, h2, rfl, rfl⟩ := xanar_inv hs
  obtain ⟨hk1, hk2⟩ := hk
  have hR1' : cells + 1 ≤ R.cells := by have := hR1; simp only [xadd, Nat.add_sub_cancel_left] at this; exact this
  have hR2' : slots + n.toNatClampNeg ≤ R.slots := by have := hR2; simp only [xadd, Nat.add_sub_cancel_left] at this; exact this
  obtain ⟨⟨i', hint, b1, b2, w⟩, hm1, hc1⟩ := List.any_eq_true.mp hk2
  simp only [Bool.and_eq_true, beq_iff_eq] at hc1
  obtain ⟨rfl, rfl⟩ := hc1
  have hw := xC_place cn _ hm1
  have hsd := xC_side cn _ hm1
  rw [← hcn] at hw
  unfold xwdC at hw
  unfold xsdC at hsd
  simp only [Bool.or_eq_true, decide_eq_true_eq] at hk1
  have hne : ¬ (b1 = 7 ∧ b2 = 2) := by omega
  simp only [if_neg hne] at hw hsd
  cases hcl : vwCl[b1]? with
  | none => simp only [hcl] at hsd; cases hsd
  | some t =>
  obtain ⟨C, T, N⟩ := t
  simp only [hcl, Bool.and_eq_true, Bool.or_eq_true, decide_eq_true_eq] at hw hsd
  have hC : xaname b2 = C := by
    rcases hsd with h9 | h9
    · omega
    · exact h9.2
  subst hC
  refine W_size (xsize hA hn hst.2.2.2.2.1 hP hS hc) hc (fun hz => ?_)
  have hAO : va_AO (xaname b2) s := by
    obtain ⟨a4, a5, a6, -⟩ := hst.2.2.2.1
    rcases hk1 with (rfl | rfl) | rfl
    · exact a4
    · exact a5
    · exact a6
  refine W.anew hx hb hown (hts _ (xTB_of hw rfl)) (va_AO.use hAO) rfl hd rfl h1 (by omega) hR1' hR2' (fun cA kA comp g1 g2 g3 g4 => ?_)
  have hcA : cA = cy b2 := by
    rcases hk1 with (rfl | rfl) | rfl
    · obtain ⟨kA', comp', -, -, -, h9⟩ := (hst.1.2 4 _ rfl).2
      exact Option.some.inj (g1.symm.trans h9)
    · obtain ⟨kA', comp', -, -, -, h9⟩ := (hst.1.2 5 _ rfl).2
      exact Option.some.inj (g1.symm.trans h9)
    · obtain ⟨kA', comp', -, -, -, h9⟩ := (hst.1.2 6 _ rfl).2
      exact Option.some.inj (g1.symm.trans h9)
  subst hcA
  generalize hH1 : H.push ({ cls := cy b2, slots := Array.replicate n.toNatClampNeg .null, vm := .none } : Cell) = H1
  have z1 : H1.size = sz0 + h.1 + 1 := by rw [← hH1, Array.size_push, hz]
  have e1 : H1[sz0 + h.1]? = some (arrV (cy b2) n.toNatClampNeg (fun _ => .null)) := by rw [← hH1, ← hz, Array.getElem?_push_size, ← arrV_new]
  have o1 : ∀ a : Nat, a < sz0 + h.1 → H1[a]? = H[a]? := fun a ha => by rw [← hH1, Array.getElem?_push, if_neg (by omega)]
  have := xgo_add k hl (xws_push (n := n.toNatClampNeg) hA hn hz hP (fun a h9 => o1 a (by omega)) e1) (xS_push hz hS z1 o1)
  rw [List.map_cons, show xcv ad (.ref h.1) = .ref (sz0 + h.1) from congrArg Value.ref (hA.1 _ (by omega))] at this
  rw [hz]
  exact this

theorem x_step_new (C : xctx D cy ad sz0 L xs q p s mid args meth c) (hA : xadr ad sz0) {nx a1 a2 : Nat} {z : Int} {i : Nat} (hok : xokE cn q pc ((.new i), nx, a1, a2, z) = true) (hcn : q.1 = xown cn) (o : xok L xs h) (hs : xstep ((.new i), nx, a1, a2, z) pc lv st h = some (.inl σ)) (hn : h.1 ≤ 600000) (hm : σ.2.2.2.1 ≤ 600000) (hc : s.heap.size + cells = sz0 + h.1) (hR1 : cells + (σ.2.2.2.1 - h.1) ≤ R.cells) (hR2 : slots + (σ.2.2.2.2.1 - h.2.1) ≤ R.slots) (hfr : 1 ≤ R.frames) (hlo : 64 ≤ R.locals) (hfr5 : 5 ≤ R.frames) (hlo5 : 320 ≤ R.locals) (hl : lv_has ls q.2.2.2.1 (lv.map (xlc ad))) (hP : va_P D vwCl (xws cy ad h) H) (hS : va_S (xA0 sz0) s.heap H locs) (k : xgo p l e R s mid args below meth c cells slots Q D cy ad sz0 q.2.2.2.1 h σ) : W p l e R s mid args below meth c H locs cells slots Q (F0 mid pc ls (st.map (xcv ad))) := by
  obtain ⟨hx, hb, hr, hml, hts, hown, hlk, hnm, hst⟩ := C
  simp only [xokE, xokE2, Bool.and_eq_true, decide_eq_true_eq, Bool.true_and, and_true] at hok
  obtain ⟨⟨hd, hnx⟩, hk⟩ := hok
  simp only [xlen] at hd hnx
  subst hnx
  have hs' : xnewo (.new i, pc + 3, a1, a2, z) lv st h = some (.inl σ) := hs
  unfold xnewo at hs'
  cases hs'
  have hR1' : cells + 1 ≤ R.cells := by have := hR1; simp only [xadd, Nat.add_sub_cancel_left] at this; exact this
  have hR2' : slots + (xdefs a1).length ≤ R.slots := by have := hR2; simp only [xadd, Nat.add_sub_cancel_left] at this; exact this
  obtain ⟨⟨i', hint, b1, b2, w⟩, hm1, hc1⟩ := List.any_eq_true.mp hk
  simp only [Bool.and_eq_true, beq_iff_eq, Bool.not_eq_true', beq_eq_false_iff_ne] at hc1
  obtain ⟨⟨rfl, rfl⟩, hb2⟩ := hc1
  have hw := xC_place cn _ hm1
  have hsd := xC_side cn _ hm1
  rw [← hcn] at hw
  unfold xwdC at hw
  unfold xsdC at hsd
  have hne : ¬ (b1 = 7 ∧ b2 = 2) := fun h9 => hb2 h9.2
  simp only [if_neg hne] at hw hsd
  cases hcl : vwCl[b1]? with
  | none => simp only [hcl] at hsd; cases hsd
  | some t =>
  obtain ⟨C, T, N⟩ := t
  simp only [hcl] at hw
  obtain ⟨ty0, f1, f2, f3, f4, f5⟩ := xcl_facts hcl
  obtain ⟨w1, w2⟩ := xH_place hcl
  have hlen : (xdefs b1).length = N := by unfold xdefs; simp only [hcl, List.length_map, List.length_range]
  rw [hlen] at hR2'
  refine W_size (xsize hA hn hst.2.2.2.2.1 hP hS hc) hc (fun hz => ?_)
  have hKn := hst.1.1 b1 _ hcl
  refine W.newcK hx hb hown (hts _ (xTB_of hw rfl)) (hts _ (xTB_of w1 rfl)) (hts _ (xTB_of w2 rfl)) rfl hd hR1' hR2' hKn.2.1 hz (fun H1 kC hkC e1 z1 o1 => ?_)
  have hfs : ∀ j, j < N → defaultValue (ty0 j) = vp_V ((xdefs b1).map (xcv ad)) j := by
    intro j hj
    unfold xdefs vp_V
    simp only [hcl, List.map_map]
    rw [List.getD_eq_getElem?_getD, List.getElem?_map, List.getElem?_range hj]
    show _ = xcv ad (defaultValue (xfty b1 j))
    rw [f1, xdef_cv]
  have he : va_at D vwCl (sz0 + h.1, xca cy ad (.inr (b1, xdefs b1))) H1 := ⟨_, hcl, (u_born ty0 hts f4 hKn hkC e1 f2).to hfs⟩
  have := xgo_add k hl (xws_push (n := (xdefs b1).length) hA hn hz hP (fun a h9 => o1 a (by omega)) he) (xS_push hz hS z1 o1)
  rw [List.map_cons, show xcv ad (.ref h.1) = .ref (sz0 + h.1) from congrArg Value.ref (hA.1 _ (by omega)), hlen] at this
  exact this

theorem x_step_oinit (C : xctx D cy ad sz0 L xs q p s mid args meth c) (hA : xadr ad sz0) {nx a1 a2 : Nat} {z : Int} {i : Nat} (hok : xokE cn q pc ((.invokespecial i), nx, a1, a2, z) = true) (hcn : q.1 = xown cn) (o : xok L xs h) (hs : xstep ((.invokespecial i), nx, a1, a2, z) pc lv st h = some (.inl σ)) (hn : h.1 ≤ 600000) (hm : σ.2.2.2.1 ≤ 600000) (hc : s.heap.size + cells = sz0 + h.1) (hR1 : cells + (σ.2.2.2.1 - h.1) ≤ R.cells) (hR2 : slots + (σ.2.2.2.2.1 - h.2.1) ≤ R.slots) (hfr : 1 ≤ R.frames) (hlo : 64 ≤ R.locals) (hfr5 : 5 ≤ R.frames) (hlo5 : 320 ≤ R.locals) (hl : lv_has ls q.2.2.2.1 (lv.map (xlc ad))) (hP : va_P D vwCl (xws cy ad h) H) (hS : va_S (xA0 sz0) s.heap H locs) (k : xgo p l e R s mid args below meth c cells slots Q D cy ad sz0 q.2.2.2.1 h σ) : W p l e R s mid args below meth c H locs cells slots Q (F0 mid pc ls (st.map (xcv ad))) := by
  obtain ⟨hx, hb, hr, hml, hts, hown, hlk, hnm, hst⟩ := C
  simp only [xokE, xokE2, Bool.and_eq_true, decide_eq_true_eq, Bool.true_and, and_true] at hok
  obtain ⟨⟨hd, hnx⟩, hk⟩ := hok
  simp only [xlen] at hd hnx
  subst hnx
  obtain ⟨hk, hk2⟩ := hk
  have hs' : (if a1 = 9999 then xoinit (.invokespecial i, pc + 3, a1, a2, z) lv st h else none) = some (.inl σ) := hs
  by_cases h9 : a1 = 9999
  · rw [if_pos h9] at hs' hk2
    simp only [decide_eq_true_eq] at hk2
    obtain ⟨a, r, hsum, rfl, rfl⟩ := xoinit_inv hs'
    obtain ⟨hint, hm2⟩ := xpool_in hk
    have hw := xM_place cn _ hm2
    rw [← hcn] at hw
    unfold xwdM at hw
    subst h9
    subst hk2
    have hw : Cond.methodLink q.1 i Lib.objectInit ∈ lw_tbl := hw
    have hcat : ((r.map (xcv ad)).map fun v => v.category).sum ≤ 8 := by rw [xcats]; exact hsum
    refine W.objInit hx hb hown (hts _ (xTB_of hw rfl)) (hts _ (xTB_of xo_inst rfl)) (hts _ (xTB_of xo_code rfl)) rfl (by rw [hml]; exact hl.1) rfl hd hfr ?_ (xgo_same k hl hP hS)
    have := lv_room (m := mid) (pc := pc) (ls := ls) (rest := r.map (xcv ad)) hcat
    exact Nat.le_trans (Nat.add_le_add_right this 12) (by omega)
  · rw [if_neg h9] at hs'; cases hs'

theorem x_step_ivirt (C : xctx D cy ad sz0 L xs q p s mid args meth c) (hA : xadr ad sz0) {nx a1 a2 : Nat} {z : Int} {i : Nat} (hok : xokE cn q pc ((.invokevirtual i), nx, a1, a2, z) = true) (hcn : q.1 = xown cn) (o : xok L xs h) (hs : xstep ((.invokevirtual i), nx, a1, a2, z) pc lv st h = some (.inl σ)) (hn : h.1 ≤ 600000) (hm : σ.2.2.2.1 ≤ 600000) (hc : s.heap.size + cells = sz0 + h.1) (hR1 : cells + (σ.2.2.2.1 - h.1) ≤ R.cells) (hR2 : slots + (σ.2.2.2.2.1 - h.2.1) ≤ R.slots) (hfr : 1 ≤ R.frames) (hlo : 64 ≤ R.locals) (hfr5 : 5 ≤ R.frames) (hlo5 : 320 ≤ R.locals) (hl : lv_has ls q.2.2.2.1 (lv.map (xlc ad))) (hP : va_P D vwCl (xws cy ad h) H) (hS : va_S (xA0 sz0) s.heap H locs) (k : xgo p l e R s mid args below meth c cells slots Q D cy ad sz0 q.2.2.2.1 h σ) : W p l e R s mid args below meth c H locs cells slots Q (F0 mid pc ls (st.map (xcv ad))) := by
  obtain ⟨hx, hb, hr, hml, hts, hown, hlk, hnm, hst⟩ := C
  simp only [xokE, xokE2, Bool.and_eq_true, decide_eq_true_eq, Bool.true_and, and_true] at hok
  obtain ⟨⟨hd, hnx⟩, hk⟩ := hok
  simp only [xlen] at hd hnx
  subst hnx
  obtain ⟨hk, hk2⟩ := hk
  have hs' : (if a1 = 9998 then xslen (.invokevirtual i, pc + 3, a1, a2, z) lv st h else if a1 = 9997 then xschr (.invokevirtual i, pc + 3, a1, a2, z) lv st h else none) = some (.inl σ) := hs
  obtain ⟨hint, hm2⟩ := xpool_in hk
  have hw := xM_place cn _ hm2
  rw [← hcn] at hw
  unfold xwdM at hw
  obtain ⟨-, -, -, -, hsz, -, -, ⟨adV, hvs⟩, hcs, hfm⟩ := id hst
  by_cases h9 : a1 = 9998
  · rw [if_pos h9] at hs'
    rw [if_pos (Or.inl h9)] at hk2
    simp only [decide_eq_true_eq] at hk2
    subst h9
    subst hk2
    have hw : Cond.methodLink q.1 i yJ0_length_8abf5 ∈ lw_tbl := hw
    obtain ⟨a, r, ha, hsum, rfl, rfl⟩ := xslen_inv hs'
    have hcat : ((r.map (xcv ad)).map fun v => v.category).sum ≤ 8 := by rw [xcats]; exact hsum
    obtain ⟨j, hj, rfl⟩ : ∃ j, j < 2 ∧ a = 1000001 + j := by
      rcases ha with rfl | rfl
      · exact ⟨0, by decide, rfl⟩
      · exact ⟨1, by decide, rfl⟩
    refine x_contS (va_runV (As := []) (rest := r.map (xcv ad)) ⟨hx, hb, hml, hown, hts⟩ (xc_length (D := D) (cy := cy) (L := L) (xs := xs) hA hj) ⟨callB_of 0 hts (xjw_good xj_le_c) rfl rfl rfl (hts _ xj_i0) (hts _ (xTB_of hw rfl)) (by decide +kernel) ⟨by show 1 + 1 ≤ R.frames; omega, by show 8 + (1 + 11) + 20 ≤ R.locals; omega⟩, hts _ xj_le_i, hts _ xj_le_s⟩ ⟨xPs_blind hA, vk_recv hvs hj hS, fun U hU hW => ⟨rfl, xsta_moved hA hW (by rw [hU]; exact hS.1) (fun q h1 h2 => by rw [hU]; exact hS.2.1 q h1 h2) hst⟩⟩ rfl rfl hl.1 rfl (lv_room hcat) hd ⟨by show cells + 0 ≤ _; omega, by show slots + 0 ≤ _; omega⟩) hS (fun locs1 hS1 => ?_)
    have kk := xgo_same k hl hP hS1
    have e9 : Int32.ofNat (xby (1000001 + j - 1000001)).length = Int32.ofNat (xlens.getD j 0) := by
      rw [Nat.add_sub_cancel_left, (xby_at hj).2]
    rw [e9] at kk
    exact kk
  · rw [if_neg h9] at hs'
    by_cases h8 : a1 = 9997
    · rw [if_pos h8] at hs'
      rw [if_pos (Or.inr h8)] at hk2
      simp only [decide_eq_true_eq] at hk2
      subst h8
      subst hk2
      have hw : Cond.methodLink q.1 i yJ0_charAt_5068e ∈ lw_tbl := hw
      obtain ⟨x, a, r, ha, hsum, hxin, rfl, rfl⟩ := xschr_inv hs'
      have hcat : ((r.map (xcv ad)).map fun v => v.category).sum ≤ 8 := by rw [xcats]; exact hsum
      obtain ⟨j, hj, rfl⟩ : ∃ j, j < 2 ∧ a = 1000001 + j := by
        rcases ha with rfl | rfl
        · exact ⟨0, by decide, rfl⟩
        · exact ⟨1, by decide, rfl⟩
      have e8 : xby (1000001 + j - 1000001) = xbyts.getD j [] := by
        rw [Nat.add_sub_cancel_left, (xby_at hj).1]
      have e7 : (xbyts.getD j []).length = xlens.getD j 0 := by
        rw [← (xby_at hj).1, (xby_at hj).2]
      rw [e8, e7] at hxin
      have hin := xin_vp hxin
      have hlt0 : x.toNatClampNeg < (xbyts.getD j []).length := by
        rw [e7]
        exact Nat.not_le.mp fun q => hin (Or.inr q)
      have hbig : xlens.getD j 0 < 2 ^ 31 := by
        rw [← e7]
        exact (xsm_all j hj).1
      have hsm : xsmall ((xbyts.getD j []).getD x.toNatClampNeg 0) := by
        rw [List.getD_eq_getElem?_getD, List.getElem?_eq_getElem hlt0]
        exact (xsm_all j hj).2 _ (List.getElem_mem hlt0)
      have hlt : x < Int32.ofNat (xlens.getD j 0) := by
        obtain ⟨m9, hm9, rfl⟩ := vp_in_of hin hbig
        exact nI_lt hm9 hbig
      refine x_contS (va_runV (As := [.int x]) (rest := r.map (xcv ad)) ⟨hx, hb, hml, hown, hts⟩ (xc_char (D := D) (cy := cy) (L := L) (xs := xs) hA hj hin hlt hsm) ⟨callB_of 1 hts (xjw_good xj_ch_c) rfl rfl rfl (hts _ xj_i0) (hts _ (xTB_of hw rfl)) (by decide +kernel) ⟨by show 3 + 1 ≤ R.frames; omega, by show 8 + (2 + 11) + 64 ≤ R.locals; omega⟩, hts _ xj_ch_i, hts _ xj_ch_s⟩ ⟨xPs_blind hA, vk_recv hvs hj hS, fun U hU hW => ⟨rfl, xsta_moved hA hW (by rw [hU]; exact hS.1) (fun q h1 h2 => by rw [hU]; exact hS.2.1 q h1 h2) hst⟩⟩ rfl rfl hl.1 rfl (lv_room hcat) hd ⟨by show cells + 0 ≤ _; omega, by show slots + 0 ≤ _; omega⟩) hS (fun locs1 hS1 => ?_)
      have kk := xgo_same k hl hP hS1
      rw [e8] at kk
      exact kk
    · rw [if_neg h8] at hs'; cases hs'

theorem x_step_istat (C : xctx D cy ad sz0 L xs q p s mid args meth c) (hA : xadr ad sz0) {nx a1 a2 : Nat} {z : Int} {i : Nat} (hok : xokE cn q pc ((.invokestatic i), nx, a1, a2, z) = true) (hcn : q.1 = xown cn) (o : xok L xs h) (hs : xstep ((.invokestatic i), nx, a1, a2, z) pc lv st h = some (.inl σ)) (hn : h.1 ≤ 600000) (hm : σ.2.2.2.1 ≤ 600000) (hc : s.heap.size + cells = sz0 + h.1) (hR1 : cells + (σ.2.2.2.1 - h.1) ≤ R.cells) (hR2 : slots + (σ.2.2.2.2.1 - h.2.1) ≤ R.slots) (hfr : 1 ≤ R.frames) (hlo : 64 ≤ R.locals) (hfr5 : 5 ≤ R.frames) (hlo5 : 320 ≤ R.locals) (hl : lv_has ls q.2.2.2.1 (lv.map (xlc ad))) (hP : va_P D vwCl (xws cy ad h) H) (hS : va_S (xA0 sz0) s.heap H locs) (k : xgo p l e R s mid args below meth c cells slots Q D cy ad sz0 q.2.2.2.1 h σ) : W p l e R s mid args below meth c H locs cells slots Q (F0 mid pc ls (st.map (xcv ad))) := by
  obtain ⟨hx, hb, hr, hml, hts, hown, hlk, hnm, hst⟩ := C
  simp only [xokE, xokE2, Bool.and_eq_true, decide_eq_true_eq, Bool.true_and, and_true] at hok
  obtain ⟨⟨hd, hnx⟩, hk⟩ := hok
  simp only [xlen] at hd hnx
  subst hnx
  obtain ⟨hk, hk2⟩ := hk
  have hs' : (if a1 = 9996 then xcopy (.invokestatic i, pc + 3, a1, a2, z) lv st h else if a1 = 9995 then xmm (.invokestatic i, pc + 3, a1, a2, z) (fun x y => if x < y then y else x) lv st h else if a1 = 9994 then xmm (.invokestatic i, pc + 3, a1, a2, z) (fun x y => if y < x then y else x) lv st h else none) = some (.inl σ) := hs
  obtain ⟨hint, hm2⟩ := xpool_in hk
  have hw := xM_place cn _ hm2
  rw [← hcn] at hw
  unfold xwdM at hw
  have hml2 : c.maxLocals = ls.size := hml.trans hl.1.symm
  by_cases h9 : a1 = 9996
  · rw [if_pos h9] at hs'
    rw [if_pos (Or.inl h9)] at hk2
    simp only [decide_eq_true_eq] at hk2
    subst h9
    subst hk2
    have hw : Cond.methodLink q.1 i arraycopyName ∈ lw_tbl := hw
    obtain ⟨n, dp, b, sp, a, r, ⟨c1, c2, c3, c4⟩, rfl, hh⟩ := xcopy_inv hs'
    have hcat : ((r.map (xcv ad)).map fun v => v.category).sum ≤ 8 := by rw [xcats]; exact c4
    have hloc : ((r.map (xcv ad)).map fun v => v.category).sum + (nativeFrameWords "java/lang/System" "arraycopy" 5 + 11) ≤ R.locals := Nat.le_trans (Nat.add_le_add hcat (show nativeFrameWords "java/lang/System" "arraycopy" 5 + 11 ≤ 56 by decide +kernel)) hlo
    have hD := xws_D (cy := cy) hA hn
    rcases hh with ⟨n0, n1, f, g, ha, hb', h4, h5, rfl⟩ | ⟨n0, n1, f, g, ha, hb', h4, h5, rfl⟩
    · have la : a < h.1 := o.arr ha (by decide)
      have lb : b < h.1 := o.arr hb' (by decide)
      have ga := xws_get (cy := cy) (ad := ad) la
      have gb := xws_get (cy := cy) (ad := ad) lb
      rw [ha] at ga
      rw [hb'] at gb
      exact va_copyi hx hb hml2 hown (hts _ (xTB_of hw rfl)) (hts _ (xTB_of xo_nat rfl)) (hts _ (xTB_of xo_sta rfl)) (hts _ (xTB_of xo_sys rfl)) hst.1 hP hD hS a b 0 0 ga gb rfl rfl rfl c3 c2 c1 h4 h5 (fun _ _ => rfl) hfr hloc hd (fun H1 locs1 p1 _ p3 => xgo_put k hl (by rw [← xws_put lb]; exact p1) p3)
    · have la : a < h.1 := o.arr ha (by decide)
      have lb : b < h.1 := o.arr hb' (by decide)
      have ga := xws_get (cy := cy) (ad := ad) la
      have gb := xws_get (cy := cy) (ad := ad) lb
      rw [ha] at ga
      rw [hb'] at gb
      exact va_copyl hx hb hml2 hown (hts _ (xTB_of hw rfl)) (hts _ (xTB_of xo_nat rfl)) (hts _ (xTB_of xo_sta rfl)) (hts _ (xTB_of xo_sys rfl)) hst.1 hP hD hS a b 1 1 ga gb rfl rfl rfl c3 c2 c1 h4 h5 (fun _ _ => rfl) hfr hloc hd (fun H1 locs1 p1 _ p3 => xgo_put k hl (by rw [← xws_put lb]; exact p1) p3)
  · rw [if_neg h9] at hs'
    by_cases h8 : a1 = 9995
    · rw [if_pos h8] at hs'
      rw [if_pos (Or.inr (Or.inl h8))] at hk2
      simp only [decide_eq_true_eq] at hk2
      subst h8
      subst hk2
      have hw : Cond.methodLink q.1 i Lib.Math.max.name ∈ lw_tbl := hw
      obtain ⟨x, y, r, c4, rfl, rfl⟩ := xmm_inv hs'
      have hcat : ((r.map (xcv ad)).map fun v => v.category).sum ≤ 8 := by rw [xcats]; exact c4
      exact va_mmax hx hb hml2 hown (hts _ (xTB_of hw rfl)) (hts _ (xTB_of xo_mxs rfl)) (hts _ (xTB_of xo_mth rfl)) (hts _ (xTB_of xo_mxc rfl)) hfr (by omega) (by have := hR1; omega) (by have := hR2; omega) hd (xgo_same k hl hP hS)
    · rw [if_neg h8] at hs'
      by_cases h7 : a1 = 9994
      · rw [if_pos h7] at hs'
        rw [if_pos (Or.inr (Or.inr h7))] at hk2
        simp only [decide_eq_true_eq] at hk2
        subst h7
        subst hk2
        have hw : Cond.methodLink q.1 i Lib.Math.min.name ∈ lw_tbl := hw
        obtain ⟨x, y, r, c4, rfl, rfl⟩ := xmm_inv hs'
        have hcat : ((r.map (xcv ad)).map fun v => v.category).sum ≤ 8 := by rw [xcats]; exact c4
        exact va_mmin hx hb hml2 hown (hts _ (xTB_of hw rfl)) (hts _ (xTB_of xo_mns rfl)) (hts _ (xTB_of xo_mth rfl)) (hts _ (xTB_of xo_mnc rfl)) hfr (by omega) (by have := hR1; omega) (by have := hR2; omega) hd (xgo_same k hl hP hS)
      · rw [if_neg h7] at hs'; cases hs'

theorem x_step_mna (C : xctx D cy ad sz0 L xs q p s mid args meth c) (hA : xadr ad sz0) {nx a1 a2 : Nat} {z : Int} {i n2 : Nat} (hok : xokE cn q pc ((.multianewarray i n2), nx, a1, a2, z) = true) (hcn : q.1 = xown cn) (o : xok L xs h) (hs : xstep ((.multianewarray i n2), nx, a1, a2, z) pc lv st h = some (.inl σ)) (hn : h.1 ≤ 600000) (hm : σ.2.2.2.1 ≤ 600000) (hc : s.heap.size + cells = sz0 + h.1) (hR1 : cells + (σ.2.2.2.1 - h.1) ≤ R.cells) (hR2 : slots + (σ.2.2.2.2.1 - h.2.1) ≤ R.slots) (hfr : 1 ≤ R.frames) (hlo : 64 ≤ R.locals) (hfr5 : 5 ≤ R.frames) (hlo5 : 320 ≤ R.locals) (hl : lv_has ls q.2.2.2.1 (lv.map (xlc ad))) (hP : va_P D vwCl (xws cy ad h) H) (hS : va_S (xA0 sz0) s.heap H locs) (k : xgo p l e R s mid args below meth c cells slots Q D cy ad sz0 q.2.2.2.1 h σ) : W p l e R s mid args below meth c H locs cells slots Q (F0 mid pc ls (st.map (xcv ad))) := by
  obtain ⟨hx, hb, hr, hml, hts, hown, hlk, hnm, hst⟩ := C
  simp only [xokE, xokE2, Bool.and_eq_true, decide_eq_true_eq, Bool.true_and, and_true] at hok
  obtain ⟨⟨hd, hnx⟩, hk⟩ := hok
  simp only [xlen] at hd hnx
  subst hnx
  obtain ⟨hk1, hk2⟩ := hk
  subst hk1
  have hs' : xmna (.multianewarray i 2, pc + 4, a1, a2, z) lv st h = some (.inl σ) := hs
  unfold xmna at hs'
  split at hs'
  · next k9 n9 r =>
    split at hs'
    · next hnk =>
      cases hs'
      obtain ⟨rfl, rfl⟩ := hnk
      obtain ⟨⟨i', hint, b1, b2, w⟩, hm1, hc1⟩ := List.any_eq_true.mp hk2
      simp only [Bool.and_eq_true, beq_iff_eq] at hc1
      obtain ⟨⟨rfl, rfl⟩, rfl⟩ := hc1
      have hw := xC_place cn _ hm1
      rw [← hcn] at hw
      unfold xwdC at hw
      rw [if_pos ⟨rfl, rfl⟩] at hw
      have hm5 : h.1 + 5 ≤ 600000 := hm
      have hR1' : cells + 5 ≤ R.cells := by have : cells + (h.1 + 5 - h.1) ≤ R.cells := hR1; omega
      have hR2' : slots + 244 ≤ R.slots := by have : slots + (h.2.1 + 244 - h.2.1) ≤ R.slots := hR2; omega
      refine W_size (xsize hA hn hst.2.2.2.2.1 hP hS hc) hc (fun hz => ?_)
      intro T hT Xs
      obtain ⟨vm₁, cA, comp, -, fA, fC, hO, -, X', step⟩ := Xs.multianewarray2F hx hown (ty := .long) (hts _ (xTB_of hw rfl)) (va_AOA.use hst.2.2.2.1.2.2.2) (hts _ (xTB_of (xo_arr .long (by decide)) rfl)) (g := F0 mid pc ls (.int 60 :: .int 4 :: r.map (xcv ad))) rfl (by rw [hb]; exact hd) rfl (by decide) (by decide) (by decide) (by decide +kernel) (by decide) rfl rfl (by show cells + (1 + 4) ≤ R.cells; omega) (by show slots + (4 + 4 * 60) ≤ R.slots; omega)
      have ecA : cA = cy 7 := Option.some.inj (fA.symm.trans (hst.1.2 7 _ rfl).2)
      have eco : comp = cy 1 := Option.some.inj (fC.symm.trans (hst.1.2 1 _ rfl).2)
      subst ecA
      subst eco
      have X' : Stand p l e R s mid args below meth c (Jvm.Free.Multi.fill (T.setVm vm₁) (cy 7) (cy 1) 4 60 (.long 0) 4) locs (cells + 1 + 4) (slots + 4 + 4 * 60) := X'
      have step : ∀ target, Steps p.tables e below ((Jvm.Free.Multi.fill (T.setVm vm₁) (cy 7) (cy 1) 4 60 (.long 0) 4).setTop (F0 mid (pc + 4) ls (.ref T.heap.size :: r.map (xcv ad)))) target → Steps p.tables e below (T.setTop (F0 mid pc ls (.int 60 :: .int 4 :: r.map (xcv ad)))) target := step
      obtain ⟨f1, f2, -, -⟩ := Jvm.Free.Multi.fill_facts (T.setVm vm₁) (cy 7) (cy 1) 4 60 (.long 0) 4
      have hold : ∀ x : Nat, x < H.size → (Jvm.Free.Multi.fill (T.setVm vm₁) (cy 7) (cy 1) 4 60 (.long 0) 4).heap[x]? = H[x]? := fun x hx9 => by
        have := Jvm.Free.Multi.fill_old (T.setVm vm₁) (cy 7) (cy 1) 4 60 (.long 0) (a := x) (by show x < T.heap.size; rw [hT]; exact hx9) 4
        rw [this]
        show T.heap[x]? = _
        rw [hT]
      have hrow : ∀ j : Nat, j < 4 → (Jvm.Free.Multi.fill (T.setVm vm₁) (cy 7) (cy 1) 4 60 (.long 0) 4).heap[H.size + 1 + j]? = some (vp_cell (cy 1) (60, .inr (.inl (fun _ => 0)))) := fun j hj => by
        have := Jvm.Free.Multi.fill_inner (T.setVm vm₁) (cy 7) (cy 1) 4 60 (.long 0) 4 j hj
        have eH : (T.setVm vm₁).heap.size = H.size := by show T.heap.size = _; rw [hT]
        rw [eH] at this
        rw [this]
        refine congrArg some ?_
        show ({ cls := cy 1, slots := Array.replicate 60 (.long 0), vm := .none } : Cell) = _
        rw [arrV_new]
        rfl
      have eH : (T.setVm vm₁).heap.size = H.size := by show T.heap.size = _; rw [hT]
      rw [eH] at f1 f2
      have hout : Jvm.Free.Multi.outerC (cy 7) 4 H.size 4 = vp_cell (cy 7) (4, .inr (.inr (.inr (.inr (fun i => if i < 4 then some (H.size + 1 + i) else none))))) := by
        rw [vp_cell_q]
        exact vr_outer (cy 7) 4 H.size 4
      rw [hout] at f2
      generalize Jvm.Free.Multi.fill (T.setVm vm₁) (cy 7) (cy 1) 4 60 (.long 0) 4 = F at X' step f1 f2 hold hrow
      have hP' : va_P D vwCl (xws cy ad (h.1 + 5, h.2.1 + 244, fun a => if a = h.1 then .inl (7, 4, .inr (.inr (.inr (.inr (fun i => if i < 4 then some (h.1 + 1 + i) else none))))) else if h.1 < a ∧ a < h.1 + 5 then .inl (1, 60, .inr (.inl (fun _ => 0))) else h.2.2 a)) F.heap := by
        intro k9 x hx9
        by_cases hk9 : k9 < h.1 + 5
        · rw [xws_get (show k9 < (h.1 + 5, h.2.1 + 244, _).1 from hk9)] at hx9
          cases hx9
          by_cases c1 : k9 = h.1
          · subst c1
            show va_at D vwCl (ad h.1, xca cy ad (if h.1 = h.1 then _ else _)) F.heap
            rw [if_pos rfl]
            show F.heap[ad h.1]? = some (vp_cell (cy 7) (4, .inr (.inr (.inr (.inr (fun i => ((if i < 4 then some (h.1 + 1 + i) else none) : Option Nat).map ad))))))
            rw [hA.1 h.1 (by omega), ← hz, f2]
            refine congrArg some (congrArg (vp_cell (cy 7)) ?_)
            refine congrArg (Prod.mk 4) (congrArg Sum.inr (congrArg Sum.inr (congrArg Sum.inr (congrArg Sum.inr (funext fun i => ?_)))))
            by_cases hi : i < 4
            · rw [if_pos hi, if_pos hi]
              show some (H.size + 1 + i) = some (ad (h.1 + 1 + i))
              rw [hA.1 _ (by omega), hz]
              refine congrArg some ?_
              omega
            · rw [if_neg hi, if_neg hi]
              rfl
          · by_cases c2 : h.1 < k9 ∧ k9 < h.1 + 5
            · show va_at D vwCl (ad k9, xca cy ad (if k9 = h.1 then _ else if h.1 < k9 ∧ k9 < h.1 + 5 then _ else _)) F.heap
              rw [if_neg c1, if_pos c2]
              show F.heap[ad k9]? = some (vp_cell (cy 1) (60, .inr (.inl (fun _ => 0))))
              have := hrow (k9 - h.1 - 1) (by omega)
              rw [hA.1 k9 (by omega)]
              rw [show H.size + 1 + (k9 - h.1 - 1) = s.heap.size + cells + (k9 - h.1) by omega] at this
              rw [show sz0 + k9 = s.heap.size + cells + (k9 - h.1) by omega]
              exact this
            · show va_at D vwCl (ad k9, xca cy ad (if k9 = h.1 then _ else if h.1 < k9 ∧ k9 < h.1 + 5 then _ else h.2.2 k9)) F.heap
              rw [if_neg c1, if_neg c2]
              have h8 := hP k9 _ (xws_get (show k9 < h.1 by omega))
              exact h8.kept (hold _ h8.lt)
        · rw [xws_none (show ¬ k9 < (h.1 + 5, h.2.1 + 244, _).1 from hk9)] at hx9
          cases hx9
      have hS' : va_S (xA0 sz0) s.heap F.heap locs := ⟨by have := hS.1; omega, fun x h8 h9 => (hold x (Nat.lt_of_lt_of_le h8 hS.1)).trans (hS.2.1 x h8 h9), hS.2.2⟩
      have kk := k ls F.heap locs hl hP' hS'
      have e1 : cells + (h.1 + 5 - h.1) = cells + 1 + 4 := by omega
      have e2 : slots + (h.2.1 + 244 - h.2.1) = slots + 4 + 4 * 60 := by omega
      have kk : W p l e R s mid args below meth c F.heap locs (cells + (h.1 + 5 - h.1)) (slots + (h.2.1 + 244 - h.2.1)) Q (F0 mid (pc + 4) ls (.ref (ad h.1) :: r.map (xcv ad))) := kk
      rw [e1, e2, hA.1 h.1 (by omega), ← hz] at kk
      obtain ⟨t, q1, q2⟩ := kk F rfl X'
      refine ⟨t, step t ?_, q2⟩
      rw [hT]
      exact q1
    · cases hs'
  · cases hs'

end XSTEP2
