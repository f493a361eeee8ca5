/-! what holds of the start goes with the machine's tables, as long as nothing old is written -/
theorem va_AOA.moved {ty : FieldType} {u U : State} (hvm : u.vm.Alike U.vm) (h : va_AOA ty u) : va_AOA ty U := arrayOver_alikeB hvm h
theorem xsta_moved {D : va_G} {cy : Nat → ClassId} {ad : Nat → Nat} {sz0 L : Nat} {xs : Nat → Int32} {s U : State} (hA : xadr ad sz0) (hW : s.WarmedH U.vm) (hsz : s.heap.size ≤ U.heap.size) (hH : ∀ q : Nat, q < s.heap.size → ¬ xA0 sz0 q → U.heap[q]? = s.heap[q]?) (h : xsta D cy ad sz0 L xs s) : xsta D cy ad sz0 L xs U := by
  obtain ⟨h1, h2, h3, ⟨a1, a2, a3, a4⟩, h5, r1, r2, ⟨adV, r3⟩, r4, r5⟩ := h
  have hv := hW.alike
  refine ⟨va_K.moved hv h1, (va_X.moved hv h2).kept (hH _ (Nat.lt_of_lt_of_le hA.2.1 h5) (Nat.not_le.mpr hA.2.1)), fun w hw => ?_, ⟨a1.moved hv, a2.moved hv, a3.moved hv, a4.moved hv⟩, Nat.le_trans h5 hsz, r1.warm hW, r2.warm hW, ⟨adV, (vk_S.moved hv r3).kept hH⟩, (va_Z.moved hv r4).kept hH, (va_Zq.moved hv r5).kept hH⟩
  have h9 := h3 w hw
  have hn := (List.mem_filter.mp hw).2
  cases w <;> first | exact va_Nw.warmF hW h9 | exact va_Nw.warmM hW h9 | (simp [xisnest] at hn; done)

set_option maxRecDepth 100000 in
theorem xj_co_i : (Cond.instanceMethod yJ0_coder_7d493) ∈ xTB := xTB_of (List.mem_of_getElem? (i := 209) (by rfl)) rfl
set_option maxRecDepth 100000 in
theorem xj_co_s : (Cond.selects RJ0 yJ0_coder_7d493 yJ0_coder_7d493) ∈ xTB := xTB_of (List.mem_of_getElem? (i := 210) (by rfl)) rfl
set_option maxRecDepth 100000 in
theorem xj_co_c : (Cond.code yJ0_coder_7d493 cJ0_coder_7d493 1 (some .byte)) ∈ xTB := xTB_of (List.mem_of_getElem? (i := 211) (by rfl)) rfl
set_option maxRecDepth 100000 in
theorem xj_co_l : (Cond.methodLink RJ0 335 yJ0_coder_7d493) ∈ xTB := xTB_of (List.mem_of_getElem? (i := 208) (by rfl)) rfl
set_option maxRecDepth 100000 in
theorem xj_f38 : (Cond.fieldLink RJ0 38 "java/lang/String" "COMPACT_STRINGS" "Z") ∈ xTB := xTB_of (List.mem_of_getElem? (i := 212) (by rfl)) rfl
set_option maxRecDepth 100000 in
theorem xj_f15 : (Cond.fieldLink RJ0 15 "java/lang/String" "coder" "B") ∈ xTB := xTB_of (List.mem_of_getElem? (i := 2271) (by rfl)) rfl
set_option maxRecDepth 100000 in
theorem xj_f9 : (Cond.fieldLink RJ0 9 "java/lang/String" "value" "[B") ∈ xTB := xTB_of (List.mem_of_getElem? (i := 2270) (by rfl)) rfl
set_option maxRecDepth 100000 in
theorem xj_le_i : (Cond.instanceMethod yJ0_length_8abf5) ∈ xTB := xTB_of (List.mem_of_getElem? (i := 205) (by rfl)) rfl
set_option maxRecDepth 100000 in
theorem xj_le_s : (Cond.selects RJ0 yJ0_length_8abf5 yJ0_length_8abf5) ∈ xTB := xTB_of (List.mem_of_getElem? (i := 206) (by rfl)) rfl
set_option maxRecDepth 100000 in
theorem xj_le_c : (Cond.code yJ0_length_8abf5 cJ0_length_8abf5 1 (some .int)) ∈ xTB := xTB_of (List.mem_of_getElem? (i := 207) (by rfl)) rfl
set_option maxRecDepth 100000 in
theorem xj_ch_i : (Cond.instanceMethod yJ0_charAt_5068e) ∈ xTB := xTB_of (List.mem_of_getElem? (i := 215) (by rfl)) rfl
set_option maxRecDepth 100000 in
theorem xj_ch_s : (Cond.selects RJ0 yJ0_charAt_5068e yJ0_charAt_5068e) ∈ xTB := xTB_of (List.mem_of_getElem? (i := 216) (by rfl)) rfl
set_option maxRecDepth 100000 in
theorem xj_ch_c : (Cond.code yJ0_charAt_5068e cJ0_charAt_5068e 2 (some .char)) ∈ xTB := xTB_of (List.mem_of_getElem? (i := 217) (by rfl)) rfl
set_option maxRecDepth 100000 in
theorem xj_la_l : (Cond.methodLink RJ0 492 yJ0_isLatin1_aae02) ∈ xTB := xTB_of (List.mem_of_getElem? (i := 218) (by rfl)) rfl
set_option maxRecDepth 100000 in
theorem xj_la_i : (Cond.instanceMethod yJ0_isLatin1_aae02) ∈ xTB := xTB_of (List.mem_of_getElem? (i := 219) (by rfl)) rfl
set_option maxRecDepth 100000 in
theorem xj_la_s : (Cond.selects RJ0 yJ0_isLatin1_aae02 yJ0_isLatin1_aae02) ∈ xTB := xTB_of (List.mem_of_getElem? (i := 220) (by rfl)) rfl
set_option maxRecDepth 100000 in
theorem xj_la_c : (Cond.code yJ0_isLatin1_aae02 cJ0_isLatin1_aae02 1 (some .boolean)) ∈ xTB := xTB_of (List.mem_of_getElem? (i := 221) (by rfl)) rfl
set_option maxRecDepth 100000 in
theorem xj_lc_l : (Cond.methodLink RJ0 495 yJ1_charAt_3b067) ∈ xTB := xTB_of (List.mem_of_getElem? (i := 222) (by rfl)) rfl
set_option maxRecDepth 100000 in
theorem xj_lc_t : (Cond.static yJ1_charAt_3b067) ∈ xTB := xTB_of (List.mem_of_getElem? (i := 223) (by rfl)) rfl
set_option maxRecDepth 100000 in
theorem xj_lc_c : (Cond.code yJ1_charAt_3b067 cJ1_charAt_3b067 2 (some .char)) ∈ xTB := xTB_of (List.mem_of_getElem? (i := 224) (by rfl)) rfl
set_option maxRecDepth 100000 in
theorem xj_ck_l : (Cond.methodLink RJ1 9 yJ0_checkIndex_df160) ∈ xTB := xTB_of (List.mem_of_getElem? (i := 225) (by rfl)) rfl
set_option maxRecDepth 100000 in
theorem xj_ck_t : (Cond.static yJ0_checkIndex_df160) ∈ xTB := xTB_of (List.mem_of_getElem? (i := 226) (by rfl)) rfl
set_option maxRecDepth 100000 in
theorem xj_ck_c : (Cond.code yJ0_checkIndex_df160 cJ0_checkIndex_df160 2 none) ∈ xTB := xTB_of (List.mem_of_getElem? (i := 227) (by rfl)) rfl
set_option maxRecDepth 100000 in
theorem xj_f53 : (Cond.fieldLink RJ0 1053 "jdk/internal/util/Preconditions" "SIOOBE_FORMATTER" "Ljava/util/function/BiFunction;") ∈ xTB := xTB_of (List.mem_of_getElem? (i := 228) (by rfl)) rfl
set_option maxRecDepth 100000 in
theorem xj_pc_l : (Cond.methodLink RJ0 1059 yJ3_checkIndex_8e157) ∈ xTB := xTB_of (List.mem_of_getElem? (i := 230) (by rfl)) rfl
set_option maxRecDepth 100000 in
theorem xj_pc_t : (Cond.static yJ3_checkIndex_8e157) ∈ xTB := xTB_of (List.mem_of_getElem? (i := 231) (by rfl)) rfl
set_option maxRecDepth 100000 in
theorem xj_pc_c : (Cond.code yJ3_checkIndex_8e157 cJ3_checkIndex_8e157 3 (some .int)) ∈ xTB := xTB_of (List.mem_of_getElem? (i := 232) (by rfl)) rfl
set_option maxRecDepth 100000 in
theorem xj_i0 : (Cond.initialized RJ0) ∈ xTB := xTB_of (List.mem_of_getElem? (i := 151) (by rfl)) rfl
set_option maxRecDepth 100000 in
theorem xj_i1 : (Cond.initialized RJ1) ∈ xTB := xTB_of (List.mem_of_getElem? (i := 152) (by rfl)) rfl
set_option maxRecDepth 100000 in
theorem xj_i3 : (Cond.initialized RJ3) ∈ xTB := xTB_of (List.mem_of_getElem? (i := 153) (by rfl)) rfl
def xQs (v : Option Value) : Array Value → State → Outcome → State → Prop := fun _ st oc t => oc = .returned v ∧ t.heap = st.heap
def xjw (y : MethodName) (cc : ByteArray) (n : Nat) (r : Option FieldType) : List Cond := Cond.code y cc n r :: xTB
theorem xjw_good {y : MethodName} {cc : ByteArray} {n : Nat} {r : Option FieldType} (h : Cond.code y cc n r ∈ xTB) : GoodIn xTB (xjw y cc n r) := by
  intro w hw
  rcases List.mem_cons.mp hw with rfl | hw
  · exact ⟨h, xTB_good _ h⟩
  · exact ⟨hw, xTB_good w hw⟩
section XSTR
variable {l : Launch} {D : va_G} {cy : Nat → ClassId} {ad : Nat → Nat} {sz0 L : Nat} {xs : Nat → Int32}
abbrev xPs (D : va_G) (cy : Nat → ClassId) (ad : Nat → Nat) (sz0 L : Nat) (xs : Nat → Int32) (as : List Value) : Array Value → State → Prop := va_Pc as (fun U => xsta D cy ad sz0 L xs U)
theorem xPs_blind (hA : xadr ad sz0) {as : List Value} : FrameBlind (xPs D cy ad sz0 L xs as) := fun a U g mk q => by
  obtain ⟨h0, h2⟩ := q
  exact ⟨h0, xsta_moved (U := U.calling g mk a) hA (show U.WarmedH (U.calling g mk a).vm from State.WarmedH.refl U) (Nat.le_refl _) (fun _ _ _ => rfl) h2⟩
theorem x_contS {p : Program} {e : Env} {R : Room} {s : State} {mid : MethodId} {args : Array Value} {below : List Frame} {meth : Method} {c : Code} {H : Heap} {locs : List Loc} {cells slots : Nat} {Q : State → Prop} {pc : Nat} {ls : Array Slot} {rest st0 : List Value} {v : Option Value} {a : Array Value} (hr : va_Run p l e R s mid args below meth c H locs cells slots 0 0 (F0 mid pc ls st0) rest (xQs v a) (xA0 sz0)) (hS : va_S (xA0 sz0) s.heap H locs)
    (kk : ∀ (locs1 : List Loc), va_S (xA0 sz0) s.heap H locs1 → W p l e R s mid args below meth c H locs1 cells slots Q (F0 mid (pc + 3) ls (v.toList ++ rest))) : W p l e R s mid args below meth c H locs cells slots Q (F0 mid pc ls st0) := by
  intro T hT X
  obtain ⟨w, st₀, t, T', L, h0, X', hL, e1, e2, ⟨hv, hp⟩, st⟩ := hr T hT X
  cases hv
  obtain ⟨t2, a1, b1⟩ := kk (locs ++ L) ⟨hS.1, hS.2.1, fun q hq => by
      rcases List.mem_append.mp hq with h | h
      · exact hS.2.2 q h
      · exact hL q h⟩ T' (by rw [e1, hp, h0]) X'
  exact ⟨t2, st t2 a1, b1⟩
theorem xc_coder {i : Nat} (hi : i < 2) : Met l yJ0_coder_7d493 (xjw yJ0_coder_7d493 cJ0_coder_7d493 1 (some .byte)) ({ frames := 0, cells := 0, slots := 0, locals := 0 }) (xPs D cy ad sz0 L xs [.ref (ad (1000001 + i))]) (xQs (some (.int 0))) 0 0 (xA0 sz0) := by
  refine Met.ofW (cc := cJ0_coder_7d493) (maxL := 1) (ret := (some .byte)) (by decide +kernel) rfl ?_
  intro p e s m args below meth c s₁ B hml hv
  obtain ⟨rfl, hst⟩ := hv
  have hx := B.exec
  have hb := B.bytes
  have hr := B.returns
  have hts0 := atoms_spec (ws := xjw yJ0_coder_7d493 cJ0_coder_7d493 1 (some .byte)) B.pre
  have hts : ∀ w ∈ xTB, w.before _ s = true := fun w hw => hts0 w (List.mem_cons_of_mem _ hw)
  have hown := findClass_of_methodNamed B.named
  have hlocks := B.notSynchronized
  have hS : va_S (xA0 sz0) s.heap s.heap [] := va_S.rf
  have hl := lv_entry ([.ref (ad (1000001 + i))]) (n := 1) (Nat.le_of_ble_eq_true rfl)
  rw [lg_entry_eq]
  generalize (lg_sl ([.ref (ad (1000001 + i))]) ++ List.replicate (1 - (lg_sl ([.ref (ad (1000001 + i))])).length) Slot.unset).toArray = ls at hl ⊢
  have hl : lv_has ls 1 [(0, .ref (ad (1000001 + i)))] := hl
  obtain ⟨-, -, -, -, hsz, -, -, ⟨adV, hvs⟩, hcs, hfm⟩ := id hst
  obtain ⟨s1, s2, s3, s4⟩ := hvs.1 i hi
  refine va_gets hx hb hcs hS hown (hts _ xj_f38) (fun _ h => h) (show decode cJ0_coder_7d493 0 = .ok (.getstatic 38, 3) by decide +kernel) ?_
  refine lv_if_eq (tgt := 13) hx hb (show decode cJ0_coder_7d493 3 = .ok (.ifCond .eq 10, 3) by decide +kernel) (by decide) (fun h9 => absurd h9 (by decide)) (fun _ => ?_)
  refine lv_aload_n hx hb (show decode cJ0_coder_7d493 6 = .ok (.aload_n 0, 1) by decide +kernel) rfl (lv_at hl 0 rfl) ?_
  refine vk_getf hx hb s2 hS hown (hts _ xj_f15) (fun _ h => h) (show decode cJ0_coder_7d493 7 = .ok (.getfield 15, 3) by decide +kernel) ?_
  refine lv_goto (tgt := 14) hx hb (show decode cJ0_coder_7d493 10 = .ok (.goto 4, 3) by decide +kernel) (by decide) ?_
  exact W.zret hx hb hr rfl (fun t ht _ => ⟨rfl, ht⟩) hS.2.2 (show decode cJ0_coder_7d493 14 = .ok (.ireturn, 1) by decide +kernel)
theorem xc_latin {i : Nat} (hi : i < 2) : Met l yJ0_isLatin1_aae02 (xjw yJ0_isLatin1_aae02 cJ0_isLatin1_aae02 1 (some .boolean)) ({ frames := 0, cells := 0, slots := 0, locals := 0 }) (xPs D cy ad sz0 L xs [.ref (ad (1000001 + i))]) (xQs (some (.int 1))) 0 0 (xA0 sz0) := by
  refine Met.ofW (cc := cJ0_isLatin1_aae02) (maxL := 1) (ret := (some .boolean)) (by decide +kernel) rfl ?_
  intro p e s m args below meth c s₁ B hml hv
  obtain ⟨rfl, hst⟩ := hv
  have hx := B.exec
  have hb := B.bytes
  have hr := B.returns
  have hts0 := atoms_spec (ws := xjw yJ0_isLatin1_aae02 cJ0_isLatin1_aae02 1 (some .boolean)) B.pre
  have hts : ∀ w ∈ xTB, w.before _ s = true := fun w hw => hts0 w (List.mem_cons_of_mem _ hw)
  have hown := findClass_of_methodNamed B.named
  have hlocks := B.notSynchronized
  have hS : va_S (xA0 sz0) s.heap s.heap [] := va_S.rf
  have hl := lv_entry ([.ref (ad (1000001 + i))]) (n := 1) (Nat.le_of_ble_eq_true rfl)
  rw [lg_entry_eq]
  generalize (lg_sl ([.ref (ad (1000001 + i))]) ++ List.replicate (1 - (lg_sl ([.ref (ad (1000001 + i))])).length) Slot.unset).toArray = ls at hl ⊢
  have hl : lv_has ls 1 [(0, .ref (ad (1000001 + i)))] := hl
  obtain ⟨-, -, -, -, hsz, -, -, ⟨adV, hvs⟩, hcs, hfm⟩ := id hst
  obtain ⟨s1, s2, s3, s4⟩ := hvs.1 i hi
  refine va_gets hx hb hcs hS hown (hts _ xj_f38) (fun _ h => h) (show decode cJ0_isLatin1_aae02 0 = .ok (.getstatic 38, 3) by decide +kernel) ?_
  refine lv_if_eq (tgt := 17) hx hb (show decode cJ0_isLatin1_aae02 3 = .ok (.ifCond .eq 14, 3) by decide +kernel) (by decide) (fun h9 => absurd h9 (by decide)) (fun _ => ?_)
  refine lv_aload_n hx hb (show decode cJ0_isLatin1_aae02 6 = .ok (.aload_n 0, 1) by decide +kernel) rfl (lv_at hl 0 rfl) ?_
  refine vk_getf hx hb s2 hS hown (hts _ xj_f15) (fun _ h => h) (show decode cJ0_isLatin1_aae02 7 = .ok (.getfield 15, 3) by decide +kernel) ?_
  refine lv_if_ne (tgt := 17) hx hb (show decode cJ0_isLatin1_aae02 10 = .ok (.ifCond .ne 7, 3) by decide +kernel) (by decide) (fun h9 => absurd rfl h9) (fun _ => ?_)
  refine lv_iconst (v := 1) hx hb (show decode cJ0_isLatin1_aae02 13 = .ok (.iconst 1, 1) by decide +kernel) (by decide) ?_
  refine lv_goto (tgt := 18) hx hb (show decode cJ0_isLatin1_aae02 14 = .ok (.goto 4, 3) by decide +kernel) (by decide) ?_
  exact W.zret hx hb hr rfl (fun t ht _ => ⟨rfl, ht⟩) hS.2.2 (show decode cJ0_isLatin1_aae02 18 = .ok (.ireturn, 1) by decide +kernel)
theorem xc_length (hA : xadr ad sz0) {i : Nat} (hi : i < 2) : Met l yJ0_length_8abf5 (xjw yJ0_length_8abf5 cJ0_length_8abf5 1 (some .int)) ({ frames := 1, cells := 0, slots := 0, locals := 20 }) (xPs D cy ad sz0 L xs [.ref (ad (1000001 + i))]) (xQs (some (.int (Int32.ofNat (xlens.getD i 0))))) 0 0 (xA0 sz0) := by
  refine Met.ofW (cc := cJ0_length_8abf5) (maxL := 1) (ret := (some .int)) (by decide +kernel) rfl ?_
  intro p e s m args below meth c s₁ B hml hv
  obtain ⟨rfl, hst⟩ := hv
  have hx := B.exec
  have hb := B.bytes
  have hr := B.returns
  have hts0 := atoms_spec (ws := xjw yJ0_length_8abf5 cJ0_length_8abf5 1 (some .int)) B.pre
  have hts : ∀ w ∈ xTB, w.before _ s = true := fun w hw => hts0 w (List.mem_cons_of_mem _ hw)
  have hown := findClass_of_methodNamed B.named
  have hlocks := B.notSynchronized
  have hS : va_S (xA0 sz0) s.heap s.heap [] := va_S.rf
  have hl := lv_entry ([.ref (ad (1000001 + i))]) (n := 1) (Nat.le_of_ble_eq_true rfl)
  rw [lg_entry_eq]
  generalize (lg_sl ([.ref (ad (1000001 + i))]) ++ List.replicate (1 - (lg_sl ([.ref (ad (1000001 + i))])).length) Slot.unset).toArray = ls at hl ⊢
  have hl : lv_has ls 1 [(0, .ref (ad (1000001 + i)))] := hl
  obtain ⟨-, -, -, -, hsz, -, -, ⟨adV, hvs⟩, hcs, hfm⟩ := id hst
  obtain ⟨s1, s2, s3, s4⟩ := hvs.1 i hi
  refine lv_aload_n hx hb (show decode cJ0_length_8abf5 0 = .ok (.aload_n 0, 1) by decide +kernel) rfl (lv_at hl 0 rfl) ?_
  refine vk_getf hx hb s3 hS hown (hts _ xj_f9) (fun _ h => h) (show decode cJ0_length_8abf5 1 = .ok (.getfield 9, 3) by decide +kernel) ?_
  refine va_tlen hx hb s4 hS rfl (show decode cJ0_length_8abf5 4 = .ok (.arraylength, 1) by decide +kernel) ?_
  refine lv_aload_n hx hb (show decode cJ0_length_8abf5 5 = .ok (.aload_n 0, 1) by decide +kernel) rfl (lv_at hl 0 rfl) ?_
  refine x_contS (va_runV (As := []) (rest := [.int (Int32.ofNat (xlens.getD i 0))]) ⟨hx, hb, hml, hown, hts⟩ (xc_coder hi) ⟨callB_of 0 hts (xjw_good xj_co_c) rfl rfl rfl (hts _ xj_i0) (hts _ xj_co_l) (by decide +kernel) ⟨Nat.le_of_ble_eq_true rfl, Nat.le_of_ble_eq_true rfl⟩, hts _ xj_co_i, hts _ xj_co_s⟩ ⟨xPs_blind hA, vk_recv hvs hi hS, fun U hU hW => ⟨rfl, xsta_moved hA hW (by rw [hU]; try exact hS.1) (fun q h1 h2 => by rw [hU]; try exact hS.2.1 q h1 h2) hst⟩⟩ rfl rfl hl.1 rfl (lv_room (Nat.le_of_ble_eq_true rfl)) (show decode cJ0_length_8abf5 6 = .ok (.invokevirtual 335, 3) by decide +kernel) ⟨Nat.zero_le _, Nat.zero_le _⟩) hS (fun locs1 hS => ?_)
  refine lv_ishr hx hb (show decode cJ0_length_8abf5 9 = .ok (.ishr, 1) by decide +kernel) ?_
  have e9 : Int32.ofNat (xlens.getD i 0) >>> ((0 : Int32) &&& 31) = Int32.ofNat (xlens.getD i 0) := sb_shr0 _
  rw [e9]
  exact W.iret hx hb hr (fun t ht _ => ⟨rfl, ht⟩) hS.2.2 (show decode cJ0_length_8abf5 10 = .ok (.ireturn, 1) by decide +kernel)
theorem xc_pre {x n : Int32} {f : Value} (h1 : ¬ x < 0) (h2 : x < n) (hf : f.category = 1) : Met l yJ3_checkIndex_8e157 (xjw yJ3_checkIndex_8e157 cJ3_checkIndex_8e157 3 (some .int)) ({ frames := 0, cells := 0, slots := 0, locals := 0 }) (xPs D cy ad sz0 L xs [.int x, .int n, f]) (xQs (some (.int x))) 0 0 (xA0 sz0) := by
  refine Met.ofW (cc := cJ3_checkIndex_8e157) (maxL := 3) (ret := (some .int)) (by decide +kernel) rfl ?_
  intro p e s m args below meth c s₁ B hml hv
  obtain ⟨rfl, hst⟩ := hv
  have hx := B.exec
  have hb := B.bytes
  have hr := B.returns
  have hlocks := B.notSynchronized
  have hS : va_S (xA0 sz0) s.heap s.heap [] := va_S.rf
  have hlen : (lg_sl [.int x, .int n, f]).length ≤ 3 := by
    cases f <;> first | (exact Nat.le_of_ble_eq_true rfl) | (exact absurd hf (by simp [Value.category]))
  have hl := lv_entry ([.int x, .int n, f]) (n := 3) hlen
  rw [lg_entry_eq]
  generalize (lg_sl ([.int x, .int n, f]) ++ List.replicate (3 - (lg_sl ([.int x, .int n, f])).length) Slot.unset).toArray = ls at hl ⊢
  have hl : lv_has ls 3 [(0, .int x), (1, .int n)] := ⟨hl.1, hl.2.1, fun q hq => hl.2.2 q (by
    show q ∈ [(0, Value.int x), (1, .int n), (2, f)]
    rcases List.mem_cons.mp hq with h | h
    · exact List.mem_cons.mpr (Or.inl h)
    · rcases List.mem_cons.mp h with h | h
      · exact List.mem_cons.mpr (Or.inr (List.mem_cons.mpr (Or.inl h)))
      · cases h)⟩
  refine lv_iload_n hx hb (show decode cJ3_checkIndex_8e157 0 = .ok (.iload_n 0, 1) by decide +kernel) rfl (lv_at hl 0 rfl) ?_
  refine lv_if_lt (tgt := 9) hx hb (show decode cJ3_checkIndex_8e157 1 = .ok (.ifCond .lt 8, 3) by decide +kernel) (by decide) (fun h9 => absurd h9 h1) (fun _ => ?_)
  refine lv_iload_n hx hb (show decode cJ3_checkIndex_8e157 4 = .ok (.iload_n 0, 1) by decide +kernel) rfl (lv_at hl 0 rfl) ?_
  refine lv_iload_n hx hb (show decode cJ3_checkIndex_8e157 5 = .ok (.iload_n 1, 1) by decide +kernel) rfl (lv_at hl 1 rfl) ?_
  refine lv_icmp_lt (tgt := 16) hx hb (show decode cJ3_checkIndex_8e157 6 = .ok (.if_icmp .lt 10, 3) by decide +kernel) (by decide) (fun _ => ?_) (fun h9 => absurd h2 h9)
  refine lv_iload_n hx hb (show decode cJ3_checkIndex_8e157 16 = .ok (.iload_n 0, 1) by decide +kernel) rfl (lv_at hl 0 rfl) ?_
  exact W.iret hx hb hr (fun t ht _ => ⟨rfl, ht⟩) hS.2.2 (show decode cJ3_checkIndex_8e157 17 = .ok (.ireturn, 1) by decide +kernel)
theorem xc_check (hA : xadr ad sz0) {x n : Int32} (h1 : ¬ x < 0) (h2 : x < n) : Met l yJ0_checkIndex_df160 (xjw yJ0_checkIndex_df160 cJ0_checkIndex_df160 2 none) ({ frames := 1, cells := 0, slots := 0, locals := 22 }) (xPs D cy ad sz0 L xs [.int x, .int n]) (xQs none) 0 0 (xA0 sz0) := by
  refine Met.ofW (cc := cJ0_checkIndex_df160) (maxL := 2) (ret := none) (by decide +kernel) rfl ?_
  intro p e s m args below meth c s₁ B hml hv
  obtain ⟨rfl, hst⟩ := hv
  have hx := B.exec
  have hb := B.bytes
  have hr := B.returns
  have hts0 := atoms_spec (ws := xjw yJ0_checkIndex_df160 cJ0_checkIndex_df160 2 none) B.pre
  have hts : ∀ w ∈ xTB, w.before _ s = true := fun w hw => hts0 w (List.mem_cons_of_mem _ hw)
  have hown := findClass_of_methodNamed B.named
  have hlocks := B.notSynchronized
  have hS : va_S (xA0 sz0) s.heap s.heap [] := va_S.rf
  have hl := lv_entry ([.int x, .int n]) (n := 2) (Nat.le_of_ble_eq_true rfl)
  rw [lg_entry_eq]
  generalize (lg_sl ([.int x, .int n]) ++ List.replicate (2 - (lg_sl ([.int x, .int n])).length) Slot.unset).toArray = ls at hl ⊢
  have hl : lv_has ls 2 [(0, .int x), (1, .int n)] := hl
  obtain ⟨-, -, -, -, hsz, -, -, ⟨adV, hvs⟩, hcs, hfm⟩ := id hst
  refine lv_iload_n hx hb (show decode cJ0_checkIndex_df160 0 = .ok (.iload_n 0, 1) by decide +kernel) rfl (lv_at hl 0 rfl) ?_
  refine lv_iload_n hx hb (show decode cJ0_checkIndex_df160 1 = .ok (.iload_n 1, 1) by decide +kernel) rfl (lv_at hl 1 rfl) ?_
  rcases hfm with hfm | ⟨tf, hfm⟩
  · refine va_gets hx hb hfm hS hown (hts _ xj_f53) (fun _ h => h) (show decode cJ0_checkIndex_df160 2 = .ok (.getstatic 1053, 3) by decide +kernel) ?_
    refine x_contS (va_runS (As := [.int x, .int n, .null]) (rest := []) ⟨hx, hb, hml, hown, hts⟩ (xc_pre h1 h2 rfl) ⟨callB_of 3 hts (xjw_good xj_pc_c) rfl rfl rfl (hts _ xj_i3) (hts _ xj_pc_l) (by decide +kernel) ⟨Nat.le_of_ble_eq_true rfl, Nat.le_of_ble_eq_true rfl⟩, hts _ xj_pc_t⟩ ⟨xPs_blind hA, fun U hU hW => ⟨rfl, xsta_moved hA hW (by rw [hU]; try exact hS.1) (fun q h1 h2 => by rw [hU]; try exact hS.2.1 q h1 h2) hst⟩⟩ rfl rfl hl.1 rfl (lv_room (Nat.le_of_ble_eq_true rfl)) (show decode cJ0_checkIndex_df160 5 = .ok (.invokestatic 1059, 3) by decide +kernel) ⟨Nat.zero_le _, Nat.zero_le _⟩) hS (fun locs1 hS => ?_)
    refine lv_pop hx hb (show decode cJ0_checkIndex_df160 8 = .ok (.pop, 1) by decide +kernel) rfl ?_
    exact W.vret hx hb hr (fun t ht _ => ⟨rfl, ht⟩) hS.2.2 (show decode cJ0_checkIndex_df160 9 = .ok (.return_, 1) by decide +kernel)
  · refine va_gets hx hb hfm hS hown (hts _ xj_f53) (fun _ h => h) (show decode cJ0_checkIndex_df160 2 = .ok (.getstatic 1053, 3) by decide +kernel) ?_
    refine x_contS (va_runS (As := [.int x, .int n, .ref tf]) (rest := []) ⟨hx, hb, hml, hown, hts⟩ (xc_pre h1 h2 rfl) ⟨callB_of 3 hts (xjw_good xj_pc_c) rfl rfl rfl (hts _ xj_i3) (hts _ xj_pc_l) (by decide +kernel) ⟨Nat.le_of_ble_eq_true rfl, Nat.le_of_ble_eq_true rfl⟩, hts _ xj_pc_t⟩ ⟨xPs_blind hA, fun U hU hW => ⟨rfl, xsta_moved hA hW (by rw [hU]; try exact hS.1) (fun q h1 h2 => by rw [hU]; try exact hS.2.1 q h1 h2) hst⟩⟩ rfl rfl hl.1 rfl (lv_room (Nat.le_of_ble_eq_true rfl)) (show decode cJ0_checkIndex_df160 5 = .ok (.invokestatic 1059, 3) by decide +kernel) ⟨Nat.zero_le _, Nat.zero_le _⟩) hS (fun locs1 hS => ?_)
    refine lv_pop hx hb (show decode cJ0_checkIndex_df160 8 = .ok (.pop, 1) by decide +kernel) rfl ?_
    exact W.vret hx hb hr (fun t ht _ => ⟨rfl, ht⟩) hS.2.2 (show decode cJ0_checkIndex_df160 9 = .ok (.return_, 1) by decide +kernel)
/-- a byte of a text is a small number -/
def xsmall (b : Int32) : Prop := ((b &&& 255).toUInt32 % 65536).toInt32 = b ∧ narrow .char (.int b) = .int b
theorem xc_lchar (hA : xadr ad sz0) {i : Nat} (hi : i < 2) {x : Int32} (hin : vp_in x (xlens.getD i 0)) (hlt : x < Int32.ofNat (xlens.getD i 0)) (hsm : xsmall ((xbyts.getD i []).getD x.toNatClampNeg 0)) {adV : Nat → Nat} : Met l yJ1_charAt_3b067 (xjw yJ1_charAt_3b067 cJ1_charAt_3b067 2 (some .char)) ({ frames := 2, cells := 0, slots := 0, locals := 43 }) (va_Pc [.ref (adV i), .int x] (fun U => xsta D cy ad sz0 L xs U ∧ vk_S 2 xlens xbyts (fun i => ad (1000001 + i)) adV (xA0 sz0) U U.heap)) (xQs (some (.int ((xbyts.getD i []).getD x.toNatClampNeg 0)))) 0 0 (xA0 sz0) := by
  refine Met.ofW (cc := cJ1_charAt_3b067) (maxL := 2) (ret := (some .char)) (by decide +kernel) rfl ?_
  intro p e s m args below meth c s₁ B hml hv
  obtain ⟨rfl, hst, hvs⟩ := hv
  have hx := B.exec
  have hb := B.bytes
  have hr := B.returns
  have hts0 := atoms_spec (ws := xjw yJ1_charAt_3b067 cJ1_charAt_3b067 2 (some .char)) B.pre
  have hts : ∀ w ∈ xTB, w.before _ s = true := fun w hw => hts0 w (List.mem_cons_of_mem _ hw)
  have hown := findClass_of_methodNamed B.named
  have hlocks := B.notSynchronized
  have hS : va_S (xA0 sz0) s.heap s.heap [] := va_S.rf
  have hl := lv_entry ([.ref (adV i), .int x]) (n := 2) (Nat.le_of_ble_eq_true rfl)
  rw [lg_entry_eq]
  generalize (lg_sl ([.ref (adV i), .int x]) ++ List.replicate (2 - (lg_sl ([.ref (adV i), .int x])).length) Slot.unset).toArray = ls at hl ⊢
  have hl : lv_has ls 2 [(0, .ref (adV i)), (1, .int x)] := hl
  obtain ⟨s1, s2, s3, s4⟩ := hvs.1 i hi
  refine lv_iload_n hx hb (show decode cJ1_charAt_3b067 0 = .ok (.iload_n 1, 1) by decide +kernel) rfl (lv_at hl 1 rfl) ?_
  refine lv_aload_n hx hb (show decode cJ1_charAt_3b067 1 = .ok (.aload_n 0, 1) by decide +kernel) rfl (lv_at hl 0 rfl) ?_
  refine va_tlen hx hb s4 hS rfl (show decode cJ1_charAt_3b067 2 = .ok (.arraylength, 1) by decide +kernel) ?_
  refine x_contS (va_runS (As := [.int x, .int (Int32.ofNat (xlens.getD i 0))]) (rest := []) ⟨hx, hb, hml, hown, hts⟩ (xc_check hA (fun h9 => hin (Or.inl h9)) hlt) ⟨callB_of 2 hts (xjw_good xj_ck_c) rfl rfl rfl (hts _ xj_i0) (hts _ xj_ck_l) (by decide +kernel) ⟨Nat.le_of_ble_eq_true rfl, Nat.le_of_ble_eq_true rfl⟩, hts _ xj_ck_t⟩ ⟨xPs_blind hA, fun U hU hW => ⟨rfl, xsta_moved hA hW (by rw [hU]; try exact hS.1) (fun q h1 h2 => by rw [hU]; try exact hS.2.1 q h1 h2) hst⟩⟩ rfl rfl hl.1 rfl (lv_room (Nat.le_of_ble_eq_true rfl)) (show decode cJ1_charAt_3b067 3 = .ok (.invokestatic 9, 3) by decide +kernel) ⟨Nat.zero_le _, Nat.zero_le _⟩) hS (fun locs1 hS => ?_)
  refine lv_aload_n hx hb (show decode cJ1_charAt_3b067 6 = .ok (.aload_n 0, 1) by decide +kernel) rfl (lv_at hl 0 rfl) ?_
  refine lv_iload_n hx hb (show decode cJ1_charAt_3b067 7 = .ok (.iload_n 1, 1) by decide +kernel) rfl (lv_at hl 1 rfl) ?_
  refine va_tb hx hb s4 hS hin rfl (show decode cJ1_charAt_3b067 8 = .ok (.baload, 1) by decide +kernel) ?_
  refine lv_sipush (v := 255) hx hb (show decode cJ1_charAt_3b067 9 = .ok (.sipush 255, 3) by decide +kernel) (by decide) ?_
  refine lv_iand hx hb (show decode cJ1_charAt_3b067 12 = .ok (.iand, 1) by decide +kernel) ?_
  refine lv_i2c hx hb (show decode cJ1_charAt_3b067 13 = .ok (.i2c, 1) by decide +kernel) hsm.1 ?_
  exact W.zret hx hb hr hsm.2 (fun t ht _ => ⟨rfl, ht⟩) hS.2.2 (show decode cJ1_charAt_3b067 14 = .ok (.ireturn, 1) by decide +kernel)
theorem xc_char (hA : xadr ad sz0) {i : Nat} (hi : i < 2) {x : Int32} (hin : vp_in x (xlens.getD i 0)) (hlt : x < Int32.ofNat (xlens.getD i 0)) (hsm : xsmall ((xbyts.getD i []).getD x.toNatClampNeg 0)) : Met l yJ0_charAt_5068e (xjw yJ0_charAt_5068e cJ0_charAt_5068e 2 (some .char)) ({ frames := 3, cells := 0, slots := 0, locals := 64 }) (xPs D cy ad sz0 L xs [.ref (ad (1000001 + i)), .int x]) (xQs (some (.int ((xbyts.getD i []).getD x.toNatClampNeg 0)))) 0 0 (xA0 sz0) := by
  refine Met.ofW (cc := cJ0_charAt_5068e) (maxL := 2) (ret := (some .char)) (by decide +kernel) rfl ?_
  intro p e s m args below meth c s₁ B hml hv
  obtain ⟨rfl, hst⟩ := hv
  have hx := B.exec
  have hb := B.bytes
  have hr := B.returns
  have hts0 := atoms_spec (ws := xjw yJ0_charAt_5068e cJ0_charAt_5068e 2 (some .char)) B.pre
  have hts : ∀ w ∈ xTB, w.before _ s = true := fun w hw => hts0 w (List.mem_cons_of_mem _ hw)
  have hown := findClass_of_methodNamed B.named
  have hlocks := B.notSynchronized
  have hS : va_S (xA0 sz0) s.heap s.heap [] := va_S.rf
  have hl := lv_entry ([.ref (ad (1000001 + i)), .int x]) (n := 2) (Nat.le_of_ble_eq_true rfl)
  rw [lg_entry_eq]
  generalize (lg_sl ([.ref (ad (1000001 + i)), .int x]) ++ List.replicate (2 - (lg_sl ([.ref (ad (1000001 + i)), .int x])).length) Slot.unset).toArray = ls at hl ⊢
  have hl : lv_has ls 2 [(0, .ref (ad (1000001 + i))), (1, .int x)] := hl
  obtain ⟨-, -, -, -, hsz, -, -, ⟨adV, hvs⟩, hcs, hfm⟩ := id hst
  obtain ⟨s1, s2, s3, s4⟩ := hvs.1 i hi
  refine lv_aload_n hx hb (show decode cJ0_charAt_5068e 0 = .ok (.aload_n 0, 1) by decide +kernel) rfl (lv_at hl 0 rfl) ?_
  refine x_contS (va_runV (As := []) (rest := []) ⟨hx, hb, hml, hown, hts⟩ (xc_latin hi) ⟨callB_of 0 hts (xjw_good xj_la_c) rfl rfl rfl (hts _ xj_i0) (hts _ xj_la_l) (by decide +kernel) ⟨Nat.le_of_ble_eq_true rfl, Nat.le_of_ble_eq_true rfl⟩, hts _ xj_la_i, hts _ xj_la_s⟩ ⟨xPs_blind hA, vk_recv hvs hi hS, fun U hU hW => ⟨rfl, xsta_moved hA hW (by rw [hU]; try exact hS.1) (fun q h1 h2 => by rw [hU]; try exact hS.2.1 q h1 h2) hst⟩⟩ rfl rfl hl.1 rfl (lv_room (Nat.le_of_ble_eq_true rfl)) (show decode cJ0_charAt_5068e 1 = .ok (.invokevirtual 492, 3) by decide +kernel) ⟨Nat.zero_le _, Nat.zero_le _⟩) hS (fun locs1 hS => ?_)
  refine lv_if_eq (tgt := 16) hx hb (show decode cJ0_charAt_5068e 4 = .ok (.ifCond .eq 12, 3) by decide +kernel) (by decide) (fun h9 => absurd h9 (by decide)) (fun _ => ?_)
  refine lv_aload_n hx hb (show decode cJ0_charAt_5068e 7 = .ok (.aload_n 0, 1) by decide +kernel) rfl (lv_at hl 0 rfl) ?_
  refine vk_getf hx hb s3 hS hown (hts _ xj_f9) (fun _ h => h) (show decode cJ0_charAt_5068e 8 = .ok (.getfield 9, 3) by decide +kernel) ?_
  refine lv_iload_n hx hb (show decode cJ0_charAt_5068e 11 = .ok (.iload_n 1, 1) by decide +kernel) rfl (lv_at hl 1 rfl) ?_
  refine x_contS (va_runS (As := [.ref (adV i), .int x]) (rest := []) ⟨hx, hb, hml, hown, hts⟩ (xc_lchar hA hi hin hlt hsm) ⟨callB_of 2 hts (xjw_good xj_lc_c) rfl rfl rfl (hts _ xj_i1) (hts _ xj_lc_l) (by decide +kernel) ⟨Nat.le_of_ble_eq_true rfl, Nat.le_of_ble_eq_true rfl⟩, hts _ xj_lc_t⟩ ⟨fun a U g mk q => by obtain ⟨h0, h2, h3⟩ := q; exact ⟨h0, xsta_moved (U := U.calling g mk a) hA (show U.WarmedH (U.calling g mk a).vm from State.WarmedH.refl U) (Nat.le_refl _) (fun _ _ _ => rfl) h2, vk_S.moved (Vm.Alike.refl U.vm) h3⟩, fun U hU hW => ⟨rfl, xsta_moved hA hW (by rw [hU]; try exact hS.1) (fun q h1 h2 => by rw [hU]; try exact hS.2.1 q h1 h2) hst, (vk_S.moved hW.alike hvs).kept (fun q h1 h2 => by rw [hU]; try exact hS.2.1 q h1 h2)⟩⟩ rfl rfl hl.1 rfl (lv_room (Nat.le_of_ble_eq_true rfl)) (show decode cJ0_charAt_5068e 12 = .ok (.invokestatic 495, 3) by decide +kernel) ⟨Nat.zero_le _, Nat.zero_le _⟩) hS (fun locs1 hS => ?_)
  exact W.zret hx hb hr hsm.2 (fun t ht _ => ⟨rfl, ht⟩) hS.2.2 (show decode cJ0_charAt_5068e 15 = .ok (.ireturn, 1) by decide +kernel)
end XSTR
