def va_AOA (ty : FieldType) (U : State) : Prop := (Cond.arrayOver (.array ty)).before #[] U = true
theorem va_AOA.use {ty : FieldType} {A : Array Value} {U : State} (h : va_AOA ty U) : (Cond.arrayOver (.array ty)).before A U = true := h
/-! ===== BEGIN words of one list among another's, by their places ===== -/
theorem goodIn_r {big : List Cond} (ws : List Cond) (ps : List Nat) (hp : ws = ps.filterMap (fun i => big[i]?)) (h : ws.all goodWord = true) : GoodIn big ws := by
  intro w hw
  have h1 := List.all_eq_true.mp h w hw
  rw [hp] at hw
  obtain ⟨i, -, hi⟩ := List.mem_filterMap.mp hw
  have hm : w ∈ big := by first | exact List.mem_of_getElem? hi | exact List.getElem?_mem hi
  exact ⟨hm, good_of_word h1⟩
theorem goodIn_app {big a b : List Cond} (ha : GoodIn big a) (hb : GoodIn big b) : GoodIn big (a ++ b) := fun w h => (List.mem_append.mp h).elim (ha w) (hb w)
theorem goodIn_ca {big a b : List Cond} {c : Cond} (ha : GoodIn big (c :: a)) (hb : GoodIn big b) : GoodIn big (c :: (a ++ b)) := fun w h => (List.mem_cons.mp h).elim (fun e => ha w (List.mem_cons.mpr (Or.inl e))) (fun h => (List.mem_append.mp h).elim (fun h => ha w (List.mem_cons.mpr (Or.inr h))) (hb w))
theorem goodIn_sub {big ws : List Cond} (hm : ∀ w ∈ ws, w ∈ big) (h : ws.all goodWord = true) : GoodIn big ws := fun w hw => ⟨hm w hw, good_of_word (List.all_eq_true.mp h w hw)⟩
/-! ===== END ===== -/

/-! ===== BEGIN new T[n][m]: the outer array a place, the inner ones among the pooled ===== -/
/-- f, but v at every address of l -/
def vr_up {α : Type} (f : Nat → α) (l : List Nat) (v : α) : Nat → α := fun a => if a ∈ l then v else f a
theorem vr_up_in {α : Type} {f : Nat → α} {l : List Nat} {v : α} {a : Nat} (h : a ∈ l) : vr_up f l v a = v := if_pos h
theorem vr_up_ne {α : Type} {f : Nat → α} {l : List Nat} {v : α} {a : Nat} (h : a ∉ l) : vr_up f l v a = f a := if_neg h
theorem vr_rows {L l : List Nat} {f : Nat → va_E} {e : va_E} (h : ∀ a, a ∈ l → a ∉ L) : va_pl L f ++ l.map (fun a => (a, e)) = va_pl (L ++ l) (vr_up f l e) := by
  unfold va_pl
  rw [List.map_append]
  congr 1
  · apply List.map_congr_left
    intro a ha
    rw [vr_up_ne (fun q => h a q ha)]
  · apply List.map_congr_left
    intro a ha
    rw [vr_up_in ha]
theorem vr_lay {X rows : va_W} {x : Nat × va_E} {pl : va_W} {D : va_G} {cl : List vw_C} {H : Heap} (hP : va_P D cl (((X ++ pl) ++ [x]) ++ rows) H) : va_P D cl ((X ++ [x]) ++ (pl ++ rows)) H := by
  rw [List.append_assoc (X ++ pl)] at hP
  have h := va_P.swap hP
  rw [← List.append_assoc X] at h
  have h2 := va_P.swap h
  rw [List.append_assoc (X ++ [x])] at h2
  exact h2
theorem vr_layD {X rows : va_W} {x : Nat × va_E} {pl : va_W} {A : Nat → Prop} (hD : va_D A (((X ++ pl) ++ [x]) ++ rows)) : va_D A ((X ++ [x]) ++ (pl ++ rows)) := by
  rw [List.append_assoc (X ++ pl)] at hD
  have h := va_D.swap hD
  rw [← List.append_assoc X] at h
  have h2 := va_D.swap h
  rw [List.append_assoc (X ++ [x])] at h2
  exact h2
theorem vr_outer (c : ClassId) (N h0 : Nat) : ∀ i : Nat, Jvm.Free.Multi.outerC c N h0 i = arrV c N (fun j => va_rf (if j < i then some (h0 + 1 + j) else none))
  | 0 => by
    show ({ cls := c, slots := Array.replicate N .null, vm := .none } : Cell) = _
    rw [arrV_new]
    refine congrArg (arrV c N) (funext fun j => ?_)
    simp [va_rf]
  | i + 1 => by
    show (Jvm.Free.Multi.outerC c N h0 i).setSlot i (.ref (h0 + 1 + i)) = _
    rw [vr_outer c N h0 i, arrV_store]
    refine congrArg (arrV c N) (funext fun j => ?_)
    by_cases e : j = i
    · subst e
      simp [updV, va_rf]
    · by_cases h : j < i
      · simp [updV, e, h, Nat.lt_succ_of_lt h]
      · simp [updV, e, h, show ¬ j < i + 1 by omega]
section VGM
variable {p : Program} {l : Launch} {e : Env} {R : Room} {s : State} {m : MethodId} {args : Array Value} {below : List Frame} {meth : Method} {c : Code} {H : Heap} {locs : List Loc} {cells slots : Nat} {Q : State → Prop}
variable {cc : ByteArray} {pc : Nat} {ls : Array Slot} {rest : List Value} {D : va_G} {cl : List vw_C} {A : Nat → Prop} {a : Nat} {tys : List (ClassId × FieldType)} {ws : va_W} {H0 : Heap}
theorem va_mna {X : va_W} {L : List Nat} {f : Nat → va_E} {cc : ByteArray} (hexec : p.tables.exec = Jvm.exec) (hb : c.code = cc) {own : String} {index : Nat} {ty : FieldType} {cy : ClassId} (hown : s.vm.findClass own = some m.cls) (hclink : (Cond.classLink own index ("[" ++ (FieldType.array ty).toString)).before args s = true) (hover : va_AOA ty s) (harr : (Cond.arrayClass ty).before args s = true) (hcy : s.vm.findClass (FieldType.array ty).toString = some cy)
    (hK : va_K D cl tys s) (hP : va_P D cl (X ++ va_pl L f) H) (hD : va_D A (X ++ va_pl L f)) (hS : va_S A H0 H locs) (hA : ∀ q, H0.size ≤ q → A q) {n k : Int32} {N' K' : Nat} {z : vp_A} (hn : ¬ n < 0) (hk : ¬ k < 0) (hN : n.toNatClampNeg = N') (hM : k.toNatClampNeg = K')
    (hb1 : N' * 4 ≤ 536870912) (hb2 : K' * componentBytes ty ≤ 536870912) (hb3 : K' ≤ 536870912) (hdf : fits ty (defaultValue ty) = true) (hdd : (defaultValue ty).isDefault = true) (hcells : cells + (1 + N') ≤ R.cells) (hslots : slots + (N' + N' * K') ≤ R.slots) (hz : ∀ c : ClassId, Jvm.Free.Multi.innerC c K' (defaultValue ty) = vp_cell c z) (hdg : decode cc pc = .ok (.multianewarray index 2, 4))
    (kk : ∀ (q : Nat) (r : Nat → Nat) (cA : ClassId) (H1 : Heap), (∀ i j : Nat, i < N' → j < N' → r i = r j → i = j) → (∀ i : Nat, i < N' → r i ∉ L) → va_K D cl (tys ++ [(cA, .array ty)]) s →
      va_P D cl ((X ++ [(q, .inl (cA, N', .inr (.inr (.inr (.inr (fun i => if i < N' then some (r i) else none))))))]) ++ va_pl (L ++ (List.range N').map r) (vr_up f ((List.range N').map r) (.inl (cy, z)))) H1 → va_D A ((X ++ [(q, .inl (cA, N', .inr (.inr (.inr (.inr (fun i => if i < N' then some (r i) else none))))))]) ++ va_pl (L ++ (List.range N').map r) (vr_up f ((List.range N').map r) (.inl (cy, z)))) → va_S A H0 H1 locs →
      W p l e R s m args below meth c H1 locs (cells + 1 + N') (slots + N' + N' * K') Q (F0 m (pc + 4) ls (.ref q :: rest))) : W p l e R s m args below meth c H locs cells slots Q (F0 m pc ls (.int k :: .int n :: rest)) := by
  subst hN
  subst hM
  intro T hT Xs
  obtain ⟨vm₁, cA, comp, -, fA, fC, hO, -, X', step⟩ := Xs.multianewarray2F hexec hown hclink (va_AOA.use hover) harr (g := F0 m pc ls (.int k :: .int n :: rest)) rfl (by rw [hb]; exact hdg) rfl hn hk hb1 hb2 hb3 hdf hdd hcells hslots
  have ec : some cy = some comp := hcy.symm.trans fC
  cases ec
  generalize hF : Jvm.Free.Multi.fill (T.setVm vm₁) cA cy n.toNatClampNeg k.toNatClampNeg (defaultValue ty) n.toNatClampNeg = F at X' step
  have hTh : (T.setVm vm₁).heap = H := hT
  obtain ⟨f1, f2, -, -⟩ := Jvm.Free.Multi.fill_facts (T.setVm vm₁) cA cy n.toNatClampNeg k.toNatClampNeg (defaultValue ty) n.toNatClampNeg
  rw [hF, hTh] at f1 f2
  have hold : ∀ x : Nat, x < H.size → F.heap[x]? = H[x]? := fun x hx => by
    have := Jvm.Free.Multi.fill_old (T.setVm vm₁) cA cy n.toNatClampNeg k.toNatClampNeg (defaultValue ty) (a := x) (by rw [hTh]; exact hx) n.toNatClampNeg
    rw [hF, hTh] at this
    exact this
  have hrow : ∀ j : Nat, j < n.toNatClampNeg → F.heap[H.size + 1 + j]? = some (vp_cell cy z) := fun j hj => by
    have := Jvm.Free.Multi.fill_inner (T.setVm vm₁) cA cy n.toNatClampNeg k.toNatClampNeg (defaultValue ty) n.toNatClampNeg j hj
    rw [hF, hTh, hz] at this
    exact this
  have hout : Jvm.Free.Multi.outerC cA n.toNatClampNeg H.size n.toNatClampNeg = vp_cell cA (n.toNatClampNeg, .inr (.inr (.inr (.inr (fun i => if i < n.toNatClampNeg then some (H.size + 1 + i) else none))))) := by
    rw [vp_cell_q]
    exact vr_outer cA n.toNatClampNeg H.size n.toNatClampNeg
  rw [hout] at f2
  have hlt : ∀ a, a ∈ L → a < H.size := fun a ha => by
    obtain ⟨k9, hk9⟩ := va_pl_get (X := X) (f := f) ha
    exact (hP k9 _ hk9).lt
  have hnl : ∀ i : Nat, i < n.toNatClampNeg → H.size + 1 + i ∉ L := fun i _ h => by
    have := hlt _ h
    omega
  have hnm : ∀ a, a ∈ (List.range n.toNatClampNeg).map (fun i => H.size + 1 + i) → a ∉ L := fun a ha h => by
    obtain ⟨i, -, rfl⟩ := List.mem_map.mp ha
    have := hlt _ h
    omega
  have hP0 : va_P D cl (X ++ va_pl L f) F.heap := hP.kept (fun k9 x hx => hold x.1 ((hP k9 x hx).lt))
  have hP1 : va_P D cl ((X ++ va_pl L f) ++ [(H.size, .inl (cA, n.toNatClampNeg, .inr (.inr (.inr (.inr (fun i => if i < n.toNatClampNeg then some (H.size + 1 + i) else none))))))]) F.heap := hP0.app (fun k9 x hx => by
    have h0 : k9 < 1 := (List.getElem?_eq_some_iff.mp hx).1
    rw [show k9 = 0 by omega] at hx
    cases hx
    exact f2)
  have hP2 : va_P D cl (((X ++ va_pl L f) ++ [(H.size, .inl (cA, n.toNatClampNeg, .inr (.inr (.inr (.inr (fun i => if i < n.toNatClampNeg then some (H.size + 1 + i) else none))))))]) ++ ((List.range n.toNatClampNeg).map (fun i => H.size + 1 + i)).map (fun a => (a, .inl (cy, z)))) F.heap := hP1.app (fun k9 x hx => by
    obtain ⟨a, ha, rfl⟩ := List.mem_map.mp (List.mem_of_getElem? hx)
    obtain ⟨i, hi, rfl⟩ := List.mem_map.mp ha
    exact hrow i (List.mem_range.mp hi))
  have hD2 : va_D A (((X ++ va_pl L f) ++ [(H.size, .inl (cA, n.toNatClampNeg, .inr (.inr (.inr (.inr (fun i => if i < n.toNatClampNeg then some (H.size + 1 + i) else none))))))]) ++ ((List.range n.toNatClampNeg).map (fun i => H.size + 1 + i)).map (fun a => (a, .inl (cy, z)))) := by
    have hD1 := hD.push (e := .inl (cA, n.toNatClampNeg, .inr (.inr (.inr (.inr (fun i => if i < n.toNatClampNeg then some (H.size + 1 + i) else none)))))) hP rfl (hA _ hS.1)
    generalize hW1 : (X ++ va_pl L f) ++ [(H.size, .inl (cA, n.toNatClampNeg, .inr (.inr (.inr (.inr (fun i => if i < n.toNatClampNeg then some (H.size + 1 + i) else none))))))] = W1 at hD1 hP1 ⊢
    have hle : ∀ (k9 : Nat) (x : Nat × va_E), W1[k9]? = some x → x.1 ≤ H.size := fun k9 x hx => by
      rw [← hW1] at hx
      by_cases hl : k9 < (X ++ va_pl L f).length
      · rw [List.getElem?_append_left hl] at hx
        exact Nat.le_of_lt ((hP k9 x hx).lt)
      · rw [List.getElem?_append_right (by omega)] at hx
        have h0 : k9 - (X ++ va_pl L f).length < 1 := (List.getElem?_eq_some_iff.mp hx).1
        rw [show k9 - (X ++ va_pl L f).length = 0 by omega] at hx
        cases hx
        exact Nat.le_refl _
    have hr : ∀ (k9 : Nat) (x : Nat × va_E), (((List.range n.toNatClampNeg).map (fun i => H.size + 1 + i)).map (fun a => ((a, .inl (cy, z)) : Nat × va_E)))[k9]? = some x → x.1 = H.size + 1 + k9 := fun k9 x hx => by
      rw [List.getElem?_map, List.getElem?_map] at hx
      by_cases h9 : k9 < n.toNatClampNeg
      · rw [List.getElem?_range h9] at hx
        cases hx
        rfl
      · have hn0 : (List.range n.toNatClampNeg)[k9]? = none := List.getElem?_eq_none (by rw [List.length_range]; omega)
        rw [hn0] at hx
        cases hx
    refine ⟨fun i j x y hi hj hxy => ?_, fun k9 x hx => ?_⟩
    · by_cases h1 : i < W1.length <;> by_cases h2 : j < W1.length
      · rw [List.getElem?_append_left h1] at hi
        rw [List.getElem?_append_left h2] at hj
        exact hD1.1 i j x y hi hj hxy
      · rw [List.getElem?_append_left h1] at hi
        rw [List.getElem?_append_right (by omega)] at hj
        have := hle _ _ hi
        have := hr _ _ hj
        omega
      · rw [List.getElem?_append_right (by omega)] at hi
        rw [List.getElem?_append_left h2] at hj
        have := hle _ _ hj
        have := hr _ _ hi
        omega
      · rw [List.getElem?_append_right (by omega)] at hi hj
        have := hr _ _ hi
        have := hr _ _ hj
        omega
    · by_cases h1 : k9 < W1.length
      · rw [List.getElem?_append_left h1] at hx
        exact hD1.2 k9 x hx
      · rw [List.getElem?_append_right (by omega)] at hx
        have := hr _ _ hx
        exact hA _ (by have := hS.1; omega)
  have hAr : ArrOfT s cA (.array ty) := fun N9 z9 => by
    obtain ⟨-, k9, hk9, cm9, hkk9⟩ := (hO 0 0 0).1
    exact ⟨(fun q hq => by cases hq), k9, hk9, cm9, hkk9⟩
  have hK2 : va_K D cl (tys ++ [(cA, .array ty)]) s := ⟨hK.1, fun k9 x hx => by
    by_cases hl : k9 < tys.length
    · rw [List.getElem?_append_left hl] at hx
      exact hK.2 k9 x hx
    · rw [List.getElem?_append_right (by omega)] at hx
      have h0 : k9 - tys.length < 1 := (List.getElem?_eq_some_iff.mp hx).1
      rw [show k9 - tys.length = 0 by omega] at hx
      cases hx
      exact ⟨hAr, fA⟩⟩
  obtain ⟨t, a1, b1⟩ := kk H.size (fun i => H.size + 1 + i) cA F.heap (fun i j _ _ h => by have h9 : H.size + 1 + i = H.size + 1 + j := h; omega) hnl hK2 (by rw [← vr_rows hnm]; exact vr_lay hP2) (by rw [← vr_rows hnm]; exact vr_layD hD2) ⟨by rw [f1]; have := hS.1; omega, fun x h1 h2 => (hold x (Nat.lt_of_lt_of_le h1 hS.1)).trans (hS.2.1 x h1 h2), hS.2.2⟩ F rfl X'
  refine ⟨t, step t ?_, b1⟩
  have e : T.heap.size = H.size := by rw [hT]
  rw [e]
  exact a1
end VGM
/-! ===== END ===== -/

/-! ===== BEGIN printed: names, fields, word lists, decode rows ===== -/
def RX0 : String := "FourPots$Fewest"
def TX0 : u_T := fun k => match k with
  | 0 => ("FourPots$Fewest", "trusting", "Z", true)
  | 1 => ("FourPots$Fewest", "menu", "LFourPots$Menu;", false)
  | 2 => ("FourPots$Fewest", "stamp", "I", false)
  | 3 => ("FourPots$Fewest", "scope", "I", false)
  | 4 => ("FourPots$Fewest", "fromPots", "I", false)
  | 5 => ("FourPots$Fewest", "order", "[I", false)
  | 6 => ("FourPots$Fewest", "level", "[I", false)
  | 7 => ("FourPots$Fewest", "seen", "[Z", false)
  | 8 => ("FourPots$Fewest", "low", "[I", true)
  | 9 => ("FourPots$Fewest", "high", "[I", true)
  | 10 => ("FourPots$Fewest", "states", "I", false)
  | 11 => ("FourPots$Fewest", "found", "I", false)
  | 12 => ("FourPots$Fewest", "next", "I", false)
  | _ => ("FourPots$Fewest", "pots", "I", false)
def tyX0 : Nat → FieldType := fun k => match k with
  | 0 => .boolean
  | 1 => .object "FourPots$Menu"
  | 2 => .int
  | 3 => .int
  | 4 => .int
  | 5 => .array .int
  | 6 => .array .int
  | 7 => .array .boolean
  | 8 => .array .int
  | 9 => .array .int
  | 10 => .int
  | 11 => .int
  | 12 => .int
  | _ => .int
abbrev wsX00 : List Cond := u_ws RX0 TX0 14
theorem nmX0 : ∀ a, a < 14 → ∀ b, b < 14 → a ≠ b → (TX0 a).2.1 ≠ (TX0 b).2.1 := by decide +kernel
theorem tyX0_ok : ∀ k, k < 14 → parseFieldDescriptor (TX0 k).2.2.1 = some (tyX0 k) := by decide +kernel
abbrev cX0_init : ByteArray := prog_2_method_1_code
def yX0_init : MethodName := ⟨RX0, "<init>", "(Z)V"⟩
abbrev cX0_use : ByteArray := prog_2_method_2_code
def yX0_use : MethodName := ⟨RX0, "use", "(LFourPots$Menu;II)V"⟩
abbrev cX0_weigh : ByteArray := prog_2_method_3_code
def yX0_weigh : MethodName := ⟨RX0, "weigh", "()V"⟩
abbrev cX0_weighHalf : ByteArray := prog_2_method_4_code
def yX0_weighHalf : MethodName := ⟨RX0, "weighHalf", "([III)V"⟩
abbrev cX0_weightOf : ByteArray := prog_2_method_5_code
def yX0_weightOf : MethodName := ⟨RX0, "weightOf", "(I)I"⟩
abbrev cX0_seekPots : ByteArray := prog_2_method_6_code
def yX0_seekPots : MethodName := ⟨RX0, "seekPots", "(I)I"⟩
abbrev cX0_searchOn : ByteArray := prog_2_method_7_code
def yX0_searchOn : MethodName := ⟨RX0, "searchOn", "()Z"⟩
abbrev cX0_goOnFrom : ByteArray := prog_2_method_8_code
def yX0_goOnFrom : MethodName := ⟨RX0, "goOnFrom", "(I)V"⟩
abbrev cX0_tryShow : ByteArray := prog_2_method_9_code
def yX0_tryShow : MethodName := ⟨RX0, "tryShow", "(III)V"⟩
abbrev cX0_tryMake : ByteArray := prog_2_method_10_code
def yX0_tryMake : MethodName := ⟨RX0, "tryMake", "(IIII)V"⟩
abbrev cX0_tryPours : ByteArray := prog_2_method_11_code
def yX0_tryPours : MethodName := ⟨RX0, "tryPours", "(III)V"⟩
abbrev cX0_tryTrust : ByteArray := prog_2_method_12_code
def yX0_tryTrust : MethodName := ⟨RX0, "tryTrust", "(IIII)V"⟩
abbrev cX0_add : ByteArray := prog_2_method_13_code
def yX0_add : MethodName := ⟨RX0, "add", "(II)V"⟩
def RX1 : String := "FourPots$Hand"
def TX1 : u_T := fun k => match k with
  | 0 => ("FourPots$Hand", "stands", "I", false)
  | 1 => ("FourPots$Hand", "trusted", "I", false)
  | 2 => ("FourPots$Hand", "since", "[I", true)
  | 3 => ("FourPots$Hand", "work", "I", false)
  | 4 => ("FourPots$Hand", "steps", "I", false)
  | 5 => ("FourPots$Hand", "missed", "I", false)
  | 6 => ("FourPots$Hand", "firstMissed", "I", false)
  | 7 => ("FourPots$Hand", "most", "I", false)
  | 8 => ("FourPots$Hand", "burnt", "I", false)
  | 9 => ("FourPots$Hand", "spoilt", "I", false)
  | 10 => ("FourPots$Hand", "burning", "Z", false)
  | _ => ("FourPots$Hand", "draw", "I", false)
def tyX1 : Nat → FieldType := fun k => match k with
  | 0 => .int
  | 1 => .int
  | 2 => .array .int
  | 3 => .int
  | 4 => .int
  | 5 => .int
  | 6 => .int
  | 7 => .int
  | 8 => .int
  | 9 => .int
  | 10 => .boolean
  | _ => .int
abbrev wsX10 : List Cond := u_ws RX1 TX1 12
theorem nmX1 : ∀ a, a < 12 → ∀ b, b < 12 → a ≠ b → (TX1 a).2.1 ≠ (TX1 b).2.1 := by decide +kernel
theorem tyX1_ok : ∀ k, k < 12 → parseFieldDescriptor (TX1 k).2.2.1 = some (tyX1 k) := by decide +kernel
abbrev cX1_init : ByteArray := prog_3_method_1_code
def yX1_init : MethodName := ⟨RX1, "<init>", "()V"⟩
abbrev cX1_clear : ByteArray := prog_3_method_2_code
def yX1_clear : MethodName := ⟨RX1, "clear", "()V"⟩
abbrev cX1_copyFrom : ByteArray := prog_3_method_3_code
def yX1_copyFrom : MethodName := ⟨RX1, "copyFrom", "(LFourPots$Hand;)V"⟩
abbrev cX1_beginCooking : ByteArray := prog_3_method_4_code
def yX1_beginCooking : MethodName := ⟨RX1, "beginCooking", "(I)V"⟩
abbrev cX1_madeOnes : ByteArray := prog_3_method_5_code
def yX1_madeOnes : MethodName := ⟨RX1, "madeOnes", "()I"⟩
abbrev cX1_doMake : ByteArray := prog_3_method_6_code
def yX1_doMake : MethodName := ⟨RX1, "doMake", "(LFourPots$Menu;I)Z"⟩
abbrev cX1_doPour : ByteArray := prog_3_method_7_code
def yX1_doPour : MethodName := ⟨RX1, "doPour", "(LFourPots$Menu;II)Z"⟩
abbrev cX1_doWash : ByteArray := prog_3_method_8_code
def yX1_doWash : MethodName := ⟨RX1, "doWash", "(I)Z"⟩
abbrev cX1_doTrust : ByteArray := prog_3_method_9_code
def yX1_doTrust : MethodName := ⟨RX1, "doTrust", "(LFourPots$Menu;I)Z"⟩
abbrev cX1_doShow : ByteArray := prog_3_method_10_code
def yX1_doShow : MethodName := ⟨RX1, "doShow", "(LFourPots$Menu;I)Z"⟩
abbrev cX1_leave : ByteArray := prog_3_method_11_code
def yX1_leave : MethodName := ⟨RX1, "leave", "(I)V"⟩
abbrev cX1_arrive : ByteArray := prog_3_method_12_code
def yX1_arrive : MethodName := ⟨RX1, "arrive", "(LFourPots$Menu;I)V"⟩
abbrev cX1_nextDraw : ByteArray := prog_3_method_13_code
def yX1_nextDraw : MethodName := ⟨RX1, "nextDraw", "()I"⟩
abbrev cX1_endStep : ByteArray := prog_3_method_14_code
def yX1_endStep : MethodName := ⟨RX1, "endStep", "(LFourPots$Menu;)V"⟩
abbrev cX1_countMissed : ByteArray := prog_3_method_15_code
def yX1_countMissed : MethodName := ⟨RX1, "countMissed", "(I)V"⟩
abbrev cX1_stepsLeft : ByteArray := prog_3_method_16_code
def yX1_stepsLeft : MethodName := ⟨RX1, "stepsLeft", "(LFourPots$Menu;I)I"⟩
abbrev cX1_tellCooked : ByteArray := prog_3_method_17_code
def yX1_tellCooked : MethodName := ⟨RX1, "tellCooked", "(I)I"⟩
def RX2 : String := "FourPots$Least"
def TX2 : u_T := fun k => match k with
  | 0 => ("FourPots$Least", "byWork", "Z", true)
  | 1 => ("FourPots$Least", "room", "LFourPots$Room;", true)
  | 2 => ("FourPots$Least", "menu", "LFourPots$Menu;", false)
  | 3 => ("FourPots$Least", "stamp", "I", false)
  | 4 => ("FourPots$Least", "potsKind", "I", false)
  | 5 => ("FourPots$Least", "key", "[I", false)
  | 6 => ("FourPots$Least", "heap", "[I", false)
  | 7 => ("FourPots$Least", "place", "[I", false)
  | 8 => ("FourPots$Least", "order", "[I", false)
  | 9 => ("FourPots$Least", "onPath", "[Z", false)
  | 10 => ("FourPots$Least", "waiting", "I", false)
  | 11 => ("FourPots$Least", "settled", "I", false)
  | 12 => ("FourPots$Least", "moveTo", "[I", true)
  | 13 => ("FourPots$Least", "movePrice", "[I", true)
  | 14 => ("FourPots$Least", "moveCode", "[I", true)
  | 15 => ("FourPots$Least", "moves", "I", false)
  | 16 => ("FourPots$Least", "path", "[I", false)
  | _ => ("FourPots$Least", "pathLength", "I", false)
def tyX2 : Nat → FieldType := fun k => match k with
  | 0 => .boolean
  | 1 => .object "FourPots$Room"
  | 2 => .object "FourPots$Menu"
  | 3 => .int
  | 4 => .int
  | 5 => .array .int
  | 6 => .array .int
  | 7 => .array .int
  | 8 => .array .int
  | 9 => .array .boolean
  | 10 => .int
  | 11 => .int
  | 12 => .array .int
  | 13 => .array .int
  | 14 => .array .int
  | 15 => .int
  | 16 => .array .int
  | _ => .int
abbrev wsX20 : List Cond := u_ws RX2 TX2 18
theorem nmX2 : ∀ a, a < 18 → ∀ b, b < 18 → a ≠ b → (TX2 a).2.1 ≠ (TX2 b).2.1 := by decide +kernel
theorem tyX2_ok : ∀ k, k < 18 → parseFieldDescriptor (TX2 k).2.2.1 = some (tyX2 k) := by decide +kernel
abbrev cX2_init : ByteArray := prog_4_method_1_code
def yX2_init : MethodName := ⟨RX2, "<init>", "(Z)V"⟩
abbrev cX2_useKitchen : ByteArray := prog_4_method_2_code
def yX2_useKitchen : MethodName := ⟨RX2, "useKitchen", "(LFourPots$Menu;I)V"⟩
abbrev cX2_useBigPots : ByteArray := prog_4_method_3_code
def yX2_useBigPots : MethodName := ⟨RX2, "useBigPots", "(LFourPots$Menu;I)V"⟩
abbrev cX2_isOther : ByteArray := prog_4_method_4_code
def yX2_isOther : MethodName := ⟨RX2, "isOther", "(LFourPots$Menu;I)Z"⟩
abbrev cX2_restart : ByteArray := prog_4_method_5_code
def yX2_restart : MethodName := ⟨RX2, "restart", "()V"⟩
abbrev cX2_seekWork : ByteArray := prog_4_method_6_code
def yX2_seekWork : MethodName := ⟨RX2, "seekWork", "(I)I"⟩
abbrev cX2_seekKey : ByteArray := prog_4_method_7_code
def yX2_seekKey : MethodName := ⟨RX2, "seekKey", "(I)I"⟩
abbrev cX2_settleNext : ByteArray := prog_4_method_8_code
def yX2_settleNext : MethodName := ⟨RX2, "settleNext", "()Z"⟩
abbrev cX2_offer : ByteArray := prog_4_method_9_code
def yX2_offer : MethodName := ⟨RX2, "offer", "(II)V"⟩
abbrev cX2_rise : ByteArray := prog_4_method_10_code
def yX2_rise : MethodName := ⟨RX2, "rise", "(I)V"⟩
abbrev cX2_sink : ByteArray := prog_4_method_11_code
def yX2_sink : MethodName := ⟨RX2, "sink", "()V"⟩
abbrev cX2_listMoves : ByteArray := prog_4_method_12_code
def yX2_listMoves : MethodName := ⟨RX2, "listMoves", "(I)V"⟩
abbrev cX2_listMake : ByteArray := prog_4_method_13_code
def yX2_listMake : MethodName := ⟨RX2, "listMake", "(II)V"⟩
abbrev cX2_listPours : ByteArray := prog_4_method_14_code
def yX2_listPours : MethodName := ⟨RX2, "listPours", "(II)V"⟩
abbrev cX2_priceOf : ByteArray := prog_4_method_15_code
def yX2_priceOf : MethodName := ⟨RX2, "priceOf", "(I)I"⟩
abbrev cX2_addMove : ByteArray := prog_4_method_16_code
def yX2_addMove : MethodName := ⟨RX2, "addMove", "(III)V"⟩
abbrev cX2_tellMove : ByteArray := prog_4_method_17_code
def yX2_tellMove : MethodName := ⟨RX2, "tellMove", "(II)I"⟩
abbrev cX2_findPath : ByteArray := prog_4_method_18_code
def yX2_findPath : MethodName := ⟨RX2, "findPath", "(I)I"⟩
abbrev cX2_markPaths : ByteArray := prog_4_method_19_code
def yX2_markPaths : MethodName := ⟨RX2, "markPaths", "(II)V"⟩
abbrev cX2_firstOnPath : ByteArray := prog_4_method_20_code
def yX2_firstOnPath : MethodName := ⟨RX2, "firstOnPath", "(II)I"⟩
abbrev cX2_walkPath : ByteArray := prog_4_method_21_code
def yX2_walkPath : MethodName := ⟨RX2, "walkPath", "(I)V"⟩
def RX3 : String := "FourPots$Menu"
def TX3 : u_T := fun k => match k with
  | 0 => ("FourPots$Menu", "stamp", "I", false)
  | 1 => ("FourPots$Menu", "count", "I", false)
  | 2 => ("FourPots$Menu", "potCount", "I", false)
  | 3 => ("FourPots$Menu", "poured", "I", false)
  | 4 => ("FourPots$Menu", "once", "I", false)
  | 5 => ("FourPots$Menu", "names", "[J", true)
  | 6 => ("FourPots$Menu", "work", "[I", true)
  | 7 => ("FourPots$Menu", "size", "[I", true)
  | 8 => ("FourPots$Menu", "keptFor", "[I", true)
  | 9 => ("FourPots$Menu", "burns", "[I", true)
  | 10 => ("FourPots$Menu", "needs", "[I", true)
  | 11 => ("FourPots$Menu", "partner", "[I", true)
  | 12 => ("FourPots$Menu", "pots", "[I", true)
  | 13 => ("FourPots$Menu", "group", "[I", true)
  | 14 => ("FourPots$Menu", "groupNeeds", "[I", true)
  | 15 => ("FourPots$Menu", "groupWork", "[I", true)
  | _ => ("FourPots$Menu", "room", "LFourPots$Room;", true)
def tyX3 : Nat → FieldType := fun k => match k with
  | 0 => .int
  | 1 => .int
  | 2 => .int
  | 3 => .int
  | 4 => .int
  | 5 => .array .long
  | 6 => .array .int
  | 7 => .array .int
  | 8 => .array .int
  | 9 => .array .int
  | 10 => .array .int
  | 11 => .array .int
  | 12 => .array .int
  | 13 => .array .int
  | 14 => .array .int
  | 15 => .array .int
  | _ => .object "FourPots$Room"
abbrev wsX30 : List Cond := u_ws RX3 TX3 17
theorem nmX3 : ∀ a, a < 17 → ∀ b, b < 17 → a ≠ b → (TX3 a).2.1 ≠ (TX3 b).2.1 := by decide +kernel
theorem tyX3_ok : ∀ k, k < 17 → parseFieldDescriptor (TX3 k).2.2.1 = some (tyX3 k) := by decide +kernel
abbrev cX3_init : ByteArray := prog_5_method_1_code
def yX3_init : MethodName := ⟨RX3, "<init>", "()V"⟩
abbrev cX3_clear : ByteArray := prog_5_method_2_code
def yX3_clear : MethodName := ⟨RX3, "clear", "()V"⟩
abbrev cX3_copyFrom : ByteArray := prog_5_method_3_code
def yX3_copyFrom : MethodName := ⟨RX3, "copyFrom", "(LFourPots$Menu;)V"⟩
abbrev cX3_derive : ByteArray := prog_5_method_4_code
def yX3_derive : MethodName := ⟨RX3, "derive", "(I)V"⟩
abbrev cX3_has : ByteArray := prog_5_method_5_code
def yX3_has : MethodName := ⟨RX3, "has", "(I)Z"⟩
abbrev cX3_hasSet : ByteArray := prog_5_method_6_code
def yX3_hasSet : MethodName := ⟨RX3, "hasSet", "(I)Z"⟩
abbrev cX3_allDishes : ByteArray := prog_5_method_7_code
def yX3_allDishes : MethodName := ⟨RX3, "allDishes", "()I"⟩
abbrev cX3_dishesFrom : ByteArray := prog_5_method_8_code
def yX3_dishesFrom : MethodName := ⟨RX3, "dishesFrom", "(I)I"⟩
abbrev cX3_dishNamed : ByteArray := prog_5_method_9_code
def yX3_dishNamed : MethodName := ⟨RX3, "dishNamed", "(J)I"⟩
abbrev cX3_isPoured : ByteArray := prog_5_method_10_code
def yX3_isPoured : MethodName := ⟨RX3, "isPoured", "(I)Z"⟩
abbrev cX3_isAlone : ByteArray := prog_5_method_11_code
def yX3_isAlone : MethodName := ⟨RX3, "isAlone", "(I)Z"⟩
abbrev cX3_leadsGroup : ByteArray := prog_5_method_12_code
def yX3_leadsGroup : MethodName := ⟨RX3, "leadsGroup", "(I)Z"⟩
abbrev cX3_goneWith : ByteArray := prog_5_method_13_code
def yX3_goneWith : MethodName := ⟨RX3, "goneWith", "(I)I"⟩
abbrev cX3_tellDish : ByteArray := prog_5_method_14_code
def yX3_tellDish : MethodName := ⟨RX3, "tellDish", "(II)I"⟩
abbrev cX3_layerOf : ByteArray := prog_5_method_15_code
def yX3_layerOf : MethodName := ⟨RX3, "layerOf", "(I)I"⟩
abbrev cX3_deepNeeds : ByteArray := prog_5_method_16_code
def yX3_deepNeeds : MethodName := ⟨RX3, "deepNeeds", "(I)I"⟩
abbrev cX3_allNeeded : ByteArray := prog_5_method_17_code
def yX3_allNeeded : MethodName := ⟨RX3, "allNeeded", "(I)I"⟩
abbrev cX3_workOnce : ByteArray := prog_5_method_18_code
def yX3_workOnce : MethodName := ⟨RX3, "workOnce", "(I)I"⟩
abbrev cX3_leastBound : ByteArray := prog_5_method_19_code
def yX3_leastBound : MethodName := ⟨RX3, "leastBound", "(I)I"⟩
abbrev cX3_ownBound : ByteArray := prog_5_method_20_code
def yX3_ownBound : MethodName := ⟨RX3, "ownBound", "(I)I"⟩
abbrev cX3_treeNumber : ByteArray := prog_5_method_21_code
def yX3_treeNumber : MethodName := ⟨RX3, "treeNumber", "(I)I"⟩
abbrev cX3_isTree : ByteArray := prog_5_method_22_code
def yX3_isTree : MethodName := ⟨RX3, "isTree", "(I)Z"⟩
abbrev cX3_numberAbove : ByteArray := prog_5_method_23_code
def yX3_numberAbove : MethodName := ⟨RX3, "numberAbove", "(I[I)I"⟩
abbrev cX3_greatestOf : ByteArray := prog_5_method_24_code
def yX3_greatestOf : MethodName := ⟨RX3, "greatestOf", "(I[I)I"⟩
def RX4 : String := "FourPots$MenuReader"
def TX4 : u_T := fun k => match k with
  | 0 => ("FourPots$MenuReader", "text", "LFourPots$Text;", true)
  | 1 => ("FourPots$MenuReader", "draft", "LFourPots$Menu;", true)
  | _ => ("FourPots$MenuReader", "taken", "I", false)
def tyX4 : Nat → FieldType := fun k => match k with
  | 0 => .object "FourPots$Text"
  | 1 => .object "FourPots$Menu"
  | _ => .int
abbrev wsX40 : List Cond := u_ws RX4 TX4 3
theorem nmX4 : ∀ a, a < 3 → ∀ b, b < 3 → a ≠ b → (TX4 a).2.1 ≠ (TX4 b).2.1 := by decide +kernel
theorem tyX4_ok : ∀ k, k < 3 → parseFieldDescriptor (TX4 k).2.2.1 = some (tyX4 k) := by decide +kernel
abbrev cX4_init : ByteArray := prog_6_method_1_code
def yX4_init : MethodName := ⟨RX4, "<init>", "(LFourPots$Text;)V"⟩
abbrev cX4_readMenu : ByteArray := prog_6_method_2_code
def yX4_readMenu : MethodName := ⟨RX4, "readMenu", "(I)Z"⟩
abbrev cX4_readDish : ByteArray := prog_6_method_3_code
def yX4_readDish : MethodName := ⟨RX4, "readDish", "()Z"⟩
abbrev cX4_readNewName : ByteArray := prog_6_method_4_code
def yX4_readNewName : MethodName := ⟨RX4, "readNewName", "(I)Z"⟩
abbrev cX4_readAmounts : ByteArray := prog_6_method_5_code
def yX4_readAmounts : MethodName := ⟨RX4, "readAmounts", "(I)Z"⟩
abbrev cX4_readAmount : ByteArray := prog_6_method_6_code
def yX4_readAmount : MethodName := ⟨RX4, "readAmount", "(IIII)I"⟩
abbrev cX4_readNeeds : ByteArray := prog_6_method_7_code
def yX4_readNeeds : MethodName := ⟨RX4, "readNeeds", "(I)Z"⟩
abbrev cX4_readKinds : ByteArray := prog_6_method_8_code
def yX4_readKinds : MethodName := ⟨RX4, "readKinds", "(I)Z"⟩
abbrev cX4_readPair : ByteArray := prog_6_method_9_code
def yX4_readPair : MethodName := ⟨RX4, "readPair", "()Z"⟩
abbrev cX4_readPartner : ByteArray := prog_6_method_10_code
def yX4_readPartner : MethodName := ⟨RX4, "readPartner", "(I)I"⟩
abbrev cX4_canPair : ByteArray := prog_6_method_11_code
def yX4_canPair : MethodName := ⟨RX4, "canPair", "(II)Z"⟩
abbrev cX4_readPots : ByteArray := prog_6_method_12_code
def yX4_readPots : MethodName := ⟨RX4, "readPots", "()Z"⟩
def RX5 : String := "FourPots$Plan"
def TX5 : u_T := fun k => match k with
  | 0 => ("FourPots$Plan", "there", "Z", false)
  | 1 => ("FourPots$Plan", "count", "I", false)
  | 2 => ("FourPots$Plan", "word", "[I", true)
  | 3 => ("FourPots$Plan", "first", "[I", true)
  | 4 => ("FourPots$Plan", "second", "[I", true)
  | 5 => ("FourPots$Plan", "after", "[I", true)
  | 6 => ("FourPots$Plan", "open", "[I", true)
  | 7 => ("FourPots$Plan", "left", "[I", true)
  | 8 => ("FourPots$Plan", "depth", "I", false)
  | _ => ("FourPots$Plan", "next", "I", false)
def tyX5 : Nat → FieldType := fun k => match k with
  | 0 => .boolean
  | 1 => .int
  | 2 => .array .int
  | 3 => .array .int
  | 4 => .array .int
  | 5 => .array .int
  | 6 => .array .int
  | 7 => .array .int
  | 8 => .int
  | _ => .int
abbrev wsX50 : List Cond := u_ws RX5 TX5 10
theorem nmX5 : ∀ a, a < 10 → ∀ b, b < 10 → a ≠ b → (TX5 a).2.1 ≠ (TX5 b).2.1 := by decide +kernel
theorem tyX5_ok : ∀ k, k < 10 → parseFieldDescriptor (TX5 k).2.2.1 = some (tyX5 k) := by decide +kernel
abbrev cX5_init : ByteArray := prog_7_method_1_code
def yX5_init : MethodName := ⟨RX5, "<init>", "()V"⟩
abbrev cX5_clear : ByteArray := prog_7_method_2_code
def yX5_clear : MethodName := ⟨RX5, "clear", "()V"⟩
abbrev cX5_copyFrom : ByteArray := prog_7_method_3_code
def yX5_copyFrom : MethodName := ⟨RX5, "copyFrom", "(LFourPots$Plan;)V"⟩
abbrev cX5_addStep : ByteArray := prog_7_method_4_code
def yX5_addStep : MethodName := ⟨RX5, "addStep", "(III)I"⟩
abbrev cX5_runWith : ByteArray := prog_7_method_5_code
def yX5_runWith : MethodName := ⟨RX5, "runWith", "(LFourPots$Menu;LFourPots$Hand;I)V"⟩
abbrev cX5_isDone : ByteArray := prog_7_method_6_code
def yX5_isDone : MethodName := ⟨RX5, "isDone", "(I)Z"⟩
abbrev cX5_atEndOfOpen : ByteArray := prog_7_method_7_code
def yX5_atEndOfOpen : MethodName := ⟨RX5, "atEndOfOpen", "()Z"⟩
abbrev cX5_closeOrRepeat : ByteArray := prog_7_method_8_code
def yX5_closeOrRepeat : MethodName := ⟨RX5, "closeOrRepeat", "()V"⟩
abbrev cX5_meet : ByteArray := prog_7_method_9_code
def yX5_meet : MethodName := ⟨RX5, "meet", "(LFourPots$Menu;LFourPots$Hand;)V"⟩
abbrev cX5_enter : ByteArray := prog_7_method_10_code
def yX5_enter : MethodName := ⟨RX5, "enter", "(I)V"⟩
abbrev cX5_testHolds : ByteArray := prog_7_method_11_code
def yX5_testHolds : MethodName := ⟨RX5, "testHolds", "(LFourPots$Hand;)Z"⟩
abbrev cX5_attempt : ByteArray := prog_7_method_12_code
def yX5_attempt : MethodName := ⟨RX5, "attempt", "(LFourPots$Menu;LFourPots$Hand;)Z"⟩
def RX6 : String := "FourPots$PlanReader"
def TX6 : u_T := fun k => match k with
  | 0 => ("FourPots$PlanReader", "text", "LFourPots$Text;", true)
  | 1 => ("FourPots$PlanReader", "draft", "LFourPots$Plan;", true)
  | 2 => ("FourPots$PlanReader", "open", "[I", true)
  | _ => ("FourPots$PlanReader", "depth", "I", false)
def tyX6 : Nat → FieldType := fun k => match k with
  | 0 => .object "FourPots$Text"
  | 1 => .object "FourPots$Plan"
  | 2 => .array .int
  | _ => .int
abbrev wsX60 : List Cond := u_ws RX6 TX6 4
theorem nmX6 : ∀ a, a < 4 → ∀ b, b < 4 → a ≠ b → (TX6 a).2.1 ≠ (TX6 b).2.1 := by decide +kernel
theorem tyX6_ok : ∀ k, k < 4 → parseFieldDescriptor (TX6 k).2.2.1 = some (tyX6 k) := by decide +kernel
abbrev cX6_init : ByteArray := prog_8_method_1_code
def yX6_init : MethodName := ⟨RX6, "<init>", "(LFourPots$Text;)V"⟩
abbrev cX6_readPlan : ByteArray := prog_8_method_2_code
def yX6_readPlan : MethodName := ⟨RX6, "readPlan", "(LFourPots$Menu;I)Z"⟩
abbrev cX6_readEnd : ByteArray := prog_8_method_3_code
def yX6_readEnd : MethodName := ⟨RX6, "readEnd", "()Z"⟩
abbrev cX6_readStep : ByteArray := prog_8_method_4_code
def yX6_readStep : MethodName := ⟨RX6, "readStep", "(LFourPots$Menu;)Z"⟩
abbrev cX6_isPlainStep : ByteArray := prog_8_method_5_code
def yX6_isPlainStep : MethodName := ⟨RX6, "isPlainStep", "(I)Z"⟩
abbrev cX6_readRest : ByteArray := prog_8_method_6_code
def yX6_readRest : MethodName := ⟨RX6, "readRest", "(LFourPots$Menu;I)Z"⟩
abbrev cX6_readTest : ByteArray := prog_8_method_7_code
def yX6_readTest : MethodName := ⟨RX6, "readTest", "(LFourPots$Menu;I)Z"⟩
abbrev cX6_readDish : ByteArray := prog_8_method_8_code
def yX6_readDish : MethodName := ⟨RX6, "readDish", "(LFourPots$Menu;)I"⟩
def RX7 : String := "FourPots$Room"
def TX7 : u_T := fun k => match k with
  | 0 => ("FourPots$Room", "masks", "[I", true)
  | 1 => ("FourPots$Room", "limits", "[I", true)
  | _ => ("FourPots$Room", "rules", "I", false)
def tyX7 : Nat → FieldType := fun k => match k with
  | 0 => .array .int
  | 1 => .array .int
  | _ => .int
abbrev wsX70 : List Cond := u_ws RX7 TX7 3
theorem nmX7 : ∀ a, a < 3 → ∀ b, b < 3 → a ≠ b → (TX7 a).2.1 ≠ (TX7 b).2.1 := by decide +kernel
theorem tyX7_ok : ∀ k, k < 3 → parseFieldDescriptor (TX7 k).2.2.1 = some (tyX7 k) := by decide +kernel
abbrev cX7_init : ByteArray := prog_9_method_1_code
def yX7_init : MethodName := ⟨RX7, "<init>", "()V"⟩
abbrev cX7_copyFrom : ByteArray := prog_9_method_2_code
def yX7_copyFrom : MethodName := ⟨RX7, "copyFrom", "(LFourPots$Room;)V"⟩
abbrev cX7_usePots : ByteArray := prog_9_method_3_code
def yX7_usePots : MethodName := ⟨RX7, "usePots", "(LFourPots$Menu;I)V"⟩
abbrev cX7_useBigPots : ByteArray := prog_9_method_4_code
def yX7_useBigPots : MethodName := ⟨RX7, "useBigPots", "(LFourPots$Menu;I)V"⟩
abbrev cX7_addRule : ByteArray := prog_9_method_5_code
def yX7_addRule : MethodName := ⟨RX7, "addRule", "(II)V"⟩
abbrev cX7_holds : ByteArray := prog_9_method_6_code
def yX7_holds : MethodName := ⟨RX7, "holds", "(I)Z"⟩
def RX8 : String := "FourPots$Rounds"
def TX8 : u_T := fun k => match k with
  | 0 => ("FourPots$Rounds", "menu", "LFourPots$Menu;", false)
  | 1 => ("FourPots$Rounds", "goal", "I", false)
  | 2 => ("FourPots$Rounds", "scope", "I", false)
  | 3 => ("FourPots$Rounds", "order", "[I", false)
  | 4 => ("FourPots$Rounds", "seen", "[Z", false)
  | 5 => ("FourPots$Rounds", "found", "I", false)
  | _ => ("FourPots$Rounds", "reached", "Z", false)
def tyX8 : Nat → FieldType := fun k => match k with
  | 0 => .object "FourPots$Menu"
  | 1 => .int
  | 2 => .int
  | 3 => .array .int
  | 4 => .array .boolean
  | 5 => .int
  | _ => .boolean
abbrev wsX80 : List Cond := u_ws RX8 TX8 7
theorem nmX8 : ∀ a, a < 7 → ∀ b, b < 7 → a ≠ b → (TX8 a).2.1 ≠ (TX8 b).2.1 := by decide +kernel
theorem tyX8_ok : ∀ k, k < 7 → parseFieldDescriptor (TX8 k).2.2.1 = some (tyX8 k) := by decide +kernel
abbrev cX8_init : ByteArray := prog_10_method_1_code
def yX8_init : MethodName := ⟨RX8, "<init>", "()V"⟩
abbrev cX8_countRounds : ByteArray := prog_10_method_2_code
def yX8_countRounds : MethodName := ⟨RX8, "countRounds", "(LFourPots$Menu;II)I"⟩
abbrev cX8_allCanBeMade : ByteArray := prog_10_method_3_code
def yX8_allCanBeMade : MethodName := ⟨RX8, "allCanBeMade", "()Z"⟩
abbrev cX8_restart : ByteArray := prog_10_method_4_code
def yX8_restart : MethodName := ⟨RX8, "restart", "()V"⟩
abbrev cX8_add : ByteArray := prog_10_method_5_code
def yX8_add : MethodName := ⟨RX8, "add", "(I)V"⟩
abbrev cX8_washFrom : ByteArray := prog_10_method_6_code
def yX8_washFrom : MethodName := ⟨RX8, "washFrom", "(I)V"⟩
abbrev cX8_readyAt : ByteArray := prog_10_method_7_code
def yX8_readyAt : MethodName := ⟨RX8, "readyAt", "(I)I"⟩
abbrev cX8_cookMore : ByteArray := prog_10_method_8_code
def yX8_cookMore : MethodName := ⟨RX8, "cookMore", "(IIIII)V"⟩
def RX9 : String := "FourPots$Text"
def TX9 : u_T := fun k => match k with
  | 0 => ("FourPots$Text", "tape", "[I", true)
  | 1 => ("FourPots$Text", "taped", "I", false)
  | 2 => ("FourPots$Text", "reserved", "[J", true)
  | 3 => ("FourPots$Text", "tokens", "[I", true)
  | 4 => ("FourPots$Text", "starts", "[I", true)
  | 5 => ("FourPots$Text", "values", "[J", true)
  | 6 => ("FourPots$Text", "end", "I", false)
  | 7 => ("FourPots$Text", "at", "I", false)
  | 8 => ("FourPots$Text", "place", "I", false)
  | 9 => ("FourPots$Text", "token", "I", false)
  | 10 => ("FourPots$Text", "fault", "I", false)
  | _ => ("FourPots$Text", "faultPlace", "I", false)
def tyX9 : Nat → FieldType := fun k => match k with
  | 0 => .array .int
  | 1 => .int
  | 2 => .array .long
  | 3 => .array .int
  | 4 => .array .int
  | 5 => .array .long
  | 6 => .int
  | 7 => .int
  | 8 => .int
  | 9 => .int
  | 10 => .int
  | _ => .int
abbrev wsX90 : List Cond := u_ws RX9 TX9 12
theorem nmX9 : ∀ a, a < 12 → ∀ b, b < 12 → a ≠ b → (TX9 a).2.1 ≠ (TX9 b).2.1 := by decide +kernel
theorem tyX9_ok : ∀ k, k < 12 → parseFieldDescriptor (TX9 k).2.2.1 = some (tyX9 k) := by decide +kernel
abbrev cX9_init : ByteArray := prog_11_method_1_code
def yX9_init : MethodName := ⟨RX9, "<init>", "()V"⟩
abbrev cX9_withLetter : ByteArray := prog_11_method_2_code
def yX9_withLetter : MethodName := ⟨RX9, "withLetter", "(JI)J"⟩
abbrev cX9_hasRoom : ByteArray := prog_11_method_3_code
def yX9_hasRoom : MethodName := ⟨RX9, "hasRoom", "()Z"⟩
abbrev cX9_append : ByteArray := prog_11_method_4_code
def yX9_append : MethodName := ⟨RX9, "append", "(I)V"⟩
abbrev cX9_emptyTape : ByteArray := prog_11_method_5_code
def yX9_emptyTape : MethodName := ⟨RX9, "emptyTape", "()V"⟩
abbrev cX9_begin : ByteArray := prog_11_method_6_code
def yX9_begin : MethodName := ⟨RX9, "begin", "(I)V"⟩
abbrev cX9_skipBlanks : ByteArray := prog_11_method_7_code
def yX9_skipBlanks : MethodName := ⟨RX9, "skipBlanks", "()V"⟩
abbrev cX9_cutToken : ByteArray := prog_11_method_8_code
def yX9_cutToken : MethodName := ⟨RX9, "cutToken", "(I)I"⟩
abbrev cX9_isLetter : ByteArray := prog_11_method_9_code
def yX9_isLetter : MethodName := ⟨RX9, "isLetter", "(I)Z"⟩
abbrev cX9_isDigit : ByteArray := prog_11_method_10_code
def yX9_isDigit : MethodName := ⟨RX9, "isDigit", "(I)Z"⟩
abbrev cX9_cutWord : ByteArray := prog_11_method_11_code
def yX9_cutWord : MethodName := ⟨RX9, "cutWord", "(I)I"⟩
abbrev cX9_cutNumber : ByteArray := prog_11_method_12_code
def yX9_cutNumber : MethodName := ⟨RX9, "cutNumber", "(I)I"⟩
abbrev cX9_advance : ByteArray := prog_11_method_13_code
def yX9_advance : MethodName := ⟨RX9, "advance", "()V"⟩
abbrev cX9_value : ByteArray := prog_11_method_14_code
def yX9_value : MethodName := ⟨RX9, "value", "()J"⟩
abbrev cX9_blame : ByteArray := prog_11_method_15_code
def yX9_blame : MethodName := ⟨RX9, "blame", "(I)Z"⟩
abbrev cX9_misplaced : ByteArray := prog_11_method_16_code
def yX9_misplaced : MethodName := ⟨RX9, "misplaced", "()Z"⟩
abbrev cX9_takeToken : ByteArray := prog_11_method_17_code
def yX9_takeToken : MethodName := ⟨RX9, "takeToken", "(I)Z"⟩
abbrev cX9_takeNumber : ByteArray := prog_11_method_18_code
def yX9_takeNumber : MethodName := ⟨RX9, "takeNumber", "(II)I"⟩
def RX10 : String := "FourPots$Trays"
def TX10 : u_T := fun k => match k with
  | 0 => ("FourPots$Trays", "rows", "[[J", true)
  | 1 => ("FourPots$Trays", "sorts", "[I", true)
  | _ => ("FourPots$Trays", "lengths", "[I", true)
def tyX10 : Nat → FieldType := fun k => match k with
  | 0 => .array (.array .long)
  | 1 => .array .int
  | _ => .array .int
abbrev wsX100 : List Cond := u_ws RX10 TX10 3
theorem nmX10 : ∀ a, a < 3 → ∀ b, b < 3 → a ≠ b → (TX10 a).2.1 ≠ (TX10 b).2.1 := by decide +kernel
theorem tyX10_ok : ∀ k, k < 3 → parseFieldDescriptor (TX10 k).2.2.1 = some (tyX10 k) := by decide +kernel
abbrev cX10_init : ByteArray := prog_12_method_1_code
def yX10_init : MethodName := ⟨RX10, "<init>", "()V"⟩
abbrev cX10_isTray : ByteArray := prog_12_method_2_code
def yX10_isTray : MethodName := ⟨RX10, "isTray", "(I)Z"⟩
abbrev cX10_isSort : ByteArray := prog_12_method_3_code
def yX10_isSort : MethodName := ⟨RX10, "isSort", "(I)Z"⟩
abbrev cX10_isThere : ByteArray := prog_12_method_4_code
def yX10_isThere : MethodName := ⟨RX10, "isThere", "(I)Z"⟩
abbrev cX10_areAlike : ByteArray := prog_12_method_5_code
def yX10_areAlike : MethodName := ⟨RX10, "areAlike", "(II)Z"⟩
abbrev cX10_hasRun : ByteArray := prog_12_method_6_code
def yX10_hasRun : MethodName := ⟨RX10, "hasRun", "(III)Z"⟩
abbrev cX10_lay : ByteArray := prog_12_method_7_code
def yX10_lay : MethodName := ⟨RX10, "lay", "(III)V"⟩
abbrev cX10_whyNot : ByteArray := prog_12_method_8_code
def yX10_whyNot : MethodName := ⟨RX10, "whyNot", "(II)I"⟩
abbrev cX10_put : ByteArray := prog_12_method_9_code
def yX10_put : MethodName := ⟨RX10, "put", "(IIJ)V"⟩
abbrev cX10_numberAt : ByteArray := prog_12_method_10_code
def yX10_numberAt : MethodName := ⟨RX10, "numberAt", "(II)J"⟩
abbrev cX10_carry : ByteArray := prog_12_method_11_code
def yX10_carry : MethodName := ⟨RX10, "carry", "(IIIII)V"⟩
def RX11 : String := "FourPots"
def TX11 : u_T := fun k => match k with
  | 0 => ("FourPots", "status", "I", false)
  | 1 => ("FourPots", "top", "J", false)
  | 2 => ("FourPots", "bottom", "J", false)
  | 3 => ("FourPots", "trays", "LFourPots$Trays;", true)
  | 4 => ("FourPots", "text", "LFourPots$Text;", true)
  | 5 => ("FourPots", "menuReader", "LFourPots$MenuReader;", true)
  | 6 => ("FourPots", "planReader", "LFourPots$PlanReader;", true)
  | 7 => ("FourPots", "menus", "[LFourPots$Menu;", true)
  | 8 => ("FourPots", "plans", "[LFourPots$Plan;", true)
  | 9 => ("FourPots", "hands", "[LFourPots$Hand;", true)
  | 10 => ("FourPots", "marks", "I", false)
  | 11 => ("FourPots", "leastWork", "LFourPots$Least;", true)
  | 12 => ("FourPots", "leastOther", "LFourPots$Least;", true)
  | 13 => ("FourPots", "leastSteps", "LFourPots$Least;", true)
  | 14 => ("FourPots", "fewestPots", "LFourPots$Fewest;", true)
  | 15 => ("FourPots", "fewestTrusting", "LFourPots$Fewest;", true)
  | 16 => ("FourPots", "roundsOfCooks", "LFourPots$Rounds;", true)
  | 17 => ("FourPots", "cookHand", "LFourPots$Hand;", true)
  | 18 => ("FourPots", "trialHand", "LFourPots$Hand;", true)
  | _ => ("FourPots", "cookedOnce", "Z", false)
def tyX11 : Nat → FieldType := fun k => match k with
  | 0 => .int
  | 1 => .long
  | 2 => .long
  | 3 => .object "FourPots$Trays"
  | 4 => .object "FourPots$Text"
  | 5 => .object "FourPots$MenuReader"
  | 6 => .object "FourPots$PlanReader"
  | 7 => .array (.object "FourPots$Menu")
  | 8 => .array (.object "FourPots$Plan")
  | 9 => .array (.object "FourPots$Hand")
  | 10 => .int
  | 11 => .object "FourPots$Least"
  | 12 => .object "FourPots$Least"
  | 13 => .object "FourPots$Least"
  | 14 => .object "FourPots$Fewest"
  | 15 => .object "FourPots$Fewest"
  | 16 => .object "FourPots$Rounds"
  | 17 => .object "FourPots$Hand"
  | 18 => .object "FourPots$Hand"
  | _ => .boolean
abbrev wsX110 : List Cond := u_ws RX11 TX11 20
theorem nmX11 : ∀ a, a < 20 → ∀ b, b < 20 → a ≠ b → (TX11 a).2.1 ≠ (TX11 b).2.1 := by decide +kernel
theorem tyX11_ok : ∀ k, k < 20 → parseFieldDescriptor (TX11 k).2.2.1 = some (tyX11 k) := by decide +kernel
abbrev cX11_init : ByteArray := prog_1_method_1_code
def yX11_init : MethodName := ⟨RX11, "<init>", "()V"⟩
abbrev cX11_status : ByteArray := prog_1_method_2_code
def yX11_status : MethodName := ⟨RX11, "status", "()I"⟩
abbrev cX11_top : ByteArray := prog_1_method_3_code
def yX11_top : MethodName := ⟨RX11, "top", "()J"⟩
abbrev cX11_bottom : ByteArray := prog_1_method_4_code
def yX11_bottom : MethodName := ⟨RX11, "bottom", "()J"⟩
abbrev cX11_tray : ByteArray := prog_1_method_5_code
def yX11_tray : MethodName := ⟨RX11, "tray", "(III)Z"⟩
abbrev cX11_write : ByteArray := prog_1_method_6_code
def yX11_write : MethodName := ⟨RX11, "write", "(IIJ)Z"⟩
abbrev cX11_read : ByteArray := prog_1_method_7_code
def yX11_read : MethodName := ⟨RX11, "read", "(II)J"⟩
abbrev cX11_pour : ByteArray := prog_1_method_8_code
def yX11_pour : MethodName := ⟨RX11, "pour", "(IIIII)Z"⟩
abbrev cX11_feed : ByteArray := prog_1_method_9_code
def yX11_feed : MethodName := ⟨RX11, "feed", "(IIIII)I"⟩
abbrev cX11_menu : ByteArray := prog_1_method_10_code
def yX11_menu : MethodName := ⟨RX11, "menu", "(I)I"⟩
abbrev cX11_plan : ByteArray := prog_1_method_11_code
def yX11_plan : MethodName := ⟨RX11, "plan", "(I)I"⟩
abbrev cX11_fault : ByteArray := prog_1_method_12_code
def yX11_fault : MethodName := ⟨RX11, "fault", "(I)I"⟩
abbrev cX11_told : ByteArray := prog_1_method_13_code
def yX11_told : MethodName := ⟨RX11, "told", "(I)I"⟩
abbrev cX11_dish : ByteArray := prog_1_method_14_code
def yX11_dish : MethodName := ⟨RX11, "dish", "(II)I"⟩
abbrev cX11_pot : ByteArray := prog_1_method_15_code
def yX11_pot : MethodName := ⟨RX11, "pot", "(I)I"⟩
abbrev cX11_fits : ByteArray := prog_1_method_16_code
def yX11_fits : MethodName := ⟨RX11, "fits", "(I)I"⟩
abbrev cX11_needed : ByteArray := prog_1_method_17_code
def yX11_needed : MethodName := ⟨RX11, "needed", "(I)I"⟩
abbrev cX11_make : ByteArray := prog_1_method_18_code
def yX11_make : MethodName := ⟨RX11, "make", "(I)I"⟩
abbrev cX11_pourOver : ByteArray := prog_1_method_19_code
def yX11_pourOver : MethodName := ⟨RX11, "pourOver", "(II)I"⟩
abbrev cX11_wash : ByteArray := prog_1_method_20_code
def yX11_wash : MethodName := ⟨RX11, "wash", "(I)I"⟩
abbrev cX11_trust : ByteArray := prog_1_method_21_code
def yX11_trust : MethodName := ⟨RX11, "trust", "(I)I"⟩
abbrev cX11_show : ByteArray := prog_1_method_22_code
def yX11_show : MethodName := ⟨RX11, "show", "(I)I"⟩
abbrev cX11_keeps : ByteArray := prog_1_method_23_code
def yX11_keeps : MethodName := ⟨RX11, "keeps", "(I)I"⟩
abbrev cX11_empty : ByteArray := prog_1_method_24_code
def yX11_empty : MethodName := ⟨RX11, "empty", "()Z"⟩
abbrev cX11_work : ByteArray := prog_1_method_25_code
def yX11_work : MethodName := ⟨RX11, "work", "(I)I"⟩
abbrev cX11_steps : ByteArray := prog_1_method_26_code
def yX11_steps : MethodName := ⟨RX11, "steps", "(I)I"⟩
abbrev cX11_first : ByteArray := prog_1_method_27_code
def yX11_first : MethodName := ⟨RX11, "first", "(I)I"⟩
abbrev cX11_firstAt : ByteArray := prog_1_method_28_code
def yX11_firstAt : MethodName := ⟨RX11, "firstAt", "(II)I"⟩
abbrev cX11_fewest : ByteArray := prog_1_method_29_code
def yX11_fewest : MethodName := ⟨RX11, "fewest", "(I)I"⟩
abbrev cX11_curve : ByteArray := prog_1_method_30_code
def yX11_curve : MethodName := ⟨RX11, "curve", "(II)I"⟩
abbrev cX11_trustful : ByteArray := prog_1_method_31_code
def yX11_trustful : MethodName := ⟨RX11, "trustful", "(I)I"⟩
abbrev cX11_bound : ByteArray := prog_1_method_32_code
def yX11_bound : MethodName := ⟨RX11, "bound", "(I)I"⟩
abbrev cX11_treeRule : ByteArray := prog_1_method_33_code
def yX11_treeRule : MethodName := ⟨RX11, "treeRule", "(I)I"⟩
abbrev cX11_rounds : ByteArray := prog_1_method_34_code
def yX11_rounds : MethodName := ⟨RX11, "rounds", "(II)I"⟩
abbrev cX11_spared : ByteArray := prog_1_method_35_code
def yX11_spared : MethodName := ⟨RX11, "spared", "(II)I"⟩
abbrev cX11_again : ByteArray := prog_1_method_36_code
def yX11_again : MethodName := ⟨RX11, "again", "(I)Z"⟩
abbrev cX11_cook : ByteArray := prog_1_method_37_code
def yX11_cook : MethodName := ⟨RX11, "cook", "(I)I"⟩
abbrev cX11_cooked : ByteArray := prog_1_method_38_code
def yX11_cooked : MethodName := ⟨RX11, "cooked", "(I)I"⟩
abbrev cX11_judged : ByteArray := prog_1_method_39_code
def yX11_judged : MethodName := ⟨RX11, "judged", "()I"⟩
abbrev cX11_odds : ByteArray := prog_1_method_40_code
def yX11_odds : MethodName := ⟨RX11, "odds", "(III)Z"⟩
abbrev cX11_mark : ByteArray := prog_1_method_41_code
def yX11_mark : MethodName := ⟨RX11, "mark", "()I"⟩
abbrev cX11_back : ByteArray := prog_1_method_42_code
def yX11_back : MethodName := ⟨RX11, "back", "()I"⟩
abbrev cX11_here : ByteArray := prog_1_method_43_code
def yX11_here : MethodName := ⟨RX11, "here", "()LFourPots$Menu;"⟩
abbrev cX11_answer : ByteArray := prog_1_method_44_code
def yX11_answer : MethodName := ⟨RX11, "answer", "(I)I"⟩
abbrev cX11_refuse : ByteArray := prog_1_method_45_code
def yX11_refuse : MethodName := ⟨RX11, "refuse", "(I)I"⟩
abbrev cX11_found : ByteArray := prog_1_method_46_code
def yX11_found : MethodName := ⟨RX11, "found", "(I)I"⟩
abbrev cX11_granted : ByteArray := prog_1_method_47_code
def yX11_granted : MethodName := ⟨RX11, "granted", "()Z"⟩
abbrev cX11_denied : ByteArray := prog_1_method_48_code
def yX11_denied : MethodName := ⟨RX11, "denied", "(I)Z"⟩
abbrev cX11_afterStep : ByteArray := prog_1_method_49_code
def yX11_afterStep : MethodName := ⟨RX11, "afterStep", "(Z)I"⟩
abbrev cX11_tellFraction : ByteArray := prog_1_method_50_code
def yX11_tellFraction : MethodName := ⟨RX11, "tellFraction", "(II)V"⟩
def RX12 : String := "FourPotsModel"
def TX12 : u_T := fun k => match k with
  | 0 => ("FourPotsModel", "at", "[I", true)
  | 1 => ("FourPotsModel", "names", "[J", true)
  | 2 => ("FourPotsModel", "status", "I", false)
  | 3 => ("FourPotsModel", "top", "J", false)
  | 4 => ("FourPotsModel", "bottom", "J", false)
  | 5 => ("FourPotsModel", "sort", "[I", true)
  | 6 => ("FourPotsModel", "trayMany", "[I", true)
  | 7 => ("FourPotsModel", "trays", "[J", true)
  | 8 => ("FourPotsModel", "tape", "[B", true)
  | 9 => ("FourPotsModel", "text", "[B", true)
  | 10 => ("FourPotsModel", "taped", "I", false)
  | 11 => ("FourPotsModel", "size", "I", false)
  | 12 => ("FourPotsModel", "token", "I", false)
  | 13 => ("FourPotsModel", "from", "I", false)
  | 14 => ("FourPotsModel", "end", "I", false)
  | 15 => ("FourPotsModel", "value", "I", false)
  | 16 => ("FourPotsModel", "faultKind", "I", false)
  | 17 => ("FourPotsModel", "faultPlace", "I", false)
  | 18 => ("FourPotsModel", "faults", "I", false)
  | 19 => ("FourPotsModel", "seen", "I", false)
  | 20 => ("FourPotsModel", "opened", "[I", true)
  | 21 => ("FourPotsModel", "depth", "I", false)
  | 22 => ("FourPotsModel", "counted", "I", false)
  | 23 => ("FourPotsModel", "big", "[I", true)
  | 24 => ("FourPotsModel", "fit", "[Z", true)
  | 25 => ("FourPotsModel", "isLaid", "Z", false)
  | 26 => ("FourPotsModel", "toGo", "[I", true)
  | 27 => ("FourPotsModel", "firstWhat", "[I", true)
  | 28 => ("FourPotsModel", "firstDish", "[I", true)
  | 29 => ("FourPotsModel", "firstOver", "[I", true)
  | 30 => ("FourPotsModel", "firstMany", "I", false)
  | 31 => ("FourPotsModel", "come", "[Z", true)
  | 32 => ("FourPotsModel", "open", "[I", true)
  | 33 => ("FourPotsModel", "openMany", "I", false)
  | 34 => ("FourPotsModel", "few", "[I", true)
  | 35 => ("FourPotsModel", "fewMany", "I", false)
  | 36 => ("FourPotsModel", "rule", "[I", true)
  | 37 => ("FourPotsModel", "inOrder", "[I", true)
  | 38 => ("FourPotsModel", "now", "[Z", true)
  | 39 => ("FourPotsModel", "next", "[Z", true)
  | 40 => ("FourPotsModel", "drawn", "I", false)
  | 41 => ("FourPotsModel", "ranWork", "I", false)
  | 42 => ("FourPotsModel", "ranActs", "I", false)
  | 43 => ("FourPotsModel", "ranMissed", "I", false)
  | 44 => ("FourPotsModel", "ranMost", "I", false)
  | 45 => ("FourPotsModel", "ranBurnt", "I", false)
  | 46 => ("FourPotsModel", "ranSpoilt", "I", false)
  | 47 => ("FourPotsModel", "firstMissed", "I", false)
  | 48 => ("FourPotsModel", "draws", "Z", false)
  | 49 => ("FourPotsModel", "rounds0", "[I", true)
  | 50 => ("FourPotsModel", "kept", "[I", true)
  | 51 => ("FourPotsModel", "told", "[I", true)
  | 52 => ("FourPotsModel", "isTold", "Z", false)
  | 53 => ("FourPotsModel", "endStanding", "I", false)
  | 54 => ("FourPotsModel", "endTrusted", "I", false)
  | _ => ("FourPotsModel", "marks", "I", false)
def tyX12 : Nat → FieldType := fun k => match k with
  | 0 => .array .int
  | 1 => .array .long
  | 2 => .int
  | 3 => .long
  | 4 => .long
  | 5 => .array .int
  | 6 => .array .int
  | 7 => .array .long
  | 8 => .array .byte
  | 9 => .array .byte
  | 10 => .int
  | 11 => .int
  | 12 => .int
  | 13 => .int
  | 14 => .int
  | 15 => .int
  | 16 => .int
  | 17 => .int
  | 18 => .int
  | 19 => .int
  | 20 => .array .int
  | 21 => .int
  | 22 => .int
  | 23 => .array .int
  | 24 => .array .boolean
  | 25 => .boolean
  | 26 => .array .int
  | 27 => .array .int
  | 28 => .array .int
  | 29 => .array .int
  | 30 => .int
  | 31 => .array .boolean
  | 32 => .array .int
  | 33 => .int
  | 34 => .array .int
  | 35 => .int
  | 36 => .array .int
  | 37 => .array .int
  | 38 => .array .boolean
  | 39 => .array .boolean
  | 40 => .int
  | 41 => .int
  | 42 => .int
  | 43 => .int
  | 44 => .int
  | 45 => .int
  | 46 => .int
  | 47 => .int
  | 48 => .boolean
  | 49 => .array .int
  | 50 => .array .int
  | 51 => .array .int
  | 52 => .boolean
  | 53 => .int
  | 54 => .int
  | _ => .int
abbrev wsX120 : List Cond := u_ws RX12 TX12 56
theorem nmX12 : ∀ a, a < 56 → ∀ b, b < 56 → a ≠ b → (TX12 a).2.1 ≠ (TX12 b).2.1 := by decide +kernel
theorem tyX12_ok : ∀ k, k < 56 → parseFieldDescriptor (TX12 k).2.2.1 = some (tyX12 k) := by decide +kernel
abbrev cX12_init : ByteArray := prog_14_method_1_code
def yX12_init : MethodName := ⟨RX12, "<init>", "()V"⟩
abbrev cX12_status : ByteArray := prog_14_method_2_code
def yX12_status : MethodName := ⟨RX12, "status", "()I"⟩
abbrev cX12_top : ByteArray := prog_14_method_3_code
def yX12_top : MethodName := ⟨RX12, "top", "()J"⟩
abbrev cX12_bottom : ByteArray := prog_14_method_4_code
def yX12_bottom : MethodName := ⟨RX12, "bottom", "()J"⟩
abbrev cX12_is : ByteArray := prog_14_method_5_code
def yX12_is : MethodName := ⟨RX12, "is", "(I)Z"⟩
abbrev cX12_refuse : ByteArray := prog_14_method_6_code
def yX12_refuse : MethodName := ⟨RX12, "refuse", "(I)I"⟩
abbrev cX12_gives : ByteArray := prog_14_method_7_code
def yX12_gives : MethodName := ⟨RX12, "gives", "(I)I"⟩
abbrev cX12_tellsBy : ByteArray := prog_14_method_8_code
def yX12_tellsBy : MethodName := ⟨RX12, "tellsBy", "(JJ)Z"⟩
abbrev cX12_isTray : ByteArray := prog_14_method_9_code
def yX12_isTray : MethodName := ⟨RX12, "isTray", "(I)Z"⟩
abbrev cX12_cut : ByteArray := prog_14_method_10_code
def yX12_cut : MethodName := ⟨RX12, "cut", "(JI)J"⟩
abbrev cX12_tray : ByteArray := prog_14_method_11_code
def yX12_tray : MethodName := ⟨RX12, "tray", "(III)Z"⟩
abbrev cX12_wrongPlace : ByteArray := prog_14_method_12_code
def yX12_wrongPlace : MethodName := ⟨RX12, "wrongPlace", "(II)I"⟩
abbrev cX12_write : ByteArray := prog_14_method_13_code
def yX12_write : MethodName := ⟨RX12, "write", "(IIJ)Z"⟩
abbrev cX12_read : ByteArray := prog_14_method_14_code
def yX12_read : MethodName := ⟨RX12, "read", "(II)J"⟩
abbrev cX12_pour : ByteArray := prog_14_method_15_code
def yX12_pour : MethodName := ⟨RX12, "pour", "(IIIII)Z"⟩
abbrev cX12_isFrom : ByteArray := prog_14_method_16_code
def yX12_isFrom : MethodName := ⟨RX12, "isFrom", "(JJJ)Z"⟩
abbrev cX12_feed : ByteArray := prog_14_method_17_code
def yX12_feed : MethodName := ⟨RX12, "feed", "(IIIII)I"⟩
abbrev cX12_four : ByteArray := prog_14_method_18_code
def yX12_four : MethodName := ⟨RX12, "four", "(I)V"⟩
abbrev cX12_byteAt : ByteArray := prog_14_method_19_code
def yX12_byteAt : MethodName := ⟨RX12, "byteAt", "(I)I"⟩
abbrev cX12_isSmall : ByteArray := prog_14_method_20_code
def yX12_isSmall : MethodName := ⟨RX12, "isSmall", "(I)Z"⟩
abbrev cX12_isDigit : ByteArray := prog_14_method_21_code
def yX12_isDigit : MethodName := ⟨RX12, "isDigit", "(I)Z"⟩
abbrev cX12_ahead : ByteArray := prog_14_method_22_code
def yX12_ahead : MethodName := ⟨RX12, "ahead", "()V"⟩
abbrev cX12_isSign : ByteArray := prog_14_method_23_code
def yX12_isSign : MethodName := ⟨RX12, "isSign", "(I)Z"⟩
abbrev cX12_inWords : ByteArray := prog_14_method_24_code
def yX12_inWords : MethodName := ⟨RX12, "inWords", "(Ljava/lang/String;)I"⟩
abbrev cX12_fails : ByteArray := prog_14_method_25_code
def yX12_fails : MethodName := ⟨RX12, "fails", "(I)Z"⟩
abbrev cX12_begins : ByteArray := prog_14_method_26_code
def yX12_begins : MethodName := ⟨RX12, "begins", "(II)Z"⟩
abbrev cX12_wantSign : ByteArray := prog_14_method_27_code
def yX12_wantSign : MethodName := ⟨RX12, "wantSign", "(I)Z"⟩
abbrev cX12_wantWord : ByteArray := prog_14_method_28_code
def yX12_wantWord : MethodName := ⟨RX12, "wantWord", "(Ljava/lang/String;I)Z"⟩
abbrev cX12_number : ByteArray := prog_14_method_29_code
def yX12_number : MethodName := ⟨RX12, "number", "(III)Z"⟩
abbrev cX12_isName : ByteArray := prog_14_method_30_code
def yX12_isName : MethodName := ⟨RX12, "isName", "(Ljava/lang/String;)Z"⟩
abbrev cX12_nameHere : ByteArray := prog_14_method_31_code
def yX12_nameHere : MethodName := ⟨RX12, "nameHere", "()J"⟩
abbrev cX12_findHere : ByteArray := prog_14_method_32_code
def yX12_findHere : MethodName := ⟨RX12, "findHere", "(II)I"⟩
abbrev cX12_fault : ByteArray := prog_14_method_33_code
def yX12_fault : MethodName := ⟨RX12, "fault", "(I)I"⟩
abbrev cX12_taken : ByteArray := prog_14_method_34_code
def yX12_taken : MethodName := ⟨RX12, "taken", "(I)I"⟩
abbrev cX12_bits : ByteArray := prog_14_method_35_code
def yX12_bits : MethodName := ⟨RX12, "bits", "(I)I"⟩
abbrev cX12_ofNew : ByteArray := prog_14_method_36_code
def yX12_ofNew : MethodName := ⟨RX12, "ofNew", "(II)I"⟩
abbrev cX12_dishHere : ByteArray := prog_14_method_37_code
def yX12_dishHere : MethodName := ⟨RX12, "dishHere", "(II)I"⟩
abbrev cX12_aDish : ByteArray := prog_14_method_38_code
def yX12_aDish : MethodName := ⟨RX12, "aDish", "()Z"⟩
abbrev cX12_behindNew : ByteArray := prog_14_method_39_code
def yX12_behindNew : MethodName := ⟨RX12, "behindNew", "(I)I"⟩
abbrev cX12_aPair : ByteArray := prog_14_method_40_code
def yX12_aPair : MethodName := ⟨RX12, "aPair", "()Z"⟩
abbrev cX12_thePots : ByteArray := prog_14_method_41_code
def yX12_thePots : MethodName := ⟨RX12, "thePots", "()Z"⟩
abbrev cX12_menuPart : ByteArray := prog_14_method_42_code
def yX12_menuPart : MethodName := ⟨RX12, "menuPart", "()Z"⟩
abbrev cX12_menu : ByteArray := prog_14_method_43_code
def yX12_menu : MethodName := ⟨RX12, "menu", "(I)I"⟩
abbrev cX12_planName : ByteArray := prog_14_method_44_code
def yX12_planName : MethodName := ⟨RX12, "planName", "(I)Z"⟩
abbrev cX12_aTest : ByteArray := prog_14_method_45_code
def yX12_aTest : MethodName := ⟨RX12, "aTest", "(I)Z"⟩
abbrev cX12_step : ByteArray := prog_14_method_46_code
def yX12_step : MethodName := ⟨RX12, "step", "()Z"⟩
abbrev cX12_plan : ByteArray := prog_14_method_47_code
def yX12_plan : MethodName := ⟨RX12, "plan", "(I)I"⟩
abbrev cX12_isDish : ByteArray := prog_14_method_48_code
def yX12_isDish : MethodName := ⟨RX12, "isDish", "(I)Z"⟩
abbrev cX12_sets : ByteArray := prog_14_method_49_code
def yX12_sets : MethodName := ⟨RX12, "sets", "()I"⟩
abbrev cX12_isSet : ByteArray := prog_14_method_50_code
def yX12_isSet : MethodName := ⟨RX12, "isSet", "(I)Z"⟩
abbrev cX12_has : ByteArray := prog_14_method_51_code
def yX12_has : MethodName := ⟨RX12, "has", "(II)Z"⟩
abbrev cX12_of : ByteArray := prog_14_method_52_code
def yX12_of : MethodName := ⟨RX12, "of", "(II)I"⟩
abbrev cX12_partner : ByteArray := prog_14_method_53_code
def yX12_partner : MethodName := ⟨RX12, "partner", "(I)I"⟩
abbrev cX12_withPartner : ByteArray := prog_14_method_54_code
def yX12_withPartner : MethodName := ⟨RX12, "withPartner", "(I)I"⟩
abbrev cX12_toMake : ByteArray := prog_14_method_55_code
def yX12_toMake : MethodName := ⟨RX12, "toMake", "(I)I"⟩
abbrev cX12_workOf : ByteArray := prog_14_method_56_code
def yX12_workOf : MethodName := ⟨RX12, "workOf", "(I)I"⟩
abbrev cX12_onceOf : ByteArray := prog_14_method_57_code
def yX12_onceOf : MethodName := ⟨RX12, "onceOf", "(I)I"⟩
abbrev cX12_layerOf : ByteArray := prog_14_method_58_code
def yX12_layerOf : MethodName := ⟨RX12, "layerOf", "(I)I"⟩
abbrev cX12_told : ByteArray := prog_14_method_59_code
def yX12_told : MethodName := ⟨RX12, "told", "(I)I"⟩
abbrev cX12_dish : ByteArray := prog_14_method_60_code
def yX12_dish : MethodName := ⟨RX12, "dish", "(II)I"⟩
abbrev cX12_pot : ByteArray := prog_14_method_61_code
def yX12_pot : MethodName := ⟨RX12, "pot", "(I)I"⟩
abbrev cX12_counts : ByteArray := prog_14_method_62_code
def yX12_counts : MethodName := ⟨RX12, "counts", "(II)V"⟩
abbrev cX12_fitsIn : ByteArray := prog_14_method_63_code
def yX12_fitsIn : MethodName := ⟨RX12, "fitsIn", "(I)Z"⟩
abbrev cX12_laysFits : ByteArray := prog_14_method_64_code
def yX12_laysFits : MethodName := ⟨RX12, "laysFits", "(II)V"⟩
abbrev cX12_fits : ByteArray := prog_14_method_65_code
def yX12_fits : MethodName := ⟨RX12, "fits", "(I)I"⟩
abbrev cX12_neededFor : ByteArray := prog_14_method_66_code
def yX12_neededFor : MethodName := ⟨RX12, "neededFor", "(I)I"⟩
abbrev cX12_needed : ByteArray := prog_14_method_67_code
def yX12_needed : MethodName := ⟨RX12, "needed", "(I)I"⟩
abbrev cX12_makes : ByteArray := prog_14_method_68_code
def yX12_makes : MethodName := ⟨RX12, "makes", "(II)I"⟩
abbrev cX12_pours : ByteArray := prog_14_method_69_code
def yX12_pours : MethodName := ⟨RX12, "pours", "(IIII)I"⟩
abbrev cX12_ages : ByteArray := prog_14_method_70_code
def yX12_ages : MethodName := ⟨RX12, "ages", "(I)I"⟩
abbrev cX12_stands : ByteArray := prog_14_method_71_code
def yX12_stands : MethodName := ⟨RX12, "stands", "(II)V"⟩
abbrev cX12_doneBy : ByteArray := prog_14_method_72_code
def yX12_doneBy : MethodName := ⟨RX12, "doneBy", "(II)I"⟩
abbrev cX12_makesNow : ByteArray := prog_14_method_73_code
def yX12_makesNow : MethodName := ⟨RX12, "makesNow", "(I)Z"⟩
abbrev cX12_poursNow : ByteArray := prog_14_method_74_code
def yX12_poursNow : MethodName := ⟨RX12, "poursNow", "(II)Z"⟩
abbrev cX12_washesNow : ByteArray := prog_14_method_75_code
def yX12_washesNow : MethodName := ⟨RX12, "washesNow", "(I)Z"⟩
abbrev cX12_trustsNow : ByteArray := prog_14_method_76_code
def yX12_trustsNow : MethodName := ⟨RX12, "trustsNow", "(I)Z"⟩
abbrev cX12_showsNow : ByteArray := prog_14_method_77_code
def yX12_showsNow : MethodName := ⟨RX12, "showsNow", "(I)Z"⟩
abbrev cX12_make : ByteArray := prog_14_method_78_code
def yX12_make : MethodName := ⟨RX12, "make", "(I)I"⟩
abbrev cX12_pourOver : ByteArray := prog_14_method_79_code
def yX12_pourOver : MethodName := ⟨RX12, "pourOver", "(II)I"⟩
abbrev cX12_wash : ByteArray := prog_14_method_80_code
def yX12_wash : MethodName := ⟨RX12, "wash", "(I)I"⟩
abbrev cX12_trust : ByteArray := prog_14_method_81_code
def yX12_trust : MethodName := ⟨RX12, "trust", "(I)I"⟩
abbrev cX12_show : ByteArray := prog_14_method_82_code
def yX12_show : MethodName := ⟨RX12, "show", "(I)I"⟩
abbrev cX12_keeps : ByteArray := prog_14_method_83_code
def yX12_keeps : MethodName := ⟨RX12, "keeps", "(I)I"⟩
abbrev cX12_empty : ByteArray := prog_14_method_84_code
def yX12_empty : MethodName := ⟨RX12, "empty", "()Z"⟩
abbrev cX12_reckons : ByteArray := prog_14_method_85_code
def yX12_reckons : MethodName := ⟨RX12, "reckons", "(IZ)V"⟩
abbrev cX12_takesLess : ByteArray := prog_14_method_86_code
def yX12_takesLess : MethodName := ⟨RX12, "takesLess", "(III)Z"⟩
abbrev cX12_betters : ByteArray := prog_14_method_87_code
def yX12_betters : MethodName := ⟨RX12, "betters", "(IZ)Z"⟩
abbrev cX12_leastWork : ByteArray := prog_14_method_88_code
def yX12_leastWork : MethodName := ⟨RX12, "leastWork", "(I)I"⟩
abbrev cX12_orNone : ByteArray := prog_14_method_89_code
def yX12_orNone : MethodName := ⟨RX12, "orNone", "(I)I"⟩
abbrev cX12_work : ByteArray := prog_14_method_90_code
def yX12_work : MethodName := ⟨RX12, "work", "(I)I"⟩
abbrev cX12_steps : ByteArray := prog_14_method_91_code
def yX12_steps : MethodName := ⟨RX12, "steps", "(I)I"⟩
abbrev cX12_isOnWay : ByteArray := prog_14_method_92_code
def yX12_isOnWay : MethodName := ⟨RX12, "isOnWay", "(III)Z"⟩
abbrev cX12_walks : ByteArray := prog_14_method_93_code
def yX12_walks : MethodName := ⟨RX12, "walks", "(I)I"⟩
abbrev cX12_first : ByteArray := prog_14_method_94_code
def yX12_first : MethodName := ⟨RX12, "first", "(I)I"⟩
abbrev cX12_firstAt : ByteArray := prog_14_method_95_code
def yX12_firstAt : MethodName := ⟨RX12, "firstAt", "(II)I"⟩
abbrev cX12_comes : ByteArray := prog_14_method_96_code
def yX12_comes : MethodName := ⟨RX12, "comes", "(I)V"⟩
abbrev cX12_canCome : ByteArray := prog_14_method_97_code
def yX12_canCome : MethodName := ⟨RX12, "canCome", "(I)Z"⟩
abbrev cX12_fewest : ByteArray := prog_14_method_98_code
def yX12_fewest : MethodName := ⟨RX12, "fewest", "(I)I"⟩
abbrev cX12_curve : ByteArray := prog_14_method_99_code
def yX12_curve : MethodName := ⟨RX12, "curve", "(II)I"⟩
abbrev cX12_stateOf : ByteArray := prog_14_method_100_code
def yX12_stateOf : MethodName := ⟨RX12, "stateOf", "(II)I"⟩
abbrev cX12_ofState : ByteArray := prog_14_method_101_code
def yX12_ofState : MethodName := ⟨RX12, "ofState", "(II)I"⟩
abbrev cX12_trustsOn : ByteArray := prog_14_method_102_code
def yX12_trustsOn : MethodName := ⟨RX12, "trustsOn", "(III)V"⟩
abbrev cX12_canTrust : ByteArray := prog_14_method_103_code
def yX12_canTrust : MethodName := ⟨RX12, "canTrust", "(II)Z"⟩
abbrev cX12_trustful : ByteArray := prog_14_method_104_code
def yX12_trustful : MethodName := ⟨RX12, "trustful", "(I)I"⟩
abbrev cX12_needsOf : ByteArray := prog_14_method_105_code
def yX12_needsOf : MethodName := ⟨RX12, "needsOf", "(I)I"⟩
abbrev cX12_bound : ByteArray := prog_14_method_106_code
def yX12_bound : MethodName := ⟨RX12, "bound", "(I)I"⟩
abbrev cX12_ruleOf : ByteArray := prog_14_method_107_code
def yX12_ruleOf : MethodName := ⟨RX12, "ruleOf", "(I)I"⟩
abbrev cX12_treeRule : ByteArray := prog_14_method_108_code
def yX12_treeRule : MethodName := ⟨RX12, "treeRule", "(I)I"⟩
abbrev cX12_doesRounds : ByteArray := prog_14_method_109_code
def yX12_doesRounds : MethodName := ⟨RX12, "doesRounds", "(III)Z"⟩
abbrev cX12_rounds : ByteArray := prog_14_method_110_code
def yX12_rounds : MethodName := ⟨RX12, "rounds", "(II)I"⟩
abbrev cX12_spared : ByteArray := prog_14_method_111_code
def yX12_spared : MethodName := ⟨RX12, "spared", "(II)I"⟩
abbrev cX12_again : ByteArray := prog_14_method_112_code
def yX12_again : MethodName := ⟨RX12, "again", "(I)Z"⟩
abbrev cX12_burns : ByteArray := prog_14_method_113_code
def yX12_burns : MethodName := ⟨RX12, "burns", "(I)Z"⟩
abbrev cX12_mayBurn : ByteArray := prog_14_method_114_code
def yX12_mayBurn : MethodName := ⟨RX12, "mayBurn", "(I)V"⟩
abbrev cX12_acts : ByteArray := prog_14_method_115_code
def yX12_acts : MethodName := ⟨RX12, "acts", "(III)Z"⟩
abbrev cX12_actsAt : ByteArray := prog_14_method_116_code
def yX12_actsAt : MethodName := ⟨RX12, "actsAt", "(I)V"⟩
abbrev cX12_holds : ByteArray := prog_14_method_117_code
def yX12_holds : MethodName := ⟨RX12, "holds", "(I)Z"⟩
abbrev cX12_behindEnds : ByteArray := prog_14_method_118_code
def yX12_behindEnds : MethodName := ⟨RX12, "behindEnds", "(I)I"⟩
abbrev cX12_cooks : ByteArray := prog_14_method_119_code
def yX12_cooks : MethodName := ⟨RX12, "cooks", "(I)V"⟩
abbrev cX12_cook : ByteArray := prog_14_method_120_code
def yX12_cook : MethodName := ⟨RX12, "cook", "(I)I"⟩
abbrev cX12_cooked : ByteArray := prog_14_method_121_code
def yX12_cooked : MethodName := ⟨RX12, "cooked", "(I)I"⟩
abbrev cX12_judged : ByteArray := prog_14_method_122_code
def yX12_judged : MethodName := ⟨RX12, "judged", "()I"⟩
abbrev cX12_odds : ByteArray := prog_14_method_123_code
def yX12_odds : MethodName := ⟨RX12, "odds", "(III)Z"⟩
abbrev cX12_copies : ByteArray := prog_14_method_124_code
def yX12_copies : MethodName := ⟨RX12, "copies", "(II)V"⟩
abbrev cX12_mark : ByteArray := prog_14_method_125_code
def yX12_mark : MethodName := ⟨RX12, "mark", "()I"⟩
abbrev cX12_back : ByteArray := prog_14_method_126_code
def yX12_back : MethodName := ⟨RX12, "back", "()I"⟩
def RJx145de : String := "java/io/Serializable"
def TJx145de : u_T := fun k => match k with
  | _ => ("", "", "", false)
def tyJx145de : Nat → FieldType := fun k => match k with
  | _ => .int
abbrev wsJx145de0 : List Cond := u_ws RJx145de TJx145de 0
theorem nmJx145de : ∀ a, a < 0 → ∀ b, b < 0 → a ≠ b → (TJx145de a).2.1 ≠ (TJx145de b).2.1 := by decide +kernel
theorem tyJx145de_ok : ∀ k, k < 0 → parseFieldDescriptor (TJx145de k).2.2.1 = some (tyJx145de k) := by decide +kernel
def RJx9f9b0 : String := "java/lang/CharSequence"
def TJx9f9b0 : u_T := fun k => match k with
  | _ => ("", "", "", false)
def tyJx9f9b0 : Nat → FieldType := fun k => match k with
  | _ => .int
abbrev wsJx9f9b00 : List Cond := u_ws RJx9f9b0 TJx9f9b0 0
theorem nmJx9f9b0 : ∀ a, a < 0 → ∀ b, b < 0 → a ≠ b → (TJx9f9b0 a).2.1 ≠ (TJx9f9b0 b).2.1 := by decide +kernel
theorem tyJx9f9b0_ok : ∀ k, k < 0 → parseFieldDescriptor (TJx9f9b0 k).2.2.1 = some (tyJx9f9b0 k) := by decide +kernel
def RJxb160c : String := "java/lang/Comparable"
def TJxb160c : u_T := fun k => match k with
  | _ => ("", "", "", false)
def tyJxb160c : Nat → FieldType := fun k => match k with
  | _ => .int
abbrev wsJxb160c0 : List Cond := u_ws RJxb160c TJxb160c 0
theorem nmJxb160c : ∀ a, a < 0 → ∀ b, b < 0 → a ≠ b → (TJxb160c a).2.1 ≠ (TJxb160c b).2.1 := by decide +kernel
theorem tyJxb160c_ok : ∀ k, k < 0 → parseFieldDescriptor (TJxb160c k).2.2.1 = some (tyJxb160c k) := by decide +kernel
def RJ6 : String := "java/lang/Integer"
def TJ6 : u_T := fun k => match k with
  | _ => ("", "", "", false)
def tyJ6 : Nat → FieldType := fun k => match k with
  | _ => .int
abbrev wsJ60 : List Cond := u_ws RJ6 TJ6 0
theorem nmJ6 : ∀ a, a < 0 → ∀ b, b < 0 → a ≠ b → (TJ6 a).2.1 ≠ (TJ6 b).2.1 := by decide +kernel
theorem tyJ6_ok : ∀ k, k < 0 → parseFieldDescriptor (TJ6 k).2.2.1 = some (tyJ6 k) := by decide +kernel
abbrev cJ6_numberOfTrailingZeros_0f7a4 : ByteArray := prog_15_method_48_code
def yJ6_numberOfTrailingZeros_0f7a4 : MethodName := ⟨RJ6, "numberOfTrailingZeros", "(I)I"⟩
abbrev cJ6_bitCount_0f7a4 : ByteArray := prog_15_method_49_code
def yJ6_bitCount_0f7a4 : MethodName := ⟨RJ6, "bitCount", "(I)I"⟩
def RJ9 : String := "java/lang/Math"
def TJ9 : u_T := fun k => match k with
  | _ => ("", "", "", false)
def tyJ9 : Nat → FieldType := fun k => match k with
  | _ => .int
abbrev wsJ90 : List Cond := u_ws RJ9 TJ9 0
theorem nmJ9 : ∀ a, a < 0 → ∀ b, b < 0 → a ≠ b → (TJ9 a).2.1 ≠ (TJ9 b).2.1 := by decide +kernel
theorem tyJ9_ok : ∀ k, k < 0 → parseFieldDescriptor (TJ9 k).2.2.1 = some (tyJ9 k) := by decide +kernel
abbrev cJ9_max_7cf53 : ByteArray := prog_16_method_65_code
def yJ9_max_7cf53 : MethodName := ⟨RJ9, "max", "(II)I"⟩
abbrev cJ9_min_7cf53 : ByteArray := prog_16_method_69_code
def yJ9_min_7cf53 : MethodName := ⟨RJ9, "min", "(II)I"⟩
def RJ0 : String := "java/lang/String"
def TJ0 : u_T := fun k => match k with
  | _ => ("", "", "", false)
def tyJ0 : Nat → FieldType := fun k => match k with
  | _ => .int
abbrev wsJ00 : List Cond := u_ws RJ0 TJ0 0
theorem nmJ0 : ∀ a, a < 0 → ∀ b, b < 0 → a ≠ b → (TJ0 a).2.1 ≠ (TJ0 b).2.1 := by decide +kernel
theorem tyJ0_ok : ∀ k, k < 0 → parseFieldDescriptor (TJ0 k).2.2.1 = some (tyJ0 k) := by decide +kernel
abbrev cJ0_length_8abf5 : ByteArray := prog_17_method_54_code
def yJ0_length_8abf5 : MethodName := ⟨RJ0, "length", "()I"⟩
abbrev cJ0_charAt_5068e : ByteArray := prog_17_method_56_code
def yJ0_charAt_5068e : MethodName := ⟨RJ0, "charAt", "(I)C"⟩
abbrev cJ0_coder_7d493 : ByteArray := prog_17_method_152_code
def yJ0_coder_7d493 : MethodName := ⟨RJ0, "coder", "()B"⟩
abbrev cJ0_isLatin1_aae02 : ByteArray := prog_17_method_154_code
def yJ0_isLatin1_aae02 : MethodName := ⟨RJ0, "isLatin1", "()Z"⟩
abbrev cJ0_checkIndex_df160 : ByteArray := prog_17_method_155_code
def yJ0_checkIndex_df160 : MethodName := ⟨RJ0, "checkIndex", "(II)V"⟩
def RJ1 : String := "java/lang/StringLatin1"
def TJ1 : u_T := fun k => match k with
  | _ => ("", "", "", false)
def tyJ1 : Nat → FieldType := fun k => match k with
  | _ => .int
abbrev wsJ10 : List Cond := u_ws RJ1 TJ1 0
theorem nmJ1 : ∀ a, a < 0 → ∀ b, b < 0 → a ≠ b → (TJ1 a).2.1 ≠ (TJ1 b).2.1 := by decide +kernel
theorem tyJ1_ok : ∀ k, k < 0 → parseFieldDescriptor (TJ1 k).2.2.1 = some (tyJ1 k) := by decide +kernel
abbrev cJ1_charAt_3b067 : ByteArray := prog_18_method_2_code
def yJ1_charAt_3b067 : MethodName := ⟨RJ1, "charAt", "([BI)C"⟩
def RJ2 : String := "java/lang/StringUTF16"
def TJ2 : u_T := fun k => match k with
  | _ => ("", "", "", false)
def tyJ2 : Nat → FieldType := fun k => match k with
  | _ => .int
abbrev wsJ20 : List Cond := u_ws RJ2 TJ2 0
theorem nmJ2 : ∀ a, a < 0 → ∀ b, b < 0 → a ≠ b → (TJ2 a).2.1 ≠ (TJ2 b).2.1 := by decide +kernel
theorem tyJ2_ok : ∀ k, k < 0 → parseFieldDescriptor (TJ2 k).2.2.1 = some (tyJ2 k) := by decide +kernel
abbrev cJ2_getChar_3b067 : ByteArray := prog_19_method_5_code
def yJ2_getChar_3b067 : MethodName := ⟨RJ2, "getChar", "([BI)C"⟩
abbrev cJ2_length_9d52b : ByteArray := prog_19_method_6_code
def yJ2_length_9d52b : MethodName := ⟨RJ2, "length", "([B)I"⟩
abbrev cJ2_charAt_3b067 : ByteArray := prog_19_method_83_code
def yJ2_charAt_3b067 : MethodName := ⟨RJ2, "charAt", "([BI)C"⟩
abbrev cJ2_checkIndex_2214a : ByteArray := prog_19_method_91_code
def yJ2_checkIndex_2214a : MethodName := ⟨RJ2, "checkIndex", "(I[B)V"⟩
def RJ10 : String := "java/lang/System"
def TJ10 : u_T := fun k => match k with
  | _ => ("", "", "", false)
def tyJ10 : Nat → FieldType := fun k => match k with
  | _ => .int
abbrev wsJ100 : List Cond := u_ws RJ10 TJ10 0
theorem nmJ10 : ∀ a, a < 0 → ∀ b, b < 0 → a ≠ b → (TJ10 a).2.1 ≠ (TJ10 b).2.1 := by decide +kernel
theorem tyJ10_ok : ∀ k, k < 0 → parseFieldDescriptor (TJ10 k).2.2.1 = some (tyJ10 k) := by decide +kernel
def RJxfd54e : String := "java/lang/constant/Constable"
def TJxfd54e : u_T := fun k => match k with
  | _ => ("", "", "", false)
def tyJxfd54e : Nat → FieldType := fun k => match k with
  | _ => .int
abbrev wsJxfd54e0 : List Cond := u_ws RJxfd54e TJxfd54e 0
theorem nmJxfd54e : ∀ a, a < 0 → ∀ b, b < 0 → a ≠ b → (TJxfd54e a).2.1 ≠ (TJxfd54e b).2.1 := by decide +kernel
theorem tyJxfd54e_ok : ∀ k, k < 0 → parseFieldDescriptor (TJxfd54e k).2.2.1 = some (tyJxfd54e k) := by decide +kernel
def RJx3cf43 : String := "java/lang/constant/ConstantDesc"
def TJx3cf43 : u_T := fun k => match k with
  | _ => ("", "", "", false)
def tyJx3cf43 : Nat → FieldType := fun k => match k with
  | _ => .int
abbrev wsJx3cf430 : List Cond := u_ws RJx3cf43 TJx3cf43 0
theorem nmJx3cf43 : ∀ a, a < 0 → ∀ b, b < 0 → a ≠ b → (TJx3cf43 a).2.1 ≠ (TJx3cf43 b).2.1 := by decide +kernel
theorem tyJx3cf43_ok : ∀ k, k < 0 → parseFieldDescriptor (TJx3cf43 k).2.2.1 = some (tyJx3cf43 k) := by decide +kernel
def RJ7 : String := "java/util/Arrays"
def TJ7 : u_T := fun k => match k with
  | _ => ("", "", "", false)
def tyJ7 : Nat → FieldType := fun k => match k with
  | _ => .int
abbrev wsJ70 : List Cond := u_ws RJ7 TJ7 0
theorem nmJ7 : ∀ a, a < 0 → ∀ b, b < 0 → a ≠ b → (TJ7 a).2.1 ≠ (TJ7 b).2.1 := by decide +kernel
theorem tyJ7_ok : ∀ k, k < 0 → parseFieldDescriptor (TJ7 k).2.2.1 = some (tyJ7 k) := by decide +kernel
abbrev cJ7_fill_d0a16 : ByteArray := prog_21_method_101_code
def yJ7_fill_d0a16 : MethodName := ⟨RJ7, "fill", "([JJ)V"⟩
abbrev cJ7_fill_53178 : ByteArray := prog_21_method_103_code
def yJ7_fill_53178 : MethodName := ⟨RJ7, "fill", "([II)V"⟩
def RJ3 : String := "jdk/internal/util/Preconditions"
def TJ3 : u_T := fun k => match k with
  | _ => ("", "", "", false)
def tyJ3 : Nat → FieldType := fun k => match k with
  | _ => .int
abbrev wsJ30 : List Cond := u_ws RJ3 TJ3 0
theorem nmJ3 : ∀ a, a < 0 → ∀ b, b < 0 → a ≠ b → (TJ3 a).2.1 ≠ (TJ3 b).2.1 := by decide +kernel
theorem tyJ3_ok : ∀ k, k < 0 → parseFieldDescriptor (TJ3 k).2.2.1 = some (tyJ3 k) := by decide +kernel
abbrev cJ3_checkIndex_8e157 : ByteArray := prog_22_method_11_code
def yJ3_checkIndex_8e157 : MethodName := ⟨RJ3, "checkIndex", "(IILjava/util/function/BiFunction;)I"⟩
def RL : String := "FourPotsLaw"
abbrev cL_law : ByteArray := code
def yL_law : MethodName := ⟨RL, "law", "([I)Z"⟩
abbrev vwCl : List vw_C := [(RX0, TX0, 14), (RX1, TX1, 12), (RX2, TX2, 18), (RX3, TX3, 17), (RX4, TX4, 3), (RX5, TX5, 10), (RX6, TX6, 4), (RX7, TX7, 3), (RX8, TX8, 7), (RX9, TX9, 12), (RX10, TX10, 3), (RX11, TX11, 20), (RX12, TX12, 56)]
