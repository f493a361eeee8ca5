/-! calls -/
set_option maxRecDepth 20000 in
theorem xloc {d n R : Nat} (hn : n ≤ 45) (h : 64 * (d + 1 + 5) ≤ R) : 8 + (n + 11) + 64 * (d + 5) ≤ R := by omega
theorem xrm_f (d mc ms : Nat) : (xrm d mc ms).frames = d + 5 := by unfold xrm; rfl
theorem xrm_l (d mc ms : Nat) : (xrm d mc ms).locals = 64 * (d + 5) := by unfold xrm; rfl
section XCALL
variable {p : Program} {l : Launch} {e : Env} {R : Room} {s : State} {mid : MethodId} {args : Array Value} {below : List Frame} {meth : Method} {c : Code} {H : Heap} {locs : List Loc} {cells slots : Nat} {Q : State → Prop}
variable {D : va_G} {cy : Nat → ClassId} {ad : Nat → Nat} {sz0 L : Nat} {xs : Nat → Int32}
theorem x_cont {mc ms pc : Nat} {ls : Array Slot} {rest st0 : List Value} {r : xR} {a : Array Value} (hr : va_Run p l e R s mid args below meth c H locs cells slots mc ms (F0 mid pc ls st0) rest (xQ D cy ad sz0 r a) (xA0 sz0)) (hS : va_S (xA0 sz0) s.heap H locs)
    (kk : ∀ (H1 : Heap) (locs1 : List Loc), va_P D vwCl (xws cy ad r.2) H1 → va_S (xA0 sz0) s.heap H1 locs1 → W p l e R s mid args below meth c H1 locs1 (cells + mc) (slots + ms) Q (F0 mid (pc + 3) ls ((r.1.map (xcv ad)).toList ++ rest))) : W p l e R s mid args below meth c H locs cells slots Q (F0 mid pc ls st0) := by
  intro T hT X
  obtain ⟨v, st₀, t, T', L, h0, X', hL, e1, e2, ⟨hv, hp, hz, hk⟩, st⟩ := hr T hT X
  cases hv
  rw [h0] at hz hk
  obtain ⟨t2, a1, b1⟩ := kk T'.heap (locs ++ L) (by rw [e1]; exact hp) ⟨Nat.le_trans hS.1 (by rw [e1]; exact hz), fun q h1 h2 => by rw [e1, hk q (Nat.lt_of_lt_of_le h1 hS.1) h2]; exact hS.2.1 q h1 h2, fun q hq => by
      rcases List.mem_append.mp hq with h | h
      · exact hS.2.2 q h
      · exact hL q h⟩ T' rfl X'
  exact ⟨t2, st t2 a1, b1⟩
theorem xPc_blind (hA : xadr ad sz0) {as : List Value} {h : xH} : FrameBlind (xPc D cy ad sz0 L xs as h) := fun a U g mk q => by
  obtain ⟨h0, h1, h2, h3⟩ := q
  exact ⟨h0, h1, xsta_moved (U := U.calling g mk a) hA (show U.WarmedH (U.calling g mk a).vm from State.WarmedH.refl U) (Nat.le_refl _) (fun _ _ _ => rfl) h2, h3⟩
theorem xww_good {q : xMI} (hw : Cond.code q.2.1 q.2.2.1 q.2.2.2.1 q.2.2.2.2.1 ∈ lw_tbl) : GoodIn xTB (xww q) := by
  intro w h
  rcases List.mem_cons.mp h with rfl | h
  · exact ⟨xTB_of hw rfl, Or.inl rfl⟩
  · exact ⟨h, xTB_good w h⟩
theorem xname_inv {m : Nat} {ini st : Bool} (h : xname m ini st = true) : ∃ t b, xms[m]? = some t ∧ xmh[m]? = some b ∧ (decide (t.2.1.name = "<init>") = ini) ∧ (decide (b.2.2.1 = 1) = st) ∧ (ini = true → t.2.2.2.2.1 = none) := by
  unfold xname at h
  split at h
  · next t b h1 h2 =>
    simp only [Bool.and_eq_true, beq_iff_eq] at h
    obtain ⟨⟨h3, h4⟩, h5⟩ := h
    refine ⟨t, b, h1, h2, h3, h4, fun hi => ?_⟩
    rw [if_pos hi] at h5
    simpa using h5
  · cases h
theorem xsplit (ad : Nat → Nat) {st : List Value} {n : Nat} {a : Nat} {r : List Value} (h : st.drop n = .ref a :: r) : st.map (xcv ad) = ((st.take n).reverse.map (xcv ad)).reverse ++ .ref (ad a) :: r.map (xcv ad) := by
  conv => lhs; rw [← List.take_append_drop n st, h]
  rw [List.map_append, List.map_reverse, List.reverse_reverse]
  rfl
theorem xsplit0 (ad : Nat → Nat) {st : List Value} {n : Nat} : st.map (xcv ad) = ((st.take n).reverse.map (xcv ad)).reverse ++ (st.drop n).map (xcv ad) := by
  conv => lhs; rw [← List.take_append_drop n st]
  rw [List.map_append, List.map_reverse, List.reverse_reverse]
/-- what is known of a callee -/
theorem xcallee {cn i a1 a2 : Nat} {z : Int} {q : xMI} (hcn : q.1 = xown cn) (hk : xpool (xcpM cn) i a1 a2 z = true) (h9 : a1 < 9000) {ini st : Bool} (hnm : xname a1 ini st = true) : ∃ t b, a1 < 330 ∧ xms[a1]? = some t ∧ xmh[a1]? = some b ∧ xQw t b ∧ (decide (t.2.1.name = "<init>") = ini) ∧ (decide (b.2.2.1 = 1) = st) ∧ (ini = true → t.2.2.2.2.1 = none) ∧ (parseMethodDescriptor t.2.1.desc).map (fun d => d.parameters.length) = some a2 ∧ (if z = 0 then Cond.methodLink q.1 i t.2.1 else Cond.methodLinkNest q.1 i t.2.1 xhost) ∈ lw_tbl := by
  obtain ⟨t, b, h1, h2, h3, h4, h5⟩ := xname_inv hnm
  obtain ⟨hint, hm2⟩ := xpool_in hk
  have hw := xM_place cn _ hm2
  have hsd := xM_side cn _ hm2
  have hne := xnolaw cn _ hm2
  have hlt : a1 < 331 := by
    have h6 := (List.getElem?_eq_some_iff.mp h2).1
    have : xmh.length = 331 := by decide +kernel
    omega
  have hne : a1 ≠ 330 := hne
  have hy : xyM a1 = t.2.1 := by
    unfold xyM
    rw [if_neg (by omega), if_neg (by omega), if_neg (by omega), if_neg (by omega), if_neg (by omega), if_neg (by omega), h1]
  unfold xsdM at hsd
  simp only [decide_eq_true_eq] at hsd
  rw [hy] at hsd
  unfold xwdM at hw
  rw [← hcn] at hw
  have hw : (if z = 0 then Cond.methodLink q.1 i (xyM a1) else Cond.methodLinkNest q.1 i (xyM a1) xhost) ∈ lw_tbl := hw
  rw [hy] at hw
  exact ⟨t, b, by omega, h1, h2, xQ_all (by omega) h1 h2, h3, h4, h5, hsd, hw⟩
/-- a call -/
theorem xcl_call (hA : xadr ad sz0) {d m pc : Nat} {lv : xL} {st : List Value} {h : xH} {e' : xE} {m' : Nat} {as rest : List Value} {v : Option Value} {h' : xH} {r : xR} (hf : xfetch m pc = some e') (hc : xcall e' st h = some (m', as, rest)) (hp : xSP l D cy ad sz0 L xs d m' as h (v, h')) (ih : xSE l D cy ad sz0 L xs (d + 1) m (e'.2.1, lv, v.toList ++ rest, h') r) : xSE l D cy ad sz0 L xs (d + 1) m (pc, lv, st, h) r := by
  obtain ⟨q0, hq0, cn, hcn, hok⟩ := xfetch_inv hf
  obtain ⟨⟨m1, m2⟩, hp⟩ := hp
  obtain ⟨⟨i1, i2⟩, ih⟩ := ih
  have m1 : h.1 ≤ h'.1 := m1
  have m2 : h.2.1 ≤ h'.2.1 := m2
  have i1 : h'.1 ≤ r.2.1 := i1
  have i2 : h'.2.1 ≤ r.2.2.1 := i2
  refine ⟨⟨Nat.le_trans m1 i1, Nat.le_trans m2 i2⟩, fun hb o => ?_⟩
  obtain ⟨o', hMet⟩ := hp (Nat.le_trans i1 hb) o
  obtain ⟨or, ih⟩ := ih hb o'
  refine ⟨or, fun q hq p e R s mid args below meth c H locs cells slots Q ls C hfr hlo hcc hR1 hR2 hl hP hS hret => ?_⟩
  cases hq0.symm.trans hq
  have hcc : s.heap.size + cells = sz0 + h.1 := hcc
  have hR1 : cells + (r.2.1 - h.1) ≤ R.cells := hR1
  have hR2 : slots + (r.2.2.1 - h.2.1) ≤ R.slots := hR2
  have hn : h.1 ≤ 600000 := by omega
  have e1 : cells + (h'.1 - h.1) + (r.2.1 - h'.1) = cells + (r.2.1 - h.1) := by omega
  have e2 : slots + (h'.2.1 - h.2.1) + (r.2.2.1 - h'.2.1) = slots + (r.2.2.1 - h.2.1) := by omega
  have hF9 : (xrm d (h'.1 - h.1) (h'.2.1 - h.2.1)).frames + 1 ≤ R.frames := by simp only [xrm_f]; omega
  have hL9 : ∀ n, n ≤ 45 → 8 + (n + 11) + (xrm d (h'.1 - h.1) (h'.2.1 - h.2.1)).locals ≤ R.locals := fun n hn => Nat.le_trans (Nat.le_of_eq (congrArg (fun z => 8 + (n + 11) + z) (xrm_l d _ _))) (xloc hn hlo)
  -- where it goes on
  have kk : ∀ (H1 : Heap) (locs1 : List Loc), va_P D vwCl (xws cy ad h') H1 → va_S (xA0 sz0) s.heap H1 locs1 → W p l e R s mid args below meth c H1 locs1 (cells + (h'.1 - h.1)) (slots + (h'.2.1 - h.2.1)) Q (F0 mid e'.2.1 ls ((v.map (xcv ad)).toList ++ rest.map (xcv ad))) := by
    intro H1 locs1 p1 p3
    have := ih q0 hq0 p e R s mid args below meth c H1 locs1 (cells + (h'.1 - h.1)) (slots + (h'.2.1 - h.2.1)) Q ls C hfr hlo (by show s.heap.size + (cells + (h'.1 - h.1)) = sz0 + h'.1; omega) (by show cells + (h'.1 - h.1) + (r.2.1 - h'.1) ≤ _; omega) (by show slots + (h'.2.1 - h.2.1) + (r.2.2.1 - h'.2.1) ≤ _; omega) hl p1 p3 (by
      show ∀ (pc' : Nat) (ls' : Array Slot) (H' : Heap) (locs' : List Loc) (ins : Instr), _ → _ → _ → _ → W p l e R s mid args below meth c H' locs' (cells + (h'.1 - h.1) + (r.2.1 - h'.1)) (slots + (h'.2.1 - h.2.1) + (r.2.2.1 - h'.2.1)) Q _
      rw [e1, e2]
      exact hret)
    have e3 : (v.map (xcv ad)).toList ++ rest.map (xcv ad) = (v.toList ++ rest).map (xcv ad) := by cases v <;> simp
    rw [e3]
    exact this
  obtain ⟨hx, hb2, hrt, hml, hts, hown, hlk, hnm, hst⟩ := C
  obtain ⟨ins, nx, a1, a2, z⟩ := e'
  refine W_size (xsize hA hn hst.2.2.2.2.1 hP hS hcc) hcc (fun hz => ?_)
  have hpre : ∀ U : State, U.heap = H → s.WarmedH U.vm → xPc D cy ad sz0 L xs as h ((as.map (xcv ad)).toArray) U := fun U hU hW => ⟨rfl, by rw [hU]; exact hP, xsta_moved hA hW (by rw [hU]; exact hS.1) (fun q h1 h2 => by rw [hU]; exact hS.2.1 q h1 h2) hst, by rw [hU]; exact hz⟩
  cases ins
  case invokestatic i =>
    change (if a1 < 9000 ∧ a2 ≤ st.length ∧ ((st.drop a2).map fun v => v.category).sum ≤ 8 then some (a1, (st.take a2).reverse, st.drop a2) else none) = some (m', as, rest) at hc
    split at hc
    · next hq3 =>
      cases hc
      obtain ⟨h9, hle, hsum⟩ := hq3
      simp only [xokE, xokE2, Bool.and_eq_true, decide_eq_true_eq] at hok
      obtain ⟨⟨hd, hnx⟩, hk, hk2⟩ := hok
      rw [if_neg (by omega)] at hk2
      have hnx : nx = pc + 3 := hnx
      subst hnx
      obtain ⟨t, b, hlt, ht1, ht2, ⟨w1, w2, w3, w4, w5⟩, f1, f2, f3, f4, f5⟩ := xcallee hcn hk h9 hk2
      simp only [xsdQ, Bool.and_eq_true, decide_eq_true_eq] at w5
      obtain ⟨⟨⟨y1, y2⟩, y3⟩, y4⟩ := w5
      have hst1 : Cond.static t.2.1 ∈ lw_tbl := by
        unfold xwdS at w3
        rw [if_pos (show b.2.2.1 = 1 by simpa using f2)] at w3
        exact w3
      have hM := hMet hlt t ht1
      have hcat : (((st.drop a2).map (xcv ad)).map fun v => v.category).sum ≤ 8 := by rw [xcats]; exact hsum
      by_cases hz0 : z = 0
      · rw [if_pos hz0] at f5
        exact x_cont (va_runS (As := (st.take a2).reverse.map (xcv ad)) (rest := (st.drop a2).map (xcv ad)) ⟨hx, hb2, hml, hown, hts⟩ hM ⟨callB_of a2 hts (xww_good w1) rfl rfl rfl (hts _ (xTB_of w2 rfl)) (hts _ (xTB_of f5 rfl)) ⟨y3.1, y3.2, f4⟩ ⟨hF9, hL9 _ y4⟩, hts _ (xTB_of hst1 rfl)⟩ ⟨xPc_blind hA, hpre⟩ rfl (by simp; omega) hl.1 (xsplit0 ad) (lv_room hcat) hd ⟨by show cells + (h'.1 - h.1) ≤ _; omega, by show slots + (h'.2.1 - h.2.1) ≤ _; omega⟩) hS kk
      · rw [if_neg hz0] at f5
        exact x_cont (va_runSN (As := (st.take a2).reverse.map (xcv ad)) (rest := (st.drop a2).map (xcv ad)) ⟨hx, hb2, hml, hown, hts⟩ hM ⟨va_cnB a2 hts (xww_good w1) rfl rfl rfl (hst.2.2.1 _ (List.mem_filter.mpr ⟨f5, rfl⟩)) (hts _ (xTB_of w2 rfl)) ⟨y3.1, y3.2, f4⟩ ⟨hF9, hL9 _ y4⟩, hts _ (xTB_of hst1 rfl), trivial⟩ ⟨xPc_blind hA, hpre⟩ rfl (by simp; omega) hl.1 (xsplit0 ad) (lv_room hcat) hd ⟨by show cells + (h'.1 - h.1) ≤ _; omega, by show slots + (h'.2.1 - h.2.1) ≤ _; omega⟩) hS kk
    · cases hc
  case invokespecial i =>
    have hc : (match st.drop a2 with
      | .ref a :: r => if a1 < 9000 ∧ a2 ≤ st.length ∧ (r.map fun v => v.category).sum ≤ 8 then some (a1, .ref a :: (st.take a2).reverse, r) else none
      | _ => none) = some (m', as, rest) := hc
    split at hc
    · next a r9 hdr =>
      split at hc
      · next hq3 =>
        cases hc
        obtain ⟨h9, hle, hsum⟩ := hq3
        simp only [xokE, xokE2, Bool.and_eq_true, decide_eq_true_eq] at hok
        obtain ⟨⟨hd, hnx⟩, hk, hk2⟩ := hok
        rw [if_neg (by omega)] at hk2
        have hnx : nx = pc + 3 := hnx
        subst hnx
        obtain ⟨t, b, hlt, ht1, ht2, ⟨w1, w2, w3, w4, w5⟩, f1, f2, f3, f4, f5⟩ := xcallee hcn hk h9 hk2
        simp only [xsdQ, Bool.and_eq_true, decide_eq_true_eq] at w5
        obtain ⟨⟨⟨y1, y2⟩, y3⟩, y4⟩ := w5
        have hin1 : Cond.instanceMethod t.2.1 ∈ lw_tbl := by
          unfold xwdS at w3
          rw [if_neg (show ¬ b.2.2.1 = 1 by simpa using f2)] at w3
          exact w3
        have hini : t.2.1.name = "<init>" := by simpa using f1
        have hret0 := f3 rfl
        have hM := hMet hlt t ht1
        have hcat : ((rest.map (xcv ad)).map fun v => v.category).sum ≤ 8 := by rw [xcats]; exact hsum
        have hG := xww_good w1
        by_cases hz0 : z = 0
        · rw [if_pos hz0] at f5
          exact x_cont (va_runI (As := (st.take a2).reverse.map (xcv ad)) (rest := rest.map (xcv ad)) ⟨hx, hb2, hml, hown, hts⟩ hM ⟨callB_of a2 hts hG (by unfold xww; rw [hret0]) rfl rfl (hts _ (xTB_of w2 rfl)) (hts _ (xTB_of f5 rfl)) ⟨y3.1, y3.2, f4⟩ ⟨hF9, hL9 _ y4⟩, hini, hts _ (xTB_of hin1 rfl)⟩ ⟨xPc_blind hA, hpre⟩ rfl (by simp; omega) hl.1 (xsplit ad hdr) (lv_room hcat) hd ⟨by show cells + (h'.1 - h.1) ≤ _; omega, by show slots + (h'.2.1 - h.2.1) ≤ _; omega⟩) hS kk
        · rw [if_neg hz0] at f5
          exact x_cont (va_runIN (As := (st.take a2).reverse.map (xcv ad)) (rest := rest.map (xcv ad)) ⟨hx, hb2, hml, hown, hts⟩ hM ⟨va_cnB a2 hts hG (by unfold xww; rw [hret0]) rfl rfl (hst.2.2.1 _ (List.mem_filter.mpr ⟨f5, rfl⟩)) (hts _ (xTB_of w2 rfl)) ⟨y3.1, y3.2, f4⟩ ⟨hF9, hL9 _ y4⟩, hini, hts _ (xTB_of hin1 rfl)⟩ ⟨xPc_blind hA, hpre⟩ rfl (by simp; omega) hl.1 (xsplit ad hdr) (lv_room hcat) hd ⟨by show cells + (h'.1 - h.1) ≤ _; omega, by show slots + (h'.2.1 - h.2.1) ≤ _; omega⟩) hS kk
      · cases hc
    · cases hc
  case invokevirtual i =>
    have hc : (match st.drop a2 with
      | .ref a :: r => match h.2.2 a with
        | .inr (ci, _) => if a1 < 9000 ∧ a2 ≤ st.length ∧ (xms[a1]?).map (fun q => q.1) = (vwCl[ci]?).map (fun q => q.1) ∧ (r.map fun v => v.category).sum ≤ 8 then some (a1, .ref a :: (st.take a2).reverse, r) else none
        | _ => none
      | _ => none) = some (m', as, rest) := hc
    split at hc
    · next a r9 hdr =>
      split at hc
      · next ci fs hobj =>
        split at hc
        · next hq3 =>
          cases hc
          obtain ⟨h9, hle, hcls, hsum⟩ := hq3
          simp only [xokE, xokE2, Bool.and_eq_true, decide_eq_true_eq] at hok
          obtain ⟨⟨hd, hnx⟩, hk, hk2⟩ := hok
          rw [if_neg (by omega)] at hk2
          have hnx : nx = pc + 3 := hnx
          subst hnx
          obtain ⟨t, b, hlt, ht1, ht2, ⟨w1, w2, w3, w4, w5⟩, f1, f2, f3, f4, f5⟩ := xcallee hcn hk h9 hk2
          simp only [xsdQ, Bool.and_eq_true, decide_eq_true_eq] at w5
          obtain ⟨⟨⟨y1, y2⟩, y3⟩, y4⟩ := w5
          have hin1 : Cond.instanceMethod t.2.1 ∈ lw_tbl := by
            unfold xwdS at w3
            rw [if_neg (show ¬ b.2.2.1 = 1 by simpa using f2)] at w3
            exact w3
          have hsel : Cond.selects t.2.1.cls t.2.1 t.2.1 ∈ lw_tbl := by
            unfold xwdV at w4
            rw [if_neg (by
              rintro (h8 | h8)
              · exact absurd h8 (by simpa using f2)
              · exact absurd h8 (by simpa using f1))] at w4
            exact w4
          have hM := hMet hlt t ht1
          have hcat : ((rest.map (xcv ad)).map fun v => v.category).sum ≤ 8 := by rw [xcats]; exact hsum
          have hG := xww_good w1
          rw [ht1] at hcls
          cases hv9 : vwCl[ci]? with
          | none => rw [hv9] at hcls; cases hcls
          | some q9 =>
          rw [hv9] at hcls
          have hC : t.1 = q9.1 := Option.some.inj hcls
          have hlt13 : ci < 13 := (List.getElem?_eq_some_iff.mp hv9).1
          have ha : a < h.1 := o.obj hobj (by omega)
          have hget := xws_get (cy := cy) (ad := ad) ha
          rw [hobj] at hget
          have hrecv : ∃ cell : Cell, H[ad a]? = some cell ∧ cell.vm.isStatics = false ∧ s.vm.findClass t.2.1.cls = some cell.cls := by
            rw [y2, hC]
            exact va_recv hst.1 hP hv9 hget
          by_cases hz0 : z = 0
          · rw [if_pos hz0] at f5
            exact x_cont (va_runV (As := (st.take a2).reverse.map (xcv ad)) (rest := rest.map (xcv ad)) ⟨hx, hb2, hml, hown, hts⟩ hM ⟨callB_of a2 hts hG rfl rfl rfl (hts _ (xTB_of w2 rfl)) (hts _ (xTB_of f5 rfl)) ⟨y3.1, y3.2, f4⟩ ⟨hF9, hL9 _ y4⟩, hts _ (xTB_of hin1 rfl), hts _ (xTB_of hsel rfl)⟩ ⟨xPc_blind hA, hrecv, hpre⟩ rfl (by simp; omega) hl.1 (xsplit ad hdr) (lv_room hcat) hd ⟨by show cells + (h'.1 - h.1) ≤ _; omega, by show slots + (h'.2.1 - h.2.1) ≤ _; omega⟩) hS kk
          · rw [if_neg hz0] at f5
            exact x_cont (va_runVN (As := (st.take a2).reverse.map (xcv ad)) (rest := rest.map (xcv ad)) ⟨hx, hb2, hml, hown, hts⟩ hM ⟨va_cnB a2 hts hG rfl rfl rfl (hst.2.2.1 _ (List.mem_filter.mpr ⟨f5, rfl⟩)) (hts _ (xTB_of w2 rfl)) ⟨y3.1, y3.2, f4⟩ ⟨hF9, hL9 _ y4⟩, hts _ (xTB_of hin1 rfl), hts _ (xTB_of hsel rfl)⟩ ⟨xPc_blind hA, hrecv, hpre⟩ rfl (by simp; omega) hl.1 (xsplit ad hdr) (lv_room hcat) hd ⟨by show cells + (h'.1 - h.1) ≤ _; omega, by show slots + (h'.2.1 - h.2.1) ≤ _; omega⟩) hS kk
        · cases hc
      · cases hc
    · cases hc
  all_goals (cases hc)
/-- the rules of the small machine hold of the machine -/
theorem xcl_holds (l : Launch) (D : va_G) (cy : Nat → ClassId) {ad : Nat → Nat} {sz0 : Nat} (L : Nat) (xs : Nat → Int32) (hA : xadr ad sz0) : xcl (xSP l D cy ad sz0 L xs) (xSE l D cy ad sz0 L xs) :=
  ⟨fun _ _ _ _ _ _ _ _ _ hf hs k => xcl_step hA hf hs k, fun _ _ _ _ _ _ _ _ hf hs => xcl_ret hf hs, fun _ _ _ _ _ _ _ _ _ _ _ _ _ hf hc hp k => xcl_call hA hf hc hp k, fun _ _ _ _ _ hl k => xcl_in hA hl k⟩
end XCALL
