/-! THE RUN ON LISTS: a step, a run, and that the small machine does the same. -/
def y0 : xH := (0, 0, fun _ => .inr (999, []))
/-- instructions that neither read nor change the heap -/
def yfree (e : xE) : Bool := match e.1 with
  | .iconst _ => true
  | .bipush _ => true
  | .sipush _ => true
  | .lconst _ => true
  | .ldc _ => true
  | .ldc2_w _ => true
  | .iload_n _ => true
  | .iload _ => true
  | .lload_n _ => true
  | .aload_n _ => true
  | .istore_n _ => true
  | .istore _ => true
  | .lstore_n _ => true
  | .astore_n _ => true
  | .iinc _ _ => true
  | .iadd => true
  | .isub => true
  | .ladd => true
  | .lmul => true
  | .i2l => true
  | .dup => true
  | .if_icmp _ _ => true
  | .goto _ => true
  | .invokespecial _ => true
  | .invokevirtual _ => true
  | .return_ => true
  | .lreturn => true
  | _ => false
/-- the heap put in -/
def ysw (h : xH) (o : xS ⊕ xR) : xS ⊕ xR := match o with
  | .inl σ => .inl (σ.1, σ.2.1, σ.2.2.1, h)
  | .inr r => .inr (r.1, h)
theorem yfree_ok {e : xE} {pc : Nat} {lv : xL} {st : List Value} (hf : yfree e = true) (h : xH) : xstep e pc lv st h = (xstep e pc lv st y0).map (ysw h) := by
  obtain ⟨ins, nx, a1, a2, z⟩ := e
  cases ins <;> first | (exact absurd hf Bool.false_ne_true) | rfl | skip
  case ldc => show xldc _ _ _ _ = (xldc _ _ _ _).map _; unfold xldc; split <;> rfl
  case iload_n => show xldI _ _ _ _ _ = (xldI _ _ _ _ _).map _; unfold xldI; split <;> rfl
  case iload => show xldI _ _ _ _ _ = (xldI _ _ _ _ _).map _; unfold xldI; split <;> rfl
  case lload_n => show xldL _ _ _ _ _ = (xldL _ _ _ _ _).map _; unfold xldL; split <;> rfl
  case aload_n => show xldA _ _ _ _ _ = (xldA _ _ _ _ _).map _; unfold xldA; split <;> rfl
  case istore_n => show xstI _ _ _ _ _ = (xstI _ _ _ _ _).map _; unfold xstI; split <;> rfl
  case istore => show xstI _ _ _ _ _ = (xstI _ _ _ _ _).map _; unfold xstI; split <;> rfl
  case lstore_n => show xstL _ _ _ _ _ = (xstL _ _ _ _ _).map _; unfold xstL; split <;> rfl
  case astore_n => show xstA _ _ _ _ _ = (xstA _ _ _ _ _).map _; unfold xstA; split <;> rfl
  case iinc => show xinc _ _ _ _ _ _ = (xinc _ _ _ _ _ _).map _; unfold xinc; split <;> rfl
  case iadd => show xb2 _ _ _ _ _ = (xb2 _ _ _ _ _).map _; unfold xb2; split <;> rfl
  case isub => show xb2 _ _ _ _ _ = (xb2 _ _ _ _ _).map _; unfold xb2; split <;> rfl
  case ladd => show xl2 _ _ _ _ _ = (xl2 _ _ _ _ _).map _; unfold xl2; split <;> rfl
  case lmul => show xl2 _ _ _ _ _ = (xl2 _ _ _ _ _).map _; unfold xl2; split <;> rfl
  case i2l => show xi1 _ _ _ _ _ = (xi1 _ _ _ _ _).map _; unfold xi1; split <;> rfl
  case dup => show xdup _ _ _ _ = (xdup _ _ _ _).map _; unfold xdup; split <;> first | rfl | (split <;> rfl)
  case if_icmp => show xif2 _ _ _ _ _ = (xif2 _ _ _ _ _).map _; unfold xif2; split <;> rfl
  case invokespecial =>
    show (if a1 = 9999 then _ else _) = (if a1 = 9999 then _ else _ : Option (xS ⊕ xR)).map _
    by_cases c : a1 = 9999
    · rw [if_pos c, if_pos c]
      unfold xoinit
      split <;> first | rfl | (split <;> rfl)
    · rw [if_neg c, if_neg c]
      rfl
  case invokevirtual =>
    show (if a1 = 9998 then _ else if a1 = 9997 then _ else _) = (if a1 = 9998 then _ else if a1 = 9997 then _ else _ : Option (xS ⊕ xR)).map _
    by_cases c : a1 = 9998
    · rw [if_pos c, if_pos c]
      unfold xslen
      split <;> first | rfl | (split <;> rfl)
    · rw [if_neg c, if_neg c]
      by_cases c : a1 = 9997
      · rw [if_pos c, if_pos c]
        unfold xschr
        split <;> first | rfl | (split <;> rfl)
      · rw [if_neg c, if_neg c]
        rfl
  case lreturn =>
    cases st with
    | nil => rfl
    | cons v r => cases v <;> cases r <;> rfl
  case return_ => cases st <;> rfl
abbrev yS : Type := Nat × xL × List Value × yD
abbrev yR : Type := Option Value × yD
/-- a field is written, by its kind -/
def yput (D : yD) (a k : Nat) (ty : FieldType) (v : Value) : Option yD := match v with
  | .int x => if ty = .int then some (ysI D a k x) else if ty = .boolean ∧ (x = 0 ∨ x = 1) then some (ysI D a k x) else none
  | .long x => if ty = .long then some (ysJ D a k x) else none
  | .ref b => if tisP ty = true then some (ysP D a k b) else none
  | _ => none
def yget (e : xE) (lv : xL) (st : List Value) (D : yD) : Option yS := match st with
  | .ref a :: r => if a < 1000000 ∧ yK D a = e.2.2.1 ∧ e.2.2.1 < 13 ∧ e.2.2.2.1 < xnf e.2.2.1 then some (e.2.1, lv, tv (xfty e.2.2.1 e.2.2.2.1) (yI D a e.2.2.2.1) (yJ D a e.2.2.2.1) (yP D a e.2.2.2.1) :: r, D) else none
  | _ => none
def ysetf (e : xE) (lv : xL) (st : List Value) (D : yD) : Option yS := match st with
  | v :: .ref a :: r => if a < 1000000 ∧ yK D a = e.2.2.1 ∧ e.2.2.1 < 13 ∧ e.2.2.2.1 < xnf e.2.2.1 then (yput D a e.2.2.2.1 (xfty e.2.2.1 e.2.2.2.1) v).map (fun D' => (e.2.1, lv, r, D')) else none
  | _ => none
def yiast (e : xE) (lv : xL) (st : List Value) (D : yD) : Option yS := match st with
  | .int y :: .int x :: .ref a :: r => if a < 1000000 ∧ yK D a = 100 ∧ (0 ≤ x ∧ ix x < yN D a) ∧ yN D a ≤ 60000 then some (e.2.1, lv, r, ysI D a (ix x) y) else none
  | _ => none
def ylast (e : xE) (lv : xL) (st : List Value) (D : yD) : Option yS := match st with
  | .long y :: .int x :: .ref a :: r => if a < 1000000 ∧ yK D a = 101 ∧ (0 ≤ x ∧ ix x < yN D a) ∧ yN D a ≤ 60000 then some (e.2.1, lv, r, ysJ D a (ix x) y) else none
  | _ => none
def yaast (e : xE) (lv : xL) (st : List Value) (D : yD) : Option yS := match st with
  | .ref b :: .int x :: .ref a :: r => if (a < 1000000 ∧ b < 1000000) ∧ (yK D a = 100 + (yK D a - 100) ∧ (yK D a - 100 = 4 ∨ yK D a - 100 = 5 ∨ yK D a - 100 = 6)) ∧ yK D b = xokind (yK D a - 100) ∧ (0 ≤ x ∧ ix x < yN D a) ∧ yN D a ≤ 60000 then some (e.2.1, lv, r, ysP D a (ix x) b) else none
  | _ => none
def ynar (e : xE) (lv : xL) (st : List Value) (D : yD) : Option yS := match st with
  | .int x :: r => if (0 ≤ x ∧ ix x < 60001) ∧ ynk D = true then
      if e.2.2.1 = 1 then some (e.2.1, lv, .ref D.1 :: r, ynew D 101 (ix x) (ix x))
      else if e.2.2.1 = 0 ∨ e.2.2.1 = 2 ∨ e.2.2.1 = 3 then some (e.2.1, lv, .ref D.1 :: r, ynew D (100 + e.2.2.1) (ix x) (ix x)) else none
    else none
  | _ => none
def yanar (e : xE) (lv : xL) (st : List Value) (D : yD) : Option yS := match st with
  | .int x :: r => if (0 ≤ x ∧ ix x < 60001) ∧ ynk D = true ∧ (e.2.2.1 = 4 ∨ e.2.2.1 = 5 ∨ e.2.2.1 = 6) then some (e.2.1, lv, .ref D.1 :: r, ynew D (100 + e.2.2.1) (ix x) (ix x)) else none
  | _ => none
def ymn (e : xE) (lv : xL) (st : List Value) (D : yD) : Option yS := match st with
  | .int k :: .int n :: r => if (n = 4 ∧ k = 60) ∧ ynk D = true then some (e.2.1, lv, .ref D.1 :: r, ymna D) else none
  | _ => none
def ynewo (e : xE) (lv : xL) (st : List Value) (D : yD) : Option yS := if e.2.2.1 < 13 ∧ ynk D = true then some (e.2.1, lv, .ref D.1 :: st, ynew D e.2.2.1 0 (xnf e.2.2.1)) else none
def yheap (e : xE) (lv : xL) (st : List Value) (D : yD) : Option yS := match e.1 with
  | .getfield _ => yget e lv st D
  | .putfield _ => ysetf e lv st D
  | .iastore => yiast e lv st D
  | .lastore => ylast e lv st D
  | .aastore => yaast e lv st D
  | .newarray _ => ynar e lv st D
  | .anewarray _ => yanar e lv st D
  | .multianewarray _ _ => ymn e lv st D
  | .new _ => ynewo e lv st D
  | _ => none
theorem yix {x : Int32} (h : 0 ≤ x) : x = nI (ix x) := by
  obtain ⟨j, h1, h2⟩ := nI_of (x := x) (Int32.not_lt.mpr h)
  have h3 : ix x = j := by rw [h2]; exact nI_clamp h1
  rw [h3]
  exact h2
section YH
variable {d m pc : Nat} {e : xE} {lv : xL} {st : List Value} {D : yD} {L : Nat} {xs : Nat → Int32} {C : xR → Prop} {s : yS}
theorem yheap_ok (hf : xfetch m pc = some e) (hs : yheap e lv st D = some s) (kk : xEk d m (s.1, s.2.1, s.2.2.1, (ydn L xs s.2.2.2).X) C) : xEk d m (pc, lv, st, (ydn L xs D).X) C := by
  obtain ⟨ins, nx, a1, a2, z⟩ := e
  cases ins <;> first | (have h9 : (none : Option yS) = some s := hs; cases h9; done) | skip
  case getfield i =>
    replace hs : yget (.getfield i, nx, a1, a2, z) lv st D = some s := hs
    unfold yget at hs
    split at hs
    case h_1 _ a r =>
      dsimp only at hs
      split at hs
      case isTrue hc =>
        obtain ⟨h1, h2, h3, h4⟩ := hc
        cases hs
        obtain ⟨r9, q1, q2⟩ := kk
        refine ⟨r9, tget hf (show (ydn L xs D).K a = a1 by rw [ydn_K h1]; exact h2) h3 h4 ?_, q2⟩
        show xEv d m (nx, lv, tv (xfty a1 a2) ((ydn L xs D).I a a2) ((ydn L xs D).J a a2) ((ydn L xs D).P a a2) :: r, (ydn L xs D).X) r9
        rw [ydn_I h1]
        exact q1
      case isFalse => cases hs
    case h_2 => cases hs
  case putfield i =>
    replace hs : ysetf (.putfield i, nx, a1, a2, z) lv st D = some s := hs
    unfold ysetf at hs
    split at hs
    case h_1 _ v a r =>
      dsimp only at hs
      split at hs
      case isTrue hc =>
        obtain ⟨h1, h2, h3, h4⟩ := hc
        have hK : (ydn L xs D).K a = a1 := by rw [ydn_K h1]; exact h2
        unfold yput at hs
        split at hs
        case h_1 _ x =>
          split at hs
          case isTrue ht =>
            cases hs
            refine wputI hf hK (by simp [h3, h4, ht]) ?_
            rw [ydn_sI h1]
            exact kk
          case isFalse =>
            split at hs
            case isTrue ht =>
              cases hs
              refine wputZ hf hK (by simp [h3, h4, ht.1]) ht.2 ?_
              rw [ydn_sI h1]
              exact kk
            case isFalse => cases hs
        case h_2 _ x =>
          split at hs
          case isTrue ht =>
            cases hs
            refine wputJ hf hK (by simp [h3, h4, ht]) ?_
            rw [ydn_sJ]
            exact kk
          case isFalse => cases hs
        case h_3 _ b =>
          split at hs
          case isTrue ht =>
            cases hs
            refine wputP hf hK (by simp [h3, h4, ht]) ?_
            rw [ydn_sP]
            exact kk
          case isFalse => cases hs
        case h_4 => cases hs
      case isFalse => cases hs
    case h_2 => cases hs
  case iastore =>
    replace hs : yiast (.iastore, nx, a1, a2, z) lv st D = some s := hs
    unfold yiast at hs
    split at hs
    case h_1 _ y x a r =>
      dsimp only at hs
      split at hs
      case isTrue hc =>
        obtain ⟨h1, h2, h3, h4⟩ := hc
        cases hs
        refine wast hf (show (ydn L xs D).K a = 100 by rw [ydn_K h1]; exact h2) (ydn_N h1) h4 h3 ?_
        rw [ydn_sI h1]
        exact kk
      case isFalse => cases hs
    case h_2 => cases hs
  case lastore =>
    replace hs : ylast (.lastore, nx, a1, a2, z) lv st D = some s := hs
    unfold ylast at hs
    split at hs
    case h_1 _ y x a r =>
      dsimp only at hs
      split at hs
      case isTrue hc =>
        obtain ⟨h1, h2, h3, h4⟩ := hc
        cases hs
        refine wlast hf (show (ydn L xs D).K a = 101 by rw [ydn_K h1]; exact h2) (ydn_N h1) h4 h3 ?_
        rw [ydn_sJ]
        exact kk
      case isFalse => cases hs
    case h_2 => cases hs
  case aastore =>
    replace hs : yaast (.aastore, nx, a1, a2, z) lv st D = some s := hs
    unfold yaast at hs
    split at hs
    case h_1 _ b x a r =>
      dsimp only at hs
      split at hs
      case isTrue hc =>
        obtain ⟨⟨h1, h1b⟩, ⟨h2, h2k⟩, h2b, h3, h4⟩ := hc
        cases hs
        obtain ⟨j, hx, hj, hix⟩ := inb_x h3 h4
        have k9 : xEk d m (nx, lv, r, ((ydn L xs D).sP a j b).X) C := by
          rw [ydn_sP, ← hix]
          exact kk
        exact kaast hf (show (ydn L xs D).K a = 100 + (yK D a - 100) by rw [ydn_K h1]; exact h2) h2k (show (ydn L xs D).K b = _ by rw [ydn_K h1b]; exact h2b) hx (show j < (ydn L xs D).N a by rw [ydn_N h1]; exact hj) (show (ydn L xs D).N a ≤ 60000 by rw [ydn_N h1]; exact h4) k9
      case isFalse => cases hs
    case h_2 => cases hs
  case newarray at' =>
    replace hs : ynar (.newarray at', nx, a1, a2, z) lv st D = some s := hs
    unfold ynar at hs
    split at hs
    case h_1 _ x r =>
      dsimp only at hs
      split at hs
      case isTrue hc =>
        obtain ⟨h1, h2⟩ := hc
        split at hs
        case isTrue h3 =>
          have h3 : a1 = 1 := h3
          subst h3
          cases hs
          have h1' : ix x ≤ 60000 := by have := h1.2; omega
          have hx : x = nI (ix x) := yix h1.1
          have k9 : xEk d m (nx, lv, .ref D.1 :: r, ((ydn L xs D).new 101 (ix x) (ix x)).X) C := by
            rw [ydn_new h2]
            exact kk
          exact knewL hf hx h1' rfl rfl k9
        case isFalse =>
          split at hs
          case isTrue h3 =>
            cases hs
            refine wnewA hf h3 h1 ?_
            rw [ydn_new h2]
            exact kk
          case isFalse => cases hs
      case isFalse => cases hs
    case h_2 => cases hs
  case anewarray i =>
    replace hs : yanar (.anewarray i, nx, a1, a2, z) lv st D = some s := hs
    unfold yanar at hs
    split at hs
    case h_1 _ x r =>
      dsimp only at hs
      split at hs
      case isTrue hc =>
        obtain ⟨h1, h2, h3⟩ := hc
        cases hs
        have h1' : ix x ≤ 60000 := by have := h1.2; omega
        have hx : x = nI (ix x) := yix h1.1
        have k9 : xEk d m (nx, lv, .ref D.1 :: r, ((ydn L xs D).new (100 + a1) (ix x) (ix x)).X) C := by
          rw [ydn_new h2]
          exact kk
        exact knewR hf h3 hx h1' rfl rfl k9
      case isFalse => cases hs
    case h_2 => cases hs
  case multianewarray i n2 =>
    replace hs : ymn (.multianewarray i n2, nx, a1, a2, z) lv st D = some s := hs
    unfold ymn at hs
    split at hs
    case h_1 _ k n r =>
      dsimp only at hs
      split at hs
      case isTrue hc =>
        obtain ⟨⟨rfl, rfl⟩, h2⟩ := hc
        cases hs
        refine kmna hf rfl rfl ?_
        have k9 := ydn_mna (L := L) (xs := xs) h2
        have k8 : xEk d m (nx, lv, .ref D.1 :: r, (ydn L xs (ymna D)).X) C := kk
        rw [← k9] at k8
        exact k8
      case isFalse => cases hs
    case h_2 => cases hs
  case new i =>
    replace hs : ynewo (.new i, nx, a1, a2, z) lv st D = some s := hs
    unfold ynewo at hs
    split at hs
    case isTrue hc =>
      obtain ⟨h1, h2⟩ := hc
      cases hs
      have k9 : xEk d m (nx, lv, .ref D.1 :: st, ((ydn L xs D).new a1 0 (xnf a1)).X) C := by
        rw [ydn_new h2]
        exact kk
      exact knewO hf h1 rfl rfl k9
    case isFalse => cases hs
end YH
/-- a call of the tables' methods whose receiver's kind is not asked -/
def ycl (e : xE) : Bool := match e.1 with
  | .invokespecial _ => Nat.blt e.2.2.1 9000
  | .invokestatic _ => Nat.blt e.2.2.1 9000
  | _ => false
theorem ycl_ok {e : xE} {st : List Value} (hc : ycl e = true) (h : xH) : xcall e st h = xcall e st y0 := by
  obtain ⟨ins, nx, a1, a2, z⟩ := e
  cases ins <;> first | (exact absurd hc Bool.false_ne_true) | rfl
/-- the run: fuel, frames, method -/
def yE : Nat → Nat → Nat → Nat → xL → List Value → yD → Option yR
  | 0, _, _, _, _, _, _ => none
  | f + 1, d, m, pc, lv, st, D => match xfetch m pc with
    | none => none
    | some e => bif ycl e then (match d with
          | 0 => none
          | d' + 1 => match xcall e st y0 with
            | none => none
            | some (m', as, rest) => bif Nat.ble (lg_sl as).length (xmaxL m') then (match yE f d' m' 0 (lv_args 0 as) [] D with
                | some (v, D') => yE f (d' + 1) m e.2.1 lv (v.toList ++ rest) D'
                | none => none)
              else none)
      else bif yfree e then (match xstep e pc lv st y0 with
        | some (.inl (p, l, s, _)) => yE f d m p l s D
        | some (.inr (v, _)) => some (v, D)
        | none => none)
      else (match yheap e lv st D with
        | some (p, l, s, D') => yE f d m p l s D'
        | none => none)
theorem yE_ok (L : Nat) (xs : Nat → Int32) : ∀ f d m pc lv st D v D', yE f d m pc lv st D = some (v, D') → ∀ C : xR → Prop, C (v, (ydn L xs D').X) → xEk d m (pc, lv, st, (ydn L xs D).X) C := by
  intro f
  induction f with
  | zero => intro d m pc lv st D v D' hs; cases hs
  | succ f ih =>
    intro d m pc lv st D v D' hs C hC
    unfold yE at hs
    split at hs
    case h_1 => cases hs
    case h_2 e hf =>
      cases h1 : ycl e with
      | true =>
        rw [h1, cond_true] at hs
        split at hs
        case h_1 => cases hs
        case h_2 d' =>
          split at hs
          case h_1 => cases hs
          case h_2 m' as rest hcl =>
            cases h2 : Nat.ble (lg_sl as).length (xmaxL m') with
            | false => rw [h2, cond_false] at hs; cases hs
            | true =>
              rw [h2, cond_true] at hs
              split at hs
              case h_2 => cases hs
              case h_1 v1 D1 hin =>
                obtain ⟨r1, q1, q2⟩ := ih d' m' 0 (lv_args 0 as) [] D v1 D1 hin (fun r => r = (v1, (ydn L xs D1).X)) rfl
                subst q2
                obtain ⟨r2, q3, q4⟩ := ih (d' + 1) m e.2.1 lv (v1.toList ++ rest) D1 v D' hs C hC
                exact ⟨r2, xEv_call hf (by rw [ycl_ok h1]; exact hcl) (xPv_in (Nat.le_of_ble_eq_true h2) q1) q3, q4⟩
      | false =>
        rw [h1, cond_false] at hs
        cases h2 : yfree e with
        | true =>
          rw [h2, cond_true] at hs
          have hx := yfree_ok (pc := pc) (lv := lv) (st := st) h2 (ydn L xs D).X
          split at hs
          case h_1 p l s h9 hst =>
            rw [hst] at hx
            exact kst hf hx (ih d m p l s D v D' hs C hC)
          case h_2 v9 h9 hst =>
            rw [hst] at hx
            cases hs
            exact ⟨_, xEv_ret hf hx, hC⟩
          case h_3 => cases hs
        | false =>
          rw [h2, cond_false] at hs
          split at hs
          case h_1 p l s D1 hst => exact yheap_ok hf hst (ih d m p l s D1 v D' hs C hC)
          case h_2 => cases hs
