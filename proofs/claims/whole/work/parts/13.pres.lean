set_option maxHeartbeats 4000000 in
theorem x_mono {e' : xE} {pc : Nat} {lv : xL} {st : List Value} {h : xH} {σ : xS} (hs : xstep e' pc lv st h = some (.inl σ)) : h.1 ≤ σ.2.2.2.1 ∧ h.2.1 ≤ σ.2.2.2.2.1 := by
  obtain ⟨ins, nx, a1, a2, z⟩ := e'
  cases ins
  case iconst =>
    cases hs
    exact ⟨Nat.le_refl _, Nat.le_refl _⟩
  case bipush =>
    cases hs
    exact ⟨Nat.le_refl _, Nat.le_refl _⟩
  case sipush =>
    cases hs
    exact ⟨Nat.le_refl _, Nat.le_refl _⟩
  case lconst =>
    cases hs
    exact ⟨Nat.le_refl _, Nat.le_refl _⟩
  case ldc i =>
    have hs : xldc (.ldc i, nx, a1, a2, z) lv st h = some (Sum.inl σ) := hs
    unfold xldc at hs
    split at hs <;> cases hs <;> exact ⟨Nat.le_refl _, Nat.le_refl _⟩
  case ldc_w i =>
    have hs : xldc (.ldc_w i, nx, a1, a2, z) lv st h = some (Sum.inl σ) := hs
    unfold xldc at hs
    split at hs <;> cases hs <;> exact ⟨Nat.le_refl _, Nat.le_refl _⟩
  case ldc2_w =>
    cases hs
    exact ⟨Nat.le_refl _, Nat.le_refl _⟩
  case iload_n =>
    obtain ⟨_, _, rfl⟩ := xldI_inv hs
    exact ⟨Nat.le_refl _, Nat.le_refl _⟩
  case iload =>
    obtain ⟨_, _, rfl⟩ := xldI_inv hs
    exact ⟨Nat.le_refl _, Nat.le_refl _⟩
  case lload_n =>
    obtain ⟨_, _, rfl⟩ := xldL_inv hs
    exact ⟨Nat.le_refl _, Nat.le_refl _⟩
  case lload =>
    obtain ⟨_, _, rfl⟩ := xldL_inv hs
    exact ⟨Nat.le_refl _, Nat.le_refl _⟩
  case aload_n =>
    obtain ⟨_, _, rfl⟩ := xldA_inv hs
    exact ⟨Nat.le_refl _, Nat.le_refl _⟩
  case aload =>
    obtain ⟨_, _, rfl⟩ := xldA_inv hs
    exact ⟨Nat.le_refl _, Nat.le_refl _⟩
  case istore_n =>
    obtain ⟨_, _, rfl, rfl⟩ := xstI_inv hs
    exact ⟨Nat.le_refl _, Nat.le_refl _⟩
  case istore =>
    obtain ⟨_, _, rfl, rfl⟩ := xstI_inv hs
    exact ⟨Nat.le_refl _, Nat.le_refl _⟩
  case lstore_n =>
    obtain ⟨_, _, rfl, rfl⟩ := xstL_inv hs
    exact ⟨Nat.le_refl _, Nat.le_refl _⟩
  case lstore =>
    obtain ⟨_, _, rfl, rfl⟩ := xstL_inv hs
    exact ⟨Nat.le_refl _, Nat.le_refl _⟩
  case astore_n =>
    obtain ⟨_, _, rfl, rfl⟩ := xstA_inv hs
    exact ⟨Nat.le_refl _, Nat.le_refl _⟩
  case astore =>
    obtain ⟨_, _, rfl, rfl⟩ := xstA_inv hs
    exact ⟨Nat.le_refl _, Nat.le_refl _⟩
  case iinc =>
    obtain ⟨_, _, rfl⟩ := xinc_inv hs
    exact ⟨Nat.le_refl _, Nat.le_refl _⟩
  case iadd =>
    obtain ⟨_, _, _, rfl, rfl⟩ := xb2_inv hs
    exact ⟨Nat.le_refl _, Nat.le_refl _⟩
  case isub =>
    obtain ⟨_, _, _, rfl, rfl⟩ := xb2_inv hs
    exact ⟨Nat.le_refl _, Nat.le_refl _⟩
  case imul =>
    obtain ⟨_, _, _, rfl, rfl⟩ := xb2_inv hs
    exact ⟨Nat.le_refl _, Nat.le_refl _⟩
  case iand =>
    obtain ⟨_, _, _, rfl, rfl⟩ := xb2_inv hs
    exact ⟨Nat.le_refl _, Nat.le_refl _⟩
  case ior =>
    obtain ⟨_, _, _, rfl, rfl⟩ := xb2_inv hs
    exact ⟨Nat.le_refl _, Nat.le_refl _⟩
  case ixor =>
    obtain ⟨_, _, _, rfl, rfl⟩ := xb2_inv hs
    exact ⟨Nat.le_refl _, Nat.le_refl _⟩
  case ishl =>
    obtain ⟨_, _, _, rfl, rfl⟩ := xb2_inv hs
    exact ⟨Nat.le_refl _, Nat.le_refl _⟩
  case ishr =>
    obtain ⟨_, _, _, rfl, rfl⟩ := xb2_inv hs
    exact ⟨Nat.le_refl _, Nat.le_refl _⟩
  case iushr =>
    obtain ⟨_, _, _, rfl, rfl⟩ := xb2_inv hs
    exact ⟨Nat.le_refl _, Nat.le_refl _⟩
  case idiv =>
    obtain ⟨_, _, _, _, rfl, rfl⟩ := xb2z_inv hs
    exact ⟨Nat.le_refl _, Nat.le_refl _⟩
  case irem =>
    obtain ⟨_, _, _, _, rfl, rfl⟩ := xb2z_inv hs
    exact ⟨Nat.le_refl _, Nat.le_refl _⟩
  case ladd =>
    obtain ⟨_, _, _, rfl, rfl⟩ := xl2_inv hs
    exact ⟨Nat.le_refl _, Nat.le_refl _⟩
  case lmul =>
    obtain ⟨_, _, _, rfl, rfl⟩ := xl2_inv hs
    exact ⟨Nat.le_refl _, Nat.le_refl _⟩
  case land =>
    obtain ⟨_, _, _, rfl, rfl⟩ := xl2_inv hs
    exact ⟨Nat.le_refl _, Nat.le_refl _⟩
  case lor =>
    obtain ⟨_, _, _, rfl, rfl⟩ := xl2_inv hs
    exact ⟨Nat.le_refl _, Nat.le_refl _⟩
  case ldiv =>
    obtain ⟨_, _, _, _, rfl, rfl⟩ := xl2z_inv hs
    exact ⟨Nat.le_refl _, Nat.le_refl _⟩
  case lrem =>
    obtain ⟨_, _, _, _, rfl, rfl⟩ := xl2z_inv hs
    exact ⟨Nat.le_refl _, Nat.le_refl _⟩
  case lshl =>
    obtain ⟨_, _, _, rfl, rfl⟩ := xlsh_inv hs
    exact ⟨Nat.le_refl _, Nat.le_refl _⟩
  case lcmp =>
    obtain ⟨_, _, _, rfl, rfl⟩ := xlcmp_inv hs
    exact ⟨Nat.le_refl _, Nat.le_refl _⟩
  case i2l =>
    obtain ⟨_, _, rfl, rfl⟩ := xi1_inv hs
    exact ⟨Nat.le_refl _, Nat.le_refl _⟩
  case i2b =>
    obtain ⟨_, _, rfl, rfl⟩ := xi1_inv hs
    exact ⟨Nat.le_refl _, Nat.le_refl _⟩
  case i2s =>
    obtain ⟨_, _, rfl, rfl⟩ := xi1_inv hs
    exact ⟨Nat.le_refl _, Nat.le_refl _⟩
  case l2i =>
    obtain ⟨_, _, rfl, rfl⟩ := xl2i_inv hs
    exact ⟨Nat.le_refl _, Nat.le_refl _⟩
  case dup =>
    obtain ⟨_, _, _, rfl, rfl⟩ := xdup_inv hs
    exact ⟨Nat.le_refl _, Nat.le_refl _⟩
  case dup2 =>
    obtain ⟨_, _, _, _, rfl, rfl⟩ := xdup2_inv hs
    exact ⟨Nat.le_refl _, Nat.le_refl _⟩
  case pop =>
    obtain ⟨_, _, _, rfl, rfl⟩ := xpop_inv hs
    exact ⟨Nat.le_refl _, Nat.le_refl _⟩
  case ifCond =>
    obtain ⟨_, _, rfl, rfl⟩ := xif1_inv hs
    exact ⟨Nat.le_refl _, Nat.le_refl _⟩
  case if_icmp =>
    obtain ⟨_, _, _, rfl, rfl⟩ := xif2_inv hs
    exact ⟨Nat.le_refl _, Nat.le_refl _⟩
  case goto =>
    cases hs
    exact ⟨Nat.le_refl _, Nat.le_refl _⟩
  case tableswitch =>
    obtain ⟨_, _, _, rfl, _, rfl⟩ := xswi_inv hs
    exact ⟨Nat.le_refl _, Nat.le_refl _⟩
  case lookupswitch =>
    obtain ⟨_, _, _, rfl, _, rfl⟩ := xswi_inv hs
    exact ⟨Nat.le_refl _, Nat.le_refl _⟩
  case getfield =>
    obtain ⟨_, _, _, _, _, _, rfl, rfl⟩ := xget_inv hs
    exact ⟨Nat.le_refl _, Nat.le_refl _⟩
  case iaload =>
    obtain ⟨_, _, _, _, _, _, _, _, _, rfl, rfl⟩ := xiald_inv hs
    exact ⟨Nat.le_refl _, Nat.le_refl _⟩
  case baload =>
    obtain ⟨_, _, _, _, _, _, _, _, _, rfl, rfl⟩ := xbald_inv hs
    exact ⟨Nat.le_refl _, Nat.le_refl _⟩
  case laload =>
    obtain ⟨_, _, _, _, _, _, _, rfl, rfl⟩ := xlald_inv hs
    exact ⟨Nat.le_refl _, Nat.le_refl _⟩
  case aaload =>
    obtain ⟨_, _, _, _, _, _, _, _, _, _, _, rfl, rfl⟩ := xaald_inv hs
    exact ⟨Nat.le_refl _, Nat.le_refl _⟩
  case arraylength =>
    obtain ⟨_, _, _, _, _, _, rfl, rfl⟩ := xalen_inv hs
    exact ⟨Nat.le_refl _, Nat.le_refl _⟩
  case invokespecial i =>
    have hs : (if a1 = 9999 then xoinit (.invokespecial i, nx, a1, a2, z) lv st h else none) = some (Sum.inl σ) := hs
    split at hs
    · obtain ⟨_, _, _, rfl, rfl⟩ := xoinit_inv hs
      exact ⟨Nat.le_refl _, Nat.le_refl _⟩
    · cases hs
  case invokevirtual i =>
    have hs : (if a1 = 9998 then xslen (.invokevirtual i, nx, a1, a2, z) lv st h else if a1 = 9997 then xschr (.invokevirtual i, nx, a1, a2, z) lv st h else none) = some (Sum.inl σ) := hs
    split at hs
    · obtain ⟨_, _, _, _, rfl, rfl⟩ := xslen_inv hs
      exact ⟨Nat.le_refl _, Nat.le_refl _⟩
    · split at hs
      · obtain ⟨_, _, _, _, _, _, rfl, rfl⟩ := xschr_inv hs
        exact ⟨Nat.le_refl _, Nat.le_refl _⟩
      · cases hs
  case invokestatic i =>
    have hs : (if a1 = 9996 then xcopy (.invokestatic i, nx, a1, a2, z) lv st h else if a1 = 9995 then xmm (.invokestatic i, nx, a1, a2, z) (fun x y => if x < y then y else x) lv st h else if a1 = 9994 then xmm (.invokestatic i, nx, a1, a2, z) (fun x y => if y < x then y else x) lv st h else none) = some (.inl σ) := hs
    split at hs
    · obtain ⟨_, _, b, _, _, _, _, rfl, ⟨_, _, _, _, _, hb, _, _, rfl⟩ | ⟨_, _, _, _, _, hb, _, _, rfl⟩⟩ := xcopy_inv hs
      · exact ⟨Nat.le_refl _, Nat.le_refl _⟩
      · exact ⟨Nat.le_refl _, Nat.le_refl _⟩
    · split at hs
      · obtain ⟨_, _, _, _, rfl, rfl⟩ := xmm_inv hs
        exact ⟨Nat.le_refl _, Nat.le_refl _⟩
      · split at hs
        · obtain ⟨_, _, _, _, rfl, rfl⟩ := xmm_inv hs
          exact ⟨Nat.le_refl _, Nat.le_refl _⟩
        · cases hs
  case putfield i =>
    obtain ⟨_, a, _, _, hm1, _, _, rfl, rfl⟩ := xsetf_inv hs
    exact ⟨Nat.le_refl _, Nat.le_refl _⟩
  case iastore =>
    obtain ⟨_, _, a, _, _, _, hm1, _, rfl, rfl⟩ := xiast_inv hs
    exact ⟨Nat.le_refl _, Nat.le_refl _⟩
  case lastore =>
    obtain ⟨_, _, a, _, _, _, hm1, _, rfl, rfl⟩ := xlast_inv hs
    exact ⟨Nat.le_refl _, Nat.le_refl _⟩
  case bastore =>
    obtain ⟨_, _, a, _, _, _, _, hm1, _, rfl, ⟨rfl, rfl⟩ | ⟨rfl, rfl⟩⟩ := xbast_inv hs
    · exact ⟨Nat.le_refl _, Nat.le_refl _⟩
    · exact ⟨Nat.le_refl _, Nat.le_refl _⟩
  case aastore =>
    obtain ⟨_, _, a, _, kd, _, _, _, hm1, _, hkd, _, rfl, rfl⟩ := xaast_inv hs
    exact ⟨Nat.le_refl _, Nat.le_refl _⟩
  case newarray at' =>
    obtain ⟨_, _, _, _, rfl, ⟨_, rfl⟩ | ⟨_, rfl⟩⟩ := xnar_inv hs
    · exact ⟨Nat.le_succ _, Nat.le_add_right _ _⟩
    · exact ⟨Nat.le_succ _, Nat.le_add_right _ _⟩
  case anewarray i =>
    obtain ⟨_, _, _, _, rfl, rfl⟩ := xanar_inv hs
    exact ⟨Nat.le_succ _, Nat.le_add_right _ _⟩
  case multianewarray i n2 =>
    have hs : xmna (.multianewarray i n2, nx, a1, a2, z) lv st h = some (Sum.inl σ) := hs
    unfold xmna at hs
    split at hs
    · split at hs
      · cases hs
        exact ⟨Nat.le_add_right _ _, Nat.le_add_right _ _⟩
      · cases hs
    · cases hs
  case new i =>
    have hs : xnewo (.new i, nx, a1, a2, z) lv st h = some (Sum.inl σ) := hs
    unfold xnewo at hs
    cases hs
    exact ⟨Nat.le_succ _, Nat.le_add_right _ _⟩
  case ireturn => exact absurd hs (by unfold xstep; simp only; intro h9; split at h9 <;> (try split at h9) <;> cases h9)
  case lreturn => exact absurd hs (by unfold xstep; simp only; intro h9; split at h9 <;> cases h9)
  case areturn => exact absurd hs (by unfold xstep; simp only; intro h9; split at h9 <;> cases h9)
  case return_ => exact absurd hs (by unfold xstep; simp only; intro h9; split at h9 <;> cases h9)
  all_goals (exact absurd hs (by intro h9; cases h9))
set_option maxHeartbeats 4000000 in
theorem x_pres {e' : xE} {pc : Nat} {lv : xL} {st : List Value} {h : xH} {σ : xS} {L : Nat} {xs : Nat → Int32} {cn : Nat} {q : xMI} (o : xok L xs h) (hok : xokE cn q pc e' = true) (hs : xstep e' pc lv st h = some (.inl σ)) (hm : σ.2.2.2.1 ≤ 600000) : xok L xs σ.2.2.2 := by
  obtain ⟨ins, nx, a1, a2, z⟩ := e'
  cases ins
  case iconst =>
    cases hs
    exact o
  case bipush =>
    cases hs
    exact o
  case sipush =>
    cases hs
    exact o
  case lconst =>
    cases hs
    exact o
  case ldc i =>
    have hs : xldc (.ldc i, nx, a1, a2, z) lv st h = some (Sum.inl σ) := hs
    unfold xldc at hs
    split at hs <;> cases hs <;> exact o
  case ldc_w i =>
    have hs : xldc (.ldc_w i, nx, a1, a2, z) lv st h = some (Sum.inl σ) := hs
    unfold xldc at hs
    split at hs <;> cases hs <;> exact o
  case ldc2_w =>
    cases hs
    exact o
  case iload_n =>
    obtain ⟨_, _, rfl⟩ := xldI_inv hs
    exact o
  case iload =>
    obtain ⟨_, _, rfl⟩ := xldI_inv hs
    exact o
  case lload_n =>
    obtain ⟨_, _, rfl⟩ := xldL_inv hs
    exact o
  case lload =>
    obtain ⟨_, _, rfl⟩ := xldL_inv hs
    exact o
  case aload_n =>
    obtain ⟨_, _, rfl⟩ := xldA_inv hs
    exact o
  case aload =>
    obtain ⟨_, _, rfl⟩ := xldA_inv hs
    exact o
  case istore_n =>
    obtain ⟨_, _, rfl, rfl⟩ := xstI_inv hs
    exact o
  case istore =>
    obtain ⟨_, _, rfl, rfl⟩ := xstI_inv hs
    exact o
  case lstore_n =>
    obtain ⟨_, _, rfl, rfl⟩ := xstL_inv hs
    exact o
  case lstore =>
    obtain ⟨_, _, rfl, rfl⟩ := xstL_inv hs
    exact o
  case astore_n =>
    obtain ⟨_, _, rfl, rfl⟩ := xstA_inv hs
    exact o
  case astore =>
    obtain ⟨_, _, rfl, rfl⟩ := xstA_inv hs
    exact o
  case iinc =>
    obtain ⟨_, _, rfl⟩ := xinc_inv hs
    exact o
  case iadd =>
    obtain ⟨_, _, _, rfl, rfl⟩ := xb2_inv hs
    exact o
  case isub =>
    obtain ⟨_, _, _, rfl, rfl⟩ := xb2_inv hs
    exact o
  case imul =>
    obtain ⟨_, _, _, rfl, rfl⟩ := xb2_inv hs
    exact o
  case iand =>
    obtain ⟨_, _, _, rfl, rfl⟩ := xb2_inv hs
    exact o
  case ior =>
    obtain ⟨_, _, _, rfl, rfl⟩ := xb2_inv hs
    exact o
  case ixor =>
    obtain ⟨_, _, _, rfl, rfl⟩ := xb2_inv hs
    exact o
  case ishl =>
    obtain ⟨_, _, _, rfl, rfl⟩ := xb2_inv hs
    exact o
  case ishr =>
    obtain ⟨_, _, _, rfl, rfl⟩ := xb2_inv hs
    exact o
  case iushr =>
    obtain ⟨_, _, _, rfl, rfl⟩ := xb2_inv hs
    exact o
  case idiv =>
    obtain ⟨_, _, _, _, rfl, rfl⟩ := xb2z_inv hs
    exact o
  case irem =>
    obtain ⟨_, _, _, _, rfl, rfl⟩ := xb2z_inv hs
    exact o
  case ladd =>
    obtain ⟨_, _, _, rfl, rfl⟩ := xl2_inv hs
    exact o
  case lmul =>
    obtain ⟨_, _, _, rfl, rfl⟩ := xl2_inv hs
    exact o
  case land =>
    obtain ⟨_, _, _, rfl, rfl⟩ := xl2_inv hs
    exact o
  case lor =>
    obtain ⟨_, _, _, rfl, rfl⟩ := xl2_inv hs
    exact o
  case ldiv =>
    obtain ⟨_, _, _, _, rfl, rfl⟩ := xl2z_inv hs
    exact o
  case lrem =>
    obtain ⟨_, _, _, _, rfl, rfl⟩ := xl2z_inv hs
    exact o
  case lshl =>
    obtain ⟨_, _, _, rfl, rfl⟩ := xlsh_inv hs
    exact o
  case lcmp =>
    obtain ⟨_, _, _, rfl, rfl⟩ := xlcmp_inv hs
    exact o
  case i2l =>
    obtain ⟨_, _, rfl, rfl⟩ := xi1_inv hs
    exact o
  case i2b =>
    obtain ⟨_, _, rfl, rfl⟩ := xi1_inv hs
    exact o
  case i2s =>
    obtain ⟨_, _, rfl, rfl⟩ := xi1_inv hs
    exact o
  case l2i =>
    obtain ⟨_, _, rfl, rfl⟩ := xl2i_inv hs
    exact o
  case dup =>
    obtain ⟨_, _, _, rfl, rfl⟩ := xdup_inv hs
    exact o
  case dup2 =>
    obtain ⟨_, _, _, _, rfl, rfl⟩ := xdup2_inv hs
    exact o
  case pop =>
    obtain ⟨_, _, _, rfl, rfl⟩ := xpop_inv hs
    exact o
  case ifCond =>
    obtain ⟨_, _, rfl, rfl⟩ := xif1_inv hs
    exact o
  case if_icmp =>
    obtain ⟨_, _, _, rfl, rfl⟩ := xif2_inv hs
    exact o
  case goto =>
    cases hs
    exact o
  case tableswitch =>
    obtain ⟨_, _, _, rfl, _, rfl⟩ := xswi_inv hs
    exact o
  case lookupswitch =>
    obtain ⟨_, _, _, rfl, _, rfl⟩ := xswi_inv hs
    exact o
  case getfield =>
    obtain ⟨_, _, _, _, _, _, rfl, rfl⟩ := xget_inv hs
    exact o
  case iaload =>
    obtain ⟨_, _, _, _, _, _, _, _, _, rfl, rfl⟩ := xiald_inv hs
    exact o
  case baload =>
    obtain ⟨_, _, _, _, _, _, _, _, _, rfl, rfl⟩ := xbald_inv hs
    exact o
  case laload =>
    obtain ⟨_, _, _, _, _, _, _, rfl, rfl⟩ := xlald_inv hs
    exact o
  case aaload =>
    obtain ⟨_, _, _, _, _, _, _, _, _, _, _, rfl, rfl⟩ := xaald_inv hs
    exact o
  case arraylength =>
    obtain ⟨_, _, _, _, _, _, rfl, rfl⟩ := xalen_inv hs
    exact o
  case invokespecial i =>
    have hs : (if a1 = 9999 then xoinit (.invokespecial i, nx, a1, a2, z) lv st h else none) = some (Sum.inl σ) := hs
    split at hs
    · obtain ⟨_, _, _, rfl, rfl⟩ := xoinit_inv hs
      exact o
    · cases hs
  case invokevirtual i =>
    have hs : (if a1 = 9998 then xslen (.invokevirtual i, nx, a1, a2, z) lv st h else if a1 = 9997 then xschr (.invokevirtual i, nx, a1, a2, z) lv st h else none) = some (Sum.inl σ) := hs
    split at hs
    · obtain ⟨_, _, _, _, rfl, rfl⟩ := xslen_inv hs
      exact o
    · split at hs
      · obtain ⟨_, _, _, _, _, _, rfl, rfl⟩ := xschr_inv hs
        exact o
      · cases hs
  case invokestatic i =>
    have hs : (if a1 = 9996 then xcopy (.invokestatic i, nx, a1, a2, z) lv st h else if a1 = 9995 then xmm (.invokestatic i, nx, a1, a2, z) (fun x y => if x < y then y else x) lv st h else if a1 = 9994 then xmm (.invokestatic i, nx, a1, a2, z) (fun x y => if y < x then y else x) lv st h else none) = some (.inl σ) := hs
    split at hs
    · obtain ⟨_, _, b, _, _, _, _, rfl, ⟨_, _, _, _, _, hb, _, _, rfl⟩ | ⟨_, _, _, _, _, hb, _, _, rfl⟩⟩ := xcopy_inv hs
      · exact o.put (o.arr hb (by decide)) hm (fun k c h9 => by cases h9; decide)
      · exact o.put (o.arr hb (by decide)) hm (fun k c h9 => by cases h9; decide)
    · split at hs
      · obtain ⟨_, _, _, _, rfl, rfl⟩ := xmm_inv hs
        exact o
      · split at hs
        · obtain ⟨_, _, _, _, rfl, rfl⟩ := xmm_inv hs
          exact o
        · cases hs
  case putfield i =>
    obtain ⟨_, a, _, _, hm1, _, _, rfl, rfl⟩ := xsetf_inv hs
    refine o.put (o.obj hm1 ?_) hm (fun k c h9 => by cases h9)
    simp only [xokE, xokE2, Bool.and_eq_true] at hok
    obtain ⟨hint, hm2⟩ := xpool_in hok.2.1
    have hsd := xF_side cn _ hm2
    unfold xsdF at hsd
    cases hcl : vwCl[a1]? with
    | none => simp only [hcl] at hsd; cases hsd
    | some t =>
      have : a1 < 13 := (List.getElem?_eq_some_iff.mp hcl).1
      show a1 ≠ 999
      omega
  case iastore =>
    obtain ⟨_, _, a, _, _, _, hm1, _, rfl, rfl⟩ := xiast_inv hs
    exact o.put (o.arr hm1 (by decide)) hm (fun k c h9 => by cases h9; decide)
  case lastore =>
    obtain ⟨_, _, a, _, _, _, hm1, _, rfl, rfl⟩ := xlast_inv hs
    exact o.put (o.arr hm1 (by decide)) hm (fun k c h9 => by cases h9; decide)
  case bastore =>
    obtain ⟨_, _, a, _, _, _, _, hm1, _, rfl, ⟨rfl, rfl⟩ | ⟨rfl, rfl⟩⟩ := xbast_inv hs
    · exact o.put (o.arr hm1 (by decide)) hm (fun k c h9 => by cases h9; decide)
    · exact o.put (o.arr hm1 (by decide)) hm (fun k c h9 => by cases h9; decide)
  case aastore =>
    obtain ⟨_, _, a, _, kd, _, _, _, hm1, _, hkd, _, rfl, rfl⟩ := xaast_inv hs
    exact o.put (o.arr hm1 (by omega)) hm (fun k c h9 => by cases h9; omega)
  case newarray at' =>
    simp only [xokE, xokE2, Bool.and_eq_true, decide_eq_true_eq] at hok
    obtain ⟨_, _, _, _, rfl, ⟨_, rfl⟩ | ⟨_, rfl⟩⟩ := xnar_inv hs
    · exact o.add hm (fun k c h9 => by cases h9; decide)
    · refine o.add hm (fun k c h9 => ?_)
      cases h9
      have := hok.2.2
      show a1 < 8
      omega
  case anewarray i =>
    simp only [xokE, xokE2, Bool.and_eq_true, Bool.or_eq_true, decide_eq_true_eq] at hok
    obtain ⟨_, _, _, _, rfl, rfl⟩ := xanar_inv hs
    refine o.add hm (fun k c h9 => ?_)
    cases h9
    have := hok.2.1
    show a1 < 8
    omega
  case multianewarray i n2 =>
    have hs : xmna (.multianewarray i n2, nx, a1, a2, z) lv st h = some (Sum.inl σ) := hs
    unfold xmna at hs
    split at hs
    · split at hs
      · cases hs
        have hm : h.1 + 5 ≤ 600000 := hm
        refine ⟨fun a ha hz => ?_, ?_, fun a ha k c hc => ?_⟩
        · have ha : h.1 + 5 ≤ a := ha
          show (if a = h.1 then _ else if h.1 < a ∧ a < h.1 + 5 then _ else h.2.2 a) = _
          rw [if_neg (by omega), if_neg (by omega)]
          exact o.1 a (by omega) hz
        · show (if 1000000 = h.1 then _ else if h.1 < 1000000 ∧ 1000000 < h.1 + 5 then _ else h.2.2 1000000) = _
          rw [if_neg (by omega), if_neg (by omega)]
          exact o.2.1
        · have hc : (if a = h.1 then _ else if h.1 < a ∧ a < h.1 + 5 then _ else h.2.2 a) = _ := hc
          have ha : a < h.1 + 5 := ha
          split at hc
          · cases hc; decide
          · split at hc
            · cases hc; decide
            · exact o.2.2 a (by omega) k c hc
      · cases hs
    · cases hs
  case new i =>
    have hs : xnewo (.new i, nx, a1, a2, z) lv st h = some (Sum.inl σ) := hs
    unfold xnewo at hs
    cases hs
    exact o.add hm (fun k c h9 => by cases h9)
  case ireturn => exact absurd hs (by unfold xstep; simp only; intro h9; split at h9 <;> (try split at h9) <;> cases h9)
  case lreturn => exact absurd hs (by unfold xstep; simp only; intro h9; split at h9 <;> cases h9)
  case areturn => exact absurd hs (by unfold xstep; simp only; intro h9; split at h9 <;> cases h9)
  case return_ => exact absurd hs (by unfold xstep; simp only; intro h9; split at h9 <;> cases h9)
  all_goals (exact absurd hs (by intro h9; cases h9))
