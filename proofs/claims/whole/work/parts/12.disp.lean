section XSTEP3
variable {p : Program} {l : Launch} {e : Env} {R : Room} {s : State} {mid : MethodId} {args : Array Value} {below : List Frame} {meth : Method} {c : Code} {H : Heap} {locs : List Loc} {cells slots : Nat} {Q : State → Prop}
variable {D : va_G} {cy : Nat → ClassId} {ad : Nat → Nat} {sz0 L : Nat} {xs : Nat → Int32} {q : xMI} {cn : Nat} {ls : Array Slot} {pc : Nat} {lv : xL} {st : List Value} {h : xH} {σ : xS}
set_option maxHeartbeats 4000000 in
theorem x_step {e' : xE} (C : xctx D cy ad sz0 L xs q p s mid args meth c) (hA : xadr ad sz0) (hok : xokE cn q pc e' = true) (hcn : q.1 = xown cn) (o : xok L xs h) (hs : xstep e' pc lv st h = some (.inl σ)) (hn : h.1 ≤ 600000) (hm : σ.2.2.2.1 ≤ 600000) (hc : s.heap.size + cells = sz0 + h.1) (hR1 : cells + (σ.2.2.2.1 - h.1) ≤ R.cells) (hR2 : slots + (σ.2.2.2.2.1 - h.2.1) ≤ R.slots) (hfr : 1 ≤ R.frames) (hlo : 64 ≤ R.locals) (hfr5 : 5 ≤ R.frames) (hlo5 : 320 ≤ R.locals) (hl : lv_has ls q.2.2.2.1 (lv.map (xlc ad))) (hP : va_P D vwCl (xws cy ad h) H) (hS : va_S (xA0 sz0) s.heap H locs) (k : xgo p l e R s mid args below meth c cells slots Q D cy ad sz0 q.2.2.2.1 h σ) : W p l e R s mid args below meth c H locs cells slots Q (F0 mid pc ls (st.map (xcv ad))) := by
  obtain ⟨ins, nx, a1, a2, z⟩ := e'
  cases ins

  case iconst => exact x_step_iconst C hA hok hcn o hs hn hm hc hR1 hR2 hfr hlo hfr5 hlo5 hl hP hS k
  case bipush => exact x_step_bipush C hA hok hcn o hs hn hm hc hR1 hR2 hfr hlo hfr5 hlo5 hl hP hS k
  case sipush => exact x_step_sipush C hA hok hcn o hs hn hm hc hR1 hR2 hfr hlo hfr5 hlo5 hl hP hS k
  case lconst => exact x_step_lconst C hA hok hcn o hs hn hm hc hR1 hR2 hfr hlo hfr5 hlo5 hl hP hS k
  case ldc => exact x_step_ldc C hA hok hcn o hs hn hm hc hR1 hR2 hfr hlo hfr5 hlo5 hl hP hS k
  case ldc_w => exact x_step_ldcw C hA hok hcn o hs hn hm hc hR1 hR2 hfr hlo hfr5 hlo5 hl hP hS k
  case ldc2_w => exact x_step_ldc2 C hA hok hcn o hs hn hm hc hR1 hR2 hfr hlo hfr5 hlo5 hl hP hS k
  case iload_n => exact x_step_iload_n C hA hok hcn o hs hn hm hc hR1 hR2 hfr hlo hfr5 hlo5 hl hP hS k
  case iload => exact x_step_iload C hA hok hcn o hs hn hm hc hR1 hR2 hfr hlo hfr5 hlo5 hl hP hS k
  case lload_n => exact x_step_lload_n C hA hok hcn o hs hn hm hc hR1 hR2 hfr hlo hfr5 hlo5 hl hP hS k
  case lload => exact x_step_lload C hA hok hcn o hs hn hm hc hR1 hR2 hfr hlo hfr5 hlo5 hl hP hS k
  case aload_n => exact x_step_aload_n C hA hok hcn o hs hn hm hc hR1 hR2 hfr hlo hfr5 hlo5 hl hP hS k
  case aload => exact x_step_aload C hA hok hcn o hs hn hm hc hR1 hR2 hfr hlo hfr5 hlo5 hl hP hS k
  case istore_n => exact x_step_istore_n C hA hok hcn o hs hn hm hc hR1 hR2 hfr hlo hfr5 hlo5 hl hP hS k
  case istore => exact x_step_istore C hA hok hcn o hs hn hm hc hR1 hR2 hfr hlo hfr5 hlo5 hl hP hS k
  case lstore_n => exact x_step_lstore_n C hA hok hcn o hs hn hm hc hR1 hR2 hfr hlo hfr5 hlo5 hl hP hS k
  case lstore => exact x_step_lstore C hA hok hcn o hs hn hm hc hR1 hR2 hfr hlo hfr5 hlo5 hl hP hS k
  case astore_n => exact x_step_astore_n C hA hok hcn o hs hn hm hc hR1 hR2 hfr hlo hfr5 hlo5 hl hP hS k
  case astore => exact x_step_astore C hA hok hcn o hs hn hm hc hR1 hR2 hfr hlo hfr5 hlo5 hl hP hS k
  case iinc => exact x_step_iinc C hA hok hcn o hs hn hm hc hR1 hR2 hfr hlo hfr5 hlo5 hl hP hS k
  case iadd => exact x_step_iadd C hA hok hcn o hs hn hm hc hR1 hR2 hfr hlo hfr5 hlo5 hl hP hS k
  case isub => exact x_step_isub C hA hok hcn o hs hn hm hc hR1 hR2 hfr hlo hfr5 hlo5 hl hP hS k
  case imul => exact x_step_imul C hA hok hcn o hs hn hm hc hR1 hR2 hfr hlo hfr5 hlo5 hl hP hS k
  case iand => exact x_step_iand C hA hok hcn o hs hn hm hc hR1 hR2 hfr hlo hfr5 hlo5 hl hP hS k
  case ior => exact x_step_ior C hA hok hcn o hs hn hm hc hR1 hR2 hfr hlo hfr5 hlo5 hl hP hS k
  case ixor => exact x_step_ixor C hA hok hcn o hs hn hm hc hR1 hR2 hfr hlo hfr5 hlo5 hl hP hS k
  case ishl => exact x_step_ishl C hA hok hcn o hs hn hm hc hR1 hR2 hfr hlo hfr5 hlo5 hl hP hS k
  case ishr => exact x_step_ishr C hA hok hcn o hs hn hm hc hR1 hR2 hfr hlo hfr5 hlo5 hl hP hS k
  case iushr => exact x_step_iushr C hA hok hcn o hs hn hm hc hR1 hR2 hfr hlo hfr5 hlo5 hl hP hS k
  case idiv => exact x_step_idiv C hA hok hcn o hs hn hm hc hR1 hR2 hfr hlo hfr5 hlo5 hl hP hS k
  case irem => exact x_step_irem C hA hok hcn o hs hn hm hc hR1 hR2 hfr hlo hfr5 hlo5 hl hP hS k
  case ladd => exact x_step_ladd C hA hok hcn o hs hn hm hc hR1 hR2 hfr hlo hfr5 hlo5 hl hP hS k
  case lmul => exact x_step_lmul C hA hok hcn o hs hn hm hc hR1 hR2 hfr hlo hfr5 hlo5 hl hP hS k
  case land => exact x_step_land C hA hok hcn o hs hn hm hc hR1 hR2 hfr hlo hfr5 hlo5 hl hP hS k
  case lor => exact x_step_lor C hA hok hcn o hs hn hm hc hR1 hR2 hfr hlo hfr5 hlo5 hl hP hS k
  case ldiv => exact x_step_ldiv C hA hok hcn o hs hn hm hc hR1 hR2 hfr hlo hfr5 hlo5 hl hP hS k
  case lrem => exact x_step_lrem C hA hok hcn o hs hn hm hc hR1 hR2 hfr hlo hfr5 hlo5 hl hP hS k
  case lshl => exact x_step_lshl C hA hok hcn o hs hn hm hc hR1 hR2 hfr hlo hfr5 hlo5 hl hP hS k
  case lcmp => exact x_step_lcmp C hA hok hcn o hs hn hm hc hR1 hR2 hfr hlo hfr5 hlo5 hl hP hS k
  case i2l => exact x_step_i2l C hA hok hcn o hs hn hm hc hR1 hR2 hfr hlo hfr5 hlo5 hl hP hS k
  case i2b => exact x_step_i2b C hA hok hcn o hs hn hm hc hR1 hR2 hfr hlo hfr5 hlo5 hl hP hS k
  case i2s => exact x_step_i2s C hA hok hcn o hs hn hm hc hR1 hR2 hfr hlo hfr5 hlo5 hl hP hS k
  case l2i => exact x_step_l2i C hA hok hcn o hs hn hm hc hR1 hR2 hfr hlo hfr5 hlo5 hl hP hS k
  case dup => exact x_step_dup C hA hok hcn o hs hn hm hc hR1 hR2 hfr hlo hfr5 hlo5 hl hP hS k
  case dup2 => exact x_step_dup2 C hA hok hcn o hs hn hm hc hR1 hR2 hfr hlo hfr5 hlo5 hl hP hS k
  case pop => exact x_step_pop C hA hok hcn o hs hn hm hc hR1 hR2 hfr hlo hfr5 hlo5 hl hP hS k
  case ifCond => exact x_step_if1 C hA hok hcn o hs hn hm hc hR1 hR2 hfr hlo hfr5 hlo5 hl hP hS k
  case if_icmp => exact x_step_if2 C hA hok hcn o hs hn hm hc hR1 hR2 hfr hlo hfr5 hlo5 hl hP hS k
  case goto => exact x_step_goto C hA hok hcn o hs hn hm hc hR1 hR2 hfr hlo hfr5 hlo5 hl hP hS k
  case tableswitch => exact x_step_tsw C hA hok hcn o hs hn hm hc hR1 hR2 hfr hlo hfr5 hlo5 hl hP hS k
  case lookupswitch => exact x_step_lsw C hA hok hcn o hs hn hm hc hR1 hR2 hfr hlo hfr5 hlo5 hl hP hS k
  case getfield => exact x_step_getfield C hA hok hcn o hs hn hm hc hR1 hR2 hfr hlo hfr5 hlo5 hl hP hS k
  case putfield => exact x_step_putfield C hA hok hcn o hs hn hm hc hR1 hR2 hfr hlo hfr5 hlo5 hl hP hS k
  case iaload => exact x_step_iaload C hA hok hcn o hs hn hm hc hR1 hR2 hfr hlo hfr5 hlo5 hl hP hS k
  case baload => exact x_step_baload C hA hok hcn o hs hn hm hc hR1 hR2 hfr hlo hfr5 hlo5 hl hP hS k
  case laload => exact x_step_laload C hA hok hcn o hs hn hm hc hR1 hR2 hfr hlo hfr5 hlo5 hl hP hS k
  case aaload => exact x_step_aaload C hA hok hcn o hs hn hm hc hR1 hR2 hfr hlo hfr5 hlo5 hl hP hS k
  case iastore => exact x_step_iastore C hA hok hcn o hs hn hm hc hR1 hR2 hfr hlo hfr5 hlo5 hl hP hS k
  case bastore => exact x_step_bastore C hA hok hcn o hs hn hm hc hR1 hR2 hfr hlo hfr5 hlo5 hl hP hS k
  case lastore => exact x_step_lastore C hA hok hcn o hs hn hm hc hR1 hR2 hfr hlo hfr5 hlo5 hl hP hS k
  case aastore => exact x_step_aastore C hA hok hcn o hs hn hm hc hR1 hR2 hfr hlo hfr5 hlo5 hl hP hS k
  case arraylength => exact x_step_alen C hA hok hcn o hs hn hm hc hR1 hR2 hfr hlo hfr5 hlo5 hl hP hS k
  case anewarray => exact x_step_anew C hA hok hcn o hs hn hm hc hR1 hR2 hfr hlo hfr5 hlo5 hl hP hS k
  case new => exact x_step_new C hA hok hcn o hs hn hm hc hR1 hR2 hfr hlo hfr5 hlo5 hl hP hS k
  case invokespecial => exact x_step_oinit C hA hok hcn o hs hn hm hc hR1 hR2 hfr hlo hfr5 hlo5 hl hP hS k
  case invokevirtual => exact x_step_ivirt C hA hok hcn o hs hn hm hc hR1 hR2 hfr hlo hfr5 hlo5 hl hP hS k
  case invokestatic => exact x_step_istat C hA hok hcn o hs hn hm hc hR1 hR2 hfr hlo hfr5 hlo5 hl hP hS k
  case multianewarray => exact x_step_mna C hA hok hcn o hs hn hm hc hR1 hR2 hfr hlo hfr5 hlo5 hl hP hS k
  case newarray at' =>
    cases at'
    case int => exact x_step_new_int C hA hok hcn o hs hn hm hc hR1 hR2 hfr hlo hfr5 hlo5 hl hP hS k
    case long => exact x_step_new_long C hA hok hcn o hs hn hm hc hR1 hR2 hfr hlo hfr5 hlo5 hl hP hS k
    case boolean => exact x_step_new_boolean C hA hok hcn o hs hn hm hc hR1 hR2 hfr hlo hfr5 hlo5 hl hP hS k
    case byte => exact x_step_new_byte C hA hok hcn o hs hn hm hc hR1 hR2 hfr hlo hfr5 hlo5 hl hP hS k
    all_goals
      simp only [xokE, xokE2, Bool.and_eq_true, decide_eq_true_eq] at hok
      have h9 : (99 : Nat) = a1 := hok.2.1
      have h8 := hok.2.2
      omega
  case ireturn =>
    exfalso
    unfold xstep at hs
    simp only at hs
    split at hs <;> (try split at hs) <;> cases hs
  case lreturn =>
    exfalso
    unfold xstep at hs
    simp only at hs
    split at hs <;> (try split at hs) <;> cases hs
  case areturn =>
    exfalso
    unfold xstep at hs
    simp only at hs
    split at hs <;> (try split at hs) <;> cases hs
  case return_ =>
    exfalso
    unfold xstep at hs
    simp only at hs
    split at hs <;> (try split at hs) <;> cases hs
  all_goals (exact absurd hs (by intro h9; cases h9))
end XSTEP3
