/-! a step, with more locals -/
section XSM
variable {lv lv' : xL} (e : xE) (st : List Value) (h : xH)
theorem xs_ldI (hb : xsb lv lv') (i : Nat) : xsame (xldI e i lv st h) (xldI e i lv' st h) := by
  unfold xldI
  cases hl : lv.lookup i with
  | none => exact xsame_n
  | some v =>
    rw [xsb_look hb hl]
    cases v <;> first | exact xsame_k hb | exact xsame_n
theorem xs_ldL (hb : xsb lv lv') (i : Nat) : xsame (xldL e i lv st h) (xldL e i lv' st h) := by
  unfold xldL
  cases hl : lv.lookup i with
  | none => exact xsame_n
  | some v =>
    rw [xsb_look hb hl]
    cases v <;> first | exact xsame_k hb | exact xsame_n
theorem xs_ldA (hb : xsb lv lv') (i : Nat) : xsame (xldA e i lv st h) (xldA e i lv' st h) := by
  unfold xldA
  cases hl : lv.lookup i with
  | none => exact xsame_n
  | some v =>
    rw [xsb_look hb hl]
    cases v <;> first | exact xsame_k hb | exact xsame_n
theorem xs_inc (hb : xsb lv lv') (i : Nat) (n : Int) : xsame (xinc e i n lv st h) (xinc e i n lv' st h) := by
  unfold xinc
  cases hl : lv.lookup i with
  | none => exact xsame_n
  | some v =>
    rw [xsb_look hb hl]
    cases v <;> first | exact xsame_k (xsb_st1 _ _ hb) | exact xsame_n
theorem xs_stI (hb : xsb lv lv') (i : Nat) : xsame (xstI e i lv st h) (xstI e i lv' st h) := by
  unfold xstI
  split <;> first | exact xsame_k (xsb_st1 _ _ hb) | exact xsame_n
theorem xs_stA (hb : xsb lv lv') (i : Nat) : xsame (xstA e i lv st h) (xstA e i lv' st h) := by
  unfold xstA
  split <;> first | exact xsame_k (xsb_st1 _ _ hb) | exact xsame_n
theorem xs_stL (hb : xsb lv lv') (i : Nat) : xsame (xstL e i lv st h) (xstL e i lv' st h) := by
  unfold xstL
  split <;> first | exact xsame_k (xsb_st2 _ _ hb) | exact xsame_n
end XSM
def xlid (f : xL → Option (xS ⊕ xR)) : Prop := ∀ lv lv', xsb lv lv' → xsame (f lv) (f lv')
theorem xlid_k {pc : Nat} {st : List Value} {h : xH} : xlid (fun lv => some (.inl (pc, lv, st, h))) := fun _ _ hb => xsame_k hb
theorem xlid_n : xlid (fun _ => none) := fun _ _ _ => xsame_n
theorem xlid_r {r : xR} : xlid (fun _ => some (.inr r)) := fun _ _ _ => xsame_r
theorem xlid_if {c : Prop} [Decidable c] {f g : xL → Option (xS ⊕ xR)} (hf : xlid f) (hg : xlid g) : xlid (fun lv => if c then f lv else g lv) := by
  intro lv lv' hb
  by_cases h : c
  · simp only [if_pos h]; exact hf lv lv' hb
  · simp only [if_neg h]; exact hg lv lv' hb
theorem xlid_map {α : Type} {q : Option α} {f : α → Nat} {g : α → List Value} {h : xH} : xlid (fun lv => q.map (fun t => .inl (f t, lv, g t, h))) := fun _ _ hb => xsame_map hb q f g h
theorem xs_xb2 (e : xE) (f : Int32 → Int32 → Int32) (st : List Value) (h : xH) : xlid (fun lv => xb2 e f lv st h) := by
  intro lv lv' hb
  show xsame (xb2 e f lv st h) (xb2 e f lv' st h)
  unfold xb2
  repeat' (first | exact xsame_n | exact xsame_r | exact xsame_k hb | exact xsame_map hb _ _ _ _ | split)
theorem xs_xb2z (e : xE) (f : Int32 → Int32 → Int32) (st : List Value) (h : xH) : xlid (fun lv => xb2z e f lv st h) := by
  intro lv lv' hb
  show xsame (xb2z e f lv st h) (xb2z e f lv' st h)
  unfold xb2z
  repeat' (first | exact xsame_n | exact xsame_r | exact xsame_k hb | exact xsame_map hb _ _ _ _ | split)
theorem xs_xl2 (e : xE) (f : Int64 → Int64 → Int64) (st : List Value) (h : xH) : xlid (fun lv => xl2 e f lv st h) := by
  intro lv lv' hb
  show xsame (xl2 e f lv st h) (xl2 e f lv' st h)
  unfold xl2
  repeat' (first | exact xsame_n | exact xsame_r | exact xsame_k hb | exact xsame_map hb _ _ _ _ | split)
theorem xs_xl2z (e : xE) (f : Int64 → Int64 → Int64) (st : List Value) (h : xH) : xlid (fun lv => xl2z e f lv st h) := by
  intro lv lv' hb
  show xsame (xl2z e f lv st h) (xl2z e f lv' st h)
  unfold xl2z
  repeat' (first | exact xsame_n | exact xsame_r | exact xsame_k hb | exact xsame_map hb _ _ _ _ | split)
theorem xs_xlsh (e : xE) (st : List Value) (h : xH) : xlid (fun lv => xlsh e lv st h) := by
  intro lv lv' hb
  show xsame (xlsh e lv st h) (xlsh e lv' st h)
  unfold xlsh
  repeat' (first | exact xsame_n | exact xsame_r | exact xsame_k hb | exact xsame_map hb _ _ _ _ | split)
theorem xs_xlcmp (e : xE) (st : List Value) (h : xH) : xlid (fun lv => xlcmp e lv st h) := by
  intro lv lv' hb
  show xsame (xlcmp e lv st h) (xlcmp e lv' st h)
  unfold xlcmp
  repeat' (first | exact xsame_n | exact xsame_r | exact xsame_k hb | exact xsame_map hb _ _ _ _ | split)
theorem xs_xi1 (e : xE) (f : Int32 → Value) (st : List Value) (h : xH) : xlid (fun lv => xi1 e f lv st h) := by
  intro lv lv' hb
  show xsame (xi1 e f lv st h) (xi1 e f lv' st h)
  unfold xi1
  repeat' (first | exact xsame_n | exact xsame_r | exact xsame_k hb | exact xsame_map hb _ _ _ _ | split)
theorem xs_xl2i (e : xE) (st : List Value) (h : xH) : xlid (fun lv => xl2i e lv st h) := by
  intro lv lv' hb
  show xsame (xl2i e lv st h) (xl2i e lv' st h)
  unfold xl2i
  repeat' (first | exact xsame_n | exact xsame_r | exact xsame_k hb | exact xsame_map hb _ _ _ _ | split)
theorem xs_xdup (e : xE) (st : List Value) (h : xH) : xlid (fun lv => xdup e lv st h) := by
  intro lv lv' hb
  show xsame (xdup e lv st h) (xdup e lv' st h)
  unfold xdup
  repeat' (first | exact xsame_n | exact xsame_r | exact xsame_k hb | exact xsame_map hb _ _ _ _ | split)
theorem xs_xdup2 (e : xE) (st : List Value) (h : xH) : xlid (fun lv => xdup2 e lv st h) := by
  intro lv lv' hb
  show xsame (xdup2 e lv st h) (xdup2 e lv' st h)
  unfold xdup2
  repeat' (first | exact xsame_n | exact xsame_r | exact xsame_k hb | exact xsame_map hb _ _ _ _ | split)
theorem xs_xpop (e : xE) (st : List Value) (h : xH) : xlid (fun lv => xpop e lv st h) := by
  intro lv lv' hb
  show xsame (xpop e lv st h) (xpop e lv' st h)
  unfold xpop
  repeat' (first | exact xsame_n | exact xsame_r | exact xsame_k hb | exact xsame_map hb _ _ _ _ | split)
theorem xs_xif1 (e : xE) (c : Jvm.ClassFile.Cond) (st : List Value) (h : xH) : xlid (fun lv => xif1 e c lv st h) := by
  intro lv lv' hb
  show xsame (xif1 e c lv st h) (xif1 e c lv' st h)
  unfold xif1
  repeat' (first | exact xsame_n | exact xsame_r | exact xsame_k hb | exact xsame_map hb _ _ _ _ | split)
theorem xs_xif2 (e : xE) (c : Jvm.ClassFile.Cond) (st : List Value) (h : xH) : xlid (fun lv => xif2 e c lv st h) := by
  intro lv lv' hb
  show xsame (xif2 e c lv st h) (xif2 e c lv' st h)
  unfold xif2
  repeat' (first | exact xsame_n | exact xsame_r | exact xsame_k hb | exact xsame_map hb _ _ _ _ | split)
theorem xs_xswi (e : xE) (pc : Nat) (st : List Value) (h : xH) : xlid (fun lv => xswi e pc lv st h) := by
  intro lv lv' hb
  show xsame (xswi e pc lv st h) (xswi e pc lv' st h)
  unfold xswi
  repeat' (first | exact xsame_n | exact xsame_r | exact xsame_k hb | exact xsame_map hb _ _ _ _ | split)
theorem xs_xldc (e : xE) (st : List Value) (h : xH) : xlid (fun lv => xldc e lv st h) := by
  intro lv lv' hb
  show xsame (xldc e lv st h) (xldc e lv' st h)
  unfold xldc
  repeat' (first | exact xsame_n | exact xsame_r | exact xsame_k hb | exact xsame_map hb _ _ _ _ | split)
theorem xs_xget (e : xE) (st : List Value) (h : xH) : xlid (fun lv => xget e lv st h) := by
  intro lv lv' hb
  show xsame (xget e lv st h) (xget e lv' st h)
  unfold xget
  repeat' (first | exact xsame_n | exact xsame_r | exact xsame_k hb | exact xsame_map hb _ _ _ _ | split)
theorem xs_xsetf (e : xE) (st : List Value) (h : xH) : xlid (fun lv => xsetf e lv st h) := by
  intro lv lv' hb
  show xsame (xsetf e lv st h) (xsetf e lv' st h)
  unfold xsetf
  repeat' (first | exact xsame_n | exact xsame_r | exact xsame_k hb | exact xsame_map hb _ _ _ _ | split)
theorem xs_xiald (e : xE) (st : List Value) (h : xH) : xlid (fun lv => xiald e lv st h) := by
  intro lv lv' hb
  show xsame (xiald e lv st h) (xiald e lv' st h)
  unfold xiald
  repeat' (first | exact xsame_n | exact xsame_r | exact xsame_k hb | exact xsame_map hb _ _ _ _ | split)
theorem xs_xbald (e : xE) (st : List Value) (h : xH) : xlid (fun lv => xbald e lv st h) := by
  intro lv lv' hb
  show xsame (xbald e lv st h) (xbald e lv' st h)
  unfold xbald
  repeat' (first | exact xsame_n | exact xsame_r | exact xsame_k hb | exact xsame_map hb _ _ _ _ | split)
theorem xs_xlald (e : xE) (st : List Value) (h : xH) : xlid (fun lv => xlald e lv st h) := by
  intro lv lv' hb
  show xsame (xlald e lv st h) (xlald e lv' st h)
  unfold xlald
  repeat' (first | exact xsame_n | exact xsame_r | exact xsame_k hb | exact xsame_map hb _ _ _ _ | split)
theorem xs_xaald (e : xE) (st : List Value) (h : xH) : xlid (fun lv => xaald e lv st h) := by
  intro lv lv' hb
  show xsame (xaald e lv st h) (xaald e lv' st h)
  unfold xaald
  repeat' (first | exact xsame_n | exact xsame_r | exact xsame_k hb | exact xsame_map hb _ _ _ _ | split)
theorem xs_xiast (e : xE) (st : List Value) (h : xH) : xlid (fun lv => xiast e lv st h) := by
  intro lv lv' hb
  show xsame (xiast e lv st h) (xiast e lv' st h)
  unfold xiast
  repeat' (first | exact xsame_n | exact xsame_r | exact xsame_k hb | exact xsame_map hb _ _ _ _ | split)
theorem xs_xbast (e : xE) (st : List Value) (h : xH) : xlid (fun lv => xbast e lv st h) := by
  intro lv lv' hb
  show xsame (xbast e lv st h) (xbast e lv' st h)
  unfold xbast
  repeat' (first | exact xsame_n | exact xsame_r | exact xsame_k hb | exact xsame_map hb _ _ _ _ | split)
theorem xs_xlast (e : xE) (st : List Value) (h : xH) : xlid (fun lv => xlast e lv st h) := by
  intro lv lv' hb
  show xsame (xlast e lv st h) (xlast e lv' st h)
  unfold xlast
  repeat' (first | exact xsame_n | exact xsame_r | exact xsame_k hb | exact xsame_map hb _ _ _ _ | split)
theorem xs_xaast (e : xE) (st : List Value) (h : xH) : xlid (fun lv => xaast e lv st h) := by
  intro lv lv' hb
  show xsame (xaast e lv st h) (xaast e lv' st h)
  unfold xaast
  repeat' (first | exact xsame_n | exact xsame_r | exact xsame_k hb | exact xsame_map hb _ _ _ _ | split)
theorem xs_xalen (e : xE) (st : List Value) (h : xH) : xlid (fun lv => xalen e lv st h) := by
  intro lv lv' hb
  show xsame (xalen e lv st h) (xalen e lv' st h)
  unfold xalen
  repeat' (first | exact xsame_n | exact xsame_r | exact xsame_k hb | exact xsame_map hb _ _ _ _ | split)
theorem xs_xnar (e : xE) (st : List Value) (h : xH) : xlid (fun lv => xnar e lv st h) := by
  intro lv lv' hb
  show xsame (xnar e lv st h) (xnar e lv' st h)
  unfold xnar
  repeat' (first | exact xsame_n | exact xsame_r | exact xsame_k hb | exact xsame_map hb _ _ _ _ | split)
theorem xs_xanar (e : xE) (st : List Value) (h : xH) : xlid (fun lv => xanar e lv st h) := by
  intro lv lv' hb
  show xsame (xanar e lv st h) (xanar e lv' st h)
  unfold xanar
  repeat' (first | exact xsame_n | exact xsame_r | exact xsame_k hb | exact xsame_map hb _ _ _ _ | split)
theorem xs_xmna (e : xE) (st : List Value) (h : xH) : xlid (fun lv => xmna e lv st h) := by
  intro lv lv' hb
  show xsame (xmna e lv st h) (xmna e lv' st h)
  unfold xmna
  repeat' (first | exact xsame_n | exact xsame_r | exact xsame_k hb | exact xsame_map hb _ _ _ _ | split)
theorem xs_xnewo (e : xE) (st : List Value) (h : xH) : xlid (fun lv => xnewo e lv st h) := by
  intro lv lv' hb
  show xsame (xnewo e lv st h) (xnewo e lv' st h)
  unfold xnewo
  repeat' (first | exact xsame_n | exact xsame_r | exact xsame_k hb | exact xsame_map hb _ _ _ _ | split)
theorem xs_xoinit (e : xE) (st : List Value) (h : xH) : xlid (fun lv => xoinit e lv st h) := by
  intro lv lv' hb
  show xsame (xoinit e lv st h) (xoinit e lv' st h)
  unfold xoinit
  repeat' (first | exact xsame_n | exact xsame_r | exact xsame_k hb | exact xsame_map hb _ _ _ _ | split)
theorem xs_xslen (e : xE) (st : List Value) (h : xH) : xlid (fun lv => xslen e lv st h) := by
  intro lv lv' hb
  show xsame (xslen e lv st h) (xslen e lv' st h)
  unfold xslen
  repeat' (first | exact xsame_n | exact xsame_r | exact xsame_k hb | exact xsame_map hb _ _ _ _ | split)
theorem xs_xschr (e : xE) (st : List Value) (h : xH) : xlid (fun lv => xschr e lv st h) := by
  intro lv lv' hb
  show xsame (xschr e lv st h) (xschr e lv' st h)
  unfold xschr
  repeat' (first | exact xsame_n | exact xsame_r | exact xsame_k hb | exact xsame_map hb _ _ _ _ | split)
theorem xs_xcopy (e : xE) (st : List Value) (h : xH) : xlid (fun lv => xcopy e lv st h) := by
  intro lv lv' hb
  show xsame (xcopy e lv st h) (xcopy e lv' st h)
  unfold xcopy
  repeat' (first | exact xsame_n | exact xsame_r | exact xsame_k hb | exact xsame_map hb _ _ _ _ | split)
theorem xs_xmm (e : xE) (f : Int32 → Int32 → Int32) (st : List Value) (h : xH) : xlid (fun lv => xmm e f lv st h) := by
  intro lv lv' hb
  show xsame (xmm e f lv st h) (xmm e f lv' st h)
  unfold xmm
  repeat' (first | exact xsame_n | exact xsame_r | exact xsame_k hb | exact xsame_map hb _ _ _ _ | split)
theorem xstep_same {lv lv' : xL} (hb : xsb lv lv') (e : xE) (pc : Nat) (st : List Value) (h : xH) : xsame (xstep e pc lv st h) (xstep e pc lv' st h) := by
  unfold xstep
  split <;> repeat' (first | exact xsame_n | exact xsame_r | exact xsame_k hb | exact xs_ldI _ _ _ hb _ | exact xs_ldL _ _ _ hb _ | exact xs_ldA _ _ _ hb _ | exact xs_inc _ _ _ hb _ _ | exact xs_stI _ _ _ hb _ | exact xs_stA _ _ _ hb _ | exact xs_stL _ _ _ hb _ | exact xs_xb2 _ _ _ _ lv lv' hb | exact xs_xb2z _ _ _ _ lv lv' hb | exact xs_xl2 _ _ _ _ lv lv' hb | exact xs_xl2z _ _ _ _ lv lv' hb | exact xs_xlsh _ _ _ lv lv' hb | exact xs_xlcmp _ _ _ lv lv' hb | exact xs_xi1 _ _ _ _ lv lv' hb | exact xs_xl2i _ _ _ lv lv' hb | exact xs_xdup _ _ _ lv lv' hb | exact xs_xdup2 _ _ _ lv lv' hb | exact xs_xpop _ _ _ lv lv' hb | exact xs_xif1 _ _ _ _ lv lv' hb | exact xs_xif2 _ _ _ _ lv lv' hb | exact xs_xswi _ _ _ _ lv lv' hb | exact xs_xldc _ _ _ lv lv' hb | exact xs_xget _ _ _ lv lv' hb | exact xs_xsetf _ _ _ lv lv' hb | exact xs_xiald _ _ _ lv lv' hb | exact xs_xbald _ _ _ lv lv' hb | exact xs_xlald _ _ _ lv lv' hb | exact xs_xaald _ _ _ lv lv' hb | exact xs_xiast _ _ _ lv lv' hb | exact xs_xbast _ _ _ lv lv' hb | exact xs_xlast _ _ _ lv lv' hb | exact xs_xaast _ _ _ lv lv' hb | exact xs_xalen _ _ _ lv lv' hb | exact xs_xnar _ _ _ lv lv' hb | exact xs_xanar _ _ _ lv lv' hb | exact xs_xmna _ _ _ lv lv' hb | exact xs_xnewo _ _ _ lv lv' hb | exact xs_xoinit _ _ _ lv lv' hb | exact xs_xslen _ _ _ lv lv' hb | exact xs_xschr _ _ _ lv lv' hb | exact xs_xcopy _ _ _ lv lv' hb | exact xs_xmm _ _ _ _ lv lv' hb | split)
theorem xargs_ge : ∀ (as : List Value) (n i : Nat) (v : Value), (i, v) ∈ lv_args n as → n ≤ i := by
  intro as
  induction as with
  | nil => intro n i v h; simp [lv_args] at h
  | cons a r ih =>
    intro n i v h
    unfold lv_args at h
    rcases List.mem_cons.mp h with h | h
    · cases h; exact Nat.le_refl _
    · have := ih _ i v h
      split at this <;> omega
theorem xargs_lk : ∀ (as : List Value) (n i : Nat) (v : Value), (i, v) ∈ lv_args n as → (lv_args n as).lookup i = some v := by
  intro as
  induction as with
  | nil => intro n i v h; simp [lv_args] at h
  | cons a r ih =>
    intro n i v h
    unfold lv_args at h ⊢
    rcases List.mem_cons.mp h with h | h
    · cases h; rw [List.lookup_cons]; simp
    · have h1 := xargs_ge _ _ i v h
      have h3 : (i == n) = false := by
        simp only [beq_eq_false_iff_ne, ne_eq]
        split at h1 <;> omega
      rw [List.lookup_cons, h3]
      exact ih _ i v h
theorem xargs_nd (as : List Value) (n : Nat) : xnd (lv_args n as) := by
  intro i v w h1 h2
  have a := xargs_lk as n i v h1
  have b := xargs_lk as n i w h2
  rw [a] at b
  exact Option.some.inj b
theorem xEv_weak {d m : Nat} {σ : xS} {r : xR} (k : xEv d m σ r) : ∀ lv', xsb σ.2.1 lv' → xEv d m (σ.1, lv', σ.2.2) r := by
  refine k (fun d m as h r => xPv d m as h r) (fun d m σ r => ∀ lv', xsb σ.2.1 lv' → xEv d m (σ.1, lv', σ.2.2) r) ⟨?_, ?_, ?_, ?_⟩
  · intro d m pc lv st h e σ r hf hs ih lv' hb
    obtain ⟨o', h1, h2⟩ := xstep_same hb e pc st h _ hs
    obtain ⟨pc2, lv2, st2, h3⟩ := σ
    cases o' with
    | inr r => exact h2.elim
    | inl q =>
      obtain ⟨pc', lv3, st3, h4⟩ := q
      obtain ⟨rfl, h5, rfl, rfl⟩ := h2
      exact xEv_step hf h1 (ih lv3 h5)
  · intro d m pc lv st h e r hf hs lv' hb
    obtain ⟨o', h1, h2⟩ := xstep_same hb e pc st h _ hs
    cases o' with
    | inl q => exact h2.elim
    | inr q =>
      obtain rfl : r = q := h2
      exact xEv_ret hf h1
  · intro d m pc lv st h e m' as rest v h' r hf hc hp ih lv' hb
    exact xEv_call hf hc hp (ih lv' hb)
  · intro d m as h r hl ih
    refine xPv_in hl ?_
    exact ih _ ⟨xargs_nd as 0, fun i v hm => xargs_lk as 0 i v hm⟩
theorem kwk {d m pc : Nat} {lv lv' : xL} {st : List Value} {h : xH} {C : xR → Prop} (hb : xsb lv lv') (k : xEk d m (pc, lv, st, h) C) : xEk d m (pc, lv', st, h) C := by
  obtain ⟨r, h1, h2⟩ := k
  exact ⟨r, xEv_weak h1 lv' hb, h2⟩
