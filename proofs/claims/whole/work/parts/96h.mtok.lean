/-! THE REFERENCE'S TOKENS -/
def RTx (h : TH) (T : Nat → Nat) (z : Nat) : Prop := h.I 197 11 = nI z ∧ (z ≤ 900 ∧ h.I 197 17 = -1) ∧ (∀ k, k < z → (h.I 204 k) &&& 255 = nI (T k)) ∧ ∀ k, k < z → T k < 256
def rkk (k : Nat) : Nat := if k = 34 then 0 else if k = 35 then 1 else if k = 32 then 3 else if k = 33 then 4 else 2
def RTa (g : TH) (T : Nat → Nat) (z a : Nat) : Prop := g.I 197 13 = nI a ∧ g.I 197 14 = nI (ena T z a) ∧ g.I 197 12 = nI (rkk (kda T z a)) ∧ (kda T z a = 32 → g.I 197 15 = nI (cod 10 48 (wo T a (ena T z a)))) ∧ (kda T z a = 33 → g.I 197 15 = 59)
def RT (h : TH) (T : Nat → Nat) (z i : Nat) : Prop := RTx h T z ∧ RTa h T z (tf T z i)
section RTK
variable {h : TH} {T : Nat → Nat} {z : Nat}
theorem RTx.frame {g : TH} (c : RTx h T z) (e1 : g.I 197 11 = h.I 197 11) (e2 : g.I 204 = h.I 204) (e17 : g.I 197 17 = h.I 197 17) : RTx g T z :=
  ⟨by rw [e1]; exact c.1, ⟨c.2.1.1, by rw [e17]; exact c.2.1.2⟩, fun k hk => by rw [e2]; exact c.2.2.1 k hk, c.2.2.2⟩
theorem S218 {C : Int32 → Prop} {x : Nat} (c : RTx h T z) (hx : x < 2 ^ 31) (k1 : x < z → C (nI (T x))) (k0 : z ≤ x → C (-1)) : W218 (nI x) h C := by
  have hz := c.2.1.1
  unfold W218
  rw [c.1]
  by_cases q : z ≤ x
  · rw [if_pos (nI_le q hx)]; exact k0 q
  · rw [if_neg (nI_ge (by omega) (by omega)), ix_n hx, c.2.2.1 x (by omega)]
    exact ⟨inb_n (by omega), k1 (by omega)⟩
theorem S219 {C : Int32 → Prop} {c : Nat} (hc : c < 256) (k1 : smc c = true → C 1) (k0 : smc c = false → C 0) : W219 (nI c) h C := by
  have := S129 (h := h) (C := C) hc k1 k0
  unfold W129 at this; unfold W219; exact this
theorem S220 {C : Int32 → Prop} {c : Nat} (hc : c < 256) (k1 : dgc c = true → C 1) (k0 : dgc c = false → C 0) : W220 (nI c) h C := by
  have := S130 (h := h) (C := C) hc k1 k0
  unfold W130 at this; unfold W220; exact this
theorem S218w {C : Int32 → Prop} {x : Nat} (c : RTx h T z) (hx : x < 2 ^ 31) (k1 : x < z → smc (T x) = true → C 1) (k0 : (z ≤ x ∨ smc (T x) = false) → C 0) : W218 (nI x) h (fun v => W219 v h C) :=
  S218 c hx (fun q => S219 (c.2.2.2 x q) (fun w => k1 q w) (fun w => k0 (Or.inr w))) (fun q => by unfold W219; rw [if_pos (by decide)]; exact k0 (Or.inl q))
theorem S218d {C : Int32 → Prop} {x : Nat} (c : RTx h T z) (hx : x < 2 ^ 31) (k1 : x < z → dgc (T x) = true → C 1) (k0 : (z ≤ x ∨ dgc (T x) = false) → C 0) : W218 (nI x) h (fun v => W220 v h C) :=
  S218 c hx (fun q => S220 (c.2.2.2 x q) (fun w => k1 q w) (fun w => k0 (Or.inr w))) (fun q => by unfold W220; rw [if_pos (by decide)]; exact k0 (Or.inl q))
theorem S221w {C : TH → Prop} {a : Nat} (c : RTx h T z) (ha : a < z) (hs : smc (T a) = true) (h14 : h.I 197 14 = nI a) (k : ∀ g, Sm (fun b => b = 197) h g → (∀ j, j ≠ 12 → j ≠ 14 → g.I 197 j = h.I 197 j) → g.I 197 14 = nI (ena T z a) → g.I 197 12 = 2 → C g) : B221_81 h C := by
  have hz := c.2.1.1
  unfold B221_81
  have h00 : (fun (m : Nat) (g : TH) => ∃ x : Nat, m = z - x ∧ x ≤ z ∧ Sm (fun b => b = 197) h g ∧ (∀ j, j ≠ 14 → g.I 197 j = h.I 197 j) ∧ g.I 197 14 = nI x ∧ rn (fun k => smc (T k)) z x = rn (fun k => smc (T k)) z a) (z - a) h := ⟨a, rfl, by omega, Sm.refl, fun _ _ => rfl, h14, rfl⟩
  refine LFP.ix (fun (m : Nat) (g : TH) => ∃ x : Nat, m = z - x ∧ x ≤ z ∧ Sm (fun b => b = 197) h g ∧ (∀ j, j ≠ 14 → g.I 197 j = h.I 197 j) ∧ g.I 197 14 = nI x ∧ rn (fun k => smc (T k)) z x = rn (fun k => smc (T k)) z a) ?_ h00
  rintro X m g ⟨x, em, hx, s, f, e14, hf⟩ ih
  unfold F221_81
  (try dsimp only)
  rw [e14]
  refine S218w (c.frame (f 11 (by decide)) (s.I (by decide)) (f 17 (by decide))) (by omega) (fun q w => ?_) (fun q => ?_)
  · rw [if_neg (by decide), nI_1]
    exact ih (z - (x + 1)) _ (by omega) ⟨x + 1, rfl, by omega, Sm.sI (S := fun b => b = 197) s rfl _, fun j hj => by rw [I_nk hj]; exact f j hj, I_eq, by rw [← hf]; exact (rn_step (f := fun k => smc (T k)) q w).symm⟩
  · rw [if_pos rfl]
    refine k _ (Sm.sI (S := fun b => b = 197) s rfl _) (fun j h1 h2 => by rw [I_nk h1]; exact f j h2) ?_ I_eq
    rw [I_nk (by decide), e14, ena_sm ha hs, ← hf]
    exact congrArg nI (rn_stop (f := fun k => smc (T k)) q).symm
theorem S221d {C : TH → Prop} {a : Nat} (c : RTx h T z) (ha : a < z) (hs : dgc (T a) = true) (h13 : h.I 197 13 = nI a) (h14 : h.I 197 14 = nI a) (h15 : h.I 197 15 = 0) (k : ∀ g, Sm (fun b => b = 197) h g → (∀ j, j ≠ 12 → j ≠ 14 → j ≠ 15 → g.I 197 j = h.I 197 j) → g.I 197 14 = nI (ena T z a) → (ena T z a - a ≤ 4 → g.I 197 12 = 3 ∧ g.I 197 15 = nI (cod 10 48 (wo T a (ena T z a)))) → (¬ ena T z a - a ≤ 4 → g.I 197 12 = 1) → C g) : B221_128 h C := by
  have hz := c.2.1.1
  have hsm := sd_no hs
  unfold B221_128
  have h00 : (fun (m : Nat) (g : TH) => ∃ x : Nat, m = z - x ∧ a ≤ x ∧ x ≤ z ∧ Sm (fun b => b = 197) h g ∧ (∀ j, j ≠ 14 → j ≠ 15 → g.I 197 j = h.I 197 j) ∧ g.I 197 14 = nI x ∧ rn (fun k => dgc (T k)) z x = rn (fun k => dgc (T k)) z a ∧ (∀ j, a ≤ j → j < x → dgc (T j) = true) ∧ (x - a ≤ 4 → g.I 197 15 = nI (cod 10 48 (wo T a x)))) (z - a) h := ⟨a, rfl, Nat.le_refl _, by omega, Sm.refl, fun _ _ _ => rfl, h14, rfl, fun j h1 h2 => by omega, fun _ => by rw [wo_nil]; exact h15⟩
  refine LFP.ix (fun (m : Nat) (g : TH) => ∃ x : Nat, m = z - x ∧ a ≤ x ∧ x ≤ z ∧ Sm (fun b => b = 197) h g ∧ (∀ j, j ≠ 14 → j ≠ 15 → g.I 197 j = h.I 197 j) ∧ g.I 197 14 = nI x ∧ rn (fun k => dgc (T k)) z x = rn (fun k => dgc (T k)) z a ∧ (∀ j, a ≤ j → j < x → dgc (T j) = true) ∧ (x - a ≤ 4 → g.I 197 15 = nI (cod 10 48 (wo T a x)))) ?_ h00
  rintro X m g ⟨x, em, hax, hx, s, f, e14, hf, hd, hv⟩ ih
  unfold F221_128
  (try dsimp only)
  have cx : RTx g T z := c.frame (f 11 (by decide) (by decide)) (s.I (by decide)) (f 17 (by decide) (by decide))
  rw [e14, f 13 (by decide) (by decide), h13, pk_sub hax]
  refine S218d cx (by omega) (fun q w => ?_) (fun q => ?_)
  · rw [if_neg (by decide)]
    refine S218 cx (by omega) (fun _ => ?_) (fun q' => absurd q (by omega))
    rw [I_nk (by decide), e14, nI_1]
    refine ih (z - (x + 1)) _ (by omega) ⟨x + 1, rfl, by omega, by omega, Sm.sI (S := fun b => b = 197) (Sm.sI (S := fun b => b = 197) s rfl _) rfl _, fun j h1 h2 => by rw [I_nk h1, I_nk h2]; exact f j h1 h2, I_eq, by rw [← hf]; exact (rn_step (f := fun k => dgc (T k)) q w).symm, fun j h1 h2 => ?_, fun h4 => ?_⟩
    · rcases Nat.lt_or_eq_of_le (Nat.lt_succ_iff.mp h2) with r | r
      · exact hd j h1 r
      · rw [r]; exact w
    · have w' := dgc_iff.mp w
      have hlt := cod_lt (B := 10) (o := 48) (by omega) (wo T a x).length (wo T a x) rfl (fun c hc => by obtain ⟨j, h1, h2, rfl⟩ := wo_mem hc; have := dgc_iff.mp (hd j h1 h2); omega)
      have hle : (10 : Nat) ^ (wo T a x).length ≤ 10 ^ 3 := Nat.pow_le_pow_right (by omega) (by rw [wo_len]; omega)
      rw [I_nk (by decide), I_eq, hv (by omega), show (10 : Int32) = nI 10 from rfl, pk_mul, nI_add, show (48 : Int32) = nI 48 from rfl, pk_sub (by omega), show (100000 : Int32) = nI 100000 from rfl, imin_n (by omega) (by omega), Nat.min_eq_right (by omega), wo_snoc hax, cod_snoc]
      exact congrArg nI (by omega)
  · have e : ena T z a = x := by rw [ena_dg ha hsm hs, ← hf]; exact rn_stop (f := fun k => dgc (T k)) q
    rw [if_pos rfl]
    by_cases r : x - a ≤ 4
    · rw [if_pos (show nI (x - a) ≤ 4 from nI_le (b := 4) r (by omega))]
      refine k _ (Sm.sI (S := fun b => b = 197) s rfl _) (fun j h1 h2 h3 => by rw [I_nk h1]; exact f j h2 h3) (by rw [I_nk (by decide), e14, e]) (fun _ => ⟨I_eq, by rw [I_nk (by decide), e]; exact hv r⟩) (fun r' => absurd r (by rw [e] at r'; exact r'))
    · rw [if_neg (show ¬ nI (x - a) ≤ 4 from nI_ge (a := 4) (by omega) (by omega))]
      exact k _ (Sm.sI (S := fun b => b = 197) s rfl _) (fun j h1 h2 h3 => by rw [I_nk h1]; exact f j h2 h3) (by rw [I_nk (by decide), e14, e]) (fun r' => absurd r' (by rw [e]; exact r)) (fun _ => I_eq)
theorem kda_sm {a : Nat} (ha : a < z) (hs : smc (T a) = true) : rkk (kda T z a) = 2 ∧ kda T z a ≠ 32 ∧ kda T z a ≠ 33 := by
  unfold kda
  rw [if_neg (by omega), if_pos hs]
  have := wix_lt (wo T a (ena T z a))
  split
  · unfold rkk
    rw [if_neg (by omega), if_neg (by omega), if_neg (by omega), if_neg (by omega)]
    omega
  · decide
theorem S221 {C : TH → Prop} {p : Nat} (c : RTx h T z) (hp : p ≤ z) (h14 : h.I 197 14 = nI p) (k : ∀ g, Sm (fun b => b = 197) h g → (∀ j, j ≠ 12 → j ≠ 13 → j ≠ 14 → j ≠ 15 → g.I 197 j = h.I 197 j) → RTa g T z (fr T z p) → C g) : W221 h C := by
  have hz := c.2.1.1
  unfold W221 B221_0
  have h00 : (fun (m : Nat) (g : TH) => ∃ x : Nat, m = z - x ∧ x ≤ z ∧ Sm (fun b => b = 197) h g ∧ (∀ j, j ≠ 14 → g.I 197 j = h.I 197 j) ∧ g.I 197 14 = nI x ∧ fr T z x = fr T z p) (z - p) h := ⟨p, rfl, by omega, Sm.refl, fun _ _ => rfl, h14, rfl⟩
  refine LFP.ix (fun (m : Nat) (g : TH) => ∃ x : Nat, m = z - x ∧ x ≤ z ∧ Sm (fun b => b = 197) h g ∧ (∀ j, j ≠ 14 → g.I 197 j = h.I 197 j) ∧ g.I 197 14 = nI x ∧ fr T z x = fr T z p) ?_ h00
  rintro X m g ⟨x, em, hx, s, f, e14, hf⟩ ih
  unfold F221_0
  (try dsimp only)
  have cx : RTx g T z := c.frame (f 11 (by decide)) (s.I (by decide)) (f 17 (by decide))
  have step : x < z → blc (T x) = true → B221_26 g C X := by
    intro q w
    show X (g.sI 197 14 ((g.I 197 14) + 1))
    rw [e14, nI_1]
    exact ih (z - (x + 1)) _ (by omega) ⟨x + 1, rfl, by omega, Sm.sI (S := fun b => b = 197) s rfl _, fun j hj => by rw [I_nk hj]; exact f j hj, I_eq, by rw [← hf]; exact (rn_step (f := fun k => blc (T k)) q w).symm⟩
  have c1 : RTx (g.sI 197 13 (nI x)) T z := cx.frame (by rw [I_nk (by decide)]) (by funext j; rw [I_ne (by decide)]) (by rw [I_nk (by decide)])
  rw [e14, I_nk (show (14 : Nat) ≠ 13 by decide), e14]
  have e14' : (g.sI 197 13 (nI x)).I 197 14 = nI x := by rw [I_nk (by decide), e14]
  refine S218 cx (by omega) (fun q => ?_) (fun q => ?_)
  · have hT := c.2.2.2 x q
    by_cases w : T x = 32
    · rw [if_pos (show nI (T x) = 32 by rw [w]; rfl)]
      exact step q (by unfold blc; simp [w])
    · rw [if_neg (show ¬ nI (T x) = 32 from fun e => w ((nI_eq (b := 32) (by omega) (by omega)).mp e))]
      refine S218 cx (by omega) (fun _ => ?_) (fun q' => absurd q (by omega))
      by_cases w2 : T x = 10
      · rw [if_neg (fun e => e (show nI (T x) = 10 by rw [w2]; rfl))]
        exact step q (by unfold blc; simp [w2])
      · rw [if_pos (show ¬ nI (T x) = 10 from fun e => w2 ((nI_eq (b := 10) (by omega) (by omega)).mp e))]
        have ef : fr T z p = x := by rw [← hf]; exact rn_stop (Or.inr (by show blc (T x) = false; unfold blc; simp [w, w2]))
        rw [ef] at k
        refine S218 c1 (by omega) (fun _ => ?_) (fun q' => absurd q (by omega))
        rw [if_pos (nI_ne1 (by omega))]
        have s2 : Sm (fun b => b = 197) h ((g.sI 197 13 (nI x)).sI 197 15 (nI (T x))) := Sm.sI (S := fun b => b = 197) (Sm.sI (S := fun b => b = 197) s rfl _) rfl _
        have f2 : ∀ j, j ≠ 13 → j ≠ 14 → j ≠ 15 → ((g.sI 197 13 (nI x)).sI 197 15 (nI (T x))).I 197 j = h.I 197 j := fun j h1 h2 h3 => by rw [I_nk h3, I_nk h1]; exact f j h2
        have b13 : ((g.sI 197 13 (nI x)).sI 197 15 (nI (T x))).I 197 13 = nI x := by rw [I_nk (by decide), I_eq]
        have b14 : ((g.sI 197 13 (nI x)).sI 197 15 (nI (T x))).I 197 14 = nI x := by rw [I_nk (by decide), e14']
        have b15 : ((g.sI 197 13 (nI x)).sI 197 15 (nI (T x))).I 197 15 = nI (T x) := I_eq
        have c2 : RTx ((g.sI 197 13 (nI x)).sI 197 15 (nI (T x))) T z := c1.frame (by rw [I_nk (by decide)]) (by funext j; rw [I_ne (by decide)]) (by rw [I_nk (by decide)])
        generalize (g.sI 197 13 (nI x)).sI 197 15 (nI (T x)) = H at s2 f2 b13 b14 b15 c2 ⊢
        refine S219 hT (fun a1 => ?_) (fun a1 => ?_)
        · rw [if_neg (by decide)]
          refine S221w c2 q a1 b14 (fun g3 s3 f3 n14 n12 => k g3 (s2.trans s3) (fun j h1 h2 h3 h4 => by rw [f3 j h1 h3, f2 j h2 h3 h4]) ⟨by rw [f3 13 (by decide) (by decide)]; exact b13, n14, ?_, ?_, ?_⟩)
          · rw [n12, (kda_sm q a1).1]; rfl
          · intro r; exact absurd r (kda_sm q a1).2.1
          · intro r; exact absurd r (kda_sm q a1).2.2
        · rw [if_pos rfl]
          refine S220 hT (fun a2 => ?_) (fun a2 => ?_)
          · rw [if_neg (by decide)]
            have hk : kda T z x = if ena T z x - x ≤ 4 then 32 else 35 := by
              unfold kda; rw [if_neg (by omega), if_neg (by simp [a1]), if_pos a2]
            refine S221d (c2.frame (by rw [I_nk (by decide)]) (by funext j; rw [I_ne (by decide)]) (by rw [I_nk (by decide)])) q a2 (by rw [I_nk (by decide)]; exact b13) (by rw [I_nk (by decide)]; exact b14) I_eq (fun g3 s3 f3 n14 n4 n5 => k g3 (s2.trans ((Sm.sI (S := fun b => b = 197) Sm.refl rfl _).trans s3)) (fun j h1 h2 h3 h4 => by rw [f3 j h1 h3 h4, I_nk h4, f2 j h2 h3 h4]) ⟨by rw [f3 13 (by decide) (by decide) (by decide), I_nk (by decide)]; exact b13, n14, ?_, ?_, ?_⟩)
            · rw [hk]
              by_cases r : ena T z x - x ≤ 4
              · rw [if_pos r, (n4 r).1]; rfl
              · rw [if_neg r, n5 r]; rfl
            · intro r
              rw [hk] at r
              by_cases r' : ena T z x - x ≤ 4
              · exact (n4 r').2
              · rw [if_neg r'] at r; omega
            · intro r
              rw [hk] at r
              split at r <;> omega
          · rw [if_pos rfl, b14, nI_1]
            by_cases r : T x = 59
            · rw [if_neg (fun n => n (show nI (T x) = 59 by rw [r]; rfl))]
              intro h7 e7
              subst e7
              have hk : kda T z x = 33 := by unfold kda; rw [if_neg (by omega), if_neg (by simp [a1]), if_neg (by simp [a2]), if_pos r]
              refine k _ (Sm.sI (S := fun b => b = 197) (Sm.sI (S := fun b => b = 197) s2 rfl _) rfl _) (fun j h1 h2 h3 h4 => by rw [I_nk h1, I_nk h3, f2 j h2 h3 h4]) ⟨by rw [I_nk (by decide), I_nk (by decide)]; exact b13, by rw [I_nk (by decide), I_eq, ena_one q a1 a2], by rw [I_eq, hk]; rfl, fun w => by omega, fun _ => by rw [I_nk (by decide), I_nk (by decide), b15, r]; rfl⟩
            · rw [if_pos (show ¬ nI (T x) = 59 from fun n => r ((nI_eq (b := 59) (by omega) (by omega)).mp n))]
              intro h7 e7
              subst e7
              have hk : kda T z x = 35 := by unfold kda; rw [if_neg (by omega), if_neg (by simp [a1]), if_neg (by simp [a2]), if_neg r]
              refine k _ (Sm.sI (S := fun b => b = 197) (Sm.sI (S := fun b => b = 197) s2 rfl _) rfl _) (fun j h1 h2 h3 h4 => by rw [I_nk h1, I_nk h3, f2 j h2 h3 h4]) ⟨by rw [I_nk (by decide), I_nk (by decide)]; exact b13, by rw [I_nk (by decide), I_eq, ena_one q a1 a2], by rw [I_eq, hk]; rfl, fun w => by omega, fun w => by omega⟩
  · have ef : fr T z p = x := by rw [← hf]; exact rn_stop (Or.inl q)
    rw [ef] at k
    rw [if_neg (by decide)]
    refine S218 cx (by omega) (fun q' => absurd q (by omega)) (fun _ => ?_)
    rw [if_pos (by decide)]
    refine S218 c1 (by omega) (fun q' => absurd q (by omega)) (fun _ => ?_)
    rw [if_neg (fun n => n rfl)]
    have hk : kda T z x = 34 := kda_34.mpr q
    refine k _ (Sm.sI (S := fun b => b = 197) (Sm.sI (S := fun b => b = 197) (Sm.sI (S := fun b => b = 197) s rfl _) rfl _) rfl _) (fun j h1 h2 h3 h4 => by rw [I_nk h1, I_nk h4, I_nk h2]; exact f j h3) ⟨by rw [I_nk (by decide), I_nk (by decide), I_eq], by rw [I_nk (by decide), I_nk (by decide), e14', ena_end q], by rw [I_eq, hk]; rfl, fun w => by omega, fun w => by omega⟩
end RTK
