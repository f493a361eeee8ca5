/-! THE CLASS CUTS ITS TEXT INTO TOKENS -/
def CTx (h : TH) (T : Nat → Nat) (z : Nat) : Prop := h.I 9 6 = nI z ∧ z ≤ 900 ∧ (∀ k, k < z → h.I 10 k = nI (T k)) ∧ (∀ k, k < z → T k < 256) ∧ ∀ x, x < 23 → h.J 11 x = lN (cod 32 96 (wC x))
section CTK
variable {h : TH} {T : Nat → Nat} {z : Nat}
theorem CTx.frame {g : TH} (c : CTx h T z) (e6 : g.I 9 6 = h.I 9 6) (e10 : g.I 10 = h.I 10) (e11 : g.J 11 = h.J 11) : CTx g T z :=
  ⟨by rw [e6]; exact c.1, c.2.1, fun k hk => by rw [e10]; exact c.2.2.1 k hk, c.2.2.2.1, fun x hx => by rw [e11]; exact c.2.2.2.2 x hx⟩
theorem S127 {C : TH → Prop} {p : Nat} (c : CTx h T z) (hp : p ≤ z) (h7 : h.I 9 7 = nI p) (k : ∀ g, Sm (fun a => a = 9) h g → (∀ j, j ≠ 7 → g.I 9 j = h.I 9 j) → g.I 9 7 = nI (fr T z p) → C g) : W127 h C := by
  have hz := c.2.1
  unfold W127 B127_5
  rw [h7]
  have h00 : (fun (m : Nat) (s : Int32 × TH) => ∃ (x : Nat) (g : TH), s = (nI x, g) ∧ m = z - x ∧ x ≤ z ∧ Sm (fun a => a = 9) h g ∧ (∀ j, j ≠ 7 → g.I 9 j = h.I 9 j) ∧ g.I 9 7 = nI x ∧ fr T z x = fr T z p) (z - p) (nI p, h) := ⟨p, h, rfl, rfl, hp, Sm.refl, fun _ _ => rfl, h7, rfl⟩
  refine LFP.ix (fun (m : Nat) (s : Int32 × TH) => ∃ (x : Nat) (g : TH), s = (nI x, g) ∧ m = z - x ∧ x ≤ z ∧ Sm (fun a => a = 9) h g ∧ (∀ j, j ≠ 7 → g.I 9 j = h.I 9 j) ∧ g.I 9 7 = nI x ∧ fr T z x = fr T z p) ?_ h00
  rintro X m st ⟨x, g, rfl, em, hx, s, f, h7', hf⟩ ih
  unfold F127_5
  (try dsimp only)
  rw [f 6 (by omega), c.1]
  by_cases q : z ≤ x
  · rw [if_pos (nI_le q (by omega))]
    exact k g s f (by rw [h7', ← hf]; exact congrArg nI (rn_stop (Or.inl q)).symm)
  · have hb : g.I 10 x = nI (T x) := by rw [s.I (by decide)]; exact c.2.2.1 x (by omega)
    have hT := c.2.2.2.1 x (by omega)
    rw [if_neg (nI_ge (by omega) (by omega)), ix_n (by omega), hb]
    have step : blc (T x) = true → B127_35 (nI x) g C X := by
      intro w
      show X (nI x + 1, g.sI 9 7 (nI x + 1))
      rw [nI_1]
      refine ih (z - (x + 1)) _ (by omega) ⟨x + 1, _, rfl, rfl, by omega, Sm.sI (S := fun a => a = 9) s rfl _, fun j hj => by rw [I_nk hj]; exact f j hj, I_eq, ?_⟩
      rw [← hf]; exact (rn_step (f := fun k => blc (T k)) (by omega) w).symm
    refine ⟨inb_n (by omega), ?_⟩
    by_cases w : T x = 10
    · rw [if_pos (show nI (T x) = 10 by rw [w]; rfl)]
      exact step (by unfold blc; simp [w])
    · rw [if_neg (show ¬ nI (T x) = 10 from fun e => w ((nI_eq (b := 10) (by omega) (by omega)).mp e))]
      refine ⟨inb_n (by omega), ?_⟩
      by_cases w2 : T x = 32
      · rw [if_neg (fun e => e (show nI (T x) = 32 by rw [w2]; rfl))]
        exact step (by unfold blc; simp [w2])
      · rw [if_pos (show ¬ nI (T x) = 32 from fun e => w2 ((nI_eq (b := 32) (by omega) (by omega)).mp e))]
        exact k g s f (by rw [h7', ← hf]; exact congrArg nI (rn_stop (Or.inr (by show blc (T x) = false; unfold blc; simp [w, w2]))).symm)
theorem S129 {C : Int32 → Prop} {c : Nat} (hc : c < 256) (k1 : smc c = true → C 1) (k0 : smc c = false → C 0) : W129 (nI c) h C := by
  unfold W129
  by_cases q : c < 97
  · rw [if_pos (show nI c < 97 from nI_lt (b := 97) q (by omega))]
    exact k0 (by unfold smc; simp; omega)
  · rw [if_neg (show ¬ nI c < 97 from nI_nlt (b := 97) (by omega) (by omega))]
    by_cases w : 122 < c
    · rw [if_pos (show 122 < nI c from nI_lt (a := 122) w (by omega))]
      exact k0 (by unfold smc; simp; omega)
    · rw [if_neg (show ¬ 122 < nI c from nI_nlt (a := 122) (by omega) (by omega))]
      exact k1 (by unfold smc; simp; omega)
theorem S130 {C : Int32 → Prop} {c : Nat} (hc : c < 256) (k1 : dgc c = true → C 1) (k0 : dgc c = false → C 0) : W130 (nI c) h C := by
  unfold W130
  by_cases q : c < 48
  · rw [if_pos (show nI c < 48 from nI_lt (b := 48) q (by omega))]
    exact k0 (by unfold dgc; simp; omega)
  · rw [if_neg (show ¬ nI c < 48 from nI_nlt (b := 48) (by omega) (by omega))]
    by_cases w : 57 < c
    · rw [if_pos (show 57 < nI c from nI_lt (a := 57) w (by omega))]
      exact k0 (by unfold dgc; simp; omega)
    · rw [if_neg (show ¬ 57 < nI c from nI_nlt (a := 57) (by omega) (by omega))]
      exact k1 (by unfold dgc; simp; omega)
theorem smc_iff {c : Nat} : smc c = true ↔ 97 ≤ c ∧ c ≤ 122 := by unfold smc; simp
theorem dgc_iff {c : Nat} : dgc c = true ↔ 48 ≤ c ∧ c ≤ 57 := by unfold dgc; simp
theorem sd_no {c : Nat} (h : dgc c = true) : smc c = false := by
  have := dgc_iff.mp h
  cases e : smc c with
  | false => rfl
  | true => have := smc_iff.mp e; omega
/-- a WORD's letters -/
theorem wo_sm {a : Nat} (ha : a < z) (q : smc (T a) = true) : ∀ c, c ∈ wo T a (ena T z a) → 97 ≤ c ∧ c ≤ 122 := by
  intro c hc
  obtain ⟨j, h1, h2, rfl⟩ := wo_mem hc
  rw [ena_sm ha q] at h2
  exact smc_iff.mp (rn_all (f := fun k => smc (T k)) h1 h2)
theorem wo_dg {a : Nat} (ha : a < z) (q : dgc (T a) = true) : ∀ c, c ∈ wo T a (ena T z a) → 48 ≤ c ∧ c ≤ 57 := by
  intro c hc
  obtain ⟨j, h1, h2, rfl⟩ := wo_mem hc
  rw [ena_dg ha (sd_no q) q] at h2
  exact dgc_iff.mp (rn_all (f := fun k => dgc (T k)) h1 h2)
theorem cod32_lt {l : List Nat} (h : ∀ c, c ∈ l → 97 ≤ c ∧ c ≤ 122) (h8 : l.length ≤ 8) : cod 32 96 l < 2 ^ 63 := by
  have h1 := cod_lt (B := 32) (o := 96) (by omega) l.length l rfl (fun c hc => by have := h c hc; omega)
  have h2 : (32 : Nat) ^ l.length ≤ 32 ^ 8 := Nat.pow_le_pow_right (by omega) h8
  omega
theorem cod32_inj {l l' : List Nat} (h : ∀ c, c ∈ l → 97 ≤ c ∧ c ≤ 122) (h' : ∀ c, c ∈ l' → 97 ≤ c ∧ c ≤ 122) (h8 : l.length ≤ 8) (h8' : l'.length ≤ 8) : lN (cod 32 96 l) = lN (cod 32 96 l') ↔ l = l' := by
  rw [pk_lEQ (cod32_lt h h8) (cod32_lt h' h8')]
  exact ⟨fun e => cod_inj 8 l l' h8 (fun c hc => by have := h c hc; omega) (fun c hc => by have := h' c hc; omega) e, fun e => by rw [e]⟩
theorem S131f {C : Int32 → TH → Prop} {l : List Nat} (h11 : ∀ x, x < 23 → h.J 11 x = lN (cod 32 96 (wC x))) (hl : ∀ c, c ∈ l → 97 ≤ c ∧ c ≤ 122) (h8 : l.length ≤ 8) (k : C (nI (ck (wix l))) h) : B131_85 (lN (cod 32 96 l)) 0 h C := by
  unfold B131_85
  refine LFP.up 23 (fun j q => q = (nI j, h) ∧ ∀ y, y < j → wC y ≠ l) ?_ ?_ (Nat.zero_le _) ⟨rfl, fun y hy => absurd hy (Nat.not_lt_zero _)⟩
  · rintro X j st hj ⟨rfl, e⟩ ih
    unfold F131_85
    (try dsimp only)
    rw [if_neg (show ¬ (23 : Int32) ≤ nI j from nI_ge (a := j) (b := 23) hj (by omega)), ix_n (by omega), h11 j hj]
    refine ⟨inb_n hj, ?_⟩
    have hw := wC_sm j hj
    by_cases q : wC j = l
    · rw [if_neg (fun w => w (lgc_eq.mpr ((cod32_inj hw.1 hl hw.2 h8).mpr q)))]
      rw [← q, wC_at j hj] at k
      exact k
    · rw [if_pos (fun w => q ((cod32_inj hw.1 hl hw.2 h8).mp (lgc_eq.mp w))), nI_1]
      refine ih _ ⟨rfl, fun y hy => ?_⟩
      rcases Nat.lt_or_eq_of_le (Nat.lt_succ_iff.mp hy) with w | w
      · exact e y w
      · rw [w]; exact q
  · rintro X st ⟨rfl, e⟩
    unfold F131_85
    (try dsimp only)
    rw [if_pos (show (23 : Int32) ≤ nI 23 from by decide +kernel)]
    rw [wix_none (fun y hy w => e (ck y) (wl_C y hy).2 (by rw [(wl_C y hy).1]; exact w))] at k
    exact k
theorem S131 {C : Int32 → TH → Prop} {a i : Nat} (c : CTx h T z) (hi : i ≤ 900) (ha : a < z) (hs : smc (T a) = true) (h7 : h.I 9 7 = nI a) (h13 : h.I 13 i = nI a) (k : ∀ g, Sm (fun b => b = 9 ∨ b = 14) h g → (∀ j, j ≠ 7 → g.I 9 j = h.I 9 j) → g.I 9 7 = nI (ena T z a) → (∀ j, j ≠ i → g.J 14 j = h.J 14 j) → g.J 14 i = lN (cod 32 96 (wo T a (ena T z a))) → C (nI (ck (kda T z a))) g) : W131 (nI i) h C := by
  have hz := c.2.1
  unfold W131 B131_8
  rw [h7]
  have h00 : (fun (m : Nat) (s : Int64 × Int32 × TH) => ∃ (x : Nat) (g : TH), s = (lN (cod 32 96 (wo T a x)), nI x, g) ∧ m = z - x ∧ a ≤ x ∧ x ≤ z ∧ Sm (fun a => a = 9) h g ∧ (∀ j, j ≠ 7 → g.I 9 j = h.I 9 j) ∧ g.I 9 7 = nI x ∧ rn (fun k => smc (T k)) z x = rn (fun k => smc (T k)) z a) (z - a) (0, nI a, h) := ⟨a, h, by rw [wo_nil]; rfl, rfl, Nat.le_refl _, by omega, Sm.refl, fun _ _ => rfl, h7, rfl⟩
  refine LFP.ix (fun (m : Nat) (s : Int64 × Int32 × TH) => ∃ (x : Nat) (g : TH), s = (lN (cod 32 96 (wo T a x)), nI x, g) ∧ m = z - x ∧ a ≤ x ∧ x ≤ z ∧ Sm (fun a => a = 9) h g ∧ (∀ j, j ≠ 7 → g.I 9 j = h.I 9 j) ∧ g.I 9 7 = nI x ∧ rn (fun k => smc (T k)) z x = rn (fun k => smc (T k)) z a) ?_ h00
  rintro X m st ⟨x, g, rfl, em, hax, hx, s, f, h7', hf⟩ ih
  unfold F131_8
  (try dsimp only)
  have ends : ena T z a = x → B131_56 (nI i) (lN (cod 32 96 (wo T a x))) g C := by
    intro e
    have kk := k (g.sJ 14 i (lN (cod 32 96 (wo T a x)))) (Sm.sJ (S := fun b => b = 9 ∨ b = 14) (s.mono (fun b hb => Or.inl hb)) (Or.inr rfl) _) (fun j hj => f j hj) (by rw [e]; exact h7') (fun j hj => by rw [J_at, if_neg hj, s.J (by decide)]) (by rw [J_at, if_pos rfl, e])
    unfold B131_56
    rw [ix_n (by omega), I_sJ, h7', s.I (show ¬ 13 = 9 by decide), h13, pk_sub hax]
    refine ⟨inb_n (by omega), inb_n (by omega), ?_⟩
    have hk : kda T z a = if x - a ≤ 8 then wix (wo T a x) else 31 := by
      unfold kda; rw [if_neg (by omega), if_pos hs, e]
    rw [hk] at kk
    by_cases q : x - a ≤ 8
    · rw [if_pos (show nI (x - a) ≤ 8 from nI_le (b := 8) q (by omega))]
      rw [if_pos q] at kk
      refine S131f (fun y hy => ?_) (by have := wo_sm ha hs; rw [e] at this; exact this) (by rw [wo_len]; exact q) kk
      rw [J_ne (by decide), s.J (by decide)]
      exact c.2.2.2.2 y hy
    · rw [if_neg (show ¬ nI (x - a) ≤ 8 from nI_ge (a := 8) (by omega) (by omega))]
      rw [if_neg q] at kk
      exact kk
  rw [f 6 (by omega), c.1]
  by_cases q : z ≤ x
  · rw [if_pos (nI_le q (by omega))]
    exact ends (by rw [ena_sm ha hs, ← hf]; exact rn_stop (Or.inl q))
  · have hb : g.I 10 x = nI (T x) := by rw [s.I (by decide)]; exact c.2.2.1 x (by omega)
    have hT := c.2.2.2.1 x (by omega)
    rw [if_neg (nI_ge (by omega) (by omega)), ix_n (by omega), hb]
    refine ⟨inb_n (by omega), S129 hT (fun w => ?_) (fun w => ?_)⟩
    · rw [if_neg (by decide)]
      refine ⟨inb_n (by omega), ?_⟩
      have w' := smc_iff.mp w
      unfold W122
      rw [show (97 : Int32) = nI 97 from rfl, pk_sub (by omega), nI_1 (T x - 97), nI_l (by omega), show (32 : Int64) = lN 32 from rfl, lN_mul, lN_add, nI_1 x, show T x - 97 + 1 = T x - 96 by omega, ← cod_snoc, ← wo_snoc hax]
      exact ih (z - (x + 1)) _ (by omega) ⟨x + 1, _, rfl, rfl, by omega, by omega, Sm.sI (S := fun a => a = 9) s rfl _, fun j hj => by rw [I_nk hj]; exact f j hj, I_eq, by rw [← hf]; exact (rn_step (f := fun k => smc (T k)) (by omega) w).symm⟩
    · rw [if_pos rfl]
      exact ends (by rw [ena_sm ha hs, ← hf]; exact rn_stop (Or.inr w))
theorem S132 {C : Int32 → TH → Prop} {a i : Nat} (c : CTx h T z) (hi : i ≤ 900) (ha : a < z) (hs : dgc (T a) = true) (h7 : h.I 9 7 = nI a) (h13 : h.I 13 i = nI a) (k : ∀ g, Sm (fun b => b = 9 ∨ b = 14) h g → (∀ j, j ≠ 7 → g.I 9 j = h.I 9 j) → g.I 9 7 = nI (ena T z a) → (∀ j, j ≠ i → g.J 14 j = h.J 14 j) → g.J 14 i = lN (cod 10 48 (wo T a (ena T z a))) → C (nI (ck (kda T z a))) g) : W132 (nI i) h C := by
  have hz := c.2.1
  unfold W132 B132_8
  rw [h7]
  have h00 : (fun (m : Nat) (s : Int64 × Int32 × TH) => ∃ (x : Nat) (g : TH), s = (lN (cod 10 48 (wo T a x)), nI x, g) ∧ m = z - x ∧ a ≤ x ∧ x ≤ z ∧ Sm (fun a => a = 9) h g ∧ (∀ j, j ≠ 7 → g.I 9 j = h.I 9 j) ∧ g.I 9 7 = nI x ∧ rn (fun k => dgc (T k)) z x = rn (fun k => dgc (T k)) z a) (z - a) (0, nI a, h) := ⟨a, h, by rw [wo_nil]; rfl, rfl, Nat.le_refl _, by omega, Sm.refl, fun _ _ => rfl, h7, rfl⟩
  refine LFP.ix (fun (m : Nat) (s : Int64 × Int32 × TH) => ∃ (x : Nat) (g : TH), s = (lN (cod 10 48 (wo T a x)), nI x, g) ∧ m = z - x ∧ a ≤ x ∧ x ≤ z ∧ Sm (fun a => a = 9) h g ∧ (∀ j, j ≠ 7 → g.I 9 j = h.I 9 j) ∧ g.I 9 7 = nI x ∧ rn (fun k => dgc (T k)) z x = rn (fun k => dgc (T k)) z a) ?_ h00
  rintro X m st ⟨x, g, rfl, em, hax, hx, s, f, h7', hf⟩ ih
  unfold F132_8
  (try dsimp only)
  have hsm : smc (T a) = false := sd_no hs
  have ends : ena T z a = x → B132_62 (nI i) (lN (cod 10 48 (wo T a x))) g C := by
    intro e
    have kk := k (g.sJ 14 i (lN (cod 10 48 (wo T a x)))) (Sm.sJ (S := fun b => b = 9 ∨ b = 14) (s.mono (fun b hb => Or.inl hb)) (Or.inr rfl) _) (fun j hj => f j hj) (by rw [e]; exact h7') (fun j hj => by rw [J_at, if_neg hj, s.J (by decide)]) (by rw [J_at, if_pos rfl, e])
    unfold B132_62
    rw [ix_n (by omega), I_sJ, h7', s.I (show ¬ 13 = 9 by decide), h13, pk_sub hax]
    refine ⟨inb_n (by omega), inb_n (by omega), ?_⟩
    have hk : kda T z a = if x - a ≤ 4 then 32 else 35 := by
      unfold kda; rw [if_neg (by omega), if_neg (by simp [hsm]), if_pos hs, e]
    rw [hk] at kk
    by_cases q : x - a ≤ 4
    · rw [if_pos (show nI (x - a) ≤ 4 from nI_le (b := 4) q (by omega))]
      rw [if_pos q] at kk
      exact kk
    · rw [if_neg (show ¬ nI (x - a) ≤ 4 from nI_ge (a := 4) (by omega) (by omega))]
      rw [if_neg q] at kk
      exact kk
  rw [f 6 (by omega), c.1]
  by_cases q : z ≤ x
  · rw [if_pos (nI_le q (by omega))]
    exact ends (by rw [ena_dg ha hsm hs, ← hf]; exact rn_stop (Or.inl q))
  · have hb : g.I 10 x = nI (T x) := by rw [s.I (by decide)]; exact c.2.2.1 x (by omega)
    have hT := c.2.2.2.1 x (by omega)
    rw [if_neg (nI_ge (by omega) (by omega)), ix_n (by omega), hb]
    refine ⟨inb_n (by omega), S130 hT (fun w => ?_) (fun w => ?_)⟩
    · rw [if_neg (by decide)]
      refine ⟨inb_n (by omega), ?_⟩
      have w' := dgc_iff.mp w
      rw [show (48 : Int32) = nI 48 from rfl, pk_sub (by omega), nI_l (by omega), show (10 : Int64) = lN 10 from rfl, lN_mul, lN_add, nI_1, ← cod_snoc, ← wo_snoc hax]
      exact ih (z - (x + 1)) _ (by omega) ⟨x + 1, _, rfl, rfl, by omega, by omega, Sm.sI (S := fun a => a = 9) s rfl _, fun j hj => by rw [I_nk hj]; exact f j hj, I_eq, by rw [← hf]; exact (rn_step (f := fun k => dgc (T k)) (by omega) w).symm⟩
    · rw [if_pos rfl]
      exact ends (by rw [ena_dg ha hsm hs, ← hf]; exact rn_stop (Or.inr w))
end CTK
