/-! NAMES ARE FOUND; what is wanted next -/
section FNM
variable {h : TH} {T : Nat → Nat} {z : Nat} {N : Nat → List Nat} {n : Nat}
theorem fnd_le {l : List Nat} : fnd N n l ≤ n := rn_le (Nat.zero_le _)
theorem fnd_at {l : List Nat} (q : fnd N n l < n) : N (fnd N n l) = l := by
  apply Classical.byContradiction
  intro w
  have hf : (fun j => decide (N j ≠ l)) (fnd N n l) = true := by simp [w]
  have h1 : rn (fun j => decide (N j ≠ l)) n (fnd N n l) = rn (fun j => decide (N j ≠ l)) n (fnd N n l + 1) := rn_step q hf
  have h2 : fnd N n l + 1 ≤ rn (fun j => decide (N j ≠ l)) n (fnd N n l + 1) := rn_ge
  have h3 : ∀ x y, x ≤ y → y ≤ rn (fun j => decide (N j ≠ l)) n x → rn (fun j => decide (N j ≠ l)) n y = rn (fun j => decide (N j ≠ l)) n x := by
    intro x y hxy hy
    induction y with
    | zero => have : x = 0 := by omega
              rw [this]
    | succ y ih =>
      rcases Nat.eq_or_lt_of_le hxy with e | e
      · rw [e]
      · rw [← ih (by omega) (by omega)]
        have hin : (fun j => decide (N j ≠ l)) y = true := rn_all (by omega) (Nat.lt_of_succ_le hy)
        have hyn : y < n := by
          apply Classical.byContradiction
          intro r
          have := rn_stop (f := fun j => decide (N j ≠ l)) (z := n) (p := y) (Or.inl (by omega))
          rw [← ih (by omega) (by omega)] at hy
          omega
        exact (rn_step hyn hin).symm
  have h4 : rn (fun j => decide (N j ≠ l)) n (fnd N n l) = fnd N n l := h3 0 _ (Nat.zero_le _) (Nat.le_refl _)
  omega
theorem S59 {C : Int32 → Prop} {t : Nat} {l : List Nat} (h1 : h.I t 1 = nI n) (hn : n ≤ 12) (hN : ∀ j, j < n → h.J (t + 1) j = lN (cod 32 96 (N j)) ∧ NmOk (N j)) (hl : NmOk l) (k1 : fnd N n l < n → C (nI (fnd N n l))) (k0 : ¬ fnd N n l < n → C (-1)) : W59 t (lN (cod 32 96 l)) h C := by
  unfold W59 B59_2
  refine LFP.up n (fun j s => s = nI j ∧ rn (fun j => decide (N j ≠ l)) n j = fnd N n l) ?_ ?_ (Nat.zero_le _) ⟨rfl, rfl⟩
  · rintro X j st hj ⟨rfl, e⟩ ih
    unfold F59_2
    (try dsimp only)
    rw [h1, if_neg (nI_ge hj (by omega)), ix_n (by omega), (hN j hj).1]
    refine ⟨inb_n (by omega), ?_⟩
    have ok := (hN j hj).2
    by_cases q : N j = l
    · rw [if_neg (fun w => w (lgc_eq.mpr ((cod32_inj ok.1 hl.1 ok.2 hl.2).mpr q)))]
      have : fnd N n l = j := by rw [← e]; exact rn_stop (Or.inr (by simp [q]))
      have kk := k1 (by omega)
      rw [this] at kk; exact kk
    · rw [if_pos (fun w => q ((cod32_inj ok.1 hl.1 ok.2 hl.2).mp (lgc_eq.mp w))), nI_1]
      exact ih _ ⟨rfl, by rw [← e]; exact (rn_step hj (by simp [q])).symm⟩
  · rintro X st ⟨rfl, e⟩
    unfold F59_2
    (try dsimp only)
    rw [h1, if_pos (nI_le (Nat.le_refl _) (by omega))]
    exact k0 (by rw [← e, rn_stop (Or.inl (Nat.le_refl _))]; omega)
theorem S231 {C : Int32 → Prop} {b i : Nat} (c : RT h T z i) (q30 : kd T z i = 30) (hn : n ≤ 12) (hb : b ≤ 48) (hN : ∀ j, j < n → h.J 199 (b + j) = lN (cod 256 0 (N j)) ∧ NmOk (N j)) (k1 : fnd N n (wd T z i) < n → C (nI (fnd N n (wd T z i)))) (k0 : ¬ fnd N n (wd T z i) < n → C (-1)) : W231 (nI b) (nI n) h C := by
  have hl := wd_ok q30
  unfold W231 B231_2
  refine LFP.up n (fun j s => s = nI j ∧ rn (fun j => decide (N j ≠ wd T z i)) n j = fnd N n (wd T z i)) ?_ ?_ (Nat.zero_le _) ⟨rfl, rfl⟩
  · rintro X j st hj ⟨rfl, e⟩ ih
    unfold F231_2
    (try dsimp only)
    rw [if_neg (nI_ge hj (by omega)), nI_add, ix_n (by omega), (hN j hj).1]
    refine ⟨inb_n (by omega), S230 c q30 ?_⟩
    have ok := (hN j hj).2
    by_cases q : N j = wd T z i
    · rw [if_neg (fun w => w (lgc_eq.mpr ((cod256_inj ok hl).mpr q)))]
      have : fnd N n (wd T z i) = j := by rw [← e]; exact rn_stop (Or.inr (by simp [q]))
      have kk := k1 (by omega)
      rw [this] at kk; exact kk
    · rw [if_pos (fun w => q ((cod256_inj ok hl).mp (lgc_eq.mp w))), nI_1]
      exact ih _ ⟨rfl, by rw [← e]; exact (rn_step hj (by simp [q])).symm⟩
  · rintro X st ⟨rfl, e⟩
    unfold F231_2
    (try dsimp only)
    rw [if_pos (nI_le (Nat.le_refl _) (by omega))]
    exact k0 (by rw [← e, rn_stop (Or.inl (Nat.le_refl _))]; omega)
theorem S236 {C : Int32 → TH → Prop} {b i : Nat} (c : RT h T z i) (h18 : h.I 197 18 = 0) (hn : n ≤ 12) (hb : b ≤ 48) (hN : ∀ j, j < n → h.J 199 (b + j) = lN (cod 256 0 (N j)) ∧ NmOk (N j)) (k1 : kd T z i = 30 → fnd N n (wd T z i) < n → C (nI (fnd N n (wd T z i))) h) (k3 : kd T z i = 30 → ¬ fnd N n (wd T z i) < n → ∀ g, Sm (fun a => a = 197) h g → (∀ j, j ≠ 17 → j ≠ 18 → g.I 197 j = h.I 197 j) → RFt g (fl T z i 3) → C (-1) g) (k2 : kd T z i ≠ 30 → ∀ g, Sm (fun a => a = 197) h g → (∀ j, j ≠ 17 → j ≠ 18 → g.I 197 j = h.I 197 j) → RFt g (fl T z i 2) → C (-1) g) : W236 (nI b) (nI n) h C := by
  unfold W236
  refine S229 c (fun q => ?_) (fun q => ?_)
  · rw [if_pos (by decide)]
    refine S231 c q hn hb hN (fun w => ?_) (fun w => ?_)
    · rw [if_pos (nI_ne1 (by omega))]; exact k1 q w
    · rw [if_neg (fun e => e rfl)]
      exact S224 (f := 3) c h18 (fun g s f p => k3 q w g s f p)
  · rw [if_neg (by decide)]
    exact S224 (f := 2) c h18 (fun g s f p => k2 q g s f p)
theorem S226 {C : Int32 → TH → Prop} {i : Nat} (c : RT h T z i) (h18 : h.I 197 18 = 0) (k1 : kd T z i = 33 → ∀ g, Sm (fun b => b = 197) h g → (∀ j, j < 12 ∨ 15 < j → g.I 197 j = h.I 197 j) → RT g T z (i + 1) → C 1 g) (k0 : kd T z i ≠ 33 → ∀ g, Sm (fun a => a = 197) h g → (∀ j, j ≠ 17 → j ≠ 18 → g.I 197 j = h.I 197 j) → RFt g (fl T z i 2) → C 0 g) : W226 59 h C := by
  have c' := c
  obtain ⟨cx, e13, e14, e12, e32, e33⟩ := c
  have hall := kda_all (T := T) (z := z) (tf T z i)
  have eK : kda T z (tf T z i) = kd T z i := rfl
  rw [eK] at hall e12 e33
  unfold W226 W222
  rw [e12]
  by_cases q : kd T z i = 33
  · rw [if_neg (fun n => n (by rw [q]; rfl)), e33 q, if_neg (fun n => n rfl)]
    show if ¬ (1 : Int32) = 0 then _ else _
    rw [if_pos (by decide)]
    exact S221n c' (fun g s f r => k1 q g s f r)
  · rw [if_pos (show ¬ nI (rkk (kd T z i)) = 4 by
      rcases hall with w | w | w | w | w | w | w
      · rw [show rkk (kd T z i) = 2 by unfold rkk; rw [if_neg (by omega), if_neg (by omega), if_neg (by omega), if_neg (by omega)]]; decide
      · rw [w]; decide
      · rw [w]; decide
      · rw [w]; decide
      · omega
      · rw [w]; decide
      · rw [w]; decide)]
    show if ¬ (0 : Int32) = 0 then _ else _
    rw [if_neg (fun n => n rfl)]
    exact S224 (f := 2) c' h18 (fun g s f p => ⟨Or.inl rfl, k0 q g s f p⟩)
theorem S227 {C : Int32 → TH → Prop} {i w : Nat} (c : RT h T z i) (h18 : h.I 197 18 = 0) (hw : w < 23) (k1 : kd T z i = w → ∀ g, Sm (fun b => b = 197) h g → (∀ j, j < 12 ∨ 15 < j → g.I 197 j = h.I 197 j) → RT g T z (i + 1) → C 1 g) (k0 : kd T z i ≠ w → ∀ g, Sm (fun a => a = 197) h g → (∀ j, j ≠ 17 → j ≠ 18 → g.I 197 j = h.I 197 j) → RFt g (fl T z i 2) → C 0 g) : W227 (nI w) h C := by
  unfold W227
  refine S223 c (fun q => ?_) (fun q => ?_)
  · by_cases e : kd T z i = w
    · rw [if_pos (by rw [e])]
      exact S221n c (fun g s f r => k1 e g s f r)
    · rw [if_neg (fun u => e ((nI_eq (by omega) (by omega)).mp u))]
      exact S224 (f := 2) c h18 (fun g s f p => ⟨Or.inl rfl, k0 e g s f p⟩)
  · rw [if_neg (fun u => absurd u.symm (nI_ne1 (by omega)))]
    exact S224 (f := 2) c h18 (fun g s f p => ⟨Or.inl rfl, k0 (by omega) g s f p⟩)
theorem RT_12 {i : Nat} (c : RT h T z i) : (h.I 197 12 = 3 ↔ kd T z i = 32) ∧ (h.I 197 12 = 0 ↔ kd T z i = 34) := by
  obtain ⟨cx, e13, e14, e12, e32, e33⟩ := c
  have hall := kda_all (T := T) (z := z) (tf T z i)
  have eK : kda T z (tf T z i) = kd T z i := rfl
  rw [eK] at hall e12
  rw [e12]
  rcases hall with w | w | w | w | w | w | w
  · rw [show rkk (kd T z i) = 2 by unfold rkk; rw [if_neg (by omega), if_neg (by omega), if_neg (by omega), if_neg (by omega)]]
    refine ⟨⟨fun e => absurd e (by decide), fun e => by omega⟩, ⟨fun e => absurd e (by decide), fun e => by omega⟩⟩
  all_goals (rw [w]; decide)
theorem S228 {C : Int32 → TH → Prop} {i p lo hi : Nat} (c : RT h T z i) (h18 : h.I 197 18 = 0) (hp : p < 2200) (hlo : lo < 10000) (hhi : hi < 10000) (k1 : kd T z i = 32 → lo ≤ nv T z i → nv T z i ≤ hi → ∀ g, Sm (fun b => b = 197 ∨ b = 198) h g → g.I 198 = (h.sI 198 p (nI (nv T z i))).I 198 → (∀ j, j < 12 ∨ 15 < j → g.I 197 j = h.I 197 j) → RT g T z (i + 1) → C 1 g) (k4 : kd T z i = 32 → ¬ (lo ≤ nv T z i ∧ nv T z i ≤ hi) → ∀ g, Sm (fun a => a = 197) h g → (∀ j, j ≠ 17 → j ≠ 18 → g.I 197 j = h.I 197 j) → RFt g (fl T z i 4) → C 0 g) (k2 : kd T z i ≠ 32 → ∀ g, Sm (fun a => a = 197) h g → (∀ j, j ≠ 17 → j ≠ 18 → g.I 197 j = h.I 197 j) → RFt g (fl T z i 2) → C 0 g) : W228 (nI p) (nI lo) (nI hi) h C := by
  unfold W228
  by_cases q : kd T z i = 32
  · have hv := nv_lt q
    have e15 : h.I 197 15 = nI (nv T z i) := c.2.2.2.2.1 q
    rw [if_pos ((RT_12 c).1.mpr q), e15]
    by_cases w : nv T z i < lo
    · rw [if_pos (nI_lt w (by omega))]
      exact S224 (f := 4) c h18 (fun g s f r => ⟨Or.inl rfl, k4 q (by omega) g s f r⟩)
    · rw [if_neg (nI_nlt (by omega) (by omega))]
      by_cases w2 : nv T z i ≤ hi
      · rw [if_pos (nI_le w2 (by omega)), ix_n (by omega)]
        refine ⟨inb_n hp, ?_⟩
        refine S221n (c.frame (fun j _ _ => I_ne (by decide)) (by funext j; rw [I_ne (by decide)]) (I_ne (by decide))) (fun g s f r => k1 q (by omega) w2 g ((Sm.sI (S := fun b => b = 197 ∨ b = 198) Sm.refl (Or.inr rfl) _).trans (s.mono (fun b hb => Or.inl hb))) (s.I (by decide)) (fun j hj => by rw [f j hj, I_ne (by decide)]) r)
      · rw [if_neg (nI_ge (by omega) (by omega))]
        exact S224 (f := 4) c h18 (fun g s f r => ⟨Or.inl rfl, k4 q (by omega) g s f r⟩)
  · rw [if_neg (fun e => q ((RT_12 c).1.mp e))]
    exact S224 (f := 2) c h18 (fun g s f r => ⟨Or.inl rfl, k2 q g s f r⟩)
end FNM
