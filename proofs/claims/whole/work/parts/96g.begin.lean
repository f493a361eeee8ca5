/-! THE CLASS'S TOKENS, and its steps over them -/
def CTok (h : TH) (T : Nat → Nat) (z j : Nat) : Prop := h.I 12 j = nI (ck (kd T z j)) ∧ h.I 13 j = nI (tf T z j) ∧ (kd T z j = 30 → h.J 14 j = lN (cod 32 96 (wd T z j))) ∧ (kd T z j = 32 → h.J 14 j = lN (cod 10 48 (wd T z j)))
def CTk (h : TH) (T : Nat → Nat) (z m : Nat) : Prop := m ≤ 900 ∧ kd T z m = 34 ∧ (∀ j, j < m → kd T z j ≠ 34) ∧ ∀ j, j ≤ m → CTok h T z j
def CTT (h : TH) (T : Nat → Nat) (z m i : Nat) : Prop := CTk h T z m ∧ i ≤ m ∧ z ≤ 900 ∧ h.I 9 8 = nI i ∧ h.I 9 9 = nI (ck (kd T z i))
def inTx (a : Nat) : Prop := a = 9 ∨ a = 12 ∨ a = 13 ∨ a = 14
def nv (T : Nat → Nat) (z i : Nat) : Nat := cod 10 48 (wd T z i)
def fl (T : Nat → Nat) (z i f : Nat) : Nat × Nat := (if kd T z i = 35 then 1 else f, tf T z i)
def CFt (h : TH) (p : Nat × Nat) : Prop := h.I 9 10 = nI p.1 ∧ h.I 9 11 = nI p.2
section CTB
variable {h : TH} {T : Nat → Nat} {z : Nat}
theorem S128 {C : Int32 → TH → Prop} {a i : Nat} (c : CTx h T z) (hi : i ≤ 900) (ha : a ≤ z) (h7 : h.I 9 7 = nI a) (h13 : h.I 13 i = nI a) (k : ∀ g, Sm (fun b => b = 9 ∨ b = 14) h g → (∀ j, j ≠ 7 → g.I 9 j = h.I 9 j) → g.I 9 7 = nI (ena T z a) → (∀ j, j ≠ i → g.J 14 j = h.J 14 j) → (kda T z a = 30 → g.J 14 i = lN (cod 32 96 (wo T a (ena T z a)))) → (kda T z a = 32 → g.J 14 i = lN (cod 10 48 (wo T a (ena T z a)))) → C (nI (ck (kda T z a))) g) : W128 (nI i) h C := by
  have hz := c.2.1
  unfold W128
  rw [h7, c.1]
  by_cases q : a < z
  · rw [if_pos (nI_lt q (by omega)), ix_n (by omega), c.2.2.1 a q]
    have hT := c.2.2.2.1 a q
    refine ⟨inb_n (by omega), S129 hT (fun w => ?_) (fun w => ?_)⟩
    · rw [if_neg (by decide)]
      exact S131 c hi q w h7 h13 (fun g s f e7 e14 v => k g s f e7 e14 (fun _ => v) (fun r => by have := kda_32 r; rw [w] at this; exact absurd this.2.1 (by decide)))
    · rw [if_pos rfl]
      refine ⟨inb_n (by omega), S130 hT (fun d => ?_) (fun d => ?_)⟩
      · rw [if_neg (by decide)]
        exact S132 c hi q d h7 h13 (fun g s f e7 e14 v => k g s f e7 e14 (fun r => by have := kda_30 r; rw [w] at this; exact absurd this.2.1 (by decide)) (fun _ => v))
      · rw [if_pos rfl, I_eq, nI_1, nI_pred, ix_n (by omega), I_ne (by decide), c.2.2.1 a q]
        refine ⟨inb_n (by omega), ?_⟩
        have kk := k (h.sI 9 7 (nI (a + 1))) (Sm.sI (S := fun b => b = 9 ∨ b = 14) Sm.refl (Or.inl rfl) _) (fun j hj => I_nk hj) (by rw [I_eq, ena_one q w d]) (fun _ _ => rfl) (fun r => by have := kda_30 r; rw [w] at this; exact absurd this.2.1 (by decide)) (fun r => by have := kda_32 r; rw [d] at this; exact absurd this.2.2.1 (by decide))
        by_cases e : T a = 59
        · rw [if_neg (fun n => n (show nI (T a) = 59 by rw [e]; rfl))]
          have : kda T z a = 33 := by unfold kda; rw [if_neg (by omega), if_neg (by simp [w]), if_neg (by simp [d]), if_pos e]
          rw [this] at kk; exact kk
        · rw [if_pos (show ¬ nI (T a) = 59 from fun n => e ((nI_eq (b := 59) (by omega) (by omega)).mp n))]
          have : kda T z a = 35 := by unfold kda; rw [if_neg (by omega), if_neg (by simp [w]), if_neg (by simp [d]), if_neg e]
          rw [this] at kk; exact kk
  · rw [if_neg (nI_nlt (by omega) (by omega))]
    have : kda T z a = 34 := kda_34.mpr (by omega)
    have kk := k h Sm.refl (fun _ _ => rfl) (by rw [ena_end (by omega)]; exact h7) (fun _ _ => rfl) (fun r => by omega) (fun r => by omega)
    rw [this] at kk; exact kk
theorem ck_34 : ∀ a, a < 36 → nI (ck a) = 34 → a = 34 := by decide +kernel
theorem ck_lt : ∀ a, a < 36 → ck a < 36 := by decide +kernel
theorem ck_inj' : ∀ a, a < 36 → ∀ b, b < 36 → ck a = ck b → a = b := by decide +kernel
theorem kd_lt (i : Nat) : kd T z i < 36 := by
  have := kda_all (T := T) (z := z) (tf T z i)
  unfold kd; omega
theorem ck_eq {i w : Nat} (hw : w < 36) : nI (ck (kd T z i)) = nI (ck w) ↔ kd T z i = w := by
  have h1 := ck_lt _ (kd_lt (T := T) (z := z) i)
  have h2 := ck_lt w hw
  rw [nI_eq (by omega) (by omega)]
  exact ⟨fun e => ck_inj' _ (kd_lt i) _ hw e, fun e => by rw [e]⟩
theorem CTok.frame {g : TH} {j : Nat} (t : CTok h T z j) (e1 : g.I 12 j = h.I 12 j) (e2 : g.I 13 j = h.I 13 j) (e3 : g.J 14 j = h.J 14 j) : CTok g T z j := by
  unfold CTok; rw [e1, e2, e3]; exact t
theorem CTk.frame {g : TH} {m : Nat} (t : CTk h T z m) (e1 : g.I 12 = h.I 12) (e2 : g.I 13 = h.I 13) (e3 : g.J 14 = h.J 14) : CTk g T z m :=
  ⟨t.1, t.2.1, t.2.2.1, fun j hj => (t.2.2.2 j hj).frame (by rw [e1]) (by rw [e2]) (by rw [e3])⟩
theorem S126 {C : TH → Prop} {y : Nat} (hy : y ≤ 900) (hzy : z ≤ y) (h1 : h.I 9 1 = nI y) (hb : ∀ k, k < z → h.I 10 k = nI (T k)) (hT : ∀ k, k < z → T k < 256) (h11 : ∀ x, x < 23 → h.J 11 x = lN (cod 32 96 (wC x))) (k : ∀ g m, Sm inTx h g → CTT g T z m 0 → g.I 9 1 = h.I 9 1 → g.I 9 10 = 0 → g.I 9 11 = -1 → C g) : W126 (nI z) h C := by
  unfold W126 B126_31
  rw [h1, imin_n (by omega) (by omega), Nat.min_eq_left hzy]
  have h00 : (fun (n : Nat) (s : Int32 × Int32 × TH) => ∃ (i : Nat) (x2 : Int32) (g : TH), s = (x2, nI i, g) ∧ Sm inTx h g ∧ g.I 9 1 = h.I 9 1 ∧ g.I 9 10 = 0 ∧ g.I 9 11 = -1 ∧ ((x2 = 1 ∧ n = 902 - i ∧ i ≤ 901 ∧ g.I 9 6 = nI z ∧ g.I 9 7 = nI (tp T z i) ∧ ∀ j, j < i → kd T z j ≠ 34 ∧ CTok g T z j) ∨ (x2 = 0 ∧ n = 0 ∧ i ≤ 902 ∧ ∃ m, CTk g T z m))) 902 (1, 0, (((h.sI 9 6 (nI z)).sI 9 7 0).sI 9 10 0).sI 9 11 (-1)) := by
    refine ⟨0, 1, _, rfl, ?_, ?_, ?_, ?_, Or.inl ⟨rfl, rfl, by omega, ?_, ?_, fun j hj => absurd hj (Nat.not_lt_zero _)⟩⟩
    · exact Sm.sI (S := inTx) (Sm.sI (S := inTx) (Sm.sI (S := inTx) (Sm.sI (S := inTx) Sm.refl (Or.inl rfl) _) (Or.inl rfl) _) (Or.inl rfl) _) (Or.inl rfl) _
    · rw [I_nk (by decide), I_nk (by decide), I_nk (by decide), I_nk (by decide)]
    · rw [I_nk (by decide), I_eq]
    · rw [I_eq]
    · rw [I_nk (by decide), I_nk (by decide), I_nk (by decide), I_eq]
    · rw [I_nk (by decide), I_nk (by decide), I_eq]; rfl
  refine LFP.ix (fun (n : Nat) (s : Int32 × Int32 × TH) => ∃ (i : Nat) (x2 : Int32) (g : TH), s = (x2, nI i, g) ∧ Sm inTx h g ∧ g.I 9 1 = h.I 9 1 ∧ g.I 9 10 = 0 ∧ g.I 9 11 = -1 ∧ ((x2 = 1 ∧ n = 902 - i ∧ i ≤ 901 ∧ g.I 9 6 = nI z ∧ g.I 9 7 = nI (tp T z i) ∧ ∀ j, j < i → kd T z j ≠ 34 ∧ CTok g T z j) ∨ (x2 = 0 ∧ n = 0 ∧ i ≤ 902 ∧ ∃ m, CTk g T z m))) ?_ h00
  rintro X n st ⟨i, x2, g, rfl, s, e1, e10, e11, hc⟩ ih
  unfold F126_31
  (try dsimp only)
  have ends : (∃ m, CTk g T z m) → B126_90 g C := by
    rintro ⟨m, t⟩
    unfold B126_90
    rw [ix_0, I_ne (by decide), (t.2.2.2 0 (by omega)).1]
    refine k _ m (Sm.sI (S := inTx) (Sm.sI (S := inTx) s (Or.inl rfl) _) (Or.inl rfl) _) ⟨t.frame (by funext j; rw [I_ne (by decide), I_ne (by decide)]) (by funext j; rw [I_ne (by decide), I_ne (by decide)]) rfl, Nat.zero_le _, by omega, ?_, I_eq⟩ ?_ ?_ ?_
    · rw [I_nk (by decide), I_eq]; rfl
    · rw [I_nk (by decide), I_nk (by decide)]; exact e1
    · rw [I_nk (by decide), I_nk (by decide)]; exact e10
    · rw [I_nk (by decide), I_nk (by decide)]; exact e11
  rcases hc with ⟨rfl, rfl, hi, e6, e7, ht⟩ | ⟨rfl, rfl, hi, ht⟩
  · have up := tp_up (T := T) (z := z) i (fun j hj => (ht j hj).1)
    have hle := tp_le (T := T) (z := z) i
    rw [if_neg (show ¬ (900 : Int32) < nI i from nI_nlt (a := 900) (by omega) (by omega)), if_neg (by decide)]
    have cx : CTx g T z := ⟨e6, by omega, fun k hk => by rw [s.I (by unfold inTx; decide)]; exact hb k hk, hT, fun x hx => by rw [s.J (by unfold inTx; decide)]; exact h11 x hx⟩
    refine S127 cx hle e7 (fun g1 s1 f1 p1 => ⟨inb_n (by omega), ?_⟩)
    rw [ix_n (by omega), p1]
    have cx1 : CTx (g1.sI 13 i (nI (fr T z (tp T z i)))) T z := cx.frame (by rw [I_ne (by decide)]; exact f1 6 (by decide)) (by funext j; rw [I_ne (by decide), s1.I (by decide)]) (by show g1.J 11 = _; exact s1.J (by decide))
    refine S128 (a := tf T z i) cx1 (by omega) (tf_le i) (by rw [I_ne (by decide)]; exact p1) (by rw [I_eq]; rfl) (fun g2 s2 f2 p2 q2 v30 v32 => ⟨inb_n (by omega), inb_n (by omega), ?_⟩)
    rw [I_eq]
    have sAll : Sm inTx h (g2.sI 12 i (nI (ck (kda T z (tf T z i))))) := Sm.sI (S := inTx) (s.trans ((Sm.sI (S := inTx) (s1.mono (fun a ha => Or.inl ha)) (Or.inr (Or.inr (Or.inl rfl))) _).trans (s2.mono (fun a ha => ha.elim Or.inl (fun w => Or.inr (Or.inr (Or.inr w))))))) (Or.inr (Or.inl rfl)) _
    have fld : ∀ j, j ≠ 7 → (g2.sI 12 i (nI (ck (kda T z (tf T z i))))).I 9 j = g.I 9 j := fun j hj => by rw [I_ne (by decide), f2 j hj, I_ne (by decide), f1 j hj]
    have tok : ∀ j, j < i → CTok (g2.sI 12 i (nI (ck (kda T z (tf T z i))))) T z j := fun j hj => (ht j hj).2.frame (by rw [I_nk (by omega), s2.I (by decide), I_ne (by decide), s1.I (by decide)]) (by rw [I_ne (by decide), s2.I (by decide), I_nk (by omega), s1.I (by decide)]) (by show g2.J 14 j = _; rw [q2 j (by omega)]; show g1.J 14 j = _; rw [s1.J (by decide)])
    have tokI : CTok (g2.sI 12 i (nI (ck (kda T z (tf T z i))))) T z i := ⟨I_eq, by rw [I_ne (by decide), s2.I (by decide), I_eq]; rfl, v30, v32⟩
    have tks : ∀ j, j < i + 1 → CTok (g2.sI 12 i (nI (ck (kda T z (tf T z i))))) T z j := fun j hj => by
      rcases Nat.lt_or_eq_of_le (Nat.lt_succ_iff.mp hj) with w | w
      · exact tok j w
      · rw [w]; exact tokI
    rw [nI_1]
    by_cases q : kd T z i = 34
    · rw [if_pos (show nI (ck (kda T z (tf T z i))) = 34 by have q' : kda T z (tf T z i) = 34 := q; rw [q']; rfl)]
      exact ih 0 _ (by omega) ⟨i + 1, 0, _, rfl, sAll, by rw [fld 1 (by decide)]; exact e1, by rw [fld 10 (by decide)]; exact e10, by rw [fld 11 (by decide)]; exact e11, Or.inr ⟨rfl, rfl, by omega, i, by omega, q, fun j hj => (ht j hj).1, fun j hj => tks j (by omega)⟩⟩
    · rw [if_neg (show ¬ nI (ck (kda T z (tf T z i))) = 34 from fun w => q (ck_34 _ (kd_lt i) w))]
      have h34 : ∀ j, j < i + 1 → kd T z j ≠ 34 := fun j hj => by
        rcases Nat.lt_or_eq_of_le (Nat.lt_succ_iff.mp hj) with w | w
        · exact (ht j w).1
        · rw [w]; exact q
      exact ih (902 - (i + 1)) _ (by omega) ⟨i + 1, 1, _, rfl, sAll, by rw [fld 1 (by decide)]; exact e1, by rw [fld 10 (by decide)]; exact e10, by rw [fld 11 (by decide)]; exact e11, Or.inl ⟨rfl, rfl, by omega, by rw [fld 6 (by decide)]; exact e6, by rw [I_ne (by decide)]; exact p2, fun j hj => ⟨h34 j hj, tks j hj⟩⟩⟩
  · by_cases q : (900 : Int32) < nI i
    · rw [if_pos q]; exact ends ht
    · rw [if_neg q, if_pos rfl]; exact ends ht
/-- one TOKEN on -/
theorem S133 {C : TH → Prop} {m i : Nat} (c : CTT h T z m i) (q : kd T z i ≠ 34) (k : ∀ g, Sm (fun a => a = 9) h g → CTT g T z m (i + 1) → (∀ j, j ≠ 8 → j ≠ 9 → g.I 9 j = h.I 9 j) → C g) : W133 h C := by
  obtain ⟨t, him, hz, h8, h9⟩ := c
  have hm := t.1
  have hlt : i < m := by
    rcases Nat.lt_or_eq_of_le him with w | w
    · exact w
    · rw [w] at q; exact absurd t.2.1 q
  unfold W133
  rw [h9, h8, if_neg (fun w => q (ck_34 _ (kd_lt i) w)), if_neg (show ¬ (900 : Int32) ≤ nI i from nI_ge (b := 900) (by omega) (by omega)), I_eq, nI_1, ix_n (by omega), I_ne (by decide), (t.2.2.2 (i + 1) (by omega)).1]
  refine ⟨inb_n (by omega), k _ (Sm.sI (S := fun a => a = 9) (Sm.sI (S := fun a => a = 9) Sm.refl rfl _) rfl _) ⟨t.frame (by funext j; rw [I_ne (by decide), I_ne (by decide)]) (by funext j; rw [I_ne (by decide), I_ne (by decide)]) rfl, by omega, hz, ?_, I_eq⟩ (fun j h1 h2 => by rw [I_nk h2, I_nk h1])⟩
  rw [I_nk (by decide), I_eq]
theorem S135 {C : Int32 → TH → Prop} {m i f : Nat} (c : CTT h T z m i) (q : kd T z i ≠ 35) (k : ∀ g, Sm (fun a => a = 9) h g → (∀ j, j ≠ 10 → j ≠ 11 → g.I 9 j = h.I 9 j) → CFt g (fl T z i f) → C 0 g) : W135 (nI f) h C := by
  obtain ⟨t, him, hz, h8, h9⟩ := c
  have hm := t.1
  unfold W135
  rw [I_nk (by decide), h8, ix_n (by omega), I_ne (by decide), (t.2.2.2 i him).2.1]
  refine ⟨inb_n (by omega), k _ (Sm.sI (S := fun a => a = 9) (Sm.sI (S := fun a => a = 9) Sm.refl rfl _) rfl _) (fun j h1 h2 => by rw [I_nk h2, I_nk h1]) ⟨?_, ?_⟩⟩
  · rw [I_nk (by decide), I_eq]; unfold fl; rw [if_neg q]
  · rw [I_eq]; rfl
theorem S136 {C : Int32 → TH → Prop} {m i : Nat} (c : CTT h T z m i) (k : ∀ g, Sm (fun a => a = 9) h g → (∀ j, j ≠ 10 → j ≠ 11 → g.I 9 j = h.I 9 j) → CFt g (fl T z i 2) → C 0 g) : W136 h C := by
  have c' := c
  obtain ⟨t, him, hz, h8, h9⟩ := c
  have hm := t.1
  unfold W136
  by_cases q : kd T z i = 35
  · rw [if_neg (fun w => w (by rw [h9, q]; rfl))]
    unfold W135
    rw [I_nk (by decide), h8, ix_n (by omega), I_ne (by decide), (t.2.2.2 i him).2.1]
    refine ⟨inb_n (by omega), Or.inl rfl, k _ (Sm.sI (S := fun a => a = 9) (Sm.sI (S := fun a => a = 9) Sm.refl rfl _) rfl _) (fun j h1 h2 => by rw [I_nk h2, I_nk h1]) ⟨?_, ?_⟩⟩
    · rw [I_nk (by decide), I_eq]; unfold fl; rw [if_pos q]; rfl
    · rw [I_eq]; rfl
  · rw [if_pos (fun w => q ((ck_eq (w := 35) (by omega)).mp (by rw [← h9]; exact w)))]
    exact S135 (f := 2) c' q (fun g s f p => ⟨Or.inl rfl, k g s f p⟩)
theorem S137 {C : Int32 → TH → Prop} {m i w : Nat} (c : CTT h T z m i) (hw : w < 36) (hw4 : w ≠ 34) (k1 : kd T z i = w → ∀ g, Sm (fun a => a = 9) h g → CTT g T z m (i + 1) → (∀ j, j ≠ 8 → j ≠ 9 → g.I 9 j = h.I 9 j) → C 1 g) (k0 : kd T z i ≠ w → ∀ g, Sm (fun a => a = 9) h g → (∀ j, j ≠ 10 → j ≠ 11 → g.I 9 j = h.I 9 j) → CFt g (fl T z i 2) → C 0 g) : W137 (nI (ck w)) h C := by
  unfold W137
  rw [c.2.2.2.2]
  by_cases q : kd T z i = w
  · rw [if_pos ((ck_eq hw).mpr q)]
    exact S133 c (by omega) (fun g s t f => k1 q g s t f)
  · rw [if_neg (fun e => q ((ck_eq hw).mp e))]
    exact S136 c (fun g s f p => ⟨Or.inl rfl, k0 q g s f p⟩)
theorem nv_lt {i : Nat} (q : kd T z i = 32) : nv T z i < 10000 := by
  have h := kda_32 q
  have hd : ∀ c, c ∈ wd T z i → 48 ≤ c ∧ c ≤ 57 := wo_dg h.1 h.2.2.1
  have h1 := cod_lt (B := 10) (o := 48) (by omega) (wd T z i).length (wd T z i) rfl (fun c hc => by have := hd c hc; omega)
  have h2 : (wd T z i).length ≤ 4 := by unfold wd; rw [wo_len]; exact h.2.2.2
  have h3 : (10 : Nat) ^ (wd T z i).length ≤ 10 ^ 4 := Nat.pow_le_pow_right (by omega) h2
  unfold nv; omega
theorem S138 {C : Int32 → TH → Prop} {m i lo hi : Nat} (c : CTT h T z m i) (hlo : lo < 10000) (hhi : hi < 10000) (k1 : kd T z i = 32 → lo ≤ nv T z i → nv T z i ≤ hi → ∀ g, Sm (fun a => a = 9) h g → CTT g T z m (i + 1) → (∀ j, j ≠ 8 → j ≠ 9 → g.I 9 j = h.I 9 j) → C (nI (nv T z i)) g) (k4 : kd T z i = 32 → ¬ (lo ≤ nv T z i ∧ nv T z i ≤ hi) → ∀ g, Sm (fun a => a = 9) h g → (∀ j, j ≠ 10 → j ≠ 11 → g.I 9 j = h.I 9 j) → CFt g (fl T z i 4) → C (-1) g) (k2 : kd T z i ≠ 32 → ∀ g, Sm (fun a => a = 9) h g → (∀ j, j ≠ 10 → j ≠ 11 → g.I 9 j = h.I 9 j) → CFt g (fl T z i 2) → C (-1) g) : W138 (nI lo) (nI hi) h C := by
  have c' := c
  obtain ⟨t, him, hz, h8, h9⟩ := c
  have hm := t.1
  unfold W138
  rw [h9]
  by_cases q : kd T z i = 32
  · have hv := nv_lt q
    have e14 : h.J 14 i = lN (nv T z i) := (t.2.2.2 i him).2.2.2 q
    rw [if_pos (show nI (ck (kd T z i)) = 32 by rw [q]; rfl), h8, ix_n (by omega), e14, nI_l (by omega), nI_l (by omega), lN_i]
    refine ⟨inb_n (by omega), ?_⟩
    by_cases w : nv T z i < lo
    · rw [if_pos (lgc_lt.mpr ((lN_lt (by omega) (by omega)).mpr w))]
      exact S135 (f := 4) c' (by omega) (fun g s f p => k4 q (by omega) g s f p)
    · rw [if_neg (fun e => w ((lN_lt (by omega) (by omega)).mp (lgc_lt.mp e)))]
      by_cases w2 : nv T z i ≤ hi
      · rw [if_pos (lgc_le.mpr ((lN_le (by omega) (by omega)).mpr w2))]
        exact S133 c' (by omega) (fun g s t f => k1 q (by omega) w2 g s t f)
      · rw [if_neg (fun e => w2 ((lN_le (by omega) (by omega)).mp (lgc_le.mp e)))]
        exact S135 (f := 4) c' (by omega) (fun g s f p => k4 q (by omega) g s f p)
  · rw [if_neg (show ¬ nI (ck (kd T z i)) = 32 from fun e => q ((ck_eq (w := 32) (by omega)).mp e))]
    exact S136 c' (fun g s f p => k2 q g s f p)
theorem S134 {C : Int64 → Prop} {m i : Nat} (c : CTT h T z m i) (k : C (h.J 14 i)) : W134 h C := by
  obtain ⟨t, him, hz, h8, h9⟩ := c
  have hm := t.1
  unfold W134
  rw [h8, ix_n (by omega)]
  exact ⟨inb_n (by omega), k⟩
end CTB
