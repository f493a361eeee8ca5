/-! COPIES: a plan, a hand, a slot of the reference -/
section CP2
variable {h : TH} {t a : Nat} {M : Nat → Int32}
theorem S89 {C : TH → Prop} (hd : a + 7 ≤ t ∨ t + 7 ≤ a) (h01 : h.I a 0 = 0 ∨ h.I a 0 = 1) (k : ∀ g, Sm (fun x => t ≤ x ∧ x < t + 5) h g → g.I t 0 = h.I a 0 → g.I t 1 = h.I a 1 → (∀ j, j ≠ 0 → j ≠ 1 → g.I t j = h.I t j) → (∀ r j, 1 ≤ r → r ≤ 4 → j < 30 → g.I (t + r) j = h.I (a + r) j) → C g) : W89 t a h C := by
  unfold W89
  refine ⟨h01, fun h1 e1 h2 e2 => ?_⟩
  have f1 : Sm (fun x => x = t ∨ x = t + 1) h h1 ∧ (∀ j, h1.I t j = if j = 1 then h.I a 1 else if j = 0 then h.I a 0 else h.I t j) ∧ ∀ j, j < 30 → h1.I (t + 1) j = h.I (a + 1) j := by
    rw [e1]
    refine ⟨Sm.cI (S := fun x => x = t ∨ x = t + 1) (Sm.sI (S := fun x => x = t ∨ x = t + 1) (Sm.sI (S := fun x => x = t ∨ x = t + 1) Sm.refl (Or.inl rfl) _) (Or.inl rfl) _) (Or.inr rfl) _, fun j => ?_, fun j hj => ?_⟩
    · rw [I_cI, if_neg (by omega), I_at, I_at, I_ne (show a ≠ t by omega)]
    · rw [I_cI, if_pos rfl, show ix 30 = 30 from rfl, cp0, if_pos hj, I_ne (by omega), I_ne (by omega)]
  clear e1
  obtain ⟨s2, p2, q2⟩ := cp2 e2 (by omega) (by omega)
  clear e2
  have i30 : ix 30 = 30 := rfl
  have w2 : Sm (fun x => t ≤ x ∧ x < t + 5) h h2 := (f1.1.mono (fun x hx => by omega)).trans (s2.mono (fun x hx => by omega))
  have n4 : ∀ (f : Nat → Int32) (b : Nat), b ≠ t + 4 → (h2.cI (t + 4) f).I b = h2.I b := fun f b hb => by rw [I_cI, if_neg hb]
  refine k _ (Sm.cI (S := fun x => t ≤ x ∧ x < t + 5) w2 (by omega) _) ?_ ?_ (fun j j0 j1 => ?_) (fun r j r1 r4 hj => ?_)
  · rw [n4 _ t (by omega), s2.I (by omega), f1.2.1]; rfl
  · rw [n4 _ t (by omega), s2.I (by omega), f1.2.1]; rfl
  · rw [n4 _ t (by omega), s2.I (by omega), f1.2.1, if_neg j1, if_neg j0]
  · rcases (show r = 1 ∨ r = 2 ∨ r = 3 ∨ r = 4 by omega) with rfl | rfl | rfl | rfl
    · rw [n4 _ (t + 1) (by omega), s2.I (by omega)]; exact f1.2.2 j hj
    · rw [n4 _ (t + 2) (by omega), p2 j (by omega), f1.1.I (by omega)]
    · rw [n4 _ (t + 3) (by omega), q2 j (by omega), f1.1.I (by omega)]
    · rw [I_cI, if_pos rfl, i30, cp0, if_pos hj, w2.I (by omega)]
theorem CPl_copy {g : TH} {cn n0 : Nat} (p : PI M n0 cn []) (c : CPl h a M cn []) (e : ∀ r j, 1 ≤ r → r ≤ 4 → j < 30 → g.I (t + r) j = h.I (a + r) j) : CPl g t M cn [] := by
  intro k hk h21
  have c30 := p.2.1.2.1
  have ckn : cc M cn k < cn := by have := cc_lt p (k := k) (b := qn M) hk (Nat.le_refl _) h21; rw [cc_n] at this; exact this
  have := c k hk h21
  unfold CRow at this ⊢
  rw [e 1 _ (by omega) (by omega) (by omega), e 2 _ (by omega) (by omega) (by omega), e 3 _ (by omega) (by omega) (by omega), e 4 _ (by omega) (by omega) (by omega)]
  exact this
theorem S15 {C : TH → Prop} (hd : a + 2 ≤ t ∨ t + 2 ≤ a) (k : ∀ g, Sm (fun x => x = t ∨ x = t + 1) h g → g.I t 0 = h.I a 0 → g.I t 1 = h.I a 1 → g.I t 3 = h.I a 3 → g.I t 4 = h.I a 4 → g.I t 10 = 0 → (∀ j, j < 12 → g.I (t + 1) j = h.I (a + 1) j) → C g) : W15 t a h C := by
  unfold W15
  refine S14 (fun h1 s1 z z6 zo => fun h2 e2 => ?_)
  have f2 : Sm (fun x => x = t) h1 h2 ∧ ∀ j, h2.I t j = if j = 3 then h1.I a 3 else if j = 1 then h1.I a 1 else if j = 0 then h1.I a 0 else h1.I t j := by
    rw [e2]
    exact ⟨Sm.sI (S := fun x => x = t) (Sm.sI (S := fun x => x = t) (Sm.sI (S := fun x => x = t) Sm.refl rfl _) rfl _) rfl _, fun j => by rw [I_at, I_at, I_at, I_ne (show a ≠ t by omega), I_ne (show a ≠ t by omega), I_ne (show a ≠ t by omega)]⟩
  clear e2
  have w2 : Sm (fun x => x = t) h h2 := s1.trans f2.1
  have ea : h1.I a = h.I a := s1.I (by omega)
  have nt : ∀ (f : Nat → Int32) (v : Int32) (j : Nat), ((h2.sI t 4 v).cI (t + 1) f).I t j = if j = 4 then v else h2.I t j := fun f v j => by rw [I_cI, if_neg (by omega), I_at]
  refine k _ (Sm.cI (S := fun x => x = t ∨ x = t + 1) (Sm.sI (S := fun x => x = t ∨ x = t + 1) (w2.mono (fun x hx => Or.inl hx)) (Or.inl rfl) _) (Or.inr rfl) _) ?_ ?_ ?_ ?_ ?_ (fun j hj => ?_)
  · rw [nt, f2.2, ea]; rfl
  · rw [nt, f2.2, ea]; rfl
  · rw [nt, f2.2, ea]; rfl
  · rw [nt, if_pos rfl, w2.I (by omega)]
  · rw [nt, f2.2]; exact z 10 (by decide) (by decide) (by decide)
  · rw [I_cI, if_pos rfl, show ix 12 = 12 from rfl, cp0, if_pos hj, I_ne (by omega), w2.I (by omega)]
theorem HCs_copy {g : TH} {S U W : Int32} {k : Nat} {A : Nat → Nat} (h12 : aN M ≤ 12) (c : HCs h a M S U W k A) (e0 : g.I t 0 = h.I a 0) (e1 : g.I t 1 = h.I a 1) (e3 : g.I t 3 = h.I a 3) (e4 : g.I t 4 = h.I a 4) (e10 : g.I t 10 = 0) (ep : ∀ j, j < 12 → g.I (t + 1) j = h.I (a + 1) j) : HCs g t M S U W k A :=
  ⟨by rw [e0]; exact c.1, by rw [e1]; exact c.2.1, by rw [e3]; exact c.2.2.1, by rw [e4]; exact c.2.2.2.1, e10, fun d hd u v w => by rw [ep d (by omega)]; exact c.2.2.2.2.2 d hd u v w⟩
theorem S323 {C : TH → Prop} {x y : Nat} (hx : x < 5) (hy : y < 5) (hxy : x ≠ y) (k : ∀ g, Sm (fun b => b = 198 ∨ b = 199) h g → (∀ j, j < 440 → g.I 198 (440 * y + j) = h.I 198 (440 * x + j)) → (∀ j, (j < 440 * y ∨ 440 * y + 440 ≤ j) → g.I 198 j = h.I 198 j) → (∀ j, j < 12 → g.J 199 (12 * y + j) = h.J 199 (12 * x + j)) → (∀ j, (j < 12 * y ∨ 12 * y + 12 ≤ j) → g.J 199 j = h.J 199 j) → C g) : W323 (nI x) (nI y) h C := by
  unfold W323 B323_2
  refine LFP.up 440 (fun (j : Nat) (q : Int32 × TH) => q.1 = nI j ∧ Sm (fun b => b = 198 ∨ b = 199) h q.2 ∧ (∀ e, e < j → q.2.I 198 (440 * y + e) = h.I 198 (440 * x + e)) ∧ (∀ e, (e < 440 * y ∨ 440 * y + 440 ≤ e) → q.2.I 198 e = h.I 198 e) ∧ q.2.J 199 = h.J 199) ?_ ?_ (Nat.zero_le _) ⟨rfl, Sm.refl, fun e he => absurd he (Nat.not_lt_zero _), fun _ _ => rfl, rfl⟩
  · rintro X j ⟨x3, g⟩ hj ⟨e1, sm, f, fo, fj⟩ ih
    (try dsimp only at e1 sm f fo fj)
    subst e1
    unfold F323_2
    (try dsimp only)
    rw [if_neg (show ¬ (440 : Int32) ≤ nI j from nI_ge (b := 440) hj (by omega)), show (440 : Int32) = nI 440 from rfl, pk_mul, pk_mul, nI_add, nI_add, ix_n (j := 440 * x + j) (by omega), ix_n (j := 440 * y + j) (by omega), nI_1, fo (440 * x + j) (by omega)]
    refine ⟨inb_n (by omega), inb_n (by omega), ih _ ⟨rfl, Sm.sI (S := fun b => b = 198 ∨ b = 199) sm (Or.inl rfl) _, fun e he => ?_, fun e he => by rw [I_nk (by omega)]; exact fo e he, fj⟩⟩
    (try dsimp only)
    rw [I_at]
    by_cases u : e = j
    · rw [if_pos (by omega), u]
    · rw [if_neg (by omega)]; exact f e (by omega)
  · rintro X ⟨x3, g⟩ ⟨e1, sm, f, fo, fj⟩
    (try dsimp only at e1 sm f fo fj)
    subst e1
    unfold F323_2
    (try dsimp only)
    rw [if_pos (show (440 : Int32) ≤ nI 440 by decide +kernel)]
    unfold B323_41
    refine LFP.up 12 (fun (j : Nat) (q : Int32 × TH) => q.1 = nI j ∧ Sm (fun b => b = 198 ∨ b = 199) h q.2 ∧ q.2.I 198 = g.I 198 ∧ (∀ e, e < j → q.2.J 199 (12 * y + e) = h.J 199 (12 * x + e)) ∧ ∀ e, (e < 12 * y ∨ 12 * y + 12 ≤ e) → q.2.J 199 e = h.J 199 e) ?_ ?_ (Nat.zero_le _) ⟨rfl, sm, rfl, fun e he => absurd he (Nat.not_lt_zero _), fun e _ => by rw [fj]⟩
    · rintro Y j ⟨x4, g2⟩ hj ⟨e1, sm2, f8, f9, fo9⟩ ih
      (try dsimp only at e1 sm2 f8 f9 fo9)
      subst e1
      unfold F323_41
      (try dsimp only)
      rw [if_neg (show ¬ (12 : Int32) ≤ nI j from nI_ge (b := 12) hj (by omega)), show (12 : Int32) = nI 12 from rfl, pk_mul, pk_mul, nI_add, nI_add, ix_n (j := 12 * x + j) (by omega), ix_n (j := 12 * y + j) (by omega), nI_1, fo9 (12 * x + j) (by omega)]
      refine ⟨inb_n (by omega), inb_n (by omega), ih _ ⟨rfl, Sm.sJ (S := fun b => b = 198 ∨ b = 199) sm2 (Or.inr rfl) _, f8, fun e he => ?_, fun e he => by rw [J_at, if_neg (by omega)]; exact fo9 e he⟩⟩
      (try dsimp only)
      rw [J_at]
      by_cases u : e = j
      · rw [if_pos (by omega), u]
      · rw [if_neg (by omega)]; exact f9 e (by omega)
    · rintro Y ⟨x4, g2⟩ ⟨e1, sm2, f8, f9, fo9⟩
      (try dsimp only at e1 sm2 f8 f9 fo9)
      subst e1
      unfold F323_41
      (try dsimp only)
      rw [if_pos (show (12 : Int32) ≤ nI 12 by decide +kernel)]
      exact k g2 sm2 (fun j hj => by rw [f8]; exact f j hj) (fun j hj => by rw [f8]; exact fo j hj) f9 fo9
end CP2
