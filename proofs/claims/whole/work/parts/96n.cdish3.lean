/-! THE CLASS READS A DISH: its kinds, the whole DISH -/
theorem setOf_cg {p q : Nat → Bool} : ∀ {n : Nat}, (∀ j, j < n → p j = q j) → setOf p n = setOf q n
  | 0, _ => rfl
  | n + 1, h => by
    unfold setOf
    rw [h n (by omega), setOf_cg (fun j hj => h j (by omega))]
theorem Wf_add {M0 M' : Nat → Int32} (hw : Wf M0) (hd : aN M0 < 12) (h0 : M' 0 = nI (aN M0 + 1)) (hs : ∀ k, 1 ≤ k → k < 16 + 8 * aN M0 → M' k = M0 k) (hdf : DF M' (aN M0)) : Wf M' ∧ aN M' = aN M0 + 1 ∧ aP M' = aP M0 := by
  have eN : aN M' = aN M0 + 1 := by show ix (M' 0) = _; rw [h0, ix_n (by omega)]
  have eP : aP M' = aP M0 := by unfold aP; rw [hs 1 (by omega) (by omega)]
  have hP8 : aP M0 ≤ 8 := hw.2.2.2.1
  refine ⟨⟨by rw [eN]; exact h0, by omega, by rw [eP, hs 1 (by omega) (by omega)]; exact hw.eP, by omega, fun k hk => ?_, fun e he => ?_⟩, eN, eP⟩
  · rw [eP] at hk
    rw [hs _ (by omega) (by omega)]
    exact hw.2.2.2.2.1 k hk
  · rw [eN] at he ⊢
    by_cases q : e = aN M0
    · subst q
      obtain ⟨m0, m1, m2, m3, m4, m5, m6, m7, m8⟩ := hdf
      exact ⟨m0, m1, m2, m3, m4, m5, m6, m7, Or.inl m8⟩
    · have he' : e < aN M0 := by omega
      have eq : ∀ x, x < aN M0 → ∀ f, f < 8 → M' (16 + 8 * x + f) = M0 (16 + 8 * x + f) := fun x hx f hf => hs _ (by omega) (by omega)
      have D := hw.D he'
      unfold WfD aW aSz aKp aBu aNe aPo aOn aPa at D ⊢
      rw [eq e he' 0 (by omega), eq e he' 1 (by omega), eq e he' 2 (by omega), eq e he' 3 (by omega), eq e he' 4 (by omega), eq e he' 5 (by omega), eq e he' 6 (by omega), eq e he' 7 (by omega)]
      obtain ⟨m0, m1, m2, m3, m4, m5, m6, m7, m8⟩ := D
      refine ⟨m0, m1, m2, m3, m4, m5, m6, m7, ?_⟩
      rcases m8 with w | ⟨x, x1, x2, x3, x4, x5, x6⟩
      · exact Or.inl w
      · refine Or.inr ⟨x, by omega, x2, x3, ?_, x5, ?_⟩
        · rw [eq x x1 7 (by omega)]; exact x4
        · rw [eq x x1 4 (by omega)]; exact x6
def CB (h : TH) (T : Nat → Nat) (z m : Nat) (s : PS) : Prop := CTT h T z m s.1 ∧ Wf s.2.1 ∧ CMr h 16 s.2.1 ∧ NmC h 16 s.2.2 (aN s.2.1) ∧ okF h
def bitIf (a b : Int32) (d : Nat) : Int32 := if a = 1 then b ||| ishl 1 (nI d) else b
def CDk (h : TH) (T : Nat → Nat) (z m : Nat) (M0 : Nat → Int32) (N1 : Nat → List Nat) (d : Nat) (s : PS) : Prop := CTT h T z m s.1 ∧ MI M0 N1 d s ∧ (h.I 16 1 = nI (aN M0) ∧ h.I 16 2 = nI (aP M0) ∧ (∀ e, e < aN M0 → h.I (16 + 2) e = aW M0 e ∧ h.I (16 + 3) e = aSz M0 e ∧ h.I (16 + 4) e = aKp M0 e ∧ h.I (16 + 5) e = aBu M0 e ∧ h.I (16 + 6) e = aNe M0 e ∧ h.I (16 + 7) e = aPa M0 e) ∧ ∀ k, k < aP M0 → h.I (16 + 8) k = M0 (8 + k)) ∧ NmC h 16 N1 (d + 1) ∧ (∀ f, f < 5 → h.I (16 + (2 + f)) d = s.2.1 (16 + 8 * d + f)) ∧ okF h ∧ h.I 16 3 = bitIf (s.2.1 (16 + 8 * d + 5)) (pS M0) d ∧ h.I 16 4 = bitIf (s.2.1 (16 + 8 * d + 6)) (oS M0) d
section CD3
variable {h : TH} {T : Nat → Nat} {z m d : Nat} {M0 : Nat → Int32} {N1 : Nat → List Nat} {s : PS}
theorem CDk_of (c : CDs h T z m M0 N1 d s 5) (h5 : s.2.1 (16 + 8 * d + 5) = 0) (h6 : s.2.1 (16 + 8 * d + 6) = 0) : CDk h T z m M0 N1 d s := by
  obtain ⟨c1, c2, c3, c4, c5, c6⟩ := c
  refine ⟨c1, c2, ⟨c3.n, c3.p, fun e he => c3.row he, fun k hk => c3.pot hk⟩, c4, c5, c6, ?_, ?_⟩
  · unfold bitIf; rw [h5, if_neg (by decide)]; exact c3.po
  · unfold bitIf; rw [h6, if_neg (by decide)]; exact c3.on
/-- a TOKEN on, and one bit more -/
theorem CDk_tok {g : TH} {s' : PS} (c : CDk h T z m M0 N1 d s) (sm : Sm (fun a => a = 9 ∨ a = 16) h g) (e1 : g.I 16 1 = h.I 16 1) (e2 : g.I 16 2 = h.I 16 2) (ct : CTT g T z m s'.1) (mi : MI M0 N1 d s') (ef : ∀ f, f < 5 → s'.2.1 (16 + 8 * d + f) = s.2.1 (16 + 8 * d + f)) (o : okF g) (e3 : g.I 16 3 = bitIf (s'.2.1 (16 + 8 * d + 5)) (pS M0) d) (e4 : g.I 16 4 = bitIf (s'.2.1 (16 + 8 * d + 6)) (oS M0) d) : CDk g T z m M0 N1 d s' := by
  obtain ⟨_, _, ⟨a1, a2, a3, a4⟩, c4, c5, _, _, _⟩ := c
  refine ⟨ct, mi, ⟨by rw [e1]; exact a1, by rw [e2]; exact a2, fun e he => ?_, fun k hk => by rw [sm.I (by omega)]; exact a4 k hk⟩, fun j hj => by rw [sm.J (by decide)]; exact c4 j hj, fun f hf => by rw [sm.I (by omega), ef f hf]; exact c5 f hf, o, e3, e4⟩
  rw [sm.I (by omega), sm.I (by omega), sm.I (by omega), sm.I (by omega), sm.I (by omega), sm.I (by omega)]
  exact a3 e he
theorem S82b {C : Int32 → TH → Prop} (c : CDk h T z m M0 N1 d s) (h6 : s.2.1 (16 + 8 * d + 6) = 0) (k1 : ∀ g s', pOnce T z d s = .inr s' → Sm inM h g → CDk g T z m M0 N1 d s' → C 1 g) : B82_56 (nI d) h C := by
  unfold B82_56
  rw [c.1.2.2.2.2]
  by_cases q : kd T z s.1 = 9
  · rw [if_neg (fun n => n ((ck_is (x := 7) (w := 9) (by omega) rfl).mpr q))]
    have cc : CTT (h.sI 16 4 ((h.I 16 4) ||| (ishl 1 (nI d)))) T z m s.1 := c.1.frame (fun j => I_ne (by decide)) (by funext j; rw [I_ne (by decide)]) (by funext j; rw [I_ne (by decide)]) rfl
    have e1 : pOnce T z d s = .inr (s.1 + 1, upd s.2.1 (16 + 8 * d + 6) 1, s.2.2) := by unfold pOnce; rw [if_pos q]
    refine S133 cc (by omega) (fun g s1 t f => k1 g _ e1 ((Sm.sI (S := inM) Sm.refl (Or.inr (by omega)) _).trans (mono9 s1)) ?_)
    have hk : pKinds T z d s = .inr (s.1 + 1, upd s.2.1 (16 + 8 * d + 6) 1, s.2.2) := by
      unfold pKinds pPoured; rw [if_neg (by omega)]; exact e1
    have mi := (pKinds_MI hk c.2.1).1
    obtain ⟨_, _, _, _, _, o, b3, b4⟩ := c
    refine CDk_tok (s := s) ⟨by assumption, by assumption, by assumption, by assumption, by assumption, o, b3, b4⟩ ((Sm.sI (S := fun a => a = 9 ∨ a = 16) Sm.refl (Or.inr rfl) _).trans (s1.mono (fun a ha => Or.inl ha))) ?_ ?_ t mi (fun f hf => pk_un (by omega)) (okF_9 ⟨by rw [I_ne (by decide)]; exact o.1, by rw [I_ne (by decide)]; exact o.2⟩ f) ?_ ?_
    · rw [s1.I (by decide), I_nk (by decide)]
    · rw [s1.I (by decide), I_nk (by decide)]
    · rw [s1.I (by decide), I_nk (by decide), b3]
      (try dsimp only)
      rw [show upd s.2.1 (16 + 8 * d + 6) 1 (16 + 8 * d + 5) = s.2.1 (16 + 8 * d + 5) from pk_un (by omega)]
    · rw [s1.I (by decide), I_eq, b4, h6]
      (try dsimp only)
      rw [show upd s.2.1 (16 + 8 * d + 6) 1 (16 + 8 * d + 6) = 1 from pk_us]
      unfold bitIf
      rw [if_neg (by decide), if_pos rfl]
  · rw [if_pos (show ¬ nI (ck (kd T z s.1)) = 7 from fun e => q ((ck_is (x := 7) (w := 9) (by omega) rfl).mp e))]
    exact k1 h s (by unfold pOnce; rw [if_neg q]) Sm.refl c
theorem S82 {C : Int32 → TH → Prop} (hd12 : d < 12) (c : CDk h T z m M0 N1 d s) (h5 : s.2.1 (16 + 8 * d + 5) = 0) (h6 : s.2.1 (16 + 8 * d + 6) = 0) (k1 : ∀ g s', pKinds T z d s = .inr s' → Sm inM h g → CDk g T z m M0 N1 d s' → C 1 g) (k0 : ∀ g e, pKinds T z d s = .inl e → Sm inM h g → CFt g e → C 0 g) : W82 (nI d) h C := by
  unfold W82
  rw [c.1.2.2.2.2, ix_n (by omega)]
  by_cases q : kd T z s.1 = 8
  · rw [if_neg (fun n => n ((ck_is (x := 6) (w := 8) (by omega) rfl).mpr q))]
    refine ⟨inb_n hd12, ?_⟩
    have e4 : h.I (16 + 6) d = s.2.1 (16 + 8 * d + 4) := c.2.2.2.2.1 4 (by omega)
    rw [e4]
    by_cases w : s.2.1 (16 + 8 * d + 4) = 0
    · rw [if_neg (fun n => n w)]
      exact S135 (f := 7) c.1 (by omega) (fun g2 s2 f2 p2 => ⟨Or.inl rfl, k0 g2 _ (by unfold pKinds; exact thn_l (by unfold pPoured; rw [if_pos q, if_pos w])) (mono9 s2) p2⟩)
    · rw [if_pos w]
      have cc : CTT (h.sI 16 3 ((h.I 16 3) ||| (ishl 1 (nI d)))) T z m s.1 := c.1.frame (fun j => I_ne (by decide)) (by funext j; rw [I_ne (by decide)]) (by funext j; rw [I_ne (by decide)]) rfl
      have e1 : pPoured T z d s = .inr (s.1 + 1, upd s.2.1 (16 + 8 * d + 5) 1, s.2.2) := by unfold pPoured; rw [if_pos q, if_neg w]
      refine S133 cc (by omega) (fun g s1 t f => ?_)
      have sm : Sm inM h g := (Sm.sI (S := inM) Sm.refl (Or.inr (by omega)) _).trans (mono9 s1)
      have mi : MI M0 N1 d (s.1 + 1, upd s.2.1 (16 + 8 * d + 5) 1, s.2.2) := by
        have m := c.2.1
        have eN : s.2.2 = N1 := m.2.2
        obtain ⟨i, M, N⟩ := s
        have eN' : N = N1 := eN
        rw [eN'] at m ⊢
        exact MI_upd m (f := 5) (by omega) (DF_upd m.1 (Or.inr (Or.inr (Or.inr (Or.inr (Or.inr (Or.inl ⟨rfl, rfl, w⟩)))))))
      have ck5 : CDk g T z m M0 N1 d (s.1 + 1, upd s.2.1 (16 + 8 * d + 5) 1, s.2.2) := by
        obtain ⟨x1, x2, x3, x4, x5, o, b3, b4⟩ := c
        refine CDk_tok (s := s) ⟨x1, x2, x3, x4, x5, o, b3, b4⟩ ((Sm.sI (S := fun a => a = 9 ∨ a = 16) Sm.refl (Or.inr rfl) _).trans (s1.mono (fun a ha => Or.inl ha))) ?_ ?_ t mi (fun f hf => pk_un (by omega)) (okF_9 ⟨by rw [I_ne (by decide)]; exact o.1, by rw [I_ne (by decide)]; exact o.2⟩ f) ?_ ?_
        · rw [s1.I (by decide), I_nk (by decide)]
        · rw [s1.I (by decide), I_nk (by decide)]
        · rw [s1.I (by decide), I_eq, b3, h5]
          (try dsimp only)
          rw [show upd s.2.1 (16 + 8 * d + 5) 1 (16 + 8 * d + 5) = 1 from pk_us]
          unfold bitIf
          rw [if_neg (by decide), if_pos rfl]
        · rw [s1.I (by decide), I_nk (by decide), b4]
          (try dsimp only)
          rw [show upd s.2.1 (16 + 8 * d + 5) 1 (16 + 8 * d + 6) = s.2.1 (16 + 8 * d + 6) from pk_un (by omega)]
      exact S82b ck5 (by show upd s.2.1 (16 + 8 * d + 5) 1 (16 + 8 * d + 6) = 0; rw [pk_un (by omega)]; exact h6) (fun g2 s' e2 sm2 c2 => k1 g2 s' (by unfold pKinds; rw [thn_i e1]; exact e2) (sm.trans sm2) c2)
  · rw [if_pos (show ¬ nI (ck (kd T z s.1)) = 6 from fun e => q ((ck_is (x := 6) (w := 8) (by omega) rfl).mp e))]
    have e1 : pPoured T z d s = .inr s := by unfold pPoured; rw [if_neg q]
    exact S82b c h6 (fun g2 s' e2 sm2 c2 => k1 g2 s' (by unfold pKinds; rw [thn_i e1]; exact e2) sm2 c2)
theorem S78 {C : Int32 → TH → Prop} {i : Nat} {N : Nat → List Nat} (hd12 : d < 12) (c : CTT h T z m i) (h1 : h.I 16 1 = nI d) (hN : NmC h 16 N d) (k1 : kd T z i = 30 → ¬ fnd N d (wd T z i) < d → ∀ g, Sm (fun a => a = 9 ∨ a = 17) h g → CTT g T z m (i + 1) → NmC g 16 (updN N d (wd T z i)) (d + 1) → (∀ j, j ≠ 8 → j ≠ 9 → g.I 9 j = h.I 9 j) → g.I 17 = h.I 17 → C 1 g) (k3 : kd T z i = 30 → fnd N d (wd T z i) < d → ∀ g, Sm (fun a => a = 9) h g → CFt g (fl T z i 3) → C 0 g) (k2 : kd T z i ≠ 30 → ∀ g, Sm (fun a => a = 9) h g → CFt g (fl T z i 2) → C 0 g) : W78 (nI d) h C := by
  unfold W78
  rw [c.2.2.2.2]
  by_cases q : kd T z i = 30
  · rw [if_pos ((ck_is (x := 30) (w := 30) (by omega) rfl).mpr q)]
    have e14 := (c.1.2.2.2 i c.2.1).2.2.1 q
    refine S134 c ?_
    rw [e14]
    refine S59 (N := N) (n := d) h1 (by omega) hN (wd_ok q) (fun u => ?_) (fun u => ?_)
    · rw [if_neg (nI_ne1 (by omega))]
      exact S135 (f := 3) c (by omega) (fun g2 s2 f2 p2 => ⟨Or.inl rfl, k3 q u g2 s2 p2⟩)
    · rw [if_pos rfl]
      refine S134 c ⟨inb_n hd12, ?_⟩
      rw [e14, ix_n (by omega)]
      have cc : CTT (h.sJ (16 + 1) d (lN (cod 32 96 (wd T z i)))) T z m i := c.frame (fun j => rfl) rfl rfl (by funext j; rw [J_ne (by decide)])
      refine S133 cc (by omega) (fun g s1 t f => k1 q u g ((Sm.sJ (S := fun a => a = 9 ∨ a = 17) Sm.refl (Or.inr rfl) _).trans (s1.mono (fun a ha => Or.inl ha))) t (fun j hj => ?_) (fun j a b => f j a b) (by rw [s1.I (by decide)]; rfl))
      rw [s1.J (by decide), J_at]
      unfold updN
      by_cases w : j = d
      · rw [if_pos w, if_pos w]; exact ⟨rfl, wd_ok q⟩
      · rw [if_neg w, if_neg w]; exact hN j (by omega)
  · rw [if_neg (show ¬ nI (ck (kd T z i)) = 30 from fun e => q ((ck_is (x := 30) (w := 30) (by omega) rfl).mp e))]
    exact S136 c (fun g s f p => ⟨Or.inl rfl, k2 q g s p⟩)
end CD3
