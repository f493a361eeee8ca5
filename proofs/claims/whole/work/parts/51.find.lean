/-! FIRST by the class, from its beginning to its end -/
section FD
variable {h h' : TH} {M : Nat → Int32} {big : Nat → Nat} {goal : Int32} {t tm a5 a6 a7 a8 a9 a16 : Nat} {k V od : Nat → Nat} {w σ least : Nat}
theorem DJ.al {g : TH} {f kd s cw : Nat} (hD : DJ h t tm M big cw a5 a6 a7 a8 k V od w σ σ) (hA : Al h g t f kd s) (hf : 9 < f) (hn : 222 ≤ h.n) (hlt : a5 < h.n ∧ a6 < h.n ∧ a7 < h.n ∧ a8 < h.n) : DJ g t tm M big cw a5 a6 a7 a8 k V od w σ σ := by
  obtain ⟨d1, d2, d3, d4, d5, d6, d7, d8⟩ := hD
  have ht := is2_rng d1.1
  have d1' := d1.al hA (by omega) hn
  obtain ⟨b1, b2, b3, b4, b5, b6, b7, b8⟩ := hA
  have hI : ∀ a, a < h.n → g.I a = h.I a := fun a ha => (b7 a (by omega)).2.2.1
  refine ⟨d1', ?_, by rw [hI t (by omega)]; exact d3, by rw [hI t (by omega)]; exact d4, by rw [hI a5 (by omega)]; exact d5, ?_, by rw [hI a8 (by omega)]; exact d7, d8⟩
  · obtain ⟨q5, q6, q7, q8, qa, rest⟩ := d2
    refine ⟨by rw [b4 5 (by omega)]; exact q5, by rw [b4 6 (by omega)]; exact q6, by rw [b4 7 (by omega)]; exact q7, by rw [b4 8 (by omega)]; exact q8, fun a ha => ?_, rest⟩
    have z := b7 a (by omega)
    rw [z.1, z.2.1]
    exact qa a ha
  · unfold HpOk at d6 ⊢
    rw [hI a6 (by omega), hI a7 (by omega)]
    exact d6
/-- what findPath may change -/
def FdPost (h g : TH) (t a5 a6 a7 a8 a9 a16 : Nat) : Prop := Gr (fun a => inL t a5 a6 a7 a8 a ∨ a = a9 ∨ a = a16) h g ∧ g.n ≤ h.n + 1 ∧ g.sl ≤ h.sl + 4096 ∧ (∀ f, f ≠ 16 → g.P t f = h.P t f) ∧ ∀ j, j ≠ 10 → j ≠ 11 → j ≠ 15 → j ≠ 17 → g.I t j = h.I t j
theorem WkBk : ∀ m v c, Wk M big 4096 m v c → ∀ m' b, Bk M big 4096 goal m' v b → ∃ m'', Bk M big 4096 goal m'' 0 (c + b) := by
  intro m
  induction m with
  | zero =>
    rintro v c ⟨rfl, rfl⟩ m' b hb
    exact ⟨m', by rw [Nat.zero_add]; exact hb⟩
  | succ m ih =>
    rintro v c ⟨u, c', kk', z1, z2, rfl⟩ m' b hb
    obtain ⟨m'', z3⟩ := ih u c' z1 (m' + 1) (b + kk') ⟨v, kk', b, z2, hb, rfl⟩
    exact ⟨m'', by rw [show c' + kk' + b = c' + (b + kk') by omega]; exact z3⟩
/-- a cheapest way has fewer STEPS than there are sets -/
theorem way_len (hw : Wf M) (hD : DJ h t tm M big 4096 a5 a6 a7 a8 k V od w σ σ) (hl : Lst M big 4096 goal least) (hb : least ≤ 1660948480) (hend : ∀ j, j < w → least < k (V j)) (h0 : ∃ i, i < σ ∧ od i = 0) : least % 4096 < 2 ^ aN M := by
  obtain ⟨⟨mL, vL, wl1, wl2⟩, wl3⟩ := id hl
  obtain ⟨m'', z⟩ := WkBk mL vL least wl1 0 0 ⟨wl2, rfl⟩
  obtain ⟨i0, i0a, i0b⟩ := h0
  have k0 := hD.2.2.2.2.2.2.2.2.2.2.2.2.2.2.1
  have p0 : 0 < 2 ^ aN M := Nat.pos_of_ne_zero (by simp)
  have fs := few_steps hw hD hl hb hend m'' i0 i0a (least + 0) (by rw [i0b]; exact z) (by rw [i0b]; omega)
  have bm := Bk_mod hw m'' 0 _ p0 z
  have hfit := hD.fits
  have zm := Nat.mod_le m'' 4096
  generalize 2 ^ aN M = N at hfit p0 ⊢
  omega
theorem S50 {C : TH → Prop} (hw : Wf M) (hD : DJ h t tm M big 4096 a5 a6 a7 a8 k V od w σ σ) (h9 : A9 h t (aN M) a5 a6 a7 a8 a9) (h5 : h.N a5 ≤ 4096) (h16 : A16 h t a16) (hne : a16 ≠ a5 ∧ a16 ≠ a6 ∧ a16 ≠ a7 ∧ a16 ≠ a8 ∧ a16 ≠ a9) (hn : 222 ≤ h.n) (hn2 : h.n < 1000000) (hlt : a5 < h.n ∧ a6 < h.n ∧ a7 < h.n ∧ a8 < h.n ∧ a9 < h.n) (hl : Lst M big 4096 goal least) (hb : least ≤ 1660948480) (hend : ∀ j, j < w → least < k (V j)) (t9 : Told9 h M big 4096 goal k od a9 least 0 σ) (h0 : ∃ i, i < σ ∧ od i = 0) (kk : ∀ g b16 P U, Gr (fun a => inMv t a ∨ a = a16) h g → g.n ≤ h.n + 1 → g.sl ≤ h.sl + 4096 → (∀ f, f ≠ 16 → g.P t f = h.P t f) → (∀ j, j ≠ 15 → j ≠ 17 → g.I t j = h.I t j) → DJ g t tm M big 4096 a5 a6 a7 a8 k V od w σ σ → A16 g t b16 → (b16 = a16 ∨ b16 = h.n) → FP M big goal (least % 4096) P U → g.I t 17 = nI (least % 4096) → least % 4096 ≤ g.N b16 → (∀ j, j < least % 4096 → g.I b16 j = nI (P j)) → C g) : W50 t (nI least) h C := by
  have h12 := hw.n12
  have ht := is2_rng hD.1.1
  unfold W50
  have er : irem (nI least) 4096 = nI (least % 4096) := pk_rem (d := 4096) (by omega) (by omega) (by omega)
  have r5 := hD.2.1.1
  have q5 := hD.2.1.2.2.2.2.1 a5 (Or.inl rfl)
  have hlen5 : least % 4096 ≤ h.N a5 := Nat.le_trans (Nat.le_of_lt (way_len hw hD hl hb hend h0)) q5.2.2.1
  rw [er, R_of h16.1, R_of r5, ix_n (j := h.N a5) (by omega)]
  refine ⟨h16.1, h16.2.1, ?_⟩
  have N16 := h16.2.2.1
  by_cases e : least % 4096 ≤ h.N a16
  · rw [if_pos (nI_le e (by omega))]
    refine S50w hw hD h9 h16 hne e hl hb hend t9 h0 (fun g P U s1 s2 s3 s4 s5 s6 => ?_)
    exact kk g a16 P U s1.gr (by rw [s1.n]; omega) (by rw [s1.sl]; omega) (fun f _ => by rw [s1.P]) s2 s3 (h16.sm s1) (Or.inl rfl) s4 s5 (by rw [s1.N]; exact e) s6
  · rw [if_neg (nI_ge (by omega) (by omega))]
    refine ⟨r5, q5.2.1, inb_n (by omega), hn2, ?_⟩
    have A1 : Al h ((h.new 100 (h.N a5) (h.N a5)).sP t 16 h.n) t 16 100 (h.N a5) := Al_new (by omega)
    generalize ((h.new 100 (h.N a5) (h.N a5)).sP t 16 h.n) = g1 at A1 ⊢
    have D1 := hD.al A1 (by omega) hn ⟨hlt.1, hlt.2.1, hlt.2.2.1, hlt.2.2.2.1⟩
    obtain ⟨b1, b2, b3, b4, b5, b6, b7, b8⟩ := A1
    have h9' : A9 g1 t (aN M) a5 a6 a7 a8 a9 := by
      obtain ⟨z1, z2, z3, z4, z5⟩ := h9
      have z := b7 a9 (by omega)
      exact ⟨by rw [b4 9 (by omega)]; exact z1, by rw [z.1]; exact z2, by rw [z.2.1]; exact z3, by rw [z.2.1]; exact z4, z5⟩
    have h16' : A16 g1 t h.n := ⟨b3, b5, by omega, Or.inr hn, by omega⟩
    have t9' : Told9 g1 M big 4096 goal k od a9 least 0 σ := by
      intro i' z1 z2
      rw [(b7 a9 (by omega)).2.2.1]
      exact t9 i' z1 z2
    refine S50w hw D1 h9' h16' (by omega) (by omega) hl hb hend t9' h0 (fun g P U s1 s2 s3 s4 s5 s6 => ?_)
    refine kk g h.n P U ?_ (by rw [s1.n]; omega) (by rw [s1.sl]; omega) (fun f hf => by rw [s1.P, b4 f hf]) (fun j j1 j2 => by rw [s2 j j1 j2, (b7 t (by omega)).2.2.1]) s3 (h16'.sm s1) (Or.inr rfl) s4 s5 (by rw [s1.N, b6]; exact hlen5) s6
    refine ⟨by rw [s1.n]; omega, fun a ha => ?_, fun a ha hs => ?_⟩
    · rw [s1.K, s1.N]
      have z := b7 a (by omega)
      exact ⟨z.1, z.2.1⟩
    · have z := b7 a (by omega)
      have ns : ¬ (inMv t a ∨ a = h.n) := by
        rintro (q | q)
        · exact hs (Or.inl q)
        · omega
      have nt : a ≠ t := fun q => hs (Or.inl (by unfold inMv; omega))
      refine ⟨by rw [s1.I ns]; exact z.2.2.1, by rw [s1.J ns]; exact z.2.2.2, by rw [s1.P]; exact b8 a (by omega) nt⟩
theorem S47 {C : Int32 → TH → Prop} (hw : Wf M) (hD : DJ h t tm M big 4096 a5 a6 a7 a8 k V od w σ σ) (h9 : A9 h t (aN M) a5 a6 a7 a8 a9) (h5 : h.N a5 ≤ 4096) (h16 : A16 h t a16) (hne : a16 ≠ a5 ∧ a16 ≠ a6 ∧ a16 ≠ a7 ∧ a16 ≠ a8 ∧ a16 ≠ a9) (hn : 222 ≤ h.n) (hn2 : h.n < 1000000) (hlt : a5 < h.n ∧ a6 < h.n ∧ a7 < h.n ∧ a8 < h.n ∧ a9 < h.n) (hg : St (aN M) goal)
    (kN : ∀ g k' V' od' w' σ', Sm (inL t a5 a6 a7 a8) h g → fKeep h g t → DJ g t tm M big 4096 a5 a6 a7 a8 k' V' od' w' σ' σ' → NoW M big 4096 goal → C (-1) g)
    (kS : ∀ g k' V' od' w' σ' least b16 P U, FdPost h g t a5 a6 a7 a8 a9 a16 → DJ g t tm M big 4096 a5 a6 a7 a8 k' V' od' w' σ' σ' → A16 g t b16 → (b16 = a16 ∨ b16 = h.n) → Lst M big 4096 goal least → least ≤ 1660948480 → FP M big goal (least % 4096) P U → g.I t 17 = nI (least % 4096) → least % 4096 ≤ g.N b16 → (∀ j, j < least % 4096 → g.I b16 j = nI (P j)) → C (nI (least % 4096)) g) : W47 t goal h C := by
  have h12 := hw.n12
  have p12 : 2 ^ aN M ≤ 2 ^ 12 := Nat.pow_le_pow_right (by omega) h12
  have ht := is2_rng hD.1.1
  unfold W47
  refine S36 hw hD hg (fun g k' V' od' w' σ' s1 s2 s3 s4 => ?_) (fun g k1 V1 od1 w1 σ1 i s1 s2 s3 s4 s5 s6 => ?_)
  · rw [if_neg (fun q => q rfl)]
    exact kN g k' V' od' w' σ' s1 s2 s3 s4
  · have o2 := (s3.2.2.2.2.2.2.1 i s4).2
    have kb := s3.2.2.2.2.2.2.2.2.2.2.2.2.2.2.2.1 i s4
    have hfit := s3.fits
    have z : i * 405505 ≤ 4096 * 405505 := Nat.mul_le_mul_right _ (by omega)
    have hb : k1 (od1 i) ≤ 1660948480 := by omega
    have hl : Lst M big 4096 goal (k1 (od1 i)) := by
      obtain ⟨m, hm⟩ := s3.2.2.2.2.2.2.2.2.2.2.2.2.2.1 (od1 i) o2 (by omega)
      exact ⟨⟨m, od1 i, hm, s5⟩, s6⟩
    rw [if_pos (nI_ne1 (by omega))]
    generalize k1 (od1 i) = least at hb hl
    /- from the signs on -/
    have fin : ∀ g2 k2 V2 od2 w2 σ2, Sm (inL t a5 a6 a7 a8) h g2 → fKeep h g2 t → DJ g2 t tm M big 4096 a5 a6 a7 a8 k2 V2 od2 w2 σ2 σ2 → (∀ j, j < w2 → least < k2 (V2 j)) → B47_55 t goal (nI least) g2 C := by
      intro g2 k2 V2 od2 w2 σ2 f1 f2 f3 f4
      unfold B47_55
      have h9g := h9.sm f1
      refine S48 hw f3 h9g hl hb f4 (fun g3 v1 v2 v3 v4 => ?_)
      have h9h := h9g.sm v1
      have h16h := (h16.sm f1).sm v1
      have h0 : ∃ i, i < σ2 ∧ od2 i = 0 := by
        have p0 : 0 < 2 ^ aN M := Nat.pos_of_ne_zero (by simp)
        have k0 := v3.2.2.2.2.2.2.2.2.2.2.2.2.2.2.1
        rcases (v3.2.2.2.2.2.2.2.2.2.1 0 p0).mp (by omega) with q | ⟨j, z1, z2⟩
        · exact q
        · have := f4 j z1
          rw [z2] at this
          omega
      have en : g3.n = h.n := by rw [v1.n, f1.n]
      have esl : g3.sl = h.sl := by rw [v1.sl, f1.sl]
      refine S50 hw v3 h9h (by rw [v1.N, f1.N]; exact h5) h16h hne (by omega) (by omega) (by omega) hl hb f4 v4 h0 (fun g4 b16 P U r1 r2 r3 r4 r5 r6 r7 r8 r9 r10 r11 r12 => ?_)
      rw [r10]
      refine kS g4 k2 V2 od2 w2 σ2 least b16 P U ⟨?_, by omega, by omega, fun f hf => by rw [r4 f hf, v1.P, f1.P], fun j j1 j2 j3 j4 => by rw [r5 j j3 j4, v2 j j3, f2 j j1 j2 j3]⟩ r6 r7 (by rw [← en]; exact r8) hl hb r9 r10 r11 r12
      refine (f1.gr.mono (fun a z => Or.inl z)).trans ((v1.gr.mono (fun a z => ?_)).trans (r1.mono (fun a z => ?_)))
      · rcases z with z | z
        · exact Or.inl (Or.inl z)
        · exact Or.inr (Or.inl z)
      · rcases z with z | z
        · exact Or.inl (Or.inl z)
        · exact Or.inr (Or.inr z)
    unfold B47_15
    refine LFP.up 4096 (fun j q => q.1 = nI j ∧ ∃ k V od w σ, Sm (inL t a5 a6 a7 a8) h q.2 ∧ fKeep h q.2 t ∧ DJ q.2 t tm M big 4096 a5 a6 a7 a8 k V od w σ σ ∧ j ≤ σ) ?_ ?_ (Nat.zero_le _) ⟨rfl, k1, V1, od1, w1, σ1, s1, s2, s3, Nat.zero_le _⟩
    · rintro X j ⟨x3, g2⟩ hj ⟨e1, k2, V2, od2, w2, σ2, e2, e3, e4, e5⟩ ih
      (try dsimp only at e1 e2 e3 e4)
      subst e1
      have r5 := e4.2.1.1
      have r6 := e4.2.1.2.1
      have hf2 := e4.fits
      unfold F47_15
      (try dsimp only)
      rw [if_neg (show ¬ (4096 : Int32) ≤ nI j from nI_ge (b := 4096) (by omega) (by omega)), e4.2.2.1]
      by_cases ew : w2 = 0
      · rw [if_pos (by rw [ew]; decide)]
        exact fin g2 k2 V2 od2 w2 σ2 e2 e3 e4 (fun j hj => by omega)
      · rw [if_neg (nI_nle (by omega) (by omega))]
        have hV0 := e4.2.2.2.2.2.1.1 0 (by omega)
        have k0 := e4.2.2.2.2.1 _ hV0
        rw [R_of r5, R_of r6, ix_0, e4.2.2.2.2.2.1.2.2.1 0 (by omega), ix_n (by omega), k0.1]
        refine ⟨r5, r6, e4.2.1.ok6 (u := 0) (by omega), e4.2.1.ok5 hV0, ?_⟩
        by_cases ek : least < k2 (V2 0)
        · rw [if_pos (nI_lt ek (by omega))]
          refine fin g2 k2 V2 od2 w2 σ2 e2 e3 e4 (fun j hj => ?_)
          have := heap_min e4.2.2.2.2.2.1.2.2.2.2 j hj
          omega
        · rw [if_neg (nI_nlt (by omega) (by omega))]
          refine S37 hw e4 (fun q => absurd q ew) (fun _ g3 k3 V3 od3 w3 v1 v2 v3 _ _ _ => ?_)
          exact ih _ ⟨nI_1 j, k3, V3, od3, w3, σ2 + 1, e2.trans v1, fun i i1 i2 i3 => (v2 i i1 i2 i3).trans (e3 i i1 i2 i3), v3, by omega⟩
    · rintro X ⟨x3, g2⟩ ⟨e1, k2, V2, od2, w2, σ2, e2, e3, e4, e5⟩
      (try dsimp only at e1 e2 e3 e4)
      subst e1
      have hf2 := e4.fits
      unfold F47_15
      (try dsimp only)
      rw [if_pos (show (4096 : Int32) ≤ nI 4096 by decide +kernel)]
      exact fin g2 k2 V2 od2 w2 σ2 e2 e3 e4 (fun j hj => by omega)
end FD
