/-! THE CLASS'S WAY: which sets lie on a cheapest way, its first STEPS -/
section PT
variable {h h' : TH} {M : Nat → Int32} {big : Nat → Nat} {cw t tm a5 a6 a7 a8 a9 : Nat} {k V od : Nat → Nat} {w σ least : Nat} {goal : Int32}
theorem Mv_cost (hw : Wf M) (hc : cw = 0 ∨ cw = 4096) {u v c : Nat} (hu : u < 2 ^ aN M) (h : Mv M big cw u v c) : 1 ≤ c ∧ c ≤ 405505 := by
  obtain ⟨_, code, hm⟩ := h
  exact (mvs_ok hw hc (St_nI hu) hm).2
/-- on from a settled set along a cheapest way -/
theorem tight (hw : Wf M) (hD : DJ h t tm M big cw a5 a6 a7 a8 k V od w σ σ) (hl : Lst M big cw goal least) (hb : least ≤ 1660948480) (hend : ∀ j, j < w → least < k (V j)) {i v c m b : Nat} (hi : i < σ) (hm : Mv M big cw (od i) v c) (hB : Bk M big cw goal m v b) (e : k (od i) + c + b = least) : k v = k (od i) + c ∧ ∃ i', i < i' ∧ i' < σ ∧ od i' = v := by
  obtain ⟨d1, d2, d3, d4, d5, d6, d7, u1, u2, u3, u4, u5, u6, u7, u8, u9, u10⟩ := hD
  have ho := (d7 i hi).2
  have hc := Mv_cost hw d1.cw01 ho hm
  have h1 := u6 i hi v c hm
  have hkF : k v < 2147483647 := by omega
  obtain ⟨m0, hm0⟩ := u7 v hm.1 hkF
  obtain ⟨m'', v', h4, h5⟩ := Bk_Wk m v b hB m0 (k v) hm0 hm.1
  have h6 := hl.2 m'' v' _ h4 h5
  have e1 : k v = k (od i) + c := by omega
  refine ⟨e1, ?_⟩
  rcases (u3 v hm.1).mp hkF with ⟨i', z1, z2⟩ | ⟨j, z1, z2⟩
  · refine ⟨i', ?_, z1, z2⟩
    rcases Nat.lt_or_ge i i' with q | q
    · exact q
    · exfalso
      rcases Nat.lt_or_ge i' i with q2 | q2
      · have := u4 i' i q2 hi
        rw [z2] at this
        omega
      · rw [show i' = i by omega] at z2
        rw [z2] at e1
        omega
  · have := hend j z1
    rw [z2] at this
    omega
/-- so few STEPS -/
theorem few_steps (hw : Wf M) (hD : DJ h t tm M big cw a5 a6 a7 a8 k V od w σ σ) (hl : Lst M big cw goal least) (hb : least ≤ 1660948480) (hend : ∀ j, j < w → least < k (V j)) : ∀ m i, i < σ → ∀ b, Bk M big cw goal m (od i) b → k (od i) + b = least → i + m < σ := by
  intro m
  induction m with
  | zero => intro i hi b _ _; exact hi
  | succ m ih =>
    rintro i hi b ⟨v, c, b', h1, h2, rfl⟩ e
    obtain ⟨e1, i', z1, z2, z3⟩ := tight hw hD hl hb hend hi h1 h2 (by omega)
    have := ih i' z2 b' (by rw [z3]; exact h2) (by rw [z3, e1]; omega)
    omega
theorem Bk_mod (hw : Wf M) : ∀ m u c, u < 2 ^ aN M → Bk M big 4096 goal m u c → c % 4096 = m % 4096 := by
  intro m
  induction m with
  | zero => rintro u c _ ⟨_, rfl⟩; rfl
  | succ m ih =>
    rintro u c hu ⟨v, k, c', h1, h2, rfl⟩
    have e := ih v c' h1.1 h2
    have : k % 4096 = 1 := by
      obtain ⟨d, hd, hm⟩ := Mv_D h1
      rcases hm.2 with ⟨_, _, q⟩ | ⟨_, _, _, _, q⟩ | ⟨_, _, q⟩ <;> rw [q]
      · unfold cst; omega
      · unfold cst; omega
    omega
/-- onPath's row -/
def A9 (h : TH) (t n a5 a6 a7 a8 a9 : Nat) : Prop := h.P t 9 = some a9 ∧ h.K a9 = 102 ∧ 2 ^ n ≤ h.N a9 ∧ h.N a9 ≤ 60000 ∧ 222 ≤ a9 ∧ a9 ≠ a5 ∧ a9 ≠ a6 ∧ a9 ≠ a7 ∧ a9 ≠ a8
theorem A9.sm {S : Nat → Prop} {n : Nat} (h9 : A9 h t n a5 a6 a7 a8 a9) (hs : Sm S h h') : A9 h' t n a5 a6 a7 a8 a9 := by
  unfold A9 at h9 ⊢
  rw [hs.P, hs.K, hs.N]
  exact h9
def cnd (h : TH) (k : Nat → Nat) (a9 u least : Nat) (m : Int32 × Nat × Nat) : Prop := k u + m.2.1 ≤ least ∧ k (ix m.1) = k u + m.2.1 ∧ ¬ h.I a9 (ix m.1) = 0
def inMo (t a : Nat) : Prop := inMv t a
theorem DJ.mv (hD : DJ h t tm M big cw a5 a6 a7 a8 k V od w σ σ) (s7 : Sm (inMv t) h h') (s8 : ∀ j, j ≠ 15 → h'.I t j = h.I t j) : DJ h' t tm M big cw a5 a6 a7 a8 k V od w σ σ := by
  have ht := is2_rng hD.1.1
  have qa := hD.2.1.2.2.2.2.1
  have b5 := qa a5 (Or.inl rfl)
  have b6 := qa a6 (Or.inr (Or.inl rfl))
  have b7 := qa a7 (Or.inr (Or.inr (Or.inl rfl)))
  have b8 := qa a8 (Or.inr (Or.inr (Or.inr rfl)))
  exact hD.sm s7 (fun a z1 z2 => by unfold inMv; omega) (fun a z1 z2 => by unfold inMv; omega) (by unfold inMv; omega) (fun j hj => s8 j (by omega))
theorem S49 {C : Int32 → TH → Prop} (hw : Wf M) (hD : DJ h t tm M big cw a5 a6 a7 a8 k V od w σ σ) (h9 : A9 h t (aN M) a5 a6 a7 a8 a9) {u : Nat} (hu : u < 2 ^ aN M) (hku : k u ≤ 1660948480) (hb : least ≤ 1660948480)
    (kN : ∀ h', Sm (inMv t) h h' → (∀ j, j ≠ 15 → h'.I t j = h.I t j) → LRow h' t (mvs M big cw (nI u)) → (∀ (i : Nat) m, (mvs M big cw (nI u))[i]? = some m → ¬ cnd h k a9 u least m) → C (-1) h')
    (kS : ∀ h' (i : Nat) m, Sm (inMv t) h h' → (∀ j, j ≠ 15 → h'.I t j = h.I t j) → LRow h' t (mvs M big cw (nI u)) → (mvs M big cw (nI u))[i]? = some m → cnd h k a9 u least m → (∀ (i' : Nat) m', i' < i → (mvs M big cw (nI u))[i']? = some m' → ¬ cnd h k a9 u least m') → C (nI i) h') : W49 t (nI u) (nI least) h C := by
  have h12 := hw.n12
  have p12 : 2 ^ aN M ≤ 2 ^ 12 := Nat.pow_le_pow_right (by omega) h12
  have hss := St_nI hu
  have ht := is2_rng hD.1.1
  unfold W49
  refine S41 hw hD.1 hss (fun g s7 s8 s9 => ?_)
  have hDg := hD.mv s7 s8
  have h9g := h9.sm s7
  have hlen := mvs_len (M := M) (big := big) (cw := cw) (s := nI u) hw
  have n9 : ¬ inMv t a9 := by unfold inMv; have := h9.2.2.2.2.1; omega
  unfold B49_7
  refine LFP.up (mvs M big cw (nI u)).length (fun j q => q = (nI j, g) ∧ ∀ (i : Nat) m, i < j → (mvs M big cw (nI u))[i]? = some m → ¬ cnd h k a9 u least m) ?_ ?_ (Nat.zero_le _) ⟨rfl, fun i m hi => absurd hi (Nat.not_lt_zero _)⟩
  · rintro X j q hj ⟨rfl, e3⟩ ih
    obtain ⟨m, hm⟩ : ∃ m, (mvs M big cw (nI u))[j]? = some m := ⟨_, List.getElem?_eq_getElem hj⟩
    obtain ⟨m1, m2, m3⟩ := s9.2 j m hm
    obtain ⟨o1, o2, o3⟩ := mvs_ok hw hD.1.cw01 hss (idx_mem hm)
    obtain ⟨v, hv, ev⟩ := o1
    have r5 := hDg.2.1.1
    have kv := hDg.2.2.2.2.1 v hv
    have nxt : ¬ cnd h k a9 u least m → X (nI j + 1, g) := by
      intro nc
      refine ih _ ⟨by rw [nI_1], fun i m' hi hm' => ?_⟩
      by_cases e : i = j
      · rw [e, hm] at hm'; cases hm'; exact nc
      · exact e3 i m' (by omega) hm'
    have ixv : ix m.1 = v := by rw [ev, ix_n (by omega)]
    unfold F49_7
    (try dsimp only)
    rw [s9.1, if_neg (nI_ge hj (by omega)), R_of r5, R_of h9g.1, ix_n (by omega), ix_n (by omega), (hDg.2.2.2.2.1 u hu).1, m1, m2, nI_add, ixv, kv.1, s7.I n9]
    refine ⟨r5, hDg.2.1.ok5 hu, inb_n (by omega), ?_⟩
    by_cases e1 : k u + m.2.1 ≤ least
    · rw [if_neg (nI_nlt e1 (by omega))]
      refine ⟨r5, inb_n (by omega), by rw [ev]; exact hDg.2.1.ok5 hv, ?_⟩
      by_cases e2 : k v = k u + m.2.1
      · rw [if_neg (fun q => q (by rw [e2]))]
        refine ⟨h9g.1, inb_n (by omega), by rw [ev]; exact okA_n h9g.2.1 (by have := h9g.2.2.1; omega) h9g.2.2.2.1, ?_⟩
        by_cases e4 : h.I a9 v = 0
        · rw [if_pos e4]
          exact nxt (fun q => q.2.2 (by rw [ixv]; exact e4))
        · rw [if_neg e4]
          refine kS g j m s7 s8 s9 hm ⟨e1, by rw [ixv]; exact e2, by rw [ixv]; exact e4⟩ (fun i' m' hi' hm' => e3 i' m' hi' hm')
      · rw [if_pos (fun q => e2 ((nI_eq (by omega) (by omega)).mp q))]
        exact nxt (fun q => e2 (by have := q.2.1; rw [ixv] at this; exact this))
    · rw [if_pos (nI_lt (by omega) (by omega))]
      exact nxt (fun q => e1 q.1)
  · rintro X q ⟨rfl, e3⟩
    unfold F49_7
    (try dsimp only)
    rw [s9.1, if_pos (nI_le (Nat.le_refl _) (by omega))]
    refine kN g s7 s8 s9 (fun i m hm => ?_)
    have : i < (mvs M big cw (nI u)).length := by
      rcases Nat.lt_or_ge i (mvs M big cw (nI u)).length with q | q
      · exact q
      · rw [List.getElem?_eq_none q] at hm; cases hm
    exact e3 i m this hm
/-- u lies on a cheapest way -/
def onP (M : Nat → Int32) (big : Nat → Nat) (cw : Nat) (goal : Int32) (k : Nat → Nat) (least u : Nat) : Prop := k u ≤ least ∧ ∃ m, Bk M big cw goal m u (least - k u)
/-- the row tells it of the sets from place i on -/
def Told9 (h : TH) (M : Nat → Int32) (big : Nat → Nat) (cw : Nat) (goal : Int32) (k od : Nat → Nat) (a9 least i σ : Nat) : Prop := ∀ i', i ≤ i' → i' < σ → (onP M big cw goal k least (od i') → h.I a9 (od i') = 1) ∧ (¬ onP M big cw goal k least (od i') → h.I a9 (od i') = 0)
/-- what firstOnPath finds -/
theorem cnd_iff (hw : Wf M) (hD : DJ h t tm M big cw a5 a6 a7 a8 k V od w σ σ) (hl : Lst M big cw goal least) (hb : least ≤ 1660948480) (hend : ∀ j, j < w → least < k (V j)) {i : Nat} (hi : i < σ) (h9 : Told9 h M big cw goal k od a9 least (i + 1) σ) {m : Int32 × Nat × Nat} (hm : m ∈ mvs M big cw (nI (od i))) : cnd h k a9 (od i) least m ↔ (k (od i) + m.2.1 ≤ least ∧ ∃ n, Bk M big cw goal n (ix m.1) (least - k (od i) - m.2.1)) := by
  have h12 := hw.n12
  have p12 : 2 ^ aN M ≤ 2 ^ 12 := Nat.pow_le_pow_right (by omega) h12
  have ho := (hD.2.2.2.2.2.2.1 i hi).2
  obtain ⟨o1, o2, o3⟩ := mvs_ok hw hD.1.cw01 (St_nI ho) hm
  obtain ⟨v, hv, ev⟩ := o1
  have ixv : ix m.1 = v := by rw [ev, ix_n (by omega)]
  have hmv : Mv M big cw (od i) v m.2.1 := ⟨hv, m.2.2, by rw [← ev]; exact hm⟩
  unfold cnd
  rw [ixv]
  constructor
  · rintro ⟨c1, c2, c3⟩
    refine ⟨c1, ?_⟩
    have u3 := hD.2.2.2.2.2.2.2.2.2.1
    rcases (u3 v hv).mp (by omega) with ⟨i', z1, z2⟩ | ⟨j, z1, z2⟩
    · have hii : i < i' := by
        rcases Nat.lt_or_ge i i' with q | q
        · exact q
        · exfalso
          rcases Nat.lt_or_ge i' i with q2 | q2
          · have := hD.2.2.2.2.2.2.2.2.2.2.1 i' i q2 hi
            rw [z2] at this
            omega
          · rw [show i' = i by omega] at z2
            rw [z2] at c2
            omega
      have t9 := h9 i' (by omega) z1
      rw [z2] at t9
      by_cases e : onP M big cw goal k least v
      · obtain ⟨e1, n, e2⟩ := e
        refine ⟨n, ?_⟩
        rw [show least - k (od i) - m.2.1 = least - k v by omega]
        exact e2
      · exact absurd (t9.2 e) c3
    · have := hend j z1
      rw [z2] at this
      omega
  · rintro ⟨c1, n, c2⟩
    obtain ⟨e1, i', z1, z2, z3⟩ := tight hw hD hl hb hend hi hmv c2 (by omega)
    refine ⟨c1, e1, ?_⟩
    have t9 := h9 i' (by omega) z2
    rw [z3] at t9
    rw [t9.1 ⟨by omega, n, by rw [show least - k v = least - k (od i) - m.2.1 by omega]; exact c2⟩]
    decide
theorem Bk_pos (hw : Wf M) (hc : cw = 0 ∨ cw = 4096) {m u b : Nat} (hu : u < 2 ^ aN M) (hB : Bk M big cw goal m u b) : b = 0 → sb goal (nI u) := by
  intro e
  cases m with
  | zero => exact hB.1
  | succ m =>
    obtain ⟨v, k, c', h1, h2, h3⟩ := hB
    have := Mv_cost hw hc hu h1
    omega
theorem S48 {C : TH → Prop} (hw : Wf M) (hD : DJ h t tm M big cw a5 a6 a7 a8 k V od w σ σ) (h9 : A9 h t (aN M) a5 a6 a7 a8 a9) (hl : Lst M big cw goal least) (hb : least ≤ 1660948480) (hend : ∀ j, j < w → least < k (V j)) (kk : ∀ g, Sm (fun a => inMv t a ∨ a = a9) h g → (∀ j, j ≠ 15 → g.I t j = h.I t j) → DJ g t tm M big cw a5 a6 a7 a8 k V od w σ σ → Told9 g M big cw goal k od a9 least 0 σ → C g) : W48 t goal (nI least) h C := by
  have h12 := hw.n12
  have p12 : 2 ^ aN M ≤ 2 ^ 12 := Nat.pow_le_pow_right (by omega) h12
  have hfit := hD.fits
  have ht := is2_rng hD.1.1
  have hcw := hD.1.cw01
  have n222 := h9.2.2.2.2.1
  unfold W48
  rw [hD.2.2.2.1]
  unfold B48_7
  refine LFP.down (fun m q => m ≤ σ ∧ q.1 = nI m - 1 ∧ Sm (fun a => inMv t a ∨ a = a9) h q.2 ∧ (∀ j, j ≠ 15 → q.2.I t j = h.I t j) ∧ DJ q.2 t tm M big cw a5 a6 a7 a8 k V od w σ σ ∧ Told9 q.2 M big cw goal k od a9 least m σ) ?_ ?_ (n := σ) ⟨Nat.le_refl _, rfl, Sm.refl, fun _ _ => rfl, hD, fun i' h1 h2 => by omega⟩
  · rintro X m ⟨x3, g⟩ ⟨e0, e1, e2, e3, e4, e5⟩ ih
    (try dsimp only at e1 e2 e3 e4 e5)
    rw [nI_pred] at e1
    subst e1
    have hm1 : nI m + (-1) = nI m - 1 := by rw [Int32.sub_eq_add_neg]
    have r8 := e4.2.1.2.2.2.1
    have r5 := e4.2.1.1
    obtain ⟨o1, o2⟩ := e4.2.2.2.2.2.2.1 m (by omega)
    have kv := e4.2.2.2.2.1 (od m) o2
    have h9g := h9.sm e2
    have ku := e4.2.2.2.2.2.2.2.2.2.2.2.2.2.2.2.1 m (by omega)
    have zb : m * 405505 ≤ 4096 * 405505 := Nat.mul_le_mul_right _ (by omega)
    have ok9 : okA g a9 102 (nI (od m)) := okA_n h9g.2.1 (by have := h9g.2.2.1; omega) h9g.2.2.2.1
    /- the sign is put down -/
    have put : ∀ (g' : TH) (val : Int32), Sm (inMv t) g g' → (∀ j, j ≠ 15 → g'.I t j = g.I t j) → ((onP M big cw goal k least (od m) → val = 1) ∧ (¬ onP M big cw goal k least (od m) → val = 0)) → X (nI m + (-1), g'.sI a9 (od m) val) := by
      intro g' val s1 s2 hv
      have n5 := e4.2.1.2.2.2.2.1 a5 (Or.inl rfl)
      have s3 : Sm (fun a => inMv t a ∨ a = a9) h g' := e2.trans (s1.mono (fun a z => Or.inl z))
      have s4 : Sm (fun a => a = a9) g' (g'.sI a9 (od m) val) := Sm.sI (S := fun a => a = a9) Sm.refl rfl _
      have dg := (e4.mv s1 s2)
      refine ih _ ⟨by omega, hm1, s3.sI (Or.inr rfl) _, fun j hj => ?_, ?_, fun i' i1 i2 => ?_⟩
      · (try dsimp only)
        rw [I_ne (by omega), s2 j hj, e3 j hj]
      · refine dg.sm s4 (fun a z1 z2 => by omega) (fun a z1 z2 => by omega) ?_ (fun j hj => I_ne (by omega))
        obtain ⟨-, -, -, -, -, q1, q2, q3, q4⟩ := h9
        exact ⟨fun z => q1 z.symm, fun z => q2 z.symm, fun z => q3 z.symm, fun z => q4 z.symm⟩
      · (try dsimp only)
        rw [I_at]
        by_cases e : i' = m
        · subst e
          rw [if_pos rfl]
          exact hv
        · rw [if_neg (fun q => e (dg.2.2.2.2.2.2.2.1 i' i2 m (by omega) q)), s1.I (by unfold inMv; omega)]
          exact e5 i' (by omega) i2
    unfold F48_7 B48_85 B48_52
    (try dsimp only)
    rw [if_neg (nI_pos (by omega)), R_of r8, R_of r5, R_of h9g.1, ix_n (by omega), o1, ix_n (by omega), kv.1]
    refine ⟨r8, e4.2.1.ok8 (by omega), r5, e4.2.1.ok5 o2, ?_⟩
    by_cases e : least ≤ k (od m)
    · rw [if_pos (nI_le e (by omega))]
      refine ⟨h9g.1, r5, e4.2.1.ok5 o2, ?_⟩
      by_cases e6 : k (od m) = least
      · rw [if_neg (fun q => q (by rw [e6]))]
        by_cases e7 : nI (od m) &&& goal = goal
        · rw [if_neg (fun q => q e7)]
          refine ⟨ok9, put g 1 Sm.refl (fun _ _ => rfl) ⟨fun _ => rfl, fun q => absurd ⟨by omega, 0, bt_sup.mp e7, by omega⟩ q⟩⟩
        · rw [if_pos e7]
          refine ⟨ok9, put g 0 Sm.refl (fun _ _ => rfl) ⟨fun q => ?_, fun _ => rfl⟩⟩
          obtain ⟨q1, n, q2⟩ := q
          exact absurd (bt_sup.mpr (Bk_pos hw hcw o2 q2 (by omega))) e7
      · rw [if_pos (fun q => e6 ((nI_eq (by omega) (by omega)).mp q))]
        refine ⟨ok9, put g 0 Sm.refl (fun _ _ => rfl) ⟨fun q => ?_, fun _ => rfl⟩⟩
        have := q.1
        omega
    · rw [if_neg (nI_ge (by omega) (by omega))]
      refine ⟨h9g.1, ?_⟩
      have key : onP M big cw goal k least (od m) ↔ ∃ (i : Nat) (m' : Int32 × Nat × Nat), (mvs M big cw (nI (od m)))[i]? = some m' ∧ cnd g k a9 (od m) least m' := by
        constructor
        · rintro ⟨q1, n, q2⟩
          cases n with
          | zero => have := q2.2; omega
          | succ n =>
            obtain ⟨v, c, b', h1, h2, h3⟩ := q2
            obtain ⟨hv, code, hmem⟩ := h1
            obtain ⟨i, hi, hi2⟩ := mem_idx hmem
            refine ⟨i, _, hi2, (cnd_iff hw e4 hl hb hend (by omega) e5 hmem).mpr ⟨by (try dsimp only); omega, n, ?_⟩⟩
            (try dsimp only)
            rw [ix_n (by omega), show least - k (od m) - c = b' by omega]
            exact h2
        · rintro ⟨i, m', hi, hc⟩
          have hmem := idx_mem hi
          obtain ⟨c1, n, c2⟩ := (cnd_iff hw e4 hl hb hend (by omega) e5 hmem).mp hc
          obtain ⟨z1, z2, z3⟩ := mvs_ok hw hcw (St_nI o2) hmem
          obtain ⟨v, hv, ev⟩ := z1
          refine ⟨by omega, n + 1, v, m'.2.1, least - k (od m) - m'.2.1, ⟨hv, m'.2.2, by rw [← ev]; exact hmem⟩, ?_, ?_⟩
          · have : ix m'.1 = v := by rw [ev, ix_n (by omega)]
            rw [this] at c2
            exact c2
          · omega
      refine S49 hw e4 h9g o2 (by omega) hb (fun g' s1 s2 s3 s4 => ?_) (fun g' i m' s1 s2 s3 s4 s5 s6 => ?_)
      · rw [if_pos rfl]
        refine ⟨?_, put g' 0 s1 s2 ⟨fun q => ?_, fun _ => rfl⟩⟩
        · exact okA_n (by rw [s1.K]; exact h9g.2.1) (by rw [s1.N]; have := h9g.2.2.1; omega) (by rw [s1.N]; exact h9g.2.2.2.1)
        · obtain ⟨i, m', q1, q2⟩ := key.mp q
          exact absurd q2 (s4 i m' q1)
      · have hil : i < 60 := by
          have := mvs_len (M := M) (big := big) (cw := cw) (s := nI (od m)) hw
          rcases Nat.lt_or_ge i (mvs M big cw (nI (od m))).length with q | q
          · omega
          · rw [List.getElem?_eq_none q] at s4; cases s4
        rw [if_neg (nI_ne1 (by omega))]
        refine ⟨?_, put g' 1 s1 s2 ⟨fun _ => rfl, fun q => absurd (key.mpr ⟨i, m', s4, s5⟩) q⟩⟩
        exact okA_n (by rw [s1.K]; exact h9g.2.1) (by rw [s1.N]; have := h9g.2.2.1; omega) (by rw [s1.N]; exact h9g.2.2.2.1)
  · rintro X ⟨x3, g⟩ ⟨e0, e1, e2, e3, e4, e5⟩
    (try dsimp only at e1 e2 e3 e4 e5)
    subst e1
    unfold F48_7
    (try dsimp only)
    rw [if_pos nI_0s]
    exact kk g e2 e3 e4 e5
end PT
