/-! FIRST: the STEPS one by one -/
/-- the least that is to go from u -/
def LB (M : Nat → Int32) (big : Nat → Nat) (goal : Int32) (u a : Nat) : Prop := (∃ m, Bk M big 4096 goal m u a) ∧ ∀ m c, Bk M big 4096 goal m u c → a ≤ c
def gd (M : Nat → Int32) (big : Nat → Nat) (goal : Int32) (u : Nat) (m : Int32 × Nat × Nat) : Prop := ∃ a b, LB M big goal u a ∧ LB M big goal (ix m.1) b ∧ a = b + m.2.1
/-- the first of the moves that lies on a cheapest way -/
def FG (M : Nat → Int32) (big : Nat → Nat) (goal : Int32) (u i : Nat) (m : Int32 × Nat × Nat) : Prop := (mvs M big 4096 (nI u))[i]? = some m ∧ gd M big goal u m ∧ ∀ (i' : Nat) m', i' < i → (mvs M big 4096 (nI u))[i']? = some m' → ¬ gd M big goal u m'
def FP (M : Nat → Int32) (big : Nat → Nat) (goal : Int32) (len : Nat) (P U : Nat → Nat) : Prop := U 0 = 0 ∧ (∀ j, j < len → ¬ sb goal (nI (U j)) ∧ ∃ i m, FG M big goal (U j) i m ∧ U (j + 1) = ix m.1 ∧ P j = m.2.2) ∧ sb goal (nI (U len))
section FI
variable {h h' : TH} {M : Nat → Int32} {big : Nat → Nat} {goal : Int32} {t tm a5 a6 a7 a8 a9 : Nat} {k V od : Nat → Nat} {w σ least : Nat}
theorem FG_one {u i i' : Nat} {m m' : Int32 × Nat × Nat} (h1 : FG M big goal u i m) (h2 : FG M big goal u i' m') : m = m' := by
  obtain ⟨a1, a2, a3⟩ := h1
  obtain ⟨b1, b2, b3⟩ := h2
  rcases Nat.lt_trichotomy i i' with q | q | q
  · exact absurd a2 (b3 i m q a1)
  · subst q
    rw [a1] at b1
    exact Option.some.inj b1
  · exact absurd b2 (a3 i' m' q b1)
theorem FP_one {len len' : Nat} {P P' U U' : Nat → Nat} (h1 : FP M big goal len P U) (h2 : FP M big goal len' P' U') : len = len' ∧ ∀ j, j < len → P j = P' j := by
  have key : ∀ j, j ≤ len → j ≤ len' → U j = U' j := by
    intro j
    induction j with
    | zero => intro _ _; rw [h1.1, h2.1]
    | succ j ih =>
      intro z1 z2
      have e := ih (by omega) (by omega)
      obtain ⟨_, i, m, f1, f2, f3⟩ := h1.2.1 j (by omega)
      obtain ⟨_, i', m', g1, g2, g3⟩ := h2.2.1 j (by omega)
      rw [← e] at g1
      rw [f2, g2, FG_one f1 g1]
  have el : len = len' := by
    rcases Nat.lt_trichotomy len len' with q | q | q
    · have := (h2.2.1 len q).1
      rw [← key len (by omega) (by omega)] at this
      exact absurd h1.2.2 this
    · exact q
    · have := (h1.2.1 len' q).1
      rw [key len' (by omega) (by omega)] at this
      exact absurd h2.2.2 this
  refine ⟨el, fun j hj => ?_⟩
  obtain ⟨_, i, m, f1, f2, f3⟩ := h1.2.1 j hj
  obtain ⟨_, i', m', g1, g2, g3⟩ := h2.2.1 j (by omega)
  rw [← key j (by omega) (by omega)] at g1
  rw [f3, g3, FG_one f1 g1]
theorem Wk_mod (hw : Wf M) : ∀ m u c, Wk M big 4096 m u c → u < 2 ^ aN M ∧ c % 4096 = m % 4096 := by
  intro m
  induction m with
  | zero => rintro u c ⟨rfl, rfl⟩; exact ⟨Nat.pos_of_ne_zero (by simp), rfl⟩
  | succ m ih =>
    rintro v c ⟨u, c', k, h1, h2, rfl⟩
    obtain ⟨hu, e⟩ := ih u c' h1
    refine ⟨h2.1, ?_⟩
    have : k % 4096 = 1 := by
      obtain ⟨d, hd, hm⟩ := Mv_D h2
      rcases hm.2 with ⟨_, _, q⟩ | ⟨_, _, _, _, q⟩ | ⟨_, _, q⟩ <;> rw [q]
      · unfold cst; omega
      · unfold cst; omega
    omega
/-- the class's sign is that a move is good -/
theorem cnd_gd (hw : Wf M) (hD : DJ h t tm M big 4096 a5 a6 a7 a8 k V od w σ σ) (hl : Lst M big 4096 goal least) (hb : least ≤ 1660948480) (hend : ∀ j, j < w → least < k (V j)) {i : Nat} (hi : i < σ) (h9 : Told9 h M big 4096 goal k od a9 least 0 σ) (hon : onP M big 4096 goal k least (od i)) {m : Int32 × Nat × Nat} (hm : m ∈ mvs M big 4096 (nI (od i))) : cnd h k a9 (od i) least m ↔ gd M big goal (od i) m := by
  have h12 := hw.n12
  have p12 : 2 ^ aN M ≤ 2 ^ 12 := Nat.pow_le_pow_right (by omega) h12
  have ho := (hD.2.2.2.2.2.2.1 i hi).2
  obtain ⟨o1, o2, o3⟩ := mvs_ok hw hD.1.cw01 (St_nI ho) hm
  obtain ⟨v, hv, ev⟩ := o1
  have ixv : ix m.1 = v := by rw [ev, ix_n (by omega)]
  have hmv : Mv M big 4096 (od i) v m.2.1 := ⟨hv, m.2.2, by rw [← ev]; exact hm⟩
  have ku := hD.2.2.2.2.2.2.2.2.2.2.2.2.2.2.2.1 i hi
  have hfit := hD.fits
  have zb : i * 405505 ≤ 4096 * 405505 := Nat.mul_le_mul_right _ (by omega)
  obtain ⟨m0, hm0⟩ := hD.2.2.2.2.2.2.2.2.2.2.2.2.2.1 (od i) ho (by omega)
  obtain ⟨q1, n0, q2⟩ := hon
  have lbu : LB M big goal (od i) (least - k (od i)) := by
    refine ⟨⟨n0, q2⟩, fun m c hc => ?_⟩
    obtain ⟨m'', v', z1, z2⟩ := Bk_Wk m (od i) c hc m0 _ hm0 ho
    have := hl.2 m'' v' _ z1 z2
    omega
  rw [cnd_iff hw hD hl hb hend hi (fun i' z1 z2 => h9 i' (by omega) z2) hm]
  unfold gd
  rw [ixv]
  constructor
  · rintro ⟨c1, n, c2⟩
    refine ⟨_, least - k (od i) - m.2.1, lbu, ⟨⟨n, c2⟩, fun m' c hc => ?_⟩, by omega⟩
    have := lbu.2 (m' + 1) (c + m.2.1) ⟨v, m.2.1, c, hmv, hc, rfl⟩
    omega
  · rintro ⟨a, b, l1, l2, l3⟩
    obtain ⟨⟨n1, z1⟩, z2⟩ := l1
    obtain ⟨⟨n2, z3⟩, z4⟩ := l2
    have e1 := z2 n0 _ q2
    have e2 := lbu.2 n1 a z1
    refine ⟨by omega, n2, ?_⟩
    rw [show least - k (od i) - m.2.1 = b by omega]
    exact z3
/-- the row of the way -/
def A16 (h : TH) (t a16 : Nat) : Prop := h.P t 16 = some a16 ∧ h.K a16 = 100 ∧ h.N a16 ≤ 4096 ∧ (a16 = t + 12 ∨ 222 ≤ a16) ∧ a16 < h.n
theorem A16.sm {S : Nat → Prop} {a16 : Nat} (ha : A16 h t a16) (hs : Sm S h h') : A16 h' t a16 := by
  unfold A16 at ha ⊢
  rw [hs.P, hs.K, hs.N, hs.n]
  exact ha
/-- the walk itself, from the row on -/
theorem S50w {C : TH → Prop} {a16 : Nat} (hw : Wf M) (hD : DJ h t tm M big 4096 a5 a6 a7 a8 k V od w σ σ) (h9 : A9 h t (aN M) a5 a6 a7 a8 a9) (h16 : A16 h t a16) (hne : a16 ≠ a5 ∧ a16 ≠ a6 ∧ a16 ≠ a7 ∧ a16 ≠ a8 ∧ a16 ≠ a9) (hN : least % 4096 ≤ h.N a16) (hl : Lst M big 4096 goal least) (hb : least ≤ 1660948480) (hend : ∀ j, j < w → least < k (V j)) (t9 : Told9 h M big 4096 goal k od a9 least 0 σ) (h0 : ∃ i, i < σ ∧ od i = 0) (kk : ∀ g P U, Sm (fun a => inMv t a ∨ a = a16) h g → (∀ j, j ≠ 15 → j ≠ 17 → g.I t j = h.I t j) → DJ g t tm M big 4096 a5 a6 a7 a8 k V od w σ σ → FP M big goal (least % 4096) P U → g.I t 17 = nI (least % 4096) → (∀ j, j < least % 4096 → g.I a16 j = nI (P j)) → C g) : B50_26 t (nI least) (nI (least % 4096)) h C := by
  have h12 := hw.n12
  have p12 : 2 ^ aN M ≤ 2 ^ 12 := Nat.pow_le_pow_right (by omega) h12
  have hfit := hD.fits
  have ht := is2_rng hD.1.1
  have n9 := h9.2.2.2.2.1
  obtain ⟨i0, i0a, i0b⟩ := h0
  have k0 := hD.2.2.2.2.2.2.2.2.2.2.2.2.2.2.1
  obtain ⟨⟨mL, vL, wl1, wl2⟩, wl3⟩ := hl
  have hl : Lst M big 4096 goal least := ⟨⟨mL, vL, wl1, wl2⟩, wl3⟩
  have qa := hD.2.1.2.2.2.2.1
  have b5 := qa a5 (Or.inl rfl)
  have b6 := qa a6 (Or.inr (Or.inl rfl))
  have b7 := qa a7 (Or.inr (Or.inr (Or.inl rfl)))
  have b8 := qa a8 (Or.inr (Or.inr (Or.inr rfl)))
  /- the beginning lies on it -/
  have W2B : ∀ m v c, Wk M big 4096 m v c → ∀ m' b, Bk M big 4096 goal m' v b → ∃ m'', Bk M big 4096 goal m'' 0 (c + b) := by
    intro m
    induction m with
    | zero =>
      rintro v c ⟨rfl, rfl⟩ m' b hb
      exact ⟨m', by rw [Nat.zero_add]; exact hb⟩
    | succ m ih =>
      rintro v c ⟨u, c', kk', z1, z2, rfl⟩ m' b hb
      obtain ⟨m'', z3⟩ := ih u c' z1 (m' + 1) (b + kk') ⟨v, kk', b, z2, hb, rfl⟩
      exact ⟨m'', by rw [show c' + kk' + b = c' + (b + kk') by omega]; exact z3⟩
  have on0 : onP M big 4096 goal k least 0 := by
    obtain ⟨m'', z⟩ := W2B mL vL least wl1 0 0 ⟨wl2, rfl⟩
    exact ⟨by omega, m'', by rw [k0]; exact z⟩
  unfold B50_26 B50_36
  have s0 : Sm (fun a => inMv t a ∨ a = a16) h (h.sI t 17 0) := Sm.refl.sI (Or.inl (by unfold inMv; omega)) _
  have r16 := h16.2.2.2.1
  have dfr : ∀ g, Sm (fun a => inMv t a ∨ a = a16) h g → (∀ j, j ≠ 15 → j ≠ 17 → g.I t j = h.I t j) → DJ g t tm M big 4096 a5 a6 a7 a8 k V od w σ σ ∧ Told9 g M big 4096 goal k od a9 least 0 σ := by
    intro g q1 q2
    refine ⟨hD.sm q1 (fun a z1 z2 => by unfold inMv; omega) (fun a z1 z2 => by unfold inMv; omega) (by unfold inMv; omega) (fun j hj => q2 j (by omega) (by omega)), ?_⟩
    intro i' z1 z2
    rw [q1.I (by unfold inMv; omega)]
    exact t9 i' z1 z2
  have ubnd : ∀ i, i < σ → k (od i) ≤ 1660948480 := by
    intro i hi
    have := hD.2.2.2.2.2.2.2.2.2.2.2.2.2.2.2.1 i hi
    have zb : i * 405505 ≤ 4096 * 405505 := Nat.mul_le_mul_right _ (by omega)
    omega
  refine LFP.up (least % 4096) (fun j q => q.2.1 = nI j ∧ ∃ U P idx, q.1 = nI (U j) ∧ Sm (fun a => inMv t a ∨ a = a16) h q.2.2 ∧ (∀ j, j ≠ 15 → j ≠ 17 → q.2.2.I t j = h.I t j) ∧ idx < σ ∧ od idx = U j ∧ j ≤ idx ∧ Wk M big 4096 j (U j) (k (U j)) ∧ onP M big 4096 goal k least (U j) ∧ U 0 = 0 ∧ (∀ j', j' < j → ¬ sb goal (nI (U j')) ∧ ∃ i m, FG M big goal (U j') i m ∧ U (j' + 1) = ix m.1 ∧ P j' = m.2.2) ∧ q.2.2.I t 17 = nI j ∧ ∀ j', j' < j → q.2.2.I a16 j' = nI (P j')) ?_ ?_ (Nat.zero_le _) ⟨rfl, fun _ => 0, fun _ => 0, i0, rfl, s0, fun j j1 j2 => I_nk j2, i0a, i0b, Nat.zero_le _, ⟨rfl, k0⟩, on0, rfl, fun j' hj' => absurd hj' (Nat.not_lt_zero _), I_eq, fun j' hj' => absurd hj' (Nat.not_lt_zero _)⟩
  · rintro X j ⟨x3, x4, g⟩ hj ⟨e1, U, P, idx, e2, e3, e4, e5, e6, e7, e8, e9, e10, e11, e12, e13⟩ ih
    (try dsimp only at e1 e2 e3 e4 e12 e13)
    subst e1 e2
    obtain ⟨dg, tg⟩ := dfr g e3 e4
    have h9g := h9.sm e3
    have hUj : U j < 2 ^ aN M := by rw [← e6]; exact (dg.2.2.2.2.2.2.1 idx e5).2
    have kb := ubnd idx e5
    rw [e6] at kb
    obtain ⟨_, wm⟩ := Wk_mod hw j (U j) _ e8
    have klt : k (U j) < least := by
      have := e9.1
      rcases Nat.lt_or_ge (k (U j)) least with q | q
      · exact q
      · have : k (U j) = least := by omega
        rw [this] at wm
        omega
    have ns : ¬ sb goal (nI (U j)) := fun q => by have := hl.2 j (U j) _ e8 q; omega
    have cg : ∀ m, m ∈ mvs M big 4096 (nI (U j)) → (cnd g k a9 (U j) least m ↔ gd M big goal (U j) m) := by
      intro m hm
      rw [← e6] at hm ⊢
      exact cnd_gd hw dg hl hb hend e5 tg (by rw [e6]; exact e9) hm
    have ci : ∀ m, m ∈ mvs M big 4096 (nI (U j)) → (cnd g k a9 (U j) least m ↔ (k (U j) + m.2.1 ≤ least ∧ ∃ n, Bk M big 4096 goal n (ix m.1) (least - k (U j) - m.2.1))) := by
      intro m hm
      rw [← e6] at hm ⊢
      exact cnd_iff hw dg hl hb hend e5 (fun i' z1 z2 => tg i' (by omega) z2) hm
    unfold F50_36
    (try dsimp only)
    rw [if_neg (nI_ge hj (by omega))]
    have r16g0 : g.P t 16 = some a16 := by rw [e3.P]; exact h16.1
    have K160 : g.K a16 = 100 := by rw [e3.K]; exact h16.2.1
    have N160 : g.N a16 = h.N a16 := by rw [e3.N]
    have N16b := h16.2.2.1
    rw [R_of r16g0, N160]
    refine ⟨r16g0, K160, ?_⟩
    rw [if_neg (nI_ge (by omega) (by omega))]
    refine S49 hw dg h9g hUj (by omega) hb (fun g' s1 s2 s3 s4 => ?_) (fun g' i m s1 s2 s3 s4 s5 s6 => ?_)
    · exfalso
      obtain ⟨_, n, q2⟩ := e9
      cases n with
      | zero => have := q2.2; omega
      | succ n =>
        obtain ⟨v, c, b', h1, h2, h3⟩ := q2
        obtain ⟨hv, code, hmem⟩ := h1
        obtain ⟨i, hi, hi2⟩ := mem_idx hmem
        refine s4 i _ hi2 ((ci _ hmem).mpr ⟨by (try dsimp only); omega, n, ?_⟩)
        (try dsimp only)
        rw [ix_n (by omega), show least - k (U j) - c = b' by omega]
        exact h2
    · have hmem := idx_mem s4
      have hil : i < 48 := by
        have := mvs_len (M := M) (big := big) (cw := 4096) (s := nI (U j)) hw
        rcases Nat.lt_or_ge i (mvs M big 4096 (nI (U j))).length with q | q
        · omega
        · rw [List.getElem?_eq_none q] at s4; cases s4
      obtain ⟨m1, m2, m3⟩ := s3.2 i m s4
      obtain ⟨o1, o2, o3⟩ := mvs_ok hw (Or.inr rfl) (St_nI hUj) hmem
      obtain ⟨v, hv, ev⟩ := o1
      have ixv : ix m.1 = v := by rw [ev, ix_n (by omega)]
      have hmv : Mv M big 4096 (U j) v m.2.1 := ⟨hv, m.2.2, by rw [← ev]; exact hmem⟩
      obtain ⟨c1, n, c2⟩ := (ci m hmem).mp s5
      rw [ixv] at c2
      obtain ⟨kv, idx', z1, z2, z3⟩ := tight hw dg hl hb hend e5 (by rw [e6]; exact hmv) c2 (by rw [e6]; omega)
      rw [e6] at kv
      rw [if_pos (nI_ne1 (by omega))]
      have r16g : g'.P t 16 = some a16 := by rw [s1.P, e3.P]; exact h16.1
      have K16 : g'.K a16 = 100 := by rw [s1.K, e3.K]; exact h16.2.1
      have N16 : g'.N a16 = h.N a16 := by rw [s1.N, e3.N]
      rw [R_of r16g, ix_n (by omega), ix_n (by omega), m3]
      refine ⟨r16g, inb_n (by omega), okA_n K16 (by omega) (by have := h16.2.2.1; omega), inb_n (by omega), ?_⟩
      intro e3' he3
      have na : a16 ≠ t := by omega
      rw [I_ne (by omega), I_ne (by omega), m1, ev] at he3
      subst he3
      rw [nI_1]
      have sg : Sm (fun a => inMv t a ∨ a = a16) h g' := e3.trans (s1.mono (fun a z => Or.inl z))
      refine ih _ ⟨rfl, fun q => if q = j + 1 then v else U q, fun q => if q = j then m.2.2 else P q, idx', ?_, (sg.sI (Or.inr rfl) _).sI (Or.inl (by unfold inMv; omega)) _, fun q q1 q2 => ?_, z2, ?_, by omega, ?_, ?_, ?_, fun j' hj' => ?_, I_eq, fun j' hj' => ?_⟩
      · (try dsimp only)
        rw [if_pos rfl]
      · (try dsimp only)
        rw [I_nk q2, I_ne (by omega), s2 q q1, e4 q q1 q2]
      · (try dsimp only)
        rw [if_pos rfl, z3]
      · (try dsimp only)
        rw [if_pos rfl, kv]
        exact ⟨U j, k (U j), m.2.1, e8, hmv, rfl⟩
      · (try dsimp only)
        rw [if_pos rfl]
        exact ⟨by omega, n, by rw [show least - k v = least - k (U j) - m.2.1 by omega]; exact c2⟩
      · (try dsimp only)
        rw [if_neg (by omega)]
        exact e10
      · (try dsimp only)
        by_cases ej : j' = j
        · subst ej
          rw [if_neg (by omega), if_pos rfl, if_pos rfl]
          exact ⟨ns, i, m, ⟨s4, (cg m hmem).mp s5, fun i' m' hi' hm' q => s6 i' m' hi' hm' ((cg m' (idx_mem hm')).mpr q)⟩, ixv.symm, rfl⟩
        · rw [if_neg (by omega), if_neg (by omega), if_neg ej]
          exact e11 j' (by omega)
      · (try dsimp only)
        rw [I_ne na, I_at]
        by_cases ej : j' = j
        · rw [if_pos ej, if_pos ej]
        · rw [if_neg ej, if_neg ej, s1.I (by unfold inMv; omega)]
          exact e13 j' (by omega)
  · rintro X ⟨x3, x4, g⟩ ⟨e1, U, P, idx, e2, e3, e4, e5, e6, e7, e8, e9, e10, e11, e12, e13⟩
    (try dsimp only at e1 e2 e3 e4 e12 e13)
    subst e1 e2
    obtain ⟨dg, tg⟩ := dfr g e3 e4
    have hUj : U (least % 4096) < 2 ^ aN M := by rw [← e6]; exact (dg.2.2.2.2.2.2.1 idx e5).2
    unfold F50_36
    (try dsimp only)
    rw [if_pos (nI_le (Nat.le_refl _) (by omega))]
    refine kk g P U e3 e4 dg ⟨e10, e11, ?_⟩ e12 e13
    obtain ⟨q1, n, q2⟩ := e9
    have fs := few_steps hw dg hl hb hend n idx e5 _ (by rw [e6]; exact q2) (by rw [e6]; omega)
    have bm := Bk_mod hw n _ _ hUj q2
    obtain ⟨_, wm⟩ := Wk_mod hw _ _ _ e8
    have : n = 0 := by omega
    subst this
    exact q2.1
end FI
