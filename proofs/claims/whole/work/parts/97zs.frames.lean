/-! BETWEEN CALLS: what the searches know is kept -/
def sF (t f : Nat) : Prop := ((t = 139 ∨ t = 152 ∨ t = 165) ∧ (5 ≤ f ∧ f ≤ 9 ∨ f = 16)) ∨ ((t = 178 ∨ t = 184) ∧ 5 ≤ f ∧ f ≤ 7) ∨ (t = 190 ∧ 3 ≤ f ∧ f ≤ 4)
def rg (t a : Nat) : Prop := 222 ≤ a ∨ (t ≤ a ∧ (t ≤ 165 → a < t + 13) ∧ (165 < t → t < 190 → a < t + 6) ∧ (t = 190 → a < 193))
/-- whose rows are whose -/
def Ow (h : TH) : Prop := (∀ t f a, sF t f → h.P t f = some a → rg t a ∧ a < h.n) ∧ ∀ t f t' f' a, sF t f → sF t' f' → h.P t f = some a → h.P t' f' = some a → t = t' ∧ f = f'
def Fst (h : TH) : Prop := ∃ a16 len P, A16 h 139 a16 ∧ len ≤ 4096 ∧ h.I 139 17 = nI len ∧ h.I 197 30 = nI len ∧ len ≤ h.N a16 ∧ (∀ j, j < len → h.I a16 j = nI (P j) ∧ P j < 100000) ∧ FsRow h len P
def stmp (h : TH) (c : Nat) : Prop := ∀ t f, ((t = 139 ∨ t = 152 ∨ t = 165) ∧ f = 3 ∨ (t = 178 ∨ t = 184) ∧ f = 2) → h.I t f = -1 ∨ ∃ s, s ≤ c ∧ h.I t f = nI s
def Se (h : TH) (G : Int32 → Nat → Int32) (c : Nat) : Prop := Ow h ∧ LC h 139 4096 G ∧ LC h 152 4096 G ∧ LC h 165 0 G ∧ FwC h 178 false 2 G ∧ FwC h 184 true 3 G ∧ (∃ L a3 a4, RcA h L a3 a4) ∧ Fst h ∧ stmp h c
section SFR
variable {h g : TH} {S : Nat → Prop} {G : Int32 → Nat → Int32} {t cw : Nat}
theorem Gr.i (p : Gr S h g) {a : Nat} (ha : a < h.n) (hs : ¬ S a) : g.I a = h.I a := (p.2.2 a (Or.inl ha) hs).1
theorem Gr.p (p : Gr S h g) {a : Nat} (ha : a < h.n) (hs : ¬ S a) : g.P a = h.P a := (p.2.2 a (Or.inl ha) hs).2.2
theorem Gr.k (p : Gr S h g) {a : Nat} (ha : a < h.n) : g.K a = h.K a := (p.2.1 a (Or.inl ha)).1
theorem Gr.nn (p : Gr S h g) {a : Nat} (ha : a < h.n) : g.N a = h.N a := (p.2.1 a (Or.inl ha)).2
theorem LC.gr (hL : LC h t cw G) (p : Gr S h g) (hn : 222 ≤ h.n) (hS : ∀ a, t ≤ a → a < t + 12 → ¬ S a) (hp : ∀ f a, 5 ≤ f → f ≤ 9 → h.P t f = some a → ¬ S a) : LC g t cw G := by
  obtain ⟨L, a5, a6, a7, a8, a9, hA, h2, hc, hd⟩ := hL
  have ht := is2_rng h2
  have eI : ∀ a, t ≤ a → a < t + 12 → g.I a = h.I a := fun a h1 h2 => p.i (by omega) (hS a h1 h2)
  have eP : g.P t = h.P t := p.p (by omega) (hS t (by omega) (by omega))
  obtain ⟨⟨p5, p6, p7, p8, p9⟩, hK, hN, l1, l2, l3, m5, m6, m7, m8, m9⟩ := hA
  have hn' := p.1
  have hA' : LAr g t L a5 a6 a7 a8 a9 := by
    unfold LAr
    rw [eP, p.k m5, p.k m6, p.k m7, p.k m8, p.k m9, p.nn m5, p.nn m6, p.nn m7, p.nn m8, p.nn m9]
    exact ⟨⟨p5, p6, p7, p8, p9⟩, hK, hN, l1, l2, l3, by omega, by omega, by omega, by omega, by omega⟩
  refine ⟨L, a5, a6, a7, a8, a9, hA', h2, by rw [eI t (by omega) (by omega)]; exact hc, ?_⟩
  rw [eI t (by omega) (by omega)]
  rcases hd with hd | ⟨kd, k, V, od, w, σ, d1, d2, d3, d4⟩
  · exact Or.inl hd
  · refine Or.inr ⟨kd, k, V, od, w, σ, d1, d2, d3, ?_⟩
    obtain ⟨⟨o1, o2, o3⟩, q, e10, e11, e5, e6, e8, pu⟩ := d4
    refine ⟨⟨o1, o2.frame (fun a z1 z2 => eI a (by omega) (by omega)), by rw [eI t (by omega) (by omega)]; exact o3⟩, ?_, by rw [eI t (by omega) (by omega)]; exact e10, by rw [eI t (by omega) (by omega)]; exact e11, by rw [p.i m5 (hp 5 a5 (by omega) (by omega) p5)]; exact e5, ?_, by rw [p.i m8 (hp 8 a8 (by omega) (by omega) p8)]; exact e8, pu⟩
    · obtain ⟨q5, q6, q7, q8, qa, rest⟩ := q
      refine ⟨by rw [eP]; exact q5, by rw [eP]; exact q6, by rw [eP]; exact q7, by rw [eP]; exact q8, fun a ha => ?_, rest⟩
      have la : a < h.n := by omega
      rw [p.k la, p.nn la]
      exact qa a ha
    · unfold HpOk at e6 ⊢
      rw [p.i m6 (hp 6 a6 (by omega) (by omega) p6), p.i m7 (hp 7 a7 (by omega) (by omega) p7)]
      exact e6
theorem LC.stamp {G' : Int32 → Nat → Int32} (hL : LC h t cw G) (e : h.I t 3 = -1 ∨ G' (h.I t 3) = G (h.I t 3)) : LC h t cw G' := by
  obtain ⟨L, a5, a6, a7, a8, a9, hA, h2, hc, hd⟩ := hL
  refine ⟨L, a5, a6, a7, a8, a9, hA, h2, hc, ?_⟩
  rcases e with e | e
  · exact Or.inl e
  · rw [e]; exact hd
theorem FwC.gr {tr : Bool} {base : Nat} (hF : FwC h t tr base G) (p : Gr S h g) (hn : 222 ≤ h.n) (hS : ∀ a, t ≤ a → a < t + 6 → ¬ S a) (hp : ∀ f a, 5 ≤ f → f ≤ 7 → h.P t f = some a → ¬ S a) : FwC g t tr base G := by
  obtain ⟨L, a5, a6, a7, h0, hA, z4, z5, hb, hd⟩ := hF
  have ht := is0_rng h0.1
  have eI : ∀ a, t ≤ a → a < t + 6 → g.I a = h.I a := fun a h1 h2 => p.i (by omega) (hS a h1 h2)
  have eP : g.P t = h.P t := p.p (by omega) (hS t (by omega) (by omega))
  obtain ⟨⟨p5, p6, p7⟩, hK, hN, l1, l2, l3, m5, m6, m7⟩ := hA
  have hn' := p.1
  have hA' : FwA g t L a5 a6 a7 := by
    unfold FwA
    rw [eP, p.k m5, p.k m6, p.k m7, p.nn m5, p.nn m6, p.nn m7]
    exact ⟨⟨p5, p6, p7⟩, hK, hN, l1, l2, l3, by omega, by omega, by omega⟩
  have h0' : is0R g t := by
    unfold is0R
    rw [eP, p.k (a := t + 4) (by omega), p.k (a := t + 5) (by omega), p.nn (a := t + 4) (by omega), p.nn (a := t + 5) (by omega)]
    exact h0
  refine ⟨L, a5, a6, a7, h0', hA', by rw [eI (t + 4) (by omega) (by omega)]; exact z4, by rw [eI (t + 5) (by omega) (by omega)]; exact z5, by rw [eI t (by omega) (by omega)]; exact hb, ?_⟩
  rw [eI t (by omega) (by omega)]
  rcases hd with hd | ⟨om, ot, lv, F, X, P, f, d1, d2, d3, d4, d5, d6⟩
  · exact Or.inl hd
  · refine Or.inr ⟨om, ot, lv, F, X, P, f, d1, d2, d3, d4, ?_, d6⟩
    obtain ⟨o1, o2, o3, o4, o5, o6, o7, o8, o9, o10, o11, o12⟩ := d5
    unfold FwO LoHi
    rw [eI t (by omega) (by omega), eI (t + 4) (by omega) (by omega), eI (t + 5) (by omega) (by omega), p.i m5 (hp 5 a5 (by omega) (by omega) p5), p.i m6 (hp 6 a6 (by omega) (by omega) p6), p.i m7 (hp 7 a7 (by omega) (by omega) p7)]
    exact ⟨h0', hA', o3, o4, o5, o6, o7, o8, o9, o10, o11, o12⟩
theorem FwC.stamp {tr : Bool} {base : Nat} {G' : Int32 → Nat → Int32} (hF : FwC h t tr base G) (e : h.I t 2 = -1 ∨ G' (h.I t 2) = G (h.I t 2)) : FwC h t tr base G' := by
  obtain ⟨L, a5, a6, a7, h0, hA, z4, z5, hb, hd⟩ := hF
  refine ⟨L, a5, a6, a7, h0, hA, z4, z5, hb, ?_⟩
  rcases e with e | e
  · exact Or.inl e
  · rw [e]; exact hd
theorem RcA.gr {L a3 a4 : Nat} (hA : RcA h L a3 a4) (p : Gr S h g) (hn : 222 ≤ h.n) (hS : ¬ S 190) : RcA g L a3 a4 := by
  unfold RcA at hA ⊢
  have hn' := p.1
  rw [p.p (a := 190) (by omega) hS, p.k (a := a3) (by omega), p.k (a := a4) (by omega), p.nn (a := a3) (by omega), p.nn (a := a4) (by omega)]
  exact ⟨hA.1, hA.2.1, hA.2.2.1, hA.2.2.2.1, hA.2.2.2.2.1, hA.2.2.2.2.2.1, by omega, by omega⟩
theorem Fst.gr (hF : Fst h) (p : Gr S h g) (hn : 222 ≤ h.n) (hS : ¬ S 139) (hp : ∀ a, h.P 139 16 = some a → ¬ S a) (e17 : g.I 139 17 = h.I 139 17) (e : g.I 197 30 = h.I 197 30 ∧ g.I 209 = h.I 209 ∧ g.I 210 = h.I 210 ∧ g.I 211 = h.I 211) : Fst g := by
  obtain ⟨a16, len, P, ⟨b1, b2, b3, b4, b5⟩, q1, q2, q3, q4, q5, q6⟩ := hF
  have hn' := p.1
  refine ⟨a16, len, P, ?_, q1, e17.trans q2, e.1.trans q3, by rw [p.nn b5]; exact q4, by rw [p.i b5 (hp a16 b1)]; exact q5, ?_⟩
  · unfold A16
    rw [p.p (a := 139) (by omega) hS, p.k b5, p.nn b5]
    exact ⟨b1, b2, b3, b4, by omega⟩
  · unfold FsRow
    rw [e.2.1, e.2.2.1, e.2.2.2]
    exact q6
theorem Ow.gr (hO : Ow h) (hn : h.n ≤ g.n) (hP : ∀ t, 139 ≤ t → t ≤ 190 → g.P t = h.P t) : Ow g := by
  have r : ∀ t f, sF t f → 139 ≤ t ∧ t ≤ 190 := fun t f q => by unfold sF at q; omega
  refine ⟨fun t f a q z => ?_, fun t f t' f' a q q' z z' => ?_⟩
  · have := r t f q
    rw [hP t this.1 this.2] at z
    have := hO.1 t f a q z
    exact ⟨this.1, by omega⟩
  · have w1 := r t f q
    have w2 := r t' f' q'
    rw [hP t w1.1 w1.2] at z
    rw [hP t' w2.1 w2.2] at z'
    exact hO.2 t f t' f' a q q' z z'
/-- cells outside the searches alone are changed -/
def outS (a : Nat) : Prop := a < 139 ∨ 193 ≤ a ∧ a < 222
theorem Se.gr {c : Nat} (s : Se h G c) (p : Gr S h g) (hn : 222 ≤ h.n) (hS : ∀ a, S a → outS a) (e : g.I 197 30 = h.I 197 30 ∧ g.I 209 = h.I 209 ∧ g.I 210 = h.I 210 ∧ g.I 211 = h.I 211) : Se g G c := by
  obtain ⟨ow, l1, l2, l3, f1, f2, ⟨L, a3, a4, r⟩, fs, st⟩ := s
  have nS : ∀ a, 139 ≤ a → a < 193 → ¬ S a := fun a h1 h2 q => by have := hS a q; unfold outS at this; omega
  have nP : ∀ t f a, sF t f → h.P t f = some a → ¬ S a := fun t f a q z w => by
    have z1 := (ow.1 t f a q z).1
    have z2 := hS a w
    unfold rg at z1
    unfold outS at z2
    unfold sF at q
    omega
  refine ⟨ow.gr p.1 (fun t h1 h2 => p.p (by omega) (nS t h1 (by omega))), l1.gr p hn (fun a h1 h2 => nS a (by omega) (by omega)) (fun f a h1 h2 => nP 139 f a (by unfold sF; omega)), l2.gr p hn (fun a h1 h2 => nS a (by omega) (by omega)) (fun f a h1 h2 => nP 152 f a (by unfold sF; omega)), l3.gr p hn (fun a h1 h2 => nS a (by omega) (by omega)) (fun f a h1 h2 => nP 165 f a (by unfold sF; omega)), f1.gr p hn (fun a h1 h2 => nS a (by omega) (by omega)) (fun f a h1 h2 => nP 178 f a (by unfold sF; omega)), f2.gr p hn (fun a h1 h2 => nS a (by omega) (by omega)) (fun f a h1 h2 => nP 184 f a (by unfold sF; omega)), ⟨L, a3, a4, r.gr p hn (nS 190 (by omega) (by omega))⟩, fs.gr p hn (nS 139 (by omega) (by omega)) (fun a => nP 139 16 a (by unfold sF; omega)) (by rw [p.i (a := 139) (by omega) (nS 139 (by omega) (by omega))]) e, fun t f q => ?_⟩
  rw [p.i (a := t) (by omega) (nS t (by omega) (by omega))]
  exact st t f q
/-- a new stamp -/
theorem Se.stamp {c : Nat} {G' : Int32 → Nat → Int32} (s : Se h G c) (hG : ∀ j, j ≤ c → G' (nI j) = G (nI j)) : Se h G' (c + 1) := by
  obtain ⟨ow, l1, l2, l3, f1, f2, r, fs, st⟩ := s
  have w : ∀ t f, ((t = 139 ∨ t = 152 ∨ t = 165) ∧ f = 3 ∨ (t = 178 ∨ t = 184) ∧ f = 2) → h.I t f = -1 ∨ G' (h.I t f) = G (h.I t f) := fun t f q => by
    rcases st t f q with z | ⟨j, hj, z⟩
    · exact Or.inl z
    · right; rw [z]; exact hG j hj
  refine ⟨ow, l1.stamp (w 139 3 (by omega)), l2.stamp (w 152 3 (by omega)), l3.stamp (w 165 3 (by omega)), f1.stamp (w 178 2 (by omega)), f2.stamp (w 184 2 (by omega)), r, fs, fun t f q => ?_⟩
  rcases st t f q with z | ⟨j, hj, z⟩
  · exact Or.inl z
  · exact Or.inr ⟨j, by omega, z⟩
end SFR
