/-! LEAST WORK, LEAST STEPS by the class -/
/-- c is the least with which the GOAL stands -/
def Lst (M : Nat → Int32) (big : Nat → Nat) (cw : Nat) (goal : Int32) (c : Nat) : Prop := (∃ m v, Wk M big cw m v c ∧ sb goal (nI v)) ∧ ∀ m v c', Wk M big cw m v c' → sb goal (nI v) → c ≤ c'
def NoW (M : Nat → Int32) (big : Nat → Nat) (cw : Nat) (goal : Int32) : Prop := ∀ m v c, Wk M big cw m v c → ¬ sb goal (nI v)
theorem Lst_one {M : Nat → Int32} {big : Nat → Nat} {cw : Nat} {goal : Int32} {c c' : Nat} (h : Lst M big cw goal c) (h' : Lst M big cw goal c') : c = c' := by
  obtain ⟨⟨m, v, h1, h2⟩, h3⟩ := h
  obtain ⟨⟨m', v', h1', h2'⟩, h3'⟩ := h'
  have := h3 m' v' c' h1' h2'
  have := h3' m v c h1 h2
  omega
/-- fields of a search that stay -/
def tKeep (h h' : TH) (t : Nat) : Prop := (∀ j, j ≠ 3 → j ≠ 4 → j ≠ 10 → j ≠ 11 → j ≠ 15 → h'.I t j = h.I t j) ∧ ∀ f, f ≠ 2 → (f < 5 ∨ 9 < f) → h'.P t f = h.P t f
section SL
variable {h h' : TH} {M : Nat → Int32} {big : Nat → Nat} {cw t tm a5 a6 a7 a8 a9 L : Nat} {G : Int32 → Nat → Int32} {k V od : Nat → Nat} {w σ r : Nat} {goal : Int32}
theorem DJ0.fr (hD : DJ0 h t M big cw a5 a6 a7 a8 k V od w σ r) (hI : ∀ a, a ≠ t → h'.I a = h.I a) (hIt : ∀ j, j = 0 ∨ j = 10 ∨ j = 11 → h'.I t j = h.I t j) (hP : ∀ f, f ≠ 2 → h'.P t f = h.P t f) (hK : h'.K = h.K) (hN : h'.N = h.N) : DJ0 h' t M big cw a5 a6 a7 a8 k V od w σ r := by
  obtain ⟨⟨d1, d1b, d1c⟩, d2, d3, d4, d5, d6, d7, d8⟩ := hD
  have ht := is2_rng d1
  have b5 := (d2.2.2.2.2.1 a5 (Or.inl rfl)).1
  have b6 := (d2.2.2.2.2.1 a6 (Or.inr (Or.inl rfl))).1
  have b7 := (d2.2.2.2.2.1 a7 (Or.inr (Or.inr (Or.inl rfl)))).1
  have b8 := (d2.2.2.2.2.1 a8 (Or.inr (Or.inr (Or.inr rfl)))).1
  refine ⟨⟨d1, d1b.frame (fun a q1 q2 => hI a (by omega)), by rw [hIt 0 (by omega)]; exact d1c⟩, ?_, by rw [hIt 10 (by omega)]; exact d3, by rw [hIt 11 (by omega)]; exact d4, ?_, ?_, ?_, d8⟩
  · unfold Arr at d2 ⊢
    rw [hP 5 (by omega), hP 6 (by omega), hP 7 (by omega), hP 8 (by omega), hK, hN]
    exact d2
  · rw [hI a5 (by omega)]; exact d5
  · unfold HpOk at d6 ⊢
    rw [hI a6 (by omega), hI a7 (by omega)]
    exact d6
  · rw [hI a8 (by omega)]; exact d7
theorem LAr.fr (hA : LAr h t L a5 a6 a7 a8 a9) (hP : ∀ f, f ≠ 2 → h'.P t f = h.P t f) (hK : h'.K = h.K) (hN : h'.N = h.N) (hn : h'.n = h.n) : LAr h' t L a5 a6 a7 a8 a9 := by
  unfold LAr at hA ⊢
  rw [hP 5 (by omega), hP 6 (by omega), hP 7 (by omega), hP 8 (by omega), hP 9 (by omega), hK, hN, hn]
  exact hA
/-- what isOther leaves -/
def Oth (h h2 : TH) (t tm : Nat) (kd : Int32) : Prop := h2.n = h.n ∧ h2.sl = h.sl ∧ h2.K = h.K ∧ h2.N = h.N ∧ h2.J = h.J ∧ (∀ a, a ≠ t → h2.I a = h.I a ∧ h2.P a = h.P a) ∧ (∀ j, j ≠ 3 → j ≠ 4 → h2.I t j = h.I t j) ∧ h2.I t 3 = h.I tm 0 ∧ h2.I t 4 = kd ∧ (∀ f, f ≠ 2 → h2.P t f = h.P t f) ∧ h2.P t 2 = some tm
theorem S33 {C : Int32 → TH → Prop} {kd : Int32} (htm : tm ≠ t) (k0 : ∀ h2, Oth h h2 t tm kd → h.I t 3 = h.I tm 0 → h.I t 4 = kd → C 0 h2) (k1 : ∀ h2, Oth h h2 t tm kd → C 1 h2) : W33 t tm kd h C := by
  have ok : Oth h (((h.sP t 2 tm).sI t 3 (h.I tm 0)).sI t 4 kd) t tm kd := by
    refine ⟨rfl, rfl, rfl, rfl, rfl, fun a ha => ⟨?_, ?_⟩, fun j j1 j2 => ?_, ?_, ?_, fun f hf => ?_, ?_⟩
    · funext j
      rw [I_ne ha, I_ne ha, I_sP]
    · funext j
      rw [P_sI, P_sI, P_sP, if_neg (fun q => ha q.1)]
    · rw [I_nk j2, I_nk j1, I_sP]
    · rw [I_nk (by omega), I_eq]
    · rw [I_eq]
    · rw [P_sI, P_sI, P_sP, if_neg (fun q => hf q.2)]
    · rw [P_sI, P_sI, P_sP, if_pos ⟨rfl, rfl⟩]
  unfold W33 B33_19 B33_24
  rw [I_sP]
  by_cases e : h.I t 3 = h.I tm 0
  · rw [if_neg (fun q => q e)]
    by_cases e2 : h.I t 4 = kd
    · rw [if_pos e2]; exact ⟨Or.inl rfl, k0 _ ok e e2⟩
    · rw [if_neg e2]; exact ⟨Or.inr rfl, k1 _ ok⟩
  · rw [if_pos e]; exact ⟨Or.inr rfl, k1 _ ok⟩
theorem Oth.gr {kd : Int32} (ho : Oth h h' t tm kd) : Gr (inT h t) h h' := by
  obtain ⟨o1, o2, o3, o4, o5, o6, -⟩ := ho
  refine ⟨by omega, fun a _ => by rw [o3, o4]; exact ⟨rfl, rfl⟩, fun a _ hs => ?_⟩
  have : a ≠ t := fun q => hs (Or.inl (by omega))
  exact ⟨(o6 a this).1, by rw [o5], (o6 a this).2⟩
theorem Oth.post {kd : Int32} (ho : Oth h h' t tm kd) : LPost h h' t := by
  have g := ho.gr
  obtain ⟨o1, o2, o3, o4, o5, o6, o7, o8, o9, o10, o11⟩ := ho
  refine ⟨g, fun f a f1 f2 q => Or.inl ?_, by omega, by omega⟩
  rw [o10 f (by omega)] at q
  exact q
/-- both uses: kd tells which POTS -/
theorem use_core {C : TH → Prop} (hw : Wf M) (hc : CM h tm M) (h3 : is3 tm) (hL : LC h t cw G) (hG : G (h.I tm 0) = M) (hst : ¬ h.I tm 0 = (-1)) (kd : Nat) (hkd : kd ≤ 200) (hn : 222 ≤ h.n) (hn2 : h.n + 5 ≤ 1000000) (kk : ∀ g L' b5 b6 b7 b8 b9 k V od w σ, LPost h g t → tKeep h g t → LAr g t L' b5 b6 b7 b8 b9 → 2 ^ aN M ≤ L' → DJ g t tm M (bigOf M kd) cw b5 b6 b7 b8 k V od w σ σ → g.I t 3 = h.I tm 0 → g.I t 4 = nI kd → C g) : (∀ h2, Oth h h2 t tm (nI kd) → h.I t 3 = h.I tm 0 → h.I t 4 = nI kd → C h2) ∧ (∀ h2, Oth h h2 t tm (nI kd) → CMr h2 tm M ∧ ∀ h3, Sm (inR (t + 1)) h2 h3 → RoomOk h3 (t + 1) M (bigOf M kd) → W34 t h3 C) := by
  obtain ⟨L, a5, a6, a7, a8, a9, l1, l2, l3, l4⟩ := hL
  have ht := is2_rng l2
  have r3 := is3_rng h3
  have fr : ∀ h2, Oth h h2 t tm (nI kd) → CM h2 tm M := by
    intro h2 ho
    exact hc.frame (fun a q1 q2 => (ho.2.2.2.2.2.1 a (by omega)).1)
  constructor
  · intro h2 ho e1 e2
    have po := ho.post
    have hc2 := fr h2 ho
    obtain ⟨o1, o2, o3, o4, o5, o6, o7, o8, o9, o10, o11⟩ := ho
    rcases l4 with l4 | ⟨kd', k, V, od, w, σ, q1, q2, q3, q4⟩
    · rw [e1] at l4; exact absurd l4 hst
    · have ek : kd' = kd := by
        rw [q1] at e2
        exact (nI_eq (by omega) (by omega)).mp e2
      subst ek
      rw [e1, hG] at q3 q4
      have d0 := q4.fr (h' := h2) (fun a ha => (o6 a ha).1) (fun j hj => o7 j (by omega) (by omega)) o10 o3 o4
      refine kk h2 L a5 a6 a7 a8 a9 k V od w σ po ⟨fun j j1 j2 j3 j4 j5 => o7 j j1 j2, fun f f1 f2 => o10 f f1⟩ (l1.fr o10 o3 o4 o1) q3 (d0.to o11 h3 hc2) o8 o9
  · intro h2 ho
    have hc2 := fr h2 ho
    have gr0 := ho.gr
    obtain ⟨o1, o2, o3, o4, o5, o6, o7, o8, o9, o10, o11⟩ := ho
    refine ⟨hc2.r, fun h3' s1 s2 => ?_⟩
    have nt : ¬ inR (t + 1) t := by unfold inR; omega
    have hob : LObj h3' t tm M (bigOf M kd) cw := by
      refine ⟨l2, by rw [s1.P]; exact o11, h3, hc2.frame (fun a q1 q2 => s1.I (by unfold inR; omega)), s2, ?_⟩
      rw [s1.I nt, o7 0 (by omega) (by omega)]
      exact l3
    have lar3 : LAr h3' t L a5 a6 a7 a8 a9 := (l1.fr o10 o3 o4 o1).sm s1
    refine use_new (h := h) hw hob lar3 hn hn2 (by rw [s1.n, o1]) (by rw [s1.sl, o2]) ?_ (fun f hf => by rw [s1.P]; exact o10 f hf) (fun g L' b5 b6 b7 b8 b9 k V od w σ p1 p2 p3 p4 p5 p6 => ?_)
    · refine gr0.trans (s1.gr.mono (fun a z => ?_))
      unfold inR at z
      exact Or.inl (by omega)
    · refine kk g L' b5 b6 b7 b8 b9 k V od w σ p1 ⟨fun j j1 j2 j3 j4 j5 => ?_, fun f f1 f2 => ?_⟩ p3 p4 p5 ?_ ?_
      · rw [p2 j j3 j4 j5, s1.I nt, o7 j j1 j2]
      · rw [p6 f f2, s1.P, o10 f f1]
      · rw [p2 3 (by omega) (by omega) (by omega), s1.I nt, o8]
      · rw [p2 4 (by omega) (by omega) (by omega), s1.I nt, o9]
theorem S31 {C : TH → Prop} (hw : Wf M) (hc : CM h tm M) (h3 : is3 tm) (hL : LC h t cw G) (hG : G (h.I tm 0) = M) (hst : ¬ h.I tm 0 = (-1)) (ex : Nat) (hex : ex ≤ 9) {x : Int32} (hx : x = nI ex) (hn : 222 ≤ h.n) (hn2 : h.n + 5 ≤ 1000000) (kk : ∀ g L' b5 b6 b7 b8 b9 k V od w σ, LPost h g t → tKeep h g t → LAr g t L' b5 b6 b7 b8 b9 → 2 ^ aN M ≤ L' → DJ g t tm M (bigOf M (100 + ex)) cw b5 b6 b7 b8 k V od w σ σ → g.I t 3 = h.I tm 0 → g.I t 4 = nI (100 + ex) → C g) : W31 t tm x h C := by
  subst hx
  have ht : is2 t := by obtain ⟨L, a5, a6, a7, a8, a9, l1, l2, -⟩ := hL; exact l2
  have ht := is2_rng ht
  have r3 := is3_rng h3
  obtain ⟨c1, c2⟩ := use_core (C := fun h4 => C h4) hw hc h3 hL hG hst (100 + ex) (by omega) hn hn2 kk
  unfold W31
  rw [show (100 : Int32) + nI ex = nI (100 + ex) by show nI 100 + nI ex = _; rw [nI_add]]
  refine S33 (by omega) (fun h2 o1 o2 o3 => ?_) (fun h2 o1 => ?_)
  · rw [if_pos rfl]; exact c1 h2 o1 o2 o3
  · rw [if_neg (by decide)]
    obtain ⟨d1, d2⟩ := c2 h2 o1
    refine S109 hw d1 (Or.inr (by omega)) ex rfl hex (fun h' s1 s2 => d2 h' s1 ?_)
    unfold bigOf
    rw [if_pos (by omega), Nat.add_sub_cancel_left]
    exact s2
theorem S32 {C : TH → Prop} (hw : Wf M) (hc : CM h tm M) (h3 : is3 tm) (hL : LC h t cw G) (hG : G (h.I tm 0) = M) (hst : ¬ h.I tm 0 = (-1)) (p : Nat) (hp : p ≤ 12) {x : Int32} (hx : x = nI p) (hn : 222 ≤ h.n) (hn2 : h.n + 5 ≤ 1000000) (kk : ∀ g L' b5 b6 b7 b8 b9 k V od w σ, LPost h g t → tKeep h g t → LAr g t L' b5 b6 b7 b8 b9 → 2 ^ aN M ≤ L' → DJ g t tm M (bigOf M p) cw b5 b6 b7 b8 k V od w σ σ → g.I t 3 = h.I tm 0 → g.I t 4 = nI p → C g) : W32 t tm x h C := by
  subst hx
  have ht : is2 t := by obtain ⟨L, a5, a6, a7, a8, a9, l1, l2, -⟩ := hL; exact l2
  have ht := is2_rng ht
  have r3 := is3_rng h3
  obtain ⟨c1, c2⟩ := use_core (C := fun h4 => C h4) hw hc h3 hL hG hst p (by omega) hn hn2 kk
  unfold W32
  refine S33 (by omega) (fun h2 o1 o2 o3 => ?_) (fun h2 o1 => ?_)
  · rw [if_pos rfl]; exact c1 h2 o1 o2 o3
  · rw [if_neg (by decide)]
    obtain ⟨d1, d2⟩ := c2 h2 o1
    refine S110 hw d1 (Or.inr (by omega)) p rfl hp (fun h' s1 s2 => d2 h' s1 ?_)
    unfold bigOf
    rw [if_neg (by omega)]
    exact s2
/-- behind a seeking: all is as between calls -/
theorem LPost.seek {g g' : TH} {b5 b6 b7 b8 b9 : Nat} (hp : LPost h g t) (h6 : g.n ≤ 1000000) (hA : LAr g t L b5 b6 b7 b8 b9) (hs : Sm (inL t b5 b6 b7 b8) g g') : LPost h g' t := by
  obtain ⟨p1, p2, p3, p4⟩ := hp
  obtain ⟨⟨r5, r6, r7, r8, r9⟩, -, -, -, -, -, m5, m6, m7, m8, m9⟩ := hA
  refine ⟨⟨by rw [hs.n]; exact p1.1, fun a ha => by rw [hs.K, hs.N]; exact p1.2.1 a ha, fun a ha hx => ?_⟩, fun f a f1 f2 q => ?_, by rw [hs.n]; exact p3, by rw [hs.sl]; exact p4⟩
  · have ni : ¬ inL t b5 b6 b7 b8 a := by
      rintro (z | z | z | z | z)
      · unfold inMv at z
        exact hx (Or.inl (by omega))
      · rcases p2 5 b5 (by omega) (by omega) r5 with y | y
        · exact hx (Or.inr ⟨5, by omega, by omega, by rw [z]; exact y⟩)
        · have := p1.1; omega
      · rcases p2 6 b6 (by omega) (by omega) r6 with y | y
        · exact hx (Or.inr ⟨6, by omega, by omega, by rw [z]; exact y⟩)
        · have := p1.1; omega
      · rcases p2 7 b7 (by omega) (by omega) r7 with y | y
        · exact hx (Or.inr ⟨7, by omega, by omega, by rw [z]; exact y⟩)
        · have := p1.1; omega
      · rcases p2 8 b8 (by omega) (by omega) r8 with y | y
        · exact hx (Or.inr ⟨8, by omega, by omega, by rw [z]; exact y⟩)
        · have := p1.1; omega
    have := p1.2.2 a ha hx
    exact ⟨by rw [hs.I ni]; exact this.1, by rw [hs.J ni]; exact this.2.1, by rw [hs.P]; exact this.2.2⟩
  · rw [hs.P] at q
    rw [hs.n]
    exact p2 f a f1 f2 q
theorem LC_mk {g : TH} {b5 b6 b7 b8 b9 kd : Nat} (hA : LAr g t L b5 b6 b7 b8 b9) (hL : 2 ^ aN M ≤ L) (hD : DJ g t tm M (bigOf M kd) cw b5 b6 b7 b8 k V od w σ σ) (hk : kd ≤ 200) (h4 : g.I t 4 = nI kd) (hG : G (g.I t 3) = M) : LC g t cw G := by
  refine ⟨L, b5, b6, b7, b8, b9, hA, hD.1.1, hD.1.2.2.2.2.2, Or.inr ⟨kd, k, V, od, w, σ, h4, hk, ?_, ?_⟩⟩
  · rw [hG]; exact hL
  · rw [hG]; exact hD.to0
/-- what a seeking comes to -/
def Sought (M : Nat → Int32) (big : Nat → Nat) (cw : Nat) (goal : Int32) (r : Option Nat) : Prop := match r with
  | none => NoW M big cw goal
  | some c => Lst M big cw goal c ∧ c ≤ 1660948480
theorem seek_key {kd L' b5 b6 b7 b8 b9 : Nat} {g : TH} {C : Int32 → TH → Prop} (hw : Wf M) (hg : St (aN M) goal) (hn2 : h.n + 5 ≤ 1000000) (hk : kd ≤ 200) (hGm : G (h.I tm 0) = M) (p1 : LPost h g t) (p2 : tKeep h g t) (p3 : LAr g t L' b5 b6 b7 b8 b9) (p4 : 2 ^ aN M ≤ L') (p5 : DJ g t tm M (bigOf M kd) cw b5 b6 b7 b8 k V od w σ σ) (p6 : g.I t 3 = h.I tm 0) (p7 : g.I t 4 = nI kd) (kk : ∀ g' r, LPost h g' t → tKeep h g' t → LC g' t cw G → Sought M (bigOf M kd) cw goal r → C (match r with | none => (-1) | some c => nI c) g') : W36 t goal g C := by
  have h12 := hw.n12
  have p12 : 2 ^ aN M ≤ 2 ^ 12 := Nat.pow_le_pow_right (by omega) h12
  have ht := is2_rng p5.1.1
  have fin : ∀ g' k' V' od' w' σ', Sm (inL t b5 b6 b7 b8) g g' → fKeep g g' t → DJ g' t tm M (bigOf M kd) cw b5 b6 b7 b8 k' V' od' w' σ' σ' → LPost h g' t ∧ tKeep h g' t ∧ LC g' t cw G := by
    intro g' k' V' od' w' σ' s1 s2 s3
    refine ⟨p1.seek (by have := p1.2.2.1; omega) p3 s1, ⟨fun j j1 j2 j3 j4 j5 => (s2 j j3 j4 j5).trans (p2.1 j j1 j2 j3 j4 j5), fun f f1 f2 => by rw [s1.P]; exact p2.2 f f1 f2⟩, LC_mk (p3.sm s1) p4 s3 hk ?_ ?_⟩
    · rw [s2 4 (by omega) (by omega) (by omega)]; exact p7
    · rw [s2 3 (by omega) (by omega) (by omega), p6]; exact hGm
  refine S36 hw p5 hg (fun g' k' V' od' w' σ' s1 s2 s3 s4 => ?_) (fun g' k' V' od' w' σ' i s1 s2 s3 s4 s5 s6 => ?_)
  · obtain ⟨f1, f2, f3⟩ := fin g' k' V' od' w' σ' s1 s2 s3
    exact kk g' none f1 f2 f3 s4
  · obtain ⟨f1, f2, f3⟩ := fin g' k' V' od' w' σ' s1 s2 s3
    have o2 := (s3.2.2.2.2.2.2.1 i s4).2
    have kb := s3.2.2.2.2.2.2.2.2.2.2.2.2.2.2.2.1 i s4
    have hfit := s3.fits
    have z : i * 405505 ≤ 4096 * 405505 := Nat.mul_le_mul_right _ (by omega)
    refine kk g' (some (k' (od' i))) f1 f2 f3 ⟨⟨?_, s6⟩, by omega⟩
    obtain ⟨m, hm⟩ := s3.2.2.2.2.2.2.2.2.2.2.2.2.2.1 (od' i) o2 (by omega)
    exact ⟨m, od' i, hm, s5⟩
theorem seek_work {kd L' b5 b6 b7 b8 b9 : Nat} {g : TH} {C : Int32 → TH → Prop} (hw : Wf M) (hg : St (aN M) goal) (hn2 : h.n + 5 ≤ 1000000) (hk : kd ≤ 200) (hGm : G (h.I tm 0) = M) (p1 : LPost h g t) (p2 : tKeep h g t) (p3 : LAr g t L' b5 b6 b7 b8 b9) (p4 : 2 ^ aN M ≤ L') (p5 : DJ g t tm M (bigOf M kd) cw b5 b6 b7 b8 k V od w σ σ) (p6 : g.I t 3 = h.I tm 0) (p7 : g.I t 4 = nI kd) (kk : ∀ g' r, LPost h g' t → tKeep h g' t → LC g' t cw G → Sought M (bigOf M kd) cw goal r → C (match r with | none => (-1) | some c => nI (c / 4096)) g') : W35 t goal g C := by
  unfold W35
  refine seek_key hw hg hn2 hk hGm p1 p2 p3 p4 p5 p6 p7 (fun g' r q1 q2 q3 q4 => ?_)
  have := kk g' r q1 q2 q3 q4
  cases r with
  | none =>
    dsimp only at this ⊢
    rw [if_neg (fun q => q rfl)]
    exact this
  | some c =>
    have hc := q4.2
    dsimp only at this ⊢
    rw [if_pos (nI_ne1 (by omega)), show nI c / 4096 = nI (c / 4096) from pk_div (d := 4096) (by omega) (by omega) (by omega)]
    exact this
end SL
