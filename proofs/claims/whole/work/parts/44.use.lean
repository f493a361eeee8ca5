/-! A SEARCH IS USED FOR A KITCHEN: what it knows from earlier, or anew -/
def LObj0 (h : TH) (t : Nat) (M : Nat → Int32) (big : Nat → Nat) (cw : Nat) : Prop := is2 t ∧ RoomOk h (t + 1) M big ∧ ((cw = 0 ∧ h.I t 0 = 0) ∨ (cw = 4096 ∧ ¬ h.I t 0 = 0))
def DJ0 (h : TH) (t : Nat) (M : Nat → Int32) (big : Nat → Nat) (cw a5 a6 a7 a8 : Nat) (k V od : Nat → Nat) (w σ r : Nat) : Prop :=
  LObj0 h t M big cw ∧ Arr h t (aN M) a5 a6 a7 a8 ∧ h.I t 10 = nI w ∧ h.I t 11 = nI σ ∧ (∀ u, u < 2 ^ aN M → h.I a5 u = nI (k u) ∧ k u ≤ 2147483647) ∧ HpOk h a6 a7 (aN M) k w V ∧ (∀ i, i < σ → h.I a8 i = nI (od i) ∧ od i < 2 ^ aN M) ∧ PU M big cw k V od w σ r
def bigOf (M : Nat → Int32) (kd : Nat) : Nat → Nat := if 100 ≤ kd then bigK M (kd - 100) else fun _ => kd
/-- what a search knows between calls; G: which MENU a stamp stands for -/
def LC (h : TH) (t cw : Nat) (G : Int32 → Nat → Int32) : Prop := ∃ L a5 a6 a7 a8 a9, LAr h t L a5 a6 a7 a8 a9 ∧ is2 t ∧ ((cw = 0 ∧ h.I t 0 = 0) ∨ (cw = 4096 ∧ ¬ h.I t 0 = 0)) ∧ (h.I t 3 = (-1) ∨ ∃ kd k V od w σ, h.I t 4 = nI kd ∧ kd ≤ 200 ∧ 2 ^ aN (G (h.I t 3)) ≤ L ∧ DJ0 h t (G (h.I t 3)) (bigOf (G (h.I t 3)) kd) cw a5 a6 a7 a8 k V od w σ σ)
def inT (h : TH) (t a : Nat) : Prop := (t ≤ a ∧ a < t + 12) ∨ ∃ f, 5 ≤ f ∧ f ≤ 9 ∧ h.P t f = some a
/-- what a search may change -/
def LPost (h h' : TH) (t : Nat) : Prop := Gr (inT h t) h h' ∧ (∀ f a, 5 ≤ f → f ≤ 16 → h'.P t f = some a → h.P t f = some a ∨ (h.n ≤ a ∧ a < h'.n)) ∧ h'.n ≤ h.n + 5 ∧ h'.sl ≤ h.sl + 20480
section SU
variable {h h' : TH} {M : Nat → Int32} {big : Nat → Nat} {cw t tm a5 a6 a7 a8 a9 L : Nat} {C : TH → Prop} {G : Int32 → Nat → Int32} {k V od : Nat → Nat} {w σ r : Nat}
theorem DJ.to0 (hD : DJ h t tm M big cw a5 a6 a7 a8 k V od w σ r) : DJ0 h t M big cw a5 a6 a7 a8 k V od w σ r := ⟨⟨hD.1.1, hD.1.2.2.2.2.1, hD.1.2.2.2.2.2⟩, hD.2⟩
theorem DJ0.to (hD : DJ0 h t M big cw a5 a6 a7 a8 k V od w σ r) (h1 : h.P t 2 = some tm) (h2 : is3 tm) (h3 : CM h tm M) : DJ h t tm M big cw a5 a6 a7 a8 k V od w σ r := ⟨⟨hD.1.1, h1, h2, h3, hD.1.2.1, hD.1.2.2⟩, hD.2⟩
theorem LObj.al {g g' : TH} {f kd s : Nat} (ho : LObj g t tm M big cw) (hA : Al g g' t f kd s) (hf : f ≠ 2) (hn : 222 ≤ g.n) : LObj g' t tm M big cw := by
  obtain ⟨a1, a2, a3, a4, a5, a6⟩ := ho
  have r3 := is3_rng a3
  have r2 := is2_rng a1
  obtain ⟨b1, b2, b3, b4, b5, b6, b7, b8⟩ := hA
  refine ⟨a1, by rw [b4 2 (fun q => hf q.symm)]; exact a2, a3, a4.frame (fun a q1 q2 => (b7 a (by omega)).2.2.1), a5.frame (fun a q1 q2 => (b7 a (by omega)).2.2.1), by rw [(b7 t (by omega)).2.2.1]; exact a6⟩
theorem S34 (hw : Wf M) (ho : LObj h t tm M big cw) (hA : LAr h t L a5 a6 a7 a8 a9) (hn : 222 ≤ h.n) (hn2 : h.n + 5 ≤ 1000000) (kk : ∀ h' L' b5 b6 b7 b8 b9 k V od, Gr (inO t a5 a6 a7) h h' → fKeep h h' t → (∀ f, f < 5 ∨ 9 < f → h'.P t f = h.P t f) → h'.n ≤ h.n + 5 → h'.sl ≤ h.sl + 20480 → LAr h' t L' b5 b6 b7 b8 b9 → 2 ^ aN M ≤ L' → ((b5 = a5 ∧ b6 = a6 ∧ b7 = a7 ∧ b8 = a8 ∧ b9 = a9) ∨ (h.n ≤ b5 ∧ h.n ≤ b6 ∧ h.n ≤ b7 ∧ h.n ≤ b8 ∧ h.n ≤ b9)) → DJ h' t tm M big cw b5 b6 b7 b8 k V od 1 0 0 → C h') : W34 t h C := by
  have h12 := hw.n12
  have p12 : 2 ^ aN M ≤ 2 ^ 12 := Nat.pow_le_pow_right (by omega) h12
  have p0 : 0 < 2 ^ aN M := Nat.pos_of_ne_zero (by simp)
  have ht := is2_rng ho.1
  obtain ⟨o1, o2, o3, o4, o5, o6⟩ := ho
  have ho : LObj h t tm M big cw := ⟨o1, o2, o3, o4, o5, o6⟩
  have hA0 := hA
  obtain ⟨⟨p5, p6, p7, p8, p9⟩, ⟨k5, k6, k7, k8, k9⟩, ⟨n5, n6, n7, n8, n9⟩, l1, l3, l2, m5, m6, m7, m8, m9⟩ := hA
  unfold W34
  rw [R_of o2, R_of p5, o4.r.n, ishl_pow _ (by omega), n5, ix_n (by omega)]
  refine ⟨o2, o3, p5, k5, ?_⟩
  by_cases e : 2 ^ aN M ≤ L
  · rw [if_pos (nI_le e (by omega))]
    refine S34b hw ho hA0 e (fun h' k V od s1 s2 s3 => ?_)
    refine kk h' L a5 a6 a7 a8 a9 k V od s1.gr s2 (fun f _ => by rw [s1.P]) (by rw [s1.n]; omega) (by rw [s1.sl]; omega) (hA0.sm s1) e (Or.inl ⟨rfl, rfl, rfl, rfl, rfl⟩) s3
  · rw [if_neg (nI_ge (by omega) (by omega))]
    have A1 : Al h ((h.new 100 (2 ^ aN M) (2 ^ aN M)).sP t 5 h.n) t 5 100 (2 ^ aN M) := Al_new (by omega)
    refine ⟨inb_n (by omega), by omega, inb_n (by omega), by rw [A1.1]; omega, ?_⟩
    have i60 : inb (nI (2 ^ aN M)) 60001 := inb_n (by omega)
    generalize ((h.new 100 (2 ^ aN M) (2 ^ aN M)).sP t 5 h.n) = g1 at A1 ⊢
    have A2 : Al g1 ((g1.new 100 (2 ^ aN M) (2 ^ aN M)).sP t 6 g1.n) t 6 100 (2 ^ aN M) := Al_new (by have := A1.1; omega)
    intro h1 eh1 h2 eh2
    subst eh1
    rw [← eh2] at A2
    clear eh2
    have A3 : Al h2 ((h2.new 100 (2 ^ aN M) (2 ^ aN M)).sP t 7 h2.n) t 7 100 (2 ^ aN M) := Al_new (by have := A1.1; have := A2.1; omega)
    refine ⟨i60, by rw [A2.1, A1.1]; omega, i60, by rw [A3.1, A2.1, A1.1]; omega, ?_⟩
    generalize ((h2.new 100 (2 ^ aN M) (2 ^ aN M)).sP t 7 h2.n) = g3 at A3 ⊢
    have A4 : Al g3 ((g3.new 100 (2 ^ aN M) (2 ^ aN M)).sP t 8 g3.n) t 8 100 (2 ^ aN M) := Al_new (by have := A1.1; have := A2.1; have := A3.1; omega)
    intro h3 eh3 h4 eh4
    subst eh3
    rw [← eh4] at A4
    clear eh4
    have A5 : Al h4 ((h4.new 102 (2 ^ aN M) (2 ^ aN M)).sP t 9 h4.n) t 9 102 (2 ^ aN M) := Al_new (by have := A1.1; have := A2.1; have := A3.1; have := A4.1; omega)
    refine ⟨i60, by rw [A4.1, A3.1, A2.1, A1.1]; omega, ?_⟩
    generalize ((h4.new 102 (2 ^ aN M) (2 ^ aN M)).sP t 9 h4.n) = g5 at A5 ⊢
    have e1 : g1.n = h.n + 1 := A1.1
    have e2 : h2.n = h.n + 2 := by rw [A2.1, e1]
    have e3 : g3.n = h.n + 3 := by rw [A3.1, e2]
    have e4 : h4.n = h.n + 4 := by rw [A4.1, e3]
    have e5 : g5.n = h.n + 5 := by rw [A5.1, e4]
    have esl : g5.sl = h.sl + 5 * 2 ^ aN M := by rw [A5.2.1, A4.2.1, A3.2.1, A2.2.1, A1.2.1]; omega
    have ho5 : LObj g5 t tm M big cw := ((((ho.al A1 (by omega) hn).al A2 (by omega) (by omega)).al A3 (by omega) (by omega)).al A4 (by omega) (by omega)).al A5 (by omega) (by omega)
    obtain ⟨-, -, c1, d1, f1, q1, v1, y1⟩ := A1
    obtain ⟨-, -, c2, d2, f2, q2, v2, y2⟩ := A2
    obtain ⟨-, -, c3, d3, f3, q3, v3, y3⟩ := A3
    obtain ⟨-, -, c4, d4, f4, q4, v4, y4⟩ := A4
    obtain ⟨-, -, c5, d5, f5, q5, v5, y5⟩ := A5
    rw [e1] at c2 f2 q2 v2 y2
    rw [e2] at c3 f3 q3 v3 y3
    rw [e3] at c4 f4 q4 v4 y4
    rw [e4] at c5 f5 q5 v5 y5
    have old : ∀ a, a ≠ h.n → a ≠ h.n + 1 → a ≠ h.n + 2 → a ≠ h.n + 3 → a ≠ h.n + 4 → g5.K a = h.K a ∧ g5.N a = h.N a ∧ g5.I a = h.I a ∧ g5.J a = h.J a := by
      intro a z0 z1 z2 z3 z4
      obtain ⟨w1, w2, w3, w4⟩ := v5 a z4
      obtain ⟨x1, x2, x3, x4⟩ := v4 a z3
      obtain ⟨r1, r2, r3, r4⟩ := v3 a z2
      obtain ⟨s1, s2, s3, s4⟩ := v2 a z1
      obtain ⟨t1, t2, t3, t4⟩ := v1 a z0
      exact ⟨by rw [w1, x1, r1, s1, t1], by rw [w2, x2, r2, s2, t2], by rw [w3, x3, r3, s3, t3], by rw [w4, x4, r4, s4, t4]⟩
    have hA5 : LAr g5 t (2 ^ aN M) h.n (h.n + 1) (h.n + 2) (h.n + 3) (h.n + 4) := by
      refine ⟨⟨?_, ?_, ?_, ?_, c5⟩, ⟨?_, ?_, ?_, ?_, f5⟩, ⟨?_, ?_, ?_, ?_, q5⟩, by omega, by omega, Or.inr (by omega), by omega, by omega, by omega, by omega, by omega⟩
      · rw [d5 5 (by omega), d4 5 (by omega), d3 5 (by omega), d2 5 (by omega), c1]
      · rw [d5 6 (by omega), d4 6 (by omega), d3 6 (by omega), c2]
      · rw [d5 7 (by omega), d4 7 (by omega), c3]
      · rw [d5 8 (by omega), c4]
      · rw [(v5 h.n (by omega)).1, (v4 h.n (by omega)).1, (v3 h.n (by omega)).1, (v2 h.n (by omega)).1, f1]
      · rw [(v5 _ (by omega)).1, (v4 _ (by omega)).1, (v3 _ (by omega)).1, f2]
      · rw [(v5 _ (by omega)).1, (v4 _ (by omega)).1, f3]
      · rw [(v5 _ (by omega)).1, f4]
      · rw [(v5 h.n (by omega)).2.1, (v4 h.n (by omega)).2.1, (v3 h.n (by omega)).2.1, (v2 h.n (by omega)).2.1, q1]
      · rw [(v5 _ (by omega)).2.1, (v4 _ (by omega)).2.1, (v3 _ (by omega)).2.1, q2]
      · rw [(v5 _ (by omega)).2.1, (v4 _ (by omega)).2.1, q3]
      · rw [(v5 _ (by omega)).2.1, q4]
    refine S34b hw ho5 hA5 (Nat.le_refl _) (fun h' k V od s1 s2 s3 => ?_)
    refine kk h' (2 ^ aN M) h.n (h.n + 1) (h.n + 2) (h.n + 3) (h.n + 4) k V od ?_ ?_ ?_ (by rw [s1.n]; omega) (by rw [s1.sl]; omega) (hA5.sm s1) (Nat.le_refl _) (Or.inr (by omega)) s3
    · refine ⟨by rw [s1.n]; omega, fun a ha => ?_, fun a ha hs => ?_⟩
      · rw [s1.K, s1.N]
        have := old a (by omega) (by omega) (by omega) (by omega) (by omega)
        exact ⟨this.1, this.2.1⟩
      · have hs' : ¬ inO t h.n (h.n + 1) (h.n + 2) a := by unfold inO at hs ⊢; omega
        have nt : a ≠ t := by unfold inO at hs; omega
        have := old a (by omega) (by omega) (by omega) (by omega) (by omega)
        refine ⟨by rw [s1.I hs']; exact this.2.2.1, by rw [s1.J hs']; exact this.2.2.2, ?_⟩
        rw [s1.P, y5 a (by omega) nt, y4 a (by omega) nt, y3 a (by omega) nt, y2 a (by omega) nt, y1 a (by omega) nt]
    · intro j j1 j2 j3
      rw [s2 j j1 j2 j3, (old t (by omega) (by omega) (by omega) (by omega) (by omega)).2.2.1]
    · intro f hf
      rw [s1.P, d5 f (by omega), d4 f (by omega), d3 f (by omega), d2 f (by omega), d1 f (by omega)]
theorem LAr.ptr (hA : LAr h t L a5 a6 a7 a8 a9) {f a : Nat} (h5 : 5 ≤ f) (h9 : f ≤ 9) (hp : h.P t f = some a) : a = a5 ∨ a = a6 ∨ a = a7 ∨ a = a8 ∨ a = a9 := by
  obtain ⟨⟨p5, p6, p7, p8, p9⟩, -⟩ := hA
  rcases (show f = 5 ∨ f = 6 ∨ f = 7 ∨ f = 8 ∨ f = 9 by omega) with rfl | rfl | rfl | rfl | rfl
  · rw [p5] at hp; cases hp; omega
  · rw [p6] at hp; cases hp; omega
  · rw [p7] at hp; cases hp; omega
  · rw [p8] at hp; cases hp; omega
  · rw [p9] at hp; cases hp; omega
/-- both ways to begin, from the room that is laid on -/
theorem use_new (hw : Wf M) (ho : LObj h' t tm M big cw) (hA : LAr h' t L a5 a6 a7 a8 a9) (hn : 222 ≤ h.n) (hn2 : h.n + 5 ≤ 1000000) (e1 : h'.n = h.n) (e2 : h'.sl = h.sl) (hg : Gr (inT h t) h h') (hp : ∀ f, f ≠ 2 → h'.P t f = h.P t f) (kk : ∀ g L' b5 b6 b7 b8 b9 k V od w σ, LPost h g t → fKeep h' g t → LAr g t L' b5 b6 b7 b8 b9 → 2 ^ aN M ≤ L' → DJ g t tm M big cw b5 b6 b7 b8 k V od w σ σ → (∀ f, f < 5 ∨ 9 < f → g.P t f = h'.P t f) → C g) : W34 t h' C := by
  have ht := is2_rng ho.1
  refine S34 hw ho hA (by omega) (by omega) (fun g L' b5 b6 b7 b8 b9 k V od s1 s2 s3 s4 s5 s6 s7 s8 s9 => ?_)
  refine kk g L' b5 b6 b7 b8 b9 k V od 1 0 ⟨?_, ?_, by omega, by omega⟩ s2 s6 s7 s9 s3
  · refine hg.trans ?_
    refine ⟨s1.1, s1.2.1, fun a ha hs => s1.2.2 a ha (fun z => hs ?_)⟩
    obtain ⟨⟨p5, p6, p7, p8, p9⟩, -⟩ := hA
    rcases z with z | z | z | z
    · exact Or.inl (by omega)
    · exact Or.inr ⟨5, by omega, by omega, by rw [← hp 5 (by omega), z]; exact p5⟩
    · exact Or.inr ⟨6, by omega, by omega, by rw [← hp 6 (by omega), z]; exact p6⟩
    · exact Or.inr ⟨7, by omega, by omega, by rw [← hp 7 (by omega), z]; exact p7⟩
  · intro f a h5 h16 q
    by_cases h9 : f ≤ 9
    · obtain ⟨⟨p5, p6, p7, p8, p9⟩, -⟩ := hA
      have z := s6.ptr h5 h9 q
      obtain ⟨⟨r5, r6, r7, r8, r9⟩, -, -, -, -, -, m5, m6, m7, m8, m9⟩ := s6
      rcases s8 with s8 | s8
      · left
        rw [← hp f (by omega)]
        rcases (show f = 5 ∨ f = 6 ∨ f = 7 ∨ f = 8 ∨ f = 9 by omega) with rfl | rfl | rfl | rfl | rfl
        · rw [p5, ← s8.1, ← r5]; exact q
        · rw [p6, ← s8.2.1, ← r6]; exact q
        · rw [p7, ← s8.2.2.1, ← r7]; exact q
        · rw [p8, ← s8.2.2.2.1, ← r8]; exact q
        · rw [p9, ← s8.2.2.2.2, ← r9]; exact q
      · right
        omega
    · left
      rw [s3 f (by omega), hp f (by omega)] at q
      exact q
end SU
