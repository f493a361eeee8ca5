def inRt (h : TH) (a : Nat) : Prop := a = 190 ∨ ∃ f, 3 ≤ f ∧ f ≤ 4 ∧ h.P 190 f = some a
def RdPost (h g : TH) : Prop := Gr (inRt h) h g ∧ (∀ f a, 3 ≤ f → f ≤ 4 → g.P 190 f = some a → h.P 190 f = some a ∨ (h.n ≤ a ∧ a < g.n)) ∧ g.n ≤ h.n + 2 ∧ g.sl ≤ h.sl + 8192
section RST
variable {h g : TH} {M : Nat → Int32} {goal Sc : Int32} {tm L a3 a4 : Nat}
theorem RdPost.sm {g' : TH} (hp : RdPost h g) (ha : RcA g L a3 a4) (hn : h.n + 5 ≤ 1000000) (hs : Sm (inRq a3 a4) g g') : RdPost h g' := by
  obtain ⟨⟨g1, g2, g3⟩, p2, p3, p4⟩ := hp
  refine ⟨⟨by rw [hs.n]; exact g1, fun a z => by rw [hs.K, hs.N]; exact g2 a z, fun a z w => ?_⟩, fun f a z1 z2 w => ?_, by rw [hs.n]; exact p3, by rw [hs.sl]; exact p4⟩
  · have no : ¬ inRq a3 a4 a := by
      rintro (q | q | q)
      · exact w (Or.inl q)
      · rcases p2 3 a3 (by omega) (by omega) ha.1.1 with y | y
        · exact w (Or.inr ⟨3, by omega, by omega, by rw [q]; exact y⟩)
        · omega
      · rcases p2 4 a4 (by omega) (by omega) ha.1.2 with y | y
        · exact w (Or.inr ⟨4, by omega, by omega, by rw [q]; exact y⟩)
        · omega
    rw [hs.I no, hs.J no, hs.P]
    exact g3 a z w
  · rw [hs.P] at w
    rw [hs.n]
    exact p2 f a z1 z2 w
/-- can each be made at all -/
theorem S115 {C : Int32 → Prop} (hw : Wf M) (ht : h.P 190 0 = some tm ∧ is3 tm ∧ CM h tm M) (h1 : h.I 190 1 = goal) (h2 : h.I 190 2 = Sc) (hg : St (aN M) goal) (kt : (fitB M (bigK M 0) goal = true ∧ ∀ d, d < aN M → bt Sc d = true → aPa M d = (-1) ∧ fitB M (bigK M 0) (aNe M d ||| ishl 1 (nI d)) = true) → C 1) (kf : ¬ (fitB M (bigK M 0) goal = true ∧ ∀ d, d < aN M → bt Sc d = true → aPa M d = (-1) ∧ fitB M (bigK M 0) (aNe M d ||| ishl 1 (nI d)) = true) → C 0) : W115 h C := by
  have h12 := hw.n12
  obtain ⟨t1, t2, t3⟩ := ht
  unfold W115 B115_2
  refine LFP.up (aN M) (fun j z => z = nI j ∧ ∀ d, d < j → bt Sc d = true → aPa M d = (-1) ∧ fitB M (bigK M 0) (aNe M d ||| ishl 1 (nI d)) = true) ?_ ?_ (Nat.zero_le _) ⟨rfl, fun d hd => absurd hd (Nat.not_lt_zero _)⟩
  · rintro X j x1 hj ⟨e1, e2⟩ ih
    subst e1
    unfold F115_2
    (try dsimp only)
    rw [R_of t1, t3.r.n, if_neg (nI_ge hj (by omega)), h2]
    refine ⟨t1, t2, ?_⟩
    by_cases b : bt Sc j = true
    · rw [if_neg ((bt_in' (by omega)).mpr b)]
      refine ⟨t1, t2, S61 hw t3.r j rfl hj (fun z => ?_) (fun z => ?_)⟩
      · rw [if_neg (by decide), ix_n (by omega), t3.r.ne hj]
        refine ⟨t1, t2, t1, t2, inb_n (by omega), S112 hw t3.room (St_or (hw.neN hj) (St_bit hj)) (fun ft => ?_) (fun ft => ?_)⟩
        · rw [if_pos (by decide)]
          refine ih _ ⟨nI_1 j, fun d hd w => ?_⟩
          rcases Nat.lt_or_ge d j with y | y
          · exact e2 d y w
          · rw [show d = j by omega]; exact ⟨z, ft⟩
        · rw [if_neg (fun w => w rfl)]
          exact kf (fun w => by rw [(w.2 j hj b).2] at ft; exact absurd ft (by decide))
      · rw [if_pos rfl]
        exact kf (fun w => z (w.2 j hj b).1)
    · rw [if_pos ((bt_in (by omega)).mpr (by simpa using b))]
      refine ih _ ⟨nI_1 j, fun d hd w => ?_⟩
      rcases Nat.lt_or_ge d j with y | y
      · exact e2 d y w
      · rw [show d = j by omega] at w; exact absurd w b
  · rintro X x1 ⟨e1, e2⟩
    subst e1
    unfold F115_2
    (try dsimp only)
    rw [R_of t1, t3.r.n, if_pos (nI_le (Nat.le_refl _) (by omega)), h1]
    refine ⟨t1, t2, t1, t2, S112 hw t3.room hg (fun ft => ?_) (fun ft => ?_)⟩
    · exact ⟨Or.inr rfl, kt ⟨ft, e2⟩⟩
    · exact ⟨Or.inl rfl, kf (fun w => by rw [w.1] at ft; exact absurd ft (by decide))⟩
/-- the rows are cleared, nothing STANDS -/
theorem S116c {C : TH → Prop} (hw : Wf M) (hA : RcA h L a3 a4) (hL : 2 ^ aN M ≤ L) (ht : h.P 190 0 = some tm ∧ is3 tm ∧ CM h tm M) (h1 : h.I 190 1 = goal) (h2 : h.I 190 2 = Sc) (kk : ∀ g q F, Sm (inRq a3 a4) h g → RQ g tm M goal Sc L a3 a4 q F → inQ q F 0 → (∀ i, i < F → q i = 0) → C g) : B116_35 (nI (2 ^ aN M)) 0 h C := by
  have h12 := hw.n12
  have p12 := pow12 h12
  have p0 : 0 < 2 ^ aN M := Nat.pow_pos (Nat.succ_pos 1)
  have hA0 := hA
  obtain ⟨⟨p3, p4⟩, ⟨k3, k4⟩, ⟨n3, n4⟩, l1, l2, l3, m3, m4⟩ := hA
  obtain ⟨t1, t2, t3⟩ := ht
  have r3m := is3_rng t2
  have big : 222 ≤ a3 ∧ 222 ≤ a4 := by
    rcases l3 with l3 | l3
    · rw [l3] at hL
      exact absurd (Nat.lt_of_lt_of_le p0 hL) (Nat.lt_irrefl 0)
    · exact l3
  unfold B116_35
  refine LFP.up (2 ^ aN M) (fun j z => z.1 = nI j ∧ Sm (fun a => a = a4) h z.2 ∧ ∀ u, u < j → z.2.I a4 u = 0) ?_ ?_ (Nat.zero_le _) ⟨rfl, Sm.refl, fun u hu => absurd hu (Nat.not_lt_zero _)⟩
  · rintro Y j ⟨x2, g⟩ hj ⟨e1, e2, e3⟩ ih
    (try dsimp only at e1 e2 e3)
    subst e1
    have P4 : g.P 190 4 = some a4 := by rw [e2.P]; exact p4
    unfold F116_35
    (try dsimp only)
    rw [if_neg (nI_ge hj (by omega)), R_of P4, ix_n (by omega)]
    refine ⟨P4, okA_n (by rw [e2.K]; exact k4) (by rw [e2.N]; omega) (by rw [e2.N]; omega), ih _ ⟨nI_1 j, Sm.sI (S := fun a => a = a4) e2 rfl _, fun u hu => ?_⟩⟩
    (try dsimp only)
    rw [I_at]
    by_cases e : u = j
    · rw [if_pos e]; rfl
    · rw [if_neg e]; exact e3 u (by omega)
  · rintro Y ⟨x2, g⟩ ⟨e1, e2, e3⟩
    (try dsimp only at e1 e2 e3)
    subst e1
    unfold F116_35
    (try dsimp only)
    rw [if_pos (nI_le (Nat.le_refl _) (by omega))]
    have sg : Sm (inRq a3 a4) h ((g.sI 190 5 0).sI 190 6 0) := ((e2.mono (T := inRq a3 a4) (fun a z => Or.inr (Or.inr z))).sI (Or.inl rfl) _).sI (Or.inl rfl) _
    have rq : RQ ((g.sI 190 5 0).sI 190 6 0) tm M goal Sc L a3 a4 (fun _ => 0) 0 := by
      refine ⟨hA0.sm sg, ⟨by rw [sg.P]; exact t1, t2, t3.frame (fun a z1 z2 => sg.I (by unfold inRq; omega))⟩, ?_, ?_, hL, ?_, fun i hi => absurd hi (Nat.not_lt_zero _), fun i j _ hj => absurd hj (Nat.not_lt_zero _), fun u hu => ⟨fun ⟨i, hi, _⟩ => absurd hi (Nat.not_lt_zero _), fun _ => ?_⟩, Or.inl I_eq, ?_⟩
      · rw [I_nk (by omega), I_nk (by omega), e2.I (by omega)]; exact h1
      · rw [I_nk (by omega), I_nk (by omega), e2.I (by omega)]; exact h2
      · rw [I_nk (by omega), I_eq]; rfl
      · rw [I_ne (by omega), I_ne (by omega)]; exact e3 u hu
      · rw [I_eq]
        exact ⟨fun q => absurd q (by decide), fun ⟨i, hi, _⟩ => absurd hi (Nat.not_lt_zero _)⟩
    exact S117 (u := 0) rfl p0 rq (fun g' q' F' w1 w2 w3 w4 w5 => kk g' q' F' (sg.trans w1) w2 w4 (fun i hi => w5 i (Nat.zero_le _) hi))
theorem S116 {C : TH → Prop} (hw : Wf M) (hA : RcA h L a3 a4) (ht : h.P 190 0 = some tm ∧ is3 tm ∧ CM h tm M) (h1 : h.I 190 1 = goal) (h2 : h.I 190 2 = Sc) (hn : 222 ≤ h.n) (hn2 : h.n + 5 ≤ 1000000) (kk : ∀ g L' b3 b4 q F, RdPost h g → RQ g tm M goal Sc L' b3 b4 q F → inQ q F 0 → (∀ i, i < F → q i = 0) → C g) : W116 h C := by
  have h12 := hw.n12
  have p12 := pow12 h12
  have p0 : 0 < 2 ^ aN M := Nat.pow_pos (Nat.succ_pos 1)
  have hA0 := hA
  obtain ⟨⟨p3, p4⟩, ⟨k3, k4⟩, ⟨n3, n4⟩, l1, l2, l3, m3, m4⟩ := hA
  obtain ⟨t1, t2, t3⟩ := ht
  have r3m := is3_rng t2
  have self : RdPost h h := ⟨Gr.refl, fun f a _ _ w => Or.inl w, Nat.le_add_right _ _, Nat.le_add_right _ _⟩
  unfold W116
  rw [R_of t1, R_of p3, t3.r.n, ishl_pow _ (by omega), n3]
  refine ⟨t1, t2, p3, k3, ?_⟩
  by_cases e : 2 ^ aN M ≤ L
  · rw [if_pos (nI_le e (by omega))]
    exact S116c hw hA0 e ⟨t1, t2, t3⟩ h1 h2 (fun g q F w1 w2 w3 w4 => kk g L a3 a4 q F (self.sm hA0 hn2 w1) w2 w3 w4)
  · rw [if_neg (nI_ge (by omega) (by omega)), ix_n (by omega)]
    refine ⟨inb_n (by omega), by omega, ?_⟩
    have A1 : Al h ((h.new 100 (2 ^ aN M) (2 ^ aN M)).sP 190 3 h.n) 190 3 100 (2 ^ aN M) := Al_new (by omega)
    intro g1 eg1
    subst eg1
    generalize ((h.new 100 (2 ^ aN M) (2 ^ aN M)).sP 190 3 h.n) = g1 at A1 ⊢
    refine ⟨inb_n (by omega), by have := A1.1; omega, ?_⟩
    have A2 : Al g1 ((g1.new 102 (2 ^ aN M) (2 ^ aN M)).sP 190 4 g1.n) 190 4 102 (2 ^ aN M) := Al_new (by have := A1.1; omega)
    generalize ((g1.new 102 (2 ^ aN M) (2 ^ aN M)).sP 190 4 g1.n) = g2 at A2 ⊢
    have y1 : g1.n = h.n + 1 := A1.1
    have y2 : g2.n = h.n + 2 := by rw [A2.1, y1]
    have ysl : g2.sl = h.sl + 2 * 2 ^ aN M := by rw [A2.2.1, A1.2.1]; omega
    obtain ⟨-, -, c1, q1, x1, w1, v1, u1⟩ := A1
    obtain ⟨-, -, c2, q2, x2, w2, v2, u2⟩ := A2
    rw [y1] at c2 x2 w2 v2 u2
    have old : ∀ a, a ≠ h.n → a ≠ h.n + 1 → g2.K a = h.K a ∧ g2.N a = h.N a ∧ g2.I a = h.I a ∧ g2.J a = h.J a := by
      intro a z0 z1
      obtain ⟨s1', s2', s3', s4'⟩ := v2 a z1
      obtain ⟨t1', t2', t3', t4'⟩ := v1 a z0
      exact ⟨by rw [s1', t1'], by rw [s2', t2'], by rw [s3', t3'], by rw [s4', t4']⟩
    have oP : ∀ a, a ≠ 190 → a ≠ h.n → a ≠ h.n + 1 → g2.P a = h.P a := fun a z z0 z1 => by rw [u2 a z1 z, u1 a z0 z]
    have oPt : ∀ j, j ≠ 3 → j ≠ 4 → g2.P 190 j = h.P 190 j := fun j j1 j2 => by rw [q2 j j2, q1 j j1]
    have rc : RcA g2 (2 ^ aN M) h.n (h.n + 1) := by
      refine ⟨⟨?_, c2⟩, ⟨?_, x2⟩, ⟨?_, w2⟩, p12, by omega, Or.inr (by omega), by omega, by omega⟩
      · rw [q2 3 (by omega), c1]
      · rw [(v2 _ (by omega)).1, x1]
      · rw [(v2 _ (by omega)).2.1, w1]
    have post : RdPost h g2 := by
      refine ⟨⟨by omega, fun a ha => ?_, fun a ha hs => ?_⟩, fun f a f1 f2 w => ?_, by omega, by omega⟩
      · have := old a (by omega) (by omega)
        exact ⟨this.1, this.2.1⟩
      · have n190 : a ≠ 190 := fun w => hs (Or.inl w)
        have := old a (by omega) (by omega)
        exact ⟨this.2.2.1, this.2.2.2, oP a n190 (by omega) (by omega)⟩
      · right
        rcases (show f = 3 ∨ f = 4 by omega) with rfl | rfl
        · rw [rc.1.1] at w; cases w; omega
        · rw [rc.1.2] at w; cases w; omega
    have i190 := (old 190 (by omega) (by omega)).2.2.1
    refine S116c hw rc (Nat.le_refl _) ⟨by rw [oPt 0 (by omega) (by omega)]; exact t1, t2, t3.frame (fun a z1 z2 => (old a (by omega) (by omega)).2.2.1)⟩ (by rw [i190]; exact h1) (by rw [i190]; exact h2) (fun g q F w1 w2 w3 w4 => kk g _ _ _ q F (post.sm rc hn2 w1) w2 w3 w4)
end RST
