/-! BOUND from below; the class's number of a state -/
section OW
variable {M : Nat → Int32} {Sc goal : Int32} {P : Nat}
theorem pc_needs (hw : Wf M) {x : Nat} (hx : x < aN M) : pc (aNe M x ||| ishl 1 (nI x)) = pc (aNe M x) + 1 := by
  have h12 := hw.n12
  refine pc_add (by omega) ?_
  have := hw.ne hx
  rw [St_bt (by omega)] at this
  exact this x (Nat.le_refl _) (by omega)
/-- whatever can STAND was made of what needs no more POTS -/
theorem Rs_own (hw : Wf M) (hc : clo M Sc) {m t : Int32} (h : Rs M Sc false P m t) : t = 0 ∧ ∃ b, St (aN M) b ∧ clo M b ∧ (∀ d, d < aN M → bt b d = true → own M d ≤ P) ∧ sb m b := by
  have h12 := hw.n12
  have key : FI M Sc P m t ∧ t = 0 ∧ ∃ b, St (aN M) b ∧ clo M b ∧ (∀ d, d < aN M → bt b d = true → own M d ≤ P) ∧ sb m b := by
    refine h (fun m t => FI M Sc P m t ∧ t = 0 ∧ ∃ b, St (aN M) b ∧ clo M b ∧ (∀ d, d < aN M → bt b d = true → own M d ≤ P) ∧ sb m b) ⟨FI.zero, rfl, 0, St_0 _, fun d _ q => by rw [bt_0] at q; exact absurd q (by decide), fun d _ q => by rw [bt_0] at q; exact absurd q (by decide), sb_zero _⟩ ?_
    rintro m t m' t' ⟨i0, rfl, b, b1, b2, b3, b4⟩ hf
    refine ⟨i0.step hw hc hf, ?_⟩
    obtain ⟨d, hd, hS, hf⟩ := hf
    have m0 : m ||| 0 = m := Int32.or_zero
    rcases hf with ⟨f1, f2, f3⟩ | ⟨f1, f2, f3, f4⟩ | ⟨f1, f2, f3, f4, f5⟩ | ⟨o, fo, f1, f2, f3, f4, f5, f6, f7, f8⟩ | ⟨f1, f2, f3, f4, f5⟩
    · exact ⟨f3, b, b1, b2, b3, by rw [f2]; exact sb_trans (sb_and _ _) b4⟩
    · rw [bt_0] at f1; exact absurd f1 (by decide)
    · rw [m0] at f1 f2 f3
      refine ⟨by rw [f5]; exact Int32.zero_and, b ||| gP M d, St_or b1 (hw.gS hd), ?_, ?_, by rw [f4]; exact sb_trans (sb_and _ _) (sb_or (sb_trans b4 (sb_or_l _ _)) (sb_or_r _ _))⟩
      · intro x hx q
        rw [bt_or, Bool.or_eq_true] at q
        rcases q with q | q
        · have := b2 x hx q
          exact ⟨sb_trans this.1 (sb_or_l _ _), sb_trans this.2 (sb_or_l _ _)⟩
        · have nn : sb (nP M d) b := sb_trans (bt_sub.mp f1) b4
          rcases hw.pa hd with z | ⟨e, h1, h2, h3, h4, _⟩
          · rw [gP_alone z, bt_bit (by omega)] at q
            simp only [decide_eq_true_eq] at q
            subst q
            rw [nP_alone z] at nn
            exact ⟨sb_or_r _ _, sb_trans nn (sb_or_l _ _)⟩
          · rw [nP_pair h2 (by omega)] at nn
            rw [gP_pair h2 (by omega), bt_or, bt_bit (by omega), bt_bit (by omega)] at q
            simp only [Bool.or_eq_true, decide_eq_true_eq] at q
            rcases q with q | q
            · subst q
              exact ⟨sb_or_r _ _, sb_trans (sb_trans (sb_or_l _ _) nn) (sb_or_l _ _)⟩
            · subst q
              refine ⟨?_, sb_trans (sb_trans (sb_or_r _ _) nn) (sb_or_l _ _)⟩
              rw [gP_pair h4 (by omega), gP_pair h2 (by omega)]
              exact sb_or (sb_trans (sb_or_r _ _) (sb_or_r _ _)) (sb_trans (sb_or_l _ _) (sb_or_r _ _))
      · intro x hx q
        rw [bt_or, Bool.or_eq_true] at q
        rcases q with q | q
        · exact b3 x hx q
        · have nx : sb (aNe M x) m ∧ sb (ishl 1 (nI x)) (gP M d) := by
            have nn : sb (nP M d) m := bt_sub.mp f1
            have sx : sb (ishl 1 (nI x)) (gP M d) := by
              intro y hy z
              rw [bt_bit (by omega)] at z
              simp only [decide_eq_true_eq] at z
              rw [z]; exact q
            refine ⟨?_, sx⟩
            rcases hw.pa hd with z | ⟨e, h1, h2, h3, h4, _⟩
            · rw [gP_alone z, bt_bit (by omega)] at q
              simp only [decide_eq_true_eq] at q
              subst q
              rw [nP_alone z] at nn
              exact nn
            · rw [nP_pair h2 (by omega)] at nn
              rw [gP_pair h2 (by omega), bt_or, bt_bit (by omega), bt_bit (by omega)] at q
              simp only [Bool.or_eq_true, decide_eq_true_eq] at q
              rcases q with q | q
              · subst q; exact sb_trans (sb_or_l _ _) nn
              · subst q; exact sb_trans (sb_or_r _ _) nn
          have p1 := pc_needs hw hx
          have p2 : pc (aNe M x ||| ishl 1 (nI x)) ≤ pc (m ||| gP M d) := pc_sb (sb_or (sb_trans nx.1 (sb_or_l _ _)) (sb_trans nx.2 (sb_or_r _ _)))
          unfold own
          split <;> omega
    · rw [m0] at f3 f4
      refine ⟨by rw [f8]; exact Int32.zero_and, b ||| ishl 1 (nI d), St_or b1 (St_bit hd), ?_, ?_, ?_⟩
      · intro x hx q
        rw [bt_or, Bool.or_eq_true] at q
        rcases q with q | q
        · have := b2 x hx q
          exact ⟨sb_trans this.1 (sb_or_l _ _), sb_trans this.2 (sb_or_l _ _)⟩
        · rw [bt_bit (by omega)] at q
          simp only [decide_eq_true_eq] at q
          subst q
          rw [gP_alone f2]
          exact ⟨sb_or_r _ _, sb_trans (sb_trans (bt_sub.mp f4) b4) (sb_or_l _ _)⟩
      · intro x hx q
        rw [bt_or, Bool.or_eq_true] at q
        rcases q with q | q
        · exact b3 x hx q
        · rw [bt_bit (by omega)] at q
          simp only [decide_eq_true_eq] at q
          subst q
          unfold own
          rw [if_pos f1]
          have := i0.2.2.2.2.2
          rw [m0] at this
          have := pc_sb (bt_sub.mp f4)
          omega
      · rw [f7]
        unfold poW
        exact sb_trans (sb_and _ _) (sb_or (sb_trans (sb_and _ _) (sb_trans b4 (sb_or_l _ _))) (sb_or_r _ _))
    · exact absurd f1 (by decide)
  exact key.2
theorem FGo.ownle (hw : Wf M) (hc : clo M Sc) (h : FGo M Sc false goal P) {a : Int32} (ha : Clo M goal a) {d : Nat} (hd : d < aN M) (q : bt a d = true) : own M d ≤ P := by
  have h12 := hw.n12
  obtain ⟨m, h1, h2⟩ := h
  obtain ⟨_, b, b1, b2, b3, b4⟩ := Rs_own hw hc h1
  exact b3 d hd (ha.2.2.2 b b1 (sb_trans h2 b4) b2 d (by omega) q)
end OW
/-! the number of a state: a digit for each DISH that may be used -/
def wt (Sc : Int32) (base d : Nat) : Nat := if bt Sc d then base ^ fb_ct (bt Sc) d else 0
def wsum (Sc : Int32) (base : Nat) (s : Int32) : Nat := fb_sm (fun d => if bt s d then wt Sc base d else 0) 12
/-- half a row: lower bits of u -/
def hsum (f : Nat → Nat) (u p : Nat) : Nat := fb_sm (fun d => if u.testBit d then f d else 0) p
section WE
variable {h h' : TH} {Sc : Int32} {base t : Nat} {f : Nat → Nat}
theorem hsum_hi {u p q : Nat} (hu : u < 2 ^ p) (hq : p ≤ q) : hsum f u q = hsum f u p := by
  unfold hsum
  obtain ⟨r, rfl⟩ : ∃ r, q = p + r := ⟨q - p, by omega⟩
  clear hq
  induction r with
  | zero => rfl
  | succ r ih =>
    rw [← Nat.add_assoc, fb_sm_succ, ih]
    rw [Nat.testBit_lt_two_pow (Nat.lt_of_lt_of_le hu (Nat.pow_le_pow_right (by omega) (by omega)))]
    simp
theorem hsum_top {v p : Nat} (hv : v < 2 ^ p) : hsum f (2 ^ p + v) (p + 1) = hsum f v p + f p := by
  unfold hsum
  rw [fb_sm_succ]
  have e1 : (2 ^ p + v).testBit p = true := by
    rw [Nat.testBit_two_pow_add_eq, Nat.testBit_lt_two_pow hv]
    rfl
  rw [e1]
  simp only [if_true]
  congr 1
  refine fb_sm_cong (fun k hk => ?_)
  rw [Nat.testBit_two_pow_add_gt hk]
/-- weighHalf -/
theorem S3 {C : TH → Prop} {a p w : Nat} {x y : Int32} (hx : x = nI p) (hy : y = nI w) (hp : p < 6) (hK : h.K a = 100) (hN : h.N a = 64) (hr : ∀ u, u < 2 ^ p → h.I a u = nI (hsum f u p)) (hf : f p = w) (kk : ∀ g, Sm (fun b => b = a) h g → (∀ u, u < 2 ^ (p + 1) → g.I a u = nI (hsum f u (p + 1))) → C g) : W3 a x y h C := by
  subst hx hy
  have p6 : 2 ^ p ≤ 32 := Nat.pow_le_pow_right (n := 2) (by omega) (show p ≤ 5 by omega)
  have pp : 2 ^ (p + 1) = 2 ^ p + 2 ^ p := by rw [Nat.pow_succ]; omega
  unfold W3
  rw [ishl_pow p (by omega)]
  unfold B3_7
  refine LFP.up (2 ^ p) (fun j q => q.1 = nI j ∧ Sm (fun b => b = a) h q.2 ∧ (∀ u, u < 2 ^ p → q.2.I a u = h.I a u) ∧ ∀ u, u < j → q.2.I a (2 ^ p + u) = nI (hsum f (2 ^ p + u) (p + 1))) ?_ ?_ (Nat.zero_le _) ⟨rfl, Sm.refl, fun _ _ => rfl, fun u hu => absurd hu (Nat.not_lt_zero _)⟩
  · rintro X j ⟨x4, g⟩ hj ⟨e1, e2, e3, e4⟩ ih
    (try dsimp only at e1 e2 e3 e4)
    subst e1
    have Kg : g.K a = 100 := by rw [e2.K]; exact hK
    have Ng : g.N a = 64 := by rw [e2.N]; exact hN
    unfold F3_7
    (try dsimp only)
    rw [if_neg (nI_ge hj (by omega)), Ng, nI_add, if_neg (nI_ge (by omega) (by omega)), ix_n (by omega), ix_n (by omega), e3 j hj, hr j hj, nI_add]
    refine ⟨Kg, okA_n Kg (by omega) (by omega), okA_n Kg (by omega) (by omega), ih _ ⟨nI_1 j, Sm.sI (S := fun b => b = a) e2 rfl _, fun u hu => ?_, fun u hu => ?_⟩⟩
    · (try dsimp only)
      rw [I_nk (by omega)]; exact e3 u hu
    · (try dsimp only)
      rw [I_at]
      by_cases e : u = j
      · rw [if_pos (by omega), e, hsum_top hj, hf]
      · rw [if_neg (by omega)]; exact e4 u (by omega)
  · rintro X ⟨x4, g⟩ ⟨e1, e2, e3, e4⟩
    (try dsimp only at e1 e2 e3 e4)
    subst e1
    unfold F3_7
    (try dsimp only)
    rw [if_pos (nI_le (Nat.le_refl _) (by omega))]
    refine kk g e2 (fun u hu => ?_)
    rcases Nat.lt_or_ge u (2 ^ p) with q | q
    · rw [e3 u q, hr u q, hsum_hi (q := p + 1) q (by omega)]
    · obtain ⟨v, rfl⟩ : ∃ v, u = 2 ^ p + v := ⟨u - 2 ^ p, by omega⟩
      exact e4 v (by omega)
/-- the rows low and high tell the weights -/
def LoHi (h : TH) (t : Nat) (Sc : Int32) (base : Nat) : Prop := (∀ u, u < 64 → h.I (t + 4) u = nI (hsum (wt Sc base) u 6)) ∧ ∀ u, u < 64 → h.I (t + 5) u = nI (hsum (fun d => wt Sc base (d + 6)) u 6)
def is0R (h : TH) (t : Nat) : Prop := is0 t ∧ h.P t 8 = some (t + 4) ∧ h.P t 9 = some (t + 5) ∧ h.K (t + 4) = 100 ∧ h.N (t + 4) = 64 ∧ h.K (t + 5) = 100 ∧ h.N (t + 5) = 64
theorem pow_ct {j : Nat} : base ^ fb_ct (bt Sc) (j + 1) = if bt Sc j then base ^ fb_ct (bt Sc) j * base else base ^ fb_ct (bt Sc) j := by
  rw [fb_ct_succ]
  split
  · rw [Nat.pow_succ]
  · rfl
theorem S2 {C : TH → Prop} (hr : is0R h t) (hs : St 12 Sc) (h3 : h.I t 3 = Sc) (hb : (base = 2 ∧ h.I t 0 = 0) ∨ (base = 3 ∧ ¬ h.I t 0 = 0)) (hB : base ^ fb_ct (bt Sc) 12 ≤ 6561) (z4 : h.I (t + 4) 0 = 0) (z5 : h.I (t + 5) 0 = 0) (kk : ∀ g, Sm (fun a => a = t ∨ a = t + 4 ∨ a = t + 5) h g → (∀ j, j ≠ 10 → g.I t j = h.I t j) → g.I t 10 = nI (base ^ fb_ct (bt Sc) 12) → LoHi g t Sc base → C g) : W2 t h C := by
  obtain ⟨r0, r1, r2, r3, r4, r5, r6⟩ := hr
  have b0 : 0 < base := by omega
  have bnd : ∀ j, j ≤ 12 → base ^ fb_ct (bt Sc) j ≤ 6561 := fun j hj => Nat.le_trans (Nat.pow_le_pow_right b0 (fb_ct_mono _ hj)) hB
  unfold W2 B2_7
  refine LFP.up 12 (fun j q => q.1 = nI j ∧ Sm (fun a => a = t ∨ a = t + 4 ∨ a = t + 5) h q.2 ∧ (∀ i, i ≠ 10 → q.2.I t i = h.I t i) ∧ q.2.I t 10 = nI (base ^ fb_ct (bt Sc) j) ∧ (∀ u, u < 2 ^ min j 6 → q.2.I (t + 4) u = nI (hsum (wt Sc base) u (min j 6))) ∧ ∀ u, u < 2 ^ (j - 6) → q.2.I (t + 5) u = nI (hsum (fun d => wt Sc base (d + 6)) u (j - 6))) ?_ ?_ (Nat.zero_le _) ⟨rfl, Sm.refl.sI (Or.inl rfl) _, fun i hi => I_nk hi, I_eq, fun u hu => ?_, fun u hu => ?_⟩
  · rintro X j ⟨x1, g⟩ hj ⟨e1, e2, e3, e4, e5, e6⟩ ih
    (try dsimp only at e1 e2 e3 e4 e5 e6)
    subst e1
    have bj := bnd j (by omega)
    have bj1 := bnd (j + 1) (by omega)
    have K4 : g.K (t + 4) = 100 := by rw [e2.K]; exact r3
    have N4 : g.N (t + 4) = 64 := by rw [e2.N]; exact r4
    have K5 : g.K (t + 5) = 100 := by rw [e2.K]; exact r5
    have N5 : g.N (t + 5) = 64 := by rw [e2.N]; exact r6
    have g0 : g.I t 0 = h.I t 0 := e3 0 (by omega)
    /- behind the half -/
    have aft : ∀ g' (w : Nat), w = wt Sc base j → Sm (fun a => a = t ∨ a = t + 4 ∨ a = t + 5) h g' → (∀ i, i ≠ 10 → g'.I t i = h.I t i) → g'.I t 10 = nI (base ^ fb_ct (bt Sc) j) → (∀ u, u < 2 ^ min (j + 1) 6 → g'.I (t + 4) u = nI (hsum (wt Sc base) u (min (j + 1) 6))) → (∀ u, u < 2 ^ (j + 1 - 6) → g'.I (t + 5) u = nI (hsum (fun d => wt Sc base (d + 6)) u (j + 1 - 6))) → B2_63 t (nI j) (nI w) g' C X := by
      intro g' w hw s1 s2 s3 s4 s5
      unfold B2_63 B2_84
      have pw := pow_ct (Sc := Sc) (base := base) (j := j)
      have pos : 0 < base ^ fb_ct (bt Sc) j := Nat.pow_pos b0
      have nxt : ∀ v, v = nI (base ^ fb_ct (bt Sc) (j + 1)) → X (nI j + 1, g'.sI t 10 v) := by
        intro v hv
        refine ih _ ⟨nI_1 j, s1.sI (Or.inl rfl) _, fun i hi => ?_, ?_, fun u hu => ?_, fun u hu => ?_⟩
        · (try dsimp only)
          rw [I_nk hi]; exact s2 i hi
        · (try dsimp only)
          rw [I_eq]; exact hv
        · (try dsimp only)
          rw [I_ne (by omega)]; exact s4 u hu
        · (try dsimp only)
          rw [I_ne (by omega)]; exact s5 u hu
      unfold wt at hw
      cases eb : bt Sc j
      · rw [eb] at hw pw
        simp only [Bool.false_eq_true, if_false] at hw pw
        rw [if_pos (by rw [hw]; decide)]
        have := nxt (g'.I t 10) (by rw [s3, pw])
        have es : g'.sI t 10 (g'.I t 10) = g' := by
          rw [sI_cI]
          have : upd (g'.I t) 10 (g'.I t 10) = g'.I t := by
            funext i
            unfold upd
            split
            · rename_i q; rw [q]
            · rfl
          rw [this, cI_self]
        rw [es] at this
        exact this
      · rw [eb] at hw pw
        simp only [if_true] at hw pw
        rw [if_neg (nI_nle (by omega) (by omega)), s2 0 (by omega), s3]
        rcases hb with ⟨q1, q2⟩ | ⟨q1, q2⟩
        · rw [if_pos q2]
          refine nxt _ ?_
          show nI _ * nI 2 = _
          rw [pk_mul, pw, q1]
        · rw [if_neg q2]
          refine nxt _ ?_
          show nI _ * nI 3 = _
          rw [pk_mul, pw, q1]
    have half : ∀ s0 : Int32, s0 = nI (wt Sc base j) → B2_32 t (nI j) s0 g C X := by
      intro s0 hs0
      unfold B2_32
      by_cases e : j < 6
      · rw [if_neg (show ¬ (6 : Int32) ≤ nI j from nI_ge (b := 6) e (by omega))]
        refine S3 (f := wt Sc base) (p := j) (w := wt Sc base j) rfl hs0 e K4 N4 (fun u hu => ?_) rfl (fun g' s1 s2 => ?_)
        · have := e5 u (by rw [Nat.min_eq_left (by omega)]; exact hu)
          rwa [Nat.min_eq_left (by omega)] at this
        · rw [hs0]
          refine aft g' _ rfl (e2.trans (s1.mono (fun a z => Or.inr (Or.inl z)))) (fun i hi => by rw [s1.I (by omega)]; exact e3 i hi) (by rw [s1.I (by omega)]; exact e4) (fun u hu => ?_) (fun u hu => ?_)
          · rw [Nat.min_eq_left (by omega)] at hu ⊢
            exact s2 u hu
          · rw [s1.I (by omega)]
            have z : j + 1 - 6 = j - 6 := by omega
            rw [z] at hu ⊢
            exact e6 u hu
      · rw [if_pos (show (6 : Int32) ≤ nI j from nI_le (a := 6) (by omega) (by omega))]
        refine S3 (f := fun d => wt Sc base (d + 6)) (p := j - 6) (w := wt Sc base j) (pk_sub (b := 6) (by omega)) hs0 (by omega) K5 N5 (fun u hu => e6 u hu) (by show wt Sc base (j - 6 + 6) = _; rw [Nat.sub_add_cancel (by omega)]) (fun g' s1 s2 => ?_)
        rw [hs0]
        refine aft g' _ rfl (e2.trans (s1.mono (fun a z => Or.inr (Or.inr z)))) (fun i hi => by rw [s1.I (by omega)]; exact e3 i hi) (by rw [s1.I (by omega)]; exact e4) (fun u hu => ?_) (fun u hu => ?_)
        · rw [s1.I (by omega)]
          have z : min (j + 1) 6 = min j 6 := by omega
          rw [z] at hu ⊢
          exact e5 u hu
        · have z : j + 1 - 6 = j - 6 + 1 := by omega
          rw [z] at hu ⊢
          exact s2 u hu
    unfold F2_7
    (try dsimp only)
    rw [if_neg (show ¬ (12 : Int32) ≤ nI j from nI_ge (b := 12) hj (by omega)), e3 3 (by omega), h3, e4]
    cases eb : bt Sc j
    · rw [if_pos ((bt_in (by omega)).mpr eb)]
      refine half 0 ?_
      unfold wt
      rw [eb]; rfl
    · rw [if_neg ((bt_in' (by omega)).mpr eb)]
      refine half _ ?_
      unfold wt
      rw [eb]; rfl
  · rintro X ⟨x1, g⟩ ⟨e1, e2, e3, e4, e5, e6⟩
    (try dsimp only at e1 e2 e3 e4 e5 e6)
    subst e1
    unfold F2_7
    (try dsimp only)
    rw [if_pos (show (12 : Int32) ≤ nI 12 by decide +kernel)]
    exact kk g e2 e3 e4 ⟨e5, e6⟩
  · (try dsimp only at hu ⊢)
    have : u = 0 := by simpa using hu
    rw [this, I_ne (by omega), z4]
    rfl
  · (try dsimp only at hu ⊢)
    have : u = 0 := by simpa using hu
    rw [this, I_ne (by omega), z5]
    rfl
theorem S4 {C : Int32 → Prop} {s : Int32} (hs : St 12 s) (hl : LoHi h t Sc base) (k : C (nI (wsum Sc base s))) : W4 t s h C := by
  obtain ⟨u, hu, rfl⟩ := hs
  unfold W4
  have e1 : nI u &&& 63 = nI (u % 2 ^ 6) := pk_andN (by omega) 6 (by decide)
  have e2 : ishr (nI u) 6 &&& 63 = nI (u / 2 ^ 6 % 2 ^ 6) := by
    show (nI u >>> ((6 : Int32) &&& 31)) &&& 63 = _
    rw [pk_shrN (by omega) _ 6 (by decide), pk_andN (by omega) 6 (by decide)]
  rw [e1, e2, ix_n (by omega), ix_n (by omega), hl.1 _ (by omega), hl.2 _ (by omega), nI_add]
  refine ⟨inb_n (by omega), inb_n (by omega), ?_⟩
  have e3 : hsum (wt Sc base) (u % 2 ^ 6) 6 + hsum (fun d => wt Sc base (d + 6)) (u / 2 ^ 6 % 2 ^ 6) 6 = wsum Sc base (nI u) := by
    unfold wsum hsum
    rw [fb_sm_split _ 6 6]
    congr 1
    · refine fb_sm_cong (fun k hk => ?_)
      rw [bt_nI (by omega), Nat.testBit_mod_two_pow]
      simp [hk]
    · refine fb_sm_cong (fun k hk => ?_)
      rw [bt_nI (by omega), Nat.testBit_mod_two_pow, Nat.testBit_div_two_pow, Nat.add_comm k 6]
      simp [hk]
      rw [Nat.add_comm 6 k]
  rw [e3]
  exact k
end WE
