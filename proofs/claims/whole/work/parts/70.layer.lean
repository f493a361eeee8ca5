/-! LAYERS -/
def Rch (M : Nat → Int32) : Nat → Nat → Nat → Prop
  | 0, d, e => e = d
  | k + 1, d, e => ∃ o, bt (aNe M d) o = true ∧ Rch M k o e
def Ch (M : Nat → Int32) (k d : Nat) : Prop := ∃ e, Rch M k d e
def isLay (M : Nat → Int32) (d l : Nat) : Prop := Ch M l d ∧ ¬ Ch M (l + 1) d
section LY
variable {h : TH} {M : Nat → Int32} {t : Nat}
theorem Rch_last : ∀ k d e, Rch M (k + 1) d e ↔ ∃ o, Rch M k d o ∧ bt (aNe M o) e = true
  | 0, d, e => by
    constructor
    · rintro ⟨o, h1, h2⟩
      have h2 : e = o := h2
      exact ⟨d, rfl, by rw [h2]; exact h1⟩
    · rintro ⟨o, h1, h2⟩
      have h1 : o = d := h1
      exact ⟨e, by rw [← h1]; exact h2, rfl⟩
  | k + 1, d, e => by
    constructor
    · rintro ⟨o, h1, h2⟩
      obtain ⟨o', h3, h4⟩ := (Rch_last k o e).mp h2
      exact ⟨o', ⟨o, h1, h3⟩, h4⟩
    · rintro ⟨o', ⟨o, h1, h3⟩, h4⟩
      exact ⟨o, h1, (Rch_last k o e).mpr ⟨o', h3, h4⟩⟩
theorem Ch_succ {k d : Nat} : Ch M (k + 1) d ↔ ∃ o, bt (aNe M d) o = true ∧ Ch M k o := by
  constructor
  · rintro ⟨e, o, h1, h2⟩; exact ⟨o, h1, e, h2⟩
  · rintro ⟨o, h1, e, h2⟩; exact ⟨e, o, h1, h2⟩
theorem Ch_down : ∀ {k d : Nat}, Ch M (k + 1) d → Ch M k d
  | 0, d, _ => ⟨d, rfl⟩
  | k + 1, d, h => by
    obtain ⟨o, h1, h2⟩ := Ch_succ.mp h
    exact Ch_succ.mpr ⟨o, h1, Ch_down h2⟩
theorem Ch_mono {j d : Nat} : ∀ {k : Nat}, j ≤ k → Ch M k d → Ch M j d := by
  intro k hk h
  induction k with
  | zero => rw [show j = 0 by omega]; exact h
  | succ k ih =>
    rcases Nat.lt_or_ge j (k + 1) with z | z
    · exact ih (by omega) (Ch_down h)
    · rw [show j = k + 1 by omega]; exact h
theorem isLay_one {d l l' : Nat} (h : isLay M d l) (h' : isLay M d l') : l = l' := by
  rcases Nat.lt_trichotomy l l' with z | z | z
  · exact absurd (Ch_mono z h'.1) h.2
  · exact z
  · exact absurd (Ch_mono z h.1) h'.2
theorem need_lt (hw : Wf M) {d o : Nat} (hd : d < aN M) (h : bt (aNe M d) o = true) : o < d := by
  have h12 := hw.n12
  refine St_d (by omega) (hw.ne hd) ?_ h
  rcases Nat.lt_or_ge o 32 with z | z
  · exact z
  · rw [bt_big _ z] at h; exact absurd h (by decide)
theorem Ch_le (hw : Wf M) : ∀ k d, d < aN M → Ch M k d → k ≤ d
  | 0, _, _, _ => Nat.zero_le _
  | k + 1, d, hd, h => by
    obtain ⟨o, h1, h2⟩ := Ch_succ.mp h
    have := need_lt hw hd h1
    have := Ch_le hw k o (by omega) h2
    omega
theorem S65 {C : Int32 → TH → Prop} (hw : Wf M) (hr : CMr h t M) (ht : t + 15 ≤ h.n) {x : Int32} {d : Nat} (hx : x = nI d) (hd : d < aN M) (hn : h.n < 1000000) (kk : ∀ g l, Gr (fun _ => False) h g → g.n = h.n + 1 → g.sl = h.sl + 12 → isLay M d l → l ≤ 12 → C (nI l) g) : W65 t x h C := by
  have h12 := hw.n12
  subst hx
  unfold W65
  refine ⟨hn, ?_⟩
  rw [show ix 12 = 12 by decide +kernel]
  have nI0 : ∀ a, a ≠ h.n → (h.new 100 12 12).I a = h.I a := fun a ha => by rw [I_new, if_neg ha]
  have nIn : (h.new 100 12 12).I h.n = fun _ => 0 := by rw [I_new, if_pos rfl]
  have nK : (h.new 100 12 12).K h.n = 100 := by rw [K_new, if_pos rfl]
  have nN : (h.new 100 12 12).N h.n = 12 := by rw [N_new, if_pos rfl]
  have fin : ∀ g, Sm (fun a => a = h.n) (h.new 100 12 12) g → Gr (fun _ => False) h g ∧ g.n = h.n + 1 ∧ g.sl = h.sl + 12 := by
    intro g hs
    refine ⟨⟨by rw [hs.n, n_new]; omega, fun a ha => ?_, fun a ha _ => ?_⟩, by rw [hs.n, n_new], by rw [hs.sl, sl_new]⟩
    · rw [hs.K, hs.N, K_new, N_new, if_neg (by omega), if_neg (by omega)]; exact ⟨rfl, rfl⟩
    · rw [hs.I (by omega), hs.J (by omega), hs.P, I_new, J_new, P_new, if_neg (by omega), if_neg (by omega), if_neg (by omega)]; exact ⟨rfl, rfl, rfl⟩
  generalize (h.new 100 12 12) = h0 at *
  have ne : ∀ g, Sm (fun a => a = h.n) h0 g → ∀ e, e < aN M → g.I (t + 6) e = aNe M e := by
    intro g hs e he
    rw [hs.I (by omega), nI0 _ (by omega)]
    exact hr.ne he
  have ok : ∀ g, Sm (fun a => a = h.n) h0 g → ∀ e, e < 12 → okA g h.n 100 (nI e) := fun g hs e he => okA_n (by rw [hs.K]; exact nK) (by rw [hs.N, nN]; exact he) (by rw [hs.N, nN]; omega)
  unfold B65_7
  refine LFP.up (d + 1) (fun j z => z.1 = nI j ∧ Sm (fun a => a = h.n) h0 z.2 ∧ (∀ e, e < j → ∃ l, isLay M e l ∧ z.2.I h.n e = nI l) ∧ ∀ e, j ≤ e → z.2.I h.n e = 0) ?_ ?_ (Nat.zero_le _) ⟨rfl, Sm.refl, fun e he => absurd he (Nat.not_lt_zero _), fun e _ => by (try dsimp only); rw [nIn]⟩
  · rintro X j ⟨x3, g⟩ hj ⟨e1, e2, e3, e4⟩ ih
    (try dsimp only at e1 e2 e3 e4)
    subst e1
    unfold F65_7
    (try dsimp only)
    rw [if_neg (nI_nlt (by omega) (by omega))]
    unfold B65_15
    refine LFP.up j (fun i z => z.1 = nI i ∧ Sm (fun a => a = h.n) h0 z.2 ∧ (∀ e, e < j → ∃ l, isLay M e l ∧ z.2.I h.n e = nI l) ∧ (∀ e, j < e → z.2.I h.n e = 0) ∧ ∃ v, v ≤ j ∧ z.2.I h.n j = nI v ∧ Ch M v j ∧ ∀ o, o < i → bt (aNe M j) o = true → ∀ l, isLay M o l → l + 1 ≤ v) ?_ ?_ (Nat.zero_le _) ⟨rfl, e2, e3, fun e he => e4 e (by omega), 0, Nat.zero_le _, e4 j (Nat.le_refl _), ⟨j, rfl⟩, fun o ho => absurd ho (Nat.not_lt_zero _)⟩
    · rintro X i ⟨x4, g1⟩ hi ⟨f1, f2, f3, f4, v, f5, f6, f7, f8⟩ ih1
      (try dsimp only at f1 f2 f3 f4 f6)
      subst f1
      unfold F65_15
      (try dsimp only)
      rw [if_neg (nI_ge hi (by omega)), ix_n (by omega), ne g1 f2 j (by omega)]
      refine ⟨inb_n (by omega), ?_⟩
      by_cases b : bt (aNe M j) i = true
      · rw [if_neg ((bt_in' (by omega)).mpr b), ix_n (by omega)]
        refine ⟨ok g1 f2 j (by omega), ok g1 f2 i (by omega), ok g1 f2 j (by omega), ?_⟩
        obtain ⟨l, l1, l2⟩ := f3 i (by omega)
        have l3 := Ch_le hw l i (by omega) l1.1
        rw [f6, l2, nI_1 l, imax_n (by omega) (by omega)]
        refine ih1 _ ⟨nI_1 i, Sm.sI (S := fun a => a = h.n) f2 rfl _, fun e he => ?_, fun e he => ?_, max v (l + 1), by omega, I_eq, ?_, fun o ho hb l' hl' => ?_⟩
        · (try dsimp only)
          rw [I_nk (by omega)]; exact f3 e he
        · (try dsimp only)
          rw [I_nk (by omega)]; exact f4 e he
        · rcases Nat.le_total v (l + 1) with z | z
          · rw [Nat.max_eq_right z]; exact Ch_succ.mpr ⟨i, b, l1.1⟩
          · rw [Nat.max_eq_left z]; exact f7
        · rcases Nat.lt_or_ge o i with z | z
          · have := f8 o z hb l' hl'; omega
          · have : o = i := by omega
            rw [this] at hl'
            have := isLay_one hl' l1
            omega
      · rw [if_pos ((bt_in (by omega)).mpr (by simpa using b))]
        refine ih1 _ ⟨nI_1 i, f2, f3, f4, v, f5, f6, f7, fun o ho hb l' hl' => ?_⟩
        rcases Nat.lt_or_ge o i with z | z
        · exact f8 o z hb l' hl'
        · have : o = i := by omega
          rw [this] at hb; exact absurd hb b
    · rintro X1 ⟨x4, g1⟩ ⟨f1, f2, f3, f4, v, f5, f6, f7, f8⟩
      (try dsimp only at f1 f2 f3 f4 f6)
      subst f1
      unfold F65_15
      (try dsimp only)
      rw [if_pos (nI_le (Nat.le_refl _) (by omega))]
      refine ih _ ⟨nI_1 j, f2, fun e he => ?_, fun e he => f4 e (by omega)⟩
      rcases Nat.lt_or_ge e j with z | z
      · exact f3 e z
      · have : e = j := by omega
        subst this
        refine ⟨v, ⟨f7, fun q => ?_⟩, f6⟩
        obtain ⟨o, o1, o2⟩ := Ch_succ.mp q
        have o3 := need_lt hw (by omega) o1
        obtain ⟨l, l1, l2⟩ := f3 o o3
        have := f8 o o3 o1 l l1
        exact l1.2 (Ch_mono this o2)
  · rintro X ⟨x3, g⟩ ⟨e1, e2, e3, e4⟩
    (try dsimp only at e1 e2 e3 e4)
    subst e1
    unfold F65_7
    (try dsimp only)
    rw [if_pos (nI_lt (by omega) (by omega)), ix_n (by omega)]
    obtain ⟨l, l1, l2⟩ := e3 d (by omega)
    have l3 := Ch_le hw l d hd l1.1
    rw [l2]
    obtain ⟨k1, k2, k3⟩ := fin g e2
    exact ⟨ok g e2 d (by omega), kk g l k1 k2 k3 l1 (by omega)⟩
theorem Rch_lt (hw : Wf M) : ∀ k d e, d < aN M → Rch M k d e → e < aN M
  | 0, d, e, hd, h => by have h : e = d := h; rw [h]; exact hd
  | k + 1, d, e, hd, h => by
    obtain ⟨o, h1, h2⟩ := h
    have := need_lt hw hd h1
    exact Rch_lt hw k o e (by omega) h2
theorem S257n {C : Int32 → Prop} {X6 : Int32 × Int32 → Prop} (hw : Wf M) (hM : MA h M) {s x2 : Int32} (hs : St (aN M) s) (kk : ∀ u, St (aN M) u → (∀ e, e < 32 → (bt u e = true ↔ ∃ o, bt s o = true ∧ bt (aNe M o) e = true)) → if ¬ u = 0 then X6 (x2 + 1, u) else C x2) : B257_12 x2 s 0 0 h C X6 := by
  have h12 := hw.n12
  have eN : h.I 198 (ix 0) = nI (aN M) := by rw [ix_0, hM 0 (by omega)]; exact hw.eN
  unfold B257_12
  refine LFP.up (aN M) (fun j z => z.2 = nI j ∧ St (aN M) z.1 ∧ ∀ e, e < 32 → (bt z.1 e = true ↔ ∃ o, o < j ∧ bt s o = true ∧ bt (aNe M o) e = true)) ?_ ?_ (Nat.zero_le _) ⟨rfl, St_0 _, fun e he => ⟨fun q => by (try dsimp only at q); rw [bt_0] at q; exact absurd q (by decide), fun ⟨o, ho, _⟩ => absurd ho (Nat.not_lt_zero _)⟩⟩
  · rintro X j ⟨x4, x5⟩ hj ⟨e1, e2, e3⟩ ih
    (try dsimp only at e1 e2 e3)
    subst e1
    unfold F257_12
    (try dsimp only)
    rw [eN, if_neg (nI_ge hj (by omega))]
    refine S250 j rfl hs (by omega) (by omega) (fun b => ?_) (fun b => ?_)
    · rw [if_neg (by decide)]
      refine S251 j 4 hM rfl rfl (by omega) (by omega) (ih _ ⟨nI_1 j, St_or e2 (hw.neN hj), fun e he => ?_⟩)
      (try dsimp only)
      rw [bt_or, Bool.or_eq_true, e3 e he]
      constructor
      · rintro (⟨o, o1, o2, o3⟩ | z)
        · exact ⟨o, by omega, o2, o3⟩
        · exact ⟨j, by omega, b, z⟩
      · rintro ⟨o, o1, o2, o3⟩
        rcases Nat.lt_or_ge o j with z | z
        · exact Or.inl ⟨o, z, o2, o3⟩
        · have : o = j := by omega
          rw [this] at o3; exact Or.inr o3
    · rw [if_pos rfl]
      refine ih _ ⟨nI_1 j, e2, fun e he => ?_⟩
      (try dsimp only)
      rw [e3 e he]
      constructor
      · rintro ⟨o, o1, o2, o3⟩; exact ⟨o, by omega, o2, o3⟩
      · rintro ⟨o, o1, o2, o3⟩
        rcases Nat.lt_or_ge o j with z | z
        · exact ⟨o, z, o2, o3⟩
        · have : o = j := by omega
          rw [this, b] at o2; exact absurd o2 (by decide)
  · rintro X ⟨x4, x5⟩ ⟨e1, e2, e3⟩
    (try dsimp only at e1 e2 e3)
    subst e1
    unfold F257_12
    (try dsimp only)
    rw [eN, if_pos (nI_le (Nat.le_refl _) (by omega))]
    refine kk x4 e2 (fun e he => ?_)
    rw [e3 e he]
    constructor
    · rintro ⟨o, o1, o2, o3⟩; exact ⟨o, o2, o3⟩
    · rintro ⟨o, o2, o3⟩
      refine ⟨o, St_d h12 hs ?_ o2, o2, o3⟩
      rcases Nat.lt_or_ge o 32 with z | z
      · exact z
      · rw [bt_big _ z] at o2; exact absurd o2 (by decide)
theorem S257 {C : Int32 → Prop} (hw : Wf M) (hM : MA h M) {x : Int32} {d l : Nat} (hx : x = nI d) (hd : d < aN M) (hl : isLay M d l) (kk : C (nI l)) : W257 x h C := by
  have h12 := hw.n12
  subst hx
  have ll := Ch_le hw l d hd hl.1
  have nxt : ∀ k s, (∀ e, e < 32 → (bt s e = true ↔ Rch M k d e)) → ∀ u, (∀ e, e < 32 → (bt u e = true ↔ ∃ o, bt s o = true ∧ bt (aNe M o) e = true)) → ∀ e, e < 32 → (bt u e = true ↔ Rch M (k + 1) d e) := by
    intro k s hs u hu e he
    rw [hu e he, Rch_last]
    constructor
    · rintro ⟨o, o1, o2⟩
      refine ⟨o, (hs o ?_).mp o1, o2⟩
      rcases Nat.lt_or_ge o 32 with z | z
      · exact z
      · rw [bt_big _ z] at o1; exact absurd o1 (by decide)
    · rintro ⟨o, o1, o2⟩
      have := Rch_lt hw k d o hd o1
      exact ⟨o, (hs o (by omega)).mpr o1, o2⟩
  have z0 : ∀ k u, (∀ e, e < 32 → (bt u e = true ↔ Rch M (k + 1) d e)) → (u = 0 ↔ ¬ Ch M (k + 1) d) := by
    intro k u hu
    constructor
    · rintro rfl ⟨e, he⟩
      have := Rch_lt hw (k + 1) d e hd he
      have := (hu e (by omega)).mpr he
      rw [bt_0] at this; exact absurd this (by decide)
    · intro q
      refine bt_z.mpr (fun e he => ?_)
      cases z : bt u e
      · rfl
      · exact absurd ⟨e, (hu e he).mp z⟩ q
  unfold W257 B257_6
  refine LFP.up l (fun k z => z.1 = nI k ∧ St (aN M) z.2 ∧ ∀ e, e < 32 → (bt z.2 e = true ↔ Rch M k d e)) ?_ ?_ (Nat.zero_le _) ⟨rfl, St_bit hd, fun e he => by (try dsimp only); rw [bt_bit (by omega), decide_eq_true_eq]; exact Iff.rfl⟩
  · rintro X k ⟨x2, s⟩ hk ⟨e1, e2, e3⟩ ih
    (try dsimp only at e1 e2 e3)
    subst e1
    unfold F257_6
    (try dsimp only)
    refine S257n hw hM e2 (fun u u1 u2 => ?_)
    have q := nxt k s e3 u u2
    rw [if_pos (fun z => (z0 k u q).mp z (Ch_mono hk hl.1))]
    exact ih _ ⟨nI_1 k, u1, q⟩
  · rintro X ⟨x2, s⟩ ⟨e1, e2, e3⟩
    (try dsimp only at e1 e2 e3)
    subst e1
    unfold F257_6
    (try dsimp only)
    refine S257n hw hM e2 (fun u u1 u2 => ?_)
    have q := nxt l s e3 u u2
    rw [if_neg (fun z => z ((z0 l u q).mpr hl.2))]
    exact kk
end LY
