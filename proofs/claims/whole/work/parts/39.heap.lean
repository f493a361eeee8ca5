/-! THE CLASS'S HEAP: rise and sink -/
def Arr (h : TH) (t n a5 a6 a7 a8 : Nat) : Prop := h.P t 5 = some a5 ∧ h.P t 6 = some a6 ∧ h.P t 7 = some a7 ∧ h.P t 8 = some a8 ∧ (∀ a, a = a5 ∨ a = a6 ∨ a = a7 ∨ a = a8 → 222 ≤ a ∧ h.K a = 100 ∧ 2 ^ n ≤ h.N a ∧ h.N a ≤ 60000) ∧ a5 ≠ a6 ∧ a5 ≠ a7 ∧ a5 ≠ a8 ∧ a6 ≠ a7 ∧ a6 ≠ a8 ∧ a7 ≠ a8
def in67 (a6 a7 a : Nat) : Prop := a = a6 ∨ a = a7
/-- the heap's w places tell V, and where each stands; no child is cheaper -/
def HpOk (g : TH) (a6 a7 n : Nat) (k : Nat → Nat) (w : Nat) (V : Nat → Nat) : Prop := (∀ i, i < w → V i < 2 ^ n) ∧ (∀ i, i < w → ∀ j, j < w → V i = V j → i = j) ∧ (∀ i, i < w → g.I a6 i = nI (V i)) ∧ (∀ i, i < w → g.I a7 (V i) = nI i) ∧ ∀ i, 0 < i → i < w → k (V ((i - 1) / 2)) ≤ k (V i)
theorem okA_n {h : TH} {a kd j : Nat} (hK : h.K a = kd) (hN : j < h.N a) (h6 : h.N a ≤ 60000) : okA h a kd (nI j) := ⟨hK, inb_n hN (by omega), h6⟩
section HP
variable {h h' : TH} {t n a5 a6 a7 a8 w : Nat} {k V : Nat → Nat} {C : TH → Prop}
theorem Arr.sm {S : Nat → Prop} (ha : Arr h t n a5 a6 a7 a8) (hs : Sm S h h') : Arr h' t n a5 a6 a7 a8 := by
  unfold Arr at ha ⊢
  rw [hs.P, hs.K, hs.N]
  exact ha
theorem Arr.ok5 (ha : Arr h t n a5 a6 a7 a8) {u : Nat} (hu : u < 2 ^ n) : okA h a5 100 (nI u) := by
  have := ha.2.2.2.2.1 a5 (Or.inl rfl)
  exact okA_n this.2.1 (by omega) this.2.2.2
theorem Arr.ok6 (ha : Arr h t n a5 a6 a7 a8) {u : Nat} (hu : u < 2 ^ n) : okA h a6 100 (nI u) := by
  have := ha.2.2.2.2.1 a6 (Or.inr (Or.inl rfl))
  exact okA_n this.2.1 (by omega) this.2.2.2
theorem Arr.ok7 (ha : Arr h t n a5 a6 a7 a8) {u : Nat} (hu : u < 2 ^ n) : okA h a7 100 (nI u) := by
  have := ha.2.2.2.2.1 a7 (Or.inr (Or.inr (Or.inl rfl)))
  exact okA_n this.2.1 (by omega) this.2.2.2
theorem Arr.ok8 (ha : Arr h t n a5 a6 a7 a8) {u : Nat} (hu : u < 2 ^ n) : okA h a8 100 (nI u) := by
  have := ha.2.2.2.2.1 a8 (Or.inr (Or.inr (Or.inr rfl)))
  exact okA_n this.2.1 (by omega) this.2.2.2
def sw2 (V : Nat → Nat) (a b : Nat) : Nat → Nat := fun i => if i = a then V b else if i = b then V a else V i
theorem sw2_a {V : Nat → Nat} {a b : Nat} : sw2 V a b a = V b := if_pos rfl
theorem sw2_b {V : Nat → Nat} {a b : Nat} : sw2 V a b b = V a := by
  unfold sw2
  split
  · rename_i e; rw [e]
  · rw [if_pos rfl]
theorem sw2_ne {V : Nat → Nat} {a b i : Nat} (h1 : i ≠ a) (h2 : i ≠ b) : sw2 V a b i = V i := by
  unfold sw2
  rw [if_neg h1, if_neg h2]
theorem sw2_cases (V : Nat → Nat) (a b i : Nat) : (i = a ∧ sw2 V a b i = V b) ∨ (i = b ∧ sw2 V a b i = V a) ∨ (i ≠ a ∧ i ≠ b ∧ sw2 V a b i = V i) := by
  by_cases h1 : i = a
  · subst h1; exact Or.inl ⟨rfl, sw2_a⟩
  · by_cases h2 : i = b
    · subst h2; exact Or.inr (Or.inl ⟨rfl, sw2_b⟩)
    · exact Or.inr (Or.inr ⟨h1, h2, sw2_ne h1 h2⟩)
/-- all but the hole at c, which holds V c in thought -/
def Hole (g : TH) (a6 a7 n w c : Nat) (V : Nat → Nat) : Prop := c < w ∧ (∀ i, i < w → V i < 2 ^ n) ∧ (∀ i, i < w → ∀ j, j < w → V i = V j → i = j) ∧ (∀ i, i < w → i ≠ c → g.I a6 i = nI (V i)) ∧ (∀ i, i < w → i ≠ c → g.I a7 (V i) = nI i)
/-- the hole is filled -/
theorem Hole.fill {g : TH} {c : Nat} (hne : a6 ≠ a7) (hh : Hole g a6 a7 n w c V) (hk : ∀ i, 0 < i → i < w → k (V ((i - 1) / 2)) ≤ k (V i)) : HpOk ((g.sI a6 c (nI (V c))).sI a7 (V c) (nI c)) a6 a7 n k w V := by
  obtain ⟨h0, h1, h2, h3, h4⟩ := hh
  refine ⟨h1, h2, fun i hi => ?_, fun i hi => ?_, hk⟩
  · rw [I_ne hne, I_at]
    by_cases e : i = c
    · rw [if_pos e, e]
    · rw [if_neg e]; exact h3 i hi e
  · rw [I_at]
    by_cases e : i = c
    · rw [if_pos (by rw [e]), e]
    · rw [if_neg (fun q => e (h2 i hi c h0 q)), I_ne (fun q => hne q.symm)]
      exact h4 i hi e
/-- the hole goes from c to b -/
theorem Hole.move {g : TH} {b c : Nat} (hne : a6 ≠ a7) (hh : Hole g a6 a7 n w c V) (hb : b < w) (hbc : b ≠ c) : Hole ((g.sI a6 c (nI (V b))).sI a7 (V b) (nI c)) a6 a7 n w b (sw2 V c b) := by
  obtain ⟨h0, h1, h2, h3, h4⟩ := hh
  refine ⟨hb, fun i hi => ?_, fun i hi j hj q => ?_, fun i hi e => ?_, fun i hi e => ?_⟩
  · rcases sw2_cases V c b i with ⟨_, q⟩ | ⟨_, q⟩ | ⟨_, _, q⟩ <;> rw [q]
    · exact h1 b hb
    · exact h1 c h0
    · exact h1 i hi
  · rcases sw2_cases V c b i with ⟨p1, p2⟩ | ⟨p1, p2⟩ | ⟨p0, p1, p2⟩ <;> rcases sw2_cases V c b j with ⟨r1, r2⟩ | ⟨r1, r2⟩ | ⟨r0, r1, r2⟩ <;> rw [p2, r2] at q
    · omega
    · have := h2 b hb c h0 q; omega
    · have := h2 b hb j hj q; omega
    · have := h2 c h0 b hb q; omega
    · omega
    · have := h2 c h0 j hj q; omega
    · have := h2 i hi b hb q; omega
    · have := h2 i hi c h0 q; omega
    · exact h2 i hi j hj q
  · rw [I_ne hne, I_at]
    by_cases e2 : i = c
    · rw [if_pos e2, e2, sw2_a]
    · rw [if_neg e2, sw2_ne e2 e]; exact h3 i hi e2
  · rw [I_at]
    by_cases e2 : i = c
    · rw [e2, sw2_a, if_pos rfl]
    · rw [sw2_ne e2 e, if_neg (fun q => e (h2 i hi b hb q)), I_ne (fun q => hne q.symm)]
      exact h4 i hi e2
theorem sw2_mem {b c : Nat} (hb : b < w) (hc : c < w) (z : Nat) : (∃ i, i < w ∧ sw2 V c b i = z) ↔ ∃ i, i < w ∧ V i = z := by
  constructor
  · rintro ⟨i, hi, q⟩
    rcases sw2_cases V c b i with ⟨p1, p2⟩ | ⟨p1, p2⟩ | ⟨p0, p1, p2⟩ <;> rw [p2] at q
    · exact ⟨b, hb, q⟩
    · exact ⟨c, hc, q⟩
    · exact ⟨i, hi, q⟩
  · rintro ⟨i, hi, q⟩
    by_cases e1 : i = c
    · exact ⟨b, hb, by rw [sw2_b, ← e1]; exact q⟩
    · by_cases e2 : i = b
      · exact ⟨c, hc, by rw [sw2_a, ← e2]; exact q⟩
      · exact ⟨i, hi, by rw [sw2_ne e1 e2]; exact q⟩
theorem S39 (ha : Arr h t n a5 a6 a7 a8) (hn : n ≤ 12) (hk : ∀ u, u < 2 ^ n → h.I a5 u = nI (k u) ∧ k u ≤ 2147483647) (hw : w ≤ 2 ^ n) {p : Nat} (hpl : h.I a7 (V p) = nI p) (hho : Hole h a6 a7 n w p V) (hd : ∀ i, 0 < i → i < w → i ≠ p → k (V ((i - 1) / 2)) ≤ k (V i)) (he : ∀ i, 0 < i → i < w → (i - 1) / 2 = p → 0 < p → k (V ((p - 1) / 2)) ≤ k (V i)) (kk : ∀ h' V', Sm (in67 a6 a7) h h' → HpOk h' a6 a7 n k w V' → (∀ z, (∃ i, i < w ∧ V' i = z) ↔ ∃ i, i < w ∧ V i = z) → C h') : W39 t (nI (V p)) h C := by
  have p12 : 2 ^ n ≤ 2 ^ 12 := Nat.pow_le_pow_right (by omega) hn
  have hpw := hho.1
  have hu : V p < 2 ^ n := hho.2.1 p hpw
  obtain ⟨q5, q6, q7, q8, qa, n56, n57, n58, n67, n68, n78⟩ := ha
  have ha : Arr h t n a5 a6 a7 a8 := ⟨q5, q6, q7, q8, qa, n56, n57, n58, n67, n68, n78⟩
  unfold W39
  rw [R_of q7, ix_n (by omega), hpl]
  refine ⟨q7, ha.ok7 hu, ?_⟩
  unfold B39_9
  refine LFP.ix (fun m q => ∃ c V' T, q.1 = nI c ∧ q.2.1 = nI T ∧ m = c ∧ c + T ≤ p ∧ Sm (in67 a6 a7) h q.2.2 ∧ Hole q.2.2 a6 a7 n w c V' ∧ V' c = V p ∧ (∀ i, 0 < i → i < w → i ≠ c → k (V' ((i - 1) / 2)) ≤ k (V' i)) ∧ (∀ i, 0 < i → i < w → (i - 1) / 2 = c → 0 < c → k (V' ((c - 1) / 2)) ≤ k (V' i)) ∧ ∀ z, (∃ i, i < w ∧ V' i = z) ↔ ∃ i, i < w ∧ V i = z) ?_ (k := p) ⟨p, V, 0, rfl, rfl, rfl, by omega, Sm.refl, hho, rfl, hd, he, fun z => Iff.rfl⟩
  rintro X m ⟨x2, x3, g⟩ ⟨c, V', T, e1, e2, rfl, e3, e4, e5, e6, e7, e8, e9⟩ ih
  dsimp only at e1 e2 e4 e5
  subst e1 e2
  have hg := ha.sm e4
  obtain ⟨r5, r6, r7, r8, ra, -⟩ := hg
  have hg := ha.sm e4
  have hcw := e5.1
  have hkg : ∀ u, u < 2 ^ n → g.I a5 u = nI (k u) ∧ k u ≤ 2147483647 := by
    intro u hu
    rw [e4.I (by unfold in67; omega)]
    exact hk u hu
  have fin : (∀ i, 0 < i → i < w → k (V' ((i - 1) / 2)) ≤ k (V' i)) → B39_85 t (nI (V p)) (nI m) g C := by
    intro q
    unfold B39_85
    simp only [R_sI, P_sI]
    rw [R_of r6, R_of r7, ix_n (by omega), ix_n (by omega)]
    refine ⟨r6, hg.ok6 (by omega), r7, hg.ok7 hu, ?_⟩
    rw [← e6]
    exact kk _ V' ((e4.sI (Or.inl rfl) _).sI (Or.inr rfl) _) (e5.fill n67 q) e9
  unfold F39_9
  dsimp only
  rw [if_neg (show ¬ (4096 : Int32) ≤ nI T from nI_ge (b := 4096) (by omega) (by omega))]
  by_cases e0 : m = 0
  · rw [if_pos (by rw [e0]; decide)]
    exact fin (fun i h1 h2 => e7 i h1 h2 (by omega))
  · rw [if_neg (nI_nle (by omega) (by omega))]
    obtain ⟨b, rfl⟩ : ∃ b, m = b + 1 := ⟨m - 1, by omega⟩
    have hx : (nI (b + 1) - 1) / 2 = nI (b / 2) := by
      rw [nI_pred]
      exact pk_div (d := 2) (by omega) (by omega) (by omega)
    have hb2 : b / 2 < w := by omega
    have hpar : (b + 1 - 1) / 2 = b / 2 := by rw [Nat.add_sub_cancel]
    have eb : g.I a6 (b / 2) = nI (V' (b / 2)) := e5.2.2.2.1 (b / 2) hb2 (by omega)
    have lb : V' (b / 2) < 2 ^ n := e5.2.1 (b / 2) hb2
    simp only [R_sI, P_sI]
    rw [hx, R_of r5, R_of r6, R_of r7, ix_n (j := b / 2) (by omega), eb, ix_n (j := V' (b / 2)) (by omega), (hkg _ lb).1, ix_n (j := V p) (by omega), (hkg _ hu).1, ix_n (j := b + 1) (by omega), I_eq, ix_n (j := V' (b / 2)) (by omega)]
    refine ⟨r5, r6, hg.ok6 (by omega), hg.ok5 lb, r5, hg.ok5 hu, ?_⟩
    have k1 := (hkg _ lb).2
    have k2 := (hkg _ hu).2
    by_cases e : k (V p) < k (V' (b / 2))
    · rw [if_pos (nI_lt e (by omega))]
      refine ⟨r6, r6, hg.ok6 (by omega), hg.ok6 (by omega), r7, r6, hg.ok6 (by omega), hg.ok7 lb, ?_⟩
      refine ih (b / 2) _ (by omega) ⟨b / 2, sw2 V' (b + 1) (b / 2), T + 1, rfl, nI_1 T, rfl, by omega, (e4.sI (Or.inl rfl) _).sI (Or.inr rfl) _, e5.move n67 hb2 (by omega), ?_, ?_, ?_, fun z => (sw2_mem hb2 hcw z).trans (e9 z)⟩
      · rw [sw2_b, e6]
      · intro i i1 i2 i3
        rcases sw2_cases V' (b + 1) (b / 2) i with ⟨p1, p2⟩ | ⟨p1, p2⟩ | ⟨p0, p1, p2⟩
        · rw [p2, p1, hpar, sw2_b, e6]; omega
        · exact absurd p1 i3
        · rw [p2]
          rcases sw2_cases V' (b + 1) (b / 2) ((i - 1) / 2) with ⟨r1, r2⟩ | ⟨r1, r2⟩ | ⟨r0, r1, r2⟩ <;> rw [r2]
          · have := e8 i i1 i2 r1 (by omega)
            rwa [hpar] at this
          · rw [e6]
            have := e7 i i1 i2 p0
            rw [r1] at this
            omega
          · exact e7 i i1 i2 p0
      · intro i i1 i2 i3 i4
        have a1 : sw2 V' (b + 1) (b / 2) ((b / 2 - 1) / 2) = V' ((b / 2 - 1) / 2) := sw2_ne (by omega) (by omega)
        rw [a1]
        have a2 := e7 (b / 2) i4 hb2 (by omega)
        rcases sw2_cases V' (b + 1) (b / 2) i with ⟨p1, p2⟩ | ⟨p1, p2⟩ | ⟨p0, p1, p2⟩
        · rw [p2]; exact a2
        · omega
        · rw [p2]
          have := e7 i i1 i2 p0
          rw [i3] at this
          omega
    · rw [if_neg (nI_nlt (by omega) (by omega))]
      refine fin (fun i h1 h2 => ?_)
      by_cases e9 : i = b + 1
      · rw [e9, hpar, e6]; omega
      · exact e7 i h1 h2 e9
end HP
