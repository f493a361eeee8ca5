/-! THE CHEAPEST FIRST -/
def Mv (M : Nat → Int32) (big : Nat → Nat) (cw u v k : Nat) : Prop := v < 2 ^ aN M ∧ ∃ code, (nI v, k, code) ∈ mvs M big cw (nI u)
/-- ways from nothing: so many STEPS, where to, for how much -/
def Wk (M : Nat → Int32) (big : Nat → Nat) (cw : Nat) : Nat → Nat → Nat → Prop
  | 0, v, c => v = 0 ∧ c = 0
  | m + 1, v, c => ∃ u c' k, Wk M big cw m u c' ∧ Mv M big cw u v k ∧ c = c' + k
/-- what is known: k keys, V the heap's w, od the order's σ; of the first r all ways on are asked -/
def PU (M : Nat → Int32) (big : Nat → Nat) (cw : Nat) (k V od : Nat → Nat) (w σ r : Nat) : Prop :=
  (∀ i, i < σ → ∀ j, j < σ → od i = od j → i = j) ∧
  (∀ i, i < σ → ∀ j, j < w → od i ≠ V j) ∧
  (∀ u, u < 2 ^ aN M → (k u < 2147483647 ↔ (∃ i, i < σ ∧ od i = u) ∨ ∃ j, j < w ∧ V j = u)) ∧
  (∀ i, ∀ j, i < j → j < σ → k (od i) ≤ k (od j)) ∧
  (∀ i, i < σ → ∀ j, j < w → k (od i) ≤ k (V j)) ∧
  (∀ i, i < r → ∀ v c, Mv M big cw (od i) v c → k v ≤ k (od i) + c) ∧
  (∀ u, u < 2 ^ aN M → k u < 2147483647 → ∃ m, Wk M big cw m u (k u)) ∧
  k 0 = 0 ∧
  (∀ i, i < σ → k (od i) ≤ i * 405505) ∧
  (∀ j, j < w → k (V j) ≤ σ * 405505)
def DJ (h : TH) (t tm : Nat) (M : Nat → Int32) (big : Nat → Nat) (cw a5 a6 a7 a8 : Nat) (k V od : Nat → Nat) (w σ r : Nat) : Prop :=
  LObj h t tm M big cw ∧ Arr h t (aN M) a5 a6 a7 a8 ∧ h.I t 10 = nI w ∧ h.I t 11 = nI σ ∧ (∀ u, u < 2 ^ aN M → h.I a5 u = nI (k u) ∧ k u ≤ 2147483647) ∧ HpOk h a6 a7 (aN M) k w V ∧ (∀ i, i < σ → h.I a8 i = nI (od i) ∧ od i < 2 ^ aN M) ∧ PU M big cw k V od w σ r
/-- cells that a search writes -/
def inL (t a5 a6 a7 a8 a : Nat) : Prop := inMv t a ∨ a = a5 ∨ a = a6 ∨ a = a7 ∨ a = a8
def inO (t a5 a6 a7 a : Nat) : Prop := a = t ∨ a = a5 ∨ a = a6 ∨ a = a7
section DK
variable {h h' : TH} {M : Nat → Int32} {big : Nat → Nat} {cw t tm a5 a6 a7 a8 : Nat} {k V od : Nat → Nat} {w σ r : Nat} {C : TH → Prop}
theorem holes2 {N w σ : Nat} {V od : Nat → Nat} (h1 : ∀ i, i < w → V i < N) (h2 : ∀ i, i < w → ∀ j, j < w → V i = V j → i = j) (h3 : ∀ i, i < σ → od i < N) (h4 : ∀ i, i < σ → ∀ j, j < σ → od i = od j → i = j) (h5 : ∀ i, i < σ → ∀ j, j < w → od i ≠ V j) : w + σ ≤ N := by
  refine fb_holes N (w + σ) (fun i => if i < w then V i else od (i - w)) (fun i hi => ?_) (fun i j hij hj q => ?_)
  · (try dsimp only)
    split
    · exact h1 i (by assumption)
    · exact h3 _ (by omega)
  · (try dsimp only at q)
    by_cases e1 : i < w <;> by_cases e2 : j < w
    · rw [if_pos e1, if_pos e2] at q
      have := h2 i e1 j e2 q
      omega
    · rw [if_pos e1, if_neg e2] at q
      exact h5 (j - w) (by omega) i e1 q.symm
    · omega
    · rw [if_neg e1, if_neg e2] at q
      have := h4 (i - w) (by omega) (j - w) (by omega) q
      omega
theorem DJ.fits (hD : DJ h t tm M big cw a5 a6 a7 a8 k V od w σ r) : w + σ ≤ 2 ^ aN M := by
  obtain ⟨_, _, _, _, _, hp, ho, hu⟩ := hD
  exact holes2 hp.1 hp.2.1 (fun i hi => (ho i hi).2) hu.1 hu.2.1
/-- a way on is offered -/
theorem S38 (hw : Wf M) (hD : DJ h t tm M big cw a5 a6 a7 a8 k V od w σ r) {v p : Nat} (hv : v < 2 ^ aN M) (hp : ∀ i, i < σ → k (od i) ≤ p) (hpw : ∃ m, Wk M big cw m v p) (hpb : p ≤ σ * 405505) (hr : r ≤ σ) (hpF : p < 2147483647) (kk : ∀ h' k' V' w', Sm (inO t a5 a6 a7) h h' → (∀ j, j ≠ 10 → h'.I t j = h.I t j) → DJ h' t tm M big cw a5 a6 a7 a8 k' V' od w' σ r → k' v ≤ p → (∀ u, k' u ≤ k u) → (∀ i, i < σ → k' (od i) = k (od i)) → C h') : W38 t (nI v) (nI p) h C := by
  have h12 := hw.n12
  have p12 : 2 ^ aN M ≤ 2 ^ 12 := Nat.pow_le_pow_right (by omega) h12
  have hfit := hD.fits
  have hD0 := hD
  obtain ⟨d1, d2, d3, d4, d5, d6, d7, u1, u2, u3, u4, u5, u6, u7, u8, u9, u10⟩ := hD
  have ht := is2_rng d1.1
  obtain ⟨q5, q6, q7, q8, qa, n56, n57, n58, n67, n68, n78⟩ := d2
  have d2 : Arr h t (aN M) a5 a6 a7 a8 := ⟨q5, q6, q7, q8, qa, n56, n57, n58, n67, n68, n78⟩
  have b5 := qa a5 (Or.inl rfl)
  have b6 := qa a6 (Or.inr (Or.inl rfl))
  have b7 := qa a7 (Or.inr (Or.inr (Or.inl rfl)))
  have b8 := qa a8 (Or.inr (Or.inr (Or.inr rfl)))
  have kv := d5 v hv
  unfold W38 B38_42
  rw [R_of q5, ix_n (by omega), kv.1]
  refine ⟨q5, d2.ok5 hv, ?_⟩
  by_cases e : p < k v
  · rw [if_pos (nI_lt e (by omega))]
    refine ⟨q5, d2.ok5 hv, ?_⟩
    have nset : ∀ i, i < σ → od i ≠ v := by
      intro i hi q
      have := hp i hi
      rw [q] at this
      omega
    /- what follows in both cases -/
    have fin : ∀ (g : TH) (V1 : Nat → Nat) (w1 : Nat), Sm (inO t a5 a6 a7) h g → (∀ j, j ≠ 10 → g.I t j = h.I t j) → g.I t 10 = nI w1 → (∀ u, u < 2 ^ aN M → g.I a5 u = nI (if u = v then p else k u)) → HpOk g a6 a7 (aN M) (fun u => if u = v then p else k u) w1 V1 → (∀ z, (∃ i, i < w1 ∧ V1 i = z) ↔ (z = v ∨ ∃ i, i < w ∧ V i = z)) → C g := by
      intro g V1 w1 s1 s2 s3 s4 s5 s6
      refine kk g (fun u => if u = v then p else k u) V1 w1 s1 s2 ⟨?_, d2.sm s1, s3, ?_, ?_, s5, ?_, u1, ?_, ?_, ?_, ?_, ?_, ?_, ?_, ?_, ?_⟩ ?_ ?_ ?_
      · exact d1.sm s1 (fun a z1 z2 => by unfold inO; omega) (fun a z1 z2 => by unfold inO; omega) (s2 0 (by omega))
      · rw [s2 11 (by omega)]; exact d4
      · intro u hu
        refine ⟨s4 u hu, ?_⟩
        show (if u = v then p else k u) ≤ _
        split
        · omega
        · exact (d5 u hu).2
      · intro i hi
        rw [s1.I (by unfold inO; omega)]
        exact d7 i hi
      · intro i hi j hj q
        rcases (s6 (od i)).mp ⟨j, hj, q.symm⟩ with z | ⟨i', z1, z2⟩
        · exact nset i hi z
        · exact u2 i hi i' z1 z2.symm
      · intro u hu
        (try dsimp only)
        rw [s6 u]
        by_cases e2 : u = v
        · rw [if_pos e2]
          exact ⟨fun _ => Or.inr (Or.inl e2), fun _ => hpF⟩
        · rw [if_neg e2, u3 u hu]
          constructor
          · rintro (z | z)
            · exact Or.inl z
            · exact Or.inr (Or.inr z)
          · rintro (z | z | z)
            · exact Or.inl z
            · exact absurd z e2
            · exact Or.inr z
      · intro i j z1 z2
        (try dsimp only)
        rw [if_neg (nset i (by omega)), if_neg (nset j z2)]
        exact u4 i j z1 z2
      · intro i hi j hj
        (try dsimp only)
        rw [if_neg (nset i hi)]
        by_cases e2 : V1 j = v
        · rw [if_pos e2]; exact hp i hi
        · rw [if_neg e2]
          rcases (s6 (V1 j)).mp ⟨j, hj, rfl⟩ with z | ⟨i', z1, z2⟩
          · exact absurd z e2
          · rw [← z2]; exact u5 i hi i' z1
      · intro i hi v' c hm
        (try dsimp only)
        rw [if_neg (nset i (by omega))]
        have := u6 i hi v' c hm
        by_cases e2 : v' = v
        · rw [if_pos e2]; rw [e2] at this; omega
        · rw [if_neg e2]; exact this
      · intro u hu hk
        (try dsimp only at hk ⊢)
        by_cases e2 : u = v
        · rw [if_pos e2, e2]; exact hpw
        · rw [if_neg e2] at hk ⊢; exact u7 u hu hk
      · (try dsimp only)
        by_cases e2 : 0 = v
        · rw [← e2, u8] at e; omega
        · rw [if_neg e2]; exact u8
      · intro i hi
        (try dsimp only)
        rw [if_neg (nset i hi)]
        exact u9 i hi
      · intro j hj
        (try dsimp only)
        by_cases e2 : V1 j = v
        · rw [if_pos e2]; exact hpb
        · rw [if_neg e2]
          rcases (s6 (V1 j)).mp ⟨j, hj, rfl⟩ with z | ⟨i', z1, z2⟩
          · exact absurd z e2
          · rw [← z2]; exact u10 i' z1
      · (try dsimp only)
        rw [if_pos rfl]
        exact Nat.le_refl _
      · intro u
        (try dsimp only)
        by_cases e2 : u = v
        · rw [if_pos e2, e2]; omega
        · rw [if_neg e2]; exact Nat.le_refl _
      · intro i hi
        (try dsimp only)
        rw [if_neg (nset i hi)]
    by_cases e2 : k v = 2147483647
    · rw [if_neg (fun q => q (by rw [e2]; rfl))]
      have nheap : ∀ i, i < w → V i ≠ v := by
        intro i hi q
        have := (u3 v hv).mpr (Or.inr ⟨i, hi, q⟩)
        omega
      simp only [R_sI, P_sI]
      rw [R_of q5, R_of q7, d3, I_ne (by omega), d3, nI_1]
      refine ⟨q7, d2.ok7 hv, q5, d2.ok5 hv, ?_⟩
      have V1w : (fun i => if i = w then v else V i) w = v := if_pos rfl
      have hw1 : w + 1 ≤ 2 ^ aN M := by
        refine fb_holes (2 ^ aN M) (w + 1) (fun i => if i = w then v else V i) (fun i hi => ?_) (fun i j hij hj q => ?_)
        · (try dsimp only)
          split
          · exact hv
          · exact d6.1 i (by omega)
        · (try dsimp only at q)
          rw [if_neg (by omega)] at q
          by_cases e3 : j = w
          · rw [if_pos e3] at q; exact nheap i (by omega) q
          · rw [if_neg e3] at q
            have := d6.2.1 i (by omega) j (by omega) q
            omega
      have sg : Sm (inO t a5 a6 a7) h (((h.sI a7 v (nI w)).sI t 10 (nI (w + 1))).sI a5 v (nI p)) := ((Sm.refl.sI (by unfold inO; omega) _).sI (by unfold inO; omega) _).sI (by unfold inO; omega) _
      have key := S39 (h := ((h.sI a7 v (nI w)).sI t 10 (nI (w + 1))).sI a5 v (nI p)) (k := fun u => if u = v then p else k u) (V := fun i => if i = w then v else V i) (w := w + 1) (p := w) (C := fun h1 => C h1) (d2.sm sg) h12 ?_ hw1 ?_ ⟨by omega, ?_, ?_, ?_, ?_⟩ ?_ ?_ (fun h' V' s1 s2 s3 => ?_)
      · (try dsimp only at key)
        rw [if_pos rfl] at key
        exact key
      · intro u hu
        rw [I_at, I_ne (by omega), I_ne (by omega)]
        by_cases e3 : u = v
        · rw [if_pos e3]
          (try dsimp only)
          rw [if_pos e3]
          exact ⟨rfl, by omega⟩
        · rw [if_neg e3]
          (try dsimp only)
          rw [if_neg e3]
          exact d5 u hu
      · (try dsimp only)
        rw [if_pos rfl, I_ne (by omega), I_ne (by omega), I_eq]
      · intro i hi
        (try dsimp only)
        split
        · exact hv
        · exact d6.1 i (by omega)
      · intro i hi j hj q
        (try dsimp only at q)
        by_cases e3 : i = w <;> by_cases e4 : j = w
        · omega
        · rw [if_pos e3, if_neg e4] at q
          exact absurd q.symm (nheap j (by omega))
        · rw [if_neg e3, if_pos e4] at q
          exact absurd q (nheap i (by omega))
        · rw [if_neg e3, if_neg e4] at q
          exact d6.2.1 i (by omega) j (by omega) q
      · intro i hi e3
        (try dsimp only)
        rw [if_neg e3, I_ne (by omega), I_ne (by omega), I_ne (by omega)]
        exact d6.2.2.1 i (by omega)
      · intro i hi e3
        (try dsimp only)
        rw [if_neg e3, I_ne (by omega), I_ne (by omega), I_nk (nheap i (by omega))]
        exact d6.2.2.2.1 i (by omega)
      · intro i i1 i2 i3
        (try dsimp only)
        rw [if_neg (show ¬ (i - 1) / 2 = w by omega), if_neg i3, if_neg (nheap _ (by omega)), if_neg (nheap _ (by omega))]
        exact d6.2.2.2.2 i i1 (by omega)
      · intro i i1 i2 i3 i4
        omega
      · have s4 : Sm (inO t a5 a6 a7) h h' := sg.trans (s1.mono (fun a z => by unfold in67 at z; unfold inO; omega))
        have nt : ¬ in67 a6 a7 t := by unfold in67; omega
        have n5 : ¬ in67 a6 a7 a5 := by unfold in67; omega
        refine fin h' V' (w + 1) s4 (fun j hj => ?_) ?_ (fun u hu => ?_) s2 (fun z => ?_)
        · rw [s1.I nt, I_ne (by omega), I_nk hj, I_ne (by omega)]
        · rw [s1.I nt, I_ne (by omega), I_eq]
        · rw [s1.I n5, I_at, I_ne (by omega), I_ne (by omega), (d5 u hu).1]
          by_cases e3 : u = v
          · rw [if_pos e3, if_pos e3]
          · rw [if_neg e3, if_neg e3]
        · rw [s3 z]
          (try dsimp only)
          constructor
          · rintro ⟨i, i1, i2⟩
            by_cases e3 : i = w
            · rw [if_pos e3] at i2; exact Or.inl i2.symm
            · rw [if_neg e3] at i2; exact Or.inr ⟨i, by omega, i2⟩
          · rintro (i1 | ⟨i, i1, i2⟩)
            · exact ⟨w, by omega, by rw [if_pos rfl]; exact i1.symm⟩
            · exact ⟨i, by omega, by rw [if_neg (by omega)]; exact i2⟩
    · rw [if_pos (fun q => e2 (by rw [show (2147483647 : Int32) = nI 2147483647 from rfl, nI_eq (by omega) (by omega)] at q; exact q))]
      refine ⟨q5, d2.ok5 hv, ?_⟩
      obtain ⟨j, hj, hjv⟩ : ∃ j, j < w ∧ V j = v := by
        rcases (u3 v hv).mp (by omega) with ⟨i, i1, i2⟩ | z
        · exact absurd i2 (nset i i1)
        · exact z
      have inj : ∀ i, i < w → i ≠ j → V i ≠ v := fun i hi q z => q (d6.2.1 i hi j hj (by rw [z, hjv]))
      have sg : Sm (inO t a5 a6 a7) h (h.sI a5 v (nI p)) := Sm.refl.sI (by unfold inO; omega) _
      have key := S39 (h := h.sI a5 v (nI p)) (k := fun u => if u = v then p else k u) (V := V) (w := w) (p := j) (C := fun h1 => C h1) (d2.sm sg) h12 ?_ (by omega) ?_ ⟨hj, d6.1, d6.2.1, ?_, ?_⟩ ?_ ?_ (fun h' V' s1 s2 s3 => ?_)
      · rw [hjv] at key
        exact key
      · intro u hu
        rw [I_at]
        by_cases e3 : u = v
        · rw [if_pos e3]
          (try dsimp only)
          rw [if_pos e3]
          exact ⟨rfl, by omega⟩
        · rw [if_neg e3]
          (try dsimp only)
          rw [if_neg e3]
          exact d5 u hu
      · rw [I_ne (by omega)]
        exact d6.2.2.2.1 j hj
      · intro i hi _
        rw [I_ne (by omega)]
        exact d6.2.2.1 i hi
      · intro i hi _
        rw [I_ne (by omega)]
        exact d6.2.2.2.1 i hi
      · intro i i1 i2 i3
        (try dsimp only)
        rw [if_neg (inj i i2 i3)]
        have := d6.2.2.2.2 i i1 i2
        by_cases e3 : (i - 1) / 2 = j
        · rw [e3, hjv] at this
          rw [e3, hjv, if_pos rfl]
          omega
        · rw [if_neg (inj _ (by omega) e3)]; exact this
      · intro i i1 i2 i3 i4
        (try dsimp only)
        rw [if_neg (inj _ (by omega) (by omega)), if_neg (inj i i2 (by omega))]
        have z1 := d6.2.2.2.2 j i4 hj
        have z2 := d6.2.2.2.2 i i1 i2
        rw [i3] at z2
        omega
      · have s4 : Sm (inO t a5 a6 a7) h h' := sg.trans (s1.mono (fun a z => by unfold in67 at z; unfold inO; omega))
        have nt : ¬ in67 a6 a7 t := by unfold in67; omega
        have n5 : ¬ in67 a6 a7 a5 := by unfold in67; omega
        refine fin h' V' w s4 (fun j hj => ?_) ?_ (fun u hu => ?_) s2 (fun z => ?_)
        · rw [s1.I nt, I_ne (by omega)]
        · rw [s1.I nt, I_ne (by omega)]; exact d3
        · rw [s1.I n5, I_at, (d5 u hu).1]
          by_cases e3 : u = v
          · rw [if_pos e3, if_pos e3]
          · rw [if_neg e3, if_neg e3]
        · rw [s3 z]
          constructor
          · exact Or.inr
          · rintro (i1 | i1)
            · exact ⟨j, hj, by rw [hjv]; exact i1.symm⟩
            · exact i1
  · rw [if_neg (nI_nlt (by omega) (by omega))]
    exact kk h k V w Sm.refl (fun _ _ => rfl) hD0 (by omega) (fun _ => Nat.le_refl _) (fun _ _ => rfl)
end DK
