/-! THE FIRST SET IN ORDER THAT HAS THE GOAL -/
section SE
variable {h h' : TH} {M : Nat → Int32} {big : Nat → Nat} {cw t tm a5 a6 a7 a8 : Nat} {k V od : Nat → Nat} {w σ : Nat} {goal : Int32}
/-- every way comes to a settled set, or is as dear as something that waits -/
theorem way_in (hw : Wf M) (hD : DJ h t tm M big cw a5 a6 a7 a8 k V od w σ σ) : ∀ m v c, Wk M big cw m v c → v < 2 ^ aN M ∧ ((∃ i, i < σ ∧ od i = v ∧ k v ≤ c) ∨ ∃ j, j < w ∧ k (V j) ≤ c) := by
  have h12 := hw.n12
  have p12 : 2 ^ aN M ≤ 2 ^ 12 := Nat.pow_le_pow_right (by omega) h12
  obtain ⟨d1, d2, d3, d4, d5, d6, d7, u1, u2, u3, u4, u5, u6, u7, u8, u9, u10⟩ := hD
  intro m
  induction m with
  | zero =>
    rintro v c ⟨rfl, rfl⟩
    have p0 : 0 < 2 ^ aN M := Nat.pos_of_ne_zero (by simp)
    refine ⟨p0, ?_⟩
    rcases (u3 0 p0).mp (by omega) with ⟨i, i1, i2⟩ | ⟨j, j1, j2⟩
    · exact Or.inl ⟨i, i1, i2, by omega⟩
    · exact Or.inr ⟨j, j1, by rw [j2]; omega⟩
  | succ m ih =>
    rintro v c ⟨u, c', k', h1, h2, rfl⟩
    obtain ⟨hu, h3⟩ := ih u c' h1
    refine ⟨h2.1, ?_⟩
    rcases h3 with ⟨i, i1, i2, i3⟩ | ⟨j, j1, j2⟩
    · have h4 := u6 i i1 v k' (by rw [i2]; exact h2)
      rw [i2] at h4
      by_cases e : k v < 2147483647
      · rcases (u3 v h2.1).mp e with ⟨i', z1, z2⟩ | ⟨j, z1, z2⟩
        · exact Or.inl ⟨i', z1, z2, by omega⟩
        · exact Or.inr ⟨j, z1, by rw [z2]; omega⟩
      · exfalso
        have ku := u9 i i1
        rw [i2] at ku
        have hf := holes2 d6.1 d6.2.1 (fun i hi => (d7 i hi).2) u1 u2
        obtain ⟨_, code, hm⟩ := h2
        have := (mvs_ok hw d1.cw01 ⟨u, hu, rfl⟩ hm).2.2
        (try dsimp only at this)
        have z : i * 405505 ≤ 4095 * 405505 := Nat.mul_le_mul_right _ (by omega)
        omega
    · exact Or.inr ⟨j, j1, by omega⟩
theorem S36 {C : Int32 → TH → Prop} (hw : Wf M) (hD : DJ h t tm M big cw a5 a6 a7 a8 k V od w σ σ) (hg : St (aN M) goal)
    (kN : ∀ h' k' V' od' w' σ', Sm (inL t a5 a6 a7 a8) h h' → fKeep h h' t → DJ h' t tm M big cw a5 a6 a7 a8 k' V' od' w' σ' σ' → (∀ m v c, Wk M big cw m v c → ¬ sb goal (nI v)) → C (-1) h')
    (kS : ∀ h' k' V' od' w' σ' i, Sm (inL t a5 a6 a7 a8) h h' → fKeep h h' t → DJ h' t tm M big cw a5 a6 a7 a8 k' V' od' w' σ' σ' → i < σ' → sb goal (nI (od' i)) → (∀ m v c, Wk M big cw m v c → sb goal (nI v) → k' (od' i) ≤ c) → C (nI (k' (od' i))) h') : W36 t goal h C := by
  have h12 := hw.n12
  have p12 : 2 ^ aN M ≤ 2 ^ 12 := Nat.pow_le_pow_right (by omega) h12
  have hN := hD.2.1.2.2.2.2.1 a8 (Or.inr (Or.inr (Or.inr rfl)))
  unfold W36 B36_2
  refine LFP.up (h.N a8) (fun j q => q.1 = nI j ∧ ∃ k V od w σ, Sm (inL t a5 a6 a7 a8) h q.2 ∧ fKeep h q.2 t ∧ DJ q.2 t tm M big cw a5 a6 a7 a8 k V od w σ σ ∧ j ≤ σ ∧ ∀ i, i < j → ¬ sb goal (nI (od i))) ?_ ?_ (Nat.zero_le _) ⟨rfl, k, V, od, w, σ, Sm.refl, fun _ _ _ _ => rfl, hD, Nat.zero_le _, fun i hi => absurd hi (Nat.not_lt_zero _)⟩
  · rintro X j ⟨x2, g⟩ hj ⟨y1, k1, V1, od1, w1, σ1, y2, y3, y4, y5, y6⟩ ih
    (try dsimp only at y1 y2 y3 y4)
    subst y1
    have r8 := y4.2.1.2.2.2.1
    have hK := y4.2.1.2.2.2.2.1 a8 (Or.inr (Or.inr (Or.inr rfl)))
    have hNg : g.N a8 = h.N a8 := by rw [y2.N]
    /- at a set that is settled -/
    have at8 : ∀ g' k2 V2 od2 w2 σ2, Sm (inL t a5 a6 a7 a8) h g' → fKeep h g' t → DJ g' t tm M big cw a5 a6 a7 a8 k2 V2 od2 w2 σ2 σ2 → j < σ2 → (∀ i, i < j → ¬ sb goal (nI (od2 i))) → B36_28 t goal (nI j) g' C X := by
      intro g' k2 V2 od2 w2 σ2 z2 z3 z4 z5 z6
      have hfit := z4.fits
      have p5 := z4.2.1.1
      have p8 := z4.2.1.2.2.2.1
      obtain ⟨o1, o2⟩ := z4.2.2.2.2.2.2.1 j z5
      unfold B36_28
      rw [R_of p8, ix_n (by omega), o1, R_of p5, ix_n (by omega), (z4.2.2.2.2.1 _ o2).1]
      refine ⟨p8, z4.2.1.ok8 (by omega), ?_⟩
      by_cases e : nI (od2 j) &&& goal = goal
      · rw [if_neg (fun q => q e)]
        refine ⟨p5, p8, z4.2.1.ok8 (by omega), z4.2.1.ok5 o2, ?_⟩
        refine kS g' k2 V2 od2 w2 σ2 j z2 z3 z4 z5 (bt_sup.mp e) (fun m v c hm hv => ?_)
        rcases (way_in hw z4 m v c hm).2 with ⟨i, i1, i2, i3⟩ | ⟨i, i1, i2⟩
        · have hij : j ≤ i := by
            rcases Nat.lt_or_ge i j with q | q
            · exact absurd (by rw [i2]; exact hv) (z6 i q)
            · exact q
          rcases Nat.lt_or_ge j i with q | q
          · have := z4.2.2.2.2.2.2.2.2.2.2.1 j i q i1
            rw [i2] at this
            omega
          · rw [show j = i by omega, i2]; exact i3
        · have := z4.2.2.2.2.2.2.2.2.2.2.2.1 j z5 i i1
          omega
      · rw [if_pos e]
        refine ih _ ⟨nI_1 j, k2, V2, od2, w2, σ2, z2, z3, z4, by omega, fun i hi => ?_⟩
        by_cases e2 : i = j
        · rw [e2]; exact fun q => e (bt_sup.mpr q)
        · exact z6 i (by omega)
    unfold F36_2
    (try dsimp only)
    have hf1 := y4.fits
    rw [R_of r8, hNg, if_neg (nI_ge hj (by omega)), y4.2.2.2.1]
    refine ⟨r8, hK.2.1, ?_⟩
    by_cases e : j < σ1
    · rw [if_pos (nI_lt e (by omega))]
      exact at8 g k1 V1 od1 w1 σ1 y2 y3 y4 e y6
    · rw [if_neg (nI_nlt (by omega) (by omega))]
      refine S37 hw y4 (fun e2 => ?_) (fun e2 g' k2 V2 od2 w2 z2 z3 z4 z5 z6 z7 => ?_)
      · rw [if_neg (fun q => q rfl)]
        refine kN g k1 V1 od1 w1 σ1 y2 y3 y4 (fun m v c hm hv => ?_)
        rcases (way_in hw y4 m v c hm).2 with ⟨i, i1, i2, i3⟩ | ⟨i, i1, i2⟩
        · exact y6 i (by omega) (by rw [i2]; exact hv)
        · omega
      · rw [if_pos (by decide)]
        refine at8 g' k2 V2 od2 w2 (σ1 + 1) (y2.trans z2) (fun i i1 i2 i3 => (z3 i i1 i2 i3).trans (y3 i i1 i2 i3)) z4 (by omega) (fun i hi => ?_)
        rw [z5 i (by omega)]
        exact y6 i hi
  · rintro X ⟨x2, g⟩ ⟨y1, k1, V1, od1, w1, σ1, y2, y3, y4, y5, y6⟩
    (try dsimp only at y1 y2 y3 y4)
    subst y1
    have r8 := y4.2.1.2.2.2.1
    have hK := y4.2.1.2.2.2.2.1 a8 (Or.inr (Or.inr (Or.inr rfl)))
    have hNg : g.N a8 = h.N a8 := by rw [y2.N]
    have hf1 := y4.fits
    unfold F36_2
    (try dsimp only)
    rw [R_of r8, hNg, if_pos (nI_le (Nat.le_refl _) (by omega))]
    refine ⟨r8, hK.2.1, kN g k1 V1 od1 w1 σ1 y2 y3 y4 (fun m v c hm hv => ?_)⟩
    rcases (way_in hw y4 m v c hm).2 with ⟨i, i1, i2, i3⟩ | ⟨i, i1, i2⟩
    · exact y6 i (by omega) (by rw [i2]; exact hv)
    · omega
theorem S35 {C : Int32 → TH → Prop} (hw : Wf M) (hD : DJ h t tm M big cw a5 a6 a7 a8 k V od w σ σ) (hg : St (aN M) goal)
    (kN : ∀ h' k' V' od' w' σ', Sm (inL t a5 a6 a7 a8) h h' → fKeep h h' t → DJ h' t tm M big cw a5 a6 a7 a8 k' V' od' w' σ' σ' → (∀ m v c, Wk M big cw m v c → ¬ sb goal (nI v)) → C (-1) h')
    (kS : ∀ h' k' V' od' w' σ' i, Sm (inL t a5 a6 a7 a8) h h' → fKeep h h' t → DJ h' t tm M big cw a5 a6 a7 a8 k' V' od' w' σ' σ' → i < σ' → sb goal (nI (od' i)) → (∀ m v c, Wk M big cw m v c → sb goal (nI v) → k' (od' i) ≤ c) → C (nI (k' (od' i) / 4096)) h') : W35 t goal h C := by
  unfold W35
  refine S36 hw hD hg (fun h' k' V' od' w' σ' s1 s2 s3 s4 => ?_) (fun h' k' V' od' w' σ' i s1 s2 s3 s4 s5 s6 => ?_)
  · rw [if_neg (fun q => q rfl)]
    exact kN h' k' V' od' w' σ' s1 s2 s3 s4
  · have o2 := (s3.2.2.2.2.2.2.1 i s4).2
    have := (s3.2.2.2.2.1 _ o2).2
    rw [if_pos (nI_ne1 (by omega)), show nI (k' (od' i)) / 4096 = nI (k' (od' i) / 4096) from pk_div (d := 4096) (by omega) (by omega) (by omega)]
    exact kS h' k' V' od' w' σ' i s1 s2 s3 s4 s5 s6
end SE
