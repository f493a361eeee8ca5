/-! THE NEXT SET IS SETTLED -/
section ST
variable {h h' : TH} {M : Nat → Int32} {big : Nat → Nat} {cw t tm a5 a6 a7 a8 : Nat} {k V od : Nat → Nat} {w σ r : Nat}
theorem mem_idx {α : Type} {L : List α} {m : α} (h : m ∈ L) : ∃ i, i < L.length ∧ L[i]? = some m := by
  obtain ⟨i, hi, e⟩ := List.getElem_of_mem h
  exact ⟨i, hi, by rw [List.getElem?_eq_getElem hi, e]⟩
theorem idx_mem {α : Type} {L : List α} {m : α} {i : Nat} (h : L[i]? = some m) : m ∈ L := List.mem_of_getElem? h
theorem cst_le (hw : Wf M) {d : Nat} (hd : d < aN M) (hc : cw = 0 ∨ cw = 4096) : 1 ≤ cst M cw d ∧ cst M cw d ≤ 405505 := by
  obtain ⟨w, h1, h2⟩ := hw.wPb hd
  unfold cst
  rw [h2, ix_n (by omega)]
  rcases hc with rfl | rfl <;> omega
/-- what a move is -/
theorem mvs_mem {s : Int32} {m : Int32 × Nat × Nat} : m ∈ mvs M big cw s ↔ (∃ d, d < aN M ∧ leads M d ∧ mkC M big s d ∧ m = (mkT M s d, cst M cw d, d * 12)) ∨ (∃ d o, d < aN M ∧ o < d ∧ poC M big s s d o ∧ m = (poT M s d o, cst M cw d, 144 + d * 12 + o)) ∨ ∃ d, d < aN M ∧ bt s d = true ∧ m = (s &&& (ishl 1 (nI d) ^^^ (-1)), 1, 288 + d * 12) := by
  unfold mvs
  rw [List.mem_append, List.mem_append, or_assoc]
  refine or_congr ?_ (or_congr ?_ ?_)
  · rw [List.mem_flatMap]
    constructor
    · rintro ⟨d, h1, h2⟩
      unfold mvMk at h2
      split at h2
      · rename_i q
        exact ⟨d, List.mem_range.mp h1, q.1, q.2, by simpa using h2⟩
      · simp at h2
    · rintro ⟨d, h1, h2, h3, h4⟩
      refine ⟨d, List.mem_range.mpr h1, ?_⟩
      unfold mvMk
      rw [if_pos ⟨h2, h3⟩, h4]
      simp
  · rw [List.mem_flatMap]
    constructor
    · rintro ⟨d, h1, h2⟩
      unfold mvPo at h2
      rw [List.mem_flatMap] at h2
      obtain ⟨o, h3, h4⟩ := h2
      unfold mvPo1 at h4
      split at h4
      · rename_i q
        exact ⟨d, o, List.mem_range.mp h1, List.mem_range.mp h3, q, by simpa using h4⟩
      · simp at h4
    · rintro ⟨d, o, h1, h2, h3, h4⟩
      refine ⟨d, List.mem_range.mpr h1, ?_⟩
      unfold mvPo
      rw [List.mem_flatMap]
      refine ⟨o, List.mem_range.mpr h2, ?_⟩
      unfold mvPo1
      rw [if_pos h3, h4]
      simp
  · rw [List.mem_flatMap]
    constructor
    · rintro ⟨d, h1, h2⟩
      unfold mvWa at h2
      split at h2
      · rename_i q
        exact ⟨d, List.mem_range.mp h1, q, by simpa using h2⟩
      · simp at h2
    · rintro ⟨d, h1, h2, h4⟩
      refine ⟨d, List.mem_range.mpr h1, ?_⟩
      unfold mvWa
      rw [if_pos h2, h4]
      simp
theorem mvs_ok (hw : Wf M) (hc : cw = 0 ∨ cw = 4096) {s : Int32} (hs : St (aN M) s) {m : Int32 × Nat × Nat} (hm : m ∈ mvs M big cw s) : St (aN M) m.1 ∧ 1 ≤ m.2.1 ∧ m.2.1 ≤ 405505 := by
  have h12 := hw.n12
  rcases mvs_mem.mp hm with ⟨d, h1, _, _, rfl⟩ | ⟨d, o, h1, _, _, rfl⟩ | ⟨d, h1, _, rfl⟩
  · exact ⟨mkT_St hw hs h1, cst_le hw h1 hc⟩
  · exact ⟨poT_St hw hs h1, cst_le hw h1 hc⟩
  · exact ⟨St_and _ hs, Nat.le_refl 1, show 1 ≤ 405505 by omega⟩
theorem LObj.cw01 (ho : LObj h t tm M big cw) : cw = 0 ∨ cw = 4096 := ho.2.2.2.2.2.elim (fun q => Or.inl q.1) (fun q => Or.inr q.1)
theorem DJ.sm {S : Nat → Prop} (hD : DJ h t tm M big cw a5 a6 a7 a8 k V od w σ r) (hs : Sm S h h') (h1 : ∀ a, 16 ≤ a → a < 130 → ¬ S a) (h2 : ∀ a, t + 1 ≤ a → a < t + 4 → ¬ S a) (h3 : ¬ S a5 ∧ ¬ S a6 ∧ ¬ S a7 ∧ ¬ S a8) (h0 : ∀ j, j = 0 ∨ j = 10 ∨ j = 11 → h'.I t j = h.I t j) : DJ h' t tm M big cw a5 a6 a7 a8 k V od w σ r := by
  obtain ⟨d1, d2, d3, d4, d5, d6, d7, d8⟩ := hD
  refine ⟨d1.sm hs h1 h2 (h0 0 (Or.inl rfl)), d2.sm hs, by rw [h0 10 (by omega)]; exact d3, by rw [h0 11 (by omega)]; exact d4, ?_, ?_, ?_, d8⟩
  · rw [hs.I h3.1]; exact d5
  · unfold HpOk at d6 ⊢
    rw [hs.I h3.2.1, hs.I h3.2.2.1]
    exact d6
  · rw [hs.I h3.2.2.2]; exact d7
theorem heap_min (hh : ∀ i, 0 < i → i < w → k (V ((i - 1) / 2)) ≤ k (V i)) : ∀ i, i < w → k (V 0) ≤ k (V i) := by
  intro i
  induction i using Nat.strongRecOn with
  | ind i ih =>
    intro hi
    rcases Nat.eq_zero_or_pos i with e | e
    · rw [e]; exact Nat.le_refl _
    · exact Nat.le_trans (ih ((i - 1) / 2) (by omega) (by omega)) (hh i e hi)
theorem LRow.sm {S : Nat → Prop} {L : List (Int32 × Nat × Nat)} (hl : LRow h t L) (hs : Sm S h h') (h1 : ¬ S (t + 9) ∧ ¬ S (t + 10) ∧ ¬ S (t + 11)) (h0 : h'.I t 15 = h.I t 15) : LRow h' t L := by
  unfold LRow at hl ⊢
  rw [h0, hs.I h1.1, hs.I h1.2.1, hs.I h1.2.2]
  exact hl
def fKeep (h h' : TH) (t : Nat) : Prop := ∀ j, j ≠ 10 → j ≠ 11 → j ≠ 15 → h'.I t j = h.I t j
theorem S37 {C : Int32 → TH → Prop} (hw : Wf M) (hD : DJ h t tm M big cw a5 a6 a7 a8 k V od w σ σ) (k0 : w = 0 → C 0 h) (k1 : 0 < w → ∀ h' k' V' od' w', Sm (inL t a5 a6 a7 a8) h h' → fKeep h h' t → DJ h' t tm M big cw a5 a6 a7 a8 k' V' od' w' (σ + 1) (σ + 1) → (∀ i, i < σ → od' i = od i) → od' σ = V 0 → (∀ i, i < σ + 1 → k' (od' i) = k (od' i)) → C 1 h') : W37 t h C := by
  have h12 := hw.n12
  have p12 : 2 ^ aN M ≤ 2 ^ 12 := Nat.pow_le_pow_right (by omega) h12
  have hfit := hD.fits
  have hD0 := hD
  obtain ⟨d1, d2, d3, d4, d5, d6, d7, u1, u2, u3, u4, u5, u6, u7, u8, u9, u10⟩ := hD
  have ht := is2_rng d1.1
  have hcw := d1.cw01
  obtain ⟨q5, q6, q7, q8, qa, n56, n57, n58, n67, n68, n78⟩ := d2
  have d2 : Arr h t (aN M) a5 a6 a7 a8 := ⟨q5, q6, q7, q8, qa, n56, n57, n58, n67, n68, n78⟩
  have b5 := qa a5 (Or.inl rfl)
  have b6 := qa a6 (Or.inr (Or.inl rfl))
  have b7 := qa a7 (Or.inr (Or.inr (Or.inl rfl)))
  have b8 := qa a8 (Or.inr (Or.inr (Or.inr rfl)))
  unfold W37
  rw [d3]
  by_cases e0 : w = 0
  · rw [if_pos (by rw [e0]; decide)]; exact k0 e0
  · rw [if_neg (nI_nle (by omega) (by omega)), R_of q8, d4, if_pos (nI_lt (by omega) (by omega)), R_of q6, ix_0, d6.2.2.1 0 (by omega)]
    refine ⟨q8, b8.2.1, q6, d2.ok6 (u := 0) (by omega), ?_⟩
    have hw0 : 0 < w := by omega
    have hV0 : V 0 < 2 ^ aN M := d6.1 0 hw0
    have hmin := heap_min d6.2.2.2.2
    have hkF : k (V 0) < 2147483647 := (u3 _ hV0).mpr (Or.inr ⟨0, hw0, rfl⟩)
    /- from the order on -/
    have fin : ∀ (g : TH) (V2 : Nat → Nat), Sm (inO t a6 a7 a7) h g → (∀ j, j ≠ 10 → g.I t j = h.I t j) → g.I t 10 = nI (w - 1) → HpOk g a6 a7 (aN M) k (w - 1) V2 → (∀ z, (∃ i, i < w - 1 ∧ V2 i = z) ↔ ∃ i, 0 < i ∧ i < w ∧ V i = z) → B37_76 t (nI (V 0)) g C := by
      intro g V2 s1 s2 s3 s4 s5
      unfold B37_76
      have rg8 : g.P t 8 = some a8 := by rw [s1.P]; exact q8
      have g11 : g.I t 11 = nI σ := by rw [s2 11 (by omega)]; exact d4
      rw [R_of rg8, g11, ix_n (by omega), I_ne (by omega), g11, nI_1]
      refine ⟨rg8, (d2.sm s1).ok8 (by omega), ?_⟩
      intro g1 eg1
      have s6 : Sm (inL t a5 a6 a7 a8) h g1 := by
        rw [eg1]
        exact ((s1.mono (fun a z => by unfold inO at z; unfold inL inMv; omega)).sI (by unfold inL; omega) _).sI (by unfold inL inMv; omega) _
      have n1 : ∀ a, a ≠ t → a ≠ a6 → a ≠ a7 → a ≠ a8 → g1.I a = h.I a := by
        intro a z1 z2 z3 z4
        rw [eg1]
        funext j
        rw [I_ne z1, I_ne z4, s1.I (by unfold inO; omega)]
      have f1 : fKeep h g1 t := by
        intro j j1 j2 j3
        rw [eg1, I_nk j2, I_ne (by omega), s2 j j1]
      have od1 : ∀ i, (fun i => if i = σ then V 0 else od i) i = if i = σ then V 0 else od i := fun _ => rfl
      have D1 : DJ g1 t tm M big cw a5 a6 a7 a8 k V2 (fun i => if i = σ then V 0 else od i) (w - 1) (σ + 1) σ := by
        refine ⟨?_, d2.sm s6, ?_, ?_, ?_, ?_, ?_, ?_, ?_, ?_, ?_, ?_, ?_, u7, u8, ?_, ?_⟩
        · refine d1.sm (S := fun a => a = t ∨ a = a6 ∨ a = a7 ∨ a = a8) ?_ (fun a z1 z2 => by omega) (fun a z1 z2 => by omega) (f1 0 (by omega) (by omega) (by omega))
          obtain ⟨z1, z2, z3, z4, z5, z6, z7⟩ := s6
          refine ⟨z1, z2, z3, z4, z5, fun a ha => n1 a (by omega) (by omega) (by omega) (by omega), fun a ha => ?_⟩
          rw [eg1]
          exact s1.J (by unfold inO; omega)
        · rw [eg1, I_nk (by omega), I_ne (by omega)]; exact s3
        · rw [eg1, I_eq]
        · intro u hu
          rw [n1 a5 (by omega) (by omega) (by omega) (by omega)]
          exact d5 u hu
        · obtain ⟨z1, z2, z3, z4, z5⟩ := s4
          refine ⟨z1, z2, fun i hi => ?_, fun i hi => ?_, z5⟩
          · rw [eg1, I_ne (by omega), I_ne (by omega)]; exact z3 i hi
          · rw [eg1, I_ne (by omega), I_ne (by omega)]; exact z4 i hi
        · intro i hi
          rw [eg1, I_ne (by omega), I_at]
          by_cases e : i = σ
          · rw [if_pos e]
            (try dsimp only)
            rw [if_pos e]
            exact ⟨rfl, hV0⟩
          · rw [if_neg e]
            (try dsimp only)
            rw [if_neg e, s1.I (by unfold inO; omega)]
            exact d7 i (by omega)
        · intro i hi j hj q
          (try dsimp only at q)
          by_cases e1 : i = σ <;> by_cases e2 : j = σ
          · omega
          · rw [if_pos e1, if_neg e2] at q; exact absurd q.symm (u2 j (by omega) 0 hw0)
          · rw [if_neg e1, if_pos e2] at q; exact absurd q (u2 i (by omega) 0 hw0)
          · rw [if_neg e1, if_neg e2] at q; exact u1 i (by omega) j (by omega) q
        · intro i hi j hj q
          (try dsimp only at q)
          obtain ⟨i', z1, z2, z3⟩ := (s5 (V2 j)).mp ⟨j, hj, rfl⟩
          by_cases e1 : i = σ
          · rw [if_pos e1, ← z3] at q
            have := d6.2.1 0 hw0 i' z2 q
            omega
          · rw [if_neg e1, ← z3] at q
            exact u2 i (by omega) i' z2 q
        · intro u hu
          rw [u3 u hu, s5 u]
          constructor
          · rintro (⟨i, z1, z2⟩ | ⟨j, z1, z2⟩)
            · exact Or.inl ⟨i, by omega, by (try dsimp only); rw [if_neg (by omega)]; exact z2⟩
            · by_cases e : j = 0
              · exact Or.inl ⟨σ, by omega, by (try dsimp only); rw [if_pos rfl, ← e]; exact z2⟩
              · exact Or.inr ⟨j, by omega, z1, z2⟩
          · rintro (⟨i, z1, z2⟩ | ⟨j, z1, z2, z3⟩)
            · (try dsimp only at z2)
              by_cases e : i = σ
              · rw [if_pos e] at z2; exact Or.inr ⟨0, hw0, z2⟩
              · rw [if_neg e] at z2; exact Or.inl ⟨i, by omega, z2⟩
            · exact Or.inr ⟨j, z2, z3⟩
        · intro i j z1 z2
          (try dsimp only)
          rw [if_neg (show ¬ i = σ by omega)]
          by_cases e : j = σ
          · rw [if_pos e]; exact u5 i (by omega) 0 hw0
          · rw [if_neg e]; exact u4 i j z1 (by omega)
        · intro i hi j hj
          (try dsimp only)
          obtain ⟨i', z1, z2, z3⟩ := (s5 (V2 j)).mp ⟨j, hj, rfl⟩
          rw [← z3]
          by_cases e : i = σ
          · rw [if_pos e]; exact hmin i' z2
          · rw [if_neg e]; exact u5 i (by omega) i' z2
        · intro i hi v c hm
          (try dsimp only at hm ⊢)
          rw [if_neg (by omega)] at hm ⊢
          exact u6 i hi v c hm
        · intro i hi
          (try dsimp only)
          by_cases e : i = σ
          · rw [if_pos e, e]; exact u10 0 hw0
          · rw [if_neg e]; exact u9 i (by omega)
        · intro j hj
          obtain ⟨i', z1, z2, z3⟩ := (s5 (V2 j)).mp ⟨j, hj, rfl⟩
          rw [← z3]
          exact Nat.le_trans (u10 i' z2) (Nat.mul_le_mul_right _ (by omega))
      have hs0 : St (aN M) (nI (V 0)) := ⟨V 0, hV0, rfl⟩
      refine S41 hw D1.1 hs0 (fun g2 s7 s8 s9 => ?_)
      have D2 : DJ g2 t tm M big cw a5 a6 a7 a8 k V2 (fun i => if i = σ then V 0 else od i) (w - 1) (σ + 1) σ := D1.sm s7 (fun a z1 z2 => by unfold inMv; omega) (fun a z1 z2 => by unfold inMv; omega) (by unfold inMv; omega) (fun j hj => s8 j (by omega))
      have s10 : Sm (inL t a5 a6 a7 a8) h g2 := s6.trans (s7.mono (fun a z => Or.inl z))
      have f2 : fKeep h g2 t := fun j j1 j2 j3 => (s8 j j3).trans (f1 j j1 j2 j3)
      have hlen := mvs_len (M := M) (big := big) (cw := cw) (s := nI (V 0)) hw
      obtain ⟨m0, hm0⟩ := u7 (V 0) hV0 hkF
      have kV0 := u10 0 hw0
      have hmul : (σ + 1) * 405505 ≤ 4096 * 405505 := Nat.mul_le_mul_right _ (by omega)
      unfold B37_103
      refine LFP.up (mvs M big cw (nI (V 0))).length (fun j q => q.1 = nI j ∧ ∃ k' V' w', Sm (inL t a5 a6 a7 a8) h q.2 ∧ fKeep h q.2 t ∧ LRow q.2 t (mvs M big cw (nI (V 0))) ∧ DJ q.2 t tm M big cw a5 a6 a7 a8 k' V' (fun i => if i = σ then V 0 else od i) w' (σ + 1) σ ∧ (∀ i m, i < j → (mvs M big cw (nI (V 0)))[i]? = some m → k' (ix m.1) ≤ k (V 0) + m.2.1) ∧ ∀ i, i < σ + 1 → k' (if i = σ then V 0 else od i) = k (if i = σ then V 0 else od i)) ?_ ?_ (Nat.zero_le _) ⟨rfl, k, V2, w - 1, s10, f2, s9, D2, fun i m hi => absurd hi (Nat.not_lt_zero _), fun _ _ => rfl⟩
      · rintro X j ⟨x2, g3⟩ hj ⟨y1, k', V', w', y2, y3, y4, y5, y6, y7⟩ ih
        (try dsimp only at y1 y2 y3 y4 y5)
        subst y1
        obtain ⟨m, hm⟩ : ∃ m, (mvs M big cw (nI (V 0)))[j]? = some m := ⟨_, List.getElem?_eq_getElem hj⟩
        obtain ⟨m1, m2, m3⟩ := y4.2 j m hm
        have hmem := idx_mem hm
        obtain ⟨o1, o2, o3⟩ := mvs_ok hw hcw hs0 hmem
        obtain ⟨v, hv, ev⟩ := o1
        have kσ : k' (V 0) = k (V 0) := by have := y7 σ (by omega); rwa [if_pos rfl] at this
        have r5 := y5.2.1.1
        unfold F37_103
        (try dsimp only)
        rw [y4.1, if_neg (nI_ge hj (by omega)), ix_n (by omega), R_of r5, m1, m2, ix_n (by omega), (y5.2.2.2.2.1 _ hV0).1, kσ, nI_add, ev]
        refine ⟨inb_n (by omega), r5, y5.2.1.ok5 hV0, inb_n (by omega), ?_⟩
        refine S38 hw y5 hv ?_ ⟨m0 + 1, V 0, k (V 0), m.2.1, hm0, ⟨hv, m.2.2, ?_⟩, rfl⟩ (by omega) (by omega) (by omega) (fun h' k'' V'' w'' t1 t2 t3 t4 t5 t6 => ?_)
        · intro i hi
          (try dsimp only)
          rw [y7 i hi]
          by_cases e : i = σ
          · rw [if_pos e]; omega
          · rw [if_neg e]
            have := u5 i (by omega) 0 hw0
            omega
        · have : m = (nI v, m.2.1, m.2.2) := by rw [← ev]
          rw [← this]
          exact hmem
        · have t7 : Sm (inL t a5 a6 a7 a8) h h' := y2.trans (t1.mono (fun a z => by unfold inO at z; unfold inL inMv; omega))
          refine ih _ ⟨nI_1 j, k'', V'', w'', t7, fun i i1 i2 i3 => (t2 i i1).trans (y3 i i1 i2 i3), y4.sm t1 (by unfold inO; omega) (t2 15 (by omega)), t3, fun i m' hi hm' => ?_, fun i hi => ?_⟩
          · by_cases e : i = j
            · rw [e, hm] at hm'
              cases hm'
              rw [ev, ix_n (by omega)]
              exact t4
            · exact Nat.le_trans (t5 _) (y6 i m' (by omega) hm')
          · have := t6 i hi
            (try dsimp only at this)
            rw [this]
            exact y7 i hi
      · rintro X ⟨x2, g3⟩ ⟨y1, k', V', w', y2, y3, y4, y5, y6, y7⟩
        (try dsimp only at y1 y2 y3 y4 y5)
        subst y1
        unfold F37_103
        (try dsimp only)
        rw [y4.1, if_pos (nI_le (Nat.le_refl _) (by omega))]
        refine k1 hw0 g3 k' V' (fun i => if i = σ then V 0 else od i) w' y2 y3 ?_ (fun i hi => ?_) ?_ (fun i hi => y7 i hi)
        · obtain ⟨z1, z2, z3, z4, z5, z6, z7, v1, v2, v3, v4, v5, v6, v7⟩ := y5
          refine ⟨z1, z2, z3, z4, z5, z6, z7, v1, v2, v3, v4, v5, ?_, v7⟩
          intro i hi v c hm
          by_cases e : i = σ
          · (try dsimp only at hm ⊢)
            rw [if_pos e] at hm ⊢
            obtain ⟨hv, code, hmem⟩ := hm
            obtain ⟨i', hi', hm'⟩ := mem_idx hmem
            have := y6 i' _ hi' hm'
            (try dsimp only at this)
            rw [ix_n (by omega)] at this
            have kσ : k' (V 0) = k (V 0) := by have := y7 σ (by omega); rwa [if_pos rfl] at this
            rw [kσ]
            exact this
          · exact v6 i (by omega) v c hm
        · (try dsimp only)
          rw [if_neg (by omega)]
        · (try dsimp only)
          rw [if_pos rfl]
    have hw1 : nI w - 1 = nI (w - 1) := by
      obtain ⟨b, rfl⟩ : ∃ b, w = b + 1 := ⟨w - 1, by omega⟩
      rw [nI_pred, Nat.add_sub_cancel]
    simp only [R_sI, P_sI, I_eq]
    rw [hw1, R_of q6]
    by_cases e1 : w = 1
    · rw [if_pos (by rw [e1]; decide)]
      refine fin _ V (Sm.refl.sI (by unfold inO; omega) _) (fun j hj => I_nk hj) I_eq ⟨fun i hi => by omega, fun i hi => by omega, fun i hi => by omega, fun i hi => by omega, fun i h1 hi => by omega⟩ (fun z => ⟨fun ⟨i, z1, _⟩ => by omega, fun ⟨i, z1, z2, _⟩ => by omega⟩)
    · rw [if_neg (nI_nle (by omega) (by omega)), ix_n (by omega), I_ne (a := t) (by omega), d6.2.2.1 (w - 1) (by omega)]
      refine ⟨q6, q6, d2.ok6 (by omega), d2.ok6 (u := 0) (by omega), ?_⟩
      intro h1 eh1
      have hVl : V (w - 1) < 2 ^ aN M := d6.1 _ (by omega)
      have sh1 : Sm (inO t a6 a7 a7) h h1 := by rw [eh1]; exact (Sm.refl.sI (by unfold inO; omega) _).sI (by unfold inO; omega) _
      have r6 : h1.P t 6 = some a6 := by rw [sh1.P]; exact q6
      have r7 : h1.P t 7 = some a7 := by rw [sh1.P]; exact q7
      have r60 : h1.I a6 0 = nI (V (w - 1)) := by rw [eh1, I_eq]
      rw [R_of r6, R_of r7, r60, ix_n (by omega)]
      refine ⟨r7, r6, (d2.sm sh1).ok6 (u := 0) (by omega), (d2.sm sh1).ok7 hVl, ?_⟩
      have sh2 : Sm (inO t a6 a7 a7) h (h1.sI a7 (V (w - 1)) 0) := sh1.sI (by unfold inO; omega) _
      have i0 : ∀ i, i < w - 1 → ((fun i => if i = 0 then V (w - 1) else V i) i < 2 ^ aN M) := by
        intro i hi
        (try dsimp only)
        split
        · exact hVl
        · exact d6.1 i (by omega)
      refine S40 (n := aN M) (w := w - 1) (k := k) (V := fun i => if i = 0 then V (w - 1) else V i) (d2.sm sh2) h12 d1.1 ?_ ?_ (by omega) ?_ ⟨by omega, i0, ?_, ?_, ?_⟩ ?_ (fun h' V' s1 s2 s3 => ?_)
      · rw [I_ne (by omega), eh1, I_ne (by omega), I_eq]
      · intro u hu
        rw [I_ne (by omega), eh1, I_ne (by omega), I_ne (by omega)]
        exact d5 u hu
      · (try dsimp only)
        rw [if_pos rfl, I_ne (by omega), r60]
      · intro i hi j hj q
        (try dsimp only at q)
        by_cases e3 : i = 0 <;> by_cases e4 : j = 0
        · omega
        · rw [if_pos e3, if_neg e4] at q
          have := d6.2.1 (w - 1) (by omega) j (by omega) q
          omega
        · rw [if_neg e3, if_pos e4] at q
          have := d6.2.1 i (by omega) (w - 1) (by omega) q
          omega
        · rw [if_neg e3, if_neg e4] at q
          exact d6.2.1 i (by omega) j (by omega) q
      · intro i hi e3
        (try dsimp only)
        rw [if_neg e3, I_ne (by omega), eh1, I_nk e3, I_ne (by omega)]
        exact d6.2.2.1 i (by omega)
      · intro i hi e3
        (try dsimp only)
        rw [if_neg e3, I_nk (fun q => by have := d6.2.1 i (by omega) (w - 1) (by omega) q; omega), eh1, I_ne (by omega), I_ne (by omega)]
        exact d6.2.2.2.1 i (by omega)
      · intro i i1 i2 i3
        (try dsimp only)
        rw [if_neg i3, if_neg (show ¬ i = 0 by omega)]
        exact d6.2.2.2.2 i i1 (by omega)
      · have nt : ¬ in67 a6 a7 t := by unfold in67; omega
        refine fin h' V' (sh2.trans (s1.mono (fun a z => by unfold in67 at z; unfold inO; omega))) (fun j hj => ?_) ?_ s2 (fun z => ?_)
        · rw [s1.I nt, I_ne (by omega), eh1, I_ne (by omega), I_nk hj]
        · rw [s1.I nt, I_ne (by omega), eh1, I_ne (by omega), I_eq]
        · rw [s3 z]
          (try dsimp only)
          constructor
          · rintro ⟨i, z1, z2⟩
            by_cases e3 : i = 0
            · rw [if_pos e3] at z2; exact ⟨w - 1, by omega, by omega, z2⟩
            · rw [if_neg e3] at z2; exact ⟨i, by omega, by omega, z2⟩
          · rintro ⟨i, z1, z2, z3⟩
            by_cases e3 : i = w - 1
            · exact ⟨0, by omega, by rw [if_pos rfl, ← e3]; exact z3⟩
            · exact ⟨i, by omega, by rw [if_neg (by omega)]; exact z3⟩
end ST
