section MRJ
variable {h : TH} {M : Nat → Int32} {goal : Int32}
/-- the first state alone -/
theorem S309i {C : Int32 → TH → Prop} {a2 : Int32} (hw : Wf M) (hM : MA h M) (kk : ∀ g, Sm (fun a => a = 217) h g → is01 g 217 (aN M) → (∀ w, w < 2 ^ aN M → (g.I 217 w = 1 ↔ w = 0)) → B309_120 goal a2 1 1 g C) : B309_86 goal a2 0 h C := by
  have h12 := hw.n12
  have p12 := pow12 h12
  unfold B309_86
  refine LFP.up (2 ^ aN M) (fun j z => z.1 = nI j ∧ Sm (fun a => a = 217) h z.2 ∧ ∀ w, w < j → z.2.I 217 w = if w = 0 then 1 else 0) ?_ ?_ (Nat.zero_le _) ⟨rfl, Sm.refl, fun w hw => absurd hw (Nat.not_lt_zero _)⟩
  · rintro X j ⟨x3, g⟩ hj ⟨e1, e2, e3⟩ ih
    (try dsimp only at e1 e2 e3)
    subst e1
    unfold F309_86
    (try dsimp only)
    refine S248 hw (hM.sm e2 (by omega)) ?_
    rw [if_neg (nI_ge hj (by omega)), ix_n (by omega)]
    have go : ∀ v : Int32, v = (if j = 0 then 1 else 0) → X (nI j + 1, g.sI 217 j v) := by
      intro v hv
      refine ih _ ⟨nI_1 j, Sm.sI (S := fun a => a = 217) e2 rfl _, fun w hw' => ?_⟩
      (try dsimp only)
      rw [I_at]
      by_cases q : w = j
      · rw [if_pos q, q]; exact hv
      · rw [if_neg q]; exact e3 w (by omega)
    by_cases z : j = 0
    · rw [if_neg (fun q => q (by rw [z]; exact nI_0))]
      exact ⟨inb_n (by omega), go _ (by rw [if_pos z]; decide)⟩
    · rw [if_pos (nI_ne0 (by omega) (by omega))]
      exact ⟨inb_n (by omega), go _ (by rw [if_neg z]; decide)⟩
  · rintro X ⟨x3, g⟩ ⟨e1, e2, e3⟩
    (try dsimp only at e1 e2 e3)
    subst e1
    unfold F309_86
    (try dsimp only)
    refine S248 hw (hM.sm e2 (by omega)) ?_
    rw [if_pos (nI_le (Nat.le_refl _) (by omega))]
    refine kk g e2 (fun w hw' => ?_) (fun w hw' => ?_)
    · rw [e3 w hw']; split
      · exact Or.inr rfl
      · exact Or.inl rfl
    · rw [e3 w hw']
      by_cases q : w = 0
      · rw [if_pos q]; exact ⟨fun _ => q, fun _ => rfl⟩
      · rw [if_neg q]; exact ⟨fun y => absurd y (by decide), fun y => absurd y q⟩
theorem S309 {C : Int32 → TH → Prop} {x : Int32} (hw : Wf M) (hM : MA h M) (kno : (¬ St (aN M) goal ∨ x < nI 1 ∨ nI 4 < x) → C (-1) (h.sI 197 2 1)) (kk : ∀ g P r, rdKeep h g → St (aN M) goal → x = nI P → 1 ≤ P → P ≤ 4 → Rnd M (-1) P goal r → (∀ k, r = some k → k ≤ 4097) → C (match r with | none => (-1) | some p => nI p) (g.sI 197 2 (match r with | none => 6 | some _ => 0))) : W309 goal x h C := by
  have h12 := hw.n12
  have eN : h.I 198 (ix 0) = nI (aN M) := by rw [ix_0, hM 0 (by omega)]; exact hw.eN
  unfold W309
  refine S249 hw hM (fun hg => ?_) (fun hg => ?_)
  · rw [if_neg (by decide)]
    refine S215 1 4 (by omega) (by omega) rfl rfl (fun P hx h1 h4 => ?_) (fun q => ?_)
    · rw [if_pos (by decide)]
      by_cases z : goal = 0
      · rw [if_neg (fun q => q z)]
        refine kk h P (some 0) ⟨Sm.refl, fun _ _ => rfl⟩ hg hx h1 h4 ⟨⟨0, rfl, by rw [z]; exact sb_refl _⟩, fun k hk => absurd hk (Nat.not_lt_zero _)⟩ (fun k q => by cases q; omega)
      · rw [if_pos z]
        unfold B309_38
        refine LFP.up (aN M) (fun j y => y.1 = nI j ∧ y.2 = h) ?_ ?_ (Nat.zero_le _) ⟨rfl, rfl⟩
        · rintro X j ⟨x3, g⟩ hj ⟨e1, e2⟩ ih
          (try dsimp only at e1 e2)
          subst e1 e2
          unfold F309_38
          (try dsimp only)
          rw [eN, if_neg (nI_ge hj (by omega))]
          refine S250 j rfl hg (by omega) (by omega) (fun b => ?_) (fun b => ?_)
          · rw [if_neg (by decide)]
            refine S252 j hM rfl (by omega) ?_
            by_cases q : aPa M j = (-1)
            · rw [if_pos q]
              exact ih _ ⟨nI_1 j, rfl⟩
            · rw [if_neg q]
              refine kk g P none ⟨Sm.refl, fun _ _ => rfl⟩ hg hx h1 h4 (fun k ⟨s, w1, w2⟩ => ?_) (fun k q => absurd q (by simp))
              obtain ⟨_, b', _, _, b3, b4⟩ := Lv_made hw k s w1
              exact q (b4 j hj (b3 j (by omega) (w2 j (by omega) b))).1
          · rw [if_pos rfl]
            exact ih _ ⟨nI_1 j, rfl⟩
        · rintro X ⟨x3, g⟩ ⟨e1, e2⟩
          (try dsimp only at e1 e2)
          subst e1 e2
          unfold F309_38
          (try dsimp only)
          rw [eN, if_pos (nI_le (Nat.le_refl _) (by omega))]
          refine S263 hw hM 0 (by omega) rfl (fun g1 l1 l2 l3 => ?_)
          have hM1 : MA g1 M := hM.sm l1 (by unfold inFit; omega)
          refine S309i hw hM1 (fun g2 m1 m2 m3 => ?_)
          have hM2 : MA g2 M := hM1.sm m1 (by omega)
          rw [hx]
          have g0 : ¬ LvGo M (-1) P goal 0 := by
            rintro ⟨s, w1, w2⟩
            have w1 : s = 0 := w1
            rw [w1] at w2
            exact z (sb_anti w2 (sb_zero _))
          refine S309r hw hM2 (l3.sm m1 (by omega)) (by omega) g0 m2 m3 (fun g3 r n1 n2 n3 => ?_)
          refine kk g3 P r ⟨?_, fun j hj => ?_⟩ hg hx h1 h4 n2 n3
          · exact ((l1.mono (fun a z => by unfold inFit at z; unfold inRd; omega)).trans (m1.mono (fun a z => by unfold inRd; omega))).trans (n1.mono (fun a z => by unfold in217 at z; unfold inRd; omega))
          · rw [n1.I (by unfold in217; omega), m1.I (by omega), l2 j hj]
    · rw [if_neg (fun z => z rfl)]
      exact kno (Or.inr q)
  · rw [if_pos rfl]
    exact kno (Or.inl (fun z => hg.elim z.rng.1 z.rng.2))
end MRJ
