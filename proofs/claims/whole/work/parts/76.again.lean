section AG
variable {h : TH} {M : Nat → Int32} {goal : Int32}
/-- AGAIN: what one COOKING of each asks, at the reference -/
theorem S311 {C : Int32 → TH → Prop} (hw : Wf M) (hM : MA h M) (kno : ¬ St (aN M) goal → C 0 (h.sI 197 2 1)) (kk : ∀ a, St (aN M) goal → Clo M goal a → W263 0 (-1) h (fun h3 => W287 goal h3 (fun v4 h5 => if v4 = (-1) then (W204 6 h5 (fun v6 h7 => (v6 = 0 ∨ v6 = 1) ∧ C v6 h7)) else (if ¬ nI (onc M a (aN M)) = 0 then (W207 ((v4).toInt64) ((nI (onc M a (aN M))).toInt64) h5 (fun v8 h9 => (v8 = 0 ∨ v8 = 1) ∧ C v8 h9)) else (W204 6 h5 (fun v10 h11 => (v10 = 0 ∨ v10 = 1) ∧ C v10 h11)))))) : W311 goal h C := by
  have h12 := hw.n12
  have eN : h.I 198 (ix 0) = nI (aN M) := by rw [ix_0, hM 0 (by omega)]; exact hw.eN
  unfold W311
  refine S249 hw hM (fun hs => ?_) (fun hs => ?_)
  · rw [if_pos (by decide)]
    refine S265 hw hM hs (fun a ha => ?_)
    unfold B311_25
    refine LFP.up (aN M) (fun j z => z.1 = nI (onc M a j) ∧ z.2.1 = nI j ∧ z.2.2 = h) ?_ ?_ (Nat.zero_le _) ⟨rfl, rfl, rfl⟩
    · rintro X j ⟨x3, x4, g⟩ hj ⟨e1, e2, e3⟩ ih
      (try dsimp only at e1 e2 e3)
      subst e1 e2 e3
      unfold F311_25
      (try dsimp only)
      rw [eN, if_neg (nI_ge hj (by omega))]
      have no : ¬ (bt a j = true ∧ leads M j) → B311_76 goal a (nI j) (nI (onc M a j)) g C X := by
        intro q
        unfold B311_76 B311_77
        refine ih _ ⟨?_, nI_1 j, rfl⟩
        show _ = nI (if bt a j = true ∧ leads M j then onc M a j + ix (wP M j) else onc M a j)
        rw [if_neg q]
        exact nI_add _ 0
      have yes : bt a j = true → leads M j → B311_67 goal a (nI j) (nI (onc M a j)) g C X := by
        intro b l
        unfold B311_67
        refine S255 hw j hM rfl hj ?_
        unfold B311_77
        refine ih _ ⟨?_, nI_1 j, rfl⟩
        obtain ⟨w, w1, w2⟩ := hw.wPb hj
        show _ = nI (if bt a j = true ∧ leads M j then onc M a j + ix (wP M j) else onc M a j)
        rw [if_pos ⟨b, l⟩, w2, ix_n (by omega)]
        exact nI_add _ _
      refine S250 j rfl ha.1 (by omega) (by omega) (fun b => ?_) (fun b => ?_)
      · rw [if_neg (by decide)]
        refine S252 j hM rfl (by omega) ?_
        by_cases z : aPa M j = (-1)
        · rw [if_pos z]
          exact yes b (Or.inl z)
        · rw [if_neg z]
          refine S252 j hM rfl (by omega) ?_
          by_cases z2 : aPa M j ≤ nI j
          · rw [if_pos z2]
            exact no (fun q => q.2.elim z (fun y => absurd z2 (Int32.not_le.mpr y)))
          · rw [if_neg z2]
            exact yes b (Or.inr (Int32.not_le.mp z2))
      · rw [if_pos rfl]
        exact no (fun q => by rw [b] at q; exact absurd q.1 (by decide))
    · rintro X ⟨x3, x4, g⟩ ⟨e1, e2, e3⟩
      (try dsimp only at e1 e2 e3)
      subst e1 e2 e3
      unfold F311_25
      (try dsimp only)
      rw [eN, if_pos (nI_le (Nat.le_refl _) (by omega))]
      exact kk a hs ha
  · rw [if_neg (fun z => z rfl)]
    have := kno (fun z => hs.elim z.rng.1 z.rng.2)
    unfold W204
    rw [if_pos (by decide)]
    exact ⟨Or.inl rfl, this⟩
end AG
