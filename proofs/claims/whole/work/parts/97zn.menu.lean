/-! THE CLASS'S CALLS menu AND plan -/
section CMP
variable {h : TH} {T : Nat → Nat} {i y : Nat} {x : Int32}
theorem sncS_0 {t k : Nat} {M : Nat → Int32} {U : Int32} {A : Nat → Nat} : sncS h t M 0 U A k := fun d _ u => by rw [bt_0] at u; exact absurd u (by decide)
def inMn (i a : Nat) : Prop := a = 0 ∨ a = 9 ∨ 12 ≤ a ∧ a < 31 ∨ 43 + 24 * i ≤ a ∧ a < 67 + 24 * i
theorem pk_x (x : Int32) (y : Nat) (hy : y ≤ 900) : (x < 0 ∨ ¬ x ≤ nI y) ∨ ∃ z, z ≤ y ∧ x = nI z := by
  by_cases q : x < 0
  · exact Or.inl (Or.inl q)
  · by_cases w : x ≤ nI y
    · obtain ⟨z, hz, e⟩ := nI_of q
      rw [e] at w
      exact Or.inr ⟨z, (nI_leI hz (by omega)).mp w, e⟩
    · exact Or.inl (Or.inr w)
theorem S159 {C : Int32 → TH → Prop} (hi : i < 4) (cur : h.I 0 10 = nI i) (hy : y ≤ 900) (h1 : h.I 9 1 = nI y) (hb : ∀ k, k < y → h.I 10 k = nI (T k)) (hT : ∀ k, k < y → T k < 256) (h11 : ∀ x, x < 23 → h.J 11 x = lN (cod 32 96 (wC x))) (kb : (x < 0 ∨ ¬ x ≤ nI y) → C (-1) (h.sI 0 0 1)) (kf : ∀ z, z ≤ y → x = nI z → ∀ g e, pMenu T z 901 s00 = .inl e → Sm (fun a => a = 0 ∨ a = 9 ∨ 12 ≤ a ∧ a < 31) h g → CFt g e → g.I 9 1 = 0 → g.I 0 0 = 9 → (∀ j, j ≠ 0 → g.I 0 j = h.I 0 j) → g.I 15 = h.I 15 → C (-1) g) (kt : ∀ z, z ≤ y → x = nI z → ∀ g s', pMenu T z 901 s00 = .inr s' → Sm (inMn i) h g → Wf s'.2.1 → CM g (43 + 24 * i) s'.2.1 → NmC g (43 + 24 * i) s'.2.2 (aN s'.2.1) → g.I (43 + 24 * i) 0 = h.I 15 2 + 1 → g.I 15 2 = h.I 15 2 + 1 → (∀ j, j ≠ 2 → g.I 15 j = h.I 15 j) → HCs g (65 + 24 * i) s'.2.1 0 0 0 0 (fun _ => 0) → g.I (58 + 24 * i) 0 = 0 → okF g → g.I 9 1 = 0 → g.I 0 0 = 0 → (∀ j, j ≠ 0 → g.I 0 j = h.I 0 j) → C (s'.2.1 0) g) : W159 x h C := by
  unfold W159 W194
  rcases pk_x x y hy with q | ⟨z, hz, rfl⟩
  · rw [h1]
    by_cases w : x < 0
    · rw [if_pos w]; exact kb q
    · rw [if_neg w, if_neg (by rcases q with q | q; exact absurd q w; exact q)]
      exact kb q
  · rw [if_neg (nI_pos (by omega)), h1, if_pos (nI_le hz (by omega))]
    refine S76 (y := y) hy hz h1 (fun k hk => hb k (by omega)) (fun k hk => hT k (by omega)) h11 (fun g s' e sm W cm nm ok g16 g15 g15o => ?_) (fun g e e1 sm cf g15 => ?_)
    · unfold W125
      (try dsimp only)
      rw [if_pos (by decide)]
      have sm1 : Sm inMM h (g.sI 9 1 0) := Sm.sI (S := inMM) sm (Or.inl rfl) _
      have cur1 : (g.sI 9 1 0).I 0 10 = nI i := by rw [I_ne (by decide), sm.I (by unfold inMM; omega)]; exact cur
      have cm1 : CM (g.sI 9 1 0) 16 s'.2.1 := cm.frame (fun a a1 a2 => by funext j; rw [I_ne (by omega)])
      have nm1 : NmC (g.sI 9 1 0) 16 s'.2.2 (aN s'.2.1) := fun j hj => nm j hj
      have ok1 : okF (g.sI 9 1 0) := ⟨by rw [I_nk (by decide)]; exact ok.1, by rw [I_nk (by decide)]; exact ok.2⟩
      have g91 : (g.sI 9 1 0).I 9 1 = 0 := I_eq
      have g161 : (g.sI 9 1 0).I 16 0 = h.I 15 2 + 1 := by rw [I_ne (by decide)]; exact g16
      have g151 : (g.sI 9 1 0).I 15 2 = h.I 15 2 + 1 := by rw [I_ne (by decide)]; exact g15
      have g151o : ∀ j, j ≠ 2 → (g.sI 9 1 0).I 15 j = h.I 15 j := fun j hj => by rw [I_ne (by decide)]; exact g15o j hj
      generalize g.sI 9 1 0 = G at sm1 cur1 cm1 nm1 ok1 g91 g161 g151 g151o ⊢
      refine W192_i hi cur1 ?_
      refine S53 (Or.inl (by omega)) (by omega) (fun g2 s2 c0 cj cr c8 c12 cq => ?_)
      have cm2 : CM g2 (43 + 24 * i) s'.2.1 := CM_copy W cm1 c0 cr c8 c12 cq
      have h12 := W.n12
      have nm2 : NmC g2 (43 + 24 * i) s'.2.2 (aN s'.2.1) := fun j hj => by rw [cj j (by omega)]; exact nm1 j hj
      have o2 : ∀ b, ¬ (43 + 24 * i ≤ b ∧ b < 43 + 24 * i + 15) → g2.I b = G.I b := fun b hb => s2.I hb
      have cur2 : g2.I 0 10 = nI i := by rw [o2 0 (by omega)]; exact cur1
      rw [cur2, ix_n (by omega)]
      refine ⟨inb_n hi, S14 (fun g3 s3 z3 z36 zo3 => ?_)⟩
      have cur3 : g3.I 0 10 = nI i := by rw [s3.I (by omega)]; exact cur2
      rw [cur3, ix_n (by omega)]
      refine ⟨inb_n hi, ?_⟩
      unfold W88
      (try dsimp only)
      have sm4 : Sm (fun a => a = 58 + 24 * i) g3 ((g3.sI (58 + 24 * i) 0 0).sI (58 + 24 * i) 1 0) := Sm.sI (S := fun a => a = 58 + 24 * i) (Sm.sI (S := fun a => a = 58 + 24 * i) Sm.refl rfl _) rfl _
      have p40 : ((g3.sI (58 + 24 * i) 0 0).sI (58 + 24 * i) 1 0).I (58 + 24 * i) 0 = 0 := by rw [I_nk (by decide), I_eq]
      generalize (g3.sI (58 + 24 * i) 0 0).sI (58 + 24 * i) 1 0 = H at sm4 p40 ⊢
      have oH : ∀ b, b ≠ 58 + 24 * i → b ≠ 65 + 24 * i → H.I b = g2.I b := fun b h1 h2 => by rw [sm4.I h1, s3.I h2]
      refine W192_i hi (by rw [oH 0 (by omega) (by omega)]; exact cur2) ?_
      unfold W193
      have eN : H.I (43 + 24 * i) 1 = s'.2.1 0 := by rw [oH _ (by omega) (by omega), cm2.r.n]; exact W.eN.symm
      rw [eN]
      have n0 : ∀ b, b ≠ 0 → ∀ j, (H.sI 0 0 0).I b j = H.I b j := fun b hb j => I_ne hb
      refine kt z hz rfl _ s' e (Sm.sI (S := inMn i) (((sm1.mono (fun a ha => by unfold inMM at ha; unfold inMn; omega)).trans (s2.mono (fun a ha => by unfold inMn; omega))).trans ((s3.mono (fun a ha => by unfold inMn; omega)).trans (sm4.mono (fun a ha => by unfold inMn; omega)))) (Or.inl rfl) _) W (cm2.frame (fun a a1 a2 => by funext j; rw [n0 a (by omega), oH a (by omega) (by omega)])) (fun j hj => ?_) ?_ ?_ (fun j hj => ?_) ⟨?_, ?_, ?_, ?_, ?_, sncS_0⟩ ?_ ⟨?_, ?_⟩ ?_ I_eq (fun j hj => ?_)
      · show H.J (43 + 24 * i + 1) j = _ ∧ _
        rw [sm4.J (by omega), s3.J (by omega)]; exact nm2 j hj
      · rw [n0 _ (by omega), oH _ (by omega) (by omega), c0 0 (by omega)]; exact g161
      · rw [n0 _ (by omega), oH _ (by omega) (by omega), o2 15 (by omega)]; exact g151
      · rw [n0 _ (by omega), oH _ (by omega) (by omega), o2 15 (by omega)]; exact g151o j hj
      · rw [n0 _ (by omega), sm4.I (by omega)]; exact z3 0 (by decide) (by decide) (by decide)
      · rw [n0 _ (by omega), sm4.I (by omega)]; exact z3 1 (by decide) (by decide) (by decide)
      · rw [n0 _ (by omega), sm4.I (by omega)]; exact z3 3 (by decide) (by decide) (by decide)
      · rw [n0 _ (by omega), sm4.I (by omega)]; exact z3 4 (by decide) (by decide) (by decide)
      · rw [n0 _ (by omega), sm4.I (by omega)]; exact z3 10 (by decide) (by decide) (by decide)
      · rw [n0 _ (by omega)]; exact p40
      · rw [n0 _ (by omega), oH _ (by omega) (by omega), o2 9 (by omega)]; exact ok1.1
      · rw [n0 _ (by omega), oH _ (by omega) (by omega), o2 9 (by omega)]; exact ok1.2
      · rw [n0 _ (by omega), oH _ (by omega) (by omega), o2 9 (by omega)]; exact g91
      · rw [I_nk hj, oH 0 (by omega) (by omega), o2 0 (by omega), sm1.I (by unfold inMM; omega)]
    · unfold W125
      (try dsimp only)
      rw [if_neg (fun n => n rfl)]
      refine kf z hz rfl _ e e1 (Sm.sI (S := fun a => a = 0 ∨ a = 9 ∨ 12 ≤ a ∧ a < 31) (Sm.sI (S := fun a => a = 0 ∨ a = 9 ∨ 12 ≤ a ∧ a < 31) (sm.mono (fun a ha => by unfold inMM at ha; omega)) (Or.inr (Or.inl rfl)) _) (Or.inl rfl) _) ⟨by rw [I_ne (by decide), I_nk (by decide)]; exact cf.1, by rw [I_ne (by decide), I_nk (by decide)]; exact cf.2⟩ (by rw [I_ne (by decide), I_eq]) I_eq (fun j hj => by rw [I_nk hj, I_ne (by decide), sm.I (by unfold inMM; omega)]) (by funext j; rw [I_ne (by decide), I_ne (by decide), g15])
end CMP
