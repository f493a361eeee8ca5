/-! THE CLASS'S CALL plan -/
def inPn (i a : Nat) : Prop := a = 0 ∨ a = 9 ∨ 12 ≤ a ∧ a < 15 ∨ 31 ≤ a ∧ a < 40 ∨ 58 + 24 * i ≤ a ∧ a < 63 + 24 * i
section CPP
variable {h : TH} {T : Nat → Nat} {i y n0 : Nat} {x : Int32} {N : Nat → List Nat} {Mb : Nat → Int32}
theorem S160 {C : Int32 → TH → Prop} (hi : i < 4) (cur : h.I 0 10 = nI i) (hy : y ≤ 900) (h1 : h.I 9 1 = nI y) (hb : ∀ k, k < y → h.I 10 k = nI (T k)) (hT : ∀ k, k < y → T k < 256) (h11 : ∀ x, x < 23 → h.J 11 x = lN (cod 32 96 (wC x))) (cm : CMn h (43 + 24 * i) N n0) (kb : (x < 0 ∨ ¬ x ≤ nI y ∨ ¬ x ≤ 300) → C (-1) (h.sI 0 0 1)) (kf : ∀ z, z ≤ y → z ≤ 300 → x = nI z → ∀ g e, qth (qPlan T z N n0 901 (q00 Mb)) (qEnd T z) = .inl e → Sm (inPn i) h g → CFt g e → g.I 9 1 = 0 → g.I 0 0 = 9 → (∀ j, j ≠ 0 → g.I 0 j = h.I 0 j) → (∀ a, 58 + 24 * i ≤ a → a < 63 + 24 * i → g.I a = h.I a) → C (-1) g) (kt : ∀ z, z ≤ y → z ≤ 300 → x = nI z → ∀ g s', qPlan T z N n0 901 (q00 Mb) = .inr s' → s'.2.2.2 = [] → Sm (inPn i) h g → PI s'.2.1 n0 s'.2.2.1 [] → CPl g (58 + 24 * i) s'.2.1 s'.2.2.1 [] → g.I (58 + 24 * i) 0 = 1 → g.I (58 + 24 * i) 1 = nI s'.2.2.1 → okF g → g.I 9 1 = 0 → g.I 0 0 = 0 → (∀ j, j ≠ 0 → g.I 0 j = h.I 0 j) → C (nI s'.2.2.1) g) : W160 x h C := by
  unfold W160 W194
  rcases pk_x x y hy with q | ⟨z, hz, rfl⟩
  · rw [h1]
    by_cases w : x < 0
    · rw [if_pos w]; exact kb (Or.inl w)
    · have q' : ¬ x ≤ nI y := by rcases q with q | q; exact absurd q w; exact q
      rw [if_neg w, if_pos (show nI y < x from Int32.not_le.mp q')]
      exact kb (Or.inr (Or.inl q'))
  · rw [if_neg (nI_pos (by omega)), h1, if_neg (nI_nlt hz (by omega))]
    by_cases z3 : z ≤ 300
    · rw [if_pos (show nI z ≤ 300 from nI_le (b := 300) z3 (by omega))]
      refine W192_i hi cur ?_
      refine S100 (M := Mb) (y := y) hy hz h1 (fun k hk => hb k (by omega)) (fun k hk => hT k (by omega)) h11 cm (fun g s' e est sm pi cp g0 g1 ok => ?_) (fun g e e1 sm cf => ?_)
      · unfold W125
        (try dsimp only)
        rw [if_pos (by decide)]
        have sm1 : Sm inPP h (g.sI 9 1 0) := Sm.sI (S := inPP) sm (Or.inl rfl) _
        have cur1 : (g.sI 9 1 0).I 0 10 = nI i := by rw [I_ne (by decide), sm.I (by unfold inPP; omega)]; exact cur
        have cp1 : CPl (g.sI 9 1 0) 32 s'.2.1 s'.2.2.1 [] := CPl_fr cp (fun a a1 a2 => by funext j; rw [I_ne (by omega)])
        have ok1 : okF (g.sI 9 1 0) := ⟨by rw [I_nk (by decide)]; exact ok.1, by rw [I_nk (by decide)]; exact ok.2⟩
        have g91 : (g.sI 9 1 0).I 9 1 = 0 := I_eq
        have g01 : (g.sI 9 1 0).I 32 0 = 1 := by rw [I_ne (by decide)]; exact g0
        have g11 : (g.sI 9 1 0).I 32 1 = nI s'.2.2.1 := by rw [I_ne (by decide)]; exact g1
        generalize g.sI 9 1 0 = G at sm1 cur1 cp1 ok1 g91 g01 g11 ⊢
        rw [cur1, ix_n (by omega)]
        refine ⟨inb_n hi, S89 (Or.inl (by omega)) (Or.inr g01) (fun g2 s2 b0 b1 bo br => ?_)⟩
        have o2 : ∀ b, ¬ (58 + 24 * i ≤ b ∧ b < 58 + 24 * i + 5) → g2.I b = G.I b := fun b hb => s2.I hb
        have cur2 : g2.I 0 10 = nI i := by rw [o2 0 (by omega)]; exact cur1
        rw [cur2, ix_n (by omega), b1, g11]
        refine ⟨inb_n hi, ?_⟩
        unfold W193
        refine kt z hz z3 rfl _ s' e est (Sm.sI (S := inPn i) ((sm1.mono (fun a ha => by unfold inPP at ha; unfold inPn; omega)).trans (s2.mono (fun a ha => by unfold inPn; omega))) (Or.inl rfl) _) pi (CPl_fr (CPl_copy pi cp1 br) (fun a a1 a2 => by funext j; rw [I_ne (by omega)])) ?_ ?_ ⟨?_, ?_⟩ ?_ I_eq (fun j hj => ?_)
        · rw [I_ne (by omega), b0]; exact g01
        · rw [I_ne (by omega), b1]; exact g11
        · rw [I_ne (by omega), o2 9 (by omega)]; exact ok1.1
        · rw [I_ne (by omega), o2 9 (by omega)]; exact ok1.2
        · rw [I_ne (by omega), o2 9 (by omega)]; exact g91
        · rw [I_nk hj, o2 0 (by omega), sm1.I (by unfold inPP; omega)]
      · unfold W125
        (try dsimp only)
        rw [if_neg (fun n => n rfl)]
        refine kf z hz z3 rfl _ e e1 (Sm.sI (S := inPn i) (Sm.sI (S := inPn i) (sm.mono (fun a ha => by unfold inPP at ha; unfold inPn; omega)) (Or.inr (Or.inl rfl)) _) (Or.inl rfl) _) ⟨by rw [I_ne (by decide), I_nk (by decide)]; exact cf.1, by rw [I_ne (by decide), I_nk (by decide)]; exact cf.2⟩ (by rw [I_ne (by decide), I_eq]) I_eq (fun j hj => by rw [I_nk hj, I_ne (by decide), sm.I (by unfold inPP; omega)]) (fun a a1 a2 => by funext j; rw [I_ne (by omega), I_ne (by omega), sm.I (by unfold inPP; omega)])
    · rw [if_neg (show ¬ nI z ≤ 300 from nI_ge (a := 300) (by omega) (by omega))]
      exact kb (Or.inr (Or.inr (nI_ge (a := 300) (by omega) (by omega))))
end CPP
