/-! THE CLASS READS A STEP, an END -/
section CP3
variable {h : TH} {T : Nat → Nat} {z m a1 : Nat} {N : Nat → List Nat} {n0 : Nat} {s : QS}
theorem ck_st : ∀ w, w < 23 → 10 ≤ w → nI (ck w) = nI w := by decide +kernel
theorem rev_top {o : Nat} {r : List Nat} : (o :: r).reverse[r.length]? = some o := by
  rw [List.reverse_cons, List.getElem?_append_right (by simp)]
  simp
theorem rev_old {o : Nat} {r : List Nat} {j x : Nat} (h : r.reverse[j]? = some x) : (o :: r).reverse[j]? = some x := by
  have hj : j < r.reverse.length := by
    apply Classical.byContradiction
    intro w
    rw [List.getElem?_eq_none (by omega)] at h; cases h
  rw [List.reverse_cons, List.getElem?_append_left hj]; exact h
theorem rev_new {o : Nat} {r : List Nat} {j x : Nat} (h : (o :: r).reverse[j]? = some x) : (j < r.length ∧ r.reverse[j]? = some x) ∨ (j = r.length ∧ x = o) := by
  rw [List.reverse_cons] at h
  by_cases w : j < r.length
  · left; rw [List.getElem?_append_left (by simpa using w)] at h; exact ⟨w, h⟩
  · right
    rw [List.getElem?_append_right (by simp; omega)] at h
    simp at h
    obtain ⟨h1, h2⟩ := List.getElem?_eq_some_iff.mp h
    simp at h1
    refine ⟨by omega, ?_⟩
    have : j - r.length = 0 := by omega
    simp [this] at h2
    exact h2.symm
theorem S90 {C : Int32 → TH → Prop} {cn : Nat} {x : Int32} (c30 : cn < 30) (e32 : h.I 32 1 = nI cn) (k : ∀ H, Sm inP h H → H.I 33 cn = x → H.I 32 1 = nI (cn + 1) → (∀ b j, b ≠ 32 → (b < 33 ∨ 36 < b ∨ j ≠ cn) → H.I b j = h.I b j) → H.J 14 = h.J 14 → C (nI cn) H) : W90 32 x (-1) (-1) h C := by
  unfold W90
  rw [e32, show (29 : Int32) = nI 29 from rfl, imin_n (by omega) (by omega), Nat.min_eq_left (by omega), ix_n (by omega), nI_1]
  refine ⟨inb_n c30, inb_n c30, inb_n c30, fun h1 eh => ⟨inb_n c30, ?_⟩⟩
  have s1 : Sm inP h h1 := by rw [eh]; exact Sm.sI (S := inP) (Sm.sI (S := inP) (Sm.sI (S := inP) Sm.refl (by unfold inP; omega) _) (by unfold inP; omega) _) (by unfold inP; omega) _
  have a1 : h1.I 33 cn = x := by rw [eh, I_ne (by decide), I_ne (by decide), I_eq]
  have a2 : ∀ b j, (b < 33 ∨ 35 < b ∨ j ≠ cn) → h1.I b j = h.I b j := fun b j hb => by rw [eh, I_sI, if_neg (by omega), I_sI, if_neg (by omega), I_sI, if_neg (by omega)]
  have a3 : h1.J 14 = h.J 14 := by rw [eh]; rfl
  refine k _ (Sm.sI (S := inP) (Sm.sI (S := inP) s1 (by unfold inP; omega) _) (by unfold inP; omega) _) ?_ I_eq (fun b j b1 b2 => ?_) a3
  · rw [I_ne (by decide), I_ne (by decide)]; exact a1
  · rw [I_ne b1, I_sI, if_neg (by omega)]; exact a2 b j (by omega)
theorem S102r {C : Int32 → TH → Prop} {w : Nat} {G : TH} (c : CPs h T z m a1 N n0 s) (hst : isSt w) (c30 : s.2.2.1 < 30) (eS : qStep T z N n0 s = qth (qRest T z N n0 w (qn s.2.1) (qRow w s)) (fun r => qSemi T z (qOpen w (qn s.2.1) r))) (smG : Sm inP h G) (ctG : CTT G T z m (s.1 + 1)) (oG : okF G) (G33 : G.I 33 s.2.2.1 = nI w) (G32 : G.I 32 1 = nI (s.2.2.1 + 1)) (GO : ∀ b j, b ≠ 9 → b ≠ 32 → b ≠ 31 → b ≠ 39 → (b < 33 ∨ 36 < b ∨ j ≠ s.2.2.1) → G.I b j = h.I b j) (Gop : (w = 16 ∨ w = 20) → G.I 31 3 = nI (s.2.2.2.length + 1) ∧ G.I 39 s.2.2.2.length = nI s.2.2.1 ∧ ∀ j, j < s.2.2.2.length → G.I 39 j = h.I 39 j) (Gno : ¬ (w = 16 ∨ w = 20) → G.I 31 3 = nI s.2.2.2.length ∧ ∀ j, G.I 39 j = h.I 39 j) (k1 : ∀ g s', qStep T z N n0 s = .inr s' → Sm inP h g → CPs g T z m a1 N n0 s' → C 1 g) (k0 : ∀ g e, qStep T z N n0 s = .inl e → Sm inP h g → CFt g e → C 0 g) : B102_133 a1 (nI s.2.2.1) G C := by
  obtain ⟨ct, p, e32, e31, e39, cpl, o, cm⟩ := c
  have n60 := p.n60
  obtain ⟨p2, p3, p4⟩ := p.2.1
  have w23 : w < 23 ∧ w ≠ 21 := by unfold isSt at hst; omega
  unfold B102_133
  have rK : kK (qRow w s).2.1 (qn s.2.1) = nI w := qRow_f (f := 0) (by omega)
  refine S104 (r := qRow w s) (k := qn s.2.1) hst c30 ctG oG (CMn_sm cm smG) G33 rK (fun g r' e sm t o' fr cr => ?_) (fun g e e1 sm pf => ?_)
  · rw [if_neg (by decide)]
    obtain ⟨b1, b2, b3, b4, b5⟩ := qRest_in e hst rK
    have eR : qStep T z N n0 s = qSemi T z (qOpen w (qn s.2.1) r') := by rw [eS]; exact qth_i e
    have i1 : (qOpen w (qn s.2.1) r').1 = r'.1 := by unfold qOpen; split <;> rfl
    have i2 : (qOpen w (qn s.2.1) r').2.1 = r'.2.1 := by unfold qOpen; split <;> rfl
    have ec : r'.2.2.1 = s.2.2.1 + 1 := by rw [b1]; unfold qRow; show (if w = 21 then _ else _) = _; rw [if_neg w23.2]
    have es : r'.2.2.2 = s.2.2.2 := by rw [b1]; rfl
    have i3 : (qOpen w (qn s.2.1) r').2.2.1 = s.2.2.1 + 1 := by rw [← ec]; unfold qOpen; split <;> rfl
    have eqn : qn r'.2.1 = qn s.2.1 + 1 := by show ix (r'.2.1 6) = _; rw [b2 6 (by omega), qRow_6, ix_n (by omega)]
    have hM : ∀ j, 124 ≤ j → j < 124 + 5 * qn s.2.1 → r'.2.1 j = s.2.1 j := fun j h1 h2 => by rw [b2 j (by omega)]; exact qRow_o (by omega) (by omega)
    have hcc : ∀ k, k ≤ qn s.2.1 → cc r'.2.1 (s.2.2.1 + 1) k = cc s.2.1 s.2.2.1 k := fun k hk => by
      unfold cc
      by_cases u : k < qn s.2.1
      · rw [if_pos (by omega), if_pos u]; unfold kC; rw [hM _ (by omega) (by omega)]
      · have ek : k = qn s.2.1 := by omega
        rw [if_pos (by omega), if_neg u, ek]
        show ix (r'.2.1 (124 + 5 * qn s.2.1 + 4)) = _
        rw [b2 _ (by omega), qRow_f (f := 4) (by omega)]
        exact ix_n (by omega)
    refine S137 (w := 33) t (by omega) (by omega) (fun q33 g6 s6 t6 f6 => ?_) (fun q33 g6 s6 f6 p6 => ?_)
    · rw [if_neg (by decide)]
      have eR2 : qStep T z N n0 s = .inr ((qOpen w (qn s.2.1) r').1 + 1, (qOpen w (qn s.2.1) r').2) := by rw [eR]; unfold qSemi; rw [if_pos (by rw [i1]; exact q33)]
      have pi := (qStep_PI eR2 p).1
      have smF : Sm inP h g6 := (smG.trans sm).trans (p9 s6)
      refine k1 g6 _ eR2 smF ⟨by rw [i1]; exact t6, pi, ?_, ?_, ?_, ?_, okF_9 o' f6, CMn_sm cm smF⟩
      · show g6.I 32 1 = nI (qOpen w (qn s.2.1) r').2.2.1
        rw [i3, s6.I (by decide), fr 32 1 (by omega) (by omega)]; exact G32
      · show g6.I 31 3 = nI (qOpen w (qn s.2.1) r').2.2.2.length
        rw [s6.I (by decide), fr 31 3 (by omega) (by omega)]
        by_cases v : w = 16 ∨ w = 20
        · rw [(Gop v).1]; unfold qOpen; rw [if_pos v]; show _ = nI (qn s.2.1 :: r'.2.2.2).length; rw [es]; rfl
        · rw [(Gno v).1]; unfold qOpen; rw [if_neg v, es]
      · intro j x hx'
        have hx2 : (qOpen w (qn s.2.1) r').2.2.2.reverse[j]? = some x := hx'
        show g6.I 39 j = nI (cc (qOpen w (qn s.2.1) r').2.1 (qOpen w (qn s.2.1) r').2.2.1 x)
        rw [i2, i3, s6.I (by decide), fr 39 j (by omega) (by omega)]
        by_cases v : w = 16 ∨ w = 20
        · have e9 : (qOpen w (qn s.2.1) r').2.2.2 = qn s.2.1 :: s.2.2.2 := by unfold qOpen; rw [if_pos v]; show qn s.2.1 :: r'.2.2.2 = _; rw [es]
          rw [e9] at hx2
          rcases rev_new hx2 with ⟨j1, j2⟩ | ⟨j1, j2⟩
          · have hxm : x ∈ s.2.2.2 := by
              have := List.mem_of_getElem? j2
              simpa using this
            have := (p.2.2.2.2.2.1 x hxm).1
            rw [(Gop v).2.2 j j1, e39 j x j2, hcc x (by omega)]
          · rw [j1, j2, (Gop v).2.1, hcc _ (Nat.le_refl _), cc_n]
        · have e9 : (qOpen w (qn s.2.1) r').2.2.2 = s.2.2.2 := by unfold qOpen; rw [if_neg v, es]
          rw [e9] at hx2
          have hxm : x ∈ s.2.2.2 := by
            have := List.mem_of_getElem? hx2
            simpa using this
          have := (p.2.2.2.2.2.1 x hxm).1
          rw [(Gno v).2 j, e39 j x hx2, hcc x (by omega)]
      · show CPl g6 32 (qOpen w (qn s.2.1) r').2.1 (qOpen w (qn s.2.1) r').2.2.1 (qOpen w (qn s.2.1) r').2.2.2
        rw [i2, i3]
        intro k hk h21
        rw [eqn] at hk
        by_cases u : k < qn s.2.1
        · have kp := CPl_keep (M' := r'.2.1) (g := g6) p cpl hM hcc (fun a j h1 h2 h3 => by rw [s6.I (by omega), fr (32 + a) j (by omega) (by omega), GO (32 + a) j (by omega) (by omega) (by omega) (by omega) (by omega)]) k u h21
          refine ⟨kp.1, fun ok hns => kp.2 ok (fun y => hns ?_)⟩
          unfold qOpen
          split
          · show k ∈ qn s.2.1 :: r'.2.2.2
            rw [es]; simp [y]
          · rw [es]; exact y
        · have ek : k = qn s.2.1 := by omega
          rw [ek, hcc _ (Nat.le_refl _), cc_n]
          refine ⟨?_, fun ok hns => ?_⟩
          · unfold CRow at cr ⊢
            rw [s6.I (by decide), s6.I (by decide), s6.I (by decide)]; exact cr
          · exfalso
            apply hns
            have v := b4.mp ok
            unfold qOpen; rw [if_pos v]; show qn s.2.1 ∈ qn s.2.1 :: r'.2.2.2; simp
    · rw [if_pos rfl]
      exact k0 g6 _ (by rw [eR]; unfold qSemi; rw [i1, if_neg q33]) ((smG.trans sm).trans (p9 s6)) p6
  · rw [if_pos rfl]
    exact k0 g e (by rw [eS]; exact qth_l e1) (smG.trans sm) pf
theorem S102b {C : Int32 → TH → Prop} {w : Nat} {x3 : Int32} (c : CPs h T z m a1 N n0 s) (hw : kd T z s.1 = w) (hst : isSt w) (hx : (x3 = 1 ∧ (w = 16 ∨ w = 20)) ∨ (x3 = 0 ∧ ¬ (w = 16 ∨ w = 20))) (k1 : ∀ g s', qStep T z N n0 s = .inr s' → Sm inP h g → CPs g T z m a1 N n0 s' → C 1 g) (k0 : ∀ g e, qStep T z N n0 s = .inl e → Sm inP h g → CFt g e → C 0 g) : B102_45 a1 (nI w) x3 h C := by
  have c' := c
  obtain ⟨ct, p, e32, e31, e39, cpl, o, cm⟩ := c
  have n60 := p.n60
  obtain ⟨p2, p3, p4⟩ := p.2.1
  have w23 : w < 23 ∧ w ≠ 21 := by unfold isSt at hst; omega
  have eS : qStep T z N n0 s = if s.2.2.1 = 30 then .inl (fl T z s.1 6) else if (w = 16 ∨ w = 20) ∧ s.2.2.2.length = 3 then .inl (fl T z s.1 7) else qth (qRest T z N n0 w (qn s.2.1) (qRow w s)) (fun r => qSemi T z (qOpen w (qn s.2.1) r)) := by
    unfold qStep; rw [hw, if_neg w23.2, if_pos hst]
  unfold B102_45
  rw [e32, e31]
  by_cases q30 : s.2.2.1 = 30
  · rw [if_neg (show ¬ nI s.2.2.1 < 30 from nI_nlt (b := 30) (by omega) (by omega))]
    exact S135 (f := 6) ct (by omega) (fun g s1 f pf => ⟨Or.inl rfl, k0 g _ (by rw [eS, if_pos q30]) (p9 s1) pf⟩)
  · rw [if_pos (show nI s.2.2.1 < 30 from nI_lt (b := 30) (by omega) (by omega))]
    rw [if_neg q30] at eS
    have c30 : s.2.2.1 < 30 := by omega
    have main : ((w = 16 ∨ w = 20) → s.2.2.2.length < 3) → B102_89 a1 (nI w) x3 h C := by
      intro hl
      rw [if_neg (fun u => by have := hl u.1; omega)] at eS
      unfold B102_89
      refine S133 ct (by omega) (fun g1 s1 t1 f1 => ?_)
      have e32' : g1.I 32 1 = nI s.2.2.1 := by rw [s1.I (by decide)]; exact e32
      refine S90 c30 e32' (fun H sH0 H33 H32 HO0 HJ => ?_)
      have sH : Sm inP h H := (p9 s1).trans sH0
      have HO : ∀ b j, b ≠ 9 → b ≠ 32 → (b < 33 ∨ 36 < b ∨ j ≠ s.2.2.1) → H.I b j = h.I b j := fun b j b1 b2 b3 => by rw [HO0 b j b2 b3, s1.I b1]
      have tH : CTT H T z m (s.1 + 1) := t1.frame (fun j => HO0 9 j (by omega) (by omega)) (by funext j; exact HO0 12 j (by omega) (by omega)) (by funext j; exact HO0 13 j (by omega) (by omega)) HJ
      have oH : okF H := ⟨by rw [HO0 9 10 (by omega) (by omega)]; exact (okF_9 o f1).1, by rw [HO0 9 11 (by omega) (by omega)]; exact (okF_9 o f1).2⟩
      have e31H : H.I 31 3 = nI s.2.2.2.length := by rw [HO 31 3 (by omega) (by omega) (by omega)]; exact e31
      rcases hx with ⟨rfl, v⟩ | ⟨rfl, v⟩
      · have hl' := hl v
        rw [if_neg (by decide), e31H, ix_n (by omega), I_ne (by decide), e31H, nI_1]
        refine ⟨inb_n hl', S102r c' hst c30 eS (Sm.sI (S := inP) (Sm.sI (S := inP) sH (by unfold inP; omega) _) (by unfold inP; omega) _) (tH.frame (fun j => by rw [I_ne (by decide), I_ne (by decide)]) (by funext j; rw [I_ne (by decide), I_ne (by decide)]) (by funext j; rw [I_ne (by decide), I_ne (by decide)]) rfl) ⟨by rw [I_ne (by decide), I_ne (by decide)]; exact oH.1, by rw [I_ne (by decide), I_ne (by decide)]; exact oH.2⟩ (by rw [I_ne (by decide), I_ne (by decide)]; exact H33) (by rw [I_ne (by decide), I_ne (by decide)]; exact H32) (fun b j b1 b2 b3 b4 b5 => by rw [I_ne b3, I_ne b4]; exact HO b j b1 b2 b5) (fun _ => ⟨I_eq, by rw [I_ne (by decide), I_eq], fun j hj => by rw [I_ne (by decide), I_nk (by omega)]; exact HO 39 j (by omega) (by omega) (by omega)⟩) (fun u => absurd v u) k1 k0⟩
      · rw [if_pos rfl]
        exact S102r c' hst c30 eS sH tH oH H33 H32 (fun b j b1 b2 b3 b4 b5 => HO b j b1 b2 b5) (fun u => absurd u v) (fun _ => ⟨e31H, fun j => HO 39 j (by omega) (by omega) (by omega)⟩) k1 k0
    rcases hx with ⟨rfl, v⟩ | ⟨rfl, v⟩
    · rw [if_neg (by decide)]
      by_cases hl : s.2.2.2.length < 3
      · rw [if_pos (show nI s.2.2.2.length < 3 from nI_lt (b := 3) hl (by omega))]
        exact main (fun _ => hl)
      · rw [if_neg (show ¬ nI s.2.2.2.length < 3 from nI_nlt (b := 3) (by omega) (by omega))]
        exact S135 (f := 7) ct (by omega) (fun g s1 f pf => ⟨Or.inl rfl, k0 g _ (by rw [eS, if_pos ⟨v, by omega⟩]) (p9 s1) pf⟩)
    · rw [if_pos rfl]
      exact main (fun u => absurd u v)
end CP3
