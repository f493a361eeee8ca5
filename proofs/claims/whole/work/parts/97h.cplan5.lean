def inPP (a : Nat) : Prop := a = 9 ∨ 12 ≤ a ∧ a < 15 ∨ 31 ≤ a ∧ a < 40
section CP5
variable {h : TH} {T : Nat → Nat} {z a1 : Nat} {N : Nat → List Nat} {n0 : Nat} {M : Nat → Int32}
theorem S100 {C : Int32 → TH → Prop} {y : Nat} (hy : y ≤ 900) (hzy : z ≤ y) (h1 : h.I 9 1 = nI y) (hb : ∀ k, k < z → h.I 10 k = nI (T k)) (hT : ∀ k, k < z → T k < 256) (h11 : ∀ x, x < 23 → h.J 11 x = lN (cod 32 96 (wC x))) (cm : CMn h a1 N n0) (k1 : ∀ g s', qPlan T z N n0 901 (q00 M) = .inr s' → s'.2.2.2 = [] → Sm inPP h g → PI s'.2.1 n0 s'.2.2.1 [] → CPl g 32 s'.2.1 s'.2.2.1 [] → g.I 32 0 = 1 → g.I 32 1 = nI s'.2.2.1 → okF g → C 1 g) (k0 : ∀ g e, qth (qPlan T z N n0 901 (q00 M)) (qEnd T z) = .inl e → Sm inPP h g → CFt g e → C 0 g) : W100 a1 (nI z) h C := by
  unfold W100 W88
  show W126 (nI z) (((h.sI 32 0 0).sI 32 1 0).sI 31 3 0) (fun h2 => B100_22 a1 0 h2 C)
  have sA : Sm inP h (((h.sI 32 0 0).sI 32 1 0).sI 31 3 0) := Sm.sI (S := inP) (Sm.sI (S := inP) (Sm.sI (S := inP) Sm.refl (by unfold inP; omega) _) (by unfold inP; omega) _) (by unfold inP; omega) _
  have a32 : (((h.sI 32 0 0).sI 32 1 0).sI 31 3 0).I 32 1 = 0 := by rw [I_ne (by decide), I_eq]
  have a31 : (((h.sI 32 0 0).sI 32 1 0).sI 31 3 0).I 31 3 = 0 := I_eq
  have a9 : (((h.sI 32 0 0).sI 32 1 0).sI 31 3 0).I 9 = h.I 9 := by funext j; rw [I_ne (by decide), I_ne (by decide), I_ne (by decide)]
  generalize ((h.sI 32 0 0).sI 32 1 0).sI 31 3 0 = H at sA a32 a31 a9 ⊢
  refine S126 (y := y) hy hzy (by rw [a9]; exact h1) (fun k hk => by rw [sA.I (by unfold inP; omega)]; exact hb k hk) hT (fun x hx => by rw [sA.J (by unfold inP; omega)]; exact h11 x hx) (fun g m s1 ct e1 e10 e11 => ?_)
  have smA : Sm inPP h g := (sA.mono (fun a ha => by unfold inP at ha; unfold inPP; omega)).trans (s1.mono (fun a ha => by unfold inTx at ha; unfold inPP; omega))
  have toPP : ∀ {g1 g2 : TH}, Sm inPP h g1 → Sm inP g1 g2 → Sm inPP h g2 := fun s t => s.trans (t.mono (fun a ha => by unfold inP at ha; unfold inPP; omega))
  have cmg : CMn g a1 N n0 := by
    obtain ⟨c1, c2, c3, c4, c5, c6⟩ := cm
    exact ⟨by rw [smA.I (by unfold inPP; omega)]; exact c1, fun j hj => by rw [smA.J (by unfold inPP; omega)]; exact c2 j hj, c3, c4, by rw [smA.K]; exact c5, by rw [smA.N]; exact c6⟩
  have cp : CPs g T z m a1 N n0 (q00 M) := by
    have e : qn (q00 M).2.1 = 0 := by show ix (upd M 6 0 6) = 0; rw [pk_us]; exact ix_0
    refine ⟨ct, PI_00, ?_, ?_, fun j o ho => ?_, fun k hk => ?_, ⟨e10, e11⟩, cmg⟩
    · rw [s1.I (by unfold inTx; omega)]; exact a32
    · rw [s1.I (by unfold inTx; omega)]; exact a31
    · have ho' : ([] : List Nat).reverse[j]? = some o := ho
      simp at ho'
    · omega
  have ends : ∀ (g2 : TH) (s2 : QS), qPlan T z N n0 901 (q00 M) = .inr s2 → CPs g2 T z m a1 N n0 s2 → Sm inPP h g2 → B100_80 g2 C := by
    intro g2 s2 e2 c2 sm2
    obtain ⟨ct2, p2, e32, e31, e39, cpl2, o2, cm2⟩ := c2
    unfold B100_80
    rw [I_ne (by decide), e31]
    have sm3 : Sm inP g2 (g2.sI 32 0 1) := Sm.sI (S := inP) Sm.refl (by unfold inP; omega) _
    have hl3 := p2.2.1.2.2
    by_cases q : s2.2.2.2 = []
    · rw [if_pos (show nI s2.2.2.2.length = 0 by rw [q]; rfl)]
      rw [q] at p2 cpl2
      refine k1 _ s2 e2 q (toPP sm2 sm3) p2 (fun k hk h21 => ?_) I_eq (by rw [I_nk (by decide)]; exact e32) ⟨by rw [I_ne (by decide)]; exact o2.1, by rw [I_ne (by decide)]; exact o2.2⟩
      obtain ⟨c1, c2⟩ := cpl2 k hk h21
      refine ⟨?_, fun ok hns => by rw [I_ne (by decide)]; exact c2 ok hns⟩
      unfold CRow at c1 ⊢
      rw [I_ne (by decide), I_ne (by decide), I_ne (by decide)]; exact c1
    · have hpos : 0 < s2.2.2.2.length := List.length_pos_iff.mpr q
      rw [if_neg (nI_ne0 hpos (by omega))]
      have ct3 : CTT (g2.sI 32 0 1) T z m s2.1 := ct2.frame (fun j => I_ne (by decide)) (by funext j; rw [I_ne (by decide)]) (by funext j; rw [I_ne (by decide)]) rfl
      refine S136 ct3 (fun g4 s4 f4 p4 => ?_)
      rw [if_pos rfl]
      exact k0 g4 _ (by rw [qth_i e2]; unfold qEnd; rw [if_neg q]) (toPP (toPP sm2 sm3) (p9 s4)) p4
  unfold B100_22
  refine LFP.up 901 (fun (x : Nat) (st : Int32 × TH) => st.1 = nI x ∧ ∃ s1 : QS, qPlan T z N n0 (901 - x) s1 = qPlan T z N n0 901 (q00 M) ∧ CPs st.2 T z m a1 N n0 s1 ∧ Sm inPP h st.2) ?_ ?_ (Nat.zero_le _) ⟨rfl, q00 M, rfl, cp, smA⟩
  · rintro X x ⟨x3, g2⟩ hx ⟨e2, sB, eB, cB, smB⟩ ih
    (try dsimp only at e2 cB smB)
    subst e2
    unfold F100_22
    (try dsimp only)
    rw [if_neg (show ¬ (900 : Int32) < nI x from nI_nlt (a := 900) (by omega) (by omega)), cB.1.2.2.2.2]
    rw [show 901 - x = (900 - x) + 1 by omega] at eB
    have eB : (if kd T z sB.1 = 34 then (Sum.inr sB : QR) else qth (qStep T z N n0 sB) (qPlan T z N n0 (900 - x))) = qPlan T z N n0 901 (q00 M) := eB
    by_cases q : kd T z sB.1 = 34
    · rw [if_pos ((ck_is (x := 34) (w := 34) (by omega) rfl).mpr q)]
      rw [if_pos q] at eB
      exact ends g2 sB eB.symm cB smB
    · rw [if_neg (show ¬ nI (ck (kd T z sB.1)) = 34 from fun e => q ((ck_is (x := 34) (w := 34) (by omega) rfl).mp e))]
      rw [if_neg q] at eB
      have good : ∀ (g3 : TH) (s3 : QS), qStep T z N n0 sB = .inr s3 → Sm inP g2 g3 → CPs g3 T z m a1 N n0 s3 → B100_65 a1 (nI x) 1 g3 C X := by
        intro g3 s3 e3 sm3 c3
        unfold B100_65
        rw [if_pos (by decide), nI_1]
        refine ih _ ⟨rfl, s3, ?_, c3, toPP smB sm3⟩
        rw [show 901 - (x + 1) = 900 - x by omega, ← eB, qth_i e3]
      have bad : ∀ (g3 : TH) (e : Nat × Nat), qStep T z N n0 sB = .inl e → Sm inP g2 g3 → CFt g3 e → B100_65 a1 (nI x) 0 g3 C X := by
        intro g3 e e3 sm3 c3
        unfold B100_65
        rw [if_neg (fun n => n rfl)]
        exact k0 g3 e (by rw [← eB]; exact qth_l (qth_l e3)) (toPP smB sm3) c3
      by_cases q1 : kd T z sB.1 = 21
      · rw [if_neg (fun n => n ((ck_is (x := 21) (w := 21) (by omega) rfl).mpr q1))]
        exact S101 cB q1 (fun g3 s3 e3 sm3 c3 => good g3 s3 e3 sm3 c3) (fun g3 e e3 sm3 c3 => bad g3 e e3 sm3 c3)
      · rw [if_pos (show ¬ nI (ck (kd T z sB.1)) = 21 from fun e => q1 ((ck_is (x := 21) (w := 21) (by omega) rfl).mp e))]
        exact S102 cB q1 (fun g3 s3 e3 sm3 c3 => good g3 s3 e3 sm3 c3) (fun g3 e e3 sm3 c3 => bad g3 e e3 sm3 c3)
  · rintro X ⟨x3, g2⟩ ⟨e2, sB, eB, cB, smB⟩
    (try dsimp only at e2 cB smB)
    subst e2
    unfold F100_22
    (try dsimp only)
    rw [if_pos (show (900 : Int32) < nI 901 by decide +kernel)]
    exact ends g2 sB eB.symm cB smB
end CP5
