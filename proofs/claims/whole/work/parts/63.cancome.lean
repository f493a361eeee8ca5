/-! WHETHER A GOAL CAN COME, and FEWEST, at the reference -/
def CI (h0 : TH) (M : Nat → Int32) (big : Nat → Nat) (g : TH) (q : Nat → Nat) (F : Nat) : Prop := cKeep h0 g ∧ Cq g (2 ^ aN M) q F ∧ ∀ i, i < F → Rr M big (nI (q i))
section CC
variable {h0 h g : TH} {M : Nat → Int32} {big : Nat → Nat} {F d : Nat} {q : Nat → Nat} {s goal : Int32}
theorem pow12 {n : Nat} (hn : n ≤ 12) : 2 ^ n ≤ 4096 := Nat.pow_le_pow_right (n := 2) (by omega) hn
theorem CI.add {C : TH → Prop} (hw : Wf M) (hC : CI h0 M big g q F) (hr : Rr M big s) (kk : ∀ g' q' F', CI h0 M big g' q' F' → CqE q F q' F' → inQ q' F' (ix s) → C g') : W295 s g C := by
  have h12 := hw.n12
  have hp := pow12 h12
  have hs := (Rr_St hw hr).lt
  refine S295 (by omega) hC.2.1 hs.2.1 hs.1 (fun g' q' F' k1 k2 k3 k4 k5 => kk g' q' F' ⟨hC.1.trans k1, k2, fun i hi => ?_⟩ k3 k4)
  rcases Nat.lt_or_ge i F with z | z
  · rw [k3.2 i z]; exact hC.2.2 i z
  · rw [k5 i z hi, ← hs.2.1]; exact hr
theorem CI.ma (hC : CI h0 M big g q F) (hM : MA h0 M) : MA g M := hM.sm hC.1.1 (by unfold in212; omega)
theorem CI.fit (hC : CI h0 M big g q F) (hf : MFit h0 M big) : MFit g M big := hf.fr hC.1.1 (by unfold in212; omega) (hC.1.2 25 (by omega))
theorem S296o {C : Int32 → TH → Prop} {a1 x2 : Int32} {X35 X63 : Int32 × TH → Prop} (hw : Wf M) (hM : MA h0 M) (hf : MFit h0 M big) (hC : CI h0 M big g q F) (hr : Rr M big s) (hd : d < aN M) (kk : ∀ g' q' F', CI h0 M big g' q' F' → CqE q F q' F' → (∀ o, o < d → poC M big s s d o → inQ q' F' (ix (poT M s d o))) → X63 (nI (d + 1), g')) : B296_112 a1 x2 s (nI d) 0 g C X35 X63 := by
  have h12 := hw.n12
  have hs := Rr_St hw hr
  unfold B296_112
  refine LFP.up d (fun j z => z.1 = nI j ∧ ∃ q' F', CI h0 M big z.2 q' F' ∧ CqE q F q' F' ∧ ∀ o, o < j → poC M big s s d o → inQ q' F' (ix (poT M s d o))) ?_ ?_ (Nat.zero_le _) ⟨rfl, q, F, hC, CqE.refl, fun o ho => absurd ho (Nat.not_lt_zero _)⟩
  · rintro Y j ⟨x5, g1⟩ hj ⟨e1, q1, F1, e2, e3, e4⟩ ih
    (try dsimp only at e1 e2 e3 e4)
    subst e1
    unfold F296_112
    (try dsimp only)
    rw [if_neg (nI_ge hj (by omega))]
    refine S268 hw (e2.ma hM) (e2.fit hf) hs hs rfl rfl hd (by omega) (fun pz => ?_) (fun pz => S295n ?_)
    · refine e2.add hw (hr.step ⟨d, hd, Or.inr (Or.inr ⟨j, hj, pz, rfl⟩)⟩) (fun g2 q2 F2 k1 k2 k3 => ?_)
      refine ih _ ⟨nI_1 j, q2, F2, k1, e3.trans k2, fun o ho z => ?_⟩
      rcases Nat.lt_or_ge o j with y | y
      · exact k2.inq (e4 o y z)
      · have : o = j := by omega
        rw [this]; exact k3
    · refine ih _ ⟨nI_1 j, q1, F1, e2, e3, fun o ho z => ?_⟩
      rcases Nat.lt_or_ge o j with y | y
      · exact e4 o y z
      · have : o = j := by omega
        rw [this] at z; exact absurd z pz
  · rintro Y ⟨x5, g1⟩ ⟨e1, q1, F1, e2, e3, e4⟩
    (try dsimp only at e1 e2 e3 e4)
    subst e1
    unfold F296_112
    (try dsimp only)
    rw [if_pos (nI_le (Nat.le_refl _) (by omega)), nI_1]
    exact kk g1 q1 F1 e2 e3 e4
theorem S296d {C : Int32 → TH → Prop} {a1 x2 : Int32} {X35 : Int32 × TH → Prop} (hw : Wf M) (hM : MA h0 M) (hf : MFit h0 M big) (hC : CI h0 M big g q F) (hr : Rr M big s) (kk : ∀ g' q' F', CI h0 M big g' q' F' → CqE q F q' F' → (∀ s', Fr M big s s' → inQ q' F' (ix s')) → X35 (x2 + 1, g')) : B296_63 a1 x2 s 0 g C X35 := by
  have h12 := hw.n12
  have hs := Rr_St hw hr
  unfold B296_63
  refine LFP.up (aN M) (fun j z => z.1 = nI j ∧ ∃ q' F', CI h0 M big z.2 q' F' ∧ CqE q F q' F' ∧ ∀ d, d < j → ∀ s', ((bt s d = true ∧ s' = s &&& (ishl 1 (nI d) ^^^ (-1))) ∨ (bt s d = false ∧ mkC M big s d ∧ s' = mkT M s d) ∨ ∃ o, o < d ∧ poC M big s s d o ∧ s' = poT M s d o) → inQ q' F' (ix s')) ?_ ?_ (Nat.zero_le _) ⟨rfl, q, F, hC, CqE.refl, fun d hd => absurd hd (Nat.not_lt_zero _)⟩
  · rintro Y d ⟨x4, g1⟩ hd ⟨e1, q1, F1, e2, e3, e4⟩ ih
    (try dsimp only at e1 e2 e3 e4)
    subst e1
    have hM1 := e2.ma hM
    have eN : g1.I 198 (ix 0) = nI (aN M) := by rw [ix_0, hM1 0 (by omega)]; exact hw.eN
    unfold F296_63
    (try dsimp only)
    rw [eN, if_neg (nI_ge hd (by omega))]
    refine S250 d rfl hs (by omega) (by omega) (fun b => ?_) (fun b => ?_)
    · rw [if_neg (by decide)]
      refine e2.add hw (hr.step ⟨d, hd, Or.inl ⟨b, rfl⟩⟩) (fun g2 q2 F2 k1 k2 k3 => ?_)
      refine S296o hw hM hf k1 hr hd (fun g3 q3 F3 l1 l2 l3 => ih _ ⟨rfl, q3, F3, l1, (e3.trans k2).trans l2, fun d' hd' s' z => ?_⟩)
      rcases Nat.lt_or_ge d' d with y | y
      · exact l2.inq (k2.inq (e4 d' y s' z))
      · have : d' = d := by omega
        rw [this] at z
        rcases z with ⟨_, z⟩ | ⟨z, _⟩ | ⟨o, o1, o2, o3⟩
        · rw [z]; exact l2.inq k3
        · rw [b] at z; exact absurd z (by decide)
        · rw [o3]; exact l3 o o1 o2
    · rw [if_pos rfl]
      have fin : ∀ g2 q2 F2, CI h0 M big g2 q2 F2 → CqE q1 F1 q2 F2 → (mkC M big s d → inQ q2 F2 (ix (mkT M s d))) → B296_112 a1 x2 s (nI d) 0 g2 C X35 Y := by
        intro g2 q2 F2 k1 k2 k3
        refine S296o hw hM hf k1 hr hd (fun g3 q3 F3 l1 l2 l3 => ih _ ⟨rfl, q3, F3, l1, (e3.trans k2).trans l2, fun d' hd' s' z => ?_⟩)
        rcases Nat.lt_or_ge d' d with y | y
        · exact l2.inq (k2.inq (e4 d' y s' z))
        · have : d' = d := by omega
          rw [this] at z
          rcases z with ⟨z, _⟩ | ⟨_, z1, z2⟩ | ⟨o, o1, o2, o3⟩
          · rw [b] at z; exact absurd z (by decide)
          · rw [z2]; exact l2.inq (k3 z1)
          · rw [o3]; exact l3 o o1 o2
      refine S267 hw hM1 (e2.fit hf) hs rfl hd (fun pz => ?_) (fun pz => S295n ?_)
      · exact e2.add hw (hr.step ⟨d, hd, Or.inr (Or.inl ⟨b, pz, rfl⟩)⟩) (fun g2 q2 F2 k1 k2 k3 => fin g2 q2 F2 k1 k2 (fun _ => k3))
      · exact fin g1 q1 F1 e2 CqE.refl (fun z => absurd z pz)
  · rintro Y ⟨x4, g1⟩ ⟨e1, q1, F1, e2, e3, e4⟩
    (try dsimp only at e1 e2 e3 e4)
    subst e1
    have hM1 := e2.ma hM
    have eN : g1.I 198 (ix 0) = nI (aN M) := by rw [ix_0, hM1 0 (by omega)]; exact hw.eN
    unfold F296_63
    (try dsimp only)
    rw [eN, if_pos (nI_le (Nat.le_refl _) (by omega))]
    exact kk g1 q1 F1 e2 e3 (fun s' ⟨d, hd, z⟩ => e4 d hd s' z)
theorem S296 {C : Int32 → TH → Prop} (hw : Wf M) (hM : MA h M) (hf : MFit h M big) (kt : ∀ g, cKeep h g → (∃ s, Rr M big s ∧ sb goal s) → C 1 g) (kf : ∀ g, cKeep h g → ¬ (∃ s, Rr M big s ∧ sb goal s) → C 0 g) : W296 goal h C := by
  have h12 := hw.n12
  have hp := pow12 h12
  have hp0 : 0 < 2 ^ aN M := Nat.pow_pos (by omega)
  unfold W296 B296_2
  refine LFP.up (2 ^ aN M) (fun j z => z.1 = nI j ∧ Sm (fun a => a = 212) h z.2 ∧ ∀ u, u < j → z.2.I 212 u = 0) ?_ ?_ (Nat.zero_le _) ⟨rfl, Sm.refl, fun u hu => absurd hu (Nat.not_lt_zero _)⟩
  · rintro Y j ⟨x2, g⟩ hj ⟨e1, e2, e3⟩ ih
    (try dsimp only at e1 e2 e3)
    subst e1
    unfold F296_2
    (try dsimp only)
    refine S248 hw (hM.sm e2 (by omega)) ?_
    rw [if_neg (nI_ge hj (by omega)), ix_n (by omega)]
    refine ⟨inb_n (by omega), ih _ ⟨nI_1 j, Sm.sI (S := fun a => a = 212) e2 rfl _, fun u hu => ?_⟩⟩
    (try dsimp only)
    rw [I_at]
    by_cases e : u = j
    · rw [if_pos e]; rfl
    · rw [if_neg e]; exact e3 u (by omega)
  · rintro Y ⟨x2, g⟩ ⟨e1, e2, e3⟩
    (try dsimp only at e1 e2 e3)
    subst e1
    unfold F296_2
    (try dsimp only)
    refine S248 hw (hM.sm e2 (by omega)) ?_
    rw [if_pos (nI_le (Nat.le_refl _) (by omega))]
    have c0 : CI h M big (g.sI 197 33 0) (fun _ => 0) 0 := by
      refine ⟨⟨(e2.mono (fun a z => by unfold in212; omega)).sI (by unfold in212; omega) _, fun j hj => by rw [I_nk hj, e2.I (by omega)]⟩, ⟨I_eq, fun i hi => absurd hi (Nat.not_lt_zero _), fun i j _ hj => absurd hj (Nat.not_lt_zero _), fun u hu => ⟨fun ⟨i, hi, _⟩ => absurd hi (Nat.not_lt_zero _), fun _ => by rw [I_ne (by omega)]; exact e3 u hu⟩⟩, fun i hi => absurd hi (Nat.not_lt_zero _)⟩
    refine c0.add hw Rr.zero (fun g0 q0 F0 k1 k2 k3 => ?_)
    unfold B296_35
    refine LFP.up (2 ^ aN M) (fun j z => z.1 = nI j ∧ ∃ q F, CI h M big z.2 q F ∧ j ≤ F ∧ inQ q F 0 ∧ (∀ i, i < j → ¬ sb goal (nI (q i))) ∧ ∀ i, i < j → ∀ s', Fr M big (nI (q i)) s' → inQ q F (ix s')) ?_ ?_ (Nat.zero_le _) ⟨rfl, q0, F0, k1, Nat.zero_le _, k3, fun i hi => absurd hi (Nat.not_lt_zero _), fun i hi => absurd hi (Nat.not_lt_zero _)⟩
    · rintro Y j ⟨x2, g1⟩ hj ⟨e1, q1, F1, e2, e3, e4, e5, e6⟩ ih
      (try dsimp only at e1 e2 e3 e4 e5 e6)
      subst e1
      have hF := e2.2.1.le
      unfold F296_35
      (try dsimp only)
      rw [e2.2.1.1]
      by_cases hjF : j < F1
      · rw [if_neg (nI_ge hjF (by omega)), ix_n (by omega), (e2.2.1.2.1 j hjF).1]
        refine ⟨inb_n (by omega), ?_⟩
        by_cases eg : goal &&& ((nI (q1 j)) ^^^ (-1)) = 0
        · rw [if_neg (fun z => z eg)]
          exact kt g1 e2.1 ⟨nI (q1 j), e2.2.2 j hjF, bt_sub.mp eg⟩
        · rw [if_pos eg]
          refine S296d hw hM hf e2 (e2.2.2 j hjF) (fun g2 q2 F2 l1 l2 l3 => ?_)
          refine ih _ ⟨nI_1 j, q2, F2, l1, by have := l2.1; omega, l2.inq e4, fun i hi => ?_, fun i hi s' z => ?_⟩
          · rw [l2.2 i (by omega)]
            rcases Nat.lt_or_ge i j with y | y
            · exact e5 i y
            · have : i = j := by omega
              rw [this]; exact fun z => eg (bt_sub.mpr z)
          · rw [l2.2 i (by omega)] at z
            rcases Nat.lt_or_ge i j with y | y
            · exact l2.inq (e6 i y s' z)
            · have : i = j := by omega
              rw [this] at z; exact l3 s' z
      · rw [if_pos (nI_le (by omega) (by omega))]
        have : j = F1 := by omega
        subst this
        refine kf g1 e2.1 (fun ⟨s, z1, z2⟩ => ?_)
        have := z1 (fun s => St (aN M) s ∧ inQ q1 j (ix s)) ⟨St_0 _, by rw [ix_0]; exact e4⟩ (fun a b ⟨w1, i, w2, w3⟩ w4 => ⟨Fr_St hw w1 w4, e6 i w2 b (by rw [w3, ← w1.lt.2.1]; exact w4)⟩)
        obtain ⟨w1, i, w2, w3⟩ := this
        refine e5 i w2 ?_
        rw [w3, ← w1.lt.2.1]; exact z2
    · rintro Y ⟨x2, g1⟩ ⟨e1, q1, F1, e2, e3, e4, e5, e6⟩
      (try dsimp only at e1 e2 e3 e4 e5 e6)
      subst e1
      have hF := e2.2.1.le
      unfold F296_35
      (try dsimp only)
      rw [e2.2.1.1, if_pos (nI_le (by omega) (by omega))]
      have : 2 ^ aN M = F1 := by omega
      rw [this] at e5 e6
      refine kf g1 e2.1 (fun ⟨s, z1, z2⟩ => ?_)
      have := z1 (fun s => St (aN M) s ∧ inQ q1 F1 (ix s)) ⟨St_0 _, by rw [ix_0]; exact e4⟩ (fun a b ⟨w1, i, w2, w3⟩ w4 => ⟨Fr_St hw w1 w4, e6 i w2 b (by rw [w3, ← w1.lt.2.1]; exact w4)⟩)
      obtain ⟨w1, i, w2, w3⟩ := this
      refine e5 i w2 ?_
      rw [w3, ← w1.lt.2.1]; exact z2
end CC
