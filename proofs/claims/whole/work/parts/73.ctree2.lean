section CTS
variable {h : TH} {M : Nat → Int32} {t : Nat} {a : Int32}
theorem S72 {C : Int32 → Prop} (hw : Wf M) (hr : CMr h t M) (ha : St (aN M) a) (kt : isTr M a → C 1) (kf : ¬ isTr M a → C 0) : W72 t a h C := by
  have h12 := hw.n12
  have b32 : ∀ (s : Int32) o, bt s o = true → o < 32 := by
    intro s o q
    rcases Nat.lt_or_ge o 32 with z | z
    · exact z
    · rw [bt_big _ z] at q; exact absurd q (by decide)
  unfold W72 B72_4
  refine LFP.up (aN M) (fun j z => z.2 = nI j ∧ (∀ d, d < j → bt a d = true → aPa M d = (-1)) ∧ (∀ d e o, d < j → e < j → bt a d = true → bt a e = true → bt (aNe M d) o = true → bt (aNe M e) o = true → d = e) ∧ ∀ o, bt z.1 o = true ↔ ∃ e, e < j ∧ bt a e = true ∧ bt (aNe M e) o = true) ?_ ?_ (Nat.zero_le _) ⟨rfl, fun d hd => absurd hd (Nat.not_lt_zero _), fun d e o hd => absurd hd (Nat.not_lt_zero _), fun o => ⟨fun q => by (try dsimp only at q); rw [bt_0] at q; exact absurd q (by decide), fun ⟨e, he, _⟩ => absurd he (Nat.not_lt_zero _)⟩⟩
  · rintro X j ⟨x2, x3⟩ hj ⟨e1, e2, e3, e4⟩ ih
    (try dsimp only at e1 e4)
    subst e1
    unfold F72_4
    (try dsimp only)
    rw [hr.n, if_neg (nI_ge hj (by omega))]
    by_cases b : bt a j = true
    · rw [if_neg ((bt_in' (by omega)).mpr b)]
      refine S61 hw hr j rfl hj (fun q => ?_) (fun q => ?_)
      · rw [if_neg (by decide), ix_n (by omega), hr.ne hj]
        refine ⟨inb_n (by omega), ?_⟩
        by_cases z : x2 &&& aNe M j = 0
        · rw [if_pos z]
          rw [bt_dis] at z
          refine ⟨inb_n (by omega), ih _ ⟨nI_1 j, fun d hd y => ?_, fun d e o hd he y1 y2 y3 y4 => ?_, fun o => ?_⟩⟩
          · rcases Nat.lt_or_ge d j with w | w
            · exact e2 d w y
            · rw [show d = j by omega]; exact q
          · have key : ∀ e, e < j → bt a e = true → bt (aNe M e) o = true → bt (aNe M j) o = true → False := by
              intro e' w1 w2 w3 w4
              have := z o (b32 _ _ w3) ((e4 o).mpr ⟨e', w1, w2, w3⟩)
              rw [w4] at this; exact absurd this (by decide)
            rcases Nat.lt_or_ge d j with w | w
            · rcases Nat.lt_or_ge e j with w' | w'
              · exact e3 d e o w w' y1 y2 y3 y4
              · rw [show e = j by omega] at y4
                exact (key d w y1 y3 y4).elim
            · rcases Nat.lt_or_ge e j with w' | w'
              · rw [show d = j by omega] at y3
                exact (key e w' y2 y4 y3).elim
              · omega
          · (try dsimp only)
            rw [bt_or, Bool.or_eq_true, e4 o]
            constructor
            · rintro (⟨e, w1, w2, w3⟩ | w)
              · exact ⟨e, by omega, w2, w3⟩
              · exact ⟨j, by omega, b, w⟩
            · rintro ⟨e, w1, w2, w3⟩
              rcases Nat.lt_or_ge e j with w | w
              · exact Or.inl ⟨e, w, w2, w3⟩
              · rw [show e = j by omega] at w3; exact Or.inr w3
        · rw [if_neg z]
          refine kf (fun y => z ?_)
          rw [bt_dis]
          intro o ho w
          obtain ⟨e, w1, w2, w3⟩ := (e4 o).mp w
          cases w4 : bt (aNe M j) o
          · rfl
          · have := y.2 e j o (by omega) hj w2 b w3 w4
            omega
      · rw [if_pos rfl]
        exact kf (fun y => q (y.1 j hj b).1)
    · rw [if_pos ((bt_in (by omega)).mpr (by simpa using b))]
      have out : ∀ e, e < j + 1 → bt a e = true → e < j := by
        intro e he y
        rcases Nat.lt_or_ge e j with w | w
        · exact w
        · rw [show e = j by omega] at y; exact absurd y b
      refine ih _ ⟨nI_1 j, fun d hd y => e2 d (out d hd y) y, fun d e o hd he y1 y2 y3 y4 => e3 d e o (out d hd y1) (out e he y2) y1 y2 y3 y4, fun o => ?_⟩
      (try dsimp only)
      rw [e4 o]
      constructor
      · rintro ⟨e, w1, w2, w3⟩; exact ⟨e, by omega, w2, w3⟩
      · rintro ⟨e, w1, w2, w3⟩; exact ⟨e, out e w1 w2, w2, w3⟩
  · rintro X ⟨x2, x3⟩ ⟨e1, e2, e3, e4⟩
    (try dsimp only at e1 e4)
    subst e1
    unfold F72_4
    (try dsimp only)
    rw [hr.n, if_pos (nI_le (Nat.le_refl _) (by omega)), hr.on]
    have ons : a &&& oS M = 0 ↔ ∀ d, d < aN M → bt a d = true → aOn M d = 0 := by
      rw [bt_dis]
      constructor
      · intro q d hd y
        have := q d (by omega) y
        unfold oS at this
        rw [bt_setOf _ _ (by omega)] at this
        rcases (hw.D hd).2.2.2.2.2.2.1 with w | w
        · exact w
        · rw [w] at this; simp [hd] at this
      · intro q d hd y
        unfold oS
        rw [bt_setOf _ _ (by omega)]
        have hd' := St_d h12 ha hd y
        rw [q d hd' y]; simp
    by_cases z : a &&& oS M = 0
    · rw [if_neg (fun q => q z)]
      exact kt ⟨fun d hd y => ⟨e2 d hd y, ons.mp z d hd y⟩, e3⟩
    · rw [if_pos z]
      exact kf (fun y => z (ons.mpr (fun d hd w => (y.1 d hd w).2)))
theorem S71 {C : Int32 → TH → Prop} (hw : Wf M) (hr : CMr h t M) (hg : CMg h t M) (ht : t + 15 ≤ h.n) {x : Int32} {d : Nat} (hx : x = nI d) (hd : d < aN M) (hn : h.n < 1000000) (kt : ∀ a g v, Clo M (ishl 1 (nI d)) a → isTr M a → Gr (fun _ => False) h g → g.n = h.n + 1 → g.sl = h.sl + 12 → RulF M (d + 1) d v → v ≤ 1000 → C (nI v) g) (kf : ∀ a, Clo M (ishl 1 (nI d)) a → ¬ isTr M a → C (-1) h) : W71 t x h C := by
  have h12 := hw.n12
  subst hx
  unfold W71
  refine S67 hw hr hg (St_bit hd) (fun a ha => S72 hw hr ha.1 (fun tr => ?_) (fun tr => ?_))
  · rw [if_pos (by decide)]
    refine ⟨hn, ?_⟩
    rw [show ix 12 = 12 by decide +kernel]
    have nI0 : ∀ a, a ≠ h.n → (h.new 100 12 12).I a = h.I a := fun a ha => by rw [I_new, if_neg ha]
    have nK : (h.new 100 12 12).K h.n = 100 := by rw [K_new, if_pos rfl]
    have nN : (h.new 100 12 12).N h.n = 12 := by rw [N_new, if_pos rfl]
    have fin : ∀ g, Sm (fun a => a = h.n) (h.new 100 12 12) g → Gr (fun _ => False) h g ∧ g.n = h.n + 1 ∧ g.sl = h.sl + 12 := by
      intro g hs
      refine ⟨⟨by rw [hs.n, n_new]; omega, fun a ha => ?_, fun a ha _ => ?_⟩, by rw [hs.n, n_new], by rw [hs.sl, sl_new]⟩
      · rw [hs.K, hs.N, K_new, N_new, if_neg (by omega), if_neg (by omega)]; exact ⟨rfl, rfl⟩
      · rw [hs.I (by omega), hs.J (by omega), hs.P, I_new, J_new, P_new, if_neg (by omega), if_neg (by omega), if_neg (by omega)]; exact ⟨rfl, rfl, rfl⟩
    generalize (h.new 100 12 12) = h0 at *
    have ok : ∀ g, Sm (fun a => a = h.n) h0 g → ∀ e, e < 12 → okA g h.n 100 (nI e) := fun g hs e he => okA_n (by rw [hs.K]; exact nK) (by rw [hs.N, nN]; exact he) (by rw [hs.N, nN]; omega)
    have crr : ∀ g, Sm (fun a => a = h.n) h0 g → CMr g t M := by
      intro g hs
      have same : ∀ b, b < t + 15 → g.I b = h.I b := fun b hb => by rw [hs.I (by omega), nI0 _ (by omega)]
      obtain ⟨c1, c2, c3, c4, c5, c6⟩ := hr
      refine ⟨by rw [same t (by omega)]; exact c1, by rw [same t (by omega)]; exact c2, by rw [same t (by omega)]; exact c3, by rw [same t (by omega)]; exact c4, fun e he => ?_, fun k hk => by rw [same _ (by omega)]; exact c6 k hk⟩
      rw [same (t + 2) (by omega), same (t + 3) (by omega), same (t + 4) (by omega), same (t + 5) (by omega), same (t + 6) (by omega), same (t + 7) (by omega)]
      exact c5 e he
    unfold B71_26
    refine LFP.up (d + 1) (fun j z => z.1 = nI j ∧ Sm (fun a => a = h.n) h0 z.2 ∧ ∃ A : Nat → Nat, ∀ e, e < j → bt a e = true → RulF M (e + 1) e (A e) ∧ z.2.I h.n e = nI (A e)) ?_ ?_ (Nat.zero_le _) ⟨rfl, Sm.refl, fun _ => 0, fun e he => absurd he (Nat.not_lt_zero _)⟩
    · rintro X j ⟨x4, g⟩ hj ⟨e1, e2, A, e3⟩ ih
      (try dsimp only at e1 e2 e3)
      subst e1
      unfold F71_26
      (try dsimp only)
      rw [if_neg (nI_nlt (by omega) (by omega))]
      by_cases b : bt a j = true
      · rw [if_neg ((bt_in' (by omega)).mpr b)]
        have needs : ∀ e, bt (aNe M j) e = true → e < j ∧ bt a e = true := by
          intro e q
          have l := need_lt hw (by omega) q
          exact ⟨l, (ha.2.2.1 j (by omega) b).2 e (by omega) q⟩
        refine S73 (A := A) hw (crr g e2) rfl (by omega) (ok g e2) (fun e q => ?_) (fun v hv => ?_)
        · obtain ⟨n1, n2⟩ := needs e q
          obtain ⟨n3, n4⟩ := e3 e n1 n2
          have := RulF_le hw _ e _ (by omega) n3
          exact ⟨n4, by omega⟩
        · have rj := Rul_mk hw (show j < aN M by omega) (fun o q => (e3 o (needs o q).1 (needs o q).2).1) hv
          rw [ix_n (by omega)]
          refine ⟨ok g e2 j (by omega), ih _ ⟨nI_1 j, Sm.sI (S := fun a => a = h.n) e2 rfl _, fun e => if e = j then v else A e, fun e he q => ?_⟩⟩
          (try dsimp only)
          rw [I_at]
          by_cases y : e = j
          · rw [if_pos y, if_pos y, y]; exact ⟨rj, rfl⟩
          · rw [if_neg y, if_neg y]; exact e3 e (by omega) q
      · rw [if_pos ((bt_in (by omega)).mpr (by simpa using b))]
        refine ih _ ⟨nI_1 j, e2, A, fun e he q => ?_⟩
        rcases Nat.lt_or_ge e j with w | w
        · exact e3 e w q
        · rw [show e = j by omega] at q; exact absurd q b
    · rintro X ⟨x4, g⟩ ⟨e1, e2, A, e3⟩
      (try dsimp only at e1 e2 e3)
      subst e1
      unfold F71_26
      (try dsimp only)
      rw [if_pos (nI_lt (by omega) (by omega)), ix_n (by omega)]
      obtain ⟨r1, r2⟩ := e3 d (by omega) (ha.2.1 d (by omega) (by rw [bt_bit (by omega)]; simp))
      have := RulF_le hw _ d _ hd r1
      obtain ⟨k1, k2, k3⟩ := fin g e2
      rw [r2]
      exact ⟨ok g e2 d (by omega), kt a g (A d) ha tr k1 k2 k3 r1 (by omega)⟩
  · rw [if_neg (fun z => z rfl)]
    exact kf a ha tr
end CTS
