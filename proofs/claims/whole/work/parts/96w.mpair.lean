/-! THE REFERENCE READS A PAIR AND THE POTS -/
def RFw (h g : TH) : Prop := Sm inRm h g ∧ (∀ k, k < 1760 → g.I 198 k = h.I 198 k) ∧ (∀ k, k < 48 → g.J 199 k = h.J 199 k) ∧ ∀ j, (j < 12 ∨ 19 < j ∨ j = 16) → g.I 197 j = h.I 197 j
section RPA
variable {h : TH} {T : Nat → Nat} {z : Nat} {s : PS} {M : Nat → Int32}
theorem RFw.refl : RFw h h := ⟨Sm.refl, fun _ _ => rfl, fun _ _ => rfl, fun _ _ => rfl⟩
theorem RFw.trans {g g' : TH} (p : RFw h g) (q : RFw g g') : RFw h g' := ⟨p.1.trans q.1, fun k hk => by rw [q.2.1 k hk, p.2.1 k hk], fun k hk => by rw [q.2.2.1 k hk, p.2.2.1 k hk], fun j hj => by rw [q.2.2.2 j hj, p.2.2.2 j hj]⟩
theorem RF.w {g : TH} (p : RF h g) : RFw h g := ⟨p.1, p.2.1, p.2.2.1, fun j hj => p.2.2.2 j (by omega)⟩
theorem S235 {C : Int32 → Prop} {a f : Nat} (r : RMs h M) (ha : a < 12) (hf : f < 8) (k : C (M (16 + 8 * a + f))) : W235 (nI a) (nI f) h C := by
  unfold W235
  rw [show (8 : Int32) = nI 8 from rfl, pk_mul, show (1776 : Int32) = nI 1776 from rfl, nI_add, nI_add, ix_n (by omega), show 1776 + 8 * a + f = 1760 + (16 + 8 * a + f) by omega, r _ (by omega)]
  exact ⟨inb_n (by omega), k⟩
theorem S238 {C : Int32 → Prop} {d : Nat} (r : RMs h M) (hw : Wf M) (hd : d < aN M) (k : ∀ a, St (aN M) a → (∀ e, e < 32 → (bt a e = true ↔ bh M d e)) → C a) : W238 (nI d) h C := by
  have h12 := hw.n12
  have e0 : h.I 198 1760 = nI (aN M) := by rw [r 0 (by omega)]; exact hw.eN
  unfold W238 B238_6
  refine LFP.ix (fun (m : Nat) (q : Int32 × Int32) => (m = 13 ∨ m + pc q.2 = 12) ∧ St (aN M) q.1 ∧ bt q.1 d = true ∧ sb q.2 q.1 ∧ (∀ e, e < aN M → bt q.2 e = true → sb (aNe M e) q.1) ∧ ∀ b, St (aN M) b → bt b d = true → (∀ x, x < aN M → bt b x = true → sb (aNe M x) b) → sb q.1 b) ?_ (k := 13) ⟨Or.inl rfl, St_bit hd (by omega), by rw [bt_bit (by omega)]; simp, sb_zero _, fun e _ q => by rw [bt_0] at q; exact absurd q (by decide), fun b _ q _ e he w => by
    rw [bt_bit (by omega)] at w
    have : e = d := by simpa using w
    rw [this]; exact q⟩
  rintro X m ⟨x2, x3⟩ ⟨h0, h1, h2, h3, h4, h5⟩ ih
  dsimp only at h0 h1 h2 h3 h4 h5
  unfold F238_6
  dsimp only
  by_cases e : x2 = x3
  · rw [if_pos e]
    refine k x2 h1 (fun y hy => ⟨fun q b b1 b2 b3 => h5 b b1 b2 b3 y hy q, fun q => q x2 h1 h2 (fun x hx w => h4 x hx (by rw [← e]; exact w))⟩)
  · rw [if_neg e]
    have hlt := pc_lt h3 (St_mono h1 h12) (fun q => e q.symm)
    have hle := pc_le x2
    unfold B238_16
    refine LFP.up (aN M) (fun (j : Nat) (q : Int32 × Int32) => q.2 = nI j ∧ St (aN M) q.1 ∧ sb x2 q.1 ∧ (∀ e, e < j → bt x2 e = true → sb (aNe M e) q.1) ∧ ∀ b, St (aN M) b → bt b d = true → (∀ x, x < aN M → bt b x = true → sb (aNe M x) b) → sb q.1 b) ?_ ?_ (Nat.zero_le _) ⟨rfl, h1, sb_refl _, fun d hd => absurd hd (Nat.not_lt_zero _), h5⟩
    · rintro Y j ⟨y2, y4⟩ hj ⟨f1, f2, f3, f4, f5⟩ ih2
      dsimp only at f1 f2 f3 f4 f5
      subst f1
      unfold F238_16
      dsimp only
      rw [show ix 1760 = 1760 from rfl, e0, if_neg (nI_ge hj (by omega))]
      by_cases q : bt x2 j = true
      · rw [if_neg (fun n => n ((has_1 h1 (by omega)).mpr q))]
        refine S235 (f := 4) r (by omega) (by omega) ?_
        refine ih2 _ ⟨nI_1 j, St_or f2 (hw.neN hj) (by omega), sb_trans f3 (sb_or_l _ _), fun e he q2 => ?_, fun b b1 b2 b3 => ?_⟩
        · by_cases e9 : e = j
          · rw [e9]; exact sb_or_r _ _
          · exact sb_trans (f4 e (by omega) q2) (sb_or_l _ _)
        · have hb := f5 b b1 b2 b3
          exact sb_or hb (b3 j hj (hb j (by omega) (f3 j (by omega) q)))
      · rw [if_pos (fun n => q ((has_1 h1 (by omega)).mp n))]
        refine ih2 _ ⟨nI_1 j, f2, f3, fun e he q2 => ?_, f5⟩
        by_cases e9 : e = j
        · rw [e9] at q2; exact absurd q2 q
        · exact f4 e (by omega) q2
    · rintro Y ⟨y2, y4⟩ ⟨f1, f2, f3, f4, f5⟩
      dsimp only at f1 f2 f3 f4 f5
      subst f1
      unfold F238_16
      dsimp only
      rw [show ix 1760 = 1760 from rfl, e0, if_pos (nI_le (Nat.le_refl _) (by omega))]
      obtain ⟨m1, hm1⟩ : ∃ m, m + pc x2 = 12 := ⟨12 - pc x2, by omega⟩
      exact ih m1 _ (by omega) ⟨Or.inr hm1, f2, f3 d (by omega) h2, f3, f4, f5⟩
theorem RB_tok {g : TH} (c : RB h T z s) (sm : Sm (fun b => b = 197) h g) (f : ∀ j, j < 12 ∨ 15 < j → g.I 197 j = h.I 197 j) {i : Nat} (rt : RT g T z i) : RB g T z (i, s.2) :=
  ⟨rt, RMs_tok c.2.1 sm, NmR_sm c.2.2.1 (to78 sm), by rw [f 18 (by decide)]; exact c.2.2.2.1, c.2.2.2.2.1, by rw [f 19 (by decide)]; exact c.2.2.2.2.2⟩
theorem S239 {C : Int32 → TH → Prop} (c : RB h T z s) (k1 : ∀ g s', pPair T z s = pSemi T z s' → RF h g → RB g T z s' → C 1 g) (k0 : ∀ g e, pPair T z s = .inl e → RF h g → RFt g e → C 0 g) : W239 h C := by
  have hw := c.2.2.2.2.1
  have h12 := hw.n12
  unfold W239
  refine S221n c.1 (fun g1 s1 f1 r1 => ?_)
  have c1 : RB g1 T z (s.1 + 1, s.2) := RB_tok c s1 f1 r1
  have e0 : g1.I 198 1760 = nI (aN s.2.1) := by rw [c1.2.1 0 (by omega)]; exact hw.eN
  rw [show ix 1760 = 1760 from rfl, e0]
  refine S236 (b := 48) (N := s.2.2) c1.1 c1.2.2.2.1 h12 (by omega) c1.2.2.1 (fun a1 a2 => ?_) (fun a1 a2 g2 s2 f2 p2 => ?_) (fun a1 g2 s2 f2 p2 => ?_)
  · (try dsimp only at a1 a2 ⊢)
    rw [if_pos (nI_ne1 (by omega))]
    generalize hA : fnd s.2.2 (aN s.2.1) (wd T z (s.1 + 1)) = a at *
    refine S235 (f := 7) c1.2.1 (by omega) (by omega) ?_
    (try dsimp only)
    by_cases a3 : aPa s.2.1 a = (-1)
    · have a3' : s.2.1 (16 + 8 * a + 7) = (-1) := a3
      rw [if_pos a3']
      refine S221n c1.1 (fun g3 s3 f3 r3 => ?_)
      have c3 : RB g3 T z (s.1 + 2, s.2) := RB_tok c1 s3 f3 r3
      have e3 : g3.I 198 1760 = nI (aN s.2.1) := by rw [c3.2.1 0 (by omega)]; exact hw.eN
      rw [e3]
      have rf3 : RF h g3 := (RF_tok s1 f1).trans (RF_tok s3 f3)
      refine S236 (b := 48) (N := s.2.2) c3.1 c3.2.2.2.1 h12 (by omega) c3.2.2.1 (fun b1 b2 => ?_) (fun b1 b2 g4 s4 f4 p4 => ?_) (fun b1 g4 s4 f4 p4 => ?_)
      · (try dsimp only at b1 b2 ⊢)
        rw [if_pos (nI_ne1 (by omega))]
        generalize hB : fnd s.2.2 (aN s.2.1) (wd T z (s.1 + 2)) = b at *
        have bad : ¬ (aPa s.2.1 b = (-1) ∧ bhB s.2.1 a b = false ∧ bhB s.2.1 b a = false) → pPair T z s = .inl (fl T z (s.1 + 2) 5) := by
          intro w
          unfold pPair
          rw [hA, hB, if_pos a1, if_pos a2, if_pos a3, if_pos b1, if_pos b2, if_neg w]
        have fail5 : ¬ (aPa s.2.1 b = (-1) ∧ bhB s.2.1 a b = false ∧ bhB s.2.1 b a = false) → W224 5 g3 (fun v9 h10 => (v9 = 0 ∨ v9 = 1) ∧ C v9 h10) := by
          intro w
          exact S224 (f := 5) c3.1 c3.2.2.2.1 (fun g4 s4 f4 p4 => ⟨Or.inl rfl, k0 g4 _ (bad w) (rf3.trans (RF_ft s4 f4)) p4⟩)
        refine S235 (f := 7) c3.2.1 (by omega) (by omega) ?_
        (try dsimp only)
        by_cases b3 : aPa s.2.1 b = (-1)
        · have b3' : s.2.1 (16 + 8 * b + 7) = (-1) := b3
          rw [if_neg (fun n => n b3')]
          refine S238 (M := s.2.1) c3.2.1 hw a2 (fun v11 st1 q1 => ?_)
          by_cases w1 : bt v11 b = true
          · rw [if_pos ((has_1 st1 (by omega)).mpr w1)]
            refine fail5 (fun w => ?_)
            have := bhB_iff.mpr ((q1 b (by omega)).mp w1)
            (try dsimp only at this)
            rw [w.2.1] at this; exact absurd this (by decide)
          · rw [if_neg (fun n => w1 ((has_1 st1 (by omega)).mp n))]
            refine S238 (M := s.2.1) c3.2.1 hw b2 (fun v14 st2 q2 => ?_)
            by_cases w2 : bt v14 a = true
            · rw [if_neg (fun n => n ((has_1 st2 (by omega)).mpr w2))]
              refine fail5 (fun w => ?_)
              have := bhB_iff.mpr ((q2 a (by omega)).mp w2)
              (try dsimp only at this)
              rw [w.2.2] at this; exact absurd this (by decide)
            · rw [if_pos (fun n => w2 ((has_1 st2 (by omega)).mp n))]
              have nb : ∀ x y, ¬ bh s.2.1 x y → bhB s.2.1 x y = false := fun x y w => by
                cases e : bhB s.2.1 x y with
                | false => rfl
                | true => exact absurd (bhB_iff.mp e) w
              have g1' : bhB s.2.1 a b = false := nb a b (fun w => w1 ((q1 b (by omega)).mpr w))
              have g2' : bhB s.2.1 b a = false := nb b a (fun w => w2 ((q2 a (by omega)).mpr w))
              obtain ⟨W1, W2⟩ := Wf_pair hw a2 b2 a3 b3 g1' g2'
              rw [show (8 : Int32) = nI 8 from rfl, pk_mul, pk_mul, show (1776 : Int32) = nI 1776 from rfl, nI_add, nI_add, show (7 : Int32) = nI 7 from rfl, nI_add, nI_add, ix_n (by omega), ix_n (by omega)]
              refine ⟨inb_n (by omega), inb_n (by omega), ?_⟩
              refine S221n (RT_198 (RT_198 c3.1)) (fun g5 s5 f5 r5 => ?_)
              refine k1 g5 (s.1 + 3, prM s.2.1 a b, s.2.2) ?_ (rf3.trans (((RF_198 (by omega)).trans (RF_198 (by omega))).trans (RF_tok s5 f5))) ⟨r5, ?_, ?_, ?_, W1, ?_⟩
              · unfold pPair
                rw [hA, hB, if_pos a1, if_pos a2, if_pos a3, if_pos b1, if_pos b2, if_pos ⟨b3, g1', g2'⟩]; rfl
              · exact RMs_tok (RMs_upd (k := 16 + 8 * b + 7) (RMs_upd (k := 16 + 8 * a + 7) c3.2.1 (by omega)) (by omega)) s5
              · intro j hj
                have hj' : j < aN s.2.1 := by
                  have := prM_N (M := s.2.1) (a := a) (b := b)
                  have hj2 : j < aN (prM s.2.1 a b) := hj
                  omega
                rw [s5.J (by decide)]
                exact c3.2.2.1 j hj'
              · rw [f5 18 (by decide), I_ne (by decide), I_ne (by decide)]; exact c3.2.2.2.1
              · rw [f5 19 (by decide), I_ne (by decide), I_ne (by decide)]
                show _ = if aP (prM s.2.1 a b) = 0 then (0 : Int32) else 1
                rw [prM_P]; exact c3.2.2.2.2.2
        · have b3' : ¬ s.2.1 (16 + 8 * b + 7) = (-1) := b3
          rw [if_pos b3']
          exact fail5 (fun w => b3 w.1)
      · (try dsimp only at b1 b2)
        rw [if_neg (fun n => n rfl)]
        refine k0 g4 _ ?_ (rf3.trans (RF_ft s4 f4)) p4
        unfold pPair
        rw [hA, if_pos a1, if_pos a2, if_pos a3, if_pos b1, if_neg b2]
      · (try dsimp only at b1)
        rw [if_neg (fun n => n rfl)]
        refine k0 g4 _ ?_ (rf3.trans (RF_ft s4 f4)) p4
        unfold pPair
        rw [hA, if_pos a1, if_pos a2, if_pos a3, if_neg b1]
    · have a3' : ¬ s.2.1 (16 + 8 * a + 7) = (-1) := a3
      rw [if_neg a3']
      refine S224 (f := 5) c1.1 c1.2.2.2.1 (fun g4 s4 f4 p4 => ⟨Or.inl rfl, k0 g4 _ ?_ ((RF_tok s1 f1).trans (RF_ft s4 f4)) p4⟩)
      unfold pPair
      rw [hA, if_pos a1, if_pos a2, if_neg a3]
  · (try dsimp only at a1 a2)
    rw [if_neg (fun n => n rfl)]
    refine k0 g2 _ ?_ ((RF_tok s1 f1).trans (RF_ft s2 f2)) p2
    unfold pPair
    rw [if_pos a1, if_neg a2]
  · (try dsimp only at a1)
    rw [if_neg (fun n => n rfl)]
    refine k0 g2 _ ?_ ((RF_tok s1 f1).trans (RF_ft s2 f2)) p2
    unfold pPair
    rw [if_neg a1]
end RPA
