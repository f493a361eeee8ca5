/-! THE REFERENCE READS A MENU: all of it -/
def mFld (h g : TH) : Prop := ∀ j, (j < 10 ∨ 19 < j) → j ≠ 2 → g.I 197 j = h.I 197 j
section RM3
variable {h : TH} {T : Nat → Nat} {z : Nat}
theorem S242 {C : Int32 → TH → Prop} {y : Nat} (hy : y ≤ 900) (h10 : h.I 197 10 = nI y) (hzy : z ≤ y) (hb : ∀ k, k < z → (h.I 203 k) &&& 255 = nI (T k)) (hT : ∀ k, k < z → T k < 256) (k1 : ∀ g s', pMenu T z 901 s00 = .inr s' → Sm inR4 h g → (∀ k, k < 440 → g.I 198 k = s'.2.1 k) → (∀ k, 440 ≤ k → k < 1760 → g.I 198 k = h.I 198 k) → NmR g 0 s'.2.2 (aN s'.2.1) → (∀ k, 12 ≤ k → k < 48 → g.J 199 k = h.J 199 k) → mFld h g → g.I 197 2 = 0 → g.I 197 10 = 0 → g.I 197 16 = 0 → g.I 197 17 = -1 → Wf s'.2.1 → C (s'.2.1 0) g) (k0 : ∀ g e, pMenu T z 901 s00 = .inl e → Sm inR4 h g → (∀ k, k < 1760 → g.I 198 k = h.I 198 k) → (∀ k, k < 48 → g.J 199 k = h.J 199 k) → mFld h g → g.I 197 2 = 9 → g.I 197 10 = 0 → g.I 197 16 = nI e.1 → g.I 197 17 = nI e.2 → C (-1) g) : W242 (nI z) h C := by
  unfold W242
  refine S225 (mx := 900) hy h10 hzy (by omega) (by omega) hb hT (fun g sm rt z18 z17 z19 z10 fl => ?_)
  rw [if_pos (by decide)]
  unfold B242_19
  refine LFP.up 440 (fun (j : Nat) (st : Int32 × TH) => st.1 = nI j ∧ RFw g st.2 ∧ (∀ i, st.2.I 197 i = g.I 197 i) ∧ RT st.2 T z 0 ∧ ∀ k, k < j → st.2.I 198 (1760 + k) = 0) ?_ ?_ (Nat.zero_le _) ⟨rfl, RFw.refl, fun _ => rfl, rt, fun k hk => absurd hk (Nat.not_lt_zero _)⟩
  · rintro X j ⟨x2, g1⟩ hj ⟨e1, rf, f, rt1, m⟩ ih
    (try dsimp only at e1 rf f rt1 m)
    subst e1
    unfold F242_19
    (try dsimp only)
    rw [if_neg (show ¬ (440 : Int32) ≤ nI j from nI_ge (b := 440) hj (by omega)), show (1760 : Int32) = nI 1760 from rfl, nI_add, ix_n (by omega), nI_1]
    refine ⟨inb_n (by omega), ih _ ⟨rfl, rf.trans (RF_198 (by omega)).w, fun i => by rw [I_ne (by decide)]; exact f i, RT_198 rt1, fun k hk => ?_⟩⟩
    (try dsimp only)
    rw [I_at]
    by_cases w : k = j
    · rw [if_pos (by omega)]
    · rw [if_neg (by omega)]; exact m k (by omega)
  · rintro X ⟨x2, g1⟩ ⟨e1, rf, f, rt1, m⟩
    (try dsimp only at e1 rf f rt1 m)
    subst e1
    unfold F242_19
    (try dsimp only)
    rw [if_pos (show (440 : Int32) ≤ nI 440 by decide +kernel), show ix 1766 = 1766 from rfl]
    have rm0 : RMs (g1.sI 198 1766 (-1)) M00 := by
      have : RMs g1 (fun _ => 0) := fun k hk => m k hk
      exact RMs_upd (k := 6) this rfl
    have rf0 : RFw g (g1.sI 198 1766 (-1)) := rf.trans (RF_198 (by omega)).w
    have rt0 : RT (g1.sI 198 1766 (-1)) T z 0 := RT_198 rt1
    have f0 : ∀ i, (g1.sI 198 1766 (-1)).I 197 i = g.I 197 i := fun i => by rw [I_ne (by decide)]; exact f i
    generalize g1.sI 198 1766 (-1) = G at rm0 rf0 rt0 f0 ⊢
    obtain ⟨W0, n0, p0⟩ := Wf_00
    have rb : RB G T z s00 := ⟨rt0, rm0, fun j hj => by have : j < aN M00 := hj; omega, by rw [f0]; exact z18, W0, by rw [f0, z19]; show (0 : Int32) = if aP M00 = 0 then 0 else 1; rw [if_pos p0]⟩
    -- the end, without a FAULT and with one
    have smw : ∀ {g2 : TH}, RFw g g2 → Sm inR4 h g2 := fun r => (sm.mono (fun a ha => ha.elim (fun w => Or.inl (Or.inl w)) Or.inr)).trans (r.1.mono (fun a ha => Or.inl ha))
    have fbad : ∀ (g2 : TH) (e : Nat × Nat), pMenu T z 901 s00 = .inl e → RFw g g2 → RFt g2 e → B242_73 g2 C := by
      intro g2 e e2 rf2 p2
      obtain ⟨p1, p3, p4, p5⟩ := p2
      unfold B242_73
      have ne : ¬ g2.I 197 18 = 0 := by rw [p1]; exact nI_ne0 (by omega) (by omega)
      rw [if_pos ne]
      unfold B242_140 W233
      rw [I_nk (by decide), if_neg (by rw [p1]; exact nI_nle (by omega) (by omega))]
      unfold W205
      refine k0 _ e e2 ((smw rf2).trans (Sm.sI (S := inR4) (Sm.sI (S := inR4) Sm.refl (Or.inl (Or.inl rfl)) _) (Or.inl (Or.inl rfl)) _)) (fun k hk => ?_) (fun k hk => ?_) (fun j hj h2 => ?_) I_eq ?_ ?_ ?_
      · rw [I_ne (by decide), I_ne (by decide), rf2.2.1 k hk, sm.I (by decide)]
      · show g2.J 199 k = _
        rw [rf2.2.2.1 k hk, sm.J (by decide)]
      · rw [I_nk h2, I_nk (by omega), rf2.2.2.2 j (by omega), fl j (by omega)]
      · rw [I_nk (by decide), I_nk (by decide), rf2.2.2.2 10 (by omega)]; exact z10
      · rw [I_nk (by decide), I_eq, p1]
      · rw [I_nk (by decide), I_nk (by decide), p3]
    have fgood : ∀ (g2 : TH) (s2 : PS), pMenu T z 901 s00 = .inr s2 → RFw g g2 → RB g2 T z s2 → B242_73 g2 C := by
      intro g2 s2 e2 rf2 c2
      have z17' := c2.1.1.2.1.2
      obtain ⟨_, rm2, rn2, y18, w2, _⟩ := c2
      have h12 := w2.n12
      unfold B242_73
      rw [if_neg (fun n => n y18)]
      unfold B242_82
      refine LFP.up 440 (fun (j : Nat) (st : Int32 × TH) => st.1 = nI j ∧ Sm inR4 h st.2 ∧ (∀ i, st.2.I 197 i = g2.I 197 i) ∧ (∀ k, k < j → st.2.I 198 k = s2.2.1 k) ∧ (∀ k, 440 ≤ k → st.2.I 198 k = g2.I 198 k) ∧ st.2.J 199 = g2.J 199) ?_ ?_ (Nat.zero_le _) ⟨rfl, smw rf2, fun _ => rfl, fun k hk => absurd hk (Nat.not_lt_zero _), fun _ _ => rfl, rfl⟩
      · rintro X j ⟨x3, g3⟩ hj ⟨e3, s3, f3, m3, o3, j3⟩ ih
        (try dsimp only at e3 s3 f3 m3 o3 j3)
        subst e3
        unfold F242_82
        (try dsimp only)
        rw [if_neg (show ¬ (440 : Int32) ≤ nI j from nI_ge (b := 440) hj (by omega)), show (1760 : Int32) = nI 1760 from rfl, nI_add, ix_n (by omega), ix_n (by omega), nI_1, o3 _ (by omega), rm2 j hj]
        refine ⟨inb_n (by omega), inb_n (by omega), ih _ ⟨rfl, Sm.sI (S := inR4) s3 (Or.inl (Or.inr (Or.inl rfl))) _, fun i => by rw [I_ne (by decide)]; exact f3 i, fun k hk => ?_, fun k hk => by rw [I_nk (by omega)]; exact o3 k hk, j3⟩⟩
        (try dsimp only)
        rw [I_at]
        by_cases w : k = j
        · rw [if_pos w, w]
        · rw [if_neg w]; exact m3 k (by omega)
      · rintro X ⟨x3, g3⟩ ⟨e3, s3, f3, m3, o3, j3⟩
        (try dsimp only at e3 s3 f3 m3 o3 j3)
        subst e3
        unfold F242_82
        (try dsimp only)
        rw [if_pos (show (440 : Int32) ≤ nI 440 by decide +kernel)]
        unfold B242_113
        refine LFP.up 12 (fun (j : Nat) (st : Int32 × TH) => st.1 = nI j ∧ Sm inR4 h st.2 ∧ (∀ a, st.2.I a = g3.I a) ∧ (∀ k, k < j → st.2.J 199 k = g3.J 199 (48 + k)) ∧ (∀ k, 12 ≤ k → st.2.J 199 k = g3.J 199 k)) ?_ ?_ (Nat.zero_le _) ⟨rfl, s3, fun _ => rfl, fun k hk => absurd hk (Nat.not_lt_zero _), fun _ _ => rfl⟩
        · rintro Y j ⟨x4, g4⟩ hj ⟨e4, s4, f4, m4, o4⟩ ih
          (try dsimp only at e4 s4 f4 m4 o4)
          subst e4
          unfold F242_113
          (try dsimp only)
          rw [if_neg (show ¬ (12 : Int32) ≤ nI j from nI_ge (b := 12) hj (by omega)), show (48 : Int32) = nI 48 from rfl, nI_add, ix_n (by omega), ix_n (by omega), nI_1, o4 _ (by omega)]
          refine ⟨inb_n (by omega), inb_n (by omega), ih _ ⟨rfl, Sm.sJ (S := inR4) s4 (Or.inl (Or.inr (Or.inr rfl))) _, fun a => f4 a, fun k hk => ?_, fun k hk => by rw [J_at, if_neg (by omega)]; exact o4 k hk⟩⟩
          (try dsimp only)
          rw [J_at]
          by_cases w : k = j
          · rw [if_pos w, w]
          · rw [if_neg w]; exact m4 k (by omega)
        · rintro Y ⟨x4, g4⟩ ⟨e4, s4, f4, m4, o4⟩
          (try dsimp only at e4 s4 f4 m4 o4)
          subst e4
          unfold F242_113
          (try dsimp only)
          have y18' : g4.I 197 18 = 0 := by rw [f4, f3]; exact y18
          rw [if_pos (show (12 : Int32) ≤ nI 12 by decide +kernel)]
          unfold B242_140 W233
          rw [I_nk (by decide), y18', if_pos (by decide), show ix 0 = 0 from rfl, f4, m3 0 (by omega)]
          unfold W206
          refine k1 _ s2 e2 (s4.trans (Sm.sI (S := inR4) (Sm.sI (S := inR4) Sm.refl (Or.inl (Or.inl rfl)) _) (Or.inl (Or.inl rfl)) _)) (fun k hk => ?_) (fun k h1 h2 => ?_) (fun j hj => ?_) (fun k h1 h2 => ?_) (fun j hj h2 => ?_) I_eq ?_ ?_ ?_ w2
          · rw [I_ne (by decide), I_ne (by decide), f4]; exact m3 k hk
          · rw [I_ne (by decide), I_ne (by decide), f4, o3 k h1, rf2.2.1 k h2, sm.I (by decide)]
          · show g4.J 199 (0 + j) = _ ∧ _
            rw [Nat.zero_add, m4 j (by omega), j3]
            exact rn2 j hj
          · show g4.J 199 k = _
            rw [o4 k h1, j3, rf2.2.2.1 k h2, sm.J (by decide)]
          · rw [I_nk h2, I_nk (by omega), f4, f3, rf2.2.2.2 j (by omega), fl j (by omega)]
          · rw [I_nk (by decide), I_nk (by decide), f4, f3, rf2.2.2.2 10 (by omega)]; exact z10
          · rw [I_nk (by decide), I_eq]
          · rw [I_nk (by decide), I_nk (by decide), f4, f3]; exact z17'
    unfold B242_54
    refine LFP.ix (fun (m : Nat) (st : Int32 × TH) => RFw g st.2 ∧ ((st.1 = 1 ∧ ∃ (f : Nat) (s1 : PS), m = f + 1 ∧ pMenu T z f s1 = pMenu T z 901 s00 ∧ RB st.2 T z s1 ∧ 901 ≤ s1.1 + f) ∨ (st.1 = 0 ∧ m = 0 ∧ ∃ e, pMenu T z 901 s00 = .inl e ∧ RFt st.2 e))) ?_ (k := 902) ⟨rf0, Or.inl ⟨rfl, 901, s00, rfl, rfl, rb, by show 901 ≤ 0 + 901; omega⟩⟩
    rintro X m' ⟨x2, g2⟩ ⟨rf2, hc⟩ ih
    (try dsimp only at rf2 hc)
    unfold F242_54
    (try dsimp only)
    rcases hc with ⟨rfl, f', s1, em, eM, c1, hf⟩ | ⟨rfl, em, e, eM, p1⟩
    · rw [if_neg (by decide)]
      by_cases q : kd T z s1.1 = 34
      · rw [if_pos ((RT_12 c1.1).2.mpr q)]
        refine fgood g2 s1 ?_ rf2 c1
        rw [← eM]
        cases f' with
        | zero => rfl
        | succ f2 => show (if kd T z s1.1 = 34 then (Sum.inr s1 : PR) else _) = _; rw [if_pos q]
      · rw [if_neg (fun n => q ((RT_12 c1.1).2.mp n))]
        cases f' with
        | zero => exact absurd (kd_far (T := T) s1.1 (by omega)) q
        | succ f2 =>
          have eM2 : thn (pPart T z s1) (pMenu T z f2) = pMenu T z 901 s00 := by
            rw [← eM]
            show _ = (if kd T z s1.1 = 34 then (Sum.inr s1 : PR) else _)
            rw [if_neg q]
          refine S241 c1 (fun g3 s3 e3 rf3 c3 => ?_) (fun g3 e e3 rf3 p3 => ?_)
          · have up := pPart_up e3 c1.2.2.2.2.1.n12
            exact ih (f2 + 1) _ (by omega) ⟨rf2.trans rf3, Or.inl ⟨rfl, f2, s3, rfl, by rw [← eM2, thn_i e3], c3, by omega⟩⟩
          · exact ih 0 _ (by omega) ⟨rf2.trans rf3, Or.inr ⟨rfl, rfl, e, by rw [← eM2]; exact thn_l e3, p3⟩⟩
    · rw [if_pos rfl]
      exact fbad g2 e eM rf2 p1
end RM3
