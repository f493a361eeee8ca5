/-! THE REFERENCE READS A PLAN: all of it -/
def inPq (a : Nat) : Prop := inQp a ∨ a = 204
def pFld (h g : TH) : Prop := ∀ j, (j < 10 ∨ j = 20 ∨ 22 < j) → j ≠ 2 → g.I 197 j = h.I 197 j
section RP4
variable {h : TH} {T : Nat → Nat} {z : Nat} {N : Nat → List Nat} {n0 : Nat}
theorem S246 {C : Int32 → TH → Prop} {y : Nat} (hy : y ≤ 900) (h10 : h.I 197 10 = nI y) (hzy : z ≤ y) (hz3 : z ≤ 300) (hb : ∀ k, k < z → (h.I 203 k) &&& 255 = nI (T k)) (hT : ∀ k, k < z → T k < 256) (hN : NmR h 0 N n0) (hn0 : h.I 198 0 = nI n0) (hn12 : n0 ≤ 12) (k1 : ∀ g s', qPlan T z N n0 901 (q00 (fun k => h.I 198 (1760 + k))) = .inr s' → s'.2.2.2 = [] → Sm inPq h g → g.I 198 6 = s'.2.1 6 → (∀ k, 124 ≤ k → k < 440 → g.I 198 k = s'.2.1 k) → (∀ k, k < 124 → k ≠ 6 → g.I 198 k = h.I 198 k) → (∀ k, 440 ≤ k → k < 1760 → g.I 198 k = h.I 198 k) → pFld h g → g.I 197 2 = 0 → g.I 197 10 = 0 → g.I 197 16 = 0 → g.I 197 17 = -1 → C (nI s'.2.2.1) g) (k0 : ∀ g e, qth (qPlan T z N n0 901 (q00 (fun k => h.I 198 (1760 + k)))) (qEnd T z) = .inl e → Sm inPq h g → (∀ k, k < 1760 → g.I 198 k = h.I 198 k) → pFld h g → g.I 197 2 = 9 → g.I 197 10 = 0 → g.I 197 16 = nI e.1 → g.I 197 17 = nI e.2 → C (-1) g) : W246 (nI z) h C := by
  unfold W246
  refine S225 (mx := 300) hy h10 hzy hz3 (by omega) hb hT (fun g sm rt z18 z17 z19 z10 fl => ?_)
  rw [if_pos (by decide), show ix 1766 = 1766 from rfl]
  have g198 : g.I 198 = h.I 198 := sm.I (by decide)
  generalize hMb : (fun k => h.I 198 (1760 + k)) = Mb at *
  have eMb : ∀ k, h.I 198 (1760 + k) = Mb k := fun k => by rw [← hMb]
  have cp : RPm (((g.sI 198 1766 0).sI 197 21 0).sI 197 22 0) T z N n0 (q00 Mb).2.2.2 (q00 Mb).2.2.1 (q00 Mb).1 (q00 Mb).2.1 := by
    refine ⟨(RT_198 rt).frame (fun j j1 j2 => by rw [I_nk (by omega), I_nk (by omega)]) (by funext j; rw [I_ne (by decide), I_ne (by decide)]) (by rw [I_nk (by decide), I_nk (by decide)]), fun i hi => ?_, fun j hj => ?_, ⟨?_, hn12⟩, ?_, ?_, I_eq, fun j o ho => ?_⟩
    · rw [I_ne (by decide), I_ne (by decide)]
      exact RMs_upd (k := 6) (h := g) (M := Mb) (fun i hi => by rw [g198]; exact eMb i) rfl i hi
    · show g.J 199 (0 + j) = _ ∧ _
      rw [sm.J (by decide)]; exact hN j hj
    · rw [I_ne (by decide), I_ne (by decide), I_nk (by decide), g198]; exact hn0
    · rw [I_nk (by decide), I_nk (by decide), I_ne (by decide)]; exact z18
    · rw [I_nk (by decide), I_eq]; rfl
    · have ho' : ([] : List Nat).reverse[j]? = some o := ho
      simp at ho'
  have rf0 : RFp g (((g.sI 198 1766 0).sI 197 21 0).sI 197 22 0) := ⟨Sm.sI (S := inQp) (Sm.sI (S := inQp) (Sm.sI (S := inQp) Sm.refl (Or.inr (Or.inl rfl)) _) (Or.inl rfl) _) (Or.inl rfl) _, fun k hk => by rw [I_ne (by decide), I_ne (by decide), I_nk (by omega)], fun j hj => by rw [I_nk (by omega), I_nk (by omega), I_ne (by decide)]⟩
  generalize ((g.sI 198 1766 0).sI 197 21 0).sI 197 22 0 = G at cp rf0 ⊢
  have smw : ∀ {g2 : TH}, RFp g g2 → Sm inPq h g2 := fun r => (sm.mono (fun a ha => ha.elim (fun w => Or.inl (Or.inl w)) Or.inr)).trans (r.1.mono (fun a ha => Or.inl ha))
  have fbad : ∀ (g2 : TH) (e : Nat × Nat), qth (qPlan T z N n0 901 (q00 Mb)) (qEnd T z) = .inl e → RFp g g2 → RFt g2 e → B246_77 g2 C := by
    intro g2 e e2 rf2 p2
    obtain ⟨p1, p3, p4, p5⟩ := p2
    unfold B246_77
    have ne : ¬ g2.I 197 18 = 0 := by rw [p1]; exact nI_ne0 (by omega) (by omega)
    rw [if_pos ne]
    unfold W233
    rw [I_nk (by decide), if_neg (by rw [p1]; exact nI_nle (by omega) (by omega))]
    unfold W205
    refine k0 _ e e2 ((smw rf2).trans (Sm.sI (S := inPq) (Sm.sI (S := inPq) Sm.refl (Or.inl (Or.inl rfl)) _) (Or.inl (Or.inl rfl)) _)) (fun k hk => ?_) (fun j hj h2 => ?_) I_eq ?_ ?_ ?_
    · rw [I_ne (by decide), I_ne (by decide), rf2.2.1 k hk, g198]
    · rw [I_nk h2, I_nk (by omega), rf2.2.2 j (by omega), fl j (by omega)]
    · rw [I_nk (by decide), I_nk (by decide), rf2.2.2 10 (by omega)]; exact z10
    · rw [I_nk (by decide), I_eq, p1]
    · rw [I_nk (by decide), I_nk (by decide), p3]
  have bad57 : ∀ (g2 : TH) (e : Nat × Nat), qth (qPlan T z N n0 901 (q00 Mb)) (qEnd T z) = .inl e → RFp g g2 → RFt g2 e → B246_57 g2 C := by
    intro g2 e e2 rf2 p2
    unfold B246_57
    rw [if_pos (show ¬ g2.I 197 18 = 0 by rw [p2.1]; exact nI_ne0 (by have := p2.2.2.1; omega) (by have := p2.2.2.2; omega))]
    exact fbad g2 e e2 rf2 p2
  have good : ∀ (g2 : TH) (s2 : QS), qPlan T z N n0 901 (q00 Mb) = .inr s2 → RFp g g2 → PI s2.2.1 n0 s2.2.2.1 s2.2.2.2 → RPm g2 T z N n0 s2.2.2.2 s2.2.2.1 s2.1 s2.2.1 → B246_57 g2 C := by
    intro g2 s2 e2 rf2 pi c2
    have c2' := c2
    obtain ⟨d1, d2, d3, d4, d5, d6, d7, d8⟩ := c2
    have hl3 := pi.2.1.2.2
    unfold B246_57
    rw [if_neg (fun n => n d5), d6]
    by_cases q : s2.2.2.2 = []
    · rw [if_pos (show nI s2.2.2.2.length ≤ 0 by rw [q]; decide)]
      unfold B246_77
      rw [if_neg (fun n => n d5)]
      unfold B246_102
      have e6 : g2.I 198 1766 = s2.2.1 6 := d2 6 (by omega)
      rw [show ix 6 = 6 from rfl, show ix 1766 = 1766 from rfl, e6]
      refine LFP.up 440 (fun (j : Nat) (q : Int32 × TH) => 124 ≤ j ∧ q.1 = nI j ∧ Sm inPq h q.2 ∧ (∀ i, q.2.I 197 i = g2.I 197 i) ∧ q.2.I 198 6 = s2.2.1 6 ∧ (∀ k, 124 ≤ k → k < j → q.2.I 198 k = s2.2.1 k) ∧ ∀ k, ((k < 124 ∧ k ≠ 6) ∨ 440 ≤ k) → q.2.I 198 k = g2.I 198 k) ?_ ?_ (i := 124) (by omega) ⟨by omega, rfl, (smw rf2).trans (Sm.sI (S := inPq) Sm.refl (Or.inl (Or.inr (Or.inl rfl))) _), fun i => I_ne (by decide), I_eq, fun k h1 h2 => absurd h1 (by omega), fun k hk => I_nk (by omega)⟩
      · rintro X j ⟨x3, g3⟩ hj ⟨j1, e3, s3, f3, m6, m3, o3⟩ ih
        (try dsimp only at e3 s3 f3 m6 m3 o3)
        subst e3
        unfold F246_102
        (try dsimp only)
        rw [if_neg (show ¬ (440 : Int32) ≤ nI j from nI_ge (b := 440) hj (by omega)), show (1760 : Int32) = nI 1760 from rfl, nI_add, ix_n (by omega), ix_n (by omega), nI_1, o3 _ (by omega), d2 j hj]
        refine ⟨inb_n (by omega), inb_n (by omega), ih _ ⟨by omega, rfl, Sm.sI (S := inPq) s3 (Or.inl (Or.inr (Or.inl rfl))) _, fun i => by rw [I_ne (by decide)]; exact f3 i, by rw [I_nk (by omega)]; exact m6, fun k h1 h2 => ?_, fun k hk => by rw [I_nk (by omega)]; exact o3 k hk⟩⟩
        (try dsimp only)
        rw [I_at]
        by_cases w : k = j
        · rw [if_pos w, w]
        · rw [if_neg w]; exact m3 k h1 (by omega)
      · rintro X ⟨x3, g3⟩ ⟨j1, e3, s3, f3, m6, m3, o3⟩
        (try dsimp only at e3 s3 f3 m6 m3 o3)
        subst e3
        unfold F246_102
        (try dsimp only)
        have y18 : g3.I 197 18 = 0 := by rw [f3]; exact d5
        rw [if_pos (show (440 : Int32) ≤ nI 440 by decide +kernel)]
        unfold W233
        rw [I_nk (by decide), y18, if_pos (by decide), f3, d7]
        unfold W206
        refine k1 _ s2 e2 q (s3.trans (Sm.sI (S := inPq) (Sm.sI (S := inPq) Sm.refl (Or.inl (Or.inl rfl)) _) (Or.inl (Or.inl rfl)) _)) ?_ (fun k h1 h2 => ?_) (fun k h1 h2 => ?_) (fun k h1 h2 => ?_) (fun j hj h2 => ?_) I_eq ?_ ?_ ?_
        · rw [I_ne (by decide), I_ne (by decide)]; exact m6
        · rw [I_ne (by decide), I_ne (by decide)]; exact m3 k h1 h2
        · rw [I_ne (by decide), I_ne (by decide), o3 k (by omega), rf2.2.1 k (by omega), g198]
        · rw [I_ne (by decide), I_ne (by decide), o3 k (by omega), rf2.2.1 k (by omega), g198]
        · rw [I_nk h2, I_nk (by omega), f3, rf2.2.2 j (by omega), fl j (by omega)]
        · rw [I_nk (by decide), I_nk (by decide), f3, rf2.2.2 10 (by omega)]; exact z10
        · rw [I_nk (by decide), I_eq]
        · rw [I_nk (by decide), I_nk (by decide), f3]; exact d1.1.2.1.2
    · have hpos : 0 < s2.2.2.2.length := List.length_pos_iff.mpr q
      rw [if_neg (nI_nle hpos (by omega))]
      refine S224 (f := 2) d1 d5 (fun g4 s4 f4 p4 => ?_)
      exact fbad g4 _ (by rw [qth_i e2]; unfold qEnd; rw [if_neg q]) (rf2.trans (RFp_ft s4 f4)) p4
  unfold B246_38
  refine LFP.ix (fun (m : Nat) (st : Int32 × TH) => RFp g st.2 ∧ ((st.1 = 1 ∧ ∃ (f : Nat) (s1 : QS), m = f + 1 ∧ qPlan T z N n0 f s1 = qPlan T z N n0 901 (q00 Mb) ∧ PI s1.2.1 n0 s1.2.2.1 s1.2.2.2 ∧ RPm st.2 T z N n0 s1.2.2.2 s1.2.2.1 s1.1 s1.2.1 ∧ 901 ≤ s1.1 + f) ∨ (st.1 = 0 ∧ m = 0 ∧ ∃ e, qth (qPlan T z N n0 901 (q00 Mb)) (qEnd T z) = .inl e ∧ RFt st.2 e))) ?_ (k := 902) ⟨rf0, Or.inl ⟨rfl, 901, q00 Mb, rfl, rfl, PI_00, cp, by show 901 ≤ 0 + 901; omega⟩⟩
  rintro X m' ⟨x2, g2⟩ ⟨rf2, hc⟩ ih
  (try dsimp only at rf2 hc)
  unfold F246_38
  (try dsimp only)
  rcases hc with ⟨rfl, f', s1, em, eM, pi, c1, hf⟩ | ⟨rfl, em, e, eM, p1⟩
  · rw [if_neg (by decide)]
    by_cases q : kd T z s1.1 = 34
    · rw [if_pos ((RT_12 c1.1).2.mpr q)]
      refine good g2 s1 ?_ rf2 pi c1
      rw [← eM]
      cases f' with
      | zero => rfl
      | succ f2 => show (if kd T z s1.1 = 34 then (Sum.inr s1 : QR) else _) = _; rw [if_pos q]
    · rw [if_neg (fun n => q ((RT_12 c1.1).2.mp n))]
      cases f' with
      | zero => exact absurd (kd_far (T := T) s1.1 (by omega)) q
      | succ f2 =>
        have eM2 : qth (qStep T z N n0 s1) (qPlan T z N n0 f2) = qPlan T z N n0 901 (q00 Mb) := by
          rw [← eM]
          show _ = (if kd T z s1.1 = 34 then (Sum.inr s1 : QR) else _)
          rw [if_neg q]
        refine S245 pi c1 (fun g3 s3 e3 rf3 c3 => ?_) (fun g3 e e3 rf3 p3 => ?_)
        · have up := qStep_PI e3 pi
          exact ih (f2 + 1) _ (by omega) ⟨rf2.trans rf3, Or.inl ⟨rfl, f2, s3, rfl, by rw [← eM2, qth_i e3], up.1, c3, by omega⟩⟩
        · exact ih 0 _ (by omega) ⟨rf2.trans rf3, Or.inr ⟨rfl, rfl, e, by rw [← eM2]; exact qth_l (qth_l e3), p3⟩⟩
  · rw [if_pos rfl]
    exact bad57 g2 e eM rf2 p1
end RP4
