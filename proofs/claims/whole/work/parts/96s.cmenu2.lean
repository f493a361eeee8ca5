/-! THE CLASS READS A MENU -/
def inD (t a : Nat) : Prop := a = t ∨ a = t + 9 ∨ a = t + 10 ∨ a = t + 11
def inDr (t a : Nat) : Prop := a = t ∨ t + 9 ≤ a ∧ a < t + 15
section CDV
variable {h : TH} {M : Nat → Int32} {t : Nat}
theorem S54 {C : TH → Prop} {x : Int32} (hw : Wf M) (hr : CMr h t M) (k : ∀ g, Sm (inDr t) h g → CM g t M → g.I t 0 = x → C g) : W54 t x h C := by
  have h12 := hw.n12
  unfold W54 B54_7
  refine LFP.up (aN M) (fun (j : Nat) (st : Int32 × TH) => st.1 = nI j ∧ Sm (inD t) h st.2 ∧ (∀ i, i ≠ 0 → st.2.I t i = h.I t i) ∧ st.2.I t 0 = x ∧ ∀ e, e < j → st.2.I (t + 9) e = gP M e ∧ st.2.I (t + 10) e = nP M e ∧ st.2.I (t + 11) e = wP M e) ?_ ?_ (Nat.zero_le _) ⟨rfl, Sm.sI (S := inD t) Sm.refl (Or.inl rfl) _, fun i hi => I_nk hi, I_eq, fun e he => absurd he (Nat.not_lt_zero _)⟩
  · rintro X j ⟨x2, g⟩ hj ⟨e1, sm, f, e0, er⟩ ih
    (try dsimp only at e1 sm f e0 er)
    subst e1
    have hrg : CMr g t M := CMr_pt hr (fun i h1 _ => f i (by omega)) (fun a a1 a2 e he => by rw [sm.I (by unfold inD; omega)]) (fun k hk => by rw [sm.I (by unfold inD; omega)])
    have row := hrg.row hj
    unfold F54_7
    (try dsimp only)
    rw [hrg.n, if_neg (nI_ge hj (by omega)), ix_n (by omega), row.2.2.2.2.2]
    refine ⟨inb_n (by omega), ?_⟩
    have go : ∀ p, p < aN M → ishl 1 (nI j) ||| ishl 1 (nI p) = gP M j → aNe M j ||| aNe M p = nP M j → imax (aW M j) (aW M p) = wP M j → B54_35 t (nI j) (nI p) g C X := by
      intro p hp q1 q2 q3
      have rp := hrg.row hp
      unfold B54_35
      rw [ix_n (by omega), ix_n (by omega), q1]
      refine ⟨inb_n (by omega), inb_n (by omega), inb_n (by omega), inb_n (by omega), ?_⟩
      rw [I_ne (by omega), I_ne (by omega), row.2.2.2.2.1, rp.2.2.2.2.1, q2]
      intro h2 e2
      subst e2
      refine ⟨inb_n (by omega), inb_n (by omega), inb_n (by omega), ?_⟩
      rw [I_ne (show t + 2 ≠ t + 10 by omega), I_ne (show t + 2 ≠ t + 9 by omega), I_ne (show t + 2 ≠ t + 10 by omega), I_ne (show t + 2 ≠ t + 9 by omega), row.1, rp.1, q3, nI_1]
      refine ih _ ⟨rfl, Sm.sI (S := inD t) (Sm.sI (S := inD t) (Sm.sI (S := inD t) sm (Or.inr (Or.inl rfl)) _) (Or.inr (Or.inr (Or.inl rfl))) _) (Or.inr (Or.inr (Or.inr rfl))) _, fun i hi => ?_, ?_, fun e he => ?_⟩
      · rw [I_ne (by omega), I_ne (by omega), I_ne (by omega)]; exact f i hi
      · rw [I_ne (by omega), I_ne (by omega), I_ne (by omega)]; exact e0
      · rw [I_ne (show t + 9 ≠ t + 11 by omega), I_ne (show t + 9 ≠ t + 10 by omega), I_at, I_ne (show t + 10 ≠ t + 11 by omega), I_at, I_ne (show t + 10 ≠ t + 9 by omega), I_at, I_ne (show t + 11 ≠ t + 10 by omega), I_ne (show t + 11 ≠ t + 9 by omega)]
        by_cases w : e = j
        · rw [if_pos w, if_pos w, if_pos w, w]; exact ⟨rfl, rfl, rfl⟩
        · rw [if_neg w, if_neg w, if_neg w]; exact er e (by omega)
    rcases hw.pa hj with q | ⟨p, hp, q, _⟩
    · rw [if_neg (fun n => n q)]
      refine go j hj ?_ ?_ ?_
      · unfold gP; rw [if_pos q]
        apply bt_ext; intro d _; rw [bt_or, bt_or, bt_0]; simp
      · unfold nP; rw [if_pos q]
        apply bt_ext; intro d _; rw [bt_or, bt_or, bt_0]; simp
      · unfold wP; rw [if_pos q]
        obtain ⟨w, hw1, hw2⟩ := hw.wN hj
        rw [hw2, imax_n (by omega) (by omega), Nat.max_self]
    · rw [if_pos (show ¬ aPa M j = (-1) from by rw [q]; exact nI_ne1 (by omega)), q]
      have ne : ¬ nI p = (-1) := nI_ne1 (by omega)
      refine ⟨inb_n (by omega), go p hp ?_ ?_ ?_⟩
      · unfold gP; rw [q, if_neg ne]
      · unfold nP; rw [q, if_neg ne, ix_n (by omega)]
      · unfold wP; rw [q, if_neg ne, ix_n (by omega)]
  · rintro X ⟨x2, g⟩ ⟨e1, sm, f, e0, er⟩
    (try dsimp only at e1 sm f e0 er)
    subst e1
    have hrg : CMr g t M := CMr_pt hr (fun i h1 _ => f i (by omega)) (fun a a1 a2 e he => by rw [sm.I (by unfold inD; omega)]) (fun k hk => by rw [sm.I (by unfold inD; omega)])
    unfold F54_7
    (try dsimp only)
    rw [hrg.n, if_pos (nI_le (Nat.le_refl _) (by omega))]
    refine S109 hw hrg (Or.inr (by omega)) 0 rfl (by omega) (fun g2 s2 r2 => ?_)
    refine k g2 ((sm.mono (fun a ha => by unfold inD at ha; unfold inDr; omega)).trans (s2.mono (fun a ha => by unfold inR at ha; unfold inDr; omega))) ⟨CMr_pt hrg (fun i _ _ => by rw [s2.I (by unfold inR; omega)]) (fun a _ _ e _ => by rw [s2.I (by unfold inR; omega)]) (fun k _ => by rw [s2.I (by unfold inR; omega)]), fun d hd => ?_, r2⟩ (by rw [s2.I (by unfold inR; omega)]; exact e0)
    rw [s2.I (by unfold inR; omega), s2.I (by unfold inR; omega), s2.I (by unfold inR; omega)]
    exact er d hd
end CDV
def M00 : Nat → Int32 := upd (fun _ => 0) 6 (-1)
def s00 : PS := (0, M00, fun _ => [])
theorem Wf_00 : Wf M00 ∧ aN M00 = 0 ∧ aP M00 = 0 := by
  have e0 : M00 0 = 0 := pk_un (by omega)
  have e1 : M00 1 = 0 := pk_un (by omega)
  have eN : aN M00 = 0 := by show ix (M00 0) = 0; rw [e0]; exact ix_0
  have eP : aP M00 = 0 := by show ix (M00 1) = 0; rw [e1]; exact ix_0
  exact ⟨⟨by rw [eN]; exact e0, by omega, by rw [eP]; exact e1, by omega, fun k hk => by omega, fun d hd => by omega⟩, eN, eP⟩
def inMM (a : Nat) : Prop := a = 9 ∨ 12 ≤ a ∧ a < 31
section CRM
variable {h : TH} {T : Nat → Nat} {z : Nat}
theorem S76 {C : Int32 → TH → Prop} {y : Nat} (hy : y ≤ 900) (hzy : z ≤ y) (h1 : h.I 9 1 = nI y) (hb : ∀ k, k < z → h.I 10 k = nI (T k)) (hT : ∀ k, k < z → T k < 256) (h11 : ∀ x, x < 23 → h.J 11 x = lN (cod 32 96 (wC x))) (k1 : ∀ g s', pMenu T z 901 s00 = .inr s' → Sm inMM h g → Wf s'.2.1 → CM g 16 s'.2.1 → NmC g 16 s'.2.2 (aN s'.2.1) → okF g → g.I 16 0 = h.I 15 2 + 1 → g.I 15 2 = h.I 15 2 + 1 → (∀ j, j ≠ 2 → g.I 15 j = h.I 15 j) → C 1 g) (k0 : ∀ g e, pMenu T z 901 s00 = .inl e → Sm inMM h g → CFt g e → g.I 15 = h.I 15 → C 0 g) : W76 (nI z) h C := by
  unfold W76 W52
  have sA : Sm inM h ((((h.sI 16 1 0).sI 16 2 0).sI 16 3 0).sI 16 4 0) := Sm.sI (S := inM) (Sm.sI (S := inM) (Sm.sI (S := inM) (Sm.sI (S := inM) Sm.refl (Or.inr (by omega)) _) (Or.inr (by omega)) _) (Or.inr (by omega)) _) (Or.inr (by omega)) _
  have a1 : ((((h.sI 16 1 0).sI 16 2 0).sI 16 3 0).sI 16 4 0).I 16 1 = 0 := by rw [I_nk (by decide), I_nk (by decide), I_nk (by decide), I_eq]
  have a2 : ((((h.sI 16 1 0).sI 16 2 0).sI 16 3 0).sI 16 4 0).I 16 2 = 0 := by rw [I_nk (by decide), I_nk (by decide), I_eq]
  have a3 : ((((h.sI 16 1 0).sI 16 2 0).sI 16 3 0).sI 16 4 0).I 16 3 = 0 := by rw [I_nk (by decide), I_eq]
  have a4 : ((((h.sI 16 1 0).sI 16 2 0).sI 16 3 0).sI 16 4 0).I 16 4 = 0 := I_eq
  have a9 : ((((h.sI 16 1 0).sI 16 2 0).sI 16 3 0).sI 16 4 0).I 9 = h.I 9 := by funext j; rw [I_ne (by decide), I_ne (by decide), I_ne (by decide), I_ne (by decide)]
  generalize (((h.sI 16 1 0).sI 16 2 0).sI 16 3 0).sI 16 4 0 = H at sA a1 a2 a3 a4 a9
  refine S126 (y := y) hy hzy (by rw [a9]; exact h1) (fun k hk => by rw [sA.I (by unfold inM; omega)]; exact hb k hk) hT (fun x hx => by rw [sA.J (by unfold inM; omega)]; exact h11 x hx) (fun g m s1 ct e1 e10 e11 => ?_)
  obtain ⟨W0, n0, p0⟩ := Wf_00
  have cb : CB g T z m s00 := by
    refine ⟨ct, W0, ⟨?_, ?_, ?_, ?_, fun d hd => ?_, fun k hk => ?_⟩, fun j hj => ?_, e10, e11⟩
    · rw [s1.I (by unfold inTx; omega), a1]; show (0 : Int32) = nI (aN M00); rw [n0]; rfl
    · rw [s1.I (by unfold inTx; omega), a2]; show (0 : Int32) = nI (aP M00); rw [p0]; rfl
    · rw [s1.I (by unfold inTx; omega), a3]; show (0 : Int32) = setOf _ (aN M00); rw [n0]; rfl
    · rw [s1.I (by unfold inTx; omega), a4]; show (0 : Int32) = setOf _ (aN M00); rw [n0]; rfl
    · have : d < aN M00 := hd
      omega
    · have : k < aP M00 := hk
      omega
    · have : j < aN M00 := hj
      omega
  have smA : Sm inMM h g := (sA.mono (fun a ha => by unfold inM at ha; unfold inMM; omega)).trans (s1.mono (fun a ha => by unfold inTx at ha; unfold inMM; omega))
  have e15 : g.I 15 = h.I 15 := by rw [s1.I (by unfold inTx; omega), sA.I (by unfold inM; omega)]
  unfold B76_17
  have ends : ∀ (g2 : TH) (s2 : PS), pMenu T z 901 s00 = .inr s2 → CB g2 T z m s2 → Sm inMM h g2 → g2.I 15 = h.I 15 → B76_120 g2 C := by
    intro g2 s2 e2 c2 sm2 f15
    obtain ⟨ct2, w2, r2, n2, o2⟩ := c2
    unfold B76_120
    rw [I_eq, f15]
    refine S54 w2 (CMr_pt r2 (fun i _ _ => I_ne (by decide)) (fun a _ _ e _ => I_ne (by omega)) (fun k _ => I_ne (by decide))) (fun g3 s3 c3 f3 => ?_)
    refine k1 g3 s2 e2 (sm2.trans ((Sm.sI (S := inMM) Sm.refl (Or.inr (by omega)) _).trans (s3.mono (fun a ha => by unfold inDr at ha; unfold inMM; omega)))) w2 c3 (fun j hj => by rw [s3.J (by unfold inDr; omega)]; exact n2 j hj) ⟨by rw [s3.I (by unfold inDr; omega), I_ne (by decide)]; exact o2.1, by rw [s3.I (by unfold inDr; omega), I_ne (by decide)]; exact o2.2⟩ f3 (by rw [s3.I (by unfold inDr; omega), I_eq]) (fun j hj => by rw [s3.I (by unfold inDr; omega), I_nk hj, f15])
  refine LFP.up 901 (fun (x : Nat) (st : Int32 × TH) => st.1 = nI x ∧ ∃ s1 : PS, pMenu T z (901 - x) s1 = pMenu T z 901 s00 ∧ CB st.2 T z m s1 ∧ Sm inMM h st.2 ∧ st.2.I 15 = h.I 15) ?_ ?_ (Nat.zero_le _) ⟨rfl, s00, rfl, cb, smA, e15⟩
  · rintro X x ⟨x2, g2⟩ hx ⟨e2, sB, eB, cB, smB, fB⟩ ih
    (try dsimp only at e2 cB smB fB)
    subst e2
    unfold F76_17
    (try dsimp only)
    rw [if_neg (show ¬ (900 : Int32) < nI x from nI_nlt (a := 900) (by omega) (by omega)), cB.1.2.2.2.2]
    rw [show 901 - x = (900 - x) + 1 by omega] at eB
    have eB : (if kd T z sB.1 = 34 then (Sum.inr sB : PR) else thn (pPart T z sB) (pMenu T z (900 - x))) = pMenu T z 901 s00 := eB
    have toMM : ∀ {g : TH}, Sm inM g2 g → Sm inMM h g := fun s => smB.trans (s.mono (fun a ha => by unfold inM at ha; unfold inMM; omega))
    by_cases q : kd T z sB.1 = 34
    · rw [if_pos ((ck_is (x := 34) (w := 34) (by omega) rfl).mpr q)]
      rw [if_pos q] at eB
      exact ends g2 sB eB.symm cB smB fB
    · rw [if_neg (show ¬ nI (ck (kd T z sB.1)) = 34 from fun e => q ((ck_is (x := 34) (w := 34) (by omega) rfl).mp e))]
      rw [if_neg q] at eB
      have good : ∀ (g3 : TH) (s3 : PS), pPart T z sB = .inr s3 → Sm inM g2 g3 → CB g3 T z m s3 → B76_108 (nI x) 1 g3 C X := by
        intro g3 s3 e3 sm3 c3
        unfold B76_108
        rw [if_pos (by decide), nI_1]
        refine ih _ ⟨rfl, s3, ?_, c3, toMM sm3, by rw [sm3.I (by unfold inM; omega)]; exact fB⟩
        rw [show 901 - (x + 1) = 900 - x by omega, ← eB, thn_i e3]
      have bad : ∀ (g3 : TH) (e : Nat × Nat), pPart T z sB = .inl e → Sm inM g2 g3 → CFt g3 e → B76_108 (nI x) 0 g3 C X := by
        intro g3 e e3 sm3 c3
        unfold B76_108
        rw [if_neg (fun n => n rfl)]
        exact k0 g3 e (by rw [← eB]; exact thn_l e3) (toMM sm3) c3 (by rw [sm3.I (by unfold inM; omega)]; exact fB)
      by_cases q0 : kd T z sB.1 = 0
      · rw [if_pos ((ck_is (x := 0) (w := 0) (by omega) rfl).mpr q0)]
        have eP : pPart T z sB = pDish T z sB := by unfold pPart; rw [if_pos q0]
        exact S77 cB q0 (fun g3 s3 e3 sm3 c3 => good g3 s3 (by rw [eP]; exact e3) sm3 c3) (fun g3 e e3 sm3 c3 => bad g3 e (by rw [eP]; exact e3) sm3 c3)
      · rw [if_neg (show ¬ nI (ck (kd T z sB.1)) = 0 from fun e => q0 ((ck_is (x := 0) (w := 0) (by omega) rfl).mp e))]
        by_cases q1 : kd T z sB.1 = 1
        · rw [if_pos ((ck_is (x := 8) (w := 1) (by omega) rfl).mpr q1)]
          have eP : pPart T z sB = pPair T z sB := by unfold pPart; rw [if_neg q0, if_pos q1]
          exact S83 cB q1 (fun g3 s3 e3 sm3 c3 => good g3 s3 (by rw [eP]; exact e3) sm3 c3) (fun g3 e e3 sm3 c3 => bad g3 e (by rw [eP]; exact e3) sm3 c3)
        · rw [if_neg (show ¬ nI (ck (kd T z sB.1)) = 8 from fun e => q1 ((ck_is (x := 8) (w := 1) (by omega) rfl).mp e))]
          by_cases q2 : kd T z sB.1 = 2
          · rw [if_pos ((ck_is (x := 9) (w := 2) (by omega) rfl).mpr q2)]
            have eP : pPart T z sB = pThePots T z sB := by unfold pPart; rw [if_neg q0, if_neg q1, if_pos q2]
            exact S86 cB q2 (fun g3 s3 e3 sm3 c3 => good g3 s3 (by rw [eP]; exact e3) sm3 c3) (fun g3 e e3 sm3 c3 => bad g3 e (by rw [eP]; exact e3) sm3 c3)
          · rw [if_neg (show ¬ nI (ck (kd T z sB.1)) = 9 from fun e => q2 ((ck_is (x := 9) (w := 2) (by omega) rfl).mp e))]
            exact S136 cB.1 (fun g3 s3 f3 p3 => bad g3 _ (by unfold pPart; rw [if_neg q0, if_neg q1, if_neg q2]) (mono9 s3) p3)
  · rintro X ⟨x2, g2⟩ ⟨e2, sB, eB, cB, smB, fB⟩
    (try dsimp only at e2 cB smB fB)
    subst e2
    unfold F76_17
    (try dsimp only)
    rw [if_pos (show (900 : Int32) < nI 901 by decide +kernel)]
    exact ends g2 sB eB.symm cB smB fB
end CRM
