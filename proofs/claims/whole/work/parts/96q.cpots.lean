/-! THE CLASS READS A PAIR AND THE POTS -/
def prM (M : Nat → Int32) (a b : Nat) : Nat → Int32 := upd (upd M (16 + 8 * a + 7) (nI b)) (16 + 8 * b + 7) (nI a)
section CPO
variable {h : TH} {T : Nat → Nat} {z m : Nat} {s : PS} {M : Nat → Int32} {a b : Nat}
theorem prM_o {k : Nat} (h1 : k ≠ 16 + 8 * a + 7) (h2 : k ≠ 16 + 8 * b + 7) : prM M a b k = M k := by
  unfold prM; rw [pk_un h2, pk_un h1]
theorem prM_7 {e : Nat} : prM M a b (16 + 8 * e + 7) = if e = b then nI a else if e = a then nI b else M (16 + 8 * e + 7) := by
  unfold prM
  by_cases q : e = b
  · rw [if_pos q, q]; exact pk_us
  · rw [if_neg q, pk_un (by omega)]
    by_cases w : e = a
    · rw [if_pos w, w]; exact pk_us
    · rw [if_neg w, pk_un (by omega)]
theorem prM_N : aN (prM M a b) = aN M := by unfold aN; rw [prM_o (by omega) (by omega)]
theorem prM_P : aP (prM M a b) = aP M := by unfold aP; rw [prM_o (by omega) (by omega)]
theorem Wf_pair (hw : Wf M) (ha : a < aN M) (hb : b < aN M) (pa : aPa M a = (-1)) (pb : aPa M b = (-1)) (h1 : bhB M a b = false) (h2 : bhB M b a = false) : Wf (prM M a b) ∧ a ≠ b := by
  have h12 := hw.n12
  have nh : ∀ x y, bhB M x y = false → ¬ bh M x y := fun x y e w => absurd (bhB_iff.mpr w) (by rw [e]; decide)
  have hab : a ≠ b := fun e => nh a b h1 (by rw [e]; exact bh_self)
  have hP8 : aP M ≤ 8 := hw.2.2.2.1
  have fA : bt (aNe M a) b = false := by
    cases e : bt (aNe M a) b with
    | false => rfl
    | true => exact absurd (bh_need ha (by omega) e) (nh a b h1)
  have fB : bt (aNe M b) a = false := by
    cases e : bt (aNe M b) a with
    | false => rfl
    | true => exact absurd (bh_need hb (by omega) e) (nh b a h2)
  refine ⟨⟨?_, ?_, ?_, ?_, fun k hk => ?_, fun e he => ?_⟩, hab⟩
  · rw [prM_N, prM_o (by omega) (by omega)]; exact hw.eN
  · rw [prM_N]; exact h12
  · rw [prM_P, prM_o (by omega) (by omega)]; exact hw.eP
  · rw [prM_P]; exact hP8
  · rw [prM_P] at hk
    rw [prM_o (by omega) (by omega)]
    exact hw.2.2.2.2.1 k hk
  · rw [prM_N] at he ⊢
    obtain ⟨m0, m1, m2, m3, m4, m5, m6, m7, m8⟩ := hw.D he
    have f7 : ∀ x f, f < 7 → prM M a b (16 + 8 * x + f) = M (16 + 8 * x + f) := fun x f hf => prM_o (by omega) (by omega)
    have g4 : ∀ x, aNe (prM M a b) x = aNe M x := fun x => f7 x 4 (by omega)
    have g7 : ∀ x, aPa (prM M a b) x = if x = b then nI a else if x = a then nI b else aPa M x := fun x => prM_7
    refine ⟨by unfold aW at m0 ⊢; rw [f7 e 0 (by omega)]; exact m0, by unfold aSz at m1 ⊢; rw [f7 e 1 (by omega)]; exact m1, by unfold aKp at m2 ⊢; rw [f7 e 2 (by omega)]; exact m2, by unfold aBu at m3 ⊢; rw [f7 e 3 (by omega)]; exact m3, by rw [g4]; exact m4, by unfold aPo at m5 ⊢; rw [f7 e 5 (by omega)]; exact m5, by unfold aOn at m6 ⊢; rw [f7 e 6 (by omega)]; exact m6, by unfold aPo at m7 ⊢; rw [g4, f7 e 5 (by omega)]; exact m7, ?_⟩
    by_cases q : e = b
    · subst q
      refine Or.inr ⟨a, ha, ?_, hab, ?_, ?_, ?_⟩
      · rw [g7, if_pos rfl]
      · rw [g7, if_neg hab, if_pos rfl]
      · rw [g4]; exact fB
      · rw [g4]; exact fA
    · by_cases w : e = a
      · subst w
        refine Or.inr ⟨b, hb, ?_, fun u => hab u.symm, ?_, ?_, ?_⟩
        · rw [g7, if_neg q, if_pos rfl]
        · rw [g7, if_pos rfl]
        · rw [g4]; exact fA
        · rw [g4]; exact fB
      · rcases m8 with u | ⟨x, x1, x2, x3, x4, x5, x6⟩
        · exact Or.inl (by rw [g7, if_neg q, if_neg w]; exact u)
        · have xa : x ≠ a := fun u => by rw [u, pa] at x4; exact absurd x4.symm (nI_ne1 (by omega))
          have xb : x ≠ b := fun u => by rw [u, pb] at x4; exact absurd x4.symm (nI_ne1 (by omega))
          refine Or.inr ⟨x, x1, ?_, x3, ?_, ?_, ?_⟩
          · rw [g7, if_neg q, if_neg w]; exact x2
          · rw [g7, if_neg xb, if_neg xa]; exact x4
          · rw [g4]; exact x5
          · rw [g4]; exact x6
theorem S83 {C : Int32 → TH → Prop} (c : CB h T z m s) (q1 : kd T z s.1 = 1) (k1 : ∀ g s', pPair T z s = .inr s' → Sm inM h g → CB g T z m s' → C 1 g) (k0 : ∀ g e, pPair T z s = .inl e → Sm inM h g → CFt g e → C 0 g) : W83 h C := by
  have c' := c
  obtain ⟨ct, hw, hr, hn, o⟩ := c
  have h12 := hw.n12
  unfold W83
  refine S133 ct (by omega) (fun g1 s1 t1 f1 => ?_)
  have c1 := CB_tok c' s1 t1 (okF_9 o f1)
  refine S84 (p := none) c1 (Or.inl ⟨rfl, rfl⟩) (fun a1 a2 a3 _ g2 s2 c2 => ?_) (fun a1 a2 a3 g2 s2 p2 => ?_) (fun a1 a2 g2 s2 p2 => ?_) (fun a1 g2 s2 p2 => ?_)
  · (try dsimp only at a1 a2 a3 c2 ⊢)
    rw [if_pos (nI_ne1 (by omega))]
    refine S84 (p := some (fnd s.2.2 (aN s.2.1) (wd T z (s.1 + 1)))) c2 (Or.inr ⟨_, rfl, rfl, a2⟩) (fun b1 b2 b3 b4 g3 s3 c3 => ?_) (fun b1 b2 b3 g3 s3 p3 => ?_) (fun b1 b2 g3 s3 p3 => ?_) (fun b1 g3 s3 p3 => ?_)
    · (try dsimp only at b1 b2 b3 b4 c3 ⊢)
      rw [if_neg (nI_ne1 (by omega))]
      have b5 := b4 _ rfl
      obtain ⟨W1, W2⟩ := Wf_pair hw a2 b2 a3 b3 b5.1 b5.2
      have eP : pPair T z s = pSemi T z (s.1 + 3, prM s.2.1 (fnd s.2.2 (aN s.2.1) (wd T z (s.1 + 1))) (fnd s.2.2 (aN s.2.1) (wd T z (s.1 + 2))), s.2.2) := by
        unfold pPair
        rw [if_pos a1, if_pos a2, if_pos a3, if_pos b1, if_pos b2, if_pos ⟨b3, b5.1, b5.2⟩]; rfl
      generalize fnd s.2.2 (aN s.2.1) (wd T z (s.1 + 1)) = a at *
      change CB g3 T z m (s.1 + 1 + 1 + 1, s.2) at c3
      have ee : fnd s.2.2 (aN s.2.1) (wd T z (s.1 + 1 + 1)) = fnd s.2.2 (aN s.2.1) (wd T z (s.1 + 2)) := rfl
      generalize fnd s.2.2 (aN s.2.1) (wd T z (s.1 + 2)) = b at *
      rw [ee] at b2 b3 b5 ⊢
      refine S137 (w := 33) c3.1 (by omega) (by omega) (fun q33 g6 s6 t6 f6 => ?_) (fun q33 g6 s6 f6 p6 => ?_)
      · rw [if_pos (by decide), ix_n (by omega), ix_n (by omega)]
        refine ⟨inb_n (by omega), inb_n (by omega), ?_⟩
        have eR : pPair T z s = .inr (s.1 + 4, prM s.2.1 a b, s.2.2) := by rw [eP]; unfold pSemi; rw [if_pos q33]
        have smF : Sm inM h ((g6.sI (16 + 7) a (nI b)).sI (16 + 7) b (nI a)) := Sm.sI (S := inM) (Sm.sI (S := inM) (mono9 (((s1.trans s2).trans s3).trans s6)) (Or.inr (by omega)) _) (Or.inr (by omega)) _
        obtain ⟨_, _, r3, n3, o3⟩ := c3
        have gI : ∀ x j, x ≠ 9 → x ≠ 23 → ((g6.sI (16 + 7) a (nI b)).sI (16 + 7) b (nI a)).I x j = g3.I x j := fun x j x1 x2 => by rw [I_ne x2, I_ne x2, s6.I x1]
        have f7 : ∀ x f, f < 7 → prM s.2.1 a b (16 + 8 * x + f) = s.2.1 (16 + 8 * x + f) := fun x f hf => prM_o (by omega) (by omega)
        refine k1 _ _ eR smF ⟨t6.frame (fun j => by rw [I_ne (by decide), I_ne (by decide)]) (by funext j; rw [I_ne (by decide), I_ne (by decide)]) (by funext j; rw [I_ne (by decide), I_ne (by decide)]) rfl, W1, ⟨?_, ?_, ?_, ?_, fun e he => ?_, fun k hk => ?_⟩, fun j hj => ?_, ?_⟩
        · rw [gI 16 1 (by decide) (by decide), r3.n]; exact congrArg nI prM_N.symm
        · rw [gI 16 2 (by decide) (by decide), r3.p]; exact congrArg nI prM_P.symm
        · rw [gI 16 3 (by decide) (by decide), r3.po]
          unfold pS
          show _ = setOf (fun d => decide (aPo (prM s.2.1 a b) d = 1)) (aN (prM s.2.1 a b))
          rw [prM_N]
          exact setOf_cg (fun j hj => by unfold aPo; rw [f7 j 5 (by omega)])
        · rw [gI 16 4 (by decide) (by decide), r3.on]
          unfold oS
          show _ = setOf (fun d => decide (aOn (prM s.2.1 a b) d = 1)) (aN (prM s.2.1 a b))
          rw [prM_N]
          exact setOf_cg (fun j hj => by unfold aOn; rw [f7 j 6 (by omega)])
        · have he' : e < aN s.2.1 := by
            have := prM_N (M := s.2.1) (a := a) (b := b)
            have he2 : e < aN (prM s.2.1 a b) := he
            omega
          have row := r3.row he'
          rw [gI (16 + 2) e (by decide) (by decide), gI (16 + 3) e (by decide) (by decide), gI (16 + 4) e (by decide) (by decide), gI (16 + 5) e (by decide) (by decide), gI (16 + 6) e (by decide) (by decide)]
          show _ = prM s.2.1 a b (16 + 8 * e + 0) ∧ _ = prM s.2.1 a b (16 + 8 * e + 1) ∧ _ = prM s.2.1 a b (16 + 8 * e + 2) ∧ _ = prM s.2.1 a b (16 + 8 * e + 3) ∧ _ = prM s.2.1 a b (16 + 8 * e + 4) ∧ _ = prM s.2.1 a b (16 + 8 * e + 7)
          rw [f7 e 0 (by omega), f7 e 1 (by omega), f7 e 2 (by omega), f7 e 3 (by omega), f7 e 4 (by omega), prM_7, I_at, I_at, s6.I (show ¬ (16 + 7 : Nat) = 9 by decide)]
          refine ⟨row.1, row.2.1, row.2.2.1, row.2.2.2.1, row.2.2.2.2.1, ?_⟩
          by_cases w : e = b
          · rw [if_pos w, if_pos w]
          · rw [if_neg w, if_neg w]
            by_cases w2 : e = a
            · rw [if_pos w2, if_pos w2]
            · rw [if_neg w2, if_neg w2]; exact row.2.2.2.2.2
        · have hk' : k < aP s.2.1 := by
            have := prM_P (M := s.2.1) (a := a) (b := b)
            have hk2 : k < aP (prM s.2.1 a b) := hk
            omega
          have hP8 : aP s.2.1 ≤ 8 := hw.2.2.2.1
          rw [gI (16 + 8) k (by decide) (by decide)]
          show _ = prM s.2.1 a b (8 + k)
          rw [prM_o (by omega) (by omega)]
          exact r3.pot hk'
        · have hj' : j < aN s.2.1 := by
            have := prM_N (M := s.2.1) (a := a) (b := b)
            have hj2 : j < aN (prM s.2.1 a b) := hj
            omega
          show g6.J (16 + 1) j = _ ∧ _
          rw [s6.J (by decide)]
          exact n3 j hj'
        · exact ⟨by rw [I_ne (by decide), I_ne (by decide)]; exact (okF_9 o3 f6).1, by rw [I_ne (by decide), I_ne (by decide)]; exact (okF_9 o3 f6).2⟩
      · rw [if_neg (fun n => n rfl)]
        exact k0 g6 _ (by rw [eP]; unfold pSemi; rw [if_neg q33]) (mono9 (((s1.trans s2).trans s3).trans s6)) p6
    · (try dsimp only at b1 b2 b3)
      rw [if_pos rfl]
      refine k0 g3 _ ?_ (mono9 ((s1.trans s2).trans s3)) p3
      unfold pPair
      rw [if_pos a1, if_pos a2, if_pos a3, if_pos b1, if_pos b2, if_neg (fun w => b3 ⟨w.1, fun a e => by rw [← Option.some.inj e]; exact w.2⟩)]
    · (try dsimp only at b1 b2)
      rw [if_pos rfl]
      refine k0 g3 _ ?_ (mono9 ((s1.trans s2).trans s3)) p3
      unfold pPair
      rw [if_pos a1, if_pos a2, if_pos a3, if_pos b1, if_neg b2]
    · (try dsimp only at b1)
      rw [if_pos rfl]
      refine k0 g3 _ ?_ (mono9 ((s1.trans s2).trans s3)) p3
      unfold pPair
      rw [if_pos a1, if_pos a2, if_pos a3, if_neg b1]
  · (try dsimp only at a1 a2 a3)
    rw [if_neg (fun n => n rfl)]
    refine k0 g2 _ ?_ (mono9 (s1.trans s2)) p2
    unfold pPair
    rw [if_pos a1, if_pos a2, if_neg (fun w => a3 ⟨w, fun a e => absurd e (by simp)⟩)]
  · (try dsimp only at a1 a2)
    rw [if_neg (fun n => n rfl)]
    refine k0 g2 _ ?_ (mono9 (s1.trans s2)) p2
    unfold pPair
    rw [if_pos a1, if_neg a2]
  · (try dsimp only at a1)
    rw [if_neg (fun n => n rfl)]
    refine k0 g2 _ ?_ (mono9 (s1.trans s2)) p2
    unfold pPair
    rw [if_neg a1]
end CPO
