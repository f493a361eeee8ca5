/-! COOKING: one STEP done by the reference -/
def RKo (h g : TH) : Prop := Sm (fun a => a = 197 ∨ a = 198 ∨ a = 206) h g ∧ (∀ j, j ≠ 25 → (j < 40 ∨ 47 < j) → g.I 197 j = h.I 197 j) ∧ ∀ j, j ≠ 2 → j ≠ 3 → (j < 112 ∨ 124 ≤ j) → g.I 198 j = h.I 198 j
section RKS
variable {h : TH} {M : Nat → Int32} {dr : Int32} {s : CK} {w a b c p : Nat} {S2 U2 : Int32}
theorem RKo.refl : RKo h h := ⟨Sm.refl, fun _ _ _ => rfl, fun _ _ _ _ => rfl⟩
theorem RKo.trans {g g' : TH} (p : RKo h g) (q : RKo g g') : RKo h g' := ⟨p.1.trans q.1, fun j a b => by rw [q.2.1 j a b, p.2.1 j a b], fun j a b c => by rw [q.2.2 j a b c, p.2.2 j a b c]⟩
theorem RBo.k {g : TH} (p : RBo h g) : RKo h g := ⟨p.1, fun j a b => p.2.1 j a (by omega) (by omega) (by omega), p.2.2⟩
theorem RKo.ma {g : TH} (p : RKo h g) (hM : MA h M) : MA g M := fun k hk => by rw [p.2.2 k (by omega) (by omega) (by omega)]; exact hM k hk
theorem abd_next (hw : Wf M) {S U : Int32} {A : Nat → Nat} (ab : abd M S U A) (sub : ∀ e, e < 32 → bt S2 e = true → bt U2 e = false → bt S e = true → bt U e = false) : abd M (stS M S2 U2 S A) U2 (A3 M S A) := by
  have h12 := hw.n12
  intro d hd w1 w2 w3
  unfold stS at w1
  rw [bt_and, bt_not _ (by omega)] at w1
  simp only [Bool.and_eq_true, Bool.not_eq_true'] at w1
  obtain ⟨k1, k2, k3⟩ := kpN_eq hw hd
  have kpos := k3.mp w3
  unfold A3
  cases u : bt S d with
  | true =>
    have := ab d hd u (sub d (by omega) w1.1 w2 u) w3
    have ne1 : A d ≠ 1 := fun y => by
      have := (gon_bt (M := M) (S := S2) (U := U2) (old := S) (A := A) (n := aN M) (d := d) (by omega)).mpr ⟨hd, agP_iff.mpr ⟨w1.1, w2, u, w3⟩, y⟩
      rw [w1.2] at this; exact absurd this (by decide)
    rw [if_pos rfl]; omega
  | false => rw [if_neg (by decide)]; omega
/-- the reference ends a STEP -/
theorem S315e {C : TH → Prop} {g : TH} {W2 x2 b2 m2 f2 : Int32} (hw : Wf M) (hM : MA h M) (rk : RKo h g) (s2 : St (aN M) S2) (u2 : St (aN M) U2) (sS : St (aN M) (ckS s)) (e2 : g.I 198 2 = S2) (e3 : g.I 198 3 = U2) (e41 : g.I 197 41 = W2) (e42 : g.I 197 42 = nI (ckK s)) (e43 : g.I 197 43 = m2) (e47 : g.I 197 47 = f2) (e44 : g.I 197 44 = ckO s) (e45 : g.I 197 45 = b2) (e46 : g.I 197 46 = ckP s) (e48 : g.I 197 48 = dr) (e40 : g.I 197 40 = x2) (ag : agR g M S2 U2 (ckS s) (ckG s)) (ab : abd M (ckS s) (ckU s) (ckG s)) (sub : ∀ e, e < 32 → bt S2 e = true → bt U2 e = false → bt (ckS s) e = true → bt (ckU s) e = false) (kk : ∀ g', RKo h g' → CKr g' M dr (ckE M s S2 U2 W2 x2 b2 m2 f2) → C g') : B315_73 (ckS s) g C := by
  have h12 := hw.n12
  unfold B315_73
  rw [e42, nI_1]
  have hM1 : MA (g.sI 197 42 (nI (ckK s + 1))) M := fun j hj => by rw [I_ne (by decide)]; exact rk.ma hM j hj
  refine S269 (S := S2) (U := U2) (A := ckG s) hw hM1 (by rw [I_ne (by decide)]; exact e2) (by rw [I_ne (by decide)]; exact e3) s2 u2 sS (fun d hd q => ?_) (fun g2 sm a2 ao aa => ?_)
  · obtain ⟨q1, q2, q3, q4⟩ := agP_iff.mp q
    rw [I_ne (by decide)]
    exact ⟨(ag d hd q1 q2 q4).1 q3, agP_bd hw ab sub d hd q⟩
  · have f7 : ∀ j, j ≠ 42 → g2.I 197 j = g.I 197 j := fun j hj => by rw [sm.I (by decide), I_nk hj]
    have f42 : g2.I 197 42 = nI (ckK s + 1) := by rw [sm.I (by decide), I_eq]
    refine S234 (St_mono (gon_St (by omega)) h12) ?_
    rw [I_nk (show (46 : Nat) ≠ 42 by decide), e46, show ix 2 = 2 from rfl, I_ne (show (198 : Nat) ≠ 197 by decide), a2]
    refine S234 (St_mono (St_and _ s2 (by omega)) h12) ?_
    rw [I_nk (show (44 : Nat) ≠ 46 by decide), f7 44 (by decide), e44]
    have n7 : ∀ (v1 v2 : Int32) (j : Nat), j ≠ 44 → j ≠ 46 → j ≠ 42 → ((g2.sI 197 46 v1).sI 197 44 v2).I 197 j = g.I 197 j := fun v1 v2 j h1 h2 h3 => by rw [I_nk h1, I_nk h2, f7 j h3]
    have n8 : ∀ (v1 v2 : Int32) (j : Nat), ((g2.sI 197 46 v1).sI 197 44 v2).I 198 j = g2.I 198 j := fun v1 v2 j => by rw [I_ne (by decide), I_ne (by decide)]
    refine kk _ (rk.trans ⟨?_, fun j j25 hj => n7 _ _ j (by omega) (by omega) (by omega), fun j j2 _ hj => ?_⟩) ⟨?_, ?_, ?_, ?_, ?_, ?_, ?_, ?_, ?_, ?_, ?_, ?_, abd_next hw ab sub⟩
    · exact Sm.sI (S := fun a => a = 197 ∨ a = 198 ∨ a = 206) (Sm.sI (S := fun a => a = 197 ∨ a = 198 ∨ a = 206) ((Sm.sI (S := fun a => a = 197 ∨ a = 198 ∨ a = 206) Sm.refl (Or.inl rfl) _).trans (sm.mono (fun a ha => Or.inr (Or.inl ha)))) (Or.inl rfl) _) (Or.inl rfl) _
    · rw [n8, ao j j2 hj, I_ne (by decide)]
    · rw [n8]; exact a2
    · rw [n8, ao 3 (by decide) (by omega), I_ne (by decide)]; exact e3
    · rw [n7 _ _ 41 (by decide) (by decide) (by decide)]; exact e41
    · rw [I_nk (by decide), I_nk (by decide)]; exact f42
    · rw [n7 _ _ 43 (by decide) (by decide) (by decide)]; exact e43
    · rw [n7 _ _ 47 (by decide) (by decide) (by decide)]; exact e47
    · rw [I_eq]; rfl
    · rw [n7 _ _ 45 (by decide) (by decide) (by decide)]; exact e45
    · rw [I_nk (by decide), I_eq]; rfl
    · rw [n7 _ _ 48 (by decide) (by decide) (by decide)]; exact e48
    · rw [n7 _ _ 40 (by decide) (by decide) (by decide)]; exact e40
    · refine ag_next hw ag (fun d hd => ?_)
      rw [n8, aa d hd, I_ne (by decide)]
theorem S315 {C : TH → Prop} (hw : Wf M) (hM : MA h M) (hp : 124 ≤ p) (hp2 : p + 5 ≤ 440) (r0 : h.I 198 p = nI w) (r1 : h.I 198 (p + 1) = nI a) (r2 : w = 11 → h.I 198 (p + 2) = nI b) (r4 : h.I 198 (p + 4) = nI c) (hwa : isAct w) (ha : a < aN M) (hb : w = 11 → b < aN M) (i : ckI M s) (ck : CKr h M dr s) (kk : ∀ g, RKo h g → CKr g M dr (ckA M dr w a b c s) → C g) : W315 (nI p) h C := by
  obtain ⟨k2, k3, k41, k42, k43, k47, k44, k45, k46, k48, k40, kag, kab⟩ := ck
  unfold W315
  rw [nI_1, show (2 : Int32) = nI 2 from rfl, nI_add, show (4 : Int32) = nI 4 from rfl, nI_add, ix_n (j := p) (by omega), ix_n (j := p + 1) (by omega), ix_n (j := p + 2) (by omega), ix_n (j := p + 4) (by omega), ix_n (j := 2) (by omega), r0, r1, k2]
  refine ⟨inb_n (by omega), inb_n (by omega), inb_n (by omega), ?_⟩
  refine S314 (b := b) (A := ckG s) hw hM hwa ha (fun u => ⟨hb u, r2 u⟩) ⟨k41, k48, k40, k45⟩ k2 k3 i.1 i.2.1 i.2.2.1 kag (fun r er g rb rx a2 a3 ag => ?_) (fun en g ra e8 => ?_)
  · rw [if_pos (by decide)]
    obtain ⟨o1, o2, o3, o4⟩ := act_ok hw ha hb i.1 i.2.1 i.2.2.1 er
    refine S315e (s := s) (m2 := ckM s) (f2 := ckF s) hw hM rb.k o1 o2 i.1 a2 a3 rx.1 (by rw [rb.2.1 42 (by decide) (by decide) (by decide) (by decide)]; exact k42) (by rw [rb.2.1 43 (by decide) (by decide) (by decide) (by decide)]; exact k43) (by rw [rb.2.1 47 (by decide) (by decide) (by decide) (by decide)]; exact k47) (by rw [rb.2.1 44 (by decide) (by decide) (by decide) (by decide)]; exact k44) rx.2.2.2 (by rw [rb.2.1 46 (by decide) (by decide) (by decide) (by decide)]; exact k46) rx.2.1 rx.2.2.1 ag kab o4 (fun g' rk' c' => kk g' rk' ?_)
    unfold ckA; rw [er]; exact c'
  · rw [if_neg (fun n => n rfl)]
    have eA : ckA M dr w a b c s = ckE M s (ckS s) (ckU s) (ckW s) (ckX s) (ckB s) (ckM s + 1) (if ckF s = (-1) then nI c else ckF s) := by unfold ckA; rw [en]
    have g43 : g.I 197 43 = ckM s := by rw [ra.2.1 43 (by decide)]; exact k43
    have g47 : g.I 197 47 = ckF s := by rw [ra.2.1 47 (by decide)]; exact k47
    rw [g43, I_nk (show (47 : Nat) ≠ 43 by decide), g47, I_ne (show (198 : Nat) ≠ 197 by decide), e8, r4]
    have done : ∀ v : Int32, v = (if ckF s = (-1) then nI c else ckF s) → B315_70 (ckS s) v (g.sI 197 43 (ckM s + 1)) C := by
      intro v hv
      unfold B315_70
      have n7 : ∀ j, j ≠ 43 → j ≠ 47 → ((g.sI 197 43 (ckM s + 1)).sI 197 47 v).I 197 j = g.I 197 j := fun j h1 h2 => by rw [I_nk h2, I_nk h1]
      have n8 : ∀ j, ((g.sI 197 43 (ckM s + 1)).sI 197 47 v).I 198 j = h.I 198 j := fun j => by rw [I_ne (by decide), I_ne (by decide), e8]
      have rk : RKo h ((g.sI 197 43 (ckM s + 1)).sI 197 47 v) := ra.b.k.trans ⟨Sm.sI (S := fun a => a = 197 ∨ a = 198 ∨ a = 206) (Sm.sI (S := fun a => a = 197 ∨ a = 198 ∨ a = 206) Sm.refl (Or.inl rfl) _) (Or.inl rfl) _, fun j _ hj => n7 j (by omega) (by omega), fun j _ _ _ => by rw [I_ne (by decide), I_ne (by decide)]⟩
      have f : ∀ j, j ≠ 43 → j ≠ 47 → j ≠ 25 → ((g.sI 197 43 (ckM s + 1)).sI 197 47 v).I 197 j = h.I 197 j := fun j h1 h2 h3 => by rw [n7 j h1 h2, ra.2.1 j h3]
      refine S315e (s := s) (S2 := ckS s) (U2 := ckU s) (W2 := ckW s) (x2 := ckX s) (b2 := ckB s) (m2 := ckM s + 1) (f2 := if ckF s = (-1) then nI c else ckF s) (dr := dr) hw hM rk i.1 i.2.1 i.1 (by rw [n8]; exact k2) (by rw [n8]; exact k3) (by rw [f 41 (by decide) (by decide) (by decide)]; exact k41) (by rw [f 42 (by decide) (by decide) (by decide)]; exact k42) (by rw [I_nk (by decide), I_eq]) (by rw [I_eq]; exact hv) (by rw [f 44 (by decide) (by decide) (by decide)]; exact k44) (by rw [f 45 (by decide) (by decide) (by decide)]; exact k45) (by rw [f 46 (by decide) (by decide) (by decide)]; exact k46) (by rw [f 48 (by decide) (by decide) (by decide)]; exact k48) (by rw [f 40 (by decide) (by decide) (by decide)]; exact k40) (fun d hd u1 u2 u3 => ⟨fun _ => by rw [n8]; exact kag d hd u1 u2 u3, fun o => by rw [u1] at o; exact absurd o (by decide)⟩) kab (fun e he _ u2 _ => u2) (fun g' rk' c' => kk g' rk' (by rw [eA]; exact c'))
    by_cases q : ckF s = (-1)
    · rw [if_neg (fun n => n q)]
      exact ⟨inb_n (by omega), done (nI c) (by rw [if_pos q])⟩
    · rw [if_pos q]
      exact done _ (by rw [if_neg q])
end RKS
