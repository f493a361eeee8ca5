/-! COOKING: one STEP done. S U W k A x bu mi fi mo sp -/
abbrev CK := Int32 × Int32 × Int32 × Nat × (Nat → Nat) × Int32 × Int32 × Int32 × Int32 × Int32 × Int32
def ckS (s : CK) : Int32 := s.1
def ckU (s : CK) : Int32 := s.2.1
def ckW (s : CK) : Int32 := s.2.2.1
def ckK (s : CK) : Nat := s.2.2.2.1
def ckG (s : CK) : Nat → Nat := s.2.2.2.2.1
def ckX (s : CK) : Int32 := s.2.2.2.2.2.1
def ckB (s : CK) : Int32 := s.2.2.2.2.2.2.1
def ckM (s : CK) : Int32 := s.2.2.2.2.2.2.2.1
def ckF (s : CK) : Int32 := s.2.2.2.2.2.2.2.2.1
def ckO (s : CK) : Int32 := s.2.2.2.2.2.2.2.2.2.1
def ckP (s : CK) : Int32 := s.2.2.2.2.2.2.2.2.2.2
def ckE (M : Nat → Int32) (s : CK) (S2 U2 W2 x2 b2 m2 f2 : Int32) : CK := (stS M S2 U2 (ckS s) (ckG s), U2, W2, ckK s + 1, A3 M (ckS s) (ckG s), x2, b2, m2, f2, imax (ckO s) (nI (pc (stS M S2 U2 (ckS s) (ckG s)))), ckP s + nI (pc (gon M S2 U2 (ckS s) (ckG s) (aN M))))
def ckA (M : Nat → Int32) (dr : Int32) (w a b c : Nat) (s : CK) : CK := match actR M dr (ckX s) (ckB s) (ckS s) (ckU s) w a b with
  | some r => ckE M s r.1 r.2.1 (ckW s + r.2.2.1) r.2.2.2.1 r.2.2.2.2 (ckM s) (ckF s)
  | none => ckE M s (ckS s) (ckU s) (ckW s) (ckX s) (ckB s) (ckM s + 1) (if ckF s = (-1) then nI c else ckF s)
def ckI (M : Nat → Int32) (s : CK) : Prop := St (aN M) (ckS s) ∧ St (aN M) (ckU s) ∧ sb (ckU s) (ckS s) ∧ ckK s ≤ 300
def CKc (h : TH) (t : Nat) (M : Nat → Int32) (dr : Int32) (s : CK) : Prop := h.I t 0 = ckS s ∧ h.I t 1 = ckU s ∧ h.I t 3 = ckW s ∧ h.I t 4 = nI (ckK s) ∧ h.I t 5 = ckM s ∧ h.I t 6 = ckF s ∧ h.I t 7 = ckO s ∧ h.I t 8 = ckB s ∧ h.I t 9 = ckP s ∧ h.I t 10 = dr ∧ h.I t 11 = ckX s ∧ sncS h t M (ckS s) (ckU s) (ckG s) (ckK s)
def CKr (h : TH) (M : Nat → Int32) (dr : Int32) (s : CK) : Prop := h.I 198 2 = ckS s ∧ h.I 198 3 = ckU s ∧ h.I 197 41 = ckW s ∧ h.I 197 42 = nI (ckK s) ∧ h.I 197 43 = ckM s ∧ h.I 197 47 = ckF s ∧ h.I 197 44 = ckO s ∧ h.I 197 45 = ckB s ∧ h.I 197 46 = ckP s ∧ h.I 197 48 = dr ∧ h.I 197 40 = ckX s ∧ agS h M (ckS s) (ckU s) (ckG s) ∧ abd M (ckS s) (ckU s) (ckG s)
section CKS
variable {h : TH} {M : Nat → Int32} {dr : Int32} {s : CK} {t tm tp w a b c : Nat}
theorem ckI_E {S2 U2 W2 x2 b2 m2 f2 : Int32} (h12 : aN M ≤ 12) (i : ckI M s) (k3 : ckK s < 300) (s2 : St (aN M) S2) (u2 : St (aN M) U2) (us : sb U2 S2) : ckI M (ckE M s S2 U2 W2 x2 b2 m2 f2) := by
  refine ⟨St_and _ s2 (by omega), u2, fun e he u => ?_, k3⟩
  have u' : bt U2 e = true := u
  show bt (stS M S2 U2 (ckS s) (ckG s)) e = true
  unfold stS
  have g : bt (U2 &&& (gon M S2 U2 (ckS s) (ckG s) (aN M) ^^^ (-1))) e = true := by rw [gon_U h12]; exact u'
  rw [bt_and] at g ⊢
  simp only [Bool.and_eq_true] at g ⊢
  exact ⟨us e he u', g.2⟩
theorem ckI_A (hw : Wf M) (ha : a < aN M) (hb : w = 11 → b < aN M) (i : ckI M s) (k3 : ckK s < 300) : ckI M (ckA M dr w a b c s) := by
  unfold ckA
  split
  · rename_i r e
    obtain ⟨o1, o2, o3, _⟩ := act_ok hw ha hb i.1 i.2.1 i.2.2.1 e
    exact ckI_E hw.n12 i k3 o1 o2 o3
  · exact ckI_E hw.n12 i k3 i.1 i.2.1 i.2.2.1
/-- the class ends a STEP -/
theorem S26c {C : TH → Prop} {g : TH} {S2 U2 W2 x2 b2 m2 f2 : Int32} (hw : Wf M) (hc : CM h tm M) (hdis : ∀ a, tm ≤ a → a < tm + 15 → a ≠ t ∧ a ≠ t + 1) (sm0 : Sm (fun a => a = t ∨ a = t + 1) h g) (k3 : ckK s < 300) (s2 : St (aN M) S2) (u2 : St (aN M) U2) (c : HC g t S2 U2 W2 (ckK s) b2 dr x2) (e5 : g.I t 5 = m2) (e6 : g.I t 6 = f2) (e7 : g.I t 7 = ckO s) (e9 : g.I t 9 = ckP s) (sn : snc g t M S2 U2 (ckS s) (ckG s) (ckK s)) (kk : ∀ g', Sm (fun a => a = t ∨ a = t + 1) h g' → CKc g' t M dr (ckE M s S2 U2 W2 x2 b2 m2 f2) → C g') : W26 t tm g C := by
  obtain ⟨c0, c1, c3, c4, c8, c10, c11⟩ := c
  have hcg := CM_sm hc hdis sm0
  refine S26 hw hcg.r hdis c0 c1 c4 (by omega) s2 u2 sn (fun g2 sm a0 a1 a4 a9 a7 ao => ?_)
  refine kk g2 (sm0.trans (sm.mono (fun a ha => Or.inl ha))) ⟨a0, ?_, ?_, a4, ?_, ?_, ?_, ?_, ?_, ?_, ?_, ?_⟩
  · rw [a1]; exact gon_U hw.n12
  · rw [ao 3 (by decide) (by decide) (by decide) (by decide) (by decide)]; exact c3
  · rw [ao 5 (by decide) (by decide) (by decide) (by decide) (by decide)]; exact e5
  · rw [ao 6 (by decide) (by decide) (by decide) (by decide) (by decide)]; exact e6
  · rw [a7, e7]; rfl
  · rw [ao 8 (by decide) (by decide) (by decide) (by decide) (by decide)]; exact c8
  · rw [a9, e9]; rfl
  · rw [ao 10 (by decide) (by decide) (by decide) (by decide) (by decide)]; exact c10
  · rw [ao 11 (by decide) (by decide) (by decide) (by decide) (by decide)]; exact c11
  · exact snc_next hw sn (sm.I (by omega))
theorem S95a {C : TH → Prop} (hw : Wf M) (hc : CM h tm M) (hdis : ∀ a, tm ≤ a → a < tm + 15 → a ≠ t ∧ a ≠ t + 1) (hpt : tp + 5 ≤ t ∨ t + 1 < tp) (hp : c < 30) (e9 : h.I tp 9 = nI c) (e1 : h.I (tp + 1) c = nI w) (e2 : h.I (tp + 2) c = nI a) (e3 : w = 11 → h.I (tp + 3) c = nI b) (hwa : isAct w) (ha : a < aN M) (hb : w = 11 → b < aN M) (i : ckI M s) (k3 : ckK s < 300) (ck : CKc h t M dr s) (kk : ∀ g, Sm (fun a => a = t ∨ a = t + 1 ∨ a = tp) h g → CKc g t M dr (ckA M dr w a b c s) → g.I tp 9 = nI (c + 1) → (∀ j, j ≠ 9 → g.I tp j = h.I tp j) → C g) : W95 tp tm t h C := by
  have h12 := hw.n12
  have w30 : w < 30 ∧ w ≠ 16 ∧ w ≠ 20 := by unfold isAct at hwa; omega
  obtain ⟨k0, k1, k3', k4, k5, k6, k7, k8, k9, k10, k11, ksn⟩ := ck
  have fin : ∀ (g : TH), Sm (fun a => a = t ∨ a = t + 1) h g → CKc g t M dr (ckA M dr w a b c s) → C (g.sI tp 9 ((g.I tp 9) + 1)) := by
    intro g sm cg
    have e9' : g.I tp 9 = nI c := by rw [sm.I (by omega)]; exact e9
    rw [e9', nI_1]
    refine kk _ (Sm.sI (S := fun a => a = t ∨ a = t + 1 ∨ a = tp) (sm.mono (fun a ha => ha.imp id Or.inl)) (Or.inr (Or.inr rfl)) _) ?_ I_eq (fun j hj => by rw [I_nk hj, sm.I (by omega)])
    obtain ⟨q0, q1, q3, q4, q5, q6, q7, q8, q9, q10, q11, qs⟩ := cg
    have ne : ∀ j, (g.sI tp 9 (nI (c + 1))).I t j = g.I t j := fun j => I_ne (by omega)
    refine ⟨by rw [ne]; exact q0, by rw [ne]; exact q1, by rw [ne]; exact q3, by rw [ne]; exact q4, by rw [ne]; exact q5, by rw [ne]; exact q6, by rw [ne]; exact q7, by rw [ne]; exact q8, by rw [ne]; exact q9, by rw [ne]; exact q10, by rw [ne]; exact q11, ?_⟩
    intro d hd u1 u2 u3
    rw [I_ne (by omega)]; exact qs d hd u1 u2 u3
  unfold W95
  rw [e9, ix_n (by omega), e1, if_pos (show ¬ nI w = 16 from nIw (by omega) 16 (by omega) w30.2.1)]
  refine ⟨inb_n hp, inb_n hp, ?_⟩
  rw [if_pos (show ¬ nI w = 20 from nIw (by omega) 20 (by omega) w30.2.2)]
  have hcc : HC h t (ckS s) (ckU s) (ckW s) (ckK s) (ckB s) dr (ckX s) := ⟨k0, k1, k3', k4, k8, k10, k11⟩
  refine S98 (A := ckG s) hw hc hdis hp e9 e1 e2 e3 hwa ha hb hcc i.1 ksn (fun r er g co cg sn => ?_) (fun en => ?_)
  · rw [if_pos (by decide)]
    unfold B95_81
    obtain ⟨o1, o2, o3, _⟩ := act_ok hw ha hb i.1 i.2.1 i.2.2.1 er
    refine S26c (s := s) (m2 := ckM s) (f2 := ckF s) hw hc hdis co.1 k3 o1 o2 cg (by rw [co.2 5 (by decide) (by decide) (by decide) (by decide) (by decide)]; exact k5) (by rw [co.2 6 (by decide) (by decide) (by decide) (by decide) (by decide)]; exact k6) (by rw [co.2 7 (by decide) (by decide) (by decide) (by decide) (by decide)]; exact k7) (by rw [co.2 9 (by decide) (by decide) (by decide) (by decide) (by decide)]; exact k9) sn (fun g' sm' c' => fin g' sm' ?_)
    unfold ckA; rw [er]; exact c'
  · rw [if_neg (fun n => n rfl), e9]
    have eA : ckA M dr w a b c s = ckE M s (ckS s) (ckU s) (ckW s) (ckX s) (ckB s) (ckM s + 1) (if ckF s = (-1) then nI c else ckF s) := by unfold ckA; rw [en]
    have done : ∀ (g : TH), Sm (fun a => a = t ∨ a = t + 1) h g → (∀ j, j ≠ 5 → j ≠ 6 → g.I t j = h.I t j) → g.I (t + 1) = h.I (t + 1) → g.I t 5 = ckM s + 1 → g.I t 6 = (if ckF s = (-1) then nI c else ckF s) → B95_81 tp tm t g C := by
      intro g sm ao at1 a5 a6
      unfold B95_81
      refine S26c (s := s) (W2 := ckW s) (x2 := ckX s) (b2 := ckB s) (dr := dr) hw hc hdis sm k3 i.1 i.2.1 ⟨by rw [ao 0 (by decide) (by decide)]; exact k0, by rw [ao 1 (by decide) (by decide)]; exact k1, by rw [ao 3 (by decide) (by decide)]; exact k3', by rw [ao 4 (by decide) (by decide)]; exact k4, by rw [ao 8 (by decide) (by decide)]; exact k8, by rw [ao 10 (by decide) (by decide)]; exact k10, by rw [ao 11 (by decide) (by decide)]; exact k11⟩ a5 a6 (by rw [ao 7 (by decide) (by decide)]; exact k7) (by rw [ao 9 (by decide) (by decide)]; exact k9) (fun d hd u1 u2 u3 => ⟨fun _ => by rw [at1]; exact ksn d hd u1 u2 u3, fun o => by rw [u1] at o; exact absurd o (by decide)⟩) (fun g' sm' c' => fin g' sm' (by rw [eA]; exact c'))
    unfold W27
    rw [k5, I_nk (show (6 : Nat) ≠ 5 by decide), k6]
    have sm1 : Sm (fun a => a = t ∨ a = t + 1) h (h.sI t 5 (ckM s + 1)) := Sm.sI (S := fun a => a = t ∨ a = t + 1) Sm.refl (Or.inl rfl) _
    by_cases q : ckF s = (-1)
    · rw [if_neg (fun n => n q)]
      exact done _ (Sm.sI (S := fun a => a = t ∨ a = t + 1) sm1 (Or.inl rfl) _) (fun j j5 j6 => by rw [I_nk j6, I_nk j5]) (by funext j; rw [I_ne (by omega), I_ne (by omega)]) (by rw [I_nk (by decide), I_eq]) (by rw [I_eq, if_pos q])
    · rw [if_pos q]
      exact done _ sm1 (fun j j5 _ => I_nk j5) (by funext j; rw [I_ne (by omega)]) I_eq (by rw [I_nk (by decide), k6, if_neg q])
end CKS
