/-! BY HAND: both sides' calls -/
def stS (M : Nat → Int32) (S2 U2 old : Int32) (A : Nat → Nat) : Int32 := S2 &&& (gon M S2 U2 old A (aN M) ^^^ (-1))
def HCs (h : TH) (t : Nat) (M : Nat → Int32) (S U W : Int32) (k : Nat) (A : Nat → Nat) : Prop := h.I t 0 = S ∧ h.I t 1 = U ∧ h.I t 3 = W ∧ h.I t 4 = nI k ∧ h.I t 10 = 0 ∧ sncS h t M S U A k
def HMs (h : TH) (M : Nat → Int32) (S U W : Int32) (k : Nat) (A : Nat → Nat) : Prop := h.I 198 2 = S ∧ h.I 198 3 = U ∧ h.I 198 4 = W ∧ h.I 198 5 = nI k ∧ agS h M S U A
def HG (h g : TH) (t : Nat) : Prop := Sm (fun a => a = 0 ∨ a = t ∨ a = t + 1) h g ∧ g.I 0 0 = 0 ∧ ∀ j, j ≠ 0 → g.I 0 j = h.I 0 j
def RH (h g : TH) : Prop := Sm (fun a => a = 197 ∨ a = 198 ∨ a = 206) h g ∧ (∀ j, j ≠ 2 → j ≠ 25 → g.I 197 j = h.I 197 j) ∧ ∀ j, (j < 2 ∨ 5 < j) → (j < 112 ∨ 124 ≤ j) → g.I 198 j = h.I 198 j
section BYH
variable {h : TH} {M : Nat → Int32} {S U W : Int32} {i k d : Nat} {A : Nat → Nat}
theorem dis24 : ∀ a, 43 + 24 * i ≤ a → a < 43 + 24 * i + 15 → a ≠ 65 + 24 * i ∧ a ≠ 65 + 24 * i + 1 := fun a _ _ => ⟨by omega, by omega⟩
theorem S198y {C : Int32 → TH → Prop} {g : TH} {S2 U2 W2 bu x : Int32} (hw : Wf M) (hi : i < 4) (cur : h.I 0 10 = nI i) (hc : CM h (43 + 24 * i) M) (hk : k ≤ 1000000) (co : HCo h g (65 + 24 * i)) (c : HC g (65 + 24 * i) S2 U2 W2 k bu 0 x) (s2 : St (aN M) S2) (u2 : St (aN M) U2) (sn : snc g (65 + 24 * i) M S2 U2 S A k) (kk : ∀ g', HG h g' (65 + 24 * i) → HCs g' (65 + 24 * i) M (stS M S2 U2 S A) U2 W2 (k + 1) (A3 M S A) → C (stS M S2 U2 S A) g') : W198 1 g C := by
  have h12 := hw.n12
  obtain ⟨c0, c1, c3, c4, c8, c10, c11⟩ := c
  have e0 : g.I 0 = h.I 0 := co.1.I (by omega)
  have cg : g.I 0 10 = nI i := by rw [e0]; exact cur
  have hcg := CM_sm hc dis24 co.1
  unfold W198 W192
  rw [if_pos (by decide), cg, ix_n (by omega)]
  refine ⟨inb_n hi, inb_n hi, ?_⟩
  refine S26 (S := S2) (U := U2) (old := S) (A := A) (k := k) hw hcg.r dis24 c0 c1 c4 hk s2 u2 sn (fun g2 sm a0 a1 a4 a9 a7 ao => ?_)
  have e02 : g2.I 0 = h.I 0 := by rw [sm.I (by omega), e0]
  rw [e02, cur, ix_n (by omega), a0]
  refine ⟨inb_n hi, ?_⟩
  unfold W193
  have et1 : (g2.sI 0 0 0).I (65 + 24 * i + 1) = g.I (65 + 24 * i + 1) := by funext j; rw [I_ne (by omega), sm.I (by omega)]
  refine kk _ ⟨Sm.sI (S := fun a => a = 0 ∨ a = 65 + 24 * i ∨ a = 65 + 24 * i + 1) ((co.1.mono (fun a ha => Or.inr ha)).trans (sm.mono (fun a ha => Or.inr (Or.inl ha)))) (Or.inl rfl) _, I_eq, fun j hj => by rw [I_nk hj, e02]⟩ ⟨?_, ?_, ?_, ?_, ?_, ?_⟩
  · rw [I_ne (by omega)]; exact a0
  · rw [I_ne (by omega), a1]; exact gon_U h12
  · rw [I_ne (by omega), ao 3 (by decide) (by decide) (by decide) (by decide) (by decide)]; exact c3
  · rw [I_ne (by omega)]; exact a4
  · rw [I_ne (by omega), ao 10 (by decide) (by decide) (by decide) (by decide) (by decide)]; exact c10
  · exact snc_next hw sn et1
theorem S271 {C : Int32 → TH → Prop} {S2 U2 w : Int32} (hw : Wf M) (hM : MA h M) (e2 : h.I 198 2 = S2) (e3 : h.I 198 3 = U2) (e4 : h.I 198 4 = W) (e5 : h.I 198 5 = nI k) (s2 : St (aN M) S2) (u2 : St (aN M) U2) (sS : St (aN M) S) (ag : agR h M S2 U2 S A) (ab : ∀ d, d < aN M → agP M S2 U2 S d = true → 1 ≤ A d ∧ A d ≤ 99) (kk : ∀ g, RH h g → HMs g M (stS M S2 U2 S A) U2 (W + w) (k + 1) (A3 M S A) → g.I 197 2 = 0 → C (stS M S2 U2 S A) g) : W271 w S h C := by
  unfold W271
  rw [show ix 4 = 4 from rfl, show ix 5 = 5 from rfl, e4, I_nk (by decide), e5, nI_1]
  intro h1 eh
  have f : ∀ j, j ≠ 4 → j ≠ 5 → h1.I 198 j = h.I 198 j := fun j j4 j5 => by rw [eh, I_nk j5, I_nk j4]
  have f4 : h1.I 198 4 = W + w := by rw [eh, I_nk (by decide), I_eq]
  have f5 : h1.I 198 5 = nI (k + 1) := by rw [eh, I_eq]
  have f7 : h1.I 197 = h.I 197 := by rw [eh]; funext j; rw [I_ne (by decide), I_ne (by decide)]
  have sm1 : Sm (fun a => a = 198) h h1 := by rw [eh]; exact Sm.sI (S := fun a => a = 198) (Sm.sI (S := fun a => a = 198) Sm.refl rfl _) rfl _
  clear eh
  have hM1 : MA h1 M := fun j hj => by rw [f j (by omega) (by omega)]; exact hM j hj
  refine S269 (S := S2) (U := U2) (A := A) hw hM1 (by rw [f 2 (by decide) (by decide)]; exact e2) (by rw [f 3 (by decide) (by decide)]; exact e3) s2 u2 sS (fun d hd q => ?_) (fun g sm a2 ao aa => ?_)
  · obtain ⟨q1, q2, q3, q4⟩ := agP_iff.mp q
    rw [f _ (by omega) (by omega)]
    exact ⟨(ag d hd q1 q2 q4).1 q3, ab d hd q⟩
  · rw [show ix 2 = 2 from rfl, a2]
    unfold W206
    refine kk _ ⟨?_, fun j j2 j25 => ?_, fun j j1 j3 => ?_⟩ ⟨?_, ?_, ?_, ?_, ?_⟩ I_eq
    · exact Sm.sI (S := fun a => a = 197 ∨ a = 198 ∨ a = 206) ((sm1.trans sm).mono (fun a ha => Or.inr (Or.inl ha))) (Or.inl rfl) _
    · rw [I_nk j2, sm.I (by decide), f7]
    · rw [I_ne (by decide), ao j (by omega) j3, f j (by omega) (by omega)]
    · rw [I_ne (by decide)]; exact a2
    · rw [I_ne (by decide), ao 3 (by decide) (by omega), f 3 (by decide) (by decide)]; exact e3
    · rw [I_ne (by decide), ao 4 (by decide) (by omega)]; exact f4
    · rw [I_ne (by decide), ao 5 (by decide) (by omega)]; exact f5
    · have key := ag_next (g := g.sI 197 2 0) hw ag (fun d hd => by rw [I_ne (by decide), aa d hd, f _ (by omega) (by omega)])
      exact key
theorem agP_bd (hw : Wf M) {S2 U2 : Int32} (hb : abd M S U A) (sub : ∀ e, e < 32 → bt S2 e = true → bt U2 e = false → bt S e = true → bt U e = false) : ∀ d, d < aN M → agP M S2 U2 S d = true → 1 ≤ A d ∧ A d ≤ 99 := by
  have h12 := hw.n12
  intro d hd q
  obtain ⟨q1, q2, q3, q4⟩ := agP_iff.mp q
  have := hb d hd q3 (sub d (by omega) q1 q2 q3) q4
  have := (kpN_eq hw hd).2.1
  omega
end BYH
