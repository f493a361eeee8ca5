/-! FEWEST POTS, with TRUST and without: what can STAND with P POTS of size 9 -/
def gone (M : Nat → Int32) (d : Nat) : Int32 := nP M d &&& oS M
def Fs (M : Nat → Int32) (Sc : Int32) (tr : Bool) (P : Nat) (m t m' t' : Int32) : Prop := ∃ d, d < aN M ∧ bt Sc d = true ∧
  ((bt m d = true ∧ m' = m &&& (ishl 1 (nI d) ^^^ (-1)) ∧ t' = t) ∨
   (bt t d = true ∧ aNe M d &&& ((m ||| t) ^^^ (-1)) = 0 ∧ m' = m ∧ t' = t &&& (ishl 1 (nI d) ^^^ (-1))) ∨
   (nP M d &&& ((m ||| t) ^^^ (-1)) = 0 ∧ gP M d &&& (m ||| t) = 0 ∧ pc ((m ||| t) ||| gP M d) ≤ P ∧ m' = (m ||| gP M d) &&& (gone M d ^^^ (-1)) ∧ t' = t &&& (gone M d ^^^ (-1))) ∨
   (∃ o, o < d ∧ aPo M d = 1 ∧ aPa M d = (-1) ∧ bt (m ||| t) d = false ∧ aNe M d &&& ((m ||| t) ^^^ (-1)) = 0 ∧ bt (aNe M d) o = true ∧ bt m o = true ∧ m' = poW m d o &&& (gone M d ^^^ (-1)) ∧ t' = t &&& (gone M d ^^^ (-1))) ∨
   (tr = true ∧ bt (m ||| t) d = false ∧ pc (m ||| t) < P ∧ m' = m ∧ t' = t ||| ishl 1 (nI d)))
def Rs (M : Nat → Int32) (Sc : Int32) (tr : Bool) (P : Nat) (m t : Int32) : Prop := ∀ X : Int32 → Int32 → Prop, X 0 0 → (∀ m t m' t', X m t → Fs M Sc tr P m t m' t' → X m' t') → X m t
/-- what holds of each -/
def FI (M : Nat → Int32) (Sc : Int32) (P : Nat) (m t : Int32) : Prop := St (aN M) m ∧ St (aN M) t ∧ (∀ d, d < 32 → bt m d = true → bt t d = false) ∧ sb m Sc ∧ sb t Sc ∧ pc (m ||| t) ≤ P
section FW
variable {M : Nat → Int32} {Sc : Int32} {tr : Bool} {P : Nat} {m t m' t' : Int32}
theorem Rs.zero : Rs M Sc tr P 0 0 := fun _ h _ => h
theorem Rs.step (h : Rs M Sc tr P m t) (hf : Fs M Sc tr P m t m' t') : Rs M Sc tr P m' t' := fun X h0 hs => hs m t m' t' (h X h0 hs) hf
theorem pc_0 : pc 0 = 0 := by
  unfold pc
  exact fb_ct_zero.mpr (fun k _ => bt_0 k)
theorem bt_andn {a b : Int32} {d : Nat} (hd : d < 32) : bt (a &&& (b ^^^ (-1))) d = (bt a d && !bt b d) := by
  rw [bt_and, bt_not _ hd]
theorem sb_and (a b : Int32) : sb (a &&& b) a := fun d _ q => by rw [bt_and] at q; simp only [Bool.and_eq_true] at q; exact q.1
theorem pc_sb {a b : Int32} (h : sb a b) : pc a ≤ pc b := pc_mono (fun d hd q => h d (by omega) q)
/-- a bit for another: as many -/
theorem pc_swap {a b : Int32} {d o : Nat} (hd : d < 12) (ho : o < 12) (e1 : bt a o = true) (e2 : bt a d = false) (hb : ∀ k, k < 12 → k ≠ d → k ≠ o → bt b k = bt a k) (e3 : bt b o = false) (e4 : bt b d = true) : pc b = pc a := by
  have hne : d ≠ o := by intro q; rw [q] at e2; rw [e1] at e2; exact absurd e2 (by decide)
  unfold pc
  have u1 := fb_ct_upd (bt a) false ho
  have u2 := fb_ct_upd (fun k => if k = o then false else bt a k) true hd
  have e5 : fb_ct (bt b) 12 = fb_ct (fun k => if k = d then true else if k = o then false else bt a k) 12 := by
    refine fb_ct_cong (fun k hk => ?_)
    (try dsimp only)
    by_cases z1 : k = d
    · rw [if_pos z1, z1, e4]
    · rw [if_neg z1]
      by_cases z2 : k = o
      · rw [if_pos z2, z2, e3]
      · rw [if_neg z2]; exact hb k hk z1 z2
  rw [e5]
  rw [e1] at u1
  (try dsimp only at u2)
  rw [if_neg hne, e2] at u2
  simp only [if_true, Bool.false_eq_true, if_false] at u1 u2
  omega
theorem FI.zero : FI M Sc P 0 0 := ⟨St_0 _, St_0 _, fun d _ q => by rw [bt_0] at q; exact absurd q (by decide), sb_zero _, sb_zero _, by rw [show (0 : Int32) ||| 0 = 0 by decide, pc_0]; exact Nat.zero_le _⟩
theorem FI.step (hw : Wf M) (hc : clo M Sc) (hi : FI M Sc P m t) (hf : Fs M Sc tr P m t m' t') : FI M Sc P m' t' := by
  have h12 := hw.n12
  obtain ⟨i1, i2, i3, i4, i5, i6⟩ := hi
  obtain ⟨d, hd, hS, hf⟩ := hf
  have sg := hw.gS hd
  rcases hf with ⟨f1, f2, f3⟩ | ⟨f1, f2, f3, f4⟩ | ⟨f1, f2, f3, f4, f5⟩ | ⟨o, fo, f1, f2, f3, f4, f5, f6, f7, f8⟩ | ⟨f1, f2, f3, f4, f5⟩
  · subst f2 f3
    refine ⟨St_and _ i1, i2, fun e he q => i3 e he (sb_and _ _ e he q), sb_trans (sb_and _ _) i4, i5, Nat.le_trans (pc_sb ?_) i6⟩
    exact sb_or (sb_trans (sb_and _ _) (sb_or_l _ _)) (sb_or_r _ _)
  · subst f3 f4
    refine ⟨i1, St_and _ i2, fun e he q => ?_, i4, sb_trans (sb_and _ _) i5, Nat.le_trans (pc_sb ?_) i6⟩
    · rw [bt_and, i3 e he q]; rfl
    · exact sb_or (sb_or_l _ _) (sb_trans (sb_and _ _) (sb_or_r _ _))
  · subst f4 f5
    rw [bt_dis] at f2
    refine ⟨St_and _ (St_or i1 sg), St_and _ i2, fun e he q => ?_, sb_trans (sb_and _ _) (sb_or i4 ((hc d hd hS).1)), sb_trans (sb_and _ _) i5, Nat.le_trans (pc_sb ?_) f3⟩
    · rw [bt_and, bt_or] at q
      rw [bt_and]
      simp only [Bool.and_eq_true, Bool.or_eq_true] at q
      rcases q.1 with z | z
      · rw [i3 e he z]; rfl
      · have := f2 e he z
        rw [bt_or] at this
        simp only [Bool.or_eq_false_iff] at this
        rw [this.2]; rfl
    · exact sb_or (sb_trans (sb_and _ _) (sb_or (sb_trans (sb_or_l _ _) (sb_or_l _ _)) (sb_or_r _ _))) (sb_trans (sb_and _ _) (sb_trans (sb_or_r _ _) (sb_or_l _ _)))
  · subst f7 f8
    have f3' := f3
    rw [bt_or] at f3'
    simp only [Bool.or_eq_false_iff] at f3'
    have sd : sb (ishl 1 (nI d)) Sc := by
      intro e he q
      rw [bt_bit (by omega)] at q
      simp only [decide_eq_true_eq] at q
      rw [q]; exact hS
    have sw : sb (poW m d o) Sc := sb_or (sb_trans (sb_and _ _) i4) sd
    refine ⟨St_and _ (poW_St hw i1 hd), St_and _ i2, fun e he q => ?_, sb_trans (sb_and _ _) sw, sb_trans (sb_and _ _) i5, ?_⟩
    · have q := sb_and _ _ e he q
      unfold poW at q
      rw [bt_or, bt_bit (by omega)] at q
      simp only [Bool.or_eq_true, decide_eq_true_eq] at q
      rcases q with z | z
      · rw [bt_and, i3 e he (sb_and _ _ e he z)]; rfl
      · rw [z, bt_and, f3'.2]; rfl
    · refine Nat.le_trans (pc_sb (b := poW m d o ||| t) (sb_or (sb_trans (sb_and _ _) (sb_or_l _ _)) (sb_trans (sb_and _ _) (sb_or_r _ _)))) ?_
      have hto : bt t o = false := i3 o (by omega) f6
      have e1 : ∀ k, k < 12 → k ≠ d → k ≠ o → bt (poW m d o ||| t) k = bt (m ||| t) k := by
        intro k hk z1 z2
        unfold poW
        rw [bt_or, bt_or, bt_andn (by omega), bt_bit (by omega), bt_bit (by omega), bt_or]
        simp [z1, z2]
      have e2 : bt (poW m d o ||| t) o = false := by
        unfold poW
        rw [bt_or, bt_or, bt_andn (by omega), bt_bit (by omega), bt_bit (by omega), hto]
        simp
        omega
      have e3 : bt (poW m d o ||| t) d = true := by
        unfold poW
        rw [bt_or, bt_or, bt_bit (j := d) (by omega)]
        simp
      rw [pc_swap (a := m ||| t) (b := poW m d o ||| t) (d := d) (o := o) (by omega) (by omega) (by rw [bt_or, f6]; rfl) f3 e1 e2 e3]
      exact i6
  · rw [f4, f5]
    rw [bt_or] at f2
    simp only [Bool.or_eq_false_iff] at f2
    have sd : sb (ishl 1 (nI d)) Sc := by
      intro e he q
      rw [bt_bit (by omega)] at q
      simp only [decide_eq_true_eq] at q
      rw [q]; exact hS
    refine ⟨i1, St_or i2 (St_bit hd), fun e he q => ?_, i4, sb_or i5 sd, ?_⟩
    · rw [bt_or, i3 e he q, bt_bit (by omega)]
      by_cases z : e = d
      · subst z; rw [f2.1] at q; exact absurd q (by decide)
      · simp [z]
    · have u := fb_ct_upd (bt (m ||| t)) true (show d < 12 by omega)
      have e1 : pc (m ||| (t ||| ishl 1 (nI d))) = fb_ct (fun k => if k = d then true else bt (m ||| t) k) 12 := by
        unfold pc
        refine fb_ct_cong (fun k hk => ?_)
        rw [bt_or, bt_or, bt_bit (by omega), bt_or]
        by_cases z : k = d
        · rw [if_pos z]; simp [z]
        · rw [if_neg z]; simp [z]
      rw [e1]
      unfold pc at f3
      simp only [if_true] at u
      split at u <;> omega
theorem Rs.inv (hw : Wf M) (hc : clo M Sc) (h : Rs M Sc tr P m t) : FI M Sc P m t := h (FI M Sc P) FI.zero (fun _ _ _ _ hx hf => hx.step hw hc hf)
/-- more POTS do no harm -/
theorem Fs.mono {Q : Nat} (hPQ : P ≤ Q) (hf : Fs M Sc tr P m t m' t') : Fs M Sc tr Q m t m' t' := by
  obtain ⟨d, hd, hS, hf⟩ := hf
  refine ⟨d, hd, hS, ?_⟩
  rcases hf with z | z | ⟨f1, f2, f3, f4, f5⟩ | z | ⟨f1, f2, f3, f4, f5⟩
  · exact Or.inl z
  · exact Or.inr (Or.inl z)
  · exact Or.inr (Or.inr (Or.inl ⟨f1, f2, by omega, f4, f5⟩))
  · exact Or.inr (Or.inr (Or.inr (Or.inl z)))
  · exact Or.inr (Or.inr (Or.inr (Or.inr ⟨f1, f2, by omega, f4, f5⟩)))
theorem Rs.mono {Q : Nat} (hPQ : P ≤ Q) (h : Rs M Sc tr P m t) : Rs M Sc tr Q m t := fun X h0 hs => h X h0 (fun m t m' t' hx hf => hs m t m' t' hx (hf.mono hPQ))
/-- a POT more gives new ways only where it is taken -/
theorem Fs.less (hw : Wf M) (hfree : pc (m ||| t) + 3 ≤ P) (hf : Fs M Sc tr P m t m' t') : Fs M Sc tr (P - 1) m t m' t' := by
  have h12 := hw.n12
  obtain ⟨d, hd, hS, hf⟩ := hf
  refine ⟨d, hd, hS, ?_⟩
  rcases hf with z | z | ⟨f1, f2, f3, f4, f5⟩ | z | ⟨f1, f2, f3, f4, f5⟩
  · exact Or.inl z
  · exact Or.inr (Or.inl z)
  · refine Or.inr (Or.inr (Or.inl ⟨f1, f2, ?_, f4, f5⟩))
    have p1 : ∀ (s : Int32) (e : Nat), e < 12 → pc (s ||| ishl 1 (nI e)) ≤ pc s + 1 := by
      intro s e he
      have u := fb_ct_upd (bt s) true he
      have e1 : pc (s ||| ishl 1 (nI e)) = fb_ct (fun k => if k = e then true else bt s k) 12 := by
        unfold pc
        refine fb_ct_cong (fun k hk => ?_)
        rw [bt_or, bt_bit (by omega)]
        by_cases z : k = e
        · rw [if_pos z]; simp [z]
        · rw [if_neg z]; simp [z]
      rw [e1]
      unfold pc
      simp only [if_true] at u
      split at u <;> omega
    have : pc ((m ||| t) ||| gP M d) ≤ pc (m ||| t) + 2 := by
      rcases hw.pa hd with q | ⟨e, h1, h2, _⟩
      · rw [gP_alone q]
        have := p1 (m ||| t) d (by omega)
        omega
      · rw [gP_pair h2 (by omega), ← Int32.or_assoc]
        have z1 := p1 (m ||| t) d (by omega)
        have z2 := p1 ((m ||| t) ||| ishl 1 (nI d)) e (by omega)
        omega
    omega
  · exact Or.inr (Or.inr (Or.inr (Or.inl z)))
  · exact Or.inr (Or.inr (Or.inr (Or.inr ⟨f1, f2, by omega, f4, f5⟩)))
/-- what is enough for a GOAL -/
def FGo (M : Nat → Int32) (Sc : Int32) (tr : Bool) (goal : Int32) (P : Nat) : Prop := ∃ m, Rs M Sc tr P m 0 ∧ sb goal m
theorem FGo.pcle (hw : Wf M) (hc : clo M Sc) {goal : Int32} (h : FGo M Sc tr goal P) : pc goal ≤ P := by
  obtain ⟨m, h1, h2⟩ := h
  have hi := h1.inv hw hc
  refine Nat.le_trans (pc_sb (b := m ||| 0) (sb_trans h2 (sb_or_l _ _))) hi.2.2.2.2.2
/-- a DISH alone: what it needs beside it -/
def own (M : Nat → Int32) (d : Nat) : Nat := pc (aNe M d) + (if aPo M d = 1 then 0 else 1)
theorem pc_add {a : Int32} {d : Nat} (hd : d < 12) (h : bt a d = false) : pc (a ||| ishl 1 (nI d)) = pc a + 1 := by
  have u := fb_ct_upd (bt a) true hd
  have e1 : pc (a ||| ishl 1 (nI d)) = fb_ct (fun k => if k = d then true else bt a k) 12 := by
    unfold pc
    refine fb_ct_cong (fun k hk => ?_)
    rw [bt_or, bt_bit (by omega)]
    by_cases z : k = d
    · rw [if_pos z]; simp [z]
    · rw [if_neg z]; simp [z]
  rw [e1]
  unfold pc
  rw [h] at u
  simp only [if_true, Bool.false_eq_true, if_false] at u
  omega
end FW
