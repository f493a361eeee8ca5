/-! FEWEST POTS: the reference's way is the same -/
def Fr (M : Nat → Int32) (big : Nat → Nat) (s s' : Int32) : Prop := ∃ d, d < aN M ∧ ((bt s d = true ∧ s' = s &&& (ishl 1 (nI d) ^^^ (-1))) ∨ (bt s d = false ∧ mkC M big s d ∧ s' = mkT M s d) ∨ ∃ o, o < d ∧ poC M big s s d o ∧ s' = poT M s d o)
def Rr (M : Nat → Int32) (big : Nat → Nat) (s : Int32) : Prop := ∀ X : Int32 → Prop, X 0 → (∀ s s', X s → Fr M big s s' → X s') → X s
section FR
variable {M : Nat → Int32} {Sc : Int32} {tr : Bool} {P : Nat} {m t m' t' s : Int32} {big : Nat → Nat}
theorem Rr.zero : Rr M big 0 := fun _ h _ => h
theorem Rr.step {s' : Int32} (h : Rr M big s) (hf : Fr M big s s') : Rr M big s' := fun X h0 hs => hs s s' (h X h0 hs) hf
theorem Fr_St (hw : Wf M) {s' : Int32} (hs : St (aN M) s) (hf : Fr M big s s') : St (aN M) s' := by
  have h12 := hw.n12
  obtain ⟨d, hd, ⟨_, rfl⟩ | ⟨_, _, rfl⟩ | ⟨o, _, _, rfl⟩⟩ := hf
  · exact St_and _ hs
  · exact mkT_St hw hs hd
  · exact poT_St hw hs hd
theorem Rr_St (hw : Wf M) (h : Rr M big s) : St (aN M) s := h (fun s => St (aN M) s) (St_0 _) (fun _ _ hs hf => Fr_St hw hs hf)
theorem fit_pc (hw : Wf M) (hs : St (aN M) s) : fitB M (fun _ => P) s = true ↔ pc s ≤ P := by
  have h12 := hw.n12
  have e1 : fcnt M s 1 = pc s := by
    rw [pc_n hs h12]
    unfold fcnt
    refine fb_ct_cong (fun k hk => ?_)
    have := (hw.szb hk).2.1
    rw [decide_eq_true this, Bool.and_true]
  rw [fitB_iff]
  refine ⟨fun h => ?_, fun h z z1 z2 => ?_⟩
  · rw [← e1]; exact h 1 (by omega) (by omega)
  · refine Nat.le_trans ?_ h
    rw [pc_n hs h12]
    unfold fcnt
    refine fb_ct_sub (fun k hk q => ?_)
    simp only [Bool.and_eq_true] at q
    exact q.1
theorem St_d {n d : Nat} (hn : n ≤ 12) (hs : St n s) (hd : d < 32) (q : bt s d = true) : d < n := by
  rw [St_bt (by omega)] at hs
  rcases Nat.lt_or_ge d n with z | z
  · exact z
  · rw [hs d z hd] at q; exact absurd q (by decide)
/-- what STANDS may be washed -/
theorem Rs_sub (hw : Wf M) (hc : clo M Sc) : ∀ k m, pc m ≤ k → Rs M Sc tr P m t → sb m' m → Rs M Sc tr P m' t := by
  have h12 := hw.n12
  intro k
  induction k with
  | zero =>
    intro m hk h hs
    have e : m = 0 := by
      refine bt_z.mpr (fun d hd => ?_)
      cases e : bt m d
      · rfl
      · exfalso
        have hi := (h.inv hw hc).1
        have d1 := St_d h12 hi hd e
        have := fb_ct_pos (p := bt m) (n := 12) |>.mpr ⟨d, by omega, e⟩
        unfold pc at hk
        omega
    have : m' = m := sb_anti hs (by rw [e]; exact sb_zero _)
    rw [this]; exact h
  | succ k ih =>
    intro m hk h hs
    by_cases e : m' = m
    · rw [e]; exact h
    · have hi := h.inv hw hc
      have : ∃ d, d < 32 ∧ bt m d = true ∧ bt m' d = false := by
        refine Classical.byContradiction (fun q => e (sb_anti hs (fun d hd z => ?_)))
        cases e2 : bt m' d
        · exact absurd ⟨d, hd, z, e2⟩ q
        · rfl
      obtain ⟨d, hd, e1, e2⟩ := this
      have d1 := St_d h12 hi.1 hd e1
      have st := h.step (m' := m &&& (ishl 1 (nI d) ^^^ (-1))) (t' := t) ⟨d, d1, hi.2.2.2.1 d hd e1, Or.inl ⟨e1, rfl, rfl⟩⟩
      have l : pc (m &&& (ishl 1 (nI d) ^^^ (-1))) < pc m := by
        refine pc_lt (sb_and _ _) (St_mono hi.1 h12) (fun q => ?_)
        have : bt (m &&& (ishl 1 (nI d) ^^^ (-1))) d = true := by rw [q]; exact e1
        rw [bt_andn hd, bt_bit hd] at this
        simp at this
      refine ih _ (by omega) st (fun x hx z => ?_)
      rw [bt_andn hx, bt_bit hd, hs x hx z]
      by_cases e3 : x = d
      · rw [e3] at z; rw [z] at e2; exact absurd e2 (by decide)
      · simp [e3]
theorem Rs.sub (hw : Wf M) (hc : clo M Sc) (h : Rs M Sc tr P m t) (hs : sb m' m) : Rs M Sc tr P m' t := Rs_sub hw hc _ m (Nat.le_refl _) h hs
/-- the class's to the reference's -/
theorem Rs_Rr (hw : Wf M) (hc : clo M Sc) (h : Rs M Sc false P m t) : t = 0 ∧ Rr M (fun _ => P) m := by
  have h12 := hw.n12
  have key : FI M Sc P m t ∧ t = 0 ∧ Rr M (fun _ => P) m := by
    refine h (fun m t => FI M Sc P m t ∧ t = 0 ∧ Rr M (fun _ => P) m) ⟨FI.zero, rfl, Rr.zero⟩ ?_
    rintro m t m' t' ⟨i0, rfl, hr⟩ hf
    refine ⟨i0.step hw hc hf, ?_⟩
    have i1 := i0.1
    have i2 := i0.2.2.2.2.2
    obtain ⟨d, hd, hS, hf⟩ := hf
    have m0 : m ||| 0 = m := Int32.or_zero
    rw [m0] at hf i2
    rcases hf with ⟨f1, f2, f3⟩ | ⟨f1, f2, f3, f4⟩ | ⟨f1, f2, f3, f4, f5⟩ | ⟨o, fo, f1, f2, f3, f4, f5, f6, f7, f8⟩ | ⟨f1, f2, f3, f4, f5⟩
    · exact ⟨f3, hr.step ⟨d, hd, Or.inl ⟨f1, f2⟩⟩⟩
    · rw [bt_0] at f1; exact absurd f1 (by decide)
    · refine ⟨by rw [f5]; exact Int32.zero_and, hr.step ⟨d, hd, Or.inr (Or.inl ⟨?_, ⟨?_, f1, ?_⟩, ?_⟩)⟩⟩
      · have := bt_dis.mp f2 d (by omega) (by unfold gP; rw [bt_or, bt_bit (by omega)]; simp)
        exact this
      · rw [Int32.and_comm]; exact f2
      · exact (fit_pc hw (St_or i1 (hw.gS hd))).mpr f3
      · rw [f4]; rfl
    · refine ⟨by rw [f8]; exact Int32.zero_and, hr.step ⟨d, hd, Or.inr (Or.inr ⟨o, fo, ⟨f1, f2, f3, f4, f5, f6, ?_⟩, ?_⟩)⟩⟩
      · refine (fit_pc hw (poW_St hw i1 hd)).mpr ?_
        have e1 : ∀ k, k < 12 → k ≠ d → k ≠ o → bt (poW m d o) k = bt m k := by
          intro k hk z1 z2
          unfold poW
          rw [bt_or, bt_andn (by omega), bt_bit (by omega), bt_bit (by omega)]
          simp [z1, z2]
        have e2 : bt (poW m d o) o = false := by
          unfold poW
          rw [bt_or, bt_andn (by omega), bt_bit (by omega), bt_bit (by omega)]
          simp
          omega
        have e3 : bt (poW m d o) d = true := by
          unfold poW
          rw [bt_or, bt_bit (j := d) (by omega)]
          simp
        rw [pc_swap (a := m) (b := poW m d o) (d := d) (o := o) (by omega) (by omega) f6 f3 e1 e2 e3]
        exact i2
      · rw [f7]; unfold gone poT; rw [nP_alone f2]
    · exact absurd f1 (by decide)
  exact key.2
theorem gP_out (hw : Wf M) (hc : clo M Sc) {d : Nat} (hd : d < aN M) (q : bt Sc d = false) : ∀ x, x < 32 → bt (gP M d) x = true → bt Sc x = false := by
  have h12 := hw.n12
  intro x hx z
  rcases hw.pa hd with e | ⟨e, h1, h2, h3, h4, _⟩
  · rw [gP_alone e, bt_bit (by omega)] at z
    simp only [decide_eq_true_eq] at z
    rw [z]; exact q
  · rw [gP_pair h2 (by omega), bt_or, bt_bit (by omega), bt_bit (by omega)] at z
    simp only [Bool.or_eq_true, decide_eq_true_eq] at z
    rcases z with z | z
    · rw [z]; exact q
    · rw [z]
      cases e2 : bt Sc e
      · rfl
      · have := (hc e h1 e2).1 d (by omega) (by rw [gP_pair h4 (by omega), bt_or, bt_bit (j := d) (by omega)]; simp)
        rw [q] at this; exact absurd this (by decide)
/-- and back: what lies outside is left out -/
theorem Rr_Rs (hw : Wf M) (hc : clo M Sc) (hS : St (aN M) Sc) (h : Rr M (fun _ => P) s) : Rs M Sc false P (s &&& Sc) 0 := by
  have h12 := hw.n12
  have key : St (aN M) s ∧ Rs M Sc false P (s &&& Sc) 0 := by
    refine h (fun s => St (aN M) s ∧ Rs M Sc false P (s &&& Sc) 0) ⟨St_0 _, by rw [Int32.zero_and]; exact Rs.zero⟩ ?_
    rintro s s' ⟨i1, hr⟩ hf
    refine ⟨Fr_St hw i1 hf, ?_⟩
    obtain ⟨d, hd, hf⟩ := hf
    have m0 : (s &&& Sc) ||| 0 = s &&& Sc := Int32.or_zero
    have sub : ∀ x : Int32, sb x Sc → x &&& (s ^^^ (-1)) = 0 → x &&& ((s &&& Sc) ^^^ (-1)) = 0 := by
      intro x z1 z2
      rw [bt_sub] at z2 ⊢
      intro e he q
      rw [bt_and, z2 e he q, z1 e he q]; rfl
    rcases hf with ⟨f1, f2⟩ | ⟨f0, ⟨f1, f2, f3⟩, f4⟩ | ⟨o, fo, ⟨f1, f2, f3, f4, f5, f6, f7⟩, f8⟩
    · refine hr.sub hw hc (fun e he q => ?_)
      rw [bt_and] at q ⊢
      rw [f2] at q
      simp only [Bool.and_eq_true] at q ⊢
      exact ⟨sb_and _ _ e he q.1, q.2⟩
    · cases e : bt Sc d
      · refine hr.sub hw hc (fun x hx q => ?_)
        rw [bt_and] at q ⊢
        rw [f4] at q
        unfold mkT at q
        rw [bt_and, bt_or] at q
        simp only [Bool.and_eq_true, Bool.or_eq_true] at q ⊢
        refine ⟨q.1.1.elim id (fun z => ?_), q.2⟩
        have := gP_out hw hc hd e x hx z
        rw [this] at q
        exact absurd q.2 (by decide)
      · have st := hr.step (m' := ((s &&& Sc) ||| gP M d) &&& (gone M d ^^^ (-1))) (t' := 0 &&& (gone M d ^^^ (-1))) ⟨d, hd, e, Or.inr (Or.inr (Or.inl ⟨?_, ?_, ?_, rfl, rfl⟩))⟩
        · rw [Int32.zero_and] at st
          refine st.sub hw hc (fun x hx q => ?_)
          rw [f4] at q
          unfold mkT at q
          unfold gone
          rw [bt_and, bt_and, bt_or] at q
          rw [bt_and, bt_or, bt_and]
          simp only [Bool.and_eq_true, Bool.or_eq_true] at q ⊢
          exact ⟨q.1.1.elim (fun z => Or.inl ⟨z, q.2⟩) Or.inr, q.1.2⟩
        · rw [m0]; exact sub _ (clo_nP hw hc hd e) f2
        · rw [m0]
          rw [bt_dis] at f1 ⊢
          intro x hx z
          rw [bt_and]
          cases e2 : bt s x
          · rfl
          · have := f1 x hx e2
            rw [this] at z; exact absurd z (by decide)
        · rw [m0]
          refine Nat.le_trans (pc_sb (b := s ||| gP M d) (sb_or (sb_trans (sb_and _ _) (sb_or_l _ _)) (sb_or_r _ _))) ?_
          exact (fit_pc hw (St_or i1 (hw.gS hd))).mp f3
    · cases e : bt Sc d
      · refine hr.sub hw hc (fun x hx q => ?_)
        rw [bt_and] at q ⊢
        rw [f8] at q
        unfold poT poW at q
        rw [bt_and, bt_or, bt_and, bt_bit (by omega)] at q
        simp only [Bool.and_eq_true, Bool.or_eq_true, decide_eq_true_eq] at q ⊢
        refine ⟨q.1.1.elim (fun z => z.1) (fun z => ?_), q.2⟩
        rw [z, e] at q
        exact absurd q.2 (by decide)
      · have so : bt Sc o = true := (hc d hd e).2 o (by omega) f5
        have st := hr.step (m' := poW (s &&& Sc) d o &&& (gone M d ^^^ (-1))) (t' := 0 &&& (gone M d ^^^ (-1))) ⟨d, hd, e, Or.inr (Or.inr (Or.inr (Or.inl ⟨o, fo, f1, f2, ?_, ?_, f5, ?_, rfl, rfl⟩)))⟩
        · rw [Int32.zero_and] at st
          refine st.sub hw hc (fun x hx q => ?_)
          rw [f8] at q
          unfold poT poW at q
          unfold poW gone
          rw [nP_alone f2]
          rw [bt_and, bt_and, bt_or, bt_and] at q
          rw [bt_and, bt_or, bt_and, bt_and]
          simp only [Bool.and_eq_true, Bool.or_eq_true] at q ⊢
          exact ⟨q.1.1.elim (fun z => Or.inl ⟨⟨z.1, q.2⟩, z.2⟩) Or.inr, q.1.2⟩
        · rw [m0, bt_and, f3]; rfl
        · rw [m0]; exact sub _ (hc d hd e).2 f4
        · rw [bt_and, f6, so]; rfl
  exact key.2
/-- so they agree on how many are enough -/
theorem FGo_Rr (hw : Wf M) (hc : clo M Sc) (hS : St (aN M) Sc) {goal : Int32} (hg : sb goal Sc) : FGo M Sc false goal P ↔ ∃ s, Rr M (fun _ => P) s ∧ sb goal s := by
  constructor
  · rintro ⟨m, h1, h2⟩
    exact ⟨m, (Rs_Rr hw hc h1).2, h2⟩
  · rintro ⟨s, h1, h2⟩
    refine ⟨s &&& Sc, Rr_Rs hw hc hS h1, fun x hx q => ?_⟩
    rw [bt_and, h2 x hx q, hg x hx q]; rfl
end FR
