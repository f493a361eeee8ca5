/-! THE CLASS'S MENU at t tells M; its ROOM -/
def pS (M : Nat → Int32) : Int32 := setOf (fun d => decide (aPo M d = 1)) (aN M)
def dS (M : Nat → Int32) (z : Nat) : Int32 := setOf (fun d => decide (z ≤ szN M d)) (aN M)
def CMr (h : TH) (t : Nat) (M : Nat → Int32) : Prop :=
  h.I t 1 = nI (aN M) ∧ h.I t 2 = nI (aP M) ∧ h.I t 3 = pS M ∧ h.I t 4 = oS M ∧
  (∀ d, d < aN M → h.I (t + 2) d = aW M d ∧ h.I (t + 3) d = aSz M d ∧ h.I (t + 4) d = aKp M d ∧ h.I (t + 5) d = aBu M d ∧ h.I (t + 6) d = aNe M d ∧ h.I (t + 7) d = aPa M d) ∧
  (∀ k, k < aP M → h.I (t + 8) k = M (8 + k))
def CMg (h : TH) (t : Nat) (M : Nat → Int32) : Prop := ∀ d, d < aN M → h.I (t + 9) d = gP M d ∧ h.I (t + 10) d = nP M d ∧ h.I (t + 11) d = wP M d
def RoomOk (h : TH) (r : Nat) (M : Nat → Int32) (big : Nat → Nat) : Prop := ∃ k, k ≤ 9 ∧ h.I r 2 = nI k ∧ (∀ i, i < k → St (aN M) (h.I (r + 1) i) ∧ ∃ l, l ≤ 20 ∧ h.I (r + 2) i = nI l) ∧ ∀ s, St (aN M) s → ((∀ i, i < k → pc (s &&& h.I (r + 1) i) ≤ ix (h.I (r + 2) i)) ↔ fitB M big s = true)
def CM (h : TH) (t : Nat) (M : Nat → Int32) : Prop := CMr h t M ∧ CMg h t M ∧ RoomOk h (t + 12) M (bigK M 0)
theorem ct_ext {p : Nat → Bool} {n : Nat} : ∀ {m : Nat}, n ≤ m → (∀ k, n ≤ k → k < m → p k = false) → fb_ct p m = fb_ct p n := by
  intro m
  induction m with
  | zero => intro h _; rw [show n = 0 by omega]
  | succ m ih =>
    intro h hp
    by_cases e : n = m + 1
    · rw [e]
    · rw [fb_ct_succ, hp m (by omega) (by omega), ih (by omega) (fun k h1 h2 => hp k h1 (by omega))]
      simp
theorem pc_n {n : Nat} {s : Int32} (hs : St n s) (hn : n ≤ 12) : pc s = fb_ct (bt s) n := by
  unfold pc
  rw [St_bt (by omega)] at hs
  exact ct_ext hn (fun k h1 h2 => hs k h1 (by omega))
theorem pc_mono {a b : Int32} (h : ∀ d, d < 12 → bt a d = true → bt b d = true) : pc a ≤ pc b := fb_ct_sub h
section KC
variable {h : TH} {M : Nat → Int32} {t : Nat} {C : Int32 → Prop} {x : Int32} {d : Nat} {big : Nat → Nat}
theorem CM.r (hc : CM h t M) : CMr h t M := hc.1
theorem CM.room (hc : CM h t M) : RoomOk h (t + 12) M (bigK M 0) := hc.2.2
theorem CM.g (hc : CM h t M) (hd : d < aN M) : h.I (t + 9) d = gP M d ∧ h.I (t + 10) d = nP M d ∧ h.I (t + 11) d = wP M d := hc.2.1 d hd
theorem CMr.n (hc : CMr h t M) : h.I t 1 = nI (aN M) := hc.1
theorem CMr.p (hc : CMr h t M) : h.I t 2 = nI (aP M) := hc.2.1
theorem CMr.po (hc : CMr h t M) : h.I t 3 = pS M := hc.2.2.1
theorem CMr.on (hc : CMr h t M) : h.I t 4 = oS M := hc.2.2.2.1
theorem CMr.row (hc : CMr h t M) (hd : d < aN M) : h.I (t + 2) d = aW M d ∧ h.I (t + 3) d = aSz M d ∧ h.I (t + 4) d = aKp M d ∧ h.I (t + 5) d = aBu M d ∧ h.I (t + 6) d = aNe M d ∧ h.I (t + 7) d = aPa M d := hc.2.2.2.2.1 d hd
theorem CMr.w (hc : CMr h t M) (hd : d < aN M) : h.I (t + 2) d = aW M d := (hc.row hd).1
theorem CMr.sz (hc : CMr h t M) (hd : d < aN M) : h.I (t + 3) d = aSz M d := (hc.row hd).2.1
theorem CMr.kp (hc : CMr h t M) (hd : d < aN M) : h.I (t + 4) d = aKp M d := (hc.row hd).2.2.1
theorem CMr.bu (hc : CMr h t M) (hd : d < aN M) : h.I (t + 5) d = aBu M d := (hc.row hd).2.2.2.1
theorem CMr.ne (hc : CMr h t M) (hd : d < aN M) : h.I (t + 6) d = aNe M d := (hc.row hd).2.2.2.2.1
theorem CMr.pa (hc : CMr h t M) (hd : d < aN M) : h.I (t + 7) d = aPa M d := (hc.row hd).2.2.2.2.2
theorem CMr.pot (hc : CMr h t M) {k : Nat} (hk : k < aP M) : h.I (t + 8) k = M (8 + k) := hc.2.2.2.2.2 k hk
/-- only these cells are asked -/
theorem CM.frame {h' : TH} (hc : CM h t M) (hI : ∀ a, t ≤ a → a < t + 15 → h'.I a = h.I a) : CM h' t M := by
  unfold CM CMr CMg RoomOk at hc ⊢
  simp only [Nat.add_assoc] at hc ⊢
  rw [hI t (by omega) (by omega), hI (t + 2) (by omega) (by omega), hI (t + 3) (by omega) (by omega), hI (t + 4) (by omega) (by omega), hI (t + 5) (by omega) (by omega), hI (t + 6) (by omega) (by omega), hI (t + 7) (by omega) (by omega), hI (t + 8) (by omega) (by omega), hI (t + 9) (by omega) (by omega), hI (t + 10) (by omega) (by omega), hI (t + 11) (by omega) (by omega), hI (t + 12) (by omega) (by omega), hI (t + (12 + 1)) (by omega) (by omega), hI (t + (12 + 2)) (by omega) (by omega)]
  exact hc
theorem RoomOk.frame {h' : TH} {r : Nat} (hc : RoomOk h r M big) (hI : ∀ a, r ≤ a → a < r + 3 → h'.I a = h.I a) : RoomOk h' r M big := by
  unfold RoomOk at hc ⊢
  rw [hI r (by omega) (by omega), hI (r + 1) (by omega) (by omega), hI (r + 2) (by omega) (by omega)]
  exact hc
theorem S112 {r : Nat} {s : Int32} (hw : Wf M) (hr : RoomOk h r M big) (hs : St (aN M) s) (kt : fitB M big s = true → C 1) (kf : fitB M big s = false → C 0) : W112 r s h C := by
  have h12 := hw.n12
  obtain ⟨k, hk, e1, e2, e3⟩ := hr
  have hf := e3 s hs
  unfold W112 B112_2
  refine LFP.up k (fun j q => q = nI j ∧ ∀ i, i < j → pc (s &&& h.I (r + 1) i) ≤ ix (h.I (r + 2) i)) ?_ ?_ (Nat.zero_le _) ⟨rfl, fun i hi => absurd hi (Nat.not_lt_zero _)⟩
  · rintro X j x hj ⟨h1, h2⟩ ih
    subst h1
    unfold F112_2
    dsimp only
    rw [e1, if_neg (nI_ge hj (by omega)), ix_n (by omega)]
    refine ⟨inb_n (by omega), S327 (St_mono (St_and _ hs) h12) ⟨inb_n (by omega), ?_⟩⟩
    obtain ⟨_, l, hl, hl2⟩ := e2 j hj
    have hp := pc_le (s &&& h.I (r + 1) j)
    rw [hl2]
    by_cases e : pc (s &&& h.I (r + 1) j) ≤ l
    · rw [if_pos (nI_le e (by omega))]
      refine ih _ ⟨nI_1 j, fun i hi => ?_⟩
      by_cases e5 : i = j
      · subst e5; rw [hl2, ix_n (by omega)]; exact e
      · exact h2 i (by omega)
    · rw [if_neg (nI_ge (by omega) (by omega))]
      refine kf ?_
      have : ¬ fitB M big s = true := fun q => e (by have := hf.mpr q j hj; rwa [hl2, ix_n (by omega)] at this)
      simpa using this
  · rintro X x ⟨h1, h2⟩
    subst h1
    unfold F112_2
    dsimp only
    rw [e1, if_pos (nI_le (Nat.le_refl _) (by omega))]
    exact kt (hf.mp h2)
theorem S55 (hw : Wf M) (hc : CMr h t M) (kt : ∀ d, d < aN M → x = nI d → C 1) (kf : (x < 0 ∨ nI (aN M) ≤ x) → C 0) : W55 t x h C := by
  have h12 := hw.n12
  unfold W55
  rw [hc.n]
  by_cases e : x < 0
  · rw [if_pos e]; exact kf (Or.inl e)
  · rw [if_neg e]
    by_cases e2 : nI (aN M) ≤ x
    · rw [if_pos e2]; exact kf (Or.inr e2)
    · rw [if_neg e2]
      obtain ⟨j, h1, rfl⟩ := nI_of e
      rw [nI_leI (by omega) h1] at e2
      exact kt j (by omega) rfl
theorem S56 (hw : Wf M) (hc : CMr h t M) (kt : St (aN M) x → C 1) (kf : (x < 0 ∨ ishl 1 (nI (aN M)) ≤ x) → C 0) : W56 t x h C := by
  have h12 := hw.n12
  unfold W56
  rw [hc.n]
  by_cases e : x < 0
  · rw [if_pos e]; exact kf (Or.inl e)
  · rw [if_neg e]
    by_cases e2 : ishl 1 (nI (aN M)) ≤ x
    · rw [if_pos e2]; exact kf (Or.inr e2)
    · rw [if_neg e2]; exact kt (St_of e e2)
theorem all_bt : ∀ n, n < 13 → ishl 1 (nI n) - 1 = setOf (fun _ => true) n := by decide +kernel
theorem S57 (hw : Wf M) (hc : CMr h t M) (k : C (setOf (fun _ => true) (aN M))) : W57 t h C := by
  have h12 := hw.n12
  unfold W57
  rw [hc.n, all_bt _ (by omega)]
  exact k
theorem S60 (hw : Wf M) (hc : CMr h t M) (d : Nat) (hx : x = nI d) (hd : d < aN M) (kt : aPo M d = 1 → C 1) (kf : aPo M d = 0 → C 0) : W60 t x h C := by
  have h12 := hw.n12
  subst hx
  unfold W60
  rw [hc.po]
  have e := bt_setOf (fun d => decide (aPo M d = 1)) (aN M) (by omega) d
  rcases (hw.D hd).2.2.2.2.2.1 with q | q
  · rw [if_pos ((bt_in (by omega)).mpr (by unfold pS; rw [e, q]; simp))]
    exact kf q
  · rw [if_neg ((bt_in' (by omega)).mpr (by unfold pS; rw [e, q]; simp [hd]))]
    exact kt q
theorem S61 (hw : Wf M) (hc : CMr h t M) (d : Nat) (hx : x = nI d) (hd : d < aN M) (kt : aPa M d = (-1) → C 1) (kf : ¬ aPa M d = (-1) → C 0) : W61 t x h C := by
  have h12 := hw.n12
  subst hx
  unfold W61
  rw [ix_n (by omega), hc.pa hd]
  refine ⟨inb_n (by omega), ?_⟩
  by_cases e : aPa M d = (-1)
  · rw [if_neg (fun q => q e)]; exact kt e
  · rw [if_pos e]; exact kf e
/-- leads its PAIR, or is alone -/
abbrev leads (M : Nat → Int32) (d : Nat) : Prop := aPa M d = (-1) ∨ nI d < aPa M d
theorem S62 (hw : Wf M) (hc : CMr h t M) (d : Nat) (hx : x = nI d) (hd : d < aN M) (kt : leads M d → C 1) (kf : ¬ leads M d → C 0) : W62 t x h C := by
  have h12 := hw.n12
  subst hx
  unfold W62
  rw [ix_n (by omega), hc.pa hd]
  refine ⟨inb_n (by omega), ?_⟩
  by_cases e : aPa M d = (-1)
  · rw [if_pos e]; exact kt (Or.inl e)
  · rw [if_neg e]
    refine ⟨inb_n (by omega), ?_⟩
    by_cases e2 : aPa M d ≤ nI d
    · rw [if_pos e2]; exact kf (fun q => q.elim e (fun q => absurd e2 (Int32.not_le.mpr q)))
    · rw [if_neg e2]; exact kt (Or.inr (Int32.not_le.mp e2))
theorem S63 (hw : Wf M) (hr : CMr h t M) (hc : CMg h t M) (d : Nat) (hx : x = nI d) (hd : d < aN M) (k : C (nP M d &&& oS M)) : W63 t x h C := by
  have h12 := hw.n12
  subst hx
  unfold W63
  rw [ix_n (by omega), (hc d hd).2.1, hr.on]
  exact ⟨inb_n (by omega), k⟩
theorem S58 (hw : Wf M) (hc : CMr h t M) (z : Nat) (hz : z ≤ 9) (hx : x = nI z) (k : C (dS M z)) : W58 t x h C := by
  have h12 := hw.n12
  subst hx
  unfold W58 B58_4
  refine LFP.up (aN M) (fun j q => q.2 = nI j ∧ q.1 = setOf (fun d => decide (z ≤ szN M d)) j) ?_ ?_ (Nat.zero_le _) ⟨rfl, rfl⟩
  · rintro X j ⟨x2, x3⟩ hj ⟨h1, h2⟩ ih
    dsimp only at h1 h2
    subst h1 h2
    obtain ⟨e1, e2, e3⟩ := hw.szb hj
    unfold F58_4 B58_30
    dsimp only
    rw [hc.n, if_neg (nI_ge hj (by omega)), ix_n (by omega), hc.sz hj, e1]
    refine ⟨inb_n (by omega), ?_⟩
    by_cases e : szN M j < z
    · rw [if_pos (nI_lt e (by omega))]
      refine ih _ ⟨nI_1 j, ?_⟩
      show _ = setOf _ (j + 1)
      rw [setOf, if_neg (by simp; omega)]
      exact Int32.or_zero
    · rw [if_neg (nI_nlt (by omega) (by omega))]
      refine ih _ ⟨nI_1 j, ?_⟩
      show _ = setOf _ (j + 1)
      rw [setOf, if_pos (by simp; omega)]
  · rintro X ⟨x2, x3⟩ ⟨h1, h2⟩
    dsimp only at h1 h2
    subst h1 h2
    unfold F58_4
    dsimp only
    rw [hc.n, if_pos (nI_le (Nat.le_refl _) (by omega))]
    exact k
end KC
