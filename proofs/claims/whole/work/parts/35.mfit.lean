/-! THE REFERENCE'S FITS, MAKES, POURS -/
/-- row 206 tells big, nothing is laid -/
def MBig (h : TH) (big : Nat → Nat) : Prop := ∀ z, 1 ≤ z → z < 10 → h.I 206 z = nI (big z)
section MF
variable {h : TH} {M : Nat → Int32} {C : Int32 → Prop} {D : TH → Prop} {x : Int32} {big : Nat → Nat}
theorem hP1 (hM : MA h M) (hw : Wf M) : h.I 198 (ix 1) = nI (aP M) := by
  rw [show ix 1 = 1 by decide +kernel, hM 1 (by omega), hw.eP]
theorem MA.sm {S : Nat → Prop} {h' : TH} (hM : MA h M) (hs : Sm S h h') (hS : ¬ S 198) : MA h' M := by
  intro k hk
  rw [hs.I hS]
  exact hM k hk
def in206 (a : Nat) : Prop := a = 206 ∨ a = 197
theorem S261 (hw : Wf M) (hM : MA h M) (more : Nat) (hx : x = nI more) (hm : more ≤ 9) (k : ∀ h', Sm in206 h h' → h'.I 197 = (h.sI 197 25 0).I 197 → MBig h' (bigK M more) → D h') : W261 x (-1) h D := by
  have h12 := hw.n12
  have hp8 := hw.2.2.2.1
  subst hx
  unfold W261 B261_7
  have r198 : ∀ {g : TH}, Sm in206 h g → MA g M := fun q => hM.sm q (by unfold in206; omega)
  refine LFP.up 10 (fun z q => q.1 = nI z ∧ 1 ≤ z ∧ Sm in206 h q.2 ∧ q.2.I 197 = (h.sI 197 25 0).I 197 ∧ ∀ y, 1 ≤ y → y < z → q.2.I 206 y = nI (bigK M more y)) ?_ ?_ (show 1 ≤ 10 by omega) ⟨rfl, Nat.le_refl _, Sm.refl.sI (Or.inr rfl) _, rfl, fun y h1 h2 => by omega⟩
  · rintro X z ⟨x3, g⟩ hz ⟨h1, h2, h3, h3b, h4⟩ ih
    dsimp only at h1 h3 h3b h4
    subst h1
    unfold F261_7
    dsimp only
    rw [if_neg (show ¬ (10 : Int32) ≤ nI z from nI_ge (b := 10) (by omega) (by omega)), ix_n (by omega)]
    refine ⟨inb_n (by omega), ?_⟩
    unfold B261_23
    refine LFP.up (aP M) (fun j q => q.1 = nI j ∧ q.2 = g.sI 206 z (nI (fb_ct (fun k => decide (z ≤ ix (M (8 + k)))) j) - 1)) ?_ ?_ (Nat.zero_le _) ⟨rfl, rfl⟩
    · rintro Y j ⟨y4, g'⟩ hj ⟨f1, f2⟩ ih2
      dsimp only at f1 f2
      subst f1 f2
      have hs' : Sm in206 h (g.sI 206 z (nI (fb_ct (fun k => decide (z ≤ ix (M (8 + k)))) j) - 1)) := h3.sI (Or.inl rfl) _
      have hM' := r198 hs'
      obtain ⟨zz, z1, z2, z3⟩ := hw.2.2.2.2.1 j hj
      unfold F261_23 B261_65
      dsimp only
      rw [hP1 hM' hw, if_neg (nI_ge hj (by omega)), if_neg (by decide), show (8 : Int32) + nI j = nI (8 + j) by show nI 8 + nI j = _; rw [nI_add], ix_n (by omega), hM' (8 + j) (by omega), z3, ix_n (by omega)]
      refine ⟨inb_n (by omega), inb_n (by omega), ?_⟩
      have rd : (g.sI 206 z (nI (fb_ct (fun k => decide (z ≤ ix (M (8 + k)))) j) - 1)).I 206 z = nI (fb_ct (fun k => decide (z ≤ ix (M (8 + k)))) j) - 1 := by rw [I_sI, if_pos ⟨rfl, rfl⟩]
      rw [rd]
      simp only [sI_sI]
      by_cases e : zz < z
      · rw [if_pos (nI_lt e (by omega))]
        refine ⟨inb_n (by omega), ih2 _ ⟨nI_1 j, ?_⟩⟩
        dsimp only
        rw [fb_ct_succ, z3, ix_n (by omega), if_neg (by simp; omega), Int32.add_zero]
        rfl
      · rw [if_neg (nI_nlt (by omega) (by omega))]
        refine ⟨inb_n (by omega), ih2 _ ⟨nI_1 j, ?_⟩⟩
        dsimp only
        rw [fb_ct_succ, z3, ix_n (by omega), if_pos (by simp; omega), nI_m1s]
    · rintro Y ⟨y4, g'⟩ ⟨f1, f2⟩
      dsimp only at f1 f2
      subst f1 f2
      have hs' : Sm in206 h (g.sI 206 z (nI (fb_ct (fun k => decide (z ≤ ix (M (8 + k)))) (aP M)) - 1)) := h3.sI (Or.inl rfl) _
      have hM' := r198 hs'
      have rd : (g.sI 206 z (nI (fb_ct (fun k => decide (z ≤ ix (M (8 + k)))) (aP M)) - 1)).I 206 z = nI (fb_ct (fun k => decide (z ≤ ix (M (8 + k)))) (aP M)) - 1 := by rw [I_sI, if_pos ⟨rfl, rfl⟩]
      unfold F261_23 B261_73 B261_96
      dsimp only
      rw [hP1 hM' hw, if_pos (nI_le (Nat.le_refl _) (by omega)), if_neg (fun q => q rfl), ix_n (by omega), rd]
      simp only [sI_sI]
      have fin : ∀ b : Nat, b = (if z ≤ more then 1 else 0) → (nI (fb_ct (fun k => decide (z ≤ ix (M (8 + k)))) (aP M)) - 1) + (1 + nI b) = nI (bigK M more z) := by
        intro b hb
        rw [Int32.sub_eq_add_neg, Int32.add_assoc, ← Int32.add_assoc (-1) 1, show (-1 : Int32) + 1 = 0 by decide, Int32.zero_add, nI_add]
        unfold bigK
        rw [hb]
      have goal : ∀ v : Int32, v = nI (bigK M more z) → X (nI z + 1, g.sI 206 z v) := by
        intro v hv
        refine ih _ ⟨nI_1 z, by omega, h3.sI (Or.inl rfl) _, ?_, fun y y1 y2 => ?_⟩
        · show (g.sI 206 z v).I 197 = _
          rw [← h3b]
          funext i
          rw [I_sI, if_neg (by omega)]
        · show (g.sI 206 z v).I 206 y = _
          rw [I_sI]
          by_cases e : y = z
          · rw [if_pos ⟨rfl, e⟩, e, hv]
          · rw [if_neg (fun q => e q.2)]; exact h4 y y1 (by omega)
      refine ⟨inb_n (by omega), ?_⟩
      by_cases e : more < z
      · rw [if_pos (nI_lt e (by omega))]
        exact ⟨inb_n (by omega), goal _ (fin 0 (by rw [if_neg (by omega)]))⟩
      · rw [if_neg (nI_nlt (by omega) (by omega))]
        exact ⟨inb_n (by omega), goal _ (fin 1 (by rw [if_pos (by omega)]))⟩
  · rintro X ⟨x3, g⟩ ⟨h1, h2, h3, h3b, h4⟩
    dsimp only at h1 h3 h3b h4
    subst h1
    unfold F261_7
    dsimp only
    rw [if_pos (show (10 : Int32) ≤ nI 10 by decide +kernel)]
    exact k _ h3 h3b (fun y y1 y2 => h4 y y1 y2)
/-- so many POTS of size 9 -/
theorem S261o (hw : Wf M) (hM : MA h M) (p : Nat) (hp : p ≤ 12) {y : Int32} (hy : y = nI p) (k : ∀ h', Sm in206 h h' → h'.I 197 = (h.sI 197 25 0).I 197 → MBig h' (fun _ => p) → D h') : W261 x y h D := by
  have hp8 := hw.2.2.2.1
  subst hy
  unfold W261 B261_7
  have r198 : ∀ {g : TH}, Sm in206 h g → MA g M := fun q => hM.sm q (by unfold in206; omega)
  refine LFP.up 10 (fun z q => q.1 = nI z ∧ 1 ≤ z ∧ Sm in206 h q.2 ∧ q.2.I 197 = (h.sI 197 25 0).I 197 ∧ ∀ y, 1 ≤ y → y < z → q.2.I 206 y = nI p) ?_ ?_ (show 1 ≤ 10 by omega) ⟨rfl, Nat.le_refl _, Sm.refl.sI (Or.inr rfl) _, rfl, fun y h1 h2 => by omega⟩
  · rintro X z ⟨x3, g⟩ hz ⟨h1, h2, h3, h3b, h4⟩ ih
    dsimp only at h1 h3 h3b h4
    subst h1
    unfold F261_7
    dsimp only
    rw [if_neg (show ¬ (10 : Int32) ≤ nI z from nI_ge (b := 10) (by omega) (by omega)), ix_n (by omega)]
    refine ⟨inb_n (by omega), ?_⟩
    have hs' : Sm in206 h (g.sI 206 z (nI p)) := h3.sI (Or.inl rfl) _
    have goal : X (nI z + 1, g.sI 206 z (nI p)) := by
      refine ih _ ⟨nI_1 z, by omega, h3.sI (Or.inl rfl) _, ?_, fun y y1 y2 => ?_⟩
      · show (g.sI 206 z (nI p)).I 197 = _
        rw [← h3b]
        funext i
        rw [I_sI, if_neg (by omega)]
      · show (g.sI 206 z (nI p)).I 206 y = _
        rw [I_sI]
        by_cases e : y = z
        · rw [if_pos ⟨rfl, e⟩]
        · rw [if_neg (fun q => e q.2)]; exact h4 y y1 (by omega)
    unfold B261_23
    refine LFP.ix (fun m q => q = (0, g.sI 206 z (nI p))) ?_ (k := 0) rfl
    rintro Y m q rfl _
    unfold F261_23 B261_73
    dsimp only
    rw [if_pos (nI_ne1 (by omega)), if_pos (nI_ne1 (by omega))]
    by_cases e : (g.sI 206 z (nI p)).I 198 (ix 1) ≤ 0
    · rw [if_pos e]; exact goal
    · rw [if_neg e]; exact goal
  · rintro X ⟨x3, g⟩ ⟨h1, h2, h3, h3b, h4⟩
    dsimp only at h1 h3 h3b h4
    subst h1
    unfold F261_7
    dsimp only
    rw [if_pos (show (10 : Int32) ≤ nI 10 by decide +kernel)]
    exact k _ h3 h3b (fun y y1 y2 => h4 y y1 y2)
/-- what fitsIn asks: nothing is laid and big is told; or all is laid -/
def MFit (h : TH) (M : Nat → Int32) (big : Nat → Nat) : Prop := (∀ z, z < 10 → big z ≤ 20) ∧ ((h.I 197 25 = 0 ∧ MBig h big) ∨ (¬ h.I 197 25 = 0 ∧ ∀ u, u < 2 ^ aN M → h.I 207 u = if fitB M big (nI u) then 1 else 0))
theorem S262 {s : Int32} (hw : Wf M) (hM : MA h M) (hf : MFit h M big) (hs : St (aN M) s) (kt : fitB M big s = true → C 1) (kf : fitB M big s = false → C 0) : W262 s h C := by
  have h12 := hw.n12
  have p12 : 2 ^ aN M ≤ 2 ^ 12 := Nat.pow_le_pow_right (by omega) h12
  obtain ⟨hb, hf | hf⟩ := hf
  · unfold W262
    rw [if_pos hf.1]
    unfold B262_16
    refine LFP.up 10 (fun z q => q = nI z ∧ 1 ≤ z ∧ ∀ y, y < z → 1 ≤ y → fcnt M s y ≤ big y) ?_ ?_ (show 1 ≤ 10 by omega) ⟨rfl, Nat.le_refl _, fun y h1 h2 => by omega⟩
    · rintro X z x2 hz ⟨h1, h2, h3⟩ ih
      subst h1
      unfold F262_16
      dsimp only
      rw [if_neg (show ¬ (10 : Int32) ≤ nI z from nI_ge (b := 10) (by omega) (by omega))]
      unfold B262_27
      refine LFP.up (aN M) (fun j q => q.2 = nI j ∧ q.1 = nI (fb_ct (fun d => bt s d && decide (z ≤ szN M d)) j)) ?_ ?_ (Nat.zero_le _) ⟨rfl, rfl⟩
      · rintro Y j ⟨x3, x4⟩ hj ⟨f1, f2⟩ ih2
        dsimp only at f1 f2
        subst f1 f2
        obtain ⟨e1, e2, e3⟩ := hw.szb hj
        unfold F262_27 B262_63 B262_64
        dsimp only
        rw [hN0 hM hw, if_neg (nI_ge hj (by omega))]
        refine S250 j rfl hs (by omega) (by omega) (fun q => ?_) (fun q => ?_)
        · rw [if_neg (by decide)]
          refine S251 j 1 hM rfl rfl (by omega) (by omega) ?_
          rw [show M (16 + 8 * j + 1) = nI (szN M j) from e1]
          by_cases e : szN M j < z
          · rw [if_pos (nI_lt e (by omega))]
            refine ih2 _ ⟨nI_1 j, ?_⟩
            dsimp only
            rw [fb_ct_succ, if_neg (by simp; omega), Int32.add_zero]
            rfl
          · rw [if_neg (nI_nlt (by omega) (by omega))]
            refine ih2 _ ⟨nI_1 j, ?_⟩
            dsimp only
            rw [fb_ct_succ, if_pos (by simp [q]; omega), nI_1]
        · rw [if_pos rfl]
          refine ih2 _ ⟨nI_1 j, ?_⟩
          dsimp only
          rw [fb_ct_succ, if_neg (by simp [q]), Int32.add_zero]
          rfl
      · rintro Y ⟨x3, x4⟩ ⟨f1, f2⟩
        dsimp only at f1 f2
        subst f1 f2
        unfold F262_27
        dsimp only
        rw [hN0 hM hw, if_pos (nI_le (Nat.le_refl _) (by omega)), ix_n (by omega), hf.2 z h2 hz]
        refine ⟨inb_n (by omega), ?_⟩
        have c12 := fb_ct_le (fun d => bt s d && decide (z ≤ szN M d)) (aN M)
        have hbz := hb z hz
        change if nI (fcnt M s z) ≤ nI (big z) then _ else _
        by_cases e : fcnt M s z ≤ big z
        · rw [if_pos (nI_le e (by omega))]
          refine ih _ ⟨nI_1 z, by omega, fun y y1 y2 => ?_⟩
          by_cases e9 : y = z
          · rw [e9]; exact e
          · exact h3 y (by omega) y2
        · rw [if_neg (nI_ge (show big z < fcnt M s z by omega) (by unfold fcnt; omega))]
          refine kf ?_
          have : ¬ fitB M big s = true := fun q => e (fitB_iff.mp q z hz h2)
          simpa using this
    · rintro X x2 ⟨h1, h2, h3⟩
      subst h1
      unfold F262_16
      dsimp only
      rw [if_pos (show (10 : Int32) ≤ nI 10 by decide +kernel)]
      refine kt ?_
      exact fitB_iff.mpr h3
  · unfold W262
    rw [if_neg hf.1]
    obtain ⟨l1, l2, l3⟩ := hs.lt (by omega)
    have e := hf.2 (ix s) l1
    rw [← l2] at e
    rw [e]
    refine ⟨hs.inb (by omega) (by omega), ?_, ?_⟩
    · split
      · exact Or.inr rfl
      · exact Or.inl rfl
    · cases q : fitB M big s
      · exact kf q
      · exact kt q
end MF
