/-! THE KITCHEN as numbers: M is the reference's row of one slot (places 0, 1 and 8 to 111 alone are asked) -/
def aW (M : Nat → Int32) (d : Nat) : Int32 := M (16 + 8 * d + 0)
def aSz (M : Nat → Int32) (d : Nat) : Int32 := M (16 + 8 * d + 1)
def aKp (M : Nat → Int32) (d : Nat) : Int32 := M (16 + 8 * d + 2)
def aBu (M : Nat → Int32) (d : Nat) : Int32 := M (16 + 8 * d + 3)
def aNe (M : Nat → Int32) (d : Nat) : Int32 := M (16 + 8 * d + 4)
def aPo (M : Nat → Int32) (d : Nat) : Int32 := M (16 + 8 * d + 5)
def aOn (M : Nat → Int32) (d : Nat) : Int32 := M (16 + 8 * d + 6)
def aPa (M : Nat → Int32) (d : Nat) : Int32 := M (16 + 8 * d + 7)
def aN (M : Nat → Int32) : Nat := ix (M 0)
def aP (M : Nat → Int32) : Nat := ix (M 1)
/-- one DISH is well told -/
def WfD (M : Nat → Int32) (n d : Nat) : Prop :=
  (∃ w, w ≤ 99 ∧ aW M d = nI w) ∧ (∃ w, 1 ≤ w ∧ w ≤ 9 ∧ aSz M d = nI w) ∧ (∃ w, w ≤ 99 ∧ aKp M d = nI w) ∧ (∃ w, w ≤ 15 ∧ aBu M d = nI w) ∧
  St d (aNe M d) ∧ (aPo M d = 0 ∨ aPo M d = 1) ∧ (aOn M d = 0 ∨ aOn M d = 1) ∧ (aPo M d = 1 → ¬ aNe M d = 0) ∧
  (aPa M d = (-1) ∨ ∃ e, e < n ∧ aPa M d = nI e ∧ e ≠ d ∧ aPa M e = nI d ∧ bt (aNe M d) e = false ∧ bt (aNe M e) d = false)
def Wf (M : Nat → Int32) : Prop := M 0 = nI (aN M) ∧ aN M ≤ 12 ∧ M 1 = nI (aP M) ∧ aP M ≤ 8 ∧ (∀ k, k < aP M → ∃ z, 1 ≤ z ∧ z ≤ 9 ∧ M (8 + k) = nI z) ∧ ∀ d, d < aN M → WfD M (aN M) d
/-- the reference's slot 0 tells M -/
def MA (h : TH) (M : Nat → Int32) : Prop := ∀ k, (k < 2 ∨ 8 ≤ k ∧ k < 112) → h.I 198 k = M k
/-- a set by its bits -/
def setOf (p : Nat → Bool) : Nat → Int32
  | 0 => 0
  | n + 1 => if p n then setOf p n ||| ishl 1 (nI n) else setOf p n
theorem bt_setOf (p : Nat → Bool) : ∀ n, n ≤ 32 → ∀ d, bt (setOf p n) d = (decide (d < n) && p d) := by
  intro n
  induction n with
  | zero => intro _ d; show bt 0 d = _; rw [bt_0]; simp
  | succ n ih =>
    intro hn d
    unfold setOf
    split
    · rename_i hp
      rw [bt_or, ih (by omega), bt_bit (by omega)]
      by_cases e : d = n
      · subst e; simp [hp]
      · have : decide (d < n) = decide (d < n + 1) := by
          rw [decide_eq_decide]; omega
        simp [e, this]
    · rename_i hp
      rw [ih (by omega)]
      by_cases e : d = n
      · subst e; simp [hp]
      · have : decide (d < n) = decide (d < n + 1) := by
          rw [decide_eq_decide]; omega
        rw [this]
theorem St_setOf (p : Nat → Bool) {n : Nat} (hn : n ≤ 31) : St n (setOf p n) := by
  rw [St_bt hn]
  intro d h1 h2
  rw [bt_setOf p n (by omega)]
  simp; omega
def oS (M : Nat → Int32) : Int32 := setOf (fun d => decide (aOn M d = 1)) (aN M)
/-- with its partner: as a set, what they NEED, their WORK -/
def gP (M : Nat → Int32) (d : Nat) : Int32 := ishl 1 (nI d) ||| (if aPa M d = (-1) then 0 else ishl 1 (aPa M d))
def nP (M : Nat → Int32) (d : Nat) : Int32 := aNe M d ||| (if aPa M d = (-1) then 0 else aNe M (ix (aPa M d)))
def wP (M : Nat → Int32) (d : Nat) : Int32 := if aPa M d = (-1) then aW M d else imax (aW M d) (aW M (ix (aPa M d)))
/-- FITS: big tells how many POTS there are of a size and above -/
def szN (M : Nat → Int32) (d : Nat) : Nat := ix (aSz M d)
def fcnt (M : Nat → Int32) (s : Int32) (z : Nat) : Nat := fb_ct (fun d => bt s d && decide (z ≤ szN M d)) (aN M)
def fitB (M : Nat → Int32) (big : Nat → Nat) (s : Int32) : Bool := (List.range 9).all (fun z => decide (fcnt M s (z + 1) ≤ big (z + 1)))
theorem fitB_iff {M : Nat → Int32} {big : Nat → Nat} {s : Int32} : fitB M big s = true ↔ ∀ z, z < 10 → 1 ≤ z → fcnt M s z ≤ big z := by
  unfold fitB
  rw [List.all_eq_true]
  refine ⟨fun h z h1 h2 => ?_, fun h z hz => decide_eq_true (h (z + 1) (by have := List.mem_range.mp hz; omega) (by omega))⟩
  have := of_decide_eq_true (h (z - 1) (List.mem_range.mpr (by omega)))
  rwa [show z - 1 + 1 = z by omega] at this
def bigK (M : Nat → Int32) (more : Nat) (z : Nat) : Nat := fb_ct (fun k => decide (z ≤ ix (M (8 + k)))) (aP M) + (if z ≤ more then 1 else 0)
section KF
variable {M : Nat → Int32} {d e : Nat}
theorem Wf.n12 (hw : Wf M) : aN M ≤ 12 := hw.2.1
theorem Wf.eN (hw : Wf M) : M 0 = nI (aN M) := hw.1
theorem Wf.eP (hw : Wf M) : M 1 = nI (aP M) := hw.2.2.1
theorem Wf.D (hw : Wf M) (hd : d < aN M) : WfD M (aN M) d := hw.2.2.2.2.2 d hd
theorem Wf.ne (hw : Wf M) (hd : d < aN M) : St d (aNe M d) := (hw.D hd).2.2.2.2.1
theorem Wf.neN (hw : Wf M) (hd : d < aN M) : St (aN M) (aNe M d) := St_mono (hw.ne hd) (by omega)
theorem Wf.szb (hw : Wf M) (hd : d < aN M) : aSz M d = nI (szN M d) ∧ 1 ≤ szN M d ∧ szN M d ≤ 9 := by
  obtain ⟨w, h1, h2, h3⟩ := (hw.D hd).2.1
  unfold szN
  rw [h3, ix_n]
  exact ⟨rfl, h1, h2⟩
theorem Wf.pa (hw : Wf M) (hd : d < aN M) : aPa M d = (-1) ∨ ∃ e, e < aN M ∧ aPa M d = nI e ∧ e ≠ d ∧ aPa M e = nI d ∧ bt (aNe M d) e = false ∧ bt (aNe M e) d = false := (hw.D hd).2.2.2.2.2.2.2.2
theorem gP_alone (h : aPa M d = (-1)) : gP M d = ishl 1 (nI d) := by
  unfold gP
  rw [if_pos h]
  exact Int32.or_zero
theorem gP_pair (h : aPa M d = nI e) (he : e < 2 ^ 31) : gP M d = ishl 1 (nI d) ||| ishl 1 (nI e) := by
  unfold gP
  rw [if_neg (by rw [h]; exact nI_ne1 he), h]
theorem nP_alone (h : aPa M d = (-1)) : nP M d = aNe M d := by
  unfold nP
  rw [if_pos h]
  exact Int32.or_zero
theorem nP_pair (h : aPa M d = nI e) (he : e < 2 ^ 31) : nP M d = aNe M d ||| aNe M e := by
  unfold nP
  rw [if_neg (by rw [h]; exact nI_ne1 he), h, ix_n he]
theorem Wf.gS (hw : Wf M) (hd : d < aN M) : St (aN M) (gP M d) := by
  have := hw.n12
  rcases hw.pa hd with h | ⟨e, h1, h2, _⟩
  · rw [gP_alone h]; exact St_bit hd
  · rw [gP_pair h2 (by omega)]; exact St_or (St_bit hd) (St_bit h1)
theorem Wf.nS (hw : Wf M) (hd : d < aN M) : St (aN M) (nP M d) := by
  have := hw.n12
  rcases hw.pa hd with h | ⟨e, h1, h2, _⟩
  · rw [nP_alone h]; exact hw.neN hd
  · rw [nP_pair h2 (by omega)]; exact St_or (hw.neN hd) (hw.neN h1)
theorem Wf.gd (hd : d < 32) : bt (gP M d) d = true := by
  unfold gP
  rw [bt_or, bt_bit hd]; simp
theorem Wf.wN (hw : Wf M) (hd : d < aN M) : ∃ w, w ≤ 99 ∧ aW M d = nI w := (hw.D hd).1
theorem imax_n {a b : Nat} (ha : a < 2 ^ 31) (hb : b < 2 ^ 31) : imax (nI a) (nI b) = nI (max a b) := by
  unfold imax
  by_cases h : a < b
  · rw [if_pos (nI_lt h hb), Nat.max_eq_right (by omega)]
  · rw [if_neg (nI_nlt (by omega) ha), Nat.max_eq_left (by omega)]
theorem imin_n {a b : Nat} (ha : a < 2 ^ 31) (hb : b < 2 ^ 31) : imin (nI a) (nI b) = nI (min a b) := by
  unfold imin
  by_cases h : b < a
  · rw [if_pos (nI_lt h ha), Nat.min_eq_right (by omega)]
  · rw [if_neg (nI_nlt (by omega) hb), Nat.min_eq_left (by omega)]
theorem Wf.wPb (hw : Wf M) (hd : d < aN M) : ∃ w, w ≤ 99 ∧ wP M d = nI w := by
  have := hw.n12
  obtain ⟨w, h1, h2⟩ := hw.wN hd
  unfold wP
  rcases hw.pa hd with h | ⟨e, h3, h4, _⟩
  · rw [if_pos h]; exact ⟨w, h1, h2⟩
  · obtain ⟨v, h5, h6⟩ := hw.wN h3
    rw [if_neg (by rw [h4]; exact nI_ne1 (by omega)), h4, ix_n (by omega), h2, h6, imax_n (by omega) (by omega)]
    exact ⟨max w v, by omega, rfl⟩
theorem oS_bt (hw : Wf M) (d : Nat) : bt (oS M) d = (decide (d < aN M) && decide (aOn M d = 1)) := bt_setOf _ _ (by have := hw.n12; omega) d
theorem oS_St (hw : Wf M) : St (aN M) (oS M) := St_setOf _ (by have := hw.n12; omega)
/-- fewer fit -/
theorem fit_mono {big : Nat → Nat} {a b : Int32} (h : ∀ d, d < aN M → bt a d = true → bt b d = true) (hb : fitB M big b = true) : fitB M big a = true := by
  rw [fitB_iff] at hb ⊢
  intro z h1 h2
  refine Nat.le_trans ?_ (hb z h1 h2)
  unfold fcnt
  refine fb_ct_sub (fun k hk q => ?_)
  simp only [Bool.and_eq_true] at q ⊢
  exact ⟨h k hk q.1, q.2⟩
end KF
/-! the reference's plain questions -/
section KM
variable {h : TH} {M : Nat → Int32} {C : Int32 → Prop} {x y : Int32} {d e : Nat}
theorem S251 (d f : Nat) (hM : MA h M) (hx : x = nI d) (hy : y = nI f) (hd : d < 12) (hf : f < 8) (k : C (M (16 + 8 * d + f))) : W251 x y h C := by
  subst hx hy
  unfold W251
  rw [show (16 : Int32) + 8 * nI d + nI f = nI (16 + 8 * d + f) by show nI 16 + nI 8 * nI d + nI f = _; rw [pk_mul, nI_add, nI_add]]
  rw [ix_n (by omega), hM _ (by omega)]
  exact ⟨inb_n (by omega), k⟩
theorem S252 (d : Nat) (hM : MA h M) (hx : x = nI d) (hd : d < 12) (k : C (aPa M d)) : W252 x h C := S251 d 7 hM hx rfl hd (by omega) k
theorem S253 (d : Nat) (hM : MA h M) (hx : x = nI d) (hd : d < 12) (k : C (gP M d)) : W253 x h C := by
  unfold W253
  refine S252 d hM hx hd ?_
  subst hx
  unfold gP at k
  by_cases e : aPa M d = (-1)
  · rw [if_neg (fun q => q e)]
    rw [if_pos e] at k
    exact k
  · rw [if_pos e]
    rw [if_neg e] at k
    exact S252 d hM rfl hd k
theorem S254 (hw : Wf M) (d : Nat) (hM : MA h M) (hx : x = nI d) (hd : d < aN M) (k : C (nP M d)) : W254 x h C := by
  have h12 := hw.n12
  unfold W254
  refine S251 d 4 hM hx rfl (by omega) (by omega) ?_
  refine S252 d hM hx (by omega) ?_
  unfold nP at k
  rcases hw.pa hd with e | ⟨e, h1, h2, _⟩
  · rw [if_neg (fun q => q e)]
    rw [if_pos e] at k
    exact k
  · have e9 : ¬ aPa M d = (-1) := by rw [h2]; exact nI_ne1 (by omega)
    rw [if_pos e9]
    rw [if_neg e9, h2, ix_n (by omega)] at k
    refine S252 d hM hx (by omega) ?_
    exact S251 e 4 hM h2 rfl (by omega) (by omega) k
theorem S255 (hw : Wf M) (d : Nat) (hM : MA h M) (hx : x = nI d) (hd : d < aN M) (k : C (wP M d)) : W255 x h C := by
  have h12 := hw.n12
  unfold W255
  refine S252 d hM hx (by omega) ?_
  unfold wP at k
  rcases hw.pa hd with e | ⟨e, h1, h2, _⟩
  · rw [if_neg (fun q => q e)]
    rw [if_pos e] at k
    exact S251 d 0 hM hx rfl (by omega) (by omega) k
  · have e9 : ¬ aPa M d = (-1) := by rw [h2]; exact nI_ne1 (by omega)
    rw [if_pos e9]
    rw [if_neg e9, h2, ix_n (by omega)] at k
    refine S251 d 0 hM hx rfl (by omega) (by omega) ?_
    refine S252 d hM hx (by omega) ?_
    exact S251 e 0 hM h2 rfl (by omega) (by omega) k
/-- has -/
theorem S250 {n : Nat} {s : Int32} (d : Nat) (hx : x = nI d) (hs : St n s) (hd : d < 32) (hn : n ≤ 30) (kt : bt s d = true → C 1) (kf : bt s d = false → C 0) : W250 s x h C := by
  subst hx
  unfold W250
  by_cases e : bt s d = true
  · rw [if_neg (fun q => q ((has_1 hs hd hn).mpr e))]; exact kt e
  · rw [if_pos (fun q => e ((has_1 hs hd hn).mp q))]; exact kf (by simpa using e)
theorem hN0 (hM : MA h M) (hw : Wf M) : h.I 198 (ix 0) = nI (aN M) := by
  rw [ix_0, hM 0 (by omega), hw.eN]
theorem S256 (hw : Wf M) (hM : MA h M) {s : Int32} (hs : St (aN M) s) (k : C (s &&& oS M)) : W256 s h C := by
  have h12 := hw.n12
  unfold W256 B256_4
  refine LFP.up (aN M) (fun j q => q.2 = nI j ∧ q.1 = setOf (fun d => bt s d && decide (aOn M d = 1)) j) ?_ ?_ (Nat.zero_le _) ⟨rfl, rfl⟩
  · rintro X j ⟨x2, x3⟩ hj ⟨h1, h2⟩ ih
    dsimp only at h1 h2
    subst h1 h2
    unfold F256_4
    dsimp only
    rw [hN0 hM hw, if_neg (nI_ge hj (by omega))]
    refine S250 j rfl hs (by omega) (by omega) (fun e => ?_) (fun e => ?_)
    · rw [if_neg (by decide)]
      refine S251 j 6 hM rfl rfl (by omega) (by omega) ?_
      by_cases e2 : M (16 + 8 * j + 6) = 1
      · rw [if_neg (fun q => q e2)]
        refine ih _ ⟨nI_1 j, ?_⟩
        show _ = setOf _ (j + 1)
        have e2' : aOn M j = 1 := e2
        rw [setOf, if_pos (by simp [e, e2'])]
      · rw [if_pos e2]
        refine ih _ ⟨nI_1 j, ?_⟩
        show _ = setOf _ (j + 1)
        have e2' : ¬ aOn M j = 1 := e2
        rw [setOf, if_neg (by simp [e2'])]
    · rw [if_pos rfl]
      refine ih _ ⟨nI_1 j, ?_⟩
      show _ = setOf _ (j + 1)
      rw [setOf, if_neg (by simp [e])]
  · rintro X ⟨x2, x3⟩ ⟨h1, h2⟩
    dsimp only at h1 h2
    subst h1 h2
    unfold F256_4
    dsimp only
    rw [hN0 hM hw, if_pos (nI_le (Nat.le_refl _) (by omega))]
    have e : setOf (fun d => bt s d && decide (aOn M d = 1)) (aN M) = s &&& oS M := by
      refine St_ext (n := aN M) (St_setOf _ (by omega)) (St_and _ hs) (fun d hd => ?_)
      rw [bt_setOf _ _ (by omega), bt_and, oS_bt hw]
      simp [hd]
    rw [e]
    exact k
theorem S249 (hw : Wf M) (hM : MA h M) (kt : St (aN M) x → C 1) (kf : (x < 0 ∨ ishl 1 (nI (aN M)) ≤ x) → C 0) : W249 x h C := by
  have h12 := hw.n12
  unfold W249 W248
  dsimp only
  rw [hN0 hM hw]
  by_cases e : x < 0
  · rw [if_pos e]; exact kf (Or.inl e)
  · rw [if_neg e]
    by_cases e2 : ishl 1 (nI (aN M)) ≤ x
    · rw [if_pos e2]; exact kf (Or.inr e2)
    · rw [if_neg e2]; exact kt (St_of e e2)
end KM
