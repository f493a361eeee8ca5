/-! THE PURE LAYER, BASICS: loops, the heap's reads, bits -/
theorem LFP.ix {S : Type} {F : (S → Prop) → S → Prop} (Inv : Nat → S → Prop) (hF : ∀ (X : S → Prop) (k : Nat) (s : S), Inv k s → (∀ k' s', k' < k → Inv k' s' → X s') → F X s) {k : Nat} {s : S} (h0 : Inv k s) : LFP F s := by
  intro X hX
  have key : ∀ n k s, k < n → Inv k s → X s := by
    intro n
    induction n with
    | zero => intro k s h; omega
    | succ n ih => intro k s h1 h2; exact hX s (hF X k s h2 (fun k' s' h3 h4 => ih k' s' (by omega) h4))
  exact key (k + 1) k s (by omega) h0
theorem LFP.up {S : Type} {F : (S → Prop) → S → Prop} (n : Nat) (Inv : Nat → S → Prop) (hs : ∀ (X : S → Prop) (j : Nat) (s : S), j < n → Inv j s → (∀ s', Inv (j + 1) s' → X s') → F X s) (he : ∀ (X : S → Prop) (s : S), Inv n s → F X s) {i : Nat} {s : S} (hi : i ≤ n) (h0 : Inv i s) : LFP F s := by
  refine LFP.ix (fun k s => ∃ j, j ≤ n ∧ k = n - j ∧ Inv j s) ?_ (k := n - i) ⟨i, hi, rfl, h0⟩
  rintro X k s ⟨j, h1, rfl, h2⟩ ih
  by_cases e : j = n
  · subst e; exact he X s h2
  · exact hs X j s (by omega) h2 (fun s' h3 => ih (n - (j + 1)) s' (by omega) ⟨j + 1, by omega, rfl, h3⟩)
theorem LFP.down {S : Type} {F : (S → Prop) → S → Prop} (Inv : Nat → S → Prop) (hs : ∀ (X : S → Prop) (j : Nat) (s : S), Inv (j + 1) s → (∀ s', Inv j s' → X s') → F X s) (he : ∀ (X : S → Prop) (s : S), Inv 0 s → F X s) {n : Nat} {s : S} (h0 : Inv n s) : LFP F s := by
  refine LFP.ix Inv ?_ h0
  rintro X k s h ih
  cases k with
  | zero => exact he X s h
  | succ j => exact hs X j s h (fun s' h3 => ih j s' (by omega) h3)
/-! reads -/
section HEAPR
variable {h : TH} {a b k j l m c : Nat} {v : Int32} {w : Int64} {g : Nat → Int32} {gj : Nat → Int64}
theorem I_sI : (h.sI a k v).I b j = if b = a ∧ j = k then v else h.I b j := rfl
theorem J_sI : (h.sI a k v).J = h.J := rfl
theorem P_sI : (h.sI a k v).P = h.P := rfl
theorem K_sI : (h.sI a k v).K = h.K := rfl
theorem N_sI : (h.sI a k v).N = h.N := rfl
theorem n_sI : (h.sI a k v).n = h.n := rfl
theorem sl_sI : (h.sI a k v).sl = h.sl := rfl
theorem R_sI : (h.sI a k v).R b j = h.R b j := rfl
theorem J_sJ : (h.sJ a k w).J b j = if b = a ∧ j = k then w else h.J b j := rfl
theorem I_sJ : (h.sJ a k w).I = h.I := rfl
theorem P_sJ : (h.sJ a k w).P = h.P := rfl
theorem K_sJ : (h.sJ a k w).K = h.K := rfl
theorem N_sJ : (h.sJ a k w).N = h.N := rfl
theorem n_sJ : (h.sJ a k w).n = h.n := rfl
theorem sl_sJ : (h.sJ a k w).sl = h.sl := rfl
theorem R_sJ : (h.sJ a k w).R b j = h.R b j := rfl
theorem P_sP : (h.sP a k c).P b j = if b = a ∧ j = k then some c else h.P b j := rfl
theorem I_sP : (h.sP a k c).I = h.I := rfl
theorem J_sP : (h.sP a k c).J = h.J := rfl
theorem K_sP : (h.sP a k c).K = h.K := rfl
theorem N_sP : (h.sP a k c).N = h.N := rfl
theorem n_sP : (h.sP a k c).n = h.n := rfl
theorem sl_sP : (h.sP a k c).sl = h.sl := rfl
theorem R_sP : (h.sP a k c).R b j = if b = a ∧ j = k then c else h.R b j := by
  unfold TH.R
  rw [P_sP]
  split <;> rfl
theorem I_cI : (h.cI a g).I b = if b = a then g else h.I b := rfl
theorem J_cI : (h.cI a g).J = h.J := rfl
theorem P_cI : (h.cI a g).P = h.P := rfl
theorem K_cI : (h.cI a g).K = h.K := rfl
theorem N_cI : (h.cI a g).N = h.N := rfl
theorem n_cI : (h.cI a g).n = h.n := rfl
theorem sl_cI : (h.cI a g).sl = h.sl := rfl
theorem R_cI : (h.cI a g).R b j = h.R b j := rfl
theorem J_cJ : (h.cJ a gj).J b = if b = a then gj else h.J b := rfl
theorem I_cJ : (h.cJ a gj).I = h.I := rfl
theorem P_cJ : (h.cJ a gj).P = h.P := rfl
theorem K_cJ : (h.cJ a gj).K = h.K := rfl
theorem N_cJ : (h.cJ a gj).N = h.N := rfl
theorem n_cJ : (h.cJ a gj).n = h.n := rfl
theorem sl_cJ : (h.cJ a gj).sl = h.sl := rfl
theorem R_cJ : (h.cJ a gj).R b j = h.R b j := rfl
theorem I_new : (h.new k l m).I b = if b = h.n then (fun _ => 0) else h.I b := rfl
theorem J_new : (h.new k l m).J b = if b = h.n then (fun _ => 0) else h.J b := rfl
theorem P_new : (h.new k l m).P b = if b = h.n then (fun _ => none) else h.P b := rfl
theorem K_new : (h.new k l m).K b = if b = h.n then k else h.K b := rfl
theorem N_new : (h.new k l m).N b = if b = h.n then l else h.N b := rfl
theorem n_new : (h.new k l m).n = h.n + 1 := rfl
theorem sl_new : (h.new k l m).sl = h.sl + m := rfl
theorem R_new : (h.new k l m).R b j = if b = h.n then 0 else h.R b j := by
  unfold TH.R
  rw [P_new]
  split <;> rfl
end HEAPR
/-! small numbers -/
theorem nI_ne1 {j : Nat} (h : j < 2 ^ 31) : ¬ nI j = (-1) := by
  intro q
  have := congrArg Int32.toInt q
  rw [nI_toInt h] at this
  have e : (-1 : Int32).toInt = -1 := by decide
  rw [e] at this
  omega
theorem nI_lit (n : Nat) : (OfNat.ofNat n : Int32) = nI n := rfl
theorem nI_pred' {j : Nat} : nI (j + 1) + (-1) = nI j := pk_m1 j
theorem nI_0m : nI 0 + (-1) < 0 := by decide +kernel
theorem nI_0s : nI 0 - 1 < 0 := by decide +kernel
theorem inb_n {j n : Nat} (h : j < n) (hn : n < 2 ^ 31 := by omega) : inb (nI j) n := inb_nI h hn
theorem ix_n {j : Nat} (h : j < 2 ^ 31 := by omega) : ix (nI j) = j := nI_clamp h
theorem ix_0 : ix 0 = 0 := by decide +kernel
theorem inb_e {x : Int32} {n : Nat} (h : inb x n) (hn : n < 2 ^ 31 := by omega) : ∃ j, j < n ∧ x = nI j := by
  obtain ⟨j, h1, h2⟩ := nI_of (x := x) (Int32.not_lt.mpr h.1)
  refine ⟨j, ?_, h2⟩
  have := h.2
  rw [h2] at this
  unfold ix at this
  rwa [nI_clamp h1] at this
theorem lgc_eq {x y : Int64} : lg_cmp x y = 0 ↔ x = y := by
  unfold lg_cmp
  by_cases h1 : x > y
  · rw [if_pos h1]
    refine ⟨fun q => absurd q (by decide), fun q => ?_⟩
    subst q
    exact absurd h1 (Int64.lt_irrefl)
  · rw [if_neg h1]
    by_cases h2 : x = y
    · rw [if_pos h2]; exact ⟨fun _ => h2, fun _ => rfl⟩
    · rw [if_neg h2]; exact ⟨fun q => absurd q (by decide), fun q => absurd q h2⟩
theorem lgc_lt {x y : Int64} : lg_cmp x y < 0 ↔ x < y := by
  unfold lg_cmp
  by_cases h1 : x > y
  · rw [if_pos h1]
    exact ⟨fun q => absurd q (by decide), fun q => absurd q (Int64.lt_asymm h1)⟩
  · rw [if_neg h1]
    by_cases h2 : x = y
    · rw [if_pos h2]; exact ⟨fun q => absurd q (by decide), fun q => absurd h2 (Int64.ne_of_lt q)⟩
    · rw [if_neg h2]
      refine ⟨fun _ => ?_, fun _ => by decide⟩
      rcases Int64.lt_or_eq_of_le (Int64.not_lt.mp h1) with q | q
      · exact q
      · exact absurd q h2
theorem lgc_gt {x y : Int64} : 0 < lg_cmp x y ↔ y < x := by
  unfold lg_cmp
  by_cases h1 : x > y
  · rw [if_pos h1]; exact ⟨fun _ => h1, fun _ => by decide⟩
  · rw [if_neg h1]
    by_cases h2 : x = y
    · rw [if_pos h2]; exact ⟨fun q => absurd q (by decide), fun q => absurd q h1⟩
    · rw [if_neg h2]; exact ⟨fun q => absurd q (by decide), fun q => absurd q h1⟩
theorem lgc_le {x y : Int64} : lg_cmp x y ≤ 0 ↔ x ≤ y := by
  rw [← Int32.not_lt, lgc_gt, Int64.not_lt]
/-! bits -/
def bt (s : Int32) (d : Nat) : Bool := s.toBitVec.getLsbD d
theorem bt_and (a b : Int32) (d : Nat) : bt (a &&& b) d = (bt a d && bt b d) := by
  unfold bt
  rw [Int32.toBitVec_and, BitVec.getLsbD_and]
theorem bt_or (a b : Int32) (d : Nat) : bt (a ||| b) d = (bt a d || bt b d) := by
  unfold bt
  rw [Int32.toBitVec_or, BitVec.getLsbD_or]
theorem bt_m1 : ∀ d, d < 32 → bt (-1) d = true := by decide +kernel
theorem bt_not (a : Int32) {d : Nat} (h : d < 32) : bt (a ^^^ (-1)) d = !bt a d := by
  have e := bt_m1 d h
  unfold bt at e ⊢
  rw [Int32.toBitVec_xor, BitVec.getLsbD_xor, e]
  simp
theorem bt_0 (d : Nat) : bt 0 d = false := by
  unfold bt
  exact BitVec.getLsbD_zero
theorem bt_big (a : Int32) {d : Nat} (h : 32 ≤ d) : bt a d = false := by
  unfold bt
  exact BitVec.getLsbD_of_ge _ _ h
theorem bt_ext {a b : Int32} (h : ∀ d, d < 32 → bt a d = bt b d) : a = b :=
  Int32.toBitVec_inj.mp (BitVec.eq_of_getLsbD_eq (fun i hi => h i hi))
theorem bt_nI {u : Nat} (h : u < 2 ^ 32) (d : Nat) : bt (nI u) d = u.testBit d := by
  show (nI u).toBitVec.toNat.testBit d = _
  rw [pk_tn h]
theorem bt_one : ∀ j, j < 32 → ∀ d, d < 32 → bt (ishl 1 (nI j)) d = decide (d = j) := by decide +kernel
theorem bt_bit {j : Nat} (hj : j < 32) (d : Nat) : bt (ishl 1 (nI j)) d = decide (d = j) := by
  by_cases h : d < 32
  · exact bt_one j hj d h
  · rw [bt_big _ (by omega)]
    symm
    rw [decide_eq_false_iff_not]
    omega
theorem ishl_pow : ∀ j, j < 31 → ishl 1 (nI j) = nI (2 ^ j) := by decide +kernel
/-- no bit -/
theorem bt_z {a : Int32} : a = 0 ↔ ∀ d, d < 32 → bt a d = false := by
  refine ⟨fun h d _ => by rw [h]; exact bt_0 d, fun h => bt_ext (fun d hd => by rw [h d hd, bt_0])⟩
theorem bt_in {s : Int32} {j : Nat} (hj : j < 32) : s &&& ishl 1 (nI j) = 0 ↔ bt s j = false := by
  rw [bt_z]
  refine ⟨fun h => ?_, fun h d hd => ?_⟩
  · have := h j hj
    rw [bt_and, bt_bit hj] at this
    simpa using this
  · rw [bt_and, bt_bit hj]
    by_cases e : d = j
    · subst e; rw [h]; rfl
    · simp [e]
theorem bt_in' {s : Int32} {j : Nat} (hj : j < 32) : ¬ (s &&& ishl 1 (nI j) = 0) ↔ bt s j = true := by
  rw [bt_in hj]
  simp
theorem bt_dis {a b : Int32} : a &&& b = 0 ↔ ∀ d, d < 32 → bt a d = true → bt b d = false := by
  rw [bt_z]
  refine ⟨fun h d hd ha => ?_, fun h d hd => ?_⟩
  · have := h d hd
    rw [bt_and, ha] at this
    simpa using this
  · rw [bt_and]
    cases e : bt a d
    · rfl
    · rw [h d hd e]; rfl
theorem bt_sub {a b : Int32} : a &&& (b ^^^ (-1)) = 0 ↔ ∀ d, d < 32 → bt a d = true → bt b d = true := by
  rw [bt_dis]
  refine ⟨fun h d hd ha => ?_, fun h d hd ha => ?_⟩
  · have := h d hd ha
    rw [bt_not _ hd] at this
    simpa using this
  · rw [bt_not _ hd, h d hd ha]; rfl
theorem bt_sup {a b : Int32} : a &&& b = b ↔ ∀ d, d < 32 → bt b d = true → bt a d = true := by
  refine ⟨fun h d hd hb => ?_, fun h => bt_ext (fun d hd => ?_)⟩
  · rw [← h, bt_and] at hb
    simp only [Bool.and_eq_true] at hb
    exact hb.1
  · rw [bt_and]
    cases e : bt b d
    · simp
    · rw [h d hd e]; rfl
/-! sets of n -/
def St (n : Nat) (s : Int32) : Prop := ∃ u, u < 2 ^ n ∧ s = nI u
theorem nI_toN (s : Int32) : nI s.toBitVec.toNat = s := by
  refine Int32.toBitVec_inj.mp (BitVec.eq_of_toNat_eq ?_)
  rw [pk_tn s.toBitVec.isLt]
theorem St_bt {n : Nat} {s : Int32} (hn : n ≤ 31) : St n s ↔ ∀ d, n ≤ d → d < 32 → bt s d = false := by
  have hp : 2 ^ n ≤ 2 ^ 32 := Nat.pow_le_pow_right (by omega) (by omega)
  refine ⟨?_, fun h => ?_⟩
  · rintro ⟨u, hu, rfl⟩ d hd _
    rw [bt_nI (by omega)]
    exact Nat.testBit_lt_two_pow (Nat.lt_of_lt_of_le hu (Nat.pow_le_pow_right (by omega) hd))
  · refine ⟨s.toBitVec.toNat, ?_, (nI_toN s).symm⟩
    refine Nat.lt_pow_two_of_testBit _ (fun d hd => ?_)
    by_cases h3 : d < 32
    · exact h d hd h3
    · exact bt_big s (by omega)
theorem St.lt {n : Nat} {s : Int32} (h : St n s) (hn : n ≤ 30 := by omega) : ix s < 2 ^ n ∧ s = nI (ix s) ∧ 0 ≤ s := by
  obtain ⟨u, hu, rfl⟩ := h
  have hp : 2 ^ n ≤ 2 ^ 30 := Nat.pow_le_pow_right (by omega) hn
  have : u < 2 ^ 31 := by omega
  rw [ix_n this]
  exact ⟨hu, rfl, nI_pos' this⟩
theorem St.inb {n m : Nat} {s : Int32} (h : St n s) (hm : 2 ^ n ≤ m) (hn : n ≤ 30 := by omega) : inb s m := ⟨(h.lt hn).2.2, Nat.lt_of_lt_of_le (h.lt hn).1 hm⟩
theorem St.ne1 {n : Nat} {s : Int32} (h : St n s) (hn : n ≤ 30 := by omega) : ¬ s = (-1) := by
  obtain ⟨u, hu, rfl⟩ := h
  have hp : 2 ^ n ≤ 2 ^ 30 := Nat.pow_le_pow_right (by omega) hn
  exact nI_ne1 (by omega)
theorem St_0 (n : Nat) : St n 0 := ⟨0, Nat.pos_of_ne_zero (by simp), rfl⟩
theorem St_and {n : Nat} {a : Int32} (b : Int32) (h : St n a) (hn : n ≤ 31 := by omega) : St n (a &&& b) := by
  rw [St_bt hn] at h ⊢
  intro d h1 h2
  rw [bt_and, h d h1 h2]; rfl
theorem St_or {n : Nat} {a b : Int32} (h : St n a) (h' : St n b) (hn : n ≤ 31 := by omega) : St n (a ||| b) := by
  rw [St_bt hn] at h h' ⊢
  intro d h1 h2
  rw [bt_or, h d h1 h2, h' d h1 h2]; rfl
theorem St_bit {n j : Nat} (h : j < n) (hn : n ≤ 31 := by omega) : St n (ishl 1 (nI j)) := by
  rw [St_bt hn]
  intro d h1 h2
  rw [bt_bit (by omega)]
  simp; omega
theorem St_mono {n m : Nat} {s : Int32} (h : St n s) (hm : n ≤ m) : St m s := by
  obtain ⟨u, hu, rfl⟩ := h
  exact ⟨u, Nat.lt_of_lt_of_le hu (Nat.pow_le_pow_right (by omega) hm), rfl⟩
theorem St_of {n : Nat} {s : Int32} (h0 : ¬ s < 0) (h1 : ¬ ishl 1 (nI n) ≤ s) (hn : n ≤ 30 := by omega) : St n s := by
  obtain ⟨u, h2, rfl⟩ := nI_of h0
  rw [ishl_pow n (by omega)] at h1
  have hp : 2 ^ n ≤ 2 ^ 30 := Nat.pow_le_pow_right (by omega) hn
  rw [nI_leI (by omega) h2] at h1
  exact ⟨u, by omega, rfl⟩
theorem St.rng {n : Nat} {s : Int32} (h : St n s) (hn : n ≤ 30 := by omega) : ¬ s < 0 ∧ ¬ ishl 1 (nI n) ≤ s := by
  obtain ⟨u, hu, rfl⟩ := h
  have hp : 2 ^ n ≤ 2 ^ 30 := Nat.pow_le_pow_right (by omega) hn
  rw [ishl_pow n (by omega), nI_leI (by omega) (by omega)]
  exact ⟨nI_pos (by omega), by omega⟩
/-- equal in its n bits -/
theorem St_ext {n : Nat} {a b : Int32} (ha : St n a) (hb : St n b) (h : ∀ d, d < n → bt a d = bt b d) (hn : n ≤ 31 := by omega) : a = b := by
  rw [St_bt hn] at ha hb
  refine bt_ext (fun d hd => ?_)
  by_cases e : d < n
  · exact h d e
  · rw [ha d (by omega) hd, hb d (by omega) hd]
theorem ishr_sm : ∀ d, d < 32 → ((nI d &&& 31).toBitVec.smod 32).toNat = d := by decide +kernel
/-- the reference's has -/
theorem has_bt {n : Nat} {s : Int32} {d : Nat} (h : St n s) (hd : d < 32) (hn : n ≤ 30 := by omega) : (ishr s (nI d)) &&& 1 = if bt s d then 1 else 0 := by
  obtain ⟨u, hu, rfl⟩ := h
  have hp : 2 ^ n ≤ 2 ^ 30 := Nat.pow_le_pow_right (by omega) hn
  show (nI u >>> (nI d &&& 31)) &&& 1 = _
  rw [pk_shrN (by omega) _ d (ishr_sm d hd), pk_andN (Nat.lt_of_le_of_lt (Nat.div_le_self _ _) (by omega)) 1 (by decide), bt_nI (by omega), Nat.testBit_eq_decide_div_mod_eq]
  have := Nat.mod_lt (u / 2 ^ d) (show 0 < 2 ^ 1 by decide)
  by_cases e : u / 2 ^ d % 2 = 1
  · rw [show u / 2 ^ d % 2 ^ 1 = 1 from e]; simp [e]; rfl
  · rw [show u / 2 ^ d % 2 ^ 1 = 0 by omega]; simp [e]; rfl
theorem has_1 {n : Nat} {s : Int32} {d : Nat} (h : St n s) (hd : d < 32) (hn : n ≤ 30 := by omega) : (ishr s (nI d)) &&& 1 = 1 ↔ bt s d = true := by
  rw [has_bt h hd hn]
  cases bt s d <;> decide
/-! how many -/
def pc (s : Int32) : Nat := fb_ct (bt s) 12
theorem pc_le (s : Int32) : pc s ≤ 12 := fb_ct_le _ _
def bcI (a : Int32) : Int32 :=
  let e1 := (((a - ((iushr a 1) &&& 1431655765)) &&& 858993459) + ((iushr (a - ((iushr a 1) &&& 1431655765)) 2) &&& 858993459))
  let e2 := (((e1 + (iushr e1 4)) &&& 252645135) + (iushr ((e1 + (iushr e1 4)) &&& 252645135) 8))
  (e2 + (iushr e2 16)) &&& 63
theorem bc_all : ∀ a, a < 64 → ∀ b, b < 64 → bcI (nI (64 * a + b)) = nI (fb_ct (fun d => (64 * a + b).testBit d) 12) := by decide +kernel
theorem bc_pc {s : Int32} (h : St 12 s) : bcI s = nI (pc s) := by
  obtain ⟨u, hu, rfl⟩ := h
  have e : u = 64 * (u / 64) + u % 64 := by omega
  have := bc_all (u / 64) (by omega) (u % 64) (by omega)
  rw [← e] at this
  rw [this]
  unfold pc
  exact congrArg nI (fb_ct_cong (fun k _ => (bt_nI (by omega) k).symm))
theorem S327 {a : Int32} {h : TH} {C : Int32 → Prop} (ha : St 12 a) (k : C (nI (pc a))) : W327 a h C := by
  unfold W327
  intro e1 h1 e2 h2
  subst h1
  subst h2
  have := bc_pc ha
  unfold bcI at this
  dsimp only at this
  rw [this]
  exact k
theorem pcd_all : ∀ a, a < 64 → ∀ b, b < 64 → ¬ nI (64 * a + b) = 0 → (nI (64 * a + b)) &&& (nI (64 * a + b) - 1) = nI ((64 * a + b) &&& (64 * a + b - 1)) ∧ fb_ct (fun d => ((64 * a + b) &&& (64 * a + b - 1)).testBit d) 12 + 1 = fb_ct (fun d => (64 * a + b).testBit d) 12 := by decide +kernel
/-! only rows of S change -/
def Sm (S : Nat → Prop) (h h' : TH) : Prop := h'.n = h.n ∧ h'.sl = h.sl ∧ h'.K = h.K ∧ h'.N = h.N ∧ h'.P = h.P ∧ (∀ a, ¬ S a → h'.I a = h.I a) ∧ (∀ a, (¬ S a ∨ a = 0 ∨ a = 197) → h'.J a = h.J a)
section SMS
variable {S T : Nat → Prop} {h h' h'' : TH} {a k : Nat}
theorem Sm.refl : Sm S h h := ⟨rfl, rfl, rfl, rfl, rfl, fun _ _ => rfl, fun _ _ => rfl⟩
theorem Sm.trans (p : Sm S h h') (q : Sm S h' h'') : Sm S h h'' := by
  obtain ⟨a1, a2, a3, a4, a5, a6, a7⟩ := p
  obtain ⟨b1, b2, b3, b4, b5, b6, b7⟩ := q
  exact ⟨b1.trans a1, b2.trans a2, b3.trans a3, b4.trans a4, b5.trans a5, fun a ha => (b6 a ha).trans (a6 a ha), fun a ha => (b7 a ha).trans (a7 a ha)⟩
theorem Sm.mono (p : Sm S h h') (q : ∀ a, S a → T a) : Sm T h h' := by
  obtain ⟨a1, a2, a3, a4, a5, a6, a7⟩ := p
  exact ⟨a1, a2, a3, a4, a5, fun a ha => a6 a (fun z => ha (q a z)), fun a ha => a7 a (ha.imp (fun w z => w (q a z)) id)⟩
theorem Sm.sI (p : Sm S h h') (ha : S a) (v : Int32) : Sm S h (h'.sI a k v) := by
  obtain ⟨a1, a2, a3, a4, a5, a6, a7⟩ := p
  refine ⟨a1, a2, a3, a4, a5, fun b hb => ?_, a7⟩
  rw [← a6 b hb]
  show up2 h'.I a k v b = _
  rw [up2_row, if_neg (fun (e : b = a) => hb (by rw [e]; exact ha))]
theorem Sm.sJ (p : Sm S h h') (ha : S a) (v : Int64) (h0 : a ≠ 0 := by decide) (h1 : a ≠ 197 := by decide) : Sm S h (h'.sJ a k v) := by
  obtain ⟨a1, a2, a3, a4, a5, a6, a7⟩ := p
  refine ⟨a1, a2, a3, a4, a5, a6, fun b hb => ?_⟩
  rw [← a7 b hb]
  show up2 h'.J a k v b = _
  rw [up2_row, if_neg (fun (e : b = a) => by
    rcases hb with w | w | w
    · exact w (by rw [e]; exact ha)
    · exact h0 (by rw [← e]; exact w)
    · exact h1 (by rw [← e]; exact w))]
theorem Sm.cI (p : Sm S h h') (ha : S a) (g : Nat → Int32) : Sm S h (h'.cI a g) := by
  obtain ⟨a1, a2, a3, a4, a5, a6, a7⟩ := p
  refine ⟨a1, a2, a3, a4, a5, fun b hb => ?_, a7⟩
  rw [← a6 b hb, I_cI, if_neg (fun e => hb (by rw [e]; exact ha))]
theorem Sm.cJ (p : Sm S h h') (ha : S a) (g : Nat → Int64) (h0 : a ≠ 0 := by decide) (h1 : a ≠ 197 := by decide) : Sm S h (h'.cJ a g) := by
  obtain ⟨a1, a2, a3, a4, a5, a6, a7⟩ := p
  refine ⟨a1, a2, a3, a4, a5, a6, fun b hb => ?_⟩
  rw [← a7 b hb, J_cJ, if_neg (fun e => by
    rcases hb with w | w | w
    · exact w (by rw [e]; exact ha)
    · exact h0 (by rw [← e]; exact w)
    · exact h1 (by rw [← e]; exact w))]
theorem Sm.n (p : Sm S h h') : h'.n = h.n := p.1
theorem Sm.sl (p : Sm S h h') : h'.sl = h.sl := p.2.1
theorem Sm.K (p : Sm S h h') : h'.K = h.K := p.2.2.1
theorem Sm.N (p : Sm S h h') : h'.N = h.N := p.2.2.2.1
theorem Sm.P (p : Sm S h h') : h'.P = h.P := p.2.2.2.2.1
theorem Sm.R (p : Sm S h h') {b j : Nat} : h'.R b j = h.R b j := by unfold TH.R; rw [p.P]
theorem Sm.I (p : Sm S h h') (ha : ¬ S a) : h'.I a = h.I a := p.2.2.2.2.2.1 a ha
theorem Sm.J (p : Sm S h h') (ha : ¬ S a) : h'.J a = h.J a := p.2.2.2.2.2.2 a (Or.inl ha)
theorem Sm.J0 (p : Sm S h h') : h'.J 0 = h.J 0 := p.2.2.2.2.2.2 0 (Or.inr (Or.inl rfl))
theorem Sm.J197 (p : Sm S h h') : h'.J 197 = h.J 197 := p.2.2.2.2.2.2 197 (Or.inr (Or.inr rfl))
end SMS
/-- writes to one row -/
theorem cI_sI {h : TH} {a k : Nat} {g : Nat → Int32} {v : Int32} : (h.cI a g).sI a k v = h.cI a (upd g k v) := by
  show ((h.n, h.sl, h.K, h.N, up2 (upr h.I a g) a k v, h.J, h.P) : TH) = (h.n, h.sl, h.K, h.N, upr h.I a (upd g k v), h.J, h.P)
  refine congrArg (fun z => (h.n, h.sl, h.K, h.N, z, h.J, h.P)) (funext fun b => ?_)
  rw [up2_row]
  by_cases e : b = a
  · rw [if_pos e, e, upr_same, upr_same]; rfl
  · rw [if_neg e, upr_ne e, upr_ne e]
theorem cI_self {h : TH} {a : Nat} : h.cI a (h.I a) = h := by
  show ((h.n, h.sl, h.K, h.N, upr h.I a (h.I a), h.J, h.P) : TH) = h
  have : upr h.I a (h.I a) = h.I := funext fun b => by
    by_cases e : b = a
    · rw [e, upr_same]
    · rw [upr_ne e]
  rw [this]
  rfl
theorem sI_cI {h : TH} {a k : Nat} {v : Int32} : h.sI a k v = h.cI a (upd (h.I a) k v) := by
  rw [← cI_sI, cI_self]
theorem cJ_sJ {h : TH} {a k : Nat} {g : Nat → Int64} {v : Int64} : (h.cJ a g).sJ a k v = h.cJ a (vp_updL g k v) := by
  show ((h.n, h.sl, h.K, h.N, h.I, up2 (upr h.J a g) a k v, h.P) : TH) = (h.n, h.sl, h.K, h.N, h.I, upr h.J a (vp_updL g k v), h.P)
  refine congrArg (fun z => (h.n, h.sl, h.K, h.N, h.I, z, h.P)) (funext fun b => ?_)
  rw [up2_row]
  by_cases e : b = a
  · rw [if_pos e, e, upr_same, upr_same]; rfl
  · rw [if_neg e, upr_ne e, upr_ne e]
theorem cJ_self {h : TH} {a : Nat} : h.cJ a (h.J a) = h := by
  show ((h.n, h.sl, h.K, h.N, h.I, upr h.J a (h.J a), h.P) : TH) = h
  have : upr h.J a (h.J a) = h.J := funext fun b => by
    by_cases e : b = a
    · rw [e, upr_same]
    · rw [upr_ne e]
  rw [this]
  rfl
