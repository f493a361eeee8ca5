/-! THE TEXT'S TOKENS, as numbers. T: its bytes; z: how many -/
def runF (f : Nat → Bool) : Nat → Nat → Nat
  | 0, p => p
  | n + 1, p => if f p then runF f n (p + 1) else p
def rn (f : Nat → Bool) (z p : Nat) : Nat := runF f (z - p) p
theorem rn_step {f : Nat → Bool} {z p : Nat} (hp : p < z) (hf : f p = true) : rn f z p = rn f z (p + 1) := by
  unfold rn
  rw [show z - p = (z - (p + 1)) + 1 by omega]
  show (if f p then _ else _) = _
  rw [if_pos hf]
theorem rn_stop {f : Nat → Bool} {z p : Nat} (hp : z ≤ p ∨ f p = false) : rn f z p = p := by
  unfold rn
  cases e : z - p with
  | zero => rfl
  | succ n =>
    show (if f p then _ else _) = _
    rw [if_neg (by rcases hp with q | q; omega; simp [q])]
theorem runF_in {f : Nat → Bool} : ∀ (n p : Nat), p ≤ runF f n p ∧ runF f n p ≤ p + n ∧ ∀ j, p ≤ j → j < runF f n p → f j = true
  | 0, p => ⟨Nat.le_refl _, Nat.le_refl _, fun j h1 h2 => by have h2' : j < p := h2; omega⟩
  | n + 1, p => by
    show p ≤ (if f p then runF f n (p + 1) else p) ∧ (if f p then runF f n (p + 1) else p) ≤ _ ∧ ∀ j, p ≤ j → j < (if f p then runF f n (p + 1) else p) → f j = true
    by_cases q : f p = true
    · rw [if_pos q]
      obtain ⟨a, b, c⟩ := runF_in (f := f) n (p + 1)
      refine ⟨by omega, by omega, fun j h1 h2 => ?_⟩
      rcases Nat.eq_or_lt_of_le h1 with e | e
      · rw [← e]; exact q
      · exact c j e h2
    · rw [if_neg q]
      exact ⟨Nat.le_refl _, by omega, fun j h1 h2 => by omega⟩
theorem rn_ge {f : Nat → Bool} {z p : Nat} : p ≤ rn f z p := (runF_in _ _).1
theorem rn_le {f : Nat → Bool} {z p : Nat} (h : p ≤ z) : rn f z p ≤ z := by
  have := (runF_in (f := f) (z - p) p).2.1
  unfold rn; omega
theorem rn_all {f : Nat → Bool} {z p j : Nat} (h1 : p ≤ j) (h2 : j < rn f z p) : f j = true := (runF_in _ _).2.2 j h1 h2
def smc (c : Nat) : Bool := decide (97 ≤ c ∧ c ≤ 122)
def dgc (c : Nat) : Bool := decide (48 ≤ c ∧ c ≤ 57)
def blc (c : Nat) : Bool := decide (c = 10 ∨ c = 32)
def fr (T : Nat → Nat) (z p : Nat) : Nat := rn (fun k => blc (T k)) z p
def ena (T : Nat → Nat) (z a : Nat) : Nat := if z ≤ a then a else if smc (T a) then rn (fun k => smc (T k)) z a else if dgc (T a) then rn (fun k => dgc (T k)) z a else a + 1
def wo (T : Nat → Nat) (a b : Nat) : List Nat := (List.range (b - a)).map (fun j => T (a + j))
def cod (B o : Nat) (l : List Nat) : Nat := l.foldl (fun a c => a * B + (c - o)) 0
def wls : List (List Nat) := [[100,105,115,104], [112,97,105,114], [112,111,116,115], [119,111,114,107], [115,105,122,101], [107,101,101,112,115], [98,117,114,110,115], [102,114,111,109], [112,111,117,114,101,100], [111,110,99,101], [109,97,107,101], [112,111,117,114], [111,118,101,114], [119,97,115,104], [116,114,117,115,116], [115,104,111,119], [119,104,101,110], [115,116,97,110,100,115], [116,114,117,115,116,101,100], [102,117,108,108], [108,111,111,112], [101,110,100], [115,116,111,112]]
def wl (k : Nat) : List Nat := wls.getD k []
def ckl : List Nat := [0, 8, 9, 1, 2, 3, 4, 5, 6, 7, 10, 11, 12, 13, 14, 15, 16, 17, 18, 19, 20, 21, 22]
def icl : List Nat := [0, 3, 4, 5, 6, 7, 8, 9, 1, 2, 10, 11, 12, 13, 14, 15, 16, 17, 18, 19, 20, 21, 22]
def ck (k : Nat) : Nat := if k < 23 then ckl.getD k 0 else k
def wC (x : Nat) : List Nat := wl (icl.getD x 0)
def wix (l : List Nat) : Nat := ((List.range 23).find? (fun k => decide (wl k = l))).getD 30
theorem wix_none {l : List Nat} (h : ∀ k, k < 23 → wl k ≠ l) : wix l = 30 := by
  unfold wix
  rw [List.find?_eq_none.mpr (fun k hk => by simpa using h k (by simpa using hk))]
  rfl
theorem wix_at : ∀ k, k < 23 → wix (wl k) = k := by decide +kernel
theorem wC_at : ∀ x, x < 23 → ck (wix (wC x)) = x := by decide +kernel
theorem wl_C : ∀ k, k < 23 → wC (ck k) = wl k ∧ ck k < 23 := by decide +kernel
theorem wl_sm : ∀ k, k < 23 → (∀ c, c ∈ wl k → 97 ≤ c ∧ c ≤ 122) ∧ (wl k).length ≤ 8 := by decide +kernel
theorem wC_sm : ∀ k, k < 23 → (∀ c, c ∈ wC k → 97 ≤ c ∧ c ≤ 122) ∧ (wC k).length ≤ 8 := by decide +kernel
theorem ck_inj : ∀ a, a < 23 → ∀ b, b < 23 → ck a = ck b → a = b := by decide +kernel
theorem wix_cases (l : List Nat) : (∃ k, k < 23 ∧ wix l = k ∧ wl k = l) ∨ wix l = 30 ∧ ∀ k, k < 23 → wl k ≠ l := by
  by_cases q : ∃ k, k < 23 ∧ wl k = l
  · obtain ⟨k, h1, h2⟩ := q
    exact Or.inl ⟨k, h1, by rw [← h2]; exact wix_at k h1, h2⟩
  · exact Or.inr ⟨wix_none (fun k hk e => q ⟨k, hk, e⟩), fun k hk e => q ⟨k, hk, e⟩⟩
theorem wo_len {T : Nat → Nat} {a b : Nat} : (wo T a b).length = b - a := by unfold wo; simp
theorem wo_nil {T : Nat → Nat} {a : Nat} : wo T a a = [] := by unfold wo; simp
theorem wo_snoc {T : Nat → Nat} {a x : Nat} (h : a ≤ x) : wo T a (x + 1) = wo T a x ++ [T x] := by
  unfold wo
  rw [show x + 1 - a = (x - a) + 1 by omega, List.range_succ, List.map_append]
  simp [show a + (x - a) = x by omega]
theorem wo_get {T : Nat → Nat} {a b j : Nat} (h : j < b - a) : (wo T a b)[j]? = some (T (a + j)) := by
  unfold wo
  simp [h]
theorem wo_mem {T : Nat → Nat} {a b c : Nat} (h : c ∈ wo T a b) : ∃ j, a ≤ j ∧ j < b ∧ c = T j := by
  unfold wo at h
  simp only [List.mem_map, List.mem_range] at h
  obtain ⟨j, h1, h2⟩ := h
  exact ⟨a + j, by omega, by omega, h2.symm⟩
theorem snoc_or (l : List Nat) : l = [] ∨ ∃ (L : List Nat) (b : Nat), l = L ++ [b] := by
  rcases List.eq_nil_or_concat l with q | ⟨L, b, q⟩
  · exact Or.inl q
  · exact Or.inr ⟨L, b, by rw [q, List.concat_eq_append]⟩
theorem cod_snoc {B o : Nat} (l : List Nat) (c : Nat) : cod B o (l ++ [c]) = cod B o l * B + (c - o) := by
  unfold cod; rw [List.foldl_append]; rfl
theorem cod_lt {B o : Nat} (hB : 1 ≤ B) : ∀ (n : Nat) (l : List Nat), l.length = n → (∀ c, c ∈ l → c - o < B) → cod B o l < B ^ n
  | 0, l, e, _ => by
    rw [List.length_eq_zero_iff.mp e]
    exact Nat.one_pos
  | n + 1, l, e, h => by
    rcases snoc_or l with q | ⟨L, b, q⟩
    · rw [q] at e; simp at e
    · subst q
      have h1 := cod_lt hB n L (by simp at e; exact e) (fun c hc => h c (by simp [hc]))
      have h2 := h b (by simp)
      rw [cod_snoc, Nat.pow_succ]
      have h3 : (cod B o L + 1) * B ≤ B ^ n * B := Nat.mul_le_mul_right B h1
      rw [Nat.add_mul] at h3
      omega
theorem cod_inj {B o : Nat} : ∀ (n : Nat) (l l' : List Nat), l.length ≤ n → (∀ c, c ∈ l → o < c ∧ c - o < B) → (∀ c, c ∈ l' → o < c ∧ c - o < B) → cod B o l = cod B o l' → l = l' := by
  intro n
  induction n with
  | zero =>
    intro l l' e h h' q
    have : l = [] := List.length_eq_zero_iff.mp (by omega)
    subst this
    rcases snoc_or l' with w | ⟨L, b, w⟩
    · exact w.symm
    · subst w
      rw [cod_snoc] at q
      have := h' b (by simp)
      have q' : 0 = cod B o L * B + (b - o) := q
      omega
  | succ n ih =>
    intro l l' e h h' q
    rcases snoc_or l with w | ⟨L, b, w⟩
    · subst w
      rcases snoc_or l' with w | ⟨L, b, w⟩
      · exact w.symm
      · subst w
        rw [cod_snoc] at q
        have := h' b (by simp)
        have q' : 0 = cod B o L * B + (b - o) := q
        omega
    · subst w
      have hb := h b (by simp)
      rcases snoc_or l' with w | ⟨L', b', w⟩
      · subst w
        rw [cod_snoc] at q
        have q' : cod B o L * B + (b - o) = 0 := q
        omega
      · subst w
        have hb' := h' b' (by simp)
        rw [cod_snoc, cod_snoc] at q
        have h0 : 0 < B := by omega
        have q1 : (cod B o L * B + (b - o)) / B = (cod B o L' * B + (b' - o)) / B := by rw [q]
        have q2 : (cod B o L * B + (b - o)) % B = (cod B o L' * B + (b' - o)) % B := by rw [q]
        rw [Nat.mul_comm (cod B o L), Nat.mul_comm (cod B o L'), Nat.mul_add_div h0, Nat.mul_add_div h0, Nat.div_eq_of_lt hb.2, Nat.div_eq_of_lt hb'.2] at q1
        rw [Nat.mul_comm (cod B o L), Nat.mul_comm (cod B o L'), Nat.mul_add_mod, Nat.mul_add_mod, Nat.mod_eq_of_lt hb.2, Nat.mod_eq_of_lt hb'.2] at q2
        have e1 := ih L L' (by simp at e; omega) (fun c hc => h c (by simp [hc])) (fun c hc => h' c (by simp [hc])) (by omega)
        have e2 : b = b' := by omega
        rw [e1, e2]
/-- the kind of the TOKEN that begins at a: a WORD by its number in the reference's row, 30 a NAME, 31 a WORD too long, 32 a NUMBER, 33 the SIGN, 34 the end, 35 no TOKEN -/
def kda (T : Nat → Nat) (z a : Nat) : Nat := if z ≤ a then 34 else if smc (T a) then (if ena T z a - a ≤ 8 then wix (wo T a (ena T z a)) else 31) else if dgc (T a) then (if ena T z a - a ≤ 4 then 32 else 35) else if T a = 59 then 33 else 35
def tp (T : Nat → Nat) (z : Nat) : Nat → Nat
  | 0 => 0
  | i + 1 => ena T z (fr T z (tp T z i))
def tf (T : Nat → Nat) (z i : Nat) : Nat := fr T z (tp T z i)
def kd (T : Nat → Nat) (z i : Nat) : Nat := kda T z (tf T z i)
def wd (T : Nat → Nat) (z i : Nat) : List Nat := wo T (tf T z i) (tp T z (i + 1))
section TKP
variable {T : Nat → Nat} {z : Nat}
theorem ena_ge {a : Nat} : a ≤ ena T z a := by
  unfold ena
  split
  · exact Nat.le_refl _
  · split
    · exact rn_ge
    · split
      · exact rn_ge
      · omega
theorem ena_le {a : Nat} (h : a ≤ z) : ena T z a ≤ z := by
  unfold ena
  split
  · exact h
  · split
    · exact rn_le h
    · split
      · exact rn_le h
      · omega
theorem ena_gt {a : Nat} (h : a < z) : a < ena T z a := by
  unfold ena
  rw [if_neg (by omega)]
  split
  · rename_i q; rw [rn_step h q]; exact rn_ge
  · split
    · rename_i q; rw [rn_step h q]; exact rn_ge
    · omega
theorem ena_end {a : Nat} (h : z ≤ a) : ena T z a = a := by unfold ena; rw [if_pos h]
theorem wix_lt (l : List Nat) : wix l < 34 ∧ wix l ≠ 32 ∧ wix l ≠ 33 ∧ wix l ≠ 31 := by
  rcases wix_cases l with ⟨k, h1, h2, _⟩ | ⟨h1, _⟩ <;> omega
theorem kda_34 {a : Nat} : kda T z a = 34 ↔ z ≤ a := by
  unfold kda
  constructor
  · intro h
    apply Classical.byContradiction
    intro q
    rw [if_neg q] at h
    have := wix_lt (wo T a (ena T z a))
    split at h
    · split at h <;> omega
    · split at h
      · split at h <;> omega
      · split at h <;> omega
  · intro h; rw [if_pos h]
theorem kda_30 {a : Nat} (h : kda T z a = 30) : a < z ∧ smc (T a) = true ∧ ena T z a - a ≤ 8 ∧ wix (wo T a (ena T z a)) = 30 := by
  unfold kda at h
  split at h
  · omega
  · split at h
    · rename_i q w
      split at h
      · exact ⟨by omega, w, by assumption, h⟩
      · omega
    · split at h
      · split at h <;> omega
      · split at h <;> omega
theorem kda_w {a k : Nat} (hk : k < 23) (h : kda T z a = k) : a < z ∧ smc (T a) = true ∧ ena T z a - a ≤ 8 ∧ wix (wo T a (ena T z a)) = k := by
  unfold kda at h
  split at h
  · omega
  · split at h
    · rename_i q w
      split at h
      · exact ⟨by omega, w, by assumption, h⟩
      · omega
    · split at h
      · split at h <;> omega
      · split at h <;> omega
theorem kda_31 {a : Nat} (h : kda T z a = 31) : a < z ∧ smc (T a) = true ∧ ¬ ena T z a - a ≤ 8 := by
  unfold kda at h
  split at h
  · omega
  · split at h
    · rename_i q w
      split at h
      · have := wix_lt (wo T a (ena T z a)); omega
      · exact ⟨by omega, w, by assumption⟩
    · split at h
      · split at h <;> omega
      · split at h <;> omega
theorem kda_32 {a : Nat} (h : kda T z a = 32) : a < z ∧ smc (T a) = false ∧ dgc (T a) = true ∧ ena T z a - a ≤ 4 := by
  unfold kda at h
  split at h
  · omega
  · split at h
    · split at h
      · have := wix_lt (wo T a (ena T z a)); omega
      · omega
    · rename_i q w
      split at h
      · split at h
        · exact ⟨by omega, by simpa using w, by assumption, by assumption⟩
        · omega
      · split at h <;> omega
theorem kda_33 {a : Nat} (h : kda T z a = 33) : a < z ∧ smc (T a) = false ∧ dgc (T a) = false ∧ T a = 59 := by
  unfold kda at h
  split at h
  · omega
  · split at h
    · split at h
      · have := wix_lt (wo T a (ena T z a)); omega
      · omega
    · rename_i q w
      split at h
      · split at h <;> omega
      · split at h
        · exact ⟨by omega, by simpa using w, by simpa using (by assumption : ¬ dgc (T a) = true), by assumption⟩
        · omega
theorem kda_35 {a : Nat} (h : kda T z a = 35) : a < z ∧ smc (T a) = false ∧ ((dgc (T a) = true ∧ ¬ ena T z a - a ≤ 4) ∨ (dgc (T a) = false ∧ T a ≠ 59)) := by
  unfold kda at h
  split at h
  · omega
  · split at h
    · split at h
      · have := wix_lt (wo T a (ena T z a)); omega
      · omega
    · rename_i q w
      split at h
      · split at h
        · omega
        · exact ⟨by omega, by simpa using w, Or.inl ⟨by assumption, by assumption⟩⟩
      · split at h
        · omega
        · exact ⟨by omega, by simpa using w, Or.inr ⟨by simpa using (by assumption : ¬ dgc (T a) = true), by assumption⟩⟩
theorem kda_all (a : Nat) : kda T z a < 23 ∨ kda T z a = 30 ∨ kda T z a = 31 ∨ kda T z a = 32 ∨ kda T z a = 33 ∨ kda T z a = 34 ∨ kda T z a = 35 := by
  unfold kda
  split
  · simp
  · split
    · split
      · rcases wix_cases (wo T a (ena T z a)) with ⟨k, h1, h2, _⟩ | ⟨h1, _⟩ <;> omega
      · simp
    · split
      · split <;> simp
      · split <;> simp
theorem ena_sm {a : Nat} (h : a < z) (q : smc (T a) = true) : ena T z a = rn (fun k => smc (T k)) z a := by unfold ena; rw [if_neg (by omega), if_pos q]
theorem ena_dg {a : Nat} (h : a < z) (q : smc (T a) = false) (w : dgc (T a) = true) : ena T z a = rn (fun k => dgc (T k)) z a := by unfold ena; rw [if_neg (by omega), if_neg (by simp [q]), if_pos w]
theorem ena_one {a : Nat} (h : a < z) (q : smc (T a) = false) (w : dgc (T a) = false) : ena T z a = a + 1 := by unfold ena; rw [if_neg (by omega), if_neg (by simp [q]), if_neg (by simp [w])]
theorem fr_ge {p : Nat} : p ≤ fr T z p := rn_ge
theorem fr_le {p : Nat} (h : p ≤ z) : fr T z p ≤ z := rn_le h
theorem tp_le : ∀ i, tp T z i ≤ z
  | 0 => Nat.zero_le _
  | i + 1 => ena_le (fr_le (tp_le i))
theorem tf_le (i : Nat) : tf T z i ≤ z := fr_le (tp_le i)
theorem tf_tp (i : Nat) : tf T z i ≤ tp T z (i + 1) := ena_ge
theorem tp_up : ∀ i, (∀ j, j < i → kd T z j ≠ 34) → i ≤ tp T z i
  | 0, _ => Nat.le_refl _
  | i + 1, h => by
    have h1 := tp_up i (fun j hj => h j (by omega))
    have h2 : tf T z i < z := by
      have := h i (by omega)
      unfold kd at this
      rw [Ne, kda_34] at this
      omega
    have h3 : tp T z i ≤ tf T z i := fr_ge
    have h4 : tf T z i < tp T z (i + 1) := ena_gt h2
    omega
theorem kd_stay {i : Nat} (h : kd T z i = 34) : kd T z (i + 1) = 34 ∧ tf T z (i + 1) = tf T z i ∧ tp T z (i + 1) = z ∧ tf T z i = z := by
  have h1 : z ≤ tf T z i := kda_34.mp h
  have h2 := tf_le (T := T) (z := z) i
  have h3 : tp T z (i + 1) = tf T z i := ena_end h1
  have h4 : tf T z (i + 1) = z := by
    have : z ≤ tf T z (i + 1) := by
      have : tp T z (i + 1) ≤ tf T z (i + 1) := fr_ge
      omega
    have := tf_le (T := T) (z := z) (i + 1)
    omega
  refine ⟨kda_34.mpr (by omega), by omega, by omega, by omega⟩
theorem kd_far : ∀ i, z < i → kd T z i = 34 := by
  intro i hi
  apply Classical.byContradiction
  intro q
  have h : ∀ d j, j + d = i → kd T z j ≠ 34 := by
    intro d
    induction d with
    | zero => intro j e; have : j = i := by omega
              rw [this]; exact q
    | succ d ih => intro j e w; exact ih (j + 1) (by omega) (kd_stay w).1
  have h1 := tp_up (T := T) (z := z) i (fun j hj => h (i - j) j (by omega))
  have h2 := tp_le (T := T) (z := z) i
  omega
end TKP
