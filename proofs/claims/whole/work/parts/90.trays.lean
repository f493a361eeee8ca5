/-! TRAYS -/
def TI (h : TH) : Prop := ∀ i, i < 4 → h.I 7 i = h.I 200 i ∧ h.I 8 i = h.I 201 i ∧ (h.I 8 i = (-1) ∨ ∃ n, n ≤ 60 ∧ h.I 8 i = nI n ∧ ∀ j, j < n → h.J (3 + i) j = h.J 202 (60 * i + j)) ∧ h.K (3 + i) = 101 ∧ h.N (3 + i) = 60
def why (m : Nat → Int32) (x y : Int32) : Int32 := if x < 0 then 1 else if 4 ≤ x then 1 else if m (ix x) = (-1) then 2 else if y < 0 then 3 else if y < m (ix x) then 0 else 3
def cutF (z : Int64) (s : Int32) : Int64 := if s = 0 then (((z).toInt32).toInt8.toInt32).toInt64 else if s = 1 then (((z).toInt32).toInt16.toInt32).toInt64 else if s = 2 then ((z).toInt32).toInt64 else z
section TRA
variable {h : TH} {x y : Int32}
theorem tray_ix (h0 : ¬ x < 0) (h1 : ¬ (4 : Int32) ≤ x) : ∃ i, i < 4 ∧ x = nI i := by
  rcases pk_ix x (n := 4) (by omega) with q | q | q
  · exact absurd q h0
  · exact absurd q h1
  · exact q
theorem why_eq {m m' : Nat → Int32} (hm : ∀ i, i < 4 → m i = m' i) : why m x y = why m' x y := by
  unfold why
  by_cases h0 : x < 0
  · rw [if_pos h0, if_pos h0]
  · rw [if_neg h0, if_neg h0]
    by_cases h1 : (4 : Int32) ≤ x
    · rw [if_pos h1, if_pos h1]
    · rw [if_neg h1, if_neg h1]
      obtain ⟨i, i1, i2⟩ := tray_ix h0 h1
      rw [i2, ix_n (by omega), hm i i1]
theorem why_0 {m : Nat → Int32} (hm : ∀ i, i < 4 → m i = (-1) ∨ ∃ n, n ≤ 60 ∧ m i = nI n) (h : why m x y = 0) : ∃ i j n, i < 4 ∧ x = nI i ∧ y = nI j ∧ j < n ∧ n ≤ 60 ∧ m i = nI n := by
  unfold why at h
  by_cases h0 : x < 0
  · rw [if_pos h0] at h; exact absurd h (by decide)
  · rw [if_neg h0] at h
    by_cases h1 : (4 : Int32) ≤ x
    · rw [if_pos h1] at h; exact absurd h (by decide)
    · rw [if_neg h1] at h
      obtain ⟨i, i1, i2⟩ := tray_ix h0 h1
      rw [i2, ix_n (by omega)] at h
      by_cases h2 : m i = (-1)
      · rw [if_pos h2] at h; exact absurd h (by decide)
      · rw [if_neg h2] at h
        obtain ⟨n, n1, n2⟩ := (hm i i1).resolve_left h2
        by_cases h3 : y < 0
        · rw [if_pos h3] at h; exact absurd h (by decide)
        · rw [if_neg h3] at h
          by_cases h4 : y < m i
          · rw [n2] at h4
            rcases pk_ix y (n := n) (by omega) with q | q | ⟨j, j1, j2⟩
            · exact absurd q h3
            · exact absurd h4 (Int32.not_lt.mpr q)
            · exact ⟨i, j, n, i1, i2, j2, j1, n1, n2⟩
          · rw [if_neg h4] at h; exact absurd h (by decide)
theorem S146 {C : Int32 → Prop} (k : C (why (h.I 8) x y)) : W146 x y h C := by
  unfold why at k
  unfold W146 W140 W142
  by_cases h0 : x < 0
  · rw [if_pos h0] at k ⊢
    exact k
  · rw [if_neg h0] at k ⊢
    by_cases h1 : (4 : Int32) ≤ x
    · rw [if_pos h1] at k ⊢
      exact k
    · rw [if_neg h1] at k ⊢
      obtain ⟨i, i1, i2⟩ := tray_ix h0 h1
      subst i2
      show if ¬ (1 : Int32) = 0 then _ else _
      rw [if_pos (by decide)]
      refine ⟨inb_n (by omega), ?_⟩
      by_cases h2 : h.I 8 (ix (nI i)) = (-1)
      · rw [if_pos h2] at k ⊢
        exact k
      · rw [if_neg h2] at k ⊢
        show if ¬ (1 : Int32) = 0 then _ else _
        rw [if_pos (by decide)]
        by_cases h3 : y < 0
        · rw [if_pos h3] at k ⊢
          exact k
        · rw [if_neg h3] at k ⊢
          refine ⟨inb_n (by omega), ?_⟩
          by_cases h4 : y < h.I 8 (ix (nI i))
          · rw [if_pos h4] at k ⊢
            exact k
          · rw [if_neg h4] at k ⊢
            exact k
theorem S211 {C : Int32 → Prop} (k : C (why (h.I 201) x y)) : W211 x y h C := by
  unfold why at k
  unfold W211 W208
  by_cases h0 : x < 0
  · rw [if_pos h0] at k ⊢
    exact k
  · rw [if_neg h0] at k ⊢
    by_cases h1 : (4 : Int32) ≤ x
    · rw [if_pos h1] at k ⊢
      exact k
    · rw [if_neg h1] at k ⊢
      obtain ⟨i, i1, i2⟩ := tray_ix h0 h1
      subst i2
      show if ¬ (1 : Int32) = 0 then _ else _
      rw [if_pos (by decide)]
      refine ⟨inb_n (by omega), ?_⟩
      by_cases h2 : h.I 201 (ix (nI i)) = (-1)
      · rw [if_pos h2] at k
        rw [if_neg (fun w => w h2)]
        exact k
      · rw [if_neg h2] at k
        rw [if_pos h2]
        by_cases h3 : y < 0
        · rw [if_pos h3] at k ⊢
          exact k
        · rw [if_neg h3] at k ⊢
          refine ⟨inb_n (by omega), ?_⟩
          by_cases h4 : y < h.I 201 (ix (nI i))
          · rw [if_pos h4] at k ⊢
            exact k
          · rw [if_neg h4] at k ⊢
            exact k
theorem S209 {C : Int64 → Prop} {z : Int64} {s : Int32} (k : C (cutF z s)) : W209 z s h C := by
  unfold cutF at k
  unfold W209
  by_cases h0 : s = 0
  · rw [if_pos h0] at k
    rw [if_neg (fun w => w h0)]; exact k
  · rw [if_neg h0] at k
    rw [if_pos h0]
    by_cases h1 : s = 1
    · rw [if_pos h1] at k
      rw [if_neg (fun w => w h1)]; exact k
    · rw [if_neg h1] at k
      rw [if_pos h1]
      by_cases h2 : s = 2
      · rw [if_pos h2] at k
        rw [if_neg (fun w => w h2)]; exact k
      · rw [if_neg h2] at k
        rw [if_pos h2]; exact k
theorem S147 {C : TH → Prop} {z : Int64} {i j : Nat} (hi : i < 4) (hj : j < 60) (k : C (h.sJ (3 + i) j (cutF z (h.I 7 i)))) : W147 (nI i) (nI j) z h C := by
  unfold cutF at k
  unfold W147
  rw [ix_n (by omega), ix_n (by omega), Nat.one_mul]
  refine ⟨inb_n hi, ?_⟩
  by_cases h0 : h.I 7 i = 0
  · rw [if_pos h0] at k ⊢
    exact ⟨inb_n hi, inb_n hj, k⟩
  · rw [if_neg h0] at k ⊢
    by_cases h1 : h.I 7 i = 1
    · rw [if_pos h1] at k ⊢
      exact ⟨inb_n hi, inb_n hj, k⟩
    · rw [if_neg h1] at k ⊢
      by_cases h2 : h.I 7 i = 2
      · rw [if_pos h2] at k ⊢
        exact ⟨inb_n hi, inb_n hj, k⟩
      · rw [if_neg h2] at k ⊢
        exact ⟨inb_n hi, inb_n hj, k⟩
theorem TI.many (hT : TI h) : ∀ i, i < 4 → h.I 8 i = (-1) ∨ ∃ n, n ≤ 60 ∧ h.I 8 i = nI n := fun i hi => (hT i hi).2.2.1.imp id (fun ⟨n, n1, n2, _⟩ => ⟨n, n1, n2⟩)
/-- WRITE: what the class, and what the reference, does -/
theorem S155 {C : Int32 → TH → Prop} {z : Int64} (hT : TI h) (kf : ∀ v, v = why (h.I 8) x y → ¬ v = 0 → C 0 (h.sI 0 0 v)) (kt : ∀ i j n, why (h.I 8) x y = 0 → i < 4 → x = nI i → y = nI j → j < n → n ≤ 60 → h.I 8 i = nI n → C 1 ((h.sJ (3 + i) j (cutF z (h.I 7 i))).sI 0 0 0)) : W155 x y z h C := by
  unfold W155
  refine S146 ?_
  by_cases w : why (h.I 8) x y = 0
  · rw [if_pos w]
    obtain ⟨i, j, n, i1, i2, i3, i4, i5, i6⟩ := why_0 hT.many w
    have := kt i j n w i1 i2 i3 i4 i5 i6
    subst i2 i3
    exact S147 i1 (by omega) ⟨Or.inr rfl, this⟩
  · rw [if_neg w]
    exact ⟨Or.inl rfl, kf _ rfl w⟩
theorem S212 {C : Int32 → TH → Prop} {z : Int64} (hT : ∀ i, i < 4 → h.I 201 i = (-1) ∨ ∃ n, n ≤ 60 ∧ h.I 201 i = nI n) (kf : ∀ v, v = why (h.I 201) x y → ¬ v = 0 → C 0 (h.sI 197 2 v)) (kt : ∀ i j n, why (h.I 201) x y = 0 → i < 4 → x = nI i → y = nI j → j < n → n ≤ 60 → h.I 201 i = nI n → C 1 ((h.sJ 202 (60 * i + j) (cutF z (h.I 200 i))).sI 197 2 0)) : W212 x y z h C := by
  unfold W212
  refine S211 ?_
  by_cases w : why (h.I 201) x y = 0
  · rw [if_neg (fun q => q w)]
    obtain ⟨i, j, n, i1, i2, i3, i4, i5, i6⟩ := why_0 hT w
    have := kt i j n w i1 i2 i3 i4 i5 i6
    subst i2 i3
    rw [w, ix_n (by omega), show (60 : Int32) * nI i + nI j = nI (60 * i + j) by show nI 60 * nI i + nI j = _; rw [pk_mul, nI_add], ix_n (by omega)]
    refine ⟨inb_n i1, S209 ⟨inb_n (by omega), ?_⟩⟩
    unfold W204
    rw [if_neg (fun q => q rfl)]
    exact ⟨Or.inr rfl, this⟩
  · rw [if_pos w]
    unfold W204
    rw [if_pos w]
    exact ⟨Or.inl rfl, kf _ rfl w⟩
end TRA
