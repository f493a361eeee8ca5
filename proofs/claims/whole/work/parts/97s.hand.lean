/-! HANDS: by hand nothing burns; a STEP's end on both sides -/
def A3 (M : Nat → Int32) (old : Int32) (A : Nat → Nat) : Nat → Nat := fun d => if bt old d then A d - 1 else kpN M d
def agR (h : TH) (M : Nat → Int32) (S U old : Int32) (A : Nat → Nat) : Prop := ∀ d, d < aN M → bt S d = true → bt U d = false → ¬ aKp M d = 0 → (bt old d = true → h.I 198 (112 + d) = nI (A d)) ∧ (bt old d = false → h.I 198 (112 + d) = aKp M d)
def agS (h : TH) (M : Nat → Int32) (S U : Int32) (A : Nat → Nat) : Prop := ∀ d, d < aN M → bt S d = true → bt U d = false → ¬ aKp M d = 0 → h.I 198 (112 + d) = nI (A d)
def abd (M : Nat → Int32) (S U : Int32) (A : Nat → Nat) : Prop := ∀ d, d < aN M → bt S d = true → bt U d = false → ¬ aKp M d = 0 → 1 ≤ A d ∧ A d ≤ kpN M d
section HND
variable {h : TH} {M : Nat → Int32} {S U S2 U2 old W dr x bu : Int32} {t tm k d o : Nat} {A : Nat → Nat}
theorem sncS.abd (s : sncS h t M S U A k) : abd M S U A := fun d hd a b c => ⟨(s d hd a b c).2.1, (s d hd a b c).2.2.1⟩
theorem nP_self (hw : Wf M) (hd : d < aN M) {e : Nat} (he : e < 32) (q : bt (gP M d) e = true) : bt (nP M d) e = false := by
  have h12 := hw.n12
  have own : ∀ y, y < aN M → bt (aNe M y) y = false := fun y hy => (St_bt (by omega)).mp (hw.ne hy) y (Nat.le_refl _) (by omega)
  rcases hw.pa hd with p | ⟨y, hy, p1, p2, p3, p4, p5⟩
  · rw [gP_alone p, bt_bit (by omega)] at q
    rw [nP_alone p, show e = d by simpa using q]; exact own d hd
  · rw [gP_pair p1 (by omega), bt_or, bt_bit (by omega), bt_bit (by omega)] at q
    rw [nP_pair p1 (by omega), bt_or]
    simp only [Bool.or_eq_true, decide_eq_true_eq] at q
    rcases q with q | q
    · rw [q, own d hd, p5]; rfl
    · rw [q, own y hy, p4]; rfl
theorem bt_mkT (hw : Wf M) (hd : d < aN M) {e : Nat} (he : e < 32) : bt (mkT M S d) e = true ↔ bt (lvS M S d) e = true ∨ bt (gP M d) e = true := by
  unfold mkT lvS
  rw [bt_and, bt_or, bt_not _ he, bt_and, bt_and, bt_not _ he, bt_and]
  have := nP_self hw hd he
  cases u : bt (gP M d) e with
  | false => simp
  | true => rw [this u]; simp
theorem brn_0 : ¬ brn M 0 x d := fun w => w.1 rfl
theorem mkS_0 (hw : Wf M) (hd : d < aN M) : mkS M 0 x S d = mkT M S d := by
  have h12 := hw.n12
  refine bt_ext (fun e he => ?_)
  have key : bt (mkS M 0 x S d) e = true ↔ bt (mkT M S d) e = true := by
    rw [bt_mkT hw hd he]
    unfold mkS
    rcases lohi hw hd with ⟨pa, lo⟩ | ⟨npa, l1, l2, l3, l4, l5⟩
    · rw [if_pos pa, bt_arS (by omega), gP_alone pa, bt_bit (by omega)]
      simp only [decide_eq_true_eq]
      exact ⟨fun w => w.imp id (fun u => u.1), fun w => w.imp id (fun u => ⟨u, brn_0⟩)⟩
    · rw [if_neg npa, bt_arS (by omega), bt_arS (by omega)]
      have gd : bt (gP M d) e = true ↔ (e = loD M d ∨ e = hiD M d) := by
        rcases l5 with ⟨u, v⟩ | ⟨u, v⟩
        · rw [gP_pair v (by omega), bt_or, bt_bit (by omega), bt_bit (by omega)]; simp [u]
        · rw [gP_pair v (by omega), bt_or, bt_bit (by omega), bt_bit (by omega)]; simp only [Bool.or_eq_true, decide_eq_true_eq]; rw [u]; exact or_comm
      rw [gd]
      constructor
      · rintro ((w | w) | w)
        · exact Or.inl w
        · exact Or.inr (Or.inl w.1)
        · exact Or.inr (Or.inr w.1)
      · rintro (w | w | w)
        · exact Or.inl (Or.inl w)
        · exact Or.inl (Or.inr ⟨w, brn_0⟩)
        · exact Or.inr ⟨w, brn_0⟩
  cases a : bt (mkS M 0 x S d) e <;> cases b : bt (mkT M S d) e
  · rfl
  · rw [a, b] at key; exact absurd (key.mpr rfl) (by decide)
  · rw [a, b] at key; exact absurd (key.mp rfl) (by decide)
  · rfl
theorem U_mk (hw : Wf M) (hd : d < aN M) (hU : sb U S) : U &&& mkT M S d = lvS M U d := by
  refine bt_ext (fun e he => ?_)
  unfold mkT lvS
  rw [bt_and, bt_and, bt_or, bt_not _ he, bt_and, bt_and, bt_not _ he, bt_and]
  cases u : bt U e with
  | false => simp
  | true => rw [hU e he u]; simp
theorem poS_0 (hw : Wf M) (hd : d < aN M) (q : poC M (bigK M 0) S (S &&& (U ^^^ (-1))) d o) : poS M 0 x S d o = poT M S d o := by
  have h12 := hw.n12
  have e1 : nP M d = aNe M d := nP_alone q.2.1
  have own : bt (aNe M d) d = false := (St_bt (by omega)).mp (hw.ne hd) d (Nat.le_refl _) (by omega)
  have ho : o < 32 := by
    apply Classical.byContradiction
    intro w
    have := q.2.2.2.2.1
    rw [bt_big _ (by omega)] at this; exact absurd this (by decide)
  have hod : o ≠ d := fun w => by have := q.2.2.2.2.1; rw [w, own] at this; exact absurd this (by decide)
  unfold poS arS
  rw [if_neg brn_0]
  refine bt_ext (fun e he => ?_)
  unfold lvP poT poW
  have bO : bt (ishl 1 (nI o)) e = decide (e = o) := bt_bit ho e
  have bD : bt (ishl 1 (nI d)) e = decide (e = d) := bt_bit (by omega) e
  simp only [e1, bt_or, bt_and, bt_not _ he, bO, bD]
  by_cases u : e = d
  · rw [u, own]; simp
  · simp [u]
    cases bt S e <;> cases bt (aNe M d) e <;> cases bt (oS M) e <;> cases decide (e = o) <;> rfl
theorem U_po (hd : d < aN M) (h12 : aN M ≤ 12) (hU : sb U S) (q : poC M (bigK M 0) S (S &&& (U ^^^ (-1))) d o) (ho : o < 32) : U &&& poT M S d o = lvP M U d o := by
  have e1 : nP M d = aNe M d := nP_alone q.2.1
  refine bt_ext (fun e he => ?_)
  unfold lvP poT poW
  have bO : bt (ishl 1 (nI o)) e = decide (e = o) := bt_bit ho e
  have bD : bt (ishl 1 (nI d)) e = decide (e = d) := bt_bit (by omega) e
  simp only [e1, bt_or, bt_and, bt_not _ he, bO, bD]
  cases u : bt U e with
  | false => simp
  | true =>
    rw [hU e he u]
    have : e ≠ d := fun w => by
      have := hU e he u
      rw [w, q.2.2.1] at this; exact absurd this (by decide)
    simp [this]
    cases bt (aNe M d) e <;> cases bt (oS M) e <;> cases decide (e = o) <;> rfl
theorem gon_U (h12 : aN M ≤ 12) : U &&& (gon M S U old A (aN M) ^^^ (-1)) = U := by
  refine bt_ext (fun e he => ?_)
  rw [bt_and, bt_not _ he]
  cases u : bt U e with
  | false => rfl
  | true =>
    cases v : bt (gon M S U old A (aN M)) e with
    | false => rfl
    | true =>
      have := (agP_iff.mp ((gon_bt (by omega)).mp v).2.1).2.1
      rw [u] at this; exact absurd this (by decide)
/-- how the counts go on -/
theorem snc_next {g : TH} (hw : Wf M) (s : snc h t M S2 U2 old A k) (e : g.I (t + 1) = h.I (t + 1)) : sncS g t M (S2 &&& (gon M S2 U2 old A (aN M) ^^^ (-1))) U2 (A3 M old A) (k + 1) := by
  have h12 := hw.n12
  intro d hd w1 w2 w3
  rw [bt_and, bt_not _ (by omega)] at w1
  simp only [Bool.and_eq_true, Bool.not_eq_true'] at w1
  obtain ⟨s1, s2⟩ := s d hd w1.1 w2 w3
  obtain ⟨k1, k2, k3⟩ := kpN_eq hw hd
  have kpos := k3.mp w3
  rw [e]
  unfold A3
  cases u : bt old d with
  | true =>
    obtain ⟨a1, a2, a3, a4⟩ := s1 u
    have ne1 : A d ≠ 1 := fun y => by
      have := (gon_bt (M := M) (S := S2) (U := U2) (old := old) (A := A) (n := aN M) (d := d) (by omega)).mpr ⟨hd, agP_iff.mpr ⟨w1.1, w2, u, w3⟩, y⟩
      rw [w1.2] at this; exact absurd this (by decide)
    rw [if_pos rfl, a1]
    exact ⟨congrArg nI (by omega), by omega, by omega, by omega⟩
  | false =>
    rw [if_neg (by decide), s2 u]
    exact ⟨congrArg nI (by omega), by omega, by omega, by omega⟩
theorem ag_next {g : TH} (hw : Wf M) (s : agR h M S2 U2 old A) (e : ∀ d, d < 12 → g.I 198 (112 + d) = if d < aN M ∧ agP M S2 U2 old d = true then nI (A d - 1) else h.I 198 (112 + d)) : agS g M (S2 &&& (gon M S2 U2 old A (aN M) ^^^ (-1))) U2 (A3 M old A) := by
  have h12 := hw.n12
  intro d hd w1 w2 w3
  rw [bt_and, bt_not _ (by omega)] at w1
  simp only [Bool.and_eq_true, Bool.not_eq_true'] at w1
  obtain ⟨s1, s2⟩ := s d hd w1.1 w2 w3
  rw [e d (by omega)]
  unfold A3
  cases u : bt old d with
  | true => rw [if_pos ⟨hd, agP_iff.mpr ⟨w1.1, w2, u, w3⟩⟩, if_pos rfl]
  | false => rw [if_neg (fun y => by have := (agP_iff.mp y.2).2.2.1; rw [u] at this; exact absurd this (by decide)), if_neg (by decide), s2 u]; exact (kpN_eq hw hd).1
end HND
