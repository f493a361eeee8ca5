/-! HANDS: what arrives may burn -/
def nxd (x : Int32) : Int32 := irem ((x * 2903) + 8819) 65536
abbrev brn (M : Nat → Int32) (dr x : Int32) (d : Nat) : Prop := ¬ dr = 0 ∧ ¬ aBu M d = 0 ∧ ¬ aBu M d ≤ irem (nxd x / 8) 16
def brX (M : Nat → Int32) (dr x : Int32) (d : Nat) : Int32 := if ¬ dr = 0 ∧ ¬ aBu M d = 0 then nxd x else x
def arS (M : Nat → Int32) (dr x S : Int32) (d : Nat) : Int32 := if brn M dr x d then S else S ||| ishl 1 (nI d)
def arB (M : Nat → Int32) (dr x b : Int32) (d : Nat) : Int32 := if brn M dr x d then b + 1 else b
section ARR
variable {h : TH} {M : Nat → Int32} {S U dr x bu : Int32} {t tm k d : Nat}
theorem bu_le (hw : Wf M) (hd : d < aN M) : aBu M d ≤ 0 ↔ aBu M d = 0 := by
  obtain ⟨w, h1, h2⟩ := (hw.D hd).2.2.2.1
  rw [h2]
  rcases Nat.eq_zero_or_pos w with y | y
  · rw [y]; decide
  · exact ⟨fun q => absurd q (nI_nle y (by omega)), fun q => absurd q (nI_ne0 y (by omega))⟩
theorem S24 {C : TH → Prop} (hw : Wf M) (hr : CMr h tm M) (hdis : ∀ a, tm ≤ a → a < tm + 15 → a ≠ t ∧ a ≠ t + 1) (hd : d < aN M) (e0 : h.I t 0 = S) (e4 : h.I t 4 = nI k) (e8 : h.I t 8 = bu) (e10 : h.I t 10 = dr) (e11 : h.I t 11 = x) (kk : ∀ g, Sm (fun a => a = t ∨ a = t + 1) h g → g.I t 0 = arS M dr x S d → g.I t 8 = arB M dr x bu d → g.I t 11 = brX M dr x d → (∀ j, j ≠ 0 → j ≠ 8 → j ≠ 11 → g.I t j = h.I t j) → (∀ j, j ≠ d → g.I (t + 1) j = h.I (t + 1) j) → (¬ brn M dr x d → g.I (t + 1) d = nI (k + 1)) → C g) : W24 t tm (nI d) h C := by
  have h12 := hw.n12
  have arrive : ∀ (g : TH), ¬ brn M dr x d → Sm (fun a => a = t ∨ a = t + 1) h g → g.I t 0 = S → g.I t 4 = nI k → g.I t 8 = bu → g.I t 11 = brX M dr x d → (∀ j, j ≠ 0 → j ≠ 8 → j ≠ 11 → g.I t j = h.I t j) → g.I (t + 1) = h.I (t + 1) → B24_40 t (nI d) g C := by
    intro g nb sm a0 a4 a8 a11 ao at1
    unfold B24_40
    rw [a0, ix_n (by omega), I_nk (by decide), a4, nI_1]
    refine ⟨inb_n (by omega), kk _ (Sm.sI (S := fun a => a = t ∨ a = t + 1) (Sm.sI (S := fun a => a = t ∨ a = t + 1) sm (Or.inl rfl) _) (Or.inr rfl) _) ?_ ?_ ?_ (fun j j0 j8 j11 => ?_) (fun j jd => ?_) (fun _ => I_eq)⟩
    · rw [I_ne (by omega), I_eq]; unfold arS; rw [if_neg nb]
    · rw [I_ne (by omega), I_nk (by decide), a8]; unfold arB; rw [if_neg nb]
    · rw [I_ne (by omega), I_nk (by decide)]; exact a11
    · rw [I_ne (by omega), I_nk j0]; exact ao j j0 j8 j11
    · rw [I_nk jd, I_ne (by omega), at1]
  unfold W24
  rw [e10]
  by_cases q0 : dr = 0
  · rw [if_pos q0]
    exact arrive h (fun w => w.1 q0) Sm.refl e0 e4 e8 (by rw [e11]; unfold brX; rw [if_neg (fun w => w.1 q0)]) (fun _ _ _ _ => rfl) rfl
  · rw [if_neg q0, ix_n (by omega), hr.bu hd]
    refine ⟨inb_n (by omega), ?_⟩
    by_cases q1 : aBu M d = 0
    · rw [if_pos ((bu_le hw hd).mpr q1)]
      exact arrive h (fun w => w.2.1 q1) Sm.refl e0 e4 e8 (by rw [e11]; unfold brX; rw [if_neg (fun w => w.2 q1)]) (fun _ _ _ _ => rfl) rfl
    · rw [if_neg (fun w => q1 ((bu_le hw hd).mp w))]
      unfold W25
      rw [e11, I_eq]
      show inb (nI d) 12 ∧ if ((h.sI t 11 (nxd x)).I (tm + 5) d) ≤ irem (nxd x / 8) 16 then B24_40 t (nI d) (h.sI t 11 (nxd x)) C else C ((h.sI t 11 (nxd x)).sI t 8 (((h.sI t 11 (nxd x)).I t 8) + 1))
      refine ⟨inb_n (by omega), ?_⟩
      rw [I_ne (hdis (tm + 5) (by omega) (by omega)).1, hr.bu hd]
      have sm1 : Sm (fun a => a = t ∨ a = t + 1) h (h.sI t 11 (nxd x)) := Sm.sI (S := fun a => a = t ∨ a = t + 1) Sm.refl (Or.inl rfl) _
      have eX : brX M dr x d = nxd x := by unfold brX; rw [if_pos ⟨q0, q1⟩]
      by_cases q2 : aBu M d ≤ irem (nxd x / 8) 16
      · rw [if_pos q2]
        exact arrive _ (fun w => w.2.2 q2) sm1 (by rw [I_nk (by decide)]; exact e0) (by rw [I_nk (by decide)]; exact e4) (by rw [I_nk (by decide)]; exact e8) (by rw [I_eq, eX]) (fun j _ _ j11 => I_nk j11) (by funext j; rw [I_ne (by omega)])
      · rw [if_neg q2]
        have hb : brn M dr x d := ⟨q0, q1, q2⟩
        refine kk _ (Sm.sI (S := fun a => a = t ∨ a = t + 1) sm1 (Or.inl rfl) _) ?_ ?_ ?_ (fun j _ j8 j11 => ?_) (fun j _ => ?_) (fun w => absurd hb w)
        · rw [I_nk (by decide), I_nk (by decide), e0]; unfold arS; rw [if_pos hb]
        · rw [I_eq, I_nk (by decide), e8]; unfold arB; rw [if_pos hb]
        · rw [I_nk (by decide), I_eq, eX]
        · rw [I_nk j8, I_nk j11]
        · rw [I_ne (by omega), I_ne (by omega)]
end ARR
/-- the first and the other of what is MADE together -/
def loD (M : Nat → Int32) (d : Nat) : Nat := if leads M d then d else ix (aPa M d)
def hiD (M : Nat → Int32) (d : Nat) : Nat := ix (aPa M (loD M d))
def lvS (M : Nat → Int32) (S : Int32) (d : Nat) : Int32 := S &&& ((nP M d &&& oS M) ^^^ (-1))
def mkS (M : Nat → Int32) (dr x S : Int32) (d : Nat) : Int32 := if aPa M d = (-1) then arS M dr x (lvS M S d) d else arS M dr (brX M dr x (loD M d)) (arS M dr x (lvS M S d) (loD M d)) (hiD M d)
def mkX (M : Nat → Int32) (dr x : Int32) (d : Nat) : Int32 := if aPa M d = (-1) then brX M dr x d else brX M dr (brX M dr x (loD M d)) (hiD M d)
def mkB (M : Nat → Int32) (dr x b : Int32) (d : Nat) : Int32 := if aPa M d = (-1) then arB M dr x b d else arB M dr (brX M dr x (loD M d)) (arB M dr x b (loD M d)) (hiD M d)
section MKE
variable {h : TH} {M : Nat → Int32} {S U W dr x bu : Int32} {t tm k d : Nat} {A : Nat → Nat}
theorem lohi (hw : Wf M) (hd : d < aN M) : (aPa M d = (-1) ∧ loD M d = d) ∨ (¬ aPa M d = (-1) ∧ loD M d < aN M ∧ hiD M d < aN M ∧ aPa M (loD M d) = nI (hiD M d) ∧ loD M d < hiD M d ∧ ((loD M d = d ∧ aPa M d = nI (hiD M d)) ∨ (hiD M d = d ∧ aPa M d = nI (loD M d)))) := by
  have h12 := hw.n12
  rcases hw.pa hd with q | ⟨e, he, q1, q2, q3, _⟩
  · left; refine ⟨q, ?_⟩; unfold loD; rw [if_pos (Or.inl q)]
  · right
    have ne : ¬ aPa M d = (-1) := by rw [q1]; exact nI_ne1 (by omega)
    refine ⟨ne, ?_⟩
    by_cases w : d < e
    · have lo : loD M d = d := by unfold loD; rw [if_pos (Or.inr (by rw [q1]; exact nI_lt w (by omega)))]
      have hi : hiD M d = e := by unfold hiD; rw [lo, q1, ix_n (by omega)]
      rw [lo, hi]; exact ⟨hd, he, q1, w, Or.inl ⟨rfl, q1⟩⟩
    · have lo : loD M d = e := by
        unfold loD
        rw [if_neg (by
          rintro (u | u)
          · exact ne u
          · rw [q1] at u; exact absurd u (nI_nlt (by omega) (by omega))), q1, ix_n (by omega)]
      have hi : hiD M d = d := by unfold hiD; rw [lo, q3, ix_n (by omega)]
      rw [lo, hi]; exact ⟨he, hd, q3, by omega, Or.inr ⟨rfl, q1⟩⟩
theorem bt_arS {d e : Nat} (hd : d < 32) : bt (arS M dr x S d) e = true ↔ bt S e = true ∨ (e = d ∧ ¬ brn M dr x d) := by
  unfold arS
  by_cases q : brn M dr x d
  · rw [if_pos q]; exact ⟨Or.inl, fun w => w.elim id (fun u => absurd q u.2)⟩
  · rw [if_neg q, bt_or, bt_bit hd]
    simp only [Bool.or_eq_true, decide_eq_true_eq]
    exact ⟨fun w => w.imp id (fun u => ⟨u, q⟩), fun w => w.imp id (fun u => u.1)⟩
theorem St_arS {n d : Nat} (hd : d < n) (hn : n ≤ 31) (hS : St n S) : St n (arS M dr x S d) := by
  unfold arS; split
  · exact hS
  · exact St_or hS (St_bit hd hn) hn
end MKE
