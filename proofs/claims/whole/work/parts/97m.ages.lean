/-! HANDS: what spoils at a STEP's end. S: what STANDS, U: what is TRUSTED, old: what stood before, A: how many STEPS each still KEEPS -/
def agP (M : Nat → Int32) (S U old : Int32) (d : Nat) : Bool := bt S d && !bt U d && bt old d && decide (¬ aKp M d = 0)
def gon (M : Nat → Int32) (S U old : Int32) (A : Nat → Nat) (n : Nat) : Int32 := setOf (fun d => agP M S U old d && decide (A d = 1)) n
def agA (M : Nat → Int32) (S U old : Int32) (A : Nat → Nat) : Nat → Nat := fun d => if agP M S U old d then A d - 1 else A d
section AGE
variable {h : TH} {M : Nat → Int32} {S U old : Int32} {A : Nat → Nat}
theorem agP_iff {d : Nat} : agP M S U old d = true ↔ bt S d = true ∧ bt U d = false ∧ bt old d = true ∧ ¬ aKp M d = 0 := by
  unfold agP
  simp only [Bool.and_eq_true, Bool.not_eq_true', decide_eq_true_eq]
  constructor
  · rintro ⟨⟨⟨a, b⟩, c⟩, d⟩; exact ⟨a, b, c, d⟩
  · rintro ⟨a, b, c, d⟩; exact ⟨⟨⟨a, b⟩, c⟩, d⟩
theorem gon_s {d : Nat} : gon M S U old A (d + 1) = if agP M S U old d = true ∧ A d = 1 then gon M S U old A d ||| ishl 1 (nI d) else gon M S U old A d := by
  show (if (agP M S U old d && decide (A d = 1)) = true then _ else _) = _
  by_cases q : agP M S U old d = true ∧ A d = 1
  · rw [if_pos q, if_pos (by simp [q.1, q.2])]; rfl
  · rw [if_neg q, if_neg (by simpa using q)]; rfl
theorem gon_St {n : Nat} (hn : n ≤ 31) : St n (gon M S U old A n) := St_setOf _ hn
theorem gon_bt {n d : Nat} (hn : n ≤ 32) : bt (gon M S U old A n) d = true ↔ d < n ∧ agP M S U old d = true ∧ A d = 1 := by
  unfold gon
  rw [bt_setOf _ n hn]
  simp [and_assoc]
theorem S269 {C : Int32 → TH → Prop} (hw : Wf M) (hM : MA h M) (hS : h.I 198 2 = S) (hU : h.I 198 3 = U) (sS : St (aN M) S) (sU : St (aN M) U) (so : St (aN M) old) (hA : ∀ d, d < aN M → agP M S U old d = true → h.I 198 (112 + d) = nI (A d) ∧ 1 ≤ A d ∧ A d ≤ 99) (k : ∀ g, Sm (fun a => a = 198) h g → g.I 198 2 = S &&& (gon M S U old A (aN M) ^^^ (-1)) → (∀ j, j ≠ 2 → (j < 112 ∨ 124 ≤ j) → g.I 198 j = h.I 198 j) → (∀ d, d < 12 → g.I 198 (112 + d) = if d < aN M ∧ agP M S U old d = true then nI (A d - 1) else h.I 198 (112 + d)) → C (gon M S U old A (aN M)) g) : W269 old h C := by
  have h12 := hw.n12
  unfold W269 B269_4
  refine LFP.up (aN M) (fun (j : Nat) (q : Int32 × Int32 × TH) => q.1 = gon M S U old A j ∧ q.2.1 = nI j ∧ Sm (fun a => a = 198) h q.2.2 ∧ (∀ i, (i < 112 ∨ 124 ≤ i) → q.2.2.I 198 i = h.I 198 i) ∧ ∀ d, d < 12 → q.2.2.I 198 (112 + d) = if d < j ∧ agP M S U old d = true then nI (A d - 1) else h.I 198 (112 + d)) ?_ ?_ (Nat.zero_le _) ⟨rfl, rfl, Sm.refl, fun _ _ => rfl, fun d _ => by rw [if_neg (by omega)]⟩
  · rintro X j ⟨x2, x3, g⟩ hj ⟨e1, e2, sm, o, a⟩ ih
    (try dsimp only at e1 e2 sm o a)
    subst e1 e2
    have hMg : MA g M := fun i hi => by rw [o i (by omega)]; exact hM i hi
    unfold F269_4
    (try dsimp only)
    rw [show ix 0 = 0 from rfl, show ix 2 = 2 from rfl, show ix 3 = 3 from rfl, o 0 (by omega), hM 0 (by omega), hw.eN, if_neg (nI_ge hj (by omega)), o 2 (by omega), o 3 (by omega), hS, hU]
    have skip : ¬ agP M S U old j = true → X (gon M S U old A j, nI j + 1, g) := by
      intro w
      rw [nI_1]
      refine ih _ ⟨by rw [gon_s, if_neg (fun u => w u.1)], rfl, sm, o, fun d hd => ?_⟩
      rw [a d hd]
      by_cases y : d = j
      · rw [y, if_neg (by omega), if_neg (fun u => w u.2)]
      · by_cases y2 : d < j ∧ agP M S U old d = true
        · rw [if_pos y2, if_pos ⟨by omega, y2.2⟩]
        · rw [if_neg y2, if_neg (fun u => y2 ⟨by omega, u.2⟩)]
    refine S250 j rfl sS (by omega) (by omega) (fun q1 => ?_) (fun q1 => ?_)
    · rw [if_neg (by decide)]
      refine S250 j rfl sU (by omega) (by omega) (fun q2 => ?_) (fun q2 => ?_)
      · rw [if_pos (by decide)]
        exact skip (fun w => by have := (agP_iff.mp w).2.1; rw [q2] at this; exact absurd this (by decide))
      · rw [if_neg (by decide)]
        refine S250 j rfl so (by omega) (by omega) (fun q3 => ?_) (fun q3 => ?_)
        · rw [if_neg (by decide)]
          refine S251 j 2 hMg rfl rfl (by omega) (by omega) ?_
          by_cases q4 : M (16 + 8 * j + 2) = 0
          · rw [if_neg (fun n => n q4)]
            exact skip (fun w => (agP_iff.mp w).2.2.2 q4)
          · rw [if_pos q4]
            have hP : agP M S U old j = true := agP_iff.mpr ⟨q1, q2, q3, q4⟩
            obtain ⟨b1, b2, b3⟩ := hA j hj hP
            have eJ : g.I 198 (112 + j) = nI (A j) := by rw [a j (by omega), if_neg (by omega)]; exact b1
            obtain ⟨v, hv⟩ : ∃ v, A j = v + 1 := ⟨A j - 1, by omega⟩
            rw [show (112 : Int32) = nI 112 from rfl, nI_add, ix_n (by omega), eJ, hv, nI_pred, I_eq, nI_1]
            refine ⟨inb_n (by omega), inb_n (by omega), inb_n (by omega), ?_⟩
            have post : ∀ d, d < 12 → (g.sI 198 (112 + j) (nI v)).I 198 (112 + d) = if d < j + 1 ∧ agP M S U old d = true then nI (A d - 1) else h.I 198 (112 + d) := by
              intro d hd
              rw [I_at]
              by_cases y : d = j
              · rw [if_pos (by omega), y, if_pos ⟨by omega, hP⟩, hv]; rfl
              · rw [if_neg (by omega), a d hd]
                by_cases y2 : d < j ∧ agP M S U old d = true
                · rw [if_pos y2, if_pos ⟨by omega, y2.2⟩]
                · rw [if_neg y2, if_neg (fun u => y2 ⟨by omega, u.2⟩)]
            by_cases q5 : v = 0
            · rw [if_neg (fun n => n (by rw [q5]; rfl))]
              refine ih _ ⟨by rw [gon_s, if_pos ⟨hP, by omega⟩], rfl, Sm.sI (S := fun a => a = 198) sm rfl _, fun i hi => by rw [I_nk (by omega)]; exact o i hi, post⟩
            · rw [if_pos (nI_ne0 (by omega) (by omega))]
              refine ih _ ⟨by rw [gon_s, if_neg (fun u => by omega)], rfl, Sm.sI (S := fun a => a = 198) sm rfl _, fun i hi => by rw [I_nk (by omega)]; exact o i hi, post⟩
        · rw [if_pos rfl]
          exact skip (fun w => by have := (agP_iff.mp w).2.2.1; rw [q3] at this; exact absurd this (by decide))
    · rw [if_pos rfl]
      exact skip (fun w => by have := (agP_iff.mp w).1; rw [q1] at this; exact absurd this (by decide))
  · rintro X ⟨x2, x3, g⟩ ⟨e1, e2, sm, o, a⟩
    (try dsimp only at e1 e2 sm o a)
    subst e1 e2
    unfold F269_4
    (try dsimp only)
    rw [show ix 0 = 0 from rfl, show ix 2 = 2 from rfl, o 0 (by omega), hM 0 (by omega), hw.eN, if_pos (nI_le (Nat.le_refl _) (by omega)), o 2 (by omega), hS]
    refine k _ (Sm.sI (S := fun a => a = 198) sm rfl _) I_eq (fun j j1 j2 => by rw [I_nk j1]; exact o j j2) (fun d hd => ?_)
    rw [I_nk (by omega)]; exact a d hd
end AGE
