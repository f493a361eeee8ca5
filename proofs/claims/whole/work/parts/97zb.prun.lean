/-! COOKING: the PLAN's run, as a function with fuel. k: the row; R: how often each LOOP is still to be done; d: how many rows were met; s: the HAND -/
abbrev PST := Nat × (Nat → Nat) × Nat × CK
def updR (R : Nat → Nat) (o v : Nat) : Nat → Nat := fun j => if j = o then v else R j
abbrev again1 (M : Nat → Int32) (R : Nat → Nat) (k : Nat) : Prop := kK M (lk M k) = 20 ∧ 0 < R (lk M k)
def clK (M : Nat → Int32) (R : Nat → Nat) (k : Nat) : Nat := if again1 M R k then lk M k + 1 else k + 1
def clR (M : Nat → Int32) (R : Nat → Nat) (k : Nat) : Nat → Nat := if again1 M R k then updR R (lk M k) (R (lk M k) - 1) else R
abbrev isActK (x : Int32) : Prop := x = 10 ∨ x = 11 ∨ x = 13 ∨ x = 14 ∨ x = 15
def hold (M : Nat → Int32) (k : Nat) (s : CK) : Bool := if kK M k = 1617 then bt (ckS s) (ix (kA M k)) else if kK M k = 1618 then bt (ckU s) (ix (kA M k)) else decide (ix (kA M k) ≤ pc (ckS s))
def prun (M : Nat → Int32) (cn : Nat) (dr : Int32) : Nat → PST → Option CK
  | 0, _ => none
  | F + 1, (k, R, d, s) =>
    if k < qn M ∧ kK M k = 21 then prun M cn dr F (clK M R k, clR M R k, d, s)
    else if d = 900 ∨ qn M ≤ k ∨ kK M k = 22 then some s
    else if isActK (kK M k) then (if ckK s = 300 then some s else prun M cn dr F (k + 1, R, d + 1, ckA M dr (ix (kK M k)) (ix (kA M k)) (ix (kB M k)) (cc M cn k) s))
    else if kK M k = 20 then prun M cn dr F (k + 1, updR R k (ix (kA M k) - 1), d + 1, s)
    else if hold M k s = true then prun M cn dr F (k + 1, R, d + 1, s) else prun M cn dr F (lk M k + 1, R, d + 1, s)
/-- what comes of st comes of st0 -/
def leads0 (M : Nat → Int32) (cn : Nat) (dr : Int32) (st0 st : PST) : Prop := ∀ F r, prun M cn dr F st = some r → ∃ F', prun M cn dr F' st0 = some r
section PRN
variable {M : Nat → Int32} {cn n0 : Nat} {dr : Int32} {st0 : PST} {k d : Nat} {R : Nat → Nat} {s : CK}
theorem prun_up {F : Nat} : ∀ {st : PST} {r : CK}, prun M cn dr F st = some r → prun M cn dr (F + 1) st = some r := by
  induction F with
  | zero => intro st r h; cases h
  | succ F ih =>
    rintro ⟨k, R, d, s⟩ r h
    unfold prun at h ⊢
    split at h
    · rename_i q; rw [if_pos q]; exact ih h
    · rename_i q
      rw [if_neg q]
      split at h
      · rename_i q2; rw [if_pos q2]; exact h
      · rename_i q2
        rw [if_neg q2]
        split at h
        · rename_i q3
          rw [if_pos q3]
          split at h
          · rename_i q4; rw [if_pos q4]; exact h
          · rename_i q4; rw [if_neg q4]; exact ih h
        · rename_i q3
          rw [if_neg q3]
          split at h
          · rename_i q4; rw [if_pos q4]; exact ih h
          · rename_i q4
            rw [if_neg q4]
            split at h
            · rename_i q5; rw [if_pos q5]; exact ih h
            · rename_i q5; rw [if_neg q5]; exact ih h
theorem prun_le {F G : Nat} {st : PST} {r : CK} (hFG : F ≤ G) (h : prun M cn dr F st = some r) : prun M cn dr G st = some r := by
  induction hFG with
  | refl => exact h
  | step _ ih => exact prun_up ih
theorem prun_one {F G : Nat} {st : PST} {r r' : CK} (h : prun M cn dr F st = some r) (h' : prun M cn dr G st = some r') : r = r' := by
  have h1 := prun_le (Nat.le_max_left F G) h
  have h2 := prun_le (Nat.le_max_right F G) h'
  rw [h1] at h2; exact Option.some.inj h2
theorem l0_refl {st : PST} : leads0 M cn dr st st := fun F r h => ⟨F, h⟩
theorem l0_close (l : leads0 M cn dr st0 (k, R, d, s)) (h1 : k < qn M) (h2 : kK M k = 21) : leads0 M cn dr st0 (clK M R k, clR M R k, d, s) := fun F r h => l (F + 1) r (by unfold prun; rw [if_pos ⟨h1, h2⟩]; exact h)
theorem l0_stop (l : leads0 M cn dr st0 (k, R, d, s)) (h0 : ¬ (k < qn M ∧ kK M k = 21)) (h : d = 900 ∨ qn M ≤ k ∨ kK M k = 22 ∨ (isActK (kK M k) ∧ ckK s = 300)) : ∃ F, prun M cn dr F st0 = some s := by
  refine l 1 s ?_
  unfold prun
  rw [if_neg h0]
  by_cases q : d = 900 ∨ qn M ≤ k ∨ kK M k = 22
  · rw [if_pos q]
  · rw [if_neg q]
    have : isActK (kK M k) ∧ ckK s = 300 := by
      rcases h with h | h | h | h
      · exact absurd (Or.inl h) q
      · exact absurd (Or.inr (Or.inl h)) q
      · exact absurd (Or.inr (Or.inr h)) q
      · exact h
    rw [if_pos this.1, if_pos this.2]
theorem l0_act (l : leads0 M cn dr st0 (k, R, d, s)) (hd : ¬ d = 900) (hk : k < qn M) (ha : isActK (kK M k)) (h3 : ¬ ckK s = 300) : leads0 M cn dr st0 (k + 1, R, d + 1, ckA M dr (ix (kK M k)) (ix (kA M k)) (ix (kB M k)) (cc M cn k) s) := fun F r h => l (F + 1) r (by
  have h21 : ¬ kK M k = 21 := fun e => by rw [e] at ha; revert ha; decide
  have h22 : ¬ kK M k = 22 := fun e => by rw [e] at ha; revert ha; decide
  unfold prun
  rw [if_neg (fun u => h21 u.2), if_neg (fun u => by rcases u with u | u | u; exact hd u; omega; exact h22 u), if_pos ha, if_neg h3]; exact h)
theorem l0_loop (l : leads0 M cn dr st0 (k, R, d, s)) (hd : ¬ d = 900) (hk : k < qn M) (ha : kK M k = 20) : leads0 M cn dr st0 (k + 1, updR R k (ix (kA M k) - 1), d + 1, s) := fun F r h => l (F + 1) r (by
  unfold prun
  rw [if_neg (fun u => by rw [ha] at u; exact absurd u.2 (by decide)), if_neg (fun u => by rcases u with u | u | u; exact hd u; omega; rw [ha] at u; exact absurd u (by decide)), if_neg (by rw [ha]; decide), if_pos ha]; exact h)
theorem l0_test (l : leads0 M cn dr st0 (k, R, d, s)) (hd : ¬ d = 900) (hk : k < qn M) (ha : kK M k = 1617 ∨ kK M k = 1618 ∨ kK M k = 1619) : leads0 M cn dr st0 (if hold M k s = true then k + 1 else lk M k + 1, R, d + 1, s) := fun F r h => l (F + 1) r (by
  unfold prun
  rw [if_neg (fun u => by have := u.2; rcases ha with a | a | a <;> rw [a] at this <;> exact absurd this (by decide)), if_neg (fun u => by rcases u with u | u | u; exact hd u; omega; rcases ha with a | a | a <;> rw [a] at u <;> exact absurd u (by decide)), if_neg (by rcases ha with a | a | a <;> rw [a] <;> decide), if_neg (by rcases ha with a | a | a <;> rw [a] <;> decide)]
  by_cases q : hold M k s = true
  · rw [if_pos q]; rw [if_pos q] at h; exact h
  · rw [if_neg q]; rw [if_neg q] at h; exact h)
end PRN
