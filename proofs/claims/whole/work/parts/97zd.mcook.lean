/-! COOKING: the reference's run -/
def ck0 (x : Int32) : CK := (0, 0, 0, 0, fun _ => 0, x, 0, 0, -1, 0, 0)
def st00 (x : Int32) : PST := (0, fun _ => 0, 0, ck0 x)
def RLo (h g : TH) : Prop := Sm (fun a => a = 197 ∨ a = 198 ∨ a = 206 ∨ a = 219) h g ∧ (∀ j, j ≠ 25 → (j < 40 ∨ 47 < j) → g.I 197 j = h.I 197 j) ∧ ∀ j, j ≠ 2 → j ≠ 3 → (j < 112 ∨ 124 ≤ j) → g.I 198 j = h.I 198 j
section MCK
variable {h : TH} {M : Nat → Int32} {cn : Nat} {dr : Int32} {st0 : PST} {k d : Nat} {R : Nat → Nat} {s : CK}
theorem RLo.refl : RLo h h := ⟨Sm.refl, fun _ _ _ => rfl, fun _ _ _ _ => rfl⟩
theorem RLo.trans {g g' : TH} (p : RLo h g) (q : RLo g g') : RLo h g' := ⟨p.1.trans q.1, fun j a b => by rw [q.2.1 j a b, p.2.1 j a b], fun j a b c => by rw [q.2.2 j a b c, p.2.2 j a b c]⟩
theorem RLo_k {g : TH} (p : RKo h g) : RLo h g := ⟨p.1.mono (fun a ha => by omega), p.2.1, p.2.2⟩
theorem RLo_219 {g : TH} (sm : Sm (fun a => a = 219) h g) : RLo h g := ⟨sm.mono (fun a ha => by omega), fun j _ _ => by rw [sm.I (by decide)], fun j _ _ _ => by rw [sm.I (by decide)]⟩
theorem RLo.ma {g : TH} (p : RLo h g) (hM : MA h M) : MA g M := fun k hk => by rw [p.2.2 k (by omega) (by omega) (by omega)]; exact hM k hk
theorem RLo.mp {g : TH} (p : RLo h g) (m : MP h M) : MP g M := ⟨by rw [p.2.2 6 (by decide) (by decide) (by decide)]; exact m.1, fun k h1 h2 => by rw [p.2.2 k (by omega) (by omega) (by omega)]; exact m.2 k h1 h2⟩
theorem CKr_219 {g : TH} (sm : Sm (fun a => a = 219) h g) (c : CKr h M dr s) : CKr g M dr s := by
  have e7 : g.I 197 = h.I 197 := sm.I (by decide)
  have e8 : g.I 198 = h.I 198 := sm.I (by decide)
  unfold CKr agS at c ⊢
  rw [e7, e8]; exact c
theorem row_cases (p : PI M (aN M) cn []) (hk : k < qn M) (h21 : ¬ kK M k = 21) : (isActK (kK M k) ∧ (∃ w, isAct w ∧ kK M k = nI w) ∧ (∃ a, a < aN M ∧ kA M k = nI a) ∧ (kK M k = 11 → ∃ b, b < aN M ∧ kB M k = nI b)) ∨ (kK M k = 20 ∧ ∃ a, 1 ≤ a ∧ a ≤ 99 ∧ kA M k = nI a) ∨ ((kK M k = 1617 ∨ kK M k = 1618) ∧ ∃ a, a < aN M ∧ kA M k = nI a) ∨ (kK M k = 1619 ∧ ∃ a, a ≤ 12 ∧ kA M k = nI a) ∨ kK M k = 22 := by
  rcases p.2.2.2.2.1 k hk with q | q
  · exact absurd q h21
  · unfold rowOk at q
    rcases q with ⟨q1, q2⟩ | ⟨q1, q2, q3⟩ | ⟨q1, q2⟩ | ⟨q1, q2⟩ | q1
    · rcases q1 with e | e | e | e | e | e
      · exact Or.inl ⟨Or.inl e, ⟨10, by unfold isAct; omega, e⟩, q2, fun u => by rw [e] at u; exact absurd u (by decide)⟩
      · exact Or.inl ⟨by rw [e]; decide, ⟨13, by unfold isAct; omega, e⟩, q2, fun u => by rw [e] at u; exact absurd u (by decide)⟩
      · exact Or.inl ⟨by rw [e]; decide, ⟨14, by unfold isAct; omega, e⟩, q2, fun u => by rw [e] at u; exact absurd u (by decide)⟩
      · exact Or.inl ⟨by rw [e]; decide, ⟨15, by unfold isAct; omega, e⟩, q2, fun u => by rw [e] at u; exact absurd u (by decide)⟩
      · exact Or.inr (Or.inr (Or.inl ⟨Or.inl e, q2⟩))
      · exact Or.inr (Or.inr (Or.inl ⟨Or.inr e, q2⟩))
    · exact Or.inl ⟨by rw [q1]; decide, ⟨11, by unfold isAct; omega, q1⟩, q2, fun _ => q3⟩
    · exact Or.inr (Or.inl ⟨q1, q2⟩)
    · exact Or.inr (Or.inr (Or.inr (Or.inl ⟨q1, q2⟩)))
    · exact Or.inr (Or.inr (Or.inr (Or.inr q1)))
theorem S316 {C : Int32 → Prop} (hw : Wf M) (hM : MA h M) (p : PI M (aN M) cn []) (mp : MP h M) (hk : k < qn M) (ht : kK M k = 1617 ∨ kK M k = 1618 ∨ kK M k = 1619) (i : ckI M s) (e2 : h.I 198 2 = ckS s) (e3 : h.I 198 3 = ckU s) (k1 : hold M k s = true → C 1) (k0 : hold M k s = false → C 0) : W316 (nI (124 + 5 * k)) h C := by
  have h12 := hw.n12
  have n60 := p.n60
  have r0 : h.I 198 (124 + 5 * k) = kK M k := mp.2 _ (by omega) (by omega)
  have r1 : h.I 198 (124 + 5 * k + 1) = kA M k := mp.2 _ (by omega) (by omega)
  unfold W316
  rw [nI_1, ix_n (j := 124 + 5 * k) (by omega), ix_n (j := 124 + 5 * k + 1) (by omega), r0, r1]
  refine ⟨inb_n (by omega), inb_n (by omega), ?_⟩
  have rc := row_cases p hk (by rcases ht with e | e | e <;> rw [e] <;> decide)
  unfold hold at k1 k0
  rcases ht with e | e | e
  · rw [e] at k1 k0 rc ⊢
    rw [if_pos rfl] at k1 k0
    obtain ⟨a, ha, ea⟩ : ∃ a, a < aN M ∧ kA M k = nI a := by
      rcases rc with u | u | u | u | u
      · exact u.2.2.1
      · exact absurd u.1 (by decide)
      · exact u.2
      · exact absurd u.1 (by decide)
      · exact absurd u (by decide)
    rw [ea, ix_n (by omega)] at k1 k0
    rw [if_pos (by decide), ea]
    refine S247 hw hM (fun d hd ed => ?_) (fun w => ?_)
    · rw [if_neg (by decide), if_neg (fun n => n (by decide))]
      unfold B316_68
      rw [show ix 2 = 2 from rfl, e2]
      refine ⟨inb_n (j := 2) (by omega), S250 a rfl i.1 (by omega) (by omega) (fun q => ?_) (fun q => ?_)⟩
      · rw [if_neg (by decide)]; exact k1 q
      · rw [if_pos rfl]; exact k0 q
    · rcases w with u | u
      · exact absurd u (nI_pos (by omega))
      · exact absurd u (nI_ge ha (by omega))
  · rw [e] at k1 k0 rc ⊢
    rw [if_neg (by decide), if_pos rfl] at k1 k0
    obtain ⟨a, ha, ea⟩ : ∃ a, a < aN M ∧ kA M k = nI a := by
      rcases rc with u | u | u | u | u
      · exact u.2.2.1
      · exact absurd u.1 (by decide)
      · exact u.2
      · exact absurd u.1 (by decide)
      · exact absurd u (by decide)
    rw [ea, ix_n (by omega)] at k1 k0
    rw [if_pos (by decide), ea]
    refine S247 hw hM (fun d hd ed => ?_) (fun w => ?_)
    · rw [if_neg (by decide), if_pos (by decide)]
      unfold B316_68
      rw [show ix 3 = 3 from rfl, e3]
      refine ⟨inb_n (j := 3) (by omega), S250 a rfl i.2.1 (by omega) (by omega) (fun q => ?_) (fun q => ?_)⟩
      · rw [if_neg (by decide)]; exact k1 q
      · rw [if_pos rfl]; exact k0 q
    · rcases w with u | u
      · exact absurd u (nI_pos (by omega))
      · exact absurd u (nI_ge ha (by omega))
  · rw [e] at k1 k0 rc ⊢
    rw [if_neg (by decide), if_neg (by decide)] at k1 k0
    obtain ⟨a, ha, ea⟩ : ∃ a, a ≤ 12 ∧ kA M k = nI a := by
      rcases rc with u | u | u | u | u
      · exact absurd u.1 (by decide)
      · exact absurd u.1 (by decide)
      · exact absurd u.1 (by decide)
      · exact u.2
      · exact absurd u (by decide)
    rw [ea, ix_n (by omega)] at k1 k0
    rw [if_neg (fun n => n (by decide)), ea, show ix 2 = 2 from rfl, e2]
    refine S234 (St_mono i.1 h12) ?_
    have pl := pc_le (ckS s)
    by_cases q : a ≤ pc (ckS s)
    · rw [if_neg (nI_nlt q (by omega))]; exact k1 (decide_eq_true q)
    · rw [if_pos (nI_lt (by omega) (by omega))]; exact k0 (decide_eq_false q)
end MCK
