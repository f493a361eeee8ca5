/-! COOKING: the class enters a block, or passes it over -/
section CEN
variable {h : TH} {M : Nat → Int32} {cn tp th k a : Nat} {R : Nat → Nat} {L : List Nat} {s : CK} {dr : Int32} {st0 : PST} {d : Nat}
theorem cc_empty {n0 : Nat} (p : PI M n0 cn []) (hk : k < qn M) (ok : opn M k) : cc M cn (lk M k) = cc M cn k + 1 ↔ lk M k = k + 1 := by
  obtain ⟨b1, b2, b3, b4, b5⟩ := p.2.2.2.2.2.2.2.1 k hk ok (by simp)
  have k21 : ¬ kK M k = 21 := fun u => opn_21 u ok
  have e1 : cc M cn (k + 1) = cc M cn k + 1 := by have := (p.2.2.2.1 k hk).2; rw [if_neg k21] at this; exact this
  constructor
  · intro e
    apply Classical.byContradiction
    intro ne
    by_cases q : kK M (k + 1) = 21
    · obtain ⟨c1, c2, c3, c4, c5⟩ := p.2.2.2.2.2.2.2.2.1 (k + 1) (by omega) q
      rcases Nat.eq_or_lt_of_le (show lk M (k + 1) ≤ k by omega) with u | u
      · rw [u] at c5; omega
      · rcases p.2.2.2.2.2.2.2.2.2.1 (lk M (k + 1)) k u hk c2 ok (by simp) with v | v
        · omega
        · omega
    · have := cc_lt p (k := k + 1) (b := lk M k) (by omega) (by omega) q
      omega
  · intro e; rw [e]; exact e1
/-- through an empty block the pure run comes at once behind it -/
theorem l0_empty {n0 : Nat} (p : PI M n0 cn []) (hk : k < qn M) (ok : opn M k) (he : lk M k = k + 1) : ∀ (v : Nat) (R : Nat → Nat), rL M R k = v → leads0 M cn dr st0 (k + 1, R, d, s) → ∃ R', leads0 M cn dr st0 (k + 2, R', d, s) ∧ ∀ j, j ≠ k → R' j = R j := by
  obtain ⟨b1, b2, b3, b4, b5⟩ := p.2.2.2.2.2.2.2.1 k hk ok (by simp)
  rw [he] at b2 b4 b5
  have n60 := p.n60
  have lk1 : lk M (k + 1) = k := by unfold lk; rw [b5, ix_n (by omega)]
  intro v
  induction v with
  | zero =>
    intro R hR l
    have na : ¬ again1 M R (k + 1) := fun u => by
      unfold again1 at u; rw [lk1] at u
      unfold rL at hR; rw [if_pos u.1] at hR; omega
    have lc := l0_close l b2 b4
    have e1 : clK M R (k + 1) = k + 2 := by unfold clK; rw [if_neg na]
    have e2 : clR M R (k + 1) = R := by unfold clR; rw [if_neg na]
    rw [e1, e2] at lc
    exact ⟨R, lc, fun _ _ => rfl⟩
  | succ v ih =>
    intro R hR l
    have k20 : kK M k = 20 := by
      apply Classical.byContradiction
      intro w
      unfold rL at hR; rw [if_neg w] at hR; omega
    have eR : R k = v + 1 := by unfold rL at hR; rw [if_pos k20] at hR; exact hR
    have na : again1 M R (k + 1) := by unfold again1; rw [lk1]; exact ⟨k20, by omega⟩
    have lc := l0_close l b2 b4
    have e1 : clK M R (k + 1) = k + 1 := by unfold clK; rw [if_pos na, lk1]
    have e2 : clR M R (k + 1) = updR R k v := by unfold clR; rw [if_pos na, lk1, eR]; rfl
    rw [e1, e2] at lc
    obtain ⟨R', l', o'⟩ := ih (updR R k v) (by unfold rL updR; rw [if_pos k20, if_pos rfl]) lc
    exact ⟨R', l', fun j hj => by rw [o' j hj]; unfold updR; rw [if_neg hj]⟩
/-- the block at k is entered (x: how often) or passed over -/
theorem S96 {C : TH → Prop} {n0 : Nat} (p : PI M n0 cn []) (cp : CPl h tp M cn []) (hk : k < qn M) (ok : opn M k) (b : inB M [] k L) (c : CW h tp M cn R k L) (ha : a ≤ 99) (R' : Nat → Nat) (hR' : 1 ≤ a → rL M R' k + 1 = a ∧ ∀ j, j ≠ k → R' j = R j) (kp : (a = 0 ∨ lk M k = k + 1) → ∀ g, Sm (fun x => x = tp ∨ x = tp + 5 ∨ x = tp + 6) h g → (∀ j, j ≠ 8 → j ≠ 9 → g.I tp j = h.I tp j) → CW g tp M cn R (lk M k + 1) L → C g) (ki : 1 ≤ a → lk M k ≠ k + 1 → ∀ g, Sm (fun x => x = tp ∨ x = tp + 5 ∨ x = tp + 6) h g → (∀ j, j ≠ 8 → j ≠ 9 → g.I tp j = h.I tp j) → CW g tp M cn R' (k + 1) (k :: L) → C g) : W96 tp (nI a) h C := by
  have n60 := p.n60
  have c30 := p.2.1.2.1
  obtain ⟨b1, b2, b3, b4, b5⟩ := p.2.2.2.2.2.2.2.1 k hk ok (by simp)
  have k21 : ¬ kK M k = 21 := fun u => opn_21 u ok
  have ckn : cc M cn k < cn := by have := cc_lt p (k := k) (b := qn M) hk (Nat.le_refl _) k21; rw [cc_n] at this; exact this
  have e1 : cc M cn (k + 1) = cc M cn k + 1 := by have := (p.2.2.2.1 k hk).2; rw [if_neg k21] at this; exact this
  have el : cc M cn (lk M k + 1) = cc M cn (lk M k) := by have := (p.2.2.2.1 (lk M k) b2).2; rw [if_pos b4] at this; exact this
  have cl := cc_le p (k := lk M k) (by omega)
  have nx : h.I (tp + 4) (cc M cn k) = nI (cc M cn (lk M k)) := (cp k hk k21).2 ok (by simp)
  have c' := c
  obtain ⟨c9, c8, cs⟩ := c
  have pass : (a = 0 ∨ lk M k = k + 1) → B96_30 tp h C := by
    intro u
    unfold B96_30
    rw [c9, ix_n (j := cc M cn k) (by omega), nx]
    refine ⟨inb_n (by omega), kp u _ (Sm.sI (S := fun x => x = tp ∨ x = tp + 5 ∨ x = tp + 6) Sm.refl (Or.inl rfl) _) (fun j _ j9 => I_nk j9) ⟨by rw [I_eq, el], by rw [I_nk (by decide)]; exact c8, fun j o ho => ?_⟩⟩
    rw [I_ne (by omega), I_ne (by omega)]; exact cs j o ho
  unfold W96
  rcases Nat.eq_zero_or_pos a with a0 | a0
  · rw [a0, if_pos (show nI 0 ≤ 0 by decide)]
    exact pass (Or.inl a0)
  · rw [if_neg (nI_nle a0 (by omega)), c9, ix_n (j := cc M cn k) (by omega), nx, nI_1]
    refine ⟨inb_n (by omega), ?_⟩
    by_cases q : lk M k = k + 1
    · rw [if_pos (by rw [(cc_empty p hk ok).mpr q])]
      exact pass (Or.inr q)
    · rw [if_neg (fun e => q ((cc_empty p hk ok).mp ((nI_eq (by omega) (by omega)).mp e))), c8]
      have l3 : L.length + 1 ≤ 3 := (inB_in p b hk ok).2.1
      rw [if_pos (show nI L.length < 3 from nI_lt (b := 3) (by omega) (by omega)), ix_n (j := L.length) (by omega), I_ne (show tp ≠ tp + 5 by omega), c8, ix_n (j := L.length) (by omega)]
      refine ⟨inb_n (by omega), inb_n (by omega), fun h1 eh => ?_⟩
      have s1 : Sm (fun x => x = tp ∨ x = tp + 5 ∨ x = tp + 6) h h1 := by rw [eh]; exact Sm.sI (S := fun x => x = tp ∨ x = tp + 5 ∨ x = tp + 6) (Sm.sI (S := fun x => x = tp ∨ x = tp + 5 ∨ x = tp + 6) Sm.refl (Or.inr (Or.inl rfl)) _) (Or.inr (Or.inr rfl)) _
      have f0 : h1.I tp = h.I tp := by rw [eh]; funext j; rw [I_ne (by omega), I_ne (by omega)]
      have f5 : ∀ j, h1.I (tp + 5) j = if j = L.length then nI (cc M cn k) else h.I (tp + 5) j := fun j => by rw [eh, I_ne (by omega), I_at]
      have f6 : ∀ j, h1.I (tp + 6) j = if j = L.length then nI a else h.I (tp + 6) j := fun j => by rw [eh, I_at, I_ne (by omega)]
      clear eh
      rw [f0, c8, nI_1, I_nk (show (9 : Nat) ≠ 8 by decide), f0, c9, nI_1]
      obtain ⟨hR1, hR2⟩ := hR' a0
      refine ki a0 q _ (Sm.sI (S := fun x => x = tp ∨ x = tp + 5 ∨ x = tp + 6) (Sm.sI (S := fun x => x = tp ∨ x = tp + 5 ∨ x = tp + 6) s1 (Or.inl rfl) _) (Or.inl rfl) _) (fun j j8 j9 => by rw [I_nk j9, I_nk j8, f0]) ⟨by rw [I_eq, e1], by rw [I_nk (by decide), I_eq]; rfl, fun j o ho => ?_⟩
      rw [I_ne (by omega), I_ne (by omega), I_ne (by omega), I_ne (by omega), f5, f6]
      rcases rev_new ho with ⟨j1, j2⟩ | ⟨j1, j2⟩
      · have hm : o ∈ L := by have := List.mem_of_getElem? j2; simpa using this
        have ne : o ≠ k := fun u => by have := ((inB_iff b o).mp hm).1; omega
        obtain ⟨t1, t2, t3⟩ := cs j o j2
        have er : rL M R' o = rL M R o := by unfold rL; rw [hR2 o ne]
        rw [if_neg (by omega), if_neg (by omega), er]; exact ⟨t1, t2, t3⟩
      · rw [if_pos j1, if_pos j1, j2, hR1]
        exact ⟨rfl, rfl, by omega⟩
/-- the class's test -/
theorem S97 {C : Int32 → Prop} (hw : Wf M) (p : PI M (aN M) cn []) (cp : CPl h tp M cn []) (hk : k < qn M) (ht : kK M k = 1617 ∨ kK M k = 1618 ∨ kK M k = 1619) (i : ckI M s) (e9 : h.I tp 9 = nI (cc M cn k)) (e0 : h.I th 0 = ckS s) (e1 : h.I th 1 = ckU s) (k1 : hold M k s = true → C 1) (k0 : hold M k s = false → C 0) : W97 tp th h C := by
  have h12 := hw.n12
  have n60 := p.n60
  have c30 := p.2.1.2.1
  have k21 : ¬ kK M k = 21 := by rcases ht with e | e | e <;> rw [e] <;> decide
  have ckn : cc M cn k < cn := by have := cc_lt p (k := k) (b := qn M) hk (Nat.le_refl _) k21; rw [cc_n] at this; exact this
  obtain ⟨r1, r2, r3, r17, r18, r19⟩ := (cp k hk k21).1
  have rA := r2 (by rcases ht with e | e | e <;> rw [e] <;> decide)
  have rc := row_cases p hk k21
  unfold W97
  rw [e9, ix_n (j := cc M cn k) (by omega), rA, e0, e1]
  refine ⟨inb_n (by omega), ?_⟩
  unfold hold at k1 k0
  rcases ht with e | e | e
  · rw [r17 e, if_pos rfl]
    rw [if_pos e] at k1 k0
    obtain ⟨a, ha, ea⟩ : ∃ a, a < aN M ∧ kA M k = nI a := by
      rcases rc with u | u | u | u | u
      · exact u.2.2.1
      · rw [e] at u; exact absurd u.1 (by decide)
      · exact u.2
      · rw [e] at u; exact absurd u.1 (by decide)
      · rw [e] at u; exact absurd u (by decide)
    rw [ea, ix_n (by omega)] at k1 k0
    rw [ea]
    refine ⟨inb_n (by omega), ?_⟩
    cases q : bt (ckS s) a with
    | false => rw [if_pos ((bt_in (by omega)).mpr q)]; exact k0 q
    | true => rw [if_neg (fun n => absurd q (by rw [(bt_in (by omega)).mp n]; decide))]; exact k1 q
  · rw [r18 e, if_neg (by decide), if_pos rfl]
    rw [if_neg (by rw [e]; decide), if_pos e] at k1 k0
    obtain ⟨a, ha, ea⟩ : ∃ a, a < aN M ∧ kA M k = nI a := by
      rcases rc with u | u | u | u | u
      · exact u.2.2.1
      · rw [e] at u; exact absurd u.1 (by decide)
      · exact u.2
      · rw [e] at u; exact absurd u.1 (by decide)
      · rw [e] at u; exact absurd u (by decide)
    rw [ea, ix_n (by omega)] at k1 k0
    rw [ea]
    refine ⟨inb_n (by omega), ?_⟩
    cases q : bt (ckU s) a with
    | false => rw [if_pos ((bt_in (by omega)).mpr q)]; exact k0 q
    | true => rw [if_neg (fun n => absurd q (by rw [(bt_in (by omega)).mp n]; decide))]; exact k1 q
  · rw [r19 e, if_neg (by decide), if_neg (by decide)]
    rw [if_neg (by rw [e]; decide), if_neg (by rw [e]; decide)] at k1 k0
    obtain ⟨a, ha, ea⟩ : ∃ a, a ≤ 12 ∧ kA M k = nI a := by
      rcases rc with u | u | u | u | u
      · rw [e] at u; exact absurd u.1 (by decide)
      · rw [e] at u; exact absurd u.1 (by decide)
      · rw [e] at u; exact absurd u.1 (by decide)
      · exact u.2
      · rw [e] at u; exact absurd u (by decide)
    rw [ea, ix_n (by omega)] at k1 k0
    refine S327 (St_mono i.1 h12) ⟨inb_n (by omega), ?_⟩
    have pl := pc_le (ckS s)
    rw [ea]
    by_cases q : a ≤ pc (ckS s)
    · rw [if_neg (nI_nlt q (by omega))]; exact k1 (decide_eq_true q)
    · rw [if_pos (nI_lt (by omega) (by omega))]; exact k0 (decide_eq_false q)
end CEN
