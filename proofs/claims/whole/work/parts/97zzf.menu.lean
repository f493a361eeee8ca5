/-! menu, plan, fault -/
section MNU
variable {T : Nat → Nat} {z : Nat} {s s' : PS}
def kp (s s' : PS) : Prop := ∀ k, 2 ≤ k → k < 8 → s'.2.1 k = s.2.1 k
theorem kp.tr {s1 : PS} (a : kp s s1) (b : kp s1 s') : kp s s' := fun k h1 h2 => (b k h1 h2).trans (a k h1 h2)
theorem thn_k {r : PR} {f : PS → PR} (h : thn r f = .inr s') : ∃ s1, r = .inr s1 ∧ f s1 = .inr s' := by
  cases r with
  | inl e => exact absurd h (by simp [thn])
  | inr s1 => exact ⟨s1, rfl, h⟩
theorem kp_up {i p : Nat} {M : Nat → Int32} {v : Int32} {N N' : Nat → List Nat} {j : Nat} (hp : p < 2 ∨ 8 ≤ p) : kp (i, M, N) (j, upd M p v, N') := fun k h1 h2 => by
  show upd M p v k = M k
  unfold upd; rw [if_neg (by omega)]
theorem pNum_kp {p lo hi : Nat} (hp : 8 ≤ p) (h : pNum T z p lo hi s = .inr s') : kp s s' := by
  unfold pNum at h
  split at h
  · split at h
    · injection h with h; subst h; exact kp_up (Or.inr hp)
    · cases h
  · cases h
theorem pOpt_kp {w p lo hi : Nat} (hp : 8 ≤ p) (h : pOpt T z w p lo hi s = .inr s') : kp s s' := by
  unfold pOpt at h
  split at h
  · exact pNum_kp (s := (s.1 + 1, s.2)) hp h
  · injection h with h; subst h; exact fun _ _ _ => rfl
theorem pNeeds_kp {d : Nat} : ∀ (f : Nat) (s s' : PS), pNeeds T z d f s = .inr s' → kp s s'
  | 0, s, s', h => by unfold pNeeds at h; injection h with h; subst h; exact fun _ _ _ => rfl
  | f + 1, s, s', h => by
    unfold pNeeds at h
    split at h
    · split at h
      · split at h
        · cases h
        · exact kp.tr (kp_up (i := s.1) (N := s.2.2) (Or.inr (by omega))) (pNeeds_kp f _ s' h)
      · cases h
    · injection h with h; subst h; exact fun _ _ _ => rfl
theorem pSemi_kp (h : pSemi T z s = .inr s') : kp s s' := by
  unfold pSemi at h
  split at h
  · injection h with h; subst h; exact fun _ _ _ => rfl
  · cases h
theorem pBody_kp {d : Nat} (h : pBody T z d s = .inr s') : kp s s' := by
  unfold pBody at h
  obtain ⟨s1, h1, h⟩ := thn_k h
  obtain ⟨s2, h2, h⟩ := thn_k h
  have k1 : kp s s1 := by
    unfold pWork at h1
    split at h1
    · unfold pAm at h1
      obtain ⟨t1, w1, h1⟩ := thn_k h1
      obtain ⟨t2, w2, h1⟩ := thn_k h1
      obtain ⟨t3, w3, h1⟩ := thn_k h1
      exact kp.tr (kp.tr (kp.tr (show kp s t1 from pNum_kp (s := (s.1 + 1, s.2)) (by omega) w1) (pOpt_kp (by omega) w2)) (pOpt_kp (by omega) w3)) (pOpt_kp (by omega) h1)
    · cases h1
  have k2 : kp s1 s2 := by
    unfold pFrom at h2
    split at h2
    · split at h2
      · exact pNeeds_kp 13 (s1.1 + 1, s1.2) s2 h2
      · cases h2
    · injection h2 with h2; subst h2; exact fun _ _ _ => rfl
  have k3 : kp s2 s' := by
    unfold pKinds at h
    obtain ⟨t1, w1, h⟩ := thn_k h
    have q1 : kp s2 t1 := by
      unfold pPoured at w1
      split at w1
      · split at w1
        · cases w1
        · injection w1 with w1; subst w1; exact kp_up (i := s2.1) (N := s2.2.2) (Or.inr (by omega))
      · injection w1 with w1; subst w1; exact fun _ _ _ => rfl
    refine q1.tr ?_
    unfold pOnce at h
    split at h
    · injection h with h; subst h; exact kp_up (i := t1.1) (N := t1.2.2) (Or.inr (by omega))
    · injection h with h; subst h; exact fun _ _ _ => rfl
  exact (k1.tr k2).tr k3
theorem pPots_kp : ∀ (f : Nat) (s s' : PS), pPots T z f s = .inr s' → kp s s'
  | 0, s, s', h => by unfold pPots at h; injection h with h; subst h; exact fun _ _ _ => rfl
  | f + 1, s, s', h => by
    unfold pPots at h
    split at h
    · split at h
      · split at h
        · cases h
        · exact kp.tr (kp.tr (kp_up (i := s.1) (j := s.1) (N := s.2.2) (N' := s.2.2) (Or.inr (by omega))) (kp_up (Or.inl (by omega)))) (pPots_kp f _ s' h)
      · cases h
    · injection h with h; subst h; exact fun _ _ _ => rfl
theorem pPart_kp (h : pPart T z s = .inr s') : kp s s' := by
  unfold pPart at h
  split at h
  · unfold pDish at h
    split at h
    · cases h
    · split at h
      · split at h
        · cases h
        · obtain ⟨s1, h1, h⟩ := thn_k h
          obtain ⟨s2, h2, h⟩ := thn_k h
          injection h with h; subst h
          have k0 : kp s (s.1 + 2, ini (aN s.2.1) s.2.1, updN s.2.2 (aN s.2.1) (wd T z (s.1 + 1))) := fun k h1 h2 => by
            show ini (aN s.2.1) s.2.1 k = _
            unfold ini; rw [if_neg (by omega)]
          exact ((k0.tr (pBody_kp h1)).tr (pSemi_kp h2)).tr (kp_up (i := s2.1) (N := s2.2.2) (Or.inl (by omega)))
      · cases h
  · split at h
    · unfold pPair at h
      split at h
      · split at h
        · split at h
          · split at h
            · split at h
              · split at h
                · exact kp.tr (kp.tr (kp_up (i := s.1) (j := s.1) (N := s.2.2) (N' := s.2.2) (Or.inr (by omega))) (kp_up (Or.inr (by omega)))) (pSemi_kp h)
                · cases h
              · cases h
            · cases h
          · cases h
        · cases h
      · cases h
    · split at h
      · unfold pThePots at h
        split at h
        · split at h
          · obtain ⟨s1, h1, h⟩ := thn_k h
            exact kp.tr (show kp s s1 from pPots_kp 9 (s.1 + 1, s.2) s1 h1) (pSemi_kp h)
          · cases h
        · cases h
      · cases h
theorem pMenu_kp : ∀ (f : Nat) (s s' : PS), pMenu T z f s = .inr s' → kp s s'
  | 0, s, s', h => by unfold pMenu at h; injection h with h; subst h; exact fun _ _ _ => rfl
  | f + 1, s, s', h => by
    unfold pMenu at h
    split at h
    · injection h with h; subst h; exact fun _ _ _ => rfl
    · obtain ⟨s1, h1, h⟩ := thn_k h
      exact (pPart_kp h1).tr (pMenu_kp f s1 s' h)
end MNU
