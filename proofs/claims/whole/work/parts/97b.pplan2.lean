section PIE
variable {M M' : Nat → Int32} {n0 cn o : Nat} {r : List Nat}
theorem PI_end (p : PI M n0 cn (o :: r)) (hr : ∀ j, 124 ≤ j → j < 124 + 5 * qn M → j ≠ 124 + 5 * o + 3 → M' j = M j) (hLo : kL M' o = nI (qn M)) (h6 : M' 6 = nI (qn M + 1)) (hK : kK M' (qn M) = 21) (hL : kL M' (qn M) = nI o) (hC : kC M' (qn M) = nI cn) : PI M' n0 cn r := by
  obtain ⟨p1, ⟨p2, p3, p4⟩, p5, p6, p7, p8, p9, p10, p11, p12, p13⟩ := p
  have p2' : qn M + (r.length + 1) ≤ 2 * cn := p2
  have p4' : r.length + 1 ≤ 3 := p4
  have n60 : qn M ≤ 60 := by omega
  obtain ⟨ho, oo⟩ := p8 o (by simp)
  have hor : o ∉ r := fun w => by have := (List.pairwise_cons.mp p9).1 o w; omega
  have hlt : ∀ b, b ∈ r → b < o := (List.pairwise_cons.mp p9).1
  have eN : qn M' = qn M + 1 := by show ix (M' 6) = _; rw [h6, ix_n (by omega)]
  have fK : ∀ k, k < qn M → kK M' k = kK M k := fun k hk => hr _ (by omega) (by omega) (by omega)
  have fA : ∀ k, k < qn M → kA M' k = kA M k := fun k hk => hr _ (by omega) (by omega) (by omega)
  have fB : ∀ k, k < qn M → kB M' k = kB M k := fun k hk => hr _ (by omega) (by omega) (by omega)
  have fL : ∀ k, k < qn M → k ≠ o → kL M' k = kL M k := fun k hk hko => hr _ (by omega) (by omega) (by omega)
  have fC : ∀ k, k < qn M → kC M' k = kC M k := fun k hk => hr _ (by omega) (by omega) (by omega)
  have fl : ∀ k, k < qn M → k ≠ o → lk M' k = lk M k := fun k hk hko => by unfold lk; rw [fL k hk hko]
  have flo : lk M' o = qn M := by unfold lk; rw [hLo, ix_n (by omega)]
  have fln : lk M' (qn M) = o := by unfold lk; rw [hL, ix_n (by omega)]
  have fO : ∀ k, k < qn M → (opn M' k ↔ opn M k) := fun k hk => opn_cg (fK k hk)
  have nO : ¬ opn M' (qn M) := opn_21 hK
  have fc : ∀ k, k ≤ qn M → cc M' cn k = cc M cn k := fun k hk => by
    unfold cc
    by_cases w : k < qn M
    · rw [if_pos (by omega), if_pos w, fC k w]
    · have : k = qn M := by omega
      rw [if_pos (by omega), if_neg w, this, hC, ix_n (by omega)]
  have fc1 : cc M' cn (qn M + 1) = cn := by unfold cc; rw [if_neg (by omega)]
  have fcn : cc M cn (qn M) = cn := by unfold cc; rw [if_neg (by omega)]
  have ltN : ∀ k, k < qn M + 1 → opn M' k → k < qn M := fun k hk hk2 => by
    apply Classical.byContradiction
    intro w
    have e : k = qn M := by omega
    rw [e] at hk2; exact nO hk2
  refine ⟨by rw [eN]; exact h6, ⟨by omega, p3, by omega⟩, by rw [fc 0 (by omega)]; exact p5, fun k hk => ?_, fun k hk => ?_, fun b hb => ?_, (List.pairwise_cons.mp p9).2, fun k hk ok hns => ?_, fun e he h21 => ?_, fun a b hab hb oa ob hns => ?_, fun k hk => ?_⟩
  · rw [eN] at hk
    by_cases w : k < qn M
    · rw [fC k w, fc k (by omega), fc (k + 1) (by omega), fK k w]; exact p6 k w
    · have : k = qn M := by omega
      rw [this, hC, fc _ (Nat.le_refl _), fc1, fcn, if_pos hK]; exact ⟨rfl, rfl⟩
  · rw [eN] at hk
    by_cases w : k < qn M
    · rcases p7 k w with q | q
      · exact Or.inl (by rw [fK k w]; exact q)
      · right; unfold rowOk at q ⊢; rw [fK k w, fA k w, fB k w]; exact q
    · have : k = qn M := by omega
      rw [this]; exact Or.inl hK
  · have := p8 b (by simp [hb])
    rw [eN]; exact ⟨by omega, (fO b this.1).mpr this.2⟩
  · rw [eN] at hk ⊢
    have w := ltN k hk ok
    by_cases u : k = o
    · rw [u, flo]; exact ⟨ho, by omega, hLo, hK, hL⟩
    · obtain ⟨a1, a2, a3, a4, a5⟩ := p10 k w ((fO k w).mp ok) (by simp [u, hns])
      have v : lk M k ≠ o := fun v => by rw [v] at a4; exact opn_21 a4 oo
      rw [fl k w u, fL k w u, fK _ a2, fL _ a2 v]
      exact ⟨a1, by omega, a3, a4, a5⟩
  · rw [eN] at he
    by_cases w : e < qn M
    · rw [fK e w] at h21
      obtain ⟨a1, a2, a3, a4, a5⟩ := p11 e w h21
      have v : e ≠ o := fun v => by rw [v] at h21; exact opn_21 h21 oo
      have u : lk M e ≠ o := fun u => a3 (by rw [u]; simp)
      rw [fl e w v, fL e w v, fO _ (by omega), fl _ (by omega) u]
      exact ⟨a1, a2, fun y => a3 (by simp [y]), a4, a5⟩
    · have : e = qn M := by omega
      rw [this, fln, flo]
      exact ⟨ho, (fO o ho).mpr oo, hor, hL, rfl⟩
  · rw [eN] at hb
    have wb := ltN b hb ob
    have wa : a < qn M := by omega
    by_cases u : a = o
    · right
      have hb2 : b ∉ o :: r := by
        intro y
        rcases List.mem_cons.mp y with y | y
        · omega
        · have := hlt b y; omega
      have := (p10 b wb ((fO b wb).mp ob) hb2).2.1
      rw [u, flo, fl b wb (by omega)]
      exact ⟨fun y => hb2 (by simp [y]), this⟩
    · rw [fl a wa u]
      rcases p12 a b hab wb ((fO a wa).mp oa) ((fO b wb).mp ob) (by simp [u, hns]) with q | ⟨q1, q2⟩
      · exact Or.inl q
      · right
        have hbo : b ≠ o := fun y => q1 (by rw [y]; simp)
        rw [fl b wb hbo]; exact ⟨fun y => q1 (by simp [y]), q2⟩
  · rw [eN] at hk
    by_cases w : k ≤ qn M
    · obtain ⟨L, l1, l2, l3⟩ := p13 k w
      refine ⟨L, l1, l2, fun b => ?_⟩
      rw [l3 b]
      constructor
      · rintro ⟨b1, b2, b3, b4⟩
        refine ⟨b1, by omega, (fO b b2).mpr b3, ?_⟩
        by_cases u : b = o
        · right; rw [u, flo]; exact w
        · rw [fl b b2 u]
          rcases b4 with y | y
          · exact Or.inl (by simpa [u] using y)
          · exact Or.inr y
      · rintro ⟨b1, b2, b3, b4⟩
        have b2' := ltN b (by omega) b3
        refine ⟨b1, b2', (fO b b2').mp b3, ?_⟩
        by_cases u : b = o
        · left; rw [u]; simp
        · rw [fl b b2' u] at b4
          rcases b4 with y | y
          · exact Or.inl (by simp [y])
          · exact Or.inr y
    · have ek : k = qn M + 1 := by omega
      refine ⟨r, (List.pairwise_cons.mp p9).2, by omega, fun b => ⟨fun hb => ?_, ?_⟩⟩
      · have := p8 b (by simp [hb])
        exact ⟨by omega, by omega, (fO b this.1).mpr this.2, Or.inl hb⟩
      · rintro ⟨b1, b2, b3, b4 | b4⟩
        · exact b4
        · have b2' := ltN b (by omega) b3
          apply Classical.byContradiction
          intro hns
          by_cases u : b = o
          · rw [u, flo] at b4; omega
          · have := (p10 b b2' ((fO b b2').mp b3) (by simp [u, hns])).2.1
            rw [fl b b2' u] at b4; omega
end PIE
section QIN
variable {T : Nat → Nat} {z : Nat} {N : Nat → List Nat} {n0 : Nat} {s s' : QS}
theorem qth_r {r : QR} {f : QS → QR} (h : qth r f = .inr s') : ∃ s, r = .inr s ∧ f s = .inr s' := by
  cases r with
  | inl e => exact absurd h (by unfold qth; intro q; cases q)
  | inr s => exact ⟨s, rfl, h⟩
theorem qth_l {r : QR} {f : QS → QR} {e : Nat × Nat} (h : r = .inl e) : qth r f = .inl e := by rw [h]; rfl
theorem qth_i {r : QR} {f : QS → QR} {s : QS} (h : r = .inr s) : qth r f = f s := by rw [h]; rfl
theorem qName_in {p : Nat} (h : qName T z N n0 p s = .inr s') : kd T z s.1 = 30 ∧ fnd N n0 (wd T z s.1) < n0 ∧ s' = (s.1 + 1, upd s.2.1 p (nI (fnd N n0 (wd T z s.1))), s.2.2) := by
  unfold qName at h
  split at h
  · split at h
    · exact ⟨by assumption, by assumption, (Sum.inr.inj h).symm⟩
    · cases h
  · cases h
theorem qNum_in {p lo hi : Nat} (h : qNum T z p lo hi s = .inr s') : kd T z s.1 = 32 ∧ lo ≤ nv T z s.1 ∧ nv T z s.1 ≤ hi ∧ s' = (s.1 + 1, upd s.2.1 p (nI (nv T z s.1)), s.2.2) := by
  unfold qNum at h
  split at h
  · split at h
    · rename_i q w
      exact ⟨q, w.1, w.2, (Sum.inr.inj h).symm⟩
    · cases h
  · cases h
theorem qSemi_in (h : qSemi T z s = .inr s') : kd T z s.1 = 33 ∧ s' = (s.1 + 1, s.2) := by
  unfold qSemi at h
  split at h
  · exact ⟨by assumption, (Sum.inr.inj h).symm⟩
  · cases h
theorem qRest_in {w k : Nat} (h : qRest T z N n0 w k s = .inr s') (hw : isSt w) (hK : kK s.2.1 k = nI w) : s'.2.2 = s.2.2 ∧ (∀ j, (j < 124 + 5 * k ∨ 124 + 5 * k + 2 < j) → s'.2.1 j = s.2.1 j) ∧ rowOk s'.2.1 n0 k ∧ (opn s'.2.1 k ↔ (w = 16 ∨ w = 20)) ∧ s.1 ≤ s'.1 := by
  have u1 : ∀ (M : Nat → Int32) (v : Int32), kK (upd M (124 + 5 * k + 1) v) k = kK M k ∧ kA (upd M (124 + 5 * k + 1) v) k = v ∧ kB (upd M (124 + 5 * k + 1) v) k = kB M k := fun M v => ⟨pk_un (by omega), pk_us, pk_un (by omega)⟩
  have u2 : ∀ (M : Nat → Int32) (v : Int32), kK (upd M (124 + 5 * k + 2) v) k = kK M k ∧ kA (upd M (124 + 5 * k + 2) v) k = kA M k ∧ kB (upd M (124 + 5 * k + 2) v) k = v := fun M v => ⟨pk_un (by omega), pk_un (by omega), pk_us⟩
  unfold qRest at h
  split at h
  · rename_i q
    obtain ⟨a1, a2, rfl⟩ := qName_in h
    refine ⟨rfl, fun j hj => pk_un (by omega), Or.inl ⟨?_, _, a2, (u1 _ _).2.1⟩, ?_, Nat.le_succ _⟩
    · show kK (upd s.2.1 (124 + 5 * k + 1) _) k = 10 ∨ _
      rw [(u1 _ _).1, hK]
      rcases q with rfl | rfl | rfl | rfl <;> decide
    · show opn (upd s.2.1 (124 + 5 * k + 1) _) k ↔ _
      unfold opn
      rw [(u1 _ _).1, hK]
      rcases q with rfl | rfl | rfl | rfl <;> decide
  · split at h
    · rename_i q0 q
      obtain ⟨s1, h1, h⟩ := qth_r h
      obtain ⟨a1, a2, rfl⟩ := qName_in h1
      split at h
      · obtain ⟨b1, b2, rfl⟩ := qName_in h
        refine ⟨rfl, fun j hj => ?_, Or.inr (Or.inl ⟨?_, ⟨_, a2, ?_⟩, ⟨_, b2, (u2 _ _).2.2⟩⟩), ?_, by show s.1 ≤ s.1 + 1 + 1 + 1; omega⟩
        · show upd (upd s.2.1 _ _) _ _ j = _
          rw [pk_un (by omega), pk_un (by omega)]
        · show kK (upd (upd s.2.1 (124 + 5 * k + 1) _) (124 + 5 * k + 2) _) k = 11
          rw [(u2 _ _).1, (u1 _ _).1, hK, q]; rfl
        · show kA (upd (upd s.2.1 (124 + 5 * k + 1) _) (124 + 5 * k + 2) _) k = _
          rw [(u2 _ _).2.1, (u1 _ _).2.1]
        · show opn (upd (upd s.2.1 (124 + 5 * k + 1) _) (124 + 5 * k + 2) _) k ↔ _
          unfold opn
          rw [(u2 _ _).1, (u1 _ _).1, hK, q]; decide
      · cases h
    · split at h
      · rename_i q0 q1 q
        obtain ⟨a1, a2, a3, rfl⟩ := qNum_in h
        refine ⟨rfl, fun j hj => pk_un (by omega), Or.inr (Or.inr (Or.inl ⟨?_, _, a2, a3, (u1 _ _).2.1⟩)), ?_, Nat.le_succ _⟩
        · show kK (upd s.2.1 (124 + 5 * k + 1) _) k = 20
          rw [(u1 _ _).1, hK, q]; rfl
        · show opn (upd s.2.1 (124 + 5 * k + 1) _) k ↔ _
          unfold opn
          rw [(u1 _ _).1, hK, q]; decide
      · split at h
        · rename_i q0 q1 q2 q
          unfold qTest at h
          split at h
          · rename_i v
            have v0 : ∀ x : Nat, kK (upd s.2.1 (124 + 5 * k) (nI x)) k = nI x := fun x => pk_us
            split at h
            · rename_i y
              obtain ⟨a1, a2, a3, rfl⟩ := qNum_in h
              have eK : kK (upd (upd s.2.1 (124 + 5 * k) (nI (1600 + kd T z s.1))) (124 + 5 * k + 1) (nI (nv T z (s.1 + 1)))) k = 1619 := by rw [(u1 _ _).1, v0, y]; rfl
              refine ⟨rfl, fun j hj => ?_, Or.inr (Or.inr (Or.inr (Or.inl ⟨eK, _, a3, (u1 _ _).2.1⟩))), ?_, by show s.1 ≤ s.1 + 1 + 1; omega⟩
              · show upd (upd s.2.1 _ _) _ _ j = _
                rw [pk_un (by omega), pk_un (by omega)]
              · refine ⟨fun _ => Or.inl q, fun _ => Or.inr (Or.inr (Or.inr eK))⟩
            · rename_i y
              obtain ⟨a1, a2, rfl⟩ := qName_in h
              have eK : kK (upd (upd s.2.1 (124 + 5 * k) (nI (1600 + kd T z s.1))) (124 + 5 * k + 1) (nI (fnd N n0 (wd T z (s.1 + 1))))) k = 1617 ∨ kK (upd (upd s.2.1 (124 + 5 * k) (nI (1600 + kd T z s.1))) (124 + 5 * k + 1) (nI (fnd N n0 (wd T z (s.1 + 1))))) k = 1618 := by
                rw [(u1 _ _).1, v0]
                rcases (show kd T z s.1 = 17 ∨ kd T z s.1 = 18 by omega) with x | x
                · left; rw [x]; rfl
                · right; rw [x]; rfl
              refine ⟨rfl, fun j hj => ?_, Or.inl ⟨?_, _, a2, (u1 _ _).2.1⟩, ?_, by show s.1 ≤ s.1 + 1 + 1; omega⟩
              · show upd (upd s.2.1 _ _) _ _ j = _
                rw [pk_un (by omega), pk_un (by omega)]
              · exact Or.inr (Or.inr (Or.inr (Or.inr eK)))
              · refine ⟨fun _ => Or.inl q, fun _ => ?_⟩
                rcases eK with x | x
                · exact Or.inr (Or.inl x)
                · exact Or.inr (Or.inr (Or.inl x))
          · cases h
        · rename_i q0 q1 q2 q3
          rw [← Sum.inr.inj h]
          have q22 : w = 22 := by unfold isSt at hw; omega
          refine ⟨rfl, fun _ _ => rfl, Or.inr (Or.inr (Or.inr (Or.inr (by rw [hK, q22]; rfl)))), ?_, Nat.le_refl _⟩
          unfold opn
          rw [hK, q22]; decide
end QIN
