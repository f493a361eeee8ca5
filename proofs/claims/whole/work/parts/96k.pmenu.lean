/-! THE MENU'S READING, as a function: a state tells the next TOKEN, the row M, the NAMES; it ends with a FAULT (its kind, its place) or with a state -/
abbrev PS := Nat × (Nat → Int32) × (Nat → List Nat)
abbrev PR := Sum (Nat × Nat) PS
def thn (r : PR) (f : PS → PR) : PR := match r with
  | .inl e => .inl e
  | .inr s => f s
def thnF {α : Type} (r : Sum (Nat × Nat) α) (f : α → Sum (Nat × Nat) α) : Sum (Nat × Nat) α := match r with
  | .inl e => .inl e
  | .inr s => f s
def updN (N : Nat → List Nat) (d : Nat) (l : List Nat) : Nat → List Nat := fun j => if j = d then l else N j
section PMN
variable (T : Nat → Nat) (z : Nat)
def pNum (p lo hi : Nat) (s : PS) : PR := if kd T z s.1 = 32 then (if lo ≤ nv T z s.1 ∧ nv T z s.1 ≤ hi then .inr (s.1 + 1, upd s.2.1 p (nI (nv T z s.1)), s.2.2) else .inl (fl T z s.1 4)) else .inl (fl T z s.1 2)
def pOpt (w p lo hi : Nat) (s : PS) : PR := if kd T z s.1 = w then pNum T z p lo hi (s.1 + 1, s.2) else .inr s
def pNeeds (d : Nat) : Nat → PS → PR
  | 0, s => .inr s
  | f + 1, s => if kd T z s.1 = 30 then (if fnd s.2.2 d (wd T z s.1) < d then (if bt (s.2.1 (16 + 8 * d + 4)) (fnd s.2.2 d (wd T z s.1)) = true then .inl (fl T z s.1 5) else pNeeds d f (s.1 + 1, upd s.2.1 (16 + 8 * d + 4) (s.2.1 (16 + 8 * d + 4) ||| ishl 1 (nI (fnd s.2.2 d (wd T z s.1)))), s.2.2)) else .inl (fl T z s.1 3)) else .inr s
def pFrom (d : Nat) (s : PS) : PR := if kd T z s.1 = 7 then (if kd T z (s.1 + 1) = 30 then pNeeds T z d 13 (s.1 + 1, s.2) else .inl (fl T z (s.1 + 1) 2)) else .inr s
def pPoured (d : Nat) (s : PS) : PR := if kd T z s.1 = 8 then (if s.2.1 (16 + 8 * d + 4) = 0 then .inl (fl T z s.1 7) else .inr (s.1 + 1, upd s.2.1 (16 + 8 * d + 5) 1, s.2.2)) else .inr s
def pOnce (d : Nat) (s : PS) : PR := if kd T z s.1 = 9 then .inr (s.1 + 1, upd s.2.1 (16 + 8 * d + 6) 1, s.2.2) else .inr s
def pSemi (s : PS) : PR := if kd T z s.1 = 33 then .inr (s.1 + 1, s.2) else .inl (fl T z s.1 2)
def ini (d : Nat) (M : Nat → Int32) : Nat → Int32 := fun k => if 16 + 8 * d ≤ k ∧ k < 16 + 8 * d + 8 then (if k = 16 + 8 * d + 1 then 1 else if k = 16 + 8 * d + 7 then -1 else 0) else M k
def pAm (d : Nat) (s : PS) : PR := thn (pNum T z (16 + 8 * d + 0) 0 99 s) (fun s => thn (pOpt T z 4 (16 + 8 * d + 1) 1 9 s) (fun s => thn (pOpt T z 5 (16 + 8 * d + 2) 1 99 s) (pOpt T z 6 (16 + 8 * d + 3) 0 15)))
def pWork (d : Nat) (s : PS) : PR := if kd T z s.1 = 3 then pAm T z d (s.1 + 1, s.2) else .inl (fl T z s.1 2)
def pKinds (d : Nat) (s : PS) : PR := thn (pPoured T z d s) (pOnce T z d)
def pBody (d : Nat) (s : PS) : PR := thn (pWork T z d s) (fun s => thn (pFrom T z d s) (pKinds T z d))
def pDish (s : PS) : PR := if aN s.2.1 = 12 then .inl (fl T z s.1 6) else if kd T z (s.1 + 1) = 30 then (if fnd s.2.2 (aN s.2.1) (wd T z (s.1 + 1)) < aN s.2.1 then .inl (fl T z (s.1 + 1) 3) else thn (pBody T z (aN s.2.1) (s.1 + 2, ini (aN s.2.1) s.2.1, updN s.2.2 (aN s.2.1) (wd T z (s.1 + 1)))) (fun r => thn (pSemi T z r) (fun r => .inr (r.1, upd r.2.1 0 (nI (aN s.2.1 + 1)), r.2.2)))) else .inl (fl T z (s.1 + 1) 2)
def pPots : Nat → PS → PR
  | 0, s => .inr s
  | f + 1, s => if kd T z s.1 = 32 then (if 1 ≤ nv T z s.1 ∧ nv T z s.1 ≤ 9 then (if aP s.2.1 = 8 then .inl (fl T z s.1 6) else pPots f (s.1 + 1, upd (upd s.2.1 (8 + aP s.2.1) (nI (nv T z s.1))) 1 (nI (aP s.2.1 + 1)), s.2.2)) else .inl (fl T z s.1 4)) else .inr s
def pThePots (s : PS) : PR := if aP s.2.1 = 0 then (if kd T z (s.1 + 1) = 32 then thn (pPots T z 9 (s.1 + 1, s.2)) (pSemi T z) else .inl (fl T z (s.1 + 1) 2)) else .inl (fl T z s.1 5)
end PMN
/-- e lies behind d -/
def bh (M : Nat → Int32) (d e : Nat) : Prop := ∀ b, St (aN M) b → bt b d = true → (∀ x, x < aN M → bt b x = true → sb (aNe M x) b) → bt b e = true
noncomputable def bhB (M : Nat → Int32) (d e : Nat) : Bool := @decide (bh M d e) (Classical.propDecidable _)
theorem bhB_iff {M : Nat → Int32} {d e : Nat} : bhB M d e = true ↔ bh M d e := by unfold bhB; exact @decide_eq_true_iff _ (Classical.propDecidable _)
noncomputable def pPair (T : Nat → Nat) (z : Nat) (s : PS) : PR :=
  if kd T z (s.1 + 1) = 30 then (if fnd s.2.2 (aN s.2.1) (wd T z (s.1 + 1)) < aN s.2.1 then (if aPa s.2.1 (fnd s.2.2 (aN s.2.1) (wd T z (s.1 + 1))) = (-1) then
    (if kd T z (s.1 + 2) = 30 then (if fnd s.2.2 (aN s.2.1) (wd T z (s.1 + 2)) < aN s.2.1 then (if aPa s.2.1 (fnd s.2.2 (aN s.2.1) (wd T z (s.1 + 2))) = (-1) ∧ bhB s.2.1 (fnd s.2.2 (aN s.2.1) (wd T z (s.1 + 1))) (fnd s.2.2 (aN s.2.1) (wd T z (s.1 + 2))) = false ∧ bhB s.2.1 (fnd s.2.2 (aN s.2.1) (wd T z (s.1 + 2))) (fnd s.2.2 (aN s.2.1) (wd T z (s.1 + 1))) = false then
      pSemi T z (s.1 + 3, upd (upd s.2.1 (16 + 8 * fnd s.2.2 (aN s.2.1) (wd T z (s.1 + 1)) + 7) (nI (fnd s.2.2 (aN s.2.1) (wd T z (s.1 + 2))))) (16 + 8 * fnd s.2.2 (aN s.2.1) (wd T z (s.1 + 2)) + 7) (nI (fnd s.2.2 (aN s.2.1) (wd T z (s.1 + 1)))), s.2.2)
      else .inl (fl T z (s.1 + 2) 5)) else .inl (fl T z (s.1 + 2) 3)) else .inl (fl T z (s.1 + 2) 2))
    else .inl (fl T z (s.1 + 1) 5)) else .inl (fl T z (s.1 + 1) 3)) else .inl (fl T z (s.1 + 1) 2)
noncomputable def pPart (T : Nat → Nat) (z : Nat) (s : PS) : PR := if kd T z s.1 = 0 then pDish T z s else if kd T z s.1 = 1 then pPair T z s else if kd T z s.1 = 2 then pThePots T z s else .inl (fl T z s.1 2)
noncomputable def pMenu (T : Nat → Nat) (z : Nat) : Nat → PS → PR
  | 0, s => .inr s
  | f + 1, s => if kd T z s.1 = 34 then .inr s else thn (pPart T z s) (pMenu T z f)
/-- what holds of the DISH under way -/
def DF (M : Nat → Int32) (d : Nat) : Prop := (∃ w, w ≤ 99 ∧ aW M d = nI w) ∧ (∃ w, 1 ≤ w ∧ w ≤ 9 ∧ aSz M d = nI w) ∧ (∃ w, w ≤ 99 ∧ aKp M d = nI w) ∧ (∃ w, w ≤ 15 ∧ aBu M d = nI w) ∧
  St d (aNe M d) ∧ (aPo M d = 0 ∨ aPo M d = 1) ∧ (aOn M d = 0 ∨ aOn M d = 1) ∧ (aPo M d = 1 → ¬ aNe M d = 0) ∧ aPa M d = (-1)
def MI (M0 : Nat → Int32) (N1 : Nat → List Nat) (d : Nat) (s : PS) : Prop := DF s.2.1 d ∧ (∀ k, k < 16 + 8 * d → s.2.1 k = M0 k) ∧ s.2.2 = N1
section PMI
variable {T : Nat → Nat} {z : Nat} {M0 : Nat → Int32} {N1 : Nat → List Nat} {d : Nat} {s s' : PS}
theorem ini_MI {M : Nat → Int32} {i : Nat} : MI M N1 d (i, ini d M, N1) := by
  have e : ∀ f, f < 8 → ini d M (16 + 8 * d + f) = if f = 1 then 1 else if f = 7 then -1 else 0 := by
    intro f hf
    unfold ini
    rw [if_pos (by omega)]
    by_cases q : f = 1
    · rw [if_pos (by omega), if_pos q]
    · rw [if_neg (by omega), if_neg q]
      by_cases w : f = 7
      · rw [if_pos (by omega), if_pos w]
      · rw [if_neg (by omega), if_neg w]
  refine ⟨⟨⟨0, by omega, e 0 (by omega)⟩, ⟨1, by omega, by omega, e 1 (by omega)⟩, ⟨0, by omega, e 2 (by omega)⟩, ⟨0, by omega, e 3 (by omega)⟩, ⟨0, Nat.pos_of_ne_zero (by simp), e 4 (by omega)⟩, Or.inl (e 5 (by omega)), Or.inl (e 6 (by omega)), fun q => ?_, e 7 (by omega)⟩, fun k hk => ?_, rfl⟩
  · have h5 : aPo (ini d M) d = 0 := e 5 (by omega)
    rw [h5] at q; exact absurd q (by decide)
  · show ini d M k = M k
    unfold ini; rw [if_neg (by omega)]
/-- writing one field of the DISH under way -/
theorem MI_upd {i i' : Nat} {M : Nat → Int32} {f : Nat} {v : Int32} (m : MI M0 N1 d (i, M, N1)) (hf : f < 8) (hd : DF (upd M (16 + 8 * d + f) v) d) : MI M0 N1 d (i', upd M (16 + 8 * d + f) v, N1) :=
  ⟨hd, fun k hk => by show upd M (16 + 8 * d + f) v k = M0 k; rw [pk_un (by omega)]; exact m.2.1 k hk, rfl⟩
theorem fld_upd {M : Nat → Int32} {f j : Nat} {v : Int32} : upd M (16 + 8 * d + f) v (16 + 8 * d + j) = if j = f then v else M (16 + 8 * d + j) := by
  by_cases q : j = f
  · rw [if_pos q, q]; exact pk_us
  · rw [if_neg q]; exact pk_un (by omega)
theorem DF_upd {M : Nat → Int32} {f : Nat} {v : Int32} (m : DF M d) (c : (f = 0 ∧ ∃ w, w ≤ 99 ∧ v = nI w) ∨ (f = 1 ∧ ∃ w, 1 ≤ w ∧ w ≤ 9 ∧ v = nI w) ∨ (f = 2 ∧ ∃ w, w ≤ 99 ∧ v = nI w) ∨ (f = 3 ∧ ∃ w, w ≤ 15 ∧ v = nI w) ∨ (f = 4 ∧ St d v ∧ ¬ v = 0) ∨ (f = 5 ∧ v = 1 ∧ ¬ aNe M d = 0) ∨ (f = 6 ∧ v = 1)) : DF (upd M (16 + 8 * d + f) v) d := by
  obtain ⟨m0, m1, m2, m3, m4, m5, m6, m7, m8⟩ := m
  have e : ∀ j, upd M (16 + 8 * d + f) v (16 + 8 * d + j) = if j = f then v else M (16 + 8 * d + j) := fun j => fld_upd
  unfold DF aW aSz aKp aBu aNe aPo aOn aPa
  rw [e 0, e 1, e 2, e 3, e 4, e 5, e 6, e 7]
  unfold aW at m0; unfold aSz at m1; unfold aKp at m2; unfold aBu at m3; unfold aNe at m4 m7; unfold aPo at m5 m7; unfold aOn at m6; unfold aPa at m8
  rcases c with ⟨rfl, c⟩ | ⟨rfl, c⟩ | ⟨rfl, c⟩ | ⟨rfl, c⟩ | ⟨rfl, c, c'⟩ | ⟨rfl, c, c'⟩ | ⟨rfl, c⟩
  · exact ⟨c, m1, m2, m3, m4, m5, m6, m7, m8⟩
  · exact ⟨m0, c, m2, m3, m4, m5, m6, m7, m8⟩
  · exact ⟨m0, m1, c, m3, m4, m5, m6, m7, m8⟩
  · exact ⟨m0, m1, m2, c, m4, m5, m6, m7, m8⟩
  · exact ⟨m0, m1, m2, m3, c, m5, m6, fun _ => c', m8⟩
  · exact ⟨m0, m1, m2, m3, m4, Or.inr c, m6, fun _ => c', m8⟩
  · exact ⟨m0, m1, m2, m3, m4, m5, Or.inr c, m7, m8⟩
theorem thn_r {r : PR} {f : PS → PR} (h : thn r f = .inr s') : ∃ s, r = .inr s ∧ f s = .inr s' := by
  cases r with
  | inl e => exact absurd h (by unfold thn; intro q; cases q)
  | inr s => exact ⟨s, rfl, h⟩
theorem thn_l {r : PR} {f : PS → PR} {e : Nat × Nat} (h : r = .inl e) : thn r f = .inl e := by rw [h]; rfl
theorem thn_i {r : PR} {f : PS → PR} {s : PS} (h : r = .inr s) : thn r f = f s := by rw [h]; rfl
theorem pNum_in {p lo hi : Nat} (h : pNum T z p lo hi s = .inr s') : kd T z s.1 = 32 ∧ lo ≤ nv T z s.1 ∧ nv T z s.1 ≤ hi ∧ s' = (s.1 + 1, upd s.2.1 p (nI (nv T z s.1)), s.2.2) := by
  unfold pNum at h
  split at h
  · split at h
    · rename_i q w
      exact ⟨q, w.1, w.2, (Sum.inr.inj h).symm⟩
    · cases h
  · cases h
theorem pNum_MI {f lo hi : Nat} (h : pNum T z (16 + 8 * d + f) lo hi s = .inr s') (m : MI M0 N1 d s) (c : (f = 0 ∧ lo = 0 ∧ hi = 99) ∨ (f = 1 ∧ lo = 1 ∧ hi = 9) ∨ (f = 2 ∧ lo = 1 ∧ hi = 99) ∨ (f = 3 ∧ lo = 0 ∧ hi = 15)) : MI M0 N1 d s' ∧ s.1 < s'.1 ∧ s'.2.1 = upd s.2.1 (16 + 8 * d + f) (nI (nv T z s.1)) := by
  obtain ⟨q, h1, h2, rfl⟩ := pNum_in h
  obtain ⟨i, M, N⟩ := s
  have eN : N = N1 := m.2.2
  subst eN
  refine ⟨MI_upd m (by omega) (DF_upd m.1 ?_), Nat.lt_succ_self _, rfl⟩
  rcases c with ⟨rfl, rfl, rfl⟩ | ⟨rfl, rfl, rfl⟩ | ⟨rfl, rfl, rfl⟩ | ⟨rfl, rfl, rfl⟩
  · exact Or.inl ⟨rfl, _, h2, rfl⟩
  · exact Or.inr (Or.inl ⟨rfl, _, h1, h2, rfl⟩)
  · exact Or.inr (Or.inr (Or.inl ⟨rfl, _, h2, rfl⟩))
  · exact Or.inr (Or.inr (Or.inr (Or.inl ⟨rfl, _, h2, rfl⟩)))
theorem MI_i {i i' : Nat} {M : Nat → Int32} {N : Nat → List Nat} (m : MI M0 N1 d (i, M, N)) : MI M0 N1 d (i', M, N) := m
theorem pOpt_MI {w f lo hi : Nat} (h : pOpt T z w (16 + 8 * d + f) lo hi s = .inr s') (m : MI M0 N1 d s) (c : (f = 0 ∧ lo = 0 ∧ hi = 99) ∨ (f = 1 ∧ lo = 1 ∧ hi = 9) ∨ (f = 2 ∧ lo = 1 ∧ hi = 99) ∨ (f = 3 ∧ lo = 0 ∧ hi = 15)) : MI M0 N1 d s' ∧ s.1 ≤ s'.1 ∧ ∀ k, k ≠ 16 + 8 * d + f → s'.2.1 k = s.2.1 k := by
  unfold pOpt at h
  split at h
  · obtain ⟨a, b, e⟩ := pNum_MI h (MI_i m) c
    refine ⟨a, by have b' : s.1 + 1 < s'.1 := b; omega, fun k hk => ?_⟩
    rw [e]; exact pk_un hk
  · rw [← Sum.inr.inj h]; exact ⟨m, Nat.le_refl _, fun _ _ => rfl⟩
theorem pNeeds_MI (f : Nat) : ∀ (s s' : PS), pNeeds T z d f s = .inr s' → d ≤ 12 → MI M0 N1 d s → MI M0 N1 d s' ∧ s.1 ≤ s'.1 := by
  induction f with
  | zero =>
    intro s s' h _ m
    have h' : (Sum.inr s : PR) = .inr s' := h
    rw [← Sum.inr.inj h']; exact ⟨m, Nat.le_refl _⟩
  | succ f ih =>
    intro s s' h hd m
    unfold pNeeds at h
    split at h
    · split at h
      · split at h
        · cases h
        · rename_i q w r
          obtain ⟨i, M, N⟩ := s
          have eN : N = N1 := m.2.2
          have hs : St d (aNe M d) := m.1.2.2.2.2.1
          have w' : fnd N d (wd T z i) < d := w
          have hnz : ¬ (M (16 + 8 * d + 4) ||| ishl 1 (nI (fnd N d (wd T z i)))) = 0 := by
            intro u
            have h1 : bt (M (16 + 8 * d + 4) ||| ishl 1 (nI (fnd N d (wd T z i)))) (fnd N d (wd T z i)) = true := by
              rw [bt_or, bt_bit (by omega)]; simp
            rw [u, bt_0] at h1; exact absurd h1 (by decide)
          have hS : St d (M (16 + 8 * d + 4) ||| ishl 1 (nI (fnd N d (wd T z i)))) := St_or hs (St_bit w' (by omega)) (by omega)
          have m' : MI M0 N1 d (i + 1, upd M (16 + 8 * d + 4) (M (16 + 8 * d + 4) ||| ishl 1 (nI (fnd N d (wd T z i)))), N) := by
            rw [eN] at m hnz hS ⊢
            exact MI_upd m (f := 4) (by omega) (DF_upd m.1 (Or.inr (Or.inr (Or.inr (Or.inr (Or.inl ⟨rfl, hS, hnz⟩))))))
          exact (ih _ s' h hd m').imp id (fun u => by have u' : i + 1 ≤ s'.1 := u; show i ≤ s'.1; omega)
      · cases h
    · rw [← Sum.inr.inj h]; exact ⟨m, Nat.le_refl _⟩
theorem pFrom_MI (h : pFrom T z d s = .inr s') (hd : d ≤ 12) (m : MI M0 N1 d s) : MI M0 N1 d s' ∧ s.1 ≤ s'.1 := by
  unfold pFrom at h
  split at h
  · split at h
    · exact (pNeeds_MI 13 _ s' h hd (MI_i m)).imp id (fun u => by have u' : s.1 + 1 ≤ s'.1 := u; omega)
    · cases h
  · rw [← Sum.inr.inj h]; exact ⟨m, Nat.le_refl _⟩
theorem pKinds_MI (h : pKinds T z d s = .inr s') (m : MI M0 N1 d s) : MI M0 N1 d s' ∧ s.1 ≤ s'.1 := by
  unfold pKinds at h
  obtain ⟨s1, h1, h2⟩ := thn_r h
  have m1 : MI M0 N1 d s1 ∧ s.1 ≤ s1.1 := by
    unfold pPoured at h1
    split at h1
    · split at h1
      · cases h1
      · rename_i q w
        rw [← Sum.inr.inj h1]
        obtain ⟨i, M, N⟩ := s
        have eN : N = N1 := m.2.2
        subst eN
        exact ⟨MI_upd m (f := 5) (by omega) (DF_upd m.1 (Or.inr (Or.inr (Or.inr (Or.inr (Or.inr (Or.inl ⟨rfl, rfl, w⟩))))))), Nat.le_succ _⟩
    · rw [← Sum.inr.inj h1]; exact ⟨m, Nat.le_refl _⟩
  unfold pOnce at h2
  split at h2
  · rw [← Sum.inr.inj h2]
    obtain ⟨i, M, N⟩ := s1
    have eN : N = N1 := m1.1.2.2
    subst eN
    exact ⟨MI_upd m1.1 (f := 6) (by omega) (DF_upd m1.1.1 (Or.inr (Or.inr (Or.inr (Or.inr (Or.inr (Or.inr ⟨rfl, rfl⟩))))))), Nat.le_trans m1.2 (Nat.le_succ _)⟩
  · rw [← Sum.inr.inj h2]; exact m1
theorem pAm_MI (h : pAm T z d s = .inr s') (m : MI M0 N1 d s) : MI M0 N1 d s' ∧ s.1 ≤ s'.1 := by
  unfold pAm at h
  obtain ⟨s1, h1, h⟩ := thn_r h
  obtain ⟨s2, h2, h⟩ := thn_r h
  obtain ⟨s3, h3, h⟩ := thn_r h
  have m1 := pNum_MI h1 m (Or.inl ⟨rfl, rfl, rfl⟩)
  have m2 := pOpt_MI h2 m1.1 (Or.inr (Or.inl ⟨rfl, rfl, rfl⟩))
  have m3 := pOpt_MI h3 m2.1 (Or.inr (Or.inr (Or.inl ⟨rfl, rfl, rfl⟩)))
  have m4 := pOpt_MI h m3.1 (Or.inr (Or.inr (Or.inr ⟨rfl, rfl, rfl⟩)))
  exact ⟨m4.1, by have := m1.2.1; have := m2.2.1; have := m3.2.1; have := m4.2.1; omega⟩
theorem pWork_MI (h : pWork T z d s = .inr s') (m : MI M0 N1 d s) : MI M0 N1 d s' ∧ s.1 < s'.1 := by
  unfold pWork at h
  split at h
  · exact (pAm_MI h (MI_i m)).imp id (fun u => u)
  · cases h
theorem pBody_MI (h : pBody T z d s = .inr s') (hd : d ≤ 12) (m : MI M0 N1 d s) : MI M0 N1 d s' ∧ s.1 ≤ s'.1 := by
  unfold pBody at h
  obtain ⟨s1, h1, h⟩ := thn_r h
  obtain ⟨s2, h2, h⟩ := thn_r h
  have m1 := pWork_MI h1 m
  have m2 := pFrom_MI h2 hd m1.1
  have m3 := pKinds_MI h m2.1
  exact ⟨m3.1, by have := m1.2; have := m2.2; have := m3.2; omega⟩
end PMI
