/-! THE PLAN'S READING, as a function: a state tells the next TOKEN, the row M, how many STEPS were counted, the open ones -/
abbrev QS := Nat × (Nat → Int32) × Nat × List Nat
abbrev QR := Sum (Nat × Nat) QS
def qth (r : QR) (f : QS → QR) : QR := match r with
  | .inl e => .inl e
  | .inr s => f s
def qn (M : Nat → Int32) : Nat := ix (M 6)
section PPL
variable (T : Nat → Nat) (z : Nat) (N : Nat → List Nat) (n0 : Nat)
def qName (p : Nat) (s : QS) : QR := if kd T z s.1 = 30 then (if fnd N n0 (wd T z s.1) < n0 then .inr (s.1 + 1, upd s.2.1 p (nI (fnd N n0 (wd T z s.1))), s.2.2) else .inl (fl T z s.1 3)) else .inl (fl T z s.1 2)
def qNum (p lo hi : Nat) (s : QS) : QR := if kd T z s.1 = 32 then (if lo ≤ nv T z s.1 ∧ nv T z s.1 ≤ hi then .inr (s.1 + 1, upd s.2.1 p (nI (nv T z s.1)), s.2.2) else .inl (fl T z s.1 4)) else .inl (fl T z s.1 2)
def qSemi (s : QS) : QR := if kd T z s.1 = 33 then .inr (s.1 + 1, s.2) else .inl (fl T z s.1 2)
def qTest (k : Nat) (s : QS) : QR := if 17 ≤ kd T z s.1 ∧ kd T z s.1 ≤ 19 then (if kd T z s.1 = 19 then qNum T z (124 + 5 * k + 1) 0 12 (s.1 + 1, upd s.2.1 (124 + 5 * k) (nI (1600 + kd T z s.1)), s.2.2) else qName T z N n0 (124 + 5 * k + 1) (s.1 + 1, upd s.2.1 (124 + 5 * k) (nI (1600 + kd T z s.1)), s.2.2)) else .inl (fl T z s.1 2)
/-- a row laid for a STEP of kind w -/
def qRow (w : Nat) (s : QS) : QS := (s.1 + 1, upd (fun j => if 124 + 5 * qn s.2.1 ≤ j ∧ j < 124 + 5 * qn s.2.1 + 5 then (if j = 124 + 5 * qn s.2.1 then nI w else if j = 124 + 5 * qn s.2.1 + 4 then nI s.2.2.1 else 0) else s.2.1 j) 6 (nI (qn s.2.1 + 1)), (if w = 21 then s.2.2.1 else s.2.2.1 + 1), s.2.2.2)
/-- what follows a STEP's word -/
def qRest (w k : Nat) (s : QS) : QR := if w = 10 ∨ w = 13 ∨ w = 14 ∨ w = 15 then qName T z N n0 (124 + 5 * k + 1) s else if w = 11 then qth (qName T z N n0 (124 + 5 * k + 1) s) (fun s => if kd T z s.1 = 12 then qName T z N n0 (124 + 5 * k + 2) (s.1 + 1, s.2) else .inl (fl T z s.1 2)) else if w = 20 then qNum T z (124 + 5 * k + 1) 1 99 s else if w = 16 then qTest T z N n0 k s else .inr s
def qOpen (w k : Nat) (s : QS) : QS := if w = 16 ∨ w = 20 then (s.1, s.2.1, s.2.2.1, k :: s.2.2.2) else s
abbrev isSt (w : Nat) : Prop := w = 10 ∨ w = 11 ∨ w = 13 ∨ w = 14 ∨ w = 15 ∨ w = 16 ∨ w = 20 ∨ w = 22
def qStep (s : QS) : QR := if kd T z s.1 = 21 then (match s.2.2.2 with
    | [] => .inl (fl T z s.1 2)
    | o :: r => qSemi T z (s.1 + 1, upd (upd (qRow 21 s).2.1 (124 + 5 * qn s.2.1 + 3) (nI o)) (124 + 5 * o + 3) (nI (qn s.2.1)), s.2.2.1, r))
  else if isSt (kd T z s.1) then (if s.2.2.1 = 30 then .inl (fl T z s.1 6) else if (kd T z s.1 = 16 ∨ kd T z s.1 = 20) ∧ s.2.2.2.length = 3 then .inl (fl T z s.1 7) else qth (qRest T z N n0 (kd T z s.1) (qn s.2.1) (qRow (kd T z s.1) s)) (fun r => qSemi T z (qOpen (kd T z s.1) (qn s.2.1) r))) else .inl (fl T z s.1 2)
end PPL
def qPlan (T : Nat → Nat) (z : Nat) (N : Nat → List Nat) (n0 : Nat) : Nat → QS → QR
  | 0, s => .inr s
  | f + 1, s => if kd T z s.1 = 34 then .inr s else qth (qStep T z N n0 s) (qPlan T z N n0 f)
def qEnd (T : Nat → Nat) (z : Nat) (s : QS) : QR := if s.2.2.2 = [] then .inr s else .inl (fl T z s.1 2)
/-- what holds of the rows: kinds, counts, links -/
def kK (M : Nat → Int32) (k : Nat) : Int32 := M (124 + 5 * k)
def kA (M : Nat → Int32) (k : Nat) : Int32 := M (124 + 5 * k + 1)
def kB (M : Nat → Int32) (k : Nat) : Int32 := M (124 + 5 * k + 2)
def kL (M : Nat → Int32) (k : Nat) : Int32 := M (124 + 5 * k + 3)
def kC (M : Nat → Int32) (k : Nat) : Int32 := M (124 + 5 * k + 4)
def opn (M : Nat → Int32) (k : Nat) : Prop := kK M k = 20 ∨ kK M k = 1617 ∨ kK M k = 1618 ∨ kK M k = 1619
/-- one row that is no END -/
def rowOk (M : Nat → Int32) (n0 k : Nat) : Prop :=
  ((kK M k = 10 ∨ kK M k = 13 ∨ kK M k = 14 ∨ kK M k = 15 ∨ kK M k = 1617 ∨ kK M k = 1618) ∧ ∃ a, a < n0 ∧ kA M k = nI a) ∨ (kK M k = 11 ∧ (∃ a, a < n0 ∧ kA M k = nI a) ∧ ∃ b, b < n0 ∧ kB M k = nI b) ∨ (kK M k = 20 ∧ ∃ a, 1 ≤ a ∧ a ≤ 99 ∧ kA M k = nI a) ∨ (kK M k = 1619 ∧ ∃ a, a ≤ 12 ∧ kA M k = nI a) ∨ kK M k = 22
def cc (M : Nat → Int32) (cn k : Nat) : Nat := if k < qn M then ix (kC M k) else cn
def lk (M : Nat → Int32) (k : Nat) : Nat := ix (kL M k)
/-- the open ones that row k lies in, the innermost first -/
def inB (M : Nat → Int32) (st : List Nat) (k : Nat) (L : List Nat) : Prop := L.Pairwise (fun a b => b < a) ∧ L.length ≤ 3 ∧ ∀ o, o ∈ L ↔ (o < k ∧ o < qn M ∧ opn M o ∧ (o ∈ st ∨ k ≤ lk M o))
/-- the rows laid so far; cn: how many STEPS were counted; st: the open ones, the innermost first -/
def PI (M : Nat → Int32) (n0 cn : Nat) (st : List Nat) : Prop :=
  M 6 = nI (qn M) ∧ (qn M + st.length ≤ 2 * cn ∧ cn ≤ 30 ∧ st.length ≤ 3) ∧ cc M cn 0 = 0 ∧
  (∀ k, k < qn M → kC M k = nI (cc M cn k) ∧ cc M cn (k + 1) = cc M cn k + (if kK M k = 21 then 0 else 1)) ∧
  (∀ k, k < qn M → kK M k = 21 ∨ rowOk M n0 k) ∧
  (∀ o, o ∈ st → o < qn M ∧ opn M o) ∧ st.Pairwise (fun a b => b < a) ∧
  (∀ k, k < qn M → opn M k → k ∉ st → k < lk M k ∧ lk M k < qn M ∧ kL M k = nI (lk M k) ∧ kK M (lk M k) = 21 ∧ kL M (lk M k) = nI k) ∧
  (∀ e, e < qn M → kK M e = 21 → lk M e < e ∧ opn M (lk M e) ∧ lk M e ∉ st ∧ kL M e = nI (lk M e) ∧ lk M (lk M e) = e) ∧
  (∀ a b, a < b → b < qn M → opn M a → opn M b → a ∉ st → (lk M a < b ∨ (b ∉ st ∧ lk M b < lk M a))) ∧
  (∀ k, k ≤ qn M → ∃ L, inB M st k L)
section PIA
variable {M M' : Nat → Int32} {n0 cn : Nat} {st st' : List Nat}
theorem opn_cg {k : Nat} (e : kK M' k = kK M k) : opn M' k ↔ opn M k := by unfold opn; rw [e]
theorem opn_21 {k : Nat} (e : kK M k = 21) : ¬ opn M k := by unfold opn; rw [e]; decide
theorem PI_add (p : PI M n0 cn st) (hcn : cn < 30) (hr : ∀ j, 124 ≤ j → j < 124 + 5 * qn M → M' j = M j) (h6 : M' 6 = nI (qn M + 1)) (hC : kC M' (qn M) = nI cn) (hok : rowOk M' n0 (qn M)) (hst : (opn M' (qn M) ∧ st' = qn M :: st ∧ st.length < 3) ∨ (¬ opn M' (qn M) ∧ st' = st)) : PI M' n0 (cn + 1) st' := by
  obtain ⟨p1, ⟨p2, p3, p4⟩, p5, p6, p7, p8, p9, p10, p11, p12, p13⟩ := p
  have n60 : qn M ≤ 60 := by omega
  have eN : qn M' = qn M + 1 := by show ix (M' 6) = _; rw [h6, ix_n (by omega)]
  have fK : ∀ k, k < qn M → kK M' k = kK M k := fun k hk => hr _ (by omega) (by omega)
  have fA : ∀ k, k < qn M → kA M' k = kA M k := fun k hk => hr _ (by omega) (by omega)
  have fB : ∀ k, k < qn M → kB M' k = kB M k := fun k hk => hr _ (by omega) (by omega)
  have fL : ∀ k, k < qn M → kL M' k = kL M k := fun k hk => hr _ (by omega) (by omega)
  have fC : ∀ k, k < qn M → kC M' k = kC M k := fun k hk => hr _ (by omega) (by omega)
  have fl : ∀ k, k < qn M → lk M' k = lk M k := fun k hk => by unfold lk; rw [fL k hk]
  have fO : ∀ k, k < qn M → (opn M' k ↔ opn M k) := fun k hk => opn_cg (fK k hk)
  have fc : ∀ k, k ≤ qn M → cc M' (cn + 1) k = cc M cn k := fun k hk => by
    unfold cc
    by_cases w : k < qn M
    · rw [if_pos (by omega), if_pos w, fC k w]
    · have : k = qn M := by omega
      rw [if_pos (by omega), if_neg w, this, hC, ix_n (by omega)]
  have fc1 : cc M' (cn + 1) (qn M + 1) = cn + 1 := by unfold cc; rw [if_neg (by omega)]
  have fcn : cc M cn (qn M) = cn := by unfold cc; rw [if_neg (by omega)]
  have hn21 : ¬ kK M' (qn M) = 21 := by
    intro w
    unfold rowOk at hok
    rw [w] at hok
    revert hok; simp
  have hlen : st'.length ≤ st.length + 1 ∧ st'.length ≤ 3 := by
    rcases hst with ⟨_, e, h⟩ | ⟨_, e⟩
    · rw [e, List.length_cons]; omega
    · rw [e]; omega
  have hsub : ∀ o, o ∈ st → o ∈ st' := fun o ho => by rcases hst with ⟨_, e, _⟩ | ⟨_, e⟩ <;> rw [e] <;> simp [ho]
  have hold : ∀ o, o < qn M → o ∈ st' → o ∈ st := fun o ho h => by
    rcases hst with ⟨_, e, _⟩ | ⟨_, e⟩
    · rw [e] at h
      rcases List.mem_cons.mp h with w | w
      · omega
      · exact w
    · rw [e] at h; exact h
  refine ⟨by rw [eN]; exact h6, ⟨?_, by omega, ?_⟩, by rw [fc 0 (by omega)]; exact p5, fun k hk => ?_, fun k hk => ?_, fun o ho => ?_, ?_, fun k hk ho hns => ?_, fun e he h21 => ?_, fun a b hab hb oa ob hns => ?_, fun k hk => ?_⟩
  · rw [eN]; omega
  · exact hlen.2
  · rw [eN] at hk
    by_cases w : k < qn M
    · rw [fC k w, fc k (by omega), fc (k + 1) (by omega), fK k w]; exact p6 k w
    · have : k = qn M := by omega
      rw [this, hC, fc _ (Nat.le_refl _), fc1, fcn, if_neg hn21]; exact ⟨rfl, rfl⟩
  · rw [eN] at hk
    by_cases w : k < qn M
    · rcases p7 k w with q | q
      · exact Or.inl (by rw [fK k w]; exact q)
      · right; unfold rowOk at q ⊢; rw [fK k w, fA k w, fB k w]; exact q
    · have : k = qn M := by omega
      rw [this]; exact Or.inr hok
  · rw [eN]
    by_cases w : o < qn M
    · have := p8 o (hold o w ho)
      exact ⟨by omega, (fO o w).mpr this.2⟩
    · rcases hst with ⟨q, e, _⟩ | ⟨_, e⟩
      · rw [e] at ho
        rcases List.mem_cons.mp ho with u | u
        · rw [u]; exact ⟨by omega, q⟩
        · exact absurd (p8 o u).1 w
      · rw [e] at ho; exact absurd (p8 o ho).1 w
  · rcases hst with ⟨_, e, _⟩ | ⟨_, e⟩ <;> rw [e]
    · exact List.pairwise_cons.mpr ⟨fun a ha => (p8 a ha).1, p9⟩
    · exact p9
  · rw [eN] at hk
    by_cases w : k < qn M
    · obtain ⟨a1, a2, a3, a4, a5⟩ := p10 k w ((fO k w).mp ho) (fun u => hns (hsub k u))
      rw [eN, fl k w, fL k w, fK _ a2, fL _ a2]
      exact ⟨a1, by omega, a3, a4, a5⟩
    · have e : k = qn M := by omega
      rcases hst with ⟨q, e2, _⟩ | ⟨q, _⟩
      · exact absurd (by rw [e2, e]; simp) hns
      · rw [e] at ho; exact absurd ho q
  · rw [eN] at he
    by_cases w : e < qn M
    · rw [fK e w] at h21
      obtain ⟨a1, a2, a3, a4, a5⟩ := p11 e w h21
      rw [fl e w, fL e w, fO _ (by omega), fl _ (by omega)]
      exact ⟨a1, a2, fun u => a3 (hold _ (by omega) u), a4, a5⟩
    · have : e = qn M := by omega
      rw [this] at h21; exact absurd h21 hn21
  · rw [eN] at hb
    have wa : a < qn M := by omega
    rw [fl a wa]
    by_cases w : b < qn M
    · rcases p12 a b hab w ((fO a wa).mp oa) ((fO b w).mp ob) (fun u => hns (hsub a u)) with q | ⟨q1, q2⟩
      · exact Or.inl q
      · right; rw [fl b w]; exact ⟨fun u => q1 (hold b w u), q2⟩
    · left
      have := (p10 a wa ((fO a wa).mp oa) (fun u => hns (hsub a u))).2.1
      omega
  · rw [eN] at hk
    by_cases w : k ≤ qn M
    · obtain ⟨L, l1, l2, l3⟩ := p13 k w
      refine ⟨L, l1, l2, fun o => ?_⟩
      rw [l3 o]
      constructor
      · rintro ⟨b1, b2, b3, b4⟩
        exact ⟨b1, by omega, (fO o b2).mpr b3, by rw [fl o b2]; exact b4.imp (hsub o) id⟩
      · rintro ⟨b1, b2, b3, b4⟩
        have b2' : o < qn M := by omega
        rw [fl o b2'] at b4
        exact ⟨b1, b2', (fO o b2').mp b3, b4.imp (hold o b2') id⟩
    · have ek : k = qn M + 1 := by omega
      refine ⟨st', ?_, ?_, fun o => ?_⟩
      · rcases hst with ⟨_, e, _⟩ | ⟨_, e⟩ <;> rw [e]
        · exact List.pairwise_cons.mpr ⟨fun a ha => (p8 a ha).1, p9⟩
        · exact p9
      · exact hlen.2
      · constructor
        · intro ho
          by_cases w2 : o < qn M
          · have := p8 o (hold o w2 ho)
            exact ⟨by omega, by omega, (fO o w2).mpr this.2, Or.inl ho⟩
          · rcases hst with ⟨q, e, _⟩ | ⟨_, e⟩
            · rw [e] at ho
              rcases List.mem_cons.mp ho with u | u
              · exact ⟨by omega, by omega, by rw [u]; exact q, Or.inl (by rw [e, u]; simp)⟩
              · exact absurd (p8 o u).1 w2
            · rw [e] at ho; exact absurd (p8 o ho).1 w2
        · rintro ⟨b1, b2, b3, b4 | b4⟩
          · exact b4
          · apply Classical.byContradiction
            intro hns
            by_cases w2 : o < qn M
            · have := (p10 o w2 ((fO o w2).mp b3) (fun u => hns (hsub o u))).2.1
              rw [fl o w2] at b4; omega
            · have e : o = qn M := by omega
              rcases hst with ⟨q, e2, _⟩ | ⟨q, _⟩
              · exact hns (by rw [e2, e]; simp)
              · rw [e] at b3; exact q b3
end PIA
