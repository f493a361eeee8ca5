/-! THE RULE OF A TREE: sorted downward, each with its place -/
def Sd (A : Nat → Nat) (S : Nat → Prop) (s pk : Nat → Nat) (k : Nat) : Prop := (∀ j, j < k → S (pk j) ∧ s j = A (pk j)) ∧ (∀ i j, i < j → j < k → pk i ≠ pk j) ∧ (∀ e, S e → ∃ j, j < k ∧ pk j = e) ∧ ∀ i j, i ≤ j → j < k → s j ≤ s i
def rmx (p : Nat) (s : Nat → Nat) : Nat → Nat
  | 0 => p
  | j + 1 => max (rmx p s j) (s j + j)
def isRule (M : Nat → Int32) (d : Nat) (A : Nat → Nat) (v : Nat) : Prop := ∃ s pk k, Sd A (fun o => bt (aNe M d) o = true) s pk k ∧ v = rmx (own M d) s k
def RulF (M : Nat → Int32) : Nat → Nat → Nat → Prop
  | 0, _, _ => False
  | f + 1, d, v => ∃ A, (∀ o, bt (aNe M d) o = true → RulF M f o (A o)) ∧ isRule M d A v
section RU
variable {M : Nat → Int32} {A A' : Nat → Nat} {S : Nat → Prop} {s s' pk pk' : Nat → Nat} {k k' : Nat}
theorem Sd_pos (h : Sd A S s pk k) (h' : Sd A' S s' pk' k') : ∃ f : Nat → Nat, ∀ j, j < k → f j < k' ∧ pk' (f j) = pk j := by
  refine ⟨fun j => if q : j < k then Classical.choose (h'.2.2.1 (pk j) (h.1 j q).1) else 0, fun j hj => ?_⟩
  (try dsimp only)
  rw [dif_pos hj]
  exact Classical.choose_spec (h'.2.2.1 (pk j) (h.1 j hj).1)
theorem Sd_le (h : Sd A S s pk k) (h' : Sd A' S s' pk' k') : k ≤ k' := by
  obtain ⟨f, hf⟩ := Sd_pos h h'
  refine fb_holes k' k f (fun i hi => (hf i hi).1) (fun i j hij hj e => ?_)
  have h1 := (hf i (by omega)).2
  have h2 := (hf j hj).2
  rw [e] at h1
  exact h.2.1 i j hij hj (h1.symm.trans h2)
theorem Sd_up (h : Sd A S s pk k) (h' : Sd A' S s' pk' k') (hA : ∀ e, S e → A e = A' e) {i : Nat} (hi : i < k) : s i ≤ s' i := by
  obtain ⟨f, hf⟩ := Sd_pos h h'
  have ki := Sd_le h h'
  have : ∃ j, j ≤ i ∧ i ≤ f j := by
    refine Classical.byContradiction (fun q => ?_)
    have := fb_holes i (i + 1) f (fun j hj => by
      rcases Nat.lt_or_ge (f j) i with z | z
      · exact z
      · exact absurd ⟨j, by omega, z⟩ q) (fun a b hab hb e => by
      have h1 := (hf a (by omega)).2
      have h2 := (hf b (by omega)).2
      rw [e] at h1
      exact h.2.1 a b hab (by omega) (h1.symm.trans h2))
    omega
  obtain ⟨j, j1, j2⟩ := this
  obtain ⟨f1, f2⟩ := hf j (by omega)
  have e1 : s' (f j) = s j := by
    rw [(h'.1 (f j) f1).2, f2, (h.1 j (by omega)).2]
    exact (hA _ (h.1 j (by omega)).1).symm
  have e2 := h'.2.2.2 i (f j) j2 f1
  have e3 := h.2.2.2 j i j1 hi
  omega
theorem rmx_cong {p : Nat} : ∀ k, (∀ i, i < k → s i = s' i) → rmx p s k = rmx p s' k
  | 0, _ => rfl
  | k + 1, h => by
    show max (rmx p s k) (s k + k) = max (rmx p s' k) (s' k + k)
    rw [rmx_cong k (fun i hi => h i (by omega)), h k (by omega)]
theorem isRule_one {d v v' : Nat} (h : isRule M d A v) (h' : isRule M d A' v') (hA : ∀ e, bt (aNe M d) e = true → A e = A' e) : v = v' := by
  obtain ⟨s, pk, k, h1, h2⟩ := h
  obtain ⟨s', pk', k', h1', h2'⟩ := h'
  have e : k = k' := Nat.le_antisymm (Sd_le h1 h1') (Sd_le h1' h1)
  subst e
  rw [h2, h2']
  exact rmx_cong k (fun i hi => Nat.le_antisymm (Sd_up h1 h1' hA hi) (Sd_up h1' h1 (fun e q => (hA e q).symm) hi))
theorem RulF_one : ∀ f f' d v v', RulF M f d v → RulF M f' d v' → v = v'
  | 0, _, _, _, _, h, _ => absurd h (by unfold RulF; exact id)
  | f + 1, 0, _, _, _, _, h => absurd h (by unfold RulF; exact id)
  | f + 1, f' + 1, d, v, v', h, h' => by
    obtain ⟨A, h1, h2⟩ := h
    obtain ⟨A', h1', h2'⟩ := h'
    exact isRule_one h2 h2' (fun e q => RulF_one f f' e _ _ (h1 e q) (h1' e q))
theorem RulF_up : ∀ f d v, RulF M f d v → RulF M (f + 1) d v
  | 0, _, _, h => absurd h (by unfold RulF; exact id)
  | f + 1, d, v, h => by
    obtain ⟨A, h1, h2⟩ := h
    exact ⟨A, fun o q => RulF_up f o _ (h1 o q), h2⟩
theorem RulF_mono {f d v : Nat} (h : RulF M f d v) : ∀ {f' : Nat}, f ≤ f' → RulF M f' d v := by
  intro f' hf
  induction f' with
  | zero => rw [show f = 0 by omega] at h; exact h
  | succ f' ih =>
    rcases Nat.lt_or_ge f (f' + 1) with z | z
    · exact RulF_up f' d v (ih (by omega))
    · rw [show f = f' + 1 by omega] at h; exact h
/-- by the needs' own rules -/
theorem Rul_mk (hw : Wf M) {d v : Nat} (hd : d < aN M) (hA : ∀ o, bt (aNe M d) o = true → RulF M (o + 1) o (A o)) (h : isRule M d A v) : RulF M (d + 1) d v := by
  refine ⟨A, fun o q => ?_, h⟩
  have := need_lt hw hd q
  exact RulF_mono (hA o q) (by omega)
theorem rmx_le {p b : Nat} : ∀ k, p ≤ b → (∀ i, i < k → s i + i ≤ b) → rmx p s k ≤ b
  | 0, hp, _ => hp
  | k + 1, hp, h => by
    have h1 := rmx_le k hp (fun i hi => h i (by omega))
    have h2 := h k (by omega)
    show max (rmx p s k) (s k + k) ≤ b
    omega
theorem Sd_k12 (h : Sd A S s pk k) {n : Nat} (hS : ∀ e, S e → e < n) : k ≤ n := fb_holes n k pk (fun i hi => hS _ (h.1 i hi).1) h.2.1
theorem RulF_le (hw : Wf M) : ∀ f d v, d < aN M → RulF M f d v → v ≤ 12 * (d + 1)
  | 0, _, _, _, h => absurd h (by unfold RulF; exact id)
  | f + 1, d, v, hd, h => by
    have h12 := hw.n12
    obtain ⟨A, h1, s, pk, k, h2, h3⟩ := h
    rw [h3]
    have ho := own_le hw hd
    have kd := Sd_k12 h2 (fun e q => need_lt hw hd q)
    refine rmx_le k (by omega) (fun i hi => ?_)
    obtain ⟨q1, q2⟩ := h2.1 i hi
    have l1 := need_lt hw hd q1
    have l2 := RulF_le hw f (pk i) _ (by omega) (h1 _ q1)
    rw [q2]
    omega
theorem isRule_0 {d : Nat} (h0 : aNe M d = 0) : isRule M d A (own M d) := by
  refine ⟨fun _ => 0, fun _ => 0, 0, ⟨fun j hj => absurd hj (Nat.not_lt_zero _), fun i j _ hj => absurd hj (Nat.not_lt_zero _), fun e q => ?_, fun i j _ hj => absurd hj (Nat.not_lt_zero _)⟩, rfl⟩
  rw [h0, bt_0] at q
  exact absurd q (by decide)
/-- what is a TREE -/
def isTr (M : Nat → Int32) (a : Int32) : Prop := (∀ d, d < aN M → bt a d = true → aPa M d = (-1) ∧ aOn M d = 0) ∧ ∀ d e o, d < aN M → e < aN M → bt a d = true → bt a e = true → bt (aNe M d) o = true → bt (aNe M e) o = true → d = e
end RU
