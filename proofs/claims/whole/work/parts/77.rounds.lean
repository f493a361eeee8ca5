/-! ROUNDS: what can STAND after r of them -/
def unn (M : Nat → Int32) (x : Int32) : Int32 := setOf (fun o => (List.range (aN M)).any (fun e => bt x e && bt (aNe M e) o)) (aN M)
def out (M : Nat → Int32) (s x : Int32) : Int32 := (s ||| x) &&& ((unn M x &&& oS M) ^^^ (-1))
abbrev rdy (M : Nat → Int32) (s : Int32) (d : Nat) : Prop := bt s d = false ∧ aPa M d = (-1) ∧ aNe M d &&& (s ^^^ (-1)) = 0
def stp (M : Nat → Int32) (Sc : Int32) (P : Nat) (s x : Int32) : Prop := St (aN M) x ∧ sb x Sc ∧ (∀ d, d < aN M → bt x d = true → rdy M s d) ∧ pc x ≤ P ∧ fitB M (bigK M 0) (s ||| x) = true
def Lv (M : Nat → Int32) (Sc : Int32) (P : Nat) : Nat → Int32 → Prop
  | 0, s => s = 0
  | r + 1, s => ∃ s0 x, Lv M Sc P r s0 ∧ (x = 0 ∨ stp M Sc P s0 x) ∧ sb s (out M s0 x)
def LvGo (M : Nat → Int32) (Sc : Int32) (P : Nat) (goal : Int32) (r : Nat) : Prop := ∃ s, Lv M Sc P r s ∧ sb goal s
def Rnd (M : Nat → Int32) (Sc : Int32) (P : Nat) (goal : Int32) (r : Option Nat) : Prop := match r with
  | none => ∀ k, ¬ LvGo M Sc P goal k
  | some r => LvGo M Sc P goal r ∧ ∀ k, k < r → ¬ LvGo M Sc P goal k
section RD
variable {M : Nat → Int32} {Sc s x goal : Int32} {P r : Nat}
theorem bt_unn (hw : Wf M) {o : Nat} : bt (unn M x) o = true ↔ ∃ e, e < aN M ∧ bt x e = true ∧ bt (aNe M e) o = true := by
  have h12 := hw.n12
  unfold unn
  rw [bt_setOf _ _ (by omega), Bool.and_eq_true, decide_eq_true_eq, List.any_eq_true]
  constructor
  · rintro ⟨_, e, e1, e2⟩
    simp only [Bool.and_eq_true] at e2
    exact ⟨e, List.mem_range.mp e1, e2.1, e2.2⟩
  · rintro ⟨e, e1, e2, e3⟩
    have := need_lt hw e1 e3
    exact ⟨by omega, e, List.mem_range.mpr e1, by simp only [Bool.and_eq_true]; exact ⟨e2, e3⟩⟩
theorem unn_St (hw : Wf M) : St (aN M) (unn M x) := St_setOf _ (by have := hw.n12; omega)
theorem out_bt {d : Nat} (hd : d < 32) : bt (out M s x) d = ((bt s d || bt x d) && !(bt (unn M x) d && bt (oS M) d)) := by
  unfold out
  rw [bt_andn hd, bt_or, bt_and]
theorem out_sb : sb (out M s x) (s ||| x) := sb_and _ _
theorem unn_0 (hw : Wf M) : unn M 0 = 0 := by
  refine bt_z.mpr (fun d hd => ?_)
  cases e : bt (unn M 0) d
  · rfl
  · obtain ⟨_, _, q, _⟩ := (bt_unn hw).mp e
    rw [bt_0] at q; exact absurd q (by decide)
theorem out_0 (hw : Wf M) : out M s 0 = s := by
  refine bt_ext (fun d hd => ?_)
  rw [out_bt hd, unn_0 hw, bt_0]
  simp
theorem out_St (hw : Wf M) (hs : St (aN M) s) (hx : St (aN M) x) : St (aN M) (out M s x) := by
  have h12 := hw.n12
  exact St_and _ (St_or hs hx)
theorem sb_St {n : Nat} {a b : Int32} (hn : n ≤ 31) (h : sb a b) (hb : St n b) : St n a := by
  rw [St_bt hn] at hb ⊢
  intro d hd h32
  cases e : bt a d
  · rfl
  · have := h d h32 e
    rw [hb d hd h32] at this; exact absurd this (by decide)
theorem Lv_St (hw : Wf M) : ∀ r s, Lv M Sc P r s → St (aN M) s
  | 0, s, h => by have h : s = 0 := h; rw [h]; exact St_0 _
  | r + 1, s, h => by
    have h12 := hw.n12
    obtain ⟨s0, x, h1, h2, h3⟩ := h
    refine sb_St (by omega) h3 (out_St hw (Lv_St hw r s0 h1) ?_)
    rcases h2 with h2 | h2
    · rw [h2]; exact St_0 _
    · exact h2.1
theorem Lv_up (hw : Wf M) (h : Lv M Sc P r s) : Lv M Sc P (r + 1) s := ⟨s, 0, h, Or.inl rfl, by rw [out_0 hw]; exact sb_refl _⟩
theorem Lv_mono (hw : Wf M) (h : Lv M Sc P r s) : ∀ {k : Nat}, r ≤ k → Lv M Sc P k s := by
  intro k hk
  induction k with
  | zero => rw [show r = 0 by omega] at h; exact h
  | succ k ih =>
    rcases Nat.lt_or_ge r (k + 1) with z | z
    · exact Lv_up hw (ih (by omega))
    · rw [show r = k + 1 by omega] at h; exact h
theorem Lv_sub {s' : Int32} (h : Lv M Sc P r s) (hs : sb s' s) : Lv M Sc P r s' := by
  cases r with
  | zero =>
    have h : s = 0 := h
    rw [h] at hs
    exact sb_anti hs (sb_zero _)
  | succ r =>
    obtain ⟨s0, x, h1, h2, h3⟩ := h
    exact ⟨s0, x, h1, h2, sb_trans hs h3⟩
theorem Lv_step (h : Lv M Sc P r s) (hx : stp M Sc P s x) : Lv M Sc P (r + 1) (out M s x) := ⟨s, x, h, Or.inr hx, sb_refl _⟩
/-- no more comes, once nothing more came -/
theorem Lv_fix (hw : Wf M) (h : ∀ s, Lv M Sc P (r + 1) s → Lv M Sc P r s) : ∀ k s, Lv M Sc P (r + k) s → Lv M Sc P r s
  | 0, _, q => q
  | k + 1, s, q => by
    obtain ⟨s0, x, h1, h2, h3⟩ := q
    exact h s ⟨s0, x, Lv_fix hw h k s0 h1, h2, h3⟩
theorem LvGo_up (hw : Wf M) {k : Nat} (h : LvGo M Sc P goal r) (hk : r ≤ k) : LvGo M Sc P goal k := by
  obtain ⟨s, h1, h2⟩ := h
  exact ⟨s, Lv_mono hw h1 hk, h2⟩
theorem LvGo_step (hn : ¬ LvGo M Sc P goal r) (hw : Wf M) : LvGo M Sc P goal (r + 1) ↔ ∃ s x, Lv M Sc P r s ∧ stp M Sc P s x ∧ sb goal (out M s x) := by
  constructor
  · rintro ⟨s, ⟨s0, x, h1, h2, h3⟩, h4⟩
    rcases h2 with h2 | h2
    · rw [h2, out_0 hw] at h3
      exact absurd ⟨s0, h1, sb_trans h4 h3⟩ hn
    · exact ⟨s0, x, h1, h2, sb_trans h4 h3⟩
  · rintro ⟨s, x, h1, h2, h3⟩
    exact ⟨_, Lv_step h1 h2, h3⟩
theorem Rnd_one {q q' : Option Nat} (h : Rnd M Sc P goal q) (h' : Rnd M Sc P goal q') : q = q' := by
  cases q with
  | none =>
    cases q' with
    | none => rfl
    | some p => exact absurd h'.1 (h p)
  | some p =>
    cases q' with
    | none => exact absurd h.1 (h' p)
    | some k =>
      rcases Nat.lt_trichotomy p k with z | z | z
      · exact absurd h.1 (h'.2 p z)
      · rw [z]
      · exact absurd h'.1 (h.2 k z)
/-- all DISHES, or those that are needed: it comes to the same -/
theorem Lv_cut (hw : Wf M) (hc : clo M Sc) : ∀ r s, Lv M (-1) P r s → Lv M Sc P r (s &&& Sc)
  | 0, s, h => by have h : s = 0 := h; rw [h]; exact Int32.zero_and
  | r + 1, s, h => by
    have h12 := hw.n12
    obtain ⟨s0, x, h1, h2, h3⟩ := h
    have i1 := Lv_cut hw hc r s0 h1
    have sx : St (aN M) x := by
      rcases h2 with h2 | h2
      · rw [h2]; exact St_0 _
      · exact h2.1
    refine ⟨s0 &&& Sc, x &&& Sc, i1, ?_, fun d hd q => ?_⟩
    · rcases h2 with h2 | ⟨a1, a2, a3, a4, a5⟩
      · left; rw [h2]; exact Int32.zero_and
      · right
        refine ⟨St_and _ a1, fun d hd q => ?_, fun d hd q => ?_, ?_, ?_⟩
        · rw [bt_and] at q
          simp only [Bool.and_eq_true] at q
          exact q.2
        · rw [bt_and] at q
          simp only [Bool.and_eq_true] at q
          obtain ⟨b1, b2, b3⟩ := a3 d hd q.1
          refine ⟨by rw [bt_and, b1]; rfl, b2, ?_⟩
          rw [bt_sub] at b3 ⊢
          intro o ho w
          rw [bt_and, b3 o ho w, (hc d hd q.2).2 o ho w]; rfl
        · exact Nat.le_trans (pc_sb (sb_and _ _)) a4
        · refine fit_mono (fun d hd q => ?_) a5
          rw [bt_or, bt_and, bt_and] at q
          rw [bt_or]
          simp only [Bool.or_eq_true, Bool.and_eq_true] at q ⊢
          exact q.elim (fun z => Or.inl z.1) (fun z => Or.inr z.1)
    · rw [bt_and] at q
      simp only [Bool.and_eq_true] at q
      have := h3 d hd q.1
      rw [out_bt hd] at this ⊢
      simp only [Bool.and_eq_true, Bool.or_eq_true, Bool.not_eq_true', bt_and] at this ⊢
      refine ⟨this.1.elim (fun z => Or.inl ⟨z, q.2⟩) (fun z => Or.inr ⟨z, q.2⟩), ?_⟩
      rw [Bool.and_eq_false_iff]
      rcases Bool.and_eq_false_iff.mp this.2 with z | z
      · left
        cases e : bt (unn M (x &&& Sc)) d
        · rfl
        · obtain ⟨e', w1, w2, w3⟩ := (bt_unn hw).mp e
          rw [bt_and] at w2
          simp only [Bool.and_eq_true] at w2
          rw [(bt_unn hw).mpr ⟨e', w1, w2.1, w3⟩] at z
          exact absurd z (by decide)
      · exact Or.inr z
theorem Lv_all : ∀ r s, Lv M Sc P r s → Lv M (-1) P r s
  | 0, _, h => h
  | r + 1, s, h => by
    obtain ⟨s0, x, h1, h2, h3⟩ := h
    refine ⟨s0, x, Lv_all r s0 h1, h2.imp id (fun q => ⟨q.1, fun d hd _ => bt_m1 d hd, q.2.2⟩), h3⟩
theorem LvGo_cut (hw : Wf M) (hc : clo M Sc) (hg : sb goal Sc) : LvGo M Sc P goal r ↔ LvGo M (-1) P goal r := by
  constructor
  · rintro ⟨s, h1, h2⟩; exact ⟨s, Lv_all r s h1, h2⟩
  · rintro ⟨s, h1, h2⟩
    refine ⟨s &&& Sc, Lv_cut hw hc r s h1, fun d hd q => ?_⟩
    rw [bt_and, h2 d hd q, hg d hd q]; rfl
/-- whatever STANDS was made of what can be made -/
theorem Lv_made (hw : Wf M) : ∀ r s, Lv M Sc P r s → (fitB M (bigK M 0) s = true ∧ ∃ b, St (aN M) b ∧ clo M b ∧ sb s b ∧ ∀ d, d < aN M → bt b d = true → aPa M d = (-1) ∧ fitB M (bigK M 0) (aNe M d ||| ishl 1 (nI d)) = true)
  | 0, s, h => by
    have h : s = 0 := h
    subst h
    refine ⟨?_, 0, St_0 _, fun d _ q => by rw [bt_0] at q; exact absurd q (by decide), sb_zero _, fun d _ q => by rw [bt_0] at q; exact absurd q (by decide)⟩
    rw [fitB_iff]
    intro z _ _
    have : fcnt M 0 z = 0 := by
      unfold fcnt
      refine fb_ct_zero.mpr (fun k _ => ?_)
      rw [bt_0]; rfl
    omega
  | r + 1, s, h => by
    have h12 := hw.n12
    obtain ⟨s0, x, h1, h2, h3⟩ := h
    obtain ⟨f0, b, b1, b2, b3, b4⟩ := Lv_made hw r s0 h1
    rcases h2 with h2 | ⟨a1, a2, a3, a4, a5⟩
    · rw [h2, out_0 hw] at h3
      exact ⟨fit_mono (fun d hd q => h3 d (by omega) q) f0, b, b1, b2, sb_trans h3 b3, b4⟩
    · refine ⟨fit_mono (fun d hd q => (sb_trans h3 out_sb) d (by omega) q) a5, b ||| x, St_or b1 a1, fun d hd q => ?_, sb_trans h3 (sb_trans out_sb (sb_or (sb_trans b3 (sb_or_l _ _)) (sb_or_r _ _))), fun d hd q => ?_⟩
      · rw [bt_or, Bool.or_eq_true] at q
        rcases q with q | q
        · exact ⟨sb_trans (b2 d hd q).1 (sb_or_l _ _), sb_trans (b2 d hd q).2 (sb_or_l _ _)⟩
        · obtain ⟨c1, c2, c3⟩ := a3 d hd q
          refine ⟨?_, sb_trans (sb_trans (bt_sub.mp c3) b3) (sb_or_l _ _)⟩
          rw [gP_alone c2]
          intro e he w
          rw [bt_bit (by omega), decide_eq_true_eq] at w
          rw [w, bt_or, q, Bool.or_true]
      · rw [bt_or, Bool.or_eq_true] at q
        rcases q with q | q
        · exact b4 d hd q
        · obtain ⟨c1, c2, c3⟩ := a3 d hd q
          refine ⟨c2, fit_mono (fun e he w => ?_) a5⟩
          rw [bt_or, Bool.or_eq_true] at w ⊢
          rcases w with w | w
          · exact Or.inl (bt_sub.mp c3 e (by omega) w)
          · rw [bt_bit (by omega), decide_eq_true_eq] at w
            rw [w]; exact Or.inr q
theorem LvGo_made (hw : Wf M) (h : LvGo M Sc P goal r) {a : Int32} (ha : Clo M goal a) : fitB M (bigK M 0) goal = true ∧ ∀ d, d < aN M → bt a d = true → aPa M d = (-1) ∧ fitB M (bigK M 0) (aNe M d ||| ishl 1 (nI d)) = true := by
  have h12 := hw.n12
  obtain ⟨s, h1, h2⟩ := h
  obtain ⟨f, b, b1, b2, b3, b4⟩ := Lv_made hw r s h1
  refine ⟨fit_mono (fun d hd q => h2 d (by omega) q) f, fun d hd q => b4 d hd (ha.2.2.2 b b1 (sb_trans h2 b3) b2 d (by omega) q)⟩
end RD
