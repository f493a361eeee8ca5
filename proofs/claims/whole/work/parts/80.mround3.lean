/-! ROUNDS, at the reference: all states -/
theorem sub_closed {n : Nat} (hn : n ≤ 12) {Q : Int32 → Prop} (hQ : ∀ s, St n s → Q s → ∀ d, d < n → Q (s &&& (ishl 1 (nI d) ^^^ (-1)))) : ∀ k s s', pc s ≤ k → St n s → Q s → sb s' s → Q s' := by
  intro k
  induction k with
  | zero =>
    intro s s' hk hs h hsb
    have e : s = 0 := by
      refine bt_z.mpr (fun d hd => ?_)
      cases e : bt s d
      · rfl
      · exfalso
        have d1 := St_d hn hs hd e
        have := fb_ct_pos (p := bt s) (n := 12) |>.mpr ⟨d, by omega, e⟩
        unfold pc at hk
        omega
    have : s' = s := sb_anti hsb (by rw [e]; exact sb_zero _)
    rw [this]; exact h
  | succ k ih =>
    intro s s' hk hs h hsb
    by_cases e : s' = s
    · rw [e]; exact h
    · have : ∃ d, d < 32 ∧ bt s d = true ∧ bt s' d = false := by
        refine Classical.byContradiction (fun q => e (sb_anti hsb (fun d hd z => ?_)))
        cases e2 : bt s' d
        · exact absurd ⟨d, hd, z, e2⟩ q
        · rfl
      obtain ⟨d, hd, e1, e2⟩ := this
      have d1 := St_d hn hs hd e1
      have l : pc (s &&& (ishl 1 (nI d) ^^^ (-1))) < pc s := by
        refine pc_lt (sb_and _ _) (St_mono hs hn) (fun q => ?_)
        have : bt (s &&& (ishl 1 (nI d) ^^^ (-1))) d = true := by rw [q]; exact e1
        rw [bt_andn hd, bt_bit hd] at this
        simp at this
      refine ih _ s' (by omega) (St_and _ hs) (hQ s hs h d d1) (fun x hx z => ?_)
      rw [bt_andn hx, bt_bit hd, hsb x hx z]
      by_cases e3 : x = d
      · rw [e3] at z; rw [z] at e2; exact absurd e2 (by decide)
      · simp [e3]
def in217 (a : Nat) : Prop := a = 217 ∨ a = 218
def is01 (h : TH) (a n : Nat) : Prop := ∀ w, w < 2 ^ n → h.I a w = 0 ∨ h.I a w = 1
section MRG
variable {h h0 : TH} {M : Nat → Int32} {goal : Int32} {P : Nat}
theorem and01 {v : Int32} (h : v = 0 ∨ v = 1) : v &&& 1 = v := by
  rcases h with h | h <;> rw [h] <;> decide
/-- one row into the other -/
theorem S309c {C : Int32 → TH → Prop} {X120 : Int32 × Int32 × TH → Prop} {a1 a2 x3 x4 : Int32} (hw : Wf M) (hM : MA h M) (h01 : is01 h 217 (aN M)) (kk : ∀ g, Sm (fun a => a = 218) h g → (∀ w, w < 2 ^ aN M → g.I 218 w = h.I 217 w) → B309_161 a1 a2 x3 x4 0 g C X120) : B309_129 a1 a2 x3 x4 0 h C X120 := by
  have h12 := hw.n12
  have p12 := pow12 h12
  unfold B309_129
  refine LFP.up (2 ^ aN M) (fun j z => z.1 = nI j ∧ Sm (fun a => a = 218) h z.2 ∧ ∀ w, w < j → z.2.I 218 w = h.I 217 w) ?_ ?_ (Nat.zero_le _) ⟨rfl, Sm.refl, fun w hw => absurd hw (Nat.not_lt_zero _)⟩
  · rintro X j ⟨x5, g⟩ hj ⟨e1, e2, e3⟩ ih
    (try dsimp only at e1 e2 e3)
    subst e1
    unfold F309_129
    (try dsimp only)
    refine S248 hw (hM.sm e2 (by omega)) ?_
    rw [if_neg (nI_ge hj (by omega)), ix_n (by omega), e2.I (by omega), and01 (h01 j hj)]
    refine ⟨inb_n (by omega), inb_n (by omega), ih _ ⟨nI_1 j, Sm.sI (S := fun a => a = 218) e2 rfl _, fun w hw' => ?_⟩⟩
    (try dsimp only)
    rw [I_at]
    by_cases q : w = j
    · rw [if_pos q, q]
    · rw [if_neg q]; exact e3 w (by omega)
  · rintro X ⟨x5, g⟩ ⟨e1, e2, e3⟩
    (try dsimp only at e1 e2 e3)
    subst e1
    unfold F309_129
    (try dsimp only)
    refine S248 hw (hM.sm e2 (by omega)) ?_
    rw [if_pos (nI_le (Nat.le_refl _) (by omega))]
    exact kk g e2 e3
theorem S309n {C : Int32 → TH → Prop} {X120 : Int32 × Int32 × TH → Prop} {a1 a2 x3 x4 : Int32} (hw : Wf M) (hM : MA h M) (h01 : is01 h 218 (aN M)) (kk : ∀ g, Sm (fun a => a = 217) h g → (∀ w, w < 2 ^ aN M → g.I 217 w = h.I 218 w) → X120 (x3, x4 + 1, g)) : B309_301 a1 a2 x3 x4 0 h C X120 := by
  have h12 := hw.n12
  have p12 := pow12 h12
  unfold B309_301
  refine LFP.up (2 ^ aN M) (fun j z => z.1 = nI j ∧ Sm (fun a => a = 217) h z.2 ∧ ∀ w, w < j → z.2.I 217 w = h.I 218 w) ?_ ?_ (Nat.zero_le _) ⟨rfl, Sm.refl, fun w hw => absurd hw (Nat.not_lt_zero _)⟩
  · rintro X j ⟨x5, g⟩ hj ⟨e1, e2, e3⟩ ih
    (try dsimp only at e1 e2 e3)
    subst e1
    unfold F309_301
    (try dsimp only)
    refine S248 hw (hM.sm e2 (by omega)) ?_
    rw [if_neg (nI_ge hj (by omega)), ix_n (by omega), e2.I (by omega), and01 (h01 j hj)]
    refine ⟨inb_n (by omega), inb_n (by omega), ih _ ⟨nI_1 j, Sm.sI (S := fun a => a = 217) e2 rfl _, fun w hw' => ?_⟩⟩
    (try dsimp only)
    rw [I_at]
    by_cases q : w = j
    · rw [if_pos q, q]
    · rw [if_neg q]; exact e3 w (by omega)
  · rintro X ⟨x5, g⟩ ⟨e1, e2, e3⟩
    (try dsimp only at e1 e2 e3)
    subst e1
    unfold F309_301
    (try dsimp only)
    refine S248 hw (hM.sm e2 (by omega)) ?_
    rw [if_pos (nI_le (Nat.le_refl _) (by omega))]
    exact kk g e2 e3
/-- a round from each state -/
theorem S309s {C : Int32 → TH → Prop} {X120 : Int32 × Int32 × TH → Prop} {a2 x3 x4 : Int32} {Q : Int32 → Prop} (hw : Wf M) (hM : MA h M) (hf : MFit h M (bigK M 0)) (hP : a2 = nI P) (hP4 : P ≤ 12) (h01 : is01 h 217 (aN M)) (hQ : ∀ w, w < 2 ^ aN M → (h.I 217 w = 1 ↔ Q (nI w))) (h218 : ∀ w, w < 2 ^ aN M → h.I 218 w = h.I 217 w) (kt : ∀ g s x, Sm (fun a => a = 218) h g → St (aN M) s → Q s → stp M (-1) P s x → sb goal (out M s x) → C x4 (g.sI 197 2 0)) (kf : ∀ g, Sm (fun a => a = 218) h g → is01 g 218 (aN M) → (∀ w, w < 2 ^ aN M → (g.I 218 w = 1 ↔ Q (nI w) ∨ ∃ s x, St (aN M) s ∧ Q s ∧ ¬ x = 0 ∧ stp M (-1) P s x ∧ out M s x = nI w)) → (∀ s x, St (aN M) s → Q s → ¬ x = 0 → stp M (-1) P s x → ¬ sb goal (out M s x)) → B309_212 goal a2 x4 x3 (nI (2 ^ aN M) - 1) g C X120) : B309_161 goal a2 x3 x4 0 h C X120 := by
  have h12 := hw.n12
  have p12 := pow12 h12
  unfold B309_161
  refine LFP.up (2 ^ aN M) (fun j z => z.1 = nI j ∧ Sm (fun a => a = 218) h z.2 ∧ is01 z.2 218 (aN M) ∧ (∀ w, w < 2 ^ aN M → (z.2.I 218 w = 1 ↔ Q (nI w) ∨ ∃ u x, u < j ∧ Q (nI u) ∧ ¬ x = 0 ∧ stp M (-1) P (nI u) x ∧ out M (nI u) x = nI w)) ∧ (∀ u x, u < j → Q (nI u) → ¬ x = 0 → stp M (-1) P (nI u) x → ¬ sb goal (out M (nI u) x))) ?_ ?_ (Nat.zero_le _) ⟨rfl, Sm.refl, fun w hw' => by (try dsimp only); rw [h218 w hw']; exact h01 w hw', fun w hw' => by (try dsimp only); rw [h218 w hw', hQ w hw']; exact ⟨Or.inl, fun q => q.elim id (fun ⟨u, x, hu, _⟩ => absurd hu (Nat.not_lt_zero _))⟩, fun u x hu => absurd hu (Nat.not_lt_zero _)⟩
  · rintro X j ⟨x5, g⟩ hj ⟨e1, e2, e3, e4, e5⟩ ih
    (try dsimp only at e1 e2 e3 e4)
    subst e1
    have hM1 := hM.sm e2 (by omega)
    have jS : St (aN M) (nI j) := ⟨j, hj, rfl⟩
    unfold F309_161
    (try dsimp only)
    refine S248 hw hM1 ?_
    rw [if_neg (nI_ge hj (by omega)), ix_n (by omega), e2.I (by omega)]
    refine ⟨inb_n (by omega), ?_⟩
    rcases h01 j hj with z | z
    · rw [if_pos z]
      have nq : ¬ Q (nI j) := fun q => by rw [(hQ j hj).mpr q] at z; exact absurd z (by decide)
      refine ih _ ⟨nI_1 j, e2, e3, fun w hw' => (e4 w hw').trans ?_, fun u x hu q => ?_⟩
      · constructor
        · rintro (q | ⟨u, x, q1, q2⟩)
          · exact Or.inl q
          · exact Or.inr ⟨u, x, by omega, q2⟩
        · rintro (q | ⟨u, x, q1, q2⟩)
          · exact Or.inl q
          · rcases Nat.lt_or_ge u j with y | y
            · exact Or.inr ⟨u, x, y, q2⟩
            · rw [show u = j by omega] at q2; exact absurd q2.1 nq
      · rcases Nat.lt_or_ge u j with y | y
        · exact e5 u x y q
        · rw [show u = j by omega] at q; exact absurd q nq
    · rw [if_neg (by rw [z]; decide)]
      have yq : Q (nI j) := (hQ j hj).mp z
      refine S308 hw hM1 (hf.sm e2 (by omega)) jS hP hP4 e3 (fun g' v l1 l2 l3 l4 l5 => ?_)
      rcases l4 with l4 | l4
      · rw [if_pos l4]
        have nov : ¬ ∃ x, ¬ x = 0 ∧ stp M (-1) P (nI j) x ∧ sb goal (out M (nI j) x) := fun q => by rw [l5.mpr q] at l4; exact absurd l4 (by decide)
        refine ih _ ⟨nI_1 j, e2.trans l1, l3, fun w hw' => ?_, fun u x hu q1 q2 q3 q4 => ?_⟩
        · (try dsimp only)
          rw [l2 w hw', e4 w hw']
          constructor
          · rintro ((q | ⟨u, x, q1, q2⟩) | ⟨x, q1, q2, q3⟩)
            · exact Or.inl q
            · exact Or.inr ⟨u, x, by omega, q2⟩
            · refine Or.inr ⟨j, x, by omega, yq, q1, q2, ?_⟩
              rw [← q3]; exact (out_St hw jS q2.1).lt.2.1
          · rintro (q | ⟨u, x, q1, q2, q3, q4, q5⟩)
            · exact Or.inl (Or.inl q)
            · rcases Nat.lt_or_ge u j with y | y
              · exact Or.inl (Or.inr ⟨u, x, y, q2, q3, q4, q5⟩)
              · rw [show u = j by omega] at q4 q5
                exact Or.inr ⟨x, q3, q4, by rw [q5, ix_n (by omega)]⟩
        · rcases Nat.lt_or_ge u j with y | y
          · exact e5 u x y q1 q2 q3 q4
          · rw [show u = j by omega] at q3 q4
            exact nov ⟨x, q2, q3, q4⟩
      · rw [if_neg (by rw [l4]; decide)]
        obtain ⟨x, q1, q2, q3⟩ := l5.mp l4
        exact kt g' (nI j) x (e2.trans l1) jS yq q2 q3
  · rintro X ⟨x5, g⟩ ⟨e1, e2, e3, e4, e5⟩
    (try dsimp only at e1 e2 e3 e4)
    subst e1
    have hM1 := hM.sm e2 (by omega)
    unfold F309_161
    (try dsimp only)
    refine S248 hw hM1 ?_
    rw [if_pos (nI_le (Nat.le_refl _) (by omega))]
    refine S248 hw hM1 ?_
    refine kf g e2 e3 (fun w hw' => (e4 w hw').trans ?_) (fun s x q1 q2 q3 q4 => ?_)
    · constructor
      · rintro (q | ⟨u, x, q1, q2⟩)
        · exact Or.inl q
        · exact Or.inr ⟨nI u, x, ⟨u, q1, rfl⟩, q2⟩
      · rintro (q | ⟨s, x, ⟨u, q1, q2⟩, q3⟩)
        · exact Or.inl q
        · rw [q2] at q3; exact Or.inr ⟨u, x, q1, q3⟩
    · obtain ⟨u, u1, u2⟩ := q1
      subst u2
      exact e5 u x u1 q2 q3 q4
end MRG
