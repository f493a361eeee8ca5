/-! COOKING: one act of the reference -/
section BUR
variable {h : TH} {M : Nat → Int32} {S U W dr x bu T L : Int32} {d f a b w k : Nat} {A : Nat → Nat}
theorem bt_buS {e : Nat} (hd : d < 32) (he : e < 32) : bt (buS M dr x S d) e = true ↔ bt S e = true ∧ ¬ (e = d ∧ brn M dr x d) := by
  unfold buS
  by_cases q : brn M dr x d
  · rw [if_pos q, bt_nob hd he]; simp [q]
  · rw [if_neg q]; exact ⟨fun u => ⟨u, fun v => q v.2⟩, fun u => u.1⟩
theorem beq_of {p q : Bool} (h : p = true ↔ q = true) : p = q := by cases p <;> cases q <;> simp_all
theorem bu_ar (hd : d < 32) (hT : ∀ e, e < 32 → (bt T e = true ↔ bt L e = true ∨ e = d)) (hL : bt L d = false) : buS M dr x T d = arS M dr x L d := by
  refine bt_ext (fun e he => beq_of ?_)
  rw [bt_buS hd he, bt_arS hd, hT e he]
  constructor
  · rintro ⟨u | u, v⟩
    · exact Or.inl u
    · exact Or.inr ⟨u, fun y => v ⟨u, y⟩⟩
  · rintro (u | ⟨u, v⟩)
    · exact ⟨Or.inl u, fun y => by rw [y.1, hL] at u; exact absurd u (by decide)⟩
    · exact ⟨Or.inr u, fun y => v y.2⟩
theorem bu_ar2 (hd : d < 32) (hdf : d ≠ f) (hT : ∀ e, e < 32 → (bt T e = true ↔ bt L e = true ∨ e = d ∨ e = f)) (hL : bt L d = false) : ∀ e, e < 32 → (bt (buS M dr x T d) e = true ↔ bt (arS M dr x L d) e = true ∨ e = f) := by
  intro e he
  rw [bt_buS hd he, bt_arS hd, hT e he]
  constructor
  · rintro ⟨u | u | u, v⟩
    · exact Or.inl (Or.inl u)
    · exact Or.inl (Or.inr ⟨u, fun y => v ⟨u, y⟩⟩)
    · exact Or.inr u
  · rintro ((u | ⟨u, v⟩) | u)
    · exact ⟨Or.inl u, fun y => by rw [y.1, hL] at u; exact absurd u (by decide)⟩
    · exact ⟨Or.inr (Or.inl u), fun y => v y.2⟩
    · exact ⟨Or.inr (Or.inr u), fun y => hdf (y.1.symm.trans u)⟩
theorem gP_mem (hw : Wf M) (hd : d < aN M) {e : Nat} : bt (gP M d) e = true ↔ e = d ∨ (¬ aPa M d = (-1) ∧ (e = loD M d ∨ e = hiD M d)) := by
  have h12 := hw.n12
  rcases lohi hw hd with ⟨pa, lo⟩ | ⟨npa, l1, l2, l3, l4, l5⟩
  · rw [gP_alone pa, bt_bit (by omega)]; simp [pa]
  · rcases l5 with ⟨u, v⟩ | ⟨u, v⟩
    · rw [gP_pair v (by omega), bt_or, bt_bit (by omega), bt_bit (by omega)]
      simp only [Bool.or_eq_true, decide_eq_true_eq]
      rw [u]
      exact ⟨fun y => y.elim Or.inl (fun y => Or.inr ⟨npa, Or.inr y⟩), fun y => y.elim Or.inl (fun y => y.2)⟩
    · rw [gP_pair v (by omega), bt_or, bt_bit (by omega), bt_bit (by omega)]
      simp only [Bool.or_eq_true, decide_eq_true_eq]
      rw [u]
      exact ⟨fun y => y.elim Or.inl (fun y => Or.inr ⟨npa, Or.inl y⟩), fun y => y.elim Or.inl (fun y => y.2.elim Or.inr Or.inl)⟩
theorem lv_no (hw : Wf M) (hd : d < aN M) (q : S &&& gP M d = 0) {e : Nat} (he : e < 32) (g : bt (gP M d) e = true) : bt (lvS M S d) e = false := by
  unfold lvS
  cases u : bt S e with
  | false => rw [bt_and, u]; rfl
  | true => have := bt_dis.mp q e he u; rw [g] at this; exact absurd this (by decide)
theorem bt_mkS (hw : Wf M) (hd : d < aN M) {e : Nat} : bt (mkS M dr x S d) e = true → bt (lvS M S d) e = true ∨ bt (gP M d) e = true := by
  have h12 := hw.n12
  intro u
  unfold mkS at u
  rcases lohi hw hd with ⟨pa, lo⟩ | ⟨npa, l1, l2, l3, l4, l5⟩
  · rw [if_pos pa] at u
    rcases (bt_arS (by omega)).mp u with y | y
    · exact Or.inl y
    · exact Or.inr ((gP_mem hw hd).mpr (Or.inl y.1))
  · rw [if_neg npa] at u
    rcases (bt_arS (by omega)).mp u with y | y
    · rcases (bt_arS (by omega)).mp y with y | y
      · exact Or.inl y
      · exact Or.inr ((gP_mem hw hd).mpr (Or.inr ⟨npa, Or.inl y.1⟩))
    · exact Or.inr ((gP_mem hw hd).mpr (Or.inr ⟨npa, Or.inr y.1⟩))
theorem lv_mkS (hw : Wf M) (hd : d < aN M) {e : Nat} (u : bt (lvS M S d) e = true) : bt (mkS M dr x S d) e = true := by
  have h12 := hw.n12
  unfold mkS
  rcases lohi hw hd with ⟨pa, lo⟩ | ⟨npa, l1, l2, l3, l4, l5⟩
  · rw [if_pos pa]; exact (bt_arS (by omega)).mpr (Or.inl u)
  · rw [if_neg npa]; exact (bt_arS (by omega)).mpr (Or.inl ((bt_arS (by omega)).mpr (Or.inl u)))
theorem St_mkS (hw : Wf M) (hd : d < aN M) (sS : St (aN M) S) : St (aN M) (mkS M dr x S d) := by
  have h12 := hw.n12
  unfold mkS
  rcases lohi hw hd with ⟨pa, lo⟩ | ⟨npa, l1, l2, l3, l4, l5⟩
  · rw [if_pos pa]; exact St_arS hd (by omega) (St_and _ sS (by omega))
  · rw [if_neg npa]; exact St_arS l2 (by omega) (St_arS l1 (by omega) (St_and _ sS (by omega)))
/-- what an act comes to is well told -/
theorem act_ok (hw : Wf M) (ha : a < aN M) (hb : w = 11 → b < aN M) (sS : St (aN M) S) (sU : St (aN M) U) (hU : sb U S) {r : Int32 × Int32 × Int32 × Int32 × Int32} (e : actR M dr x bu S U w a b = some r) : St (aN M) r.1 ∧ St (aN M) r.2.1 ∧ sb r.2.1 r.1 ∧ ∀ e, e < 32 → bt r.1 e = true → bt r.2.1 e = false → bt S e = true → bt U e = false := by
  have h12 := hw.n12
  unfold actR at e
  split at e
  · split at e
    · rename_i q0 q
      rw [← Option.some.inj e]
      refine ⟨St_mkS hw ha sS, St_and _ sU (by omega), fun y hy u => lv_mkS hw ha ?_, fun y hy u1 u2 u3 => ?_⟩
      · show bt (lvS M S a) y = true
        have u' : bt (lvS M U a) y = true := u
        unfold lvS at u' ⊢
        rw [bt_and] at u' ⊢
        simp only [Bool.and_eq_true] at u' ⊢
        exact ⟨hU y hy u'.1, u'.2⟩
      · have y1 : bt (lvS M S a) y = true := by
          rcases bt_mkS hw ha u1 with v | v
          · exact v
          · have := bt_dis.mp q.1 y hy u3; rw [v] at this; exact absurd this (by decide)
        have u2' : bt (lvS M U a) y = false := u2
        unfold lvS at y1 u2'
        rw [bt_and, bt_not _ hy] at y1 u2'
        simp only [Bool.and_eq_true] at y1
        rw [y1.2] at u2'
        simpa using u2'
    · cases e
  · split at e
    · split at e
      · rename_i q0 q1 q
        rw [← Option.some.inj e]
        refine ⟨St_arS ha (by omega) (St_and _ sS (by omega)), St_and _ sU (by omega), fun y hy u => (bt_arS (by omega)).mpr (Or.inl ?_), fun y hy u1 u2 u3 => ?_⟩
        · have u' : bt (lvP M U a b) y = true := u
          unfold lvP at u' ⊢
          rw [bt_and] at u' ⊢
          simp only [Bool.and_eq_true] at u' ⊢
          exact ⟨hU y hy u'.1, u'.2⟩
        · have y1 : bt (lvP M S a b) y = true := by
            rcases (bt_arS (by omega)).mp u1 with v | v
            · exact v
            · rw [v.1, q.2.2.1] at u3; exact absurd u3 (by decide)
          have u2' : bt (lvP M U a b) y = false := u2
          unfold lvP at y1 u2'
          rw [bt_and, bt_not _ hy] at y1 u2'
          simp only [Bool.and_eq_true] at y1
          rw [y1.2] at u2'
          simpa using u2'
      · cases e
    · have nobs : St (aN M) (nob S a) ∧ St (aN M) (nob U a) ∧ sb (nob U a) (nob S a) ∧ ∀ e, e < 32 → bt (nob S a) e = true → bt (nob U a) e = false → bt S e = true → bt U e = false := by
        refine ⟨St_and _ sS (by omega), St_and _ sU (by omega), fun y hy u => ?_, sub_nob (by omega)⟩
        rw [bt_nob (by omega) hy] at u ⊢
        simp only [Bool.and_eq_true] at u ⊢
        exact ⟨hU y hy u.1, u.2⟩
      split at e
      · split at e
        · rw [← Option.some.inj e]; exact nobs
        · cases e
      · split at e
        · split at e
          · rw [← Option.some.inj e]
            refine ⟨St_or sS (St_bit ha (by omega)) (by omega), St_or sU (St_bit ha (by omega)) (by omega), fun y hy u => ?_, fun y hy u1 u2 u3 => ?_⟩
            · have u' : bt (U ||| ishl 1 (nI a)) y = true := u
              show bt (S ||| ishl 1 (nI a)) y = true
              rw [bt_or] at u' ⊢
              simp only [Bool.or_eq_true] at u' ⊢
              exact u'.imp (hU y hy) id
            · have u2' : bt (U ||| ishl 1 (nI a)) y = false := u2
              rw [bt_or] at u2'
              simp only [Bool.or_eq_false_iff] at u2'
              exact u2'.1
          · cases e
        · split at e
          · rw [← Option.some.inj e]; exact nobs
          · cases e
end BUR
