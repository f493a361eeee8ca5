/-! THE REFERENCE'S CALLS cook, cooked, judged -/
def RC2 (h g : TH) : Prop := Sm (fun a => a = 197 ∨ a = 198 ∨ a = 206 ∨ a = 219 ∨ a = 220 ∨ a = 221) h g ∧ (∀ j, j ≠ 2 → j ≠ 25 → (j < 40 ∨ 48 < j) → j ≠ 52 → j ≠ 53 → j ≠ 54 → g.I 197 j = h.I 197 j) ∧ ∀ j, g.I 198 j = h.I 198 j
section MC4
variable {h : TH} {M : Nat → Int32} {cn : Nat} {x : Int32}
theorem lt_m1 (a : x < 0) (b : ¬ x = (-1)) : x < -1 := by
  rw [Int32.lt_iff_toInt_lt] at a ⊢
  have h0 : (0 : Int32).toInt = 0 := rfl
  have h1 : (-1 : Int32).toInt = -1 := rfl
  rw [h0] at a
  rw [h1]
  have : x.toInt ≠ -1 := fun u => b (Int32.toInt_inj.mp (by rw [u, h1]))
  omega
theorem S319 {C : Int32 → TH → Prop} (hw : Wf M) (hM : MA h M) (hp : h.I 198 6 = -1 ∨ (MP h M ∧ PI M (aN M) cn [])) (kb : (x < -1 ∨ ¬ x ≤ 9999) → C (-1) (h.sI 197 2 1)) (kn : h.I 198 6 = -1 → C (-1) (h.sI 197 2 6)) (kt : MP h M → PI M (aN M) cn [] → ∀ g s, (∃ F, prun M cn (drF x) F (st00 x) = some s) → RC2 h g → (∀ j, j ≤ 6 → g.I 221 j = ckT s j) → g.I 197 52 = 1 → g.I 197 2 = 0 → C (ckS s) g) : W319 x h C := by
  have go : B319_23 x h C := by
    unfold B319_23
    rw [show ix 6 = 6 from rfl]
    rcases hp with p | ⟨mp, pi⟩
    · rw [if_neg (fun n => n p)]; exact kn p
    · have n60 := pi.n60
      rw [if_pos (show ¬ h.I 198 6 = (-1) by rw [mp.1, pi.1]; exact nI_ne1 (by omega))]
      refine S318 (x := x) hw hM pi mp (fun g s hs rc rs => ?_)
      obtain ⟨r53, r54, r41, r42, r43, r44, r45, r46, r47⟩ := rs
      intro h2 e2 h3 e3 h4 e4
      rw [show ix 0 = 0 from rfl, show ix 1 = 1 from rfl, r41, I_ne (show (197 : Nat) ≠ 221 by decide), r42] at e2
      have s2 : Sm (fun a => a = 221) g h2 := by rw [e2]; exact Sm.sI (S := fun a => a = 221) (Sm.sI (S := fun a => a = 221) Sm.refl rfl _) rfl _
      have v2 : ∀ j, h2.I 221 j = if j = 1 then nI (ckK s) else if j = 0 then ckW s else g.I 221 j := fun j => by rw [e2, I_at, I_at]
      clear e2
      have e27 : h2.I 197 = g.I 197 := s2.I (by decide)
      rw [show ix 2 = 2 from rfl, show ix 3 = 3 from rfl, I_ne (show (197 : Nat) ≠ 221 by decide), e27, r43, r44] at e3
      have s3 : Sm (fun a => a = 221) h2 h3 := by rw [e3]; exact Sm.sI (S := fun a => a = 221) (Sm.sI (S := fun a => a = 221) Sm.refl rfl _) rfl _
      have v3 : ∀ j, h3.I 221 j = if j = 3 then ckO s else if j = 2 then ckM s else h2.I 221 j := fun j => by rw [e3, I_at, I_at]
      clear e3
      have e37 : h3.I 197 = g.I 197 := by rw [s3.I (by decide), e27]
      rw [show ix 4 = 4 from rfl, show ix 5 = 5 from rfl, I_ne (show (197 : Nat) ≠ 221 by decide), e37, r54, r45] at e4
      have s4 : Sm (fun a => a = 221) h3 h4 := by rw [e4]; exact Sm.sI (S := fun a => a = 221) (Sm.sI (S := fun a => a = 221) Sm.refl rfl _) rfl _
      have v4 : ∀ j, h4.I 221 j = if j = 5 then ckB s else if j = 4 then ckU s else h3.I 221 j := fun j => by rw [e4, I_at, I_at]
      clear e4
      have e47 : h4.I 197 = g.I 197 := by rw [s4.I (by decide), e37]
      rw [e47, r46, I_nk (show (53 : Nat) ≠ 52 by decide), I_ne (show (197 : Nat) ≠ 221 by decide), e47, r53]
      unfold W206
      refine kt mp pi _ s hs ⟨?_, fun j j2 j25 jj j52 j53 j54 => ?_, fun j => ?_⟩ (fun j hj => ?_) (by rw [I_nk (by decide), I_eq]) I_eq
      · exact Sm.sI (S := fun a => a = 197 ∨ a = 198 ∨ a = 206 ∨ a = 219 ∨ a = 220 ∨ a = 221) (Sm.sI (S := fun a => a = 197 ∨ a = 198 ∨ a = 206 ∨ a = 219 ∨ a = 220 ∨ a = 221) (Sm.sI (S := fun a => a = 197 ∨ a = 198 ∨ a = 206 ∨ a = 219 ∨ a = 220 ∨ a = 221) ((rc.1.mono (fun a ha => by omega)).trans (((s2.trans s3).trans s4).mono (fun a ha => by omega))) (by omega) _) (Or.inl rfl) _) (Or.inl rfl) _
      · rw [I_nk j2, I_nk j52, I_ne (by decide), e47]; exact rc.2.1 j j25 (by omega) j53 j54
      · rw [I_ne (by decide), I_ne (by decide), I_ne (by decide), s4.I (by decide), s3.I (by decide), s2.I (by decide)]; exact rc.2.2 j
      · rw [I_ne (by decide), I_ne (by decide), I_at, v4, v3, v2]
        unfold ckT
        rcases (show j = 0 ∨ j = 1 ∨ j = 2 ∨ j = 3 ∨ j = 4 ∨ j = 5 ∨ j = 6 by omega) with rfl | rfl | rfl | rfl | rfl | rfl | rfl <;> rfl
  unfold W319
  by_cases q : x = (-1)
  · rw [if_pos q]; exact go
  · rw [if_neg q]
    refine S215 0 9999 (by omega) (by omega) rfl rfl (fun p _ _ _ => ?_) (fun w => ?_)
    · rw [if_pos (by decide)]; exact go
    · rw [if_neg (fun n => n rfl)]
      refine kb ?_
      rcases w with u | u
      · exact Or.inl (lt_m1 u q)
      · exact Or.inr (Int32.not_le.mpr u)
theorem S321 {C : Int32 → TH → Prop} (hw : Wf M) (hM : MA h M) (hp : h.I 198 6 = -1 ∨ (MP h M ∧ PI M (aN M) cn [])) (kn : h.I 198 6 = -1 → C (-1) (h.sI 197 2 6)) (kt : MP h M → PI M (aN M) cn [] → ∀ g s, (∃ F, prun M cn (drF (-1)) F (st00 (-1)) = some s) → RCo h g → ranS g s → W288 (ckF s) g C) : W321 h C := by
  unfold W321
  rw [show ix 6 = 6 from rfl]
  rcases hp with p | ⟨mp, pi⟩
  · rw [if_neg (fun n => n p)]; exact kn p
  · have n60 := pi.n60
    rw [if_pos (show ¬ h.I 198 6 = (-1) by rw [mp.1, pi.1]; exact nI_ne1 (by omega))]
    refine S318 (x := -1) hw hM pi mp (fun g s hs rc rs => ?_)
    rw [rs.2.2.2.2.2.2.2.2]
    exact kt mp pi g s hs rc rs
theorem S320 {C : Int32 → TH → Prop} (kb : (x < 0 ∨ ¬ x ≤ 6) → C (-1) (h.sI 197 2 1)) (kn : h.I 197 52 = 0 → C (-1) (h.sI 197 2 6)) (kt : ¬ h.I 197 52 = 0 → ∀ j, j ≤ 6 → x = nI j → C (h.I 221 j) (h.sI 197 2 0)) : W320 x h C := by
  unfold W320
  by_cases q : x < 0
  · rw [if_pos q]; exact kb (Or.inl q)
  · rw [if_neg q]
    by_cases q2 : x ≤ 6
    · rw [if_pos q2]
      obtain ⟨j, hj, e⟩ := nI_of2 (n := 6) (M := 6) rfl q q2
      subst e
      by_cases q3 : h.I 197 52 = 0
      · rw [if_neg (fun n => n q3)]; exact kn q3
      · rw [if_pos q3, ix_n (by omega)]
        exact ⟨inb_n (by omega), kt q3 j hj rfl⟩
    · rw [if_neg q2]; exact kb (Or.inr q2)
theorem S187 {C : Int32 → TH → Prop} {s : CK} {dr : Int32} (kb : (x < 0 ∨ ¬ x ≤ 6) → C (-1) (h.sI 0 0 1)) (kn : h.I 0 19 = 0 → C (-1) (h.sI 0 0 6)) (ck : ¬ h.I 0 19 = 0 → CKc h 193 M dr s) (kt : ¬ h.I 0 19 = 0 → ∀ j, j ≤ 6 → x = nI j → C (ckT s j) (h.sI 0 0 0)) : W187 x h C := by
  unfold W187
  by_cases q : x < 0
  · rw [if_pos q]; exact kb (Or.inl q)
  · rw [if_neg q]
    by_cases q2 : x ≤ 6
    · rw [if_pos q2]
      obtain ⟨j, hj, e⟩ := nI_of2 (n := 6) (M := 6) rfl q q2
      subst e
      by_cases q3 : h.I 0 19 = 0
      · rw [if_neg (fun n => n q3)]; exact kn q3
      · rw [if_pos q3]
        exact S29 hj (ck q3) (kt q3 j hj rfl)
    · rw [if_neg q2]; exact kb (Or.inr q2)
end MC4
