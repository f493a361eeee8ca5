/-! THE RULE OF A TREE, at the class -/
def ntz1 (x0 x1 : Int32) : Int32 := if x0 ≤ 4 then x1 + (iushr x0 1) else (x1 + 2) + (iushr (iushr x0 2) 1)
def ntz2 (x0 x1 : Int32) : Int32 := if x0 ≤ 16 then ntz1 x0 x1 else ntz1 (iushr x0 4) (x1 + 4)
def ntz3 (x0 x1 : Int32) : Int32 := if x0 ≤ 256 then ntz2 x0 x1 else ntz2 (iushr x0 8) (x1 + 8)
def ntz (a : Int32) : Int32 := if 0 < ((a ^^^ (-1)) &&& (a - 1)) then (if ((a ^^^ (-1)) &&& (a - 1)) ≤ 65536 then ntz3 ((a ^^^ (-1)) &&& (a - 1)) 1 else ntz3 (iushr ((a ^^^ (-1)) &&& (a - 1)) 16) 17) else ((a ^^^ (-1)) &&& (a - 1)) &&& 32
theorem ntz_all : ∀ a, a < 64 → ∀ b, b < 64 → ¬ 64 * a + b = 0 → (List.range 12).any (fun j => decide (ntz (nI (64 * a + b)) = nI j) && (64 * a + b).testBit j && (List.range j).all (fun i => !(64 * a + b).testBit i)) = true := by decide +kernel
section CTR
variable {h : TH} {M : Nat → Int32} {t : Nat} {A : Nat → Nat} {s : Int32}
theorem ntz_low (hs : St 12 s) (h0 : ¬ s = 0) : ∃ j, j < 12 ∧ ntz s = nI j ∧ bt s j = true ∧ ∀ i, i < j → bt s i = false := by
  obtain ⟨u, hu, rfl⟩ := hs
  have e : u = 64 * (u / 64) + u % 64 := by omega
  have := ntz_all (u / 64) (by omega) (u % 64) (by omega) (by rw [← e]; intro q; exact h0 (by rw [q]; rfl))
  rw [← e, List.any_eq_true] at this
  obtain ⟨j, j1, j2⟩ := this
  simp only [Bool.and_eq_true, decide_eq_true_eq, List.all_eq_true] at j2
  refine ⟨j, List.mem_range.mp j1, j2.1.1, by rw [bt_nI (by omega)]; exact j2.1.2, fun i hi => ?_⟩
  have := j2.2 i (List.mem_range.mpr hi)
  rw [bt_nI (by omega)]
  simpa using this
theorem S326 {C : Int32 → Prop} (k : C (ntz s)) : W326 s h C := by
  have s1 : ∀ x0 x1, C (ntz1 x0 x1) → B326_62 x0 x1 h C := by
    intro x0 x1 q
    unfold ntz1 at q
    unfold B326_62
    split
    · rename_i z; rw [if_pos z] at q; exact q
    · rename_i z; rw [if_neg z] at q; exact q
  have s2 : ∀ x0 x1, C (ntz2 x0 x1) → B326_49 x0 x1 h C := by
    intro x0 x1 q
    unfold ntz2 at q
    unfold B326_49
    split
    · rename_i z; rw [if_pos z] at q; exact s1 _ _ q
    · rename_i z; rw [if_neg z] at q; exact s1 _ _ q
  have s3 : ∀ x0 x1, C (ntz3 x0 x1) → B326_34 x0 x1 h C := by
    intro x0 x1 q
    unfold ntz3 at q
    unfold B326_34
    split
    · rename_i z; rw [if_pos z] at q; exact s2 _ _ q
    · rename_i z; rw [if_neg z] at q; exact s2 _ _ q
  unfold ntz at k
  unfold W326
  by_cases z : 0 < ((s ^^^ (-1)) &&& (s - 1))
  · rw [if_pos z] at k ⊢
    by_cases z2 : ((s ^^^ (-1)) &&& (s - 1)) ≤ 65536
    · rw [if_pos z2] at k ⊢
      exact s3 _ _ k
    · rw [if_neg z2] at k ⊢
      exact s3 _ _ k
  · rw [if_neg z] at k ⊢
    exact k
/-- the greatest of them -/
theorem S74 {C : Int32 → Prop} {a2 : Nat} (hs : St 12 s) (h0 : ¬ s = 0) (hok : ∀ e, e < 12 → okA h a2 100 (nI e)) (hA : ∀ e, bt s e = true → h.I a2 e = nI (A e) ∧ A e < 2 ^ 31) (kk : ∀ g, g < 12 → bt s g = true → (∀ e, bt s e = true → A e ≤ A g) → C (nI g)) : W74 s a2 h C := by
  unfold W74
  refine S326 ?_
  obtain ⟨j0, q1, q2, q3, q4⟩ := ntz_low hs h0
  rw [q2, show irem (nI j0) 12 = nI j0 by rw [show irem (nI j0) 12 = nI (j0 % 12) from pk_rem (d := 12) (by omega) (by omega) (by omega), Nat.mod_eq_of_lt q1]]
  unfold B74_10
  refine LFP.up 12 (fun j z => z.2 = nI j ∧ ∃ g, g < 12 ∧ z.1 = nI g ∧ bt s g = true ∧ ∀ e, e < j → bt s e = true → A e ≤ A g) ?_ ?_ (Nat.le_of_lt q1) ⟨rfl, j0, q1, rfl, q3, fun e he z => by rw [q4 e he] at z; exact absurd z (by decide)⟩
  · rintro X j ⟨x2, x3⟩ hj ⟨e1, g, e2, e3, e4, e5⟩ ih
    (try dsimp only at e1 e3)
    subst e1 e3
    unfold F74_10
    (try dsimp only)
    rw [if_neg (show ¬ (12 : Int32) ≤ nI j from nI_ge (b := 12) hj (by omega))]
    by_cases b : bt s j = true
    · rw [if_neg ((bt_in' (by omega)).mpr b), ix_n (by omega), ix_n (by omega), (hA j b).1, (hA g e4).1]
      refine ⟨hok j hj, hok g e2, ?_⟩
      by_cases z : A j ≤ A g
      · rw [if_pos (nI_le z (hA g e4).2)]
        refine ih _ ⟨nI_1 j, g, e2, rfl, e4, fun e he q => ?_⟩
        rcases Nat.lt_or_ge e j with y | y
        · exact e5 e y q
        · rw [show e = j by omega]; exact z
      · rw [if_neg (nI_ge (by omega) (hA j b).2)]
        refine ih _ ⟨nI_1 j, j, hj, rfl, b, fun e he q => ?_⟩
        rcases Nat.lt_or_ge e j with y | y
        · have := e5 e y q; omega
        · rw [show e = j by omega]; exact Nat.le_refl _
    · rw [if_pos ((bt_in (by omega)).mpr (by simpa using b))]
      refine ih _ ⟨nI_1 j, g, e2, rfl, e4, fun e he q => ?_⟩
      rcases Nat.lt_or_ge e j with y | y
      · exact e5 e y q
      · rw [show e = j by omega] at q; exact absurd q b
  · rintro X ⟨x2, x3⟩ ⟨e1, g, e2, e3, e4, e5⟩
    (try dsimp only at e1 e3)
    subst e1 e3
    unfold F74_10
    (try dsimp only)
    rw [if_pos (show (12 : Int32) ≤ nI 12 from nI_le (Nat.le_refl _) (by omega))]
    refine kk g e2 e4 (fun e q => e5 e ?_ q)
    rcases Nat.lt_or_ge e 32 with z | z
    · exact St_d (Nat.le_refl _) hs z q
    · rw [bt_big _ z] at q; exact absurd q (by decide)
theorem S73 {C : Int32 → Prop} {a2 d : Nat} {x : Int32} (hw : Wf M) (hr : CMr h t M) (hx : x = nI d) (hd : d < aN M) (hok : ∀ e, e < 12 → okA h a2 100 (nI e)) (hA : ∀ e, bt (aNe M d) e = true → h.I a2 e = nI (A e) ∧ A e ≤ 1000) (kk : ∀ v, isRule M d A v → C (nI v)) : W73 t x a2 h C := by
  have h12 := hw.n12
  have ho := own_le hw hd
  unfold W73
  refine S70 hw hr d hx hd ?_
  subst hx
  rw [ix_n (by omega), hr.ne hd]
  refine ⟨inb_n (by omega), ?_⟩
  have pl : ∀ pk : Nat → Nat, ∀ i, (∀ j, j < i → bt (aNe M d) (pk j) = true) → (∀ a b, a < b → b < i → pk a ≠ pk b) → i ≤ d := fun pk i z1 z2 => fb_holes d i pk (fun j hj => need_lt hw hd (z1 j hj)) z2
  have fin : ∀ (s pk : Nat → Nat) (i : Nat), (∀ j, j < i → bt (aNe M d) (pk j) = true ∧ s j = A (pk j)) → (∀ a b, a < b → b < i → pk a ≠ pk b) → (∀ a b, a ≤ b → b < i → s b ≤ s a) → (∀ e, bt (aNe M d) e = true → ∃ j, j < i ∧ pk j = e) → C (nI (rmx (own M d) s i)) := fun s pk i z1 z2 z3 z4 => kk _ ⟨s, pk, i, ⟨z1, z2, z4, z3⟩, rfl⟩
  unfold B73_17
  refine LFP.up 12 (fun i z => ∃ s pk : Nat → Nat, z.1 = nI (rmx (own M d) s i) ∧ z.2.2 = nI i ∧ St 12 z.2.1 ∧ (∀ j, j < i → bt (aNe M d) (pk j) = true ∧ s j = A (pk j)) ∧ (∀ a b, a < b → b < i → pk a ≠ pk b) ∧ (∀ a b, a ≤ b → b < i → s b ≤ s a) ∧ (∀ e, bt z.2.1 e = true ↔ bt (aNe M d) e = true ∧ ∀ j, j < i → pk j ≠ e) ∧ ∀ j, j < i → ∀ e, bt z.2.1 e = true → A e ≤ s j) ?_ ?_ (Nat.zero_le _) ⟨fun _ => 0, fun _ => 0, rfl, rfl, St_mono (hw.neN hd) h12, fun j hj => absurd hj (Nat.not_lt_zero _), fun a b _ hb => absurd hb (Nat.not_lt_zero _), fun a b _ hb => absurd hb (Nat.not_lt_zero _), fun e => ⟨fun q => ⟨q, fun j hj => absurd hj (Nat.not_lt_zero _)⟩, fun q => q.1⟩, fun j hj => absurd hj (Nat.not_lt_zero _)⟩
  · rintro X i ⟨x3, x4, x5⟩ hi ⟨s, pk, e1, e2, e3, e4, e5, e6, e7, e8⟩ ih
    (try dsimp only at e1 e2 e3 e7 e8)
    subst e1 e2
    have rl : rmx (own M d) s i ≤ 1100 := rmx_le i (by omega) (fun j hj => by
      have := e4 j hj
      have := (hA (pk j) this.1).2
      omega)
    unfold F73_17
    (try dsimp only)
    rw [if_neg (show ¬ (12 : Int32) ≤ nI i from nI_ge (b := 12) hi (by omega))]
    by_cases z : x4 = 0
    · rw [if_pos z]
      refine fin s pk i e4 e5 e6 (fun e q => ?_)
      refine Classical.byContradiction (fun y => ?_)
      have := (e7 e).mpr ⟨q, fun j hj w => y ⟨j, hj, w⟩⟩
      rw [z, bt_0] at this; exact absurd this (by decide)
    · rw [if_neg z]
      refine S74 (A := A) e3 z hok (fun e q => ?_) (fun g g1 g2 g3 => ?_)
      · have := hA e ((e7 e).mp q).1
        exact ⟨this.1, by omega⟩
      · have g4 := (e7 g).mp g2
        have g5 := hA g g4.1
        rw [ix_n (by omega), g5.1, nI_add, imax_n (by omega) (by omega)]
        refine ⟨hok g g1, ih _ ⟨fun j => if j = i then A g else s j, fun j => if j = i then g else pk j, ?_, nI_1 i, St_and _ e3, fun j hj => ?_, fun a b hab hb q => ?_, fun a b hab hb => ?_, fun e => ?_, fun j hj e q => ?_⟩⟩
        · (try dsimp only)
          show nI (max (rmx (own M d) s i) (A g + i)) = nI (max (rmx (own M d) (fun j => if j = i then A g else s j) i) ((if i = i then A g else s i) + i))
          rw [if_pos rfl, rmx_cong (s := fun j => if j = i then A g else s j) (s' := s) i (fun j hj => if_neg (by omega))]
        · (try dsimp only)
          by_cases y : j = i
          · rw [if_pos y, if_pos y]; exact ⟨g4.1, rfl⟩
          · rw [if_neg y, if_neg y]; exact e4 j (by omega)
        · (try dsimp only at q)
          rw [if_neg (by omega)] at q
          by_cases y : b = i
          · rw [if_pos y] at q; exact g4.2 a (by omega) q
          · rw [if_neg y] at q; exact e5 a b hab (by omega) q
        · (try dsimp only)
          by_cases y : b = i
          · rw [if_pos y]
            by_cases y2 : a = i
            · rw [if_pos y2]; exact Nat.le_refl _
            · rw [if_neg y2]; exact e8 a (by omega) g g2
          · rw [if_neg y, if_neg (by omega)]; exact e6 a b hab (by omega)
        · (try dsimp only)
          rcases Nat.lt_or_ge e 32 with w | w
          · rw [bt_andn w, bt_bit (by omega)]
            simp only [Bool.and_eq_true, Bool.not_eq_true', decide_eq_false_iff_not]
            rw [e7 e]
            constructor
            · rintro ⟨⟨y1, y2⟩, y3⟩
              refine ⟨y1, fun j hj => ?_⟩
              by_cases y : j = i
              · rw [if_pos y]; exact fun v => y3 v.symm
              · rw [if_neg y]; exact y2 j (by omega)
            · rintro ⟨y1, y2⟩
              refine ⟨⟨y1, fun j hj => ?_⟩, fun v => ?_⟩
              · have := y2 j (by omega)
                rw [if_neg (by omega)] at this; exact this
              · have := y2 i (by omega)
                rw [if_pos rfl] at this; exact this v.symm
          · rw [bt_big _ w, bt_big _ w]
            exact ⟨fun q => absurd q (by decide), fun q => absurd q.1 (by decide)⟩
        · have q' := sb_and _ _ e (by
            rcases Nat.lt_or_ge e 32 with w | w
            · exact w
            · (try dsimp only at q); rw [bt_big _ w] at q; exact absurd q (by decide)) q
          (try dsimp only)
          by_cases y : j = i
          · rw [if_pos y]; exact g3 e q'
          · rw [if_neg y]; exact e8 j (by omega) e q'
  · rintro X ⟨x3, x4, x5⟩ ⟨s, pk, e1, e2, e3, e4, e5, e6, e7, e8⟩
    have := pl pk 12 (fun j hj => (e4 j hj).1) e5
    omega
end CTR
