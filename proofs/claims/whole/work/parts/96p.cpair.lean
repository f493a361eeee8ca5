/-! THE CLASS READS A PAIR -/
section CPA
variable {h : TH} {T : Nat → Nat} {z m : Nat} {s : PS} {M : Nat → Int32}
theorem bh_self {d : Nat} : bh M d d := fun _ _ q _ => q
theorem bh_need {d e : Nat} (hd : d < aN M) (he : e < 32) (q : bt (aNe M d) e = true) : bh M d e := fun _ _ q1 q2 => q2 d hd q1 e he q
theorem S66 {C : Int32 → Prop} {t d : Nat} (hw : Wf M) (hr : CMr h t M) (hd : d < aN M) (k : ∀ a, (∀ e, e < 32 → e ≠ d → (bt a e = true ↔ bh M d e)) → C a) : W66 t (nI d) h C := by
  have h12 := hw.n12
  unfold W66 B66_11
  rw [ix_n (by omega), hr.ne hd, Int32.sub_eq_add_neg]
  refine ⟨inb_n (by omega), ?_⟩
  refine LFP.down (fun (j : Nat) (st : Int32 × Int32) => st.2 = nI j + (-1) ∧ j ≤ d ∧ St d st.1 ∧ sb (aNe M d) st.1 ∧ (∀ e, j ≤ e → e < d → bt st.1 e = true → sb (aNe M e) st.1) ∧ ∀ b, St (aN M) b → bt b d = true → (∀ x, x < aN M → bt b x = true → sb (aNe M x) b) → sb st.1 b) ?_ ?_ (n := d) ⟨rfl, Nat.le_refl _, hw.ne hd, sb_refl _, fun e h1 h2 => absurd h1 (by omega), fun b _ q1 q2 => q2 d hd q1⟩
  · rintro X j ⟨x2, x3⟩ ⟨e1, e2, e3, e4, e5, e6⟩ ih
    (try dsimp only at e1 e2 e3 e4 e5 e6)
    rw [nI_pred'] at e1
    subst e1
    unfold F66_11
    (try dsimp only)
    rw [if_neg (nI_pos (by omega)), ix_n (by omega), hr.ne (by omega)]
    by_cases q : bt x2 j = true
    · rw [if_neg (fun n => absurd q (by rw [(bt_in (by omega)).mp n]; decide))]
      have hj := hw.ne (d := j) (by omega)
      refine ⟨inb_n (by omega), ih _ ⟨rfl, by omega, St_or e3 (St_mono hj (by omega)) (by omega), sb_trans e4 (sb_or_l _ _), fun e h1 h2 h3 => ?_, fun b b1 b2 b3 => sb_or (e6 b b1 b2 b3) (b3 j (by omega) (e6 b b1 b2 b3 j (by omega) q))⟩⟩
      (try dsimp only at h3)
      by_cases w : e = j
      · rw [w]; exact sb_or_r _ _
      · have h4 : bt (aNe M j) e = false := (St_bt (by omega)).mp hj e (by omega) (by omega)
        rw [bt_or, h4, Bool.or_false] at h3
        exact sb_trans (e5 e (by omega) h2 h3) (sb_or_l _ _)
    · rw [if_pos ((bt_in (by omega)).mpr (by simpa using q))]
      refine ih _ ⟨rfl, by omega, e3, e4, fun e h1 h2 h3 => ?_, e6⟩
      by_cases w : e = j
      · rw [w] at h3; exact absurd h3 q
      · exact e5 e (by omega) h2 h3
  · rintro X ⟨x2, x3⟩ ⟨e1, e2, e3, e4, e5, e6⟩
    (try dsimp only at e1 e2 e3 e4 e5 e6)
    subst e1
    unfold F66_11
    (try dsimp only)
    rw [if_pos nI_0m]
    refine k x2 (fun e he hne => ⟨fun q b b1 b2 b3 => e6 b b1 b2 b3 e he q, fun q => ?_⟩)
    have := q (x2 ||| ishl 1 (nI d)) (St_or (St_mono e3 (by omega)) (St_bit hd (by omega)) (by omega)) (by rw [bt_or, bt_bit (by omega)]; simp) (fun x hx q2 => ?_)
    · rw [bt_or, bt_bit (by omega)] at this
      simpa [hne] using this
    · rw [bt_or, bt_bit (by omega)] at q2
      by_cases w : x = d
      · rw [w]; exact sb_trans e4 (sb_or_l _ _)
      · have q3 : bt x2 x = true := by simpa [w] using q2
        have hxd : x < d := by
          apply Classical.byContradiction
          intro u
          rw [(St_bt (by omega)).mp e3 x (by omega) (by omega)] at q3
          exact absurd q3 (by decide)
        exact sb_trans (e5 x (by omega) hxd q3) (sb_or_l _ _)
theorem S85 {C : Int32 → Prop} {a b : Nat} (hw : Wf M) (hr : CMr h 16 M) (ha : a < aN M) (hb : b < aN M) (k1 : bhB M a b = false → bhB M b a = false → C 1) (k0 : ¬ (bhB M a b = false ∧ bhB M b a = false) → C 0) : W85 (nI a) (nI b) h C := by
  have h12 := hw.n12
  unfold W85
  have bf : ∀ x y, bhB M x y = false ↔ ¬ bh M x y := fun x y => by
    cases e : bhB M x y with
    | false => simp; exact fun w => absurd (bhB_iff.mpr w) (by rw [e]; decide)
    | true => simp; exact bhB_iff.mp e
  by_cases q : a = b
  · rw [if_pos (by rw [q])]
    exact k0 (fun w => (bf a b).mp w.1 (by rw [q]; exact bh_self))
  · rw [if_neg (fun e => q ((nI_eq (by omega) (by omega)).mp e))]
    refine S66 hw hr ha (fun v1 e1 => ?_)
    by_cases w : bh M a b
    · rw [if_pos ((bt_in' (by omega)).mpr ((e1 b (by omega) (by omega)).mpr w))]
      exact k0 (fun u => (bf a b).mp u.1 w)
    · rw [if_neg (fun n => w ((e1 b (by omega) (by omega)).mp ((bt_in' (by omega)).mp n)))]
      refine S66 hw hr hb (fun v2 e2 => ?_)
      by_cases w2 : bh M b a
      · rw [if_pos ((bt_in' (by omega)).mpr ((e2 a (by omega) (by omega)).mpr w2))]
        exact k0 (fun u => (bf b a).mp u.2 w2)
      · rw [if_neg (fun n => w2 ((e2 a (by omega) (by omega)).mp ((bt_in' (by omega)).mp n)))]
        exact k1 ((bf a b).mpr w) ((bf b a).mpr w2)
theorem CB_tok {g : TH} {i : Nat} (c : CB h T z m s) (sm : Sm (fun a => a = 9) h g) (ct : CTT g T z m i) (o : okF g) : CB g T z m (i, s.2) := by
  obtain ⟨_, hw, hr, hn, _⟩ := c
  exact ⟨ct, hw, CMr_pt hr (fun j _ _ => by rw [sm.I (by decide)]) (fun a _ _ e _ => by rw [sm.I (by omega)]) (fun k _ => by rw [sm.I (by decide)]), fun j hj => by rw [sm.J (by decide)]; exact hn j hj, o⟩
/-- one of a PAIR's two; p tells the first, if it was read -/
theorem S84 {C : Int32 → TH → Prop} {x : Int32} {p : Option Nat} (c : CB h T z m s) (hx : (p = none ∧ x = (-1)) ∨ ∃ a, p = some a ∧ x = nI a ∧ a < aN s.2.1) (k1 : kd T z s.1 = 30 → fnd s.2.2 (aN s.2.1) (wd T z s.1) < aN s.2.1 → aPa s.2.1 (fnd s.2.2 (aN s.2.1) (wd T z s.1)) = (-1) → (∀ a, p = some a → bhB s.2.1 a (fnd s.2.2 (aN s.2.1) (wd T z s.1)) = false ∧ bhB s.2.1 (fnd s.2.2 (aN s.2.1) (wd T z s.1)) a = false) → ∀ g, Sm (fun a => a = 9) h g → CB g T z m (s.1 + 1, s.2) → C (nI (fnd s.2.2 (aN s.2.1) (wd T z s.1))) g) (k5 : kd T z s.1 = 30 → fnd s.2.2 (aN s.2.1) (wd T z s.1) < aN s.2.1 → ¬ (aPa s.2.1 (fnd s.2.2 (aN s.2.1) (wd T z s.1)) = (-1) ∧ ∀ a, p = some a → bhB s.2.1 a (fnd s.2.2 (aN s.2.1) (wd T z s.1)) = false ∧ bhB s.2.1 (fnd s.2.2 (aN s.2.1) (wd T z s.1)) a = false) → ∀ g, Sm (fun a => a = 9) h g → CFt g (fl T z s.1 5) → C (-1) g) (k3 : kd T z s.1 = 30 → ¬ fnd s.2.2 (aN s.2.1) (wd T z s.1) < aN s.2.1 → ∀ g, Sm (fun a => a = 9) h g → CFt g (fl T z s.1 3) → C (-1) g) (k2 : kd T z s.1 ≠ 30 → ∀ g, Sm (fun a => a = 9) h g → CFt g (fl T z s.1 2) → C (-1) g) : W84 x h C := by
  have c' := c
  obtain ⟨ct, hw, hr, hn, o⟩ := c
  have h12 := hw.n12
  unfold W84
  rw [ct.2.2.2.2]
  by_cases q : kd T z s.1 = 30
  · rw [if_pos ((ck_is (x := 30) (w := 30) (by omega) rfl).mpr q)]
    have e14 := (ct.1.2.2.2 s.1 ct.2.1).2.2.1 q
    refine S134 ct ?_
    rw [e14]
    refine S59 (N := s.2.2) (n := aN s.2.1) hr.n h12 hn (wd_ok q) (fun u => ?_) (fun u => ?_)
    · rw [if_pos (nI_ne1 (by omega))]
      have bad : ¬ (aPa s.2.1 (fnd s.2.2 (aN s.2.1) (wd T z s.1)) = (-1) ∧ ∀ a, p = some a → bhB s.2.1 a (fnd s.2.2 (aN s.2.1) (wd T z s.1)) = false ∧ bhB s.2.1 (fnd s.2.2 (aN s.2.1) (wd T z s.1)) a = false) → B84_78 h C := by
        intro w
        unfold B84_78
        exact S135 (f := 5) ct (by omega) (fun g s1 f p => k5 q u w g s1 p)
      have good : aPa s.2.1 (fnd s.2.2 (aN s.2.1) (wd T z s.1)) = (-1) → (∀ a, p = some a → bhB s.2.1 a (fnd s.2.2 (aN s.2.1) (wd T z s.1)) = false ∧ bhB s.2.1 (fnd s.2.2 (aN s.2.1) (wd T z s.1)) a = false) → W133 h (fun h4 => C (nI (fnd s.2.2 (aN s.2.1) (wd T z s.1))) h4) := by
        intro w1 w2
        exact S133 ct (by omega) (fun g s1 t f => k1 q u w1 w2 g s1 (CB_tok c' s1 t (okF_9 o f)))
      unfold W61
      rw [ix_n (by omega), hr.pa u]
      refine ⟨inb_n (by omega), ?_⟩
      by_cases w : aPa s.2.1 (fnd s.2.2 (aN s.2.1) (wd T z s.1)) = (-1)
      · rw [if_neg (fun n => n w)]
        show if (1 : Int32) = 0 then _ else _
        rw [if_neg (by decide)]
        rcases hx with ⟨rfl, rfl⟩ | ⟨a, rfl, rfl, ha⟩
        · rw [if_pos rfl]
          exact good w (fun a e => absurd e (by simp))
        · rw [if_neg (nI_ne1 (by omega))]
          refine S85 hw hr ha u (fun b1 b2 => ?_) (fun b => ?_)
          · rw [if_pos (by decide)]
            exact good w (fun a' e => by rw [← Option.some.inj e]; exact ⟨b1, b2⟩)
          · rw [if_neg (by decide)]
            exact bad (fun v => b (v.2 a rfl))
      · rw [if_pos w]
        show if (0 : Int32) = 0 then _ else _
        rw [if_pos rfl]
        exact bad (fun v => w v.1)
    · rw [if_neg (fun n => n rfl)]
      exact S135 (f := 3) ct (by omega) (fun g s1 f p => k3 q u g s1 p)
  · rw [if_neg (show ¬ nI (ck (kd T z s.1)) = 30 from fun e => q ((ck_is (x := 30) (w := 30) (by omega) rfl).mp e))]
    exact S136 ct (fun g s1 f p => k2 q g s1 p)
end CPA
