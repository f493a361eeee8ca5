/-! WHAT IS NEEDED -/
def sb (a b : Int32) : Prop := ∀ d, d < 32 → bt a d = true → bt b d = true
theorem sb_refl (a : Int32) : sb a a := fun _ _ h => h
theorem sb_trans {a b c : Int32} (h : sb a b) (h' : sb b c) : sb a c := fun d hd q => h' d hd (h d hd q)
theorem sb_or_l (a b : Int32) : sb a (a ||| b) := fun d _ q => by rw [bt_or, q]; rfl
theorem sb_or_r (a b : Int32) : sb b (a ||| b) := fun d _ q => by rw [bt_or, q]; simp
theorem sb_or {a b c : Int32} (h : sb a c) (h' : sb b c) : sb (a ||| b) c := fun d hd q => by
  rw [bt_or, Bool.or_eq_true] at q
  exact q.elim (h d hd) (h' d hd)
theorem sb_anti {a b : Int32} (h : sb a b) (h' : sb b a) : a = b := bt_ext (fun d hd => by
  cases e : bt a d
  · cases e2 : bt b d
    · rfl
    · rw [h' d hd e2] at e; exact e.symm
  · rw [h d hd e])
theorem sb_zero (a : Int32) : sb 0 a := fun d _ q => by rw [bt_0] at q; exact absurd q (by decide)
theorem pc_lt {a b : Int32} (h : sb a b) (hb : St 12 b) (hn : ¬ a = b) : pc a < pc b := by
  have h1 : pc a ≤ pc b := pc_mono (fun d hd q => h d (by omega) q)
  rcases Nat.lt_or_ge (pc a) (pc b) with q | q
  · exact q
  · exfalso
    refine hn (sb_anti h (fun d hd hq => ?_))
    rw [St_bt (by omega)] at hb
    have d12 : d < 12 := by
      rcases Nat.lt_or_ge d 12 with z | z
      · exact z
      · rw [hb d z hd] at hq; exact absurd hq (by decide)
    cases e : bt a d
    · exfalso
      have u := fb_ct_upd (bt a) true d12
      rw [e] at u
      simp only [if_true] at u
      have v : fb_ct (fun k => if k = d then true else bt a k) 12 ≤ fb_ct (bt b) 12 := by
        refine fb_ct_sub (fun k hk z => ?_)
        by_cases e5 : k = d
        · rw [e5]; exact hq
        · rw [if_neg e5] at z; exact h k (by omega) z
      unfold pc at q
      have w : (if false = true then 1 else 0) = 0 := rfl
      rw [w] at u
      omega
    · rfl
def clo (M : Nat → Int32) (b : Int32) : Prop := ∀ d, d < aN M → bt b d = true → sb (gP M d) b ∧ sb (aNe M d) b
def Clo (M : Nat → Int32) (s a : Int32) : Prop := St (aN M) a ∧ sb s a ∧ clo M a ∧ ∀ b, St (aN M) b → sb s b → clo M b → sb a b
theorem Clo_one {M : Nat → Int32} {s a b : Int32} (h : Clo M s a) (h' : Clo M s b) : a = b := sb_anti (h.2.2.2 b h'.1 h'.2.1 h'.2.2.1) (h'.2.2.2 a h.1 h.2.1 h.2.2.1)
section ND
variable {h : TH} {M : Nat → Int32} {t : Nat} {C : Int32 → Prop} {s : Int32}
theorem clo_nP (hw : Wf M) {b : Int32} (hb : clo M b) {d : Nat} (hd : d < aN M) (q : bt b d = true) : sb (nP M d) b := by
  have h12 := hw.n12
  rcases hw.pa hd with e | ⟨e, h1, h2, _⟩
  · rw [nP_alone e]; exact (hb d hd q).2
  · rw [nP_pair h2 (by omega)]
    refine sb_or (hb d hd q).2 (hb e h1 ?_).2
    refine (hb d hd q).1 e (by omega) ?_
    rw [gP_pair h2 (by omega), bt_or, bt_bit (j := e) (by omega)]
    simp
/-- the reference's way -/
theorem S265 (hw : Wf M) (hM : MA h M) (hs : St (aN M) s) (k : ∀ a, Clo M s a → C a) : W265 s h C := by
  have h12 := hw.n12
  unfold W265 B265_4
  refine LFP.ix (fun m q => (m = 13 ∨ m + pc q.2 = 12) ∧ St (aN M) q.1 ∧ sb s q.1 ∧ sb q.2 q.1 ∧ (∀ d, d < aN M → bt q.2 d = true → sb (gP M d) q.1 ∧ sb (aNe M d) q.1) ∧ ∀ b, St (aN M) b → sb s b → clo M b → sb q.1 b) ?_ (k := 13) ⟨Or.inl rfl, hs, sb_refl _, sb_zero _, fun d _ q => by rw [bt_0] at q; exact absurd q (by decide), fun b _ q _ => q⟩
  rintro X m ⟨x2, x3⟩ ⟨h0, h1, h2, h3, h4, h5⟩ ih
  dsimp only at h0 h1 h2 h3 h4 h5
  unfold F265_4
  dsimp only
  by_cases e : x2 = x3
  · rw [if_pos e]
    refine k x2 ⟨h1, h2, fun d hd q => h4 d hd (by rw [← e]; exact q), h5⟩
  · rw [if_neg e]
    have hlt := pc_lt h3 (St_mono h1 h12) (fun q => e q.symm)
    have hle := pc_le x2
    unfold B265_14
    refine LFP.up (aN M) (fun j q => q.2 = nI j ∧ St (aN M) q.1 ∧ sb x2 q.1 ∧ (∀ d, d < j → bt x2 d = true → sb (gP M d) q.1 ∧ sb (aNe M d) q.1) ∧ ∀ b, St (aN M) b → sb s b → clo M b → sb q.1 b) ?_ ?_ (Nat.zero_le _) ⟨rfl, h1, sb_refl _, fun d hd => absurd hd (Nat.not_lt_zero _), h5⟩
    · rintro Y j ⟨y2, y4⟩ hj ⟨f1, f2, f3, f4, f5⟩ ih2
      dsimp only at f1 f2 f3 f4 f5
      subst f1
      unfold F265_14
      dsimp only
      rw [hN0 hM hw, if_neg (nI_ge hj (by omega))]
      refine S250 j rfl h1 (by omega) (by omega) (fun q => ?_) (fun q => ?_)
      · rw [if_neg (by decide)]
        refine S253 j hM rfl (by omega) ?_
        refine S251 j 4 hM rfl rfl (by omega) (by omega) ?_
        refine ih2 _ ⟨nI_1 j, St_or f2 (St_or (hw.gS hj) (hw.neN hj)), sb_trans f3 (sb_or_l _ _), fun d hd q2 => ?_, fun b b1 b2 b3 => ?_⟩
        · by_cases e9 : d = j
          · subst e9
            exact ⟨sb_trans (sb_or_l _ _) (sb_or_r _ _), sb_trans (sb_or_r _ _) (sb_or_r _ _)⟩
          · have := f4 d (by omega) q2
            exact ⟨sb_trans this.1 (sb_or_l _ _), sb_trans this.2 (sb_or_l _ _)⟩
        · have hb := f5 b b1 b2 b3
          have := b3 j hj (hb j (by omega) (f3 j (by omega) q))
          exact sb_or hb (sb_or this.1 this.2)
      · rw [if_pos rfl]
        refine ih2 _ ⟨nI_1 j, f2, f3, fun d hd q2 => ?_, f5⟩
        by_cases e9 : d = j
        · subst e9; rw [q] at q2; exact absurd q2 (by decide)
        · exact f4 d (by omega) q2
    · rintro Y ⟨y2, y4⟩ ⟨f1, f2, f3, f4, f5⟩
      dsimp only at f1 f2 f3 f4 f5
      subst f1
      unfold F265_14
      dsimp only
      rw [hN0 hM hw, if_pos (nI_le (Nat.le_refl _) (by omega))]
      obtain ⟨m1, hm1⟩ : ∃ m, m + pc x2 = 12 := ⟨12 - pc x2, by omega⟩
      exact ih m1 _ (by omega) ⟨Or.inr hm1, f2, sb_trans h2 f3, f3, f4, f5⟩
/-- the class's way -/
theorem S67 (hw : Wf M) (hr : CMr h t M) (hg : CMg h t M) (hs : St (aN M) s) (k : ∀ a, Clo M s a → C a) : W67 t s h C := by
  have h12 := hw.n12
  unfold W67 B67_7
  refine LFP.up 13 (fun j q => q.2.2 = nI j ∧ St (aN M) q.1 ∧ sb s q.1 ∧ (∀ b, St (aN M) b → sb s b → clo M b → sb q.1 b) ∧ ((j = 0 ∧ q.2.1 = (-1)) ∨ (1 ≤ j ∧ sb q.2.1 q.1 ∧ j ≤ pc q.2.1 + 1 ∧ ∀ d, d < aN M → bt q.2.1 d = true → sb (gP M d) q.1 ∧ sb (aNe M d) q.1))) ?_ ?_ (Nat.zero_le _) ⟨rfl, hs, sb_refl _, fun b _ q _ => q, Or.inl ⟨rfl, rfl⟩⟩
  · rintro X j ⟨x2, x3, x4⟩ hj ⟨h1, h2, h3, h4, h5⟩ ih
    dsimp only at h1 h2 h3 h4 h5
    subst h1
    unfold F67_7
    dsimp only
    rw [if_neg (show ¬ (12 : Int32) < nI j from nI_nlt (a := 12) (by omega) (by omega))]
    by_cases e : x2 = x3
    · rw [if_pos e]
      rcases h5 with ⟨_, q⟩ | ⟨_, _, _, q⟩
      · exact absurd (e.trans q) (h2.ne1 (by omega))
      · exact k x2 ⟨h2, h3, fun d hd z => q d hd (by rw [← e]; exact z), h4⟩
    · rw [if_neg e, hr.n]
      have hpc : j ≤ pc x2 := by
        rcases h5 with ⟨q, _⟩ | ⟨q1, q2, q3, _⟩
        · omega
        · have := pc_lt q2 (St_mono h2 h12) (fun q => e q.symm)
          omega
      unfold B67_29
      refine LFP.down (fun m q => m ≤ aN M ∧ q.2 = nI m - 1 ∧ St (aN M) q.1 ∧ sb x2 q.1 ∧ (∀ d, m ≤ d → d < aN M → bt x2 d = true → sb (gP M d) q.1 ∧ sb (aNe M d) q.1) ∧ ∀ b, St (aN M) b → sb s b → clo M b → sb q.1 b) ?_ ?_ (n := aN M) ⟨Nat.le_refl _, rfl, h2, sb_refl _, fun d h6 h7 => absurd h7 (by omega), h4⟩
      · rintro Y m ⟨y2, y5⟩ ⟨f0, f1, f2, f3, f4, f5⟩ ih2
        dsimp only at f1 f2 f3 f4 f5
        rw [nI_pred] at f1
        subst f1
        unfold F67_29
        dsimp only
        rw [if_neg (nI_pos (by omega))]
        have hm1 : nI m + (-1) = nI m - 1 := by rw [Int32.sub_eq_add_neg]
        by_cases q : bt y2 m = true
        · rw [if_neg ((bt_in' (by omega)).mpr q), ix_n (by omega), (hg m (by omega)).1, (hg m (by omega)).2.1]
          refine ⟨inb_n (by omega), inb_n (by omega), ih2 _ ⟨by omega, hm1, St_or f2 (St_or (hw.gS (by omega)) (hw.nS (by omega))), sb_trans f3 (sb_or_l _ _), fun d d1 d2 q2 => ?_, fun b b1 b2 b3 => ?_⟩⟩
          · by_cases e9 : d = m
            · subst e9
              refine ⟨sb_trans (sb_or_l _ _) (sb_or_r _ _), sb_trans ?_ (sb_trans (sb_or_r _ _) (sb_or_r _ _))⟩
              unfold nP
              exact sb_or_l _ _
            · have := f4 d (by omega) d2 q2
              exact ⟨sb_trans this.1 (sb_or_l _ _), sb_trans this.2 (sb_or_l _ _)⟩
          · have hb := f5 b b1 b2 b3
            have hq := hb m (by omega) q
            exact sb_or hb (sb_or (b3 m (by omega) hq).1 (clo_nP hw b3 (by omega) hq))
        · rw [if_pos ((bt_in (by omega)).mpr (by simpa using q))]
          refine ih2 _ ⟨by omega, hm1, f2, f3, fun d d1 d2 q2 => ?_, f5⟩
          by_cases e9 : d = m
          · subst e9; exact absurd (f3 d (by omega) q2) q
          · exact f4 d (by omega) d2 q2
      · rintro Y ⟨y2, y5⟩ ⟨f0, f1, f2, f3, f4, f5⟩
        dsimp only at f1 f2 f3 f4 f5
        subst f1
        unfold F67_29
        dsimp only
        rw [if_pos nI_0s]
        exact ih _ ⟨nI_1 j, f2, sb_trans h3 f3, f5, Or.inr ⟨by omega, f3, show j + 1 ≤ pc x2 + 1 by omega, fun d d1 q => f4 d (by omega) d1 q⟩⟩
  · rintro X ⟨x2, x3, x4⟩ ⟨h1, h2, h3, h4, h5⟩
    dsimp only at h1 h2 h3 h4 h5
    subst h1
    unfold F67_7
    dsimp only
    rw [if_pos (show (12 : Int32) < nI 13 by decide +kernel)]
    rcases h5 with ⟨q, _⟩ | ⟨q1, q2, q3, q4⟩
    · omega
    · by_cases e : x3 = x2
      · exact k x2 ⟨h2, h3, fun d hd z => q4 d hd (by rw [e]; exact z), h4⟩
      · have := pc_lt q2 (St_mono h2 h12) e
        have := pc_le x2
        omega
end ND
