/-! THE MOVES OF A SET, in the document's order: to what, for how much, which; the class lists them -/
def cst (M : Nat → Int32) (cw d : Nat) : Nat := cw * ix (wP M d) + 1
def mvMk (M : Nat → Int32) (big : Nat → Nat) (cw : Nat) (s : Int32) (d : Nat) : List (Int32 × Nat × Nat) := if leads M d ∧ mkC M big s d then [(mkT M s d, cst M cw d, d * 12)] else []
def mvPo1 (M : Nat → Int32) (big : Nat → Nat) (cw : Nat) (s : Int32) (d o : Nat) : List (Int32 × Nat × Nat) := if poC M big s s d o then [(poT M s d o, cst M cw d, 144 + d * 12 + o)] else []
def mvPo (M : Nat → Int32) (big : Nat → Nat) (cw : Nat) (s : Int32) (d : Nat) : List (Int32 × Nat × Nat) := (List.range d).flatMap (mvPo1 M big cw s d)
def mvWa (s : Int32) (d : Nat) : List (Int32 × Nat × Nat) := if bt s d = true then [(s &&& (ishl 1 (nI d) ^^^ (-1)), 1, 288 + d * 12)] else []
def mvs (M : Nat → Int32) (big : Nat → Nat) (cw : Nat) (s : Int32) : List (Int32 × Nat × Nat) := ((List.range (aN M)).flatMap (mvMk M big cw s) ++ (List.range (aN M)).flatMap (mvPo M big cw s)) ++ (List.range (aN M)).flatMap (mvWa s)
section LN
variable {M : Nat → Int32} {big : Nat → Nat} {cw : Nat} {s : Int32}
theorem ct_sm (p : Nat → Bool) : ∀ n, fb_sm (fun k => if p k then 1 else 0) n = fb_ct p n := by
  intro n
  induction n with
  | zero => rfl
  | succ n ih => rw [fb_sm_succ, fb_ct_succ, ih]
theorem ct_smk (p : Nat → Bool) (c : Nat) : ∀ n, fb_sm (fun k => if p k then c else 0) n = fb_ct p n * c := by
  intro n
  induction n with
  | zero => rw [show fb_ct p 0 = 0 from rfl, Nat.zero_mul]; rfl
  | succ n ih =>
    rw [fb_sm_succ, fb_ct_succ, ih, Nat.add_mul]
    split <;> simp
theorem mk_not {d : Nat} (hd : d < 32) (h : mkC M big s d) : bt s d = false := by
  have h1 := h.1
  rw [bt_dis] at h1
  cases e : bt s d
  · rfl
  · have := h1 d hd e
    rw [Wf.gd hd] at this
    exact absurd this (by decide)
theorem len_mk {j : Nat} (hj : j ≤ 12) : ((List.range j).flatMap (mvMk M big cw s)).length ≤ fb_ct (fun d => !bt s d) j := by
  rw [← ct_sm]
  refine flat_len (fun d hd => ?_)
  unfold mvMk
  split
  · rename_i q
    rw [mk_not (by omega) q.2]
    simp
  · simp
theorem len_wa {j : Nat} : ((List.range j).flatMap (mvWa s)).length ≤ fb_ct (bt s) j := by
  rw [← ct_sm]
  refine flat_len (fun d hd => ?_)
  unfold mvWa
  split
  · simp
  · simp
theorem len_po1 {d j : Nat} (hd : d < 32) (hj : j ≤ 12) : ((List.range j).flatMap (mvPo1 M big cw s d)).length ≤ if bt s d = true then 0 else fb_ct (bt s) j := by
  cases e : bt s d
  · simp only [Bool.false_eq_true, if_false]
    rw [← ct_sm]
    refine flat_len (fun o ho => ?_)
    unfold mvPo1
    split
    · rename_i q
      rw [q.2.2.2.2.2.1]
      simp
    · simp
  · simp only [if_true]
    have : ((List.range j).flatMap (mvPo1 M big cw s d)).length ≤ fb_sm (fun _ => 0) j := flat_len (fun o ho => by
      unfold mvPo1
      split
      · rename_i q
        rw [q.2.2.1] at e
        exact absurd e (by decide)
      · simp)
    rw [fb_sm_const] at this
    omega
theorem len_po {n j : Nat} (hn : n ≤ 12) (hj : j ≤ n) : ((List.range j).flatMap (mvPo M big cw s)).length ≤ fb_ct (fun d => !bt s d) j * fb_ct (bt s) n := by
  rw [← ct_smk]
  refine flat_len (fun d hd => ?_)
  unfold mvPo
  refine Nat.le_trans (len_po1 (by omega) (by omega)) ?_
  cases bt s d
  · simp only [Bool.false_eq_true, if_false, Bool.not_false, if_true]
    exact fb_ct_mono _ (by omega)
  · simp
theorem sq36 : ∀ a, a ≤ 12 → ∀ b, b ≤ 12 → a + b ≤ 12 → a * b ≤ 36 := by decide
/-- a part of the way along -/
theorem len48 {n i j k : Nat} {A B D : Nat} (hn : n ≤ 12) (hi : i ≤ n) (hj : j ≤ n) (hk : k ≤ n) (h1 : A ≤ fb_ct (fun d => !bt s d) i) (h2 : B ≤ fb_ct (fun d => !bt s d) j * fb_ct (bt s) n) (h3 : D ≤ fb_ct (bt s) k) : A + B + D ≤ 48 := by
  have q1 := fb_ct_mono (fun d => !bt s d) hi
  have q2 := fb_ct_mono (fun d => !bt s d) hj
  have q3 := fb_ct_mono (bt s) hk
  have q4 := fb_ct_not (bt s) n
  have q5 : fb_ct (fun d => !bt s d) j * fb_ct (bt s) n ≤ fb_ct (fun d => !bt s d) n * fb_ct (bt s) n := Nat.mul_le_mul_right _ q2
  have q6 := sq36 (fb_ct (fun d => !bt s d) n) (by omega) (fb_ct (bt s) n) (by omega) (by omega)
  omega
theorem mvs_len (hw : Wf M) : (mvs M big cw s).length ≤ 48 := by
  have h12 := hw.n12
  unfold mvs
  rw [List.length_append, List.length_append]
  exact len48 h12 (Nat.le_refl _) (Nat.le_refl _) (Nat.le_refl _) (len_mk h12) (len_po h12 (Nat.le_refl _)) len_wa
end LN
/-- the class's rows of moves -/
def LRow (h : TH) (t : Nat) (L : List (Int32 × Nat × Nat)) : Prop := h.I t 15 = nI L.length ∧ ∀ i m, L[i]? = some m → h.I (t + 9) i = m.1 ∧ h.I (t + 10) i = nI m.2.1 ∧ h.I (t + 11) i = nI m.2.2
def inMv (t a : Nat) : Prop := a = t ∨ a = t + 9 ∨ a = t + 10 ∨ a = t + 11
/-- a search for the kitchen M with POTS big; cw: what WORK weighs -/
def LObj (h : TH) (t tm : Nat) (M : Nat → Int32) (big : Nat → Nat) (cw : Nat) : Prop := is2 t ∧ h.P t 2 = some tm ∧ is3 tm ∧ CM h tm M ∧ RoomOk h (t + 1) M big ∧ ((cw = 0 ∧ h.I t 0 = 0) ∨ (cw = 4096 ∧ ¬ h.I t 0 = 0))
section LS
variable {h h' : TH} {M : Nat → Int32} {big : Nat → Nat} {cw t tm d : Nat} {s : Int32} {C : TH → Prop} {L : List (Int32 × Nat × Nat)}
theorem is3_rng {a : Nat} (h : is3 a) : 16 ≤ a ∧ a + 15 ≤ 130 := by
  rcases h with rfl | rfl | rfl | rfl | rfl <;> omega
theorem is2_rng {a : Nat} (h : is2 a) : 139 ≤ a ∧ a + 13 ≤ 178 := by
  rcases h with rfl | rfl | rfl <;> omega
theorem LObj.sm {S : Nat → Prop} (ho : LObj h t tm M big cw) (hs : Sm S h h') (h1 : ∀ a, 16 ≤ a → a < 130 → ¬ S a) (h2 : ∀ a, t + 1 ≤ a → a < t + 4 → ¬ S a) (h0 : h'.I t 0 = h.I t 0) : LObj h' t tm M big cw := by
  obtain ⟨a1, a2, a3, a4, a5, a6⟩ := ho
  have := is3_rng a3
  refine ⟨a1, by rw [hs.P]; exact a2, a3, a4.frame (fun a q1 q2 => hs.I (h1 a (by omega) (by omega))), a5.frame (fun a q1 q2 => hs.I (h2 a (by omega) (by omega))), by rw [h0]; exact a6⟩
theorem LObj.mv (ho : LObj h t tm M big cw) (hs : Sm (inMv t) h h') (h0 : ∀ j, j ≠ 15 → h'.I t j = h.I t j) : LObj h' t tm M big cw := by
  have := is2_rng ho.1
  exact ho.sm hs (fun a q1 q2 => by unfold inMv; omega) (fun a q1 q2 => by unfold inMv; omega) (h0 0 (by omega))
theorem S45 (to : Int32) (pr co : Nat) {xp xc : Int32} (hp : xp = nI pr) (hc : xc = nI co) (hl : LRow h t L) (h60 : L.length < 60) (k : ∀ h', Sm (inMv t) h h' → (∀ j, j ≠ 15 → h'.I t j = h.I t j) → LRow h' t (L ++ [(to, pr, co)]) → C h') : W45 t to xp xc h C := by
  subst hp hc
  obtain ⟨e1, e2⟩ := hl
  unfold W45
  rw [e1, if_neg (show ¬ (60 : Int32) ≤ nI L.length from nI_ge (b := 60) (by omega) (by omega)), ix_n (by omega), I_ne (by omega), e1, ix_n (by omega)]
  refine ⟨inb_n (by omega), inb_n (by omega), ?_⟩
  intro h1 eh
  have r1 : h1.I t 15 = nI L.length := by rw [eh, I_ne (by omega), I_ne (by omega), e1]
  rw [r1, ix_n (by omega), I_ne (by omega), r1, nI_1]
  refine ⟨inb_n (by omega), ?_⟩
  have s0 : Sm (inMv t) h h1 := by rw [eh]; exact (Sm.refl.sI (by unfold inMv; omega) _).sI (by unfold inMv; omega) _
  refine k _ ((s0.sI (by unfold inMv; omega) _).sI (by unfold inMv; omega) _) (fun j hj => ?_) ⟨?_, fun i m hm => ?_⟩
  · rw [I_nk hj, I_ne (by omega), eh, I_ne (by omega), I_ne (by omega)]
  · rw [I_eq, List.length_append]; rfl
  · rw [I_ne (by omega), I_ne (by omega), I_ne (by omega), I_ne (by omega), I_ne (a := t) (by omega), I_at, eh]
    rw [I_ne (by omega), I_at, I_at, I_ne (by omega), I_ne (by omega), I_ne (by omega)]
    rw [List.getElem?_append] at hm
    by_cases e : i < L.length
    · rw [if_pos e] at hm
      rw [if_neg (by omega), if_neg (by omega), if_neg (by omega)]
      exact e2 i m hm
    · rw [if_neg e] at hm
      have : i = L.length := by
        rcases Nat.lt_or_ge 0 (i - L.length) with q | q
        · rw [List.getElem?_eq_none (by simp; omega)] at hm; cases hm
        · omega
      subst this
      rw [Nat.sub_self] at hm
      cases hm
      rw [if_pos rfl, if_pos rfl, if_pos rfl]
      exact ⟨rfl, rfl, rfl⟩
theorem S44 {C : Int32 → Prop} (hw : Wf M) (ho : LObj h t tm M big cw) (hd : d < aN M) (k : C (nI (cst M cw d))) : W44 t (nI d) h C := by
  have h12 := hw.n12
  obtain ⟨a1, a2, a3, a4, a5, a6⟩ := ho
  unfold W44
  obtain ⟨w, hw1, hw2⟩ := hw.wPb hd
  unfold cst at k
  rcases a6 with ⟨rfl, q⟩ | ⟨rfl, q⟩
  · rw [if_pos q]
    rw [Nat.zero_mul] at k
    exact k
  · rw [if_neg q, R_of a2, ix_n (by omega), (a4.g hd).2.2, hw2]
    rw [hw2, ix_n (by omega)] at k
    refine ⟨a2, a3, inb_n (by omega), ?_⟩
    rw [show nI w * 4096 + 1 = nI (4096 * w + 1) by show nI w * nI 4096 + nI 1 = _; rw [pk_mul, nI_add, Nat.mul_comm]]
    exact k
theorem S42 (hw : Wf M) (ho : LObj h t tm M big cw) (hs : St (aN M) s) (hd : d < aN M) (hl : LRow h t L) (h60 : L.length < 60) (k : ∀ h', Sm (inMv t) h h' → (∀ j, j ≠ 15 → h'.I t j = h.I t j) → LRow h' t (L ++ mvMk M big cw s d) → C h') : W42 t s (nI d) h C := by
  have h12 := hw.n12
  have ho' := ho
  obtain ⟨a1, a2, a3, a4, a5, a6⟩ := ho
  unfold W42 B42_68
  rw [R_of a2, ix_n (by omega), (a4.g hd).1, (a4.g hd).2.1]
  have no : ¬ (leads M d ∧ mkC M big s d) → C h := by
    intro q
    refine k h Sm.refl (fun _ _ => rfl) ?_
    unfold mvMk
    rw [if_neg q, List.append_nil]
    exact hl
  refine ⟨a2, a3, inb_n (by omega), a2, a3, inb_n (by omega), ?_⟩
  by_cases e1 : s &&& gP M d = 0
  · rw [if_neg (fun q => q e1)]
    refine ⟨a2, a3, inb_n (by omega), ?_⟩
    by_cases e2 : nP M d &&& (s ^^^ (-1)) = 0
    · rw [if_neg (fun q => q e2)]
      refine ⟨a2, a3, S62 hw a4.r d rfl hd (fun q => ?_) (fun q => ?_)⟩
      · rw [if_neg (by decide)]
        refine S112 hw a5 (St_or hs (hw.gS hd)) (fun q2 => ?_) (fun q2 => ?_)
        · rw [if_neg (by decide)]
          refine ⟨a2, a3, S63 hw a4.r a4.2.1 d rfl hd (S44 hw ho' hd ?_)⟩
          refine S45 _ _ (d * 12) rfl (by show nI d * nI 12 = _; rw [pk_mul]) hl h60 (fun h' s1 s2 s3 => k h' s1 s2 ?_)
          unfold mvMk
          rw [if_pos ⟨q, e1, e2, q2⟩]
          exact s3
        · rw [if_pos rfl]; exact no (fun z => absurd (z.2.2.2.symm.trans q2) (by decide))
      · rw [if_pos rfl]; exact no (fun z => q z.1)
    · rw [if_pos e2]; exact no (fun z => e2 z.2.2.1)
  · rw [if_pos e1]; exact no (fun z => e1 z.2.1)
theorem S43 (hw : Wf M) (ho : LObj h t tm M big cw) (hs : St (aN M) s) (hd : d < aN M) (hl : LRow h t L) (h60 : L.length + ((List.range d).flatMap (mvPo1 M big cw s d)).length < 60) (k : ∀ h', Sm (inMv t) h h' → (∀ j, j ≠ 15 → h'.I t j = h.I t j) → LRow h' t (L ++ mvPo M big cw s d) → C h') : W43 t s (nI d) h C := by
  have h12 := hw.n12
  have ho' := ho
  obtain ⟨a1, a2, a3, a4, a5, a6⟩ := ho
  unfold W43 B43_52
  rw [R_of a2]
  /- it can't be: the loop ends at once -/
  have no : (¬ (aPo M d = 1 ∧ aPa M d = (-1) ∧ bt s d = false ∧ aNe M d &&& (s ^^^ (-1)) = 0)) → B43_58 t s (nI d) (ishl 1 (nI d)) 0 0 h C := by
    intro q
    have e : mvPo M big cw s d = [] := by
      unfold mvPo
      rw [List.flatMap_eq_nil_iff]
      intro o _
      unfold mvPo1
      rw [if_neg (fun z => q ⟨z.1, z.2.1, z.2.2.1, z.2.2.2.1⟩)]
    unfold B43_58
    refine LFP.ix (fun m q => q = (0, h)) ?_ (k := 0) rfl
    rintro Y m q rfl _
    unfold F43_58
    dsimp only
    rw [if_pos rfl]
    have : C h := k h Sm.refl (fun _ _ => rfl) (by rw [e, List.append_nil]; exact hl)
    split <;> exact this
  refine ⟨a2, a3, S60 hw a4.r d rfl hd (fun e1 => ?_) (fun e1 => ?_)⟩
  · rw [if_neg (by decide)]
    cases e3 : bt s d
    · rw [if_neg (fun q => q ((bt_in (by omega)).mpr e3)), ix_n (by omega), a4.r.ne hd]
      refine ⟨a2, a3, inb_n (by omega), ?_⟩
      by_cases e4 : aNe M d &&& (s ^^^ (-1)) = 0
      · rw [if_neg (fun q => q e4)]
        refine ⟨a2, a3, S61 hw a4.r d rfl hd (fun e2 => ?_) (fun e2 => ?_)⟩
        · rw [if_neg (by decide)]
          unfold B43_58
          refine LFP.up d (fun j q => q.1 = nI j ∧ Sm (inMv t) h q.2 ∧ (∀ i, i ≠ 15 → q.2.I t i = h.I t i) ∧ LRow q.2 t (L ++ (List.range j).flatMap (mvPo1 M big cw s d))) ?_ ?_ (Nat.zero_le _) ⟨rfl, Sm.refl, fun _ _ => rfl, by simpa using hl⟩
          · rintro X j ⟨x5, g⟩ hj ⟨f1, f2, f3, f4⟩ ih
            dsimp only at f1 f2 f3 f4
            subst f1
            have hog := ho'.mv f2 f3
            obtain ⟨b1, b2, b3, b4, b5, b6⟩ := hog
            unfold F43_58
            dsimp only
            rw [if_neg (nI_ge hj (by omega)), if_neg (by decide), R_of b2, ix_n (by omega), b4.r.ne hd]
            refine ⟨b2, b3, inb_n (by omega), ?_⟩
            have skip : ¬ poC M big s s d j → X (nI j + 1, g) := by
              intro q
              refine ih _ ⟨nI_1 j, f2, f3, ?_⟩
              rw [range_flat]
              unfold mvPo1 at f4 ⊢
              rw [if_neg q, List.append_nil]
              exact f4
            cases e5 : bt (aNe M d) j
            · rw [if_pos ((bt_in (by omega)).mpr e5)]
              exact skip (fun z => absurd (z.2.2.2.2.1.symm.trans e5) (by decide))
            · rw [if_neg ((bt_in' (by omega)).mpr e5)]
              refine S112 hw b5 (poW_St hw hs hd) (fun e7 => ?_) (fun e7 => ?_)
              · rw [if_neg (by decide)]
                refine ⟨b2, b3, S63 hw b4.r b4.2.1 d rfl hd (S44 hw (ho'.mv f2 f3) hd ?_)⟩
                have hpc : poC M big s s d j := ⟨e1, e2, e3, e4, e5, bt_sub.mp e4 j (by omega) e5, e7⟩
                have hlen : (L ++ (List.range j).flatMap (mvPo1 M big cw s d)).length < 60 := by
                  rw [List.length_append]
                  have : ((List.range j).flatMap (mvPo1 M big cw s d)).length ≤ ((List.range d).flatMap (mvPo1 M big cw s d)).length := by
                    have : ∀ m, ((List.range j).flatMap (mvPo1 M big cw s d)).length ≤ ((List.range (j + m)).flatMap (mvPo1 M big cw s d)).length := by
                      intro m
                      induction m with
                      | zero => exact Nat.le_refl _
                      | succ m ih9 => rw [← Nat.add_assoc, range_flat, List.length_append]; omega
                    have := this (d - j)
                    rwa [show j + (d - j) = d by omega] at this
                  omega
                refine S45 _ _ (144 + d * 12 + j) rfl (by show nI 144 + nI d * nI 12 + nI j = _; rw [pk_mul, nI_add, nI_add]) f4 hlen (fun h' s1 s2 s3 => ?_)
                refine ih _ ⟨nI_1 j, f2.trans s1, fun i hi => (s2 i hi).trans (f3 i hi), ?_⟩
                rw [range_flat, ← List.append_assoc]
                have e9 : mvPo1 M big cw s d j = [(poT M s d j, cst M cw d, 144 + d * 12 + j)] := by
                  unfold mvPo1
                  rw [if_pos hpc]
                rw [e9]
                have e10 : nP M d = aNe M d := nP_alone e2
                unfold poT
                rw [← e10]
                exact s3
              · rw [if_pos rfl]
                exact skip (fun z => absurd (z.2.2.2.2.2.2.symm.trans e7) (by decide))
          · rintro X ⟨x5, g⟩ ⟨f1, f2, f3, f4⟩
            dsimp only at f1 f2 f3 f4
            subst f1
            unfold F43_58
            dsimp only
            rw [if_pos (nI_le (Nat.le_refl _) (by omega))]
            exact k g f2 f3 f4
        · rw [if_pos rfl]; exact no (fun z => e2 z.2.1)
      · rw [if_pos e4]; exact no (fun z => e4 z.2.2.2)
    · rw [if_pos ((bt_in' (by omega)).mpr e3)]
      exact no (fun z => absurd (z.2.2.1.symm.trans e3) (by decide))
  · rw [if_pos rfl]
    exact no (fun z => absurd (e1.symm.trans z.1) (by decide))
theorem S41 (hw : Wf M) (ho : LObj h t tm M big cw) (hs : St (aN M) s) (k : ∀ h', Sm (inMv t) h h' → (∀ j, j ≠ 15 → h'.I t j = h.I t j) → LRow h' t (mvs M big cw s) → C h') : W41 t s h C := by
  have h12 := hw.n12
  have s0 : Sm (inMv t) h (h.sI t 15 0) := Sm.refl.sI (by unfold inMv; omega) _
  have cnt : ∀ {g : TH}, Sm (inMv t) h g → (∀ i, i ≠ 15 → g.I t i = h.I t i) → g.P t 2 = some tm ∧ is3 tm ∧ g.I tm 1 = nI (aN M) := by
    intro g q1 q2
    obtain ⟨a1, a2, a3, a4, a5, a6⟩ := ho.mv q1 q2
    exact ⟨a2, a3, a4.r.n⟩
  unfold W41 B41_7
  refine LFP.up (aN M) (fun j q => q.1 = nI j ∧ Sm (inMv t) h q.2 ∧ (∀ i, i ≠ 15 → q.2.I t i = h.I t i) ∧ LRow q.2 t ((List.range j).flatMap (mvMk M big cw s))) ?_ ?_ (Nat.zero_le _) ⟨rfl, s0, fun i hi => I_nk hi, ⟨I_eq, fun i m hm => by simp at hm⟩⟩
  · rintro X j ⟨x2, g⟩ hj ⟨f1, f2, f3, f4⟩ ih
    dsimp only at f1 f2 f3 f4
    subst f1
    obtain ⟨c1, c2, c3⟩ := cnt f2 f3
    unfold F41_7
    dsimp only
    rw [R_of c1, c3, if_neg (nI_ge hj (by omega))]
    refine ⟨c1, c2, S42 hw (ho.mv f2 f3) hs hj f4 ?_ (fun h' s1 s2 s3 => ih _ ⟨nI_1 j, f2.trans s1, fun i hi => (s2 i hi).trans (f3 i hi), ?_⟩)⟩
    · have := len_mk (M := M) (big := big) (cw := cw) (s := s) (j := j) (by omega)
      have := fb_ct_le (fun d => !bt s d) j
      omega
    · rw [range_flat]; exact s3
  · rintro X ⟨x2, g⟩ ⟨f1, f2, f3, f4⟩
    dsimp only at f1 f2 f3 f4
    subst f1
    obtain ⟨c1, c2, c3⟩ := cnt f2 f3
    unfold F41_7
    dsimp only
    rw [R_of c1, c3, if_pos (nI_le (Nat.le_refl _) (by omega))]
    refine ⟨c1, c2, ?_⟩
    unfold B41_32
    refine LFP.up (aN M) (fun j q => q.1 = nI j ∧ Sm (inMv t) h q.2 ∧ (∀ i, i ≠ 15 → q.2.I t i = h.I t i) ∧ LRow q.2 t ((List.range (aN M)).flatMap (mvMk M big cw s) ++ (List.range j).flatMap (mvPo M big cw s))) ?_ ?_ (Nat.zero_le _) ⟨rfl, f2, f3, by simpa using f4⟩
    · rintro Y j ⟨y2, g'⟩ hj ⟨g1, g2, g3, g4⟩ ih
      dsimp only at g1 g2 g3 g4
      subst g1
      obtain ⟨c1, c2, c3⟩ := cnt g2 g3
      unfold F41_32
      dsimp only
      rw [R_of c1, c3, if_neg (nI_ge hj (by omega))]
      refine ⟨c1, c2, S43 hw (ho.mv g2 g3) hs hj g4 ?_ (fun h' s1 s2 s3 => ih _ ⟨nI_1 j, g2.trans s1, fun i hi => (s2 i hi).trans (g3 i hi), ?_⟩)⟩
      · have q1 := len_mk (M := M) (big := big) (cw := cw) (s := s) (j := aN M) h12
        have q2 := len_po (M := M) (big := big) (cw := cw) (s := s) (n := aN M) (j := j + 1) h12 (by omega)
        have q3 := len48 (s := s) (n := aN M) (i := aN M) (j := j + 1) (k := 0) (D := 0) h12 (Nat.le_refl _) (by omega) (Nat.zero_le _) q1 q2 (Nat.zero_le _)
        rw [range_flat, List.length_append] at q3
        rw [List.length_append]
        unfold mvPo at q3 ⊢
        omega
      · rw [range_flat, ← List.append_assoc]; exact s3
    · rintro Y ⟨y2, g'⟩ ⟨g1, g2, g3, g4⟩
      dsimp only at g1 g2 g3 g4
      subst g1
      obtain ⟨c1, c2, c3⟩ := cnt g2 g3
      unfold F41_32
      dsimp only
      rw [R_of c1, c3, if_pos (nI_le (Nat.le_refl _) (by omega))]
      refine ⟨c1, c2, ?_⟩
      unfold B41_57
      refine LFP.up (aN M) (fun j q => q.1 = nI j ∧ Sm (inMv t) h q.2 ∧ (∀ i, i ≠ 15 → q.2.I t i = h.I t i) ∧ LRow q.2 t (((List.range (aN M)).flatMap (mvMk M big cw s) ++ (List.range (aN M)).flatMap (mvPo M big cw s)) ++ (List.range j).flatMap (mvWa s))) ?_ ?_ (Nat.zero_le _) ⟨rfl, g2, g3, by simpa using g4⟩
      · rintro Z j ⟨z2, g''⟩ hj ⟨e1, e2, e3, e4⟩ ih
        dsimp only at e1 e2 e3 e4
        subst e1
        obtain ⟨c1, c2, c3⟩ := cnt e2 e3
        unfold F41_57
        dsimp only
        rw [R_of c1, c3, if_neg (nI_ge hj (by omega))]
        refine ⟨c1, c2, ?_⟩
        cases e : bt s j
        · rw [if_pos ((bt_in (by omega)).mpr e)]
          refine ih _ ⟨nI_1 j, e2, e3, ?_⟩
          rw [range_flat]
          have : mvWa s j = [] := by unfold mvWa; rw [e]; rfl
          rw [this, List.append_nil]
          exact e4
        · rw [if_neg ((bt_in' (by omega)).mpr e)]
          refine S45 _ 1 (288 + j * 12) rfl (by show nI 288 + nI j * nI 12 = _; rw [pk_mul, nI_add]) e4 ?_ (fun h' s1 s2 s3 => ?_)
          · have q1 := len_mk (M := M) (big := big) (cw := cw) (s := s) (j := aN M) h12
            have q2 := len_po (M := M) (big := big) (cw := cw) (s := s) (n := aN M) (j := aN M) h12 (by omega)
            have q3 := len48 (s := s) (n := aN M) (i := aN M) (j := aN M) (k := j) h12 (Nat.le_refl _) (by omega) (by omega) q1 q2 len_wa
            rw [List.length_append, List.length_append]
            omega
          · refine ih _ ⟨nI_1 j, e2.trans s1, fun i hi => (s2 i hi).trans (e3 i hi), ?_⟩
            rw [range_flat, ← List.append_assoc]
            have : mvWa s j = [(s &&& (ishl 1 (nI j) ^^^ (-1)), 1, 288 + j * 12)] := by unfold mvWa; rw [e]; rfl
            rw [this]
            exact s3
      · rintro Z ⟨z2, g''⟩ ⟨e1, e2, e3, e4⟩
        dsimp only at e1 e2 e3 e4
        subst e1
        obtain ⟨c1, c2, c3⟩ := cnt e2 e3
        unfold F41_57
        dsimp only
        rw [R_of c1, c3, if_pos (nI_le (Nat.le_refl _) (by omega))]
        exact ⟨c1, c2, k _ e2 e3 e4⟩
end LS
