/-! FIRST by the reference -/
def inFs (a : Nat) : Prop := a = 197 ∨ a = 209 ∨ a = 210 ∨ a = 211
/-- how a move's number is told -/
def mvK (c : Nat) : Nat := c / 144
def mvDsh (c : Nat) : Nat := c / 12 % 12
def mvO (c : Nat) : Int32 := if c / 144 = 1 then nI (c % 12) else (-1)
section FM
variable {h h' g : TH} {M : Nat → Int32} {big : Nat → Nat} {goal : Int32} {T : Nat → Nat} {u : Nat}
theorem MFit.fr {S : Nat → Prop} (hf : MFit h M big) (hs : Sm S h h') (h1 : ¬ S 206 ∧ ¬ S 207) (h25 : h'.I 197 25 = h.I 197 25) : MFit h' M big := by
  unfold MFit MBig at hf ⊢
  rw [h25, hs.I h1.1, hs.I h1.2]
  exact hf
theorem T_Bk (hT : TG g M big 4096 goal T) (hF : FixT M big 4096 T) (h0 : ∀ u, u < 2 ^ aN M → sb goal (nI u) → T u = 0) : ∀ m u c, u < 2 ^ aN M → Bk M big 4096 goal m u c → c < 2000000000 → T u ≤ c := by
  intro m
  induction m with
  | zero => rintro u c hu ⟨h1, rfl⟩ _; rw [h0 u hu h1]; omega
  | succ m ih =>
    rintro u c hu ⟨v, k, c', h1, h2, rfl⟩ hc
    have := ih v c' h1.1 h2 (by omega)
    rcases Nat.eq_zero_or_pos (T u) with e | e
    · omega
    · have nb := hF u hu e v k h1
      unfold bet at nb
      rcases Nat.lt_or_ge (T v + k) (T u) with q | q
      · exact absurd ⟨by omega, q⟩ nb
      · omega
theorem T_LB (hT : TG g M big 4096 goal T) (hF : FixT M big 4096 T) (h0 : ∀ u, u < 2 ^ aN M → sb goal (nI u) → T u = 0) (hu : u < 2 ^ aN M) (hlt : T u < 2000000000) : LB M big goal u (T u) := by
  refine ⟨hT.2 u hu hlt, fun m c hc => ?_⟩
  rcases Nat.lt_or_ge c 2000000000 with q | q
  · exact T_Bk hT hF h0 m u c hu hc q
  · omega
theorem LB_one {a b : Nat} (h1 : LB M big goal u a) (h2 : LB M big goal u b) : a = b := by
  obtain ⟨⟨m, z1⟩, z2⟩ := h1
  obtain ⟨⟨m', z3⟩, z4⟩ := h2
  have := z2 m' b z3
  have := z4 m a z1
  omega
theorem gd_T (hT : TG g M big 4096 goal T) (hF : FixT M big 4096 T) (h0 : ∀ u, u < 2 ^ aN M → sb goal (nI u) → T u = 0) (hu : u < 2 ^ aN M) (hlt : T u < 2000000000) {m : Int32 × Nat × Nat} {v : Nat} (hv : v < 2 ^ aN M) (ev : ix m.1 = v) : gd M big goal u m ↔ (T v < 2000000000 ∧ T u = T v + m.2.1) := by
  unfold gd
  rw [ev]
  constructor
  · rintro ⟨a, b, l1, l2, l3⟩
    have ea := LB_one l1 (T_LB hT hF h0 hu hlt)
    obtain ⟨m', hm'⟩ := l2.1
    have tv := T_Bk hT hF h0 m' v b hv hm' (by omega)
    have eb := LB_one l2 (T_LB hT hF h0 hv (by omega))
    omega
  · rintro ⟨z1, z2⟩
    exact ⟨T u, T v, T_LB hT hF h0 hu hlt, T_LB hT hF h0 hv z1, z2⟩
theorem S291 {C : Int32 → Prop} {x z : Int32} {v c : Nat} (hn : aN M ≤ 12) (hT : TG h M big 4096 goal T) (hu : u < 2 ^ aN M) (hv : v < 2 ^ aN M) (hx : x = nI v) (hz : z = nI c) (hc : c ≤ 405505) (k1 : T v < 2000000000 → T u = T v + c → C 1) (k0 : ¬ (T v < 2000000000 ∧ T u = T v + c) → C 0) : W291 (nI u) x z h C := by
  have p12 : 2 ^ aN M ≤ 2 ^ 12 := Nat.pow_le_pow_right (by omega) hn
  subst hx hz
  have tu := hT.1 u hu
  have tv := hT.1 v hv
  unfold W291
  rw [if_neg (nI_ne1 (by omega)), ix_n (by omega), ix_n (by omega), tu.1, tv.1]
  refine ⟨inb_n (by omega), ?_⟩
  by_cases e : T v < 2000000000
  · rw [if_neg (show ¬ (2000000000 : Int32) ≤ nI (T v) from nI_ge (b := 2000000000) e (by omega)), nI_add]
    refine ⟨inb_n (by omega), inb_n (by omega), ?_⟩
    by_cases e2 : T u = T v + c
    · rw [if_neg (fun q => q (by rw [e2]))]; exact k1 e e2
    · rw [if_pos (fun q => e2 ((nI_eq (by omega) (by omega)).mp q))]; exact k0 (fun q => e2 q.2)
  · rw [if_pos (show (2000000000 : Int32) ≤ nI (T v) from nI_le (a := 2000000000) (by omega) (by omega))]
    exact k0 (fun q => e q.1)
theorem S291n {C : Int32 → Prop} {y z : Int32} (k : C 0) : W291 y (-1) z h C := by
  unfold W291
  rw [if_pos rfl]
  exact k
theorem range_split {α : Type} (f : Nat → List α) {d n : Nat} (hd : d < n) : ∃ R, (List.range n).flatMap f = (List.range d).flatMap f ++ (f d ++ R) := by
  induction n with
  | zero => omega
  | succ n ih =>
    rw [range_flat]
    by_cases e : d = n
    · exact ⟨[], by rw [e, List.append_nil]⟩
    · obtain ⟨R, hR⟩ := ih (by omega)
      exact ⟨R ++ f n, by rw [hR, List.append_assoc, List.append_assoc]⟩
theorem FG_of {A B : List (Int32 × Nat × Nat)} {m : Int32 × Nat × Nat} (e : mvs M big 4096 (nI u) = A ++ m :: B) (hA : ∀ x, x ∈ A → ¬ gd M big goal u x) (hm : gd M big goal u m) : FG M big goal u A.length m := by
  refine ⟨?_, hm, fun i' m' hi' hm' => hA m' ?_⟩
  · rw [e, List.getElem?_append_right (Nat.le_refl _), Nat.sub_self]
    rfl
  · rw [e, List.getElem?_append_left hi'] at hm'
    exact idx_mem hm'
/-- what walks leaves -/
def FsPut (h g : TH) (j : Nat) (code : Nat) : Prop := Sm inFs h g ∧ (∀ i, i ≠ 30 → g.I 197 i = h.I 197 i) ∧ g.I 197 30 = nI (j + 1) ∧ (∀ i, i ≠ j → g.I 209 i = h.I 209 i ∧ g.I 210 i = h.I 210 i ∧ g.I 211 i = h.I 211 i) ∧ g.I 209 j = nI (mvK code) ∧ g.I 210 j = nI (mvDsh code) ∧ g.I 211 j = mvO code
theorem TG.sm {S : Nat → Prop} {cw : Nat} (hT : TG h M big cw goal T) (hs : Sm S h h') (h1 : ¬ S 208) : TG h' M big cw goal T := by
  unfold TG at hT ⊢
  rw [hs.I h1]
  exact hT
theorem S292 {C : Int32 → TH → Prop} (hw : Wf M) (hM : MA h M) (hf : MFit h M big) (hT : TG h M big 4096 goal T) (hF : FixT M big 4096 T) (h0 : ∀ u, u < 2 ^ aN M → sb goal (nI u) → T u = 0) (hu : u < 2 ^ aN M) (hlt : T u < 2000000000) (hpos : 0 < T u) {j : Nat} (hj : h.I 197 30 = nI j) (hj2 : j < 4096) (kk : ∀ g i m, FG M big goal u i m → FsPut h g j m.2.2 → C m.1 g) : W292 (nI u) h C := by
  have h12 := hw.n12
  have p12 : 2 ^ aN M ≤ 2 ^ 12 := Nat.pow_le_pow_right (by omega) h12
  have hss := St_nI hu
  unfold W292
  rw [hj, nI_1, ix_n (by omega)]
  refine ⟨inb_n (by omega), ?_⟩
  have s0 : Sm inFs h ((h.sI 197 30 (nI (j + 1))).sI 211 j (-1)) := (Sm.refl.sI (Or.inl rfl) _).sI (Or.inr (Or.inr (Or.inr rfl))) _
  have i25 : ((h.sI 197 30 (nI (j + 1))).sI 211 j (-1)).I 197 25 = h.I 197 25 := by rw [I_ne (by omega), I_nk (by omega)]
  have put1 : ∀ kd d : Nat, FsPut h ((((h.sI 197 30 (nI (j + 1))).sI 211 j (-1)).sI 209 j (nI kd)).sI 210 j (nI d)) j (kd * 144 + d * 12) ∨ ¬ (d < 12 ∧ (kd = 0 ∨ kd = 2)) := by
    intro kd d
    by_cases hd : d < 12 ∧ (kd = 0 ∨ kd = 2)
    · left
      refine ⟨(s0.sI (Or.inr (Or.inl rfl)) _).sI (Or.inr (Or.inr (Or.inl rfl))) _, fun i hi => ?_, ?_, fun i hi => ⟨?_, ?_, ?_⟩, ?_, ?_, ?_⟩
      · rw [I_ne (by omega), I_ne (by omega), I_ne (by omega), I_nk hi]
      · rw [I_ne (by omega), I_ne (by omega), I_ne (by omega), I_eq]
      · rw [I_ne (by omega), I_nk hi, I_ne (by omega), I_ne (by omega)]
      · rw [I_nk hi, I_ne (by omega), I_ne (by omega), I_ne (by omega)]
      · rw [I_ne (by omega), I_ne (by omega), I_nk hi, I_ne (by omega)]
      · rw [I_ne (by omega), I_eq]
        unfold mvK
        exact congrArg nI (by omega)
      · rw [I_eq]
        unfold mvDsh
        exact congrArg nI (by omega)
      · rw [I_ne (by omega), I_ne (by omega), I_eq]
        unfold mvO
        rw [if_neg (by omega)]
    · exact Or.inr hd
  have put2 : ∀ d o : Nat, d < 12 → o < d → FsPut h (((((h.sI 197 30 (nI (j + 1))).sI 211 j (-1)).sI 209 j 1).sI 210 j (nI d)).sI 211 j (nI o)) j (144 + d * 12 + o) := by
    intro d o hd ho
    refine ⟨((s0.sI (Or.inr (Or.inl rfl)) _).sI (Or.inr (Or.inr (Or.inl rfl))) _).sI (Or.inr (Or.inr (Or.inr rfl))) _, fun i hi => ?_, ?_, fun i hi => ⟨?_, ?_, ?_⟩, ?_, ?_, ?_⟩
    · rw [I_ne (by omega), I_ne (by omega), I_ne (by omega), I_ne (by omega), I_nk hi]
    · rw [I_ne (by omega), I_ne (by omega), I_ne (by omega), I_ne (by omega), I_eq]
    · rw [I_ne (by omega), I_ne (by omega), I_nk hi, I_ne (by omega), I_ne (by omega)]
    · rw [I_ne (by omega), I_nk hi, I_ne (by omega), I_ne (by omega), I_ne (by omega)]
    · rw [I_nk hi, I_ne (by omega), I_ne (by omega), I_nk hi, I_ne (by omega)]
    · rw [I_ne (by omega), I_ne (by omega), I_eq]
      unfold mvK
      show nI 1 = _
      exact congrArg nI (by omega)
    · rw [I_ne (by omega), I_eq]
      unfold mvDsh
      exact congrArg nI (by omega)
    · rw [I_eq]
      unfold mvO
      rw [if_pos (by omega)]
      exact congrArg nI (by omega)
  have hM1 := hM.sm s0 (by unfold inFs; omega)
  have hT1 := hT.sm s0 (by unfold inFs; omega)
  have hf1 := hf.fr s0 (by unfold inFs; omega) i25
  generalize ((h.sI 197 30 (nI (j + 1))).sI 211 j (-1)) = H at put1 put2 hM1 hT1 hf1 ⊢
  have G : ∀ (m : Int32 × Nat × Nat) v, v < 2 ^ aN M → ix m.1 = v → (gd M big goal u m ↔ (T v < 2000000000 ∧ T u = T v + m.2.1)) := fun m v hv ev => gd_T hT hF h0 hu hlt hv ev
  unfold B292_24
  refine LFP.up (aN M) (fun d q => q = (nI d, H) ∧ ∀ d', d' < d → mkC M big (nI u) d' → ¬ gd M big goal u (mkT M (nI u) d', cst M 4096 d', 0)) ?_ ?_ (Nat.zero_le _) ⟨rfl, fun d' hd' => absurd hd' (Nat.not_lt_zero _)⟩
  · rintro X d q hd ⟨rfl, e1⟩ ih
    obtain ⟨wv, wv1, wv2⟩ := hw.wPb hd
    have esum : (1 : Int32) + 4096 * nI wv = nI (cst M 4096 d) := by
      unfold cst
      rw [wv2, ix_n (by omega)]
      show nI 1 + nI 4096 * nI wv = _
      rw [pk_mul, nI_add, Nat.add_comm]
    unfold F292_24
    (try dsimp only)
    rw [hN0 hM1 hw, if_neg (nI_ge hd (by omega))]
    refine S267 hw hM1 hf1 hss rfl hd (fun q => ?_) (fun q => ?_)
    · refine S255 hw d hM1 rfl hd ?_
      rw [wv2, esum]
      obtain ⟨v, hv, ev⟩ := mkT_St hw hss hd
      have ixv : ix (mkT M (nI u) d) = v := by rw [ev, ix_n (by omega)]
      refine S291 h12 hT1 hu hv ev rfl (cst_le hw hd (Or.inr rfl)).2 (fun z1 z2 => ?_) (fun z => ?_)
      · rw [if_pos (by decide), ix_n (by omega)]
        refine ⟨inb_n (by omega), inb_n (by omega), ?_⟩
        have hgd : gd M big goal u (mkT M (nI u) d, cst M 4096 d, d * 12) := (G _ v hv ixv).mpr ⟨z1, z2⟩
        have hl : leads M d := by
          rcases hw.pa hd with q2 | ⟨f, h1, h2, h3, h4, h5, h6⟩
          · exact Or.inl q2
          · rcases Nat.lt_or_ge d f with z | z
            · exact Or.inr (by rw [h2]; exact nI_lt z (by omega))
            · exfalso
              have g1 : gP M f = gP M d := by
                rw [gP_pair h4 (by omega), gP_pair h2 (by omega)]
                exact Int32.or_comm _ _
              have n1 : nP M f = nP M d := by
                rw [nP_pair h4 (by omega), nP_pair h2 (by omega)]
                exact Int32.or_comm _ _
              have w1 : wP M f = wP M d := by
                unfold wP
                rw [if_neg (by rw [h4]; exact nI_ne1 (by omega)), if_neg (by rw [h2]; exact nI_ne1 (by omega)), h4, h2, ix_n (by omega), ix_n (by omega)]
                obtain ⟨x, x1, x2⟩ := hw.wN hd
                obtain ⟨y, y1, y2⟩ := hw.wN h1
                rw [x2, y2, imax_n (by omega) (by omega), imax_n (by omega) (by omega), Nat.max_comm]
              have mk' : mkC M big (nI u) f := by
                unfold mkC at q ⊢
                rw [g1, n1]
                exact q
              have e3 : mkT M (nI u) f = mkT M (nI u) d := by unfold mkT; rw [g1, n1]
              have e4 : cst M 4096 f = cst M 4096 d := by unfold cst; rw [w1]
              have := e1 f (by omega) mk'
              rw [e3, e4] at this
              exact this hgd
        obtain ⟨R, hR⟩ := range_split (mvMk M big 4096 (nI u)) hd
        have em : mvMk M big 4096 (nI u) d = [(mkT M (nI u) d, cst M 4096 d, d * 12)] := by
          unfold mvMk
          rw [if_pos ⟨hl, q⟩]
        refine kk _ ((List.range d).flatMap (mvMk M big 4096 (nI u))).length (mkT M (nI u) d, cst M 4096 d, d * 12) (FG_of (B := R ++ (List.range (aN M)).flatMap (mvPo M big 4096 (nI u)) ++ (List.range (aN M)).flatMap (mvWa (nI u))) ?_ (fun x hx => ?_) hgd) ?_
        · unfold mvs
          rw [hR, em]
          simp only [List.append_assoc, List.cons_append, List.nil_append]
        · rw [List.mem_flatMap] at hx
          obtain ⟨d', h1, h2⟩ := hx
          have h1 := List.mem_range.mp h1
          unfold mvMk at h2
          split at h2
          · rename_i q9
            have : x = (mkT M (nI u) d', cst M 4096 d', d' * 12) := by simpa using h2
            rw [this]
            exact e1 d' h1 q9.2
          · simp at h2
        · have := (put1 0 d).resolve_right (fun q => q ⟨by omega, Or.inl rfl⟩)
          rw [Nat.zero_mul, Nat.zero_add] at this
          exact this
      · rw [if_neg (fun q => q rfl)]
        refine ih _ ⟨by rw [nI_1], fun d' hd' hm hg => ?_⟩
        by_cases ed : d' = d
        · subst ed; exact z ((G _ v hv ixv).mp hg)
        · exact e1 d' (by omega) hm hg
    · refine S255 hw d hM1 rfl hd ?_
      refine S291n ?_
      rw [if_neg (fun q => q rfl)]
      refine ih _ ⟨by rw [nI_1], fun d' hd' hm hg => ?_⟩
      by_cases ed : d' = d
      · subst ed; exact absurd hm q
      · exact e1 d' (by omega) hm hg
  · rintro X q ⟨rfl, e1⟩
    have noMk : ∀ x, x ∈ (List.range (aN M)).flatMap (mvMk M big 4096 (nI u)) → ¬ gd M big goal u x := by
      intro x hx
      rw [List.mem_flatMap] at hx
      obtain ⟨d', h1, h2⟩ := hx
      have h1 := List.mem_range.mp h1
      unfold mvMk at h2
      split at h2
      · rename_i q9
        have : x = (mkT M (nI u) d', cst M 4096 d', d' * 12) := by simpa using h2
        rw [this]
        exact e1 d' h1 q9.2
      · simp at h2
    unfold F292_24
    (try dsimp only)
    rw [hN0 hM1 hw, if_pos (nI_le (Nat.le_refl _) (by omega))]
    unfold B292_91
    refine LFP.up (aN M) (fun d q => q = (nI d, H) ∧ ∀ x, x ∈ (List.range d).flatMap (mvPo M big 4096 (nI u)) → ¬ gd M big goal u x) ?_ ?_ (Nat.zero_le _) ⟨rfl, fun x hx => by simp at hx⟩
    · rintro Y d q hd ⟨rfl, e2⟩ ih
      unfold F292_91
      (try dsimp only)
      rw [hN0 hM1 hw, if_neg (nI_ge hd (by omega))]
      unfold B292_104
      refine LFP.up d (fun o q => q = (nI o, H) ∧ ∀ x, x ∈ (List.range o).flatMap (mvPo1 M big 4096 (nI u) d) → ¬ gd M big goal u x) ?_ ?_ (Nat.zero_le _) ⟨rfl, fun x hx => by simp at hx⟩
      · rintro Z o q ho ⟨rfl, e3⟩ ih2
        unfold F292_104
        (try dsimp only)
        rw [if_neg (nI_ge ho (by omega))]
        obtain ⟨wv, wv1, wv2⟩ := hw.wN hd
        have hsum : (1 : Int32) + 4096 * nI wv = nI (4096 * wv + 1) := by
          show nI 1 + nI 4096 * nI wv = _
          rw [pk_mul, nI_add, Nat.add_comm]
        refine S268 hw hM1 hf1 hss hss rfl rfl hd (by omega) (fun q => ?_) (fun q => ?_)
        · refine S251 d 0 hM1 rfl rfl (by omega) (by omega) ?_
          rw [show M (16 + 8 * d + 0) = nI wv from wv2, hsum]
          have ec : cst M 4096 d = 4096 * wv + 1 := by rw [cst_alone q.2.1, wv2, ix_n (by omega)]
          obtain ⟨v, hv, ev⟩ := poT_St (o := o) hw hss hd
          have ixv : ix (poT M (nI u) d o) = v := by rw [ev, ix_n (by omega)]
          have e9 : mvPo1 M big 4096 (nI u) d o = [(poT M (nI u) d o, cst M 4096 d, 144 + d * 12 + o)] := by
            unfold mvPo1
            rw [if_pos q]
          refine S291 h12 hT1 hu hv ev rfl (by omega) (fun z1 z2 => ?_) (fun z => ?_)
          · rw [if_pos (by decide), ix_n (by omega)]
            refine ⟨inb_n (by omega), inb_n (by omega), inb_n (by omega), ?_⟩
            have hgd : gd M big goal u (poT M (nI u) d o, cst M 4096 d, 144 + d * 12 + o) := (G _ v hv ixv).mpr ⟨z1, by (try dsimp only); rw [ec]; exact z2⟩
            obtain ⟨R, hR⟩ := range_split (mvPo M big 4096 (nI u)) hd
            obtain ⟨R', hR'⟩ := range_split (mvPo1 M big 4096 (nI u) d) ho
            refine kk _ ((List.range (aN M)).flatMap (mvMk M big 4096 (nI u)) ++ (List.range d).flatMap (mvPo M big 4096 (nI u)) ++ (List.range o).flatMap (mvPo1 M big 4096 (nI u) d)).length (poT M (nI u) d o, cst M 4096 d, 144 + d * 12 + o) (FG_of (B := R' ++ R ++ (List.range (aN M)).flatMap (mvWa (nI u))) ?_ (fun x hx => ?_) hgd) (put2 d o (by omega) ho)
            · unfold mvs
              rw [hR]
              have : mvPo M big 4096 (nI u) d = (List.range d).flatMap (mvPo1 M big 4096 (nI u) d) := rfl
              rw [this, hR', e9]
              simp only [List.append_assoc, List.cons_append, List.nil_append]
            · rw [List.mem_append, List.mem_append] at hx
              rcases hx with (hx | hx) | hx
              · exact noMk x hx
              · exact e2 x hx
              · exact e3 x hx
          · rw [if_neg (fun q => q rfl)]
            refine ih2 _ ⟨by rw [nI_1], fun x hx hg => ?_⟩
            rw [range_flat, List.mem_append, e9] at hx
            rcases hx with hx | hx
            · exact e3 x hx hg
            · have : x = (poT M (nI u) d o, cst M 4096 d, 144 + d * 12 + o) := by simpa using hx
              rw [this] at hg
              have := (G _ v hv ixv).mp hg
              (try dsimp only at this)
              rw [ec] at this
              exact z this
        · refine S251 d 0 hM1 rfl rfl (by omega) (by omega) ?_
          refine S291n ?_
          rw [if_neg (fun q => q rfl)]
          refine ih2 _ ⟨by rw [nI_1], fun x hx hg => ?_⟩
          rw [range_flat, List.mem_append] at hx
          rcases hx with hx | hx
          · exact e3 x hx hg
          · unfold mvPo1 at hx
            rw [if_neg q] at hx
            simp at hx
      · rintro Z q ⟨rfl, e3⟩
        unfold F292_104
        (try dsimp only)
        rw [if_pos (nI_le (Nat.le_refl _) (by omega))]
        refine ih _ ⟨by rw [nI_1], fun x hx hg => ?_⟩
        rw [range_flat, List.mem_append] at hx
        rcases hx with hx | hx
        · exact e2 x hx hg
        · exact e3 x hx hg
    · rintro Y q ⟨rfl, e2⟩
      unfold F292_91
      (try dsimp only)
      rw [hN0 hM1 hw, if_pos (nI_le (Nat.le_refl _) (by omega))]
      /- then it is a WASH -/
      have ex : ∃ d, d < aN M ∧ bt (nI u) d = true ∧ gd M big goal u (nI u &&& (ishl 1 (nI d) ^^^ (-1)), 1, 288 + d * 12) := by
        obtain ⟨m, hm⟩ := hT.2 u hu hlt
        cases m with
        | zero => have := hm.2; omega
        | succ m =>
          obtain ⟨v, c, c', z1, z2, z3⟩ := hm
          obtain ⟨hv, code, hmem⟩ := z1
          have tv := T_Bk hT hF h0 m v c' hv z2 (by omega)
          have nb := hF u hu hpos v c ⟨hv, code, hmem⟩
          have tu : T u = T v + c := by
            unfold bet at nb
            rcases Nat.lt_or_ge (T v + c) (T u) with q | q
            · exact absurd ⟨by omega, q⟩ nb
            · omega
          have hgd : gd M big goal u (nI v, c, code) := (G _ v hv (ix_n (by omega))).mpr ⟨by omega, tu⟩
          unfold mvs at hmem
          rw [List.mem_append, List.mem_append] at hmem
          rcases hmem with (hx | hx) | hx
          · exact absurd hgd (noMk _ hx)
          · exact absurd hgd (e2 _ hx)
          · rw [List.mem_flatMap] at hx
            obtain ⟨d, h1, h2⟩ := hx
            unfold mvWa at h2
            split at h2
            · rename_i q9
              have e5 : (nI v, c, code) = (nI u &&& (ishl 1 (nI d) ^^^ (-1)), 1, 288 + d * 12) := by simpa using h2
              rw [e5] at hgd
              exact ⟨d, List.mem_range.mp h1, q9, hgd⟩
            · simp at h2
      obtain ⟨dw, dw1, dw2, dw3⟩ := ex
      unfold B292_185
      refine LFP.ix (fun m q => ∃ d, q = (nI d, H) ∧ m = dw - d ∧ d ≤ dw ∧ ∀ x, x ∈ (List.range d).flatMap (mvWa (nI u)) → ¬ gd M big goal u x) ?_ (k := dw) ⟨0, rfl, rfl, Nat.zero_le _, fun x hx => by simp at hx⟩
      rintro Z m q ⟨d, rfl, f1, f2, f3⟩ ih
      have hd : d < aN M := by omega
      unfold F292_185
      (try dsimp only)
      refine S250 d rfl hss (by omega) (by omega) (fun eb => ?_) (fun eb => ?_)
      · rw [if_neg (by decide)]
        obtain ⟨v, hv, ev⟩ := St_and (ishl 1 (nI d) ^^^ (-1)) hss
        have ixv : ix (nI u &&& (ishl 1 (nI d) ^^^ (-1))) = v := by rw [ev, ix_n (by omega)]
        have e9 : mvWa (nI u) d = [(nI u &&& (ishl 1 (nI d) ^^^ (-1)), 1, 288 + d * 12)] := by unfold mvWa; rw [eb]; rfl
        refine S291 (c := 1) h12 hT1 hu hv ev rfl (by omega) (fun z1 z2 => ?_) (fun z => ?_)
        · rw [if_pos (by decide), ix_n (by omega)]
          refine ⟨inb_n (by omega), inb_n (by omega), ?_⟩
          have hgd : gd M big goal u (nI u &&& (ishl 1 (nI d) ^^^ (-1)), 1, 288 + d * 12) := (G _ v hv ixv).mpr ⟨z1, z2⟩
          obtain ⟨R, hR⟩ := range_split (mvWa (nI u)) hd
          refine kk _ ((List.range (aN M)).flatMap (mvMk M big 4096 (nI u)) ++ (List.range (aN M)).flatMap (mvPo M big 4096 (nI u)) ++ (List.range d).flatMap (mvWa (nI u))).length (nI u &&& (ishl 1 (nI d) ^^^ (-1)), 1, 288 + d * 12) (FG_of (B := R) ?_ (fun x hx => ?_) hgd) ?_
          · unfold mvs
            rw [hR, e9]
            simp only [List.append_assoc, List.cons_append, List.nil_append]
          · rw [List.mem_append, List.mem_append] at hx
            rcases hx with (hx | hx) | hx
            · exact noMk x hx
            · exact e2 x hx
            · exact f3 x hx
          · exact (put1 2 d).resolve_right (fun q => q ⟨by omega, Or.inr rfl⟩)
        · rw [if_neg (fun q => q rfl)]
          have nd : d ≠ dw := by
            intro q
            subst q
            exact z ((G _ v hv ixv).mp dw3)
          refine ih (dw - (d + 1)) _ (by omega) ⟨d + 1, by rw [nI_1], rfl, by omega, fun x hx hg => ?_⟩
          rw [range_flat, List.mem_append, e9] at hx
          rcases hx with hx | hx
          · exact f3 x hx hg
          · have : x = (nI u &&& (ishl 1 (nI d) ^^^ (-1)), 1, 288 + d * 12) := by simpa using hx
            rw [this] at hg
            exact z ((G _ v hv ixv).mp hg)
      · rw [if_pos rfl]
        have nd : d ≠ dw := by
          intro q
          subst q
          exact absurd (eb.symm.trans dw2) (by decide)
        refine ih (dw - (d + 1)) _ (by omega) ⟨d + 1, by rw [nI_1], rfl, by omega, fun x hx hg => ?_⟩
        rw [range_flat, List.mem_append] at hx
        rcases hx with hx | hx
        · exact f3 x hx hg
        · unfold mvWa at hx
          rw [if_neg (by rw [eb]; decide)] at hx
          simp at hx
end FM
