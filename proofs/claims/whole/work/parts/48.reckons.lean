/-! until nothing is better -/
def FixT (M : Nat → Int32) (big : Nat → Nat) (cw : Nat) (T : Nat → Nat) : Prop := ∀ u, u < 2 ^ aN M → 0 < T u → ∀ v c, Mv M big cw u v c → ¬ bet T u v c
section RC
variable {h h' g : TH} {M : Nat → Int32} {big : Nat → Nat} {cw : Nat} {goal : Int32} {T T' : Nat → Nat} {C : TH → Prop}
theorem S248 {D : Int32 → Prop} (hw : Wf M) (hM : MA h M) (k : D (nI (2 ^ aN M))) : W248 h D := by
  have h12 := hw.n12
  unfold W248
  rw [hN0 hM hw, ishl_pow _ (by omega)]
  exact k
theorem sm_dec {N s : Nat} (hs : s < N) (h1 : T' s < T s) (h2 : ∀ i, i ≠ s → T' i = T i) : fb_sm T' N < fb_sm T N := by
  have e : T' = fun i => if i = s then T' s else T i := by
    funext i
    by_cases q : i = s
    · rw [if_pos q, q]
    · rw [if_neg q]; exact h2 i q
  have u := fb_sm_upd T (T' s) hs
  rw [← e] at u
  omega
/-- one pass over all sets, from the last on -/
theorem pass (hw : Wf M) (hM : MA h M) (hf : MFit h M big) (hT : TG h M big cw goal T) {bw : Int32} (hbw : (cw = 0 ∧ bw = 0) ∨ (cw = 4096 ∧ bw = 1)) {X : Int32 × TH → Prop} (k1 : ∀ g T', Sm i208 h g → TG g M big cw goal T' → (∀ i, T' i ≤ T i) → fb_sm T' (2 ^ aN M) < fb_sm T (2 ^ aN M) → X (1, g)) (k0 : ∀ g, Sm i208 h g → TG g M big cw goal T → FixT M big cw T → X (0, g)) : B284_53 bw 0 (nI (2 ^ aN M) - 1) h C X := by
  have h12 := hw.n12
  have p12 : 2 ^ aN M ≤ 2 ^ 12 := Nat.pow_le_pow_right (by omega) h12
  have n198 : ¬ i208 198 := by unfold i208; omega
  unfold B284_53
  refine LFP.down (fun m q => m ≤ 2 ^ aN M ∧ q.2.1 = nI m - 1 ∧ ∃ T', Sm i208 h q.2.2 ∧ TG q.2.2 M big cw goal T' ∧ (∀ i, T' i ≤ T i) ∧ ((q.1 = 1 ∧ fb_sm T' (2 ^ aN M) < fb_sm T (2 ^ aN M)) ∨ (q.1 = 0 ∧ T' = T ∧ ∀ u, m ≤ u → u < 2 ^ aN M → 0 < T u → ∀ v c, Mv M big cw u v c → ¬ bet T u v c))) ?_ ?_ (n := 2 ^ aN M) ⟨Nat.le_refl _, rfl, T, Sm.refl, hT, fun _ => Nat.le_refl _, Or.inr ⟨rfl, rfl, fun u q1 q2 => absurd q2 (by omega)⟩⟩
  · rintro Y m ⟨x3, x4, g⟩ ⟨e0, e1, T1, e2, e3, e5, e4⟩ ih
    (try dsimp only at e1 e2 e3 e4)
    rw [nI_pred] at e1
    subst e1
    have hm : m < 2 ^ aN M := by omega
    have tm := e3.1 m hm
    have hm1 : nI m + (-1) = nI m - 1 := by rw [Int32.sub_eq_add_neg]
    unfold F284_53 B284_82
    (try dsimp only)
    rw [if_neg (nI_pos (by omega)), ix_n (by omega), tm.1]
    refine ⟨inb_n (by omega), ?_⟩
    by_cases ez : T1 m = 0
    · rw [if_pos (by rw [ez]; decide)]
      refine ih _ ⟨by omega, hm1, T1, e2, e3, e5, ?_⟩
      rcases e4 with q | ⟨q1, q2, q3⟩
      · exact Or.inl q
      · refine Or.inr ⟨q1, q2, fun u u1 u2 u3 => ?_⟩
        by_cases eu : u = m
        · subst eu; subst q2; omega
        · exact q3 u (by omega) u2 u3
    · rw [if_neg (nI_nle (by omega) (by omega))]
      refine S286 hw (hM.sm e2 n198) (hf.sm e2 (by unfold i208; omega)) e3 hm hbw (fun g' T2 fl b1 b2 => ?_)
      have s2 := e2.trans b1.1
      have le2 : ∀ i, T2 i ≤ T i := by
        intro i
        refine Nat.le_trans ?_ (e5 i)
        by_cases ei : i = m
        · rw [ei]
          rcases b1.2.2.2 with ⟨_, q⟩ | ⟨_, q⟩ <;> omega
        · rw [b1.2.2.1 i ei]; exact Nat.le_refl _
      rcases b1.2.2.2 with ⟨q1, q2⟩ | ⟨q1, q2⟩
      · subst q1
        rw [if_pos (by decide)]
        have dec := sm_dec hm q2 b1.2.2.1
        refine ih _ ⟨by omega, hm1, T2, s2, b1.2.1, le2, Or.inl ⟨rfl, ?_⟩⟩
        rcases e4 with ⟨_, q⟩ | ⟨_, q, _⟩
        · omega
        · rw [← q]; exact dec
      · subst q1
        rw [if_neg (fun q => q rfl)]
        have er := b1.row
        rcases e4 with ⟨w1, w2⟩ | ⟨w1, w2, w3⟩
        · rw [if_neg (by rw [w1]; decide)]
          exact ih _ ⟨by omega, hm1, T2, s2, b1.2.1, le2, Or.inl ⟨rfl, by rw [er]; exact w2⟩⟩
        · rw [if_pos w1]
          refine ih _ ⟨by omega, hm1, T2, s2, b1.2.1, le2, Or.inr ⟨rfl, by rw [er]; exact w2, fun u u1 u2 u3 => ?_⟩⟩
          by_cases eu : u = m
          · subst eu
            rw [← w2]
            exact b2 rfl
          · exact w3 u (by omega) u2 u3
  · rintro Y ⟨x3, x4, g⟩ ⟨e0, e1, T1, e2, e3, e5, e4⟩
    (try dsimp only at e1 e2 e3 e4)
    subst e1
    unfold F284_53
    (try dsimp only)
    rw [if_pos nI_0s]
    rcases e4 with ⟨q1, q2⟩ | ⟨q1, q2, q3⟩
    · subst q1
      exact k1 g T1 e2 e3 e5 q2
    · subst q1 q2
      exact k0 g e2 e3 (fun u u2 u3 => q3 u (by omega) u2 u3)
theorem S284 (hw : Wf M) (hM : MA h M) (hf : MFit h M big) (hg : St (aN M) goal) {bw : Int32} (hbw : (cw = 0 ∧ bw = 0) ∨ (cw = 4096 ∧ bw = 1)) (kk : ∀ g T, Sm i208 h g → TG g M big cw goal T → FixT M big cw T → (∀ u, u < 2 ^ aN M → sb goal (nI u) → T u = 0) → C g) : W284 goal bw h C := by
  have h12 := hw.n12
  have p12 : 2 ^ aN M ≤ 2 ^ 12 := Nat.pow_le_pow_right (by omega) h12
  have n198 : ¬ i208 198 := by unfold i208; omega
  unfold W284 B284_2
  refine LFP.up (2 ^ aN M) (fun j q => q.1 = nI j ∧ Sm i208 h q.2 ∧ ∀ u, u < j → (sb goal (nI u) → q.2.I 208 u = nI 0) ∧ (¬ sb goal (nI u) → q.2.I 208 u = nI 2000000000)) ?_ ?_ (Nat.zero_le _) ⟨rfl, Sm.refl, fun u hu => absurd hu (Nat.not_lt_zero _)⟩
  · rintro X j ⟨x3, g⟩ hj ⟨e1, e2, e3⟩ ih
    (try dsimp only at e1 e2 e3)
    subst e1
    unfold F284_2
    (try dsimp only)
    refine S248 hw (hM.sm e2 n198) ?_
    rw [if_neg (nI_ge hj (by omega)), ix_n (by omega)]
    by_cases e : goal &&& (nI j ^^^ (-1)) = 0
    · rw [if_neg (fun q => q e)]
      refine ⟨inb_n (by omega), ih _ ⟨nI_1 j, e2.sI rfl _, fun u hu => ?_⟩⟩
      (try dsimp only)
      rw [I_at]
      by_cases eu : u = j
      · subst eu
        rw [if_pos rfl]
        exact ⟨fun _ => rfl, fun q => absurd (bt_sub.mp e) q⟩
      · rw [if_neg eu]; exact e3 u (by omega)
    · rw [if_pos e]
      refine ⟨inb_n (by omega), ih _ ⟨nI_1 j, e2.sI rfl _, fun u hu => ?_⟩⟩
      (try dsimp only)
      rw [I_at]
      by_cases eu : u = j
      · subst eu
        rw [if_pos rfl]
        exact ⟨fun q => absurd (bt_sub.mpr q) e, fun _ => rfl⟩
      · rw [if_neg eu]; exact e3 u (by omega)
  · rintro X ⟨x3, g⟩ ⟨e1, e2, e3⟩
    (try dsimp only at e1 e2 e3)
    subst e1
    have hMg := hM.sm e2 n198
    have hfg := hf.sm e2 (by unfold i208; omega)
    unfold F284_2
    (try dsimp only)
    refine S248 hw hMg ?_
    rw [if_pos (nI_le (Nat.le_refl _) (by omega))]
    /- the first row -/
    have T0 : ∃ T, TG g M big cw goal T ∧ ∀ u, u < 2 ^ aN M → sb goal (nI u) → T u = 0 := by
      refine ⟨fun u => ix (g.I 208 u), ⟨fun u hu => ?_, fun u hu q => ?_⟩, fun u hu q => ?_⟩
      · (try dsimp only)
        by_cases e : sb goal (nI u)
        · rw [(e3 u hu).1 e, ix_n (by omega)]; exact ⟨rfl, by omega⟩
        · rw [(e3 u hu).2 e, ix_n (by omega)]; exact ⟨rfl, by omega⟩
      · (try dsimp only at q ⊢)
        by_cases e : sb goal (nI u)
        · rw [(e3 u hu).1 e, ix_n (by omega)]; exact ⟨0, e, rfl⟩
        · rw [(e3 u hu).2 e, ix_n (by omega)] at q; omega
      · (try dsimp only)
        rw [(e3 u hu).1 q, ix_n (by omega)]
    obtain ⟨T, hT, hT0⟩ := T0
    unfold B284_39
    refine LFP.ix (fun m q => ∃ T, Sm i208 h q.2 ∧ TG q.2 M big cw goal T ∧ (∀ u, u < 2 ^ aN M → sb goal (nI u) → T u = 0) ∧ ((q.1 = 1 ∧ m = fb_sm T (2 ^ aN M) + 1) ∨ (q.1 = 0 ∧ m = 0 ∧ FixT M big cw T))) ?_ (k := fb_sm T (2 ^ aN M) + 1) ⟨T, e2, hT, hT0, Or.inl ⟨rfl, rfl⟩⟩
    rintro Y m ⟨y3, g1⟩ ⟨T1, f1, f2, f3, f4⟩ ih
    (try dsimp only at f1 f2 f4)
    unfold F284_39
    (try dsimp only)
    rcases f4 with ⟨q1, q2⟩ | ⟨q1, q2, q3⟩
    · subst q1
      rw [if_neg (by decide)]
      refine S248 hw (hM.sm f1 n198) ?_
      refine pass hw (hM.sm f1 n198) (hf.sm f1 (by unfold i208; omega)) f2 hbw (fun g2 T2 s1 s2 s9 s3 => ?_) (fun g2 s1 s2 s3 => ?_)
      · refine ih (fb_sm T2 (2 ^ aN M) + 1) _ (by omega) ⟨T2, f1.trans s1, s2, fun u hu q => ?_, Or.inl ⟨rfl, rfl⟩⟩
        have z1 := f3 u hu q
        have z2 := s9 u
        omega
      · exact ih 0 _ (by omega) ⟨T1, f1.trans s1, s2, f3, Or.inr ⟨rfl, rfl, s3⟩⟩
    · rw [if_pos q1]
      exact kk g1 T1 f1 f2 q3 f3
theorem Bk_Wk : ∀ m u c, Bk M big cw goal m u c → ∀ m' c', Wk M big cw m' u c' → u < 2 ^ aN M → ∃ m'' v, Wk M big cw m'' v (c' + c) ∧ sb goal (nI v) := by
  intro m
  induction m with
  | zero =>
    rintro u c ⟨h1, rfl⟩ m' c' h2 _
    exact ⟨m', u, h2, h1⟩
  | succ m ih =>
    rintro u c ⟨v, k, c1, h1, h2, rfl⟩ m' c' h3 hu
    obtain ⟨m'', v', h4, h5⟩ := ih v c1 h2 (m' + 1) (c' + k) ⟨u, c', k, h3, h1, rfl⟩ h1.1
    exact ⟨m'', v', by rw [show c' + (c1 + k) = c' + k + c1 by omega]; exact h4, h5⟩
/-- along any way: what is to go from nothing is no more -/
theorem way_T (hT : TG g M big cw goal T) (hF : FixT M big cw T) : ∀ m v c, Wk M big cw m v c → v < 2 ^ aN M ∧ ∀ r, T v ≤ r → r + c < 2000000000 → T 0 ≤ c + r := by
  intro m
  induction m with
  | zero =>
    rintro v c ⟨rfl, rfl⟩
    exact ⟨Nat.pos_of_ne_zero (by simp), fun r h1 _ => by omega⟩
  | succ m ih =>
    rintro v c ⟨u, c', k, h1, h2, rfl⟩
    obtain ⟨hu, h3⟩ := ih u c' h1
    refine ⟨h2.1, fun r h4 h5 => ?_⟩
    have : T u ≤ r + k := by
      rcases Nat.eq_zero_or_pos (T u) with e | e
      · omega
      · have nb := hF u hu e v k h2
        unfold bet at nb
        have : ¬ T v = 2000000000 := by omega
        rcases Nat.lt_or_ge (T v + k) (T u) with q | q
        · exact absurd ⟨this, q⟩ nb
        · omega
    have := h3 (r + k) this (by omega)
    omega
theorem T_done (hT : TG g M big cw goal T) (hF : FixT M big cw T) (h0 : ∀ u, u < 2 ^ aN M → sb goal (nI u) → T u = 0) : (T 0 < 2000000000 → Lst M big cw goal (T 0)) ∧ ∀ m v c, Wk M big cw m v c → sb goal (nI v) → c < 2000000000 → T 0 ≤ c := by
  have p0 : 0 < 2 ^ aN M := Nat.pos_of_ne_zero (by simp)
  have low : ∀ m v c, Wk M big cw m v c → sb goal (nI v) → c < 2000000000 → T 0 ≤ c := by
    intro m v c h1 h2 h3
    obtain ⟨hv, h4⟩ := way_T hT hF m v c h1
    have := h4 0 (by rw [h0 v hv h2]; omega) (by omega)
    omega
  refine ⟨fun hlt => ⟨?_, fun m v c h1 h2 => ?_⟩, low⟩
  · obtain ⟨m, hm⟩ := hT.2 0 p0 hlt
    obtain ⟨m'', v, h4, h5⟩ := Bk_Wk m 0 (T 0) hm 0 0 ⟨rfl, rfl⟩ p0
    rw [Nat.zero_add] at h4
    exact ⟨m'', v, h4, h5⟩
  · rcases Nat.lt_or_ge c 2000000000 with q | q
    · exact low m v c h1 h2 q
    · omega
/-- class and reference come to the same -/
theorem T_sought {r : Option Nat} (hT : TG g M big cw goal T) (hF : FixT M big cw T) (h0 : ∀ u, u < 2 ^ aN M → sb goal (nI u) → T u = 0) (hr : Sought M big cw goal r) : (r = none ∧ T 0 = 2000000000) ∨ (r = some (T 0) ∧ T 0 < 2000000000 ∧ T 0 ≤ 1660948480) := by
  have p0 : 0 < 2 ^ aN M := Nat.pos_of_ne_zero (by simp)
  obtain ⟨d1, d2⟩ := T_done hT hF h0
  have b := (hT.1 0 p0).2
  cases r with
  | none =>
    left
    refine ⟨rfl, ?_⟩
    rcases Nat.lt_or_ge (T 0) 2000000000 with q | q
    · obtain ⟨⟨m, v, h1, h2⟩, _⟩ := d1 q
      exact absurd h2 (hr m v _ h1)
    · omega
  | some c =>
    right
    obtain ⟨h1, h2⟩ := hr
    have h1' := h1
    obtain ⟨⟨m, v, h3, h4⟩, _⟩ := h1'
    have := d2 m v c h3 h4 (by omega)
    have lt : T 0 < 2000000000 := by omega
    have e := Lst_one (d1 lt) h1
    rw [e]
    exact ⟨rfl, by omega, h2⟩
/-- all that fits is laid -/
def in207 (a : Nat) : Prop := a = 207 ∨ a = 197
theorem S263l (hw : Wf M) (hM : MA h M) (hb : ∀ z, z < 10 → big z ≤ 20) (h25 : h.I 197 25 = 0) (hB : MBig h big) (kk : ∀ g, Sm in207 h g → (∀ j, j ≠ 25 → g.I 197 j = h.I 197 j) → MFit g M big → C g) : B263_8 0 h C := by
  have h12 := hw.n12
  have p12 : 2 ^ aN M ≤ 2 ^ 12 := Nat.pow_le_pow_right (by omega) h12
  unfold B263_8
  refine LFP.up (2 ^ aN M) (fun j q => q.1 = nI j ∧ Sm (fun a => a = 207) h q.2 ∧ ∀ u, u < j → q.2.I 207 u = if fitB M big (nI u) then 1 else 0) ?_ ?_ (Nat.zero_le _) ⟨rfl, Sm.refl, fun u hu => absurd hu (Nat.not_lt_zero _)⟩
  · rintro X j ⟨x3, g⟩ hj ⟨e1, e2, e3⟩ ih
    (try dsimp only at e1 e2 e3)
    subst e1
    unfold F263_8
    (try dsimp only)
    have hMg := hM.sm e2 (by omega)
    refine S248 hw hMg ?_
    rw [if_neg (nI_ge hj (by omega)), ix_n (by omega)]
    have hf : MFit g M big := ⟨hb, Or.inl ⟨by rw [e2.I (by omega)]; exact h25, fun z z1 z2 => by rw [e2.I (by omega)]; exact hB z z1 z2⟩⟩
    have nxt : ∀ v : Int32, v = (if fitB M big (nI j) then 1 else 0) → X (nI j + 1, g.sI 207 j v) := by
      intro v hv
      refine ih _ ⟨nI_1 j, e2.sI rfl _, fun u hu => ?_⟩
      (try dsimp only)
      rw [I_at]
      by_cases eu : u = j
      · rw [if_pos eu, eu]; exact hv
      · rw [if_neg eu]; exact e3 u (by omega)
    refine S262 hw hMg hf (St_nI hj) (fun q => ?_) (fun q => ?_)
    · exact ⟨inb_n (by omega), nxt _ (by rw [q]; rfl)⟩
    · exact ⟨inb_n (by omega), nxt _ (by rw [q]; rfl)⟩
  · rintro X ⟨x3, g⟩ ⟨e1, e2, e3⟩
    (try dsimp only at e1 e2 e3)
    subst e1
    unfold F263_8
    (try dsimp only)
    refine S248 hw (hM.sm e2 (by omega)) ?_
    rw [if_pos (nI_le (Nat.le_refl _) (by omega))]
    have e4 : Sm in207 h g := e2.mono (fun a z => Or.inl z)
    refine kk _ (e4.sI (Or.inr rfl) _) (fun j hj => ?_) ⟨hb, Or.inr ⟨?_, fun u hu => ?_⟩⟩
    · rw [I_nk hj, e2.I (by omega)]
    · rw [I_eq]; decide
    · rw [I_ne (by omega)]; exact e3 u hu
def inFit (a : Nat) : Prop := a = 197 ∨ a = 206 ∨ a = 207
theorem S263 (hw : Wf M) (hM : MA h M) (more : Nat) (hm : more ≤ 9) {x : Int32} (hx : x = nI more) (kk : ∀ g, Sm inFit h g → (∀ j, j ≠ 25 → g.I 197 j = h.I 197 j) → MFit g M (bigK M more) → C g) : W263 x (-1) h C := by
  unfold W263
  refine S261 hw hM more hx hm (fun h1 s1 s2 s3 => ?_)
  refine S263l hw (hM.sm s1 (by unfold in206; omega)) (fun z _ => by have := bigK_le (M := M) more z hw; omega) (by rw [s2, I_eq]) s3 (fun g t1 t2 t3 => kk g ?_ (fun j hj => ?_) t3)
  · exact (s1.mono (fun a z => by unfold in206 at z; unfold inFit; omega)).trans (t1.mono (fun a z => by unfold in207 at z; unfold inFit; omega))
  · rw [t2 j hj, s2, I_nk hj]
theorem S263o (hw : Wf M) (hM : MA h M) (p : Nat) (hp : p ≤ 12) {x y : Int32} (hy : y = nI p) (kk : ∀ g, Sm inFit h g → (∀ j, j ≠ 25 → g.I 197 j = h.I 197 j) → MFit g M (fun _ => p) → C g) : W263 x y h C := by
  unfold W263
  refine S261o hw hM p hp hy (fun h1 s1 s2 s3 => ?_)
  refine S263l hw (hM.sm s1 (by unfold in206; omega)) (fun z _ => by omega) (by rw [s2, I_eq]) s3 (fun g t1 t2 t3 => kk g ?_ (fun j hj => ?_) t3)
  · exact (s1.mono (fun a z => by unfold in206 at z; unfold inFit; omega)).trans (t1.mono (fun a z => by unfold in207 at z; unfold inFit; omega))
  · rw [t2 j hj, s2, I_nk hj]
/-- leastWork, once the class has sought -/
theorem S287 {D : Int32 → TH → Prop} {r : Option Nat} (hw : Wf M) (hM : MA h M) (hf : MFit h M big) (hg : St (aN M) goal) (hr : Sought M big 4096 goal r) (kk : ∀ g T, Sm i208 h g → TG g M big 4096 goal T → FixT M big 4096 T → (∀ u, u < 2 ^ aN M → sb goal (nI u) → T u = 0) → D (match r with | none => (-1) | some c => nI (c / 4096)) g) : W287 goal h D := by
  have p0 : 0 < 2 ^ aN M := Nat.pos_of_ne_zero (by simp)
  unfold W287
  refine S284 hw hM hf hg (Or.inr ⟨rfl, rfl⟩) (fun g T s1 s2 s3 s4 => ?_)
  have := kk g T s1 s2 s3 s4
  rw [ix_0, (s2.1 0 p0).1]
  rcases T_sought s2 s3 s4 hr with ⟨e1, e2⟩ | ⟨e1, e2, e3⟩
  · subst e1
    rw [e2, if_neg (fun q => q rfl)]
    exact this
  · subst e1
    rw [if_pos (fun q => by rw [show (2000000000 : Int32) = nI 2000000000 from rfl, nI_eq (by omega) (by omega)] at q; omega), show nI (T 0) / 4096 = nI (T 0 / 4096) from pk_div (d := 4096) (by omega) (by omega) (by omega)]
    exact this
end RC
