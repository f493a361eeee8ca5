/-! LEAST WORK, LEAST STEPS by the reference: how much is still to go -/
/-- ways on from u to the GOAL -/
def Bk (M : Nat → Int32) (big : Nat → Nat) (cw : Nat) (goal : Int32) : Nat → Nat → Nat → Prop
  | 0, u, c => sb goal (nI u) ∧ c = 0
  | m + 1, u, c => ∃ v k c', Mv M big cw u v k ∧ Bk M big cw goal m v c' ∧ c = c' + k
def bet (T : Nat → Nat) (u v c : Nat) : Prop := ¬ T v = 2000000000 ∧ T v + c < T u
/-- the row toGo tells T; what it tells is a way -/
def TG (h : TH) (M : Nat → Int32) (big : Nat → Nat) (cw : Nat) (goal : Int32) (T : Nat → Nat) : Prop := (∀ u, u < 2 ^ aN M → h.I 208 u = nI (T u) ∧ T u ≤ 2000000000) ∧ ∀ u, u < 2 ^ aN M → T u < 2000000000 → ∃ m, Bk M big cw goal m u (T u)
def i208 (a : Nat) : Prop := a = 208
section RK
variable {h h' : TH} {M : Nat → Int32} {big : Nat → Nat} {cw : Nat} {goal : Int32} {T : Nat → Nat} {C : Int32 → TH → Prop} {u : Nat}
theorem Mv_make (hw : Wf M) {s d : Nat} (hs : s < 2 ^ aN M) (hd : d < aN M) (hm : mkC M big (nI s) d) {v : Nat} (hv : v < 2 ^ aN M) (e : mkT M (nI s) d = nI v) : Mv M big cw s v (cst M cw d) := by
  have h12 := hw.n12
  refine ⟨hv, ?_⟩
  by_cases hl : leads M d
  · exact ⟨_, mvs_mem.mpr (Or.inl ⟨d, hd, hl, hm, by rw [e]⟩)⟩
  · rcases hw.pa hd with q | ⟨f, h1, h2, h3, h4, h5, h6⟩
    · exact absurd (Or.inl q) hl
    · have hfd : f < d := by
        rcases Nat.lt_or_ge d f with z | z
        · exact absurd (Or.inr (by rw [h2]; exact nI_lt z (by omega))) hl
        · omega
      have g1 : gP M f = gP M d := by
        rw [gP_pair h4 (by omega), gP_pair h2 (by omega)]
        exact Int32.or_comm _ _
      have n1 : nP M f = nP M d := by
        rw [nP_pair h4 (by omega), nP_pair h2 (by omega)]
        exact Int32.or_comm _ _
      have w1 : wP M f = wP M d := by
        unfold wP
        rw [if_neg (by rw [h4]; exact nI_ne1 (by omega)), if_neg (by rw [h2]; exact nI_ne1 (by omega)), h4, h2, ix_n (by omega), ix_n (by omega)]
        obtain ⟨x, x1, x2⟩ := hw.wN hd
        obtain ⟨y, y1, y2⟩ := hw.wN h1
        rw [x2, y2, imax_n (by omega) (by omega), imax_n (by omega) (by omega), Nat.max_comm]
      refine ⟨f * 12, mvs_mem.mpr (Or.inl ⟨f, h1, Or.inr (by rw [h4]; exact nI_lt hfd (by omega)), ?_, ?_⟩)⟩
      · unfold mkC at hm ⊢
        rw [g1, n1]
        exact hm
      · unfold mkT cst at *
        rw [g1, n1, w1, e]
theorem St_nI {n v : Nat} (h : v < 2 ^ n) : St n (nI v) := ⟨v, h, rfl⟩
theorem S285 {s v c : Nat} {x y z : Int32} (hx : x = nI s) (hy : y = nI v) (hz : z = nI c) (hn : aN M ≤ 12) (hT : TG h M big cw goal T) (hs : s < 2 ^ aN M) (hv : v < 2 ^ aN M) (hc : c ≤ 405505) (k1 : bet T s v c → C 1 (h.sI 208 s (nI (T v + c)))) (k0 : ¬ bet T s v c → C 0 h) : W285 x y z h C := by
  have p12 : 2 ^ aN M ≤ 2 ^ 12 := Nat.pow_le_pow_right (by omega) hn
  subst hx hy hz
  obtain ⟨t1, t2⟩ := hT
  unfold W285
  rw [if_neg (nI_ne1 (by omega)), ix_n (by omega), ix_n (by omega), (t1 v hv).1, (t1 s hs).1]
  have b1 := (t1 v hv).2
  have b2 := (t1 s hs).2
  refine ⟨inb_n (by omega), ?_⟩
  by_cases e : T v = 2000000000
  · rw [if_pos (by rw [e]; rfl)]; exact k0 (fun q => q.1 e)
  · rw [if_neg (fun q => e (by rw [show (2000000000 : Int32) = nI 2000000000 from rfl, nI_eq (by omega) (by omega)] at q; exact q)), nI_add]
    refine ⟨inb_n (by omega), inb_n (by omega), ?_⟩
    by_cases e2 : T v + c < T s
    · rw [if_pos (nI_lt e2 (by omega))]
      exact ⟨inb_n (by omega), inb_n (by omega), k1 ⟨e, e2⟩⟩
    · rw [if_neg (nI_nlt (by omega) (by omega))]
      exact k0 (fun q => e2 q.2)
theorem S285n {x z : Int32} (k0 : C 0 h) : W285 x (-1) z h C := by
  unfold W285
  rw [if_pos rfl]
  exact k0
/-- a better way is written down -/
theorem TG.put {s v c : Nat} (hn : aN M ≤ 12) (hT : TG h M big cw goal T) (hs : s < 2 ^ aN M) (hv : v < 2 ^ aN M) (hm : Mv M big cw s v c) (hb : bet T s v c) : TG (h.sI 208 s (nI (T v + c))) M big cw goal (fun i => if i = s then T v + c else T i) := by
  obtain ⟨t1, t2⟩ := hT
  have b1 := (t1 v hv).2
  have b2 := (t1 s hs).2
  refine ⟨fun i hi => ?_, fun i hi q => ?_⟩
  · rw [I_at]
    (try dsimp only)
    by_cases e : i = s
    · rw [if_pos e, if_pos e]; exact ⟨rfl, by have := hb.2; omega⟩
    · rw [if_neg e, if_neg e]; exact t1 i hi
  · (try dsimp only at q ⊢)
    by_cases e : i = s
    · rw [if_pos e, e]
      have hb1 := hb.1
      obtain ⟨m, hm'⟩ := t2 v hv (by omega)
      exact ⟨m + 1, v, c, T v, hm, hm', rfl⟩
    · rw [if_neg e] at q ⊢; exact t2 i hi q
/-- what betters leaves: the flag, the row -/
def Bet1 (h g : TH) (M : Nat → Int32) (big : Nat → Nat) (cw : Nat) (goal : Int32) (T T' : Nat → Nat) (s : Nat) (fl : Int32) : Prop := Sm i208 h g ∧ TG g M big cw goal T' ∧ (∀ i, i ≠ s → T' i = T i) ∧ ((fl = 1 ∧ T' s < T s) ∨ (fl = 0 ∧ T' s = T s))
theorem Bet1.row {g : TH} {T' : Nat → Nat} {s : Nat} (hb : Bet1 h g M big cw goal T T' s 0) : T' = T := by
  obtain ⟨_, _, h3, h4⟩ := hb
  funext i
  by_cases e : i = s
  · rcases h4 with ⟨q, _⟩ | ⟨_, q⟩
    · exact absurd q (by decide)
    · rw [e]; exact q
  · exact h3 i e
/-- one try more -/
theorem Bet1.step {g : TH} {T' : Nat → Nat} {s v c : Nat} {fl : Int32} (hn : aN M ≤ 12) (hb : Bet1 h g M big cw goal T T' s fl) (hs : s < 2 ^ aN M) (hv : v < 2 ^ aN M) (hm : Mv M big cw s v c) (hx : bet T' s v c) : Bet1 h (g.sI 208 s (nI (T' v + c))) M big cw goal T (fun i => if i = s then T' v + c else T' i) s 1 := by
  obtain ⟨h1, h2, h3, h4⟩ := hb
  refine ⟨h1.sI rfl _, h2.put hn hs hv hm hx, fun i hi => ?_, Or.inl ⟨rfl, ?_⟩⟩
  · (try dsimp only)
    rw [if_neg hi]; exact h3 i hi
  · (try dsimp only)
    rw [if_pos rfl]
    have := hx.2
    rcases h4 with ⟨_, q⟩ | ⟨_, q⟩ <;> omega
theorem MFit.sm {S : Nat → Prop} (hf : MFit h M big) (hs : Sm S h h') (h1 : ¬ S 197 ∧ ¬ S 206 ∧ ¬ S 207) : MFit h' M big := by
  unfold MFit MBig at hf ⊢
  rw [hs.I h1.1, hs.I h1.2.1, hs.I h1.2.2]
  exact hf
end RK
