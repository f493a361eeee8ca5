/-! A STATE AS A NUMBER, at the reference -/
def vv (g : Nat → Nat) : Nat → Nat → Nat
  | _, 0 => 0
  | i, c + 1 => g i + 3 * vv g (i + 1) c
theorem vv_lt {g : Nat → Nat} (hg : ∀ i, g i < 3) : ∀ c i, vv g i c < 3 ^ c
  | 0, _ => by unfold vv; decide
  | c + 1, i => by
    have h1 := vv_lt hg c (i + 1)
    have h2 := hg i
    show g i + 3 * vv g (i + 1) c < 3 ^ (c + 1)
    rw [Nat.pow_succ]
    omega
theorem vv_inj {g g' : Nat → Nat} (hg : ∀ i, g i < 3) (hg' : ∀ i, g' i < 3) : ∀ c i, vv g i c = vv g' i c → ∀ k, k < c → g (i + k) = g' (i + k)
  | 0, _, _, k, hk => absurd hk (Nat.not_lt_zero _)
  | c + 1, i, e, k, hk => by
    have e : g i + 3 * vv g (i + 1) c = g' i + 3 * vv g' (i + 1) c := e
    have h2 := hg i
    have h3 := hg' i
    have e1 : g i = g' i := by omega
    have e2 : vv g (i + 1) c = vv g' (i + 1) c := by omega
    cases k with
    | zero => exact e1
    | succ k =>
      have := vv_inj hg hg' c (i + 1) e2 k (by omega)
      rw [show i + (k + 1) = i + 1 + k by omega]; exact this
def dR (m t : Int32) (d : Nat) : Nat := if bt m d then 1 else if bt t d then 2 else 0
theorem dR_lt (m t : Int32) (d : Nat) : dR m t d < 3 := by
  unfold dR
  cases bt m d <;> cases bt t d <;> decide
/-- the DISHES that count -/
def Fw (h : TH) (Sc : Int32) (fw : Nat → Nat) (k : Nat) : Prop := k ≤ 8 ∧ h.I 197 35 = nI k ∧ (∀ i, i < k → h.I 214 i = nI (fw i) ∧ fw i < 12 ∧ bt Sc (fw i) = true) ∧ ∀ d, d < 12 → bt Sc d = true → ∃ i, i < k ∧ fw i = d
def vn (fw : Nat → Nat) (k : Nat) (m t : Int32) : Nat := vv (fun i => dR m t (fw i)) 0 k
section SN
variable {h : TH} {Sc m t m' t' : Int32} {fw : Nat → Nat} {k n : Nat} {C : Int32 → Prop}
theorem pow8 {k : Nat} (hk : k ≤ 8) : 3 ^ k ≤ 6561 := Nat.pow_le_pow_right (n := 3) (by omega) hk
theorem vn_lt (hk : k ≤ 8) : vn fw k m t < 6561 := Nat.lt_of_lt_of_le (vv_lt (fun i => dR_lt m t (fw i)) k 0) (pow8 hk)
theorem S234 {s : Int32} (hs : St 12 s) (kk : C (nI (pc s))) : W234 s h C := by
  unfold W234 B234_4
  have h00 : (fun (l : Nat) (z : Int32 × Int32) => St 12 z.2 ∧ l = pc z.2 ∧ ∃ c, z.1 = nI c ∧ c + l = pc s) (pc s) ((0 : Int32), s) := ⟨hs, rfl, 0, nI_0.symm, Nat.zero_add _⟩
  refine LFP.ix (fun (l : Nat) (z : Int32 × Int32) => St 12 z.2 ∧ l = pc z.2 ∧ ∃ c, z.1 = nI c ∧ c + l = pc s) ?_ h00
  rintro X l ⟨x1, x2⟩ ⟨e1, e2, c, e3, e4⟩ ih
  (try dsimp only at e1 e2 e3)
  subst e3
  unfold F234_4
  (try dsimp only)
  by_cases e : x2 = 0
  · rw [if_pos e]
    rw [e, pc_0] at e2
    rw [show pc s = c by omega] at kk
    exact kk
  · rw [if_neg e]
    obtain ⟨u, hu, rfl⟩ := e1
    have e0 : u = 64 * (u / 64) + u % 64 := by omega
    have := pcd_all (u / 64) (by omega) (u % 64) (by omega) (by rw [← e0]; exact e)
    rw [← e0] at this
    have hl : (u &&& (u - 1)) < 2 ^ 12 := Nat.lt_of_le_of_lt Nat.and_le_left hu
    have p1 : pc (nI u) = fb_ct (fun d => u.testBit d) 12 := by unfold pc; exact fb_ct_cong (fun k _ => bt_nI (by omega) k)
    have p2 : pc (nI (u &&& (u - 1))) = fb_ct (fun d => (u &&& (u - 1)).testBit d) 12 := by unfold pc; exact fb_ct_cong (fun k _ => bt_nI (by omega) k)
    rw [this.1]
    refine ih (pc (nI (u &&& (u - 1)))) _ (by omega) ⟨⟨_, hl, rfl⟩, rfl, c + 1, nI_1 c, by omega⟩
theorem S299 (hn : n ≤ 12) (hf : Fw h Sc fw k) (hm : St n m) (ht : St n t) (kk : C (nI (vn fw k m t))) : W299 m t h C := by
  obtain ⟨k8, h35, h214, _⟩ := hf
  have p8 := pow8 k8
  unfold W299 B299_10
  rw [h35]
  have g3 : ∀ i, (fun i => dR m t (fw i)) i < 3 := fun i => dR_lt m t (fw i)
  refine LFP.ix (fun l z => l ≤ k ∧ z.2 = nI l - 1 ∧ z.1 = nI (vv (fun i => dR m t (fw i)) l (k - l))) ?_ (k := k) ⟨Nat.le_refl _, rfl, by rw [Nat.sub_self]; rfl⟩
  rintro X l ⟨x3, x4⟩ ⟨e1, e2, e3⟩ ih
  (try dsimp only at e2 e3)
  subst e2 e3
  unfold F299_10
  (try dsimp only)
  cases l with
  | zero =>
    rw [if_pos nI_0s]
    exact kk
  | succ l =>
    rw [nI_pred, if_neg (nI_pos (by omega)), ix_n (by omega), (h214 l (by omega)).1]
    refine ⟨inb_n (by omega), ?_⟩
    have fl := (h214 l (by omega)).2.1
    have hb := vv_lt g3 (k - (l + 1)) (l + 1)
    have hp : 3 ^ (k - (l + 1)) ≤ 6561 := pow8 (by omega)
    have mul : (3 : Int32) * nI (vv (fun i => dR m t (fw i)) (l + 1) (k - (l + 1))) = nI (3 * vv (fun i => dR m t (fw i)) (l + 1) (k - (l + 1))) := by
      show nI 3 * _ = _
      rw [pk_mul]
    have sh : ∀ c : Nat, c = dR m t (fw l) → vv (fun i => dR m t (fw i)) l (k - l) = 3 * vv (fun i => dR m t (fw i)) (l + 1) (k - (l + 1)) + c := by
      intro c hc
      rw [show k - l = (k - (l + 1)) + 1 by omega]
      show dR m t (fw l) + 3 * _ = _
      rw [hc]; omega
    have nx : nI l + (-1) = nI l - 1 := by rw [Int32.sub_eq_add_neg]
    have go : ∀ c : Nat, c = dR m t (fw l) → X (nI (3 * vv (fun i => dR m t (fw i)) (l + 1) (k - (l + 1))) + nI c, nI l - 1) := by
      intro c hc
      refine ih l _ (Nat.lt_succ_self _) ⟨by omega, rfl, ?_⟩
      (try dsimp only)
      rw [nI_add, sh c hc]
    rw [mul]
    unfold B299_55
    rw [nx]
    refine S250 (fw l) rfl hm (by omega) (by omega) (fun b => ?_) (fun b => ?_)
    · rw [if_neg (by decide)]
      exact go 1 (by unfold dR; rw [b]; rfl)
    · rw [if_pos rfl]
      refine ⟨inb_n (by omega), ?_⟩
      refine S250 (fw l) rfl ht (by omega) (by omega) (fun b2 => ?_) (fun b2 => ?_)
      · rw [if_neg (by decide)]
        exact go 2 (by unfold dR; rw [b, b2]; rfl)
      · rw [if_pos rfl]
        exact go 0 (by unfold dR; rw [b, b2]; rfl)
theorem S300 (hf : Fw h Sc fw k) (hs : sb m Sc ∧ St 12 m) (ht : sb t Sc ∧ St 12 t) (hd : ∀ d, d < 32 → bt m d = true → bt t d = false) {x : Int32} (hx : x = nI (vn fw k m t)) {y s : Int32} (hy : (y = 1 ∧ s = m) ∨ (y = 2 ∧ s = t)) (kk : C s) : W300 x y h C := by
  subst hx
  obtain ⟨k8, h35, h214, hall⟩ := hf
  have p8 := pow8 k8
  have g3 : ∀ i, (fun i => dR m t (fw i)) i < 3 := fun i => dR_lt m t (fw i)
  have ss : sb s Sc ∧ St 12 s := by rcases hy with ⟨_, q⟩ | ⟨_, q⟩ <;> rw [q] <;> assumption
  unfold W300 B300_8
  refine LFP.up k (fun i z => z.2.2 = nI i ∧ z.2.1 = nI (vv (fun i => dR m t (fw i)) i (k - i)) ∧ (∀ d, d < 32 → (bt z.1 d = true ↔ ∃ j, j < i ∧ fw j = d ∧ bt s d = true))) ?_ ?_ (Nat.zero_le _) ⟨rfl, rfl, fun d hd => ⟨fun q => by rw [bt_0] at q; exact absurd q (by decide), fun ⟨j, hj, _⟩ => absurd hj (Nat.not_lt_zero _)⟩⟩
  · rintro X i ⟨x3, x4, x5⟩ hi ⟨e1, e2, e3⟩ ih
    (try dsimp only at e1 e2 e3)
    subst e1 e2
    have hb := vv_lt g3 (k - i) i
    have hp : 3 ^ (k - i) ≤ 6561 := pow8 (by omega)
    have ev : vv (fun i => dR m t (fw i)) i (k - i) = dR m t (fw i) + 3 * vv (fun i => dR m t (fw i)) (i + 1) (k - (i + 1)) := by
      rw [show k - i = (k - (i + 1)) + 1 by omega]; rfl
    have dl := dR_lt m t (fw i)
    have q1 : irem (nI (vv (fun i => dR m t (fw i)) i (k - i))) 3 = nI (dR m t (fw i)) := by
      rw [show irem (nI (vv (fun i => dR m t (fw i)) i (k - i))) 3 = nI (vv (fun i => dR m t (fw i)) i (k - i) % 3) from pk_rem (d := 3) (by omega) (by omega) (by omega)]
      congr 1
      omega
    have q2 : nI (vv (fun i => dR m t (fw i)) i (k - i)) / 3 = nI (vv (fun i => dR m t (fw i)) (i + 1) (k - (i + 1))) := by
      rw [show nI (vv (fun i => dR m t (fw i)) i (k - i)) / 3 = nI (vv (fun i => dR m t (fw i)) i (k - i) / 3) from pk_div (d := 3) (by omega) (by omega) (by omega)]
      congr 1
      omega
    have fl := (h214 i hi).2.1
    have is : nI (dR m t (fw i)) = y ↔ bt s (fw i) = true := by
      rcases hy with ⟨y1, y2⟩ | ⟨y1, y2⟩
      · rw [y1, y2, show (1 : Int32) = nI 1 from rfl, nI_eq (by omega) (by omega)]
        unfold dR
        cases bt m (fw i) <;> cases bt t (fw i) <;> simp
      · rw [y1, y2, show (2 : Int32) = nI 2 from rfl, nI_eq (by omega) (by omega)]
        have := hd (fw i) (by omega)
        unfold dR
        revert this
        cases bt m (fw i) <;> cases bt t (fw i) <;> simp
    unfold F300_8
    (try dsimp only)
    rw [h35, if_neg (nI_ge hi (by omega)), q1, ix_n (by omega), (h214 i hi).1]
    unfold B300_37
    rw [q2]
    by_cases e : nI (dR m t (fw i)) = y
    · rw [if_neg (fun z => z e)]
      refine ⟨inb_n (by omega), ih _ ⟨nI_1 i, rfl, fun d hd => ?_⟩⟩
      (try dsimp only)
      rw [bt_or, bt_bit (by omega), Bool.or_eq_true, e3 d hd, decide_eq_true_eq]
      constructor
      · rintro (⟨j, j1, j2, j3⟩ | z)
        · exact ⟨j, by omega, j2, j3⟩
        · exact ⟨i, by omega, z.symm, by rw [z]; exact is.mp e⟩
      · rintro ⟨j, j1, j2, j3⟩
        rcases Nat.lt_or_ge j i with z | z
        · exact Or.inl ⟨j, z, j2, j3⟩
        · have : j = i := by omega
          rw [this] at j2; exact Or.inr j2.symm
    · rw [if_pos e]
      refine ih _ ⟨nI_1 i, rfl, fun d hd => ?_⟩
      (try dsimp only)
      rw [e3 d hd]
      constructor
      · rintro ⟨j, j1, j2, j3⟩
        exact ⟨j, by omega, j2, j3⟩
      · rintro ⟨j, j1, j2, j3⟩
        rcases Nat.lt_or_ge j i with z | z
        · exact ⟨j, z, j2, j3⟩
        · have : j = i := by omega
          rw [this] at j2
          rw [← j2] at j3
          exact absurd (is.mpr j3) e
  · rintro X ⟨x3, x4, x5⟩ ⟨e1, e2, e3⟩
    (try dsimp only at e1 e2 e3)
    subst e1 e2
    unfold F300_8
    (try dsimp only)
    rw [h35, if_pos (nI_le (Nat.le_refl _) (by omega))]
    have : x3 = s := by
      refine bt_ext (fun d hd => ?_)
      cases e : bt s d
      · cases e4 : bt x3 d
        · rfl
        · obtain ⟨j, _, _, z⟩ := (e3 d hd).mp e4
          rw [z] at e; exact e
      · refine (e3 d hd).mpr ?_
        have d12 := St_d (Nat.le_refl _) ss.2 hd e
        obtain ⟨j, j1, j2⟩ := hall d d12 (ss.1 d hd e)
        exact ⟨j, j1, j2, e⟩
    rw [this]; exact kk
end SN
