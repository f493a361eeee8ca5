/-! THE REFERENCE'S WORDS AND NAMES -/
def psl : List Nat := [1, 6, 11, 16, 21, 26, 32, 38, 43, 50, 55, 60, 65, 70, 75, 81, 86, 91, 98, 106, 111, 116, 120, 125]
def ps (k : Nat) : Nat := psl.getD k 0
theorem ps_tab : ∀ k, k < 23 → ps (k + 1) = ps k + (wl k).length + 1 ∧ ps k + (wl k).length < 125 ∧ (xby 1).getD (ps k + (wl k).length) 0 = 32 ∧ ∀ j, j < (wl k).length → (xby 1).getD (ps k + j) 0 = nI ((wl k).getD j 0) ∧ (wl k).getD j 0 ≠ 32 ∧ (wl k).getD j 0 < 256 := by decide +kernel
def RFt (h : TH) (p : Nat × Nat) : Prop := h.I 197 18 = nI p.1 ∧ h.I 197 17 = nI p.2 ∧ 1 ≤ p.1 ∧ p.1 ≤ 9
def NmOk (l : List Nat) : Prop := (∀ c, c ∈ l → 97 ≤ c ∧ c ≤ 122) ∧ l.length ≤ 8
def fnd (N : Nat → List Nat) (n : Nat) (l : List Nat) : Nat := rn (fun j => decide (N j ≠ l)) n 0
section RWD
variable {h : TH} {T : Nat → Nat} {z : Nat}
theorem wl_eq {k : Nat} {a e : Nat} : wl k = wo T a e ↔ (wl k).length = e - a ∧ ∀ j, j < (wl k).length → T (a + j) = (wl k).getD j 0 := by
  constructor
  · intro q
    have hl : (wl k).length = e - a := by rw [q, wo_len]
    refine ⟨hl, fun j hj => ?_⟩
    rw [List.getD_eq_getElem?_getD, q, wo_get (by omega)]; rfl
  · rintro ⟨h1, h2⟩
    apply List.ext_getElem?
    intro j
    by_cases hj : j < (wl k).length
    · rw [wo_get (by omega), h2 j hj, List.getD_eq_getElem?_getD, List.getElem?_eq_getElem hj]; rfl
    · rw [List.getElem?_eq_none (by omega), List.getElem?_eq_none (by rw [wo_len]; omega)]
theorem S223c {C : Int32 → Prop} {X14 : Int32 × Int32 → Prop} {a e k : Nat} (c : RTx h T z) (h13 : h.I 197 13 = nI a) (he : e ≤ z) (hk : k < 23) {x5 : Int32} (hb : (x5 = 1 ∧ (wl k).length = e - a) ∨ (x5 = 0 ∧ (wl k).length ≠ e - a)) (k1 : wl k = wo T a e → C (nI k)) (k0 : wl k ≠ wo T a e → X14 (nI (k + 1), nI (ps (k + 1)))) : B223_68 (nI k) (nI (ps k)) (nI (ps k + (wl k).length)) x5 (nI (ps k)) h C X14 := by
  obtain ⟨p1, p2, p3, p4⟩ := ps_tab k hk
  have hz := c.2.1.1
  unfold B223_68
  refine LFP.up (wl k).length (fun (j : Nat) (s : Int32 × Int32) => s.2 = nI (ps k + j) ∧ ((s.1 = 1 ∧ (wl k).length = e - a ∧ ∀ j', j' < j → T (a + j') = (wl k).getD j' 0) ∨ (s.1 = 0 ∧ wl k ≠ wo T a e))) ?_ ?_ (Nat.zero_le _) ⟨rfl, ?_⟩
  · rintro X j ⟨y5, y6⟩ hj ⟨e6, hc⟩ ih
    (try dsimp only at e6 hc)
    subst e6
    unfold F223_68
    (try dsimp only)
    rw [if_neg (nI_ge (by omega) (by omega))]
    rcases hc with ⟨rfl, q1, q2⟩ | ⟨rfl, q⟩
    · rw [if_neg (by decide), ix_n (by omega), tx_eq, (p4 j hj).1, h13, nI_add, pk_sub (by omega), show a + (ps k + j) - ps k = a + j by omega]
      refine ⟨inb_n (by omega), S218 c (by omega) (fun w => ?_) (fun w => absurd q1 (by omega))⟩
      have hT := c.2.2.2 _ w
      rw [nI_1, Nat.add_assoc]
      by_cases r : T (a + j) = (wl k).getD j 0
      · rw [if_neg (fun n => n (by rw [r]))]
        refine ih _ ⟨rfl, Or.inl ⟨rfl, q1, fun j' hj' => ?_⟩⟩
        rcases Nat.lt_or_eq_of_le (Nat.lt_succ_iff.mp hj') with w | w
        · exact q2 j' w
        · rw [w]; exact r
      · rw [if_pos (fun n => r ((nI_eq (by have := (p4 j hj).2.2; omega) (by omega)).mp n).symm)]
        exact ih _ ⟨rfl, Or.inr ⟨rfl, fun w => r ((wl_eq.mp w).2 j hj)⟩⟩
    · rw [if_pos rfl]
      unfold B223_115
      rw [if_pos rfl, nI_1, nI_1, ← p1]
      exact k0 q
  · rintro X ⟨y5, y6⟩ ⟨e6, hc⟩
    (try dsimp only at e6 hc)
    subst e6
    unfold F223_68
    (try dsimp only)
    rw [if_pos (nI_le (Nat.le_refl _) (by omega))]
    unfold B223_115
    rcases hc with ⟨rfl, q1, q2⟩ | ⟨rfl, q⟩
    · rw [if_neg (by decide)]
      exact k1 (wl_eq.mpr ⟨q1, q2⟩)
    · rw [if_pos rfl, nI_1, nI_1, ← p1]
      exact k0 q
  · rcases hb with ⟨q, w⟩ | ⟨q, w⟩
    · exact Or.inl ⟨q, w, fun j' hj' => absurd hj' (Nat.not_lt_zero _)⟩
    · exact Or.inr ⟨q, fun u => w (wl_eq.mp u).1⟩
theorem S223 {C : Int32 → Prop} {i : Nat} (c : RT h T z i) (k1 : kd T z i < 23 → C (nI (kd T z i))) (k0 : ¬ kd T z i < 23 → C (-1)) : W223 h C := by
  obtain ⟨cx, e13, e14, e12, e32, e33⟩ := c
  have hz := cx.2.1.1
  have hae := tf_tp (T := T) (z := z) i
  have hez := tp_le (T := T) (z := z) (i + 1)
  have eE : ena T z (tf T z i) = tp T z (i + 1) := rfl
  rw [eE] at e14
  have hall := kda_all (T := T) (z := z) (tf T z i)
  have eK : kda T z (tf T z i) = kd T z i := rfl
  rw [eK] at hall e12
  unfold W223
  rw [e12]
  by_cases q : kd T z i < 23 ∨ kd T z i = 30 ∨ kd T z i = 31
  · have hs : tf T z i < z ∧ smc (T (tf T z i)) = true := by
      rcases q with w | w | w
      · exact ⟨(kda_w w rfl).1, (kda_w w rfl).2.1⟩
      · exact ⟨(kda_30 w).1, (kda_30 w).2.1⟩
      · exact ⟨(kda_31 w).1, (kda_31 w).2.1⟩
    have hkd : kd T z i = if tp T z (i + 1) - tf T z i ≤ 8 then wix (wo T (tf T z i) (tp T z (i + 1))) else 31 := by
      unfold kd kda; rw [if_neg (by omega), if_pos hs.2]; rfl
    rw [if_pos (show nI (rkk (kd T z i)) = 2 by rw [show rkk (kd T z i) = 2 by unfold rkk; rw [if_neg (by omega), if_neg (by omega), if_neg (by omega), if_neg (by omega)]]; rfl)]
    unfold B223_14
    have h00 : (fun (m : Nat) (s : Int32 × Int32) => ∃ y : Nat, s = (nI y, nI (ps y)) ∧ m = 23 - y ∧ y ≤ 23 ∧ ∀ j, j < y → wl j ≠ wo T (tf T z i) (tp T z (i + 1))) 23 (0, 1) := ⟨0, rfl, rfl, by omega, fun j hj => absurd hj (Nat.not_lt_zero _)⟩
    refine LFP.ix (fun (m : Nat) (s : Int32 × Int32) => ∃ y : Nat, s = (nI y, nI (ps y)) ∧ m = 23 - y ∧ y ≤ 23 ∧ ∀ j, j < y → wl j ≠ wo T (tf T z i) (tp T z (i + 1))) ?_ h00
    rintro X m st ⟨y, rfl, em, hy, hn⟩ ih
    unfold F223_14
    (try dsimp only)
    by_cases w : y < 23
    · obtain ⟨p1, p2, p3, p4⟩ := ps_tab y w
      rw [if_neg (show ¬ (125 : Int32) ≤ nI (ps y) from nI_ge (b := 125) (by omega) (by omega))]
      unfold B223_25
      refine LFP.up (wl y).length (fun j s => s = nI (ps y + j)) ?_ ?_ (Nat.zero_le _) rfl
      · rintro X2 j st hj rfl ih2
        unfold F223_25
        (try dsimp only)
        rw [ix_n (by omega), tx_eq, (p4 j hj).1, if_neg (show ¬ nI ((wl y).getD j 0) = 32 from fun n => (p4 j hj).2.1 ((nI_eq (b := 32) (by have := (p4 j hj).2.2; omega) (by omega)).mp n)), nI_1]
        exact ⟨inb_n (by omega), ih2 _ rfl⟩
      · rintro X2 st rfl
        unfold F223_25
        (try dsimp only)
        rw [ix_n (by omega), tx_eq, p3, if_pos rfl, e13, e14, pk_sub hae, pk_sub (by omega), show ps y + (wl y).length - ps y = (wl y).length by omega]
        refine ⟨inb_n (by omega), ?_⟩
        have kk1 : wl y = wo T (tf T z i) (tp T z (i + 1)) → C (nI y) := by
          intro r
          have hlen : tp T z (i + 1) - tf T z i ≤ 8 := by
            have := (wl_sm y w).2
            rw [r, wo_len] at this; exact this
          have : kd T z i = y := by rw [hkd, if_pos hlen, ← r]; exact wix_at y w
          rw [← this]; exact k1 (by omega)
        have kk0 : wl y ≠ wo T (tf T z i) (tp T z (i + 1)) → X (nI (y + 1), nI (ps (y + 1))) := by
          intro r
          refine ih (23 - (y + 1)) _ (by omega) ⟨y + 1, rfl, rfl, by omega, fun j hj => ?_⟩
          rcases Nat.lt_or_eq_of_le (Nat.lt_succ_iff.mp hj) with u | u
          · exact hn j u
          · rw [u]; exact r
        by_cases r : (wl y).length = tp T z (i + 1) - tf T z i
        · rw [if_neg (fun n => n (by rw [r]))]
          exact S223c cx e13 hez w (Or.inl ⟨rfl, r⟩) kk1 kk0
        · rw [if_pos (fun n => r ((nI_eq (by have := (wl_sm y w).2; omega) (by omega)).mp n))]
          exact S223c cx e13 hez w (Or.inr ⟨rfl, r⟩) kk1 kk0
    · have e : y = 23 := by omega
      subst e
      rw [if_pos (show (125 : Int32) ≤ nI (ps 23) by decide +kernel)]
      refine k0 (fun u => ?_)
      rw [hkd] at u
      split at u
      · rw [wix_none hn] at u; omega
      · omega
  · rw [if_neg (show ¬ nI (rkk (kd T z i)) = 2 by
      rcases hall with w | w | w | w | w | w | w
      · omega
      · omega
      · omega
      all_goals (rw [w]; decide))]
    exact k0 (by omega)
theorem S229 {C : Int32 → Prop} {i : Nat} (c : RT h T z i) (k1 : kd T z i = 30 → C 1) (k0 : kd T z i ≠ 30 → C 0) : W229 h C := by
  have c' := c
  obtain ⟨cx, e13, e14, e12, e32, e33⟩ := c
  have hz := cx.2.1.1
  have hae := tf_tp (T := T) (z := z) i
  have hez := tp_le (T := T) (z := z) (i + 1)
  have eE : ena T z (tf T z i) = tp T z (i + 1) := rfl
  rw [eE] at e14
  have hall := kda_all (T := T) (z := z) (tf T z i)
  have eK : kda T z (tf T z i) = kd T z i := rfl
  rw [eK] at hall e12
  unfold W229
  rw [e12]
  by_cases q : kd T z i < 23 ∨ kd T z i = 30 ∨ kd T z i = 31
  · rw [if_neg (fun n => n (show nI (rkk (kd T z i)) = 2 by rw [show rkk (kd T z i) = 2 by unfold rkk; rw [if_neg (by omega), if_neg (by omega), if_neg (by omega), if_neg (by omega)]]; rfl)), e13, e14, pk_sub hae]
    by_cases w : 8 < tp T z (i + 1) - tf T z i
    · rw [if_pos (show (8 : Int32) < nI _ from nI_lt (a := 8) w (by omega))]
      refine k0 (fun u => ?_)
      have := (kda_30 u).2.2.1
      rw [eE] at this; omega
    · rw [if_neg (show ¬ (8 : Int32) < nI _ from nI_nlt (a := 8) (by omega) (by omega))]
      refine S223 c' (fun u => ?_) (fun u => ?_)
      · rw [if_pos (nI_ne1 (by omega))]; exact k0 (by omega)
      · rw [if_neg (fun n => n rfl)]
        refine k1 ?_
        rcases q with r | r | r
        · omega
        · exact r
        · have := (kda_31 r).2.2; rw [eE] at this; omega
  · rw [if_pos (show ¬ nI (rkk (kd T z i)) = 2 by
      rcases hall with w | w | w | w | w | w | w
      · omega
      · omega
      · omega
      all_goals (rw [w]; decide))]
    exact k0 (by omega)
theorem S224 {C : Int32 → TH → Prop} {i f : Nat} (c : RT h T z i) (h18 : h.I 197 18 = 0) (k : ∀ g, Sm (fun a => a = 197) h g → (∀ j, j ≠ 17 → j ≠ 18 → g.I 197 j = h.I 197 j) → RFt g (fl T z i f) → C 0 g) (hf1 : 1 ≤ f ∧ f ≤ 9 := by decide) : W224 (nI f) h C := by
  obtain ⟨cx, e13, e14, e12, e32, e33⟩ := c
  have hall := kda_all (T := T) (z := z) (tf T z i)
  have eK : kda T z (tf T z i) = kd T z i := rfl
  rw [eK] at hall e12
  unfold W224
  rw [h18, if_neg (fun n => n rfl), e12]
  have go : ∀ f' : Nat, (f' = if kd T z i = 35 then 1 else f) → B224_21 (nI f') h C := by
    intro f' hf'
    unfold B224_21
    refine k _ (Sm.sI (S := fun a => a = 197) (Sm.sI (S := fun a => a = 197) Sm.refl rfl _) rfl _) (fun j h1 h2 => by rw [I_nk h1, I_nk h2]) ⟨?_, ?_, ?_⟩
    · rw [I_nk (by decide), I_eq, hf']; rfl
    · rw [I_eq, I_nk (by decide), e13]; rfl
    · show 1 ≤ (if kd T z i = 35 then 1 else f) ∧ (if kd T z i = 35 then 1 else f) ≤ 9
      split <;> omega
  by_cases q : kd T z i = 35
  · rw [if_neg (fun n => n (by rw [q]; rfl))]
    exact go 1 (by rw [if_pos q])
  · rw [if_pos (show ¬ nI (rkk (kd T z i)) = 1 by
      rcases hall with w | w | w | w | w | w | w
      · rw [show rkk (kd T z i) = 2 by unfold rkk; rw [if_neg (by omega), if_neg (by omega), if_neg (by omega), if_neg (by omega)]]; decide
      · rw [w]; decide
      · rw [w]; decide
      · rw [w]; decide
      · rw [w]; decide
      · rw [w]; decide
      · omega)]
    exact go f (by rw [if_neg q])
theorem RT.frame {g : TH} {i : Nat} (c : RT h T z i) (e : ∀ j, 11 ≤ j → j ≤ 15 → g.I 197 j = h.I 197 j) (e2 : g.I 204 = h.I 204) (e17 : g.I 197 17 = h.I 197 17) : RT g T z i := by
  refine ⟨c.1.frame (e 11 (by decide) (by decide)) e2 e17, ?_⟩
  unfold RTa
  rw [e 13 (by decide) (by decide), e 14 (by decide) (by decide), e 12 (by decide) (by decide), e 15 (by decide) (by decide)]
  exact c.2
/-- one TOKEN on -/
theorem S221n {C : TH → Prop} {i : Nat} (c : RT h T z i) (k : ∀ g, Sm (fun b => b = 197) h g → (∀ j, j < 12 ∨ 15 < j → g.I 197 j = h.I 197 j) → RT g T z (i + 1) → C g) : W221 h C :=
  S221 c.1 (tp_le (i + 1)) c.2.2.1 (fun g s f r => k g s (fun j hj => f j (by omega) (by omega) (by omega) (by omega)) ⟨c.1.frame (f 11 (by decide) (by decide) (by decide) (by decide)) (s.I (by decide)) (f 17 (by decide) (by decide) (by decide) (by decide)), r⟩)
theorem wd_ok {i : Nat} (q : kd T z i = 30) : NmOk (wd T z i) := by
  have h := kda_30 q
  exact ⟨wo_sm h.1 h.2.1, by unfold wd; rw [wo_len]; exact h.2.2.1⟩
theorem cod256_lt {l : List Nat} (h : ∀ c, c ∈ l → 97 ≤ c ∧ c ≤ 122) (n : Nat) (hl : l.length ≤ n) : cod 256 0 l < 256 ^ n := by
  have h1 := cod_lt (B := 256) (o := 0) (by omega) l.length l rfl (fun c hc => by have := h c hc; omega)
  exact Nat.lt_of_lt_of_le h1 (Nat.pow_le_pow_right (by omega) hl)
theorem cod256_63 {l : List Nat} (h : NmOk l) : cod 256 0 l < 2 ^ 63 := by
  rcases List.eq_nil_or_concat l with q | ⟨L, b, q⟩
  · rw [q]; decide
  · cases hh : l with
    | nil => decide
    | cons a r =>
      have key : ∀ (r : List Nat) (s : Nat), (∀ c, c ∈ r → 97 ≤ c ∧ c ≤ 122) → r.foldl (fun a c => a * 256 + (c - 0)) s < (s + 1) * 256 ^ r.length := by
        intro r
        induction r with
        | nil => intro s _; simp
        | cons c r ih =>
          intro s hc
          have h1 := ih (s * 256 + (c - 0)) (fun c' h' => hc c' (by simp [h']))
          have h2 := hc c (by simp)
          have h3 : (s * 256 + (c - 0) + 1) * 256 ^ r.length ≤ ((s + 1) * 256) * 256 ^ r.length := Nat.mul_le_mul_right _ (by omega)
          have e : (s + 1) * 256 ^ (c :: r).length = (s + 1) * 256 * 256 ^ r.length := by rw [List.length_cons, Nat.pow_succ, Nat.mul_assoc, Nat.mul_comm (256 ^ r.length) 256]
          rw [e]
          exact Nat.lt_of_lt_of_le h1 h3
      have ha := h.1 a (by rw [hh]; simp)
      have h1 := key r a (fun c hc => h.1 c (by rw [hh]; simp [hc]))
      have h2 : r.length ≤ 7 := by have := h.2; rw [hh] at this; simp at this; omega
      have h3 : (256 : Nat) ^ r.length ≤ 256 ^ 7 := Nat.pow_le_pow_right (by omega) h2
      have h4 : (a + 1) * 256 ^ r.length ≤ 123 * 256 ^ 7 := Nat.mul_le_mul (by omega) h3
      have e : cod 256 0 (a :: r) = r.foldl (fun a c => a * 256 + (c - 0)) a := by
        unfold cod; rw [List.foldl_cons]; simp
      rw [e]
      omega
theorem cod256_inj {l l' : List Nat} (h : NmOk l) (h' : NmOk l') : lN (cod 256 0 l) = lN (cod 256 0 l') ↔ l = l' := by
  rw [pk_lEQ (cod256_63 h) (cod256_63 h')]
  exact ⟨fun e => cod_inj 8 l l' h.2 (fun c hc => by have := h.1 c hc; omega) (fun c hc => by have := h'.1 c hc; omega) e, fun e => by rw [e]⟩
theorem lN_nt {n : Nat} (h : n < 2 ^ 64) : (lN n).toBitVec.toNat = n := by
  show (BitVec.ofNat 64 n).toNat = n
  rw [BitVec.toNat_ofNat]; exact Nat.mod_eq_of_lt h
theorem lshl8 {v c : Nat} (hv : v < 2 ^ 56) (hc : c < 256) : (lshl (lN v) 8) ||| lN c = lN (v * 256 + c) := by
  apply Int64.toBitVec_inj.mp
  apply BitVec.eq_of_toNat_eq
  have e1 : ((8 : Int32).toInt64 &&& 63) = 8 := by decide
  have e2 : (lN v <<< (8 : Int64)).toBitVec = (lN v).toBitVec <<< 8 := by
    rw [Int64.toBitVec_shiftLeft]
    have : ((8 : Int64).toBitVec.smod 64).toNat = 8 := by decide +kernel
    rw [BitVec.shiftLeft_eq', this]
  rw [Int64.toBitVec_or, BitVec.toNat_or]
  unfold lshl
  rw [e1, e2, BitVec.toNat_shiftLeft, lN_nt (by omega), lN_nt (by omega), lN_nt (by omega)]
  have h1 : v <<< 8 = v * 256 := by rw [Nat.shiftLeft_eq]
  rw [h1, Nat.mod_eq_of_lt (by omega), ← h1, ← Nat.shiftLeft_add_eq_or_of_lt (by omega : c < 2 ^ 8), h1]
theorem S230 {C : Int64 → Prop} {i : Nat} (c : RT h T z i) (q : kd T z i = 30) (k : C (lN (cod 256 0 (wd T z i)))) : W230 h C := by
  obtain ⟨cx, e13, e14, e12, e32, e33⟩ := c
  have hz := cx.2.1.1
  have hae := tf_tp (T := T) (z := z) i
  have hez := tp_le (T := T) (z := z) (i + 1)
  have eE : ena T z (tf T z i) = tp T z (i + 1) := rfl
  rw [eE] at e14
  have h8 : tp T z (i + 1) - tf T z i ≤ 8 := (kda_30 q).2.2.1
  have ok := wd_ok q
  unfold W230 B230_7
  rw [e13]
  refine LFP.up (tp T z (i + 1)) (fun x s => s = (lN (cod 256 0 (wo T (tf T z i) x)), nI x) ∧ tf T z i ≤ x) ?_ ?_ hae ⟨by rw [wo_nil]; rfl, Nat.le_refl _⟩
  · rintro X x st hx ⟨rfl, hx2⟩ ih
    unfold F230_7
    (try dsimp only)
    rw [e14, if_neg (nI_ge hx (by omega))]
    refine S218 cx (by omega) (fun w => ?_) (fun w => absurd w (by omega))
    have hT := cx.2.2.2 x w
    have hlt : cod 256 0 (wo T (tf T z i) x) < 256 ^ 7 := cod256_lt (fun c hc => by
      obtain ⟨j, h1, h2, rfl⟩ := wo_mem hc
      refine ok.1 _ ?_
      unfold wd wo
      simp only [List.mem_map, List.mem_range]
      exact ⟨j - tf T z i, by omega, by rw [show tf T z i + (j - tf T z i) = j by omega]⟩) 7 (by rw [wo_len]; omega)
    rw [nI_l (by omega), lshl8 (by omega) hT, nI_1]
    refine ih _ ⟨?_, by omega⟩
    rw [wo_snoc hx2, cod_snoc]; rfl
  · rintro X st ⟨rfl, hx2⟩
    unfold F230_7
    (try dsimp only)
    rw [e14, if_pos (nI_le (Nat.le_refl _) (by omega))]
    exact k
end RWD
