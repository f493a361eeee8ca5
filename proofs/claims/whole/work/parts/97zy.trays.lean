/-! empty, tray, write, read, pour, feed -/
section TRY
variable {h g h2 : TH} {L z c i c' : Nat} {xs : Nat → Int32} {G G' : Int32 → Nat → Int32} {T : Nat → Prop} {D : Int32 → TH → Prop} {x y : Int32}
theorem Inv.tray (hI : Inv L xs h z) (hz : z < 1000) (q1 : g.n = h.n ∧ g.sl = h.sl ∧ g.K = h.K ∧ g.N = h.N ∧ g.P = h.P) (qI : ∀ a, ¬ (a = 0 ∨ a = 7 ∨ a = 8 ∨ a = 197 ∨ a = 200 ∨ a = 201) → g.I a = h.I a) (qJ : ∀ a, ¬ (3 ≤ a ∧ a < 7 ∨ a = 202) → g.J a = h.J a) (f0 : ∀ j, j ≠ 0 → g.I 0 j = h.I 0 j) (f197 : ∀ j, j ≠ 2 → g.I 197 j = h.I 197 j) (st : g.I 0 0 = g.I 197 2) (ti : TI g) : Inv L xs g (z + 1) := by
  have hn := hI.nn
  obtain ⟨n1, n2, n3, n4, n5⟩ := q1
  obtain ⟨s0, G, c, i, r, se⟩ := hI
  have p : Gr (fun a => a = 0 ∨ a = 7 ∨ a = 8 ∨ a = 197 ∨ a = 200 ∨ a = 201 ∨ (3 ≤ a ∧ a < 7) ∨ a = 202) h g := ⟨by omega, fun a _ => by rw [n3, n4]; exact ⟨rfl, rfl⟩, fun a _ hs => ⟨qI a (by omega), qJ a (by omega), by rw [n5]⟩⟩
  refine ⟨⟨st, by rw [qJ 0 (by omega), qJ 197 (by omega)]; exact s0.2.1, by rw [qJ 0 (by omega), qJ 197 (by omega)]; exact s0.2.2⟩, G, c, i, ?_, se.gr p hn.1 (fun a ha => by unfold outS; omega) ⟨f197 30 (by omega), qI _ (by omega), qI _ (by omega), qI _ (by omega)⟩⟩
  obtain ⟨r1, r2, r3, r4, r5, r6, r7, l1, l2, l3, l4, l5⟩ := r
  refine ⟨r1.fr (fun j hj => by rw [qI 9 (by omega)]) (qI _ (by omega)) (qJ _ (by omega)) (fun j hj => f197 j (by omega)) (qI _ (by omega)), r2.fr (f0 19 (by omega)) (f197 52 (by omega)) (qI _ (by omega)) (qI _ (by omega)) (qI _ (by omega)), ti, by rw [n3, n4]; exact r4, by unfold Rm at r5 ⊢; omega, by unfold Sc; rw [n4, qI _ (by omega)]; exact r6, ⟨by rw [qI 15 (by omega)]; exact r7.1, by omega⟩, l1, by rw [f0 10 (by omega)]; exact l2, by rw [f197 55 (by omega)]; exact l3, ?_, fun e he => ?_⟩
  · exact l4.fr (fun a a1 a2 a3 a4 a5 => qI a (by omega)) (qJ _ (by omega)) (fun e he => by rw [qI _ (by omega)]) (fun k hk => by rw [qI _ (by omega)]) (fun k hk => by rw [qJ _ (by omega)]) (by omega)
  · exact (l5 e he).fr (fun a a1 a2 a3 a4 a5 => qI a (by omega)) (qJ _ (by omega)) (fun e he => by rw [qI _ (by omega)]) (fun k hk => by rw [qI 198 (by omega)]) (fun k hk => by rw [qJ 199 (by omega)]) (by omega)
theorem Inv.ti (hI : Inv L xs h z) : TI h := by
  obtain ⟨-, G, c, i, ⟨-, -, t, -⟩, -⟩ := hI
  exact t
theorem why_cg {m m' : Nat → Int32} (e : ∀ i, i < 4 → m i = m' i) : why m x y = why m' x y := by
  unfold why
  by_cases q : x < 0
  · rw [if_pos q, if_pos q]
  by_cases q2 : 4 ≤ x
  · rw [if_neg q, if_neg q, if_pos q2, if_pos q2]
  obtain ⟨j, hj, ex⟩ := nI_of q
  subst ex
  have : j < 4 := by
    have := mt (nI_leI (a := 4) (b := j) (by omega) hj).mpr q2
    omega
  rw [ix_n hj, e j this]
theorem ps_cg {m m' so so' : Nat → Int32} {a b c : Int32} (e : ∀ i, i < 4 → m i = m' i ∧ so i = so' i) : pourS m so x a y b c = pourS m' so' x a y b c := by
  unfold pourS
  by_cases q : x < 0
  · rw [if_pos q, if_pos q]
  by_cases q2 : 4 ≤ x
  · rw [if_neg q, if_neg q, if_pos q2, if_pos q2]
  by_cases q3 : y < 0
  · rw [if_neg q, if_neg q, if_neg q2, if_neg q2, if_pos q3, if_pos q3]
  by_cases q4 : 4 ≤ y
  · rw [if_neg q, if_neg q, if_neg q2, if_neg q2, if_neg q3, if_neg q3, if_pos q4, if_pos q4]
  obtain ⟨j, hj, ex⟩ := nI_of q
  obtain ⟨k, hk, ey⟩ := nI_of q3
  subst ex ey
  have w1 : j < 4 := by
    have := mt (nI_leI (a := 4) (b := j) (by omega) hj).mpr q2
    omega
  have w2 : k < 4 := by
    have := mt (nI_leI (a := 4) (b := k) (by omega) hk).mpr q4
    omega
  rw [ix_n hj, ix_n hk, (e j w1).1, (e j w1).2, (e k w2).1, (e k w2).2]
theorem Q154 {w : Int32} (hI : Inv L xs h z) (hz : z < 1000) (k : Jn L xs z (W210 x y w) D) : W154 x y w h D := by
  have ti := hI.ti
  refine S154 ti (fun no => ?_) (fun i s n g hi hs hn ex ey ew ⟨g1, g2, g3, g4, g5, g6, g7⟩ gz => ?_)
  · exact k.st hI hz (fun Y hY => S210 (fun _ => hY) (fun i s n g hi hs hn ex ey ew _ _ _ => (no ⟨i, s, n, hi, hs, hn, ex, ey, ew⟩).elim))
  · refine k _ _ ?_ (fun Y hY => S210 (fun no => (no ⟨i, s, n, hi, hs, hn, ex, ey, ew⟩).elim) (fun i' s' n' g' hi' hs' hn' ex' ey' ew' ⟨u1, u2, u3, u4, u5, u6, u7⟩ uz uk => hY _ ?_))
    · unfold Sc
      rw [N_sI, g4]
      refine ⟨hI.sc.1, ?_⟩
      rw [show (g.sI 0 0 0).I 1000000 = g.I 1000000 from funext (fun j => by rw [I_sI, if_neg (by omega)]), g6]
      exact hI.sc.2
    · have ei : i' = i := (nI_eq (by omega) (by omega)).mp (ex'.symm.trans ex)
      have en : n' = n := (nI_eq (by omega) (by omega)).mp (ew'.symm.trans ew)
      subst ei en
      have gI : ∀ a, ¬ (a = 0 ∨ a = 7 ∨ a = 8 ∨ a = 197 ∨ a = 200 ∨ a = 201) → (g'.sI 197 2 0).I a = h.I a := fun a ha => funext (fun j => by
        rw [I_sI, if_neg (by omega), u6, I_sI, if_neg (by omega), I_sI, if_neg (by omega), I_sI, if_neg (by omega), g6, I_sI, if_neg (by omega), I_sI, if_neg (by omega)])
      refine hI.tray hz ⟨by rw [n_sI, u1, n_sI, g1], by rw [sl_sI, u2, sl_sI, g2], by rw [K_sI, u3, K_sI, g3], by rw [N_sI, u4, N_sI, g4], by rw [P_sI, u5, P_sI, g5]⟩ gI (fun a ha => by rw [J_sI, u7 a (by omega), J_sI, g7 a (by omega)]) (fun j hj => ?_) (fun j hj => ?_) ?_ ?_
      · rw [I_sI, if_neg (by omega), u6, I_sI, if_neg (by omega), I_sI, if_neg (by omega), I_sI, if_neg (by omega), g6, I_sI, if_neg (by omega), I_sI, if_neg (by omega)]
      · rw [I_sI, if_neg (by omega), u6, I_sI, if_neg (by omega), I_sI, if_neg (by omega), I_sI, if_neg (by omega), g6, I_sI, if_neg (by omega), I_sI, if_neg (by omega)]
      · rw [I_eq, I_sI, if_neg (by omega), u6, I_sI, if_neg (by omega), I_sI, if_neg (by omega), I_eq]
      · refine TI.lay (i := i') (n := n') (y := y) ti hn ew (fun k => ?_) (fun k => ?_) (fun k => ?_) (fun k => ?_) (fun k hk ne => ?_) (fun j hj => ?_) (fun j hj => ?_) (fun k hk => ?_) (fun k hk => ?_)
        · rw [I_sI, if_neg (by omega), u6, I_sI, if_neg (by omega), I_sI, if_neg (by omega), I_sI, if_neg (by omega), g6, I_sI, if_neg (by omega), I_sI]
          by_cases e : k = i'
          · rw [if_pos ⟨rfl, e⟩, if_pos e]
          · rw [if_neg (by omega), if_neg e]
        · rw [I_sI, if_neg (by omega), u6, I_sI, if_neg (by omega), I_sI, if_neg (by omega), I_sI, if_neg (by omega), g6, I_sI]
          by_cases e : k = i'
          · rw [if_pos ⟨rfl, e⟩, if_pos e]
          · rw [if_neg (by omega), if_neg e, I_sI, if_neg (by omega)]
        · rw [I_sI, if_neg (by omega), u6, I_sI, if_neg (by omega), I_sI]
          by_cases e : k = i'
          · rw [if_pos ⟨rfl, e⟩, if_pos e]
          · rw [if_neg (by omega), if_neg e, I_sI, if_neg (by omega), g6, I_sI, if_neg (by omega), I_sI, if_neg (by omega)]
        · rw [I_sI, if_neg (by omega), u6, I_sI]
          by_cases e : k = i'
          · rw [if_pos ⟨rfl, e⟩, if_pos e]
          · rw [if_neg (by omega), if_neg e, I_sI, if_neg (by omega), I_sI, if_neg (by omega), g6, I_sI, if_neg (by omega), I_sI, if_neg (by omega)]
        · rw [J_sI, u7 _ (by omega), J_sI, g7 _ (by omega)]
        · rw [J_sI, u7 _ (by omega), J_sI, gz j hj]
        · rw [J_sI]; exact uz j hj
        · rw [J_sI, uk k hk, J_sI, g7 _ (by omega)]
        · rw [K_sI, u3, K_sI, g3, N_sI, u4, N_sI, g4]; exact ⟨rfl, rfl⟩
theorem Q155 {w : Int64} (hI : Inv L xs h z) (hz : z < 1000) (k : Jn L xs z (W212 x y w) D) : W155 x y w h D := by
  have ti := hI.ti
  have e8 : ∀ i, i < 4 → h.I 201 i = h.I 8 i := fun i hi => (ti i hi).2.1.symm
  have many : ∀ i, i < 4 → h.I 201 i = (-1) ∨ ∃ n, n ≤ 60 ∧ h.I 201 i = nI n := fun i hi => by rw [e8 i hi]; exact ti.many i hi
  refine S155 ti (fun v ev v0 => ?_) (fun i j n ew hi ex ey hj hn h8 => ?_)
  · exact k.st hI hz (fun Y hY => S212 (h := h.sI 0 0 v) many (fun v' ev' v0' => by rw [ev', show why ((h.sI 0 0 v).I 201) x y = v from (why_cg e8).trans ev.symm]; exact hY) (fun i j n ew => (v0 (ev.trans ((why_cg (fun i hi => (e8 i hi).symm)).trans ew))).elim))
  · refine k _ _ hI.sc (fun Y hY => S212 (h := (h.sJ (3 + i) j (cutF w (h.I 7 i))).sI 0 0 0) many (fun v' ev' v0' => (v0' (ev'.trans ((why_cg e8).trans ew))).elim) (fun i' j' n' ew' hi' ex' ey' hj' hn' h8' => hY _ ?_))
    have ei : i' = i := (nI_eq (by omega) (by omega)).mp (ex'.symm.trans ex)
    have ej : j' = j := (nI_eq (by omega) (by omega)).mp (ey'.symm.trans ey)
    subst ei ej
    rw [show ((h.sJ (3 + i') j' (cutF w (h.I 7 i'))).sI 0 0 0).I 200 i' = h.I 7 i' from (ti i' hi).1.symm]
    refine hI.tray hz ⟨rfl, rfl, rfl, rfl, rfl⟩ (fun a ha => funext (fun l => by rw [I_sI, if_neg (by omega), I_sJ, I_sI, if_neg (by omega), I_sJ])) (fun a ha => funext (fun l => by rw [J_sI, J_sJ, if_neg (by omega), J_sI, J_sJ, if_neg (by omega)])) (fun l hl => by rw [I_sI, if_neg (by omega), I_sJ, I_sI, if_neg (by omega), I_sJ]) (fun l hl => by rw [I_sI, if_neg (by omega), I_sJ, I_sI, if_neg (by omega), I_sJ]) (by rw [I_eq, I_sI, if_neg (by omega), I_sJ, I_eq]) ?_
    refine ti.write (i := i') (j := j') (n := n) (v := cutF w (h.I 7 i')) hi hj hn h8 (fun a ha => funext (fun l => by rw [I_sI, if_neg (by omega), I_sJ, I_sI, if_neg (by omega), I_sJ])) (fun k hk l => ?_) (fun l => ?_) (fun k hk => ⟨rfl, rfl⟩)
    · rw [J_sI, J_sJ, if_neg (by omega), J_sI, J_sJ]
      by_cases e : k = i' ∧ l = j'
      · rw [if_pos (by omega), if_pos e]
      · rw [if_neg (by omega), if_neg e]
    · rw [J_sI, J_sJ]
      by_cases e : l = 60 * i' + j'
      · rw [if_pos ⟨rfl, e⟩, if_pos e]
      · rw [if_neg (by omega), if_neg e, J_sI, J_sJ, if_neg (by omega)]
theorem Q156 {D : Int64 → TH → Prop} (hI : Inv L xs h z) (hz : z < 1000) (k : Jn L xs z (W213 x y) D) : W156 x y h D := by
  have ti := hI.ti
  have e8 : ∀ i, i < 4 → h.I 201 i = h.I 8 i := fun i hi => (ti i hi).2.1.symm
  have many : ∀ i, i < 4 → h.I 201 i = (-1) ∨ ∃ n, n ≤ 60 ∧ h.I 201 i = nI n := fun i hi => by rw [e8 i hi]; exact ti.many i hi
  refine S156 ti (fun v ev v0 => ?_) (fun i j n ew hi ex ey hj hn h8 => ?_)
  · refine k _ _ (hI.sc0 v) (fun Y hY => S213 (h := h.sI 0 0 v) many (fun v' ev' v0' => ?_) (fun i j n ew => (v0 (ev.trans ((why_cg (fun i hi => (e8 i hi).symm)).trans ew))).elim))
    rw [ev', show why ((h.sI 0 0 v).I 201) x y = v from (why_cg e8).trans ev.symm]
    exact hY _ (hI.st0 hz v)
  · refine k _ _ (hI.sc0 0) (fun Y hY => S213 (h := h.sI 0 0 0) many (fun v' ev' v0' => (v0' (ev'.trans ((why_cg e8).trans ew))).elim) (fun i' j' n' ew' hi' ex' ey' hj' hn' h8' => ?_))
    have ei : i' = i := (nI_eq (by omega) (by omega)).mp (ex'.symm.trans ex)
    have ej : j' = j := (nI_eq (by omega) (by omega)).mp (ey'.symm.trans ey)
    subst ei ej
    have : (h.sI 0 0 0).J 202 (60 * i' + j') = h.J (3 + i') j' := by
      rcases (ti i' hi).2.2.1 with w | ⟨m, m1, m2, m3⟩
      · rw [w] at h8; exact absurd h8.symm (nI_ne1 (by omega))
      · have em : m = n := (nI_eq (by omega) (by omega)).mp (m2.symm.trans h8)
        exact (m3 j' (by omega)).symm
    rw [this]
    exact hY _ (hI.st0 hz 0)
theorem Q157 {a b c : Int32} (hI : Inv L xs h z) (hz : z < 1000) (k : Jn L xs z (W214 x a y b c) D) : W157 x a y b c h D := by
  have ti := hI.ti
  have e8 : ∀ i, i < 4 → h.I 201 i = h.I 8 i := fun i hi => (ti i hi).2.1.symm
  have e78 : ∀ i, i < 4 → h.I 201 i = h.I 8 i ∧ h.I 200 i = h.I 7 i := fun i hi => ⟨(ti i hi).2.1.symm, (ti i hi).1.symm⟩
  have many : ∀ i, i < 4 → h.I 201 i = (-1) ∨ ∃ n, n ≤ 60 ∧ h.I 201 i = nI n := fun i hi => by rw [e8 i hi]; exact ti.many i hi
  refine S157 ti (fun v ev v0 => ?_) (fun i j a' b' c' n m ew hi hj ex ey ea eb ec h8 h8' hn hm ha hb => ?_)
  · exact k.st hI hz (fun Y hY => S214 (h := h.sI 0 0 v) many (fun v' ev' v0' => by rw [ev', show pourS ((h.sI 0 0 v).I 201) ((h.sI 0 0 v).I 200) x a y b c = v from (ps_cg e78).trans ev.symm]; exact hY) (fun i j a' b' c' n m ew => (v0 (ev.trans ((ps_cg e78).symm.trans ew))).elim))
  · refine k _ _ hI.sc (fun Y hY => ?_)
    refine S214 (h := (h.cJ (3 + j) (fun l => if b' ≤ l ∧ l < b' + c' then h.J (3 + i) (a' + (l - b')) else h.J (3 + j) l)).sI 0 0 0) many (fun v' ev' v0' => (v0' (ev'.trans ((ps_cg e78).trans ew))).elim) (fun i2 j2 a2 b2 c2 n2 m2 ew' hi' hj' ex' ey' ea' eb' ec' h82 h82' hn' hm' ha' hb' => ?_)
    have g1 : h.I 201 i2 = nI n2 := h82
    have g2 : h.I 201 j2 = nI m2 := h82'
    refine S214m hi' hj' (by omega) (by omega) (fun g ⟨u1, u2, u3, u4, u5, u6, u7⟩ uz => hY _ ?_)
    have ei : i2 = i := (nI_eq (by omega) (by omega)).mp (ex'.symm.trans ex)
    have ej : j2 = j := (nI_eq (by omega) (by omega)).mp (ey'.symm.trans ey)
    have ea3 : a2 = a' := (nI_eq (by omega) (by omega)).mp (ea'.symm.trans ea)
    have eb3 : b2 = b' := (nI_eq (by omega) (by omega)).mp (eb'.symm.trans eb)
    have ec3 : c2 = c' := (nI_eq (by omega) (by omega)).mp (ec'.symm.trans ec)
    subst ei ej ea3 eb3 ec3
    have gI : ∀ d l, ¬ (d = 0 ∧ l = 0) → g.I d l = h.I d l := fun d l hd => by rw [u6, I_sI, if_neg hd]; rfl
    have gJ : ∀ d l, d ≠ 202 → g.J d l = if d = 3 + j2 then (if b2 ≤ l ∧ l < b2 + c2 then h.J (3 + i2) (a2 + (l - b2)) else h.J (3 + j2) l) else h.J d l := fun d l hd => by
      rw [u7 d hd, J_sI, J_cJ]
      by_cases e : d = 3 + j2
      · rw [if_pos e, if_pos e]
      · rw [if_neg e, if_neg e]
    refine hI.tray hz ⟨by rw [n_sI, u1]; rfl, by rw [sl_sI, u2]; rfl, by rw [K_sI, u3]; rfl, by rw [N_sI, u4]; rfl, by rw [P_sI, u5]; rfl⟩ (fun d hd => funext (fun l => by rw [I_sI, if_neg (by omega), gI d l (by omega)])) (fun d hd => funext (fun l => by rw [J_sI, gJ d l (by omega), if_neg (by omega)])) (fun l hl => by rw [I_sI, if_neg (by omega), gI 0 l (by omega)]) (fun l hl => by rw [I_sI, if_neg (by omega), gI 197 l (by omega)]) (by rw [I_eq, I_sI, if_neg (by omega), u6, I_eq]) ?_
    refine ti.pour (i := i2) (k := j2) (a := a2) (b := b2) (c := c2) hi hj h8 h8' hn hm ha hb (fun d hd => funext (fun l => by rw [I_sI, if_neg (by omega), gI d l (by omega)])) (fun d hd l => ?_) (fun l => ?_) (fun d hd => by rw [K_sI, u3, N_sI, u4]; exact ⟨rfl, rfl⟩)
    · rw [J_sI, gJ _ l (by omega)]
      by_cases e : d = j2
      · subst e
        rw [if_pos rfl]
        by_cases e2 : b2 ≤ l ∧ l < b2 + c2
        · rw [if_pos e2, if_pos ⟨rfl, e2⟩]
        · rw [if_neg e2, if_neg (fun w => e2 w.2)]
      · rw [if_neg (by omega), if_neg (fun w => e w.1)]
    · have e202 : ∀ l, ((h.cJ (3 + j2) (fun l => if b2 ≤ l ∧ l < b2 + c2 then h.J (3 + i2) (a2 + (l - b2)) else h.J (3 + j2) l)).sI 0 0 0).J 202 l = h.J 202 l := fun l => by rw [J_sI, J_cJ, if_neg (by omega)]
      rw [J_sI, uz l, e202, e202]
theorem and255 (v : Int32) : ∃ t, t < 256 ∧ v &&& 255 = nI t := by
  refine ⟨(v &&& 255).toBitVec.toNat, ?_, (nI_toN _).symm⟩
  have : (v &&& 255).toBitVec = v.toBitVec &&& 255#32 := rfl
  rw [this, BitVec.toNat_and]
  exact Nat.lt_of_le_of_lt Nat.and_le_right (by decide)
theorem Q158 (wd : Nat → Int32) (hI : Inv L xs h z) (hz : z < 1000) (k : Jn L xs z (W216 (wd 0) (wd 1) (wd 2) (wd 3) (wd 4)) D) : W158 (wd 0) (wd 1) (wd 2) (wd 3) (wd 4) h D := by
  have hn := hI.nn
  obtain ⟨s0, G, c, i, r, se⟩ := id hI
  obtain ⟨⟨⟨y, T, hy, t1, t2, t3⟩, t4, t5, t6⟩, r2, r3, r4, r5, r6, r7, l1, l2, l3, l4, l5⟩ := id r
  refine S158 wd t1 hy (fun q => ?_) (fun q g p p1 p2 p3 p4 => ?_)
  · exact k _ _ hI.sc (fun Y hY => S216 wd t2 hy (fun _ => hY _ (hI.mk hz Kept.refl ⟨by omega, by omega, by omega⟩ s0 (fun _ _ s => s))) (fun q2 => by omega))
  · refine k _ _ (hI.sc.gr p.gr (by omega)) (fun Y hY => S216 wd (z := y) (by rw [p.I (by omega)]; exact t2) hy (fun q2 => by omega) (fun _ g2 u u1 u2 u3 u4 => hY _ ?_))
    have w : Sm (fun a => a = 9 ∨ a = 10 ∨ a = 197 ∨ a = 203) h g2 := (p.mono (fun a ha => by omega)).trans (u.mono (fun a ha => by omega))
    have J : ∀ a, ¬ (a = 9 ∨ a = 10 ∨ a = 203) → g2.J a = h.J a := fun a ha => w.2.2.2.2.2.2 a (by omega)
    have e197 : ∀ j, j ≠ 10 → g2.I 197 j = h.I 197 j := fun j hj => by rw [u1 j hj, p.I (by omega)]
    have e9 : ∀ j, j ≠ 1 → g2.I 9 j = h.I 9 j := fun j hj => by rw [u.I (by omega), p1 j hj]
    have lv : ∀ (e : Nat) (a : Nat), e < 4 → 43 + 24 * e ≤ a → a < 67 + 24 * e → g2.I a = h.I a := fun e a he a1 a2 => w.I (by omega)
    refine ⟨⟨by rw [w.I (by omega), e197 2 (by omega)]; exact s0.1, by rw [J 0 (by omega), J 197 (by omega)]; exact s0.2.1, by rw [J 0 (by omega), J 197 (by omega)]; exact s0.2.2⟩, G, c, i, ?_, se.gr w.gr hn.1 (fun a ha => by unfold outS; omega) ⟨e197 30 (by omega), w.I (by omega), w.I (by omega), w.I (by omega)⟩⟩
    refine r.cur w.gr (fun a ha => by unfold spare; omega) ⟨by rw [w.n]; omega, by rw [w.sl]; omega⟩ hz ?_ (r2.fr (by rw [w.I (by omega)]) (e197 52 (by omega)) (w.I (by omega)) (w.I (by omega)) (w.I (by omega))) (by rw [w.I (by omega)]) (e197 55 (by omega)) (fun k _ _ => by rw [w.I (by omega)]) (fun k _ _ => by rw [J 199 (by omega)]) (fun _ _ => rfl) ⟨Nat.le_refl _, by omega, by rw [w.I (by omega)]; exact r7.1⟩ (l4.fr (fun a a1 a2 a3 a4 a5 => lv i a l1 a1 a2) (J _ (by omega)) (fun e he => by rw [lv i _ l1 (by omega) (by omega)]) (fun k hk => by rw [w.I (by omega)]) (fun k hk => by rw [J 199 (by omega)]) (by omega))
    refine ⟨⟨y + 20, fun k => if k < y then T k else Classical.choose (and255 (iushr (wd ((k - y) / 4)) (sft ((k - y) % 4)))), by omega, by rw [u.I (by omega)]; exact p2, u2, fun k hk => ?_⟩, by rw [e9 10 (by omega), e197 16 (by omega)]; exact t4, by rw [e9 11 (by omega), e197 17 (by omega)]; exact t5, fun x hx => by rw [J 11 (by omega)]; exact t6 x hx⟩
    dsimp only
    by_cases ky : k < y
    · rw [if_pos ky, u.I (by omega), p3 k (by omega), u3 k (by omega), p.I (by omega)]
      exact t3 k ky
    · rw [if_neg ky]
      have sp := Classical.choose_spec (and255 (iushr (wd ((k - y) / 4)) (sft ((k - y) % 4))))
      have ek : k = y + 4 * ((k - y) / 4) + (k - y) % 4 := by omega
      refine ⟨sp.1, ?_, ?_⟩
      · rw [← sp.2, u.I (by omega)]
        have := p4 ((k - y) / 4) ((k - y) % 4) (by omega) (by omega)
        rw [← ek] at this; exact this
      · rw [← sp.2, ← byte_eq (by omega)]
        have := u4 ((k - y) / 4) ((k - y) % 4) (by omega) (by omega)
        rw [← ek] at this; rw [this]
end TRY
