/-! work, steps, curve, spared, again -/
section LST
variable {h g h2 g2 : TH} {L z c i t : Nat} {xs : Nat → Int32} {G : Int32 → Nat → Int32} {T S : Nat → Prop} {D : Int32 → TH → Prop} {x y : Int32} {M : Nat → Int32}
theorem Inv.sr (hI : Inv L xs h z) : ∃ G c i M s, Rst L xs h z G c i ∧ Se h G c ∧ i < 4 ∧ h.I 0 10 = nI i ∧ Wf M ∧ CM h (43 + 24 * i) M ∧ MA h M ∧ h.I (43 + 24 * i) 0 = nI s ∧ s ≤ c ∧ s ≤ 1000 ∧ G (nI s) = M := by
  obtain ⟨G, c, i, M, N, cn, S, U, W, k, A, s, r, se, l, hi, cur, hw, hc, hM, -⟩ := hI.lev
  have z1 := r.2.2.2.2.2.2.1.2
  have z2 := r.2.2.2.2.1
  obtain ⟨s1, s2, s3⟩ := l.2.2.2.1
  unfold Rm at z2
  exact ⟨G, c, i, G (nI s), s, r, se, hi, cur, hw.cg s3, hc.cg hw s3, hM.cg s3, s1, s2, by omega, rfl⟩
theorem is3_i (hi : i < 4) : is3 (43 + 24 * i) := by unfold is3; omega
theorem bigOf_k (M : Nat → Int32) (e : Nat) : bigOf M (100 + e) = bigK M e := by
  unfold bigOf
  rw [if_pos (by omega), show 100 + e - 100 = e by omega]
theorem bigOf_p (M : Nat → Int32) {e : Nat} (he : e ≤ 12) : bigOf M e = fun _ => e := by
  unfold bigOf
  rw [if_neg (by omega)]
/-- a LEAST search is through -/
theorem least_own {cw s : Nat} (se : Se h G c) (hn : 222 ≤ h.n) (hb : h.n ≤ 1000000) (ht : t = 139 ∨ t = 152 ∨ t = 165) (hcw : (t = 165 → cw = 0) ∧ (t ≠ 165 → cw = 4096)) (lp : LPost h g t) (tk : tKeep h g t) (lc : LC g t cw (fun s' => if s' = nI s then M else fun _ => 100)) (e : G (nI s) = M) (hs : s ≤ c) : Pst h g t ∧ Own g G t c ∧ Fst g ∧ g.n ≤ h.n + 5 ∧ g.sl ≤ h.sl + 20480 := by
  obtain ⟨lc', st⟩ := lc.pick e
  have hp := Pst.least ht lp tk lc' se.1 hn
  have fs : Fst g := by
    by_cases e9 : t = 139
    · subst e9; exact se.2.2.2.2.2.2.2.1.least se.1 lp tk hn
    · exact se.2.2.2.2.2.2.2.1.oth se (by unfold six; omega) e9 hp hn hb
  refine ⟨hp, ⟨fun q => ?_, fun q => ?_, fun q => ?_, fun q => by omega, fun q => by omega, fun q => by omega, fun f q => ?_⟩, fs, lp.2.2.1, lp.2.2.2⟩
  · subst q; rw [hcw.2 (by omega)] at lc'; exact lc'
  · subst q; rw [hcw.2 (by omega)] at lc'; exact lc'
  · subst q; rw [hcw.1 rfl] at lc'; exact lc'
  · rcases q with ⟨-, q⟩ | ⟨q, -⟩
    · subst q
      exact st.imp id (fun w => ⟨s, hs, w⟩)
    · omega
theorem inFit_sp {a : Nat} (q : inFit a ∨ i208 a) : a = 197 ∨ (spare a ∧ outS a) := by
  unfold inFit i208 at q
  by_cases e : a = 197
  · exact Or.inl e
  · exact Or.inr (sp_in (by omega))
def rv (r : Option Nat) : Int32 := match r with | none => (-1) | some c => nI (c / 4096)
def rs (r : Option Nat) : Int32 := match r with | none => 6 | some _ => 0
theorem W195_r {M : Nat → Int32} {big : Nat → Nat} {cw : Nat} {goal : Int32} {r : Option Nat} (hr : Sought M big cw goal r) (k : D (rv r) (h.sI 0 0 (rs r))) : W195 (rv r) h D := by
  unfold W195 W193 W194
  cases r with
  | none => rw [if_neg (fun n => n rfl)]; exact k
  | some c => have := hr.2; rw [if_pos (show ¬ rv (some c) = -1 from nI_ne1 (by omega))]; exact k
theorem W288_r {M : Nat → Int32} {big : Nat → Nat} {cw : Nat} {goal : Int32} {r : Option Nat} (hr : Sought M big cw goal r) (k : D (rv r) (h.sI 197 2 (rs r))) : W288 (rv r) h D := by
  unfold W288 W205 W206
  cases r with
  | none => rw [if_neg (fun n => n rfl)]; exact k
  | some c => have := hr.2; rw [if_pos (show ¬ rv (some c) = -1 from nI_ne1 (by omega))]; exact k
/-- the reference's least work -/
theorem ref_work {big : Nat → Nat} {goal w1 w2 : Int32} {r : Option Nat} {C : Int32 → TH → Prop} (hw : Wf M) (hM : MA h M) (hg : St (aN M) goal) (hr : Sought M big 4096 goal r) (hb : (∃ more, more ≤ 9 ∧ w1 = nI more ∧ w2 = -1 ∧ big = bigK M more) ∨ (∃ p, p ≤ 12 ∧ w2 = nI p ∧ big = fun _ => p)) (k : ∀ g, Sm (fun a => inFit a ∨ i208 a) h g → (∀ j, j ≠ 25 → g.I 197 j = h.I 197 j) → C (rv r) g) : W263 w1 w2 h (fun h2 => W287 goal h2 C) := by
  have go : ∀ g, Sm inFit h g → (∀ j, j ≠ 25 → g.I 197 j = h.I 197 j) → MFit g M big → W287 goal g C := fun g sm e mf => by
    refine S287 hw (hM.sm sm (by unfold inFit; omega)) mf hg hr (fun g2 T s2 _ _ _ => ?_)
    have w := k g2 ((sm.mono (fun a ha => Or.inl ha)).trans (s2.mono (fun a ha => Or.inr ha))) (fun j hj => by rw [s2.I (by unfold i208; omega), e j hj])
    cases r with
    | none => exact w
    | some c => exact w
  rcases hb with ⟨more, m1, m2, m3, m4⟩ | ⟨p, p1, p2, p3⟩
  · subst m3; subst m4
    exact S263 hw hM more m1 m2 go
  · subst p3
    exact S263o hw hM p p1 p2 go
theorem Q174 (hI : Inv L xs h z) (hz : z < 1000) (k : Jn L xs z (W289 x) D) : W174 x h D := by
  obtain ⟨G, c, i, M, s, r, se, hi, cur, hw, hc, hM, hs, sc, s1, eG⟩ := hI.sr
  have hn := hI.nn
  have h12 := hw.n12
  have cur' : ix (h.I 0 10) = i := by rw [cur, ix_n (by omega)]
  have hin : inb (h.I 0 10) 4 := by rw [cur]; exact inb_n hi
  unfold W174 W192
  dsimp only
  rw [cur']
  refine ⟨hin, S56 hw hc.1 (fun hg => ?_) (fun e => ?_)⟩
  · rw [if_pos (by decide)]
    refine ⟨hin, S31 hw hc (is3_i hi) se.2.1 (by rw [hs]; exact eG) (by rw [hs]; exact nI_ne1 (by omega)) 0 (by omega) rfl hn.1 (by omega) (fun g L' b5 b6 b7 b8 b9 k1 V od w σ p1 p2 p3 p4 p5 p6 p7 => ?_)⟩
    refine seek_work (G := fun s' => if s' = nI s then M else fun _ => 100) hw hg (by omega) (by omega) (by rw [hs, if_pos rfl]) p1 p2 p3 p4 p5 p6 p7 (fun g' r' q1 q2 q3 q4 => ?_)
    rw [bigOf_k] at q4
    obtain ⟨o1, o2, o3, o4, o5⟩ := least_own se hn.1 (by omega) (Or.inl rfl) ⟨by omega, fun _ => rfl⟩ q1 q2 q3 eG sc
    show W195 (rv r') g' _
    refine W195_r q4 ?_
    obtain ⟨t1, t2, t3⟩ := hI.sks (s := rs r') se (Or.inl rfl) o1
    refine k _ _ t1 (fun Y hY => ?_)
    unfold W289
    refine S249 hw (t2 M hM) (fun _ => ?_) (fun e => (hg.no h12 e).elim)
    rw [if_pos (by decide)]
    refine ref_work hw (t2 M hM) hg q4 (Or.inl ⟨0, by omega, rfl, rfl, rfl⟩) (fun g2 u1 u2 => ?_)
    refine W288_r q4 (hY _ ?_)
    refine hI.sk hz r se (Or.inl rfl) o1 o2 o3 ⟨by omega, by omega⟩ (Sm.sI u1 (Or.inl (Or.inl rfl)) _) (fun a ha => inFit_sp ha) (fun j hj => ?_) I_eq
    rw [I_nk (by omega), u2 j (by omega), I_sI, if_neg (by omega)]
  · rw [if_neg (fun n => n rfl)]
    refine k.st hI hz (fun Y hY => ?_)
    unfold W289
    refine S249 hw (hM.s0 _) (fun hg => (hg.no h12 e).elim) (fun _ => ?_)
    rw [if_neg (fun n => n rfl)]; exact hY
theorem Q179 (hI : Inv L xs h z) (hz : z < 1000) (k : Jn L xs z (W298 x y) D) : W179 x y h D := by
  obtain ⟨G, c, i, M, s, r, se, hi, cur, hw, hc, hM, hs, sc, s1, eG⟩ := hI.sr
  have hn := hI.nn
  have h12 := hw.n12
  have cur' : ix (h.I 0 10) = i := by rw [cur, ix_n (by omega)]
  have hin : inb (h.I 0 10) 4 := by rw [cur]; exact inb_n hi
  unfold W179 W192
  dsimp only
  rw [cur']
  refine ⟨hin, S56 hw hc.1 (fun hg => ?_) (fun e => ?_)⟩
  · rw [if_neg (by decide)]
    have bad : (y < nI 0 ∨ nI 12 < y) → D (-1) (h.sI 0 0 1) := fun q => by
      refine k.st hI hz (fun Y hY => ?_)
      unfold W298
      refine S249 hw (hM.s0 _) (fun _ => ?_) (fun e => (hg.no h12 e).elim)
      rw [if_neg (by decide)]
      refine S215 0 12 (by omega) (by omega) rfl rfl (fun p e p1 p2 => ?_) (fun _ => ?_)
      · rw [e, nI_ltI (by omega) (by omega), nI_ltI (by omega) (by omega)] at q; omega
      · rw [if_neg (fun n => n rfl)]; exact hY
    by_cases q : y < 0
    · rw [if_pos q]; exact bad (Or.inl q)
    rw [if_neg q]
    by_cases q2 : y ≤ 12
    · rw [if_pos q2]
      obtain ⟨p, hp, ep⟩ := nI_of2 (n := 12) (M := 12) rfl q q2
      refine ⟨hin, S32 hw hc (is3_i hi) se.2.2.1 (by rw [hs]; exact eG) (by rw [hs]; exact nI_ne1 (by omega)) p hp ep hn.1 (by omega) (fun g L' b5 b6 b7 b8 b9 k1 V od w σ p1 p2 p3 p4 p5 p6 p7 => ?_)⟩
      refine seek_work (G := fun s' => if s' = nI s then M else fun _ => 100) hw hg (by omega) (by omega) (by rw [hs, if_pos rfl]) p1 p2 p3 p4 p5 p6 p7 (fun g' r' q1 q2 q3 q4 => ?_)
      rw [bigOf_p M hp] at q4
      obtain ⟨o1, o2, o3, o4, o5⟩ := least_own se hn.1 (by omega) (Or.inr (Or.inl rfl)) ⟨by omega, fun _ => rfl⟩ q1 q2 q3 eG sc
      show W195 (rv r') g' _
      refine W195_r q4 ?_
      have s6 : six 152 := by unfold six; omega
      obtain ⟨t1, t2, t3⟩ := hI.sks (s := rs r') se s6 o1
      refine k _ _ t1 (fun Y hY => ?_)
      unfold W298
      refine S249 hw (t2 M hM) (fun _ => ?_) (fun e => (hg.no h12 e).elim)
      rw [if_neg (by decide)]
      refine S215 0 12 (by omega) (by omega) rfl rfl (fun p' e' _ _ => ?_) (fun q => ?_)
      · rw [if_pos (by decide)]
        refine ref_work hw (t2 M hM) hg q4 (Or.inr ⟨p, hp, ep, rfl⟩) (fun g2 u1 u2 => ?_)
        refine W288_r q4 (hY _ ?_)
        refine hI.sk hz r se s6 o1 o2 o3 ⟨by omega, by omega⟩ (Sm.sI u1 (Or.inl (Or.inl rfl)) _) (fun a ha => inFit_sp ha) (fun j hj => ?_) I_eq
        rw [I_nk (by omega), u2 j (by omega), I_sI, if_neg (by omega)]
      · rw [ep, nI_ltI (by omega) (by omega), nI_ltI (by omega) (by omega)] at q; omega
    · rw [if_neg q2]; exact bad (Or.inr (Int32.not_le.mp q2))
  · rw [if_pos rfl]
    refine k.st hI hz (fun Y hY => ?_)
    unfold W298
    refine S249 hw (hM.s0 _) (fun hg => (hg.no h12 e).elim) (fun _ => ?_)
    rw [if_pos rfl]; exact hY
theorem Q175 (hI : Inv L xs h z) (hz : z < 1000) (k : Jn L xs z (W290 x) D) : W175 x h D := by
  obtain ⟨G, c, i, M, s, r, se, hi, cur, hw, hc, hM, hs, sc, s1, eG⟩ := hI.sr
  have hn := hI.nn
  have h12 := hw.n12
  have cur' : ix (h.I 0 10) = i := by rw [cur, ix_n (by omega)]
  have hin : inb (h.I 0 10) 4 := by rw [cur]; exact inb_n hi
  unfold W175 W192
  dsimp only
  rw [cur']
  refine ⟨hin, S56 hw hc.1 (fun hg => ?_) (fun e => ?_)⟩
  · rw [if_pos (by decide)]
    refine ⟨hin, S31 hw hc (is3_i hi) se.2.2.2.1 (by rw [hs]; exact eG) (by rw [hs]; exact nI_ne1 (by omega)) 0 (by omega) rfl hn.1 (by omega) (fun g L' b5 b6 b7 b8 b9 k1 V od w σ p1 p2 p3 p4 p5 p6 p7 => ?_)⟩
    refine seek_key (G := fun s' => if s' = nI s then M else fun _ => 100) hw hg (by omega) (by omega) (by rw [hs, if_pos rfl]) p1 p2 p3 p4 p5 p6 p7 (fun g' r' q1 q2 q3 q4 => ?_)
    rw [bigOf_k] at q4
    have s6 : six 165 := by unfold six; omega
    obtain ⟨o1, o2, o3, o4, o5⟩ := least_own se hn.1 (by omega) (Or.inr (Or.inr rfl)) ⟨fun _ => rfl, by omega⟩ q1 q2 q3 eG sc
    have key : ∀ v st, (∀ T : Nat → Nat, (r' = none ∧ T 0 = 2000000000) ∨ (r' = some (T 0) ∧ T 0 < 2000000000 ∧ T 0 ≤ 1660948480) → ∀ (h3 : TH) (C : Int32 → TH → Prop), h3.I 208 0 = nI (T 0) → C v (h3.sI 197 2 st) → (if ¬ (h3.I 208 (ix 0)) = 2000000000 then (W288 (h3.I 208 (ix 0)) h3 (fun v4 h5 => C v4 h5)) else (W288 (-1) h3 (fun v6 h7 => C v6 h7)))) → D v (g'.sI 0 0 st) := fun v st hv => by
      obtain ⟨t1, t2, t3⟩ := hI.sks (s := st) se s6 o1
      refine k _ _ t1 (fun Y hY => ?_)
      unfold W290
      refine S249 hw (t2 M hM) (fun _ => ?_) (fun e => (hg.no h12 e).elim)
      rw [if_pos (by decide)]
      refine S263 hw (t2 M hM) 0 (by omega) rfl (fun g1 m1 m2 m3 => ?_)
      refine S284 hw ((t2 M hM).sm m1 (by unfold inFit; omega)) m3 hg (Or.inl ⟨rfl, rfl⟩) (fun g2 T n1 n2 n3 n4 => ?_)
      have two : (0 : Nat) < 2 ^ aN M := Nat.two_pow_pos _
      refine hv T (T_sought n2 n3 n4 q4) g2 _ (n2.1 0 two).1 (hY _ ?_)
      refine hI.sk hz r se s6 o1 o2 o3 ⟨by omega, by omega⟩ (S := fun a => inFit a ∨ i208 a) (Sm.sI ((m1.mono (fun a ha => Or.inl ha)).trans (n1.mono (fun a ha => Or.inr ha))) (Or.inl (Or.inl rfl)) _) (fun a ha => inFit_sp ha) (fun j hj => ?_) I_eq
      rw [I_nk (by omega), n1.I (by unfold i208; omega), m2 j (by omega), I_sI, if_neg (by omega)]
    have l20 : (2000000000 : Int32) = nI 2000000000 := rfl
    unfold W195 W193 W194
    cases r' with
    | none =>
      dsimp only
      rw [if_neg (fun n => n rfl)]
      refine key _ _ (fun T hT h3 C e0 hC => ?_)
      rcases hT with ⟨-, hT⟩ | ⟨hT, -⟩
      · rw [ix_0, e0, hT, if_neg (fun n => n rfl)]
        unfold W288
        rw [if_neg (fun n => n rfl)]; exact hC
      · exact absurd hT (by simp)
    | some cc =>
      have hb := q4.2
      dsimp only
      rw [if_pos (nI_ne1 (by omega))]
      refine key _ _ (fun T hT h3 C e0 hC => ?_)
      rcases hT with ⟨hT, -⟩ | ⟨hT, hT2, -⟩
      · exact absurd hT (by simp)
      · injection hT with hT
        rw [ix_0, e0, ← hT, l20, if_pos (fun n => by rw [nI_eq (by omega) (by omega)] at n; omega)]
        unfold W288
        rw [if_pos (nI_ne1 (by omega))]; exact hC
  · rw [if_neg (fun n => n rfl)]
    refine k.st hI hz (fun Y hY => ?_)
    unfold W290
    refine S249 hw (hM.s0 _) (fun hg => (hg.no h12 e).elim) (fun _ => ?_)
    rw [if_neg (fun n => n rfl)]; exact hY
end LST
