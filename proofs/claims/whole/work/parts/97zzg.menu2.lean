section MN2
variable {h g h2 g2 : TH} {L z c i t : Nat} {xs : Nat → Int32} {G : Int32 → Nat → Int32} {T S : Nat → Prop} {D : Int32 → TH → Prop} {x y : Int32} {M : Nat → Int32}
theorem qEnd_ok {T : Nat → Nat} {z : Nat} {s : QS} {e : Nat × Nat} (h : s.2.2.2 = []) : ¬ qth (.inr s) (qEnd T z) = .inl e := by
  show ¬ qEnd T z s = .inl e
  unfold qEnd
  rw [if_pos h]
  intro w; cases w
theorem W225_no {C : Int32 → TH → Prop} {y mx : Nat} (h10 : h.I 197 10 = nI y) (e : x < 0 ∨ ¬ x ≤ nI y ∨ ¬ x ≤ nI mx) (k : C 0 h) : W225 x (nI mx) h C := by
  unfold W225
  rw [h10]
  by_cases q : x < 0
  · rw [if_pos q]; exact k
  rw [if_neg q]
  by_cases q2 : nI y < x
  · rw [if_pos q2]; exact k
  rw [if_neg q2]
  by_cases q3 : x ≤ nI mx
  · rcases e with e | e | e
    · exact (q e).elim
    · exact (q2 (Int32.not_le.mp e)).elim
    · exact (e q3).elim
  · rw [if_neg q3]; exact k
theorem Q159 (hI : Inv L xs h z) (hz : z < 1000) (k : Jn L xs z (W242 x) D) : W159 x h D := by
  have hn := hI.nn
  obtain ⟨G, c, i, M, N, cn, S, U, W, kk, A, s0, r, se, l, hi, cur, -⟩ := hI.lev
  obtain ⟨⟨⟨y, T, hy, t1, t2, t3⟩, t4, t5, t6⟩, r2, r3, r4, r5, r6, r7, l1, l2, l3, l4, l5⟩ := id r
  have st := hI.1
  refine S159 hi cur hy t1 (fun k hk => (t3 k hk).2.1) (fun k hk => (t3 k hk).1) t6 (fun e => ?_) (fun zz hzz ex g e pe p1 p2 p3 p4 p5 p6 => ?_) (fun zz hzz ex g s' pe p1 p2 p3 p4 p5 p6 p7 p8 p9 p10 p11 p12 p13 => ?_)
  · refine k.st hI hz (fun Y hY => ?_)
    unfold W242
    refine W225_no (h := h.sI 0 0 1) (mx := 900) t2 (e.imp id Or.inl) ?_
    rw [if_neg (fun n => n rfl)]; exact hY
  · subst ex
    have b203 : ∀ k, k < zz → (g.I 203 k) &&& 255 = nI (T k) := fun k hk => by rw [p1.I (by omega)]; exact (t3 k (by omega)).2.2
    refine k _ _ (hI.sc.gr p1.gr (by omega)) (fun Y hY => S242 hy (by rw [p1.I (by omega)]; exact t2) hzz b203 (fun k hk => (t3 k (by omega)).1) (fun g2 s2 pe2 => by rw [pe] at pe2; cases pe2) (fun g2 e2 pe2 u1 u2 u3 u4 u5 u6 u7 u8 => hY _ ?_))
    have ee : e2 = e := by rw [pe] at pe2; injection pe2 with w; exact w.symm
    subst ee
    have sm : Sm (fun a => (a = 0 ∨ a = 9 ∨ 12 ≤ a ∧ a < 31) ∨ (a = 197 ∨ a = 198 ∨ a = 199 ∨ a = 204)) h g2 := (p1.mono (fun a ha => Or.inl ha)).trans (u1.mono (fun a ha => by unfold inR4 inRm at ha; omega))
    have v1 : ∀ a, ¬ (a = 197 ∨ a = 198 ∨ a = 199 ∨ a = 204) → g2.I a = g.I a := fun a ha => u1.I (by unfold inR4 inRm; omega)
    have f0 : ∀ j, j ≠ 0 → g2.I 0 j = h.I 0 j := fun j hj => by rw [v1 0 (by omega), p5 j hj]
    have f197 : ∀ j, (j < 10 ∨ 19 < j) → j ≠ 2 → g2.I 197 j = h.I 197 j := fun j h1 h2 => by rw [u4 j h1 h2, p1.I (by omega)]
    have f198 : ∀ k, k < 1760 → g2.I 198 k = h.I 198 k := fun k hk => by rw [u2 k hk, p1.I (by omega)]
    have f199 : ∀ k, k < 48 → g2.J 199 k = h.J 199 k := fun k hk => by rw [u3 k hk, p1.J (by omega)]
    refine ⟨⟨by rw [v1 0 (by omega), p4, u5], by rw [sm.J0, sm.J197]; exact st.2.1, by rw [sm.J0, sm.J197]; exact st.2.2⟩, G, c, i, ?_, se.gr sm.gr hn.1 (fun a ha => by unfold outS; omega) ⟨f197 30 (by omega) (by omega), sm.I (by omega), sm.I (by omega), sm.I (by omega)⟩⟩
    refine r.cur sm.gr (fun a ha => by unfold spare; omega) ⟨by rw [sm.n]; omega, by rw [sm.sl]; omega⟩ hz ?_ (r2.fr (f0 19 (by omega)) (f197 52 (by omega) (by omega)) (sm.I (by omega)) (sm.I (by omega)) (sm.I (by omega))) (f0 10 (by omega)) (f197 55 (by omega) (by omega)) (fun k _ h2 => f198 k h2) (fun k _ h2 => f199 k h2) (fun _ _ => rfl) ⟨Nat.le_refl _, by omega, by rw [v1 15 (by omega), p6]; exact r7.1⟩ (l4.fr (fun a a1 a2 a3 a4 a5 => sm.I (by omega)) (sm.J (by omega)) (fun e he => by rw [sm.I (by omega)]) (fun k hk => f198 k (by omega)) (fun k hk => f199 k (by omega)) (by omega))
    · exact ⟨⟨0, fun _ => 0, by omega, by rw [v1 9 (by omega), p3]; rfl, u6, fun k hk => by omega⟩, by rw [v1 9 (by omega), p2.1, u7], by rw [v1 9 (by omega), p2.2, u8], fun x hx => by rw [sm.J (by omega)]; exact t6 x hx⟩
  · subst ex
    have c1000 : c ≤ 1000 := by have := r7.2; unfold Rm at r5; omega
    have b203 : ∀ k, k < zz → (g.I 203 k) &&& 255 = nI (T k) := fun k hk => by rw [p1.I (by unfold inMn; omega)]; exact (t3 k (by omega)).2.2
    refine k _ _ (hI.sc.gr p1.gr (by unfold inMn; omega)) (fun Y hY => S242 hy (by rw [p1.I (by unfold inMn; omega)]; exact t2) hzz b203 (fun k hk => (t3 k (by omega)).1) (fun g2 s2 pe2 u1 u2 u3 u4 u5 u6 u7 u8 u9 u10 _ => ?_) (fun g2 e2 pe2 => by rw [pe] at pe2; cases pe2))
    have ee : s2 = s' := by rw [pe] at pe2; injection pe2 with w; exact w.symm
    subst ee
    refine hY _ ?_
    have kq := pMenu_kp 901 s00 s2 pe
    obtain ⟨p0, M', N'⟩ := s2
    dsimp only at p2 p3 p4 p8 u2 u4 kq
    have sm : Sm (fun a => (a = 0 ∨ a = 9 ∨ 12 ≤ a ∧ a < 31 ∨ 43 + 24 * i ≤ a ∧ a < 67 + 24 * i) ∨ (a = 197 ∨ a = 198 ∨ a = 199 ∨ a = 204)) h g2 := (p1.mono (fun a ha => Or.inl ha)).trans (u1.mono (fun a ha => by unfold inR4 inRm at ha; omega))
    have v1 : ∀ a, ¬ (a = 197 ∨ a = 198 ∨ a = 199 ∨ a = 204) → g2.I a = g.I a := fun a ha => u1.I (by unfold inR4 inRm; omega)
    have f0 : ∀ j, j ≠ 0 → g2.I 0 j = h.I 0 j := fun j hj => by rw [v1 0 (by omega), p13 j hj]
    have f197 : ∀ j, (j < 10 ∨ 19 < j) → j ≠ 2 → g2.I 197 j = h.I 197 j := fun j h1 h2 => by rw [u6 j h1 h2, p1.I (by unfold inMn; omega)]
    have hG : ∀ j, j ≤ c → (fun v => if v = nI (c + 1) then M' else G v) (nI j) = G (nI j) := fun j hj => if_neg (fun w => by have := (nI_eq (by omega) (by omega)).mp w; omega)
    have hst : h.I 15 2 + 1 = nI (c + 1) := by rw [r7.1, nI_1]
    refine ⟨⟨by rw [v1 0 (by omega), p12, u7], by rw [sm.J0, sm.J197]; exact st.2.1, by rw [sm.J0, sm.J197]; exact st.2.2⟩, fun v => if v = nI (c + 1) then M' else G v, c + 1, i, ?_, (se.stamp hG).gr sm.gr hn.1 (fun a ha => by unfold outS; omega) ⟨f197 30 (by omega) (by omega), sm.I (by omega), sm.I (by omega), sm.I (by omega)⟩⟩
    refine r.cur sm.gr (fun a ha => by unfold spare; omega) ⟨by rw [sm.n]; omega, by rw [sm.sl]; omega⟩ hz ⟨⟨0, fun _ => 0, by omega, by rw [v1 9 (by omega), p11]; rfl, u8, fun k hk => by omega⟩, by rw [v1 9 (by omega), p10.1, u9], by rw [v1 9 (by omega), p10.2, u10], fun x hx => by rw [sm.J (by omega)]; exact t6 x hx⟩ (r2.fr (f0 19 (by omega)) (f197 52 (by omega) (by omega)) (sm.I (by omega)) (sm.I (by omega)) (sm.I (by omega))) (f0 10 (by omega)) (f197 55 (by omega) (by omega)) (fun k h1 h2 => by rw [u3 k h1 h2, p1.I (by unfold inMn; omega)]) (fun k h1 h2 => by rw [u5 k h1 h2, p1.J (by unfold inMn; omega)]) hG ⟨by omega, by omega, by rw [v1 15 (by omega), p6, hst]⟩ ?_
    have k2 : ∀ j, 2 ≤ j → j < 8 → g2.I 198 j = upd (fun _ => 0) 6 (-1) j := fun j h1 h2 => by rw [u2 j (by omega)]; exact kq j h1 h2
    have bt0 : ∀ d, bt 0 d = true → False := fun d q => by rw [bt_0] at q; exact absurd q (by decide)
    refine ⟨M', N', 0, 0, 0, 0, 0, fun _ => 0, c + 1, p2, p3.frame (fun a a1 a2 => v1 a (by omega)), fun j hj => ?_, ⟨by rw [v1 _ (by omega), p5, hst], Nat.le_refl _, ?_⟩, fun k hk => u2 k (by omega), fun j hj => ?_, ⟨?_, by omega, St_0 _, St_0 _, sb_zero _, fun d hd q => (bt0 d q).elim⟩, ⟨k2 2 (by omega) (by omega), k2 3 (by omega) (by omega), k2 4 (by omega) (by omega), k2 5 (by omega) (by omega), fun d hd q => (bt0 d q).elim⟩, Or.inl ⟨by rw [v1 _ (by omega)]; exact p9, k2 6 (by omega) (by omega)⟩⟩
    · rw [u1.J (by unfold inR4 inRm; omega)]; exact p4 j hj
    · dsimp only; rw [if_pos rfl]; exact fun _ _ => rfl
    · have := u4 j hj; rw [Nat.zero_add] at this; exact this
    · unfold HCs sncS at p8 ⊢
      rw [v1 (65 + 24 * i) (by omega), v1 (65 + 24 * i + 1) (by omega)]; exact p8
theorem Q160 (hI : Inv L xs h z) (hz : z < 1000) (k : Jn L xs z (W246 x) D) : W160 x h D := by
  have hn := hI.nn
  obtain ⟨G, c, i, M, N, cn, S, U, W, kk, A, s0, r, se, l, hi, cur, hw, hc, hM, hC, hR, -⟩ := hI.lev
  obtain ⟨⟨⟨y, T, hy, t1, t2, t3⟩, t4, t5, t6⟩, r2, r3, r4, r5, r6, r7, l1, l2, l3, l4, l5⟩ := id r
  obtain ⟨m1, m2, m3, m4, m5, m6, m7, m8, m9⟩ := id l
  have st := hI.1
  have h12 := hw.n12
  have cm : CMn h (43 + 24 * i) N (aN M) := ⟨hc.1.1, m3, h12, by omega, r4.1, r4.2⟩
  have nmr : NmR h 0 N (aN M) := fun j hj => by rw [Nat.zero_add]; exact m6 j hj
  have n0 : h.I 198 0 = nI (aN M) := (hM 0 (by omega)).trans hw.1
  refine S160 (Mb := fun k => h.I 198 (1760 + k)) hi cur hy t1 (fun k hk => (t3 k hk).2.1) (fun k hk => (t3 k hk).1) t6 cm (fun e => ?_) (fun zz hzz h3 ex g e pe p1 p2 p3 p4 p5 p6 => ?_) (fun zz hzz h3 ex g s' pe pe0 p1 p2 p3 p4 p5 p6 p7 p8 p9 => ?_)
  · refine k.st hI hz (fun Y hY => ?_)
    unfold W246
    refine W225_no (h := h.sI 0 0 1) (mx := 300) t2 e ?_
    rw [if_neg (fun n => n rfl)]; exact hY
  · subst ex
    have e198 : g.I 198 = h.I 198 := p1.I (by unfold inPn; omega)
    have b203 : ∀ k, k < zz → (g.I 203 k) &&& 255 = nI (T k) := fun k hk => by rw [p1.I (by unfold inPn; omega)]; exact (t3 k (by omega)).2.2
    have nmg : NmR g 0 N (aN M) := fun j hj => by rw [p1.J (by unfold inPn; omega)]; exact nmr j hj
    refine k _ _ (hI.sc.gr p1.gr (by unfold inPn; omega)) (fun Y hY => S246 hy (by rw [p1.I (by unfold inPn; omega)]; exact t2) hzz h3 b203 (fun k hk => (t3 k (by omega)).1) nmg (by rw [e198]; exact n0) h12 (fun g2 s2 pe2 pe3 => ?_) (fun g2 e2 pe2 u1 u2 u3 u4 u5 u6 u7 => hY _ ?_))
    · rw [e198] at pe2
      rw [pe2] at pe
      exact absurd pe (qEnd_ok pe3)
    rw [e198] at pe2
    have ee : e2 = e := by rw [pe] at pe2; injection pe2 with w; exact w.symm
    subst ee
    have sm : Sm (fun a => inPn i a ∨ (a = 197 ∨ a = 198 ∨ a = 205 ∨ a = 204)) h g2 := (p1.mono (fun a ha => Or.inl ha)).trans (u1.mono (fun a ha => by unfold inPq inQp at ha; omega))
    have v1 : ∀ a, ¬ (a = 197 ∨ a = 198 ∨ a = 205 ∨ a = 204) → g2.I a = g.I a := fun a ha => u1.I (by unfold inPq inQp; omega)
    have f0 : ∀ j, j ≠ 0 → g2.I 0 j = h.I 0 j := fun j hj => by rw [v1 0 (by omega), p5 j hj]
    have f197 : ∀ j, (j < 10 ∨ j = 20 ∨ 22 < j) → j ≠ 2 → g2.I 197 j = h.I 197 j := fun j h1 h2 => by rw [u3 j h1 h2, p1.I (by unfold inPn; omega)]
    have f198 : ∀ k, k < 1760 → g2.I 198 k = h.I 198 k := fun k hk => by rw [u2 k hk, e198]
    have lvl : ∀ a, 43 + 24 * i ≤ a → a < 67 + 24 * i → g2.I a = h.I a := fun a h1 h2 => by
      rw [v1 a (by omega)]
      by_cases q : 58 + 24 * i ≤ a ∧ a < 63 + 24 * i
      · exact p6 a q.1 q.2
      · exact p1.I (by unfold inPn; omega)
    refine ⟨⟨by rw [v1 0 (by omega), p4, u4], by rw [sm.J0, sm.J197]; exact st.2.1, by rw [sm.J0, sm.J197]; exact st.2.2⟩, G, c, i, ?_, se.gr sm.gr hn.1 (fun a ha => by unfold inPn at ha; unfold outS; omega) ⟨f197 30 (by omega) (by omega), sm.I (by unfold inPn; omega), sm.I (by unfold inPn; omega), sm.I (by unfold inPn; omega)⟩⟩
    exact r.cur sm.gr (fun a ha => by unfold inPn at ha; unfold spare; omega) ⟨by rw [sm.n]; omega, by rw [sm.sl]; omega⟩ hz ⟨⟨0, fun _ => 0, by omega, by rw [v1 9 (by omega), p3]; rfl, u5, fun k hk => by omega⟩, by rw [v1 9 (by omega), p2.1, u6], by rw [v1 9 (by omega), p2.2, u7], fun x hx => by rw [sm.J (by unfold inPn; omega)]; exact t6 x hx⟩ (r2.fr (f0 19 (by omega)) (f197 52 (by omega) (by omega)) (sm.I (by unfold inPn; omega)) (sm.I (by unfold inPn; omega)) (sm.I (by unfold inPn; omega))) (f0 10 (by omega)) (f197 55 (by omega) (by omega)) (fun k _ h2 => f198 k h2) (fun k _ h2 => by rw [sm.J (by unfold inPn; omega)]) (fun _ _ => rfl) ⟨Nat.le_refl _, by omega, by rw [sm.I (by unfold inPn; omega)]; exact r7.1⟩ (l4.fr (fun a a1 a2 a3 a4 a5 => lvl a a1 a2) (sm.J (by unfold inPn; omega)) (fun e he => by rw [lvl _ (by omega) (by omega)]) (fun k hk => f198 k (by omega)) (fun k hk => by rw [sm.J (by unfold inPn; omega)]) (by omega))
  · subst ex
    have e198 : g.I 198 = h.I 198 := p1.I (by unfold inPn; omega)
    have b203 : ∀ k, k < zz → (g.I 203 k) &&& 255 = nI (T k) := fun k hk => by rw [p1.I (by unfold inPn; omega)]; exact (t3 k (by omega)).2.2
    have nmg : NmR g 0 N (aN M) := fun j hj => by rw [p1.J (by unfold inPn; omega)]; exact nmr j hj
    refine k _ _ (hI.sc.gr p1.gr (by unfold inPn; omega)) (fun Y hY => S246 hy (by rw [p1.I (by unfold inPn; omega)]; exact t2) hzz h3 b203 (fun k hk => (t3 k (by omega)).1) nmg (by rw [e198]; exact n0) h12 (fun g2 s2 pe2 pe3 u1 u2 u3 u4 u5 u6 u7 u8 u9 u10 => ?_) (fun g2 e2 pe2 => by rw [e198, pe] at pe2; exact absurd pe2 (qEnd_ok pe0)))
    rw [e198] at pe2
    have ee : s2 = s' := by rw [pe] at pe2; injection pe2 with w; exact w.symm
    subst ee
    refine hY _ ?_
    obtain ⟨p0, Mq, cq, lq⟩ := s2
    dsimp only at p2 p3 p5 u2 u3 pe0
    have sm : Sm (fun a => inPn i a ∨ (a = 197 ∨ a = 198 ∨ a = 205 ∨ a = 204)) h g2 := (p1.mono (fun a ha => Or.inl ha)).trans (u1.mono (fun a ha => by unfold inPq inQp at ha; omega))
    have v1 : ∀ a, ¬ (a = 197 ∨ a = 198 ∨ a = 205 ∨ a = 204) → g2.I a = g.I a := fun a ha => u1.I (by unfold inPq inQp; omega)
    have f0 : ∀ j, j ≠ 0 → g2.I 0 j = h.I 0 j := fun j hj => by rw [v1 0 (by omega), p9 j hj]
    have f197 : ∀ j, (j < 10 ∨ j = 20 ∨ 22 < j) → j ≠ 2 → g2.I 197 j = h.I 197 j := fun j h1 h2 => by rw [u6 j h1 h2, p1.I (by unfold inPn; omega)]
    have lvl : ∀ a, 43 + 24 * i ≤ a → a < 67 + 24 * i → ¬ (58 + 24 * i ≤ a ∧ a < 63 + 24 * i) → g2.I a = h.I a := fun a h1 h2 h3 => by
      rw [v1 a (by omega)]; exact p1.I (by unfold inPn; omega)
    have lo : ∀ k, k < 124 → k ≠ 6 → g2.I 198 k = h.I 198 k := fun k h1 h2 => by rw [u4 k h1 h2, e198]
    refine ⟨⟨by rw [v1 0 (by omega), p8, u7], by rw [sm.J0, sm.J197]; exact st.2.1, by rw [sm.J0, sm.J197]; exact st.2.2⟩, G, c, i, ?_, se.gr sm.gr hn.1 (fun a ha => by unfold inPn at ha; unfold outS; omega) ⟨f197 30 (by omega) (by omega), sm.I (by unfold inPn; omega), sm.I (by unfold inPn; omega), sm.I (by unfold inPn; omega)⟩⟩
    refine r.cur sm.gr (fun a ha => by unfold inPn at ha; unfold spare; omega) ⟨by rw [sm.n]; omega, by rw [sm.sl]; omega⟩ hz ⟨⟨0, fun _ => 0, by omega, by rw [v1 9 (by omega), p7]; rfl, u8, fun k hk => by omega⟩, by rw [v1 9 (by omega), p6.1, u9], by rw [v1 9 (by omega), p6.2, u10], fun x hx => by rw [sm.J (by unfold inPn; omega)]; exact t6 x hx⟩ (r2.fr (f0 19 (by omega)) (f197 52 (by omega) (by omega)) (sm.I (by unfold inPn; omega)) (sm.I (by unfold inPn; omega)) (sm.I (by unfold inPn; omega))) (f0 10 (by omega)) (f197 55 (by omega) (by omega)) (fun k h1 h2 => by rw [u5 k h1 h2, e198]) (fun k _ h2 => by rw [sm.J (by unfold inPn; omega)]) (fun _ _ => rfl) ⟨Nat.le_refl _, by omega, by rw [sm.I (by unfold inPn; omega)]; exact r7.1⟩ ?_
    have me : mEq M (fun k => if k = 6 ∨ 124 ≤ k then Mq k else M k) := fun k hk => if_neg (by omega)
    have pq : pEq Mq (fun k => if k = 6 ∨ 124 ≤ k then Mq k else M k) := fun k hk => if_pos hk
    have nn : aN (fun k => if k = 6 ∨ 124 ≤ k then Mq k else M k) = aN M := me.n
    have nn' := nn
    generalize eM2 : (fun k => if k = 6 ∨ 124 ≤ k then Mq k else M k) = M2 at me pq nn nn'
    have J199 : g2.J 199 = h.J 199 := sm.J (by unfold inPn; omega)
    obtain ⟨s1, s2, s3⟩ := m4
    obtain ⟨q7, q8, q9, q10, q11, q12⟩ := m7
    refine ⟨M2, N, cq, S, U, W, kk, A, s0, hw.cg me, (hc.cg hw me).frame (fun a a1 a2 => lvl a a1 (by omega) (by omega)), fun j hj => ?_, ⟨by rw [lvl _ (by omega) (by omega) (by omega)]; exact s1, s2, fun k hk => (s3 k hk).trans (me k hk).symm⟩, fun k hk => ?_, fun j hj => ?_, ⟨?_, by omega, by rw [nn]; exact q9, by rw [nn]; exact q10, q11, q12.cg h12 me⟩, ⟨by rw [lo 2 (by omega) (by omega)]; exact m8.1, by rw [lo 3 (by omega) (by omega)]; exact m8.2.1, by rw [lo 4 (by omega) (by omega)]; exact m8.2.2.1, by rw [lo 5 (by omega) (by omega)]; exact m8.2.2.2.1, fun d hd b1 b2 b3 => ?_⟩, Or.inr ⟨⟨by rw [v1 _ (by omega)]; exact p4, by rw [v1 _ (by omega)]; exact p5, ?_, ?_⟩, ?_, fun k k1 k2 => ?_⟩⟩
    · rw [sm.J (by unfold inPn; omega)]; rw [nn] at hj; exact m3 j hj
    · rw [lo k (by omega) (by omega), me k hk]; exact m5 k hk
    · rw [J199]; rw [nn] at hj; exact m6 j hj
    · refine HCs.cg h12 (HCs_copy h12 q7 ?_ ?_ ?_ ?_ ?_ ?_) me
      · rw [lvl _ (by omega) (by omega) (by omega)]
      · rw [lvl _ (by omega) (by omega) (by omega)]
      · rw [lvl _ (by omega) (by omega) (by omega)]
      · rw [lvl _ (by omega) (by omega) (by omega)]
      · rw [lvl _ (by omega) (by omega) (by omega)]; exact q7.2.2.2.2.1
      · intro j hj; rw [lvl _ (by omega) (by omega) (by omega)]
    · rw [nn] at hd
      rw [lo (112 + d) (by omega) (by omega)]
      rw [(me.f (d := d) (by omega)).2.2.1] at b3
      exact m8.2.2.2.2 d hd b1 b2 b3
    · rw [nn]; exact p2.cg pq
    · exact CPl_fr (p3.cg pq) (fun a a1 a2 => v1 _ (by omega))
    · rw [u2, pq 6 (by omega)]
    · rw [u3 k k1 k2, pq k (Or.inr k1)]
end MN2
