/-! THE CLASS READS A DISH -/
def inM (a : Nat) : Prop := a = 9 ∨ 16 ≤ a ∧ a < 31
theorem CMr_pt {h g : TH} {t : Nat} {M : Nat → Int32} (hc : CMr h t M) (e : ∀ j, 1 ≤ j → j ≤ 4 → g.I t j = h.I t j) (er : ∀ a, 2 ≤ a → a ≤ 7 → ∀ d, d < aN M → g.I (t + a) d = h.I (t + a) d) (ep : ∀ k, k < aP M → g.I (t + 8) k = h.I (t + 8) k) : CMr g t M := by
  refine ⟨by rw [e 1 (by omega) (by omega)]; exact hc.n, by rw [e 2 (by omega) (by omega)]; exact hc.p, by rw [e 3 (by omega) (by omega)]; exact hc.po, by rw [e 4 (by omega) (by omega)]; exact hc.on, fun d hd => ?_, fun k hk => by rw [ep k hk]; exact hc.pot hk⟩
  rw [er 2 (by omega) (by omega) d hd, er 3 (by omega) (by omega) d hd, er 4 (by omega) (by omega) d hd, er 5 (by omega) (by omega) d hd, er 6 (by omega) (by omega) d hd, er 7 (by omega) (by omega) d hd]
  exact hc.row hd
def NmC (h : TH) (t : Nat) (N : Nat → List Nat) (n : Nat) : Prop := ∀ j, j < n → h.J (t + 1) j = lN (cod 32 96 (N j)) ∧ NmOk (N j)
def okF (h : TH) : Prop := h.I 9 10 = 0 ∧ h.I 9 11 = -1
def CDs (h : TH) (T : Nat → Nat) (z m : Nat) (M0 : Nat → Int32) (N1 : Nat → List Nat) (d : Nat) (s : PS) (K : Nat) : Prop := CTT h T z m s.1 ∧ MI M0 N1 d s ∧ CMr h 16 M0 ∧ NmC h 16 N1 (d + 1) ∧ (∀ f, f < K → h.I (16 + (2 + f)) d = s.2.1 (16 + 8 * d + f)) ∧ okF h
section CDI
variable {h : TH} {T : Nat → Nat} {z m d : Nat} {M0 : Nat → Int32} {N1 : Nat → List Nat} {s : PS} {K : Nat}
theorem CTT.frame {g : TH} {i : Nat} (c : CTT h T z m i) (e : ∀ j, g.I 9 j = h.I 9 j) (e1 : g.I 12 = h.I 12) (e2 : g.I 13 = h.I 13) (e3 : g.J 14 = h.J 14) : CTT g T z m i :=
  ⟨c.1.frame e1 e2 e3, c.2.1, c.2.2.1, by rw [e]; exact c.2.2.2.1, by rw [e]; exact c.2.2.2.2⟩
/-- tokens alone were read -/
theorem CDs_tok {g : TH} {s' : PS} (c : CDs h T z m M0 N1 d s K) (sm : Sm (fun a => a = 9) h g) (ct : CTT g T z m s'.1) (mi : MI M0 N1 d s') (e : ∀ f, f < K → s'.2.1 (16 + 8 * d + f) = s.2.1 (16 + 8 * d + f)) (o : okF g) : CDs g T z m M0 N1 d s' K := by
  obtain ⟨_, _, c3, c4, c5, _⟩ := c
  refine ⟨ct, mi, CMr_pt c3 (fun j _ _ => by rw [sm.I (by decide)]) (fun a h1 h2 d _ => by rw [sm.I (by omega)]) (fun k _ => by rw [sm.I (by decide)]), fun j hj => by rw [sm.J (by decide)]; exact c4 j hj, fun f hf => by rw [sm.I (by omega), e f hf]; exact c5 f hf, o⟩
/-- one field more is written -/
theorem CDs_wr {v : Int32} (c : CDs h T z m M0 N1 d s K) (hd : d = aN M0) (hK : K ≤ 5) (hv : v = s.2.1 (16 + 8 * d + K)) : CDs (h.sI (16 + (2 + K)) d v) T z m M0 N1 d s (K + 1) := by
  obtain ⟨c1, c2, c3, c4, c5, c6⟩ := c
  refine ⟨c1.frame (fun j => I_ne (by omega)) (by funext j; rw [I_ne (by omega)]) (by funext j; rw [I_ne (by omega)]) rfl, c2, CMr_pt c3 (fun j _ _ => I_ne (by omega)) (fun a h1 h2 e he => ?_) (fun k _ => I_ne (by omega)), c4, fun f hf => ?_, ?_⟩
  · rw [I_sI, if_neg (by omega)]
  · rw [I_sI]
    by_cases q : f = K
    · rw [if_pos (by omega), hv, q]
    · rw [if_neg (by omega)]; exact c5 f (by omega)
  · exact ⟨by rw [I_ne (by omega)]; exact c6.1, by rw [I_ne (by omega)]; exact c6.2⟩
theorem okF_9 {g : TH} (o : okF h) (f : ∀ j, j ≠ 8 → j ≠ 9 → g.I 9 j = h.I 9 j) : okF g := ⟨by rw [f 10 (by decide) (by decide)]; exact o.1, by rw [f 11 (by decide) (by decide)]; exact o.2⟩
theorem mono9 {g : TH} (s : Sm (fun a => a = 9) h g) : Sm inM h g := s.mono (fun a ha => Or.inl ha)
/-- an amount that may be left out -/
theorem S80 {C : Int32 → TH → Prop} {w p lo hi df : Nat} (c : CTT h T z m s.1) (o : okF h) (hw : w < 23) (hlo : lo < 10000) (hhi : hi < 10000) (hdf : s.2.1 p = nI df) (hdf1 : df < 10000) (k1 : ∀ g s', pOpt T z w p lo hi s = .inr s' → Sm (fun a => a = 9) h g → CTT g T z m s'.1 → okF g → ¬ s'.2.1 p = (-1) → C (s'.2.1 p) g) (k0 : ∀ g e, pOpt T z w p lo hi s = .inl e → Sm (fun a => a = 9) h g → CFt g e → C (-1) g) : W80 (nI (ck w)) (nI lo) (nI hi) (nI df) h C := by
  unfold W80
  rw [c.2.2.2.2]
  by_cases q : kd T z s.1 = w
  · rw [if_pos ((ck_eq (by omega)).mpr q)]
    have eO : pOpt T z w p lo hi s = pNum T z p lo hi (s.1 + 1, s.2) := by unfold pOpt; rw [if_pos q]
    refine S133 c (by omega) (fun g s1 t f => ?_)
    refine S138 t hlo hhi (fun w1 w2 w3 g2 s2 t2 f2 => ?_) (fun w1 w2 g2 s2 f2 p2 => ?_) (fun w1 g2 s2 f2 p2 => ?_)
    · have e2 : pOpt T z w p lo hi s = .inr (s.1 + 2, upd s.2.1 p (nI (nv T z (s.1 + 1))), s.2.2) := by
        rw [eO]; unfold pNum; rw [if_pos w1, if_pos ⟨w2, w3⟩]
      have := k1 g2 _ e2 (s1.trans s2) t2 (okF_9 (okF_9 o f) f2) (by show ¬ upd s.2.1 p (nI (nv T z (s.1 + 1))) p = (-1); rw [pk_us]; exact nI_ne1 (by have := nv_lt w1; omega))
      have e3 : upd s.2.1 p (nI (nv T z (s.1 + 1))) p = nI (nv T z (s.1 + 1)) := pk_us
      have this' : C (upd s.2.1 p (nI (nv T z (s.1 + 1))) p) g2 := this
      rw [e3] at this'; exact this'
    · exact k0 g2 _ (by rw [eO]; unfold pNum; rw [if_pos w1, if_neg w2]) (s1.trans s2) p2
    · exact k0 g2 _ (by rw [eO]; unfold pNum; rw [if_neg w1]) (s1.trans s2) p2
  · rw [if_neg (fun e => q ((ck_eq (by omega)).mp e))]
    have := k1 h s (by unfold pOpt; rw [if_neg q]) Sm.refl c o (by rw [hdf]; exact nI_ne1 (by omega))
    rw [hdf] at this; exact this
theorem S80s {C : Int32 → TH → Prop} {w lo hi df : Nat} (hd : d = aN M0) (c : CDs h T z m M0 N1 d s K) (hw : w < 23) (hc : (K = 1 ∧ lo = 1 ∧ hi = 9) ∨ (K = 2 ∧ lo = 1 ∧ hi = 99) ∨ (K = 3 ∧ lo = 0 ∧ hi = 15)) (hdf : s.2.1 (16 + 8 * d + K) = nI df) (hdf1 : df < 10000) (k1 : ∀ g v s', pOpt T z w (16 + 8 * d + K) lo hi s = .inr s' → Sm inM h (g.sI (16 + (2 + K)) d v) → ¬ v = (-1) → CDs (g.sI (16 + (2 + K)) d v) T z m M0 N1 d s' (K + 1) → (∀ k, k ≠ 16 + 8 * d + K → s'.2.1 k = s.2.1 k) → C v g) (k0 : ∀ g e, pOpt T z w (16 + 8 * d + K) lo hi s = .inl e → Sm inM h (g.sI (16 + (2 + K)) d (-1)) → CFt (g.sI (16 + (2 + K)) d (-1)) e → C (-1) g) : W80 (nI (ck w)) (nI lo) (nI hi) (nI df) h C := by
  refine S80 (p := 16 + 8 * d + K) c.1 c.2.2.2.2.2 hw (by omega) (by omega) hdf hdf1 (fun g s' e sm t o n => ?_) (fun g e e' sm p => ?_)
  · obtain ⟨m3, _, u3⟩ := pOpt_MI (s := s) (s' := s') e c.2.1 (by omega)
    refine k1 g _ s' e (Sm.sI (S := inM) (mono9 sm) (Or.inr (by omega)) _) n (CDs_wr (CDs_tok c sm t m3 (fun f hf => u3 _ (by omega)) o) hd (by omega) rfl) u3
  · exact k0 g e e' (Sm.sI (S := inM) (mono9 sm) (Or.inr (by omega)) _) ⟨by rw [I_ne (by omega)]; exact p.1, by rw [I_ne (by omega)]; exact p.2⟩
theorem S79 {C : Int32 → TH → Prop} (hd : d = aN M0) (hd12 : d < 12) (c : CDs h T z m M0 N1 d s 0) (hdef : s.2.1 (16 + 8 * d + 1) = 1 ∧ s.2.1 (16 + 8 * d + 2) = 0 ∧ s.2.1 (16 + 8 * d + 3) = 0) (k1 : ∀ g s', pWork T z d s = .inr s' → Sm inM h g → CDs g T z m M0 N1 d s' 4 → s'.2.1 (16 + 8 * d + 4) = s.2.1 (16 + 8 * d + 4) → C 1 g) (k0 : ∀ g e, pWork T z d s = .inl e → Sm inM h g → CFt g e → C 0 g) : W79 (nI d) h C := by
  unfold W79
  rw [ix_n (by omega)]
  refine S137 (w := 3) c.1 (by omega) (by omega) (fun q g sm t f => ?_) (fun q g sm f p => ?_)
  · have eW : pWork T z d s = pAm T z d (s.1 + 1, s.2) := by unfold pWork; rw [if_pos q]
    have cg : CDs g T z m M0 N1 d (s.1 + 1, s.2) 0 := CDs_tok c sm t c.2.1 (fun _ _ => rfl) (okF_9 c.2.2.2.2.2 f)
    rw [if_pos (by decide)]
    refine S138 (lo := 0) (hi := 99) t (by omega) (by omega) (fun w1 w2 w3 g2 s2 t2 f2 => ⟨inb_n hd12, inb_n hd12, ?_⟩) (fun w1 w2 g2 s2 f2 p2 => ⟨inb_n hd12, inb_n hd12, ?_⟩) (fun w1 g2 s2 f2 p2 => ⟨inb_n hd12, inb_n hd12, ?_⟩)
    · have hv := nv_lt w1
      rw [I_eq, if_pos (nI_ne1 (by omega))]
      have e1 : pNum T z (16 + 8 * d + 0) 0 99 (s.1 + 1, s.2) = .inr (s.1 + 2, upd s.2.1 (16 + 8 * d + 0) (nI (nv T z (s.1 + 1))), s.2.2) := by unfold pNum; rw [if_pos w1, if_pos ⟨w2, w3⟩]
      obtain ⟨m1, _, _⟩ := pNum_MI e1 (MI_i c.2.1) (Or.inl ⟨rfl, rfl, rfl⟩)
      have ev : nI (nv T z (s.1 + 1)) = upd s.2.1 (16 + 8 * d + 0) (nI (nv T z (s.1 + 1))) (16 + 8 * d + 0) := pk_us.symm
      have c1 := CDs_wr (CDs_tok (s' := (s.1 + 2, upd s.2.1 (16 + 8 * d + 0) (nI (nv T z (s.1 + 1))), s.2.2)) cg s2 t2 m1 (fun f hf => absurd hf (Nat.not_lt_zero _)) (okF_9 cg.2.2.2.2.2 f2)) hd (by omega) ev
      have d1 : upd s.2.1 (16 + 8 * d + 0) (nI (nv T z (s.1 + 1))) (16 + 8 * d + 1) = nI 1 := by rw [pk_un (by omega)]; exact hdef.1
      have d2 : upd s.2.1 (16 + 8 * d + 0) (nI (nv T z (s.1 + 1))) (16 + 8 * d + 2) = nI 0 := by rw [pk_un (by omega)]; exact hdef.2.1
      have d3 : upd s.2.1 (16 + 8 * d + 0) (nI (nv T z (s.1 + 1))) (16 + 8 * d + 3) = nI 0 := by rw [pk_un (by omega)]; exact hdef.2.2
      have d4 : upd s.2.1 (16 + 8 * d + 0) (nI (nv T z (s.1 + 1))) (16 + 8 * d + 4) = s.2.1 (16 + 8 * d + 4) := pk_un (by omega)
      have eA : pWork T z d s = thn (pOpt T z 4 (16 + 8 * d + 1) 1 9 (s.1 + 2, upd s.2.1 (16 + 8 * d + 0) (nI (nv T z (s.1 + 1))), s.2.2)) (fun s => thn (pOpt T z 5 (16 + 8 * d + 2) 1 99 s) (pOpt T z 6 (16 + 8 * d + 3) 0 15)) := by
        rw [eW]; unfold pAm; exact thn_i e1
      have sm3 : Sm inM h (g2.sI (16 + 2) d (nI (nv T z (s.1 + 1)))) := Sm.sI (S := inM) (mono9 (sm.trans s2)) (Or.inr (by omega)) _
      change CDs (g2.sI (16 + 2) d (nI (nv T z (s.1 + 1)))) T z m M0 N1 d (s.1 + 2, upd s.2.1 (16 + 8 * d + 0) (nI (nv T z (s.1 + 1))), s.2.2) 1 at c1
      generalize g2.sI (16 + 2) d (nI (nv T z (s.1 + 1))) = H1 at c1 sm3 ⊢
      refine S80s (K := 1) (w := 4) (lo := 1) (hi := 9) (df := 1) hd c1 (by omega) (by omega) d1 (by omega) (fun g3 v3 s3 e3 sm4 n3 c3 u3 => ⟨inb_n hd12, inb_n hd12, ?_⟩) (fun g3 e e3 sm4 p3 => ⟨inb_n hd12, inb_n hd12, ?_⟩)
      · rw [I_eq, if_pos n3]
        refine S80s (K := 2) (w := 5) (lo := 1) (hi := 99) (df := 0) hd c3 (by omega) (by omega) (by rw [u3 _ (by omega)]; exact d2) (by omega) (fun g5 v5 s5 e5 sm6 n5 c5 u5 => ⟨inb_n hd12, inb_n hd12, ?_⟩) (fun g5 e e5 sm6 p5 => ⟨inb_n hd12, inb_n hd12, ?_⟩)
        · rw [I_eq, if_pos n5]
          refine S80s (K := 3) (w := 6) (lo := 0) (hi := 15) (df := 0) hd c5 (by omega) (by omega) (by rw [u5 _ (by omega), u3 _ (by omega)]; exact d3) (by omega) (fun g7 v7 s7 e7 sm8 n7 c7 u7 => ⟨inb_n hd12, inb_n hd12, ?_⟩) (fun g7 e e7 sm8 p7 => ⟨inb_n hd12, inb_n hd12, ?_⟩)
          · rw [I_eq, if_neg n7]
            exact k1 _ s7 (by rw [eA, thn_i e3, thn_i e5]; exact e7) (((sm3.trans sm4).trans sm6).trans sm8) c7 (by rw [u7 _ (by omega), u5 _ (by omega), u3 _ (by omega)]; exact d4)
          · rw [I_eq, if_pos rfl]
            exact k0 _ e (by rw [eA, thn_i e3, thn_i e5]; exact e7) (((sm3.trans sm4).trans sm6).trans sm8) p7
        · rw [I_eq, if_neg (fun n => n rfl)]
          exact k0 _ e (by rw [eA, thn_i e3]; exact thn_l e5) ((sm3.trans sm4).trans sm6) p5
      · rw [I_eq, if_neg (fun n => n rfl)]
        exact k0 _ e (by rw [eA]; exact thn_l e3) (sm3.trans sm4) p3
    · rw [I_eq, if_neg (fun n => n rfl)]
      exact k0 _ _ (by rw [eW]; unfold pAm; exact thn_l (by unfold pNum; rw [if_pos w1, if_neg w2])) (Sm.sI (S := inM) (mono9 (sm.trans s2)) (Or.inr (by omega)) _) ⟨by rw [I_ne (by omega)]; exact p2.1, by rw [I_ne (by omega)]; exact p2.2⟩
    · rw [I_eq, if_neg (fun n => n rfl)]
      exact k0 _ _ (by rw [eW]; unfold pAm; exact thn_l (by unfold pNum; rw [if_neg w1])) (Sm.sI (S := inM) (mono9 (sm.trans s2)) (Or.inr (by omega)) _) ⟨by rw [I_ne (by omega)]; exact p2.1, by rw [I_ne (by omega)]; exact p2.2⟩
  · rw [if_neg (fun n => n rfl)]
    exact k0 g _ (by unfold pWork; rw [if_neg q]) (mono9 sm) p
end CDI
