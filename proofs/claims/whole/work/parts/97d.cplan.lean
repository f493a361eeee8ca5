/-! THE CLASS READS A PLAN -/
def inP (a : Nat) : Prop := a = 9 ∨ 31 ≤ a ∧ a < 40
def cK (x : Int32) : Int32 := if x = 1617 ∨ x = 1618 ∨ x = 1619 then 16 else x
def CRow (h : TH) (t c : Nat) (M : Nat → Int32) (k : Nat) : Prop := h.I (t + 1) c = cK (kK M k) ∧ (¬ kK M k = 22 → h.I (t + 2) c = kA M k) ∧ (kK M k = 11 → h.I (t + 3) c = kB M k) ∧ (kK M k = 1617 → h.I (t + 3) c = 17) ∧ (kK M k = 1618 → h.I (t + 3) c = 18) ∧ (kK M k = 1619 → h.I (t + 3) c = 19)
def CPl (h : TH) (t : Nat) (M : Nat → Int32) (cn : Nat) (st : List Nat) : Prop := ∀ k, k < qn M → ¬ kK M k = 21 → CRow h t (cc M cn k) M k ∧ (opn M k → k ∉ st → h.I (t + 4) (cc M cn k) = nI (cc M cn (lk M k)))
def CMn (h : TH) (a1 : Nat) (N : Nat → List Nat) (n0 : Nat) : Prop := h.I a1 1 = nI n0 ∧ NmC h a1 N n0 ∧ n0 ≤ 12 ∧ 40 ≤ a1 ∧ h.K 34 = 100 ∧ h.N 34 = 30
section CPN
variable {h : TH} {T : Nat → Nat} {z m a1 : Nat} {N : Nat → List Nat} {n0 : Nat} {s : QS}
theorem CMn_sm {g : TH} (c : CMn h a1 N n0) (sm : Sm inP h g) : CMn g a1 N n0 := by
  obtain ⟨c1, c2, c3, c4, c5, c6⟩ := c
  exact ⟨by rw [sm.I (by unfold inP; omega)]; exact c1, fun j hj => by rw [sm.J (by unfold inP; omega)]; exact c2 j hj, c3, c4, by rw [sm.K]; exact c5, by rw [sm.N]; exact c6⟩
theorem p9 {g : TH} (sm : Sm (fun a => a = 9) h g) : Sm inP h g := sm.mono (fun a ha => Or.inl ha)
theorem S106 {C : Int32 → TH → Prop} {i : Nat} (ct : CTT h T z m i) (o : okF h) (c : CMn h a1 N n0) (k1 : kd T z i = 30 → fnd N n0 (wd T z i) < n0 → ∀ g, Sm (fun a => a = 9) h g → CTT g T z m (i + 1) → okF g → C (nI (fnd N n0 (wd T z i))) g) (k3 : kd T z i = 30 → ¬ fnd N n0 (wd T z i) < n0 → ∀ g, Sm (fun a => a = 9) h g → CFt g (fl T z i 3) → C (-1) g) (k2 : kd T z i ≠ 30 → ∀ g, Sm (fun a => a = 9) h g → CFt g (fl T z i 2) → C (-1) g) : W106 a1 h C := by
  obtain ⟨c1, c2, c3, c4, c5, c6⟩ := c
  unfold W106
  rw [ct.2.2.2.2]
  by_cases q : kd T z i = 30
  · rw [if_pos ((ck_is (x := 30) (w := 30) (by omega) rfl).mpr q)]
    have e14 := (ct.1.2.2.2 i ct.2.1).2.2.1 q
    refine S134 ct ?_
    rw [e14]
    refine S59 (N := N) (n := n0) c1 c3 c2 (wd_ok q) (fun u => ?_) (fun u => ?_)
    · rw [if_pos (nI_ne1 (by omega))]
      exact S133 ct (by omega) (fun g s1 t f => k1 q u g s1 t (okF_9 o f))
    · rw [if_neg (fun n => n rfl)]
      exact S135 (f := 3) ct (by omega) (fun g s1 f p => k3 q u g s1 p)
  · rw [if_neg (show ¬ nI (ck (kd T z i)) = 30 from fun e => q ((ck_is (x := 30) (w := 30) (by omega) rfl).mp e))]
    exact S136 ct (fun g s1 f p => k2 q g s1 p)
/-- a NAME into place c of row a -/
theorem S106w {C : Int32 → TH → Prop} {r : QS} {p a c : Nat} (ct : CTT h T z m r.1) (o : okF h) (cm : CMn h a1 N n0) (ha : a = 34 ∨ a = 35) (k1 : ∀ g v r', qName T z N n0 p r = .inr r' → r' = (r.1 + 1, upd r.2.1 p v, r.2.2) → ¬ v = (-1) → Sm inP h (g.sI a c v) → CTT (g.sI a c v) T z m r'.1 → okF (g.sI a c v) → (∀ b j, b ≠ 9 → (b ≠ a ∨ j ≠ c) → (g.sI a c v).I b j = h.I b j) → C v g) (k0 : ∀ g e, qName T z N n0 p r = .inl e → Sm inP h (g.sI a c (-1)) → CFt (g.sI a c (-1)) e → C (-1) g) : W106 a1 h C := by
  refine S106 ct o cm (fun q u g sm t o' => ?_) (fun q u g sm p' => ?_) (fun q g sm p' => ?_)
  · have e : qName T z N n0 p r = .inr (r.1 + 1, upd r.2.1 p (nI (fnd N n0 (wd T z r.1))), r.2.2) := by unfold qName; rw [if_pos q, if_pos u]
    refine k1 g _ _ e rfl (nI_ne1 (by have := cm.2.2.1; omega)) (Sm.sI (S := inP) (p9 sm) (by unfold inP; omega) _) (t.frame (fun j => I_ne (by omega)) (by funext j; rw [I_ne (by omega)]) (by funext j; rw [I_ne (by omega)]) rfl) ⟨by rw [I_ne (by omega)]; exact o'.1, by rw [I_ne (by omega)]; exact o'.2⟩ (fun b j hb hbj => ?_)
    rw [I_sI, if_neg (by omega), sm.I hb]
  · exact k0 g _ (by unfold qName; rw [if_pos q, if_neg u]) (Sm.sI (S := inP) (p9 sm) (by unfold inP; omega) _) ⟨by rw [I_ne (by omega)]; exact p'.1, by rw [I_ne (by omega)]; exact p'.2⟩
  · exact k0 g _ (by unfold qName; rw [if_neg q]) (Sm.sI (S := inP) (p9 sm) (by unfold inP; omega) _) ⟨by rw [I_ne (by omega)]; exact p'.1, by rw [I_ne (by omega)]; exact p'.2⟩
theorem S138w {C : Int32 → TH → Prop} {r : QS} {p a c lo hi : Nat} (ct : CTT h T z m r.1) (o : okF h) (ha : a = 34 ∨ a = 35) (hlo : lo < 10000) (hhi : hi < 10000) (k1 : ∀ g v r', qNum T z p lo hi r = .inr r' → r' = (r.1 + 1, upd r.2.1 p v, r.2.2) → ¬ v = (-1) → Sm inP h (g.sI a c v) → CTT (g.sI a c v) T z m r'.1 → okF (g.sI a c v) → (∀ b j, b ≠ 9 → (b ≠ a ∨ j ≠ c) → (g.sI a c v).I b j = h.I b j) → C v g) (k0 : ∀ g e, qNum T z p lo hi r = .inl e → Sm inP h (g.sI a c (-1)) → CFt (g.sI a c (-1)) e → C (-1) g) : W138 (nI lo) (nI hi) h C := by
  refine S138 ct hlo hhi (fun q w1 w2 g sm t f => ?_) (fun q w g sm f p' => ?_) (fun q g sm f p' => ?_)
  · have e : qNum T z p lo hi r = .inr (r.1 + 1, upd r.2.1 p (nI (nv T z r.1)), r.2.2) := by unfold qNum; rw [if_pos q, if_pos ⟨w1, w2⟩]
    have o' := okF_9 o f
    refine k1 g _ _ e rfl (nI_ne1 (by have := nv_lt q; omega)) (Sm.sI (S := inP) (p9 sm) (by unfold inP; omega) _) (t.frame (fun j => I_ne (by omega)) (by funext j; rw [I_ne (by omega)]) (by funext j; rw [I_ne (by omega)]) rfl) ⟨by rw [I_ne (by omega)]; exact o'.1, by rw [I_ne (by omega)]; exact o'.2⟩ (fun b j hb hbj => ?_)
    rw [I_sI, if_neg (by omega), sm.I hb]
  · exact k0 g _ (by unfold qNum; rw [if_pos q, if_neg w]) (Sm.sI (S := inP) (p9 sm) (by unfold inP; omega) _) ⟨by rw [I_ne (by omega)]; exact p'.1, by rw [I_ne (by omega)]; exact p'.2⟩
  · exact k0 g _ (by unfold qNum; rw [if_neg q]) (Sm.sI (S := inP) (p9 sm) (by unfold inP; omega) _) ⟨by rw [I_ne (by omega)]; exact p'.1, by rw [I_ne (by omega)]; exact p'.2⟩
theorem S105 {C : Int32 → TH → Prop} {r : QS} {c k : Nat} (hc : c < 30) (ct : CTT h T z m r.1) (o : okF h) (cm : CMn h a1 N n0) (h33 : h.I 33 c = 16) (k1 : ∀ g r', qTest T z N n0 k r = .inr r' → Sm inP h g → CTT g T z m r'.1 → okF g → (∀ b j, b ≠ 9 → ((b ≠ 34 ∧ b ≠ 35) ∨ j ≠ c) → g.I b j = h.I b j) → CRow g 32 c r'.2.1 k → C 1 g) (k0 : ∀ g e, qTest T z N n0 k r = .inl e → Sm inP h g → CFt g e → C 0 g) : W105 a1 (nI c) h C := by
  unfold W105
  rw [ct.2.2.2.2]
  have go : ∀ w : Nat, (w = 17 ∨ w = 18 ∨ w = 19) → kd T z r.1 = w → B105_34 a1 (nI c) (nI w) h C := by
    intro w hw q
    unfold B105_34
    refine S133 ct (by omega) (fun g1 s1 t1 f1 => ⟨inb_n hc, ?_⟩)
    rw [ix_n (by omega)]
    have ctB : CTT (g1.sI (32 + 3) c (nI w)) T z m (r.1 + 1) := t1.frame (fun j => I_ne (by omega)) (by funext j; rw [I_ne (by omega)]) (by funext j; rw [I_ne (by omega)]) rfl
    have smB : Sm inP h (g1.sI (32 + 3) c (nI w)) := Sm.sI (S := inP) (p9 s1) (by unfold inP; omega) _
    have oB : okF (g1.sI (32 + 3) c (nI w)) := ⟨by rw [I_ne (by omega)]; exact (okF_9 o f1).1, by rw [I_ne (by omega)]; exact (okF_9 o f1).2⟩
    have frB : ∀ b j, b ≠ 9 → (b ≠ 35 ∨ j ≠ c) → (g1.sI (32 + 3) c (nI w)).I b j = h.I b j := fun b j hb hj => by rw [I_sI, if_neg (by omega), s1.I hb]
    have b35 : (g1.sI (32 + 3) c (nI w)).I 35 c = nI w := I_eq
    generalize g1.sI (32 + 3) c (nI w) = H at ctB smB oB frB b35 ⊢
    have last : ∀ (g : TH) (v : Int32) (r' : QS), qTest T z N n0 k r = .inr r' → r'.2.1 = upd (upd r.2.1 (124 + 5 * k) (nI (1600 + w))) (124 + 5 * k + 1) v → ¬ v = (-1) → Sm inP H (g.sI 34 c v) → CTT (g.sI 34 c v) T z m r'.1 → okF (g.sI 34 c v) → (∀ b j, b ≠ 9 → (b ≠ 34 ∨ j ≠ c) → (g.sI 34 c v).I b j = H.I b j) → B105_83 (nI c) (32 + 2) (nI c) v g C := by
      intro g v r' e e2 nv' smg ctg og frg
      unfold B105_83
      have lay : g.K 34 = 100 ∧ g.N 34 = 30 := by
        have := (CMn_sm cm (smB.trans smg)).2.2.2.2
        exact this
      refine ⟨⟨lay.1, by rw [lay.2]; exact inb_n hc, by rw [lay.2]; omega⟩, inb_n hc, ?_⟩
      rw [ix_n (by omega), show (32 + 2 : Nat) = 34 from rfl, I_eq, if_neg nv']
      have eK : kK r'.2.1 k = nI (1600 + w) := by rw [e2]; show upd _ _ _ (124 + 5 * k) = _; rw [pk_un (by omega)]; exact pk_us
      have eA : kA r'.2.1 k = v := by rw [e2]; exact pk_us
      refine k1 _ r' e (smB.trans smg) ctg og (fun b j hb hj => ?_) ⟨?_, fun _ => ?_, ?_, ?_, ?_, ?_⟩
      · rw [frg b j hb (by omega), frB b j hb (by omega)]
      · show (g.sI 34 c v).I 33 c = _
        rw [frg 33 c (by omega) (by omega), frB 33 c (by omega) (by omega), h33, eK]
        rcases hw with rfl | rfl | rfl <;> decide
      · rw [eA]; exact I_eq
      · intro x; rw [eK] at x; rcases hw with rfl | rfl | rfl <;> exact absurd x (by decide)
      · intro x
        show (g.sI 34 c v).I 35 c = 17
        rw [frg 35 c (by omega) (by omega), b35]
        rw [eK] at x
        rcases hw with rfl | rfl | rfl
        · rfl
        · exact absurd x (by decide)
        · exact absurd x (by decide)
      · intro x
        show (g.sI 34 c v).I 35 c = 18
        rw [frg 35 c (by omega) (by omega), b35]
        rw [eK] at x
        rcases hw with rfl | rfl | rfl
        · exact absurd x (by decide)
        · rfl
        · exact absurd x (by decide)
      · intro x
        show (g.sI 34 c v).I 35 c = 19
        rw [frg 35 c (by omega) (by omega), b35]
        rw [eK] at x
        rcases hw with rfl | rfl | rfl
        · exact absurd x (by decide)
        · exact absurd x (by decide)
        · rfl
    have bad : ∀ (g : TH) (e : Nat × Nat), qTest T z N n0 k r = .inl e → Sm inP H (g.sI 34 c (-1)) → CFt (g.sI 34 c (-1)) e → B105_83 (nI c) (32 + 2) (nI c) (-1) g C := by
      intro g e e1 smg p
      unfold B105_83
      have lay : g.K 34 = 100 ∧ g.N 34 = 30 := by
        have := (CMn_sm cm (smB.trans smg)).2.2.2.2
        exact this
      refine ⟨⟨lay.1, by rw [lay.2]; exact inb_n hc, by rw [lay.2]; omega⟩, inb_n hc, ?_⟩
      rw [ix_n (by omega), show (32 + 2 : Nat) = 34 from rfl, I_eq, if_pos rfl]
      exact k0 _ e e1 (smB.trans smg) p
    by_cases w9 : w = 19
    · rw [if_neg (fun n => n (by rw [w9]; rfl))]
      have eT : qTest T z N n0 k r = qNum T z (124 + 5 * k + 1) 0 12 (r.1 + 1, upd r.2.1 (124 + 5 * k) (nI (1600 + w)), r.2.2) := by
        unfold qTest; rw [if_pos (by omega), if_pos (by omega), q]
      exact S138w (r := (r.1 + 1, upd r.2.1 (124 + 5 * k) (nI (1600 + w)), r.2.2)) (p := 124 + 5 * k + 1) (a := 34) (c := c) (lo := 0) (hi := 12) ctB oB (Or.inl rfl) (by omega) (by omega) (fun g v r' e e2 nv' smg ctg og frg => last g v r' (eT.trans e) (by rw [e2]) nv' smg ctg og frg) (fun g e e1 smg p => bad g e (eT.trans e1) smg p)
    · rw [if_pos (show ¬ nI w = 19 from fun n => w9 ((nI_eq (b := 19) (by omega) (by omega)).mp n))]
      have eT : qTest T z N n0 k r = qName T z N n0 (124 + 5 * k + 1) (r.1 + 1, upd r.2.1 (124 + 5 * k) (nI (1600 + w)), r.2.2) := by
        unfold qTest; rw [if_pos (by omega), if_neg (by omega), q]
      exact S106w (r := (r.1 + 1, upd r.2.1 (124 + 5 * k) (nI (1600 + w)), r.2.2)) (p := 124 + 5 * k + 1) (a := 34) (c := c) ctB oB (CMn_sm cm smB) (Or.inl rfl) (fun g v r' e e2 nv' smg ctg og frg => last g v r' (eT.trans e) (by rw [e2]) nv' smg ctg og frg) (fun g e e1 smg p => bad g e (eT.trans e1) smg p)
  by_cases q7 : kd T z r.1 = 17
  · rw [if_pos ((ck_is (x := 17) (w := 17) (by omega) rfl).mpr q7), q7]
    exact go 17 (Or.inl rfl) q7
  · rw [if_neg (show ¬ nI (ck (kd T z r.1)) = 17 from fun e => q7 ((ck_is (x := 17) (w := 17) (by omega) rfl).mp e))]
    by_cases q8 : kd T z r.1 = 18
    · rw [if_pos ((ck_is (x := 18) (w := 18) (by omega) rfl).mpr q8), q8]
      exact go 18 (Or.inr (Or.inl rfl)) q8
    · rw [if_neg (show ¬ nI (ck (kd T z r.1)) = 18 from fun e => q8 ((ck_is (x := 18) (w := 18) (by omega) rfl).mp e))]
      by_cases q9 : kd T z r.1 = 19
      · rw [if_pos ((ck_is (x := 19) (w := 19) (by omega) rfl).mpr q9), q9]
        exact go 19 (Or.inr (Or.inr rfl)) q9
      · rw [if_neg (show ¬ nI (ck (kd T z r.1)) = 19 from fun e => q9 ((ck_is (x := 19) (w := 19) (by omega) rfl).mp e))]
        exact S136 ct (fun g s1 f p => ⟨Or.inl rfl, k0 g _ (by unfold qTest; rw [if_neg (by omega)]) (p9 s1) p⟩)
end CPN
