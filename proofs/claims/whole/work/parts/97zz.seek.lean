/-! BETWEEN CALLS: one search has worked -/
def rt (t a : Nat) : Prop := t ≤ a ∧ (t ≤ 165 → a < t + 13) ∧ (165 < t → t < 190 → a < t + 6) ∧ (t = 190 → a < 193)
def six (t : Nat) : Prop := t = 139 ∨ t = 152 ∨ t = 165 ∨ t = 178 ∨ t = 184 ∨ t = 190
def sO (h : TH) (t a : Nat) : Prop := rt t a ∨ ∃ f, sF t f ∧ h.P t f = some a
def Pst (h g : TH) (t : Nat) : Prop := Gr (sO h t) h g ∧ (∀ f a, sF t f → g.P t f = some a → h.P t f = some a ∨ (h.n ≤ a ∧ a < g.n)) ∧ ∀ f f' a, sF t f → sF t f' → g.P t f = some a → g.P t f' = some a → f = f'
def Own (g : TH) (G : Int32 → Nat → Int32) (t c : Nat) : Prop := (t = 139 → LC g 139 4096 G) ∧ (t = 152 → LC g 152 4096 G) ∧ (t = 165 → LC g 165 0 G) ∧ (t = 178 → FwC g 178 false 2 G) ∧ (t = 184 → FwC g 184 true 3 G) ∧ (t = 190 → ∃ L a3 a4, RcA g L a3 a4) ∧ ∀ f, ((t = 139 ∨ t = 152 ∨ t = 165) ∧ f = 3 ∨ (t = 178 ∨ t = 184) ∧ f = 2) → g.I t f = -1 ∨ ∃ s, s ≤ c ∧ g.I t f = nI s
section SKC
variable {h g h2 g2 : TH} {L z c i t : Nat} {xs : Nat → Int32} {G : Int32 → Nat → Int32} {T S : Nat → Prop} {D : Int32 → TH → Prop} {x y s : Int32}
theorem rt_dis {t t' a : Nat} (ht : six t) (ht' : six t') (ne : t' ≠ t) (p : rt t a) (q : rt t' a) : False := by
  unfold rt at p q
  rcases ht with e | e | e | e | e | e <;> subst e <;> rcases ht' with e | e | e | e | e | e <;> subst e <;> omega
theorem rt_self {t : Nat} (ht : six t) : rt t t := by
  unfold rt
  rcases ht with e | e | e | e | e | e <;> subst e <;> omega
theorem six_lt {t : Nat} (ht : six t) : 139 ≤ t ∧ t ≤ 190 := by unfold six at ht; omega
theorem sF_l {t f : Nat} (ht : t = 139 ∨ t = 152 ∨ t = 165) (hf : 5 ≤ f ∧ f ≤ 9 ∨ f = 16) : sF t f := Or.inl ⟨ht, hf⟩
theorem rg_or {t a : Nat} (p : rg t a) : 222 ≤ a ∨ rt t a := by
  unfold rg at p
  unfold rt
  omega
theorem rt_lt {t a : Nat} (ht : six t) (p : rt t a) : 139 ≤ a ∧ a < 193 := by
  unfold rt at p
  rcases ht with e | e | e | e | e | e <;> subst e <;> omega
theorem sF_six {t f : Nat} (q : sF t f) : six t := by unfold sF at q; unfold six; omega
theorem Se.pst (se : Se h G c) (ht : six t) (p : Gr (fun a => sO h t a ∨ outS a) h g ∧ (∀ f a, sF t f → g.P t f = some a → h.P t f = some a ∨ (h.n ≤ a ∧ a < g.n)) ∧ ∀ f f' a, sF t f → sF t f' → g.P t f = some a → g.P t f' = some a → f = f') (hn : 222 ≤ h.n) (ow : Own g G t c) (fs : Fst g) : Se g G c := by
  obtain ⟨o, l1, l2, l3, f1, f2, r, -, st⟩ := se
  obtain ⟨p1, p2, p3⟩ := p
  obtain ⟨w1, w2, w3, w4, w5, w6, w7⟩ := ow
  have nS : ∀ t' a, six t' → t' ≠ t → rt t' a → ¬ (sO h t a ∨ outS a) := fun t' a h1 h2 h3 q => by
    rcases q with (q | ⟨f, q1, q2⟩) | q
    · exact rt_dis ht h1 h2 q h3
    · rcases rg_or (o.1 t f a q1 q2).1 with w | w
      · have := rt_lt h1 h3; omega
      · exact rt_dis ht h1 h2 w h3
    · have := rt_lt h1 h3; unfold outS at q; omega
  have nP : ∀ t' f' a, t' ≠ t → sF t' f' → h.P t' f' = some a → ¬ (sO h t a ∨ outS a) := fun t' f' a h1 h2 h3 q => by
    rcases q with (q | ⟨f, q1, q2⟩) | q
    · rcases rg_or (o.1 t' f' a h2 h3).1 with w | w
      · have := rt_lt ht q; omega
      · exact rt_dis ht (sF_six h2) h1 q w
    · exact h1 (o.2 t' f' t f a h2 q1 h3 q2).1
    · rcases rg_or (o.1 t' f' a h2 h3).1 with w | w
      · unfold outS at q; omega
      · have := rt_lt (sF_six h2) w; unfold outS at q; omega
  have hn' := p1.1
  have rr : ∀ t' a, (t' = 139 ∨ t' = 152 ∨ t' = 165) → t' ≤ a → a < t' + 12 → rt t' a := fun t' a h1 h2 h3 => by unfold rt; omega
  have rf : ∀ t' a, (t' = 178 ∨ t' = 184) → t' ≤ a → a < t' + 6 → rt t' a := fun t' a h1 h2 h3 => by unfold rt; omega
  refine ⟨⟨fun t' f a q e => ?_, fun t1 f1 t2 f2 a q1 q2 e1 e2 => ?_⟩, ?_, ?_, ?_, ?_, ?_, ?_, ?_, ?_⟩
  · by_cases et : t' = t
    · subst et
      rcases p2 f a q e with w | ⟨w, w'⟩
      · have := o.1 t' f a q w
        exact ⟨this.1, by omega⟩
      · exact ⟨Or.inl (by omega), w'⟩
    · have hs := sF_six q
      rw [p1.p (Nat.lt_of_le_of_lt (six_lt hs).2 (by omega)) (nS t' t' hs et (rt_self hs))] at e
      have := o.1 t' f a q e
      exact ⟨this.1, by omega⟩
  · have old : ∀ t' f', t' ≠ t → sF t' f' → g.P t' f' = some a → h.P t' f' = some a ∧ a < h.n := fun t' f' et q e => by
      have hs := sF_six q
      rw [p1.p (Nat.lt_of_le_of_lt (six_lt hs).2 (by omega)) (nS t' t' hs et (rt_self hs))] at e
      exact ⟨e, (o.1 t' f' a q e).2⟩
    by_cases e1t : t1 = t
    · by_cases e2t : t2 = t
      · subst e1t; subst e2t
        exact ⟨rfl, p3 f1 f2 a q1 q2 e1 e2⟩
      · have w := old t2 f2 e2t q2 e2
        subst e1t
        rcases p2 f1 a q1 e1 with v | ⟨v, -⟩
        · exact o.2 t1 f1 t2 f2 a q1 q2 v w.1
        · omega
    · have w := old t1 f1 e1t q1 e1
      by_cases e2t : t2 = t
      · subst e2t
        rcases p2 f2 a q2 e2 with v | ⟨v, -⟩
        · exact o.2 t1 f1 t2 f2 a q1 q2 w.1 v
        · omega
      · exact o.2 t1 f1 t2 f2 a q1 q2 w.1 (old t2 f2 e2t q2 e2).1
  · by_cases et : t = 139
    · exact w1 et
    · exact l1.gr p1 hn (fun a h1 h2 => nS 139 a (by unfold six; omega) (by omega) (rr 139 a (by omega) h1 h2)) (fun f a h1 h2 h3 => nP 139 f a (by omega) (by unfold sF; omega) h3)
  · by_cases et : t = 152
    · exact w2 et
    · exact l2.gr p1 hn (fun a h1 h2 => nS 152 a (by unfold six; omega) (by omega) (rr 152 a (by omega) h1 h2)) (fun f a h1 h2 h3 => nP 152 f a (by omega) (by unfold sF; omega) h3)
  · by_cases et : t = 165
    · exact w3 et
    · exact l3.gr p1 hn (fun a h1 h2 => nS 165 a (by unfold six; omega) (by omega) (rr 165 a (by omega) h1 h2)) (fun f a h1 h2 h3 => nP 165 f a (by omega) (by unfold sF; omega) h3)
  · by_cases et : t = 178
    · exact w4 et
    · exact f1.gr p1 hn (fun a h1 h2 => nS 178 a (by unfold six; omega) (by omega) (rf 178 a (by omega) h1 h2)) (fun f a h1 h2 h3 => nP 178 f a (by omega) (by unfold sF; omega) h3)
  · by_cases et : t = 184
    · exact w5 et
    · exact f2.gr p1 hn (fun a h1 h2 => nS 184 a (by unfold six; omega) (by omega) (rf 184 a (by omega) h1 h2)) (fun f a h1 h2 h3 => nP 184 f a (by omega) (by unfold sF; omega) h3)
  · by_cases et : t = 190
    · exact w6 et
    · obtain ⟨L, a3, a4, r⟩ := r
      exact ⟨L, a3, a4, r.gr p1 hn (nS 190 190 (by unfold six; omega) (by omega) (by unfold rt; omega))⟩
  · exact fs
  · intro t' f q
    by_cases et : t' = t
    · subst et; exact w7 f q
    · have hs : six t' := by unfold six; omega
      rw [p1.i (Nat.lt_of_le_of_lt (six_lt hs).2 (by omega)) (nS t' t' hs et (rt_self hs))]
      exact st t' f q
theorem sO_sp (se : Se h G c) (hb : h.n ≤ 1000000) (ht : six t) {a : Nat} (q : sO h t a) : spare a := by
  rcases q with q | ⟨f, q1, q2⟩
  · have := rt_lt ht q; unfold spare; omega
  · have w := se.1.1 t f a q1 q2
    rcases rg_or w.1 with v | v
    · unfold spare; omega
    · have := rt_lt ht v; unfold spare; omega
/-- a search of the class, then the reference in its spare cells -/
theorem Inv.sk (hI : Inv L xs h z) (hz : z < 1000) (r : Rst L xs h z G c i) (se : Se h G c) (ht : six t) (p : Pst h g t) (ow : Own g G t c) (fs : Fst g) (hn : g.n ≤ h.n + 16 ∧ g.sl ≤ h.sl + 50000) (q : Sm S (g.sI 0 0 s) g2) (hS : ∀ a, S a → a = 197 ∨ (spare a ∧ outS a)) (f197 : ∀ j, (j = 10 ∨ j = 16 ∨ j = 17 ∨ j = 30 ∨ j = 52 ∨ j = 55) → g2.I 197 j = g.I 197 j) (f2 : g2.I 197 2 = s) : Inv L xs g2 (z + 1) := by
  have hn0 := hI.nn
  have se1 := se.pst ht ⟨p.1.mono (fun a ha => Or.inl ha), p.2⟩ hn0.1 ow fs
  have st := hI.1
  have sp : ∀ a, sO h t a → spare a := fun a ha => sO_sp se (by omega) ht ha
  have no : ∀ a, ¬ spare a → ¬ sO h t a := fun a h1 h2 => h1 (sp a h2)
  have k1 : Kept h g := Kept.cls p.1 hn0.1 (fun a ha => Or.inl (sp a ha)) (fun j hj => by rw [p.1.i (by omega) (no 0 (by unfold spare; omega))]) (by omega)
  have p1 := p.1.1
  have k2 : Kept g (g.sI 0 0 s) := Kept.cls (S := fun a => a = 0) (Sm.gr (sm1 _ _ _ _)) (by omega) (fun a ha => Or.inr ha) (fun j hj => by rw [I_nk (by omega)]) (by omega)
  have n0 : ¬ S 0 := fun w => by have := hS 0 w; unfold spare outS at this; omega
  have n198 : ¬ S 198 := fun w => by have := hS 198 w; unfold spare outS at this; omega
  have n9 : ∀ a, a = 209 ∨ a = 210 ∨ a = 211 → ¬ S a := fun a ha w => by have := hS a w; unfold spare outS at this; omega
  have k3 : Kept (g.sI 0 0 s) g2 := Kept.ref q (fun a ha => (hS a ha).elim (fun w => Or.inr (Or.inl w)) (fun w => Or.inl w.1)) (fun j hj => by rw [f197 j hj, I_sI, if_neg (by omega)]) (fun k hk => by rw [q.I n198])
  refine ⟨⟨by rw [q.I n0, I_eq, f2], ?_, ?_⟩, G, c, i, r.fr ((k1.trans k2).trans k3) ⟨by rw [q.n]; exact p1, by rw [q.n]; exact hn.1, by rw [q.sl]; exact hn.2⟩ hz, ?_⟩
  · rw [q.J0, q.J197, J_sI, (p.1.2.2 0 (by omega) (no 0 (by unfold spare; omega))).2.1, (p.1.2.2 197 (by omega) (no 197 (by unfold spare; omega))).2.1]; exact st.2.1
  · rw [q.J0, q.J197, J_sI, (p.1.2.2 0 (by omega) (no 0 (by unfold spare; omega))).2.1, (p.1.2.2 197 (by omega) (no 197 (by unfold spare; omega))).2.1]; exact st.2.2
  · refine se1.gr (S := fun a => a = 0 ∨ S a) (Gr.trans (Sm.gr (Sm.sI Sm.refl (Or.inl rfl) s)) (q.gr.mono (fun a ha => Or.inr ha))) (by omega) (fun a ha => ha.elim (fun e => by unfold outS; omega) (fun w => (hS a w).elim (fun e => by unfold outS; omega) (fun e => e.2))) ⟨f197 30 (by omega), ?_, ?_, ?_⟩
    · rw [q.I (n9 209 (by omega))]; exact funext (fun j => by rw [I_sI, if_neg (by omega)])
    · rw [q.I (n9 210 (by omega))]; exact funext (fun j => by rw [I_sI, if_neg (by omega)])
    · rw [q.I (n9 211 (by omega))]; exact funext (fun j => by rw [I_sI, if_neg (by omega)])
theorem Pst.out (se : Se h G c) (p : Pst h g t) (ht : six t) (hn : 222 ≤ h.n) (hb : h.n ≤ 1000000) {a : Nat} (ha : (a < h.n ∨ 1000000 ≤ a)) (hs : ¬ spare a) : g.I a = h.I a ∧ g.J a = h.J a := by
  have := p.1.2.2 a ha (fun w => hs (sO_sp se hb ht w))
  exact ⟨this.1, this.2.1⟩
theorem Inv.sks (hI : Inv L xs h z) (se : Se h G c) (ht : six t) (p : Pst h g t) : Sc L xs (g.sI 0 0 s) ∧ (∀ M, MA h M → MA (g.sI 0 0 s) M) ∧ g.I 0 = h.I 0 := by
  have hn0 := hI.nn
  have e198 := (Pst.out se p ht hn0.1 (by omega) (a := 198) (by omega) (by unfold spare; omega)).1
  have eM := (Pst.out se p ht hn0.1 (by omega) (a := 1000000) (by omega) (by unfold spare; omega)).1
  have sc := hI.sc
  refine ⟨⟨(p.1.2.1 1000000 (by omega)).2.trans sc.1, ?_⟩, fun M hM k hk => ?_, (Pst.out se p ht hn0.1 (by omega) (a := 0) (by omega) (by unfold spare; omega)).1⟩
  · rw [show (g.sI 0 0 s).I 1000000 = g.I 1000000 from funext (fun j => by rw [I_sI, if_neg (by omega)]), eM]; exact sc.2
  · rw [I_sI, if_neg (by omega), e198]; exact hM k hk
/-- a LEAST search: what it leaves -/
theorem Pst.least (ht : t = 139 ∨ t = 152 ∨ t = 165) (lp : LPost h g t) (tk : tKeep h g t) {cw : Nat} (lc : LC g t cw G) (o : Ow h) (hn : 222 ≤ h.n) : Pst h g t := by
  obtain ⟨p1, p2, p3, p4⟩ := lp
  obtain ⟨L, a5, a6, a7, a8, a9, ⟨⟨e5, e6, e7, e8, e9⟩, -, -, -, l3, -⟩, -⟩ := lc
  have o16 : g.P t 16 = h.P t 16 := tk.2 16 (by omega) (by omega)
  have sf : ∀ f, sF t f → 5 ≤ f ∧ f ≤ 9 ∨ f = 16 := fun f q => by unfold sF at q; omega
  have p2' : ∀ f a, sF t f → g.P t f = some a → h.P t f = some a ∨ (h.n ≤ a ∧ a < g.n) := fun f a q e => p2 f a (by have := sf f q; omega) (by have := sf f q; omega) e
  refine ⟨p1.mono (fun a ha => ?_), p2', fun f f' a q q' e e' => ?_⟩
  · rcases ha with ha | ⟨f, f1, f2, f3⟩
    · left; unfold rt; omega
    · right; exact ⟨f, sF_l ht (Or.inl ⟨f1, f2⟩), f3⟩
  · have six16 : ∀ f a, 5 ≤ f → f ≤ 9 → g.P t f = some a → g.P t 16 = some a → False := fun f a f1 f2 w w' => by
      rw [o16] at w'
      have b := (o.1 t 16 a (sF_l ht (Or.inr rfl)) w').2
      rcases p2 f a f1 (by omega) w with v | ⟨v, -⟩
      · have e16 := (o.2 t f t 16 a (sF_l ht (Or.inl ⟨f1, f2⟩)) (sF_l ht (Or.inr rfl)) v w').2
        rw [e16] at f2; exact absurd f2 (by decide)
      · exact absurd b (Nat.not_lt.mpr v)
    have val : ∀ f, 5 ≤ f → f ≤ 9 → g.P t f = some a → (f = 5 ∧ a = a5 ∨ f = 6 ∧ a = a6 ∨ f = 7 ∧ a = a7 ∨ f = 8 ∧ a = a8 ∨ f = 9 ∧ a = a9) := fun f f1 f2 w => by
      have : f = 5 ∨ f = 6 ∨ f = 7 ∨ f = 8 ∨ f = 9 := by omega
      rcases this with v | v | v | v | v <;> subst v
      · rw [e5] at w; injection w with w; exact Or.inl ⟨rfl, w.symm⟩
      · rw [e6] at w; injection w with w; exact Or.inr (Or.inl ⟨rfl, w.symm⟩)
      · rw [e7] at w; injection w with w; exact Or.inr (Or.inr (Or.inl ⟨rfl, w.symm⟩))
      · rw [e8] at w; injection w with w; exact Or.inr (Or.inr (Or.inr (Or.inl ⟨rfl, w.symm⟩)))
      · rw [e9] at w; injection w with w; exact Or.inr (Or.inr (Or.inr (Or.inr ⟨rfl, w.symm⟩)))
    rcases sf f q with v | v <;> rcases sf f' q' with v' | v'
    · have u1 := val f v.1 v.2 e
      have u2 := val f' v'.1 v'.2 e'
      clear val six16 p2' sf p1 p2 p3 p4 o tk ht e e' q q' v v' e5 e6 e7 e8 e9 o16
      rcases u1 with u1 | u1 | u1 | u1 | u1 <;> rcases u2 with u2 | u2 | u2 | u2 | u2 <;> omega
    · subst v'; exact (six16 f a v.1 v.2 e e').elim
    · subst v; exact (six16 f' a v'.1 v'.2 e' e).elim
    · omega
theorem Fst.oth (fs : Fst h) (se : Se h G c) (ht : six t) (ne : t ≠ 139) (p : Pst h g t) (hn : 222 ≤ h.n) (hb : h.n ≤ 1000000) : Fst g := by
  have o := se.1
  have e : ∀ a, a = 197 ∨ a = 209 ∨ a = 210 ∨ a = 211 → g.I a = h.I a := fun a ha => (Pst.out se p ht hn hb (by omega) (by unfold spare; omega)).1
  have n1 : ¬ sO h t 139 := fun q => by
    rcases q with q | ⟨f, q1, q2⟩
    · exact rt_dis ht (Or.inl rfl) (fun e => ne e.symm) q (by unfold rt; omega)
    · rcases rg_or (o.1 t f 139 q1 q2).1 with w | w
      · omega
      · exact rt_dis ht (Or.inl rfl) (fun e => ne e.symm) w (by unfold rt; omega)
  refine fs.gr p.1 hn n1 (fun a h3 q => ?_) (by rw [p.1.i (by omega) n1]) ⟨by rw [e 197 (by omega)], e 209 (by omega), e 210 (by omega), e 211 (by omega)⟩
  have s16 : sF 139 16 := by unfold sF; omega
  rcases q with q | ⟨f, q1, q2⟩
  · rcases rg_or (o.1 139 16 a s16 h3).1 with w | w
    · have := rt_lt ht q; omega
    · exact rt_dis ht (Or.inl rfl) (fun e => ne e.symm) q w
  · exact ne (o.2 139 16 t f a s16 q1 h3 q2).1.symm
theorem Fst.least (fs : Fst h) (o : Ow h) (lp : LPost h g 139) (tk : tKeep h g 139) (hn : 222 ≤ h.n) : Fst g := by
  obtain ⟨a16, len, P, ⟨b1, b2, b3, b4, b5⟩, q1, q2, q3, q4, q5, q6⟩ := fs
  have p := lp.1
  have p1 := p.1
  have s16 : sF 139 16 := by unfold sF; omega
  have no : ∀ a, a < 222 → ¬ (139 ≤ a ∧ a < 152) → ¬ inT h 139 a := fun a h1 h2 q => by
    rcases q with q | ⟨f, f1, f2, f3⟩
    · omega
    · rcases rg_or (o.1 139 f a (by unfold sF; omega) f3).1 with w | w
      · omega
      · unfold rt at w; omega
  have n16 : ¬ inT h 139 a16 := fun q => by
    rcases q with q | ⟨f, f1, f2, f3⟩
    · omega
    · have := (o.2 139 16 139 f a16 s16 (by unfold sF; omega) b1 f3).2; omega
  refine ⟨a16, len, P, ⟨?_, by rw [p.k b5]; exact b2, by rw [p.nn b5]; exact b3, b4, by omega⟩, q1, by rw [tk.1 17 (by omega) (by omega) (by omega) (by omega) (by omega)]; exact q2, by rw [p.i (by omega) (no 197 (by omega) (by omega))]; exact q3, by rw [p.nn b5]; exact q4, by rw [p.i b5 n16]; exact q5, ?_⟩
  · rw [tk.2 16 (by omega) (by omega)]; exact b1
  · unfold FsRow
    rw [p.i (by omega) (no 209 (by omega) (by omega)), p.i (by omega) (no 210 (by omega) (by omega)), p.i (by omega) (no 211 (by omega) (by omega))]
    exact q6
/-- the stamp that a search bears is the menu's -/
theorem LC.pick {cw : Nat} {s0 : Int32} {M : Nat → Int32} (lc : LC g t cw (fun s => if s = s0 then M else fun _ => 100)) (e : G s0 = M) : LC g t cw G ∧ (g.I t 3 = -1 ∨ g.I t 3 = s0) := by
  obtain ⟨L, a5, a6, a7, a8, a9, hA, i2, hc, hd⟩ := lc
  rcases hd with hd | ⟨kd, k, V, od, w, σ, d1, d2, d3, d4⟩
  · exact ⟨⟨L, a5, a6, a7, a8, a9, hA, i2, hc, Or.inl hd⟩, Or.inl hd⟩
  · by_cases q : g.I t 3 = s0
    · dsimp only at d3 d4
      rw [if_pos q] at d3 d4
      refine ⟨⟨L, a5, a6, a7, a8, a9, hA, i2, hc, Or.inr ⟨kd, k, V, od, w, σ, d1, d2, ?_, ?_⟩⟩, Or.inr q⟩
      · rw [q, e]; exact d3
      · rw [q, e]; exact d4
    · dsimp only at d3
      rw [if_neg q] at d3
      exfalso
      have := hA.2.2.2.1
      have e100 : aN (fun _ => (100 : Int32)) = 100 := by decide +kernel
      rw [e100] at d3
      have : (4096 : Nat) < 2 ^ 100 := by decide
      omega
end SKC
