/-! EACH CALL, class beside reference: what is common -/
/-- the class has answered v; the reference answers v too, and all holds again -/
def Jn (L : Nat) (xs : Nat → Int32) (z : Nat) {V : Type} (R : TH → (V → TH → Prop) → Prop) (D : V → TH → Prop) : Prop := ∀ v h2, Sc L xs h2 → (∀ Y : V → TH → Prop, (∀ g, Inv L xs g (z + 1) → Y v g) → R h2 Y) → D v h2
def Cur (h : TH) (i : Nat) (M : Nat → Int32) (cn : Nat) (S U W : Int32) (k : Nat) (A : Nat → Nat) : Prop :=
  i < 4 ∧ h.I 0 10 = nI i ∧ Wf M ∧ CM h (43 + 24 * i) M ∧ MA h M ∧ HCs h (65 + 24 * i) M S U W k A ∧ HMs h M S U W k A ∧ k ≤ 1000 ∧ St (aN M) S ∧ St (aN M) U ∧ sb U S ∧ abd M S U A ∧ ((h.I (58 + 24 * i) 0 = 0 ∧ h.I 198 6 = -1) ∨ (PlC h i M cn ∧ MP h M)) ∧ 222 ≤ h.n ∧ h.n ≤ 20000
section CLS
variable {h g h2 : TH} {L z : Nat} {xs : Nat → Int32} {S T : Nat → Prop} {D : Int32 → TH → Prop} {x y : Int32}
theorem sm1 (h : TH) (a k : Nat) (v : Int32) : Sm (fun b => b = a) h (h.sI a k v) := Sm.sI (S := fun b => b = a) Sm.refl rfl v
theorem Inv.mk (hI : Inv L xs h z) (hz : z < 1000) (k : Kept h g) (hn : h.n ≤ g.n ∧ g.n ≤ h.n + 16 ∧ g.sl ≤ h.sl + 50000) (st : Stt g) (se : ∀ G c, Se h G c → Se g G c) : Inv L xs g (z + 1) := by
  obtain ⟨-, G, c, i, r, s⟩ := hI
  exact ⟨st, G, c, i, r.fr k hn hz, se G c s⟩
theorem Inv.nn (hI : Inv L xs h z) : 222 ≤ h.n ∧ h.n ≤ 20000 := by
  obtain ⟨-, G, c, i, ⟨-, -, -, -, r, -⟩, -⟩ := hI
  unfold Rm at r
  omega
theorem Inv.cur (hI : Inv L xs h z) : ∃ i M cn S U W k A, Cur h i M cn S U W k A := by
  have hn := hI.nn
  obtain ⟨-, G, c, i, ⟨-, -, -, -, rm, -, -, hi, cur, mk, ⟨M, N, cn, S, U, W, k, A, s, l1, l2, l3, l4, l5, l6, ⟨l7, l8, l9, l10, l11, l12⟩, l13, l14⟩, lv⟩, se⟩ := hI
  unfold Rm at rm
  refine ⟨i, M, cn, S, U, W, k, A, hi, cur, l1, l2, fun k hk => l5 k hk, l7, ⟨l13.1, l13.2.1, l13.2.2.1, l13.2.2.2.1, l13.2.2.2.2⟩, by omega, l9, l10, l11, l12, ?_, hn⟩
  rcases l14 with ⟨q, q6⟩ | ⟨q, q6, q7⟩
  · exact Or.inl ⟨q, q6⟩
  · exact Or.inr ⟨q, q6, q7⟩
/-- neither side's searches, tapes, trays, levels are touched -/
theorem Inv.go (hI : Inv L xs h z) (hz : z < 1000) (p : Gr T h h2) (hT : ∀ a, T a → a = 0 ∨ (spare a ∧ outS a)) (f0 : ∀ j, (j = 10 ∨ j = 19) → h2.I 0 j = h.I 0 j) (hn2 : h2.n ≤ h.n + 16 ∧ h2.sl ≤ h.sl + 50000) (J0 : h2.J 0 = h.J 0) (q : Sm S h2 g) (hS : ∀ a, S a → a = 197 ∨ (spare a ∧ outS a)) (f197 : ∀ j, (j = 10 ∨ j = 16 ∨ j = 17 ∨ j = 30 ∨ j = 52 ∨ j = 55) → g.I 197 j = h2.I 197 j) (f2 : g.I 197 2 = h2.I 0 0) : Inv L xs g (z + 1) := by
  have hn := hI.nn
  have p1 := p.1
  have n0 : ¬ S 0 := fun w => by have := hS 0 w; unfold spare outS at this; omega
  have t197 : ¬ T 197 := fun w => by have := hT 197 w; unfold spare outS at this; omega
  have n198 : ¬ S 198 := fun w => by have := hS 198 w; unfold spare outS at this; omega
  have k1 : Kept h h2 := Kept.cls p hn.1 (fun a ha => (hT a ha).elim Or.inr (fun w => Or.inl w.1)) f0 (by omega)
  have k2 : Kept h2 g := Kept.ref q (fun a ha => (hS a ha).elim (fun w => Or.inr (Or.inl w)) (fun w => Or.inl w.1)) f197 (fun k hk => by rw [q.I n198])
  have st := hI.1
  refine hI.mk hz (k1.trans k2) ⟨by rw [q.n]; exact p1, by rw [q.n]; exact hn2.1, by rw [q.sl]; exact hn2.2⟩ ?_ (fun G c s => ?_)
  · refine ⟨by rw [q.I n0]; exact f2.symm, ?_, ?_⟩
    · rw [q.J0, q.J197, J0, (p.2.2 197 (by omega) t197).2.1]; exact st.2.1
    · rw [q.J0, q.J197, J0, (p.2.2 197 (by omega) t197).2.1]; exact st.2.2
  · have e : ∀ a, a = 209 ∨ a = 210 ∨ a = 211 → g.I a = h.I a := fun a ha => (k1.trans k2).1 a (by unfold spare; omega) (by omega) (by omega) (by omega) (by omega) (by omega) (by omega) (by omega) (by omega)
    exact s.gr (Gr.trans (p.mono (T := fun a => T a ∨ S a) (fun a ha => Or.inl ha)) (q.gr.mono (fun a ha => Or.inr ha))) hn.1 (fun a ha => ha.elim (fun w => (hT a w).elim (fun e => by unfold outS; omega) (fun e => e.2)) (fun w => (hS a w).elim (fun e => by unfold outS; omega) (fun e => e.2))) ⟨(k1.trans k2).2.2.2.2.2.1 30 (by omega), e 209 (by omega), e 210 (by omega), e 211 (by omega)⟩
/-- the status alone, then what the reference does in its spare cells -/
theorem Inv.st (hI : Inv L xs h z) (hz : z < 1000) {s : Int32} (q : Sm S (h.sI 0 0 s) g) (hS : ∀ a, S a → a = 197 ∨ (spare a ∧ outS a)) (f197 : ∀ j, (j = 10 ∨ j = 16 ∨ j = 17 ∨ j = 30 ∨ j = 52 ∨ j = 55) → g.I 197 j = h.I 197 j) (f2 : g.I 197 2 = s) : Inv L xs g (z + 1) := by
  refine hI.go (T := fun a => a = 0) (h2 := h.sI 0 0 s) hz (Sm.gr (sm1 _ _ _ _)) (fun a ha => Or.inl ha) (fun j hj => ?_) ⟨by rw [n_sI]; omega, by rw [sl_sI]; omega⟩ rfl q hS f197 f2
  rw [I_sI, if_neg (by omega)]
theorem Inv.st0 (hI : Inv L xs h z) (hz : z < 1000) (s : Int32) : Inv L xs ((h.sI 0 0 s).sI 197 2 s) (z + 1) := by
  refine hI.st (S := fun a => a = 197) hz (sm1 _ _ _ _) (fun a ha => Or.inl ha) (fun j hj => ?_) ?_
  · rw [I_sI, if_neg (by omega)]; rfl
  · rw [I_sI, if_pos ⟨rfl, rfl⟩]
theorem Inv.sc (hI : Inv L xs h z) : Sc L xs h := by
  obtain ⟨-, G, c, i, ⟨-, -, -, -, -, r, -⟩, -⟩ := hI
  exact r
theorem Inv.sc0 (hI : Inv L xs h z) (s : Int32) : Sc L xs (h.sI 0 0 s) := hI.sc
theorem Sc.gr (s : Sc L xs h) (p : Gr T h h2) (hT : ¬ T 1000000) : Sc L xs h2 := by
  obtain ⟨s1, s2⟩ := s
  exact ⟨(p.2.1 _ (Or.inr (Nat.le_refl _))).2.trans s1, (p.2.2 _ (Or.inr (Nat.le_refl _)) hT).1.trans s2⟩
/-- both sides set the status and nothing else -/
theorem Jn.st {R : TH → (Int32 → TH → Prop) → Prop} (k : Jn L xs z R D) (hI : Inv L xs h z) (hz : z < 1000) {v s : Int32} (q : ∀ Y : Int32 → TH → Prop, Y v ((h.sI 0 0 s).sI 197 2 s) → R (h.sI 0 0 s) Y) : D v (h.sI 0 0 s) := k v _ (hI.sc0 s) (fun Y hY => q Y (hY _ (hI.st0 hz s)))
theorem MA.s0 {M : Nat → Int32} (m : MA h M) (s : Int32) : MA (h.sI 0 0 s) M := fun k hk => m k hk
theorem HMs.s0 {M : Nat → Int32} {S U W : Int32} {k : Nat} {A : Nat → Nat} (m : HMs h M S U W k A) (s : Int32) : HMs (h.sI 0 0 s) M S U W k A := m
theorem St.no {n : Nat} {s : Int32} (p : St n s) (hn : n ≤ 12) (q : s < 0 ∨ ishl 1 (nI n) ≤ s) : False := by
  have := p.rng (by omega)
  exact q.elim this.1 this.2
theorem dno {n d : Nat} (hd : d < n) (hn : n ≤ 12) (q : nI d < 0 ∨ nI n ≤ nI d) : False := by
  rcases q with q | q
  · revert q; have : ∀ d, d < 12 → ¬ nI d < 0 := by decide +kernel
    exact this d (by omega)
  · revert q; have : ∀ n, n < 13 → ∀ d, d < n → ¬ nI n ≤ nI d := by decide +kernel
    exact this n (by omega) d hd
end CLS
