/-! BETWEEN CALLS: all that holds -/
def LevG (h : TH) (j : Nat) (r : Nat → Int32) (q : Nat → Int64) (G : Int32 → Nat → Int32) (c z : Nat) (M : Nat → Int32) (N : Nat → List Nat) (cn : Nat) (S U W : Int32) (k : Nat) (A : Nat → Nat) (s : Nat) : Prop :=
  Wf M ∧ CM h (43 + 24 * j) M ∧ NmC h (43 + 24 * j) N (aN M) ∧ (h.I (43 + 24 * j) 0 = nI s ∧ s ≤ c ∧ mEq M (G (nI s))) ∧
  (∀ k, (k < 2 ∨ 8 ≤ k ∧ k < 112) → r k = M k) ∧ (∀ i, i < aN M → q i = lN (cod 256 0 (N i)) ∧ NmOk (N i)) ∧
  (HCs h (65 + 24 * j) M S U W k A ∧ k ≤ z ∧ St (aN M) S ∧ St (aN M) U ∧ sb U S ∧ abd M S U A) ∧
  (r 2 = S ∧ r 3 = U ∧ r 4 = W ∧ r 5 = nI k ∧ ∀ d, d < aN M → bt S d = true → bt U d = false → ¬ aKp M d = 0 → r (112 + d) = nI (A d)) ∧
  ((h.I (58 + 24 * j) 0 = 0 ∧ r 6 = -1) ∨ (PlC h j M cn ∧ r 6 = M 6 ∧ ∀ k, 124 ≤ k → k < 440 → r k = M k))
def Lev (h : TH) (j : Nat) (r : Nat → Int32) (q : Nat → Int64) (G : Int32 → Nat → Int32) (c z : Nat) : Prop := ∃ M N cn S U W k A s, LevG h j r q G c z M N cn S U W k A s
def Lvs (h : TH) (i : Nat) (G : Int32 → Nat → Int32) (c z : Nat) : Prop := i < 4 ∧ h.I 0 10 = nI i ∧ h.I 197 55 = nI i ∧ Lev h i (h.I 198) (h.J 199) G c z ∧ ∀ j, j < i → Lev h j (fun k => h.I 198 (440 * (j + 1) + k)) (fun k => h.J 199 (12 * (j + 1) + k)) G c z
def Stt (h : TH) : Prop := h.I 0 0 = h.I 197 2 ∧ h.J 0 1 = h.J 197 3 ∧ h.J 0 2 = h.J 197 4
def Tpe (h : TH) : Prop := (∃ (y : Nat) (T : Nat → Nat), y ≤ 900 ∧ h.I 9 1 = nI y ∧ h.I 197 10 = nI y ∧ ∀ k, k < y → T k < 256 ∧ h.I 10 k = nI (T k) ∧ (h.I 203 k) &&& 255 = nI (T k)) ∧ h.I 9 10 = h.I 197 16 ∧ h.I 9 11 = h.I 197 17 ∧ ∀ x, x < 23 → h.J 11 x = lN (cod 32 96 (wC x))
def Ckd (h : TH) : Prop := (h.I 0 19 = 0 ∧ h.I 197 52 = 0) ∨ (¬ h.I 0 19 = 0 ∧ ¬ h.I 197 52 = 0 ∧ ∃ M dr s, CKc h 193 M dr s ∧ ∀ j, j ≤ 6 → h.I 221 j = ckT s j)
def Sc (L : Nat) (xs : Nat → Int32) (h : TH) : Prop := h.N 1000000 = L ∧ h.I 1000000 = xs
def Rm (h : TH) (z : Nat) : Prop := 222 ≤ h.n ∧ h.n ≤ 222 + 16 * z ∧ h.sl ≤ 4000000 + 50000 * z ∧ z ≤ 1000
def Rst (L : Nat) (xs : Nat → Int32) (h : TH) (z : Nat) (G : Int32 → Nat → Int32) (c i : Nat) : Prop := Tpe h ∧ Ckd h ∧ TI h ∧ (h.K 34 = 100 ∧ h.N 34 = 30) ∧ Rm h z ∧ Sc L xs h ∧ (h.I 15 2 = nI c ∧ c ≤ z) ∧ Lvs h i G c z
def Inv (L : Nat) (xs : Nat → Int32) (h : TH) (z : Nat) : Prop := Stt h ∧ ∃ G c i, Rst L xs h z G c i ∧ Se h G c
def spare (a : Nat) : Prop := a = 1 ∨ a = 2 ∨ (12 ≤ a ∧ a < 15) ∨ (16 ≤ a ∧ a < 43) ∨ (a = 63 ∨ a = 64 ∨ a = 87 ∨ a = 88 ∨ a = 111 ∨ a = 112 ∨ a = 135 ∨ a = 136) ∨ (139 ≤ a ∧ a < 193) ∨ a = 195 ∨ a = 196 ∨ (204 ≤ a ∧ a ≤ 208) ∨ (212 ≤ a ∧ a ≤ 220) ∨ (222 ≤ a ∧ a < 1000000)
/-- all that lies between calls outside the searches is kept -/
def Kept (h g : TH) : Prop :=
  (∀ a, ¬ spare a → a ≠ 0 → a ≠ 9 → a ≠ 58 → a ≠ 82 → a ≠ 106 → a ≠ 130 → a ≠ 197 → a ≠ 198 → g.I a = h.I a) ∧
  (∀ a, ¬ spare a → a ≠ 0 → a ≠ 197 → a ≠ 198 → a ≠ 199 → g.J a = h.J a) ∧
  (∀ a, (a < 222 ∨ 1000000 ≤ a) → g.K a = h.K a ∧ g.N a = h.N a) ∧
  (∀ j, (j = 10 ∨ j = 19) → g.I 0 j = h.I 0 j) ∧ (∀ j, (j = 1 ∨ j = 10 ∨ j = 11) → g.I 9 j = h.I 9 j) ∧
  (∀ j, (j = 10 ∨ j = 16 ∨ j = 17 ∨ j = 30 ∨ j = 52 ∨ j = 55) → g.I 197 j = h.I 197 j) ∧
  (∀ k, k < 1760 → g.I 198 k = h.I 198 k) ∧ (∀ k, k < 48 → g.J 199 k = h.J 199 k) ∧
  (∀ j e, j < 4 → e < 2 → g.I (58 + 24 * j) e = h.I (58 + 24 * j) e)
section INV
variable {h g g2 : TH} {L : Nat} {xs : Nat → Int32} {G : Int32 → Nat → Int32} {c z i j : Nat} {r r' : Nat → Int32} {q q' : Nat → Int64} {S : Nat → Prop}
theorem LevG.fr {M : Nat → Int32} {N : Nat → List Nat} {cn : Nat} {S U W : Int32} {k : Nat} {A : Nat → Nat} {s z' : Nat} (l : LevG h j r q G c z M N cn S U W k A s) (hI : ∀ a, 43 + 24 * j ≤ a → a < 67 + 24 * j → a ≠ 58 + 24 * j → a ≠ 63 + 24 * j → a ≠ 64 + 24 * j → g.I a = h.I a) (hJ : g.J (44 + 24 * j) = h.J (44 + 24 * j)) (h58 : ∀ e, e < 2 → g.I (58 + 24 * j) e = h.I (58 + 24 * j) e) (hr : ∀ k, k < 440 → r' k = r k) (hq : ∀ k, k < 12 → q' k = q k) (hz : z ≤ z') : LevG g j r' q' G c z' M N cn S U W k A s := by
  obtain ⟨l1, l2, l3, l4, l5, l6, ⟨l7, l8, l9⟩, l10, l11⟩ := l
  have w12 := l1.n12
  refine ⟨l1, l2.frame (fun a a1 a2 => hI a (by omega) (by omega) (by omega) (by omega) (by omega)), fun e he => ?_, ?_, fun k hk => (hr k (by omega)).trans (l5 k hk), fun e he => by rw [hq e (by omega)]; exact l6 e he, ⟨?_, by omega, l9⟩, ?_, ?_⟩
  · rw [show 43 + 24 * j + 1 = 44 + 24 * j by omega, hJ]
    have := l3 e he
    rw [show 43 + 24 * j + 1 = 44 + 24 * j by omega] at this
    exact this
  · rw [hI (43 + 24 * j) (by omega) (by omega) (by omega) (by omega) (by omega)]; exact l4
  · have e65 := hI (65 + 24 * j) (by omega) (by omega) (by omega) (by omega) (by omega)
    have e66 := hI (65 + 24 * j + 1) (by omega) (by omega) (by omega) (by omega) (by omega)
    exact HCs_copy w12 l7 (by rw [e65]) (by rw [e65]) (by rw [e65]) (by rw [e65]) (by rw [e65]; exact l7.2.2.2.2.1) (fun e he => by rw [e66])
  · rw [hr 2 (by omega), hr 3 (by omega), hr 4 (by omega), hr 5 (by omega)]
    exact ⟨l10.1, l10.2.1, l10.2.2.1, l10.2.2.2.1, fun d hd h1 h2 h3 => by rw [hr _ (by omega)]; exact l10.2.2.2.2 d hd h1 h2 h3⟩
  · rw [h58 0 (by omega), hr 6 (by omega)]
    refine l11.imp id (fun ⟨p, p6, pr⟩ => ⟨⟨by rw [h58 0 (by omega)]; exact p.1, by rw [h58 1 (by omega)]; exact p.2.1, p.2.2.1, CPl_fr p.2.2.2 (fun a a1 a2 => hI _ (by omega) (by omega) (by omega) (by omega) (by omega))⟩, p6, fun k k1 k2 => (hr k k2).trans (pr k k1 k2)⟩)
theorem Lev.fr {z' : Nat} (l : Lev h j r q G c z) (hI : ∀ a, 43 + 24 * j ≤ a → a < 67 + 24 * j → a ≠ 58 + 24 * j → a ≠ 63 + 24 * j → a ≠ 64 + 24 * j → g.I a = h.I a) (hJ : g.J (44 + 24 * j) = h.J (44 + 24 * j)) (h58 : ∀ e, e < 2 → g.I (58 + 24 * j) e = h.I (58 + 24 * j) e) (hr : ∀ k, k < 440 → r' k = r k) (hq : ∀ k, k < 12 → q' k = q k) (hz : z ≤ z') : Lev g j r' q' G c z' := by
  obtain ⟨M, N, cn, S, U, W, k, A, s, l⟩ := l
  exact ⟨M, N, cn, S, U, W, k, A, s, l.fr hI hJ h58 hr hq hz⟩
theorem Lev.stamp {G' : Int32 → Nat → Int32} {c' : Nat} (l : Lev h j r q G c z) (hG : ∀ s, s ≤ c → G' (nI s) = G (nI s)) (hc : c ≤ c') : Lev h j r q G' c' z := by
  obtain ⟨M, N, cn, S, U, W, k, A, s, l1, l2, l3, ⟨l4, l5, l6⟩, l7⟩ := l
  exact ⟨M, N, cn, S, U, W, k, A, s, l1, l2, l3, ⟨l4, by omega, by rw [hG s l5]; exact l6⟩, l7⟩
theorem Tpe.fr (t : Tpe h) (e9 : ∀ j, (j = 1 ∨ j = 10 ∨ j = 11) → g.I 9 j = h.I 9 j) (e10 : g.I 10 = h.I 10) (e11 : g.J 11 = h.J 11) (e197 : ∀ j, (j = 10 ∨ j = 16 ∨ j = 17) → g.I 197 j = h.I 197 j) (e203 : g.I 203 = h.I 203) : Tpe g := by
  unfold Tpe at t ⊢
  rw [e9 1 (by omega), e9 10 (by omega), e9 11 (by omega), e10, e11, e197 10 (by omega), e197 16 (by omega), e197 17 (by omega), e203]
  exact t
theorem Ckd.fr (t : Ckd h) (e0 : g.I 0 19 = h.I 0 19) (e52 : g.I 197 52 = h.I 197 52) (e193 : g.I 193 = h.I 193) (e194 : g.I 194 = h.I 194) (e221 : g.I 221 = h.I 221) : Ckd g := by
  unfold Ckd CKc sncS at t ⊢
  rw [e0, e52, e193, show 193 + 1 = 194 from rfl, e194, e221]
  exact t
theorem Rst.fr (r : Rst L xs h z G c i) (k : Kept h g) (hn : h.n ≤ g.n ∧ g.n ≤ h.n + 16 ∧ g.sl ≤ h.sl + 50000) (hz : z < 1000) : Rst L xs g (z + 1) G c i := by
  obtain ⟨r1, r2, r3, r4, r5, r6, r7, l1, l2, l3, l4, l5⟩ := r
  obtain ⟨kI, kJ, kK, k0, k9, k197, k198, k199, k58⟩ := k
  have I' : ∀ a, (a = 7 ∨ a = 8 ∨ a = 10 ∨ a = 15 ∨ a = 193 ∨ a = 194 ∨ a = 200 ∨ a = 201 ∨ a = 203 ∨ a = 221 ∨ a = 1000000) → g.I a = h.I a := fun a ha => kI a (by unfold spare; omega) (by omega) (by omega) (by omega) (by omega) (by omega) (by omega) (by omega) (by omega)
  refine ⟨r1.fr k9 (I' 10 (by omega)) (kJ 11 (by unfold spare; omega) (by omega) (by omega) (by omega) (by omega)) (fun j hj => k197 j (by omega)) (I' 203 (by omega)), r2.fr (k0 19 (by omega)) (k197 52 (by omega)) (I' 193 (by omega)) (I' 194 (by omega)) (I' 221 (by omega)), r3.frame (I' 7 (by omega)) (I' 8 (by omega)) (I' 200 (by omega)) (I' 201 (by omega)) (fun e he => ⟨kJ _ (by unfold spare; omega) (by omega) (by omega) (by omega) (by omega), kK _ (by omega)⟩) (kJ 202 (by unfold spare; omega) (by omega) (by omega) (by omega) (by omega)), by rw [(kK 34 (by omega)).1, (kK 34 (by omega)).2]; exact r4, ?_, by unfold Sc; rw [(kK 1000000 (by omega)).2, I' 1000000 (by omega)]; exact r6, ⟨by rw [I' 15 (by omega)]; exact r7.1, by omega⟩, l1, by rw [k0 10 (by omega)]; exact l2, by rw [k197 55 (by omega)]; exact l3, ?_, fun e he => ?_⟩
  · unfold Rm at r5 ⊢; omega
  · refine l4.fr (fun a a1 a2 a3 a4 a5 => kI a (by unfold spare; omega) (by omega) (by omega) (by omega) (by omega) (by omega) (by omega) (by omega) (by omega)) (kJ _ (by unfold spare; omega) (by omega) (by omega) (by omega) (by omega)) (fun e he => k58 i e l1 he) (fun k hk => k198 k (by omega)) (fun k hk => k199 k (by omega)) (by omega)
  · refine (l5 e he).fr (fun a a1 a2 a3 a4 a5 => kI a (by unfold spare; omega) (by omega) (by omega) (by omega) (by omega) (by omega) (by omega) (by omega) (by omega)) (kJ _ (by unfold spare; omega) (by omega) (by omega) (by omega) (by omega)) (fun e2 he2 => k58 e e2 (by omega) he2) (fun k hk => k198 _ (by omega)) (fun k hk => k199 _ (by omega)) (by omega)
theorem Kept.refl : Kept h h := ⟨fun _ _ _ _ _ _ _ _ _ _ => rfl, fun _ _ _ _ _ _ => rfl, fun _ _ => ⟨rfl, rfl⟩, fun _ _ => rfl, fun _ _ => rfl, fun _ _ => rfl, fun _ _ => rfl, fun _ _ => rfl, fun _ _ _ _ => rfl⟩
theorem Kept.trans (p : Kept h g) (q : Kept g g2) : Kept h g2 := by
  obtain ⟨p1, p2, p3, p4, p5, p6, p7, p8, p9⟩ := p
  obtain ⟨q1, q2, q3, q4, q5, q6, q7, q8, q9⟩ := q
  exact ⟨fun a a1 a2 a3 a4 a5 a6 a7 a8 a9 => (q1 a a1 a2 a3 a4 a5 a6 a7 a8 a9).trans (p1 a a1 a2 a3 a4 a5 a6 a7 a8 a9), fun a a1 a2 a3 a4 a5 => (q2 a a1 a2 a3 a4 a5).trans (p2 a a1 a2 a3 a4 a5), fun a ha => ⟨(q3 a ha).1.trans (p3 a ha).1, (q3 a ha).2.trans (p3 a ha).2⟩, fun j hj => (q4 j hj).trans (p4 j hj), fun j hj => (q5 j hj).trans (p5 j hj), fun j hj => (q6 j hj).trans (p6 j hj), fun j hj => (q7 j hj).trans (p7 j hj), fun j hj => (q8 j hj).trans (p8 j hj), fun j e hj he => (q9 j e hj he).trans (p9 j e hj he)⟩
/-- the class works in its spare cells and its cell 0 -/
theorem Kept.cls (p : Gr S h g) (hn : 222 ≤ h.n) (hS : ∀ a, S a → spare a ∨ a = 0) (f0 : ∀ j, (j = 10 ∨ j = 19) → g.I 0 j = h.I 0 j) (hb : h.n ≤ 1000000) : Kept h g := by
  have w : ∀ a, ¬ spare a → a ≠ 0 → (a < h.n ∨ 1000000 ≤ a) ∧ ¬ S a := fun a a1 a2 => ⟨by unfold spare at a1; omega, fun q => (hS a q).elim a1 a2⟩
  refine ⟨fun a a1 a2 _ _ _ _ _ _ _ => (p.2.2 a (w a a1 a2).1 (w a a1 a2).2).1, fun a a1 a2 _ _ _ => (p.2.2 a (w a a1 a2).1 (w a a1 a2).2).2.1, fun a ha => p.2.1 a (by omega), f0, fun j hj => ?_, fun j hj => ?_, fun j hj => ?_, fun j hj => ?_, fun j e hj he => ?_⟩
  · have := w 9 (by unfold spare; omega) (by omega)
    rw [(p.2.2 _ this.1 this.2).1]
  · have := w 197 (by unfold spare; omega) (by omega)
    rw [(p.2.2 _ this.1 this.2).1]
  · have := w 198 (by unfold spare; omega) (by omega)
    rw [(p.2.2 _ this.1 this.2).1]
  · have := w 199 (by unfold spare; omega) (by omega)
    rw [(p.2.2 _ this.1 this.2).2.1]
  · have := w (58 + 24 * j) (by unfold spare; omega) (by omega)
    rw [(p.2.2 _ this.1 this.2).1]
/-- the reference works in its spare cells and its cell 197 -/
theorem Kept.ref (p : Sm S h g) (hS : ∀ a, S a → spare a ∨ a = 197 ∨ a = 198) (f197 : ∀ j, (j = 10 ∨ j = 16 ∨ j = 17 ∨ j = 30 ∨ j = 52 ∨ j = 55) → g.I 197 j = h.I 197 j) (f198 : ∀ k, k < 1760 → g.I 198 k = h.I 198 k) : Kept h g := by
  have w : ∀ a, ¬ spare a → a ≠ 197 → a ≠ 198 → ¬ S a := fun a a1 a2 a3 q => by rcases hS a q with z | z | z; exact a1 z; exact a2 z; exact a3 z
  refine ⟨fun a a1 _ _ _ _ _ _ a2 a3 => p.I (w a a1 a2 a3), fun a a1 a2 a3 a4 a5 => p.J (w a a1 a3 a4), fun a ha => ⟨by rw [p.K], by rw [p.N]⟩, fun j hj => by rw [p.I (w 0 (by unfold spare; omega) (by omega) (by omega))], fun j hj => by rw [p.I (w 9 (by unfold spare; omega) (by omega) (by omega))], f197, f198, fun j hj => by rw [p.J (w 199 (by unfold spare; omega) (by omega) (by omega))], fun j e hj he => by rw [p.I (w (58 + 24 * j) (by unfold spare; omega) (by omega) (by omega))]⟩
end INV
