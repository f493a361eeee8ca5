/-! ROWS that agree where they are asked -/
def mEq (M M' : Nat → Int32) : Prop := ∀ k, (k < 2 ∨ 8 ≤ k ∧ k < 112) → M' k = M k
def pEq (M M' : Nat → Int32) : Prop := ∀ k, (k = 6 ∨ 124 ≤ k) → M' k = M k
section CGR
variable {h : TH} {M M' : Nat → Int32} {t : Nat}
theorem mEq.symm (e : mEq M M') : mEq M' M := fun k hk => (e k hk).symm
theorem mEq.n (e : mEq M M') : aN M' = aN M := by unfold aN; rw [e 0 (by omega)]
theorem mEq.p (e : mEq M M') : aP M' = aP M := by unfold aP; rw [e 1 (by omega)]
theorem mEq.f (e : mEq M M') {d : Nat} (hd : d < 12) : aW M' d = aW M d ∧ aSz M' d = aSz M d ∧ aKp M' d = aKp M d ∧ aBu M' d = aBu M d ∧ aNe M' d = aNe M d ∧ aPo M' d = aPo M d ∧ aOn M' d = aOn M d ∧ aPa M' d = aPa M d :=
  ⟨e _ (by omega), e _ (by omega), e _ (by omega), e _ (by omega), e _ (by omega), e _ (by omega), e _ (by omega), e _ (by omega)⟩
theorem Wf.cg (hw : Wf M) (e : mEq M M') : Wf M' := by
  obtain ⟨w1, w2, w3, w4, w5, w6⟩ := hw
  unfold Wf
  rw [e.n, e.p, e 0 (by omega), e 1 (by omega)]
  refine ⟨w1, w2, w3, w4, fun k hk => by rw [e (8 + k) (by omega)]; exact w5 k hk, fun d hd => ?_⟩
  have z := w6 d hd
  obtain ⟨f1, f2, f3, f4, f5, f6, f7, f8⟩ := e.f (d := d) (by omega)
  unfold WfD at z ⊢
  rw [f1, f2, f3, f4, f5, f6, f7, f8]
  obtain ⟨z1, z2, z3, z4, z5, z6, z7, z8, z9⟩ := z
  refine ⟨z1, z2, z3, z4, z5, z6, z7, z8, ?_⟩
  rcases z9 with z9 | ⟨o, o1, o2, o3, o4, o5, o6⟩
  · exact Or.inl z9
  · obtain ⟨g1, g2, g3, g4, g5, g6, g7, g8⟩ := e.f (d := o) (by omega)
    exact Or.inr ⟨o, o1, o2, o3, by rw [g8]; exact o4, o5, by rw [g5]; exact o6⟩
theorem fitB_cg (hn : aN M ≤ 12) (e : mEq M M') (big : Nat → Nat) (s : Int32) : fitB M' big s = fitB M big s := by
  have z : ∀ x, fcnt M' s x = fcnt M s x := fun x => by
    unfold fcnt
    rw [e.n]
    refine fb_ct_cong (fun d hd => ?_)
    show (bt s d && decide (x ≤ szN M' d)) = (bt s d && decide (x ≤ szN M d))
    unfold szN
    rw [(e.f (d := d) (by omega)).2.1]
  unfold fitB
  congr 1
  funext x
  rw [z]
theorem bigK_cg (hp : aP M ≤ 8) (e : mEq M M') (more : Nat) : bigK M' more = bigK M more := by
  funext z
  unfold bigK
  rw [e.p]
  congr 1
  refine fb_ct_cong (fun k hk => ?_)
  show decide (z ≤ ix (M' (8 + k))) = decide (z ≤ ix (M (8 + k)))
  rw [e (8 + k) (by omega)]
theorem CM.cg (hw : Wf M) (hc : CM h t M) (e : mEq M M') : CM h t M' := by
  have w12 := hw.n12
  have w4 := hw.2.2.2.1
  obtain ⟨⟨c1, c2, c3, c4, c5, c6⟩, cg, ⟨k, k1, k2, k3, k4⟩⟩ := hc
  have f := fun d (hd : d < aN M) => e.f (d := d) (by omega)
  refine ⟨⟨by rw [e.n]; exact c1, by rw [e.p]; exact c2, ?_, ?_, fun d hd => ?_, fun k hk => ?_⟩, fun d hd => ?_, k, k1, k2, by rw [e.n]; exact k3, fun s hs => ?_⟩
  · rw [c3]; unfold pS; rw [e.n]
    exact setOf_cg (fun d hd => by rw [(f d hd).2.2.2.2.2.1])
  · rw [c4]; unfold oS; rw [e.n]
    exact setOf_cg (fun d hd => by rw [(f d hd).2.2.2.2.2.2.1])
  · rw [e.n] at hd
    obtain ⟨f1, f2, f3, f4, f5, f6, f7, f8⟩ := f d hd
    rw [f1, f2, f3, f4, f5, f8]
    exact c5 d hd
  · rw [e.p] at hk
    rw [e (8 + k) (by omega)]; exact c6 k hk
  · rw [e.n] at hd
    obtain ⟨f1, f2, f3, f4, f5, f6, f7, f8⟩ := f d hd
    have hpa : aPa M d = (-1) ∨ ∃ o, o < aN M ∧ aPa M d = nI o := by
      rcases (hw.2.2.2.2.2 d hd).2.2.2.2.2.2.2.2 with z | ⟨o, o1, o2, -⟩
      · exact Or.inl z
      · exact Or.inr ⟨o, o1, o2⟩
    have z := cg d hd
    unfold gP nP wP at z ⊢
    rw [f1, f5, f8]
    rcases hpa with q | ⟨o, o1, o2⟩
    · rw [if_pos q, if_pos q, if_pos q] at z ⊢
      exact z
    · obtain ⟨g1, g2, g3, g4, g5, g6, g7, g8⟩ := f o o1
      rw [o2, ix_n (by omega), g1, g5]
      rw [o2, ix_n (by omega)] at z
      exact z
  · rw [e.n] at hs
    rw [fitB_cg w12 e, bigK_cg w4 e]
    exact k4 s hs
theorem MA.cg (m : MA h M) (e : mEq M M') : MA h M' := fun k hk => by rw [m k hk]; exact (e k hk).symm
theorem sncS.cg {S U : Int32} {A : Nat → Nat} {k : Nat} (hn : aN M ≤ 12) (s : sncS h t M S U A k) (e : mEq M M') : sncS h t M' S U A k := by
  intro d hd h1 h2 h3
  rw [e.n] at hd
  have f := (e.f (d := d) (by omega)).2.2.1
  unfold kpN
  rw [f] at h3 ⊢
  exact s d hd h1 h2 h3
theorem agS.cg {S U : Int32} {A : Nat → Nat} (hn : aN M ≤ 12) (s : agS h M S U A) (e : mEq M M') : agS h M' S U A := by
  intro d hd h1 h2 h3
  rw [e.n] at hd
  have f := (e.f (d := d) (by omega)).2.2.1
  rw [f] at h3
  exact s d hd h1 h2 h3
theorem abd.cg {S U : Int32} {A : Nat → Nat} (hn : aN M ≤ 12) (s : abd M S U A) (e : mEq M M') : abd M' S U A := by
  intro d hd h1 h2 h3
  rw [e.n] at hd
  have f := (e.f (d := d) (by omega)).2.2.1
  unfold kpN
  rw [f] at h3 ⊢
  exact s d hd h1 h2 h3
theorem HCs.cg {S U W : Int32} {A : Nat → Nat} {k : Nat} (hn : aN M ≤ 12) (s : HCs h t M S U W k A) (e : mEq M M') : HCs h t M' S U W k A := ⟨s.1, s.2.1, s.2.2.1, s.2.2.2.1, s.2.2.2.2.1, sncS.cg hn s.2.2.2.2.2 e⟩
theorem HMs.cg {S U W : Int32} {A : Nat → Nat} {k : Nat} (hn : aN M ≤ 12) (s : HMs h M S U W k A) (e : mEq M M') : HMs h M' S U W k A := ⟨s.1, s.2.1, s.2.2.1, s.2.2.2.1, agS.cg hn s.2.2.2.2 e⟩
theorem pEq.s (e : pEq M M') : qn M' = qn M ∧ kK M' = kK M ∧ kA M' = kA M ∧ kB M' = kB M ∧ kL M' = kL M ∧ kC M' = kC M :=
  ⟨by unfold qn; rw [e 6 (by omega)], by funext k; exact e _ (by omega), by funext k; exact e _ (by omega), by funext k; exact e _ (by omega), by funext k; exact e _ (by omega), by funext k; exact e _ (by omega)⟩
theorem PI.cg {n0 cn : Nat} {st : List Nat} (p : PI M n0 cn st) (e : pEq M M') : PI M' n0 cn st := by
  obtain ⟨e0, e1, e2, e3, e4, e5⟩ := e.s
  unfold PI inB opn rowOk cc lk at p ⊢
  rw [e0, e1, e2, e3, e4, e5, e 6 (by omega)]
  exact p
theorem CPl.cg {cn : Nat} {st : List Nat} (c : CPl h t M cn st) (e : pEq M M') : CPl h t M' cn st := by
  obtain ⟨e0, e1, e2, e3, e4, e5⟩ := e.s
  unfold CPl CRow opn cc lk at c ⊢
  rw [e0, e1, e2, e3, e4, e5]
  exact c
end CGR
