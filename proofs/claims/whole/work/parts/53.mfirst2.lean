section FN
variable {h : TH} {M : Nat → Int32} {big : Nat → Nat} {goal : Int32} {T : Nat → Nat}
/-- the rows of FIRST tell the codes P -/
def FsRow (h : TH) (len : Nat) (P : Nat → Nat) : Prop := ∀ j, j < len → h.I 209 j = nI (mvK (P j)) ∧ h.I 210 j = nI (mvDsh (P j)) ∧ h.I 211 j = mvO (P j)
theorem S293b {C : Int32 → TH → Prop} {len : Nat} {P U : Nat → Nat} (hw : Wf M) (hM : MA h M) (hf : MFit h M big) (hT : TG h M big 4096 goal T) (hF : FixT M big 4096 T) (h0 : ∀ u, u < 2 ^ aN M → sb goal (nI u) → T u = 0) (hlt : T 0 < 2000000000) (hp : FP M big goal len P U) (hlen : len ≤ 4096) (kk : ∀ g, Sm inFs h g → (∀ i, i ≠ 30 → g.I 197 i = h.I 197 i) → g.I 197 30 = nI len → FsRow g len P → C (nI len) (g.sI 197 2 0)) : B293_43 goal 0 (h.sI 197 30 0) C := by
  have h12 := hw.n12
  have p12 : 2 ^ aN M ≤ 2 ^ 12 := Nat.pow_le_pow_right (by omega) h12
  have p0 : 0 < 2 ^ aN M := Nat.pos_of_ne_zero (by simp)
  unfold B293_43
  refine LFP.ix (fun m q => ∃ j, m = len - j ∧ j ≤ len ∧ U j < 2 ^ aN M ∧ T (U j) < 2000000000 ∧ q.1 = nI (U j) ∧ Sm inFs h q.2 ∧ (∀ i, i ≠ 30 → q.2.I 197 i = h.I 197 i) ∧ q.2.I 197 30 = nI j ∧ FsRow q.2 j P) ?_ (k := len) ⟨0, rfl, Nat.zero_le _, by rw [hp.1]; exact p0, by rw [hp.1]; exact hlt, by rw [hp.1]; rfl, Sm.refl.sI (Or.inl rfl) _, fun i hi => I_nk hi, I_eq, fun j hj => absurd hj (Nat.not_lt_zero _)⟩
  rintro X m ⟨x2, g⟩ ⟨j, e1, e2, e3, e4, e5, e6, e7, e8, e9⟩ ih
  (try dsimp only at e5 e6 e7 e8 e9)
  subst e5
  unfold F293_43
  (try dsimp only)
  by_cases e : goal &&& (nI (U j) ^^^ (-1)) = 0
  · rw [if_pos e]
    have ej : j = len := by
      rcases Nat.lt_or_ge j len with q | q
      · exact absurd (bt_sub.mp e) (hp.2.1 j q).1
      · omega
    subst ej
    unfold W206
    rw [e8]
    exact kk g e6 e7 e8 e9
  · rw [if_neg e]
    have ns : ¬ sb goal (nI (U j)) := fun q => e (bt_sub.mpr q)
    have jl : j < len := by
      rcases Nat.lt_or_ge j len with q | q
      · exact q
      · rw [show j = len by omega] at ns; exact absurd hp.2.2 ns
    obtain ⟨_, i, m', f1, f2, f3⟩ := hp.2.1 j jl
    have hTg := hT.sm e6 (by unfold inFs; omega)
    have hpos : 0 < T (U j) := by
      rcases Nat.eq_zero_or_pos (T (U j)) with q | q
      · exfalso
        obtain ⟨n, hn⟩ := hT.2 _ e3 e4
        exact ns (Bk_pos hw (Or.inr rfl) e3 hn q)
      · exact q
    refine S292 hw (hM.sm e6 (by unfold inFs; omega)) (hf.fr e6 (by unfold inFs; omega) (e7 25 (by omega))) hTg hF h0 e3 e4 hpos e8 (by omega) (fun g' i' m'' z1 z2 => ?_)
    have em := FG_one z1 f1
    subst em
    have hmem := idx_mem f1.1
    obtain ⟨o1, o2, o3⟩ := mvs_ok hw (Or.inr rfl) (St_nI e3) hmem
    obtain ⟨v, hv, ev⟩ := o1
    have ixv : ix m''.1 = v := by rw [ev, ix_n (by omega)]
    have gt := (gd_T hTg hF h0 e3 e4 hv ixv).mp f1.2.1
    obtain ⟨y1, y2, y3, y4, y5, y6, y7⟩ := z2
    refine ih (len - (j + 1)) _ (by omega) ⟨j + 1, rfl, by omega, by rw [f2, ixv]; exact hv, by rw [f2, ixv]; exact gt.1, ?_, e6.trans y1, fun i hi => (y2 i hi).trans (e7 i hi), y3, fun q hq => ?_⟩
    · (try dsimp only)
      rw [f2, ixv]
      exact ev
    · (try dsimp only)
      by_cases eq : q = j
      · subst eq
        rw [f3]
        exact ⟨y5, y6, y7⟩
      · obtain ⟨w1, w2, w3⟩ := y4 q eq
        rw [w1, w2, w3]
        exact e9 q (by omega)
end FN
