/-! COOKING: one act. what it comes to: STANDING, TRUSTED, its WORK, the draw, how many BURNT; none: MISSED -/
abbrev AR := Option (Int32 × Int32 × Int32 × Int32 × Int32)
def actR (M : Nat → Int32) (dr x bu S U : Int32) (w a b : Nat) : AR :=
  if w = 10 then (if mkC M (bigK M 0) S a then some (mkS M dr x S a, lvS M U a, wP M a, mkX M dr x a, mkB M dr x bu a) else none)
  else if w = 11 then (if poC M (bigK M 0) S (S &&& (U ^^^ (-1))) a b then some (poS M dr x S a b, lvP M U a b, aW M a, brX M dr x a, arB M dr x bu a) else none)
  else if w = 13 then (if bt (S &&& (U ^^^ (-1))) a = true then some (nob S a, nob U a, 0, x, bu) else none)
  else if w = 14 then (if bt S a = false ∧ fitB M (bigK M 0) (S ||| ishl 1 (nI a)) = true then some (S ||| ishl 1 (nI a), U ||| ishl 1 (nI a), 0, x, bu) else none)
  else (if bt U a = true ∧ aNe M a &&& (S ^^^ (-1)) = 0 then some (nob S a, nob U a, 0, x, bu) else none)
abbrev isAct (w : Nat) : Prop := w = 10 ∨ w = 11 ∨ w = 13 ∨ w = 14 ∨ w = 15
section ACT
variable {h : TH} {M : Nat → Int32} {S U W dr x bu : Int32} {t tm k : Nat} {A : Nat → Nat} {w a b pcn : Nat}
theorem S98 {C : Int32 → TH → Prop} {tp : Nat} (hw : Wf M) (hc : CM h tm M) (hdis : ∀ a, tm ≤ a → a < tm + 15 → a ≠ t ∧ a ≠ t + 1) (hp : pcn < 30) (e9 : h.I tp 9 = nI pcn) (e1 : h.I (tp + 1) pcn = nI w) (e2 : h.I (tp + 2) pcn = nI a) (e3 : w = 11 → h.I (tp + 3) pcn = nI b) (hwa : isAct w) (ha : a < aN M) (hb : w = 11 → b < aN M) (c : HC h t S U W k bu dr x) (sS : St (aN M) S) (hs : sncS h t M S U A k) (kt : ∀ r, actR M dr x bu S U w a b = some r → ∀ g, HCo h g t → HC g t r.1 r.2.1 (W + r.2.2.1) k r.2.2.2.2 dr r.2.2.2.1 → snc g t M r.1 r.2.1 S A k → C 1 g) (kf : actR M dr x bu S U w a b = none → C 0 h) : W98 tp tm t h C := by
  have h12 := hw.n12
  unfold W98
  rw [e9, ix_n (by omega), e1, e2]
  refine ⟨inb_n hp, inb_n hp, ?_⟩
  have w0 : W + 0 = W := Int32.add_zero W
  rcases hwa with rfl | rfl | rfl | rfl | rfl
  · rw [if_pos (show nI 10 = 10 from rfl)]
    refine S18 hw hc hdis ha c sS hs (fun q g co cg sn => ⟨Or.inr rfl, ?_⟩) (fun q => ⟨Or.inl rfl, ?_⟩)
    · exact kt (mkS M dr x S a, lvS M U a, wP M a, mkX M dr x a, mkB M dr x bu a) (by unfold actR; rw [if_pos rfl, if_pos q]) g co cg sn
    · exact kf (by unfold actR; rw [if_pos rfl, if_neg q])
  · rw [if_neg (show ¬ nI 11 = 10 by decide), if_pos (show nI 11 = 11 from rfl), e3 rfl]
    refine ⟨inb_n hp, ?_⟩
    refine S19 hw hc hdis ha (hb rfl) c sS hs (fun q g co cg sn => ⟨Or.inr rfl, ?_⟩) (fun q => ⟨Or.inl rfl, ?_⟩)
    · exact kt (poS M dr x S a b, lvP M U a b, aW M a, brX M dr x a, arB M dr x bu a) (by unfold actR; rw [if_neg (by omega), if_pos rfl, if_pos q]) g co cg sn
    · exact kf (by unfold actR; rw [if_neg (by omega), if_pos rfl, if_neg q])
  · rw [if_neg (show ¬ nI 13 = 10 by decide), if_neg (show ¬ nI 13 = 11 by decide), if_neg (show ¬ nI 13 = 12 by decide), if_pos (show nI 13 = 13 from rfl)]
    refine S20 (M := M) h12 ha c hs (fun q g co cg sn => ⟨Or.inr rfl, ?_⟩) (fun q => ⟨Or.inl rfl, ?_⟩)
    · exact kt (nob S a, nob U a, 0, x, bu) (by unfold actR; rw [if_neg (by omega), if_neg (by omega), if_pos rfl, if_pos q]) g co (by rw [w0]; exact cg) sn
    · exact kf (by unfold actR; rw [if_neg (by omega), if_neg (by omega), if_pos rfl, if_neg (by rw [q]; decide)])
  · rw [if_neg (show ¬ nI 14 = 10 by decide), if_neg (show ¬ nI 14 = 11 by decide), if_neg (show ¬ nI 14 = 12 by decide), if_neg (show ¬ nI 14 = 13 by decide), if_pos (show nI 14 = 14 from rfl)]
    refine S21 hw hc ha c sS hs (fun q q2 g co cg sn => ⟨Or.inr rfl, ?_⟩) (fun q => ⟨Or.inl rfl, ?_⟩)
    · exact kt (S ||| ishl 1 (nI a), U ||| ishl 1 (nI a), 0, x, bu) (by unfold actR; rw [if_neg (by omega), if_neg (by omega), if_neg (by omega), if_pos rfl, if_pos ⟨q, q2⟩]) g co (by rw [w0]; exact cg) sn
    · exact kf (by unfold actR; rw [if_neg (by omega), if_neg (by omega), if_neg (by omega), if_pos rfl, if_neg q])
  · rw [if_neg (show ¬ nI 15 = 10 by decide), if_neg (show ¬ nI 15 = 11 by decide), if_neg (show ¬ nI 15 = 12 by decide), if_neg (show ¬ nI 15 = 13 by decide), if_neg (show ¬ nI 15 = 14 by decide)]
    refine S22 hw hc.r ha c hs (fun q q2 g co cg sn => ⟨Or.inr rfl, ?_⟩) (fun q => ⟨Or.inl rfl, ?_⟩)
    · exact kt (nob S a, nob U a, 0, x, bu) (by unfold actR; rw [if_neg (by omega), if_neg (by omega), if_neg (by omega), if_neg (by omega), if_pos ⟨q, q2⟩]) g co (by rw [w0]; exact cg) sn
    · exact kf (by unfold actR; rw [if_neg (by omega), if_neg (by omega), if_neg (by omega), if_neg (by omega), if_neg q])
end ACT
/-- the reference: one that may BURN -/
def RBo (h g : TH) : Prop := Sm (fun a => a = 197 ∨ a = 198 ∨ a = 206) h g ∧ (∀ j, j ≠ 25 → j ≠ 40 → j ≠ 41 → j ≠ 45 → g.I 197 j = h.I 197 j) ∧ ∀ j, j ≠ 2 → j ≠ 3 → (j < 112 ∨ 124 ≤ j) → g.I 198 j = h.I 198 j
def RX (h : TH) (W dr x bu : Int32) : Prop := h.I 197 41 = W ∧ h.I 197 48 = dr ∧ h.I 197 40 = x ∧ h.I 197 45 = bu
section RBU
variable {h : TH} {M : Nat → Int32} {S U W dr x bu : Int32} {d : Nat} {A : Nat → Nat}
theorem RBo.trans {g g' : TH} (p : RBo h g) (q : RBo g g') : RBo h g' := ⟨p.1.trans q.1, fun j a b c d => by rw [q.2.1 j a b c d, p.2.1 j a b c d], fun j a b c => by rw [q.2.2 j a b c, p.2.2 j a b c]⟩
theorem RAo.b {g : TH} (p : RAo h g) : RBo h g := ⟨p.1, fun j a _ _ _ => p.2.1 j a, p.2.2⟩
theorem RBo.ma {g : TH} (p : RBo h g) (hM : MA h M) : MA g M := fun k hk => by rw [p.2.2 k (by omega) (by omega) (by omega)]; exact hM k hk
theorem RX_a {g : TH} (p : RAo h g) (r : RX h W dr x bu) : RX g W dr x bu := ⟨by rw [p.2.1 41 (by decide)]; exact r.1, by rw [p.2.1 48 (by decide)]; exact r.2.1, by rw [p.2.1 40 (by decide)]; exact r.2.2.1, by rw [p.2.1 45 (by decide)]; exact r.2.2.2⟩
def buS (M : Nat → Int32) (dr x S : Int32) (d : Nat) : Int32 := if brn M dr x d then nob S d else S
theorem S313 {C : TH → Prop} (hw : Wf M) (hM : MA h M) (hd : d < aN M) (r : RX h W dr x bu) (e2 : h.I 198 2 = S) (k : ∀ g, RBo h g → RX g W dr (brX M dr x d) (arB M dr x bu d) → g.I 198 2 = buS M dr x S d → (∀ j, j ≠ 2 → g.I 198 j = h.I 198 j) → C g) : W313 (nI d) h C := by
  have h12 := hw.n12
  obtain ⟨r1, r2, r3, r4⟩ := r
  have alive : ∀ g : TH, ¬ brn M dr x d → RBo h g → RX g W dr (brX M dr x d) bu → g.I 198 = h.I 198 → (if ¬ (0 : Int32) = 0 then (C ((g.sI 197 45 ((g.I 197 45) + 1)).sI 198 (ix 2) (((g.sI 197 45 ((g.I 197 45) + 1)).I 198 (ix 2)) &&& ((ishl 1 (nI d)) ^^^ (-1))))) else (C g)) := by
    intro g nb rb rx e8
    rw [if_neg (fun n => n rfl)]
    refine k g rb ?_ (by rw [e8, e2]; unfold buS; rw [if_neg nb]) (fun j _ => by rw [e8])
    unfold arB; rw [if_neg nb]; exact rx
  unfold W313 W312
  rw [r2]
  by_cases q0 : dr = 0
  · rw [if_pos q0]
    exact alive h (fun w => w.1 q0) ⟨Sm.refl, fun _ _ _ _ _ => rfl, fun _ _ _ _ => rfl⟩ ⟨r1, r2, by rw [r3]; unfold brX; rw [if_neg (fun w => w.1 q0)], r4⟩ rfl
  · rw [if_neg q0]
    refine S251 d 3 hM rfl rfl (by omega) (by omega) ?_
    by_cases q1 : aBu M d = 0
    · have q1' : M (16 + 8 * d + 3) = 0 := q1
      rw [if_neg (fun n => n q1')]
      exact alive h (fun w => w.2.1 q1) ⟨Sm.refl, fun _ _ _ _ _ => rfl, fun _ _ _ _ => rfl⟩ ⟨r1, r2, by rw [r3]; unfold brX; rw [if_neg (fun w => w.2 q1)], r4⟩ rfl
    · have q1' : ¬ M (16 + 8 * d + 3) = 0 := q1
      rw [if_pos q1', r3]
      have eX : brX M dr x d = nxd x := by unfold brX; rw [if_pos ⟨q0, q1⟩]
      have hM1 : MA (h.sI 197 40 (nxd x)) M := fun j hj => by rw [I_ne (by decide)]; exact hM j hj
      have rb1 : RBo h (h.sI 197 40 (nxd x)) := ⟨Sm.sI (S := fun a => a = 197 ∨ a = 198 ∨ a = 206) Sm.refl (Or.inl rfl) _, fun j _ b _ _ => I_nk b, fun j _ _ _ => I_ne (by decide)⟩
      have rx1 : RX (h.sI 197 40 (nxd x)) W dr (brX M dr x d) bu := ⟨by rw [I_nk (by decide)]; exact r1, by rw [I_nk (by decide)]; exact r2, by rw [I_eq, eX], by rw [I_nk (by decide)]; exact r4⟩
      refine S251 d 3 hM1 rfl rfl (by omega) (by omega) ?_
      rw [I_eq]
      show if aBu M d ≤ irem (nxd x / 8) 16 then _ else _
      by_cases q2 : aBu M d ≤ irem (nxd x / 8) 16
      · rw [if_pos q2]
        exact alive _ (fun w => w.2.2 q2) rb1 rx1 (by funext j; rw [I_ne (by decide)])
      · rw [if_neg q2]
        have hb : brn M dr x d := ⟨q0, q1, q2⟩
        show if ¬ (1 : Int32) = 0 then _ else _
        rw [if_pos (by decide)]
        have e45 : (h.sI 197 40 (nxd x)).I 197 45 = bu := rx1.2.2.2
        have e2' : (h.sI 197 40 (nxd x)).I 198 2 = S := by rw [I_ne (by decide)]; exact e2
        change C (((h.sI 197 40 (nxd x)).sI 197 45 (((h.sI 197 40 (nxd x)).I 197 45) + 1)).sI 198 (ix 2) ((((h.sI 197 40 (nxd x)).sI 197 45 (((h.sI 197 40 (nxd x)).I 197 45) + 1)).I 198 (ix 2)) &&& ((ishl 1 (nI d)) ^^^ (-1))))
        have e8' : ∀ j, (h.sI 197 40 (nxd x)).I 198 j = h.I 198 j := fun j => I_ne (by decide)
        generalize h.sI 197 40 (nxd x) = G at rb1 rx1 e45 e2' e8' ⊢
        rw [show ix 2 = 2 from rfl, e45, I_ne (show (198 : Nat) ≠ 197 by decide), e2']
        refine k _ (rb1.trans ⟨Sm.sI (S := fun a => a = 197 ∨ a = 198 ∨ a = 206) (Sm.sI (S := fun a => a = 197 ∨ a = 198 ∨ a = 206) Sm.refl (Or.inl rfl) _) (Or.inr (Or.inl rfl)) _, fun j _ _ _ c => by rw [I_ne (by decide), I_nk c], fun j a _ _ => by rw [I_nk a, I_ne (by decide)]⟩) ⟨?_, ?_, ?_, ?_⟩ ?_ (fun j hj => by rw [I_nk hj, I_ne (by decide), e8'])
        · rw [I_ne (by decide), I_nk (by decide)]; exact rx1.1
        · rw [I_ne (by decide), I_nk (by decide)]; exact rx1.2.1
        · rw [I_ne (by decide), I_nk (by decide)]; exact rx1.2.2.1
        · rw [I_ne (by decide), I_eq]; unfold arB; rw [if_pos hb]
        · rw [I_eq]; unfold buS; rw [if_pos hb]; rfl
end RBU
