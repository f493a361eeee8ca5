/-! THE REFERENCE READS A DISH -/
def inRm (a : Nat) : Prop := a = 197 ∨ a = 198 ∨ a = 199
def RF (h g : TH) : Prop := Sm inRm h g ∧ (∀ k, k < 1760 → g.I 198 k = h.I 198 k) ∧ (∀ k, k < 48 → g.J 199 k = h.J 199 k) ∧ ∀ j, (j < 12 ∨ 18 < j ∨ j = 16) → g.I 197 j = h.I 197 j
def NmR (h : TH) (b : Nat) (N : Nat → List Nat) (n : Nat) : Prop := ∀ j, j < n → h.J 199 (b + j) = lN (cod 256 0 (N j)) ∧ NmOk (N j)
def RMs (h : TH) (M : Nat → Int32) : Prop := ∀ k, k < 440 → h.I 198 (1760 + k) = M k
def RD (h : TH) (T : Nat → Nat) (z : Nat) (M0 : Nat → Int32) (N1 : Nat → List Nat) (d : Nat) (s : PS) : Prop := RT h T z s.1 ∧ RMs h s.2.1 ∧ NmR h 48 N1 (d + 1) ∧ h.I 197 18 = 0 ∧ MI M0 N1 d s
section RDI
variable {h : TH} {T : Nat → Nat} {z d : Nat} {M0 : Nat → Int32} {N1 : Nat → List Nat} {s : PS}
theorem RF.refl : RF h h := ⟨Sm.refl, fun _ _ => rfl, fun _ _ => rfl, fun _ _ => rfl⟩
theorem RF.trans {g g' : TH} (p : RF h g) (q : RF g g') : RF h g' := ⟨p.1.trans q.1, fun k hk => by rw [q.2.1 k hk, p.2.1 k hk], fun k hk => by rw [q.2.2.1 k hk, p.2.2.1 k hk], fun j hj => by rw [q.2.2.2 j hj, p.2.2.2 j hj]⟩
theorem RF_197 {g : TH} (sm : Sm (fun b => b = 197) h g) (f : ∀ j, (j < 12 ∨ 18 < j ∨ j = 16) → g.I 197 j = h.I 197 j) : RF h g :=
  ⟨sm.mono (fun a ha => Or.inl ha), fun k _ => by rw [sm.I (by decide)], fun k _ => by rw [sm.J (by decide)], f⟩
theorem RF_tok {g : TH} (sm : Sm (fun b => b = 197) h g) (f : ∀ j, j < 12 ∨ 15 < j → g.I 197 j = h.I 197 j) : RF h g := RF_197 sm (fun j hj => f j (by omega))
theorem RF_ft {g : TH} (sm : Sm (fun b => b = 197) h g) (f : ∀ j, j ≠ 17 → j ≠ 18 → g.I 197 j = h.I 197 j) : RF h g := RF_197 sm (fun j hj => f j (by omega) (by omega))
theorem RF_198 {k : Nat} {v : Int32} (hk : 1760 ≤ k) : RF h (h.sI 198 k v) :=
  ⟨Sm.sI (S := inRm) Sm.refl (Or.inr (Or.inl rfl)) _, fun j hj => I_nk (by omega), fun _ _ => rfl, fun j _ => I_ne (by decide)⟩
theorem RMs_tok {g : TH} {M : Nat → Int32} (r : RMs h M) (sm : Sm (fun b => b = 197) h g) : RMs g M := fun k hk => by rw [sm.I (by decide)]; exact r k hk
theorem RMs_upd {M : Nat → Int32} {k p : Nat} {v : Int32} (r : RMs h M) (hp : p = 1760 + k) : RMs (h.sI 198 p v) (upd M k v) := fun j hj => by
  rw [I_at]
  by_cases q : j = k
  · rw [if_pos (by omega), q]; exact pk_us.symm
  · rw [if_neg (by omega), pk_un q]; exact r j hj
theorem NmR_sm {g : TH} {b n : Nat} {N : Nat → List Nat} (r : NmR h b N n) (sm : Sm (fun b => b = 197 ∨ b = 198) h g) : NmR g b N n := fun j hj => by rw [sm.J (by omega)]; exact r j hj
theorem to78 {g : TH} (sm : Sm (fun b => b = 197) h g) : Sm (fun b => b = 197 ∨ b = 198) h g := sm.mono (fun _ ha => Or.inl ha)
theorem RT_198 {i k : Nat} {v : Int32} (c : RT h T z i) : RT (h.sI 198 k v) T z i := c.frame (fun j _ _ => I_ne (by decide)) (by funext j; rw [I_ne (by decide)]) (I_ne (by decide))
/-- a token on -/
theorem RD_tok {g : TH} {s' : PS} (c : RD h T z M0 N1 d s) (sm : Sm (fun b => b = 197) h g) (f : ∀ j, j < 12 ∨ 15 < j → g.I 197 j = h.I 197 j) (rt : RT g T z s'.1) (e : s'.2 = s.2) : RD g T z M0 N1 d s' :=
  ⟨rt, by rw [e]; exact RMs_tok c.2.1 sm, NmR_sm c.2.2.1 (to78 sm), by rw [f 18 (by decide)]; exact c.2.2.2.1, by have m := c.2.2.2.2; exact ⟨by rw [e]; exact m.1, by rw [e]; exact m.2.1, by rw [e]; exact m.2.2⟩⟩
theorem S228n {C : Int32 → TH → Prop} {p f lo hi : Nat} (c : RD h T z M0 N1 d s) (hd : d < 12) (hp : p = 1760 + (16 + 8 * d + f)) (hc : (f = 0 ∧ lo = 0 ∧ hi = 99) ∨ (f = 1 ∧ lo = 1 ∧ hi = 9) ∨ (f = 2 ∧ lo = 1 ∧ hi = 99) ∨ (f = 3 ∧ lo = 0 ∧ hi = 15)) (k1 : ∀ g s', pNum T z (16 + 8 * d + f) lo hi s = .inr s' → RF h g → RD g T z M0 N1 d s' → C 1 g) (k0 : ∀ g e, pNum T z (16 + 8 * d + f) lo hi s = .inl e → RF h g → RFt g e → C 0 g) : W228 (nI p) (nI lo) (nI hi) h C := by
  refine S228 (p := p) c.1 c.2.2.2.1 (by omega) (by omega) (by omega) (fun q w1 w2 g sm e8 f8 rt => ?_) (fun q w g sm f8 p8 => ?_) (fun q g sm f8 p8 => ?_)
  · have e1 : pNum T z (16 + 8 * d + f) lo hi s = .inr (s.1 + 1, upd s.2.1 (16 + 8 * d + f) (nI (nv T z s.1)), s.2.2) := by unfold pNum; rw [if_pos q, if_pos ⟨w1, w2⟩]
    refine k1 g _ e1 ⟨sm.mono (fun a ha => ha.elim Or.inl (fun w => Or.inr (Or.inl w))), fun k hk => by rw [e8, I_nk (by omega)], fun k hk => by rw [sm.J (by decide)], fun j hj => f8 j (by omega)⟩ ⟨rt, fun k hk => ?_, NmR_sm c.2.2.1 sm, by rw [f8 18 (by decide)]; exact c.2.2.2.1, (pNum_MI e1 c.2.2.2.2 hc).1⟩
    rw [e8]; exact RMs_upd c.2.1 hp k hk
  · exact k0 g _ (by unfold pNum; rw [if_pos q, if_neg w]) (RF_ft sm f8) p8
  · exact k0 g _ (by unfold pNum; rw [if_neg q]) (RF_ft sm f8) p8
def loJ (j : Nat) : Nat := if j = 6 then 0 else 1
def hiJ (j : Nat) : Nat := if j = 4 then 9 else if j = 5 then 99 else 15
def pOpts (T : Nat → Nat) (z d : Nat) : Nat → PS → PR
  | 4, s => thn (pOpt T z 4 (16 + 8 * d + 1) 1 9 s) (fun s => thn (pOpt T z 5 (16 + 8 * d + 2) 1 99 s) (pOpt T z 6 (16 + 8 * d + 3) 0 15))
  | 5, s => thn (pOpt T z 5 (16 + 8 * d + 2) 1 99 s) (pOpt T z 6 (16 + 8 * d + 3) 0 15)
  | 6, s => pOpt T z 6 (16 + 8 * d + 3) 0 15 s
  | _, s => .inr s
theorem pOpts_s {j : Nat} (h4 : 4 ≤ j) (h6 : j < 7) : pOpts T z d j s = thn (pOpt T z j (16 + 8 * d + (j - 3)) (loJ j) (hiJ j) s) (pOpts T z d (j + 1)) := by
  rcases (show j = 4 ∨ j = 5 ∨ j = 6 by omega) with rfl | rfl | rfl
  · rfl
  · rfl
  · show pOpt T z 6 (16 + 8 * d + 3) 0 15 s = thn (pOpt T z 6 (16 + 8 * d + 3) 0 15 s) (fun s => .inr s)
    cases pOpt T z 6 (16 + 8 * d + 3) 0 15 s <;> rfl
/-- the NEEDS, the kinds: behind them the DISH stands -/
theorem S237k {C : Int32 → TH → Prop} (hd : d < 12) (hd0 : M0 0 = nI d) (c : RD h T z M0 N1 d s) (k1 : ∀ g s', pKinds T z d s = .inr s' → RF h g → RT g T z s'.1 → RMs g (upd s'.2.1 0 (nI (d + 1))) → NmR g 48 N1 (d + 1) → g.I 197 18 = 0 → MI M0 N1 d s' → C 1 g) (k0 : ∀ g e, pKinds T z d s = .inl e → RF h g → RFt g e → C 0 g) : B237_324 (nI (1776 + 8 * d)) h C := by
  have last : ∀ (g : TH) (s1 : PS), pKinds T z d s = .inr s1 → RF h g → RD g T z M0 N1 d s1 → B237_391 g C := by
    intro g s1 e1 rf c1
    obtain ⟨a1, a2, a3, a4, a5⟩ := c1
    unfold B237_391
    have e0 : g.I 198 1760 = nI d := by rw [a2 0 (by omega), a5.2.1 0 (by omega)]; exact hd0
    rw [show ix 1760 = 1760 from rfl, e0, nI_1]
    exact k1 _ s1 e1 (rf.trans (RF_198 (by omega))) (RT_198 a1) (RMs_upd a2 rfl) (fun j hj => a3 j hj) (by rw [I_ne (by decide)]; exact a4) a5
  have once : ∀ (g : TH) (s1 : PS), pPoured T z d s = .inr s1 → RF h g → RD g T z M0 N1 d s1 → B237_366 (nI (1776 + 8 * d)) g C := by
    intro g s1 e1 rf c1
    have eK : pKinds T z d s = pOnce T z d s1 := by unfold pKinds; exact thn_i e1
    unfold B237_366
    refine S223 c1.1 (fun q => ?_) (fun q => ?_)
    · by_cases w : kd T z s1.1 = 9
      · rw [if_neg (fun n => n (by rw [w]; rfl)), show (6 : Int32) = nI 6 from rfl, nI_add, ix_n (by omega)]
        refine ⟨inb_n (by omega), ?_⟩
        have e2 : pOnce T z d s1 = .inr (s1.1 + 1, upd s1.2.1 (16 + 8 * d + 6) 1, s1.2.2) := by unfold pOnce; rw [if_pos w]
        have mi := (pKinds_MI (s' := (s1.1 + 1, upd s1.2.1 (16 + 8 * d + 6) 1, s1.2.2)) (s := s1) (by unfold pKinds; rw [thn_i (show pPoured T z d s1 = .inr s1 by unfold pPoured; rw [if_neg (show ¬ kd T z s1.1 = 8 by omega)])]; exact e2) c1.2.2.2.2).1
        refine S221n (RT_198 c1.1) (fun g2 s2 f2 r2 => last g2 _ (by rw [eK]; exact e2) (rf.trans ((RF_198 (by omega)).trans (RF_tok s2 f2))) ⟨r2, RMs_tok (RMs_upd (k := 16 + 8 * d + 6) c1.2.1 (by omega)) s2, NmR_sm (h := g.sI 198 (1776 + 8 * d + 6) 1) (fun j hj => c1.2.2.1 j hj) (to78 s2), by rw [f2 18 (by decide), I_ne (by decide)]; exact c1.2.2.2.1, mi⟩)
      · rw [if_pos (show ¬ nI (kd T z s1.1) = 9 from fun e => w ((nI_eq (b := 9) (by omega) (by omega)).mp e))]
        exact last g s1 (by rw [eK]; unfold pOnce; rw [if_neg w]) rf c1
    · rw [if_pos (by decide)]
      exact last g s1 (by rw [eK]; unfold pOnce; rw [if_neg (by omega)]) rf c1
  unfold B237_324
  refine S223 c.1 (fun q => ?_) (fun q => ?_)
  · by_cases w : kd T z s.1 = 8
    · have e4 : h.I 198 (1776 + 8 * d + 4) = s.2.1 (16 + 8 * d + 4) := by rw [show 1776 + 8 * d + 4 = 1760 + (16 + 8 * d + 4) by omega]; exact c.2.1 _ (by omega)
      rw [if_neg (fun n => n (by rw [w]; rfl)), show (4 : Int32) = nI 4 from rfl, nI_add, ix_n (by omega), e4, show (5 : Int32) = nI 5 from rfl, nI_add, ix_n (by omega)]
      refine ⟨inb_n (by omega), ?_⟩
      by_cases u : s.2.1 (16 + 8 * d + 4) = 0
      · rw [if_neg (fun n => n u)]
        exact S224 (f := 7) c.1 c.2.2.2.1 (fun g s1 f p => ⟨Or.inl rfl, k0 g _ (by unfold pKinds; exact thn_l (by unfold pPoured; rw [if_pos w, if_pos u])) (RF_ft s1 f) p⟩)
      · rw [if_pos u]
        refine ⟨inb_n (by omega), ?_⟩
        have e2 : pPoured T z d s = .inr (s.1 + 1, upd s.2.1 (16 + 8 * d + 5) 1, s.2.2) := by unfold pPoured; rw [if_pos w, if_neg u]
        have mi : MI M0 N1 d (s.1 + 1, upd s.2.1 (16 + 8 * d + 5) 1, s.2.2) := by
          have m := c.2.2.2.2
          have eN : s.2.2 = N1 := m.2.2
          obtain ⟨i, M, N⟩ := s
          have eN' : N = N1 := eN
          rw [eN'] at m ⊢
          exact MI_upd m (f := 5) (by omega) (DF_upd m.1 (Or.inr (Or.inr (Or.inr (Or.inr (Or.inr (Or.inl ⟨rfl, rfl, u⟩)))))))
        refine S221n (RT_198 c.1) (fun g2 s2 f2 r2 => once g2 _ e2 ((RF_198 (by omega)).trans (RF_tok s2 f2)) ⟨r2, RMs_tok (RMs_upd (k := 16 + 8 * d + 5) c.2.1 (by omega)) s2, NmR_sm (h := h.sI 198 (1776 + 8 * d + 5) 1) (fun j hj => c.2.2.1 j hj) (to78 s2), by rw [f2 18 (by decide), I_ne (by decide)]; exact c.2.2.2.1, mi⟩)
    · rw [if_pos (show ¬ nI (kd T z s.1) = 8 from fun e => w ((nI_eq (b := 8) (by omega) (by omega)).mp e))]
      exact once h s (by unfold pPoured; rw [if_neg w]) RF.refl c
  · rw [if_pos (by decide)]
    exact once h s (by unfold pPoured; rw [if_neg (by omega)]) RF.refl c
end RDI
