/-! THE REFERENCE READS A PLAN -/
def inQp (a : Nat) : Prop := a = 197 ∨ a = 198 ∨ a = 205
def RFp (h g : TH) : Prop := Sm inQp h g ∧ (∀ k, k < 1760 → g.I 198 k = h.I 198 k) ∧ ∀ j, (j < 12 ∨ j = 16 ∨ j = 19 ∨ j = 20 ∨ 22 < j) → g.I 197 j = h.I 197 j
def RPm (h : TH) (T : Nat → Nat) (z : Nat) (N : Nat → List Nat) (n0 : Nat) (st : List Nat) (cn i : Nat) (M : Nat → Int32) : Prop := RT h T z i ∧ RMs h M ∧ NmR h 0 N n0 ∧ (h.I 198 0 = nI n0 ∧ n0 ≤ 12) ∧ h.I 197 18 = 0 ∧ h.I 197 21 = nI st.length ∧ h.I 197 22 = nI cn ∧ ∀ j o, st.reverse[j]? = some o → h.I 205 j = nI o
section RPL
variable {h : TH} {T : Nat → Nat} {z : Nat} {N : Nat → List Nat} {n0 : Nat} {st : List Nat} {cn : Nat} {r : QS}
theorem RFp.refl : RFp h h := ⟨Sm.refl, fun _ _ => rfl, fun _ _ => rfl⟩
theorem RFp.trans {g g' : TH} (p : RFp h g) (q : RFp g g') : RFp h g' := ⟨p.1.trans q.1, fun k hk => by rw [q.2.1 k hk, p.2.1 k hk], fun j hj => by rw [q.2.2 j hj, p.2.2 j hj]⟩
theorem RFp_tok {g : TH} (sm : Sm (fun b => b = 197) h g) (f : ∀ j, j < 12 ∨ 15 < j → g.I 197 j = h.I 197 j) : RFp h g := ⟨sm.mono (fun a ha => Or.inl ha), fun k _ => by rw [sm.I (by decide)], fun j hj => f j (by omega)⟩
theorem RFp_ft {g : TH} (sm : Sm (fun b => b = 197) h g) (f : ∀ j, j ≠ 17 → j ≠ 18 → g.I 197 j = h.I 197 j) : RFp h g := ⟨sm.mono (fun a ha => Or.inl ha), fun k _ => by rw [sm.I (by decide)], fun j hj => f j (by omega) (by omega)⟩
theorem RFp_198 {k : Nat} {v : Int32} (hk : 1760 ≤ k) : RFp h (h.sI 198 k v) := ⟨Sm.sI (S := inQp) Sm.refl (Or.inr (Or.inl rfl)) _, fun j hj => I_nk (by omega), fun j _ => I_ne (by decide)⟩
theorem RPm_tok {g : TH} {i i' : Nat} {M : Nat → Int32} (c : RPm h T z N n0 st cn i M) (sm : Sm (fun b => b = 197) h g) (f : ∀ j, j < 12 ∨ 15 < j → g.I 197 j = h.I 197 j) (rt : RT g T z i') : RPm g T z N n0 st cn i' M := by
  obtain ⟨_, c2, c3, c4, c5, c6, c7, c8⟩ := c
  exact ⟨rt, RMs_tok c2 sm, NmR_sm c3 (to78 sm), ⟨by rw [sm.I (by decide)]; exact c4.1, c4.2⟩, by rw [f 18 (by decide)]; exact c5, by rw [f 21 (by decide)]; exact c6, by rw [f 22 (by decide)]; exact c7, fun j o ho => by rw [sm.I (by decide)]; exact c8 j o ho⟩
theorem RPm_wr {i p q : Nat} {v : Int32} {M : Nat → Int32} (c : RPm h T z N n0 st cn i M) (hp : p = 1760 + q) : RPm (h.sI 198 p v) T z N n0 st cn i (upd M q v) := by
  obtain ⟨c1, c2, c3, c4, c5, c6, c7, c8⟩ := c
  exact ⟨RT_198 c1, RMs_upd c2 hp, fun j hj => c3 j hj, ⟨by rw [I_nk (by omega)]; exact c4.1, c4.2⟩, by rw [I_ne (by decide)]; exact c5, by rw [I_ne (by decide)]; exact c6, by rw [I_ne (by decide)]; exact c7, fun j o ho => by rw [I_ne (by decide)]; exact c8 j o ho⟩
theorem S243 {C : Int32 → TH → Prop} {p q : Nat} (c : RPm h T z N n0 st cn r.1 r.2.1) (hp : p = 1760 + q) (hq : q < 440) (k1 : ∀ g r', qName T z N n0 q r = .inr r' → r'.2.2 = r.2.2 → RFp h g → RPm g T z N n0 st cn r'.1 r'.2.1 → C 1 g) (k0 : ∀ g e, qName T z N n0 q r = .inl e → RFp h g → RFt g e → C 0 g) : W243 (nI p) h C := by
  have c' := c
  obtain ⟨c1, c2, c3, c4, c5, c6, c7, c8⟩ := c
  unfold W243
  rw [show ix 0 = 0 from rfl, c4.1]
  refine S236 (b := 0) (N := N) (n := n0) c1 c5 c4.2 (by omega) c3 (fun a1 a2 => ?_) (fun a1 a2 g s1 f p1 => ?_) (fun a1 g s1 f p1 => ?_)
  · rw [if_pos (nI_ne1 (by have := c4.2; omega)), ix_n (by omega)]
    refine ⟨inb_n (by omega), ?_⟩
    have cw := RPm_wr (v := nI (fnd N n0 (wd T z r.1))) c' hp
    refine S221n cw.1 (fun g s1 f r1 => k1 g (r.1 + 1, upd r.2.1 q (nI (fnd N n0 (wd T z r.1))), r.2.2) (by unfold qName; rw [if_pos a1, if_pos a2]) rfl ((RFp_198 (by omega)).trans (RFp_tok s1 f)) (RPm_tok cw s1 f r1))
  · rw [if_neg (fun n => n rfl)]
    exact k0 g _ (by unfold qName; rw [if_pos a1, if_neg a2]) (RFp_ft s1 f) p1
  · rw [if_neg (fun n => n rfl)]
    exact k0 g _ (by unfold qName; rw [if_neg a1]) (RFp_ft s1 f) p1
theorem S228q {C : Int32 → TH → Prop} {p q lo hi : Nat} (c : RPm h T z N n0 st cn r.1 r.2.1) (hp : p = 1760 + q) (hq : q < 440) (hlo : lo < 10000) (hhi : hi < 10000) (k1 : ∀ g r', qNum T z q lo hi r = .inr r' → r'.2.2 = r.2.2 → RFp h g → RPm g T z N n0 st cn r'.1 r'.2.1 → C 1 g) (k0 : ∀ g e, qNum T z q lo hi r = .inl e → RFp h g → RFt g e → C 0 g) : W228 (nI p) (nI lo) (nI hi) h C := by
  have c' := c
  obtain ⟨c1, c2, c3, c4, c5, c6, c7, c8⟩ := c
  unfold W228
  by_cases u : kd T z r.1 = 32
  · have hv := nv_lt u
    have e15 : h.I 197 15 = nI (nv T z r.1) := c1.2.2.2.2.1 u
    rw [if_pos ((RT_12 c1).1.mpr u), e15]
    by_cases w : nv T z r.1 < lo
    · rw [if_pos (nI_lt w (by omega))]
      exact S224 (f := 4) c1 c5 (fun g s f p1 => ⟨Or.inl rfl, k0 g _ (by unfold qNum; rw [if_pos u, if_neg (by omega)]) (RFp_ft s f) p1⟩)
    · rw [if_neg (nI_nlt (by omega) (by omega))]
      by_cases w2 : nv T z r.1 ≤ hi
      · rw [if_pos (nI_le w2 (by omega)), ix_n (by omega)]
        refine ⟨inb_n (by omega), ?_⟩
        have cw := RPm_wr (v := nI (nv T z r.1)) c' hp
        refine S221n cw.1 (fun g s1 f r1 => k1 g (r.1 + 1, upd r.2.1 q (nI (nv T z r.1)), r.2.2) (by unfold qNum; rw [if_pos u, if_pos ⟨by omega, w2⟩]) rfl ((RFp_198 (by omega)).trans (RFp_tok s1 f)) (RPm_tok cw s1 f r1))
      · rw [if_neg (nI_ge (by omega) (by omega))]
        exact S224 (f := 4) c1 c5 (fun g s f p1 => ⟨Or.inl rfl, k0 g _ (by unfold qNum; rw [if_pos u, if_neg (by omega)]) (RFp_ft s f) p1⟩)
  · rw [if_neg (fun e => u ((RT_12 c1).1.mp e))]
    exact S224 (f := 2) c1 c5 (fun g s f p1 => ⟨Or.inl rfl, k0 g _ (by unfold qNum; rw [if_neg u]) (RFp_ft s f) p1⟩)
theorem S244 {C : Int32 → TH → Prop} {p k : Nat} (c : RPm h T z N n0 st cn r.1 r.2.1) (hp : p = 1760 + (124 + 5 * k)) (hk : k ≤ 60) (k1 : ∀ g r', qTest T z N n0 k r = .inr r' → r'.2.2 = r.2.2 → RFp h g → RPm g T z N n0 st cn r'.1 r'.2.1 → C 1 g) (k0 : ∀ g e, qTest T z N n0 k r = .inl e → RFp h g → RFt g e → C 0 g) : W244 (nI p) h C := by
  unfold W244
  have bad : ¬ (17 ≤ kd T z r.1 ∧ kd T z r.1 ≤ 19) → W224 2 h (fun v2 h3 => (v2 = 0 ∨ v2 = 1) ∧ C v2 h3) := fun w =>
    S224 (f := 2) c.1 c.2.2.2.2.1 (fun g s f p1 => ⟨Or.inl rfl, k0 g _ (by unfold qTest; rw [if_neg w]) (RFp_ft s f) p1⟩)
  refine S223 c.1 (fun u => ?_) (fun u => ?_)
  · by_cases w : kd T z r.1 < 17
    · rw [if_pos (show nI (kd T z r.1) < 17 from nI_lt (b := 17) w (by omega))]
      exact bad (by omega)
    · rw [if_neg (show ¬ nI (kd T z r.1) < 17 from nI_nlt (b := 17) (by omega) (by omega))]
      by_cases w2 : kd T z r.1 ≤ 19
      · rw [if_pos (show nI (kd T z r.1) ≤ 19 from nI_le (b := 19) w2 (by omega)), show (1600 : Int32) = nI 1600 from rfl, nI_add, ix_n (by omega)]
        refine ⟨inb_n (by omega), ?_⟩
        have cw := RPm_wr (v := nI (1600 + kd T z r.1)) c hp
        refine S221n cw.1 (fun g s1 f r1 => ?_)
        have cg := RPm_tok cw s1 f r1
        have rf : RFp h g := (RFp_198 (by omega)).trans (RFp_tok s1 f)
        by_cases w9 : kd T z r.1 = 19
        · rw [if_neg (fun n => n (by rw [w9]; rfl)), nI_1]
          have eT : qTest T z N n0 k r = qNum T z (124 + 5 * k + 1) 0 12 (r.1 + 1, upd r.2.1 (124 + 5 * k) (nI (1600 + kd T z r.1)), r.2.2) := by unfold qTest; rw [if_pos (by omega), if_pos w9]
          exact S228q (r := (r.1 + 1, upd r.2.1 (124 + 5 * k) (nI (1600 + kd T z r.1)), r.2.2)) (q := 124 + 5 * k + 1) (lo := 0) (hi := 12) cg (by omega) (by omega) (by omega) (by omega) (fun g2 r' e e2 rf2 c2 => ⟨Or.inr rfl, k1 g2 r' (eT.trans e) e2 (rf.trans rf2) c2⟩) (fun g2 e e1 rf2 p2 => ⟨Or.inl rfl, k0 g2 e (eT.trans e1) (rf.trans rf2) p2⟩)
        · rw [if_pos (show ¬ nI (kd T z r.1) = 19 from fun n => w9 ((nI_eq (b := 19) (by omega) (by omega)).mp n)), nI_1]
          have eT : qTest T z N n0 k r = qName T z N n0 (124 + 5 * k + 1) (r.1 + 1, upd r.2.1 (124 + 5 * k) (nI (1600 + kd T z r.1)), r.2.2) := by unfold qTest; rw [if_pos (by omega), if_neg w9]
          exact S243 (r := (r.1 + 1, upd r.2.1 (124 + 5 * k) (nI (1600 + kd T z r.1)), r.2.2)) (q := 124 + 5 * k + 1) cg (by omega) (by omega) (fun g2 r' e e2 rf2 c2 => ⟨Or.inr rfl, k1 g2 r' (eT.trans e) e2 (rf.trans rf2) c2⟩) (fun g2 e e1 rf2 p2 => ⟨Or.inl rfl, k0 g2 e (eT.trans e1) (rf.trans rf2) p2⟩)
      · rw [if_neg (show ¬ nI (kd T z r.1) ≤ 19 from nI_ge (a := 19) (by omega) (by omega))]
        exact bad (by omega)
  · rw [if_pos (by decide)]
    exact bad (by omega)
end RPL
