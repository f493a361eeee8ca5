/-! THE CLASS READS A STEP -/
def CPs (h : TH) (T : Nat → Nat) (z m a1 : Nat) (N : Nat → List Nat) (n0 : Nat) (s : QS) : Prop := CTT h T z m s.1 ∧ PI s.2.1 n0 s.2.2.1 s.2.2.2 ∧ h.I 32 1 = nI s.2.2.1 ∧ h.I 31 3 = nI s.2.2.2.length ∧ (∀ j o, s.2.2.2.reverse[j]? = some o → h.I 39 j = nI (cc s.2.1 s.2.2.1 o)) ∧ CPl h 32 s.2.1 s.2.2.1 s.2.2.2 ∧ okF h ∧ CMn h a1 N n0
section CP2
variable {h : TH} {T : Nat → Nat} {z m a1 : Nat} {N : Nat → List Nat} {n0 : Nat} {s : QS}
theorem S104 {C : Int32 → TH → Prop} {r : QS} {w c k : Nat} (hw : isSt w) (hc : c < 30) (ct : CTT h T z m r.1) (o : okF h) (cm : CMn h a1 N n0) (h33 : h.I 33 c = nI w) (hK : kK r.2.1 k = nI w) (k1 : ∀ g r', qRest T z N n0 w k r = .inr r' → Sm inP h g → CTT g T z m r'.1 → okF g → (∀ b j, b ≠ 9 → ((b ≠ 34 ∧ b ≠ 35) ∨ j ≠ c) → g.I b j = h.I b j) → CRow g 32 c r'.2.1 k → C 1 g) (k0 : ∀ g e, qRest T z N n0 w k r = .inl e → Sm inP h g → CFt g e → C 0 g) : W104 a1 (nI c) h C := by
  unfold W104
  rw [ix_n (by omega), show (32 + 1 : Nat) = 33 from rfl, h33]
  refine ⟨inb_n hc, ?_⟩
  have u1 : ∀ (M : Nat → Int32) (v : Int32), kK (upd M (124 + 5 * k + 1) v) k = kK M k ∧ kA (upd M (124 + 5 * k + 1) v) k = v ∧ kB (upd M (124 + 5 * k + 1) v) k = kB M k := fun M v => ⟨pk_un (by omega), pk_us, pk_un (by omega)⟩
  have u2 : ∀ (M : Nat → Int32) (v : Int32), kK (upd M (124 + 5 * k + 2) v) k = kK M k ∧ kA (upd M (124 + 5 * k + 2) v) k = kA M k ∧ kB (upd M (124 + 5 * k + 2) v) k = v := fun M v => ⟨pk_un (by omega), pk_un (by omega), pk_us⟩
  have plain : (w = 10 ∨ w = 13 ∨ w = 14 ∨ w = 15) → W106 a1 h (fun v11 h12 => inb (nI c) 30 ∧ inb (nI c) 30 ∧ if ((h12.sI (32 + 2) c v11).I (32 + 2) c) = (-1) then (C 0 (h12.sI (32 + 2) c v11)) else (C 1 (h12.sI (32 + 2) c v11))) := by
    intro hw4
    have eR : qRest T z N n0 w k r = qName T z N n0 (124 + 5 * k + 1) r := by unfold qRest; rw [if_pos hw4]
    refine S106w (p := 124 + 5 * k + 1) (a := 34) (c := c) ct o cm (Or.inl rfl) (fun g v r' e e2 nv' sm t o' fr => ⟨inb_n hc, inb_n hc, ?_⟩) (fun g e e1 sm p => ⟨inb_n hc, inb_n hc, ?_⟩)
    · rw [show (32 + 2 : Nat) = 34 from rfl, I_eq, if_neg nv']
      have eM : r'.2.1 = upd r.2.1 (124 + 5 * k + 1) v := by rw [e2]
      have eK : kK r'.2.1 k = nI w := by rw [eM, (u1 _ _).1, hK]
      have eA : kA r'.2.1 k = v := by rw [eM, (u1 _ _).2.1]
      refine k1 _ r' (eR.trans e) sm t o' (fun b j hb hj => fr b j hb (by omega)) ⟨?_, fun _ => ?_, ?_, ?_, ?_, ?_⟩
      · show (g.sI 34 c v).I 33 c = _
        rw [fr 33 c (by omega) (by omega), h33, eK]
        rcases hw4 with rfl | rfl | rfl | rfl <;> decide
      · rw [eA]; exact I_eq
      all_goals (intro x; rw [eK] at x; rcases hw4 with rfl | rfl | rfl | rfl <;> exact absurd x (by decide))
    · rw [show (32 + 2 : Nat) = 34 from rfl, I_eq, if_pos rfl]
      exact k0 _ e (eR.trans e1) sm p
  rcases hw with rfl | rfl | rfl | rfl | rfl | rfl | rfl | rfl
  · rw [if_neg (show ¬ nI 10 = 11 by decide), if_neg (show ¬ nI 10 = 16 by decide), if_neg (show ¬ nI 10 = 20 by decide), if_neg (show ¬ nI 10 = 22 by decide)]
    exact plain (by omega)
  · rw [if_pos (show nI 11 = 11 from rfl)]
    refine S106w (p := 124 + 5 * k + 1) (a := 34) (c := c) ct o cm (Or.inl rfl) (fun g v r' e e2 nv' sm t o' fr => ⟨inb_n hc, inb_n hc, ?_⟩) (fun g e e1 sm p => ⟨inb_n hc, inb_n hc, ?_⟩)
    · rw [show (32 + 2 : Nat) = 34 from rfl, I_eq, if_neg nv']
      have eR : qRest T z N n0 11 k r = (if kd T z r'.1 = 12 then qName T z N n0 (124 + 5 * k + 2) (r'.1 + 1, r'.2) else .inl (fl T z r'.1 2)) := by unfold qRest; rw [if_neg (by omega), if_pos rfl, qth_i e]
      have cm2 := CMn_sm cm sm
      have h342 : (g.sI 34 c v).I 34 c = v := I_eq
      generalize g.sI 34 c v = H at sm t o' fr cm2 h342 ⊢
      refine S137 (w := 12) t (by omega) (by omega) (fun q g2 s2 t2 f2 => ?_) (fun q g2 s2 f2 p2 => ?_)
      · rw [if_pos (by decide)]
        rw [if_pos q] at eR
        refine S106w (r := (r'.1 + 1, r'.2)) (p := 124 + 5 * k + 2) (a := 35) (c := c) t2 (okF_9 o' f2) (CMn_sm cm2 (p9 s2)) (Or.inr rfl) (fun g3 v3 r3 e3 e23 nv3 sm3 t3 o3 fr3 => ⟨inb_n hc, inb_n hc, ?_⟩) (fun g3 e e3 sm3 p3 => ⟨inb_n hc, inb_n hc, ?_⟩)
        · rw [show (32 + 3 : Nat) = 35 from rfl, I_eq, if_neg nv3]
          have eM : r3.2.1 = upd (upd r.2.1 (124 + 5 * k + 1) v) (124 + 5 * k + 2) v3 := by rw [e23, e2]
          have eK : kK r3.2.1 k = 11 := by rw [eM, (u2 _ _).1, (u1 _ _).1, hK]; rfl
          have eA : kA r3.2.1 k = v := by rw [eM, (u2 _ _).2.1, (u1 _ _).2.1]
          have eB : kB r3.2.1 k = v3 := by rw [eM, (u2 _ _).2.2]
          have fr' : ∀ b j, b ≠ 9 → (b ≠ 35 ∨ j ≠ c) → (g3.sI 35 c v3).I b j = H.I b j := fun b j hb hj => by rw [fr3 b j hb hj, s2.I hb]
          refine k1 _ r3 (eR.trans e3) ((sm.trans (p9 s2)).trans sm3) t3 o3 (fun b j hb hj => by rw [fr' b j hb (by omega), fr b j hb (by omega)]) ⟨?_, fun _ => ?_, fun _ => ?_, ?_, ?_, ?_⟩
          · show (g3.sI 35 c v3).I 33 c = _
            rw [fr' 33 c (by omega) (by omega), fr 33 c (by omega) (by omega), h33, eK]; decide
          · show (g3.sI 35 c v3).I 34 c = _
            rw [fr' 34 c (by omega) (by omega), eA, h342]
          · rw [eB]; exact I_eq
          all_goals (intro x; rw [eK] at x; exact absurd x (by decide))
        · rw [show (32 + 3 : Nat) = 35 from rfl, I_eq, if_pos rfl]
          exact k0 _ e (eR.trans e3) ((sm.trans (p9 s2)).trans sm3) p3
      · rw [if_neg (fun n => n rfl)]
        rw [if_neg q] at eR
        exact k0 g2 _ eR (sm.trans (p9 s2)) p2
    · rw [show (32 + 2 : Nat) = 34 from rfl, I_eq, if_pos rfl]
      exact k0 _ e (by unfold qRest; rw [if_neg (by omega), if_pos rfl]; exact qth_l e1) sm p
  · rw [if_neg (show ¬ nI 13 = 11 by decide), if_neg (show ¬ nI 13 = 16 by decide), if_neg (show ¬ nI 13 = 20 by decide), if_neg (show ¬ nI 13 = 22 by decide)]
    exact plain (by omega)
  · rw [if_neg (show ¬ nI 14 = 11 by decide), if_neg (show ¬ nI 14 = 16 by decide), if_neg (show ¬ nI 14 = 20 by decide), if_neg (show ¬ nI 14 = 22 by decide)]
    exact plain (by omega)
  · rw [if_neg (show ¬ nI 15 = 11 by decide), if_neg (show ¬ nI 15 = 16 by decide), if_neg (show ¬ nI 15 = 20 by decide), if_neg (show ¬ nI 15 = 22 by decide)]
    exact plain (by omega)
  · rw [if_neg (show ¬ nI 16 = 11 by decide), if_pos (show nI 16 = 16 from rfl)]
    have eR : qRest T z N n0 16 k r = qTest T z N n0 k r := by unfold qRest; rw [if_neg (by omega), if_neg (by omega), if_neg (by omega), if_pos rfl]
    exact S105 (k := k) hc ct o cm h33 (fun g r' e sm t o' fr cr => ⟨Or.inr rfl, k1 g r' (eR.trans e) sm t o' fr cr⟩) (fun g e e1 sm p => ⟨Or.inl rfl, k0 g e (eR.trans e1) sm p⟩)
  · rw [if_neg (show ¬ nI 20 = 11 by decide), if_neg (show ¬ nI 20 = 16 by decide), if_pos (show nI 20 = 20 from rfl)]
    have eR : qRest T z N n0 20 k r = qNum T z (124 + 5 * k + 1) 1 99 r := by unfold qRest; rw [if_neg (by omega), if_neg (by omega), if_pos rfl]
    refine S138w (p := 124 + 5 * k + 1) (a := 34) (c := c) (lo := 1) (hi := 99) ct o (Or.inl rfl) (by omega) (by omega) (fun g v r' e e2 nv' sm t o' fr => ⟨inb_n hc, inb_n hc, ?_⟩) (fun g e e1 sm p => ⟨inb_n hc, inb_n hc, ?_⟩)
    · rw [show (32 + 2 : Nat) = 34 from rfl, I_eq, if_neg nv']
      have eM : r'.2.1 = upd r.2.1 (124 + 5 * k + 1) v := by rw [e2]
      have eK : kK r'.2.1 k = 20 := by rw [eM, (u1 _ _).1, hK]; rfl
      have eA : kA r'.2.1 k = v := by rw [eM, (u1 _ _).2.1]
      refine k1 _ r' (eR.trans e) sm t o' (fun b j hb hj => fr b j hb (by omega)) ⟨?_, fun _ => ?_, ?_, ?_, ?_, ?_⟩
      · show (g.sI 34 c v).I 33 c = _
        rw [fr 33 c (by omega) (by omega), h33, eK]; decide
      · rw [eA]; exact I_eq
      all_goals (intro x; rw [eK] at x; exact absurd x (by decide))
    · rw [show (32 + 2 : Nat) = 34 from rfl, I_eq, if_pos rfl]
      exact k0 _ e (eR.trans e1) sm p
  · rw [if_neg (show ¬ nI 22 = 11 by decide), if_neg (show ¬ nI 22 = 16 by decide), if_neg (show ¬ nI 22 = 20 by decide), if_pos (show nI 22 = 22 from rfl)]
    have eK : kK r.2.1 k = 22 := hK
    refine k1 h r (by unfold qRest; rw [if_neg (by omega), if_neg (by omega), if_neg (by omega), if_neg (by omega)]) Sm.refl ct o (fun _ _ _ _ => rfl) ⟨?_, fun x => absurd eK x, ?_, ?_, ?_, ?_⟩
    · show h.I 33 c = _
      rw [h33, eK]; decide
    all_goals (intro x; rw [eK] at x; exact absurd x (by decide))
/-- STEPS laid before stay as they are -/
theorem CPl_keep {g : TH} {t cn : Nat} {M M' : Nat → Int32} {st : List Nat} (p : PI M n0 cn st) (c : CPl h t M cn st) (hM : ∀ j, 124 ≤ j → j < 124 + 5 * qn M → M' j = M j) (hcc : ∀ k, k ≤ qn M → cc M' (cn + 1) k = cc M cn k) (hg : ∀ a j, 1 ≤ a → a ≤ 4 → j < cn → g.I (t + a) j = h.I (t + a) j) : ∀ k, k < qn M → ¬ kK M' k = 21 → CRow g t (cc M' (cn + 1) k) M' k ∧ (opn M' k → k ∉ st → g.I (t + 4) (cc M' (cn + 1) k) = nI (cc M' (cn + 1) (lk M' k))) := by
  intro k hk h21
  have fK : kK M' k = kK M k := hM _ (by omega) (by omega)
  have fA : kA M' k = kA M k := hM _ (by omega) (by omega)
  have fB : kB M' k = kB M k := hM _ (by omega) (by omega)
  have fL : lk M' k = lk M k := by unfold lk kL; rw [hM _ (by omega) (by omega)]
  rw [fK] at h21
  obtain ⟨c1, c2⟩ := c k hk h21
  have hlt : cc M cn k < cn := by have := cc_lt p hk (Nat.le_refl _) h21; rw [cc_n] at this; exact this
  rw [hcc k (by omega), fL]
  refine ⟨?_, fun ok hns => ?_⟩
  · unfold CRow at c1 ⊢
    rw [fK, fA, fB, hg 1 _ (by omega) (by omega) hlt, hg 2 _ (by omega) (by omega) hlt, hg 3 _ (by omega) (by omega) hlt]
    exact c1
  · have ok' : opn M k := (opn_cg fK).mp ok
    have := (p.2.2.2.2.2.2.2.1 k hk ok' hns).2.1
    rw [hg 4 _ (by omega) (by omega) hlt, hcc _ (by omega)]
    exact c2 ok' hns
end CP2
