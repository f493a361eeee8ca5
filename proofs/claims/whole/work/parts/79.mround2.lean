section MRE
variable {h : TH} {M : Nat → Int32} {goal s : Int32} {P : Nat}
theorem S308 {C : Int32 → TH → Prop} {a3 : Int32} (hw : Wf M) (hM : MA h M) (hf : MFit h M (bigK M 0)) (hs : St (aN M) s) (hP : a3 = nI P) (hP4 : P ≤ 12) (h01 : ∀ w, w < 2 ^ aN M → h.I 218 w = 0 ∨ h.I 218 w = 1) (kk : ∀ g v, Sm (fun a => a = 218) h g → (∀ w, w < 2 ^ aN M → (g.I 218 w = 1 ↔ h.I 218 w = 1 ∨ ∃ x, ¬ x = 0 ∧ stp M (-1) P s x ∧ ix (out M s x) = w)) → (∀ w, w < 2 ^ aN M → g.I 218 w = 0 ∨ g.I 218 w = 1) → (v = 0 ∨ v = 1) → (v = 1 ↔ ∃ x, ¬ x = 0 ∧ stp M (-1) P s x ∧ sb goal (out M s x)) → C v g) : W308 s goal a3 h C := by
  have h12 := hw.n12
  have p12 := pow12 h12
  subst hP
  refine S308r hw hM hs (fun m hm rd => ?_)
  have lm := hm.lt
  have sub : ∀ x, stp M (-1) P s x → sb x m := fun x hx d hd q => (rd d hd).mpr ⟨St_d h12 hx.1 hd q, hx.2.2.1 d (St_d h12 hx.1 hd q) q⟩
  unfold B308_76
  have h00 : (fun (y : Nat) (z : Int32 × Int32 × TH) => y < 4096 ∧ y &&& ix m = y ∧ z.2.1 = nI y ∧ Sm (fun a => a = 218) h z.2.2 ∧ (∀ w, w < 2 ^ aN M → (z.2.2.I 218 w = 1 ↔ h.I 218 w = 1 ∨ ∃ x, y < ix x ∧ stp M (-1) P s x ∧ ix (out M s x) = w)) ∧ (∀ w, w < 2 ^ aN M → z.2.2.I 218 w = 0 ∨ z.2.2.I 218 w = 1) ∧ (z.1 = 0 ∨ z.1 = 1) ∧ (z.1 = 1 ↔ ∃ x, y < ix x ∧ stp M (-1) P s x ∧ sb goal (out M s x))) (ix m) (0, m, h) := by
    have none : ∀ x, stp M (-1) P s x → ¬ ix m < ix x := by
      intro x hx q
      have e := ix_sub h12 hx.1 hm (sub x hx)
      have : ix x &&& ix m ≤ ix m := Nat.and_le_right
      omega
    refine ⟨by omega, Nat.and_self _, lm.2.1, Sm.refl, fun w hw' => ⟨Or.inl, fun q => q.elim id (fun ⟨x, q1, q2, _⟩ => absurd q1 (none x q2))⟩, h01, Or.inl rfl, ⟨fun q => absurd (show (0 : Int32) = 1 from q) (by decide), fun ⟨x, q1, q2, _⟩ => absurd q1 (none x q2)⟩⟩
  refine LFP.ix (fun (y : Nat) (z : Int32 × Int32 × TH) => y < 4096 ∧ y &&& ix m = y ∧ z.2.1 = nI y ∧ Sm (fun a => a = 218) h z.2.2 ∧ (∀ w, w < 2 ^ aN M → (z.2.2.I 218 w = 1 ↔ h.I 218 w = 1 ∨ ∃ x, y < ix x ∧ stp M (-1) P s x ∧ ix (out M s x) = w)) ∧ (∀ w, w < 2 ^ aN M → z.2.2.I 218 w = 0 ∨ z.2.2.I 218 w = 1) ∧ (z.1 = 0 ∨ z.1 = 1) ∧ (z.1 = 1 ↔ ∃ x, y < ix x ∧ stp M (-1) P s x ∧ sb goal (out M s x))) ?_ h00
  rintro X y ⟨x5, x6, g⟩ ⟨e1, e2, e3, e4, e5, e6, e7, e8⟩ ih
  (try dsimp only at e3 e4 e5 e6 e7 e8)
  subst e3
  unfold F308_76
  (try dsimp only)
  have pos : ∀ x : Int32, stp M (-1) P s x → (¬ x = 0 ↔ 0 < ix x) := by
    intro x hx
    have l := hx.1.lt
    constructor
    · intro q
      refine Nat.pos_of_ne_zero (fun z => q ?_)
      rw [l.2.1, z]; rfl
    · intro q z
      rw [z, ix_0] at q; omega
  by_cases z : y = 0
  · subst z
    rw [if_pos nI_0]
    refine ⟨e7, kk g x5 e4 (fun w hw' => (e5 w hw').trans ?_) e6 e7 (e8.trans ?_)⟩
    · constructor
      · rintro (q | ⟨x, q1, q2, q3⟩)
        · exact Or.inl q
        · exact Or.inr ⟨x, (pos x q2).mpr q1, q2, q3⟩
      · rintro (q | ⟨x, q1, q2, q3⟩)
        · exact Or.inl q
        · exact Or.inr ⟨x, (pos x q2).mp q1, q2, q3⟩
    · constructor
      · rintro ⟨x, q1, q2, q3⟩; exact ⟨x, (pos x q2).mpr q1, q2, q3⟩
      · rintro ⟨x, q1, q2, q3⟩; exact ⟨x, (pos x q2).mp q1, q2, q3⟩
  · rw [if_neg (nI_ne0 (by omega) (by omega))]
    have yle : y ≤ ix m := by
      have : y &&& ix m ≤ ix m := Nat.and_le_right
      omega
    have yS : St (aN M) (nI y) := ⟨y, by omega, rfl⟩
    have iy : ix (nI y) = y := ix_n (by omega)
    have ysb : sb (nI y) m := by
      intro d hd q
      rw [lm.2.1, bt_nI (by omega)]
      rw [bt_nI (by omega), ← e2, Nat.testBit_and, Bool.and_eq_true] at q
      exact q.2
    have nx : (nI y - 1) &&& m = nI ((y - 1) &&& ix m) := by
      conv => lhs; rw [lm.2.1]
      rw [show nI y - 1 = nI (y - 1) from pk_sub (b := 1) (by omega), nI_and (by omega) (by omega)]
    have nl : (y - 1) &&& ix m ≤ y - 1 := Nat.and_le_left
    have nm : ((y - 1) &&& ix m) &&& ix m = (y - 1) &&& ix m := by rw [Nat.and_assoc, Nat.and_self]
    /- what lies between -/
    have btw : ∀ x, stp M (-1) P s x → ((y - 1) &&& ix m < ix x ↔ y < ix x ∨ x = nI y) := by
      intro x hx
      have l := hx.1.lt
      have es := ix_sub h12 hx.1 hm (sub x hx)
      constructor
      · intro q
        rcases Nat.lt_trichotomy (ix x) y with w | w | w
        · have := sub_next y y (ix m) (ix x) (Nat.le_refl _) e2 es w
          omega
        · right; rw [l.2.1, w]
        · exact Or.inl w
      · rintro (q | q)
        · omega
        · rw [q, iy]; omega
    have skip : ¬ stp M (-1) P s (nI y) → B308_197 s goal (nI P) m x5 (nI y) g C X := by
      intro no
      unfold B308_197
      rw [nx]
      refine ih ((y - 1) &&& ix m) _ (by omega) ⟨by omega, nm, rfl, e4, fun w hw' => (e5 w hw').trans ?_, e6, e7, e8.trans ?_⟩
      · constructor
        · rintro (q | ⟨x, q1, q2, q3⟩)
          · exact Or.inl q
          · exact Or.inr ⟨x, (btw x q2).mpr (Or.inl q1), q2, q3⟩
        · rintro (q | ⟨x, q1, q2, q3⟩)
          · exact Or.inl q
          · rcases (btw x q2).mp q1 with w | w
            · exact Or.inr ⟨x, w, q2, q3⟩
            · rw [w] at q2; exact absurd q2 no
      · constructor
        · rintro ⟨x, q1, q2, q3⟩; exact ⟨x, (btw x q2).mpr (Or.inl q1), q2, q3⟩
        · rintro ⟨x, q1, q2, q3⟩
          rcases (btw x q2).mp q1 with w | w
          · exact ⟨x, w, q2, q3⟩
          · rw [w] at q2; exact absurd q2 no
    have rdyy : ∀ d, d < aN M → bt (nI y) d = true → rdy M s d := fun d hd q => ((rd d (by omega)).mp (ysb d (by omega) q)).2
    have hM1 : MA g M := hM.sm e4 (by omega)
    have hf1 : MFit g M (bigK M 0) := hf.sm e4 (by omega)
    refine S234 (St_mono yS h12) ?_
    by_cases zP : pc (nI y) ≤ P
    · rw [if_neg (nI_nlt zP (by omega))]
      refine S262 hw hM1 hf1 (St_or hs yS) (fun ft => ?_) (fun ft => ?_)
      · rw [if_pos (by decide)]
        have st : stp M (-1) P s (nI y) := ⟨yS, fun d hd _ => bt_m1 d hd, rdyy, zP, ft⟩
        have os := out_St hw hs yS
        have ol := os.lt
        have fin : ∀ v : Int32, (v = 0 ∨ v = 1) → (v = 1 ↔ x5 = 1 ∨ sb goal (out M s (nI y))) → B308_195 s goal (nI P) m (nI y) v (g.sI 218 (ix (out M s (nI y))) 1) C X := by
          intro v v1 v2
          unfold B308_195 B308_197
          rw [nx]
          refine ih ((y - 1) &&& ix m) _ (by omega) ⟨by omega, nm, rfl, Sm.sI (S := fun a => a = 218) e4 rfl _, fun w hw' => ?_, fun w hw' => ?_, v1, v2.trans ?_⟩
          · (try dsimp only)
            rw [I_at]
            by_cases q : w = ix (out M s (nI y))
            · rw [if_pos q]
              exact ⟨fun _ => Or.inr ⟨nI y, (btw _ st).mpr (Or.inr rfl), st, q.symm⟩, fun _ => rfl⟩
            · rw [if_neg q, e5 w hw']
              constructor
              · rintro (q | ⟨x, q1, q2, q3⟩)
                · exact Or.inl q
                · exact Or.inr ⟨x, (btw x q2).mpr (Or.inl q1), q2, q3⟩
              · rintro (q' | ⟨x, q1, q2, q3⟩)
                · exact Or.inl q'
                · rcases (btw x q2).mp q1 with w' | w'
                  · exact Or.inr ⟨x, w', q2, q3⟩
                  · rw [w'] at q3; exact absurd q3.symm q
          · (try dsimp only)
            rw [I_at]
            by_cases q : w = ix (out M s (nI y))
            · rw [if_pos q]; exact Or.inr rfl
            · rw [if_neg q]; exact e6 w hw'
          · rw [e8]
            constructor
            · rintro (⟨x, q1, q2, q3⟩ | q)
              · exact ⟨x, (btw x q2).mpr (Or.inl q1), q2, q3⟩
              · exact ⟨nI y, (btw _ st).mpr (Or.inr rfl), st, q⟩
            · rintro ⟨x, q1, q2, q3⟩
              rcases (btw x q2).mp q1 with w' | w'
              · exact Or.inl ⟨x, w', q2, q3⟩
              · rw [w'] at q3; exact Or.inr q3
        refine S308u hw hM1 hs yS ?_
        by_cases zf : x5 = 0
        · rw [if_neg (fun q => q zf)]
          by_cases zg : goal &&& ((out M s (nI y)) ^^^ (-1)) = 0
          · rw [if_neg (fun q => q zg)]
            unfold B308_190
            exact fin 1 (Or.inr rfl) ⟨fun _ => Or.inr (bt_sub.mp zg), fun _ => rfl⟩
          · rw [if_pos zg]
            refine fin 0 (Or.inl rfl) ⟨fun q => absurd q (by decide), fun q => ?_⟩
            rcases q with q | q
            · rw [zf] at q; exact absurd q (by decide)
            · exact absurd (bt_sub.mpr q) zg
        · rw [if_pos zf]
          unfold B308_190
          exact fin 1 (Or.inr rfl) ⟨fun _ => Or.inl (e7.resolve_left zf), fun _ => rfl⟩
      · rw [if_neg (fun q => q rfl)]
        exact skip (fun q => by rw [q.2.2.2.2] at ft; exact absurd ft (by decide))
    · rw [if_pos (nI_lt (by omega) (by have := pc_le (nI y); omega))]
      exact skip (fun q => zP q.2.2.2.1)
end MRE
