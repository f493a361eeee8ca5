/-! first, firstAt -/
section FST
variable {h g h2 g2 : TH} {L z c i t : Nat} {xs : Nat → Int32} {G : Int32 → Nat → Int32} {T S : Nat → Prop} {D : Int32 → TH → Prop} {x y : Int32} {M : Nat → Int32}
theorem FP_bd {big : Nat → Nat} {goal : Int32} {len : Nat} {P U : Nat → Nat} (hw : Wf M) (hp : FP M big goal len P U) {j : Nat} (hj : j < len) : P j < 500 := by
  have h12 := hw.n12
  obtain ⟨-, i, m, f1, f2, f3⟩ := hp.2.1 j hj
  rw [f3]
  rcases mvs_mem.mp (idx_mem f1.1) with ⟨d, d1, -, -, e⟩ | ⟨d, o, d1, d2, -, e⟩ | ⟨d, d1, -, e⟩ <;> rw [e] <;> dsimp only <;> omega
theorem Q176 (hI : Inv L xs h z) (hz : z < 1000) (k : Jn L xs z (W293 x) D) : W176 x h D := by
  obtain ⟨G, c, i, M, s, r, se, hi, cur, hw, hc, hM, hs, sc, s1, eG⟩ := hI.sr
  have hn := hI.nn
  have h12 := hw.n12
  have cur' : ix (h.I 0 10) = i := by rw [cur, ix_n (by omega)]
  have hin : inb (h.I 0 10) 4 := by rw [cur]; exact inb_n hi
  have s9 : six 139 := Or.inl rfl
  have two : (0 : Nat) < 2 ^ aN M := Nat.two_pow_pos _
  unfold W176 W192
  dsimp only
  rw [cur']
  refine ⟨hin, S56 hw hc.1 (fun hg => ?_) (fun e => ?_)⟩
  · rw [if_pos (by decide)]
    refine ⟨hin, S31 hw hc (is3_i hi) se.2.1 (by rw [hs]; exact eG) (by rw [hs]; exact nI_ne1 (by omega)) 0 (by omega) rfl hn.1 (by omega) (fun g L' b5 b6 b7 b8 b9 k1 V od w σ p1 p2 p3 p4 p5 p6 p7 => ?_)⟩
    have gn := p1.2.2.1
    have gs := p1.2.2.2
    have g1n := p1.1.1
    have lcg : LC g 139 4096 G := LC_mk p3 p4 p5 (by omega) p7 (by rw [p6, hs]; exact eG)
    have pst := Pst.least (Or.inl rfl) p1 p2 lcg se.1 hn.1
    obtain ⟨⟨e5, e6, e7, e8, e9⟩, ⟨k5, k6, k7, k8, k9⟩, ⟨n5, n6, n7, n8, n9⟩, l1, l2, l3, m5, m6, m7, m8, m9⟩ := id p3
    have l3' : 222 ≤ b5 ∧ 222 ≤ b6 ∧ 222 ≤ b7 ∧ 222 ≤ b8 ∧ 222 ≤ b9 := l3.resolve_left (by omega)
    have fsg : Fst g := se.2.2.2.2.2.2.2.1.least se.1 p1 p2 hn.1
    obtain ⟨a16, len0, P0, A0, -⟩ := id fsg
    have sf : ∀ f, 5 ≤ f ∧ f ≤ 9 ∨ f = 16 → sF 139 f := fun f hf => sF_l (Or.inl rfl) hf
    have ne : ∀ f b, 5 ≤ f → f ≤ 9 → g.P 139 f = some b → a16 ≠ b := fun f b f1 f2 w e => by
      have := pst.2.2 f 16 b (sf f (Or.inl ⟨f1, f2⟩)) (sf 16 (Or.inr rfl)) w (by rw [← e]; exact A0.1)
      omega
    have A9g : A9 g 139 (aN M) b5 b6 b7 b8 b9 := ⟨e9, k9, by rw [n9]; exact p4, by rw [n9]; omega, l3'.2.2.2.2, l2.2.2.2.2.2.2.1, l2.2.2.2.2.2.2.2.1, l2.2.2.2.2.2.2.2.2.1, l2.2.2.2.2.2.2.2.2.2⟩
    rw [bigOf_k] at p5
    refine S47 hw p5 A9g (by rw [n5]; omega) A0 ⟨ne 5 b5 (by omega) (by omega) e5, ne 6 b6 (by omega) (by omega) e6, ne 7 b7 (by omega) (by omega) e7, ne 8 b8 (by omega) (by omega) e8, ne 9 b9 (by omega) (by omega) e9⟩ (by omega) (by omega) ⟨m5, m6, m7, m8, m9⟩ hg (fun g' k' V' od' w' σ' q1 q2 q3 q4 => ?_) (fun g' k' V' od' w' σ' least b16 P U q1 q2 q3 q4 q5 q6 q7 q8 q9 q10 => ?_)
    · have lp := p1.seek (by omega) p3 q1
      have tk : tKeep h g' 139 := ⟨fun j j1 j2 j3 j4 j5 => (q2 j j3 j4 j5).trans (p2.1 j j1 j2 j3 j4 j5), fun f f1 f2 => by rw [q1.P]; exact p2.2 f f1 f2⟩
      rw [← bigOf_k] at q3
      have lc : LC g' 139 4096 (fun s' => if s' = nI s then M else fun _ => 100) := LC_mk (p3.sm q1) p4 q3 (by omega) (by rw [q2 4 (by omega) (by omega) (by omega)]; exact p7) (by rw [q2 3 (by omega) (by omega) (by omega), p6, hs, if_pos rfl])
      obtain ⟨o1, o2, o3, o4, o5⟩ := least_own se hn.1 (by omega) (Or.inl rfl) ⟨by omega, fun _ => rfl⟩ lp tk lc eG sc
      have hr : Sought M (bigK M 0) 4096 x none := q4
      unfold W195 W194
      rw [if_neg (fun n => n rfl)]
      obtain ⟨t1, t2, t3⟩ := hI.sks (s := 6) se s9 o1
      refine k _ _ t1 (fun Y hY => ?_)
      unfold W293
      refine S249 hw (t2 M hM) (fun _ => ?_) (fun e => (hg.no h12 e).elim)
      rw [if_pos (by decide)]
      refine ref_work hw (t2 M hM) hg hr (Or.inl ⟨0, by omega, rfl, rfl, rfl⟩) (fun g2 u1 u2 => ?_)
      rw [if_neg (fun n => n rfl)]
      refine hY _ (hI.sk hz r se s9 o1 o2 o3 ⟨by omega, by omega⟩ (Sm.sI u1 (Or.inl (Or.inl rfl)) _) (fun a ha => inFit_sp ha) (fun j hj => ?_) I_eq)
      rw [I_nk (by omega), u2 j (by omega), I_sI, if_neg (by omega)]
    · obtain ⟨d1, d2, d3, d4, d5⟩ := q1
      have hr : Sought M (bigK M 0) 4096 x (some least) := ⟨q5, q6⟩
      have d1n := d1.1
      -- the class's part
      have inS : ∀ a, (inL 139 b5 b6 b7 b8 a ∨ a = b9 ∨ a = a16) → sO h 139 a ∨ (h.n ≤ a ∧ a < 1000000) := fun a ha => by
        have ptr : ∀ f b, 5 ≤ f ∧ f ≤ 9 ∨ f = 16 → g.P 139 f = some b → sO h 139 b ∨ (h.n ≤ b ∧ b < 1000000) := fun f b hf w => by
          rcases pst.2.1 f b (sf f hf) w with v | v
          · exact Or.inl (Or.inr ⟨f, sf f hf, v⟩)
          · exact Or.inr ⟨v.1, by omega⟩
        rcases ha with (ha | ha | ha | ha | ha) | ha | ha
        · left; left; unfold inMv at ha; unfold rt; omega
        · subst ha; exact ptr 5 a (by omega) e5
        · subst ha; exact ptr 6 a (by omega) e6
        · subst ha; exact ptr 7 a (by omega) e7
        · subst ha; exact ptr 8 a (by omega) e8
        · subst ha; exact ptr 9 a (by omega) e9
        · subst ha; exact ptr 16 a (by omega) A0.1
      have gr1 : Gr (sO h 139) h g' := by
        have w : Gr (fun a => sO h 139 a ∨ (h.n ≤ a ∧ a < 1000000)) h g' := Gr.trans (pst.1.mono (fun a ha => Or.inl ha)) (d1.mono inS)
        exact ⟨w.1, w.2.1, fun a ha hs => w.2.2 a ha (fun v => v.elim hs (fun v => by omega))⟩
      have p16 : ∀ f, f ≠ 16 → g'.P 139 f = g.P 139 f := d4
      have A16' := q3
      have new16 : h.P 139 16 = some b16 ∨ (h.n ≤ b16 ∧ b16 < g'.n) := by
        rcases q4 with v | v
        · subst v
          rcases pst.2.1 16 b16 (sf 16 (Or.inr rfl)) A0.1 with v | v
          · exact Or.inl v
          · exact Or.inr ⟨v.1, by omega⟩
        · exact Or.inr ⟨by omega, q3.2.2.2.2⟩
      have pp : Pst h g' 139 := by
        refine ⟨gr1, fun f a q e => ?_, fun f f' a q q' e e' => ?_⟩
        · by_cases f16 : f = 16
          · subst f16; rw [q3.1] at e; injection e with e; subst e; exact new16
          · rw [p16 f f16] at e
            exact (pst.2.1 f a q e).imp id (fun v => ⟨v.1, by omega⟩)
        · have lt : ∀ f, f ≠ 16 → sF 139 f → g.P 139 f = some a → a < g.n := fun f f16 q e => by
            have : 5 ≤ f ∧ f ≤ 9 := by unfold sF at q; omega
            rcases p3.ptr this.1 this.2 e with v | v | v | v | v <;> omega
          by_cases f16 : f = 16
          · subst f16
            rw [q3.1] at e; injection e with e; subst e
            by_cases f16' : f' = 16
            · exact f16'.symm
            · rw [p16 f' f16'] at e'
              rcases q4 with v | v
              · subst v; exact pst.2.2 16 f' b16 q q' A0.1 e'
              · have := lt f' f16' q' e'; omega
          · rw [p16 f f16] at e
            by_cases f16' : f' = 16
            · subst f16'
              rw [q3.1] at e'; injection e' with e'; subst e'
              rcases q4 with v | v
              · subst v; exact pst.2.2 f 16 b16 q q' e A0.1
              · have := lt f f16 q e; omega
            · rw [p16 f' f16'] at e'
              exact pst.2.2 f f' a q q' e e'
      have lc' : LC g' 139 4096 G := by
        rw [← bigOf_k] at q2
        refine LC_mk (L := L') (b5 := b5) (b6 := b6) (b7 := b7) (b8 := b8) (b9 := b9) ?_ p4 q2 (by omega) (by rw [d5 4 (by omega) (by omega) (by omega) (by omega)]; exact p7) (by rw [d5 3 (by omega) (by omega) (by omega) (by omega), p6, hs]; exact eG)
        unfold LAr
        rw [p16 5 (by omega), p16 6 (by omega), p16 7 (by omega), p16 8 (by omega), p16 9 (by omega), d1.k m5, d1.k m6, d1.k m7, d1.k m8, d1.k m9, d1.nn m5, d1.nn m6, d1.nn m7, d1.nn m8, d1.nn m9]
        exact ⟨⟨e5, e6, e7, e8, e9⟩, ⟨k5, k6, k7, k8, k9⟩, ⟨n5, n6, n7, n8, n9⟩, l1, l2, l3, by omega, by omega, by omega, by omega, by omega⟩
      have st3 : g'.I 139 3 = nI s := by rw [d5 3 (by omega) (by omega) (by omega) (by omega), p6, hs]
      obtain ⟨a1, a2, a3, a4, a5, a6, a7⟩ := Pst.at hI se s9 pp hi hc hM
      obtain ⟨t1, t2, t3⟩ := hI.sks (s := 0) se s9 pp
      have hM0 := t2 M hM
      have len12 : least % 4096 < 4096 := Nat.mod_lt _ (by decide)
      unfold W195 W193
      rw [if_pos (nI_ne1 (by omega))]
      refine k _ _ t1 (fun Y hY => ?_)
      unfold W293
      refine S249 hw hM0 (fun _ => ?_) (fun e => (hg.no h12 e).elim)
      rw [if_pos (by decide)]
      refine S263 hw hM0 0 (by omega) rfl (fun ga y1 y2 y3 => ?_)
      have hMa := hM0.sm y1 (by unfold inFit; omega)
      refine S287 hw hMa y3 hg hr (fun gb T z1 z2 z3 z4 => ?_)
      have hlt : T 0 < 2000000000 := by
        rcases T_sought z2 z3 z4 hr with v | v
        · exact absurd v.1 (by simp)
        · exact v.2.1
      have lb := hr.2
      rw [if_pos (show ¬ nI (least / 4096) = -1 from nI_ne1 (by omega))]
      refine S293b hw (hMa.sm z1 (by unfold i208; omega)) (y3.sm z1 (by unfold i208; omega)) z2 z3 z4 hlt q7 (by omega) (fun gc v1 v2 v3 v4 => hY _ ?_)
      have sm : Sm (fun a => a = 0 ∨ a = 197 ∨ 206 ≤ a ∧ a ≤ 211) g' (gc.sI 197 2 0) := by
        have c1 : Sm (fun a => a = 0 ∨ a = 197 ∨ 206 ≤ a ∧ a ≤ 211) g' (g'.sI 0 0 0) := (sm1 g' 0 0 0).mono (fun a ha => Or.inl ha)
        have c2 : Sm (fun a => a = 0 ∨ a = 197 ∨ 206 ≤ a ∧ a ≤ 211) (g'.sI 0 0 0) ga := y1.mono (fun a ha => by unfold inFit at ha; omega)
        have c3 : Sm (fun a => a = 0 ∨ a = 197 ∨ 206 ≤ a ∧ a ≤ 211) ga gb := z1.mono (fun a ha => by unfold i208 at ha; omega)
        have c5 : Sm (fun a => a = 0 ∨ a = 197 ∨ 206 ≤ a ∧ a ≤ 211) gb gc := v1.mono (fun a ha => by unfold inFs at ha; omega)
        have c6 : Sm (fun a => a = 0 ∨ a = 197 ∨ 206 ≤ a ∧ a ≤ 211) gc (gc.sI 197 2 0) := (sm1 gc 197 2 0).mono (fun a ha => Or.inr (Or.inl ha))
        exact (((c1.trans c2).trans c3).trans c5).trans c6
      have e0 : ∀ j, j ≠ 0 → (gc.sI 197 2 0).I 0 j = g'.I 0 j := fun j hj => by rw [I_sI, if_neg (by omega), v1.I (by unfold inFs; omega), z1.I (by unfold i208; omega), y1.I (by unfold inFit; omega), I_nk hj]
      have e00 : (gc.sI 197 2 0).I 0 0 = 0 := by rw [I_sI, if_neg (by omega), v1.I (by unfold inFs; omega), z1.I (by unfold i208; omega), y1.I (by unfold inFit; omega), I_eq]
      have e197 : ∀ j, j ≠ 2 → j ≠ 25 → j ≠ 30 → (gc.sI 197 2 0).I 197 j = g'.I 197 j := fun j h1 h2 h3 => by rw [I_nk h1, v2 j h3, z1.I (by unfold i208; omega), y2 j h2, I_sI, if_neg (by omega)]
      have e30 : (gc.sI 197 2 0).I 197 30 = nI (least % 4096) := by rw [I_nk (by omega), v3]
      have F : ∀ a, (a < 222 ∨ a = 1000000) → ¬ spare a → ¬ (a = 0 ∨ a = 197 ∨ 206 ≤ a ∧ a ≤ 211) → (gc.sI 197 2 0).I a = h.I a ∧ (gc.sI 197 2 0).J a = h.J a := fun a h1 h2 h3 => by
        have w := Pst.out se pp s9 hn.1 (by omega) (a := a) (by omega) h2
        exact ⟨(sm.I h3).trans w.1, (sm.J h3).trans w.2⟩
      have st := hI.1
      obtain ⟨r1, r2, r3, r4, r5, r6, r7, y1', y2', y3', y4', y5'⟩ := id r
      have sp : ∀ a, (a = 9 ∨ a = 10 ∨ a = 11 ∨ a = 15 ∨ a = 203 ∨ a = 193 ∨ a = 194 ∨ a = 221 ∨ a = 198 ∨ a = 199) → (gc.sI 197 2 0).I a = h.I a ∧ (gc.sI 197 2 0).J a = h.J a := fun a ha => F a (by omega) (by unfold spare; omega) (by omega)
      have lvl : ∀ a, 43 + 24 * i ≤ a → a < 67 + 24 * i → a ≠ 63 + 24 * i → a ≠ 64 + 24 * i → (gc.sI 197 2 0).I a = h.I a ∧ (gc.sI 197 2 0).J a = h.J a := fun a h1 h2 h3 h4 => F a (by omega) (by unfold spare; omega) (by omega)
      refine ⟨⟨by rw [e00, I_eq], ?_, ?_⟩, G, c, i, r.cur (T := fun a => sO h 139 a ∨ (a = 0 ∨ a = 197 ∨ 206 ≤ a ∧ a ≤ 211)) (Gr.trans (gr1.mono (fun a ha => Or.inl ha)) (sm.gr.mono (fun a ha => Or.inr ha))) (fun a ha => ha.elim (fun w => Or.inl (sO_sp se (by omega) s9 w)) (fun w => by unfold spare; omega)) ⟨by rw [sm.n]; omega, by rw [sm.sl]; omega⟩ hz (r1.fr (fun j hj => by rw [(sp 9 (by omega)).1]) (sp 10 (by omega)).1 (sp 11 (by omega)).2 (fun j hj => (e197 j (by omega) (by omega) (by omega)).trans (by rw [a7])) (sp 203 (by omega)).1) (r2.fr ((e0 19 (by omega)).trans (by rw [a1])) ((e197 52 (by omega) (by omega) (by omega)).trans (by rw [a7])) (sp 193 (by omega)).1 (sp 194 (by omega)).1 (sp 221 (by omega)).1) ((e0 10 (by omega)).trans (by rw [a1])) ((e197 55 (by omega) (by omega) (by omega)).trans (by rw [a7])) (fun k _ _ => by rw [(sp 198 (by omega)).1]) (fun k _ _ => by rw [(sp 199 (by omega)).2]) (fun _ _ => rfl) ⟨Nat.le_refl _, by omega, by rw [(sp 15 (by omega)).1]; exact r7.1⟩ (y4'.fr (fun a a1 a2 a3 a4 a5 => (lvl a a1 a2 a4 a5).1) (lvl _ (by omega) (by omega) (by omega) (by omega)).2 (fun e he => by rw [(lvl (58 + 24 * i) (by omega) (by omega) (by omega) (by omega)).1]) (fun k hk => by rw [(sp 198 (by omega)).1]) (fun k hk => by rw [(sp 199 (by omega)).2]) (by omega)), ?_⟩
      · rw [sm.J0, sm.J197, a5.1, a5.2]; exact st.2.1
      · rw [sm.J0, sm.J197, a5.1, a5.2]; exact st.2.2
      · refine se.pst s9 ⟨Gr.trans (gr1.mono (fun a ha => Or.inl ha)) (sm.gr.mono (fun a ha => Or.inr (by unfold outS; omega))), fun f a q e => ?_, fun f f' a q q' e e' => ?_⟩ hn.1 ⟨fun _ => ?_, fun q => by omega, fun q => by omega, fun q => by omega, fun q => by omega, fun q => by omega, fun f q => ?_⟩ ?_
        · rw [sm.P] at e; rw [sm.n]; exact pp.2.1 f a q e
        · rw [sm.P] at e e'; exact pp.2.2 f f' a q q' e e'
        · refine lc'.gr sm.gr (by omega) (fun a h1 h2 => by omega) (fun f a f1 f2 w => ?_)
          rw [p16 f (by omega)] at w
          rcases p3.ptr f1 f2 w with v | v | v | v | v <;> omega
        · have : f = 3 := by omega
          subst this
          right; refine ⟨s, sc, ?_⟩; rw [sm.I (by omega)]; exact st3
        · have b16r : b16 = 151 ∨ 222 ≤ b16 := q3.2.2.2.1
          refine ⟨b16, least % 4096, P, q3.sm sm, by omega, by rw [sm.I (by omega)]; exact q8, e30, by rw [sm.N]; exact q9, fun j hj => ⟨by rw [sm.I (by omega)]; exact q10 j hj, by have := FP_bd hw q7 hj; omega⟩, ?_⟩
          intro j hj
          have := v4 j hj
          rw [I_sI, if_neg (by omega), I_sI, if_neg (by omega), I_sI, if_neg (by omega)]
          exact this
  · rw [if_neg (fun n => n rfl)]
    refine k.st hI hz (fun Y hY => ?_)
    unfold W293
    refine S249 hw (hM.s0 _) (fun hg => (hg.no h12 e).elim) (fun _ => ?_)
    rw [if_neg (fun n => n rfl)]; exact hY
end FST
