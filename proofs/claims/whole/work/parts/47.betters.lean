/-! all tries of one set; all sets until nothing is better -/
section BT
variable {h h' g : TH} {M : Nat → Int32} {big : Nat → Nat} {cw : Nat} {goal : Int32} {T T' : Nat → Nat} {C : Int32 → TH → Prop} {s c : Nat} {fl x z : Int32}
theorem try1 {A : Int32 → TH → Prop} (hn : aN M ≤ 12) (hb : Bet1 h g M big cw goal T T' s fl) (hs : s < 2 ^ aN M) (hz : z = nI c) (hc : c ≤ 405505) (hx : x = (-1) ∨ ∃ v, v < 2 ^ aN M ∧ x = nI v ∧ Mv M big cw s v c) (k : ∀ g' T'' fl', Bet1 h g' M big cw goal T T'' s fl' → (fl' = 0 → fl = 0 ∧ ∀ v, v < 2 ^ aN M → x = nI v → ¬ bet T s v c) → A fl' g') : W285 (nI s) x z g (fun r h' => if ¬ r = 0 then A 1 h' else (if fl = 0 then A 0 h' else A 1 h')) := by
  have p12 : 2 ^ aN M ≤ 2 ^ 12 := Nat.pow_le_pow_right (by omega) hn
  have same : (∀ v, v < 2 ^ aN M → x = nI v → ¬ bet T' s v c) → (if fl = 0 then A 0 g else A 1 g) := by
    intro nb
    by_cases e : fl = 0
    · subst e
      rw [if_pos rfl]
      have er := hb.row
      subst er
      exact k g T' 0 hb (fun _ => ⟨rfl, nb⟩)
    · rw [if_neg e]
      have e1 : fl = 1 := by
        rcases hb.2.2.2 with ⟨q, _⟩ | ⟨q, _⟩
        · exact q
        · exact absurd q e
      subst e1
      exact k g T' 1 hb (fun q => absurd q (by decide))
  rcases hx with hx | ⟨v, hv, hx, hm⟩
  · subst hx
    refine S285n ?_
    rw [if_neg (fun q => q rfl)]
    exact same (fun v hv q => absurd q.symm (nI_ne1 (by omega)))
  · refine S285 rfl hx hz hn hb.2.1 hs hv hc (fun q => ?_) (fun q => ?_)
    · rw [if_pos (by decide)]
      exact k _ _ 1 (hb.step hn hs hv hm q) (fun q => absurd q (by decide))
    · rw [if_neg (fun q => q rfl)]
      refine same (fun v' hv' q' => ?_)
      rw [hx, nI_eq (by omega) (by omega)] at q'
      rw [← q']
      exact q
/-- a move by the DISH d -/
def MvD (M : Nat → Int32) (big : Nat → Nat) (cw s d v c : Nat) : Prop := v < 2 ^ aN M ∧ ((mkC M big (nI s) d ∧ mkT M (nI s) d = nI v ∧ c = cst M cw d) ∨ (∃ o, o < d ∧ poC M big (nI s) (nI s) d o ∧ poT M (nI s) d o = nI v ∧ c = cst M cw d) ∨ (bt (nI s) d = true ∧ nI s &&& (ishl 1 (nI d) ^^^ (-1)) = nI v ∧ c = 1))
theorem Mv_D {v : Nat} (h : Mv M big cw s v c) : ∃ d, d < aN M ∧ MvD M big cw s d v c := by
  obtain ⟨hv, code, hm⟩ := h
  rcases mvs_mem.mp hm with ⟨d, h1, h2, h3, h4⟩ | ⟨d, o, h1, h2, h3, h4⟩ | ⟨d, h1, h2, h4⟩
  · rw [Prod.mk.injEq, Prod.mk.injEq] at h4
    exact ⟨d, h1, hv, Or.inl ⟨h3, h4.1.symm, h4.2.1⟩⟩
  · rw [Prod.mk.injEq, Prod.mk.injEq] at h4
    exact ⟨d, h1, hv, Or.inr (Or.inl ⟨o, h2, h3, h4.1.symm, h4.2.1⟩)⟩
  · rw [Prod.mk.injEq, Prod.mk.injEq] at h4
    exact ⟨d, h1, hv, Or.inr (Or.inr ⟨h2, h4.1.symm, h4.2.1⟩)⟩
theorem Mv_pour {d o v : Nat} (hd : d < aN M) (ho : o < d) (hp : poC M big (nI s) (nI s) d o) (hv : v < 2 ^ aN M) (e : poT M (nI s) d o = nI v) : Mv M big cw s v (cst M cw d) := ⟨hv, _, mvs_mem.mpr (Or.inr (Or.inl ⟨d, o, hd, ho, hp, by rw [e]⟩))⟩
theorem Mv_wash {d v : Nat} (hd : d < aN M) (hb : bt (nI s) d = true) (hv : v < 2 ^ aN M) (e : nI s &&& (ishl 1 (nI d) ^^^ (-1)) = nI v) : Mv M big cw s v 1 := ⟨hv, _, mvs_mem.mpr (Or.inr (Or.inr ⟨d, hd, hb, by rw [e]⟩))⟩
theorem cst_alone {d : Nat} (h : aPa M d = (-1)) : cst M cw d = cw * ix (aW M d) + 1 := by
  unfold cst wP
  rw [if_pos h]
theorem S286 (hw : Wf M) (hM : MA h M) (hf : MFit h M big) (hT : TG h M big cw goal T) (hs : s < 2 ^ aN M) {bw : Int32} (hbw : (cw = 0 ∧ bw = 0) ∨ (cw = 4096 ∧ bw = 1)) (kk : ∀ g T' fl, Bet1 h g M big cw goal T T' s fl → (fl = 0 → ∀ v c, Mv M big cw s v c → ¬ bet T s v c) → C fl g) : W286 (nI s) bw h C := by
  have h12 := hw.n12
  have p12 : 2 ^ aN M ≤ 2 ^ 12 := Nat.pow_le_pow_right (by omega) h12
  have hcw : cw = 0 ∨ cw = 4096 := hbw.elim (fun q => Or.inl q.1) (fun q => Or.inr q.1)
  have hss : St (aN M) (nI s) := St_nI hs
  unfold W286 B286_5
  refine LFP.up (aN M) (fun j q => q.2.1 = nI j ∧ ∃ T', Bet1 h q.2.2 M big cw goal T T' s q.1 ∧ (q.1 = 0 → ∀ d, d < j → ∀ v c, MvD M big cw s d v c → ¬ bet T s v c)) ?_ ?_ (Nat.zero_le _) ⟨rfl, T, ⟨Sm.refl, hT, fun _ _ => rfl, Or.inr ⟨rfl, rfl⟩⟩, fun _ d hd => absurd hd (Nat.not_lt_zero _)⟩
  · rintro X j ⟨x3, x4, g⟩ hj ⟨e1, T1, e2, e3⟩ ih
    (try dsimp only at e1 e2 e3)
    subst e1
    have n208 : ¬ i208 198 := by unfold i208; omega
    have hMg := hM.sm e2.1 n208
    have hfg := hf.sm e2.1 (by unfold i208; omega)
    unfold F286_5
    (try dsimp only)
    rw [hN0 hMg hw, if_neg (nI_ge hj (by omega))]
    refine S250 j rfl hss (by omega) (by omega) (fun eb => ?_) (fun eb => ?_)
    · /- it stands: to WASH -/
      rw [if_neg (by decide)]
      unfold B286_46 B286_51
      obtain ⟨v, hv, ev⟩ := St_and (ishl 1 (nI j) ^^^ (-1)) hss
      refine try1 (A := fun fl g => X (fl, nI j + 1, g)) (c := 1) h12 e2 hs rfl (by omega) (Or.inr ⟨v, hv, ev, Mv_wash hj eb hv ev⟩) (fun g' T'' fl' b1 b2 => ih _ ⟨nI_1 j, T'', b1, fun q d hd v' c' hm => ?_⟩)
      obtain ⟨q1, q2⟩ := b2 q
      by_cases ed : d = j
      · subst ed
        rcases hm.2 with ⟨m1, _⟩ | ⟨o, _, m1, _⟩ | ⟨_, m2, m3⟩
        · exact absurd ((mk_not (by omega) m1).symm.trans eb) (by decide)
        · exact absurd (m1.2.2.1.symm.trans eb) (by decide)
        · rw [m3]; exact q2 v' hm.1 m2
      · exact e3 q1 d (by omega) v' c' hm
    · rw [if_pos rfl]
      /- to POUR, behind it -/
      have pours : ∀ g0 T0 fl0, Bet1 h g0 M big cw goal T T0 s fl0 → (fl0 = 0 → (∀ d, d < j → ∀ v c, MvD M big cw s d v c → ¬ bet T s v c) ∧ ∀ v, v < 2 ^ aN M → mkC M big (nI s) j → mkT M (nI s) j = nI v → ¬ bet T s v (cst M cw j)) → B286_103 (nI s) bw (nI j) fl0 0 g0 C X := by
        intro g0 T0 fl0 b0 nb0
        unfold B286_103
        refine LFP.up j (fun o q => q.2.1 = nI o ∧ ∃ T', Bet1 h q.2.2 M big cw goal T T' s q.1 ∧ (q.1 = 0 → (∀ d, d < j → ∀ v c, MvD M big cw s d v c → ¬ bet T s v c) ∧ (∀ v, v < 2 ^ aN M → mkC M big (nI s) j → mkT M (nI s) j = nI v → ¬ bet T s v (cst M cw j)) ∧ ∀ o', o' < o → ∀ v, v < 2 ^ aN M → poC M big (nI s) (nI s) j o' → poT M (nI s) j o' = nI v → ¬ bet T s v (cst M cw j))) ?_ ?_ (Nat.zero_le _) ⟨rfl, T0, b0, fun q => ⟨(nb0 q).1, (nb0 q).2, fun o' ho' => absurd ho' (Nat.not_lt_zero _)⟩⟩
        · rintro Y o ⟨y3, y5, g1⟩ ho ⟨f1, T2, f2, f3⟩ ih2
          (try dsimp only at f1 f2 f3)
          subst f1
          have hMg1 := hM.sm f2.1 n208
          have hfg1 := hf.sm f2.1 (by unfold i208; omega)
          unfold F286_103
          (try dsimp only)
          rw [if_neg (nI_ge ho (by omega))]
          have cont : ∀ (x2 : Int32) (sum : Int32), (x2 = (-1) ∧ ¬ poC M big (nI s) (nI s) j o ∨ poC M big (nI s) (nI s) j o ∧ x2 = poT M (nI s) j o ∧ sum = nI (cst M cw j)) → (∃ c, sum = nI c ∧ c ≤ 405505) → W285 (nI s) x2 sum g1 (fun v6 h7 => if ¬ v6 = 0 then (Y (1, (nI o + 1), h7)) else (if y3 = 0 then (Y (0, (nI o + 1), h7)) else (Y (1, (nI o + 1), h7)))) := by
            intro x2 sum hx2 ⟨c0, hc0, hc1⟩
            rcases hx2 with ⟨z1, z2⟩ | ⟨z1, z2, z3⟩
            · refine try1 (A := fun fl g => Y (fl, nI o + 1, g)) (c := c0) h12 f2 hs hc0 hc1 (Or.inl z1) (fun g' T'' fl' b1 b2 => ih2 _ ⟨nI_1 o, T'', b1, fun q => ?_⟩)
              obtain ⟨w1, w2, w3⟩ := f3 (b2 q).1
              refine ⟨w1, w2, fun o' ho' v hv hp he => ?_⟩
              by_cases eo : o' = o
              · subst eo; exact absurd hp z2
              · exact w3 o' (by omega) v hv hp he
            · obtain ⟨v, hv, ev⟩ := poT_St (o := o) hw hss hj
              refine try1 (A := fun fl g => Y (fl, nI o + 1, g)) (c := cst M cw j) h12 f2 hs z3 (cst_le hw hj hcw).2 (Or.inr ⟨v, hv, by rw [z2, ev], Mv_pour hj ho z1 hv ev⟩) (fun g' T'' fl' b1 b2 => ih2 _ ⟨nI_1 o, T'', b1, fun q => ?_⟩)
              obtain ⟨w1, w2, w3⟩ := f3 (b2 q).1
              refine ⟨w1, w2, fun o' ho' v' hv' hp he => ?_⟩
              by_cases eo : o' = o
              · subst eo
                exact (b2 q).2 v' hv' (by rw [z2, he])
              · exact w3 o' (by omega) v' hv' hp he
          have wj : ∃ w, w ≤ 99 ∧ M (16 + 8 * j + 0) = nI w := hw.wN hj
          obtain ⟨wv, wv1, wv2⟩ := wj
          have suml : (cw = 0 → (1 : Int32) + 0 = nI 1) := fun _ => rfl
          have go : ∀ x2 : Int32, (x2 = (-1) ∧ ¬ poC M big (nI s) (nI s) j o ∨ poC M big (nI s) (nI s) j o ∧ x2 = poT M (nI s) j o) → (if bw = 0 then (B286_142 (nI s) bw y3 (nI j) (nI o) (nI s) x2 1 0 g1 C X Y) else (W251 (nI j) 0 g1 (fun v6 => B286_142 (nI s) bw y3 (nI j) (nI o) (nI s) x2 1 (4096 * v6) g1 C X Y))) := by
            intro x2 hx2
            unfold B286_142 B286_153
            rcases hbw with ⟨b1, b2⟩ | ⟨b1, b2⟩
            · rw [if_pos b2]
              refine cont x2 _ ?_ ⟨1, rfl, by omega⟩
              rcases hx2 with q | ⟨q1, q2⟩
              · exact Or.inl q
              · refine Or.inr ⟨q1, q2, ?_⟩
                unfold cst
                rw [b1, Nat.zero_mul]
                rfl
            · rw [if_neg (by rw [b2]; decide)]
              refine S251 j 0 hMg1 rfl rfl (by omega) (by omega) ?_
              rw [wv2]
              have esum : (1 : Int32) + 4096 * nI wv = nI (4096 * wv + 1) := by
                show nI 1 + nI 4096 * nI wv = _
                rw [pk_mul, nI_add, Nat.add_comm]
              refine cont x2 _ ?_ ⟨4096 * wv + 1, esum, by omega⟩
              rcases hx2 with q | ⟨q1, q2⟩
              · exact Or.inl q
              · refine Or.inr ⟨q1, q2, ?_⟩
                rw [cst_alone q1.2.1, esum, b1]
                unfold aW
                rw [wv2, ix_n (by omega)]
          refine S268 hw hMg1 hfg1 hss hss rfl rfl hj (by omega) (fun q => ?_) (fun q => ?_)
          · exact go _ (Or.inr ⟨q, rfl⟩)
          · exact go _ (Or.inl ⟨rfl, q⟩)
        · rintro Y ⟨y3, y5, g1⟩ ⟨f1, T2, f2, f3⟩
          (try dsimp only at f1 f2 f3)
          subst f1
          unfold F286_103
          (try dsimp only)
          rw [if_pos (nI_le (Nat.le_refl _) (by omega))]
          refine ih _ ⟨nI_1 j, T2, f2, fun q d hd v c hm => ?_⟩
          obtain ⟨w1, w2, w3⟩ := f3 q
          by_cases ed : d = j
          · subst ed
            rcases hm.2 with ⟨m1, m2, m3⟩ | ⟨o, m0, m1, m2, m3⟩ | ⟨m1, _⟩
            · rw [m3]; exact w2 v hm.1 m1 m2
            · rw [m3]; exact w3 o m0 v hm.1 m1 m2
            · exact absurd (eb.symm.trans m1) (by decide)
          · exact w1 d (by omega) v c hm
      have wj := hw.wPb hj
      obtain ⟨wv, wv1, wv2⟩ := wj
      have cont : ∀ (x2 : Int32) (sum : Int32), sum = nI (cst M cw j) → (x2 = (-1) ∧ ¬ mkC M big (nI s) j ∨ mkC M big (nI s) j ∧ x2 = mkT M (nI s) j) → W285 (nI s) x2 sum g (fun v3 h4 => if ¬ v3 = 0 then (B286_103 (nI s) bw (nI j) 1 0 h4 C X) else (if x3 = 0 then (B286_103 (nI s) bw (nI j) 0 0 h4 C X) else (B286_103 (nI s) bw (nI j) 1 0 h4 C X))) := by
        intro x2 sum hsum hx2
        rcases hx2 with ⟨z1, z2⟩ | ⟨z1, z2⟩
        · refine try1 (A := fun fl g => B286_103 (nI s) bw (nI j) fl 0 g C X) (c := cst M cw j) h12 e2 hs hsum (cst_le hw hj hcw).2 (Or.inl z1) (fun g' T'' fl' b1 b2 => pours g' T'' fl' b1 (fun q => ⟨e3 (b2 q).1, fun v hv hm _ => absurd hm z2⟩))
        · obtain ⟨v, hv, ev⟩ := mkT_St hw hss hj
          refine try1 (A := fun fl g => B286_103 (nI s) bw (nI j) fl 0 g C X) (c := cst M cw j) h12 e2 hs hsum (cst_le hw hj hcw).2 (Or.inr ⟨v, hv, by rw [z2, ev], Mv_make hw hs hj z1 hv ev⟩) (fun g' T'' fl' b1 b2 => pours g' T'' fl' b1 (fun q => ⟨e3 (b2 q).1, fun v' hv' hm he => (b2 q).2 v' hv' (by rw [z2, he])⟩))
      have go : ∀ x2 : Int32, (x2 = (-1) ∧ ¬ mkC M big (nI s) j ∨ mkC M big (nI s) j ∧ x2 = mkT M (nI s) j) → (if bw = 0 then (B286_83 (nI s) bw x3 (nI j) (nI s) x2 1 0 g C X) else (W255 (nI j) g (fun v3 => B286_83 (nI s) bw x3 (nI j) (nI s) x2 1 (4096 * v3) g C X))) := by
        intro x2 hx2
        unfold B286_83 B286_94
        rcases hbw with ⟨b1, b2⟩ | ⟨b1, b2⟩
        · rw [if_pos b2]
          refine cont x2 _ ?_ hx2
          unfold cst
          rw [b1, Nat.zero_mul]
          rfl
        · rw [if_neg (by rw [b2]; decide)]
          refine S255 hw j hMg rfl hj ?_
          refine cont x2 _ ?_ hx2
          unfold cst
          rw [wv2, ix_n (by omega), b1]
          show nI 1 + nI 4096 * nI wv = _
          rw [pk_mul, nI_add, Nat.add_comm]
      refine S267 hw hMg hfg hss rfl hj (fun q => ?_) (fun q => ?_)
      · exact go _ (Or.inr ⟨q, rfl⟩)
      · exact go _ (Or.inl ⟨rfl, q⟩)
  · rintro X ⟨x3, x4, g⟩ ⟨e1, T1, e2, e3⟩
    (try dsimp only at e1 e2 e3)
    subst e1
    have n208 : ¬ i208 198 := by unfold i208; omega
    have hMg := hM.sm e2.1 n208
    unfold F286_5
    (try dsimp only)
    rw [hN0 hMg hw, if_pos (nI_le (Nat.le_refl _) (by omega))]
    refine ⟨?_, kk g T1 x3 e2 (fun q v c hm => ?_)⟩
    · rcases e2.2.2.2 with ⟨q, _⟩ | ⟨q, _⟩
      · exact Or.inr q
      · exact Or.inl q
    · obtain ⟨d, hd, hm'⟩ := Mv_D hm
      exact e3 q d hd v c hm'
end BT
