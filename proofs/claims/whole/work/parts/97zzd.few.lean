/-! firstAt, fewest, trustful, rounds -/
section FEW
variable {h g h2 g2 : TH} {L z c i t : Nat} {xs : Nat → Int32} {G : Int32 → Nat → Int32} {T S : Nat → Prop} {D : Int32 → TH → Prop} {x y : Int32} {M : Nat → Int32}
theorem Q177 (hI : Inv L xs h z) (hz : z < 1000) (k : Jn L xs z (W294 x y) D) : W177 x y h D := by
  obtain ⟨-, G, c, i, r, se⟩ := id hI
  obtain ⟨a16, len, P, ⟨b1, b2, b3, b4, b5⟩, q1, q2, q3, q4, q5, q6⟩ := se.2.2.2.2.2.2.2.1
  have eR : h.R 139 16 = a16 := by unfold TH.R; rw [b1]; rfl
  unfold W177 W194
  by_cases y0 : y < 0
  · rw [if_pos y0]
    refine k.st hI hz (fun Y hY => ?_)
    unfold W294; rw [if_pos y0]; exact hY
  rw [if_neg y0]
  by_cases y2 : y ≤ 2
  · rw [if_pos y2]
    by_cases x0 : x < 0
    · rw [if_pos x0]
      refine k.st hI hz (fun Y hY => ?_)
      unfold W294; rw [if_neg y0, if_pos y2, if_pos x0]; exact hY
    rw [if_neg x0, q2]
    obtain ⟨j, hj, ex⟩ := nI_of x0
    subst ex
    by_cases jl : j < len
    · rw [if_neg (fun w => by rw [nI_leI (by omega) hj] at w; omega), eR]
      refine ⟨b1, b2, ?_⟩
      rw [if_pos ((nI_ltI hj (by omega)).mpr (by omega))]
      refine ⟨b1, ⟨b2, inb_n (by omega), by omega⟩, ?_⟩
      rw [ix_n hj, (q5 j jl).1]
      have pj := (q5 j jl).2
      obtain ⟨f1, f2, f3⟩ := q6 j jl
      have ref : ∀ {s : Int32} {Y : Int32 → TH → Prop}, (if ¬ y = 2 then (if ¬ y = 0 then (W206 (nI (mvDsh (P j))) (h.sI 0 0 s) (fun v5 h6 => Y v5 h6)) else (W206 (nI (mvK (P j))) (h.sI 0 0 s) (fun v7 h8 => Y v7 h8))) else (W288 (mvO (P j)) (h.sI 0 0 s) (fun v9 h10 => Y v9 h10))) → W294 (nI j) y (h.sI 0 0 s) Y := fun {s} {Y} w => by
        unfold W294
        rw [if_neg y0, if_pos y2, if_neg x0, show (h.sI 0 0 s).I 197 30 = _ from q3, if_pos ((nI_ltI hj (by omega)).mpr jl), ix_n hj, show (h.sI 0 0 s).I 209 j = _ from f1, show (h.sI 0 0 s).I 210 j = _ from f2, show (h.sI 0 0 s).I 211 j = _ from f3]
        have ib : inb (nI j) 4096 := inb_n (by omega)
        by_cases e2 : y = 2
        · rw [if_neg (fun n => n e2)] at w ⊢; exact ⟨ib, w⟩
        · rw [if_pos e2] at w ⊢
          by_cases e0 : y = 0
          · rw [if_neg (fun n => n e0)] at w ⊢; exact ⟨ib, w⟩
          · rw [if_pos e0] at w ⊢; exact ⟨ib, w⟩
      have d1 : nI (P j) / 144 = nI (P j / 144) := pk_div (d := 144) (by omega) (by omega) (by omega)
      have d2 : nI (P j) / 12 = nI (P j / 12) := pk_div (d := 12) (by omega) (by omega) (by omega)
      have d3 : irem (nI (P j / 12)) 12 = nI (P j / 12 % 12) := pk_rem (d := 12) (by omega) (by omega) (by omega)
      have d4 : irem (nI (P j)) 12 = nI (P j % 12) := pk_rem (d := 12) (by omega) (by omega) (by omega)
      unfold W46 W195 W193 W194
      dsimp only
      rw [d1, d2, d3, d4]
      by_cases e0 : y = 0
      · rw [if_neg (fun n => n e0), if_pos (nI_ne1 (by omega))]
        refine k.st hI hz (fun Y hY => ref ?_)
        rw [if_pos (by rw [e0]; decide), if_neg (fun n => n e0)]; exact hY
      rw [if_pos e0]
      by_cases e1 : y = 1
      · rw [if_neg (fun n => n e1), if_pos (nI_ne1 (by omega))]
        refine k.st hI hz (fun Y hY => ref ?_)
        rw [if_pos (by rw [e1]; decide), if_pos e0]; exact hY
      rw [if_pos e1]
      have e2 : y = 2 := by
        obtain ⟨m, hm, em⟩ := nI_of2 (n := 2) (M := 2) rfl y0 y2
        have : m = 0 ∨ m = 1 ∨ m = 2 := by omega
        rcases this with v | v | v <;> subst v
        · exact absurd em e0
        · exact absurd em e1
        · exact em
      have o1 : nI (P j / 144) = 1 ↔ P j / 144 = 1 := nI_eq (b := 1) (by omega) (by omega)
      by_cases e3 : P j / 144 = 1
      · rw [if_neg (fun n => n (o1.mpr e3)), if_pos (nI_ne1 (by omega))]
        refine k.st hI hz (fun Y hY => ref ?_)
        rw [if_neg (fun n => n e2)]
        unfold W288 W206 mvO
        rw [if_pos e3, if_pos (nI_ne1 (by omega))]; exact hY
      · rw [if_pos (fun w => e3 (o1.mp w)), if_neg (fun n => n rfl)]
        refine k.st hI hz (fun Y hY => ref ?_)
        rw [if_neg (fun n => n e2)]
        unfold W288 W205 mvO
        rw [if_neg e3, if_neg (fun n => n rfl)]; exact hY
    · rw [if_pos ((nI_leI (by omega) hj).mpr (by omega))]
      refine k.st hI hz (fun Y hY => ?_)
      unfold W294; rw [if_neg y0, if_pos y2, if_neg x0, show (h.sI 0 0 6).I 197 30 = _ from q3, if_neg (fun w => by rw [nI_ltI hj (by omega)] at w; omega)]; exact hY
  · rw [if_neg y2]
    refine k.st hI hz (fun Y hY => ?_)
    unfold W294; rw [if_neg y0, if_neg y2]; exact hY
theorem sF_f {t f : Nat} (ht : t = 178 ∨ t = 184) (h5 : 5 ≤ f) (h7 : f ≤ 7) : sF t f := Or.inr (Or.inl ⟨ht, h5, h7⟩)
theorem hs0 (w : Nat → Nat) : hsum w 0 6 = 0 := by simp [hsum, fb_sm]
/-- a FEWEST search is through -/
theorem few_own {tr : Bool} {base L' b5 b6 b7 F X P f s : Nat} {om ot : Nat → Int32} {lv : Nat → Nat} {Sc : Int32} (se : Se h G c) (hn : 222 ≤ h.n) (hb : h.n + 5 ≤ 1000000) (ht : (t = 178 ∧ tr = false ∧ base = 2) ∨ (t = 184 ∧ tr = true ∧ base = 3)) (p1 : FwPost h g t) (ok : FwO g t M Sc tr base L' b5 b6 b7 om ot lv F X P) {om' ot' : Nat → Int32} {lv' : Nat → Nat} {F' X' P' : Nat} (wk : wKeep g g2 t b5 b6 b7) (ok2 : FwO g2 t M Sc tr base L' b5 b6 b7 om' ot' lv' F' X' P') (fp : FPu M Sc tr om' ot' lv' F' X' P' f) (hf : f ≤ P') (hP : P' ≤ 12) (e2 : g.I t 2 = nI s) (e4 : g.I t 4 = nI f) (hcl : clo M Sc) (eG : G (nI s) = M) (hs : s ≤ c) : Pst h g2 t ∧ Own g2 G t c ∧ Fst g2 ∧ g2.n ≤ h.n + 3 ∧ g2.sl ≤ h.sl + 20000 := by
  obtain ⟨u1, u2, u3, u4⟩ := p1
  obtain ⟨v1, v2⟩ := wk
  have u1n := u1.1
  have ht2 : t = 178 ∨ t = 184 := by omega
  have s6 : six t := by unfold six; omega
  obtain ⟨⟨p5, p6, p7⟩, -, -, -, ⟨d1, d2, d3⟩, -, m5, m6, m7⟩ := id ok2.2.1
  have pg5 : g.P t 5 = some b5 := ok.2.1.1.1
  have pg6 : g.P t 6 = some b6 := ok.2.1.1.2.1
  have pg7 : g.P t 7 = some b7 := ok.2.1.1.2.2
  have sf : ∀ f, sF t f → 5 ≤ f ∧ f ≤ 7 := fun f q => by unfold sF at q; omega
  have ptr : ∀ f b, 5 ≤ f → f ≤ 7 → g.P t f = some b → sO h t b ∨ (h.n ≤ b ∧ b < 1000000) := fun f b f1 f2 w => by
    rcases u2 f b f1 f2 w with v | v
    · exact Or.inl (Or.inr ⟨f, sF_f ht2 f1 f2, v⟩)
    · exact Or.inr ⟨v.1, by omega⟩
  have rtt : ∀ a, t ≤ a → a < t + 6 → rt t a := fun a h1 h2 => by unfold rt; omega
  have gr1 : Gr (sO h t) h g2 := by
    have w1 : Gr (fun a => sO h t a ∨ (h.n ≤ a ∧ a < 1000000)) h g := u1.mono (fun a ha => by
      rcases ha with ha | ⟨f, f1, f2, f3⟩
      · exact Or.inl (Or.inl (rtt a ha.1 ha.2))
      · exact Or.inl (Or.inr ⟨f, sF_f ht2 f1 f2, f3⟩))
    have w2 : Gr (fun a => sO h t a ∨ (h.n ≤ a ∧ a < 1000000)) g g2 := v1.gr.mono (fun a ha => by
      rcases ha with ha | ha | ha | ha
      · subst ha; exact Or.inl (Or.inl (rtt a (Nat.le_refl _) (by omega)))
      · subst ha; exact ptr 5 a (by omega) (by omega) pg5
      · subst ha; exact ptr 6 a (by omega) (by omega) pg6
      · subst ha; exact ptr 7 a (by omega) (by omega) pg7)
    have w := Gr.trans w1 w2
    exact ⟨w.1, w.2.1, fun a ha hs => w.2.2 a ha (fun v => v.elim hs (fun v => by omega))⟩
  have vn := v1.n
  have vs := v1.sl
  have pp : Pst h g2 t := by
    refine ⟨gr1, fun f a q e => ?_, fun f f' a q q' e e' => ?_⟩
    · rw [v1.P] at e; rw [vn]; exact u2 f a (sf f q).1 (sf f q).2 e
    · have val : ∀ f, 5 ≤ f → f ≤ 7 → g2.P t f = some a → (f = 5 ∧ a = b5 ∨ f = 6 ∧ a = b6 ∨ f = 7 ∧ a = b7) := fun f f1 f2 w => by
        have : f = 5 ∨ f = 6 ∨ f = 7 := by omega
        rcases this with v | v | v <;> subst v
        · rw [p5] at w; injection w with w; exact Or.inl ⟨rfl, w.symm⟩
        · rw [p6] at w; injection w with w; exact Or.inr (Or.inl ⟨rfl, w.symm⟩)
        · rw [p7] at w; injection w with w; exact Or.inr (Or.inr ⟨rfl, w.symm⟩)
      have w1 := val f (sf f q).1 (sf f q).2 e
      have w2 := val f' (sf f' q').1 (sf f' q').2 e'
      clear val sf e e' ptr rtt u2
      rcases w1 with w1 | w1 | w1 <;> rcases w2 with w2 | w2 | w2 <;> omega
  have fw : FwC g2 t tr base G := by
    have lo := ok2.2.2.2.2.2.2.2.2.2.1
    have i2 : g2.I t 2 = nI s := by rw [v2 2 (by omega) (by omega) (by omega)]; exact e2
    have i3 : g2.I t 3 = Sc := ok2.2.2.2.2.1
    refine ⟨L', b5, b6, b7, ok2.1, ok2.2.1, ?_, ?_, ok2.2.2.2.1, Or.inr ⟨om', ot', lv', F', X', P', f, ?_, hf, hP, ?_, ?_, ?_⟩⟩
    · rw [lo.1 0 (by omega), hs0]; rfl
    · rw [lo.2 0 (by omega), hs0]; rfl
    · rw [v2 4 (by omega) (by omega) (by omega)]; exact e4
    · rw [i2, i3, eG]; exact hcl
    · rw [i2, i3, eG]; exact ok2
    · rw [i2, i3, eG]; exact fp
  refine ⟨pp, ⟨fun q => by omega, fun q => by omega, fun q => by omega, fun q => ?_, fun q => ?_, fun q => by omega, fun f q => ?_⟩, se.2.2.2.2.2.2.2.1.oth se s6 (by omega) pp hn (by omega), by omega, by omega⟩
  · subst q
    rcases ht with ⟨-, e1, e2⟩ | ⟨e, -⟩
    · subst e1; subst e2; exact fw
    · omega
  · subst q
    rcases ht with ⟨e, -⟩ | ⟨-, e1, e2⟩
    · omega
    · subst e1; subst e2; exact fw
  · have : f = 2 := by omega
    subst this
    right
    exact ⟨s, hs, by rw [v2 2 (by omega) (by omega) (by omega)]; exact e2⟩
theorem Few_iff {E E' : Nat → Prop} (e : ∀ p, E p ↔ E' p) {r : Option Nat} (hr : Few E r) : Few E' r := by
  cases r with
  | none => exact fun p hp w => hr p hp ((e p).mpr w)
  | some p => exact ⟨hr.1, (e p).mp hr.2.1, fun k hk w => hr.2.2 k hk ((e k).mpr w)⟩
theorem FSo_Few {Sc goal : Int32} {tr : Bool} {f : Nat} {r : Option Nat} (hr : FSo M Sc tr goal f r) (lo : ∀ Q, Q < f → ¬ FGo M Sc tr goal Q) (up : ∀ P Q, P ≤ Q → FGo M Sc tr goal P → FGo M Sc tr goal Q) : Few (fun P => FGo M Sc tr goal P) r := by
  cases r with
  | none => exact fun p hp w => hr (up p 12 hp w)
  | some p => exact ⟨hr.2.1, hr.1, fun k hk => if q : f ≤ k then hr.2.2 k q hk else lo k (by omega)⟩
def fv (r : Option Nat) : Int32 := match r with | none => (-1) | some p => nI p
theorem all_bt1 {n d : Nat} (hn : n ≤ 12) (hd : d < 32) : bt (setOf (fun _ => true) n) d = decide (d < n) := by
  rw [bt_setOf _ n (by omega)]; simp
theorem clo_all (hw : Wf M) : clo M (setOf (fun _ => true) (aN M)) := by
  have h12 := hw.n12
  have al : ∀ a, St (aN M) a → sb a (setOf (fun _ => true) (aN M)) := fun a ha d hd q => by
    rw [all_bt1 h12 hd]; exact decide_eq_true (St_d h12 ha hd q)
  refine fun d hd _ => ⟨al _ ?_, al _ (St_mono (hw.2.2.2.2.2 d hd).2.2.2.2.1 (by omega))⟩
  rcases (hw.2.2.2.2.2 d hd).2.2.2.2.2.2.2.2 with e | ⟨o, o1, o2, -⟩
  · rw [gP_alone e]; exact St_bit hd (by omega)
  · rw [gP_pair o2 (by omega)]; exact St_or (St_bit hd (by omega)) (St_bit o1 (by omega)) (by omega)
theorem W195_f {r : Option Nat} (hr : ∀ p, r = some p → p ≤ 5000) (k : D (fv r) (h.sI 0 0 (rs r))) : W195 (fv r) h D := by
  unfold W195 W193 W194
  cases r with
  | none => rw [if_neg (fun n => n rfl)]; exact k
  | some c => have := hr c rfl; rw [if_pos (show ¬ fv (some c) = -1 from nI_ne1 (by omega))]; exact k
theorem Few.le {E : Nat → Prop} {r : Option Nat} (hr : Few E r) : ∀ p, r = some p → p ≤ 5000 := fun p e => by
  subst e; have := hr.1; omega
theorem FGo.up {Sc goal : Int32} {tr : Bool} {P Q : Nat} (hPQ : P ≤ Q) (q : FGo M Sc tr goal P) : FGo M Sc tr goal Q := by
  obtain ⟨m, m1, m2⟩ := q
  exact ⟨m, m1.mono hPQ, m2⟩
theorem Q178 (hI : Inv L xs h z) (hz : z < 1000) (k : Jn L xs z (W297 x) D) : W178 x h D := by
  obtain ⟨G, c, i, M, s, r, se, hi, cur, hw, hc, hM, hs, sc, s1, eG⟩ := hI.sr
  have hn := hI.nn
  have h12 := hw.n12
  have cur' : ix (h.I 0 10) = i := by rw [cur, ix_n (by omega)]
  have hin : inb (h.I 0 10) 4 := by rw [cur]; exact inb_n hi
  have s6 : six 178 := by unfold six; omega
  unfold W178 W192
  dsimp only
  rw [cur']
  refine ⟨hin, S56 hw hc.1 (fun hg => ?_) (fun e => ?_)⟩
  · rw [if_pos (by decide)]
    refine ⟨hin, hin, S57 hw hc.1 ⟨hin, S69 hw hc.1 hc.2.1 hg (fun ca hca => ?_)⟩⟩
    have hcl := clo_all hw
    have hS : St (aN M) (setOf (fun _ => true) (aN M)) := St_setOf _ (by omega)
    have hsb : sb x (setOf (fun _ => true) (aN M)) := fun d hd q => by rw [all_bt1 h12 hd]; exact decide_eq_true (St_d h12 hg hd q)
    generalize eSc : setOf (fun _ => true) (aN M) = Sc at hcl hS hsb
    have bl := bnd_le12 (Sc := ca) hw (pc_le x) (aN M) (Nat.le_refl _)
    refine S1 hw hc (is3_i hi) se.2.2.2.2.1 (by rw [hs]; exact eG) (by rw [hs]; exact nI_ne1 (by omega)) hS hcl (by
      have : fb_ct (bt Sc) 12 ≤ 12 := fb_ct_le _ _
      have : 2 ^ fb_ct (bt Sc) 12 ≤ 2 ^ 12 := Nat.pow_le_pow_right (by omega) this
      omega) rfl bl hn.1 (by omega) (fun g L' b5 b6 b7 om ot lv F X P f p1 p2 p3 p4 p5 p6 p7 p8 p9 p10 => ?_)
    refine S5 hw hcl hg p5 p6 ⟨p7, is3_i hi, p8⟩ p2 p3 (fun g' om' ot' lv' F' X' P' r' wk ok fp f1 f2 fso => ?_)
    obtain ⟨o1, o2, o3, o4, o5⟩ := few_own se hn.1 (by omega) (Or.inl ⟨rfl, rfl, rfl⟩) p1 p2 wk ok fp f1 f2 (p9.trans hs) p10 hcl eG sc
    have fr := FSo_Few fso (fun Q hQ w => by
      have := bnd_le (M := M) (Sc := ca) (aN M) (w.pcle hw hcl) (fun d hd q => w.ownle hw hcl hca hd q)
      omega) (fun P Q hPQ w => w.up hPQ)
    show W195 (fv r') g' _
    refine W195_f fr.le ?_
    obtain ⟨t1, t2, t3⟩ := hI.sks (s := rs r') se s6 o1
    refine k _ _ t1 (fun Y hY => S297 hw (t2 M hM) (fun n => (n hg).elim) (fun g2 r2 fk _ fr2 => ?_))
    have er : r2 = r' := Few_one fr2 (Few_iff (fun p => FGo_Rr hw hcl hS hsb) fr)
    subst er
    show Y (fv r2) (g2.sI 197 2 (rs r2))
    refine hY _ (hI.sk hz r se s6 o1 o2 o3 ⟨by omega, by omega⟩ (Sm.sI fk.1 (Or.inl rfl) _) (fun a ha => ?_) (fun j hj => ?_) I_eq)
    · unfold inFw2 at ha
      exact if e : a = 197 then Or.inl e else Or.inr (sp_in (by omega))
    · rw [I_nk (by omega), fk.2 j (by omega) (by omega), I_sI, if_neg (by omega)]
  · rw [if_neg (fun n => n rfl)]
    exact k.st hI hz (fun Y hY => S297 hw (hM.s0 _) (fun _ => hY) (fun _ _ _ hg _ => (hg.no h12 e).elim))
theorem Q180 (hI : Inv L xs h z) (hz : z < 1000) (k : Jn L xs z (W303 x) D) : W180 x h D := by
  obtain ⟨G, c, i, M, s, r, se, hi, cur, hw, hc, hM, hs, sc, s1, eG⟩ := hI.sr
  have hn := hI.nn
  have h12 := hw.n12
  have cur' : ix (h.I 0 10) = i := by rw [cur, ix_n (by omega)]
  have hin : inb (h.I 0 10) 4 := by rw [cur]; exact inb_n hi
  have s6 : six 184 := by unfold six; omega
  unfold W180 W192
  dsimp only
  rw [cur']
  refine ⟨hin, S56 hw hc.1 (fun hg => ?_) (fun e => ?_)⟩
  · rw [if_pos (by decide)]
    refine ⟨hin, S67 hw hc.1 hc.2.1 hg (fun Sc hca => S327 (St_mono hca.1 h12) ?_)⟩
    have p12 := pc_le Sc
    by_cases q8 : pc Sc ≤ 8
    · rw [if_pos (show nI (pc Sc) ≤ 8 from nI_le (b := 8) q8 (by omega))]
      refine ⟨hin, S327 (St_mono hg h12) ?_⟩
      refine S1 hw hc (is3_i hi) se.2.2.2.2.2.1 (by rw [hs]; exact eG) (by rw [hs]; exact nI_ne1 (by omega)) hca.1 hca.2.2.1 (by
        have : 3 ^ fb_ct (bt Sc) 12 ≤ 3 ^ 8 := Nat.pow_le_pow_right (by omega) q8
        omega) rfl (pc_le x) hn.1 (by omega) (fun g L' b5 b6 b7 om ot lv F X P f p1 p2 p3 p4 p5 p6 p7 p8 p9 p10 => ?_)
      refine S5 hw hca.2.2.1 hg p5 p6 ⟨p7, is3_i hi, p8⟩ p2 p3 (fun g' om' ot' lv' F' X' P' r' wk ok fp f1 f2 fso => ?_)
      obtain ⟨o1, o2, o3, o4, o5⟩ := few_own se hn.1 (by omega) (Or.inr ⟨rfl, rfl, rfl⟩) p1 p2 wk ok fp f1 f2 (p9.trans hs) p10 hca.2.2.1 eG sc
      have fr := FSo_Few fso (fun Q hQ w => by
        have := w.pcle hw hca.2.2.1
        omega) (fun P Q hPQ w => w.up hPQ)
      show W195 (fv r') g' _
      refine W195_f fr.le ?_
      obtain ⟨t1, t2, t3⟩ := hI.sks (s := rs r') se s6 o1
      refine k _ _ t1 (fun Y hY => S303 hw (t2 M hM) (fun n => (n hg).elim) (fun Sc2 _ hca2 q => ?_) (fun g2 Sc2 r2 fk _ hca2 _ fr2 => ?_))
      · rw [Clo_one hca2 hca] at q; omega
      have eS := Clo_one hca2 hca
      subst eS
      have er : r2 = r' := Few_one fr2 fr
      subst er
      show Y (fv r2) (g2.sI 197 2 (rs r2))
      refine hY _ (hI.sk hz r se s6 o1 o2 o3 ⟨by omega, by omega⟩ (Sm.sI fk.1 (Or.inl (Or.inl rfl)) _) (fun a ha => ?_) (fun j hj => ?_) I_eq)
      · unfold in212 at ha
        exact if e : a = 197 then Or.inl e else Or.inr (sp_in (by omega))
      · rw [I_nk (by omega), fk.2 j (by omega) (by omega), I_sI, if_neg (by omega)]
    · rw [if_neg (show ¬ nI (pc Sc) ≤ 8 from fun w => q8 ((nI_leI (b := 8) (by omega) (by omega)).mp w))]
      refine k.st hI hz (fun Y hY => S303 hw (hM.s0 _) (fun n => (n hg).elim) (fun Sc2 _ hca2 q => hY) (fun g2 Sc2 r2 fk _ hca2 q _ => ?_))
      rw [Clo_one hca2 hca] at q; omega
  · rw [if_neg (fun n => n rfl)]
    exact k.st hI hz (fun Y hY => S303 hw (hM.s0 _) (fun _ => hY) (fun _ hg _ _ => (hg.no h12 e).elim) (fun _ _ _ _ hg _ _ _ => (hg.no h12 e).elim))
theorem Q183 (hI : Inv L xs h z) (hz : z < 1000) (k : Jn L xs z (W309 x y) D) : W183 x y h D := by
  obtain ⟨G, c, i, M, s, r, se, hi, cur, hw, hc, hM, hs, sc, s1, eG⟩ := hI.sr
  have hn := hI.nn
  have h12 := hw.n12
  have cur' : ix (h.I 0 10) = i := by rw [cur, ix_n (by omega)]
  have hin : inb (h.I 0 10) 4 := by rw [cur]; exact inb_n hi
  have s6 : six 190 := by unfold six; omega
  unfold W183 W192
  dsimp only
  rw [cur']
  refine ⟨hin, S56 hw hc.1 (fun hg => ?_) (fun e => ?_)⟩
  · rw [if_neg (by decide)]
    have bad : (y < nI 1 ∨ nI 4 < y) → D (-1) (h.sI 0 0 1) := fun q => k.st hI hz (fun Y hY => S309 hw (hM.s0 _) (fun _ => hY) (fun g P r _ _ e p1 p4 _ _ => by
      rw [e, nI_ltI (by omega) (by omega), nI_ltI (by omega) (by omega)] at q; omega))
    by_cases q : y < 1
    · rw [if_pos q]; exact bad (Or.inl q)
    rw [if_neg q]
    by_cases q2 : y ≤ 4
    · rw [if_pos q2]
      obtain ⟨P, hP, eP⟩ := nI_of2 (x := y) (n := 4) (M := 4) rfl (fun w => q (Int32.lt_trans w (by decide))) q2
      have hP1 : 1 ≤ P := Nat.pos_of_ne_zero (fun e => q (by rw [eP, e]; decide))
      obtain ⟨L0, a3, a4, rc⟩ := se.2.2.2.2.2.2.1
      refine ⟨hin, S114 hw hc (is3_i hi) rc hg eP hP1 hP hn.1 (by omega) (fun g r' L' b3 b4 rp rc2 rn rb => ?_)⟩
      obtain ⟨u1, u2, u3, u4⟩ := rp
      have sf : ∀ f, sF 190 f → 3 ≤ f ∧ f ≤ 4 := fun f q => by unfold sF at q; omega
      have o1 : Pst h g 190 := by
        refine ⟨u1.mono (fun a ha => ?_), fun f a q e => u2 f a (sf f q).1 (sf f q).2 e, fun f f' a q q' e e' => ?_⟩
        · rcases ha with ha | ⟨f, f1, f2, f3⟩
          · subst ha; left; unfold rt; omega
          · right; exact ⟨f, Or.inr (Or.inr ⟨rfl, f1, f2⟩), f3⟩
        · have n34 := rc2.2.2.2.2.1
          have v : f = 3 ∨ f = 4 := by have := sf f q; omega
          have v' : f' = 3 ∨ f' = 4 := by have := sf f' q'; omega
          rcases v with v | v <;> rcases v' with v' | v' <;> subst v <;> subst v'
          · rfl
          · rw [rc2.1.1] at e; rw [rc2.1.2] at e'; injection e with e; injection e' with e'; omega
          · rw [rc2.1.2] at e; rw [rc2.1.1] at e'; injection e with e; injection e' with e'; omega
          · rfl
      have o2 : Own g G 190 c := ⟨fun q => by omega, fun q => by omega, fun q => by omega, fun q => by omega, fun q => by omega, fun _ => ⟨L', b3, b4, rc2⟩, fun f q => by omega⟩
      have o3 := se.2.2.2.2.2.2.2.1.oth se s6 (by omega) o1 hn.1 (by omega)
      show W195 (fv r') g _
      refine W195_f (fun p e => by have := rb p e; omega) ?_
      obtain ⟨t1, t2, t3⟩ := hI.sks (s := rs r') se s6 o1
      refine k _ _ t1 (fun Y hY => S309 hw (t2 M hM) (fun w => ?_) (fun g2 P2 r2 fk _ eP2 _ _ rn2 _ => ?_))
      · rcases w with w | w
        · exact (w hg).elim
        · rw [eP, nI_ltI (by omega) (by omega), nI_ltI (by omega) (by omega)] at w; omega
      have ep : P2 = P := (nI_eq (by omega) (by omega)).mp (eP2.symm.trans eP)
      subst ep
      have er : r2 = r' := Rnd_one rn2 rn
      subst er
      show Y (fv r2) (g2.sI 197 2 (rs r2))
      refine hY _ (hI.sk hz r se s6 o1 o2 o3 ⟨by omega, by omega⟩ (Sm.sI fk.1 (Or.inl rfl) _) (fun a ha => ?_) (fun j hj => ?_) I_eq)
      · unfold inRd at ha
        exact if e : a = 197 then Or.inl e else Or.inr (sp_in (by omega))
      · rw [I_nk (by omega), fk.2 j (by omega), I_sI, if_neg (by omega)]
    · rw [if_neg q2]; exact bad (Or.inr (Int32.not_le.mp q2))
  · rw [if_pos rfl]
    exact k.st hI hz (fun Y hY => S309 hw (hM.s0 _) (fun _ => hY) (fun _ _ _ _ hg _ _ _ _ _ => (hg.no h12 e).elim))
end FEW
