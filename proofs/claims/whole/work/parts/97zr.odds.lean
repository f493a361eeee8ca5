/-! ODDS: both sides' counts -/
def okG (g : Int32) (s : CK) : Bool := decide (g &&& ((ckS s &&& (ckU s ^^^ (-1))) ^^^ (-1)) = 0)
def odd (M : Nat → Int32) (cn : Nat) (g : Int32) (sd j c : Nat) : Prop := ∃ f : Nat → CK, (∀ i, i < j → ∃ F, prun M cn (drF (nI (sd + i))) F (st00 (nI (sd + i))) = some (f i)) ∧ c = fb_ct (fun i => okG g (f i)) j
section ODD
variable {h : TH} {M : Nat → Int32} {cn sd m i : Nat} {gl : Int32}
theorem odd_one {j c c' : Nat} (a : odd M cn gl sd j c) (b : odd M cn gl sd j c') : c = c' := by
  obtain ⟨f, f1, rfl⟩ := a
  obtain ⟨f', f2, rfl⟩ := b
  refine fb_ct_cong (fun i hi => ?_)
  obtain ⟨F, h1⟩ := f1 i hi
  obtain ⟨G, h2⟩ := f2 i hi
  rw [prun_one h1 h2]
theorem odd_le {j c : Nat} (a : odd M cn gl sd j c) : c ≤ j := by obtain ⟨f, _, rfl⟩ := a; exact fb_ct_le _ _
theorem odd_0 : odd M cn gl sd 0 0 := ⟨fun _ => ck0 0, fun i hi => absurd hi (Nat.not_lt_zero _), rfl⟩
theorem odd_s {j c : Nat} {s : CK} (a : odd M cn gl sd j c) (e : ∃ F, prun M cn (drF (nI (sd + j))) F (st00 (nI (sd + j))) = some s) : odd M cn gl sd (j + 1) (c + if okG gl s then 1 else 0) := by
  obtain ⟨f, f1, rfl⟩ := a
  refine ⟨fun i => if i = j then s else f i, fun i hi => ?_, ?_⟩
  · by_cases u : i = j
    · show ∃ F, prun M cn _ F _ = some (if i = j then s else f i)
      rw [if_pos u, u]; exact e
    · show ∃ F, prun M cn _ F _ = some (if i = j then s else f i)
      rw [if_neg u]; exact f1 i (by omega)
  · rw [fb_ct_succ]
    have e1 : fb_ct (fun i => okG gl (if i = j then s else f i)) j = fb_ct (fun i => okG gl (f i)) j := fb_ct_cong (fun i hi => by
      show okG gl (if i = j then s else f i) = _
      rw [if_neg (by omega)])
    rw [e1]; have e2 : okG gl s = okG gl (if j = j then s else f j) := by rw [if_pos rfl]
    show _ = _ + (if okG gl (if j = j then s else f j) = true then 1 else 0)
    rw [← e2]
theorem S189l {C : Int32 → TH → Prop} (hw : Wf M) (hi : i < 4) (cur : h.I 0 10 = nI i) (hc : CM h (43 + 24 * i) M) (p : PlC h i M cn) (m1 : 1 ≤ m) (m30 : m ≤ 30) (hsd : sd ≤ 9999) (kt : ∀ g c, odd M cn gl sd m c → Sm (inCk i 195) h g → (∀ j, j ≠ 8 → j ≠ 9 → g.I (58 + 24 * i) j = h.I (58 + 24 * i) j) → C 1 (((g.sJ 0 1 (lN (c / Nat.gcd c m))).sJ 0 2 (lN (m / Nat.gcd c m))).sI 0 0 0)) : B189_83 gl (nI sd) (nI m) 0 0 h C := by
  unfold B189_83
  refine LFP.up m (fun (j : Nat) (q : Int32 × Int32 × TH) => q.2.1 = nI j ∧ ∃ c, q.1 = nI c ∧ odd M cn gl sd j c ∧ Sm (inCk i 195) h q.2.2 ∧ ∀ e, e ≠ 8 → e ≠ 9 → q.2.2.I (58 + 24 * i) e = h.I (58 + 24 * i) e) ?_ ?_ (Nat.zero_le _) ⟨rfl, 0, rfl, odd_0, Sm.refl, fun _ _ _ => rfl⟩
  · rintro X j ⟨x5, x6, g⟩ hj ⟨e6, c, e5, od, sm, fo⟩ ih
    (try dsimp only at e6 e5 sm fo)
    subst e6 e5
    have cg : g.I 0 10 = nI i := by rw [sm.I (by unfold inCk; omega)]; exact cur
    have hcg : CM g (43 + 24 * i) M := hc.frame (fun a a1 a2 => sm.I (by unfold inCk; omega))
    have pg := PlC_fr p sm fo (by omega) hi
    unfold F189_83
    (try dsimp only)
    rw [if_neg (nI_ge hj (by omega)), cg, ix_n (by omega), nI_add]
    refine ⟨inb_n hi, W192_i hi cg ?_⟩
    refine S91 (x := nI (sd + j)) hw pg.2.2.1 hcg (fun a a1 a2 => by omega) (by omega) (by omega) pg.2.2.2 pg.2.1 (fun g2 s hs sm2 fo2 ck => ?_)
    unfold W17
    rw [ck.1, ck.2.1]
    (try dsimp only)
    have od2 := odd_s od hs
    have sm' : Sm (inCk i 195) h g2 := sm.trans sm2
    have fo' : ∀ e, e ≠ 8 → e ≠ 9 → g2.I (58 + 24 * i) e = h.I (58 + 24 * i) e := fun e h1 h2 => by rw [fo2 e h1 h2, fo e h1 h2]
    by_cases q : gl &&& ((ckS s &&& (ckU s ^^^ (-1))) ^^^ (-1)) = 0
    · rw [if_neg (fun n => n q), nI_1, nI_1]
      rw [if_pos (show okG gl s = true from decide_eq_true q)] at od2
      exact ih _ ⟨rfl, c + 1, rfl, od2, sm', fo'⟩
    · rw [if_pos q, nI_1]
      rw [if_neg (show ¬ okG gl s = true from fun w => q (of_decide_eq_true w))] at od2
      exact ih _ ⟨rfl, c, rfl, od2, sm', fo'⟩
  · rintro X ⟨x5, x6, g⟩ ⟨e6, c, e5, od, sm, fo⟩
    (try dsimp only at e6 e5 sm fo)
    subst e6 e5
    have hcm := odd_le od
    unfold F189_83
    (try dsimp only)
    rw [if_pos (nI_le (Nat.le_refl _) (by omega))]
    refine S199 (by omega) (by omega) (by omega) ?_
    unfold W196
    exact ⟨Or.inr rfl, kt g c od sm fo⟩
theorem S322l {C : Int32 → TH → Prop} (hw : Wf M) (hM : MA h M) (p : PI M (aN M) cn []) (mp : MP h M) (m1 : 1 ≤ m) (m30 : m ≤ 30) (hsd : sd ≤ 9999) (kt : ∀ g c, odd M cn gl sd m c → RCo h g → C 1 (((g.sJ 197 3 (lN (c / Nat.gcd c m))).sJ 197 4 (lN (m / Nat.gcd c m))).sI 197 2 0)) : B322_73 gl (nI sd) (nI m) 0 0 h C := by
  unfold B322_73
  refine LFP.up m (fun (j : Nat) (q : Int32 × Int32 × TH) => q.2.1 = nI j ∧ ∃ c, q.1 = nI c ∧ odd M cn gl sd j c ∧ RCo h q.2.2) ?_ ?_ (Nat.zero_le _) ⟨rfl, 0, rfl, odd_0, Sm.refl, fun _ _ _ _ _ => rfl, fun _ => rfl⟩
  · rintro X j ⟨x4, x5, g⟩ hj ⟨e5, c, e4, od, rc⟩ ih
    (try dsimp only at e5 e4 rc)
    subst e5 e4
    have hMg : MA g M := fun k hk => by rw [rc.2.2]; exact hM k hk
    have mpg : MP g M := ⟨by rw [rc.2.2]; exact mp.1, fun k h1 h2 => by rw [rc.2.2]; exact mp.2 k h1 h2⟩
    unfold F322_73
    (try dsimp only)
    rw [if_neg (nI_ge hj (by omega)), nI_add]
    refine S318 (x := nI (sd + j)) hw hMg p mpg (fun g2 s hs rc2 rs => ?_)
    rw [rs.1, rs.2.1]
    have od2 := odd_s od hs
    have rc' : RCo h g2 := ⟨rc.1.trans rc2.1, fun e a b d f => by rw [rc2.2.1 e a b d f, rc.2.1 e a b d f], fun e => by rw [rc2.2.2, rc.2.2]⟩
    unfold B322_112
    by_cases q : gl &&& ((ckS s &&& (ckU s ^^^ (-1))) ^^^ (-1)) = 0
    · rw [if_neg (fun n => n q), nI_1, nI_1]
      rw [if_pos (show okG gl s = true from decide_eq_true q)] at od2
      exact ih _ ⟨rfl, c + 1, rfl, od2, rc'⟩
    · rw [if_pos q, nI_1, show nI c + 0 = nI c from Int32.add_zero _]
      rw [if_neg (show ¬ okG gl s = true from fun w => q (of_decide_eq_true w))] at od2
      exact ih _ ⟨rfl, c, rfl, od2, rc'⟩
  · rintro X ⟨x4, x5, g⟩ ⟨e5, c, e4, od, rc⟩
    (try dsimp only at e5 e4 rc)
    subst e5 e4
    have hcm := odd_le od
    unfold F322_73
    (try dsimp only)
    rw [if_pos (nI_le (Nat.le_refl _) (by omega)), nI_l (by omega), nI_l (by omega)]
    exact S207 (by omega) (by omega) (by omega) ⟨Or.inr rfl, kt g c od rc⟩
end ODD
