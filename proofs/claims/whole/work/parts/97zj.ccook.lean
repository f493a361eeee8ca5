/-! COOKING: the class's run -/
section CCK
variable {h : TH} {M : Nat → Int32} {cn tp th tm : Nat} {dr : Int32}
theorem CW_cg {g : TH} {R R2 : Nat → Nat} {k : Nat} {L : List Nat} (c : CW g tp M cn R k L) (e : ∀ o, o ∈ L → R2 o = R o) : CW g tp M cn R2 k L := by
  refine ⟨c.1, c.2.1, fun j o ho => ?_⟩
  have hm : o ∈ L := by have := List.mem_of_getElem? ho; simpa using this
  have er : rL M R2 o = rL M R o := by unfold rL; rw [e o hm]
  rw [er]; exact c.2.2 j o ho
theorem CPl_fr {g : TH} (c : CPl h tp M cn []) (e : ∀ a, 1 ≤ a → a ≤ 4 → g.I (tp + a) = h.I (tp + a)) : CPl g tp M cn [] := by
  intro k hk h21
  have := c k hk h21
  unfold CRow at this ⊢
  rw [e 1 (by omega) (by omega), e 2 (by omega) (by omega), e 3 (by omega) (by omega), e 4 (by omega) (by omega)]; exact this
theorem CKc_fr {g : TH} {s : CK} (c : CKc h th M dr s) (e0 : g.I th = h.I th) (e1 : g.I (th + 1) = h.I (th + 1)) : CKc g th M dr s := by
  unfold CKc sncS at c ⊢
  rw [e0, e1]; exact c
theorem cK_act : ∀ w, isAct w → cK (nI w) = nI w := by
  rintro w (rfl | rfl | rfl | rfl | rfl) <;> decide
theorem S91l {C : TH → Prop} {x : Int32} (hw : Wf M) (p : PI M (aN M) cn []) (hc : CM h tm M) (hdis : ∀ a, tm ≤ a → a < tm + 15 → a ≠ th ∧ a ≠ th + 1) (hpt : tp + 7 ≤ th ∨ th + 1 < tp) (hpm : tm + 15 ≤ tp ∨ tp + 7 ≤ tm) (cp : CPl h tp M cn []) (e1 : h.I tp 1 = nI cn) (e8 : h.I tp 8 = 0) (e9 : h.I tp 9 = 0) (c0 : CKc h th M dr (ck0 x)) (kk : ∀ g s, (∃ F, prun M cn dr F (st00 x) = some s) → Sm (fun a => a = tp ∨ a = tp + 5 ∨ a = tp + 6 ∨ a = th ∨ a = th + 1) h g → (∀ j, j ≠ 8 → j ≠ 9 → g.I tp j = h.I tp j) → CKc g th M dr s → C g) : B91_21 tp tm th 0 0 h C := by
  have n60 := p.n60
  have c30 := p.2.1.2.1
  have h12 := hw.n12
  unfold B91_21
  have in0 : inB M [] 0 [] := inB_of p (Nat.zero_le _) List.Pairwise.nil (fun o => ⟨fun u => absurd u (by simp), fun u => by have := u.1; omega⟩)
  have k0n : ¬ (0 < qn M ∧ kK M 0 = 21) := fun u => by have := (p.2.2.2.2.2.2.2.2.1 0 u.1 u.2).1; omega
  refine LFP.ix (fun (m : Nat) (q : Int32 × Int32 × TH) => ∃ (d y k : Nat) (R : Nat → Nat) (s : CK) (L : List Nat), q.1 = nI d ∧ q.2.1 = nI y ∧ d ≤ 900 ∧ y + m ≤ 6000 ∧ k ≤ qn M ∧ inB M [] k L ∧ (∀ o, o ∈ L → lk M o ≠ o + 1) ∧ CW q.2.2 tp M cn R k L ∧ leads0 M cn dr (st00 x) (k, R, d, s) ∧ CKc q.2.2 th M dr s ∧ ckI M s ∧ Sm (fun a => a = tp ∨ a = tp + 5 ∨ a = tp + 6 ∨ a = th ∨ a = th + 1) h q.2.2 ∧ (∀ j, j ≠ 8 → j ≠ 9 → q.2.2.I tp j = h.I tp j) ∧ m = 6 * (900 - d) + L.length + (if k < qn M ∧ kK M k = 21 then 1 else 0)) ?_ (k := 5400) ⟨0, 0, 0, fun _ => 0, ck0 x, [], rfl, rfl, by omega, by omega, Nat.zero_le _, in0, fun o u => absurd u (by simp), ⟨?_, e8, fun j o u => absurd u (by simp)⟩, l0_refl, c0, ⟨St_0 _, St_0 _, fun e he u => u, by show 0 ≤ 300; omega⟩, Sm.refl, fun _ _ _ => rfl, by rw [if_neg k0n]; rfl⟩
  · rintro X m ⟨x4, x5, g⟩ ⟨d, y, k, R, s, L, ed, ey, hd, hy, hk, b, ne, cw, l, ck, i, sm, fo, em⟩ ih
    (try dsimp only at ed ey cw ck sm fo)
    subst ed ey
    have cpg : CPl g tp M cn [] := CPl_fr cp (fun a a1 a2 => sm.I (by omega))
    have hcg : CM g tm M := hc.frame (fun a a1 a2 => sm.I (by have := hdis a a1 a2; omega))
    have e1g : g.I tp 1 = nI cn := by rw [fo 1 (by decide) (by decide)]; exact e1
    have l3 := b.2.1
    unfold F91_21
    (try dsimp only)
    rw [if_neg (show ¬ (1000000 : Int32) ≤ nI y from nI_ge (b := 1000000) (by omega) (by omega))]
    refine S93 p cpg hk b cw (fun u => ?_) (fun u => ?_)
    · -- at an END
      rw [if_neg (by decide)]
      rw [if_pos u] at em
      refine S94 p u.1 u.2 b cw (fun g2 L' sm2 fo2 b2 cw2 hk2 hl => ?_)
      rw [nI_1]
      obtain ⟨a1, a2, a3, a4, a5⟩ := p.2.2.2.2.2.2.2.2.1 k u.1 u.2
      obtain ⟨r, eL, bn, bo⟩ := inB_end p b u.1 u.2
      have nek : ¬ lk M k + 1 = k := fun w => by
        have := ne (lk M k) (by rw [eL]; simp)
        rw [a5] at this; omega
      have sub : ∀ o, o ∈ L' → lk M o ≠ o + 1 := fun o ho => by
        refine ne o ((inB_iff b o).mpr ?_)
        have c := (inB_iff b2 o).mp ho
        unfold clK at c
        split at c
        · exact cont_end p u.1 u.2 c
        · have no : o ≠ k := fun w => opn_21 u.2 (w ▸ c.2.2.1)
          exact ⟨by have := c.1; omega, c.2.1, c.2.2.1, by have := c.2.2.2; omega⟩
      refine ih _ _ ?_ ⟨d, y + 1, clK M R k, clR M R k, s, L', rfl, rfl, hd, ?_, hk2, b2, sub, cw2, l0_close l u.1 u.2, CKc_fr ck (sm2.I (by omega)) (sm2.I (by omega)), i, sm.trans (sm2.mono (fun a ha => by omega)), fun j j8 j9 => by rw [fo2 j j8 j9, fo j j8 j9], rfl⟩
      · rw [em]
        rcases hl with hl | ⟨hl, hn⟩ | hl
        · split <;> omega
        · rw [if_neg hn]; omega
        · exact absurd hl nek
      · rcases hl with hl | ⟨hl, hn⟩ | hl
        · split <;> omega
        · rw [if_neg hn]; omega
        · exact absurd hl nek
    · rw [if_pos rfl, e1g, cw.1]
      rw [if_neg u] at em
      have stop : (d = 900 ∨ qn M ≤ k ∨ kK M k = 22 ∨ (isActK (kK M k) ∧ ckK s = 300)) → C g := fun w => kk g s (l0_stop l u w) sm fo ck
      by_cases q : k < qn M
      · have h21 : ¬ kK M k = 21 := fun w => u ⟨q, w⟩
        have ckn : cc M cn k < cn := by have := cc_lt p (k := k) (b := qn M) q (Nat.le_refl _) h21; rw [cc_n] at this; exact this
        have cc1 : cc M cn (k + 1) = cc M cn k + 1 := by have := (p.2.2.2.1 k q).2; rw [if_neg h21] at this; exact this
        obtain ⟨⟨r1, r2, r3, r17, r18, r19⟩, rn⟩ := cpg k q h21
        rw [if_neg (nI_ge ckn (by omega))]
        by_cases q9 : d = 900
        · rw [if_neg (show ¬ nI d < 900 from nI_nlt (b := 900) (by omega) (by omega))]
          exact stop (Or.inl q9)
        · rw [if_pos (show nI d < 900 from nI_lt (b := 900) (by omega) (by omega)), ix_n (j := cc M cn k) (by omega), r1]
          refine ⟨inb_n (by omega), ?_⟩
          -- behind a row: the loop goes on
          have next : ∀ (g2 : TH) (k2 : Nat) (R2 : Nat → Nat) (s2 : CK) (L2 : List Nat), k2 ≤ qn M → inB M [] k2 L2 → (∀ o, o ∈ L2 → lk M o ≠ o + 1) → CW g2 tp M cn R2 k2 L2 → leads0 M cn dr (st00 x) (k2, R2, d + 1, s2) → CKc g2 th M dr s2 → ckI M s2 → Sm (fun a => a = tp ∨ a = tp + 5 ∨ a = tp + 6 ∨ a = th ∨ a = th + 1) g g2 → (∀ j, j ≠ 8 → j ≠ 9 → g2.I tp j = g.I tp j) → X (nI d + 1, nI y + 1, g2) := by
            intro g2 k2 R2 s2 L2 hk2 b2 ne2 cw2 l2 ck2 i2 sm2 fo2
            rw [nI_1, nI_1]
            have l32 := b2.2.1
            refine ih (6 * (900 - (d + 1)) + L2.length + (if k2 < qn M ∧ kK M k2 = 21 then 1 else 0)) _ ?_ ⟨d + 1, y + 1, k2, R2, s2, L2, rfl, rfl, by omega, ?_, hk2, b2, ne2, cw2, l2, ck2, i2, sm.trans sm2, fun j j8 j9 => by rw [fo2 j j8 j9, fo j j8 j9], rfl⟩
            · rw [em]; split <;> omega
            · split <;> omega
          have w5 : ∀ {g2 : TH}, Sm (fun x => x = tp ∨ x = tp + 5 ∨ x = tp + 6) g g2 → Sm (fun a => a = tp ∨ a = tp + 5 ∨ a = tp + 6 ∨ a = th ∨ a = th + 1) g g2 := fun s2 => s2.mono (fun a ha => by omega)
          have cfr : ∀ {g2 : TH}, Sm (fun x => x = tp ∨ x = tp + 5 ∨ x = tp + 6) g g2 → CKc g2 th M dr s := fun s2 => CKc_fr ck (s2.I (by omega)) (s2.I (by omega))
          rcases row_cases p q h21 with ⟨ca, ⟨w, hwa, ew⟩, ⟨a, ha, ea⟩, cb⟩ | ⟨c20, a, a1, a99, ea⟩ | ct | ct | c22
          · -- an act
            have w15 : 10 ≤ w ∧ w ≤ 15 := by unfold isAct at hwa; omega
            have eK : cK (kK M k) = nI w := by rw [ew]; exact cK_act w hwa
            rw [eK, if_neg (show ¬ nI w = 22 from nIw (by omega) 22 (by omega) (by omega))]
            refine ⟨inb_n (by omega), ?_⟩
            unfold W92
            rw [if_neg (show ¬ nI w = 16 from nIw (by omega) 16 (by omega) (by omega)), if_neg (show ¬ nI w = 20 from nIw (by omega) 20 (by omega) (by omega))]
            show if (1 : Int32) = 0 then _ else _
            rw [if_neg (by decide), ck.2.2.2.1]
            by_cases q3 : ckK s = 300
            · rw [if_neg (show ¬ nI (ckK s) < 300 from nI_nlt (b := 300) (by omega) (by omega))]
              exact stop (Or.inr (Or.inr (Or.inr ⟨ca, q3⟩)))
            · have k300 : ckK s < 300 := by have := i.2.2.2; omega
              rw [if_pos (show nI (ckK s) < 300 from nI_lt (b := 300) k300 (by omega))]
              unfold B91_105
              obtain ⟨bb, hb, eb⟩ : ∃ bb, (w = 11 → bb < aN M ∧ kB M k = nI bb) ∧ bb = ix (kB M k) := ⟨ix (kB M k), fun v => by
                obtain ⟨b', h1, h2⟩ := cb (by rw [ew, v]; rfl)
                rw [h2, ix_n (by omega)]; exact ⟨h1, rfl⟩, rfl⟩
              have la := l0_act l q9 q ca q3
              rw [ew, ea, ix_n (by omega), ix_n (by omega), ← eb] at la
              have nop : ¬ opn M k := fun v => by unfold opn at v; rw [ew] at v; unfold isAct at hwa; rcases hwa with z | z | z | z | z <;> rw [z] at v <;> revert v <;> decide
              refine S95a (s := s) (c := cc M cn k) (w := w) (a := a) (b := bb) hw hcg hdis (by omega) (by omega) cw.1 (by rw [r1, eK]) (by rw [r2 (by rw [ew]; exact nIw (by omega) 22 (by omega) (by omega))]; exact ea) (fun v => by rw [r3 (by rw [ew, v]; rfl)]; exact (hb v).2) hwa ha (fun v => (hb v).1) i k300 ck (fun g2 sm2 ck2 e92 fo2 => ?_)
              refine next g2 (k + 1) R _ L (by omega) (inB_next p b q nop h21) ne ⟨by rw [e92, cc1], by rw [fo2 8 (by decide)]; exact cw.2.1, fun j o ho => ?_⟩ la ck2 (ckI_A hw ha (fun v => (hb v).1) i k300) (sm2.mono (fun a ha => by omega)) (fun j _ j9 => fo2 j j9)
              rw [sm2.I (by omega), sm2.I (by omega)]; exact cw.2.2 j o ho
          · -- a LOOP
            have ok : opn M k := Or.inl c20
            obtain ⟨b1, b2, b3, b4, b5⟩ := p.2.2.2.2.2.2.2.1 k q ok (by simp)
            have eK : cK (kK M k) = 20 := by rw [c20]; decide
            rw [eK, if_neg (by decide)]
            refine ⟨inb_n (by omega), ?_⟩
            unfold W92
            rw [if_neg (by decide), if_pos rfl]
            show if (0 : Int32) = 0 then _ else _
            rw [if_pos rfl]
            unfold B91_105 W95
            rw [cw.1, ix_n (j := cc M cn k) (by omega), r1, eK, if_pos (show ¬ (20 : Int32) = 16 by decide)]
            refine ⟨inb_n (by omega), inb_n (by omega), ?_⟩
            rw [if_neg (fun n => n rfl), r2 (by rw [c20]; decide), ea]
            refine ⟨inb_n (by omega), ?_⟩
            have ll := l0_loop l q9 q c20
            rw [ea, ix_n (by omega)] at ll
            have hR' : rL M (updR R k (a - 1)) k + 1 = a ∧ ∀ j, j ≠ k → updR R k (a - 1) j = R j := ⟨by unfold rL updR; rw [if_pos c20, if_pos rfl]; omega, fun j hj => by unfold updR; rw [if_neg hj]⟩
            refine S96 p cpg q ok b cw a99 (updR R k (a - 1)) (fun _ => hR') (fun hp g2 sm2 fo2 cw2 => ?_) (fun _ hne g2 sm2 fo2 cw2 => ?_)
            · have he : lk M k = k + 1 := by rcases hp with v | v; omega; exact v
              obtain ⟨R3, l3', o3⟩ := l0_empty p q ok he _ _ rfl ll
              rw [he] at cw2
              refine next g2 (k + 2) R3 s L (by omega) (by have := inB_skip p b q ok; rw [he] at this; exact this) ne (CW_cg cw2 (fun o ho => ?_)) l3' (cfr sm2) i (w5 sm2) fo2
              have : o ≠ k := fun v => by have := ((inB_iff b o).mp ho).1; omega
              rw [o3 o this, hR'.2 o this]
            · refine next g2 (k + 1) (updR R k (a - 1)) s (k :: L) (by omega) (inB_in p b q ok) (fun o ho => ?_) cw2 ll (cfr sm2) i (w5 sm2) fo2
              rcases List.mem_cons.mp ho with v | v
              · rw [v]; exact hne
              · exact ne o v
          all_goals first
            | (-- a test
               have ht : kK M k = 1617 ∨ kK M k = 1618 ∨ kK M k = 1619 := by
                 first
                 | exact ct.1.elim Or.inl (fun v => Or.inr (Or.inl v))
                 | exact Or.inr (Or.inr ct.1)
               have ok : opn M k := Or.inr ht
               obtain ⟨b1, b2, b3, b4, b5⟩ := p.2.2.2.2.2.2.2.1 k q ok (by simp)
               have n20 : ¬ kK M k = 20 := by rcases ht with e | e | e <;> rw [e] <;> decide
               have rL0 : rL M R k = 0 := by unfold rL; rw [if_neg n20]
               have eK : cK (kK M k) = 16 := by rcases ht with e | e | e <;> rw [e] <;> decide
               have lt := l0_test l q9 q ht
               rw [eK, if_neg (by decide)]
               refine ⟨inb_n (by omega), ?_⟩
               unfold W92
               rw [if_pos rfl]
               show if (0 : Int32) = 0 then _ else _
               rw [if_pos rfl]
               unfold B91_105 W95
               rw [cw.1, ix_n (j := cc M cn k) (by omega), r1, eK, if_neg (fun n => n rfl)]
               refine ⟨inb_n (by omega), ?_⟩
               refine S97 hw p cpg q ht i cw.1 ck.1 ck.2.1 (fun hh => ?_) (fun hh => ?_)
               · rw [if_pos hh] at lt
                 rw [if_neg (by decide)]
                 refine S96 (a := 1) p cpg q ok b cw (by omega) R (fun _ => ⟨by omega, fun _ _ => rfl⟩) (fun hp g2 sm2 fo2 cw2 => ?_) (fun _ hne g2 sm2 fo2 cw2 => ?_)
                 · have he : lk M k = k + 1 := by rcases hp with v | v; omega; exact v
                   obtain ⟨R3, l3', o3⟩ := l0_empty p q ok he _ _ rfl lt
                   rw [he] at cw2
                   refine next g2 (k + 2) R3 s L (by omega) (by have := inB_skip p b q ok; rw [he] at this; exact this) ne (CW_cg cw2 (fun o ho => ?_)) l3' (cfr sm2) i (w5 sm2) fo2
                   have : o ≠ k := fun v => by have := ((inB_iff b o).mp ho).1; omega
                   exact o3 o this
                 · refine next g2 (k + 1) R s (k :: L) (by omega) (inB_in p b q ok) (fun o ho => ?_) cw2 lt (cfr sm2) i (w5 sm2) fo2
                   rcases List.mem_cons.mp ho with v | v
                   · rw [v]; exact hne
                   · exact ne o v
               · rw [if_neg (by rw [hh]; decide)] at lt
                 rw [if_pos rfl]
                 refine S96 (a := 0) p cpg q ok b cw (by omega) R (fun z => absurd z (by omega)) (fun hp g2 sm2 fo2 cw2 => ?_) (fun z => absurd z (by omega))
                 exact next g2 (lk M k + 1) R s L (by omega) (inB_skip p b q ok) ne cw2 lt (cfr sm2) i (w5 sm2) fo2)
            | (-- STOP
               have eK : cK (kK M k) = 22 := by rw [c22]; decide
               rw [eK, if_pos rfl]
               exact stop (Or.inr (Or.inr (Or.inl c22))))
      · have ek : k = qn M := by omega
        rw [ek, cc_n, if_pos (nI_le (Nat.le_refl _) (by omega))]
        exact stop (Or.inr (Or.inl (by omega)))
  · rw [e9]
    show (0 : Int32) = nI (cc M cn 0)
    rw [p.2.2.1]; rfl
end CCK
