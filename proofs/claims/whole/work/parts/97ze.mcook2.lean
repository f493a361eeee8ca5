/-! COOKING: the reference's run, all of it -/
section MC2
variable {h : TH} {M : Nat → Int32} {cn : Nat} {dr : Int32}
theorem S318l {C : TH → Prop} {x2 x3 x : Int32} (hw : Wf M) (hM : MA h M) (p : PI M (aN M) cn []) (mp : MP h M) (c0 : CKr h M dr (ck0 x)) (kk : ∀ g s, (∃ F, prun M cn dr F (st00 x) = some s) → RLo h g → CKr g M dr s → B318_284 x2 x3 g C) : B318_117 x2 x3 0 0 h C := by
  have n60 := p.n60
  have h12 := hw.n12
  unfold B318_117
  refine LFP.up 900 (fun (d : Nat) (q : Int32 × Int32 × TH) => q.2.1 = nI d ∧ ∃ (k : Nat) (R : Nat → Nat) (s : CK), q.1 = nI k ∧ k ≤ qn M ∧ ¬ (k < qn M ∧ kK M k = 21) ∧ leads0 M cn dr (st00 x) (k, R, d, s) ∧ RI q.2.2 M R k ∧ RLo h q.2.2 ∧ CKr q.2.2 M dr s ∧ ckI M s) ?_ ?_ (Nat.zero_le _) ⟨rfl, 0, fun _ => 0, ck0 x, rfl, Nat.zero_le _, ?_, l0_refl, ?_, RLo.refl, c0, ?_⟩
  · rintro X d ⟨x4, x5, g⟩ hd ⟨e5, k, R, s, e4, hk, h21, l, ri, rl, ck, i⟩ ih
    (try dsimp only at e5 e4 ri rl ck)
    subst e5 e4
    have hMg := rl.ma hM
    have mpg := rl.mp mp
    unfold F318_117
    (try dsimp only)
    rw [if_neg (show ¬ (900 : Int32) ≤ nI d from nI_ge (b := 900) hd (by omega)), show ix 6 = 6 from rfl, mpg.1, p.1]
    by_cases q : k < qn M
    · have h21' : ¬ kK M k = 21 := fun u => h21 ⟨q, u⟩
      have r0 : g.I 198 (124 + 5 * k) = kK M k := mpg.2 _ (by omega) (by omega)
      rw [if_neg (nI_ge q (by omega)), show (5 : Int32) = nI 5 from rfl, pk_mul, show (124 : Int32) = nI 124 from rfl, nI_add, ix_n (j := 124 + 5 * k) (by omega), r0]
      refine ⟨inb_n (by omega), ?_⟩
      -- on to the next row
      have next : ∀ (g2 : TH) (k2 : Nat) (R2 : Nat → Nat) (s2 : CK), k2 ≤ qn M → leads0 M cn dr (st00 x) (k2, R2, d + 1, s2) → RI g2 M R2 k2 → RLo h g2 → CKr g2 M dr s2 → ckI M s2 → B318_273 x2 x3 (nI d) (nI k2) g2 C X := by
        intro g2 k2 R2 s2 hk2 l2 r2 rl2 ck2 i2
        unfold B318_273
        refine S317 p (rl2.mp mp) hk2 l2 r2 (fun g3 k3 R3 sm3 l3 r3 hk3 n21 => ?_)
        rw [nI_1]
        exact ih _ ⟨rfl, k3, R3, s2, rfl, hk3, n21, l3, r3, rl2.trans (RLo_219 sm3), CKr_219 sm3 ck2, i2⟩
      have riNext : ∀ (g2 : TH), g2.I 219 = g.I 219 → ¬ opn M k → RI g2 M R (k + 1) := fun g2 e no o c o20 => by
        rw [e]
        refine ri o ⟨?_, c.2.1, c.2.2.1, by have := c.2.2.2; omega⟩ o20
        have := c.1
        have : o ≠ k := fun u => no (u ▸ c.2.2.1)
        omega
      rcases row_cases p q h21' with ⟨ca, ⟨w, hwa, ew⟩, ⟨a, ha, ea⟩, cb⟩ | ⟨c20, a, a1, a99, ea⟩ | ct | ct | c22
      · -- an act
        have w15 : 10 ≤ w ∧ w ≤ 15 := by unfold isAct at hwa; omega
        rw [ew, if_neg (show ¬ nI w < 10 from nI_nlt (b := 10) (by omega) (by omega)), if_neg (show ¬ (15 : Int32) < nI w from nI_nlt (a := 15) (by omega) (by omega))]
        unfold B318_174
        rw [if_neg (show ¬ nI w = 22 from nIw (by omega) 22 (by omega) (by omega)), if_neg (by decide)]
        have e42 : g.I 197 42 = nI (ckK s) := ck.2.2.2.1
        rw [e42]
        by_cases q3 : ckK s = 300
        · rw [if_neg (fun n => n (by rw [q3]; rfl))]
          exact kk g s (l0_stop l h21 (Or.inr (Or.inr (Or.inr ⟨ca, q3⟩)))) rl ck
        · have k300 : ckK s < 300 := by have := i.2.2.2; omega
          rw [if_pos (show ¬ nI (ckK s) = 300 from fun n => q3 ((nI_eq (b := 300) (by omega) (by omega)).mp n))]
          unfold B318_201
          rw [if_neg (by decide)]
          obtain ⟨b, hb, eb⟩ : ∃ b, (w = 11 → b < aN M ∧ kB M k = nI b) ∧ b = ix (kB M k) := ⟨ix (kB M k), fun u => by
            obtain ⟨b, h1, h2⟩ := cb (by rw [ew, u]; rfl)
            rw [h2, ix_n (by omega)]; exact ⟨h1, rfl⟩, rfl⟩
          have eC : kC M k = nI (cc M cn k) := (p.2.2.2.1 k q).1
          have la := l0_act l (by omega) q ca q3
          rw [ew, ea, ix_n (by omega), ix_n (by omega), ← eb] at la
          refine S315 (b := b) (c := cc M cn k) (s := s) hw hMg (by omega) (by omega) (by rw [r0, ew]) (by rw [mpg.2 _ (by omega) (by omega)]; exact ea) (fun u => by rw [mpg.2 _ (by omega) (by omega)]; exact (hb u).2) (by rw [mpg.2 _ (by omega) (by omega)]; exact eC) hwa ha (fun u => (hb u).1) i ck (fun g2 rk2 ck2 => ?_)
          unfold B318_212
          rw [if_pos (show ¬ nI w = 20 from nIw (by omega) 20 (by omega) (by omega))]
          unfold B318_237
          rw [if_pos (show nI w < 1600 from nI_lt (b := 1600) (by omega) (by omega))]
          unfold B318_269
          rw [nI_1]
          have nop : ¬ opn M k := fun u => by unfold opn at u; rw [ew] at u; unfold isAct at hwa; rcases hwa with v | v | v | v | v <;> rw [v] at u <;> revert u <;> decide
          exact next g2 (k + 1) R _ (by omega) la (riNext g2 (rk2.1.I (by decide)) nop) (rl.trans (RLo_k rk2)) ck2 (ckI_A hw ha (fun u => (hb u).1) i k300)
      · -- a LOOP
        rw [c20, if_neg (by decide), if_pos (by decide)]
        unfold B318_173 B318_174
        rw [if_neg (by decide), if_pos rfl]
        unfold B318_201
        rw [if_pos rfl]
        unfold B318_212
        obtain ⟨v, hv⟩ : ∃ v, a = v + 1 := ⟨a - 1, by omega⟩
        rw [if_neg (fun n => n rfl), nI_1, ix_n (j := 124 + 5 * k + 1) (by omega), mpg.2 (124 + 5 * k + 1) (by omega) (by omega), show M (124 + 5 * k + 1) = nI a from ea, hv, nI_pred, ix_n (j := k) (by omega)]
        refine ⟨inb_n (by omega), inb_n (by omega), ?_⟩
        unfold B318_237
        rw [if_pos (by decide)]
        unfold B318_269
        rw [nI_1]
        have ll := l0_loop l (by omega) q c20
        rw [ea, ix_n (by omega), hv] at ll
        have sm9 : Sm (fun a => a = 219) g (g.sI 219 k (nI v)) := Sm.sI (S := fun a => a = 219) Sm.refl rfl _
        refine next _ (k + 1) (updR R k v) s (by omega) ll (fun o c o20 => ?_) (rl.trans (RLo_219 sm9)) (CKr_219 sm9 ck) i
        rw [I_at]
        unfold updR
        by_cases u : o = k
        · rw [if_pos u, if_pos u]; exact ⟨rfl, by omega⟩
        · rw [if_neg u, if_neg u]
          exact ri o ⟨by have := c.1; omega, c.2.1, c.2.2.1, by have := c.2.2.2; omega⟩ o20
      all_goals first
        | (-- a test
           have ht : kK M k = 1617 ∨ kK M k = 1618 ∨ kK M k = 1619 := by
             first
             | exact ct.1.elim Or.inl (fun u => Or.inr (Or.inl u))
             | exact Or.inr (Or.inr ct.1)
           have ok : opn M k := Or.inr ht
           obtain ⟨b1, b2, b3, b4, b5⟩ := p.2.2.2.2.2.2.2.1 k q ok (by simp)
           have lt := l0_test l (by omega) q ht
           rw [if_neg (show ¬ kK M k < 10 by rcases ht with e | e | e <;> rw [e] <;> decide), if_pos (show (15 : Int32) < kK M k by rcases ht with e | e | e <;> rw [e] <;> decide)]
           unfold B318_173 B318_174
           rw [if_neg (show ¬ kK M k = 22 by rcases ht with e | e | e <;> rw [e] <;> decide), if_pos rfl]
           unfold B318_201
           rw [if_pos rfl]
           unfold B318_212
           rw [if_pos (show ¬ kK M k = 20 by rcases ht with e | e | e <;> rw [e] <;> decide)]
           unfold B318_237
           rw [if_neg (show ¬ kK M k < 1600 by rcases ht with e | e | e <;> rw [e] <;> decide)]
           refine S316 hw hMg p mpg q ht i ck.1 ck.2.1 (fun hh => ?_) (fun hh => ?_)
           · rw [if_pos hh] at lt
             rw [if_pos (by decide)]
             unfold B318_269
             rw [nI_1]
             refine next g (k + 1) R s (by omega) lt (fun o c o20 => ?_) rl ck i
             by_cases u : o = k
             · rw [u] at o20; rcases ht with e | e | e <;> rw [e] at o20 <;> exact absurd o20 (by decide)
             · exact ri o ⟨by have := c.1; omega, c.2.1, c.2.2.1, by have := c.2.2.2; omega⟩ o20
           · rw [if_neg (by rw [hh]; decide)] at lt
             rw [if_neg (fun n => n rfl), show (3 : Int32) = nI 3 from rfl, nI_add, ix_n (j := 124 + 5 * k + 3) (by omega), mpg.2 (124 + 5 * k + 3) (by omega) (by omega), show M (124 + 5 * k + 3) = nI (lk M k) from b3, nI_1]
             exact ⟨inb_n (by omega), next g (lk M k + 1) R s (by omega) lt (fun o c o20 => ri o (cont_skip p q ok c) o20) rl ck i⟩)
        | (-- STOP
           rw [c22, if_neg (by decide), if_pos (by decide)]
           unfold B318_173 B318_174
           rw [if_pos rfl]
           exact kk g s (l0_stop l h21 (Or.inr (Or.inr (Or.inl c22)))) rl ck)
    · rw [if_pos (nI_le (by omega) (by omega))]
      exact kk g s (l0_stop l h21 (Or.inr (Or.inl (by omega)))) rl ck
  · rintro X ⟨x4, x5, g⟩ ⟨e5, k, R, s, e4, hk, h21, l, ri, rl, ck, i⟩
    (try dsimp only at e5 e4 ri rl ck)
    subst e5 e4
    unfold F318_117
    (try dsimp only)
    rw [if_pos (show (900 : Int32) ≤ nI 900 by decide +kernel)]
    exact kk g s (l0_stop l h21 (Or.inl rfl)) rl ck
  · rintro ⟨u1, u2⟩
    have := (p.2.2.2.2.2.2.2.2.1 0 u1 u2).1
    omega
  · intro o c _
    have := c.1
    omega
  · exact ⟨St_0 _, St_0 _, fun e he u => u, by show 0 ≤ 300; omega⟩
end MC2
