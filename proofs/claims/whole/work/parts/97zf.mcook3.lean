/-! COOKING: the reference lays its HAND aside, cooks, takes it up again -/
def drF (x : Int32) : Int32 := if x = (-1) then 0 else 1
def RCo (h g : TH) : Prop := Sm (fun a => a = 197 ∨ a = 198 ∨ a = 206 ∨ a = 219 ∨ a = 220) h g ∧ (∀ j, j ≠ 25 → (j < 40 ∨ 48 < j) → j ≠ 53 → j ≠ 54 → g.I 197 j = h.I 197 j) ∧ ∀ j, g.I 198 j = h.I 198 j
def ranS (g : TH) (s : CK) : Prop := g.I 197 53 = ckS s ∧ g.I 197 54 = ckU s ∧ g.I 197 41 = ckW s ∧ g.I 197 42 = nI (ckK s) ∧ g.I 197 43 = ckM s ∧ g.I 197 44 = ckO s ∧ g.I 197 45 = ckB s ∧ g.I 197 46 = ckP s ∧ g.I 197 47 = ckF s
section MC3
variable {h : TH} {M : Nat → Int32} {cn : Nat}
theorem S318 {C : TH → Prop} {x : Int32} (hw : Wf M) (hM : MA h M) (p : PI M (aN M) cn []) (mp : MP h M) (kk : ∀ g s, (∃ F, prun M cn (drF x) F (st00 x) = some s) → RCo h g → ranS g s → C g) : W318 x h C := by
  have n60 := p.n60
  unfold W318 B318_2
  refine LFP.up 12 (fun (j : Nat) (q : Int32 × TH) => q.1 = nI j ∧ Sm (fun a => a = 220) h q.2 ∧ ∀ e, e < j → q.2.I 220 e = h.I 198 (112 + e)) ?_ ?_ (Nat.zero_le _) ⟨rfl, Sm.refl, fun e he => absurd he (Nat.not_lt_zero _)⟩
  · rintro X j ⟨x2, g⟩ hj ⟨e1, sm, a⟩ ih
    (try dsimp only at e1 sm a)
    subst e1
    unfold F318_2
    (try dsimp only)
    rw [if_neg (show ¬ (12 : Int32) ≤ nI j from nI_ge (b := 12) hj (by omega)), show (112 : Int32) = nI 112 from rfl, nI_add, ix_n (j := 112 + j) (by omega), ix_n (j := j) (by omega), nI_1]
    refine ⟨inb_n (by omega), inb_n (by omega), ih _ ⟨rfl, Sm.sI (S := fun a => a = 220) sm rfl _, fun e he => ?_⟩⟩
    (try dsimp only)
    rw [I_at]
    by_cases u : e = j
    · rw [if_pos u, u, sm.I (by decide)]
    · rw [if_neg u]; exact a e (by omega)
  · rintro X ⟨x2, g⟩ ⟨e1, sm, a⟩
    (try dsimp only at e1 sm a)
    subst e1
    unfold F318_2
    (try dsimp only)
    have e8 : g.I 198 = h.I 198 := sm.I (by decide)
    have e7 : g.I 197 = h.I 197 := sm.I (by decide)
    rw [if_pos (show (12 : Int32) ≤ nI 12 by decide +kernel), show ix 2 = 2 from rfl, show ix 3 = 3 from rfl]
    have go : ∀ v : Int32, v = drF x → (v = 0 ∨ v = 1) → B318_54 x (g.I 198 2) (g.I 198 3) v g C := by
      intro v hv hv2
      unfold B318_54
      refine ⟨hv2, fun h1 eh => ?_⟩
      have s1 : Sm (fun a => a = 197) g h1 := by
        rw [eh]
        exact Sm.sI (S := fun a => a = 197) (Sm.sI (S := fun a => a = 197) (Sm.sI (S := fun a => a = 197) (Sm.sI (S := fun a => a = 197) (Sm.sI (S := fun a => a = 197) (Sm.sI (S := fun a => a = 197) (Sm.sI (S := fun a => a = 197) Sm.refl rfl _) rfl _) rfl _) rfl _) rfl _) rfl _) rfl _
      have w : ∀ j, h1.I 197 j = if j = 45 then 0 else if j = 44 then 0 else if j = 43 then 0 else if j = 42 then 0 else if j = 41 then 0 else if j = 40 then x else if j = 48 then v else g.I 197 j := fun j => by rw [eh, I_at, I_at, I_at, I_at, I_at, I_at, I_at]
      clear eh
      have H7 : ∀ j, ((((h1.sI 197 46 0).sI 197 47 (-1)).sI 198 (ix 2) 0).sI 198 (ix 3) 0).I 197 j = if j = 47 then -1 else if j = 46 then 0 else h1.I 197 j := fun j => by rw [I_ne (by decide), I_ne (by decide), I_at, I_at]
      have H8 : ∀ j, ((((h1.sI 197 46 0).sI 197 47 (-1)).sI 198 (ix 2) 0).sI 198 (ix 3) 0).I 198 j = if j = 3 then 0 else if j = 2 then 0 else h.I 198 j := fun j => by
        rw [show ix 2 = 2 from rfl, show ix 3 = 3 from rfl, I_at, I_at, I_ne (by decide), I_ne (by decide), s1.I (by decide), e8]
      have sH : Sm (fun a => a = 197 ∨ a = 198 ∨ a = 220) h ((((h1.sI 197 46 0).sI 197 47 (-1)).sI 198 (ix 2) 0).sI 198 (ix 3) 0) := Sm.sI (S := fun a => a = 197 ∨ a = 198 ∨ a = 220) (Sm.sI (S := fun a => a = 197 ∨ a = 198 ∨ a = 220) (Sm.sI (S := fun a => a = 197 ∨ a = 198 ∨ a = 220) (Sm.sI (S := fun a => a = 197 ∨ a = 198 ∨ a = 220) ((sm.mono (fun a ha => Or.inr (Or.inr ha))).trans (s1.mono (fun a ha => Or.inl ha))) (Or.inl rfl) _) (Or.inl rfl) _) (Or.inr (Or.inl rfl)) _) (Or.inr (Or.inl rfl)) _
      have H220 : ∀ e, e < 12 → ((((h1.sI 197 46 0).sI 197 47 (-1)).sI 198 (ix 2) 0).sI 198 (ix 3) 0).I 220 e = h.I 198 (112 + e) := fun e he => by
        rw [I_ne (by decide), I_ne (by decide), I_ne (by decide), I_ne (by decide), s1.I (by decide)]; exact a e he
      generalize (((h1.sI 197 46 0).sI 197 47 (-1)).sI 198 (ix 2) 0).sI 198 (ix 3) 0 = H at H7 H8 sH H220 ⊢
      have hMH : MA H M := fun j hj => by rw [H8, if_neg (by omega), if_neg (by omega)]; exact hM j hj
      have mpH : MP H M := ⟨by rw [H8, if_neg (by omega), if_neg (by omega)]; exact mp.1, fun j h1 h2 => by rw [H8, if_neg (by omega), if_neg (by omega)]; exact mp.2 j h1 h2⟩
      have none0 : ∀ d, ¬ bt (0 : Int32) d = true := fun d u => by rw [bt_0] at u; exact absurd u (by decide)
      refine S318l (dr := drF x) (x := x) hw hMH p mpH ⟨by rw [H8]; rfl, by rw [H8]; rfl, by rw [H7, w]; rfl, by rw [H7, w]; rfl, by rw [H7, w]; rfl, by rw [H7]; rfl, by rw [H7, w]; rfl, by rw [H7, w]; rfl, by rw [H7]; rfl, by rw [H7, w]; exact hv, by rw [H7, w]; rfl, fun d _ u => absurd u (none0 d), fun d _ u => absurd u (none0 d)⟩ (fun g2 s hs rl ck => ?_)
      obtain ⟨q2, q3, q41, q42, q43, q47, q44, q45, q46, q48, q40, _, _⟩ := ck
      unfold B318_284
      rw [show ix 2 = 2 from rfl, show ix 3 = 3 from rfl, q2, I_ne (show (198 : Nat) ≠ 197 by decide), q3, e8]
      intro h2 eh2
      have z7 : ∀ j, h2.I 197 j = if j = 54 then ckU s else if j = 53 then ckS s else g2.I 197 j := fun j => by rw [eh2, I_ne (by decide), I_at, I_at]
      have z8 : ∀ j, h2.I 198 j = if j = 2 then h.I 198 2 else g2.I 198 j := fun j => by rw [eh2, I_at, I_ne (by decide), I_ne (by decide)]
      have sz : Sm (fun a => a = 197 ∨ a = 198 ∨ a = 206 ∨ a = 219 ∨ a = 220) h h2 := by
        rw [eh2]
        exact Sm.sI (S := fun a => a = 197 ∨ a = 198 ∨ a = 206 ∨ a = 219 ∨ a = 220) (Sm.sI (S := fun a => a = 197 ∨ a = 198 ∨ a = 206 ∨ a = 219 ∨ a = 220) (Sm.sI (S := fun a => a = 197 ∨ a = 198 ∨ a = 206 ∨ a = 219 ∨ a = 220) ((sH.mono (fun a ha => by omega)).trans (rl.1.mono (fun a ha => by omega))) (Or.inl rfl) _) (Or.inl rfl) _) (Or.inr (Or.inl rfl)) _
      have z220 : ∀ e, e < 12 → h2.I 220 e = h.I 198 (112 + e) := fun e he => by rw [eh2, I_ne (by decide), I_ne (by decide), I_ne (by decide), rl.1.I (by decide)]; exact H220 e he
      clear eh2
      have y8 : ∀ j, (h2.sI 198 3 (h.I 198 3)).I 198 j = if j = 3 then h.I 198 3 else if j = 2 then h.I 198 2 else g2.I 198 j := fun j => by rw [I_at, z8]
      unfold B318_321
      refine LFP.up 12 (fun (j : Nat) (q : Int32 × TH) => q.1 = nI j ∧ Sm (fun a => a = 197 ∨ a = 198 ∨ a = 206 ∨ a = 219 ∨ a = 220) h q.2 ∧ q.2.I 197 = h2.I 197 ∧ (∀ e, e < 12 → q.2.I 220 e = h.I 198 (112 + e)) ∧ (∀ e, e < j → q.2.I 198 (112 + e) = h.I 198 (112 + e)) ∧ ∀ i, (i < 112 ∨ 124 ≤ i) → q.2.I 198 i = h.I 198 i) ?_ ?_ (Nat.zero_le _) ⟨rfl, Sm.sI (S := fun a => a = 197 ∨ a = 198 ∨ a = 206 ∨ a = 219 ∨ a = 220) sz (Or.inr (Or.inl rfl)) _, by funext j; rw [I_ne (by decide)], fun e he => by rw [I_ne (by decide)]; exact z220 e he, fun e he => absurd he (Nat.not_lt_zero _), fun i hi => ?_⟩
      · rintro Y j ⟨x5, g3⟩ hj ⟨e1, s3, f7, f220, f8, fo⟩ ih
        (try dsimp only at e1 s3 f7 f220 f8 fo)
        subst e1
        unfold F318_321
        (try dsimp only)
        rw [if_neg (show ¬ (12 : Int32) ≤ nI j from nI_ge (b := 12) hj (by omega)), show (112 : Int32) = nI 112 from rfl, nI_add, ix_n (j := 112 + j) (by omega), ix_n (j := j) (by omega), nI_1, f220 j hj]
        refine ⟨inb_n (by omega), inb_n (by omega), ih _ ⟨rfl, Sm.sI (S := fun a => a = 197 ∨ a = 198 ∨ a = 206 ∨ a = 219 ∨ a = 220) s3 (Or.inr (Or.inl rfl)) _, by funext i; rw [I_ne (by decide), f7], fun e he => by rw [I_ne (by decide)]; exact f220 e he, fun e he => ?_, fun i hi => by rw [I_nk (by omega)]; exact fo i hi⟩⟩
        (try dsimp only)
        rw [I_at]
        by_cases u : e = j
        · rw [if_pos (by omega), u]
        · rw [if_neg (by omega)]; exact f8 e (by omega)
      · rintro Y ⟨x5, g3⟩ ⟨e1, s3, f7, f220, f8, fo⟩
        (try dsimp only at e1 s3 f7 f220 f8 fo)
        subst e1
        unfold F318_321
        (try dsimp only)
        rw [if_pos (show (12 : Int32) ≤ nI 12 by decide +kernel)]
        refine kk g3 s hs ⟨s3, fun j j25 hj j53 j54 => ?_, fun j => ?_⟩ ⟨?_, ?_, ?_, ?_, ?_, ?_, ?_, ?_, ?_⟩
        · rw [f7, z7, if_neg j54, if_neg j53, rl.2.1 j j25 (by omega), H7, if_neg (by omega), if_neg (by omega), w, if_neg (by omega), if_neg (by omega), if_neg (by omega), if_neg (by omega), if_neg (by omega), if_neg (by omega), if_neg (by omega), e7]
        · by_cases u : 112 ≤ j ∧ j < 124
          · obtain ⟨e, rfl⟩ : ∃ e, j = 112 + e := ⟨j - 112, by omega⟩
            exact f8 e (by omega)
          · exact fo j (by omega)
        · rw [f7, z7, if_neg (by decide), if_pos rfl]
        · rw [f7, z7, if_pos rfl]
        · rw [f7, z7, if_neg (by decide), if_neg (by decide)]; exact q41
        · rw [f7, z7, if_neg (by decide), if_neg (by decide)]; exact q42
        · rw [f7, z7, if_neg (by decide), if_neg (by decide)]; exact q43
        · rw [f7, z7, if_neg (by decide), if_neg (by decide)]; exact q44
        · rw [f7, z7, if_neg (by decide), if_neg (by decide)]; exact q45
        · rw [f7, z7, if_neg (by decide), if_neg (by decide)]; exact q46
        · rw [f7, z7, if_neg (by decide), if_neg (by decide)]; exact q47
      · rw [y8]
        by_cases u3 : i = 3
        · rw [if_pos u3, u3]
        · rw [if_neg u3]
          by_cases u2 : i = 2
          · rw [if_pos u2, u2]
          · rw [if_neg u2, rl.2.2 i u2 u3 hi, H8, if_neg u3, if_neg u2]
    by_cases qx : x = (-1)
    · rw [if_pos qx]
      exact go 0 (by unfold drF; rw [if_pos qx]) (Or.inl rfl)
    · rw [if_neg qx]
      exact go 1 (by unfold drF; rw [if_neg qx]) (Or.inr rfl)
end MC3
