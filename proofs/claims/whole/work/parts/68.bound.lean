/-! BOUND, WORK ONCE -/
def bnd (M : Nat → Int32) (Sc : Int32) (p : Nat) : Nat → Nat
  | 0 => p
  | j + 1 => if bt Sc j then max (bnd M Sc p j) (own M j) else bnd M Sc p j
def onc (M : Nat → Int32) (Sc : Int32) : Nat → Nat
  | 0 => 0
  | j + 1 => if bt Sc j = true ∧ leads M j then onc M Sc j + ix (wP M j) else onc M Sc j
section BN
variable {h : TH} {M : Nat → Int32} {t : Nat} {C : Int32 → Prop} {Sc goal x : Int32} {p P : Nat}
theorem own_le (hw : Wf M) {d : Nat} (hd : d < aN M) : own M d ≤ 12 := by
  have h1 := pc_needs hw hd
  have h2 := pc_le (aNe M d ||| ishl 1 (nI d))
  unfold own
  split <;> omega
theorem bnd_le12 (hw : Wf M) (hp : p ≤ 12) : ∀ j, j ≤ aN M → bnd M Sc p j ≤ 12
  | 0, _ => hp
  | j + 1, hj => by
    have h1 := bnd_le12 hw hp j (by omega)
    have h2 := own_le hw (show j < aN M by omega)
    show (if bt Sc j then max (bnd M Sc p j) (own M j) else bnd M Sc p j) ≤ 12
    split
    · omega
    · exact h1
theorem bnd_le : ∀ j, p ≤ P → (∀ d, d < j → bt Sc d = true → own M d ≤ P) → bnd M Sc p j ≤ P
  | 0, hp, _ => hp
  | j + 1, hp, ho => by
    have h1 := bnd_le j hp (fun d hd => ho d (by omega))
    show (if bt Sc j then max (bnd M Sc p j) (own M j) else bnd M Sc p j) ≤ P
    split
    · rename_i q
      have := ho j (by omega) q
      omega
    · exact h1
theorem S70 (hw : Wf M) (hr : CMr h t M) (d : Nat) (hx : x = nI d) (hd : d < aN M) (k : C (nI (own M d))) : W70 t x h C := by
  have h12 := hw.n12
  subst hx
  unfold W70
  rw [ix_n (by omega), hr.ne hd]
  refine ⟨inb_n (by omega), S327 (St_mono (hw.neN hd) h12) ?_⟩
  refine S60 hw hr d rfl hd (fun q => ?_) (fun q => ?_)
  · rw [if_neg (by decide)]
    have : own M d = pc (aNe M d) := by unfold own; rw [if_pos q]; rfl
    rw [this] at k
    rw [show nI (pc (aNe M d)) + 0 = nI (pc (aNe M d)) from nI_add _ 0]
    exact k
  · rw [if_pos rfl]
    have : own M d = pc (aNe M d) + 1 := by unfold own; rw [if_neg (by rw [q]; decide)]
    rw [this] at k
    rw [nI_1]; exact k
theorem S304 (hw : Wf M) (hM : MA h M) (d : Nat) (hx : x = nI d) (hd : d < aN M) (k : C (nI (own M d))) : W304 x h C := by
  have h12 := hw.n12
  unfold W304
  refine S251 d 4 hM hx rfl (by omega) (by omega) (S234 (St_mono (hw.neN hd) h12) (S251 d 5 hM hx rfl (by omega) (by omega) ?_))
  show C (nI (pc (aNe M d)) + 1 - aPo M d)
  rw [nI_1]
  rcases (hw.D hd).2.2.2.2.2.1 with q | q
  · rw [q]
    have : own M d = pc (aNe M d) + 1 := by unfold own; rw [if_neg (by rw [q]; decide)]
    rw [this] at k
    rw [Int32.sub_zero]; exact k
  · rw [q]
    have : own M d = pc (aNe M d) := by unfold own; rw [if_pos q]; rfl
    rw [this] at k
    rw [nI_pred]; exact k
theorem S69 (hw : Wf M) (hr : CMr h t M) (hg : CMg h t M) (hs : St (aN M) goal) (k : ∀ a, Clo M goal a → C (nI (bnd M a (pc goal) (aN M)))) : W69 t goal h C := by
  have h12 := hw.n12
  unfold W69
  refine S67 hw hr hg hs (fun a ha => S327 (St_mono hs h12) ?_)
  unfold B69_14
  refine LFP.up (aN M) (fun j z => z.2 = nI j ∧ z.1 = nI (bnd M a (pc goal) j)) ?_ ?_ (Nat.zero_le _) ⟨rfl, rfl⟩
  · rintro X j ⟨x3, x4⟩ hj ⟨e1, e2⟩ ih
    (try dsimp only at e1 e2)
    subst e1 e2
    unfold F69_14
    (try dsimp only)
    rw [hr.n, if_neg (nI_ge hj (by omega))]
    by_cases b : bt a j = true
    · rw [if_neg ((bt_in' (by omega)).mpr b)]
      refine S70 hw hr j rfl hj (ih _ ⟨nI_1 j, ?_⟩)
      have l1 := bnd_le12 (Sc := a) hw (pc_le goal) j (by omega)
      have l2 := own_le hw hj
      (try dsimp only)
      rw [imax_n (by omega) (by omega)]
      show _ = nI (if bt a j then max (bnd M a (pc goal) j) (own M j) else bnd M a (pc goal) j)
      rw [if_pos b]
    · rw [if_pos ((bt_in (by omega)).mpr (by simpa using b))]
      refine ih _ ⟨nI_1 j, ?_⟩
      show _ = nI (if bt a j then max (bnd M a (pc goal) j) (own M j) else bnd M a (pc goal) j)
      rw [if_neg b]
  · rintro X ⟨x3, x4⟩ ⟨e1, e2⟩
    (try dsimp only at e1 e2)
    subst e1 e2
    unfold F69_14
    (try dsimp only)
    rw [hr.n, if_pos (nI_le (Nat.le_refl _) (by omega))]
    exact k a ha
theorem S305 {C : Int32 → TH → Prop} (hw : Wf M) (hM : MA h M) (kno : ¬ St (aN M) goal → C (-1) (h.sI 197 2 1)) (k : ∀ a, St (aN M) goal → Clo M goal a → C (nI (bnd M a (pc goal) (aN M))) (h.sI 197 2 0)) : W305 goal h C := by
  have h12 := hw.n12
  unfold W305
  refine S249 hw hM (fun hs => ?_) (fun hs => ?_)
  · rw [if_pos (by decide)]
    refine S234 (St_mono hs h12) (S265 hw hM hs (fun a ha => ?_))
    unfold B305_28
    refine LFP.up (aN M) (fun j z => z.2.1 = nI j ∧ z.1 = nI (bnd M a (pc goal) j) ∧ z.2.2 = h) ?_ ?_ (Nat.zero_le _) ⟨rfl, rfl, rfl⟩
    · rintro X j ⟨x3, x4, g⟩ hj ⟨e1, e2, e3⟩ ih
      (try dsimp only at e1 e2 e3)
      subst e1 e2 e3
      have eN : g.I 198 (ix 0) = nI (aN M) := by rw [ix_0, hM 0 (by omega)]; exact hw.eN
      unfold F305_28
      (try dsimp only)
      rw [eN, if_neg (nI_ge hj (by omega))]
      refine S250 j rfl ha.1 (by omega) (by omega) (fun b => ?_) (fun b => ?_)
      · rw [if_neg (by decide)]
        refine S304 hw hM j rfl hj (ih _ ⟨nI_1 j, ?_, rfl⟩)
        have l1 := bnd_le12 (Sc := a) hw (pc_le goal) j (by omega)
        have l2 := own_le hw hj
        (try dsimp only)
        rw [imax_n (by omega) (by omega)]
        show _ = nI (if bt a j then max (bnd M a (pc goal) j) (own M j) else bnd M a (pc goal) j)
        rw [if_pos b]
      · rw [if_pos rfl]
        refine ih _ ⟨nI_1 j, ?_, rfl⟩
        show _ = nI (if bt a j then max (bnd M a (pc goal) j) (own M j) else bnd M a (pc goal) j)
        rw [if_neg (by rw [b]; decide)]
    · rintro X ⟨x3, x4, g⟩ ⟨e1, e2, e3⟩
      (try dsimp only at e1 e2 e3)
      subst e1 e2 e3
      have eN : g.I 198 (ix 0) = nI (aN M) := by rw [ix_0, hM 0 (by omega)]; exact hw.eN
      unfold F305_28
      (try dsimp only)
      rw [eN, if_pos (nI_le (Nat.le_refl _) (by omega))]
      exact k a hs ha
  · rw [if_neg (fun z => z rfl)]
    exact kno (fun z => hs.elim z.rng.1 z.rng.2)
theorem onc_le (hw : Wf M) : ∀ j, j ≤ aN M → onc M Sc j ≤ 99 * j
  | 0, _ => Nat.zero_le _
  | j + 1, hj => by
    have h1 := onc_le hw j (by omega)
    obtain ⟨w, w1, w2⟩ := hw.wPb (show j < aN M by omega)
    show (if bt Sc j = true ∧ leads M j then onc M Sc j + ix (wP M j) else onc M Sc j) ≤ 99 * (j + 1)
    split
    · rw [w2, ix_n (by omega)]; omega
    · omega
theorem S68 (hw : Wf M) (hr : CMr h t M) (hg : CMg h t M) (hs : St (aN M) goal) (k : ∀ a, Clo M goal a → C (nI (onc M a (aN M)))) : W68 t goal h C := by
  have h12 := hw.n12
  unfold W68
  refine S67 hw hr hg hs (fun a ha => ?_)
  unfold B68_11
  refine LFP.up (aN M) (fun j z => z.2 = nI j ∧ z.1 = nI (onc M a j)) ?_ ?_ (Nat.zero_le _) ⟨rfl, rfl⟩
  · rintro X j ⟨x3, x4⟩ hj ⟨e1, e2⟩ ih
    (try dsimp only at e1 e2)
    subst e1 e2
    unfold F68_11
    (try dsimp only)
    rw [hr.n, if_neg (nI_ge hj (by omega))]
    have no : ¬ (bt a j = true ∧ leads M j) → X (nI (onc M a j), nI j + 1) := by
      intro q
      refine ih _ ⟨nI_1 j, ?_⟩
      show _ = nI (if bt a j = true ∧ leads M j then onc M a j + ix (wP M j) else onc M a j)
      rw [if_neg q]
    by_cases b : bt a j = true
    · rw [if_neg ((bt_in' (by omega)).mpr b)]
      refine S62 hw hr j rfl hj (fun l => ?_) (fun l => ?_)
      · rw [if_neg (by decide), ix_n (by omega), (hg j hj).2.2]
        refine ⟨inb_n (by omega), ih _ ⟨nI_1 j, ?_⟩⟩
        obtain ⟨w, w1, w2⟩ := hw.wPb hj
        show _ = nI (if bt a j = true ∧ leads M j then onc M a j + ix (wP M j) else onc M a j)
        rw [if_pos ⟨b, l⟩, w2, ix_n (by omega)]
        exact nI_add _ _
      · rw [if_pos rfl]
        exact no (fun q => l q.2)
    · rw [if_pos ((bt_in (by omega)).mpr (by simpa using b))]
      exact no (fun q => b q.1)
  · rintro X ⟨x3, x4⟩ ⟨e1, e2⟩
    (try dsimp only at e1 e2)
    subst e1 e2
    unfold F68_11
    (try dsimp only)
    rw [hr.n, if_pos (nI_le (Nat.le_refl _) (by omega))]
    exact k a ha
end BN
