/-! THE LAW'S BRANCHES AND ITS LOOP -/
def Ib (L : Nat) (xs : Nat → Int32) (x3 : Int32) : Prop := ∀ h2, Sc L xs h2 → inb x3 (h2.N 1000000) ∧ inb (x3 + 1) (h2.N 1000000) ∧ inb (x3 + 2) (h2.N 1000000) ∧ inb (x3 + 3) (h2.N 1000000) ∧ inb (x3 + 4) (h2.N 1000000) ∧ inb (x3 + 5) (h2.N 1000000)
section LAW
variable {h g : TH} {L z : Nat} {xs : Nat → Int32} {x3 : Int32} {C : Int32 → TH → Prop} {X18 : Int32 × TH → Prop}
theorem Inv.nx (hI : Inv L xs h z) (hz : z < 1000) : Inv L xs h (z + 1) := hI.mk hz Kept.refl ⟨Nat.le_refl _, by omega, by omega⟩ hI.1 (fun _ _ s => s)
theorem cmp_self (v : Int64) : lg_cmp v v = 0 := by
  unfold lg_cmp
  simp [Int64.lt_irrefl]
theorem Inv.tpe (hI : Inv L xs h z) : Tpe h := by
  obtain ⟨-, G, c, i, ⟨t, -⟩, -⟩ := hI
  exact t
theorem Bb_212 (hI : Inv L xs h z) (hz : z < 1000) (ib : Ib L xs x3) (kX : ∀ g, Inv L xs g (z + 1) → X18 (x3 + 6, g)) : B330_212 x3 h C X18 := by
  unfold B330_212
  unfold W151 W201
  dsimp only
  rw [if_pos hI.1.1]; exact kX h (hI.nx hz)
theorem Bb_225 (hI : Inv L xs h z) (hz : z < 1000) (ib : Ib L xs x3) (kX : ∀ g, Inv L xs g (z + 1) → X18 (x3 + 6, g)) : B330_225 x3 h C X18 := by
  unfold B330_225
  unfold W152 W202
  dsimp only
  rw [hI.1.2.1, if_pos (cmp_self _)]; exact kX h (hI.nx hz)
theorem Bb_239 (hI : Inv L xs h z) (hz : z < 1000) (ib : Ib L xs x3) (kX : ∀ g, Inv L xs g (z + 1) → X18 (x3 + 6, g)) : B330_239 x3 h C X18 := by
  unfold B330_239
  unfold W153 W203
  dsimp only
  rw [hI.1.2.2, if_pos (cmp_self _)]; exact kX h (hI.nx hz)
theorem Bb_253 (hI : Inv L xs h z) (hz : z < 1000) (ib : Ib L xs x3) (kX : ∀ g, Inv L xs g (z + 1) → X18 (x3 + 6, g)) : B330_253 x3 h C X18 := by
  unfold B330_253
  have s0 := hI.sc
  refine ⟨(ib h s0).2.1, (ib h s0).2.2.1, (ib h s0).2.2.2.1, ?_⟩
  rw [s0.2]
  refine Q154 hI hz (fun v h2 sc q => ?_)
  (try dsimp only)
  refine ⟨(ib h2 sc).2.1, (ib h2 sc).2.2.1, (ib h2 sc).2.2.2.1, ?_⟩
  rw [sc.2]
  refine q _ (fun g hg => ?_)
  (try dsimp only)
  rw [if_pos rfl]; exact kX g hg
theorem Bb_296 (hI : Inv L xs h z) (hz : z < 1000) (ib : Ib L xs x3) (kX : ∀ g, Inv L xs g (z + 1) → X18 (x3 + 6, g)) : B330_296 x3 h C X18 := by
  unfold B330_296
  have s0 := hI.sc
  refine ⟨(ib h s0).2.1, (ib h s0).2.2.1, (ib h s0).2.2.2.1, (ib h s0).2.2.2.2.1, ?_⟩
  rw [s0.2]
  refine Q155 hI hz (fun v h2 sc q => ?_)
  (try dsimp only)
  refine ⟨(ib h2 sc).2.1, (ib h2 sc).2.2.1, (ib h2 sc).2.2.2.1, (ib h2 sc).2.2.2.2.1, ?_⟩
  rw [sc.2]
  refine q _ (fun g hg => ?_)
  (try dsimp only)
  rw [if_pos rfl]; exact kX g hg
theorem Bb_369 (hI : Inv L xs h z) (hz : z < 1000) (ib : Ib L xs x3) (kX : ∀ g, Inv L xs g (z + 1) → X18 (x3 + 6, g)) : B330_369 x3 h C X18 := by
  unfold B330_369
  have s0 := hI.sc
  refine ⟨(ib h s0).2.1, (ib h s0).2.2.1, ?_⟩
  rw [s0.2]
  refine Q156 hI hz (fun v h2 sc q => ?_)
  (try dsimp only)
  refine ⟨(ib h2 sc).2.1, (ib h2 sc).2.2.1, ?_⟩
  rw [sc.2]
  refine q _ (fun g hg => ?_)
  (try dsimp only)
  rw [if_pos (cmp_self _)]; exact kX g hg
theorem Bb_403 (hI : Inv L xs h z) (hz : z < 1000) (ib : Ib L xs x3) (kX : ∀ g, Inv L xs g (z + 1) → X18 (x3 + 6, g)) : B330_403 x3 h C X18 := by
  unfold B330_403
  have s0 := hI.sc
  refine ⟨(ib h s0).2.1, (ib h s0).2.2.1, (ib h s0).2.2.2.1, (ib h s0).2.2.2.2.1, (ib h s0).2.2.2.2.2, ?_⟩
  rw [s0.2]
  refine Q157 hI hz (fun v h2 sc q => ?_)
  (try dsimp only)
  refine ⟨(ib h2 sc).2.1, (ib h2 sc).2.2.1, (ib h2 sc).2.2.2.1, (ib h2 sc).2.2.2.2.1, (ib h2 sc).2.2.2.2.2, ?_⟩
  rw [sc.2]
  refine q _ (fun g hg => ?_)
  (try dsimp only)
  rw [if_pos rfl]; exact kX g hg
theorem Bb_466 (hI : Inv L xs h z) (hz : z < 1000) (ib : Ib L xs x3) (kX : ∀ g, Inv L xs g (z + 1) → X18 (x3 + 6, g)) : B330_466 x3 h C X18 := by
  unfold B330_466
  have s0 := hI.sc
  refine ⟨(ib h s0).2.1, (ib h s0).2.2.1, (ib h s0).2.2.2.1, (ib h s0).2.2.2.2.1, (ib h s0).2.2.2.2.2, ?_⟩
  rw [s0.2]
  refine Q158 (fun j => match j with | 0 => xs (ix (x3 + 1)) | 1 => xs (ix (x3 + 2)) | 2 => xs (ix (x3 + 3)) | 3 => xs (ix (x3 + 4)) | _ => xs (ix (x3 + 5))) hI hz (fun v h2 sc q => ?_)
  (try dsimp only)
  refine ⟨(ib h2 sc).2.1, (ib h2 sc).2.2.1, (ib h2 sc).2.2.2.1, (ib h2 sc).2.2.2.2.1, (ib h2 sc).2.2.2.2.2, ?_⟩
  rw [sc.2]
  refine q _ (fun g hg => ?_)
  (try dsimp only)
  rw [if_pos rfl]; exact kX g hg
theorem Bb_529 (hI : Inv L xs h z) (hz : z < 1000) (ib : Ib L xs x3) (kX : ∀ g, Inv L xs g (z + 1) → X18 (x3 + 6, g)) : B330_529 x3 h C X18 := by
  unfold B330_529
  have s0 := hI.sc
  refine ⟨(ib h s0).2.1, ?_⟩
  rw [s0.2]
  refine Q159 hI hz (fun v h2 sc q => ?_)
  (try dsimp only)
  refine ⟨(ib h2 sc).2.1, ?_⟩
  rw [sc.2]
  refine q _ (fun g hg => ?_)
  (try dsimp only)
  rw [if_pos rfl]; exact kX g hg
theorem Bb_552 (hI : Inv L xs h z) (hz : z < 1000) (ib : Ib L xs x3) (kX : ∀ g, Inv L xs g (z + 1) → X18 (x3 + 6, g)) : B330_552 x3 h C X18 := by
  unfold B330_552
  have s0 := hI.sc
  refine ⟨(ib h s0).2.1, ?_⟩
  rw [s0.2]
  refine Q160 hI hz (fun v h2 sc q => ?_)
  (try dsimp only)
  refine ⟨(ib h2 sc).2.1, ?_⟩
  rw [sc.2]
  refine q _ (fun g hg => ?_)
  (try dsimp only)
  rw [if_pos rfl]; exact kX g hg
theorem Bb_575 (hI : Inv L xs h z) (hz : z < 1000) (ib : Ib L xs x3) (kX : ∀ g, Inv L xs g (z + 1) → X18 (x3 + 6, g)) : B330_575 x3 h C X18 := by
  unfold B330_575
  have tp := hI.tpe
  have i1 := (ib h hI.sc).2.1
  refine ⟨i1, ?_⟩
  unfold W161 W232
  dsimp only
  by_cases q0 : h.I 1000000 (ix (x3 + 1)) = 0
  · rw [if_neg (fun n => n q0)]
    refine ⟨i1, ?_⟩
    rw [if_neg (fun n => n q0), if_pos tp.2.1]; exact kX h (hI.nx hz)
  · rw [if_pos q0]
    by_cases q1 : h.I 1000000 (ix (x3 + 1)) = 1
    · rw [if_neg (fun n => n q1)]
      refine ⟨i1, ?_⟩
      rw [if_pos q0, if_neg (fun n => n q1), if_pos tp.2.2.1]; exact kX h (hI.nx hz)
    · rw [if_pos q1]
      refine ⟨i1, ?_⟩
      rw [if_pos q0, if_pos q1, if_pos rfl]; exact kX h (hI.nx hz)
theorem Bb_598 (hI : Inv L xs h z) (hz : z < 1000) (ib : Ib L xs x3) (kX : ∀ g, Inv L xs g (z + 1) → X18 (x3 + 6, g)) : B330_598 x3 h C X18 := by
  unfold B330_598
  have s0 := hI.sc
  refine ⟨(ib h s0).2.1, ?_⟩
  rw [s0.2]
  refine Q162 hI hz (fun v h2 sc q => ?_)
  (try dsimp only)
  refine ⟨(ib h2 sc).2.1, ?_⟩
  rw [sc.2]
  refine q _ (fun g hg => ?_)
  (try dsimp only)
  rw [if_pos rfl]; exact kX g hg
theorem Bb_621 (hI : Inv L xs h z) (hz : z < 1000) (ib : Ib L xs x3) (kX : ∀ g, Inv L xs g (z + 1) → X18 (x3 + 6, g)) : B330_621 x3 h C X18 := by
  unfold B330_621
  have s0 := hI.sc
  refine ⟨(ib h s0).2.1, (ib h s0).2.2.1, ?_⟩
  rw [s0.2]
  refine Q163 hI hz (fun v h2 sc q => ?_)
  (try dsimp only)
  refine ⟨(ib h2 sc).2.1, (ib h2 sc).2.2.1, ?_⟩
  rw [sc.2]
  refine q _ (fun g hg => ?_)
  (try dsimp only)
  rw [if_pos rfl]; exact kX g hg
theorem Bb_654 (hI : Inv L xs h z) (hz : z < 1000) (ib : Ib L xs x3) (kX : ∀ g, Inv L xs g (z + 1) → X18 (x3 + 6, g)) : B330_654 x3 h C X18 := by
  unfold B330_654
  have s0 := hI.sc
  refine ⟨(ib h s0).2.1, ?_⟩
  rw [s0.2]
  refine Q164 hI hz (fun v h2 sc q => ?_)
  (try dsimp only)
  refine ⟨(ib h2 sc).2.1, ?_⟩
  rw [sc.2]
  refine q _ (fun g hg => ?_)
  (try dsimp only)
  rw [if_pos rfl]; exact kX g hg
theorem Bb_677 (hI : Inv L xs h z) (hz : z < 1000) (ib : Ib L xs x3) (kX : ∀ g, Inv L xs g (z + 1) → X18 (x3 + 6, g)) : B330_677 x3 h C X18 := by
  unfold B330_677
  have s0 := hI.sc
  refine ⟨(ib h s0).2.1, ?_⟩
  rw [s0.2]
  refine Q165 hI hz (fun v h2 sc q => ?_)
  (try dsimp only)
  refine ⟨(ib h2 sc).2.1, ?_⟩
  rw [sc.2]
  refine q _ (fun g hg => ?_)
  (try dsimp only)
  rw [if_pos rfl]; exact kX g hg
theorem Bb_700 (hI : Inv L xs h z) (hz : z < 1000) (ib : Ib L xs x3) (kX : ∀ g, Inv L xs g (z + 1) → X18 (x3 + 6, g)) : B330_700 x3 h C X18 := by
  unfold B330_700
  have s0 := hI.sc
  refine ⟨(ib h s0).2.1, ?_⟩
  rw [s0.2]
  refine Q166 hI hz (fun v h2 sc q => ?_)
  (try dsimp only)
  refine ⟨(ib h2 sc).2.1, ?_⟩
  rw [sc.2]
  refine q _ (fun g hg => ?_)
  (try dsimp only)
  rw [if_pos rfl]; exact kX g hg
theorem Bb_723 (hI : Inv L xs h z) (hz : z < 1000) (ib : Ib L xs x3) (kX : ∀ g, Inv L xs g (z + 1) → X18 (x3 + 6, g)) : B330_723 x3 h C X18 := by
  unfold B330_723
  have s0 := hI.sc
  refine ⟨(ib h s0).2.1, ?_⟩
  rw [s0.2]
  refine Q167 hI hz (fun v h2 sc q => ?_)
  (try dsimp only)
  refine ⟨(ib h2 sc).2.1, ?_⟩
  rw [sc.2]
  refine q _ (fun g hg => ?_)
  (try dsimp only)
  rw [if_pos rfl]; exact kX g hg
theorem Bb_746 (hI : Inv L xs h z) (hz : z < 1000) (ib : Ib L xs x3) (kX : ∀ g, Inv L xs g (z + 1) → X18 (x3 + 6, g)) : B330_746 x3 h C X18 := by
  unfold B330_746
  have s0 := hI.sc
  refine ⟨(ib h s0).2.1, (ib h s0).2.2.1, ?_⟩
  rw [s0.2]
  refine Q168 hI hz (fun v h2 sc q => ?_)
  (try dsimp only)
  refine ⟨(ib h2 sc).2.1, (ib h2 sc).2.2.1, ?_⟩
  rw [sc.2]
  refine q _ (fun g hg => ?_)
  (try dsimp only)
  rw [if_pos rfl]; exact kX g hg
theorem Bb_779 (hI : Inv L xs h z) (hz : z < 1000) (ib : Ib L xs x3) (kX : ∀ g, Inv L xs g (z + 1) → X18 (x3 + 6, g)) : B330_779 x3 h C X18 := by
  unfold B330_779
  have s0 := hI.sc
  refine ⟨(ib h s0).2.1, ?_⟩
  rw [s0.2]
  refine Q169 hI hz (fun v h2 sc q => ?_)
  (try dsimp only)
  refine ⟨(ib h2 sc).2.1, ?_⟩
  rw [sc.2]
  refine q _ (fun g hg => ?_)
  (try dsimp only)
  rw [if_pos rfl]; exact kX g hg
theorem Bb_802 (hI : Inv L xs h z) (hz : z < 1000) (ib : Ib L xs x3) (kX : ∀ g, Inv L xs g (z + 1) → X18 (x3 + 6, g)) : B330_802 x3 h C X18 := by
  unfold B330_802
  have s0 := hI.sc
  refine ⟨(ib h s0).2.1, ?_⟩
  rw [s0.2]
  refine Q170 hI hz (fun v h2 sc q => ?_)
  (try dsimp only)
  refine ⟨(ib h2 sc).2.1, ?_⟩
  rw [sc.2]
  refine q _ (fun g hg => ?_)
  (try dsimp only)
  rw [if_pos rfl]; exact kX g hg
theorem Bb_825 (hI : Inv L xs h z) (hz : z < 1000) (ib : Ib L xs x3) (kX : ∀ g, Inv L xs g (z + 1) → X18 (x3 + 6, g)) : B330_825 x3 h C X18 := by
  unfold B330_825
  have s0 := hI.sc
  refine ⟨(ib h s0).2.1, ?_⟩
  rw [s0.2]
  refine Q171 hI hz (fun v h2 sc q => ?_)
  (try dsimp only)
  refine ⟨(ib h2 sc).2.1, ?_⟩
  rw [sc.2]
  refine q _ (fun g hg => ?_)
  (try dsimp only)
  rw [if_pos rfl]; exact kX g hg
theorem Bb_848 (hI : Inv L xs h z) (hz : z < 1000) (ib : Ib L xs x3) (kX : ∀ g, Inv L xs g (z + 1) → X18 (x3 + 6, g)) : B330_848 x3 h C X18 := by
  unfold B330_848
  have s0 := hI.sc
  refine ⟨(ib h s0).2.1, ?_⟩
  rw [s0.2]
  refine Q172 hI hz (fun v h2 sc q => ?_)
  (try dsimp only)
  refine ⟨(ib h2 sc).2.1, ?_⟩
  rw [sc.2]
  refine q _ (fun g hg => ?_)
  (try dsimp only)
  rw [if_pos rfl]; exact kX g hg
theorem Bb_871 (hI : Inv L xs h z) (hz : z < 1000) (ib : Ib L xs x3) (kX : ∀ g, Inv L xs g (z + 1) → X18 (x3 + 6, g)) : B330_871 x3 h C X18 := by
  unfold B330_871
  have s0 := hI.sc
  refine Q173 hI hz (fun v h2 sc q => ?_)
  (try dsimp only)
  refine q _ (fun g hg => ?_)
  (try dsimp only)
  rw [if_pos rfl]; exact kX g hg
theorem Bb_884 (hI : Inv L xs h z) (hz : z < 1000) (ib : Ib L xs x3) (kX : ∀ g, Inv L xs g (z + 1) → X18 (x3 + 6, g)) : B330_884 x3 h C X18 := by
  unfold B330_884
  have s0 := hI.sc
  refine ⟨(ib h s0).2.1, ?_⟩
  rw [s0.2]
  refine Q174 hI hz (fun v h2 sc q => ?_)
  (try dsimp only)
  refine ⟨(ib h2 sc).2.1, ?_⟩
  rw [sc.2]
  refine q _ (fun g hg => ?_)
  (try dsimp only)
  rw [if_pos rfl]; exact kX g hg
theorem Bb_907 (hI : Inv L xs h z) (hz : z < 1000) (ib : Ib L xs x3) (kX : ∀ g, Inv L xs g (z + 1) → X18 (x3 + 6, g)) : B330_907 x3 h C X18 := by
  unfold B330_907
  have s0 := hI.sc
  refine ⟨(ib h s0).2.1, ?_⟩
  rw [s0.2]
  refine Q175 hI hz (fun v h2 sc q => ?_)
  (try dsimp only)
  refine ⟨(ib h2 sc).2.1, ?_⟩
  rw [sc.2]
  refine q _ (fun g hg => ?_)
  (try dsimp only)
  rw [if_pos rfl]; exact kX g hg
theorem Bb_930 (hI : Inv L xs h z) (hz : z < 1000) (ib : Ib L xs x3) (kX : ∀ g, Inv L xs g (z + 1) → X18 (x3 + 6, g)) : B330_930 x3 h C X18 := by
  unfold B330_930
  have s0 := hI.sc
  refine ⟨(ib h s0).2.1, ?_⟩
  rw [s0.2]
  refine Q176 hI hz (fun v h2 sc q => ?_)
  (try dsimp only)
  refine ⟨(ib h2 sc).2.1, ?_⟩
  rw [sc.2]
  refine q _ (fun g hg => ?_)
  (try dsimp only)
  rw [if_pos rfl]; exact kX g hg
theorem Bb_953 (hI : Inv L xs h z) (hz : z < 1000) (ib : Ib L xs x3) (kX : ∀ g, Inv L xs g (z + 1) → X18 (x3 + 6, g)) : B330_953 x3 h C X18 := by
  unfold B330_953
  have s0 := hI.sc
  refine ⟨(ib h s0).2.1, (ib h s0).2.2.1, ?_⟩
  rw [s0.2]
  refine Q177 hI hz (fun v h2 sc q => ?_)
  (try dsimp only)
  refine ⟨(ib h2 sc).2.1, (ib h2 sc).2.2.1, ?_⟩
  rw [sc.2]
  refine q _ (fun g hg => ?_)
  (try dsimp only)
  rw [if_pos rfl]; exact kX g hg
theorem Bb_986 (hI : Inv L xs h z) (hz : z < 1000) (ib : Ib L xs x3) (kX : ∀ g, Inv L xs g (z + 1) → X18 (x3 + 6, g)) : B330_986 x3 h C X18 := by
  unfold B330_986
  have s0 := hI.sc
  refine ⟨(ib h s0).2.1, ?_⟩
  rw [s0.2]
  refine Q178 hI hz (fun v h2 sc q => ?_)
  (try dsimp only)
  refine ⟨(ib h2 sc).2.1, ?_⟩
  rw [sc.2]
  refine q _ (fun g hg => ?_)
  (try dsimp only)
  rw [if_pos rfl]; exact kX g hg
theorem Bb_1009 (hI : Inv L xs h z) (hz : z < 1000) (ib : Ib L xs x3) (kX : ∀ g, Inv L xs g (z + 1) → X18 (x3 + 6, g)) : B330_1009 x3 h C X18 := by
  unfold B330_1009
  have s0 := hI.sc
  refine ⟨(ib h s0).2.1, (ib h s0).2.2.1, ?_⟩
  rw [s0.2]
  refine Q179 hI hz (fun v h2 sc q => ?_)
  (try dsimp only)
  refine ⟨(ib h2 sc).2.1, (ib h2 sc).2.2.1, ?_⟩
  rw [sc.2]
  refine q _ (fun g hg => ?_)
  (try dsimp only)
  rw [if_pos rfl]; exact kX g hg
theorem Bb_1042 (hI : Inv L xs h z) (hz : z < 1000) (ib : Ib L xs x3) (kX : ∀ g, Inv L xs g (z + 1) → X18 (x3 + 6, g)) : B330_1042 x3 h C X18 := by
  unfold B330_1042
  have s0 := hI.sc
  refine ⟨(ib h s0).2.1, ?_⟩
  rw [s0.2]
  refine Q180 hI hz (fun v h2 sc q => ?_)
  (try dsimp only)
  refine ⟨(ib h2 sc).2.1, ?_⟩
  rw [sc.2]
  refine q _ (fun g hg => ?_)
  (try dsimp only)
  rw [if_pos rfl]; exact kX g hg
theorem Bb_1065 (hI : Inv L xs h z) (hz : z < 1000) (ib : Ib L xs x3) (kX : ∀ g, Inv L xs g (z + 1) → X18 (x3 + 6, g)) : B330_1065 x3 h C X18 := by
  unfold B330_1065
  have s0 := hI.sc
  refine ⟨(ib h s0).2.1, ?_⟩
  rw [s0.2]
  refine Q181 hI hz (fun v h2 sc q => ?_)
  (try dsimp only)
  refine ⟨(ib h2 sc).2.1, ?_⟩
  rw [sc.2]
  refine q _ (fun g hg => ?_)
  (try dsimp only)
  rw [if_pos rfl]; exact kX g hg
theorem Bb_1088 (hI : Inv L xs h z) (hz : z < 1000) (ib : Ib L xs x3) (kX : ∀ g, Inv L xs g (z + 1) → X18 (x3 + 6, g)) : B330_1088 x3 h C X18 := by
  unfold B330_1088
  have s0 := hI.sc
  refine ⟨(ib h s0).2.1, ?_⟩
  rw [s0.2]
  refine Q182 hI hz (fun v h2 sc q => ?_)
  (try dsimp only)
  refine ⟨(ib h2 sc).2.1, ?_⟩
  rw [sc.2]
  refine q _ (fun g hg => ?_)
  (try dsimp only)
  rw [if_pos rfl]; exact kX g hg
theorem Bb_1111 (hI : Inv L xs h z) (hz : z < 1000) (ib : Ib L xs x3) (kX : ∀ g, Inv L xs g (z + 1) → X18 (x3 + 6, g)) : B330_1111 x3 h C X18 := by
  unfold B330_1111
  have s0 := hI.sc
  refine ⟨(ib h s0).2.1, (ib h s0).2.2.1, ?_⟩
  rw [s0.2]
  refine Q183 hI hz (fun v h2 sc q => ?_)
  (try dsimp only)
  refine ⟨(ib h2 sc).2.1, (ib h2 sc).2.2.1, ?_⟩
  rw [sc.2]
  refine q _ (fun g hg => ?_)
  (try dsimp only)
  rw [if_pos rfl]; exact kX g hg
theorem Bb_1144 (hI : Inv L xs h z) (hz : z < 1000) (ib : Ib L xs x3) (kX : ∀ g, Inv L xs g (z + 1) → X18 (x3 + 6, g)) : B330_1144 x3 h C X18 := by
  unfold B330_1144
  have s0 := hI.sc
  refine ⟨(ib h s0).2.1, (ib h s0).2.2.1, ?_⟩
  rw [s0.2]
  refine Q184 hI hz (fun v h2 sc q => ?_)
  (try dsimp only)
  refine ⟨(ib h2 sc).2.1, (ib h2 sc).2.2.1, ?_⟩
  rw [sc.2]
  refine q _ (fun g hg => ?_)
  (try dsimp only)
  rw [if_pos rfl]; exact kX g hg
theorem Bb_1177 (hI : Inv L xs h z) (hz : z < 1000) (ib : Ib L xs x3) (kX : ∀ g, Inv L xs g (z + 1) → X18 (x3 + 6, g)) : B330_1177 x3 h C X18 := by
  unfold B330_1177
  have s0 := hI.sc
  refine ⟨(ib h s0).2.1, ?_⟩
  rw [s0.2]
  refine Q185 hI hz (fun v h2 sc q => ?_)
  (try dsimp only)
  refine ⟨(ib h2 sc).2.1, ?_⟩
  rw [sc.2]
  refine q _ (fun g hg => ?_)
  (try dsimp only)
  rw [if_pos rfl]; exact kX g hg
theorem Bb_1200 (hI : Inv L xs h z) (hz : z < 1000) (ib : Ib L xs x3) (kX : ∀ g, Inv L xs g (z + 1) → X18 (x3 + 6, g)) : B330_1200 x3 h C X18 := by
  unfold B330_1200
  have s0 := hI.sc
  refine ⟨(ib h s0).2.1, ?_⟩
  rw [s0.2]
  refine Q186 hI hz (fun v h2 sc q => ?_)
  (try dsimp only)
  refine ⟨(ib h2 sc).2.1, ?_⟩
  rw [sc.2]
  refine q _ (fun g hg => ?_)
  (try dsimp only)
  rw [if_pos rfl]; exact kX g hg
theorem Bb_1223 (hI : Inv L xs h z) (hz : z < 1000) (ib : Ib L xs x3) (kX : ∀ g, Inv L xs g (z + 1) → X18 (x3 + 6, g)) : B330_1223 x3 h C X18 := by
  unfold B330_1223
  have s0 := hI.sc
  refine ⟨(ib h s0).2.1, ?_⟩
  rw [s0.2]
  refine Q187 hI hz (fun v h2 sc q => ?_)
  (try dsimp only)
  refine ⟨(ib h2 sc).2.1, ?_⟩
  rw [sc.2]
  refine q _ (fun g hg => ?_)
  (try dsimp only)
  rw [if_pos rfl]; exact kX g hg
theorem Bb_1246 (hI : Inv L xs h z) (hz : z < 1000) (ib : Ib L xs x3) (kX : ∀ g, Inv L xs g (z + 1) → X18 (x3 + 6, g)) : B330_1246 x3 h C X18 := by
  unfold B330_1246
  have s0 := hI.sc
  refine Q188 hI hz (fun v h2 sc q => ?_)
  (try dsimp only)
  refine q _ (fun g hg => ?_)
  (try dsimp only)
  rw [if_pos rfl]; exact kX g hg
theorem Bb_1259 (hI : Inv L xs h z) (hz : z < 1000) (ib : Ib L xs x3) (kX : ∀ g, Inv L xs g (z + 1) → X18 (x3 + 6, g)) : B330_1259 x3 h C X18 := by
  unfold B330_1259
  have s0 := hI.sc
  refine ⟨(ib h s0).2.1, (ib h s0).2.2.1, (ib h s0).2.2.2.1, ?_⟩
  rw [s0.2]
  refine Q189 hI hz (fun v h2 sc q => ?_)
  (try dsimp only)
  refine ⟨(ib h2 sc).2.1, (ib h2 sc).2.2.1, (ib h2 sc).2.2.2.1, ?_⟩
  rw [sc.2]
  refine q _ (fun g hg => ?_)
  (try dsimp only)
  rw [if_pos rfl]; exact kX g hg
theorem Bb_1302 (hI : Inv L xs h z) (hz : z < 1000) (ib : Ib L xs x3) (kX : ∀ g, Inv L xs g (z + 1) → X18 (x3 + 6, g)) : B330_1302 x3 h C X18 := by
  unfold B330_1302
  have s0 := hI.sc
  refine Q190 hI hz (fun v h2 sc q => ?_)
  (try dsimp only)
  refine q _ (fun g hg => ?_)
  (try dsimp only)
  rw [if_pos rfl]; exact kX g hg
theorem Bb_1315 (hI : Inv L xs h z) (hz : z < 1000) (ib : Ib L xs x3) (kX : ∀ g, Inv L xs g (z + 1) → X18 (x3 + 6, g)) : B330_1315 x3 h C X18 := by
  unfold B330_1315
  have s0 := hI.sc
  refine Q191 hI hz (fun v h2 sc q => ?_)
  (try dsimp only)
  refine q _ (fun g hg => ?_)
  (try dsimp only)
  rw [if_pos rfl]; exact kX g hg
theorem lt6 {n c : Nat} (hn : n ≤ 384) (hc : c ≤ 1000) : nI n - 6 < nI c ↔ n < 6 + c := by
  have e : (nI n - nI 6).toInt = (n : Int) - (6 : Nat) := pk_sub_toInt (by omega) (by omega)
  show nI n - nI 6 < nI c ↔ _
  rw [Int32.lt_iff_toInt_lt, e, nI_toInt (by omega)]
  omega
theorem law_loop (hL : L ≤ 384) (h0 : Inv L xs h 0) (kC : ∀ g, 222 ≤ g.n → g.n ≤ 20000 → g.sl ≤ 7300000 → C 1 g) : B330_18 0 h C := by
  unfold B330_18
  refine LFP.ix (fun (k : Nat) (q : Int32 × TH) => ∃ z, k = 64 - z ∧ z ≤ 64 ∧ q.1 = nI (6 * z) ∧ 6 * z ≤ L ∧ Inv L xs q.2 z) ?_ (k := 64) ⟨0, rfl, by omega, rfl, by omega, h0⟩
  rintro X k ⟨x3, h⟩ ⟨z, e1, e2, e3, e5, e4⟩ ih
  dsimp only at e3 e4
  subst e3
  unfold F330_18
  dsimp only
  have sc := e4.sc
  rw [sc.1]
  by_cases q : L < 6 + 6 * z
  · rw [if_pos ((lt6 hL (by omega)).mpr q)]
    have hn := e4.nn
    obtain ⟨-, G, c, i, ⟨-, -, -, -, rm, -⟩, -⟩ := e4
    unfold Rm at rm
    exact kC h (by omega) (by omega) (by omega)
  · rw [if_neg (fun w => q ((lt6 hL (by omega)).mp w))]
    have i0 : ∀ j, j ≤ 5 → ∀ h2, Sc L xs h2 → inb (nI (6 * z + j)) (h2.N 1000000) := fun j hj h2 s2 => by rw [s2.1]; exact inb_n (by omega)
    have ib : Ib L xs (nI (6 * z)) := fun h2 s2 => ⟨i0 0 (by omega) h2 s2, by rw [show nI (6 * z) + 1 = nI (6 * z + 1) from nI_add _ 1]; exact i0 1 (by omega) h2 s2, by rw [show nI (6 * z) + 2 = nI (6 * z + 2) from nI_add _ 2]; exact i0 2 (by omega) h2 s2, by rw [show nI (6 * z) + 3 = nI (6 * z + 3) from nI_add _ 3]; exact i0 3 (by omega) h2 s2, by rw [show nI (6 * z) + 4 = nI (6 * z + 4) from nI_add _ 4]; exact i0 4 (by omega) h2 s2, by rw [show nI (6 * z) + 5 = nI (6 * z + 5) from nI_add _ 5]; exact i0 5 (by omega) h2 s2⟩
    have hz : z < 1000 := by omega
    have kX : ∀ g, Inv L xs g (z + 1) → X (nI (6 * z) + 6, g) := fun g hg => ih (64 - (z + 1)) _ (by omega) ⟨z + 1, rfl, by omega, by show nI (6 * z) + 6 = nI (6 * (z + 1)); rw [show nI (6 * z) + 6 = nI (6 * z + 6) from nI_add _ 6, show 6 * (z + 1) = 6 * z + 6 by omega], by omega, hg⟩
    refine ⟨by have := (ib h sc).1; rw [sc.1] at this; exact this, ?_⟩
    by_cases c0 : (h.I 1000000 (ix (nI (6 * z)))) &&& 63 = 0
    · rw [if_pos c0]; exact Bb_212 e4 hz ib kX
    rw [if_neg c0]
    by_cases c1 : (h.I 1000000 (ix (nI (6 * z)))) &&& 63 = 1
    · rw [if_pos c1]; exact Bb_225 e4 hz ib kX
    rw [if_neg c1]
    by_cases c2 : (h.I 1000000 (ix (nI (6 * z)))) &&& 63 = 2
    · rw [if_pos c2]; exact Bb_239 e4 hz ib kX
    rw [if_neg c2]
    by_cases c3 : (h.I 1000000 (ix (nI (6 * z)))) &&& 63 = 3
    · rw [if_pos c3]; exact Bb_253 e4 hz ib kX
    rw [if_neg c3]
    by_cases c4 : (h.I 1000000 (ix (nI (6 * z)))) &&& 63 = 4
    · rw [if_pos c4]; exact Bb_296 e4 hz ib kX
    rw [if_neg c4]
    by_cases c5 : (h.I 1000000 (ix (nI (6 * z)))) &&& 63 = 5
    · rw [if_pos c5]; exact Bb_369 e4 hz ib kX
    rw [if_neg c5]
    by_cases c6 : (h.I 1000000 (ix (nI (6 * z)))) &&& 63 = 6
    · rw [if_pos c6]; exact Bb_403 e4 hz ib kX
    rw [if_neg c6]
    by_cases c7 : (h.I 1000000 (ix (nI (6 * z)))) &&& 63 = 7
    · rw [if_pos c7]; exact Bb_466 e4 hz ib kX
    rw [if_neg c7]
    by_cases c8 : (h.I 1000000 (ix (nI (6 * z)))) &&& 63 = 8
    · rw [if_pos c8]; exact Bb_529 e4 hz ib kX
    rw [if_neg c8]
    by_cases c9 : (h.I 1000000 (ix (nI (6 * z)))) &&& 63 = 9
    · rw [if_pos c9]; exact Bb_552 e4 hz ib kX
    rw [if_neg c9]
    by_cases c10 : (h.I 1000000 (ix (nI (6 * z)))) &&& 63 = 10
    · rw [if_pos c10]; exact Bb_575 e4 hz ib kX
    rw [if_neg c10]
    by_cases c11 : (h.I 1000000 (ix (nI (6 * z)))) &&& 63 = 11
    · rw [if_pos c11]; exact Bb_598 e4 hz ib kX
    rw [if_neg c11]
    by_cases c12 : (h.I 1000000 (ix (nI (6 * z)))) &&& 63 = 12
    · rw [if_pos c12]; exact Bb_621 e4 hz ib kX
    rw [if_neg c12]
    by_cases c13 : (h.I 1000000 (ix (nI (6 * z)))) &&& 63 = 13
    · rw [if_pos c13]; exact Bb_654 e4 hz ib kX
    rw [if_neg c13]
    by_cases c14 : (h.I 1000000 (ix (nI (6 * z)))) &&& 63 = 14
    · rw [if_pos c14]; exact Bb_677 e4 hz ib kX
    rw [if_neg c14]
    by_cases c15 : (h.I 1000000 (ix (nI (6 * z)))) &&& 63 = 15
    · rw [if_pos c15]; exact Bb_700 e4 hz ib kX
    rw [if_neg c15]
    by_cases c16 : (h.I 1000000 (ix (nI (6 * z)))) &&& 63 = 16
    · rw [if_pos c16]; exact Bb_723 e4 hz ib kX
    rw [if_neg c16]
    by_cases c17 : (h.I 1000000 (ix (nI (6 * z)))) &&& 63 = 17
    · rw [if_pos c17]; exact Bb_746 e4 hz ib kX
    rw [if_neg c17]
    by_cases c18 : (h.I 1000000 (ix (nI (6 * z)))) &&& 63 = 18
    · rw [if_pos c18]; exact Bb_779 e4 hz ib kX
    rw [if_neg c18]
    by_cases c19 : (h.I 1000000 (ix (nI (6 * z)))) &&& 63 = 19
    · rw [if_pos c19]; exact Bb_802 e4 hz ib kX
    rw [if_neg c19]
    by_cases c20 : (h.I 1000000 (ix (nI (6 * z)))) &&& 63 = 20
    · rw [if_pos c20]; exact Bb_825 e4 hz ib kX
    rw [if_neg c20]
    by_cases c21 : (h.I 1000000 (ix (nI (6 * z)))) &&& 63 = 21
    · rw [if_pos c21]; exact Bb_848 e4 hz ib kX
    rw [if_neg c21]
    by_cases c22 : (h.I 1000000 (ix (nI (6 * z)))) &&& 63 = 22
    · rw [if_pos c22]; exact Bb_871 e4 hz ib kX
    rw [if_neg c22]
    by_cases c23 : (h.I 1000000 (ix (nI (6 * z)))) &&& 63 = 23
    · rw [if_pos c23]; exact Bb_884 e4 hz ib kX
    rw [if_neg c23]
    by_cases c24 : (h.I 1000000 (ix (nI (6 * z)))) &&& 63 = 24
    · rw [if_pos c24]; exact Bb_907 e4 hz ib kX
    rw [if_neg c24]
    by_cases c25 : (h.I 1000000 (ix (nI (6 * z)))) &&& 63 = 25
    · rw [if_pos c25]; exact Bb_930 e4 hz ib kX
    rw [if_neg c25]
    by_cases c26 : (h.I 1000000 (ix (nI (6 * z)))) &&& 63 = 26
    · rw [if_pos c26]; exact Bb_953 e4 hz ib kX
    rw [if_neg c26]
    by_cases c27 : (h.I 1000000 (ix (nI (6 * z)))) &&& 63 = 27
    · rw [if_pos c27]; exact Bb_986 e4 hz ib kX
    rw [if_neg c27]
    by_cases c28 : (h.I 1000000 (ix (nI (6 * z)))) &&& 63 = 28
    · rw [if_pos c28]; exact Bb_1009 e4 hz ib kX
    rw [if_neg c28]
    by_cases c29 : (h.I 1000000 (ix (nI (6 * z)))) &&& 63 = 29
    · rw [if_pos c29]; exact Bb_1042 e4 hz ib kX
    rw [if_neg c29]
    by_cases c30 : (h.I 1000000 (ix (nI (6 * z)))) &&& 63 = 30
    · rw [if_pos c30]; exact Bb_1065 e4 hz ib kX
    rw [if_neg c30]
    by_cases c31 : (h.I 1000000 (ix (nI (6 * z)))) &&& 63 = 31
    · rw [if_pos c31]; exact Bb_1088 e4 hz ib kX
    rw [if_neg c31]
    by_cases c32 : (h.I 1000000 (ix (nI (6 * z)))) &&& 63 = 32
    · rw [if_pos c32]; exact Bb_1111 e4 hz ib kX
    rw [if_neg c32]
    by_cases c33 : (h.I 1000000 (ix (nI (6 * z)))) &&& 63 = 33
    · rw [if_pos c33]; exact Bb_1144 e4 hz ib kX
    rw [if_neg c33]
    by_cases c34 : (h.I 1000000 (ix (nI (6 * z)))) &&& 63 = 34
    · rw [if_pos c34]; exact Bb_1177 e4 hz ib kX
    rw [if_neg c34]
    by_cases c35 : (h.I 1000000 (ix (nI (6 * z)))) &&& 63 = 35
    · rw [if_pos c35]; exact Bb_1200 e4 hz ib kX
    rw [if_neg c35]
    by_cases c36 : (h.I 1000000 (ix (nI (6 * z)))) &&& 63 = 36
    · rw [if_pos c36]; exact Bb_1223 e4 hz ib kX
    rw [if_neg c36]
    by_cases c37 : (h.I 1000000 (ix (nI (6 * z)))) &&& 63 = 37
    · rw [if_pos c37]; exact Bb_1246 e4 hz ib kX
    rw [if_neg c37]
    by_cases c38 : (h.I 1000000 (ix (nI (6 * z)))) &&& 63 = 38
    · rw [if_pos c38]; exact Bb_1259 e4 hz ib kX
    rw [if_neg c38]
    by_cases c39 : (h.I 1000000 (ix (nI (6 * z)))) &&& 63 = 39
    · rw [if_pos c39]; exact Bb_1302 e4 hz ib kX
    rw [if_neg c39]
    by_cases c40 : (h.I 1000000 (ix (nI (6 * z)))) &&& 63 = 40
    · rw [if_pos c40]; exact Bb_1315 e4 hz ib kX
    rw [if_neg c40]
    exact kX h (e4.nx hz)
end LAW
