/-! A SEARCH BEGINS; what is made -/
/-- cells there before keep their kinds; those outside S all that they hold -/
def Gr (S : Nat → Prop) (h h' : TH) : Prop := h.n ≤ h'.n ∧ (∀ a, (a < h.n ∨ 1000000 ≤ a) → h'.K a = h.K a ∧ h'.N a = h.N a) ∧ ∀ a, (a < h.n ∨ 1000000 ≤ a) → ¬ S a → h'.I a = h.I a ∧ h'.J a = h.J a ∧ h'.P a = h.P a
theorem Gr.refl {S : Nat → Prop} {h : TH} : Gr S h h := ⟨Nat.le_refl _, fun _ _ => ⟨rfl, rfl⟩, fun _ _ _ => ⟨rfl, rfl, rfl⟩⟩
theorem Gr.trans {S : Nat → Prop} {h h' h'' : TH} (p : Gr S h h') (q : Gr S h' h'') : Gr S h h'' := by
  refine ⟨Nat.le_trans p.1 q.1, fun a ha => ?_, fun a ha hs => ?_⟩
  · have h1 := p.2.1 a ha
    have h2 := q.2.1 a (by have := p.1; omega)
    exact ⟨h2.1.trans h1.1, h2.2.trans h1.2⟩
  · have h1 := p.2.2 a ha hs
    have h2 := q.2.2 a (by have := p.1; omega) hs
    exact ⟨h2.1.trans h1.1, h2.2.1.trans h1.2.1, h2.2.2.trans h1.2.2⟩
theorem Gr.mono {S T : Nat → Prop} {h h' : TH} (p : Gr S h h') (q : ∀ a, S a → T a) : Gr T h h' := ⟨p.1, p.2.1, fun a ha hs => p.2.2 a ha (fun z => hs (q a z))⟩
theorem Sm.gr {S : Nat → Prop} {h h' : TH} (p : Sm S h h') : Gr S h h' := ⟨by rw [p.n]; exact Nat.le_refl _, fun a _ => by rw [p.K, p.N]; exact ⟨rfl, rfl⟩, fun a _ hs => ⟨p.I hs, p.J hs, by rw [p.P]⟩⟩
/-- one row is made and told to field f of t -/
def Al (g g' : TH) (t f kd L : Nat) : Prop := g'.n = g.n + 1 ∧ g'.sl = g.sl + L ∧ g'.P t f = some g.n ∧ (∀ j, j ≠ f → g'.P t j = g.P t j) ∧ g'.K g.n = kd ∧ g'.N g.n = L ∧ (∀ a, a ≠ g.n → g'.K a = g.K a ∧ g'.N a = g.N a ∧ g'.I a = g.I a ∧ g'.J a = g.J a) ∧ ∀ a, a ≠ g.n → a ≠ t → g'.P a = g.P a
theorem Al_new {g : TH} {t f kd L : Nat} (ht : t ≠ g.n) : Al g ((g.new kd L L).sP t f g.n) t f kd L := by
  refine ⟨rfl, rfl, ?_, fun j hj => ?_, ?_, ?_, fun a ha => ⟨?_, ?_, ?_, ?_⟩, fun a ha h2 => ?_⟩
  · rw [P_sP, if_pos ⟨rfl, rfl⟩]
  · rw [P_sP, if_neg (fun q => hj q.2), P_new, if_neg ht]
  · rw [K_sP, K_new, if_pos rfl]
  · rw [N_sP, N_new, if_pos rfl]
  · rw [K_sP, K_new, if_neg ha]
  · rw [N_sP, N_new, if_neg ha]
  · rw [I_sP, I_new, if_neg ha]
  · rw [J_sP, J_new, if_neg ha]
  · funext j
    rw [P_sP, if_neg (fun q => h2 q.1), P_new, if_neg ha]
/-- a search's five rows -/
def LAr (h : TH) (t L a5 a6 a7 a8 a9 : Nat) : Prop := (h.P t 5 = some a5 ∧ h.P t 6 = some a6 ∧ h.P t 7 = some a7 ∧ h.P t 8 = some a8 ∧ h.P t 9 = some a9) ∧ (h.K a5 = 100 ∧ h.K a6 = 100 ∧ h.K a7 = 100 ∧ h.K a8 = 100 ∧ h.K a9 = 102) ∧ (h.N a5 = L ∧ h.N a6 = L ∧ h.N a7 = L ∧ h.N a8 = L ∧ h.N a9 = L) ∧ L ≤ 4096 ∧ (a5 ≠ a6 ∧ a5 ≠ a7 ∧ a5 ≠ a8 ∧ a6 ≠ a7 ∧ a6 ≠ a8 ∧ a7 ≠ a8 ∧ a9 ≠ a5 ∧ a9 ≠ a6 ∧ a9 ≠ a7 ∧ a9 ≠ a8) ∧ (L = 0 ∨ 222 ≤ a5 ∧ 222 ≤ a6 ∧ 222 ≤ a7 ∧ 222 ≤ a8 ∧ 222 ≤ a9) ∧ a5 < h.n ∧ a6 < h.n ∧ a7 < h.n ∧ a8 < h.n ∧ a9 < h.n
section SB
variable {h h' : TH} {M : Nat → Int32} {big : Nat → Nat} {cw t tm a5 a6 a7 a8 a9 L : Nat} {C : TH → Prop}
theorem S329 {a : Nat} {v : Int32} (hK : h.K a = 100) (hN : h.N a ≤ 60000) (k : ∀ g', (∀ u, u < h.N a → g' u = v) → C (h.cI a g')) : W329 a v h C := by
  unfold W329 B329_5
  refine ⟨hK, ?_⟩
  refine LFP.up (h.N a) (fun j q => q.1 = nI j ∧ ∃ g', q.2 = h.cI a g' ∧ ∀ u, u < j → g' u = v) ?_ ?_ (Nat.zero_le _) ⟨rfl, h.I a, cI_self.symm, fun u hu => absurd hu (Nat.not_lt_zero _)⟩
  · rintro X j ⟨x2, g⟩ hj ⟨e1, g', e2, e3⟩ ih
    (try dsimp only at e1 e2)
    subst e1 e2
    unfold F329_5
    (try dsimp only)
    rw [if_neg (nI_ge hj (by omega)), ix_n (by omega), cI_sI]
    refine ⟨okA_n hK hj hN, ih _ ⟨nI_1 j, _, rfl, fun u hu => ?_⟩⟩
    unfold upd
    by_cases e : u = j
    · rw [if_pos e]
    · rw [if_neg e]; exact e3 u (by omega)
  · rintro X ⟨x2, g⟩ ⟨e1, g', e2, e3⟩
    (try dsimp only at e1 e2)
    subst e1 e2
    unfold F329_5
    (try dsimp only)
    rw [if_pos (nI_le (Nat.le_refl _) (by omega))]
    exact k g' e3
theorem LAr.arr (hA : LAr h t L a5 a6 a7 a8 a9) (hL : 2 ^ aN M ≤ L) (h0 : 0 < L) : Arr h t (aN M) a5 a6 a7 a8 := by
  obtain ⟨⟨p5, p6, p7, p8, p9⟩, ⟨k5, k6, k7, k8, k9⟩, ⟨n5, n6, n7, n8, n9⟩, l1, ⟨m1, m2, m3, m4, m5, m6, -⟩, l2, -⟩ := hA
  refine ⟨p5, p6, p7, p8, ?_, m1, m2, m3, m4, m5, m6⟩
  rintro a (rfl | rfl | rfl | rfl)
  · exact ⟨by omega, k5, by omega, by omega⟩
  · exact ⟨by omega, k6, by omega, by omega⟩
  · exact ⟨by omega, k7, by omega, by omega⟩
  · exact ⟨by omega, k8, by omega, by omega⟩
theorem LAr.sm {S : Nat → Prop} (hA : LAr h t L a5 a6 a7 a8 a9) (hs : Sm S h h') : LAr h' t L a5 a6 a7 a8 a9 := by
  unfold LAr at hA ⊢
  rw [hs.P, hs.K, hs.N, hs.n]
  exact hA
/-- keys are filled, nothing is offered -/
theorem S34b (hw : Wf M) (ho : LObj h t tm M big cw) (hA : LAr h t L a5 a6 a7 a8 a9) (hL : 2 ^ aN M ≤ L) (kk : ∀ h' k V od, Sm (inO t a5 a6 a7) h h' → fKeep h h' t → DJ h' t tm M big cw a5 a6 a7 a8 k V od 1 0 0 → C h') : B34_54 t h C := by
  have h12 := hw.n12
  have p12 : 2 ^ aN M ≤ 2 ^ 12 := Nat.pow_le_pow_right (by omega) h12
  have p0 : 0 < 2 ^ aN M := Nat.pos_of_ne_zero (by simp)
  have ha : Arr h t (aN M) a5 a6 a7 a8 := hA.arr hL (by omega)
  have ht := is2_rng ho.1
  obtain ⟨q5, q6, q7, q8, qa, n56, n57, n58, n67, n68, n78⟩ := ha
  have ha : Arr h t (aN M) a5 a6 a7 a8 := ⟨q5, q6, q7, q8, qa, n56, n57, n58, n67, n68, n78⟩
  have b5 := qa a5 (Or.inl rfl)
  have b6 := qa a6 (Or.inr (Or.inl rfl))
  have b7 := qa a7 (Or.inr (Or.inr (Or.inl rfl)))
  have b8 := qa a8 (Or.inr (Or.inr (Or.inr rfl)))
  unfold B34_54
  rw [R_of q5]
  refine ⟨q5, S329 b5.2.1 b5.2.2.2 (fun g' hg' => ?_)⟩
  have s1 : Sm (inO t a5 a6 a7) h (((h.cI a5 g').sI t 10 0).sI t 11 0) := ((Sm.refl.cI (by unfold inO; omega) _).sI (by unfold inO; omega) _).sI (by unfold inO; omega) _
  have k0 : (((h.cI a5 g').sI t 10 0).sI t 11 0).I a5 0 = 2147483647 := by
    rw [I_ne (by omega), I_ne (by omega), I_cI, if_pos rfl]
    exact hg' 0 (by omega)
  have t10 : (((h.cI a5 g').sI t 10 0).sI t 11 0).I t 10 = 0 := by
    rw [I_nk (by omega), I_eq]
  have r5 : (((h.cI a5 g').sI t 10 0).sI t 11 0).P t 5 = some a5 := by rw [s1.P]; exact q5
  have r7 : (((h.cI a5 g').sI t 10 0).sI t 11 0).P t 7 = some a7 := by rw [s1.P]; exact q7
  have s1b : Sm (inO t a5 a6 a7) h (((((h.cI a5 g').sI t 10 0).sI t 11 0).sI a7 0 0).sI t 10 (0 + 1)) := (s1.sI (by unfold inO; omega) _).sI (by unfold inO; omega) _
  have r5b : (((((h.cI a5 g').sI t 10 0).sI t 11 0).sI a7 0 0).sI t 10 (0 + 1)).P t 5 = some a5 := by rw [s1b.P]; exact q5
  unfold W38 B38_42
  rw [R_of r5, R_of r7, ix_0, k0, t10, I_ne (by omega), t10, R_of r5b]
  refine ⟨r5, (ha.sm s1).ok5 (u := 0) p0, ?_⟩
  rw [if_pos (show (0 : Int32) < 2147483647 from nI_lt (a := 0) (b := 2147483647) (by omega) (by omega))]
  refine ⟨r5, (ha.sm s1).ok5 (u := 0) p0, ?_⟩
  rw [if_neg (fun q => q rfl)]
  refine ⟨r7, (ha.sm s1).ok7 (u := 0) p0, r5b, (ha.sm s1b).ok5 (u := 0) p0, ?_⟩
  have s2 : Sm (inO t a5 a6 a7) h ((((((h.cI a5 g').sI t 10 0).sI t 11 0).sI a7 0 0).sI t 10 (0 + 1)).sI a5 0 0) := ((s1.sI (by unfold inO; omega) _).sI (by unfold inO; omega) _).sI (by unfold inO; omega) _
  have key := S39 (h := ((((((h.cI a5 g').sI t 10 0).sI t 11 0).sI a7 0 0).sI t 10 (0 + 1)).sI a5 0 0)) (k := fun u => if u = 0 then 0 else 2147483647) (V := fun _ => 0) (w := 1) (p := 0) (C := fun h1 => C h1) (ha.sm s2) h12 ?_ (by omega) ?_ ⟨by omega, ?_, ?_, ?_, ?_⟩ ?_ ?_ (fun h' V' z1 z2 z3 => ?_)
  · exact key
  · intro u hu
    rw [I_at]
    by_cases e : u = 0
    · rw [if_pos e]
      (try dsimp only)
      rw [if_pos e]
      exact ⟨rfl, by omega⟩
    · rw [if_neg e, I_ne (by omega), I_ne (by omega), I_ne (by omega), I_ne (by omega), I_cI, if_pos rfl]
      (try dsimp only)
      rw [if_neg e]
      exact ⟨hg' u (by omega), Nat.le_refl _⟩
  · rw [I_ne (by omega), I_ne (by omega), I_eq]
    rfl
  · intro i hi; exact p0
  · intro i hi j hj _; exact (show i = 0 by omega).trans (show j = 0 by omega).symm
  · intro i hi e; exact absurd e (by omega)
  · intro i hi e; exact absurd e (by omega)
  · intro i i1 i2; exact absurd i2 (by omega)
  · intro i i1 i2; exact absurd i2 (by omega)
  · have nt : ¬ in67 a6 a7 t := by unfold in67; omega
    have n5 : ¬ in67 a6 a7 a5 := by unfold in67; omega
    have s3 : Sm (inO t a5 a6 a7) h h' := s2.trans (z1.mono (fun a z => by unfold in67 at z; unfold inO; omega))
    have fk : fKeep h h' t := by
      intro j j1 j2 j3
      rw [z1.I nt, I_ne (by omega), I_nk j1, I_ne (by omega), I_nk j2, I_nk j1, I_cI, if_neg (by omega)]
    have hV0 : V' 0 = 0 := by
      obtain ⟨i, i1, i2⟩ := (z3 (V' 0)).mp ⟨0, by omega, rfl⟩
      exact i2.symm
    refine kk h' (fun u => if u = 0 then 0 else 2147483647) V' (fun _ => 0) s3 fk ⟨?_, ha.sm s3, ?_, ?_, ?_, z2, ?_, ?_, ?_, ?_, ?_, ?_, ?_, ?_, ?_, ?_, ?_⟩
    · exact ho.sm s3 (fun a y1 y2 => by unfold inO; omega) (fun a y1 y2 => by unfold inO; omega) (fk 0 (by omega) (by omega) (by omega))
    · rw [z1.I nt, I_ne (by omega), I_eq]; rfl
    · rw [z1.I nt, I_ne (by omega), I_nk (by omega), I_ne (by omega), I_eq]; rfl
    · intro u hu
      rw [z1.I n5, I_at]
      by_cases e : u = 0
      · rw [if_pos e]
        (try dsimp only)
        rw [if_pos e]
        exact ⟨rfl, by omega⟩
      · rw [if_neg e, I_ne (by omega), I_ne (by omega), I_ne (by omega), I_ne (by omega), I_cI, if_pos rfl]
        (try dsimp only)
        rw [if_neg e]
        exact ⟨hg' u (by omega), Nat.le_refl _⟩
    · intro i hi; exact absurd hi (by omega)
    · intro i hi; exact absurd hi (by omega)
    · intro i hi; exact absurd hi (by omega)
    · intro u hu
      (try dsimp only)
      by_cases e : u = 0
      · rw [if_pos e]
        exact ⟨fun _ => Or.inr ⟨0, by omega, by rw [hV0, e]⟩, fun _ => by omega⟩
      · rw [if_neg e]
        refine ⟨fun q => absurd q (by omega), ?_⟩
        rintro (⟨i, i1, _⟩ | ⟨j, j1, j2⟩)
        · omega
        · rw [show j = 0 by omega, hV0] at j2
          exact absurd j2.symm e
    · intro i j i1 i2; exact absurd i2 (by omega)
    · intro i hi; exact absurd hi (by omega)
    · intro i hi; exact absurd hi (by omega)
    · intro u hu q
      (try dsimp only at q ⊢)
      by_cases e : u = 0
      · rw [if_pos e, e]
        exact ⟨0, rfl, rfl⟩
      · rw [if_neg e] at q; omega
    · exact if_pos rfl
    · intro i hi; exact absurd hi (by omega)
    · intro j hj
      rw [show j = 0 by omega, hV0]
      exact Nat.zero_le _
end SB
