def inFw2 (a : Nat) : Prop := a = 197 ∨ a = 206 ∨ a = 207 ∨ a = 212 ∨ a = 213
def fwKeep (h g : TH) : Prop := Sm inFw2 h g ∧ ∀ j, j ≠ 25 → j ≠ 33 → g.I 197 j = h.I 197 j
/-- the least number that is enough, up to 12 -/
def Few (E : Nat → Prop) (r : Option Nat) : Prop := match r with
  | none => ∀ p, p ≤ 12 → ¬ E p
  | some p => p ≤ 12 ∧ E p ∧ ∀ k, k < p → ¬ E k
theorem Few_one {E : Nat → Prop} {r r' : Option Nat} (h : Few E r) (h' : Few E r') : r = r' := by
  cases r with
  | none =>
    cases r' with
    | none => rfl
    | some p => exact absurd h'.2.1 (h p h'.1)
  | some p =>
    cases r' with
    | none => exact absurd h.2.1 (h' p h.1)
    | some k =>
      rcases Nat.lt_trichotomy p k with z | z | z
      · exact absurd h.2.1 (h'.2.2 p z)
      · rw [z]
      · exact absurd h'.2.1 (h.2.2 k z)
theorem Few_cong {E E' : Nat → Prop} {r : Option Nat} (he : ∀ p, p ≤ 12 → (E p ↔ E' p)) (h : Few E r) : Few E' r := by
  cases r with
  | none => exact fun p hp z => h p hp ((he p hp).mpr z)
  | some p => exact ⟨h.1, (he p h.1).mp h.2.1, fun k hk z => h.2.2 k hk ((he k (Nat.le_trans (Nat.le_of_lt hk) h.1)).mpr z)⟩
section MF
variable {h g : TH} {M : Nat → Int32} {goal : Int32}
theorem fwKeep.trans {h1 h2 h3 : TH} (p : fwKeep h1 h2) (r : fwKeep h2 h3) : fwKeep h1 h3 := ⟨p.1.trans r.1, fun j j1 j2 => (r.2 j j1 j2).trans (p.2 j j1 j2)⟩
theorem S297 {C : Int32 → TH → Prop} (hw : Wf M) (hM : MA h M) (kno : ¬ St (aN M) goal → C (-1) (h.sI 197 2 1)) (kk : ∀ g r, fwKeep h g → St (aN M) goal → Few (fun P => ∃ s, Rr M (fun _ => P) s ∧ sb goal s) r → C (match r with | none => (-1) | some p => nI p) (g.sI 197 2 (match r with | none => 6 | some _ => 0))) : W297 goal h C := by
  have h12 := hw.n12
  unfold W297
  refine S249 hw hM (fun hg => ?_) (fun hg => ?_)
  · rw [if_pos (by decide)]
    unfold B297_16
    refine LFP.up 13 (fun j z => z.1 = nI j ∧ fwKeep h z.2 ∧ ∀ p, p < j → ¬ ∃ s, Rr M (fun _ => p) s ∧ sb goal s) ?_ ?_ (Nat.zero_le _) ⟨rfl, ⟨Sm.refl, fun _ _ _ => rfl⟩, fun p hp => absurd hp (Nat.not_lt_zero _)⟩
    · rintro Y p ⟨x2, g⟩ hp ⟨e1, e2, e3⟩ ih
      (try dsimp only at e1 e2 e3)
      subst e1
      unfold F297_16
      (try dsimp only)
      rw [if_neg (show ¬ (12 : Int32) < nI p from nI_nlt (a := 12) (by omega) (by omega))]
      have hM1 : MA g M := hM.sm e2.1 (by unfold inFw2; omega)
      refine S263o hw hM1 p (by omega) rfl (fun g2 k1 k2 k3 => ?_)
      have q2 : fwKeep g g2 := ⟨k1.mono (fun a z => by unfold inFit at z; unfold inFw2; omega), fun j j1 j2 => k2 j j1⟩
      have hM2 : MA g2 M := hM1.sm q2.1 (by unfold inFw2; omega)
      have q3 : ∀ g3, cKeep g2 g3 → fwKeep g2 g3 := fun g3 z => ⟨z.1.mono (fun a y => by unfold in212 at y; unfold inFw2; omega), fun j j1 j2 => z.2 j j2⟩
      refine S296 hw hM2 k3 (fun g3 l1 l2 => ?_) (fun g3 l1 l2 => ?_)
      · rw [if_neg (by decide)]
        exact kk g3 (some p) ((e2.trans q2).trans (q3 g3 l1)) hg ⟨by omega, l2, e3⟩
      · rw [if_pos rfl]
        refine ih _ ⟨nI_1 p, (e2.trans q2).trans (q3 g3 l1), fun k hk => ?_⟩
        rcases Nat.lt_or_ge k p with y | y
        · exact e3 k y
        · have : k = p := by omega
          rw [this]; exact l2
    · rintro Y ⟨x2, g⟩ ⟨e1, e2, e3⟩
      (try dsimp only at e1 e2 e3)
      subst e1
      unfold F297_16
      (try dsimp only)
      rw [if_pos (by decide)]
      exact kk g none e2 hg (fun p hp => e3 p (by omega))
  · rw [if_neg (fun z => z rfl)]
    exact kno (fun z => hg.elim z.rng.1 z.rng.2)
end MF
