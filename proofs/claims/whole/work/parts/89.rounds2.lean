section CNU
variable {h : TH} {M : Nat → Int32} {goal : Int32} {tm L a3 a4 P : Nat}
theorem S114 {C : Int32 → TH → Prop} {x : Int32} (hw : Wf M) (hc : CM h tm M) (h3 : is3 tm) (hA : RcA h L a3 a4) (hg : St (aN M) goal) (hx : x = nI P) (h1 : 1 ≤ P) (h4 : P ≤ 4) (hn : 222 ≤ h.n) (hn2 : h.n + 5 ≤ 1000000) (kk : ∀ g r L' b3 b4, RdPost h g → RcA g L' b3 b4 → Rnd M (-1) P goal r → (∀ k, r = some k → k ≤ 4096) → C (match r with | none => (-1) | some p => nI p) g) : W114 tm goal x h C := by
  have h12 := hw.n12
  have r3 := is3_rng h3
  subst hx
  unfold W114
  have c1 : CM ((h.sP 190 0 tm).sI 190 1 goal) tm M := hc.frame (fun a z1 z2 => by funext j; rw [I_ne (by omega), I_sP])
  refine S67 hw c1.r c1.2.1 hg (fun Sc hcl => ?_)
  have e1 : ∀ a, a ≠ 190 → (((h.sP 190 0 tm).sI 190 1 goal).sI 190 2 Sc).I a = h.I a := fun a ha => by funext j; rw [I_ne ha, I_ne ha, I_sP]
  have e2 : (((h.sP 190 0 tm).sI 190 1 goal).sI 190 2 Sc).J = h.J := rfl
  have e3 : (((h.sP 190 0 tm).sI 190 1 goal).sI 190 2 Sc).K = h.K := rfl
  have e4 : (((h.sP 190 0 tm).sI 190 1 goal).sI 190 2 Sc).N = h.N := rfl
  have e5 : (((h.sP 190 0 tm).sI 190 1 goal).sI 190 2 Sc).n = h.n := rfl
  have e6 : (((h.sP 190 0 tm).sI 190 1 goal).sI 190 2 Sc).sl = h.sl := rfl
  have e7 : ∀ a, a ≠ 190 → (((h.sP 190 0 tm).sI 190 1 goal).sI 190 2 Sc).P a = h.P a := fun a ha => by funext j; rw [P_sI, P_sI, P_sP, if_neg (fun w => ha w.1)]
  have e8 : ∀ j, j ≠ 0 → (((h.sP 190 0 tm).sI 190 1 goal).sI 190 2 Sc).P 190 j = h.P 190 j := fun j hj => by rw [P_sI, P_sI, P_sP, if_neg (fun w => hj w.2)]
  have e9 : (((h.sP 190 0 tm).sI 190 1 goal).sI 190 2 Sc).P 190 0 = some tm := by rw [P_sI, P_sI, P_sP, if_pos ⟨rfl, rfl⟩]
  have e10 : (((h.sP 190 0 tm).sI 190 1 goal).sI 190 2 Sc).I 190 1 = goal := by rw [I_nk (by omega), I_eq]
  have e11 : (((h.sP 190 0 tm).sI 190 1 goal).sI 190 2 Sc).I 190 2 = Sc := I_eq
  generalize (((h.sP 190 0 tm).sI 190 1 goal).sI 190 2 Sc) = H at e1 e2 e3 e4 e5 e6 e7 e8 e9 e10 e11 ⊢
  have cH : CM H tm M := hc.frame (fun a z1 z2 => e1 a (by omega))
  have aH : RcA H L a3 a4 := by
    unfold RcA at hA ⊢
    rw [e8 3 (by omega), e8 4 (by omega), e3, e4, e5]; exact hA
  have pH : RdPost h H := ⟨⟨by omega, fun a _ => by rw [e3, e4]; exact ⟨rfl, rfl⟩, fun a _ w => ⟨e1 a (fun y => w (Or.inl y)), by rw [e2], e7 a (fun y => w (Or.inl y))⟩⟩, fun f a f1 f2 w => Or.inl (by rw [e8 f (by omega)] at w; exact w), by omega, by omega⟩
  have tr : ∀ g, RdPost H g → RdPost h g := by
    rintro g ⟨⟨g1, g2, g3⟩, g4, g5, g6⟩
    refine ⟨⟨by omega, fun a ha => ?_, fun a ha w => ?_⟩, fun f a f1 f2 w => ?_, by omega, by omega⟩
    · have := g2 a (by omega)
      rw [e3, e4] at this; exact this
    · have n190 : a ≠ 190 := fun y => w (Or.inl y)
      have := g3 a (by omega) (by
        rintro (y | ⟨f, f1, f2, f3⟩)
        · exact n190 y
        · rw [e8 f (by omega)] at f3
          exact w (Or.inr ⟨f, f1, f2, f3⟩))
      rw [e1 a n190, e2, e7 a n190] at this; exact this
    · have := g4 f a f1 f2 w
      rw [e8 f (by omega), e5] at this; exact this
  have rnd : ∀ r, Rnd M Sc P goal r → Rnd M (-1) P goal r := by
    intro r hr
    have eq : ∀ k, LvGo M Sc P goal k ↔ LvGo M (-1) P goal k := fun k => LvGo_cut hw hcl.2.2.1 hcl.2.1
    cases r with
    | none => exact fun k w => hr k ((eq k).mpr w)
    | some r => exact ⟨(eq r).mp hr.1, fun k hk w => hr.2 k hk ((eq k).mpr w)⟩
  refine S115 hw ⟨e9, h3, cH⟩ e10 e11 hg (fun can => ?_) (fun can => ?_)
  · rw [if_pos (by decide)]
    refine S116 hw aH ⟨e9, h3, cH⟩ e10 e11 (by omega) (by omega) (fun g L' b3 b4 q F w1 w2 w3 w4 => ?_)
    exact S114r (h0 := H) hw hcl.1 (fun d hd b => (can.2 d hd b).1) h1 h4 (by omega) (fun g' r L'' b3' b4' v1 v2 v3 v4 => kk g' r L'' b3' b4' (tr g' v1) v2 (rnd r v3) v4) w1 w2 w3 w4
  · rw [if_neg (fun w => w rfl)]
    exact kk H none L a3 a4 pH aH (fun k w => can (LvGo_made hw w hcl)) (fun k w => absurd w (by simp))
end CNU
