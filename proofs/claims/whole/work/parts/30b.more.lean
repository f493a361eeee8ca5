theorem sI_sI {h : TH} {a k : Nat} {v w : Int32} : (h.sI a k v).sI a k w = h.sI a k w := by
  rw [sI_cI (h := h) (v := v), cI_sI, sI_cI (h := h) (v := w)]
  congr 1
  funext i
  unfold upd
  split <;> rfl
theorem nI_m1s (c : Nat) : nI c - 1 + 1 = nI (c + 1) - 1 := by
  rw [nI_pred]
  exact Int32.sub_add_cancel _ _
theorem I_ne {h : TH} {a b j k : Nat} {v : Int32} (e : b ≠ a) : (h.sI a k v).I b j = h.I b j := by
  rw [I_sI, if_neg (fun q => e q.1)]
theorem I_eq {h : TH} {a k : Nat} {v : Int32} : (h.sI a k v).I a k = v := by
  rw [I_sI, if_pos ⟨rfl, rfl⟩]
theorem I_nk {h : TH} {a j k : Nat} {v : Int32} (e : j ≠ k) : (h.sI a k v).I a j = h.I a j := by
  rw [I_sI, if_neg (fun q => e q.2)]
theorem I_at {h : TH} {a j k : Nat} {v : Int32} : (h.sI a k v).I a j = if j = k then v else h.I a j := by
  rw [I_sI]
  by_cases e : j = k
  · rw [if_pos e, if_pos ⟨rfl, e⟩]
  · rw [if_neg e, if_neg (fun q => e q.2)]
theorem J_ne {h : TH} {a b j k : Nat} {v : Int64} (e : b ≠ a) : (h.sJ a k v).J b j = h.J b j := by
  rw [J_sJ, if_neg (fun q => e q.1)]
theorem J_at {h : TH} {a j k : Nat} {v : Int64} : (h.sJ a k v).J a j = if j = k then v else h.J a j := by
  rw [J_sJ]
  by_cases e : j = k
  · rw [if_pos e, if_pos ⟨rfl, e⟩]
  · rw [if_neg e, if_neg (fun q => e q.2)]
theorem R_of {h : TH} {a k b : Nat} (e : h.P a k = some b) : h.R a k = b := by
  unfold TH.R
  rw [e]
  rfl
theorem range_flat {α : Type} (f : Nat → List α) (n : Nat) : (List.range (n + 1)).flatMap f = (List.range n).flatMap f ++ f n := by
  rw [List.range_succ, List.flatMap_append]
  simp
theorem flat_len {α : Type} {f : Nat → List α} {g : Nat → Nat} : ∀ {n : Nat}, (∀ d, d < n → (f d).length ≤ g d) → ((List.range n).flatMap f).length ≤ fb_sm g n := by
  intro n
  induction n with
  | zero => intro _; exact Nat.le_refl _
  | succ n ih =>
    intro h
    rw [range_flat, List.length_append, fb_sm_succ]
    have h1 := ih (fun d hd => h d (by omega))
    have h2 := h n (by omega)
    omega
