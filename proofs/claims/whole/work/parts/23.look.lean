def tK0 : tK := fun a => if a = 0 then 11 else if a = 1000000 then 108 else 999
set_option maxRecDepth 1000000 in
set_option maxHeartbeats 40000000 in
theorem zz_pots (d : Nat) (N : tK) (I : tI) (J : tJ) (P : tP) : xPk (d + 4) 150 [.ref 0] (1, 20, tc tK0 N I J P) (fun r => ∃ K' N' I' J' P', r = (none, 197, 6537, tc K' N' I' J' P') ∧ K' 7 = 100) := by
  refine kin (Nat.le_of_ble_eq_true rfl) ?_
  iterate 4 (refine kst rfl rfl ?_)
  refine kputI rfl rfl rfl ?_
  iterate 2 (refine kst rfl rfl ?_)
  refine kputJ rfl rfl rfl ?_
  iterate 2 (refine kst rfl rfl ?_)
  refine kputJ rfl rfl rfl ?_
  refine kst rfl rfl ?_
  refine knewO (n' := 2) (sl' := 23) rfl (by decide) rfl rfl ?_
  refine kst rfl rfl ?_
  refine kca rfl rfl ?_
  refine kin (Nat.le_of_ble_eq_true rfl) ?_
  iterate 5 (refine kst rfl rfl ?_)
  refine kmna (n' := 7) (sl' := 267) rfl rfl rfl ?_
  refine kputP rfl rfl rfl ?_
  iterate 2 (refine kst rfl rfl ?_)
  refine knewA (j := 4) (n' := 8) (sl' := 271) rfl (by decide) (by decide) (by decide) rfl rfl ?_
  refine kputP rfl rfl rfl ?_
  iterate 2 (refine kst rfl rfl ?_)
  refine knewA (j := 4) (n' := 9) (sl' := 275) rfl (by decide) (by decide) (by decide) rfl rfl ?_
  iterate 3 (refine kst rfl rfl ?_)
  refine kast (j := 0) rfl rfl (by decide) (Nat.le_of_ble_eq_true rfl) (Nat.le_of_ble_eq_true rfl) ?_
  iterate 3 (refine kst rfl rfl ?_)
  refine kast (j := 1) rfl rfl (by decide) (Nat.le_of_ble_eq_true rfl) (Nat.le_of_ble_eq_true rfl) ?_
  iterate 3 (refine kst rfl rfl ?_)
  refine kast (j := 2) rfl rfl (by decide) (Nat.le_of_ble_eq_true rfl) (Nat.le_of_ble_eq_true rfl) ?_
  iterate 3 (refine kst rfl rfl ?_)
  refine kast (j := 3) rfl rfl (by decide) (Nat.le_of_ble_eq_true rfl) (Nat.le_of_ble_eq_true rfl) ?_
  refine kputP rfl rfl rfl ?_
  refine kre rfl rfl ?_
  refine kputP rfl rfl rfl ?_
  refine kst rfl rfl ?_
  refine knewO (n' := 10) (sl' := 287) rfl (by decide) rfl rfl ?_
  refine kst rfl rfl ?_
  refine kca rfl rfl ?_
  refine kin (Nat.le_of_ble_eq_true rfl) ?_
  iterate 4 (refine kst rfl rfl ?_)
  refine knewA (j := 900) (n' := 11) (sl' := 1187) rfl (by decide) (by decide) (by decide) rfl rfl ?_
  refine kputP rfl rfl rfl ?_
  iterate 2 (refine kst rfl rfl ?_)
  refine knewL (j := 23) (n' := 12) (sl' := 1210) rfl (by decide) (by decide) rfl rfl ?_
  refine kputP rfl rfl rfl ?_
  iterate 2 (refine kst rfl rfl ?_)
  refine knewA (j := 901) (n' := 13) (sl' := 2111) rfl (by decide) (by decide) (by decide) rfl rfl ?_
  refine kputP rfl rfl rfl ?_
  iterate 2 (refine kst rfl rfl ?_)
  refine knewA (j := 901) (n' := 14) (sl' := 3012) rfl (by decide) (by decide) (by decide) rfl rfl ?_
  refine kputP rfl rfl rfl ?_
  iterate 2 (refine kst rfl rfl ?_)
  refine knewL (j := 901) (n' := 15) (sl' := 3913) rfl (by decide) (by decide) rfl rfl ?_
  refine kputP rfl rfl rfl ?_
  iterate 2 (refine kst rfl rfl ?_)
  refine kputI rfl rfl rfl ?_
  iterate 2 (refine kst rfl rfl ?_)
  refine kputI rfl rfl rfl ?_
  iterate 9 (refine kst rfl rfl ?_)
  refine kcm_ge rfl (fun c9 => absurd c9 (by decide)) (fun _ => ?_)
  iterate 2 (refine kst rfl rfl ?_)
  refine kcm_ge rfl (fun c9 => absurd c9 (by decide)) (fun _ => ?_)
  iterate 6 (refine kst rfl rfl ?_)
  refine kcm_ne rfl (fun _ => ?_) (fun c9 => absurd c9 (by decide))
  iterate 2 (refine kst rfl rfl ?_)
  refine kca rfl rfl ?_
  refine kin (Nat.le_of_ble_eq_true rfl) ?_
  iterate 10 (refine kst rfl rfl ?_)
  refine kre rfl rfl ?_
  iterate 6 (refine kst rfl rfl ?_)
  refine kcm_ge rfl (fun c9 => absurd c9 (by decide)) (fun _ => ?_)
  iterate 2 (refine kst rfl rfl ?_)
  refine kcm_ge rfl (fun c9 => absurd c9 (by decide)) (fun _ => ?_)
  iterate 6 (refine kst rfl rfl ?_)
  refine kcm_ne rfl (fun _ => ?_) (fun c9 => absurd c9 (by decide))
  iterate 2 (refine kst rfl rfl ?_)
  refine kca rfl rfl ?_
  refine kin (Nat.le_of_ble_eq_true rfl) ?_
  iterate 10 (refine kst rfl rfl ?_)
  refine kre rfl rfl ?_
  iterate 6 (refine kst rfl rfl ?_)
  refine kcm_ge rfl (fun c9 => absurd c9 (by decide)) (fun _ => ?_)
  iterate 2 (refine kst rfl rfl ?_)
  refine kcm_ge rfl (fun c9 => absurd c9 (by decide)) (fun _ => ?_)
  iterate 6 (refine kst rfl rfl ?_)
  refine kcm_ne rfl (fun _ => ?_) (fun c9 => absurd c9 (by decide))
  iterate 2 (refine kst rfl rfl ?_)
  refine kca rfl rfl ?_
  refine kin (Nat.le_of_ble_eq_true rfl) ?_
  iterate 10 (refine kst rfl rfl ?_)
  refine kre rfl rfl ?_
  iterate 6 (refine kst rfl rfl ?_)
  refine kcm_ge rfl (fun c9 => absurd c9 (by decide)) (fun _ => ?_)
  iterate 2 (refine kst rfl rfl ?_)
  refine kcm_ge rfl (fun c9 => absurd c9 (by decide)) (fun _ => ?_)
  iterate 6 (refine kst rfl rfl ?_)
  refine kcm_ne rfl (fun _ => ?_) (fun c9 => absurd c9 (by decide))
  iterate 2 (refine kst rfl rfl ?_)
  refine kca rfl rfl ?_
  refine kin (Nat.le_of_ble_eq_true rfl) ?_
  iterate 10 (refine kst rfl rfl ?_)
  refine kre rfl rfl ?_
  iterate 6 (refine kst rfl rfl ?_)
  refine kcm_ge rfl (fun c9 => absurd c9 (by decide)) (fun _ => ?_)
  iterate 2 (refine kst rfl rfl ?_)
  refine kcm_ge rfl (fun c9 => absurd c9 (by decide)) (fun _ => ?_)
  iterate 6 (refine kst rfl rfl ?_)
  refine kcm_ne rfl (fun c9 => absurd c9 (by decide)) (fun _ => ?_)
  refine kst rfl rfl ?_
  refine kgetP (b := 11) rfl rfl rfl rfl ?_
  iterate 2 (refine kst rfl rfl ?_)
  refine klast (j := 0) rfl rfl (by decide) (Nat.le_of_ble_eq_true rfl) (Nat.le_of_ble_eq_true rfl) ?_
  iterate 9 (refine kst rfl rfl ?_)
  refine kcm_ge rfl (fun c9 => absurd c9 (by decide)) (fun _ => ?_)
  iterate 2 (refine kst rfl rfl ?_)
  refine kcm_ge rfl (fun c9 => absurd c9 (by decide)) (fun _ => ?_)
  iterate 6 (refine kst rfl rfl ?_)
  refine kcm_ne rfl (fun _ => ?_) (fun c9 => absurd c9 (by decide))
  iterate 2 (refine kst rfl rfl ?_)
  refine kca rfl rfl ?_
  refine kin (Nat.le_of_ble_eq_true rfl) ?_
  iterate 10 (refine kst rfl rfl ?_)
  refine kre rfl rfl ?_
  iterate 6 (refine kst rfl rfl ?_)
  refine kcm_ge rfl (fun c9 => absurd c9 (by decide)) (fun _ => ?_)
  iterate 2 (refine kst rfl rfl ?_)
  refine kcm_ge rfl (fun c9 => absurd c9 (by decide)) (fun _ => ?_)
  iterate 6 (refine kst rfl rfl ?_)
  refine kcm_ne rfl (fun _ => ?_) (fun c9 => absurd c9 (by decide))
  iterate 2 (refine kst rfl rfl ?_)
  refine kca rfl rfl ?_
  refine kin (Nat.le_of_ble_eq_true rfl) ?_
  iterate 10 (refine kst rfl rfl ?_)
  refine kre rfl rfl ?_
  iterate 6 (refine kst rfl rfl ?_)
  refine kcm_ge rfl (fun c9 => absurd c9 (by decide)) (fun _ => ?_)
  iterate 2 (refine kst rfl rfl ?_)
  refine kcm_ge rfl (fun c9 => absurd c9 (by decide)) (fun _ => ?_)
  iterate 6 (refine kst rfl rfl ?_)
  refine kcm_ne rfl (fun _ => ?_) (fun c9 => absurd c9 (by decide))
  iterate 2 (refine kst rfl rfl ?_)
  refine kca rfl rfl ?_
  refine kin (Nat.le_of_ble_eq_true rfl) ?_
  iterate 10 (refine kst rfl rfl ?_)
  refine kre rfl rfl ?_
  iterate 6 (refine kst rfl rfl ?_)
  refine kcm_ge rfl (fun c9 => absurd c9 (by decide)) (fun _ => ?_)
  iterate 2 (refine kst rfl rfl ?_)
  refine kcm_ge rfl (fun c9 => absurd c9 (by decide)) (fun _ => ?_)
  iterate 6 (refine kst rfl rfl ?_)
  refine kcm_ne rfl (fun _ => ?_) (fun c9 => absurd c9 (by decide))
  iterate 2 (refine kst rfl rfl ?_)
  refine kca rfl rfl ?_
  refine kin (Nat.le_of_ble_eq_true rfl) ?_
  iterate 10 (refine kst rfl rfl ?_)
  refine kre rfl rfl ?_
  iterate 6 (refine kst rfl rfl ?_)
  refine kcm_ge rfl (fun c9 => absurd c9 (by decide)) (fun _ => ?_)
  iterate 2 (refine kst rfl rfl ?_)
  refine kcm_ge rfl (fun c9 => absurd c9 (by decide)) (fun _ => ?_)
  iterate 6 (refine kst rfl rfl ?_)
  refine kcm_ne rfl (fun c9 => absurd c9 (by decide)) (fun _ => ?_)
  refine kst rfl rfl ?_
  refine kgetP (b := 11) rfl rfl rfl rfl ?_
  iterate 2 (refine kst rfl rfl ?_)
  refine klast (j := 1) rfl rfl (by decide) (Nat.le_of_ble_eq_true rfl) (Nat.le_of_ble_eq_true rfl) ?_
  iterate 9 (refine kst rfl rfl ?_)
  refine kcm_ge rfl (fun c9 => absurd c9 (by decide)) (fun _ => ?_)
  iterate 2 (refine kst rfl rfl ?_)
  refine kcm_ge rfl (fun c9 => absurd c9 (by decide)) (fun _ => ?_)
  iterate 6 (refine kst rfl rfl ?_)
  refine kcm_ne rfl (fun _ => ?_) (fun c9 => absurd c9 (by decide))
  iterate 2 (refine kst rfl rfl ?_)
  refine kca rfl rfl ?_
  refine kin (Nat.le_of_ble_eq_true rfl) ?_
  iterate 10 (refine kst rfl rfl ?_)
  refine kre rfl rfl ?_
  iterate 6 (refine kst rfl rfl ?_)
  refine kcm_ge rfl (fun c9 => absurd c9 (by decide)) (fun _ => ?_)
  iterate 2 (refine kst rfl rfl ?_)
  refine kcm_ge rfl (fun c9 => absurd c9 (by decide)) (fun _ => ?_)
  iterate 6 (refine kst rfl rfl ?_)
  refine kcm_ne rfl (fun _ => ?_) (fun c9 => absurd c9 (by decide))
  iterate 2 (refine kst rfl rfl ?_)
  refine kca rfl rfl ?_
  refine kin (Nat.le_of_ble_eq_true rfl) ?_
  iterate 10 (refine kst rfl rfl ?_)
  refine kre rfl rfl ?_
  iterate 6 (refine kst rfl rfl ?_)
  refine kcm_ge rfl (fun c9 => absurd c9 (by decide)) (fun _ => ?_)
  iterate 2 (refine kst rfl rfl ?_)
  refine kcm_ge rfl (fun c9 => absurd c9 (by decide)) (fun _ => ?_)
  iterate 6 (refine kst rfl rfl ?_)
  refine kcm_ne rfl (fun _ => ?_) (fun c9 => absurd c9 (by decide))
  iterate 2 (refine kst rfl rfl ?_)
  refine kca rfl rfl ?_
  refine kin (Nat.le_of_ble_eq_true rfl) ?_
  iterate 10 (refine kst rfl rfl ?_)
  refine kre rfl rfl ?_
  iterate 6 (refine kst rfl rfl ?_)
  refine kcm_ge rfl (fun c9 => absurd c9 (by decide)) (fun _ => ?_)
  iterate 2 (refine kst rfl rfl ?_)
  refine kcm_ge rfl (fun c9 => absurd c9 (by decide)) (fun _ => ?_)
  iterate 6 (refine kst rfl rfl ?_)
  refine kcm_ne rfl (fun _ => ?_) (fun c9 => absurd c9 (by decide))
  iterate 2 (refine kst rfl rfl ?_)
  refine kca rfl rfl ?_
  refine kin (Nat.le_of_ble_eq_true rfl) ?_
  iterate 10 (refine kst rfl rfl ?_)
  refine kre rfl rfl ?_
  iterate 6 (refine kst rfl rfl ?_)
  refine kcm_ge rfl (fun c9 => absurd c9 (by decide)) (fun _ => ?_)
  iterate 2 (refine kst rfl rfl ?_)
  refine kcm_ge rfl (fun c9 => absurd c9 (by decide)) (fun _ => ?_)
  iterate 6 (refine kst rfl rfl ?_)
  refine kcm_ne rfl (fun c9 => absurd c9 (by decide)) (fun _ => ?_)
  refine kst rfl rfl ?_
  refine kgetP (b := 11) rfl rfl rfl rfl ?_
  iterate 2 (refine kst rfl rfl ?_)
  refine klast (j := 2) rfl rfl (by decide) (Nat.le_of_ble_eq_true rfl) (Nat.le_of_ble_eq_true rfl) ?_
  iterate 9 (refine kst rfl rfl ?_)
  refine kcm_ge rfl (fun c9 => absurd c9 (by decide)) (fun _ => ?_)
  iterate 2 (refine kst rfl rfl ?_)
  refine kcm_ge rfl (fun c9 => absurd c9 (by decide)) (fun _ => ?_)
  iterate 6 (refine kst rfl rfl ?_)
  refine kcm_ne rfl (fun _ => ?_) (fun c9 => absurd c9 (by decide))
  iterate 2 (refine kst rfl rfl ?_)
  refine kca rfl rfl ?_
  refine kin (Nat.le_of_ble_eq_true rfl) ?_
  iterate 10 (refine kst rfl rfl ?_)
  refine kre rfl rfl ?_
  iterate 6 (refine kst rfl rfl ?_)
  refine kcm_ge rfl (fun c9 => absurd c9 (by decide)) (fun _ => ?_)
  iterate 2 (refine kst rfl rfl ?_)
  refine kcm_ge rfl (fun c9 => absurd c9 (by decide)) (fun _ => ?_)
  iterate 6 (refine kst rfl rfl ?_)
  refine kcm_ne rfl (fun _ => ?_) (fun c9 => absurd c9 (by decide))
  iterate 2 (refine kst rfl rfl ?_)
  refine kca rfl rfl ?_
  refine kin (Nat.le_of_ble_eq_true rfl) ?_
  iterate 10 (refine kst rfl rfl ?_)
  refine kre rfl rfl ?_
  iterate 6 (refine kst rfl rfl ?_)
  refine kcm_ge rfl (fun c9 => absurd c9 (by decide)) (fun _ => ?_)
  iterate 2 (refine kst rfl rfl ?_)
  refine kcm_ge rfl (fun c9 => absurd c9 (by decide)) (fun _ => ?_)
  iterate 6 (refine kst rfl rfl ?_)
  refine kcm_ne rfl (fun _ => ?_) (fun c9 => absurd c9 (by decide))
  iterate 2 (refine kst rfl rfl ?_)
  refine kca rfl rfl ?_
  refine kin (Nat.le_of_ble_eq_true rfl) ?_
  iterate 10 (refine kst rfl rfl ?_)
  refine kre rfl rfl ?_
  iterate 6 (refine kst rfl rfl ?_)
  refine kcm_ge rfl (fun c9 => absurd c9 (by decide)) (fun _ => ?_)
  iterate 2 (refine kst rfl rfl ?_)
  refine kcm_ge rfl (fun c9 => absurd c9 (by decide)) (fun _ => ?_)
  iterate 6 (refine kst rfl rfl ?_)
  refine kcm_ne rfl (fun _ => ?_) (fun c9 => absurd c9 (by decide))
  iterate 2 (refine kst rfl rfl ?_)
  refine kca rfl rfl ?_
  refine kin (Nat.le_of_ble_eq_true rfl) ?_
  iterate 10 (refine kst rfl rfl ?_)
  refine kre rfl rfl ?_
  iterate 6 (refine kst rfl rfl ?_)
  refine kcm_ge rfl (fun c9 => absurd c9 (by decide)) (fun _ => ?_)
  iterate 2 (refine kst rfl rfl ?_)
  refine kcm_ge rfl (fun c9 => absurd c9 (by decide)) (fun _ => ?_)
  iterate 6 (refine kst rfl rfl ?_)
  refine kcm_ne rfl (fun _ => ?_) (fun c9 => absurd c9 (by decide))
  iterate 2 (refine kst rfl rfl ?_)
  refine kca rfl rfl ?_
  refine kin (Nat.le_of_ble_eq_true rfl) ?_
  iterate 10 (refine kst rfl rfl ?_)
  refine kre rfl rfl ?_
  iterate 6 (refine kst rfl rfl ?_)
  refine kcm_ge rfl (fun c9 => absurd c9 (by decide)) (fun _ => ?_)
  iterate 2 (refine kst rfl rfl ?_)
  refine kcm_ge rfl (fun c9 => absurd c9 (by decide)) (fun _ => ?_)
  iterate 6 (refine kst rfl rfl ?_)
  refine kcm_ne rfl (fun c9 => absurd c9 (by decide)) (fun _ => ?_)
  refine kst rfl rfl ?_
  refine kgetP (b := 11) rfl rfl rfl rfl ?_
  iterate 2 (refine kst rfl rfl ?_)
  refine klast (j := 3) rfl rfl (by decide) (Nat.le_of_ble_eq_true rfl) (Nat.le_of_ble_eq_true rfl) ?_
  iterate 9 (refine kst rfl rfl ?_)
  refine kcm_ge rfl (fun c9 => absurd c9 (by decide)) (fun _ => ?_)
  iterate 2 (refine kst rfl rfl ?_)
  refine kcm_ge rfl (fun c9 => absurd c9 (by decide)) (fun _ => ?_)
  iterate 6 (refine kst rfl rfl ?_)
  refine kcm_ne rfl (fun _ => ?_) (fun c9 => absurd c9 (by decide))
  iterate 2 (refine kst rfl rfl ?_)
  refine kca rfl rfl ?_
  refine kin (Nat.le_of_ble_eq_true rfl) ?_
  iterate 10 (refine kst rfl rfl ?_)
  refine kre rfl rfl ?_
  iterate 6 (refine kst rfl rfl ?_)
  refine kcm_ge rfl (fun c9 => absurd c9 (by decide)) (fun _ => ?_)
  iterate 2 (refine kst rfl rfl ?_)
  refine kcm_ge rfl (fun c9 => absurd c9 (by decide)) (fun _ => ?_)
  iterate 6 (refine kst rfl rfl ?_)
  refine kcm_ne rfl (fun _ => ?_) (fun c9 => absurd c9 (by decide))
  iterate 2 (refine kst rfl rfl ?_)
  refine kca rfl rfl ?_
  refine kin (Nat.le_of_ble_eq_true rfl) ?_
  iterate 10 (refine kst rfl rfl ?_)
  refine kre rfl rfl ?_
  iterate 6 (refine kst rfl rfl ?_)
  refine kcm_ge rfl (fun c9 => absurd c9 (by decide)) (fun _ => ?_)
  iterate 2 (refine kst rfl rfl ?_)
  refine kcm_ge rfl (fun c9 => absurd c9 (by decide)) (fun _ => ?_)
  iterate 6 (refine kst rfl rfl ?_)
  refine kcm_ne rfl (fun _ => ?_) (fun c9 => absurd c9 (by decide))
  iterate 2 (refine kst rfl rfl ?_)
  refine kca rfl rfl ?_
  refine kin (Nat.le_of_ble_eq_true rfl) ?_
  iterate 10 (refine kst rfl rfl ?_)
  refine kre rfl rfl ?_
  iterate 6 (refine kst rfl rfl ?_)
  refine kcm_ge rfl (fun c9 => absurd c9 (by decide)) (fun _ => ?_)
  iterate 2 (refine kst rfl rfl ?_)
  refine kcm_ge rfl (fun c9 => absurd c9 (by decide)) (fun _ => ?_)
  iterate 6 (refine kst rfl rfl ?_)
  refine kcm_ne rfl (fun _ => ?_) (fun c9 => absurd c9 (by decide))
  iterate 2 (refine kst rfl rfl ?_)
  refine kca rfl rfl ?_
  refine kin (Nat.le_of_ble_eq_true rfl) ?_
  iterate 10 (refine kst rfl rfl ?_)
  refine kre rfl rfl ?_
  iterate 6 (refine kst rfl rfl ?_)
  refine kcm_ge rfl (fun c9 => absurd c9 (by decide)) (fun _ => ?_)
  iterate 2 (refine kst rfl rfl ?_)
  refine kcm_ge rfl (fun c9 => absurd c9 (by decide)) (fun _ => ?_)
  iterate 6 (refine kst rfl rfl ?_)
  refine kcm_ne rfl (fun _ => ?_) (fun c9 => absurd c9 (by decide))
  iterate 2 (refine kst rfl rfl ?_)
  refine kca rfl rfl ?_
  refine kin (Nat.le_of_ble_eq_true rfl) ?_
  iterate 10 (refine kst rfl rfl ?_)
  refine kre rfl rfl ?_
  iterate 6 (refine kst rfl rfl ?_)
  refine kcm_ge rfl (fun c9 => absurd c9 (by decide)) (fun _ => ?_)
  iterate 2 (refine kst rfl rfl ?_)
  refine kcm_ge rfl (fun c9 => absurd c9 (by decide)) (fun _ => ?_)
  iterate 6 (refine kst rfl rfl ?_)
  refine kcm_ne rfl (fun c9 => absurd c9 (by decide)) (fun _ => ?_)
  refine kst rfl rfl ?_
  refine kgetP (b := 11) rfl rfl rfl rfl ?_
  iterate 2 (refine kst rfl rfl ?_)
  refine klast (j := 4) rfl rfl (by decide) (Nat.le_of_ble_eq_true rfl) (Nat.le_of_ble_eq_true rfl) ?_
  iterate 9 (refine kst rfl rfl ?_)
  refine kcm_ge rfl (fun c9 => absurd c9 (by decide)) (fun _ => ?_)
  iterate 2 (refine kst rfl rfl ?_)
  refine kcm_ge rfl (fun c9 => absurd c9 (by decide)) (fun _ => ?_)
  iterate 6 (refine kst rfl rfl ?_)
  refine kcm_ne rfl (fun _ => ?_) (fun c9 => absurd c9 (by decide))
  iterate 2 (refine kst rfl rfl ?_)
  refine kca rfl rfl ?_
  refine kin (Nat.le_of_ble_eq_true rfl) ?_
  iterate 10 (refine kst rfl rfl ?_)
  refine kre rfl rfl ?_
  iterate 6 (refine kst rfl rfl ?_)
  refine kcm_ge rfl (fun c9 => absurd c9 (by decide)) (fun _ => ?_)
  iterate 2 (refine kst rfl rfl ?_)
  refine kcm_ge rfl (fun c9 => absurd c9 (by decide)) (fun _ => ?_)
  iterate 6 (refine kst rfl rfl ?_)
  refine kcm_ne rfl (fun _ => ?_) (fun c9 => absurd c9 (by decide))
  iterate 2 (refine kst rfl rfl ?_)
  refine kca rfl rfl ?_
  refine kin (Nat.le_of_ble_eq_true rfl) ?_
  iterate 10 (refine kst rfl rfl ?_)
  refine kre rfl rfl ?_
  iterate 6 (refine kst rfl rfl ?_)
  refine kcm_ge rfl (fun c9 => absurd c9 (by decide)) (fun _ => ?_)
  iterate 2 (refine kst rfl rfl ?_)
  refine kcm_ge rfl (fun c9 => absurd c9 (by decide)) (fun _ => ?_)
  iterate 6 (refine kst rfl rfl ?_)
  refine kcm_ne rfl (fun _ => ?_) (fun c9 => absurd c9 (by decide))
  iterate 2 (refine kst rfl rfl ?_)
  refine kca rfl rfl ?_
  refine kin (Nat.le_of_ble_eq_true rfl) ?_
  iterate 10 (refine kst rfl rfl ?_)
  refine kre rfl rfl ?_
  iterate 6 (refine kst rfl rfl ?_)
  refine kcm_ge rfl (fun c9 => absurd c9 (by decide)) (fun _ => ?_)
  iterate 2 (refine kst rfl rfl ?_)
  refine kcm_ge rfl (fun c9 => absurd c9 (by decide)) (fun _ => ?_)
  iterate 6 (refine kst rfl rfl ?_)
  refine kcm_ne rfl (fun _ => ?_) (fun c9 => absurd c9 (by decide))
  iterate 2 (refine kst rfl rfl ?_)
  refine kca rfl rfl ?_
  refine kin (Nat.le_of_ble_eq_true rfl) ?_
  iterate 10 (refine kst rfl rfl ?_)
  refine kre rfl rfl ?_
  iterate 6 (refine kst rfl rfl ?_)
  refine kcm_ge rfl (fun c9 => absurd c9 (by decide)) (fun _ => ?_)
  iterate 2 (refine kst rfl rfl ?_)
  refine kcm_ge rfl (fun c9 => absurd c9 (by decide)) (fun _ => ?_)
  iterate 6 (refine kst rfl rfl ?_)
  refine kcm_ne rfl (fun c9 => absurd c9 (by decide)) (fun _ => ?_)
  refine kst rfl rfl ?_
  refine kgetP (b := 11) rfl rfl rfl rfl ?_
  iterate 2 (refine kst rfl rfl ?_)
  refine klast (j := 5) rfl rfl (by decide) (Nat.le_of_ble_eq_true rfl) (Nat.le_of_ble_eq_true rfl) ?_
  iterate 9 (refine kst rfl rfl ?_)
  refine kcm_ge rfl (fun c9 => absurd c9 (by decide)) (fun _ => ?_)
  iterate 2 (refine kst rfl rfl ?_)
  refine kcm_ge rfl (fun c9 => absurd c9 (by decide)) (fun _ => ?_)
  iterate 6 (refine kst rfl rfl ?_)
  refine kcm_ne rfl (fun _ => ?_) (fun c9 => absurd c9 (by decide))
  iterate 2 (refine kst rfl rfl ?_)
  refine kca rfl rfl ?_
  refine kin (Nat.le_of_ble_eq_true rfl) ?_
  iterate 10 (refine kst rfl rfl ?_)
  refine kre rfl rfl ?_
  iterate 6 (refine kst rfl rfl ?_)
  refine kcm_ge rfl (fun c9 => absurd c9 (by decide)) (fun _ => ?_)
  iterate 2 (refine kst rfl rfl ?_)
  refine kcm_ge rfl (fun c9 => absurd c9 (by decide)) (fun _ => ?_)
  iterate 6 (refine kst rfl rfl ?_)
  refine kcm_ne rfl (fun _ => ?_) (fun c9 => absurd c9 (by decide))
  iterate 2 (refine kst rfl rfl ?_)
  refine kca rfl rfl ?_
  refine kin (Nat.le_of_ble_eq_true rfl) ?_
  iterate 10 (refine kst rfl rfl ?_)
  refine kre rfl rfl ?_
  iterate 6 (refine kst rfl rfl ?_)
  refine kcm_ge rfl (fun c9 => absurd c9 (by decide)) (fun _ => ?_)
  iterate 2 (refine kst rfl rfl ?_)
  refine kcm_ge rfl (fun c9 => absurd c9 (by decide)) (fun _ => ?_)
  iterate 6 (refine kst rfl rfl ?_)
  refine kcm_ne rfl (fun _ => ?_) (fun c9 => absurd c9 (by decide))
  iterate 2 (refine kst rfl rfl ?_)
  refine kca rfl rfl ?_
  refine kin (Nat.le_of_ble_eq_true rfl) ?_
  iterate 10 (refine kst rfl rfl ?_)
  refine kre rfl rfl ?_
  iterate 6 (refine kst rfl rfl ?_)
  refine kcm_ge rfl (fun c9 => absurd c9 (by decide)) (fun _ => ?_)
  iterate 2 (refine kst rfl rfl ?_)
  refine kcm_ge rfl (fun c9 => absurd c9 (by decide)) (fun _ => ?_)
  iterate 6 (refine kst rfl rfl ?_)
  refine kcm_ne rfl (fun _ => ?_) (fun c9 => absurd c9 (by decide))
  iterate 2 (refine kst rfl rfl ?_)
  refine kca rfl rfl ?_
  refine kin (Nat.le_of_ble_eq_true rfl) ?_
  iterate 10 (refine kst rfl rfl ?_)
  refine kre rfl rfl ?_
  iterate 6 (refine kst rfl rfl ?_)
  refine kcm_ge rfl (fun c9 => absurd c9 (by decide)) (fun _ => ?_)
  iterate 2 (refine kst rfl rfl ?_)
  refine kcm_ge rfl (fun c9 => absurd c9 (by decide)) (fun _ => ?_)
  iterate 6 (refine kst rfl rfl ?_)
  refine kcm_ne rfl (fun _ => ?_) (fun c9 => absurd c9 (by decide))
  iterate 2 (refine kst rfl rfl ?_)
  refine kca rfl rfl ?_
  refine kin (Nat.le_of_ble_eq_true rfl) ?_
  iterate 10 (refine kst rfl rfl ?_)
  refine kre rfl rfl ?_
  iterate 6 (refine kst rfl rfl ?_)
  refine kcm_ge rfl (fun c9 => absurd c9 (by decide)) (fun _ => ?_)
  iterate 2 (refine kst rfl rfl ?_)
  refine kcm_ge rfl (fun c9 => absurd c9 (by decide)) (fun _ => ?_)
  iterate 6 (refine kst rfl rfl ?_)
  refine kcm_ne rfl (fun _ => ?_) (fun c9 => absurd c9 (by decide))
  iterate 2 (refine kst rfl rfl ?_)
  refine kca rfl rfl ?_
  refine kin (Nat.le_of_ble_eq_true rfl) ?_
  iterate 10 (refine kst rfl rfl ?_)
  refine kre rfl rfl ?_
  iterate 6 (refine kst rfl rfl ?_)
  refine kcm_ge rfl (fun c9 => absurd c9 (by decide)) (fun _ => ?_)
  iterate 2 (refine kst rfl rfl ?_)
  refine kcm_ge rfl (fun c9 => absurd c9 (by decide)) (fun _ => ?_)
  iterate 6 (refine kst rfl rfl ?_)
  refine kcm_ne rfl (fun c9 => absurd c9 (by decide)) (fun _ => ?_)
  refine kst rfl rfl ?_
  refine kgetP (b := 11) rfl rfl rfl rfl ?_
  iterate 2 (refine kst rfl rfl ?_)
  refine klast (j := 6) rfl rfl (by decide) (Nat.le_of_ble_eq_true rfl) (Nat.le_of_ble_eq_true rfl) ?_
  iterate 9 (refine kst rfl rfl ?_)
  refine kcm_ge rfl (fun c9 => absurd c9 (by decide)) (fun _ => ?_)
  iterate 2 (refine kst rfl rfl ?_)
  refine kcm_ge rfl (fun c9 => absurd c9 (by decide)) (fun _ => ?_)
  iterate 6 (refine kst rfl rfl ?_)
  refine kcm_ne rfl (fun _ => ?_) (fun c9 => absurd c9 (by decide))
  iterate 2 (refine kst rfl rfl ?_)
  refine kca rfl rfl ?_
  refine kin (Nat.le_of_ble_eq_true rfl) ?_
  iterate 10 (refine kst rfl rfl ?_)
  refine kre rfl rfl ?_
  iterate 6 (refine kst rfl rfl ?_)
  refine kcm_ge rfl (fun c9 => absurd c9 (by decide)) (fun _ => ?_)
  iterate 2 (refine kst rfl rfl ?_)
  refine kcm_ge rfl (fun c9 => absurd c9 (by decide)) (fun _ => ?_)
  iterate 6 (refine kst rfl rfl ?_)
  refine kcm_ne rfl (fun _ => ?_) (fun c9 => absurd c9 (by decide))
  iterate 2 (refine kst rfl rfl ?_)
  refine kca rfl rfl ?_
  refine kin (Nat.le_of_ble_eq_true rfl) ?_
  iterate 10 (refine kst rfl rfl ?_)
  refine kre rfl rfl ?_
  iterate 6 (refine kst rfl rfl ?_)
  refine kcm_ge rfl (fun c9 => absurd c9 (by decide)) (fun _ => ?_)
  iterate 2 (refine kst rfl rfl ?_)
  refine kcm_ge rfl (fun c9 => absurd c9 (by decide)) (fun _ => ?_)
  iterate 6 (refine kst rfl rfl ?_)
  refine kcm_ne rfl (fun _ => ?_) (fun c9 => absurd c9 (by decide))
  iterate 2 (refine kst rfl rfl ?_)
  refine kca rfl rfl ?_
  refine kin (Nat.le_of_ble_eq_true rfl) ?_
  iterate 10 (refine kst rfl rfl ?_)
  refine kre rfl rfl ?_
  iterate 6 (refine kst rfl rfl ?_)
  refine kcm_ge rfl (fun c9 => absurd c9 (by decide)) (fun _ => ?_)
  iterate 2 (refine kst rfl rfl ?_)
  refine kcm_ge rfl (fun c9 => absurd c9 (by decide)) (fun _ => ?_)
  iterate 6 (refine kst rfl rfl ?_)
  refine kcm_ne rfl (fun _ => ?_) (fun c9 => absurd c9 (by decide))
  iterate 2 (refine kst rfl rfl ?_)
  refine kca rfl rfl ?_
  refine kin (Nat.le_of_ble_eq_true rfl) ?_
  iterate 10 (refine kst rfl rfl ?_)
  refine kre rfl rfl ?_
  iterate 6 (refine kst rfl rfl ?_)
  refine kcm_ge rfl (fun c9 => absurd c9 (by decide)) (fun _ => ?_)
  iterate 2 (refine kst rfl rfl ?_)
  refine kcm_ge rfl (fun c9 => absurd c9 (by decide)) (fun _ => ?_)
  iterate 6 (refine kst rfl rfl ?_)
  refine kcm_ne rfl (fun c9 => absurd c9 (by decide)) (fun _ => ?_)
  refine kst rfl rfl ?_
  refine kgetP (b := 11) rfl rfl rfl rfl ?_
  iterate 2 (refine kst rfl rfl ?_)
  refine klast (j := 7) rfl rfl (by decide) (Nat.le_of_ble_eq_true rfl) (Nat.le_of_ble_eq_true rfl) ?_
  iterate 9 (refine kst rfl rfl ?_)
  refine kcm_ge rfl (fun c9 => absurd c9 (by decide)) (fun _ => ?_)
  iterate 2 (refine kst rfl rfl ?_)
  refine kcm_ge rfl (fun c9 => absurd c9 (by decide)) (fun _ => ?_)
  iterate 6 (refine kst rfl rfl ?_)
  refine kcm_ne rfl (fun _ => ?_) (fun c9 => absurd c9 (by decide))
  iterate 2 (refine kst rfl rfl ?_)
  refine kca rfl rfl ?_
  refine kin (Nat.le_of_ble_eq_true rfl) ?_
  iterate 10 (refine kst rfl rfl ?_)
  refine kre rfl rfl ?_
  iterate 6 (refine kst rfl rfl ?_)
  refine kcm_ge rfl (fun c9 => absurd c9 (by decide)) (fun _ => ?_)
  iterate 2 (refine kst rfl rfl ?_)
  refine kcm_ge rfl (fun c9 => absurd c9 (by decide)) (fun _ => ?_)
  iterate 6 (refine kst rfl rfl ?_)
  refine kcm_ne rfl (fun _ => ?_) (fun c9 => absurd c9 (by decide))
  iterate 2 (refine kst rfl rfl ?_)
  refine kca rfl rfl ?_
  refine kin (Nat.le_of_ble_eq_true rfl) ?_
  iterate 10 (refine kst rfl rfl ?_)
  refine kre rfl rfl ?_
  iterate 6 (refine kst rfl rfl ?_)
  refine kcm_ge rfl (fun c9 => absurd c9 (by decide)) (fun _ => ?_)
  iterate 2 (refine kst rfl rfl ?_)
  refine kcm_ge rfl (fun c9 => absurd c9 (by decide)) (fun _ => ?_)
  iterate 6 (refine kst rfl rfl ?_)
  refine kcm_ne rfl (fun _ => ?_) (fun c9 => absurd c9 (by decide))
  iterate 2 (refine kst rfl rfl ?_)
  refine kca rfl rfl ?_
  refine kin (Nat.le_of_ble_eq_true rfl) ?_
  iterate 10 (refine kst rfl rfl ?_)
  refine kre rfl rfl ?_
  iterate 6 (refine kst rfl rfl ?_)
  refine kcm_ge rfl (fun c9 => absurd c9 (by decide)) (fun _ => ?_)
  iterate 2 (refine kst rfl rfl ?_)
  refine kcm_ge rfl (fun c9 => absurd c9 (by decide)) (fun _ => ?_)
  iterate 6 (refine kst rfl rfl ?_)
  refine kcm_ne rfl (fun _ => ?_) (fun c9 => absurd c9 (by decide))
  iterate 2 (refine kst rfl rfl ?_)
  refine kca rfl rfl ?_
  refine kin (Nat.le_of_ble_eq_true rfl) ?_
  iterate 10 (refine kst rfl rfl ?_)
  refine kre rfl rfl ?_
  iterate 6 (refine kst rfl rfl ?_)
  refine kcm_ge rfl (fun c9 => absurd c9 (by decide)) (fun _ => ?_)
  iterate 2 (refine kst rfl rfl ?_)
  refine kcm_ge rfl (fun c9 => absurd c9 (by decide)) (fun _ => ?_)
  iterate 6 (refine kst rfl rfl ?_)
  refine kcm_ne rfl (fun c9 => absurd c9 (by decide)) (fun _ => ?_)
  refine kst rfl rfl ?_
  refine kgetP (b := 11) rfl rfl rfl rfl ?_
  iterate 2 (refine kst rfl rfl ?_)
  refine klast (j := 8) rfl rfl (by decide) (Nat.le_of_ble_eq_true rfl) (Nat.le_of_ble_eq_true rfl) ?_
  iterate 9 (refine kst rfl rfl ?_)
  refine kcm_ge rfl (fun c9 => absurd c9 (by decide)) (fun _ => ?_)
  iterate 2 (refine kst rfl rfl ?_)
  refine kcm_ge rfl (fun c9 => absurd c9 (by decide)) (fun _ => ?_)
  iterate 6 (refine kst rfl rfl ?_)
  refine kcm_ne rfl (fun _ => ?_) (fun c9 => absurd c9 (by decide))
  iterate 2 (refine kst rfl rfl ?_)
  refine kca rfl rfl ?_
  refine kin (Nat.le_of_ble_eq_true rfl) ?_
  iterate 10 (refine kst rfl rfl ?_)
  refine kre rfl rfl ?_
  iterate 6 (refine kst rfl rfl ?_)
  refine kcm_ge rfl (fun c9 => absurd c9 (by decide)) (fun _ => ?_)
  iterate 2 (refine kst rfl rfl ?_)
  refine kcm_ge rfl (fun c9 => absurd c9 (by decide)) (fun _ => ?_)
  iterate 6 (refine kst rfl rfl ?_)
  refine kcm_ne rfl (fun _ => ?_) (fun c9 => absurd c9 (by decide))
  iterate 2 (refine kst rfl rfl ?_)
  refine kca rfl rfl ?_
  refine kin (Nat.le_of_ble_eq_true rfl) ?_
  iterate 10 (refine kst rfl rfl ?_)
  refine kre rfl rfl ?_
  iterate 6 (refine kst rfl rfl ?_)
  refine kcm_ge rfl (fun c9 => absurd c9 (by decide)) (fun _ => ?_)
  iterate 2 (refine kst rfl rfl ?_)
  refine kcm_ge rfl (fun c9 => absurd c9 (by decide)) (fun _ => ?_)
  iterate 6 (refine kst rfl rfl ?_)
  refine kcm_ne rfl (fun _ => ?_) (fun c9 => absurd c9 (by decide))
  iterate 2 (refine kst rfl rfl ?_)
  refine kca rfl rfl ?_
  refine kin (Nat.le_of_ble_eq_true rfl) ?_
  iterate 10 (refine kst rfl rfl ?_)
  refine kre rfl rfl ?_
  iterate 6 (refine kst rfl rfl ?_)
  refine kcm_ge rfl (fun c9 => absurd c9 (by decide)) (fun _ => ?_)
  iterate 2 (refine kst rfl rfl ?_)
  refine kcm_ge rfl (fun c9 => absurd c9 (by decide)) (fun _ => ?_)
  iterate 6 (refine kst rfl rfl ?_)
  refine kcm_ne rfl (fun _ => ?_) (fun c9 => absurd c9 (by decide))
  iterate 2 (refine kst rfl rfl ?_)
  refine kca rfl rfl ?_
  refine kin (Nat.le_of_ble_eq_true rfl) ?_
  iterate 10 (refine kst rfl rfl ?_)
  refine kre rfl rfl ?_
  iterate 6 (refine kst rfl rfl ?_)
  refine kcm_ge rfl (fun c9 => absurd c9 (by decide)) (fun _ => ?_)
  iterate 2 (refine kst rfl rfl ?_)
  refine kcm_ge rfl (fun c9 => absurd c9 (by decide)) (fun _ => ?_)
  iterate 6 (refine kst rfl rfl ?_)
  refine kcm_ne rfl (fun c9 => absurd c9 (by decide)) (fun _ => ?_)
  refine kst rfl rfl ?_
  refine kgetP (b := 11) rfl rfl rfl rfl ?_
  iterate 2 (refine kst rfl rfl ?_)
  refine klast (j := 9) rfl rfl (by decide) (Nat.le_of_ble_eq_true rfl) (Nat.le_of_ble_eq_true rfl) ?_
  iterate 9 (refine kst rfl rfl ?_)
  refine kcm_ge rfl (fun c9 => absurd c9 (by decide)) (fun _ => ?_)
  iterate 2 (refine kst rfl rfl ?_)
  refine kcm_ge rfl (fun c9 => absurd c9 (by decide)) (fun _ => ?_)
  iterate 6 (refine kst rfl rfl ?_)
  refine kcm_ne rfl (fun _ => ?_) (fun c9 => absurd c9 (by decide))
  iterate 2 (refine kst rfl rfl ?_)
  refine kca rfl rfl ?_
  refine kin (Nat.le_of_ble_eq_true rfl) ?_
  iterate 10 (refine kst rfl rfl ?_)
  refine kre rfl rfl ?_
  iterate 6 (refine kst rfl rfl ?_)
  refine kcm_ge rfl (fun c9 => absurd c9 (by decide)) (fun _ => ?_)
  iterate 2 (refine kst rfl rfl ?_)
  refine kcm_ge rfl (fun c9 => absurd c9 (by decide)) (fun _ => ?_)
  iterate 6 (refine kst rfl rfl ?_)
  refine kcm_ne rfl (fun _ => ?_) (fun c9 => absurd c9 (by decide))
  iterate 2 (refine kst rfl rfl ?_)
  refine kca rfl rfl ?_
  refine kin (Nat.le_of_ble_eq_true rfl) ?_
  iterate 10 (refine kst rfl rfl ?_)
  refine kre rfl rfl ?_
  iterate 6 (refine kst rfl rfl ?_)
  refine kcm_ge rfl (fun c9 => absurd c9 (by decide)) (fun _ => ?_)
  iterate 2 (refine kst rfl rfl ?_)
  refine kcm_ge rfl (fun c9 => absurd c9 (by decide)) (fun _ => ?_)
  iterate 6 (refine kst rfl rfl ?_)
  refine kcm_ne rfl (fun _ => ?_) (fun c9 => absurd c9 (by decide))
  iterate 2 (refine kst rfl rfl ?_)
  refine kca rfl rfl ?_
  refine kin (Nat.le_of_ble_eq_true rfl) ?_
  iterate 10 (refine kst rfl rfl ?_)
  refine kre rfl rfl ?_
  iterate 6 (refine kst rfl rfl ?_)
  refine kcm_ge rfl (fun c9 => absurd c9 (by decide)) (fun _ => ?_)
  iterate 2 (refine kst rfl rfl ?_)
  refine kcm_ge rfl (fun c9 => absurd c9 (by decide)) (fun _ => ?_)
  iterate 6 (refine kst rfl rfl ?_)
  refine kcm_ne rfl (fun _ => ?_) (fun c9 => absurd c9 (by decide))
  iterate 2 (refine kst rfl rfl ?_)
  refine kca rfl rfl ?_
  refine kin (Nat.le_of_ble_eq_true rfl) ?_
  iterate 10 (refine kst rfl rfl ?_)
  refine kre rfl rfl ?_
  iterate 6 (refine kst rfl rfl ?_)
  refine kcm_ge rfl (fun c9 => absurd c9 (by decide)) (fun _ => ?_)
  iterate 2 (refine kst rfl rfl ?_)
  refine kcm_ge rfl (fun c9 => absurd c9 (by decide)) (fun _ => ?_)
  iterate 6 (refine kst rfl rfl ?_)
  refine kcm_ne rfl (fun c9 => absurd c9 (by decide)) (fun _ => ?_)
  refine kst rfl rfl ?_
  refine kgetP (b := 11) rfl rfl rfl rfl ?_
  iterate 2 (refine kst rfl rfl ?_)
  refine klast (j := 10) rfl rfl (by decide) (Nat.le_of_ble_eq_true rfl) (Nat.le_of_ble_eq_true rfl) ?_
  iterate 9 (refine kst rfl rfl ?_)
  refine kcm_ge rfl (fun c9 => absurd c9 (by decide)) (fun _ => ?_)
  iterate 2 (refine kst rfl rfl ?_)
  refine kcm_ge rfl (fun c9 => absurd c9 (by decide)) (fun _ => ?_)
  iterate 6 (refine kst rfl rfl ?_)
  refine kcm_ne rfl (fun _ => ?_) (fun c9 => absurd c9 (by decide))
  iterate 2 (refine kst rfl rfl ?_)
  refine kca rfl rfl ?_
  refine kin (Nat.le_of_ble_eq_true rfl) ?_
  iterate 10 (refine kst rfl rfl ?_)
  refine kre rfl rfl ?_
  iterate 6 (refine kst rfl rfl ?_)
  refine kcm_ge rfl (fun c9 => absurd c9 (by decide)) (fun _ => ?_)
  iterate 2 (refine kst rfl rfl ?_)
  refine kcm_ge rfl (fun c9 => absurd c9 (by decide)) (fun _ => ?_)
  iterate 6 (refine kst rfl rfl ?_)
  refine kcm_ne rfl (fun _ => ?_) (fun c9 => absurd c9 (by decide))
  iterate 2 (refine kst rfl rfl ?_)
  refine kca rfl rfl ?_
  refine kin (Nat.le_of_ble_eq_true rfl) ?_
  iterate 10 (refine kst rfl rfl ?_)
  refine kre rfl rfl ?_
  iterate 6 (refine kst rfl rfl ?_)
  refine kcm_ge rfl (fun c9 => absurd c9 (by decide)) (fun _ => ?_)
  iterate 2 (refine kst rfl rfl ?_)
  refine kcm_ge rfl (fun c9 => absurd c9 (by decide)) (fun _ => ?_)
  iterate 6 (refine kst rfl rfl ?_)
  refine kcm_ne rfl (fun _ => ?_) (fun c9 => absurd c9 (by decide))
  iterate 2 (refine kst rfl rfl ?_)
  refine kca rfl rfl ?_
  refine kin (Nat.le_of_ble_eq_true rfl) ?_
  iterate 10 (refine kst rfl rfl ?_)
  refine kre rfl rfl ?_
  iterate 6 (refine kst rfl rfl ?_)
  refine kcm_ge rfl (fun c9 => absurd c9 (by decide)) (fun _ => ?_)
  iterate 2 (refine kst rfl rfl ?_)
  refine kcm_ge rfl (fun c9 => absurd c9 (by decide)) (fun _ => ?_)
  iterate 6 (refine kst rfl rfl ?_)
  refine kcm_ne rfl (fun _ => ?_) (fun c9 => absurd c9 (by decide))
  iterate 2 (refine kst rfl rfl ?_)
  refine kca rfl rfl ?_
  refine kin (Nat.le_of_ble_eq_true rfl) ?_
  iterate 10 (refine kst rfl rfl ?_)
  refine kre rfl rfl ?_
  iterate 6 (refine kst rfl rfl ?_)
  refine kcm_ge rfl (fun c9 => absurd c9 (by decide)) (fun _ => ?_)
  iterate 2 (refine kst rfl rfl ?_)
  refine kcm_ge rfl (fun c9 => absurd c9 (by decide)) (fun _ => ?_)
  iterate 6 (refine kst rfl rfl ?_)
  refine kcm_ne rfl (fun c9 => absurd c9 (by decide)) (fun _ => ?_)
  refine kst rfl rfl ?_
  refine kgetP (b := 11) rfl rfl rfl rfl ?_
  iterate 2 (refine kst rfl rfl ?_)
  refine klast (j := 11) rfl rfl (by decide) (Nat.le_of_ble_eq_true rfl) (Nat.le_of_ble_eq_true rfl) ?_
  iterate 9 (refine kst rfl rfl ?_)
  refine kcm_ge rfl (fun c9 => absurd c9 (by decide)) (fun _ => ?_)
  iterate 2 (refine kst rfl rfl ?_)
  refine kcm_ge rfl (fun c9 => absurd c9 (by decide)) (fun _ => ?_)
  iterate 6 (refine kst rfl rfl ?_)
  refine kcm_ne rfl (fun _ => ?_) (fun c9 => absurd c9 (by decide))
  iterate 2 (refine kst rfl rfl ?_)
  refine kca rfl rfl ?_
  refine kin (Nat.le_of_ble_eq_true rfl) ?_
  iterate 10 (refine kst rfl rfl ?_)
  refine kre rfl rfl ?_
  iterate 6 (refine kst rfl rfl ?_)
  refine kcm_ge rfl (fun c9 => absurd c9 (by decide)) (fun _ => ?_)
  iterate 2 (refine kst rfl rfl ?_)
  refine kcm_ge rfl (fun c9 => absurd c9 (by decide)) (fun _ => ?_)
  iterate 6 (refine kst rfl rfl ?_)
  refine kcm_ne rfl (fun _ => ?_) (fun c9 => absurd c9 (by decide))
  iterate 2 (refine kst rfl rfl ?_)
  refine kca rfl rfl ?_
  refine kin (Nat.le_of_ble_eq_true rfl) ?_
  iterate 10 (refine kst rfl rfl ?_)
  refine kre rfl rfl ?_
  iterate 6 (refine kst rfl rfl ?_)
  refine kcm_ge rfl (fun c9 => absurd c9 (by decide)) (fun _ => ?_)
  iterate 2 (refine kst rfl rfl ?_)
  refine kcm_ge rfl (fun c9 => absurd c9 (by decide)) (fun _ => ?_)
  iterate 6 (refine kst rfl rfl ?_)
  refine kcm_ne rfl (fun _ => ?_) (fun c9 => absurd c9 (by decide))
  iterate 2 (refine kst rfl rfl ?_)
  refine kca rfl rfl ?_
  refine kin (Nat.le_of_ble_eq_true rfl) ?_
  iterate 10 (refine kst rfl rfl ?_)
  refine kre rfl rfl ?_
  iterate 6 (refine kst rfl rfl ?_)
  refine kcm_ge rfl (fun c9 => absurd c9 (by decide)) (fun _ => ?_)
  iterate 2 (refine kst rfl rfl ?_)
  refine kcm_ge rfl (fun c9 => absurd c9 (by decide)) (fun _ => ?_)
  iterate 6 (refine kst rfl rfl ?_)
  refine kcm_ne rfl (fun _ => ?_) (fun c9 => absurd c9 (by decide))
  iterate 2 (refine kst rfl rfl ?_)
  refine kca rfl rfl ?_
  refine kin (Nat.le_of_ble_eq_true rfl) ?_
  iterate 10 (refine kst rfl rfl ?_)
  refine kre rfl rfl ?_
  iterate 6 (refine kst rfl rfl ?_)
  refine kcm_ge rfl (fun c9 => absurd c9 (by decide)) (fun _ => ?_)
  iterate 2 (refine kst rfl rfl ?_)
  refine kcm_ge rfl (fun c9 => absurd c9 (by decide)) (fun _ => ?_)
  iterate 6 (refine kst rfl rfl ?_)
  refine kcm_ne rfl (fun c9 => absurd c9 (by decide)) (fun _ => ?_)
  refine kst rfl rfl ?_
  refine kgetP (b := 11) rfl rfl rfl rfl ?_
  iterate 2 (refine kst rfl rfl ?_)
  refine klast (j := 12) rfl rfl (by decide) (Nat.le_of_ble_eq_true rfl) (Nat.le_of_ble_eq_true rfl) ?_
  iterate 9 (refine kst rfl rfl ?_)
  refine kcm_ge rfl (fun c9 => absurd c9 (by decide)) (fun _ => ?_)
  iterate 2 (refine kst rfl rfl ?_)
  refine kcm_ge rfl (fun c9 => absurd c9 (by decide)) (fun _ => ?_)
  iterate 6 (refine kst rfl rfl ?_)
  refine kcm_ne rfl (fun _ => ?_) (fun c9 => absurd c9 (by decide))
  iterate 2 (refine kst rfl rfl ?_)
  refine kca rfl rfl ?_
  refine kin (Nat.le_of_ble_eq_true rfl) ?_
  iterate 10 (refine kst rfl rfl ?_)
  refine kre rfl rfl ?_
  iterate 6 (refine kst rfl rfl ?_)
  refine kcm_ge rfl (fun c9 => absurd c9 (by decide)) (fun _ => ?_)
  iterate 2 (refine kst rfl rfl ?_)
  refine kcm_ge rfl (fun c9 => absurd c9 (by decide)) (fun _ => ?_)
  iterate 6 (refine kst rfl rfl ?_)
  refine kcm_ne rfl (fun _ => ?_) (fun c9 => absurd c9 (by decide))
  iterate 2 (refine kst rfl rfl ?_)
  refine kca rfl rfl ?_
  refine kin (Nat.le_of_ble_eq_true rfl) ?_
  iterate 10 (refine kst rfl rfl ?_)
  refine kre rfl rfl ?_
  iterate 6 (refine kst rfl rfl ?_)
  refine kcm_ge rfl (fun c9 => absurd c9 (by decide)) (fun _ => ?_)
  iterate 2 (refine kst rfl rfl ?_)
  refine kcm_ge rfl (fun c9 => absurd c9 (by decide)) (fun _ => ?_)
  iterate 6 (refine kst rfl rfl ?_)
  refine kcm_ne rfl (fun _ => ?_) (fun c9 => absurd c9 (by decide))
  iterate 2 (refine kst rfl rfl ?_)
  refine kca rfl rfl ?_
  refine kin (Nat.le_of_ble_eq_true rfl) ?_
  iterate 10 (refine kst rfl rfl ?_)
  refine kre rfl rfl ?_
  iterate 6 (refine kst rfl rfl ?_)
  refine kcm_ge rfl (fun c9 => absurd c9 (by decide)) (fun _ => ?_)
  iterate 2 (refine kst rfl rfl ?_)
  refine kcm_ge rfl (fun c9 => absurd c9 (by decide)) (fun _ => ?_)
  iterate 6 (refine kst rfl rfl ?_)
  refine kcm_ne rfl (fun _ => ?_) (fun c9 => absurd c9 (by decide))
  iterate 2 (refine kst rfl rfl ?_)
  refine kca rfl rfl ?_
  refine kin (Nat.le_of_ble_eq_true rfl) ?_
  iterate 10 (refine kst rfl rfl ?_)
  refine kre rfl rfl ?_
  iterate 6 (refine kst rfl rfl ?_)
  refine kcm_ge rfl (fun c9 => absurd c9 (by decide)) (fun _ => ?_)
  iterate 2 (refine kst rfl rfl ?_)
  refine kcm_ge rfl (fun c9 => absurd c9 (by decide)) (fun _ => ?_)
  iterate 6 (refine kst rfl rfl ?_)
  refine kcm_ne rfl (fun c9 => absurd c9 (by decide)) (fun _ => ?_)
  refine kst rfl rfl ?_
  refine kgetP (b := 11) rfl rfl rfl rfl ?_
  iterate 2 (refine kst rfl rfl ?_)
  refine klast (j := 13) rfl rfl (by decide) (Nat.le_of_ble_eq_true rfl) (Nat.le_of_ble_eq_true rfl) ?_
  iterate 9 (refine kst rfl rfl ?_)
  refine kcm_ge rfl (fun c9 => absurd c9 (by decide)) (fun _ => ?_)
  iterate 2 (refine kst rfl rfl ?_)
  refine kcm_ge rfl (fun c9 => absurd c9 (by decide)) (fun _ => ?_)
  iterate 6 (refine kst rfl rfl ?_)
  refine kcm_ne rfl (fun _ => ?_) (fun c9 => absurd c9 (by decide))
  iterate 2 (refine kst rfl rfl ?_)
  refine kca rfl rfl ?_
  refine kin (Nat.le_of_ble_eq_true rfl) ?_
  iterate 10 (refine kst rfl rfl ?_)
  refine kre rfl rfl ?_
  iterate 6 (refine kst rfl rfl ?_)
  refine kcm_ge rfl (fun c9 => absurd c9 (by decide)) (fun _ => ?_)
  iterate 2 (refine kst rfl rfl ?_)
  refine kcm_ge rfl (fun c9 => absurd c9 (by decide)) (fun _ => ?_)
  iterate 6 (refine kst rfl rfl ?_)
  refine kcm_ne rfl (fun _ => ?_) (fun c9 => absurd c9 (by decide))
  iterate 2 (refine kst rfl rfl ?_)
  refine kca rfl rfl ?_
  refine kin (Nat.le_of_ble_eq_true rfl) ?_
  iterate 10 (refine kst rfl rfl ?_)
  refine kre rfl rfl ?_
  iterate 6 (refine kst rfl rfl ?_)
  refine kcm_ge rfl (fun c9 => absurd c9 (by decide)) (fun _ => ?_)
  iterate 2 (refine kst rfl rfl ?_)
  refine kcm_ge rfl (fun c9 => absurd c9 (by decide)) (fun _ => ?_)
  iterate 6 (refine kst rfl rfl ?_)
  refine kcm_ne rfl (fun _ => ?_) (fun c9 => absurd c9 (by decide))
  iterate 2 (refine kst rfl rfl ?_)
  refine kca rfl rfl ?_
  refine kin (Nat.le_of_ble_eq_true rfl) ?_
  iterate 10 (refine kst rfl rfl ?_)
  refine kre rfl rfl ?_
  iterate 6 (refine kst rfl rfl ?_)
  refine kcm_ge rfl (fun c9 => absurd c9 (by decide)) (fun _ => ?_)
  iterate 2 (refine kst rfl rfl ?_)
  refine kcm_ge rfl (fun c9 => absurd c9 (by decide)) (fun _ => ?_)
  iterate 6 (refine kst rfl rfl ?_)
  refine kcm_ne rfl (fun _ => ?_) (fun c9 => absurd c9 (by decide))
  iterate 2 (refine kst rfl rfl ?_)
  refine kca rfl rfl ?_
  refine kin (Nat.le_of_ble_eq_true rfl) ?_
  iterate 10 (refine kst rfl rfl ?_)
  refine kre rfl rfl ?_
  iterate 6 (refine kst rfl rfl ?_)
  refine kcm_ge rfl (fun c9 => absurd c9 (by decide)) (fun _ => ?_)
  iterate 2 (refine kst rfl rfl ?_)
  refine kcm_ge rfl (fun c9 => absurd c9 (by decide)) (fun _ => ?_)
  iterate 6 (refine kst rfl rfl ?_)
  refine kcm_ne rfl (fun _ => ?_) (fun c9 => absurd c9 (by decide))
  iterate 2 (refine kst rfl rfl ?_)
  refine kca rfl rfl ?_
  refine kin (Nat.le_of_ble_eq_true rfl) ?_
  iterate 10 (refine kst rfl rfl ?_)
  refine kre rfl rfl ?_
  iterate 6 (refine kst rfl rfl ?_)
  refine kcm_ge rfl (fun c9 => absurd c9 (by decide)) (fun _ => ?_)
  iterate 2 (refine kst rfl rfl ?_)
  refine kcm_ge rfl (fun c9 => absurd c9 (by decide)) (fun _ => ?_)
  iterate 6 (refine kst rfl rfl ?_)
  refine kcm_ne rfl (fun c9 => absurd c9 (by decide)) (fun _ => ?_)
  refine kst rfl rfl ?_
  refine kgetP (b := 11) rfl rfl rfl rfl ?_
  iterate 2 (refine kst rfl rfl ?_)
  refine klast (j := 14) rfl rfl (by decide) (Nat.le_of_ble_eq_true rfl) (Nat.le_of_ble_eq_true rfl) ?_
  iterate 9 (refine kst rfl rfl ?_)
  refine kcm_ge rfl (fun c9 => absurd c9 (by decide)) (fun _ => ?_)
  iterate 2 (refine kst rfl rfl ?_)
  refine kcm_ge rfl (fun c9 => absurd c9 (by decide)) (fun _ => ?_)
  iterate 6 (refine kst rfl rfl ?_)
  refine kcm_ne rfl (fun _ => ?_) (fun c9 => absurd c9 (by decide))
  iterate 2 (refine kst rfl rfl ?_)
  refine kca rfl rfl ?_
  refine kin (Nat.le_of_ble_eq_true rfl) ?_
  iterate 10 (refine kst rfl rfl ?_)
  refine kre rfl rfl ?_
  iterate 6 (refine kst rfl rfl ?_)
  refine kcm_ge rfl (fun c9 => absurd c9 (by decide)) (fun _ => ?_)
  iterate 2 (refine kst rfl rfl ?_)
  refine kcm_ge rfl (fun c9 => absurd c9 (by decide)) (fun _ => ?_)
  iterate 6 (refine kst rfl rfl ?_)
  refine kcm_ne rfl (fun _ => ?_) (fun c9 => absurd c9 (by decide))
  iterate 2 (refine kst rfl rfl ?_)
  refine kca rfl rfl ?_
  refine kin (Nat.le_of_ble_eq_true rfl) ?_
  iterate 10 (refine kst rfl rfl ?_)
  refine kre rfl rfl ?_
  iterate 6 (refine kst rfl rfl ?_)
  refine kcm_ge rfl (fun c9 => absurd c9 (by decide)) (fun _ => ?_)
  iterate 2 (refine kst rfl rfl ?_)
  refine kcm_ge rfl (fun c9 => absurd c9 (by decide)) (fun _ => ?_)
  iterate 6 (refine kst rfl rfl ?_)
  refine kcm_ne rfl (fun _ => ?_) (fun c9 => absurd c9 (by decide))
  iterate 2 (refine kst rfl rfl ?_)
  refine kca rfl rfl ?_
  refine kin (Nat.le_of_ble_eq_true rfl) ?_
  iterate 10 (refine kst rfl rfl ?_)
  refine kre rfl rfl ?_
  iterate 6 (refine kst rfl rfl ?_)
  refine kcm_ge rfl (fun c9 => absurd c9 (by decide)) (fun _ => ?_)
  iterate 2 (refine kst rfl rfl ?_)
  refine kcm_ge rfl (fun c9 => absurd c9 (by decide)) (fun _ => ?_)
  iterate 6 (refine kst rfl rfl ?_)
  refine kcm_ne rfl (fun _ => ?_) (fun c9 => absurd c9 (by decide))
  iterate 2 (refine kst rfl rfl ?_)
  refine kca rfl rfl ?_
  refine kin (Nat.le_of_ble_eq_true rfl) ?_
  iterate 10 (refine kst rfl rfl ?_)
  refine kre rfl rfl ?_
  iterate 6 (refine kst rfl rfl ?_)
  refine kcm_ge rfl (fun c9 => absurd c9 (by decide)) (fun _ => ?_)
  iterate 2 (refine kst rfl rfl ?_)
  refine kcm_ge rfl (fun c9 => absurd c9 (by decide)) (fun _ => ?_)
  iterate 6 (refine kst rfl rfl ?_)
  refine kcm_ne rfl (fun c9 => absurd c9 (by decide)) (fun _ => ?_)
  refine kst rfl rfl ?_
  refine kgetP (b := 11) rfl rfl rfl rfl ?_
  iterate 2 (refine kst rfl rfl ?_)
  refine klast (j := 15) rfl rfl (by decide) (Nat.le_of_ble_eq_true rfl) (Nat.le_of_ble_eq_true rfl) ?_
  iterate 9 (refine kst rfl rfl ?_)
  refine kcm_ge rfl (fun c9 => absurd c9 (by decide)) (fun _ => ?_)
  iterate 2 (refine kst rfl rfl ?_)
  refine kcm_ge rfl (fun c9 => absurd c9 (by decide)) (fun _ => ?_)
  iterate 6 (refine kst rfl rfl ?_)
  refine kcm_ne rfl (fun _ => ?_) (fun c9 => absurd c9 (by decide))
  iterate 2 (refine kst rfl rfl ?_)
  refine kca rfl rfl ?_
  refine kin (Nat.le_of_ble_eq_true rfl) ?_
  iterate 10 (refine kst rfl rfl ?_)
  refine kre rfl rfl ?_
  iterate 6 (refine kst rfl rfl ?_)
  refine kcm_ge rfl (fun c9 => absurd c9 (by decide)) (fun _ => ?_)
  iterate 2 (refine kst rfl rfl ?_)
  refine kcm_ge rfl (fun c9 => absurd c9 (by decide)) (fun _ => ?_)
  iterate 6 (refine kst rfl rfl ?_)
  refine kcm_ne rfl (fun _ => ?_) (fun c9 => absurd c9 (by decide))
  iterate 2 (refine kst rfl rfl ?_)
  refine kca rfl rfl ?_
  refine kin (Nat.le_of_ble_eq_true rfl) ?_
  iterate 10 (refine kst rfl rfl ?_)
  refine kre rfl rfl ?_
  iterate 6 (refine kst rfl rfl ?_)
  refine kcm_ge rfl (fun c9 => absurd c9 (by decide)) (fun _ => ?_)
  iterate 2 (refine kst rfl rfl ?_)
  refine kcm_ge rfl (fun c9 => absurd c9 (by decide)) (fun _ => ?_)
  iterate 6 (refine kst rfl rfl ?_)
  refine kcm_ne rfl (fun _ => ?_) (fun c9 => absurd c9 (by decide))
  iterate 2 (refine kst rfl rfl ?_)
  refine kca rfl rfl ?_
  refine kin (Nat.le_of_ble_eq_true rfl) ?_
  iterate 10 (refine kst rfl rfl ?_)
  refine kre rfl rfl ?_
  iterate 6 (refine kst rfl rfl ?_)
  refine kcm_ge rfl (fun c9 => absurd c9 (by decide)) (fun _ => ?_)
  iterate 2 (refine kst rfl rfl ?_)
  refine kcm_ge rfl (fun c9 => absurd c9 (by decide)) (fun _ => ?_)
  iterate 6 (refine kst rfl rfl ?_)
  refine kcm_ne rfl (fun _ => ?_) (fun c9 => absurd c9 (by decide))
  iterate 2 (refine kst rfl rfl ?_)
  refine kca rfl rfl ?_
  refine kin (Nat.le_of_ble_eq_true rfl) ?_
  iterate 10 (refine kst rfl rfl ?_)
  refine kre rfl rfl ?_
  iterate 6 (refine kst rfl rfl ?_)
  refine kcm_ge rfl (fun c9 => absurd c9 (by decide)) (fun _ => ?_)
  iterate 2 (refine kst rfl rfl ?_)
  refine kcm_ge rfl (fun c9 => absurd c9 (by decide)) (fun _ => ?_)
  iterate 6 (refine kst rfl rfl ?_)
  refine kcm_ne rfl (fun c9 => absurd c9 (by decide)) (fun _ => ?_)
  refine kst rfl rfl ?_
  refine kgetP (b := 11) rfl rfl rfl rfl ?_
  iterate 2 (refine kst rfl rfl ?_)
  refine klast (j := 16) rfl rfl (by decide) (Nat.le_of_ble_eq_true rfl) (Nat.le_of_ble_eq_true rfl) ?_
  iterate 9 (refine kst rfl rfl ?_)
  refine kcm_ge rfl (fun c9 => absurd c9 (by decide)) (fun _ => ?_)
  iterate 2 (refine kst rfl rfl ?_)
  refine kcm_ge rfl (fun c9 => absurd c9 (by decide)) (fun _ => ?_)
  iterate 6 (refine kst rfl rfl ?_)
  refine kcm_ne rfl (fun _ => ?_) (fun c9 => absurd c9 (by decide))
  iterate 2 (refine kst rfl rfl ?_)
  refine kca rfl rfl ?_
  refine kin (Nat.le_of_ble_eq_true rfl) ?_
  iterate 10 (refine kst rfl rfl ?_)
  refine kre rfl rfl ?_
  iterate 6 (refine kst rfl rfl ?_)
  refine kcm_ge rfl (fun c9 => absurd c9 (by decide)) (fun _ => ?_)
  iterate 2 (refine kst rfl rfl ?_)
  refine kcm_ge rfl (fun c9 => absurd c9 (by decide)) (fun _ => ?_)
  iterate 6 (refine kst rfl rfl ?_)
  refine kcm_ne rfl (fun _ => ?_) (fun c9 => absurd c9 (by decide))
  iterate 2 (refine kst rfl rfl ?_)
  refine kca rfl rfl ?_
  refine kin (Nat.le_of_ble_eq_true rfl) ?_
  iterate 10 (refine kst rfl rfl ?_)
  refine kre rfl rfl ?_
  iterate 6 (refine kst rfl rfl ?_)
  refine kcm_ge rfl (fun c9 => absurd c9 (by decide)) (fun _ => ?_)
  iterate 2 (refine kst rfl rfl ?_)
  refine kcm_ge rfl (fun c9 => absurd c9 (by decide)) (fun _ => ?_)
  iterate 6 (refine kst rfl rfl ?_)
  refine kcm_ne rfl (fun _ => ?_) (fun c9 => absurd c9 (by decide))
  iterate 2 (refine kst rfl rfl ?_)
  refine kca rfl rfl ?_
  refine kin (Nat.le_of_ble_eq_true rfl) ?_
  iterate 10 (refine kst rfl rfl ?_)
  refine kre rfl rfl ?_
  iterate 6 (refine kst rfl rfl ?_)
  refine kcm_ge rfl (fun c9 => absurd c9 (by decide)) (fun _ => ?_)
  iterate 2 (refine kst rfl rfl ?_)
  refine kcm_ge rfl (fun c9 => absurd c9 (by decide)) (fun _ => ?_)
  iterate 6 (refine kst rfl rfl ?_)
  refine kcm_ne rfl (fun _ => ?_) (fun c9 => absurd c9 (by decide))
  iterate 2 (refine kst rfl rfl ?_)
  refine kca rfl rfl ?_
  refine kin (Nat.le_of_ble_eq_true rfl) ?_
  iterate 10 (refine kst rfl rfl ?_)
  refine kre rfl rfl ?_
  iterate 6 (refine kst rfl rfl ?_)
  refine kcm_ge rfl (fun c9 => absurd c9 (by decide)) (fun _ => ?_)
  iterate 2 (refine kst rfl rfl ?_)
  refine kcm_ge rfl (fun c9 => absurd c9 (by decide)) (fun _ => ?_)
  iterate 6 (refine kst rfl rfl ?_)
  refine kcm_ne rfl (fun _ => ?_) (fun c9 => absurd c9 (by decide))
  iterate 2 (refine kst rfl rfl ?_)
  refine kca rfl rfl ?_
  refine kin (Nat.le_of_ble_eq_true rfl) ?_
  iterate 10 (refine kst rfl rfl ?_)
  refine kre rfl rfl ?_
  iterate 6 (refine kst rfl rfl ?_)
  refine kcm_ge rfl (fun c9 => absurd c9 (by decide)) (fun _ => ?_)
  iterate 2 (refine kst rfl rfl ?_)
  refine kcm_ge rfl (fun c9 => absurd c9 (by decide)) (fun _ => ?_)
  iterate 6 (refine kst rfl rfl ?_)
  refine kcm_ne rfl (fun _ => ?_) (fun c9 => absurd c9 (by decide))
  iterate 2 (refine kst rfl rfl ?_)
  refine kca rfl rfl ?_
  refine kin (Nat.le_of_ble_eq_true rfl) ?_
  iterate 10 (refine kst rfl rfl ?_)
  refine kre rfl rfl ?_
  iterate 6 (refine kst rfl rfl ?_)
  refine kcm_ge rfl (fun c9 => absurd c9 (by decide)) (fun _ => ?_)
  iterate 2 (refine kst rfl rfl ?_)
  refine kcm_ge rfl (fun c9 => absurd c9 (by decide)) (fun _ => ?_)
  iterate 6 (refine kst rfl rfl ?_)
  refine kcm_ne rfl (fun c9 => absurd c9 (by decide)) (fun _ => ?_)
  refine kst rfl rfl ?_
  refine kgetP (b := 11) rfl rfl rfl rfl ?_
  iterate 2 (refine kst rfl rfl ?_)
  refine klast (j := 17) rfl rfl (by decide) (Nat.le_of_ble_eq_true rfl) (Nat.le_of_ble_eq_true rfl) ?_
  iterate 9 (refine kst rfl rfl ?_)
  refine kcm_ge rfl (fun c9 => absurd c9 (by decide)) (fun _ => ?_)
  iterate 2 (refine kst rfl rfl ?_)
  refine kcm_ge rfl (fun c9 => absurd c9 (by decide)) (fun _ => ?_)
  iterate 6 (refine kst rfl rfl ?_)
  refine kcm_ne rfl (fun _ => ?_) (fun c9 => absurd c9 (by decide))
  iterate 2 (refine kst rfl rfl ?_)
  refine kca rfl rfl ?_
  refine kin (Nat.le_of_ble_eq_true rfl) ?_
  iterate 10 (refine kst rfl rfl ?_)
  refine kre rfl rfl ?_
  iterate 6 (refine kst rfl rfl ?_)
  refine kcm_ge rfl (fun c9 => absurd c9 (by decide)) (fun _ => ?_)
  iterate 2 (refine kst rfl rfl ?_)
  refine kcm_ge rfl (fun c9 => absurd c9 (by decide)) (fun _ => ?_)
  iterate 6 (refine kst rfl rfl ?_)
  refine kcm_ne rfl (fun _ => ?_) (fun c9 => absurd c9 (by decide))
  iterate 2 (refine kst rfl rfl ?_)
  refine kca rfl rfl ?_
  refine kin (Nat.le_of_ble_eq_true rfl) ?_
  iterate 10 (refine kst rfl rfl ?_)
  refine kre rfl rfl ?_
  iterate 6 (refine kst rfl rfl ?_)
  refine kcm_ge rfl (fun c9 => absurd c9 (by decide)) (fun _ => ?_)
  iterate 2 (refine kst rfl rfl ?_)
  refine kcm_ge rfl (fun c9 => absurd c9 (by decide)) (fun _ => ?_)
  iterate 6 (refine kst rfl rfl ?_)
  refine kcm_ne rfl (fun _ => ?_) (fun c9 => absurd c9 (by decide))
  iterate 2 (refine kst rfl rfl ?_)
  refine kca rfl rfl ?_
  refine kin (Nat.le_of_ble_eq_true rfl) ?_
  iterate 10 (refine kst rfl rfl ?_)
  refine kre rfl rfl ?_
  iterate 6 (refine kst rfl rfl ?_)
  refine kcm_ge rfl (fun c9 => absurd c9 (by decide)) (fun _ => ?_)
  iterate 2 (refine kst rfl rfl ?_)
  refine kcm_ge rfl (fun c9 => absurd c9 (by decide)) (fun _ => ?_)
  iterate 6 (refine kst rfl rfl ?_)
  refine kcm_ne rfl (fun _ => ?_) (fun c9 => absurd c9 (by decide))
  iterate 2 (refine kst rfl rfl ?_)
  refine kca rfl rfl ?_
  refine kin (Nat.le_of_ble_eq_true rfl) ?_
  iterate 10 (refine kst rfl rfl ?_)
  refine kre rfl rfl ?_
  iterate 6 (refine kst rfl rfl ?_)
  refine kcm_ge rfl (fun c9 => absurd c9 (by decide)) (fun _ => ?_)
  iterate 2 (refine kst rfl rfl ?_)
  refine kcm_ge rfl (fun c9 => absurd c9 (by decide)) (fun _ => ?_)
  iterate 6 (refine kst rfl rfl ?_)
  refine kcm_ne rfl (fun _ => ?_) (fun c9 => absurd c9 (by decide))
  iterate 2 (refine kst rfl rfl ?_)
  refine kca rfl rfl ?_
  refine kin (Nat.le_of_ble_eq_true rfl) ?_
  iterate 10 (refine kst rfl rfl ?_)
  refine kre rfl rfl ?_
  iterate 6 (refine kst rfl rfl ?_)
  refine kcm_ge rfl (fun c9 => absurd c9 (by decide)) (fun _ => ?_)
  iterate 2 (refine kst rfl rfl ?_)
  refine kcm_ge rfl (fun c9 => absurd c9 (by decide)) (fun _ => ?_)
  iterate 6 (refine kst rfl rfl ?_)
  refine kcm_ne rfl (fun _ => ?_) (fun c9 => absurd c9 (by decide))
  iterate 2 (refine kst rfl rfl ?_)
  refine kca rfl rfl ?_
  refine kin (Nat.le_of_ble_eq_true rfl) ?_
  iterate 10 (refine kst rfl rfl ?_)
  refine kre rfl rfl ?_
  iterate 6 (refine kst rfl rfl ?_)
  refine kcm_ge rfl (fun c9 => absurd c9 (by decide)) (fun _ => ?_)
  iterate 2 (refine kst rfl rfl ?_)
  refine kcm_ge rfl (fun c9 => absurd c9 (by decide)) (fun _ => ?_)
  iterate 6 (refine kst rfl rfl ?_)
  refine kcm_ne rfl (fun _ => ?_) (fun c9 => absurd c9 (by decide))
  iterate 2 (refine kst rfl rfl ?_)
  refine kca rfl rfl ?_
  refine kin (Nat.le_of_ble_eq_true rfl) ?_
  iterate 10 (refine kst rfl rfl ?_)
  refine kre rfl rfl ?_
  iterate 6 (refine kst rfl rfl ?_)
  refine kcm_ge rfl (fun c9 => absurd c9 (by decide)) (fun _ => ?_)
  iterate 2 (refine kst rfl rfl ?_)
  refine kcm_ge rfl (fun c9 => absurd c9 (by decide)) (fun _ => ?_)
  iterate 6 (refine kst rfl rfl ?_)
  refine kcm_ne rfl (fun c9 => absurd c9 (by decide)) (fun _ => ?_)
  refine kst rfl rfl ?_
  refine kgetP (b := 11) rfl rfl rfl rfl ?_
  iterate 2 (refine kst rfl rfl ?_)
  refine klast (j := 18) rfl rfl (by decide) (Nat.le_of_ble_eq_true rfl) (Nat.le_of_ble_eq_true rfl) ?_
  iterate 9 (refine kst rfl rfl ?_)
  refine kcm_ge rfl (fun c9 => absurd c9 (by decide)) (fun _ => ?_)
  iterate 2 (refine kst rfl rfl ?_)
  refine kcm_ge rfl (fun c9 => absurd c9 (by decide)) (fun _ => ?_)
  iterate 6 (refine kst rfl rfl ?_)
  refine kcm_ne rfl (fun _ => ?_) (fun c9 => absurd c9 (by decide))
  iterate 2 (refine kst rfl rfl ?_)
  refine kca rfl rfl ?_
  refine kin (Nat.le_of_ble_eq_true rfl) ?_
  iterate 10 (refine kst rfl rfl ?_)
  refine kre rfl rfl ?_
  iterate 6 (refine kst rfl rfl ?_)
  refine kcm_ge rfl (fun c9 => absurd c9 (by decide)) (fun _ => ?_)
  iterate 2 (refine kst rfl rfl ?_)
  refine kcm_ge rfl (fun c9 => absurd c9 (by decide)) (fun _ => ?_)
  iterate 6 (refine kst rfl rfl ?_)
  refine kcm_ne rfl (fun _ => ?_) (fun c9 => absurd c9 (by decide))
  iterate 2 (refine kst rfl rfl ?_)
  refine kca rfl rfl ?_
  refine kin (Nat.le_of_ble_eq_true rfl) ?_
  iterate 10 (refine kst rfl rfl ?_)
  refine kre rfl rfl ?_
  iterate 6 (refine kst rfl rfl ?_)
  refine kcm_ge rfl (fun c9 => absurd c9 (by decide)) (fun _ => ?_)
  iterate 2 (refine kst rfl rfl ?_)
  refine kcm_ge rfl (fun c9 => absurd c9 (by decide)) (fun _ => ?_)
  iterate 6 (refine kst rfl rfl ?_)
  refine kcm_ne rfl (fun _ => ?_) (fun c9 => absurd c9 (by decide))
  iterate 2 (refine kst rfl rfl ?_)
  refine kca rfl rfl ?_
  refine kin (Nat.le_of_ble_eq_true rfl) ?_
  iterate 10 (refine kst rfl rfl ?_)
  refine kre rfl rfl ?_
  iterate 6 (refine kst rfl rfl ?_)
  refine kcm_ge rfl (fun c9 => absurd c9 (by decide)) (fun _ => ?_)
  iterate 2 (refine kst rfl rfl ?_)
  refine kcm_ge rfl (fun c9 => absurd c9 (by decide)) (fun _ => ?_)
  iterate 6 (refine kst rfl rfl ?_)
  refine kcm_ne rfl (fun _ => ?_) (fun c9 => absurd c9 (by decide))
  iterate 2 (refine kst rfl rfl ?_)
  refine kca rfl rfl ?_
  refine kin (Nat.le_of_ble_eq_true rfl) ?_
  iterate 10 (refine kst rfl rfl ?_)
  refine kre rfl rfl ?_
  iterate 6 (refine kst rfl rfl ?_)
  refine kcm_ge rfl (fun c9 => absurd c9 (by decide)) (fun _ => ?_)
  iterate 2 (refine kst rfl rfl ?_)
  refine kcm_ge rfl (fun c9 => absurd c9 (by decide)) (fun _ => ?_)
  iterate 6 (refine kst rfl rfl ?_)
  refine kcm_ne rfl (fun c9 => absurd c9 (by decide)) (fun _ => ?_)
  refine kst rfl rfl ?_
  refine kgetP (b := 11) rfl rfl rfl rfl ?_
  iterate 2 (refine kst rfl rfl ?_)
  refine klast (j := 19) rfl rfl (by decide) (Nat.le_of_ble_eq_true rfl) (Nat.le_of_ble_eq_true rfl) ?_
  iterate 9 (refine kst rfl rfl ?_)
  refine kcm_ge rfl (fun c9 => absurd c9 (by decide)) (fun _ => ?_)
  iterate 2 (refine kst rfl rfl ?_)
  refine kcm_ge rfl (fun c9 => absurd c9 (by decide)) (fun _ => ?_)
  iterate 6 (refine kst rfl rfl ?_)
  refine kcm_ne rfl (fun _ => ?_) (fun c9 => absurd c9 (by decide))
  iterate 2 (refine kst rfl rfl ?_)
  refine kca rfl rfl ?_
  refine kin (Nat.le_of_ble_eq_true rfl) ?_
  iterate 10 (refine kst rfl rfl ?_)
  refine kre rfl rfl ?_
  iterate 6 (refine kst rfl rfl ?_)
  refine kcm_ge rfl (fun c9 => absurd c9 (by decide)) (fun _ => ?_)
  iterate 2 (refine kst rfl rfl ?_)
  refine kcm_ge rfl (fun c9 => absurd c9 (by decide)) (fun _ => ?_)
  iterate 6 (refine kst rfl rfl ?_)
  refine kcm_ne rfl (fun _ => ?_) (fun c9 => absurd c9 (by decide))
  iterate 2 (refine kst rfl rfl ?_)
  refine kca rfl rfl ?_
  refine kin (Nat.le_of_ble_eq_true rfl) ?_
  iterate 10 (refine kst rfl rfl ?_)
  refine kre rfl rfl ?_
  iterate 6 (refine kst rfl rfl ?_)
  refine kcm_ge rfl (fun c9 => absurd c9 (by decide)) (fun _ => ?_)
  iterate 2 (refine kst rfl rfl ?_)
  refine kcm_ge rfl (fun c9 => absurd c9 (by decide)) (fun _ => ?_)
  iterate 6 (refine kst rfl rfl ?_)
  refine kcm_ne rfl (fun _ => ?_) (fun c9 => absurd c9 (by decide))
  iterate 2 (refine kst rfl rfl ?_)
  refine kca rfl rfl ?_
  refine kin (Nat.le_of_ble_eq_true rfl) ?_
  iterate 10 (refine kst rfl rfl ?_)
  refine kre rfl rfl ?_
  iterate 6 (refine kst rfl rfl ?_)
  refine kcm_ge rfl (fun c9 => absurd c9 (by decide)) (fun _ => ?_)
  iterate 2 (refine kst rfl rfl ?_)
  refine kcm_ge rfl (fun c9 => absurd c9 (by decide)) (fun _ => ?_)
  iterate 6 (refine kst rfl rfl ?_)
  refine kcm_ne rfl (fun _ => ?_) (fun c9 => absurd c9 (by decide))
  iterate 2 (refine kst rfl rfl ?_)
  refine kca rfl rfl ?_
  refine kin (Nat.le_of_ble_eq_true rfl) ?_
  iterate 10 (refine kst rfl rfl ?_)
  refine kre rfl rfl ?_
  iterate 6 (refine kst rfl rfl ?_)
  refine kcm_ge rfl (fun c9 => absurd c9 (by decide)) (fun _ => ?_)
  iterate 2 (refine kst rfl rfl ?_)
  refine kcm_ge rfl (fun c9 => absurd c9 (by decide)) (fun _ => ?_)
  iterate 6 (refine kst rfl rfl ?_)
  refine kcm_ne rfl (fun c9 => absurd c9 (by decide)) (fun _ => ?_)
  refine kst rfl rfl ?_
  refine kgetP (b := 11) rfl rfl rfl rfl ?_
  iterate 2 (refine kst rfl rfl ?_)
  refine klast (j := 20) rfl rfl (by decide) (Nat.le_of_ble_eq_true rfl) (Nat.le_of_ble_eq_true rfl) ?_
  iterate 9 (refine kst rfl rfl ?_)
  refine kcm_ge rfl (fun c9 => absurd c9 (by decide)) (fun _ => ?_)
  iterate 2 (refine kst rfl rfl ?_)
  refine kcm_ge rfl (fun c9 => absurd c9 (by decide)) (fun _ => ?_)
  iterate 6 (refine kst rfl rfl ?_)
  refine kcm_ne rfl (fun _ => ?_) (fun c9 => absurd c9 (by decide))
  iterate 2 (refine kst rfl rfl ?_)
  refine kca rfl rfl ?_
  refine kin (Nat.le_of_ble_eq_true rfl) ?_
  iterate 10 (refine kst rfl rfl ?_)
  refine kre rfl rfl ?_
  iterate 6 (refine kst rfl rfl ?_)
  refine kcm_ge rfl (fun c9 => absurd c9 (by decide)) (fun _ => ?_)
  iterate 2 (refine kst rfl rfl ?_)
  refine kcm_ge rfl (fun c9 => absurd c9 (by decide)) (fun _ => ?_)
  iterate 6 (refine kst rfl rfl ?_)
  refine kcm_ne rfl (fun _ => ?_) (fun c9 => absurd c9 (by decide))
  iterate 2 (refine kst rfl rfl ?_)
  refine kca rfl rfl ?_
  refine kin (Nat.le_of_ble_eq_true rfl) ?_
  iterate 10 (refine kst rfl rfl ?_)
  refine kre rfl rfl ?_
  iterate 6 (refine kst rfl rfl ?_)
  refine kcm_ge rfl (fun c9 => absurd c9 (by decide)) (fun _ => ?_)
  iterate 2 (refine kst rfl rfl ?_)
  refine kcm_ge rfl (fun c9 => absurd c9 (by decide)) (fun _ => ?_)
  iterate 6 (refine kst rfl rfl ?_)
  refine kcm_ne rfl (fun _ => ?_) (fun c9 => absurd c9 (by decide))
  iterate 2 (refine kst rfl rfl ?_)
  refine kca rfl rfl ?_
  refine kin (Nat.le_of_ble_eq_true rfl) ?_
  iterate 10 (refine kst rfl rfl ?_)
  refine kre rfl rfl ?_
  iterate 6 (refine kst rfl rfl ?_)
  refine kcm_ge rfl (fun c9 => absurd c9 (by decide)) (fun _ => ?_)
  iterate 2 (refine kst rfl rfl ?_)
  refine kcm_ge rfl (fun c9 => absurd c9 (by decide)) (fun _ => ?_)
  iterate 6 (refine kst rfl rfl ?_)
  refine kcm_ne rfl (fun c9 => absurd c9 (by decide)) (fun _ => ?_)
  refine kst rfl rfl ?_
  refine kgetP (b := 11) rfl rfl rfl rfl ?_
  iterate 2 (refine kst rfl rfl ?_)
  refine klast (j := 21) rfl rfl (by decide) (Nat.le_of_ble_eq_true rfl) (Nat.le_of_ble_eq_true rfl) ?_
  iterate 9 (refine kst rfl rfl ?_)
  refine kcm_ge rfl (fun c9 => absurd c9 (by decide)) (fun _ => ?_)
  iterate 2 (refine kst rfl rfl ?_)
  refine kcm_ge rfl (fun c9 => absurd c9 (by decide)) (fun _ => ?_)
  iterate 6 (refine kst rfl rfl ?_)
  refine kcm_ne rfl (fun _ => ?_) (fun c9 => absurd c9 (by decide))
  iterate 2 (refine kst rfl rfl ?_)
  refine kca rfl rfl ?_
  refine kin (Nat.le_of_ble_eq_true rfl) ?_
  iterate 10 (refine kst rfl rfl ?_)
  refine kre rfl rfl ?_
  iterate 6 (refine kst rfl rfl ?_)
  refine kcm_ge rfl (fun c9 => absurd c9 (by decide)) (fun _ => ?_)
  iterate 2 (refine kst rfl rfl ?_)
  refine kcm_ge rfl (fun c9 => absurd c9 (by decide)) (fun _ => ?_)
  iterate 6 (refine kst rfl rfl ?_)
  refine kcm_ne rfl (fun _ => ?_) (fun c9 => absurd c9 (by decide))
  iterate 2 (refine kst rfl rfl ?_)
  refine kca rfl rfl ?_
  refine kin (Nat.le_of_ble_eq_true rfl) ?_
  iterate 10 (refine kst rfl rfl ?_)
  refine kre rfl rfl ?_
  iterate 6 (refine kst rfl rfl ?_)
  refine kcm_ge rfl (fun c9 => absurd c9 (by decide)) (fun _ => ?_)
  iterate 2 (refine kst rfl rfl ?_)
  refine kcm_ge rfl (fun c9 => absurd c9 (by decide)) (fun _ => ?_)
  iterate 6 (refine kst rfl rfl ?_)
  refine kcm_ne rfl (fun _ => ?_) (fun c9 => absurd c9 (by decide))
  iterate 2 (refine kst rfl rfl ?_)
  refine kca rfl rfl ?_
  refine kin (Nat.le_of_ble_eq_true rfl) ?_
  iterate 10 (refine kst rfl rfl ?_)
  refine kre rfl rfl ?_
  iterate 6 (refine kst rfl rfl ?_)
  refine kcm_ge rfl (fun c9 => absurd c9 (by decide)) (fun _ => ?_)
  iterate 2 (refine kst rfl rfl ?_)
  refine kcm_ge rfl (fun c9 => absurd c9 (by decide)) (fun _ => ?_)
  iterate 6 (refine kst rfl rfl ?_)
  refine kcm_ne rfl (fun _ => ?_) (fun c9 => absurd c9 (by decide))
  iterate 2 (refine kst rfl rfl ?_)
  refine kca rfl rfl ?_
  refine kin (Nat.le_of_ble_eq_true rfl) ?_
  iterate 10 (refine kst rfl rfl ?_)
  refine kre rfl rfl ?_
  iterate 6 (refine kst rfl rfl ?_)
  refine kcm_ge rfl (fun c9 => absurd c9 (by decide)) (fun _ => ?_)
  iterate 2 (refine kst rfl rfl ?_)
  refine kcm_ge rfl (fun c9 => absurd c9 (by decide)) (fun _ => ?_)
  iterate 6 (refine kst rfl rfl ?_)
  refine kcm_ne rfl (fun c9 => absurd c9 (by decide)) (fun _ => ?_)
  refine kst rfl rfl ?_
  refine kgetP (b := 11) rfl rfl rfl rfl ?_
  iterate 2 (refine kst rfl rfl ?_)
  refine klast (j := 22) rfl rfl (by decide) (Nat.le_of_ble_eq_true rfl) (Nat.le_of_ble_eq_true rfl) ?_
  iterate 9 (refine kst rfl rfl ?_)
  refine kcm_ge rfl (fun _ => ?_) (fun c9 => absurd c9 (by decide))
  refine kre rfl rfl ?_
  refine kputP rfl rfl rfl ?_
  refine kst rfl rfl ?_
  refine knewO (n' := 16) (sl' := 3916) rfl (by decide) rfl rfl ?_
  iterate 2 (refine kst rfl rfl ?_)
  refine kgetP (b := 9) rfl rfl rfl rfl ?_
  refine kca rfl rfl ?_
  refine kin (Nat.le_of_ble_eq_true rfl) ?_
  iterate 3 (refine kst rfl rfl ?_)
  refine knewO (n' := 17) (sl' := 3933) rfl (by decide) rfl rfl ?_
  refine kst rfl rfl ?_
  refine kca rfl rfl ?_
  refine kin (Nat.le_of_ble_eq_true rfl) ?_
  iterate 4 (refine kst rfl rfl ?_)
  refine knewL (j := 12) (n' := 18) (sl' := 3945) rfl (by decide) (by decide) rfl rfl ?_
  refine kputP rfl rfl rfl ?_
  iterate 2 (refine kst rfl rfl ?_)
  refine knewA (j := 12) (n' := 19) (sl' := 3957) rfl (by decide) (by decide) (by decide) rfl rfl ?_
  refine kputP rfl rfl rfl ?_
  iterate 2 (refine kst rfl rfl ?_)
  refine knewA (j := 12) (n' := 20) (sl' := 3969) rfl (by decide) (by decide) (by decide) rfl rfl ?_
  refine kputP rfl rfl rfl ?_
  iterate 2 (refine kst rfl rfl ?_)
  refine knewA (j := 12) (n' := 21) (sl' := 3981) rfl (by decide) (by decide) (by decide) rfl rfl ?_
  refine kputP rfl rfl rfl ?_
  iterate 2 (refine kst rfl rfl ?_)
  refine knewA (j := 12) (n' := 22) (sl' := 3993) rfl (by decide) (by decide) (by decide) rfl rfl ?_
  refine kputP rfl rfl rfl ?_
  iterate 2 (refine kst rfl rfl ?_)
  refine knewA (j := 12) (n' := 23) (sl' := 4005) rfl (by decide) (by decide) (by decide) rfl rfl ?_
  refine kputP rfl rfl rfl ?_
  iterate 2 (refine kst rfl rfl ?_)
  refine knewA (j := 12) (n' := 24) (sl' := 4017) rfl (by decide) (by decide) (by decide) rfl rfl ?_
  refine kputP rfl rfl rfl ?_
  iterate 2 (refine kst rfl rfl ?_)
  refine knewA (j := 8) (n' := 25) (sl' := 4025) rfl (by decide) (by decide) (by decide) rfl rfl ?_
  refine kputP rfl rfl rfl ?_
  iterate 2 (refine kst rfl rfl ?_)
  refine knewA (j := 12) (n' := 26) (sl' := 4037) rfl (by decide) (by decide) (by decide) rfl rfl ?_
  refine kputP rfl rfl rfl ?_
  iterate 2 (refine kst rfl rfl ?_)
  refine knewA (j := 12) (n' := 27) (sl' := 4049) rfl (by decide) (by decide) (by decide) rfl rfl ?_
  refine kputP rfl rfl rfl ?_
  iterate 2 (refine kst rfl rfl ?_)
  refine knewA (j := 12) (n' := 28) (sl' := 4061) rfl (by decide) (by decide) (by decide) rfl rfl ?_
  refine kputP rfl rfl rfl ?_
  refine kst rfl rfl ?_
  refine knewO (n' := 29) (sl' := 4064) rfl (by decide) rfl rfl ?_
  refine kst rfl rfl ?_
  refine kca rfl rfl ?_
  refine kin (Nat.le_of_ble_eq_true rfl) ?_
  iterate 4 (refine kst rfl rfl ?_)
  refine knewA (j := 9) (n' := 30) (sl' := 4073) rfl (by decide) (by decide) (by decide) rfl rfl ?_
  refine kputP rfl rfl rfl ?_
  iterate 2 (refine kst rfl rfl ?_)
  refine knewA (j := 9) (n' := 31) (sl' := 4082) rfl (by decide) (by decide) (by decide) rfl rfl ?_
  refine kputP rfl rfl rfl ?_
  refine kre rfl rfl ?_
  refine kputP rfl rfl rfl ?_
  refine kre rfl rfl ?_
  refine kputP rfl rfl rfl ?_
  iterate 2 (refine kst rfl rfl ?_)
  refine kputP rfl rfl rfl ?_
  refine kre rfl rfl ?_
  refine kputP rfl rfl rfl ?_
  refine kst rfl rfl ?_
  refine knewO (n' := 32) (sl' := 4086) rfl (by decide) rfl rfl ?_
  iterate 2 (refine kst rfl rfl ?_)
  refine kgetP (b := 9) rfl rfl rfl rfl ?_
  refine kca rfl rfl ?_
  refine kin (Nat.le_of_ble_eq_true rfl) ?_
  iterate 3 (refine kst rfl rfl ?_)
  refine knewO (n' := 33) (sl' := 4096) rfl (by decide) rfl rfl ?_
  refine kst rfl rfl ?_
  refine kca rfl rfl ?_
  refine kin (Nat.le_of_ble_eq_true rfl) ?_
  iterate 4 (refine kst rfl rfl ?_)
  refine knewA (j := 30) (n' := 34) (sl' := 4126) rfl (by decide) (by decide) (by decide) rfl rfl ?_
  refine kputP rfl rfl rfl ?_
  iterate 2 (refine kst rfl rfl ?_)
  refine knewA (j := 30) (n' := 35) (sl' := 4156) rfl (by decide) (by decide) (by decide) rfl rfl ?_
  refine kputP rfl rfl rfl ?_
  iterate 2 (refine kst rfl rfl ?_)
  refine knewA (j := 30) (n' := 36) (sl' := 4186) rfl (by decide) (by decide) (by decide) rfl rfl ?_
  refine kputP rfl rfl rfl ?_
  iterate 2 (refine kst rfl rfl ?_)
  refine knewA (j := 30) (n' := 37) (sl' := 4216) rfl (by decide) (by decide) (by decide) rfl rfl ?_
  refine kputP rfl rfl rfl ?_
  iterate 2 (refine kst rfl rfl ?_)
  refine knewA (j := 3) (n' := 38) (sl' := 4219) rfl (by decide) (by decide) (by decide) rfl rfl ?_
  refine kputP rfl rfl rfl ?_
  iterate 2 (refine kst rfl rfl ?_)
  refine knewA (j := 3) (n' := 39) (sl' := 4222) rfl (by decide) (by decide) (by decide) rfl rfl ?_
  refine kputP rfl rfl rfl ?_
  refine kre rfl rfl ?_
  refine kputP rfl rfl rfl ?_
  iterate 2 (refine kst rfl rfl ?_)
  refine knewA (j := 3) (n' := 40) (sl' := 4225) rfl (by decide) (by decide) (by decide) rfl rfl ?_
  refine kputP rfl rfl rfl ?_
  iterate 2 (refine kst rfl rfl ?_)
  refine kputP rfl rfl rfl ?_
  refine kre rfl rfl ?_
  refine kputP rfl rfl rfl ?_
  iterate 2 (refine kst rfl rfl ?_)
  refine knewR (j := 4) (n' := 41) (sl' := 4229) rfl (by decide) (by decide) (by decide) rfl rfl ?_
  refine kputP rfl rfl rfl ?_
  iterate 2 (refine kst rfl rfl ?_)
  refine knewR (j := 4) (n' := 42) (sl' := 4233) rfl (by decide) (by decide) (by decide) rfl rfl ?_
  refine kputP rfl rfl rfl ?_
  iterate 2 (refine kst rfl rfl ?_)
  refine knewR (j := 4) (n' := 43) (sl' := 4237) rfl (by decide) (by decide) (by decide) rfl rfl ?_
  refine kputP rfl rfl rfl ?_
  iterate 4 (refine kst rfl rfl ?_)
  refine kcm_gt rfl (fun c9 => absurd c9 (by decide)) (fun _ => ?_)
  refine kst rfl rfl ?_
  refine kgetP (b := 40) rfl rfl rfl rfl ?_
  refine kst rfl rfl ?_
  refine knewO (n' := 44) (sl' := 4254) rfl (by decide) rfl rfl ?_
  refine kst rfl rfl ?_
  refine kca rfl rfl ?_
  refine kin (Nat.le_of_ble_eq_true rfl) ?_
  iterate 4 (refine kst rfl rfl ?_)
  refine knewL (j := 12) (n' := 45) (sl' := 4266) rfl (by decide) (by decide) rfl rfl ?_
  refine kputP rfl rfl rfl ?_
  iterate 2 (refine kst rfl rfl ?_)
  refine knewA (j := 12) (n' := 46) (sl' := 4278) rfl (by decide) (by decide) (by decide) rfl rfl ?_
  refine kputP rfl rfl rfl ?_
  iterate 2 (refine kst rfl rfl ?_)
  refine knewA (j := 12) (n' := 47) (sl' := 4290) rfl (by decide) (by decide) (by decide) rfl rfl ?_
  refine kputP rfl rfl rfl ?_
  iterate 2 (refine kst rfl rfl ?_)
  refine knewA (j := 12) (n' := 48) (sl' := 4302) rfl (by decide) (by decide) (by decide) rfl rfl ?_
  refine kputP rfl rfl rfl ?_
  iterate 2 (refine kst rfl rfl ?_)
  refine knewA (j := 12) (n' := 49) (sl' := 4314) rfl (by decide) (by decide) (by decide) rfl rfl ?_
  refine kputP rfl rfl rfl ?_
  iterate 2 (refine kst rfl rfl ?_)
  refine knewA (j := 12) (n' := 50) (sl' := 4326) rfl (by decide) (by decide) (by decide) rfl rfl ?_
  refine kputP rfl rfl rfl ?_
  iterate 2 (refine kst rfl rfl ?_)
  refine knewA (j := 12) (n' := 51) (sl' := 4338) rfl (by decide) (by decide) (by decide) rfl rfl ?_
  refine kputP rfl rfl rfl ?_
  iterate 2 (refine kst rfl rfl ?_)
  refine knewA (j := 8) (n' := 52) (sl' := 4346) rfl (by decide) (by decide) (by decide) rfl rfl ?_
  refine kputP rfl rfl rfl ?_
  iterate 2 (refine kst rfl rfl ?_)
  refine knewA (j := 12) (n' := 53) (sl' := 4358) rfl (by decide) (by decide) (by decide) rfl rfl ?_
  refine kputP rfl rfl rfl ?_
  iterate 2 (refine kst rfl rfl ?_)
  refine knewA (j := 12) (n' := 54) (sl' := 4370) rfl (by decide) (by decide) (by decide) rfl rfl ?_
  refine kputP rfl rfl rfl ?_
  iterate 2 (refine kst rfl rfl ?_)
  refine knewA (j := 12) (n' := 55) (sl' := 4382) rfl (by decide) (by decide) (by decide) rfl rfl ?_
  refine kputP rfl rfl rfl ?_
  refine kst rfl rfl ?_
  refine knewO (n' := 56) (sl' := 4385) rfl (by decide) rfl rfl ?_
  refine kst rfl rfl ?_
  refine kca rfl rfl ?_
  refine kin (Nat.le_of_ble_eq_true rfl) ?_
  iterate 4 (refine kst rfl rfl ?_)
  refine knewA (j := 9) (n' := 57) (sl' := 4394) rfl (by decide) (by decide) (by decide) rfl rfl ?_
  refine kputP rfl rfl rfl ?_
  iterate 2 (refine kst rfl rfl ?_)
  refine knewA (j := 9) (n' := 58) (sl' := 4403) rfl (by decide) (by decide) (by decide) rfl rfl ?_
  refine kputP rfl rfl rfl ?_
  refine kre rfl rfl ?_
  refine kputP rfl rfl rfl ?_
  refine kre rfl rfl ?_
  refine kaast (j := 0) (kd := 5) rfl rfl (by decide) rfl (by decide) (Nat.le_of_ble_eq_true rfl) (Nat.le_of_ble_eq_true rfl) ?_
  refine kst rfl rfl ?_
  refine kgetP (b := 41) rfl rfl rfl rfl ?_
  refine kst rfl rfl ?_
  refine knewO (n' := 59) (sl' := 4413) rfl (by decide) rfl rfl ?_
  refine kst rfl rfl ?_
  refine kca rfl rfl ?_
  refine kin (Nat.le_of_ble_eq_true rfl) ?_
  iterate 4 (refine kst rfl rfl ?_)
  refine knewA (j := 30) (n' := 60) (sl' := 4443) rfl (by decide) (by decide) (by decide) rfl rfl ?_
  refine kputP rfl rfl rfl ?_
  iterate 2 (refine kst rfl rfl ?_)
  refine knewA (j := 30) (n' := 61) (sl' := 4473) rfl (by decide) (by decide) (by decide) rfl rfl ?_
  refine kputP rfl rfl rfl ?_
  iterate 2 (refine kst rfl rfl ?_)
  refine knewA (j := 30) (n' := 62) (sl' := 4503) rfl (by decide) (by decide) (by decide) rfl rfl ?_
  refine kputP rfl rfl rfl ?_
  iterate 2 (refine kst rfl rfl ?_)
  refine knewA (j := 30) (n' := 63) (sl' := 4533) rfl (by decide) (by decide) (by decide) rfl rfl ?_
  refine kputP rfl rfl rfl ?_
  iterate 2 (refine kst rfl rfl ?_)
  refine knewA (j := 3) (n' := 64) (sl' := 4536) rfl (by decide) (by decide) (by decide) rfl rfl ?_
  refine kputP rfl rfl rfl ?_
  iterate 2 (refine kst rfl rfl ?_)
  refine knewA (j := 3) (n' := 65) (sl' := 4539) rfl (by decide) (by decide) (by decide) rfl rfl ?_
  refine kputP rfl rfl rfl ?_
  refine kre rfl rfl ?_
  refine kaast (j := 0) (kd := 6) rfl rfl (by decide) rfl (by decide) (Nat.le_of_ble_eq_true rfl) (Nat.le_of_ble_eq_true rfl) ?_
  refine kst rfl rfl ?_
  refine kgetP (b := 42) rfl rfl rfl rfl ?_
  refine kst rfl rfl ?_
  refine knewO (n' := 66) (sl' := 4551) rfl (by decide) rfl rfl ?_
  refine kst rfl rfl ?_
  refine kca rfl rfl ?_
  refine kin (Nat.le_of_ble_eq_true rfl) ?_
  iterate 4 (refine kst rfl rfl ?_)
  refine knewA (j := 12) (n' := 67) (sl' := 4563) rfl (by decide) (by decide) (by decide) rfl rfl ?_
  refine kputP rfl rfl rfl ?_
  refine kre rfl rfl ?_
  refine kaast (j := 0) (kd := 4) rfl rfl (by decide) rfl (by decide) (Nat.le_of_ble_eq_true rfl) (Nat.le_of_ble_eq_true rfl) ?_
  iterate 4 (refine kst rfl rfl ?_)
  refine kcm_gt rfl (fun c9 => absurd c9 (by decide)) (fun _ => ?_)
  refine kst rfl rfl ?_
  refine kgetP (b := 40) rfl rfl rfl rfl ?_
  refine kst rfl rfl ?_
  refine knewO (n' := 68) (sl' := 4580) rfl (by decide) rfl rfl ?_
  refine kst rfl rfl ?_
  refine kca rfl rfl ?_
  refine kin (Nat.le_of_ble_eq_true rfl) ?_
  iterate 4 (refine kst rfl rfl ?_)
  refine knewL (j := 12) (n' := 69) (sl' := 4592) rfl (by decide) (by decide) rfl rfl ?_
  refine kputP rfl rfl rfl ?_
  iterate 2 (refine kst rfl rfl ?_)
  refine knewA (j := 12) (n' := 70) (sl' := 4604) rfl (by decide) (by decide) (by decide) rfl rfl ?_
  refine kputP rfl rfl rfl ?_
  iterate 2 (refine kst rfl rfl ?_)
  refine knewA (j := 12) (n' := 71) (sl' := 4616) rfl (by decide) (by decide) (by decide) rfl rfl ?_
  refine kputP rfl rfl rfl ?_
  iterate 2 (refine kst rfl rfl ?_)
  refine knewA (j := 12) (n' := 72) (sl' := 4628) rfl (by decide) (by decide) (by decide) rfl rfl ?_
  refine kputP rfl rfl rfl ?_
  iterate 2 (refine kst rfl rfl ?_)
  refine knewA (j := 12) (n' := 73) (sl' := 4640) rfl (by decide) (by decide) (by decide) rfl rfl ?_
  refine kputP rfl rfl rfl ?_
  iterate 2 (refine kst rfl rfl ?_)
  refine knewA (j := 12) (n' := 74) (sl' := 4652) rfl (by decide) (by decide) (by decide) rfl rfl ?_
  refine kputP rfl rfl rfl ?_
  iterate 2 (refine kst rfl rfl ?_)
  refine knewA (j := 12) (n' := 75) (sl' := 4664) rfl (by decide) (by decide) (by decide) rfl rfl ?_
  refine kputP rfl rfl rfl ?_
  iterate 2 (refine kst rfl rfl ?_)
  refine knewA (j := 8) (n' := 76) (sl' := 4672) rfl (by decide) (by decide) (by decide) rfl rfl ?_
  refine kputP rfl rfl rfl ?_
  iterate 2 (refine kst rfl rfl ?_)
  refine knewA (j := 12) (n' := 77) (sl' := 4684) rfl (by decide) (by decide) (by decide) rfl rfl ?_
  refine kputP rfl rfl rfl ?_
  iterate 2 (refine kst rfl rfl ?_)
  refine knewA (j := 12) (n' := 78) (sl' := 4696) rfl (by decide) (by decide) (by decide) rfl rfl ?_
  refine kputP rfl rfl rfl ?_
  iterate 2 (refine kst rfl rfl ?_)
  refine knewA (j := 12) (n' := 79) (sl' := 4708) rfl (by decide) (by decide) (by decide) rfl rfl ?_
  refine kputP rfl rfl rfl ?_
  refine kst rfl rfl ?_
  refine knewO (n' := 80) (sl' := 4711) rfl (by decide) rfl rfl ?_
  refine kst rfl rfl ?_
  refine kca rfl rfl ?_
  refine kin (Nat.le_of_ble_eq_true rfl) ?_
  iterate 4 (refine kst rfl rfl ?_)
  refine knewA (j := 9) (n' := 81) (sl' := 4720) rfl (by decide) (by decide) (by decide) rfl rfl ?_
  refine kputP rfl rfl rfl ?_
  iterate 2 (refine kst rfl rfl ?_)
  refine knewA (j := 9) (n' := 82) (sl' := 4729) rfl (by decide) (by decide) (by decide) rfl rfl ?_
  refine kputP rfl rfl rfl ?_
  refine kre rfl rfl ?_
  refine kputP rfl rfl rfl ?_
  refine kre rfl rfl ?_
  refine kaast (j := 1) (kd := 5) rfl rfl (by decide) rfl (by decide) (Nat.le_of_ble_eq_true rfl) (Nat.le_of_ble_eq_true rfl) ?_
  refine kst rfl rfl ?_
  refine kgetP (b := 41) rfl rfl rfl rfl ?_
  refine kst rfl rfl ?_
  refine knewO (n' := 83) (sl' := 4739) rfl (by decide) rfl rfl ?_
  refine kst rfl rfl ?_
  refine kca rfl rfl ?_
  refine kin (Nat.le_of_ble_eq_true rfl) ?_
  iterate 4 (refine kst rfl rfl ?_)
  refine knewA (j := 30) (n' := 84) (sl' := 4769) rfl (by decide) (by decide) (by decide) rfl rfl ?_
  refine kputP rfl rfl rfl ?_
  iterate 2 (refine kst rfl rfl ?_)
  refine knewA (j := 30) (n' := 85) (sl' := 4799) rfl (by decide) (by decide) (by decide) rfl rfl ?_
  refine kputP rfl rfl rfl ?_
  iterate 2 (refine kst rfl rfl ?_)
  refine knewA (j := 30) (n' := 86) (sl' := 4829) rfl (by decide) (by decide) (by decide) rfl rfl ?_
  refine kputP rfl rfl rfl ?_
  iterate 2 (refine kst rfl rfl ?_)
  refine knewA (j := 30) (n' := 87) (sl' := 4859) rfl (by decide) (by decide) (by decide) rfl rfl ?_
  refine kputP rfl rfl rfl ?_
  iterate 2 (refine kst rfl rfl ?_)
  refine knewA (j := 3) (n' := 88) (sl' := 4862) rfl (by decide) (by decide) (by decide) rfl rfl ?_
  refine kputP rfl rfl rfl ?_
  iterate 2 (refine kst rfl rfl ?_)
  refine knewA (j := 3) (n' := 89) (sl' := 4865) rfl (by decide) (by decide) (by decide) rfl rfl ?_
  refine kputP rfl rfl rfl ?_
  refine kre rfl rfl ?_
  refine kaast (j := 1) (kd := 6) rfl rfl (by decide) rfl (by decide) (Nat.le_of_ble_eq_true rfl) (Nat.le_of_ble_eq_true rfl) ?_
  refine kst rfl rfl ?_
  refine kgetP (b := 42) rfl rfl rfl rfl ?_
  refine kst rfl rfl ?_
  refine knewO (n' := 90) (sl' := 4877) rfl (by decide) rfl rfl ?_
  refine kst rfl rfl ?_
  refine kca rfl rfl ?_
  refine kin (Nat.le_of_ble_eq_true rfl) ?_
  iterate 4 (refine kst rfl rfl ?_)
  refine knewA (j := 12) (n' := 91) (sl' := 4889) rfl (by decide) (by decide) (by decide) rfl rfl ?_
  refine kputP rfl rfl rfl ?_
  refine kre rfl rfl ?_
  refine kaast (j := 1) (kd := 4) rfl rfl (by decide) rfl (by decide) (Nat.le_of_ble_eq_true rfl) (Nat.le_of_ble_eq_true rfl) ?_
  iterate 4 (refine kst rfl rfl ?_)
  refine kcm_gt rfl (fun c9 => absurd c9 (by decide)) (fun _ => ?_)
  refine kst rfl rfl ?_
  refine kgetP (b := 40) rfl rfl rfl rfl ?_
  refine kst rfl rfl ?_
  refine knewO (n' := 92) (sl' := 4906) rfl (by decide) rfl rfl ?_
  refine kst rfl rfl ?_
  refine kca rfl rfl ?_
  refine kin (Nat.le_of_ble_eq_true rfl) ?_
  iterate 4 (refine kst rfl rfl ?_)
  refine knewL (j := 12) (n' := 93) (sl' := 4918) rfl (by decide) (by decide) rfl rfl ?_
  refine kputP rfl rfl rfl ?_
  iterate 2 (refine kst rfl rfl ?_)
  refine knewA (j := 12) (n' := 94) (sl' := 4930) rfl (by decide) (by decide) (by decide) rfl rfl ?_
  refine kputP rfl rfl rfl ?_
  iterate 2 (refine kst rfl rfl ?_)
  refine knewA (j := 12) (n' := 95) (sl' := 4942) rfl (by decide) (by decide) (by decide) rfl rfl ?_
  refine kputP rfl rfl rfl ?_
  iterate 2 (refine kst rfl rfl ?_)
  refine knewA (j := 12) (n' := 96) (sl' := 4954) rfl (by decide) (by decide) (by decide) rfl rfl ?_
  refine kputP rfl rfl rfl ?_
  iterate 2 (refine kst rfl rfl ?_)
  refine knewA (j := 12) (n' := 97) (sl' := 4966) rfl (by decide) (by decide) (by decide) rfl rfl ?_
  refine kputP rfl rfl rfl ?_
  iterate 2 (refine kst rfl rfl ?_)
  refine knewA (j := 12) (n' := 98) (sl' := 4978) rfl (by decide) (by decide) (by decide) rfl rfl ?_
  refine kputP rfl rfl rfl ?_
  iterate 2 (refine kst rfl rfl ?_)
  refine knewA (j := 12) (n' := 99) (sl' := 4990) rfl (by decide) (by decide) (by decide) rfl rfl ?_
  refine kputP rfl rfl rfl ?_
  iterate 2 (refine kst rfl rfl ?_)
  refine knewA (j := 8) (n' := 100) (sl' := 4998) rfl (by decide) (by decide) (by decide) rfl rfl ?_
  refine kputP rfl rfl rfl ?_
  iterate 2 (refine kst rfl rfl ?_)
  refine knewA (j := 12) (n' := 101) (sl' := 5010) rfl (by decide) (by decide) (by decide) rfl rfl ?_
  refine kputP rfl rfl rfl ?_
  iterate 2 (refine kst rfl rfl ?_)
  refine knewA (j := 12) (n' := 102) (sl' := 5022) rfl (by decide) (by decide) (by decide) rfl rfl ?_
  refine kputP rfl rfl rfl ?_
  iterate 2 (refine kst rfl rfl ?_)
  refine knewA (j := 12) (n' := 103) (sl' := 5034) rfl (by decide) (by decide) (by decide) rfl rfl ?_
  refine kputP rfl rfl rfl ?_
  refine kst rfl rfl ?_
  refine knewO (n' := 104) (sl' := 5037) rfl (by decide) rfl rfl ?_
  refine kst rfl rfl ?_
  refine kca rfl rfl ?_
  refine kin (Nat.le_of_ble_eq_true rfl) ?_
  iterate 4 (refine kst rfl rfl ?_)
  refine knewA (j := 9) (n' := 105) (sl' := 5046) rfl (by decide) (by decide) (by decide) rfl rfl ?_
  refine kputP rfl rfl rfl ?_
  iterate 2 (refine kst rfl rfl ?_)
  refine knewA (j := 9) (n' := 106) (sl' := 5055) rfl (by decide) (by decide) (by decide) rfl rfl ?_
  refine kputP rfl rfl rfl ?_
  refine kre rfl rfl ?_
  refine kputP rfl rfl rfl ?_
  refine kre rfl rfl ?_
  refine kaast (j := 2) (kd := 5) rfl rfl (by decide) rfl (by decide) (Nat.le_of_ble_eq_true rfl) (Nat.le_of_ble_eq_true rfl) ?_
  refine kst rfl rfl ?_
  refine kgetP (b := 41) rfl rfl rfl rfl ?_
  refine kst rfl rfl ?_
  refine knewO (n' := 107) (sl' := 5065) rfl (by decide) rfl rfl ?_
  refine kst rfl rfl ?_
  refine kca rfl rfl ?_
  refine kin (Nat.le_of_ble_eq_true rfl) ?_
  iterate 4 (refine kst rfl rfl ?_)
  refine knewA (j := 30) (n' := 108) (sl' := 5095) rfl (by decide) (by decide) (by decide) rfl rfl ?_
  refine kputP rfl rfl rfl ?_
  iterate 2 (refine kst rfl rfl ?_)
  refine knewA (j := 30) (n' := 109) (sl' := 5125) rfl (by decide) (by decide) (by decide) rfl rfl ?_
  refine kputP rfl rfl rfl ?_
  iterate 2 (refine kst rfl rfl ?_)
  refine knewA (j := 30) (n' := 110) (sl' := 5155) rfl (by decide) (by decide) (by decide) rfl rfl ?_
  refine kputP rfl rfl rfl ?_
  iterate 2 (refine kst rfl rfl ?_)
  refine knewA (j := 30) (n' := 111) (sl' := 5185) rfl (by decide) (by decide) (by decide) rfl rfl ?_
  refine kputP rfl rfl rfl ?_
  iterate 2 (refine kst rfl rfl ?_)
  refine knewA (j := 3) (n' := 112) (sl' := 5188) rfl (by decide) (by decide) (by decide) rfl rfl ?_
  refine kputP rfl rfl rfl ?_
  iterate 2 (refine kst rfl rfl ?_)
  refine knewA (j := 3) (n' := 113) (sl' := 5191) rfl (by decide) (by decide) (by decide) rfl rfl ?_
  refine kputP rfl rfl rfl ?_
  refine kre rfl rfl ?_
  refine kaast (j := 2) (kd := 6) rfl rfl (by decide) rfl (by decide) (Nat.le_of_ble_eq_true rfl) (Nat.le_of_ble_eq_true rfl) ?_
  refine kst rfl rfl ?_
  refine kgetP (b := 42) rfl rfl rfl rfl ?_
  refine kst rfl rfl ?_
  refine knewO (n' := 114) (sl' := 5203) rfl (by decide) rfl rfl ?_
  refine kst rfl rfl ?_
  refine kca rfl rfl ?_
  refine kin (Nat.le_of_ble_eq_true rfl) ?_
  iterate 4 (refine kst rfl rfl ?_)
  refine knewA (j := 12) (n' := 115) (sl' := 5215) rfl (by decide) (by decide) (by decide) rfl rfl ?_
  refine kputP rfl rfl rfl ?_
  refine kre rfl rfl ?_
  refine kaast (j := 2) (kd := 4) rfl rfl (by decide) rfl (by decide) (Nat.le_of_ble_eq_true rfl) (Nat.le_of_ble_eq_true rfl) ?_
  iterate 4 (refine kst rfl rfl ?_)
  refine kcm_gt rfl (fun c9 => absurd c9 (by decide)) (fun _ => ?_)
  refine kst rfl rfl ?_
  refine kgetP (b := 40) rfl rfl rfl rfl ?_
  refine kst rfl rfl ?_
  refine knewO (n' := 116) (sl' := 5232) rfl (by decide) rfl rfl ?_
  refine kst rfl rfl ?_
  refine kca rfl rfl ?_
  refine kin (Nat.le_of_ble_eq_true rfl) ?_
  iterate 4 (refine kst rfl rfl ?_)
  refine knewL (j := 12) (n' := 117) (sl' := 5244) rfl (by decide) (by decide) rfl rfl ?_
  refine kputP rfl rfl rfl ?_
  iterate 2 (refine kst rfl rfl ?_)
  refine knewA (j := 12) (n' := 118) (sl' := 5256) rfl (by decide) (by decide) (by decide) rfl rfl ?_
  refine kputP rfl rfl rfl ?_
  iterate 2 (refine kst rfl rfl ?_)
  refine knewA (j := 12) (n' := 119) (sl' := 5268) rfl (by decide) (by decide) (by decide) rfl rfl ?_
  refine kputP rfl rfl rfl ?_
  iterate 2 (refine kst rfl rfl ?_)
  refine knewA (j := 12) (n' := 120) (sl' := 5280) rfl (by decide) (by decide) (by decide) rfl rfl ?_
  refine kputP rfl rfl rfl ?_
  iterate 2 (refine kst rfl rfl ?_)
  refine knewA (j := 12) (n' := 121) (sl' := 5292) rfl (by decide) (by decide) (by decide) rfl rfl ?_
  refine kputP rfl rfl rfl ?_
  iterate 2 (refine kst rfl rfl ?_)
  refine knewA (j := 12) (n' := 122) (sl' := 5304) rfl (by decide) (by decide) (by decide) rfl rfl ?_
  refine kputP rfl rfl rfl ?_
  iterate 2 (refine kst rfl rfl ?_)
  refine knewA (j := 12) (n' := 123) (sl' := 5316) rfl (by decide) (by decide) (by decide) rfl rfl ?_
  refine kputP rfl rfl rfl ?_
  iterate 2 (refine kst rfl rfl ?_)
  refine knewA (j := 8) (n' := 124) (sl' := 5324) rfl (by decide) (by decide) (by decide) rfl rfl ?_
  refine kputP rfl rfl rfl ?_
  iterate 2 (refine kst rfl rfl ?_)
  refine knewA (j := 12) (n' := 125) (sl' := 5336) rfl (by decide) (by decide) (by decide) rfl rfl ?_
  refine kputP rfl rfl rfl ?_
  iterate 2 (refine kst rfl rfl ?_)
  refine knewA (j := 12) (n' := 126) (sl' := 5348) rfl (by decide) (by decide) (by decide) rfl rfl ?_
  refine kputP rfl rfl rfl ?_
  iterate 2 (refine kst rfl rfl ?_)
  refine knewA (j := 12) (n' := 127) (sl' := 5360) rfl (by decide) (by decide) (by decide) rfl rfl ?_
  refine kputP rfl rfl rfl ?_
  refine kst rfl rfl ?_
  refine knewO (n' := 128) (sl' := 5363) rfl (by decide) rfl rfl ?_
  refine kst rfl rfl ?_
  refine kca rfl rfl ?_
  refine kin (Nat.le_of_ble_eq_true rfl) ?_
  iterate 4 (refine kst rfl rfl ?_)
  refine knewA (j := 9) (n' := 129) (sl' := 5372) rfl (by decide) (by decide) (by decide) rfl rfl ?_
  refine kputP rfl rfl rfl ?_
  iterate 2 (refine kst rfl rfl ?_)
  refine knewA (j := 9) (n' := 130) (sl' := 5381) rfl (by decide) (by decide) (by decide) rfl rfl ?_
  refine kputP rfl rfl rfl ?_
  refine kre rfl rfl ?_
  refine kputP rfl rfl rfl ?_
  refine kre rfl rfl ?_
  refine kaast (j := 3) (kd := 5) rfl rfl (by decide) rfl (by decide) (Nat.le_of_ble_eq_true rfl) (Nat.le_of_ble_eq_true rfl) ?_
  refine kst rfl rfl ?_
  refine kgetP (b := 41) rfl rfl rfl rfl ?_
  refine kst rfl rfl ?_
  refine knewO (n' := 131) (sl' := 5391) rfl (by decide) rfl rfl ?_
  refine kst rfl rfl ?_
  refine kca rfl rfl ?_
  refine kin (Nat.le_of_ble_eq_true rfl) ?_
  iterate 4 (refine kst rfl rfl ?_)
  refine knewA (j := 30) (n' := 132) (sl' := 5421) rfl (by decide) (by decide) (by decide) rfl rfl ?_
  refine kputP rfl rfl rfl ?_
  iterate 2 (refine kst rfl rfl ?_)
  refine knewA (j := 30) (n' := 133) (sl' := 5451) rfl (by decide) (by decide) (by decide) rfl rfl ?_
  refine kputP rfl rfl rfl ?_
  iterate 2 (refine kst rfl rfl ?_)
  refine knewA (j := 30) (n' := 134) (sl' := 5481) rfl (by decide) (by decide) (by decide) rfl rfl ?_
  refine kputP rfl rfl rfl ?_
  iterate 2 (refine kst rfl rfl ?_)
  refine knewA (j := 30) (n' := 135) (sl' := 5511) rfl (by decide) (by decide) (by decide) rfl rfl ?_
  refine kputP rfl rfl rfl ?_
  iterate 2 (refine kst rfl rfl ?_)
  refine knewA (j := 3) (n' := 136) (sl' := 5514) rfl (by decide) (by decide) (by decide) rfl rfl ?_
  refine kputP rfl rfl rfl ?_
  iterate 2 (refine kst rfl rfl ?_)
  refine knewA (j := 3) (n' := 137) (sl' := 5517) rfl (by decide) (by decide) (by decide) rfl rfl ?_
  refine kputP rfl rfl rfl ?_
  refine kre rfl rfl ?_
  refine kaast (j := 3) (kd := 6) rfl rfl (by decide) rfl (by decide) (Nat.le_of_ble_eq_true rfl) (Nat.le_of_ble_eq_true rfl) ?_
  refine kst rfl rfl ?_
  refine kgetP (b := 42) rfl rfl rfl rfl ?_
  refine kst rfl rfl ?_
  refine knewO (n' := 138) (sl' := 5529) rfl (by decide) rfl rfl ?_
  refine kst rfl rfl ?_
  refine kca rfl rfl ?_
  refine kin (Nat.le_of_ble_eq_true rfl) ?_
  iterate 4 (refine kst rfl rfl ?_)
  refine knewA (j := 12) (n' := 139) (sl' := 5541) rfl (by decide) (by decide) (by decide) rfl rfl ?_
  refine kputP rfl rfl rfl ?_
  refine kre rfl rfl ?_
  refine kaast (j := 3) (kd := 4) rfl rfl (by decide) rfl (by decide) (Nat.le_of_ble_eq_true rfl) (Nat.le_of_ble_eq_true rfl) ?_
  iterate 4 (refine kst rfl rfl ?_)
  refine kcm_gt rfl (fun _ => ?_) (fun c9 => absurd c9 (by decide))
  iterate 2 (refine kst rfl rfl ?_)
  refine kputI rfl rfl rfl ?_
  refine kst rfl rfl ?_
  refine knewO (n' := 140) (sl' := 5559) rfl (by decide) rfl rfl ?_
  iterate 2 (refine kst rfl rfl ?_)
  refine kca rfl rfl ?_
  refine kin (Nat.le_of_ble_eq_true rfl) ?_
  iterate 3 (refine kst rfl rfl ?_)
  refine knewO (n' := 141) (sl' := 5562) rfl (by decide) rfl rfl ?_
  refine kst rfl rfl ?_
  refine kca rfl rfl ?_
  refine kin (Nat.le_of_ble_eq_true rfl) ?_
  iterate 4 (refine kst rfl rfl ?_)
  refine knewA (j := 9) (n' := 142) (sl' := 5571) rfl (by decide) (by decide) (by decide) rfl rfl ?_
  refine kputP rfl rfl rfl ?_
  iterate 2 (refine kst rfl rfl ?_)
  refine knewA (j := 9) (n' := 143) (sl' := 5580) rfl (by decide) (by decide) (by decide) rfl rfl ?_
  refine kputP rfl rfl rfl ?_
  refine kre rfl rfl ?_
  refine kputP rfl rfl rfl ?_
  iterate 2 (refine kst rfl rfl ?_)
  refine kputI rfl rfl rfl ?_
  iterate 2 (refine kst rfl rfl ?_)
  refine kputI rfl rfl rfl ?_
  iterate 2 (refine kst rfl rfl ?_)
  refine knewA (j := 0) (n' := 144) (sl' := 5580) rfl (by decide) (by decide) (by decide) rfl rfl ?_
  refine kputP rfl rfl rfl ?_
  iterate 2 (refine kst rfl rfl ?_)
  refine knewA (j := 0) (n' := 145) (sl' := 5580) rfl (by decide) (by decide) (by decide) rfl rfl ?_
  refine kputP rfl rfl rfl ?_
  iterate 2 (refine kst rfl rfl ?_)
  refine knewA (j := 0) (n' := 146) (sl' := 5580) rfl (by decide) (by decide) (by decide) rfl rfl ?_
  refine kputP rfl rfl rfl ?_
  iterate 2 (refine kst rfl rfl ?_)
  refine knewA (j := 0) (n' := 147) (sl' := 5580) rfl (by decide) (by decide) (by decide) rfl rfl ?_
  refine kputP rfl rfl rfl ?_
  iterate 2 (refine kst rfl rfl ?_)
  refine knewA (j := 0) (n' := 148) (sl' := 5580) rfl (by decide) (by decide) (by decide) rfl rfl ?_
  refine kputP rfl rfl rfl ?_
  iterate 2 (refine kst rfl rfl ?_)
  refine knewA (j := 60) (n' := 149) (sl' := 5640) rfl (by decide) (by decide) (by decide) rfl rfl ?_
  refine kputP rfl rfl rfl ?_
  iterate 2 (refine kst rfl rfl ?_)
  refine knewA (j := 60) (n' := 150) (sl' := 5700) rfl (by decide) (by decide) (by decide) rfl rfl ?_
  refine kputP rfl rfl rfl ?_
  iterate 2 (refine kst rfl rfl ?_)
  refine knewA (j := 60) (n' := 151) (sl' := 5760) rfl (by decide) (by decide) (by decide) rfl rfl ?_
  refine kputP rfl rfl rfl ?_
  iterate 2 (refine kst rfl rfl ?_)
  refine knewA (j := 0) (n' := 152) (sl' := 5760) rfl (by decide) (by decide) (by decide) rfl rfl ?_
  refine kputP rfl rfl rfl ?_
  iterate 2 (refine kst rfl rfl ?_)
  refine kputZ rfl rfl rfl (by decide) ?_
  refine kre rfl rfl ?_
  refine kputP rfl rfl rfl ?_
  refine kst rfl rfl ?_
  refine knewO (n' := 153) (sl' := 5778) rfl (by decide) rfl rfl ?_
  iterate 2 (refine kst rfl rfl ?_)
  refine kca rfl rfl ?_
  refine kin (Nat.le_of_ble_eq_true rfl) ?_
  iterate 3 (refine kst rfl rfl ?_)
  refine knewO (n' := 154) (sl' := 5781) rfl (by decide) rfl rfl ?_
  refine kst rfl rfl ?_
  refine kca rfl rfl ?_
  refine kin (Nat.le_of_ble_eq_true rfl) ?_
  iterate 4 (refine kst rfl rfl ?_)
  refine knewA (j := 9) (n' := 155) (sl' := 5790) rfl (by decide) (by decide) (by decide) rfl rfl ?_
  refine kputP rfl rfl rfl ?_
  iterate 2 (refine kst rfl rfl ?_)
  refine knewA (j := 9) (n' := 156) (sl' := 5799) rfl (by decide) (by decide) (by decide) rfl rfl ?_
  refine kputP rfl rfl rfl ?_
  refine kre rfl rfl ?_
  refine kputP rfl rfl rfl ?_
  iterate 2 (refine kst rfl rfl ?_)
  refine kputI rfl rfl rfl ?_
  iterate 2 (refine kst rfl rfl ?_)
  refine kputI rfl rfl rfl ?_
  iterate 2 (refine kst rfl rfl ?_)
  refine knewA (j := 0) (n' := 157) (sl' := 5799) rfl (by decide) (by decide) (by decide) rfl rfl ?_
  refine kputP rfl rfl rfl ?_
  iterate 2 (refine kst rfl rfl ?_)
  refine knewA (j := 0) (n' := 158) (sl' := 5799) rfl (by decide) (by decide) (by decide) rfl rfl ?_
  refine kputP rfl rfl rfl ?_
  iterate 2 (refine kst rfl rfl ?_)
  refine knewA (j := 0) (n' := 159) (sl' := 5799) rfl (by decide) (by decide) (by decide) rfl rfl ?_
  refine kputP rfl rfl rfl ?_
  iterate 2 (refine kst rfl rfl ?_)
  refine knewA (j := 0) (n' := 160) (sl' := 5799) rfl (by decide) (by decide) (by decide) rfl rfl ?_
  refine kputP rfl rfl rfl ?_
  iterate 2 (refine kst rfl rfl ?_)
  refine knewA (j := 0) (n' := 161) (sl' := 5799) rfl (by decide) (by decide) (by decide) rfl rfl ?_
  refine kputP rfl rfl rfl ?_
  iterate 2 (refine kst rfl rfl ?_)
  refine knewA (j := 60) (n' := 162) (sl' := 5859) rfl (by decide) (by decide) (by decide) rfl rfl ?_
  refine kputP rfl rfl rfl ?_
  iterate 2 (refine kst rfl rfl ?_)
  refine knewA (j := 60) (n' := 163) (sl' := 5919) rfl (by decide) (by decide) (by decide) rfl rfl ?_
  refine kputP rfl rfl rfl ?_
  iterate 2 (refine kst rfl rfl ?_)
  refine knewA (j := 60) (n' := 164) (sl' := 5979) rfl (by decide) (by decide) (by decide) rfl rfl ?_
  refine kputP rfl rfl rfl ?_
  iterate 2 (refine kst rfl rfl ?_)
  refine knewA (j := 0) (n' := 165) (sl' := 5979) rfl (by decide) (by decide) (by decide) rfl rfl ?_
  refine kputP rfl rfl rfl ?_
  iterate 2 (refine kst rfl rfl ?_)
  refine kputZ rfl rfl rfl (by decide) ?_
  refine kre rfl rfl ?_
  refine kputP rfl rfl rfl ?_
  refine kst rfl rfl ?_
  refine knewO (n' := 166) (sl' := 5997) rfl (by decide) rfl rfl ?_
  iterate 2 (refine kst rfl rfl ?_)
  refine kca rfl rfl ?_
  refine kin (Nat.le_of_ble_eq_true rfl) ?_
  iterate 3 (refine kst rfl rfl ?_)
  refine knewO (n' := 167) (sl' := 6000) rfl (by decide) rfl rfl ?_
  refine kst rfl rfl ?_
  refine kca rfl rfl ?_
  refine kin (Nat.le_of_ble_eq_true rfl) ?_
  iterate 4 (refine kst rfl rfl ?_)
  refine knewA (j := 9) (n' := 168) (sl' := 6009) rfl (by decide) (by decide) (by decide) rfl rfl ?_
  refine kputP rfl rfl rfl ?_
  iterate 2 (refine kst rfl rfl ?_)
  refine knewA (j := 9) (n' := 169) (sl' := 6018) rfl (by decide) (by decide) (by decide) rfl rfl ?_
  refine kputP rfl rfl rfl ?_
  refine kre rfl rfl ?_
  refine kputP rfl rfl rfl ?_
  iterate 2 (refine kst rfl rfl ?_)
  refine kputI rfl rfl rfl ?_
  iterate 2 (refine kst rfl rfl ?_)
  refine kputI rfl rfl rfl ?_
  iterate 2 (refine kst rfl rfl ?_)
  refine knewA (j := 0) (n' := 170) (sl' := 6018) rfl (by decide) (by decide) (by decide) rfl rfl ?_
  refine kputP rfl rfl rfl ?_
  iterate 2 (refine kst rfl rfl ?_)
  refine knewA (j := 0) (n' := 171) (sl' := 6018) rfl (by decide) (by decide) (by decide) rfl rfl ?_
  refine kputP rfl rfl rfl ?_
  iterate 2 (refine kst rfl rfl ?_)
  refine knewA (j := 0) (n' := 172) (sl' := 6018) rfl (by decide) (by decide) (by decide) rfl rfl ?_
  refine kputP rfl rfl rfl ?_
  iterate 2 (refine kst rfl rfl ?_)
  refine knewA (j := 0) (n' := 173) (sl' := 6018) rfl (by decide) (by decide) (by decide) rfl rfl ?_
  refine kputP rfl rfl rfl ?_
  iterate 2 (refine kst rfl rfl ?_)
  refine knewA (j := 0) (n' := 174) (sl' := 6018) rfl (by decide) (by decide) (by decide) rfl rfl ?_
  refine kputP rfl rfl rfl ?_
  iterate 2 (refine kst rfl rfl ?_)
  refine knewA (j := 60) (n' := 175) (sl' := 6078) rfl (by decide) (by decide) (by decide) rfl rfl ?_
  refine kputP rfl rfl rfl ?_
  iterate 2 (refine kst rfl rfl ?_)
  refine knewA (j := 60) (n' := 176) (sl' := 6138) rfl (by decide) (by decide) (by decide) rfl rfl ?_
  refine kputP rfl rfl rfl ?_
  iterate 2 (refine kst rfl rfl ?_)
  refine knewA (j := 60) (n' := 177) (sl' := 6198) rfl (by decide) (by decide) (by decide) rfl rfl ?_
  refine kputP rfl rfl rfl ?_
  iterate 2 (refine kst rfl rfl ?_)
  refine knewA (j := 0) (n' := 178) (sl' := 6198) rfl (by decide) (by decide) (by decide) rfl rfl ?_
  refine kputP rfl rfl rfl ?_
  iterate 2 (refine kst rfl rfl ?_)
  refine kputZ rfl rfl rfl (by decide) ?_
  refine kre rfl rfl ?_
  refine kputP rfl rfl rfl ?_
  refine kst rfl rfl ?_
  refine knewO (n' := 179) (sl' := 6212) rfl (by decide) rfl rfl ?_
  iterate 2 (refine kst rfl rfl ?_)
  refine kca rfl rfl ?_
  refine kin (Nat.le_of_ble_eq_true rfl) ?_
  iterate 4 (refine kst rfl rfl ?_)
  refine kputI rfl rfl rfl ?_
  iterate 2 (refine kst rfl rfl ?_)
  refine kputI rfl rfl rfl ?_
  iterate 2 (refine kst rfl rfl ?_)
  refine knewA (j := 0) (n' := 180) (sl' := 6212) rfl (by decide) (by decide) (by decide) rfl rfl ?_
  refine kputP rfl rfl rfl ?_
  iterate 2 (refine kst rfl rfl ?_)
  refine knewA (j := 0) (n' := 181) (sl' := 6212) rfl (by decide) (by decide) (by decide) rfl rfl ?_
  refine kputP rfl rfl rfl ?_
  iterate 2 (refine kst rfl rfl ?_)
  refine knewA (j := 0) (n' := 182) (sl' := 6212) rfl (by decide) (by decide) (by decide) rfl rfl ?_
  refine kputP rfl rfl rfl ?_
  iterate 2 (refine kst rfl rfl ?_)
  refine knewA (j := 64) (n' := 183) (sl' := 6276) rfl (by decide) (by decide) (by decide) rfl rfl ?_
  refine kputP rfl rfl rfl ?_
  iterate 2 (refine kst rfl rfl ?_)
  refine knewA (j := 64) (n' := 184) (sl' := 6340) rfl (by decide) (by decide) (by decide) rfl rfl ?_
  refine kputP rfl rfl rfl ?_
  iterate 2 (refine kst rfl rfl ?_)
  refine kputZ rfl rfl rfl (by decide) ?_
  refine kre rfl rfl ?_
  refine kputP rfl rfl rfl ?_
  refine kst rfl rfl ?_
  refine knewO (n' := 185) (sl' := 6354) rfl (by decide) rfl rfl ?_
  iterate 2 (refine kst rfl rfl ?_)
  refine kca rfl rfl ?_
  refine kin (Nat.le_of_ble_eq_true rfl) ?_
  iterate 4 (refine kst rfl rfl ?_)
  refine kputI rfl rfl rfl ?_
  iterate 2 (refine kst rfl rfl ?_)
  refine kputI rfl rfl rfl ?_
  iterate 2 (refine kst rfl rfl ?_)
  refine knewA (j := 0) (n' := 186) (sl' := 6354) rfl (by decide) (by decide) (by decide) rfl rfl ?_
  refine kputP rfl rfl rfl ?_
  iterate 2 (refine kst rfl rfl ?_)
  refine knewA (j := 0) (n' := 187) (sl' := 6354) rfl (by decide) (by decide) (by decide) rfl rfl ?_
  refine kputP rfl rfl rfl ?_
  iterate 2 (refine kst rfl rfl ?_)
  refine knewA (j := 0) (n' := 188) (sl' := 6354) rfl (by decide) (by decide) (by decide) rfl rfl ?_
  refine kputP rfl rfl rfl ?_
  iterate 2 (refine kst rfl rfl ?_)
  refine knewA (j := 64) (n' := 189) (sl' := 6418) rfl (by decide) (by decide) (by decide) rfl rfl ?_
  refine kputP rfl rfl rfl ?_
  iterate 2 (refine kst rfl rfl ?_)
  refine knewA (j := 64) (n' := 190) (sl' := 6482) rfl (by decide) (by decide) (by decide) rfl rfl ?_
  refine kputP rfl rfl rfl ?_
  iterate 2 (refine kst rfl rfl ?_)
  refine kputZ rfl rfl rfl (by decide) ?_
  refine kre rfl rfl ?_
  refine kputP rfl rfl rfl ?_
  refine kst rfl rfl ?_
  refine knewO (n' := 191) (sl' := 6489) rfl (by decide) rfl rfl ?_
  refine kst rfl rfl ?_
  refine kca rfl rfl ?_
  refine kin (Nat.le_of_ble_eq_true rfl) ?_
  iterate 4 (refine kst rfl rfl ?_)
  refine knewA (j := 0) (n' := 192) (sl' := 6489) rfl (by decide) (by decide) (by decide) rfl rfl ?_
  refine kputP rfl rfl rfl ?_
  iterate 2 (refine kst rfl rfl ?_)
  refine knewA (j := 0) (n' := 193) (sl' := 6489) rfl (by decide) (by decide) (by decide) rfl rfl ?_
  refine kputP rfl rfl rfl ?_
  refine kre rfl rfl ?_
  refine kputP rfl rfl rfl ?_
  refine kst rfl rfl ?_
  refine knewO (n' := 194) (sl' := 6501) rfl (by decide) rfl rfl ?_
  refine kst rfl rfl ?_
  refine kca rfl rfl ?_
  refine kin (Nat.le_of_ble_eq_true rfl) ?_
  iterate 4 (refine kst rfl rfl ?_)
  refine knewA (j := 12) (n' := 195) (sl' := 6513) rfl (by decide) (by decide) (by decide) rfl rfl ?_
  refine kputP rfl rfl rfl ?_
  refine kre rfl rfl ?_
  refine kputP rfl rfl rfl ?_
  refine kst rfl rfl ?_
  refine knewO (n' := 196) (sl' := 6525) rfl (by decide) rfl rfl ?_
  refine kst rfl rfl ?_
  refine kca rfl rfl ?_
  refine kin (Nat.le_of_ble_eq_true rfl) ?_
  iterate 4 (refine kst rfl rfl ?_)
  refine knewA (j := 12) (n' := 197) (sl' := 6537) rfl (by decide) (by decide) (by decide) rfl rfl ?_
  refine kputP rfl rfl rfl ?_
  refine kre rfl rfl ?_
  refine kputP rfl rfl rfl ?_
  iterate 2 (refine kst rfl rfl ?_)
  refine kputZ rfl rfl rfl (by decide) ?_
  refine kre rfl rfl ?_
  exact ⟨_, _, _, _, _, rfl, rfl⟩
