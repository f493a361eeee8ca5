section BYT
variable {w : Int32}
theorem b255 : ∀ d, d < 32 → bt 255 d = decide (d < 8) := by decide +kernel
theorem bt_i8 (x : Int32) {d : Nat} (hd : d < 8) : bt (x.toInt8.toInt32) d = bt x d := by
  unfold bt
  rw [Int8.toBitVec_toInt32, Int32.toBitVec_toInt8, BitVec.getLsbD_signExtend, BitVec.getLsbD_signExtend, if_pos hd, if_pos (by omega)]
  simp [hd]
  omega
theorem sft_sm : ∀ i, i < 4 → ((sft i &&& 31).toBitVec.smod 32).toNat = 24 - 8 * i := by decide +kernel
theorem sft_um : ∀ i, i < 4 → (((sft i).toUInt32 &&& Int32.toUInt32 31).toBitVec % 32).toNat = 24 - 8 * i := by decide +kernel
theorem bt_ishr {i d : Nat} (hi : i < 4) (hd : d < 8) : bt (ishr w (sft i)) d = bt w (24 - 8 * i + d) := by
  show (w >>> (sft i &&& 31)).toBitVec.getLsbD d = _
  rw [Int32.toBitVec_shiftRight, BitVec.sshiftRight', sft_sm i hi, BitVec.getLsbD_sshiftRight, if_pos (by omega), decide_eq_false (by omega)]
  rfl
theorem bt_iushr {i d : Nat} (hi : i < 4) (hd : d < 8) : bt (iushr w (sft i)) d = bt w (24 - 8 * i + d) := by
  show (w.toUInt32 >>> ((sft i).toUInt32 &&& Int32.toUInt32 31)).toBitVec.getLsbD d = _
  rw [UInt32.toBitVec_shiftRight, BitVec.ushiftRight_eq', sft_um i hi, BitVec.getLsbD_ushiftRight]
  rfl
theorem byte_eq {i : Nat} (hi : i < 4) : (((ishr w (sft i))).toInt8.toInt32).toInt8.toInt32 &&& 255 = (iushr w (sft i)) &&& 255 := by
  refine bt_ext (fun d hd => ?_)
  rw [bt_and, bt_and, b255 d hd]
  by_cases h8 : d < 8
  · rw [bt_i8 _ h8, bt_i8 _ h8, bt_ishr hi h8, bt_iushr hi h8]
  · rw [decide_eq_false h8, Bool.and_false, Bool.and_false]
end BYT
