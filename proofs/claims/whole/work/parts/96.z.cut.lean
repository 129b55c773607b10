/-! 96z: numbers are cut alike -/
def cutF (s : Nat) (v : Int64) : Int64 := if s = 0 then v.toInt32.toInt8.toInt32.toInt64 else if s = 1 then v.toInt32.toInt16.toInt32.toInt64 else if s = 2 then v.toInt32.toInt64 else v
theorem sh_bit (x : BitVec 64) {d j : Nat} (hd : 0 < d) (hd2 : d < 64) (hj : j < 64) : ((x <<< d).sshiftRight d).getLsbD j = if d + j < 64 then x.getLsbD j else x.getLsbD (63 - d) := by
  rw [BitVec.getLsbD_sshiftRight, BitVec.msb_eq_getLsbD_last, BitVec.getLsbD_shiftLeft, BitVec.getLsbD_shiftLeft]
  rw [decide_eq_false (show ¬ 64 ≤ j by omega), decide_eq_true (show 64 - 1 < 64 by omega), decide_eq_false (show ¬ 64 - 1 < d by omega)]
  by_cases h : d + j < 64
  · rw [if_pos h, if_pos h, decide_eq_true h, decide_eq_false (show ¬ d + j < d by omega), show d + j - d = j by omega]
    rfl
  · rw [if_neg h, if_neg h, show 64 - 1 - d = 63 - d by omega]
    rfl
theorem sx_lo {w v : Nat} (x : BitVec w) {j : Nat} (h : j < v) (hw : j < w) : (x.signExtend v).getLsbD j = x.getLsbD j := by
  rw [BitVec.getLsbD_signExtend, decide_eq_true h, if_pos hw]
  rfl
theorem sx_hi {w v : Nat} (x : BitVec w) {j : Nat} (h : j < v) (hw : w ≤ j) : (x.signExtend v).getLsbD j = x.getLsbD (w - 1) := by
  rw [BitVec.getLsbD_signExtend, decide_eq_true h, if_neg (Nat.not_lt.mpr hw), BitVec.msb_eq_getLsbD_last]
  rfl
theorem cut8 (x : BitVec 64) : (x <<< 56).sshiftRight 56 = (((x.signExtend 32).signExtend 8).signExtend 32).signExtend 64 := by
  apply BitVec.eq_of_getLsbD_eq
  intro j hj
  rw [sh_bit x (by decide) (by decide) hj]
  have b7 : (((x.signExtend 32).signExtend 8).signExtend 32).getLsbD 31 = x.getLsbD 7 := by rw [sx_hi _ (by decide) (by decide), sx_lo _ (by decide) (by decide), sx_lo _ (by decide) (by decide)]
  by_cases h : j < 8
  · rw [if_pos (by omega), sx_lo _ hj (by omega), sx_lo _ (by omega) h, sx_lo _ h (by omega), sx_lo _ (by omega) hj]
  · rw [if_neg (by omega)]
    by_cases h2 : j < 32
    · rw [sx_lo _ hj h2, sx_hi _ h2 (by omega), sx_lo _ (by decide) (by decide), sx_lo _ (by decide) (by decide)]
    · rw [sx_hi _ hj (by omega)]
      exact b7.symm
theorem cut16 (x : BitVec 64) : (x <<< 48).sshiftRight 48 = (((x.signExtend 32).signExtend 16).signExtend 32).signExtend 64 := by
  apply BitVec.eq_of_getLsbD_eq
  intro j hj
  rw [sh_bit x (by decide) (by decide) hj]
  have b7 : (((x.signExtend 32).signExtend 16).signExtend 32).getLsbD 31 = x.getLsbD 15 := by rw [sx_hi _ (by decide) (by decide), sx_lo _ (by decide) (by decide), sx_lo _ (by decide) (by decide)]
  by_cases h : j < 16
  · rw [if_pos (by omega), sx_lo _ hj (by omega), sx_lo _ (by omega) h, sx_lo _ h (by omega), sx_lo _ (by omega) hj]
  · rw [if_neg (by omega)]
    by_cases h2 : j < 32
    · rw [sx_lo _ hj h2, sx_hi _ h2 (by omega), sx_lo _ (by decide) (by decide), sx_lo _ (by decide) (by decide)]
    · rw [sx_hi _ hj (by omega)]
      exact b7.symm
theorem cut32 (x : BitVec 64) : (x <<< 32).sshiftRight 32 = (x.signExtend 32).signExtend 64 := by
  apply BitVec.eq_of_getLsbD_eq
  intro j hj
  rw [sh_bit x (by decide) (by decide) hj]
  by_cases h : j < 32
  · rw [if_pos (by omega), sx_lo _ hj h, sx_lo _ h hj]
  · rw [if_neg (by omega), sx_hi _ hj (by omega), sx_lo _ (by decide) (by decide)]
theorem sh_bv (x D : Int64) {d : Nat} (hD : (D.toBitVec.smod 64).toNat = d) : ((x <<< D) >>> D).toBitVec = (x.toBitVec <<< d).sshiftRight d := by
  show (x.toBitVec <<< (D.toBitVec.smod 64).toNat).sshiftRight (D.toBitVec.smod 64).toNat = _
  rw [hD]
theorem cut_eq {s : Nat} (hs : s < 4) (v : Int64) : x_lshr (x_lshl v (64 - x_ishl 8 (nI s))) (64 - x_ishl 8 (nI s)) = cutF s v := by
  unfold cutF
  have e : s = 0 ∨ s = 1 ∨ s = 2 ∨ s = 3 := by omega
  rcases e with rfl | rfl | rfl | rfl
  · rw [if_pos rfl, show (64 - x_ishl 8 (nI 0) : Int32) = 56 by decide]
    unfold x_lshr x_lshl
    apply Int64.toBitVec_inj.mp
    rw [sh_bv v _ (d := 56) (by decide), cut8]
    rfl
  · rw [if_neg (by decide), if_pos rfl, show (64 - x_ishl 8 (nI 1) : Int32) = 48 by decide]
    unfold x_lshr x_lshl
    apply Int64.toBitVec_inj.mp
    rw [sh_bv v _ (d := 48) (by decide), cut16]
    rfl
  · rw [if_neg (by decide), if_neg (by decide), if_pos rfl, show (64 - x_ishl 8 (nI 2) : Int32) = 32 by decide]
    unfold x_lshr x_lshl
    apply Int64.toBitVec_inj.mp
    rw [sh_bv v _ (d := 32) (by decide), cut32]
    rfl
  · rw [if_neg (by decide), if_neg (by decide), if_neg (by decide), show (64 - x_ishl 8 (nI 3) : Int32) = 0 by decide]
    unfold x_lshr x_lshl
    apply Int64.toBitVec_inj.mp
    rw [sh_bv v _ (d := 0) (by decide), BitVec.shiftLeft_zero, BitVec.sshiftRight_zero]
