/-! 99.q6: Long.bitCount -/
def lbc (a : Int64) : Int32 :=
  let t1 := a - ((x_lushr a 1) &&& 6148914691236517205)
  let t2 := (t1 &&& 3689348814741910323) + ((x_lushr t1 2) &&& 3689348814741910323)
  let t3 := (t2 + (x_lushr t2 4)) &&& 1085102592571150095
  let t4 := t3 + (x_lushr t3 8)
  let t5 := t4 + (x_lushr t4 16)
  (t5 + (x_lushr t5 32)).toInt32 &&& 127
theorem lN_32 (n : Nat) : (lN n).toInt32 = nI n := by
  apply Int32.toBitVec_inj.mp
  show (BitVec.ofNat 64 n).signExtend 32 = BitVec.ofNat 32 n
  apply BitVec.eq_of_getLsbD_eq
  intro i hi
  rw [sx_lo _ hi (by omega), BitVec.getLsbD_ofNat, BitVec.getLsbD_ofNat, decide_eq_true hi, decide_eq_true (show i < 64 by omega)]
theorem lu {n : Nat} (k : Nat) (hn : n < 2 ^ 64) (hk : k < 64) : x_lushr (lN n) (nI k) = lN (n / 2 ^ k) := wb_shr hn hk
theorem lbc_y {x : Nat} (hx : x < 2 ^ 41) : ∃ y y1 y2, y = l3 8 (l2 8 (l1 8 x)) ∧ y1 = y + y / 256 ∧ y2 = y1 + y1 / 65536 ∧ lbc (lN x) = nI ((y2 + y2 / 65536 / 65536) % 128) := by
  have TW : 64 * 2 ^ 41 ≤ 2 ^ 64 := by decide
  obtain ⟨T, hT⟩ : ∃ T : Nat, T = 2 ^ 41 := ⟨_, rfl⟩
  rw [← hT] at hx TW
  have k1 : (6148914691236517205 : Int64) = lN (rep 85 8) := by rw [show rep 85 8 = 6148914691236517205 from by decide]; rfl
  have k2 : (3689348814741910323 : Int64) = lN (rep 51 8) := by rw [show rep 51 8 = 3689348814741910323 from by decide]; rfl
  have k3 : (1085102592571150095 : Int64) = lN (rep 15 8) := by rw [show rep 15 8 = 1085102592571150095 from by decide]; rfl
  have m1 : rep 85 8 < 2 ^ 64 := by decide
  have m2 : rep 51 8 < 2 ^ 64 := by decide
  have m3 : rep 15 8 < 2 ^ 64 := by decide
  have lt : ∀ n, n < 64 * T → n < 2 ^ 64 := fun n h => Nat.lt_of_lt_of_le h TW
  have x2 := Nat.div_le_self x 2
  have s1 : lN x - ((x_lushr (lN x) 1) &&& 6148914691236517205) = lN (l1 8 x) := by
    rw [show x_lushr (lN x) 1 = lN (x / 2) from lu 1 (lt x (by omega)) (by decide), k1, wb_and (lt _ (by omega)) m1, lN_sub (Nat.le_trans Nat.and_le_left x2)]
    rfl
  obtain ⟨p, hp⟩ : ∃ p, p = l1 8 x := ⟨_, rfl⟩
  have bp : p ≤ x := by rw [hp]; exact Nat.sub_le _ _
  have p4 := Nat.div_le_self p 4
  have s2 : (lN p &&& 3689348814741910323) + ((x_lushr (lN p) 2) &&& 3689348814741910323) = lN (l2 8 p) := by
    rw [show x_lushr (lN p) 2 = lN (p / 4) from lu 2 (lt p (by omega)) (by decide), k2, wb_and (lt _ (by omega)) m2, wb_and (lt _ (by omega)) m2, lN_add]
    rfl
  obtain ⟨q, hq⟩ : ∃ q, q = l2 8 p := ⟨_, rfl⟩
  have bq : q ≤ 2 * p := by
    have a := Nat.and_le_left (n := p) (m := rep 51 8)
    have b := Nat.and_le_left (n := p / 4) (m := rep 51 8)
    rw [hq]
    unfold l2
    omega
  have q16 := Nat.div_le_self q 16
  have s3 : (lN q + (x_lushr (lN q) 4)) &&& 1085102592571150095 = lN (l3 8 q) := by
    rw [show x_lushr (lN q) 4 = lN (q / 16) from lu 4 (lt q (by omega)) (by decide), lN_add, k3, wb_and (lt _ (by omega)) m3]
    rfl
  obtain ⟨y, hy⟩ : ∃ y, y = l3 8 q := ⟨_, rfl⟩
  have bY : y ≤ 2 * q := by
    have a := Nat.and_le_left (n := q + q / 16) (m := rep 15 8)
    rw [hy]
    unfold l3
    omega
  have y8 := Nat.div_le_self y 256
  obtain ⟨y1, h1⟩ : ∃ y1, y1 = y + y / 256 := ⟨_, rfl⟩
  have y16 := Nat.div_le_self y1 65536
  obtain ⟨y2, h2⟩ : ∃ y2, y2 = y1 + y1 / 65536 := ⟨_, rfl⟩
  have s4 : lN y + x_lushr (lN y) 8 = lN y1 := by
    rw [show x_lushr (lN y) 8 = lN (y / 256) from lu 8 (lt y (by omega)) (by decide), lN_add, h1]
  have s5 : lN y1 + x_lushr (lN y1) 16 = lN y2 := by
    rw [show x_lushr (lN y1) 16 = lN (y1 / 65536) from lu 16 (lt y1 (by omega)) (by decide), lN_add, h2]
  have s6 : lN y2 + x_lushr (lN y2) 32 = lN (y2 + y2 / 65536 / 65536) := by
    rw [show x_lushr (lN y2) 32 = lN (y2 / 2 ^ 32) from lu 32 (lt y2 (by omega)) (by decide), lN_add, Nat.div_div_eq_div_mul]
  refine ⟨y, y1, y2, by rw [hy, hq, hp], h1, h2, ?_⟩
  show (((((lN x - ((x_lushr (lN x) 1) &&& 6148914691236517205)) &&& 3689348814741910323) + _) + _ &&& 1085102592571150095) + _ + _ + _).toInt32 &&& 127 = _
  rw [s1, ← hp, s2, ← hq, s3, ← hy, s4, s5, s6, lN_32]
  exact fa_mask _ 7
