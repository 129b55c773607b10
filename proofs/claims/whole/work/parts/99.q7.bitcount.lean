/-! 99.q7: Long.bitCount counts bits -/
theorem ctb (x n : Nat) : fb_ct (fun k => x.testBit k) (8 + n) = fb_ct (fun k => (x % 256).testBit k) 8 + fb_ct (fun k => (x / 256).testBit k) n := by
  have a : fb_ct (fun k => (x % 256).testBit k) 8 = fb_ct (fun k => x.testBit k) 8 := fb_ct_cong (fun k hk => by
    show (x % 2 ^ 8).testBit k = x.testBit k
    rw [Nat.testBit_mod_two_pow, decide_eq_true hk, Bool.true_and])
  have b : fb_ct (fun k => (x / 256).testBit k) n = fb_ct (fun k => x.testBit (8 + k)) n := fb_ct_cong (fun k hk => by
    show (x / 2 ^ 8).testBit k = x.testBit (8 + k)
    rw [Nat.testBit_div_two_pow, Nat.add_comm])
  rw [a, b]
  exact fb_ct_split (fun k => x.testBit k) 8 n
theorem ct64 {x : Nat} (hx : x < 2 ^ 41) : fb_ct (fun k => x.testBit k) 64 = fb_ct (fun k => x.testBit k) 41 := by
  have s := fb_ct_split (fun k => x.testBit k) 41 23
  have z : fb_ct (fun k => x.testBit (41 + k)) 23 = 0 := fb_ct_zero.mpr (fun k _ => Nat.testBit_lt_two_pow (Nat.lt_of_lt_of_le hx (Nat.pow_le_pow_right (by decide) (Nat.le_add_right 41 k))))
  rw [z, Nat.add_zero] at s
  exact s
theorem by_q (j x : Nat) : bys (j + 1) x = fb_ct (fun k => (x % 256).testBit k) 8 + 256 * bys j (x / 256) := rfl
theorem p_bitCountL {x : Nat} {K : Int32 → Wd → Prop} {w : Wd} (hx : x < 2 ^ 41) (h : K (nI (fb_ct (fun k => x.testBit k) 41)) w) : w_J13_bitCount_95d88 (lN x) K w := by
  obtain ⟨y, y1, y2, hy, h1, h2, e⟩ := lbc_y hx
  rw [l_bys 8 x (Nat.lt_trans hx (by decide))] at hy
  have e8 : ∀ a : Nat, fb_ct (fun k => a.testBit k) 8 ≤ 8 := fun a => fb_ct_le _ 8
  obtain ⟨x1, g1⟩ : ∃ x1, x1 = x / 256 := ⟨_, rfl⟩
  obtain ⟨x2, g2⟩ : ∃ x2, x2 = x1 / 256 := ⟨_, rfl⟩
  obtain ⟨x3, g3⟩ : ∃ x3, x3 = x2 / 256 := ⟨_, rfl⟩
  obtain ⟨x4, g4⟩ : ∃ x4, x4 = x3 / 256 := ⟨_, rfl⟩
  obtain ⟨x5, g5⟩ : ∃ x5, x5 = x4 / 256 := ⟨_, rfl⟩
  obtain ⟨x6, g6⟩ : ∃ x6, x6 = x5 / 256 := ⟨_, rfl⟩
  obtain ⟨x7, g7⟩ : ∃ x7, x7 = x6 / 256 := ⟨_, rfl⟩
  have q0 := by_q 7 x
  have q1 := by_q 6 x1
  have q2 := by_q 5 x2
  have q3 := by_q 4 x3
  have q4 := by_q 3 x4
  have q5 := by_q 2 x5
  have q6 := by_q 1 x6
  have q7 := by_q 0 x7
  rw [← g1] at q0
  rw [← g2] at q1
  rw [← g3] at q2
  rw [← g4] at q3
  rw [← g5] at q4
  rw [← g6] at q5
  rw [← g7, q7, show bys 0 (x7 / 256) = 0 from rfl, Nat.mul_zero, Nat.add_zero] at q6
  rw [q0] at hy
  have s := by_sum (e8 _) (e8 _) (e8 _) (e8 _) (e8 _) (e8 _) (e8 _) (e8 _) q1 q2 q3 q4 q5 q6 y y1 y2 hy h1 h2
  have t0 := ctb x 56
  have t1 := ctb x1 48
  have t2 := ctb x2 40
  have t3 := ctb x3 32
  have t4 := ctb x4 24
  have t5 := ctb x5 16
  have t6 := ctb x6 8
  have t7 : fb_ct (fun k => x7.testBit k) 8 = fb_ct (fun k => (x7 % 256).testBit k) 8 := ctb x7 0
  rw [← g1] at t0
  rw [← g2] at t1
  rw [← g3] at t2
  rw [← g4] at t3
  rw [← g5] at t4
  rw [← g6] at t5
  rw [← g7] at t6
  have tot : fb_ct (fun k => x.testBit k) 64 = _ := t0
  rw [show (56 : Nat) = 8 + 48 from rfl, t1, show (48 : Nat) = 8 + 40 from rfl, t2, show (40 : Nat) = 8 + 32 from rfl, t3, show (32 : Nat) = 8 + 24 from rfl, t4, show (24 : Nat) = 8 + 16 from rfl, t5, show (16 : Nat) = 8 + 8 from rfl, t6, t7] at tot
  show K (lbc (lN x)) w
  rw [e, s]
  rw [ct64 hx] at tot
  rw [tot] at h
  simp only [Nat.add_assoc] at h ⊢
  exact h
