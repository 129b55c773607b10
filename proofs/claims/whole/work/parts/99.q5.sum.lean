/-! 99.q5: the sum of the bytes; Long.bitCount counts the bits -/
theorem sA {c0 c1 c2 r1 r2 r3 : Nat} (q1 : r1 = c1 + 256 * r2) (q2 : r2 = c2 + 256 * r3) : (c0 + 256 * r1) + r1 = (c0 + c1 + 256 * (c1 + c2)) + 65536 * (r2 + r3) := by omega
theorem sB {c2 c3 c4 r2 r3 r4 r5 : Nat} (q2 : r2 = c2 + 256 * r3) (q3 : r3 = c3 + 256 * r4) (q4 : r4 = c4 + 256 * r5) : r2 + r3 = (c2 + c3 + 256 * (c3 + c4)) + 65536 * (r4 + r5) := by omega
theorem sDv {l X : Nat} (h : l < 65536) : (l + 65536 * X) / 65536 = X := by omega
theorem sDw {la lb A B C : Nat} (h : la + lb < 65536) (e : A = lb + 65536 * B) : (la + 65536 * A + A) / 65536 = A + B := by
  have z : la + 65536 * A + A = (la + lb) + 65536 * (A + B) := by omega
  rw [z, sDv h]
theorem sDx {lb lc A B C : Nat} (h : lb + lc < 65536) (e : A = lb + 65536 * B) (e2 : B = lc + 65536 * C) : (A + B) / 65536 = B + C := by
  have z : A + B = (lb + lc) + 65536 * (B + C) := by omega
  rw [z, sDv h]
theorem sDm {la lb lc ld A B C D S : Nat} (h : la + lb + lc + ld = 256 * D + S) (hs : S < 128) (a : A = lb + 65536 * B) (b : B = lc + 65536 * C) (c : C = ld) : (la + 65536 * A + A + (B + C)) % 128 = S := by
  have z : la + 65536 * A + A + (B + C) = S + 128 * (2 * D + 512 * (A + B + C)) := by omega
  rw [z]
  omega
theorem by_sum {c0 c1 c2 c3 c4 c5 c6 c7 r1 r2 r3 r4 r5 r6 : Nat} (h0 : c0 ≤ 8) (h1 : c1 ≤ 8) (h2 : c2 ≤ 8) (h3 : c3 ≤ 8) (h4 : c4 ≤ 8) (h5 : c5 ≤ 8) (h6 : c6 ≤ 8) (h7 : c7 ≤ 8) (q1 : r1 = c1 + 256 * r2) (q2 : r2 = c2 + 256 * r3) (q3 : r3 = c3 + 256 * r4) (q4 : r4 = c4 + 256 * r5) (q5 : r5 = c5 + 256 * r6) (q6 : r6 = c6 + 256 * c7) : ∀ y y1 y2 : Nat, y = c0 + 256 * r1 → y1 = y + y / 256 → y2 = y1 + y1 / 65536 → (y2 + y2 / 65536 / 65536) % 128 = c0 + c1 + c2 + c3 + c4 + c5 + c6 + c7 := by
  intro y y1 y2 hy e1 e2
  have d1 : y / 256 = r1 := by rw [hy]; clear q1 q2 q3 q4 q5 q6 e1 e2 hy; omega
  have a1 := sA (c0 := c0) q1 q2
  have a2 := sB q2 q3 q4
  have a3 := sB q4 q5 q6
  clear q1 q2 q3 q4 q5
  obtain ⟨A, hA⟩ : ∃ A, A = r2 + r3 := ⟨_, rfl⟩
  obtain ⟨Bq, hB⟩ : ∃ Bq, Bq = r4 + r5 := ⟨_, rfl⟩
  obtain ⟨C, hC⟩ : ∃ C, C = r6 + c7 := ⟨_, rfl⟩
  rw [← hA] at a1 a2
  rw [← hB] at a2 a3
  rw [← hC] at a3
  rw [d1, hy, a1] at e1
  have lo : c0 + c1 + 256 * (c1 + c2) < 65536 := by clear q6 hA hB hC a1 a2 a3 e1 e2 hy d1; omega
  rw [e1, sDv lo] at e2
  have f2 : y2 / 65536 = A + Bq := by
    rw [e2]
    exact sDw (C := 0) (by clear q6 hA hB hC a1 a2 a3 e1 e2 hy d1; omega) a2
  have f3 : y2 / 65536 / 65536 = Bq + C := by
    rw [f2]
    exact sDx (by clear q6 hA hB hC a1 a2 a3 e1 e2 hy d1 f2; omega) a2 a3
  rw [f3, e2]
  have hC2 : C = c6 + c7 + 256 * c7 := by rw [hC, q6]; clear q6 hA hB hC a1 a2 a3 e1 e2 hy d1 f2 f3; omega
  exact sDm (D := c1 + c2 + c3 + c4 + c5 + c6 + c7) (by clear q6 hA hB hC a1 a2 a3 e1 e2 hy d1 f2 f3 hC2; omega) (by clear q6 hA hB hC a1 a2 a3 e1 e2 hy d1 f2 f3 hC2; omega) a2 a3 hC2
