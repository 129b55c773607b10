/-! 99.t4: the pure statement -/
section PU
variable {z z' : Wd}
theorem FIN_cx (c : cx (fun _ => False) z z') (L : FIN z) : st3 z' (wN z') Rz ∧ F00 z' ∧ (∀ j, j < 3 → wR z' 65 j = 125 + 35 * j ∧ PZ z' (125 + 35 * j) 73) ∧ (∀ j, j < 4 → wR z' 66 j = 230 + 2 * j ∧ TZ z' (230 + 2 * j)) ∧ (RrS z' ∧ wI z' 238 0 = 0 ∧ wI z' 238 1 = 0 ∧ wI z' 238 2 = -1) ∧ (isK z' 241 0 ∧ wR z' 241 0 = 85) ∧ PlS z' := by
  obtain ⟨a1, a2, a3, a4, a5, a6, a7⟩ := L
  have q65 := cx_at c a1.2.2.2.1.1 id
  have q66 := cx_at c a1.2.2.2.2.1.1 id
  have q238 := cx_at c a5.1.1 id
  have q241 := cx_at c a6.1 id
  have q242 := cx_at c a7.1 id
  refine ⟨st_cx c a1 rfl, F0_cx c (fun _ y => y.elim) a2, fun j hj => ⟨by rw [q65.2.2]; exact (a3 j hj).1, PZ_cx c (fun _ _ => id) (a3 j hj).2⟩, fun j hj => ⟨by rw [q66.2.2]; exact (a4 j hj).1, TZ_cx c (fun _ _ => id) (a4 j hj).2⟩, ⟨RrS_cx c q238.2.2 a5.1, by rw [q238.1]; exact a5.2⟩, ⟨cx_isK c a6.1, by rw [q241.2.2]; exact a6.2⟩, ⟨cx_isK c a7.1, by rw [q242.2.2]; exact a7.2.1, by rw [q242.2.2]; exact a7.2.2.1, arK_cx c q242.2.2 a7.2.2.2.1, arK_cx c q242.2.2 a7.2.2.2.2⟩⟩
theorem RZ0_cx (c : cx (fun _ => False) z z') (L : RZ0 z) : RZ0 z' := by
  obtain ⟨a1, a2, a3, a4, a5, a6, a7, a8⟩ := L
  obtain ⟨h0, h1, h2, h3, h4, h5, h6, h7, h8, h9, h10, h11, h12, h13, h14⟩ := a1
  have q245 := cx_at c h0 id
  refine ⟨okM_cx c q245.2.2 ⟨h0, h1, h2, h3, h4, h5, h6, h7, h8, h9, h10, h11, h12, h13, h14⟩, by rw [q245.1]; exact a2, fun k => by rw [(cx_at c h1.2.1 id).1]; exact a3 k, fun k => by rw [(cx_at c h12.2.1 id).1]; exact a4 k, fun k => by rw [(cx_at c h13.2.1 id).1]; exact a5 k, fun k hk => by rw [(cx_at c h8.2.1 id).1]; exact a6 k hk, fun k => by rw [(cx_at c h9.2.1 id).1]; exact a7 k, fun k => by rw [(cx_at c h10.2.1 id).2.1]; exact a8 k⟩
theorem ZL_LX {r : Nat} (F : F00 z) (hr : 82 ≤ r) (L : ZL z r 73) : LX z r 73 g00 := by
  obtain ⟨-, -, ⟨D, W, e4⟩, -⟩ := F
  refine ⟨⟨⟨⟨L.1, L.2.1.1, DR_HR D W⟩, ⟨L.2.2.1.1, L.2.2.1.2⟩, ⟨L.2.1.2.1, L.2.2.2.1⟩, ⟨L.2.1.2.2, L.2.2.2.2⟩⟩, fun t y y2 => ?_⟩, Or.inl rfl, Or.inl e4, D.2.2.2.2.1.2.1, D.2.2.2.2.2.2.1.2.1⟩
  unfold hT at y
  rw [e4] at y
  unfold landT at y2
  omega
theorem PZ_PG {p : Nat} (F : F00 z) (hp : 82 ≤ p) (L : PZ z p 73) : PG z p 73 0 g00 := ⟨L.1, ZL_LX F (by omega) L.2.2.1, L.2.1.2.1, ⟨L.2.1.2.2, by decide⟩, fun s hs => ⟨73, g00, ZL_LX F (by omega) (L.2.2.2 s hs), fun i hi => absurd hi (Nat.not_lt_zero i)⟩⟩
theorem INV_0 (A : st3 z (wN z) Rz ∧ F00 z ∧ (∀ j, j < 3 → wR z 65 j = 125 + 35 * j ∧ PZ z (125 + 35 * j) 73) ∧ (∀ j, j < 4 → wR z 66 j = 230 + 2 * j ∧ TZ z (230 + 2 * j)) ∧ (RrS z ∧ wI z 238 0 = 0 ∧ wI z 238 1 = 0 ∧ wI z 238 2 = -1) ∧ (isK z 241 0 ∧ wR z 241 0 = 85) ∧ PlS z) (R : RZ0 z) (k260 : isK z 260 21) (n260 : wn z 260 = 1) : INV z 1000 := by
  obtain ⟨a1, a2, a3, a4, a5, a6, a7⟩ := A
  obtain ⟨b1, b2, b3, b4, b5, b6, b7, b8⟩ := R
  have W : WF g00 1000 := GI_WF GI_0 (by decide) (by decide) (by decide)
  have X : ∀ f, wR z 64 f = Rz f := fun f => congrFun a1.2.2.1 f
  have LA82 := ZL_LX a2 (by decide) a2.2.2.2.1
  refine ⟨⟨⟨a1.2.1, (X 0).trans rfl, (X 1).trans rfl, (X 2).trans rfl, (X 3).trans rfl, (X 4).trans rfl, (X 5).trans rfl, (X 6).trans rfl, (X 7).trans rfl, (X 8).trans rfl, (X 9).trans rfl⟩, ⟨⟨a1.2.2.2.1.1, a1.2.2.2.1.2, fun i hi => (a3 i hi).1⟩, a1.2.2.2.2.1.1, a1.2.2.2.2.1.2, fun i hi => (a4 i hi).1⟩, a2.1, a2.2.1, LA_LdS LA82.1, a2.2.2.2.2.1, fun i hi => ⟨(a4 i hi).2.1, by have q := (a4 i hi).2.2.1; rw [show 230 + 2 * i + 1 = 231 + 2 * i by omega] at q; exact q⟩, a5.1, ⟨a6.1, a6.2, a1.2.2.2.2.2⟩, a7, b1, k260, n260⟩, ⟨g00, W, ⟨73, 0, PZ_PG a2 (by decide) a2.2.2.2.2.2⟩, b1, fun k _ => b3 k⟩, fun i hi => ⟨g00, 73, 0, false, W, PZ_PG a2 (by omega) (a3 i hi).2, fun k _ => b4 _, (a3 i hi).2.2.1.1, b5 i⟩, fun i hi => ⟨false, 0, 0, fun _ => 0, by decide, by decide, ⟨(a4 i hi).2.2.2.1.1, (a4 i hi).2.2.2.1.2.1, (a4 i hi).2.2.2.1.2.2, fun k _ => ?_⟩, b6 i hi, b7 i, fun k _ => b8 _⟩, ⟨0, fun _ => 0, by decide, a5.2.1, b2.1, fun k hk => absurd hk (Nat.not_lt_zero k)⟩, ?_, ?_⟩
  · have q := (a4 i hi).2.2.2.2 k
    rw [show 230 + 2 * i + 1 = 231 + 2 * i by omega] at q
    exact q
  · rw [a5.2.2.1, b2.2.1]
  · rw [a5.2.2.2, b2.2.2]
theorem law_pure (n : Nat) (sc : Nat → Int32) (hn : n ≤ 3072) : w_L_law n sc 601024 7293034 (fun r _ => r = 1) w00 := by
  refine ⟨⟨by decide, by decide⟩, fun r2 w3 e1 e2 => ⟨200, 5000, ⟨by decide, by decide⟩, ?_⟩⟩
  have e1' : r2 = 64 := e1
  subst e1'; subst e2
  have n3 : wN (wA w00 11 0) = 65 := rfl
  refine q_i11 n3 (wA_is0 (w := w00) (by decide)) (wA_R0 (w := w00)) rfl (fun z6 F => ⟨⟨by decide, by decide⟩, fun r11 w12 e1 e2 => ⟨⟨by decide, by decide⟩, ?_⟩⟩)
  have n6 : wN z6 = 245 := F.1.1
  have e1' : r11 = 245 := e1.trans n6
  subst e1'; subst e2
  refine q_i12 n6 (fun z7 c7 n7 R7 => ⟨⟨by decide, by decide⟩, fun r18 w19 e1 e2 => ?_⟩)
  have e1' : r18 = 260 := e1.trans n7
  subst e1'; subst e2
  have c8 : cx (fun _ => False) z7 (wA z7 21 1) := cx_wA z7 21 1
  have k260 : isK (wA z7 21 1) 260 21 := by
    have q := wA_is0 (w := z7) (kd := 21) (ln := 1) (by rw [n7]; decide)
    rw [n7] at q
    exact q
  have n260 : wn (wA z7 21 1) 260 = 1 := by
    have q := wA_n0 (w := z7) (kd := 21) (ln := 1)
    rw [n7] at q
    exact q
  have I := INV_0 (FIN_cx (cx_trans c7 c8) F) (RZ0_cx c8 R7) k260 n260
  exact ⟨n + 1, law_loop hn (fun _ => rfl) n 0 _ _ 1000 _ (by omega) (by omega) (by decide) (by decide) (by decide) (by decide) I⟩
end PU
