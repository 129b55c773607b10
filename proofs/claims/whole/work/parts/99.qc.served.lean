/-! 99.qc: the call served -/
section SV
variable {w u z : Wd} {B : Nat} {L F : Wd → Prop} {g : Nat → Nat}
theorem kX_c {q : Nat → Nat} {td td' : Nat → Int32} (h : ∀ j, j < 6 → td j = td' j) (X : kX u z g q td) : kX u z g q td' := ⟨X.1, X.2.1, fun j hj => (X.2.2 j hj).trans (h j hj)⟩
theorem kX_0 {q : Nat → Nat} (N : rq u z g) (r : ∀ j, j < g 2 → wL z 254 j = lN (q j)) : kX u z g q (fun j => wI z 256 j) := ⟨N, r, fun _ _ => rfl⟩
theorem DF_le {E : Nat → Nat → Bool} {a n D : Nat} (h : DF E a n D) : D ≤ n := by
  obtain ⟨-, S, -, e⟩ := h
  have := fb_ct_le S n
  omega
theorem DF_eE {q : Nat → Nat} {e n D : Nat} (h : DF (eE q (fun _ => -1) e) 0 n D) : DF (fun k t => (q k).testBit t && (2 ^ (e + 1) - 1).testBit t) 0 n D := by
  have c : eE q (fun _ => -1) e = fun k t => (q k).testBit t && (2 ^ (e + 1) - 1).testBit t := by
    funext k t
    unfold eE
    rw [decide_eq_true (rfl : (-1 : Int32) = -1), Bool.true_or, Bool.and_true, Nat.testBit_two_pow_sub_one]
    congr 1
    exact decide_eq_decide.mpr (by omega)
  rw [← c]
  exact h
theorem pM {e : Nat} (he : e < 41) : 2 ^ (e + 1) - 1 < 2 ^ 41 := by
  have : 2 ^ (e + 1) ≤ 2 ^ 41 := Nat.pow_le_pow_right (by decide) (by omega)
  have := Nat.two_pow_pos (e + 1)
  omega
theorem p_served29 {e : Nat} {K : Int32 → Wd → Prop} {q : Nat → Nat} (he : e < 41) (h26 : g 2 ≤ 6) (hk : ∀ c z', c ≤ g 2 → DF (eE q (fun _ => -1) e) 0 (g 2) (g 2 - c) → rq u z' g → K (nI c) z') : ∀ d k td z, k + d = 6 → kX u z g q td → (∀ j, j < k → td j = -1) → l_X12_served_29 K (d + 1) 245 (nI e) (nI k) z := by
  intro d
  induction d with
  | zero =>
    intro k td z hkk X r
    have : k = 6 := by omega
    subst this
    exact br_t (by decide) ⟨X.1.2.1.1.1, p_servedBy he h26 (kX_c (td' := fun _ => -1) r X) (fun c z' h1 h2 X' => hk c z' h1 h2 X'.1)⟩
  | succ d ih =>
    intro k td z hkk X r
    have m := m23 X.1.2.1
    unfold l_X12_served_29
    rw [m.1, m.2.2, nI_clamp (by omega), show (nI k + 1 : Int32) = nI (k + 1) from nI_add k 1]
    refine br_f (nI_ge (b := 6) (by omega) (by decide)) ⟨X.1.2.1.1.1, m.2.1, vp_in_nI (by omega) (by decide), ih (k + 1) _ _ (by omega) (kX_6 X) (fun j hj => ?_)⟩
    show (if j = k then (-1 : Int32) else td j) = -1
    by_cases e1 : j = k
    · rw [if_pos e1]
    · rw [if_neg e1]; exact r j (by omega)
theorem jn_served {x : Int32} (I : INV w B) (hB : B + 99 < 2 ^ 24) (hk : ∀ u, INV u (B + 99) → L u) {K : Int32 → Wd → Prop} (hc : ∀ r w1, isK w1 245 12 → w_X12_served 245 x (fun b w2 => tlT L F r b.toInt64 w2) w1 → K r w1) : w_L_served 1 6 64 x 260 K w := by
  obtain ⟨g, I⟩ := INV_x I
  have hW := I.2.1
  have h26 := hW.1.1.2.2.1
  refine ⟨I.1.1.1, ⟨by decide, by decide⟩, ⟨by decide, by decide⟩, q_within 0 40 (by decide) (by decide) (fun cy => ?_) (fun cy N hN => ⟨rfl, ?_⟩)⟩
  · obtain ⟨e, he⟩ : ∃ n : Nat, x.toInt = n := ⟨x.toInt.toNat, by omega⟩
    have ex := nI_v he
    subst ex
    have he' : e < 41 := by omega
    obtain ⟨h, Lx, e0, k5⟩ := x_P I
    rw [x242 I.1, I.1.1.2.1, e0]
    refine ⟨I.1.1.1, I.1.2.2.2.2.2.2.2.2.2.1.1, k5, Lx.1.1.1.1, q_lookP I hB (fun u A r => ?_)⟩
    have Iu := ap_x I A
    have Pl := Iu.1.2.2.2.2.2.2.2.2.2.1
    obtain ⟨h8, L8⟩ := A.2.1
    have H := L8.1.1.1.2.2
    have e2 : hrs g 41 2 = g 2 := (hrs_WF hW (k := 41) (by omega)).2 2 (by omega)
    rw [x242 Iu.1]
    refine ⟨Iu.1.1.1, Pl.1, ?_⟩
    unfold w_X6_mostServed
    rw [Pl.2.2.1, L8.1.1.1.2.1, H.2.1.2.2, e2]
    refine ⟨Pl.1, L8.1.1.1.1, H.1, hoursTill_M he' ⟨Pl.1, q_lacking (a := 0) I hB (Nat.lt_trans (pM he') (by decide)) (by decide) ⟨A, r⟩ (fun D u' hD df A' => ?_)⟩⟩
    have Dn := DF_le df
    rw [pk_sub Dn]
    have I2 := ap_x I A'.1
    have Io := INVx_o (v := (nI (g 2 - D)).toInt64) I2
    have N0 := rq_0 (val := (nI (g 2 - D)).toInt64) I2
    refine INVx_out I2 (hc _ (uL u' 260 0 (nI (g 2 - D)).toInt64) (INVx_M Io) ⟨INVx_M Io, p_withinI 0 40 (by decide) (by decide) ?_⟩)
    rw [decide_eq_true cy]
    refine br_f (by decide) ⟨N0.2.1.1.1, p_laysQuiet N0 hW hB (fun z N r4 => ⟨7, ?_⟩)⟩
    refine p_served29 (q := fun k => qm g k 41) he' h26 (fun c z' h1 h2 N' => ?_) 6 0 _ z rfl (kX_0 N r4) (fun j hj => absurd hj (Nat.not_lt_zero j))
    have e3 := DF_one df (DF_eE h2)
    have e4 : c = g 2 - D := by omega
    subst e4
    exact rFin I2 N' hB hk
  · have J := INVx_J I hN
    have J1 := INVx_t (k := 4) (v := 0) J (by decide) (by decide) (by decide)
    have J2 := INVx_t (k := 4) (v := 1) J1 (by decide) (by decide) (by decide)
    refine hc _ _ (INVx_M J) ⟨INVx_M J, p_withinI 0 40 (by decide) (by decide) ?_⟩
    rw [decide_eq_false cy]
    exact br_t rfl ⟨INVx_M J1, INVx_M J1, finK J2 (by decide) (fw _ _) hB hk⟩
end SV
