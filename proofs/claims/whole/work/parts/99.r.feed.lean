/-! 99.r: the call feed -/
theorem nI_all (y : Int32) : y = nI y.toBitVec.toNat := by
  apply Int32.toBitVec_inj.mp
  show y.toBitVec = BitVec.ofNat 32 y.toBitVec.toNat
  exact ((BitVec.ofNat_toNat 32 y.toBitVec).trans (BitVec.setWidth_eq y.toBitVec)).symm
def byt (y : Int32) : Nat := y.toBitVec.toNat % 256
theorem byt_lt (y : Int32) : byt y < 256 := Nat.mod_lt _ (by decide)
theorem byt_and (y : Int32) : y &&& 255 = nI (byt y) := by
  have e : nI y.toBitVec.toNat &&& nI 255 = nI (y.toBitVec.toNat &&& 255) := fa_and _ _
  rw [show y.toBitVec.toNat &&& 255 = byt y from Nat.and_two_pow_sub_one_eq_mod _ 8, ← nI_all y] at e
  exact e
theorem byt_nar (y : Int32) : vp_nar .byte (y.toInt8.toInt32) = (nI (byt y)).toInt8.toInt32 := by
  have e1 : ∀ z : Int32, vp_nar .byte z = z.toInt8.toInt32 := fun z => rfl
  have e2 : ∀ a b : Int32, a.toBitVec.toNat % 256 = b.toBitVec.toNat % 256 → a.toInt8 = b.toInt8 := fun a b h => by
    apply Int8.toBitVec_inj.mp
    show a.toBitVec.signExtend 8 = b.toBitVec.signExtend 8
    rw [BitVec.signExtend_eq_setWidth_of_le _ (by decide), BitVec.signExtend_eq_setWidth_of_le _ (by decide)]
    apply BitVec.eq_of_toNat_eq
    rw [BitVec.toNat_setWidth, BitVec.toNat_setWidth]
    exact h
  rw [e1]
  have e3 : y.toInt8.toInt32.toInt8 = y.toInt8 := Int8.toInt8_toInt32 _
  rw [e3]
  congr 1
  apply e2
  show _ = (BitVec.ofNat 32 (byt y)).toNat % 256
  rw [BitVec.toNat_ofNat]
  have := byt_lt y
  unfold byt at this ⊢
  omega
theorem OT_f {T : Nat → Prop} {w u : Wd} {B C : Nat} (c : cx T w u) (hT : ∀ t, T t → cD t ∨ rS t ∨ t = 238 ∨ t = 239 ∨ t = 240 ∨ t = 247 ∨ t = 250) (s : SH w) (tp : TP u) (ft : FT u) (hB : B ≤ C) (hC : C < 2 ^ 24) (O : OT w B) : OT u C := by
  have W := SH_N s
  have nH : noH T := fun t z => by have := hT t z; unfold cD cS rS at this; omega
  have no : ∀ t, ((125 ≤ t ∧ t ≤ 237) ∨ (248 ≤ t ∧ t ≤ 249) ∨ (257 ≤ t ∧ t ≤ 259)) → wI u t = wI w t ∧ wL u t = wL w t := fun t ht => by
    have z := (c.2 t (by omega)).2.2 (fun k => by have := hT t k; unfold cD cS rS at this; omega)
    exact ⟨z.1, z.2.1⟩
  obtain ⟨o1, o2, -, -⟩ := O
  refine ⟨fun i hi => ?_, fun i hi => ?_, tp, ft⟩
  · obtain ⟨g, h, e, b, q1, q2, q3, q4, q5⟩ := o1 i hi
    refine ⟨g, h, e, b, WF_mono q1 hB hC, PG_cx c nH (fun t z k => by have := hT t k; unfold cD cS rS at this; unfold pgT at z; omega) q2, fun k hk => by rw [(no 248 (by omega)).1]; exact q3 k hk, by rw [(no (125 + 35 * i) (by omega)).1]; exact q4, by rw [(no 249 (by omega)).1]; exact q5⟩
  · obtain ⟨b, s', m, v, q1, q2, ⟨q3, q4, q5, q6⟩, q7, q8, q9⟩ := o2 i hi
    have a0 := no (230 + 2 * i) (by omega)
    refine ⟨b, s', m, v, q1, q2, ⟨by rw [a0.1]; exact q3, by rw [a0.1]; exact q4, by rw [a0.1]; exact q5, fun k hk => by rw [(no (231 + 2 * i) (by omega)).2]; exact q6 k hk⟩, by rw [(no 257 (by omega)).1]; exact q7, by rw [(no 258 (by omega)).1]; exact q8, fun k hk => by rw [(no 259 (by omega)).2]; exact q9 k hk⟩
section FD
variable {w u z : Wd} {B : Nat} {L F : Wd → Prop} {g : Nat → Nat}
def fdT (t : Nat) : Prop := t = 238 ∨ t = 239 ∨ t = 245 ∨ t = 250
def arg5 (x1 x2 x3 x4 x5 : Int32) (j : Nat) : Int32 := if j = 0 then x1 else if j = 1 then x2 else if j = 2 then x3 else if j = 3 then x4 else x5
def fb (a : Nat → Int32) (i : Nat) : Nat := byt (x_iushr (a (i / 4)) (nI (24 - 8 * (i % 4))))
/-- what is written of the class's (d = 238, tape 239) -/
def cF (w u : Wd) (a : Nat → Int32) (n i : Nat) : Prop := cx fdT w u ∧ wR u = wR w ∧ wI u 245 = wI w 245 ∧ wI u 250 = wI w 250 ∧ (∀ k, k ≠ 0 → wI u 238 k = wI w 238 k) ∧ wI u 238 0 = nI (n + i) ∧ (∀ k, k < n → wI u 239 k = wI w 239 k) ∧ ∀ k, k < i → wI u 239 (n + k) = (nI (fb a k)).toInt8.toInt32
theorem cF_1 {a : Nat → Int32} {n i : Nat} (h : cF w u a n i) : cF w (uI (uI u 239 (n + i) ((nI (fb a i)).toInt8.toInt32)) 238 0 (nI (n + (i + 1)))) a n (i + 1) := by
  obtain ⟨c, h1, h2, h3, h4, h5, h6, h7⟩ := h
  refine ⟨cx_trans (cx_trans c (cx_uI (Or.inr (Or.inl rfl)))) (cx_uI (Or.inl rfl)), h1, ?_, ?_, fun k hk => ?_, ?_, fun k hk => ?_, fun k hk => ?_⟩
  · rw [wI_uI_ne (by decide), wI_uI_ne (by decide)]; exact h2
  · rw [wI_uI_ne (by decide), wI_uI_ne (by decide)]; exact h3
  · rw [wI_uI, if_neg hk, wI_uI_ne (by decide)]; exact h4 k hk
  · rw [wI_uI, if_pos rfl]
  · rw [wI_uI_ne (by decide), wI_uI, if_neg (by omega)]; exact h6 k hk
  · rw [wI_uI_ne (by decide), wI_uI]
    by_cases e : k = i
    · rw [if_pos (by omega), e]
    · rw [if_neg (by omega)]; exact h7 k (by omega)
theorem q_app1 {a : Nat → Int32} {n i f : Nat} {K : Wd → Prop} (S : SH w) (hn : n + 20 ≤ 900) (hi : i < 20) (h : cF w u a n i) (hk : ∀ u', cF w u' a n (i + 1) → l_X7_append_3 K f 238 (a (i / 4)) (nI (24 - 8 * (i % 4)) + (-8)) u') : l_X7_append_3 K (f + 1) 238 (a (i / 4)) (nI (24 - 8 * (i % 4))) u := by
  have Su := SH_e h.1 h.2.1 S
  have R := Su.2.2.2.2.2.2.2.1
  have h5 := h.2.2.2.2.2.1
  unfold l_X7_append_3
  rw [R.2.1.1, R.2.1.2.2, h5, nI_clamp (by omega), byt_nar, wI_uI_ne (by decide), h5, show (nI (n + i) + 1 : Int32) = nI (n + (i + 1)) from nI_add (n + i) 1]
  exact br_f (nI_pos (by omega)) ⟨R.1, br_f (nI_pos (by omega)) ⟨R.2.1.2.1, br_f (nI_ge (b := 900) (by omega) (by decide)) ⟨vp_in_nI (by omega) (by decide), hk _ (cF_1 h)⟩⟩⟩
theorem q_append {a : Nat → Int32} {n j : Nat} {K : Wd → Prop} (S : SH w) (hn : n + 20 ≤ 900) (hj : j < 5) (h : cF w u a n (4 * j)) (hk : ∀ u', cF w u' a n (4 * (j + 1)) → K u') : w_X7_append 238 (a j) K u := by
  have s : ∀ r f u, r < 4 → cF w u a n (4 * j + r) → (∀ u', cF w u' a n (4 * j + (r + 1)) → l_X7_append_3 K f 238 (a j) (nI (24 - 8 * r) + (-8)) u') → l_X7_append_3 K (f + 1) 238 (a j) (nI (24 - 8 * r)) u := fun r f u hr h hk => by
    have e1 : (4 * j + r) / 4 = j := by omega
    have e2 : (4 * j + r) % 4 = r := by omega
    have z := q_app1 (f := f) (K := K) S hn (show 4 * j + r < 20 by omega) h
    rw [e1, e2] at z
    exact z hk
  refine ⟨5, s 0 4 u (by decide) h (fun u1 h1 => s 1 3 u1 (by decide) h1 (fun u2 h2 => s 2 2 u2 (by decide) h2 (fun u3 h3 => s 3 1 u3 (by decide) h3 (fun u4 h4 => br_t (by decide) (hk u4 ?_)))))⟩
  exact h4
/-- what is written of the reference's (245, tape 250) -/
def rF (w u : Wd) (a : Nat → Int32) (n i : Nat) : Prop := cx fdT w u ∧ wR u = wR w ∧ wI u 238 = wI w 238 ∧ wI u 239 = wI w 239 ∧ (∀ k, k ≠ 4 → k ≠ 6 → wI u 245 k = wI w 245 k) ∧ wI u 245 6 = nI (n + i) ∧ (∀ k, k < n → wI u 250 k = wI w 250 k) ∧ ∀ k, k < i → wI u 250 (n + k) = nI (fb a k)
theorem rF_1 {a : Nat → Int32} {n i : Nat} (h : rF w u a n i) : rF w (uI (uI u 250 (n + i) (nI (fb a i))) 245 6 (nI (n + (i + 1)))) a n (i + 1) := by
  obtain ⟨c, h1, h2, h3, h4, h5, h6, h7⟩ := h
  refine ⟨cx_trans (cx_trans c (cx_uI (Or.inr (Or.inr (Or.inr rfl))))) (cx_uI (Or.inr (Or.inr (Or.inl rfl)))), h1, ?_, ?_, fun k k1 k2 => ?_, ?_, fun k hk => ?_, fun k hk => ?_⟩
  · rw [wI_uI_ne (by decide), wI_uI_ne (by decide)]; exact h2
  · rw [wI_uI_ne (by decide), wI_uI_ne (by decide)]; exact h3
  · rw [wI_uI, if_neg k2, wI_uI_ne (by decide)]; exact h4 k k1 k2
  · rw [wI_uI, if_pos rfl]
  · rw [wI_uI_ne (by decide), wI_uI, if_neg (by omega)]; exact h6 k hk
  · rw [wI_uI_ne (by decide), wI_uI]
    by_cases e : k = i
    · rw [if_pos (by omega), e]
    · rw [if_neg (by omega)]; exact h7 k (by omega)
theorem sh_amt : ∀ i, i < 20 → (24 - (8 * (nI i &&& 3)) : Int32) = nI (24 - 8 * (i % 4)) := by decide
theorem p_fed {x1 x2 x3 x4 x5 : Int32} {n : Nat} {K : Int32 → Wd → Prop} (S : SH w) (hn : n + 20 ≤ 900) (hk : ∀ z, rF w z (arg5 x1 x2 x3 x4 x5) n 20 → K (nI (n + 20)) z) : ∀ d i z, i + d = 20 → rF w z (arg5 x1 x2 x3 x4 x5) n i → l_X12_feed_23 K (d + 1) 245 x1 x2 x3 x4 x5 (nI i) z := by
  intro d
  induction d with
  | zero =>
    intro i z hi h
    have : i = 20 := by omega
    subst this
    have Su := SH_e h.1 h.2.1 S
    have M := Su.2.2.2.2.2.2.2.2.2.2.1
    refine br_t (by decide) ⟨M.1, ?_⟩
    rw [h.2.2.2.2.2.1]
    exact hk z h
  | succ d ih =>
    intro i z hi h
    have Su := SH_e h.1 h.2.1 S
    have M := Su.2.2.2.2.2.2.2.2.2.2.1
    have go : j_X12_feed_76 (l_X12_feed_23 K (d + 1)) K 245 x1 x2 x3 x4 x5 (nI i) (arg5 x1 x2 x3 x4 x5 (i / 4)) z := by
      have m5 : wR z 245 5 = 250 ∧ isK z 250 20 ∧ wn z 250 = 900 := M.2.2.2.2.2.2.2.2.2.2.2.2.2.2
      have h5 := h.2.2.2.2.2.1
      unfold j_X12_feed_76
      rw [m5.1, m5.2.2, h5, nI_clamp (by omega), sh_amt i (by omega), byt_and, wI_uI_ne (by decide), h5, show (nI (n + i) + 1 : Int32) = nI (n + (i + 1)) from nI_add (n + i) 1, show (nI i + 1 : Int32) = nI (i + 1) from nI_add i 1]
      exact ⟨M.1, m5.2.1, vp_in_nI (by omega) (by decide), ih (i + 1) _ (by omega) (rF_1 h)⟩
    refine br_f (nI_ge (b := 20) (by omega) (by decide)) ?_
    by_cases c1 : i < 4
    · rw [show i / 4 = 0 by omega] at go
      exact br_f (nI_ge (b := 4) c1 (by decide)) go
    · refine br_t (nI_le (a := 4) (by omega) (by omega)) ?_
      by_cases c2 : i < 8
      · rw [show i / 4 = 1 by omega] at go
        exact br_f (nI_ge (b := 8) c2 (by decide)) go
      · refine br_t (nI_le (a := 8) (by omega) (by omega)) ?_
        by_cases c3 : i < 12
        · rw [show i / 4 = 2 by omega] at go
          exact br_f (nI_ge (b := 12) c3 (by decide)) go
        · refine br_t (nI_le (a := 12) (by omega) (by omega)) ?_
          by_cases c4 : i < 16
          · rw [show i / 4 = 3 by omega] at go
            exact br_f (nI_ge (b := 16) c4 (by decide)) go
          · rw [show i / 4 = 4 by omega] at go
            exact br_t (nI_le (a := 16) (by omega) (by omega)) go
theorem jn_feed {x1 x2 x3 x4 x5 : Int32} (I : INV w B) (hB : B + 99 < 2 ^ 24) (hk : ∀ u, INV u (B + 99) → L u) {K : Int32 → Wd → Prop} (hc : ∀ r w1, isK w1 245 12 → w_X12_feed 245 x1 x2 x3 x4 x5 (fun t w2 => (r = t → L w2) ∧ (¬ r = t → F w2)) w1 → K r w1) : w_X11_feed 64 x1 x2 x3 x4 x5 K w := by
  obtain ⟨g, I⟩ := INV_x I
  have S := I.1
  have X := S.1
  have R := S.2.2.2.2.2.2.2.1
  obtain ⟨n, t, n9, c0, r0, tv⟩ := I.2.2.2.2.2.2.1
  have FTw := I.2.2.2.2.2.2.2
  unfold w_X11_feed
  rw [X.2.2.2.2.2.1, c0, show (nI n + 20 : Int32) = nI (n + 20) from nI_add n 20]
  refine ⟨X.1, R.1, ?_⟩
  by_cases c : n + 20 ≤ 900
  · refine br_t (nI_le (b := 900) c (by decide)) ?_
    have st : ∀ u i, cF w u (arg5 x1 x2 x3 x4 x5) n i → wR u 64 4 = 238 ∧ isK u 64 11 ∧ isK u 238 7 := fun u i h => by
      have Su := SH_e h.1 h.2.1 S
      exact ⟨Su.1.2.2.2.2.2.1, Su.1.1, Su.2.2.2.2.2.2.2.1.1⟩
    refine q_append (a := arg5 x1 x2 x3 x4 x5) (j := 0) S c (by decide) ⟨cx_refl _ _, rfl, rfl, rfl, fun _ _ => rfl, c0, fun _ _ => rfl, fun k hk => absurd hk (Nat.not_lt_zero k)⟩ (fun u1 h1 => ?_)
    have s1 := st u1 _ h1
    rw [s1.1]
    refine ⟨s1.2.1, s1.2.2, q_append (a := arg5 x1 x2 x3 x4 x5) (j := 1) S c (by decide) h1 (fun u2 h2 => ?_)⟩
    have s2 := st u2 _ h2
    rw [s2.1]
    refine ⟨s2.2.1, s2.2.2, q_append (a := arg5 x1 x2 x3 x4 x5) (j := 2) S c (by decide) h2 (fun u3 h3 => ?_)⟩
    have s3 := st u3 _ h3
    rw [s3.1]
    refine ⟨s3.2.1, s3.2.2, q_append (a := arg5 x1 x2 x3 x4 x5) (j := 3) S c (by decide) h3 (fun u4 h4 => ?_)⟩
    have s4 := st u4 _ h4
    rw [s4.1]
    refine ⟨s4.2.1, s4.2.2, q_append (a := arg5 x1 x2 x3 x4 x5) (j := 4) S c (by decide) h4 (fun u5 h5 => ?_)⟩
    have s5 := st u5 _ h5
    have e5 : wI u5 238 0 = nI (n + 20) := h5.2.2.2.2.2.1
    rw [s5.1, e5]
    have S5 := SH_e h5.1 h5.2.1 S
    have M5 := S5.2.2.2.2.2.2.2.2.2.2.1
    refine ⟨s5.2.1, s5.2.2, hc _ u5 M5.1 ⟨M5.1, ?_⟩⟩
    have r6 : wI (uI u5 245 4 0) 245 6 = nI n := by
      rw [wI_uI, if_neg (by decide), h5.2.2.1]; exact r0
    rw [r6, show (nI n + 20 : Int32) = nI (n + 20) from nI_add n 20]
    refine br_t (nI_le (b := 900) c (by decide)) ⟨21, p_fed S5 c (fun z h => br_t rfl (hk z ?_)) 20 0 _ rfl ⟨cx_uI (Or.inr (Or.inr (Or.inl rfl))), rfl, wI_uI_ne (by decide), wI_uI_ne (by decide), fun k k1 _ => by rw [wI_uI, if_neg k1], r6, fun k _ => by rw [wI_uI_ne (by decide)], fun k hk => absurd hk (Nat.not_lt_zero k)⟩⟩
    have cz : cx fdT w z := cx_trans h5.1 h.1
    have Sz : SH z := SH_e cz (h.2.1.trans h5.2.1) S
    have nH : noH fdT := fun t z => by unfold fdT at z; omega
    have tp : TP z := by
      refine ⟨n + 20, fun k => if k < n then t k else fb (arg5 x1 x2 x3 x4 x5) (k - n), c, ?_, h.2.2.2.2.2.1, fun k hk => ?_⟩
      · rw [h.2.2.1]; exact e5
      · show (if k < n then t k else fb (arg5 x1 x2 x3 x4 x5) (k - n)) < 256 ∧ _ = nI (if k < n then t k else fb (arg5 x1 x2 x3 x4 x5) (k - n)) ∧ _ = (nI (if k < n then t k else fb (arg5 x1 x2 x3 x4 x5) (k - n))).toInt8.toInt32
        by_cases kn : k < n
        · rw [if_pos kn, h.2.2.2.2.2.2.1 k kn, h5.2.2.2.1, h.2.2.2.1, h5.2.2.2.2.2.2.1 k kn]
          exact tv k kn
        · rw [if_neg kn]
          have y1 := h.2.2.2.2.2.2.2 (k - n) (by omega)
          have y2 := h5.2.2.2.2.2.2.2 (k - n) (by omega)
          rw [show n + (k - n) = k by omega] at y1 y2
          rw [h.2.2.2.1]
          exact ⟨byt_lt _, y1, y2⟩
    have ft : FT z := by
      unfold FT
      rw [h.2.2.1, h.2.2.2.2.1 14 (by decide) (by decide), h.2.2.2.2.1 15 (by decide) (by decide), h5.2.2.1, h5.2.2.2.2.1 1 (by decide), h5.2.2.2.2.1 2 (by decide)]
      exact FTw
    exact ⟨Sz, ⟨g, WF_mono I.2.1 (by omega) hB, CP_cx cz nH (fun t y => by unfold fdT at y; omega) I.2.2.1, RS_cx cz Sz (by unfold fdT; omega) I.2.2.2.1⟩, OT_f cz (fun t y => by unfold fdT at y; unfold rS; omega) S tp ft (by omega) hB I.2.2.2.2⟩
  · have J := INVx_t (k := 4) (v := 0) I (by decide) (by decide) (by decide)
    refine br_f (nI_ge (a := 900) (b := n + 20) (by omega) (by omega)) (hc _ w (INVx_M I) ⟨INVx_M I, ?_⟩)
    have r6 : wI (uI w 245 4 0) 245 6 = nI n := by
      rw [wI_uI, if_neg (by decide)]; exact r0
    rw [r6, show (nI n + 20 : Int32) = nI (n + 20) from nI_add n 20]
    exact br_f (nI_ge (a := 900) (b := n + 20) (by omega) (by omega)) (br_t rfl (hk _ (x_INV J (by omega) hB)))
end FD
