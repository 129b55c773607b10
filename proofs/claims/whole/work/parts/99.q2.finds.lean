/-! 99.q2: the reference's search is the search -/
def eE (q : Nat → Nat) (td : Nat → Int32) (e k t : Nat) : Bool := ((q k).testBit t && (decide (td k = -1) || decide (td k = nI t))) && decide (t ≤ e)
theorem lsr_bit (V : Nat) {t : Nat} (ht : t < 63) : x_lshr (lN V) (nI t) &&& 1 = if V.testBit t then 1 else 0 := by
  unfold x_lshr
  rw [wb_c t (by omega)]
  apply Int64.toBitVec_inj.mp
  show ((lN V).toBitVec.sshiftRight ((lN t).toBitVec.smod 64).toNat) &&& 1#64 = _
  rw [wb_tb, wb_tb, wb_sm t (by omega), BitVec.toNat_ofNat, Nat.mod_eq_of_lt (show t < 2 ^ 64 from Nat.lt_trans (show t < 64 by omega) (by decide))]
  apply BitVec.eq_of_getLsbD_eq
  intro i hi
  rw [BitVec.getLsbD_and, BitVec.getLsbD_sshiftRight]
  cases i with
  | zero =>
    rw [if_pos (show t + 0 < 64 by omega), BitVec.getLsbD_ofNat, decide_eq_true (show t + 0 < 64 by omega), Nat.add_zero]
    cases V.testBit t
    · decide
    · decide
  | succ i =>
    have e1 : (1#64).getLsbD (i + 1) = false := by rw [BitVec.getLsbD_one]; simp
    rw [e1, Bool.and_false]
    cases V.testBit t
    · show false = (0#64).getLsbD (i + 1)
      rw [BitVec.getLsbD_zero]
    · show false = (1#64).getLsbD (i + 1)
      exact e1.symm
theorem lsr_cmp (V : Nat) {t : Nat} (ht : t < 63) : lg_cmp (x_lshr (lN V) (nI t) &&& 1) 1 = 0 ↔ V.testBit t = true := by
  rw [lg_cmp_eq, lsr_bit V ht]
  cases V.testBit t <;> decide
theorem lq_set {V t : Nat} (hV : V < 2 ^ 41) (ht : t < 41) : lN V ||| x_lshl 1 (nI t) = lN (V ||| 2 ^ t) ∧ V ||| 2 ^ t < 2 ^ 41 := by
  have e : x_lshl 1 (nI t) = lN (2 ^ t) := by
    have z := wb_shl 1 (k := t) (by omega)
    rw [Nat.one_mul] at z
    exact z
  have a : (2 : Nat) ^ 41 < 2 ^ 64 := by decide
  have b : 2 ^ t < 2 ^ 41 := Nat.pow_lt_pow_right (by decide) ht
  exact ⟨by rw [e, wb_or (Nat.lt_trans hV a) (Nat.lt_trans b a)], Nat.or_lt_two_pow hV b⟩
def kW (u z : Wd) (g q : Nat → Nat) (td : Nat → Int32) (m : Nat → Nat) (V : Nat) : Prop := rq u z g ∧ (∀ j, j < g 2 → wL z 254 j = lN (q j)) ∧ (∀ j, j < 6 → wI z 256 j = td j) ∧ (∀ t, t < 41 → wI z 255 t = if m t = 0 then -1 else nI (m t - 1)) ∧ wL z 245 24 = lN V ∧ V < 2 ^ 41
section KU
variable {u z : Wd} {g q : Nat → Nat} {td : Nat → Int32} {m : Nat → Nat} {V : Nat}
theorem rq_uL {k : Nat} {x : Int64} (N : rq u z g) : rq u (uL z 245 k x) g := ⟨stR_trans N.1 ⟨cx_uL (Or.inl rfl), SH_e (T := rS) (cx_uL (Or.inl rfl)) rfl N.1.2.1, rfl, rfl, rfl⟩, N.2.1, N.2.2⟩
theorem rq_uI {t k : Nat} {x : Int32} (ht : t = 255 ∨ t = 256) (N : rq u z g) : rq u (uI z t k x) g := by
  have e : eqW (fun s => s = t) z (uI z t k x) := eqW_uI rfl
  refine ⟨stR_trans N.1 (stR_e N.1.2.1 e (fun s h => by subst h; unfold rS; omega)), RSs N.2.1 (t := t) (by omega) _, ?_⟩
  rw [(e.2.2.2 245 (by omega)).1]
  exact N.2.2
theorem kW_V {V' : Nat} (h : kW u z g q td m V) (hV : V' < 2 ^ 41) : kW u (uL z 245 24 (lN V')) g q td m V' := ⟨rq_uL h.1, fun j hj => by rw [wL_uLn (by decide)]; exact h.2.1 j hj, h.2.2.1, h.2.2.2.1, by rw [wL_uL, if_pos rfl], hV⟩
theorem kW_put {t k : Nat} (h : kW u z g q td m V) (ht : t < 41) : kW u (uI z 255 t (nI k)) g q td (put m t k) V := by
  refine ⟨rq_uI (Or.inl rfl) h.1, h.2.1, fun j hj => by rw [wI_uI_ne (by decide)]; exact h.2.2.1 j hj, fun s hs => ?_, h.2.2.2.2⟩
  rw [wI_uI]
  by_cases e : s = t
  · rw [if_pos e, e, put_t, if_neg (by omega), Nat.add_sub_cancel]
  · rw [if_neg e, put_n e]
    exact h.2.2.2.1 s hs
theorem m22 {G : Nat → Nat} (R : RS z 245 G) : wR z 245 22 = 255 ∧ isK z 255 20 ∧ wn z 255 = 41 := R.1.2.2.2.2.2.2.1
theorem m23 {G : Nat → Nat} (R : RS z 245 G) : wR z 245 23 = 256 ∧ isK z 256 20 ∧ wn z 256 = 6 := R.1.2.2.2.2.2.2.2.1
theorem un_lt {V t : Nat} (ht : t < 41) (h : V.testBit t = false) : fb_ct (fun s => !(V ||| 2 ^ t).testBit s) 41 < fb_ct (fun s => !V.testBit s) 41 := by
  have c : fb_ct (fun s => !(V ||| 2 ^ t).testBit s) 41 = fb_ct (fun s => if s = t then false else !V.testBit s) 41 := fb_ct_cong (fun s _ => by
    by_cases e : s = t
    · rw [if_pos e, or_t (Or.inr e)]; rfl
    · rw [if_neg e, kbit, decide_eq_false (fun z => e z.symm), Bool.or_false])
  have p := fb_ct_upd (fun s => !V.testBit s) false (i := t) (n := 41) ht
  rw [show ((if (!V.testBit t) = true then 1 else 0) : Nat) = 1 from by rw [h]; rfl, show ((if false = true then 1 else 0) : Nat) = 0 from rfl] at p
  omega
theorem p_finds {e : Nat} (he : e < 41) (h26 : g 2 ≤ 6) : ∀ d k m V z K, k < g 2 → kW u z g q td m V → mtc (eE q td e) (g 2) m → mij m V → nok m V k → fb_ct (fun t => !V.testBit t) 41 < d → (∀ m' V' z', kW u z' g q td m' V' → kS (eE q td e) (g 2) k m V m' → K (1 : Int32) z') → (∀ V' z', kW u z' g q td m V' → kL (eE q td e) k m V V' 41 → K 0 z') → wG_X12_finds d 0 245 (nI k) (nI e) K z := by
  intro d
  induction d with
  | zero => intro k m V z K _ _ _ _ _ h; exact absurd h (Nat.not_lt_zero _)
  | succ d ih =>
    intro k m V z K hk W0 hm hi ho hd hS hF
    have go : ∀ dd t V1 z, t + dd = e + 1 → kW u z g q td m V1 → kL (eE q td e) k m V V1 t → l_X12_finds_2 (wG_X12_finds d) K (dd + 1) 245 (nI k) (nI e) (nI t) z := by
      intro dd
      induction dd with
      | zero =>
        intro t V1 z ht W L
        have : t = e + 1 := by omega
        subst this
        refine br_t (nI_lt (by omega) (by omega)) (hF V1 z W ⟨L.1, fun s _ h41 es => L.2.1 s ?_ h41 es, L.2.2⟩)
        unfold eE at es
        rw [Bool.and_eq_true] at es
        have := of_decide_eq_true es.2
        omega
      | succ dd ih2 =>
        intro t V1 z ht W L
        have R := W.1.2.1
        have a1 := m21 R
        have a2 := m22 R
        have a3 := m23 R
        have n1 : (nI t + 1 : Int32) = nI (t + 1) := nI_add t 1
        have no : (eE q td e k t = true → V1.testBit t = true) → l_X12_finds_2 (wG_X12_finds d) K (dd + 1) 245 (nI k) (nI e) (nI t + 1) z := fun h => by
          rw [n1]
          exact ih2 (t + 1) V1 z (by omega) W (kL_no L h)
        have no0 : eE q td e k t = false → j_X12_finds_47 (wG_X12_finds d) (l_X12_finds_2 (wG_X12_finds d) K (dd + 1)) K 245 (nI k) (nI e) (nI t) 0 z := fun h => br_t rfl (no (fun z => by rw [h] at z; exact Bool.noConfusion z))
        have yes : eE q td e k t = true → j_X12_finds_47 (wG_X12_finds d) (l_X12_finds_2 (wG_X12_finds d) K (dd + 1)) K 245 (nI k) (nI e) (nI t) 1 z := fun he1 => by
          refine br_f (by decide) ⟨R.1.1, ?_⟩
          rw [W.2.2.2.2.1, a2.1, a2.2.2, nI_clamp (by omega)]
          cases v1 : V1.testBit t
          · refine br_f (fun x => by rw [(lsr_cmp V1 (by omega)).mp x] at v1; exact Bool.noConfusion v1) ⟨a2.2.1, vp_in_nI (by omega) (by decide), ?_⟩
            obtain ⟨l1, l2⟩ := lq_set (t := t) W.2.2.2.2.2 (by omega)
            rw [l1]
            have W2 := kW_V W l2
            obtain ⟨z2, hz2⟩ : ∃ z2, z2 = uL z 245 24 (lN (V1 ||| 2 ^ t)) := ⟨_, rfl⟩
            rw [← hz2] at W2 ⊢
            rw [W2.2.2.2.1 t (by omega)]
            by_cases m0 : m t = 0
            · rw [if_pos m0]
              exact br_t rfl ⟨vp_in_nI (by omega) (by decide), hS _ _ _ (kW_put W2 (by omega)) (kS_leaf L (by omega) hk hm hi ho he1 v1 m0)⟩
            · rw [if_neg m0]
              have mt := hm t (by omega) m0
              have sub : ∀ s, (V1 ||| 2 ^ t).testBit s = false → V.testBit s = false := fun s h => by
                cases y : V.testBit s
                · rfl
                · have x := (or_f h).1
                  rw [L.1 s y] at x
                  exact Bool.noConfusion x
              have v0 : V.testBit t = false := by
                cases y : V.testBit t
                · rfl
                · rw [L.1 t y] at v1; exact Bool.noConfusion v1
              have c1 := un_lt (V := V1) (show t < 41 by omega) v1
              have c2 : fb_ct (fun s => !V1.testBit s) 41 ≤ fb_ct (fun s => !V.testBit s) 41 := fb_ct_sub (fun s _ y => by
                cases x : V.testBit s
                · rfl
                · rw [L.1 s x] at y; exact y)
              refine br_f (fun x => ?_) ⟨vp_in_nI (by omega) (by decide), ih (m t - 1) m (V1 ||| 2 ^ t) z2 _ mt.1 W2 hm (fun s r hs hr vs vr => hi s r hs hr (sub s vs) (sub r vr)) (fun s hs vs es => ?_) (by omega) (fun m' V' z' W' k' => ?_) (fun V' z' W' k' => ?_)⟩
              · have y := congrArg Int32.toInt x
                rw [nI_toInt (by omega), show (-1 : Int32).toInt = -1 from by decide] at y
                omega
              · exact (or_f vs).2 (hi s t hs (by omega) (sub s vs) v0 (by omega) (by omega))
              · have a4 := m22 W'.1.2.1
                rw [a4.1, a4.2.2]
                exact br_f (by decide) ⟨W'.1.2.1.1.1, a4.2.1, vp_in_nI (by omega) (by decide), hS _ _ _ (kW_put W' (by omega)) (kS_rec L (by omega) hk hi ho he1 v1 m0 k')⟩
              · rw [n1]
                exact br_t rfl (ih2 (t + 1) V' z' (by omega) W' (kL_f L m0 k'))
          · exact br_t ((lsr_cmp V1 (by omega)).mpr v1) (no (fun _ => v1))
        have eq1 : ∀ b1 b2 : Bool, (q k).testBit t = b1 → (decide (td k = -1) || decide (td k = nI t)) = b2 → eE q td e k t = (b1 && b2) := fun b1 b2 h1 h2 => by
          unfold eE
          rw [h1, h2, decide_eq_true (show t ≤ e by omega), Bool.and_true]
        refine br_f (nI_nlt (by omega) (by omega)) ⟨R.1.1, ?_⟩
        rw [a1.1, a1.2.2, a3.1, a3.2.2, nI_clamp (by omega), W.2.1 k hk, W.2.2.1 k (by omega)]
        refine ⟨a1.2.1, vp_in_nI (by omega) (by decide), ?_⟩
        cases b1 : (q k).testBit t
        · exact br_f (fun x => by rw [(lsr_cmp (q k) (by omega)).mp x] at b1; exact Bool.noConfusion b1) (no0 (eq1 _ _ b1 rfl))
        · refine br_t ((lsr_cmp (q k) (by omega)).mpr b1) ⟨a3.2.1, vp_in_nI (by omega) (by decide), ?_⟩
          by_cases t1 : td k = -1
          · exact br_t t1 (yes (by rw [eq1 _ _ b1 rfl, decide_eq_true t1]; rfl))
          · refine br_f t1 ⟨vp_in_nI (by omega) (by decide), ?_⟩
            by_cases t2 : td k = nI t
            · exact br_t t2 (yes (by rw [eq1 _ _ b1 rfl, decide_eq_true t2, Bool.or_true]; rfl))
            · exact br_f t2 (no0 (by rw [eq1 _ _ b1 rfl, decide_eq_false t1, decide_eq_false t2]; rfl))
    exact ⟨e + 1 + 1, go (e + 1) 0 V z (by omega) W0 (kL_0 _ _ _ _)⟩
end KU
