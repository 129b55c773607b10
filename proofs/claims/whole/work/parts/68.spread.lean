/-! 68: how yawns spread in the class: the same reach -/
def yw (g : Nat → Nat) (v : Nat) : Nat := if (slp g).testBit v = true then once g v 0 else 0
def uy (g : Nat → Nat) (s : Nat) : Nat → Nat
  | 0 => 0
  | i + 1 => if s.testBit i = true then uy g s i ||| yw g i else uy g s i
theorem uy_bit (g : Nat → Nat) (s b : Nat) : ∀ i, (uy g s i).testBit b = true ↔ ∃ v, v < i ∧ s.testBit v = true ∧ (yw g v).testBit b = true
  | 0 => by simp [uy]
  | i + 1 => by
    have ih := uy_bit g s b i
    unfold uy
    split
    · rename_i hs
      rw [Nat.testBit_or, Bool.or_eq_true, ih]
      constructor
      · rintro (⟨v, h1, h2, h3⟩ | h)
        · exact ⟨v, by omega, h2, h3⟩
        · exact ⟨i, by omega, hs, h⟩
      · rintro ⟨v, h1, h2, h3⟩
        by_cases e : v = i
        · subst e; exact Or.inr h3
        · exact Or.inl ⟨v, by omega, h2, h3⟩
    · rename_i hs
      rw [ih]
      constructor
      · rintro ⟨v, h1, h2, h3⟩
        exact ⟨v, by omega, h2, h3⟩
      · rintro ⟨v, h1, h2, h3⟩
        by_cases e : v = i
        · subst e; exact absurd h2 hs
        · exact ⟨v, by omega, h2, h3⟩
theorem yw_lt {g : Nat → Nat} (hh : wfH g) (v : Nat) : yw g v < 1024 := by
  unfold yw
  split
  · exact set_lt hh (mk_lt _ _)
  · decide
theorem uy_lt {g : Nat → Nat} (hh : wfH g) (s : Nat) : ∀ i, uy g s i < 2 ^ 10
  | 0 => by show 0 < 2 ^ 10; decide
  | i + 1 => by
    unfold uy
    split
    · exact Nat.or_lt_two_pow (uy_lt hh s i) (yw_lt hh i)
    · exact uy_lt hh s i
section SP
variable {w : Wd} {q : Nat} {g : Nat → Nat} {B : Nat} {K : Int32 → Wd → Prop}
theorem q_yawns (N : NS w q) (hh : wfH g) (hy : ∀ v, v < 10 → wI w (q + 1) v = nI (yw g v)) {s : Nat} (hs : s < 1024) (hk : K (nI (uy g s 10)) w) : w_X4_wokenByYawns q (nI s) K w := by
  have go : ∀ d i, i + d = 10 → l_X4_wokenByYawns_4 K (d + 1) q (nI s) (nI (uy g s i)) (nI i) w := by
    intro d
    induction d with
    | zero =>
      intro i hi
      have : i = 10 := by omega
      subst this
      unfold l_X4_wokenByYawns_4
      rw [N.2.1.1, N.2.1.2.2]
      exact ⟨N.1, N.2.1.2.1, br_t (by decide) hk⟩
    | succ d ih =>
      intro i hi
      have e := ih (i + 1) (by omega)
      unfold l_X4_wokenByYawns_4
      rw [N.2.1.1, N.2.1.2.2]
      refine ⟨N.1, N.2.1.2.1, br_f (nI_ge (b := 10) (by omega) (by decide)) (q_has (by omega) (by omega) ?_)⟩
      rw [N.2.1.1, N.2.1.2.2, nI_clamp (by omega), hy i (by omega), fa_or, nI_1]
      unfold uy at e
      cases eb : s.testBit i
      · rw [eb, if_neg (by decide)] at e
        exact br_t rfl e
      · rw [eb, if_pos rfl] at e
        exact br_f (by decide) ⟨N.1, N.2.1.2.1, vp_in_nI (by omega) (by decide), e⟩
  exact ⟨10 + 1, go 10 0 (by omega)⟩
theorem cb_grow {s f : Nat} (hf : f < 1024) (h0 : f ≠ 0) (hd : ∀ b, s.testBit b = true → f.testBit b = false) : cb s + 1 ≤ cb (s ||| f) := by
  have e : cb (s ||| f) = cb s + cb f := by
    unfold cb
    rw [← fb_ct_or (fun k _ z => by rw [hd k z.1] at z; cases z.2)]
    exact fb_ct_cong (fun k _ => Nat.testBit_or s f k)
  have p : 0 < cb f := by
    unfold cb
    rw [fb_ct_pos]
    apply Classical.byContradiction
    intro z
    apply h0
    refine mk_ext (n := 10) hf (by decide) (fun k hk => ?_)
    rw [Nat.zero_testBit]
    cases e : f.testBit k
    · rfl
    · exact absurd ⟨k, hk, e⟩ z
  omega
theorem q_spread (N : NS w q) (hW : WF g B) (hy : ∀ v, v < 10 → wI w (q + 1) v = nI (yw g v)) {a n up op fs : Nat} (hop : op < 2 ^ g 1) (hob : ∀ b, b < g 1 → (op.testBit b = true ↔ (upb g 0 b = false ∧ b ≠ a ∧ up.testBit b = false))) (hfs : fs = once g a n) (hk : K (nI (clo g a n up)) w) : w_X4_spread q (nI fs) (nI op) K w := by
  have h10 := hW.1.1.2.1
  have hop10 := set_lt hW.1 hop
  have wk : ∀ c b n, wkn g c b n = true → upb g 0 b = false := fun c b n z => by
    unfold wkn at z
    cases e : upb g 0 b
    · rfl
    · rw [e] at z; simp at z
  have obl : ∀ b, op.testBit b = true → b < g 1 := fun b z => by
    apply Classical.byContradiction
    intro hb
    rw [Nat.testBit_lt_two_pow (Nat.lt_of_lt_of_le hop (Nat.pow_le_pow_right (by decide) (by omega)))] at z
    cases z
  have go : ∀ d i F S, i + d = 10 → F < 1024 → S < 2 ^ g 1 → subS F S → (∀ b, b < g 1 → b ≠ a → up.testBit b = false → wkn g a b n = true → S.testBit b = true) → (∀ b, S.testBit b = true → op.testBit b = true ∧ rch g a n up b) → (∀ c b, S.testBit c = true → F.testBit c = false → b < g 1 → b ≠ a → up.testBit b = false → wkn g c b 0 = true → S.testBit b = true) → (F ≠ 0 → i + 1 ≤ cb S) → l_X4_spread_10 K (d + 1) q (nI op) (nI F) (nI S) (nI i) w := by
    intro d
    induction d with
    | zero =>
      intro i F S hi hF hS h1 h2 h3 h4 h5
      have : i = 10 := by omega
      subst this
      refine br_t (by decide) ?_
      have hF0 : F = 0 := Classical.byContradiction fun z => by have := h5 z; have := cb_le S; omega
      subst hF0
      rw [show S = clo g a n up from clo_eq hS (fun b hb => ⟨fun z => (h3 b z).2, fun z => rch_ind (S := fun b => S.testBit b = true) h2 (fun b c p1 p2 p3 p4 p5 p6 => h4 c b p5 (Nat.zero_testBit c) p1 p2 p3 p6) z⟩)]
      exact hk
    | succ d ih =>
      intro i F S hi hF hS h1 h2 h3 h4 h5
      have hS10 := set_lt hW.1 hS
      refine br_f (nI_ge (b := 10) (by omega) (by decide)) ?_
      by_cases hF0 : F = 0
      · subst hF0
        refine br_t rfl ?_
        rw [show S = clo g a n up from clo_eq hS (fun b hb => ⟨fun z => (h3 b z).2, fun z => rch_ind (S := fun b => S.testBit b = true) h2 (fun b c p1 p2 p3 p4 p5 p6 => h4 c b p5 (Nat.zero_testBit c) p1 p2 p3 p6) z⟩)]
        exact hk
      refine br_f (nI_ne0 (by omega) (by omega)) ⟨N.1, q_yawns N hW.1 hy hF ?_⟩
      rw [fa_and, p_dif, fa_or, nI_1]
      have fb : ∀ b, (dif (uy g F 10 &&& op) S).testBit b = true ↔ (∃ c, c < 10 ∧ F.testBit c = true ∧ (yw g c).testBit b = true) ∧ op.testBit b = true ∧ S.testBit b = false := fun b => by
        rw [dif_bit, Nat.testBit_and, Bool.and_eq_true, Bool.and_eq_true, uy_bit, and_assoc]
        simp
      have hN : dif (uy g F 10 &&& op) S < 2 ^ g 1 := dif_lt (Nat.lt_of_le_of_lt Nat.and_le_right hop)
      have ywb : ∀ c b, c < g 1 → upb g 0 c = false → ((yw g c).testBit b = true ↔ b < g 1 ∧ wkn g c b 0 = true) := fun c b hc hu => by
        unfold yw
        rw [if_pos (by rw [slp_bit]; simp [hc, hu]), once_bit]
        simp
      refine ih (i + 1) _ _ (by omega) (set_lt hW.1 hN) (Nat.or_lt_two_pow hS hN) (fun b z => by rw [Nat.testBit_or, z, Bool.or_true]) (fun b p1 p2 p3 p4 => by rw [Nat.testBit_or, h2 b p1 p2 p3 p4]; rfl) (fun b z => ?_) (fun c b z1 z2 p1 p2 p3 p4 => ?_) (fun z => Nat.le_trans (Nat.succ_le_succ (h5 hF0)) (cb_grow (set_lt hW.1 hN) z (fun b zb => ?_)))
      · rw [Nat.testBit_or, Bool.or_eq_true] at z
        rcases z with z | z
        · exact h3 b z
        · obtain ⟨⟨c, c1, c2, c3⟩, z2, z3⟩ := (fb b).mp z
          have hc := h3 c (h1 c c2)
          have hc1 := obl c hc.1
          have hb1 := obl b z2
          have hcu := ((hob c hc1).mp hc.1).1
          have hbu := (hob b hb1).mp z2
          exact ⟨z2, rch_s hb1 hbu.2.1 hbu.2.2 hc1 hc.2 ((ywb c b hc1 hcu).mp c3).2⟩
      · rw [Nat.testBit_or, Bool.or_eq_true]
        rw [Nat.testBit_or, z2, Bool.or_false] at z1
        cases eF : F.testBit c
        · exact Or.inl (h4 c b z1 eF p1 p2 p3 p4)
        · have hc := h3 c z1
          have hc1 := obl c hc.1
          have hcu := ((hob c hc1).mp hc.1).1
          cases eS : S.testBit b
          · exact Or.inr ((fb b).mpr ⟨⟨c, by omega, eF, (ywb c b hc1 hcu).mpr ⟨p1, p4⟩⟩, (hob b p1).mpr ⟨wk c b 0 p4, p2, p3⟩, eS⟩)
          · exact Or.inl rfl
      · cases e : (dif (uy g F 10 &&& op) S).testBit b
        · rfl
        · rw [((fb b).mp e).2.2] at zb; cases zb
  have hfb : ∀ b, (fs &&& op).testBit b = true ↔ wkn g a b n = true ∧ op.testBit b = true := fun b => by
    rw [Nat.testBit_and, Bool.and_eq_true, hfs, once_bit]
    constructor
    · intro z; simp at z; exact ⟨z.1.2, z.2⟩
    · intro z; simp [obl b z.2, z.1, z.2]
  have hl : fs &&& op < 2 ^ g 1 := Nat.lt_of_le_of_lt Nat.and_le_right hop
  refine ⟨10 + 1, ?_⟩
  rw [fa_and]
  refine go 10 0 (fs &&& op) (fs &&& op) (by omega) (set_lt hW.1 hl) hl (fun b z => z) (fun b p1 p2 p3 p4 => (hfb b).mpr ⟨p4, (hob b p1).mpr ⟨wk a b n p4, p2, p3⟩⟩) (fun b z => ?_) (fun c b z1 z2 => by rw [z1] at z2; cases z2) (fun z => ?_)
  · obtain ⟨z1, z2⟩ := (hfb b).mp z
    have q := (hob b (obl b z2)).mp z2
    exact ⟨z2, rch_0 (obl b z2) q.2.1 q.2.2 z1⟩
  · have := cb_grow (s := 0) (set_lt hW.1 hl) z (fun b zb => by rw [Nat.zero_testBit] at zb; cases zb)
    rw [Nat.zero_or] at this
    omega
end SP
