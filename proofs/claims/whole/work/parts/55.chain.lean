/-! 55: whom a noise reaches; the reference's wokenBy -/
def rsP (g : Nat → Nat) (a n up : Nat) : Nat → Nat → Prop
  | 0, b => b < g 1 ∧ b ≠ a ∧ up.testBit b = false ∧ wkn g a b n = true
  | k + 1, b => rsP g a n up k b ∨ (b < g 1 ∧ b ≠ a ∧ up.testBit b = false ∧ ∃ c, c < g 1 ∧ rsP g a n up k c ∧ wkn g c b 0 = true)
def rch (g : Nat → Nat) (a n up b : Nat) : Prop := ∃ k, rsP g a n up k b
theorem rch_0 {g : Nat → Nat} {a n up b : Nat} (h1 : b < g 1) (h2 : b ≠ a) (h3 : up.testBit b = false) (h4 : wkn g a b n = true) : rch g a n up b := ⟨0, h1, h2, h3, h4⟩
theorem rch_s {g : Nat → Nat} {a n up b c : Nat} (h1 : b < g 1) (h2 : b ≠ a) (h3 : up.testBit b = false) (hc : c < g 1) (hr : rch g a n up c) (h4 : wkn g c b 0 = true) : rch g a n up b := by
  obtain ⟨k, hk⟩ := hr
  exact ⟨k + 1, Or.inr ⟨h1, h2, h3, c, hc, hk, h4⟩⟩
theorem rch_ind {g : Nat → Nat} {a n up : Nat} {S : Nat → Prop} (h0 : ∀ b, b < g 1 → b ≠ a → up.testBit b = false → wkn g a b n = true → S b) (hs : ∀ b c, b < g 1 → b ≠ a → up.testBit b = false → c < g 1 → S c → wkn g c b 0 = true → S b) {b : Nat} (h : rch g a n up b) : S b := by
  obtain ⟨k, hk⟩ := h
  have go : ∀ k b, rsP g a n up k b → S b := by
    intro k
    induction k with
    | zero => exact fun b h => h0 b h.1 h.2.1 h.2.2.1 h.2.2.2
    | succ k ih =>
      intro b h
      rcases h with h | ⟨h1, h2, h3, c, hc, hr, h4⟩
      · exact ih b h
      · exact hs b c h1 h2 h3 hc (ih c hr) h4
  exact go k b hk
noncomputable def clo (g : Nat → Nat) (a n up : Nat) : Nat := mk (fun b => @decide (rch g a n up b) (Classical.propDecidable _)) (g 1)
theorem clo_lt (g : Nat → Nat) (a n up : Nat) : clo g a n up < 2 ^ g 1 := mk_lt _ _
theorem clo_bit (g : Nat → Nat) (a n up b : Nat) : (clo g a n up).testBit b = true ↔ b < g 1 ∧ rch g a n up b := by
  unfold clo
  rw [mk_bit]
  simp
theorem clo_eq {g : Nat → Nat} {a n up s : Nat} (hs : s < 2 ^ g 1) (h : ∀ b, b < g 1 → (s.testBit b = true ↔ rch g a n up b)) : s = clo g a n up := mk_ext hs (clo_lt g a n up) (fun k hk => by
  rw [Bool.eq_iff_iff, clo_bit, h k hk]
  exact ⟨fun z => ⟨hk, z⟩, fun z => z.2⟩)
/-- a set on the way: the first ones are in it, and none but those that are reached -/
def onW (g : Nat → Nat) (a n up s : Nat) : Prop := s < 2 ^ g 1 ∧ (∀ b, b < g 1 → b ≠ a → up.testBit b = false → wkn g a b n = true → s.testBit b = true) ∧ ∀ b, s.testBit b = true → rch g a n up b
def fedBy (g : Nat → Nat) (a up s c m : Nat) : Prop := ∀ b, b < m → b ≠ a → up.testBit b = false → wkn g c b 0 = true → s.testBit b = true
def subS (s t : Nat) : Prop := ∀ b, s.testBit b = true → t.testBit b = true
theorem subS_le {s t : Nat} (h : subS s t) : s ≤ t := by
  have e : s ||| t = t := Nat.eq_of_testBit_eq fun i => by
    rw [Nat.testBit_or]
    cases e : s.testBit i
    · rfl
    · rw [h i e]; rfl
  rw [← e]
  exact Nat.left_le_or
theorem or_bit (s i k : Nat) : (s ||| 2 ^ i).testBit k = (s.testBit k || decide (i = k)) := by rw [Nat.testBit_or, Nat.testBit_two_pow]
theorem or_lt {s i m : Nat} (hs : s < 2 ^ m) (hi : i < m) : s ||| 2 ^ i < 2 ^ m := Nat.or_lt_two_pow hs (Nat.pow_lt_pow_right (by decide) hi)
section WB
variable {w : Wd} {M : Nat} {g : Nat → Nat} {B : Nat} {a n up : Nat} {K : Int32 → Wd → Prop}
theorem p_wb89 (h : RS w M g) (hh : wfH g) (hs : wfS g 5 B) (hL : wfL g) (hB : B < 2 ^ 24) (ha : a < g 1) (hu : up < 1024) {E : Nat → Int32 → Int32 → Int32 → Int32 → Int32 → Wd → Prop} {t c : Nat} (ht : t < 1024) (hc : c < g 1) (hct : t.testBit c = true → rch g a n up c) : ∀ d i s f, i + d = g 1 → onW g a n up s → (t.testBit c = true → fedBy g a up s c i) → (∀ s' f', onW g a n up s' → subS s s' → (t.testBit c = true → fedBy g a up s' c (g 1)) → E M (nI a) (nI up) (nI s') (nI t) (nI c) (sI w (M + 6) f')) → l_X12_wokenBy_89 E K (d + 1) M (nI a) (nI up) (nI s) (nI t) (nI c) (nI i) (sI w (M + 6) f) := by
  have h10 := hh.1.2.1
  intro d
  induction d with
  | zero =>
    intro i s f hi ho hf hE
    have hR : RS (sI w (M + 6) f) M g := RSs h (by omega) f
    have : i = g 1 := by omega
    subst this
    exact ⟨hR.1.1, p_wells hR (br_t (nI_le (Nat.le_refl _) (by omega)) (hE s f ho (fun b z => z) hf))⟩
  | succ d ih =>
    intro i s f hi ho hf hE
    have hR : RS (sI w (M + 6) f) M g := RSs h (by omega) f
    have hs10 := set_lt hh ho.1
    refine ⟨hR.1.1, p_wells hR (br_f (nI_ge (by omega) (by omega)) (p_xhas (by omega) (by omega) ?_))⟩
    cases e1 : t.testBit c
    · exact br_t rfl (hE s f ho (fun b z => z) (fun z => by rw [e1] at z; cases z))
    have hf := hf e1
    refine br_f (by decide) ?_
    have stay : (i = a ∨ up.testBit i = true ∨ s.testBit i = true ∨ wkn g c i 0 = false) → ∀ f', l_X12_wokenBy_89 E K (d + 1) M (nI a) (nI up) (nI s ||| 0) (nI t) (nI c) (nI i + 1) (sI w (M + 6) f') := fun q f' => by
      rw [p_or0, nI_1]
      refine ih (i + 1) s f' (by omega) ho (fun _ b hb h2 h3 h4 => ?_) hE
      by_cases e : b < i
      · exact hf b e h2 h3 h4
      · have : b = i := by omega
        subst this
        rcases q with q | q | q | q
        · exact absurd q h2
        · rw [h3] at q; cases q
        · exact q
        · rw [h4] at q; cases q
    by_cases e2 : i = a
    · exact br_t (by rw [e2]) (stay (Or.inl e2) f)
    refine br_f (fun z => e2 ((nI_eq (by omega) (by omega)).mp z)) ?_
    rw [fa_or]
    have hor : up ||| s < 2 ^ 10 := Nat.or_lt_two_pow hu hs10
    refine p_xhas (by omega) (by omega) ?_
    rw [Nat.testBit_or]
    cases e3 : up.testBit i
    case true => exact br_f (show ¬ (1 : Int32) = 0 by decide) (stay (Or.inr (Or.inl e3)) f)
    cases e4 : s.testBit i
    case true => exact br_f (by decide) (stay (Or.inr (Or.inr (Or.inl e4))) f)
    refine br_t rfl ⟨hR.1.1, p_isWoken hR hh hs hL hB hc (b := i) (by omega) (n := 0) (by decide) (fun f' => ?_)⟩
    rw [sI_sI]
    cases e5 : wkn g c i 0
    · exact br_t rfl (stay (Or.inr (Or.inr (Or.inr e5))) f')
    · refine br_f (by decide) ?_
      rw [p_one (by omega), fa_or, nI_1]
      have hsub : subS s (s ||| 2 ^ i) := fun b z => by rw [or_bit, z]; rfl
      refine ih (i + 1) (s ||| 2 ^ i) f' (by omega) ⟨or_lt ho.1 (by omega), fun b q1 q2 q3 q4 => hsub b (ho.2.1 b q1 q2 q3 q4), fun b z => ?_⟩ (fun _ b hb h2 h3 h4 => ?_) (fun s' f'' q1 q2 q3 => hE s' f'' q1 (fun b z => q2 b (hsub b z)) q3)
      · rw [or_bit] at z
        by_cases e : i = b
        · subst e
          exact rch_s (by omega) e2 e3 hc (hct e1) e5
        · exact ho.2.2 b (by simpa [e] using z)
      · by_cases e : b < i
        · exact hsub b (hf b e h2 h3 h4)
        · have : i = b := by omega
          rw [or_bit, decide_eq_true this, Bool.or_true]
theorem p_wb77 (h : RS w M g) (hh : wfH g) (hs : wfS g 5 B) (hL : wfL g) (hB : B < 2 ^ 24) (ha : a < g 1) (hu : up < 1024) {E : Nat → Int32 → Int32 → Int32 → Int32 → Wd → Prop} {t : Nat} (ht : onW g a n up t) : ∀ d i s f, i + d = g 1 → onW g a n up s → (∀ c, c < i → t.testBit c = true → fedBy g a up s c (g 1)) → (∀ s' f', onW g a n up s' → subS s s' → (∀ c, c < g 1 → t.testBit c = true → fedBy g a up s' c (g 1)) → E M (nI a) (nI up) (nI s') (nI t) (sI w (M + 6) f')) → l_X12_wokenBy_77 E K (d + 1) M (nI a) (nI up) (nI s) (nI t) (nI i) (sI w (M + 6) f) := by
  have h10 := hh.1.2.1
  have ht10 := set_lt hh ht.1
  intro d
  induction d with
  | zero =>
    intro i s f hi ho hf hE
    have hR : RS (sI w (M + 6) f) M g := RSs h (by omega) f
    have : i = g 1 := by omega
    subst this
    exact ⟨hR.1.1, p_wells hR (br_t (nI_le (Nat.le_refl _) (by omega)) (hE s f ho (fun b z => z) hf))⟩
  | succ d ih =>
    intro i s f hi ho hf hE
    have hR : RS (sI w (M + 6) f) M g := RSs h (by omega) f
    refine ⟨hR.1.1, p_wells hR (br_f (nI_ge (by omega) (by omega)) ⟨g 1 + 1, ?_⟩)⟩
    refine p_wb89 h hh hs hL hB ha hu ht10 (by omega) (ht.2.2 i) (g 1) 0 s f (by omega) ho (fun _ b hb => absurd hb (Nat.not_lt_zero b)) (fun s' f' q1 q2 q3 => ?_)
    rw [nI_1]
    refine ih (i + 1) s' f' (by omega) q1 (fun c hc z b p1 p2 p3 p4 => ?_) (fun s'' f'' r1 r2 r3 => hE s'' f'' r1 (fun b z => r2 b (q2 b z)) r3)
    by_cases e : c < i
    · exact q2 b (hf c e z b p1 p2 p3 p4)
    · have : c = i := by omega
      subst this
      exact q3 z b p1 p2 p3 p4
theorem p_wb63 (h : RS w M g) (hh : wfH g) (hs : wfS g 5 B) (hL : wfL g) (hB : B < 2 ^ 24) (ha : a < g 1) (hu : up < 1024) (hk : ∀ f, K (nI (clo g a n up)) (sI w (M + 6) f)) : ∀ m s t f, 1024 - s ≤ m → onW g a n up s → (t = nI s → ∀ c, c < g 1 → s.testBit c = true → fedBy g a up s c (g 1)) → l_X12_wokenBy_63 K (m + 2) M (nI a) (nI up) (nI s) t (sI w (M + 6) f) := by
  have fin : ∀ s t f m, onW g a n up s → t = nI s → (∀ c, c < g 1 → s.testBit c = true → fedBy g a up s c (g 1)) → l_X12_wokenBy_63 K (m + 1) M (nI a) (nI up) (nI s) t (sI w (M + 6) f) := fun s t f m ho ht hc => by
    refine br_t ht ?_
    have e : s = clo g a n up := clo_eq ho.1 (fun b hb => ⟨fun z => ho.2.2 b z, fun z => rch_ind (S := fun b => s.testBit b = true) ho.2.1 (fun b c p1 p2 p3 p4 p5 p6 => hc c p4 p5 b p1 p2 p3 p6) z⟩)
    rw [e]
    exact hk f
  intro m
  induction m with
  | zero =>
    intro s t f hm ho
    have := set_lt hh ho.1
    omega
  | succ m ih =>
    intro s t f hm ho ht
    by_cases e : t = nI s
    · exact fin s t f _ ho e (ht e)
    refine br_f e ⟨g 1 + 1, ?_⟩
    refine p_wb77 h hh hs hL hB ha hu ho (g 1) 0 s f (by omega) ho (fun c hc => absurd hc (Nat.not_lt_zero c)) (fun s' f' q1 q2 q3 => ?_)
    have hle := subS_le q2
    by_cases e2 : s' = s
    · subst e2
      exact fin s' _ f' _ q1 rfl q3
    · have hs' := set_lt hh q1.1
      exact ih s' (nI s) f' (by omega) q1 (fun z => absurd ((nI_eq (by omega) (by omega)).mp z).symm e2)
theorem p_wokenBy (h : RS w M g) (hh : wfH g) (hs : wfS g 5 B) (hL : wfL g) (hB : B < 2 ^ 24) (ha : a < g 1) (hn : n ≤ 99) (hu : up < 1024) (hk : ∀ f, K (nI (clo g a n up)) (sI w (M + 6) f)) : w_X12_wokenBy M (nI a) (nI n) (nI up) K w := by
  have h10 := hh.1.2.1
  have go : ∀ d i f, i + d = g 1 → l_X12_wokenBy_6 (fun b13 b14 b15 b16 w17 => ∃ n53, l_X12_wokenBy_63 K n53 b13 b14 b15 b16 (-1) w17) K (d + 1) M (nI a) (nI n) (nI up) (nI (mk (fun b => decide (b ≠ a) && !up.testBit b && wkn g a b n) i)) (nI i) (sI w (M + 6) f) := by
    intro d
    induction d with
    | zero =>
      intro i f hi
      have hR : RS (sI w (M + 6) f) M g := RSs h (by omega) f
      have : i = g 1 := by omega
      subst this
      refine ⟨hR.1.1, p_wells hR (br_t (nI_le (Nat.le_refl _) (by omega)) ⟨1024 + 2, ?_⟩)⟩
      refine p_wb63 h hh hs hL hB ha hu hk 1024 _ (-1) f (by omega) ⟨mk_lt _ _, fun b p1 p2 p3 p4 => ?_, fun b z => ?_⟩ (fun z => ?_)
      · rw [mk_bit]
        simp [p1, p2, p3, p4]
      · rw [mk_bit] at z
        simp at z
        exact rch_0 z.1 z.2.1.1 z.2.1.2 z.2.2
      · have := set_lt hh (mk_lt (fun b => decide (b ≠ a) && !up.testBit b && wkn g a b n) (g 1))
        have e := congrArg Int32.toInt z
        rw [nI_toInt (by omega)] at e
        have e2 : (-1 : Int32).toInt = -1 := by decide
        omega
    | succ d ih =>
      intro i f hi
      have hR : RS (sI w (M + 6) f) M g := RSs h (by omega) f
      have off : (decide (i ≠ a) && !up.testBit i && wkn g a i n) = false → ∀ f', l_X12_wokenBy_6 (fun b13 b14 b15 b16 w17 => ∃ n53, l_X12_wokenBy_63 K n53 b13 b14 b15 b16 (-1) w17) K (d + 1) M (nI a) (nI n) (nI up) (nI (mk (fun b => decide (b ≠ a) && !up.testBit b && wkn g a b n) i) ||| 0) (nI i + 1) (sI w (M + 6) f') := fun q f' => by
        have e := ih (i + 1) f' (by omega)
        rw [mk_f (p := fun b => decide (b ≠ a) && !up.testBit b && wkn g a b n) q] at e
        rw [p_or0, nI_1]
        exact e
      refine ⟨hR.1.1, p_wells hR (br_f (nI_ge (by omega) (by omega)) ?_)⟩
      by_cases e2 : i = a
      · exact br_t (by rw [e2]) (off (by simp [e2]) f)
      refine br_f (fun z => e2 ((nI_eq (by omega) (by omega)).mp z)) (p_xhas (by omega) (by omega) ?_)
      cases e3 : up.testBit i
      case true => exact br_f (by decide) (off (by simp [e3]) f)
      refine br_t rfl ⟨hR.1.1, p_isWoken hR hh hs hL hB ha (b := i) (by omega) hn (fun f' => ?_)⟩
      rw [sI_sI]
      cases e5 : wkn g a i n
      · exact br_t rfl (off (by simp [e5]) f')
      · refine br_f (by decide) ?_
        have e := ih (i + 1) f' (by omega)
        rw [mk_t (p := fun b => decide (b ≠ a) && !up.testBit b && wkn g a b n) (by simp [e2, e3, e5])] at e
        rw [p_one (by omega), p_or _ (by omega), nI_1]
        exact e
  have e := go (g 1) 0 (wI w (M + 6)) (by omega)
  rw [sI_self] at e
  exact ⟨g 1 + 1, e⟩
end WB
