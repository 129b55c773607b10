/-! 54: the reference's isWoken -/
theorem set_lt {g : Nat → Nat} (hh : wfH g) {s : Nat} (h : s < 2 ^ g 1) : s < 1024 := Nat.lt_of_lt_of_le h (show 2 ^ g 1 ≤ 2 ^ 10 from Nat.pow_le_pow_right (by decide) hh.1.2.1)
theorem p_wordOf {w : Wd} {M : Nat} {g : Nat → Nat} {B : Nat} (h : RS w M g) (hh : wfH g) (hs : wfS g 5 B) (hB : B < 2 ^ 24) {a b n k : Nat} (ha : a < g 1) (hb : b < g 1) (hk8 : k < 8) {K : Int32 → Wd → Prop} (hk : K (nI (lEnv g a b n k)) w) : w_X12_wordOf M (nI k) (nI a) (nI b) (nI n) K w := by
  have h10 := hh.1.2.1
  have rd : ∀ c v, v < 10 → c < 1000 → isK w (wR w M 0) 20 ∧ vp_in (nI c + nI v) (wn w (wR w M 0)) ∧ wI w (wR w M 0) (nI c + nI v).toNatClampNeg = nI (g (c + v)) := fun c v hv hc => by
    rw [nI_add]
    exact p_rd (k := c + v) h (by omega) (P := fun z => z = nI (g (c + v))) rfl
  have e : k = 0 ∨ k = 1 ∨ k = 2 ∨ k = 3 ∨ k = 4 ∨ k = 5 ∨ k = 6 ∨ k = 7 := by omega
  rcases e with rfl | rfl | rfl | rfl | rfl | rfl | rfl | rfl
  · obtain ⟨a1, a2, a3⟩ := rd 47 a (by omega) (by omega)
    exact br_t rfl ⟨h.1.1, a1, a2, by rw [show (47 + nI a : Int32) = nI 47 + nI a from rfl, a3]; exact hk⟩
  · obtain ⟨a1, a2, a3⟩ := rd 47 b (by omega) (by omega)
    exact br_f (by decide) (br_t rfl ⟨h.1.1, a1, a2, by rw [show (47 + nI b : Int32) = nI 47 + nI b from rfl, a3]; exact hk⟩)
  · obtain ⟨a1, a2, a3⟩ := rd 15 a (by omega) (by omega)
    exact br_f (by decide) (br_f (by decide) (br_t rfl ⟨h.1.1, a1, a2, by rw [show (15 + nI a : Int32) = nI 15 + nI a from rfl, a3]; exact hk⟩))
  · obtain ⟨a1, a2, a3⟩ := rd 15 b (by omega) (by omega)
    exact br_f (by decide) (br_f (by decide) (br_f (by decide) (br_t rfl ⟨h.1.1, a1, a2, by rw [show (15 + nI b : Int32) = nI 15 + nI b from rfl, a3]; exact hk⟩)))
  · exact br_f (by decide) (br_f (by decide) (br_f (by decide) (br_f (by decide) (br_t rfl hk))))
  · obtain ⟨a1, a2, a3⟩ := p_rd (k := 26) h (by decide) (P := fun z => z = nI (g 26)) rfl
    have h6 : g 26 ≤ B := hs.2.2
    refine br_f (by decide) (br_f (by decide) (br_f (by decide) (br_f (by decide) (br_f (by decide) (br_t rfl ⟨h.1.1, a1, a2, ?_⟩)))))
    rw [show wI w (wR w M 0) (26 : Int32).toNatClampNeg = nI (g 26) from a3, show x_irem (nI (g 26)) 24 = nI (g 26 % 24) from pk_rem (by omega) (by decide) (by decide)]
    exact hk
  · exact br_f (by decide) (br_f (by decide) (br_f (by decide) (br_f (by decide) (br_f (by decide) (br_f (by decide) (br_t rfl ⟨h.1.1, p_phaseIn h hh hs hB hb (n := 0) (by decide) hk⟩))))))
  · obtain ⟨a1, a2, a3⟩ := rd 57 a (by omega) (by omega)
    exact br_f (by decide) (br_f (by decide) (br_f (by decide) (br_f (by decide) (br_f (by decide) (br_f (by decide) (br_f (by decide) ⟨h.1.1, a1, a2, by rw [show (57 + nI a : Int32) = nI 57 + nI a from rfl, a3]; exact p_size (set_lt hh (hh.2.1 a ha).2.2.2) hk⟩))))))
theorem lEnv_ok {g : Nat → Nat} {B : Nat} (hh : wfH g) (hs : wfS g 5 B) {a b n k : Nat} (ha : a < g 1) (hb : b < g 1) (hn : n ≤ 99) : lEnv g a b n k ≤ 99 := by
  have A := hh.2.1 a ha
  have C := hh.2.1 b hb
  have A2 : g (15 + a) ≤ g (47 + a) := (hs.1 a ha).2
  have B2 : g (15 + b) ≤ g (47 + b) := (hs.1 b hb).2
  have D : ph g b 0 < g (27 + b) := Nat.mod_lt _ (by omega)
  have E := cb_le (g (57 + a))
  unfold lEnv
  repeat' split
  all_goals omega
theorem okX_nI {m : Nat} (h : m ≤ 1000000) : okX false (nI m) := by
  show -1000000 ≤ (nI m).toInt ∧ (nI m).toInt ≤ 1000000
  rw [nI_toInt (by omega)]
  omega
theorem okX_not {x : Int32} (h : okX true x) : okX true (1 - x) := by
  rcases h with rfl | rfl
  · exact Or.inr rfl
  · exact Or.inl rfl
theorem p_lawRun {w : Wd} {M : Nat} {g : Nat → Nat} {B : Nat} (h : RS w M g) (hh : wfH g) (hs : wfS g 5 B) (hB : B < 2 ^ 24) {a b n : Nat} (ha : a < g 1) (hb : b < g 1) (hn : n ≤ 99) {E : Nat → Int32 → Wd → Prop} {K : Int32 → Wd → Prop} : ∀ d i f t l, i + d = g 3 → okT g d i t → okV t l → stkR f l → (∀ f' l', l' = lRun g a b n d i l → okV [true] l' → stkR f' l' → E M (nI l'.length) (sI w (M + 6) f')) → l_X12_isWoken_32 E K (d + 1) M (nI a) (nI b) (nI n) (nI l.length) (nI i) (sI w (M + 6) f) := by
  intro d
  have h9 := hh.1.2.2.2.1
  induction d with
  | zero =>
    intro i f t l hi ht hv hst hE
    have hR : RS (sI w (M + 6) f) M g := RSs h (by omega) f
    obtain ⟨a1, a2, a3⟩ := p_rd (k := 3) hR (by decide) (P := fun z => z = nI (g 3)) rfl
    have e : i = g 3 := by omega
    subst e
    have ht' : t = [true] := ht
    subst ht'
    refine ⟨hR.1.1, a1, a2, br_t ?_ (hE f l rfl hv hst)⟩
    rw [show wI (sI w (M + 6) f) (wR (sI w (M + 6) f) M 0) (3 : Int32).toNatClampNeg = nI (g 3) from a3]
    exact nI_le (Nat.le_refl _) (by omega)
  | succ d ih =>
    intro i f t l hi ht hv hst hE
    have hR : RS (sI w (M + 6) f) M g := RSs h (by omega) f
    obtain ⟨a1, a2, a3⟩ := p_rd (k := 3) hR (by decide) (P := fun z => z = nI (g 3)) rfl
    obtain ⟨-, b2, b3⟩ := p_rd (k := 299 + i) hR (by omega) (P := fun z => z = nI (g (299 + i))) rfl
    rw [show nI (299 + i) = 299 + nI i from (nI_add 299 i).symm] at b2 b3
    have hlen := okV_len hv
    have k17 : wR (sI w (M + 6) f) M 17 = M + 6 := h.1.2.2.1.1
    have k20 : isK (sI w (M + 6) f) (M + 6) 20 := h.1.2.2.1.2.1
    have k64 : wn (sI w (M + 6) f) (M + 6) = 64 := h.1.2.2.1.2.2
    have key : ∀ f' l' t', okT g d (i + 1) t' → okV t' l' → stkR f' l' → lStep g a b n (g (299 + i)) l = l' → l_X12_isWoken_32 E K (d + 1) M (nI a) (nI b) (nI n) (nI l'.length) (nI i + 1) (sI w (M + 6) f') := fun f' l' t' q1 q2 q3 q4 => by
      rw [nI_1]
      exact ih (i + 1) f' t' l' (by omega) q1 q2 q3 (fun f'' l'' e => hE f'' l'' (by rw [e, ← q4]; rfl))
    refine ⟨hR.1.1, a1, a2, br_f ?_ ⟨b2, ?_⟩⟩
    · rw [show wI (sI w (M + 6) f) (wR (sI w (M + 6) f) M 0) (3 : Int32).toNatClampNeg = nI (g 3) from a3]
      exact nI_ge (by omega) (by omega)
    rw [b3, k17, k64]
    obtain ⟨hT, hT2⟩ := ht
    rcases hT2 with ⟨hc, hl, hk⟩ | ⟨hc, r, rfl, hk⟩ | ⟨c1, c2, r, rfl, hk⟩ | ⟨c1, c2, r, rfl, hk⟩ | ⟨c1, c2, r, rfl, hk⟩
    · refine br_f (nI_nlt (b := 100) (by omega) (by omega)) ⟨k20, ?_⟩
      by_cases hc1 : 1000 ≤ g (299 + i)
      · refine br_f (nI_nlt (b := 1000) (by omega) (by omega)) ⟨vp_in_nI (by omega) (by decide), ?_⟩
        rw [sI_uI, sI_sI, wI_sI, nI_clamp (by omega), nI_1, show (nI (g (299 + i)) - 1000 : Int32) = nI (g (299 + i) - 1000) from pk_sub (b := 1000) hc1]
        exact key _ (nI (g (299 + i) - 1000) :: l) _ hk ⟨okX_nI (by omega), hv⟩ (stkR_push hst) (if_pos hc1)
      · refine br_t (nI_lt (b := 1000) (by omega) (by omega)) ?_
        rw [show (nI (g (299 + i)) - 100 : Int32) = nI (g (299 + i) - 100) from pk_sub (b := 100) (by omega)]
        refine p_wordOf hR hh hs hB ha hb (by omega) ⟨k20, ?_⟩
        rw [k64]
        refine ⟨vp_in_nI (by omega) (by decide), ?_⟩
        rw [sI_uI, sI_sI, wI_sI, nI_clamp (by omega), nI_1]
        exact key _ (nI (lEnv g a b n (g (299 + i) - 100)) :: l) _ hk ⟨okX_nI (by have := lEnv_ok hh hs (k := g (299 + i) - 100) ha hb hn; omega), hv⟩ (stkR_push hst) (by unfold lStep; rw [if_neg hc1, if_pos (by omega)])
    · obtain ⟨x, l', rfl, hx, hv'⟩ := okV_c hv
      rw [hc]
      refine br_t (by decide) (br_t rfl ⟨k20, ?_⟩)
      have e1 : nI (x :: l').length - 1 = nI l'.length := nI_pred l'.length
      rw [e1]
      have hl : l'.length < 64 := by simp at hlen hT; omega
      refine ⟨vp_in_nI hl (by decide), vp_in_nI hl (by decide), ?_⟩
      rw [sI_uI, sI_sI, wI_sI, nI_clamp (by omega), hst.1]
      exact key _ ((1 - x) :: l') _ hk ⟨okX_not hx, hv'⟩ (stkR_push hst.2) (by unfold lStep; rw [if_neg (by omega), if_neg (by omega), if_pos hc]; rfl)
    all_goals
      obtain ⟨y, l1, rfl, hy, hv1⟩ := okV_c hv
      obtain ⟨x, l', rfl, hx, hv'⟩ := okV_c hv1
      refine br_t (nI_lt (b := 100) (by omega) (by omega)) (br_f (fun z => by have := (nI_eq (b := 18) (by omega) (by decide)).mp z; omega) ⟨k20, ?_⟩)
      have e1 : nI (y :: x :: l').length + (-1) = nI (x :: l').length := pk_m1 _
      have e2 : nI (x :: l').length - 1 = nI l'.length := nI_pred l'.length
      have hl : l'.length + 2 ≤ 64 := by simp at hlen hT; omega
      rw [e1, e2]
      refine ⟨vp_in_nI (by omega) (by decide), vp_in_nI (show l'.length + 1 < 64 by omega) (by decide), ?_⟩
      rw [wI_sI, nI_clamp (n := l'.length) (by omega), nI_clamp (n := (x :: l').length) (show l'.length + 1 < 2 ^ 31 by omega), hst.1, hst.2.1]
      refine p_done ⟨k20, ?_⟩
      rw [k64]
      refine ⟨vp_in_nI (by omega) (by decide), ?_⟩
      rw [sI_uI, sI_sI, wI_sI]
      refine key _ (dnF (nI (g (299 + i))) x.toInt64 y.toInt64 :: l') _ hk ⟨?_, hv'⟩ (stkR_push hst.2.2) (by unfold lStep; rw [if_neg (by omega), if_neg (by omega), if_neg (by omega)]; rfl)
    · have e : g (299 + i) = 10 ∨ g (299 + i) = 11 ∨ g (299 + i) = 12 := by omega
      refine dnF_num ?_ _ _
      rcases e with e | e | e <;> rw [e]
      · exact Or.inl rfl
      · exact Or.inr (Or.inl rfl)
      · exact Or.inr (Or.inr rfl)
    · exact dnF_tru ⟨fun z => by have := (nI_eq (b := 10) (by omega) (by decide)).mp z; omega, fun z => by have := (nI_eq (b := 11) (by omega) (by decide)).mp z; omega, fun z => by have := (nI_eq (b := 12) (by omega) (by decide)).mp z; omega⟩ _ _
    · exact dnF_tru ⟨fun z => by have := (nI_eq (b := 10) (by omega) (by decide)).mp z; omega, fun z => by have := (nI_eq (b := 11) (by omega) (by decide)).mp z; omega, fun z => by have := (nI_eq (b := 12) (by omega) (by decide)).mp z; omega⟩ _ _
/-- whether the law holds -/
def lawB (g : Nat → Nat) (a b n : Nat) : Bool := decide (lRun g a b n (g 3) 0 [] = [1])
def wkn (g : Nat → Nat) (a b n : Nat) : Bool := (g (57 + a)).testBit b && !upb g 0 b && lawB g a b n
theorem p_isWoken {w : Wd} {M : Nat} {g : Nat → Nat} {B : Nat} (h : RS w M g) (hh : wfH g) (hs : wfS g 5 B) (hL : wfL g) (hB : B < 2 ^ 24) {a b n : Nat} (ha : a < g 1) (hb : b < g 1) (hn : n ≤ 99) {K : Int32 → Wd → Prop} (hk : ∀ f, K (b2i (wkn g a b n)) (sI w (M + 6) f)) : w_X12_isWoken M (nI a) (nI b) (nI n) K w := by
  have h10 := hh.1.2.1
  have hk0 : K (b2i (wkn g a b n)) w := by have := hk (wI w (M + 6)); rw [sI_self] at this; exact this
  obtain ⟨a1, a2, a3⟩ := p_rd (k := 57 + a) h (by omega) (P := fun z => z = nI (g (57 + a))) rfl
  rw [show nI (57 + a) = 57 + nI a from (nI_add 57 a).symm] at a2 a3
  refine ⟨h.1.1, a1, a2, ?_⟩
  rw [a3]
  have hset := set_lt hh (hh.2.1 a ha).2.2.2
  refine p_xhas (by omega) (by omega) ?_
  cases e1 : (g (57 + a)).testBit b
  · refine br_t rfl ?_
    rw [show wkn g a b n = false by unfold wkn; rw [e1]; rfl] at hk0
    exact hk0
  refine br_f (by decide) ⟨h.1.1, p_isUp h hh hs hB hb ?_⟩
  cases e2 : upb g 0 b
  case true =>
    refine br_f (by decide) ?_
    rw [show wkn g a b n = false by unfold wkn; rw [e1, e2]; rfl] at hk0
    exact hk0
  refine br_t rfl ?_
  have e3 : wkn g a b n = lawB g a b n := by unfold wkn; rw [e1, e2]; rfl
  rw [e3] at hk hk0
  rcases hL with ⟨h0, -⟩ | ⟨hT, -⟩
  · refine ⟨1, h.1.1, ?_⟩
    obtain ⟨a1, a2, a3⟩ := p_rd (k := 3) h (by decide) (P := fun z => z = nI (g 3)) rfl
    refine ⟨a1, a2, br_t ?_ (br_t (by decide) ?_)⟩
    · rw [show wI w (wR w M 0) (3 : Int32).toNatClampNeg = nI (g 3) from a3, h0]
      decide
    · rw [show lawB g a b n = false by unfold lawB; rw [h0]; rfl] at hk0
      exact hk0
  · refine ⟨g 3 + 1, ?_⟩
    rw [← sI_self w (M + 6)]
    refine p_lawRun h hh hs hB ha hb hn (g 3) 0 (wI w (M + 6)) [] [] (by omega) hT trivial trivial (fun f' l' e hv hst => ?_)
    obtain ⟨x, l2, rfl, hx, hv2⟩ := okV_c hv
    have e4 : l2 = [] := match l2, hv2 with | [], _ => rfl
    subst e4
    refine br_f (show ¬ nI 1 ≤ 0 by decide) ?_
    have k17 : wR (sI w (M + 6) f') M 17 = M + 6 := h.1.2.2.1.1
    have k20 : isK (sI w (M + 6) f') (M + 6) 20 := h.1.2.2.1.2.1
    have k64 : wn (sI w (M + 6) f') (M + 6) = 64 := h.1.2.2.1.2.2
    rw [k17, k64, wI_sI, show f' (0 : Int32).toNatClampNeg = x from hst.1]
    refine ⟨h.1.1, k20, vp_in_nI (n := 0) (by decide) (by decide), ?_⟩
    have hk2 := hk f'
    unfold lawB at hk2
    rw [← e] at hk2
    by_cases hx1 : x = 1
    · refine br_t hx1 ?_
      rw [hx1] at hk2
      exact hk2
    · refine br_f hx1 ?_
      rw [decide_eq_false (fun z => hx1 (List.cons.inj z).1)] at hk2
      exact hk2
