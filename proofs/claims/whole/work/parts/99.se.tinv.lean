/-! 99.se: a line keeps what is well made -/
def TIs (n : Nat) (s : pst) : Prop := psP s ≤ n ∧ psD s = 0 ∧ GI (psG s) ∧ psG s 0 ≤ psP s
section TV
variable {t : Nat → Nat} {n : Nat} {s : pst}
theorem beg_L {k m : Nat} (h : psB (begS t n k m s) = 0) : psB s = 0 ∧ psG s k ≠ m ∧ begS t n k m s = rdS t n s := by
  unfold begS at h ⊢
  by_cases c : psG s k = m
  · rw [if_pos c] at h; exact absurd h (blm_B (by decide))
  · rw [if_neg c] at h ⊢
    by_cases b : psB s = 0
    · rw [if_pos b]; exact ⟨b, c, rfl⟩
    · rw [if_neg b] at h; exact absurd h b
theorem rd_lt (hp : psP s ≤ n) (k0 : txK t n (psP s) ≠ 0) : psP s < psP (rdS t n s) ∧ psP (rdS t n s) ≤ n := by
  have te := txE_in (t := t) hp
  have tb := txB_in (t := t) hp
  have te3 := te.2.2 k0
  refine ⟨?_, te.2.1⟩
  show psP s < txE t n (psP s)
  omega
/-- what a line makes of a row, read well -/
def LN (n : Nat) (s s' : pst) : Prop := psB s' = 0 → psP s < psP s' ∧ psP s' ≤ n ∧ psD s' = 0 ∧ GI (psG s') ∧ psG s' 0 = psG s 0
theorem LN_well (V : TIs n s) (k : isWd t n 3 s = true) : LN n s (wellS t n s) := by
  have tb := isWd_T k
  intro b
  unfold wellS at b ⊢
  by_cases b1 : psB (begS t n 1 10 s) = 0
  · rw [if_pos b1] at b ⊢
    obtain ⟨-, c, e⟩ := beg_L b1
    have l := rd_lt V.1 tb.2
    rw [e] at b b1 ⊢
    by_cases b2 : psB (wlE t n (rdS t n s)) = 0
    · rw [if_pos b2]
      have ro := RO_wE (t := t) (n := n) (s := rdS t n s)
      obtain ⟨-, r2⟩ := ro.2.2 b2
      obtain ⟨r3, r4⟩ := r2 l.2
      have h10 := V.2.2.1.1.1
      have rD := ro.2.1
      have gi := GI_well (g := psG s) (r := wlR t n (rdS t n s)) (x := wlU t n (rdS t n s)) (h := wlH t n (rdS t n s)) (d := wlP t n (rdS t n s)) (v := wlW t n (rdS t n s)) V.2.2.1 (by omega) wlR_in wlU_in wlH_in wlP_in wlW_in
      have e0 : addW (psG s) (wlR t n (rdS t n s)) (wlU t n (rdS t n s)) (wlH t n (rdS t n s)) (wlP t n (rdS t n s)) (wlW t n (rdS t n s)) 0 = psG s 0 := by
        unfold addW
        rw [upG_n (by omega), upG_n (by omega), upG_n (by omega), upG_n (by omega), upG_n (by omega), upG_n (by omega)]
      clear ro r2 b
      generalize wlE t n (rdS t n s) = e9 at *
      generalize wlR t n (rdS t n s) = v1 at *
      generalize wlU t n (rdS t n s) = v2 at *
      generalize wlH t n (rdS t n s) = v3 at *
      generalize wlP t n (rdS t n s) = v4 at *
      generalize wlW t n (rdS t n s) = v5 at *
      refine ⟨?_, r4, rD.trans V.2.1, gi, e0⟩
      show psP s < psP e9
      omega
    · rw [if_neg b2] at b; exact absurd b b2
  · rw [if_neg b1] at b; exact absurd b b1
theorem bzA_L (h : psB (bzA t n s) = 0) : psB s = 0 ∧ txK t n (psP s) = 2 ∧ bzV t n s < psG s 1 ∧ bzV t n s = txV t n (psP s) ∧ bzA t n s = rdS t n s := by
  obtain ⟨h1, h2, h3, h4, h5⟩ := numS_L h
  refine ⟨h1, h2, ?_, h5, h4⟩
  unfold bzV
  rw [h5]
  exact h3.2
theorem hs_L : ∀ F s x, psB (hsS t n (F + 1) s) = 0 → x < 2 ^ psG s 1 → hsV t n (F + 1) s x < 2 ^ psG s 1 := by
  intro F
  induction F with
  | zero =>
    intro s x h hx
    have b : psB (bzA t n s) = 0 := by
      unfold hsS at h
      split at h
      · rename_i c; exact c.1
      · exact h
    have q := bzA_L b
    have y : x ||| 2 ^ bzV t n s < 2 ^ psG s 1 := Nat.or_lt_two_pow hx (Nat.pow_lt_pow_right (by decide) q.2.2.1)
    unfold hsV
    split
    · exact y
    · exact y
  | succ F ih =>
    intro s x h hx
    have gA : psG (bzA t n s) = psG s := (RO_bzA (t := t) (n := n) (s := s)).1
    unfold hsS at h
    unfold hsV
    by_cases c : psB (bzA t n s) = 0 ∧ txK t n (psP (bzA t n s)) = 2
    · rw [if_pos c] at h ⊢
      have q := bzA_L c.1
      have y : x ||| 2 ^ bzV t n s < 2 ^ psG s 1 := Nat.or_lt_two_pow hx (Nat.pow_lt_pow_right (by decide) q.2.2.1)
      have z := ih (bzA t n s) (x ||| 2 ^ bzV t n s) h (by rw [gA]; exact y)
      rw [gA] at z
      exact z
    · rw [if_neg c] at h ⊢
      have q := bzA_L h
      exact Nat.or_lt_two_pow hx (Nat.pow_lt_pow_right (by decide) q.2.2.1)
theorem LN_house (V : TIs n s) (k : isWd t n 10 s = true) : LN n s (houseS t n s) := by
  have tb := isWd_T k
  intro b
  unfold houseS at b ⊢
  by_cases b1 : psB (begS t n 2 6 s) = 0
  · rw [if_pos b1] at b ⊢
    obtain ⟨-, c, e⟩ := beg_L b1
    have l := rd_lt V.1 tb.2
    rw [e] at b b1 ⊢
    by_cases b2 : psB (hsS t n 901 (hsA t n (rdS t n s))) = 0
    · rw [if_pos b2]
      have ro := RO_t (RO_hsA (t := t) (n := n) (s := rdS t n s)) (RO_hsS (t := t) 901 _)
      obtain ⟨-, r2⟩ := ro.2.2 b2
      obtain ⟨r3, r4⟩ := r2 l.2
      have h6 := V.2.2.1.1.2.1
      have gA : psG (hsA t n (rdS t n s)) = psG s := (RO_hsA (t := t) (n := n) (s := rdS t n s)).1
      have hv := hs_L 900 (hsA t n (rdS t n s)) 0 b2 (Nat.two_pow_pos _)
      rw [gA] at hv
      have rD := ro.2.1
      have gi := GI_house (g := psG s) (x := numV t n 1 100 (rdS t n s)) V.2.2.1 (by omega) (numV_in (by decide)) hv
      have e0 : addH (psG s) (numV t n 1 100 (rdS t n s)) (hsV t n 901 (hsA t n (rdS t n s)) 0) 0 = psG s 0 := by
        unfold addH
        rw [upG_n (by omega), upG_n (by omega), upG_n (by omega)]
      clear ro r2 b gA
      generalize hsV t n 901 (hsA t n (rdS t n s)) 0 = v2 at *
      generalize hsS t n 901 (hsA t n (rdS t n s)) = e9 at *
      generalize numV t n 1 100 (rdS t n s) = v1 at *
      refine ⟨?_, r4, rD.trans V.2.1, gi, e0⟩
      show psP s < psP e9
      omega
    · rw [if_neg b2] at b; exact absurd b b2
  · rw [if_neg b1] at b; exact absurd b b1
theorem LN_bes (V : TIs n s) (k : isWd t n 9 s = true) : LN n s (besS t n (rdS t n s)) := by
  have tb := isWd_T k
  intro b
  have l := rd_lt V.1 tb.2
  unfold besS at b ⊢
  by_cases b2 : psB (bzA t n (bzB t n (rdS t n s))) = 0
  · rw [if_pos b2]
    have ro := RO_t (RO_bzB (t := t) (n := n) (s := rdS t n s)) (RO_bzA (t := t))
    obtain ⟨-, r2⟩ := ro.2.2 b2
    obtain ⟨r3, r4⟩ := r2 l.2
    obtain ⟨q1, q2, q3, q4, q5⟩ := bzA_L b2
    have gB : psG (bzB t n (rdS t n s)) = psG s := (RO_bzB (t := t) (n := n) (s := rdS t n s)).1
    have bA : psB (bzA t n (rdS t n s)) = 0 := by
      unfold bzB at q1
      split at q1
      · exact absurd q1 (blm_B (by decide))
      · exact q1
    have p := bzA_L bA
    have nc : ¬ (psB (bzA t n (rdS t n s)) = 0 ∧ txK t n (psP (bzA t n (rdS t n s))) = 2 ∧ txV t n (psP (bzA t n (rdS t n s))) = bzV t n (rdS t n s)) := fun c => by
      unfold bzB at q1
      rw [if_pos c] at q1
      exact absurd q1 (blm_B (by decide))
    have eB : bzB t n (rdS t n s) = bzA t n (rdS t n s) := if_neg nc
    rw [gB] at q3
    have ne : bzV t n (rdS t n s) ≠ bzV t n (bzB t n (rdS t n s)) := fun e => nc ⟨bA, by rw [← eB]; exact q2, by rw [e, q4, eB]⟩
    have rD := ro.2.1
    have gi := GI_join V.2.2.1 p.2.2.1 q3 ne
    have e0 : joinG (psG s) (bzV t n (rdS t n s)) (bzV t n (bzB t n (rdS t n s))) 0 = psG s 0 := joinG_n (by omega) (by omega)
    clear ro r2 b nc p q4 q5 q1 q2 eB gB bA ne
    generalize bzV t n (bzB t n (rdS t n s)) = v2 at *
    generalize bzA t n (bzB t n (rdS t n s)) = e9 at *
    generalize bzV t n (rdS t n s) = v1 at *
    refine ⟨?_, r4, rD.trans V.2.1, gi, e0⟩
    show psP s < psP e9
    omega
  · rw [if_neg b2] at b; exact absurd b b2
theorem LN_hour (V : TIs n s) (k : isWd t n 19 s = true) : LN n s (hourS t n (rdS t n s)) := by
  have tb := isWd_T k
  intro b
  have l := rd_lt V.1 tb.2
  have b2 : psB (numS t n 0 1000 (rdS t n s)) = 0 := b
  have ro := RO_num (t := t) (n := n) (s := rdS t n s) (lo := 0) (hi := 1000)
  obtain ⟨-, r2⟩ := ro.2.2 b2
  obtain ⟨r3, r4⟩ := r2 l.2
  have vi := numV_in (t := t) (n := n) (s := rdS t n s) (lo := 0) (hi := 1000) (by decide)
  have rD := ro.2.1
  unfold hourS
  clear ro r2 b
  generalize numS t n 0 1000 (rdS t n s) = e9 at *
  generalize numV t n 0 1000 (rdS t n s) = v1 at *
  refine ⟨?_, r4, rD.trans V.2.1, ?_, ?_⟩
  · show psP s < psP e9
    omega
  · show GI (upG 26 v1 (psG s))
    refine GI_cg (fun j j0 j26 => upG_n j26) ?_ V.2.2.1
    rw [upG_s]
    omega
  · show upG 26 v1 (psG s) 0 = psG s 0
    exact upG_n (by decide)
theorem LN_law (V : TIs n s) (hn : n ≤ 900) (k : isWd t n 12 s = true) : LN n s (uG t n 30 1 (setG (upG 3 0 (psG s)) (rdS t n s))) := by
  have tb := isWd_T k
  intro b
  have l := rd_lt V.1 tb.2
  have b0 : psB (setG (upG 3 0 (psG s)) (rdS t n s)) = 0 := tb.1
  have d0 : psD (setG (upG 3 0 (psG s)) (rdS t n s)) = 0 := V.2.1
  have G := uG_30 (t := t) (n := n) (s := setG (upG 3 0 (psG s)) (rdS t n s)) l.2 (by rw [d0]; decide)
  have g3 : psG (setG (upG 3 0 (psG s)) (rdS t n s)) 3 = 0 := upG_s 3 0 (psG s)
  obtain ⟨a1, a2, a3, a4, a5, a6⟩ := (G.2.2 b0).2 b
  have a1' : psP (rdS t n s) < psP (uG t n 30 1 (setG (upG 3 0 (psG s)) (rdS t n s))) := a1
  have a4' : psG (uG t n 30 1 (setG (upG 3 0 (psG s)) (rdS t n s))) 3 + psP (rdS t n s) ≤ 0 + psP (uG t n 30 1 (setG (upG 3 0 (psG s)) (rdS t n s))) := by
    rw [g3] at a4
    exact a4
  rw [g3] at a5 a6
  obtain ⟨g', hg'⟩ : ∃ g', g' = psG (uG t n 30 1 (setG (upG 3 0 (psG s)) (rdS t n s))) := ⟨_, rfl⟩
  rw [← hg'] at a4' a5 a6 ⊢
  have e : ∀ j, j ≠ 3 → j < 299 → g' j = psG s j := fun j j3 jl => (a5 j j3 (by omega)).trans (upG_n j3)
  have ty := a6 [] (by rw [d0]; decide)
  have ok := ty.2 g' (fun _ _ _ => rfl) 0 rfl
  rw [Nat.sub_zero, Nat.zero_add] at ok
  refine ⟨by omega, a2, G.1.trans d0, ?_, e 0 (by decide) (by decide)⟩
  obtain ⟨⟨h1, h2, h3, h4, h5⟩, w, z, ho, lw, ir⟩ := V.2.2.1
  have e1 := e 1 (by decide) (by decide)
  have e2 := e 2 (by decide) (by decide)
  refine ⟨⟨by omega, by omega, by rw [e 4 (by decide) (by decide)]; exact h3, by rw [e 25 (by decide) (by decide)]; exact h4, by rw [e 26 (by decide) (by decide)]; exact h5⟩, fun v hv => ?_, fun v v1 v2 => ?_, fun h hh => ?_, ⟨by omega, Or.inr ok⟩, irr_of e1 (fun v hv => e _ (by omega) (by omega)) ir⟩
  · rw [e1] at hv
    have y := w v hv
    unfold gWl at y ⊢
    rw [e1, e (27 + v) (by omega) (by omega), e (37 + v) (by omega) (by omega), e (47 + v) (by omega) (by omega), e (57 + v) (by omega) (by omega), e (5 + v) (by omega) (by omega), e (15 + v) (by omega) (by omega)]
    exact y
  · rw [e _ (by omega) (by omega)]
    exact z v v1 (by omega)
  · rw [e1, e (67 + h) (by omega) (by omega), e (73 + h) (by omega) (by omega)]
    exact ho h (by omega)
theorem LN_ln (V : TIs n s) (hn : n ≤ 900) : LN n s (lnS t n s) := by
  unfold lnS
  cases c1 : isWd t n 3 s
  case true => rw [if_pos rfl]; exact LN_well V c1
  rw [if_neg bft]
  cases c2 : isWd t n 10 s
  case true => rw [if_pos rfl]; exact LN_house V c2
  rw [if_neg bft]
  cases c3 : isWd t n 9 s
  case true => rw [if_pos rfl]; exact LN_bes V c3
  rw [if_neg bft]
  cases c4 : isWd t n 19 s
  case true => rw [if_pos rfl]; exact LN_hour V c4
  rw [if_neg bft]
  cases c5 : isWd t n 12 s
  case true => rw [if_pos rfl]; exact LN_law V hn c5
  rw [if_neg bft]
  exact fun b => absurd b (blm_B (by decide))
/-- a line, with its end -/
theorem TI_line (V : TIs n s) (hn : n ≤ 900) (b : psB (lineS t n s) = 0) : TIs n (lineS t n s) ∧ psP s < psP (lineS t n s) ∧ psB (lnS t n s) = 0 := by
  unfold lineS stS at b ⊢
  by_cases b1 : psB (mS t n 59 (lnS t n s)) = 0
  · rw [if_pos b1] at b ⊢
    obtain ⟨b2, k, e⟩ := mS_L b1
    obtain ⟨l1, l2, l3, l4, l5⟩ := LN_ln (t := t) V hn b2
    have l := rd_lt l2 (show txK t n (psP (lnS t n s)) ≠ 0 by omega)
    have v0 := V.2.2.2
    rw [e]
    refine ⟨⟨l.2, l3, ?_, ?_⟩, ?_, b2⟩
    · show GI (upG 0 (psG (lnS t n s) 0 + 1) (psG (lnS t n s)))
      exact GI_cg (fun j j0 j26 => upG_n j0) (by rw [upG_n (by decide)]; exact l4.1.2.2.2.2) l4
    · show upG 0 (psG (lnS t n s) 0 + 1) (psG (lnS t n s)) 0 ≤ psP (rdS t n (lnS t n s))
      rw [upG_s]
      omega
    · show psP s < psP (rdS t n (lnS t n s))
      omega
  · rw [if_neg b1] at b; exact absurd b b1
end TV
