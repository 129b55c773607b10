/-! 99.s1: the reading of a law, as a function on states: place, fault (0 none), its place, depth, the row told -/
abbrev pst := Nat × Nat × Nat × Nat × (Nat → Nat)
def psP (s : pst) : Nat := s.1
def psB (s : pst) : Nat := s.2.1
def psL (s : pst) : Nat := s.2.2.1
def psD (s : pst) : Nat := s.2.2.2.1
def psG (s : pst) : Nat → Nat := s.2.2.2.2
def rdS (t : Nat → Nat) (n : Nat) (s : pst) : pst := (txE t n (psP s), s.2)
def blm (t : Nat → Nat) (n k : Nat) (s : pst) : pst := if psB s = 0 then (psP s, (if txK t n (psP s) = 3 then 1 else k), txB t n (psP s), psD s, psG s) else s
def isSg (t : Nat → Nat) (n c : Nat) (s : pst) : Bool := decide (psB s = 0) && decide (txK t n (psP s) = c)
def isWd (t : Nat → Nat) (n a : Nat) (s : pst) : Bool := decide (psB s = 0) && isW t n (psP s) a
def mS (t : Nat → Nat) (n c : Nat) (s : pst) : pst := if psB s = 0 then (if txK t n (psP s) = c then rdS t n s else blm t n 2 s) else s
def numV (t : Nat → Nat) (n lo hi : Nat) (s : pst) : Nat := if psB s = 0 ∧ txK t n (psP s) = 2 ∧ lo ≤ txV t n (psP s) ∧ txV t n (psP s) < hi then txV t n (psP s) else lo
def numS (t : Nat → Nat) (n lo hi : Nat) (s : pst) : pst := if psB s = 0 then (if txK t n (psP s) = 2 then (if lo ≤ txV t n (psP s) ∧ txV t n (psP s) < hi then rdS t n s else blm t n 3 s) else blm t n 2 s) else s
def layG (c : Nat) (g : Nat → Nat) : Nat → Nat := fun k => if k = 3 then g 3 + 1 else if k = 299 + g 3 then c else g k
def lay (c : Nat) (s : pst) : pst := if psB s = 0 then (psP s, psB s, psL s, psD s, layG c (psG s)) else s
def deepS (d : Nat) (s : pst) : pst := (psP s, psB s, psL s, d, psG s)
def gin (t : Nat → Nat) (n : Nat) (s : pst) : pst := if psD s = 6 then deepS (psD s + 1) (blm t n 4 s) else (if psB s = 0 then rdS t n (deepS (psD s + 1) s) else deepS (psD s + 1) s)
def outD (s : pst) : pst := deepS (psD s - 1) s
def lpX (t : Nat → Nat) (n : Nat) (tst : pst → Bool) (opc : pst → Nat) (P : pst → pst) : Nat → pst → pst
  | 0, s => s
  | F + 1, s => if tst s then lpX t n tst opc P F (lay (opc s) (P (rdS t n s))) else s
def nmW (t : Nat → Nat) (n p : Nat) : Nat := if isW t n p 14 then 0 else if isW t n p 15 then 1 else if isW t n p 16 then 2 else if isW t n p 17 then 3 else if isW t n p 18 then 4 else if isW t n p 19 then 5 else if isW t n p 20 then 6 else if isW t n p 21 then 7 else 8
def bAt (t : Nat → Nat) (n : Nat) (P : Nat → pst → pst) (s : pst) : pst := if psB s = 0 then (if nmW t n (psP s) < 8 then lay (100 + nmW t n (psP s)) (rdS t n s) else if txK t n (psP s) = 40 then outD (mS t n 41 (P 1 (gin t n s))) else lay (1000 + numV t n 0 1000 s) (numS t n 0 1000 s)) else s
def bSu (t : Nat → Nat) (n : Nat) (P : Nat → pst → pst) (s : pst) : pst := lpX t n (fun s => isSg t n 43 s || isSg t n 45 s) (fun s => if txK t n (psP s) = 43 then 10 else 11) (P 2) 901 (P 2 s)
def bTe (t : Nat → Nat) (n : Nat) (P : Nat → pst → pst) (s : pst) : pst := lpX t n (isSg t n 42) (fun _ => 12) (P 0) 901 (P 0 s)
def aG (t : Nat → Nat) (n : Nat) : Nat → Nat → pst → pst
  | 0, _, s => s
  | f + 1, q, s => if q = 0 then bAt t n (aG t n f) s else if q = 1 then bSu t n (aG t n f) s else bTe t n (aG t n f) s
def bUn (t : Nat → Nat) (n : Nat) (P : Nat → pst → pst) (s : pst) : pst := if psB s = 0 then (if isW t n (psP s) 13 then outD (lay 18 (P 2 (gin t n s))) else if txK t n (psP s) = 91 then outD (mS t n 93 (P 1 (gin t n s))) else (if psB (aG t n 30 1 s) = 0 then (if txK t n (psP (aG t n 30 1 s)) = 61 ∨ txK t n (psP (aG t n 30 1 s)) = 60 ∨ txK t n (psP (aG t n 30 1 s)) = 62 then lay (if txK t n (psP (aG t n 30 1 s)) = 61 then 13 else if txK t n (psP (aG t n 30 1 s)) = 60 then 14 else 15) (aG t n 30 1 (rdS t n (aG t n 30 1 s))) else blm t n 2 (aG t n 30 1 s)) else aG t n 30 1 s)) else s
def bBo (t : Nat → Nat) (n : Nat) (P : Nat → pst → pst) (s : pst) : pst := lpX t n (isWd t n 22) (fun _ => 16) (P 2) 901 (P 2 s)
def bTr (t : Nat → Nat) (n : Nat) (P : Nat → pst → pst) (s : pst) : pst := lpX t n (isWd t n 23) (fun _ => 17) (P 0) 901 (P 0 s)
def uG (t : Nat → Nat) (n : Nat) : Nat → Nat → pst → pst
  | 0, _, s => s
  | f + 1, q, s => if q = 0 then bBo t n (uG t n f) s else if q = 1 then bTr t n (uG t n f) s else bUn t n (uG t n f) s
/-! types of what is laid -/
def TY (g : Nat → Nat) (i j : Nat) (a b : List Bool) : Prop := i ≤ j ∧ ∀ g', (∀ k, i ≤ k → k < j → g' (299 + k) = g (299 + k)) → ∀ d, okT g' d j b → okT g' (d + (j - i)) i a
theorem TY_refl (g : Nat → Nat) (i : Nat) (a : List Bool) : TY g i i a a := ⟨Nat.le_refl _, fun g' _ d h => by rw [Nat.sub_self]; exact h⟩
theorem TY_g {g g' : Nat → Nat} {i j : Nat} {a b : List Bool} (e : ∀ k, i ≤ k → k < j → g' (299 + k) = g (299 + k)) (h : TY g i j a b) : TY g' i j a b := ⟨h.1, fun g'' e2 => h.2 g'' (fun k h1 h2 => (e2 k h1 h2).trans (e k h1 h2))⟩
theorem TY_trans {g : Nat → Nat} {i j k : Nat} {a b c : List Bool} (h1 : TY g i j a b) (h2 : TY g j k b c) : TY g i k a c := ⟨Nat.le_trans h1.1 h2.1, fun g' e d h => by
  have l1 := h1.1
  have l2 := h2.1
  have z := h1.2 g' (fun m m1 m2 => e m m1 (by omega)) (d + (k - j)) (h2.2 g' (fun m m1 m2 => e m (by omega) m2) d h)
  rw [show d + (k - j) + (j - i) = d + (k - i) by omega] at z
  exact z⟩
theorem TY_step {g : Nat → Nat} {i : Nat} {a b : List Bool} (h : ∀ g' : Nat → Nat, g' (299 + i) = g (299 + i) → ∀ d, okT g' d (i + 1) b → okT g' (d + 1) i a) : TY g i (i + 1) a b := ⟨Nat.le_succ _, fun g' e d k => by
  rw [show i + 1 - i = 1 by omega]
  exact h g' (e i (Nat.le_refl _) (Nat.lt_succ_self _)) d k⟩
theorem TY_push {g : Nat → Nat} {i : Nat} {a : List Bool} (c : (1000 ≤ g (299 + i) ∧ g (299 + i) < 2000) ∨ (100 ≤ g (299 + i) ∧ g (299 + i) < 108)) (l : a.length + 1 ≤ 64) : TY g i (i + 1) a (false :: a) := TY_step (fun g' e d h => ⟨by omega, Or.inl ⟨by rw [e]; exact c, by omega, h⟩⟩)
theorem TY_not {g : Nat → Nat} {i : Nat} {a : List Bool} (c : g (299 + i) = 18) (l : a.length + 1 ≤ 64) : TY g i (i + 1) (true :: a) (true :: a) := TY_step (fun g' e d h => ⟨l, Or.inr (Or.inl ⟨by rw [e]; exact c, a, rfl, h⟩)⟩)
/-- two of a sort make one -/
def opT (c : Nat) (x y : Bool) : Prop := (10 ≤ c ∧ c ≤ 12 ∧ x = false ∧ y = false) ∨ (13 ≤ c ∧ c ≤ 15 ∧ x = false ∧ y = true) ∨ (16 ≤ c ∧ c ≤ 17 ∧ x = true ∧ y = true)
theorem TY_op {g : Nat → Nat} {i : Nat} {a : List Bool} {x y : Bool} (c : opT (g (299 + i)) x y) (l : a.length + 2 ≤ 64) : TY g i (i + 1) (x :: x :: a) (y :: a) := TY_step (fun g' e d h => by
  refine ⟨l, ?_⟩
  rw [e]
  rcases c with ⟨c1, c2, rfl, rfl⟩ | ⟨c1, c2, rfl, rfl⟩ | ⟨c1, c2, rfl, rfl⟩
  · exact Or.inr (Or.inr (Or.inl ⟨c1, c2, a, rfl, h⟩))
  · exact Or.inr (Or.inr (Or.inr (Or.inl ⟨c1, c2, a, rfl, h⟩)))
  · exact Or.inr (Or.inr (Or.inr (Or.inr ⟨c1, c2, a, rfl, h⟩))))
/-- read well, from s to s': one more of the sort y, h places at most -/
def LVr (n : Nat) (y : Bool) (h : Nat) (s s' : pst) : Prop := psP s < psP s' ∧ psP s' ≤ n ∧ psG s 3 ≤ psG s' 3 ∧ psG s' 3 + psP s ≤ psG s 3 + psP s' ∧ (∀ k, k ≠ 3 → k < 299 + psG s 3 → psG s' k = psG s k) ∧ ∀ tt : List Bool, tt.length + h ≤ 64 → TY (psG s') (psG s 3) (psG s' 3) tt (y :: tt)
def Gd (t : Nat → Nat) (n : Nat) (y : Bool) (h : Nat) (s s' : pst) : Prop := psD s' = psD s ∧ (psB s ≠ 0 → s' = s) ∧ (psB s = 0 → (txK t n (psP s) = 3 → psB s' = 1 ∧ psL s' = txB t n (psP s)) ∧ (psB s' = 0 → LVr n y h s s'))
section GP
variable {t : Nat → Nat} {n : Nat}
theorem blm_B {k : Nat} {s : pst} (hk : k ≠ 0) : psB (blm t n k s) ≠ 0 := by
  unfold blm
  by_cases c : psB s = 0
  · rw [if_pos c]
    show (if txK t n (psP s) = 3 then 1 else k) ≠ 0
    split
    · decide
    · exact hk
  · rw [if_neg c]; exact c
theorem blm_d {k : Nat} {s : pst} (h : psB s ≠ 0) : blm t n k s = s := if_neg h
theorem blm_1 {k : Nat} {s : pst} (h : psB s = 0) (h3 : txK t n (psP s) = 3) : psB (blm t n k s) = 1 ∧ psL (blm t n k s) = txB t n (psP s) := by
  unfold blm
  rw [if_pos h, if_pos h3]
  exact ⟨rfl, rfl⟩
theorem blm_D {k : Nat} {s : pst} : psD (blm t n k s) = psD s := by
  unfold blm
  by_cases c : psB s = 0
  · rw [if_pos c]; rfl
  · rw [if_neg c]
theorem lay_d {c : Nat} {s : pst} (h : psB s ≠ 0) : lay c s = s := if_neg h
theorem lay_l {c : Nat} {s : pst} (h : psB s = 0) : lay c s = (psP s, psB s, psL s, psD s, layG c (psG s)) := if_pos h
theorem lay_B {c : Nat} {s : pst} : psB (lay c s) = psB s := by
  by_cases h : psB s = 0
  · rw [lay_l h]; rfl
  · rw [lay_d h]
theorem lay_D {c : Nat} {s : pst} : psD (lay c s) = psD s := by
  by_cases h : psB s = 0
  · rw [lay_l h]; rfl
  · rw [lay_d h]
theorem mS_d {c : Nat} {s : pst} (h : psB s ≠ 0) : mS t n c s = s := if_neg h
theorem mS_D {c : Nat} {s : pst} : psD (mS t n c s) = psD s := by
  unfold mS
  by_cases h : psB s = 0
  · rw [if_pos h]
    by_cases k : txK t n (psP s) = c
    · rw [if_pos k]; rfl
    · rw [if_neg k]; exact blm_D
  · rw [if_neg h]
theorem mS_L {c : Nat} {s : pst} (h : psB (mS t n c s) = 0) : psB s = 0 ∧ txK t n (psP s) = c ∧ mS t n c s = rdS t n s := by
  by_cases b : psB s = 0
  · by_cases k : txK t n (psP s) = c
    · refine ⟨b, k, ?_⟩
      unfold mS
      rw [if_pos b, if_pos k]
    · exfalso
      unfold mS at h
      rw [if_pos b, if_neg k] at h
      exact blm_B (by decide) h
  · rw [mS_d b] at h
    exact absurd h b
theorem gin_D {s : pst} : psD (gin t n s) = psD s + 1 := by
  unfold gin
  by_cases c : psD s = 6
  · rw [if_pos c]; rfl
  · rw [if_neg c]
    split
    · rfl
    · rfl
theorem gin_L {s : pst} (h : psB (gin t n s) = 0) : psD s ≠ 6 ∧ psB s = 0 ∧ gin t n s = rdS t n (deepS (psD s + 1) s) := by
  unfold gin at h ⊢
  by_cases c : psD s = 6
  · rw [if_pos c] at h
    exact absurd h (blm_B (t := t) (n := n) (s := s) (by decide))
  · rw [if_neg c] at h ⊢
    by_cases b : psB s = 0
    · rw [if_pos b]; exact ⟨c, b, rfl⟩
    · rw [if_neg b] at h
      exact absurd h b
/-- laying a sign behind two of a sort -/
theorem LV_lay {c : Nat} {x y : Bool} {h : Nat} {s s2 : pst} (b : psB s2 = 0) (l1 : psP s < psP s2) (l2 : psP s2 ≤ n) (l3 : psG s 3 ≤ psG s2 3) (l4 : psG s2 3 + 1 + psP s ≤ psG s 3 + psP s2) (l5 : ∀ k, k ≠ 3 → k < 299 + psG s 3 → psG s2 k = psG s k) (op : opT c x y) (ty : ∀ tt : List Bool, tt.length + h ≤ 64 → TY (psG s2) (psG s 3) (psG s2 3) tt (x :: x :: tt)) (h2 : 2 ≤ h) : LVr n y h s (lay c s2) := by
  rw [lay_l b]
  have g3 : layG c (psG s2) 3 = psG s2 3 + 1 := if_pos rfl
  have gk : ∀ k, k ≠ 3 → k < 299 + psG s2 3 → layG c (psG s2) k = psG s2 k := fun k k1 k2 => by
    unfold layG
    rw [if_neg k1, if_neg (by omega)]
  refine ⟨l1, l2, ?_, ?_, fun k k1 k2 => ?_, fun tt htt => ?_⟩
  · show psG s 3 ≤ layG c (psG s2) 3
    omega
  · show layG c (psG s2) 3 + psP s ≤ psG s 3 + psP s2
    omega
  · show layG c (psG s2) k = psG s k
    rw [gk k k1 (by omega)]
    exact l5 k k1 k2
  · show TY (layG c (psG s2)) (psG s 3) (layG c (psG s2) 3) tt (y :: tt)
    rw [g3]
    refine TY_trans (TY_g (fun k k1 k2 => gk _ (by omega) (by omega)) (ty tt htt)) (TY_op ?_ (by omega))
    rw [show layG c (psG s2) (299 + psG s2 3) = c from by unfold layG; rw [if_neg (by omega), if_pos rfl]]
    exact op
theorem lpX_d {tst : pst → Bool} {opc : pst → Nat} {P : pst → pst} {F : Nat} {s : pst} (ht : tst s = false) : lpX t n tst opc P F s = s := by
  cases F with
  | zero => rfl
  | succ F =>
    show (if tst s then _ else s) = s
    rw [ht, if_neg (by decide)]
/-- a row of one sort with signs between -/
theorem lpX_G {tst : pst → Bool} {opc : pst → Nat} {P : pst → pst} {x : Bool} {h : Nat} {s : pst} (hT : ∀ s, tst s = true → psB s = 0 ∧ txK t n (psP s) ≠ 0) (hO : ∀ s, opT (opc s) x x) (hP : ∀ s1, psP s1 ≤ n → psD s1 = psD s → Gd t n x h s1 (P s1)) (h1 : 1 ≤ h) (b0 : psB s = 0) : ∀ F s1, psD s1 = psD s → (psB s1 = 0 → LVr n x (h + 1) s s1) → psD (lpX t n tst opc P F s1) = psD s ∧ (psB (lpX t n tst opc P F s1) = 0 → LVr n x (h + 1) s (lpX t n tst opc P F s1)) := by
  intro F
  induction F with
  | zero => intro s1 d l; exact ⟨d, l⟩
  | succ F ih =>
    intro s1 d l
    cases c : tst s1
    · rw [lpX_d c]; exact ⟨d, l⟩
    · have e : lpX t n tst opc P (F + 1) s1 = lpX t n tst opc P F (lay (opc s1) (P (rdS t n s1))) := by
        show (if tst s1 then _ else s1) = _
        rw [c, if_pos rfl]
      rw [e]
      obtain ⟨b1, k1⟩ := hT s1 c
      obtain ⟨a1, a2, a3, a4, a5, a6⟩ := l b1
      have te := txE_in (t := t) a2
      have tb := txB_in (t := t) a2
      have pr : psP (rdS t n s1) = txE t n (psP s1) := rfl
      have z := hP (rdS t n s1) (by rw [pr]; omega) d
      refine ih _ (by rw [lay_D]; exact z.1.trans d) (fun b => ?_)
      rw [lay_B] at b
      obtain ⟨c1, c2, c3, c4, c5, c6⟩ := (z.2.2 b1).2 b
      have c3' : psG s1 3 ≤ psG (P (rdS t n s1)) 3 := c3
      have c4' : psG (P (rdS t n s1)) 3 + txE t n (psP s1) ≤ psG s1 3 + psP (P (rdS t n s1)) := c4
      have c5' : ∀ k, k ≠ 3 → k < 299 + psG s1 3 → psG (P (rdS t n s1)) k = psG s1 k := c5
      have te3 := te.2.2 k1
      refine LV_lay b (by rw [pr] at c1; omega) c2 (by omega) (by omega) (fun k q1 q2 => (c5' k q1 (by omega)).trans (a5 k q1 q2)) (hO s1) (fun tt htt => ?_) (by omega)
      refine TY_trans (TY_g (fun k q1 q2 => c5' _ (by omega) (by omega)) (a6 tt htt)) (c6 (x :: tt) (by show tt.length + 1 + h ≤ 64; omega))
theorem lpX_Gd {tst : pst → Bool} {opc : pst → Nat} {P : pst → pst} {x : Bool} {h : Nat} {s : pst} {F : Nat} (hp : psP s ≤ n) (hT : ∀ s, tst s = true → psB s = 0 ∧ txK t n (psP s) ≠ 0) (hO : ∀ s, opT (opc s) x x) (hP : ∀ s1, psP s1 ≤ n → psD s1 = psD s → Gd t n x h s1 (P s1)) (h1 : 1 ≤ h) : Gd t n x (h + 1) s (lpX t n tst opc P F (P s)) := by
  have z := hP s hp rfl
  have dd : ∀ s, psB s ≠ 0 → tst s = false := fun s b => by
    cases c : tst s
    · rfl
    · exact absurd (hT s c).1 b
  by_cases b : psB s = 0
  · have q := lpX_G (F := F) (s := s) (s1 := P s) hT hO hP h1 b z.1 (fun b' => by
      obtain ⟨a1, a2, a3, a4, a5, a6⟩ := (z.2.2 b).2 b'
      exact ⟨a1, a2, a3, a4, a5, fun tt ht => a6 tt (by omega)⟩)
    refine ⟨q.1, fun y => absurd b y, fun _ => ⟨fun k3 => ?_, q.2⟩⟩
    have y := (z.2.2 b).1 k3
    rw [lpX_d (dd (P s) (by omega))]
    exact y
  · have e := z.2.1 b
    rw [e, lpX_d (dd s b)]
    exact ⟨rfl, fun _ => rfl, fun y => absurd y b⟩
theorem isSg_T {c : Nat} {s : pst} (hc : c ≠ 0) (h : isSg t n c s = true) : psB s = 0 ∧ txK t n (psP s) ≠ 0 := by
  have z := Bool.and_eq_true_iff.mp h
  have y := of_decide_eq_true z.2
  exact ⟨of_decide_eq_true z.1, by omega⟩
theorem isWd_T {a : Nat} {s : pst} (h : isWd t n a s = true) : psB s = 0 ∧ txK t n (psP s) ≠ 0 := by
  have z := Bool.and_eq_true_iff.mp h
  have y := isW_1 z.2
  exact ⟨of_decide_eq_true z.1, by omega⟩
theorem nmW_1 {p : Nat} (h : nmW t n p < 8) : txK t n p = 1 := by
  unfold nmW at h
  cases h1 : isW t n p 14
  case true => exact isW_1 h1
  cases h2 : isW t n p 15
  case true => exact isW_1 h2
  cases h3 : isW t n p 16
  case true => exact isW_1 h3
  cases h4 : isW t n p 17
  case true => exact isW_1 h4
  cases h5 : isW t n p 18
  case true => exact isW_1 h5
  cases h6 : isW t n p 19
  case true => exact isW_1 h6
  cases h7 : isW t n p 20
  case true => exact isW_1 h7
  cases h8 : isW t n p 21
  case true => exact isW_1 h8
  rw [h1, h2, h3, h4, h5, h6, h7, h8] at h
  exact absurd h (by decide)
/-- one name or number -/
theorem LV_push {c : Nat} {h : Nat} {s : pst} (b : psB s = 0) (hp : psP s ≤ n) (k0 : txK t n (psP s) ≠ 0) (hc : (1000 ≤ c ∧ c < 2000) ∨ (100 ≤ c ∧ c < 108)) (h1 : 1 ≤ h) : LVr n false h s (lay c (rdS t n s)) := by
  have b' : psB (rdS t n s) = 0 := b
  rw [lay_l b']
  have te := txE_in (t := t) hp
  have tb := txB_in (t := t) hp
  have te3 := te.2.2 k0
  have g3 : layG c (psG s) 3 = psG s 3 + 1 := if_pos rfl
  have gk : ∀ k, k ≠ 3 → k < 299 + psG s 3 → layG c (psG s) k = psG s k := fun k k1 k2 => by
    unfold layG
    rw [if_neg k1, if_neg (by omega)]
  refine ⟨?_, te.2.1, ?_, ?_, gk, fun tt htt => ?_⟩
  · show psP s < txE t n (psP s)
    omega
  · show psG s 3 ≤ layG c (psG s) 3
    omega
  · show layG c (psG s) 3 + psP s ≤ psG s 3 + txE t n (psP s)
    omega
  · show TY (layG c (psG s)) (psG s 3) (layG c (psG s) 3) tt (false :: tt)
    rw [g3]
    refine TY_push ?_ (by omega)
    rw [show layG c (psG s) (299 + psG s 3) = c from by unfold layG; rw [if_neg (by omega), if_pos rfl]]
    exact hc
/-- what stands in brackets -/
theorem LV_in {x : Bool} {h c : Nat} {s s2 : pst} (hp : psP s ≤ n) (b : psB (gin t n s) = 0) (k0 : txK t n (psP s) ≠ 0) (L : psB s2 = 0 → LVr n x h (gin t n s) s2) (bm : psB (mS t n c s2) = 0) (hc : c ≠ 0) : LVr n x h s (outD (mS t n c s2)) := by
  obtain ⟨d1, b1, e1⟩ := gin_L b
  obtain ⟨b2, k2, e2⟩ := mS_L bm
  rw [e1] at L
  obtain ⟨a1, a2, a3, a4, a5, a6⟩ := L b2
  have te := txE_in (t := t) hp
  have tb := txB_in (t := t) hp
  have te3 := te.2.2 k0
  have te2 := txE_in (t := t) a2
  have tb2 := txB_in (t := t) a2
  have a1' : txE t n (psP s) < psP s2 := a1
  have a4' : psG s2 3 + txE t n (psP s) ≤ psG s 3 + psP s2 := a4
  rw [e2]
  refine ⟨?_, te2.2.1, a3, ?_, a5, a6⟩
  · show psP s < txE t n (psP s2)
    omega
  · show psG s2 3 + psP s ≤ psG s 3 + txE t n (psP s2)
    omega
end GP
