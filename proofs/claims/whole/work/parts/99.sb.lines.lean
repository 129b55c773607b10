/-! 99.sb: the lines of a text, as functions on states -/
def begS (t : Nat → Nat) (n k m : Nat) (s : pst) : pst := if psG s k = m then blm t n 4 s else (if psB s = 0 then rdS t n s else s)
def mWd (t : Nat → Nat) (n a : Nat) (s : pst) : pst := if isWd t n a s then rdS t n s else blm t n 2 s
def setG (g : Nat → Nat) (s : pst) : pst := (psP s, psB s, psL s, psD s, g)
def upG (k v : Nat) (g : Nat → Nat) : Nat → Nat := fun j => if j = k then v else g j
def chS (t : Nat → Nat) (n a lo hi : Nat) (s : pst) : pst := if isWd t n a s then numS t n lo hi (rdS t n s) else s
def chV (t : Nat → Nat) (n a lo hi x : Nat) (s : pst) : Nat := if isWd t n a s then numV t n lo hi (rdS t n s) else x
def wlA (t : Nat → Nat) (n : Nat) (s : pst) : pst := numS t n 2 13 (mWd t n 4 s)
def wlR (t : Nat → Nat) (n : Nat) (s : pst) : Nat := numV t n 2 13 (mWd t n 4 s)
def wlB (t : Nat → Nat) (n : Nat) (s : pst) : pst := numS t n 1 (wlR t n s + 1) (mWd t n 5 (wlA t n s))
def wlU (t : Nat → Nat) (n : Nat) (s : pst) : Nat := numV t n 1 (wlR t n s + 1) (mWd t n 5 (wlA t n s))
def wlC (t : Nat → Nat) (n : Nat) (s : pst) : pst := chS t n 6 0 (wlR t n s) (wlB t n s)
def wlH (t : Nat → Nat) (n : Nat) (s : pst) : Nat := chV t n 6 0 (wlR t n s) 0 (wlB t n s)
def wlD (t : Nat → Nat) (n : Nat) (s : pst) : pst := chS t n 7 1 100 (wlC t n s)
def wlP (t : Nat → Nat) (n : Nat) (s : pst) : Nat := chV t n 7 1 100 10 (wlC t n s)
def wlE (t : Nat → Nat) (n : Nat) (s : pst) : pst := chS t n 8 0 (wlP t n s + 1) (wlD t n s)
def wlW (t : Nat → Nat) (n : Nat) (s : pst) : Nat := chV t n 8 0 (wlP t n s + 1) (wlP t n s) (wlD t n s)
def addW (g : Nat → Nat) (r x h d v : Nat) : Nat → Nat := upG 1 (g 1 + 1) (upG (15 + g 1) v (upG (47 + g 1) d (upG (5 + g 1) h (upG (37 + g 1) x (upG (27 + g 1) r g)))))
def wellS (t : Nat → Nat) (n : Nat) (s : pst) : pst := if psB (begS t n 1 10 s) = 0 then (if psB (wlE t n (begS t n 1 10 s)) = 0 then setG (addW (psG (begS t n 1 10 s)) (wlR t n (begS t n 1 10 s)) (wlU t n (begS t n 1 10 s)) (wlH t n (begS t n 1 10 s)) (wlP t n (begS t n 1 10 s)) (wlW t n (begS t n 1 10 s))) (wlE t n (begS t n 1 10 s)) else wlE t n (begS t n 1 10 s)) else begS t n 1 10 s
def bzA (t : Nat → Nat) (n : Nat) (s : pst) : pst := numS t n 0 (psG s 1) s
def bzV (t : Nat → Nat) (n : Nat) (s : pst) : Nat := numV t n 0 (psG s 1) s
def bzB (t : Nat → Nat) (n : Nat) (s : pst) : pst := if psB (bzA t n s) = 0 ∧ txK t n (psP (bzA t n s)) = 2 ∧ txV t n (psP (bzA t n s)) = bzV t n s then blm t n 3 (bzA t n s) else bzA t n s
def joinG (g : Nat → Nat) (a b : Nat) : Nat → Nat := upG (57 + b) ((upG (57 + a) (g (57 + a) ||| 2 ^ b) g) (57 + b) ||| 2 ^ a) (upG (57 + a) (g (57 + a) ||| 2 ^ b) g)
def besS (t : Nat → Nat) (n : Nat) (s : pst) : pst := if psB (bzA t n (bzB t n s)) = 0 then setG (joinG (psG s) (bzV t n s) (bzV t n (bzB t n s))) (bzA t n (bzB t n s)) else bzA t n (bzB t n s)
def hsS (t : Nat → Nat) (n : Nat) : Nat → pst → pst
  | 0, s => s
  | F + 1, s => if psB (bzA t n s) = 0 ∧ txK t n (psP (bzA t n s)) = 2 then hsS t n F (bzA t n s) else bzA t n s
def hsV (t : Nat → Nat) (n : Nat) : Nat → pst → Nat → Nat
  | 0, _, x => x
  | F + 1, s, x => if psB (bzA t n s) = 0 ∧ txK t n (psP (bzA t n s)) = 2 then hsV t n F (bzA t n s) (x ||| 2 ^ bzV t n s) else x ||| 2 ^ bzV t n s
def addH (g : Nat → Nat) (x f : Nat) : Nat → Nat := upG 2 (g 2 + 1) (upG (73 + g 2) f (upG (67 + g 2) x g))
def hsA (t : Nat → Nat) (n : Nat) (s : pst) : pst := mWd t n 11 (numS t n 1 100 s)
def houseS (t : Nat → Nat) (n : Nat) (s : pst) : pst := if psB (begS t n 2 6 s) = 0 then (if psB (hsS t n 901 (hsA t n (begS t n 2 6 s))) = 0 then setG (addH (psG (begS t n 2 6 s)) (numV t n 1 100 (begS t n 2 6 s)) (hsV t n 901 (hsA t n (begS t n 2 6 s)) 0)) (hsS t n 901 (hsA t n (begS t n 2 6 s))) else hsS t n 901 (hsA t n (begS t n 2 6 s))) else begS t n 2 6 s
def hourS (t : Nat → Nat) (n : Nat) (s : pst) : pst := setG (upG 26 (numV t n 0 1000 s) (psG s)) (numS t n 0 1000 s)
def lnS (t : Nat → Nat) (n : Nat) (s : pst) : pst := if isWd t n 3 s then wellS t n s else if isWd t n 10 s then houseS t n s else if isWd t n 9 s then besS t n (rdS t n s) else if isWd t n 19 s then hourS t n (rdS t n s) else if isWd t n 12 s then uG t n 30 1 (setG (upG 3 0 (psG s)) (rdS t n s)) else blm t n 2 s
def stS (t : Nat → Nat) (n : Nat) (s : pst) : pst := if psB (mS t n 59 s) = 0 then setG (upG 0 (psG (mS t n 59 s) 0 + 1) (psG (mS t n 59 s))) (mS t n 59 s) else mS t n 59 s
def lineS (t : Nat → Nat) (n : Nat) (s : pst) : pst := stS t n (lnS t n s)
def textS (t : Nat → Nat) (n : Nat) : Nat → pst → pst
  | 0, s => s
  | F + 1, s => if psB s = 0 ∧ txK t n (psP s) ≠ 0 then textS t n F (lineS t n s) else s
section PL
variable {t : Nat → Nat} {n : Nat} {s : pst}
/-- a step that only reads: the row and the depth stay, the place goes on -/
def RO (n : Nat) (s s' : pst) : Prop := psG s' = psG s ∧ psD s' = psD s ∧ (psB s' = 0 → psB s = 0 ∧ (psP s ≤ n → psP s ≤ psP s' ∧ psP s' ≤ n))
theorem RO_r (n : Nat) (s : pst) : RO n s s := ⟨rfl, rfl, fun b => ⟨b, fun h => ⟨Nat.le_refl _, h⟩⟩⟩
theorem RO_t {a b c : pst} (h : RO n a b) (k : RO n b c) : RO n a c := ⟨k.1.trans h.1, k.2.1.trans h.2.1, fun z => by
  obtain ⟨k1, k2⟩ := k.2.2 z
  obtain ⟨h1, h2⟩ := h.2.2 k1
  exact ⟨h1, fun p => by
    obtain ⟨a1, a2⟩ := h2 p
    obtain ⟨b1, b2⟩ := k2 a2
    exact ⟨by omega, b2⟩⟩⟩
theorem RO_rd : RO n s (rdS t n s) := ⟨rfl, rfl, fun b => ⟨b, fun h => by
  have te := txE_in (t := t) h
  have tb := txB_in (t := t) h
  refine ⟨?_, te.2.1⟩
  show psP s ≤ txE t n (psP s)
  omega⟩⟩
theorem RO_blm {k : Nat} (hk : k ≠ 0) : RO n s (blm t n k s) := by
  refine ⟨?_, blm_D, fun b => absurd b (blm_B hk)⟩
  unfold blm
  split <;> rfl
theorem RO_num {lo hi : Nat} : RO n s (numS t n lo hi s) := by
  unfold numS
  split
  · split
    · split
      · exact RO_rd
      · exact RO_blm (by decide)
    · exact RO_blm (by decide)
  · exact RO_r n s
theorem RO_mW {a : Nat} : RO n s (mWd t n a s) := by
  unfold mWd
  split
  · exact RO_rd
  · exact RO_blm (by decide)
theorem RO_ch {a lo hi : Nat} : RO n s (chS t n a lo hi s) := by
  unfold chS
  split
  · exact RO_t RO_rd RO_num
  · exact RO_r n s
theorem RO_beg {k m : Nat} : RO n s (begS t n k m s) := by
  unfold begS
  split
  · exact RO_blm (by decide)
  · split
    · exact RO_rd
    · exact RO_r n s
theorem RO_mS {c : Nat} : RO n s (mS t n c s) := by
  unfold mS
  split
  · split
    · exact RO_rd
    · exact RO_blm (by decide)
  · exact RO_r n s
theorem RO_bzA : RO n s (bzA t n s) := RO_num
theorem RO_bzB : RO n s (bzB t n s) := by
  unfold bzB
  split
  · exact RO_t RO_bzA (RO_blm (by decide))
  · exact RO_bzA
theorem RO_wA : RO n s (wlA t n s) := RO_t RO_mW RO_num
theorem RO_wB : RO n s (wlB t n s) := RO_t RO_wA (RO_t RO_mW RO_num)
theorem RO_wC : RO n s (wlC t n s) := RO_t RO_wB RO_ch
theorem RO_wD : RO n s (wlD t n s) := RO_t RO_wC RO_ch
theorem RO_wE : RO n s (wlE t n s) := RO_t RO_wD RO_ch
theorem RO_hsA : RO n s (hsA t n s) := RO_t RO_num RO_mW
theorem RO_hsS : ∀ F s, RO n s (hsS t n F s) := by
  intro F
  induction F with
  | zero => intro s; exact RO_r n s
  | succ F ih =>
    intro s
    unfold hsS
    split
    · exact RO_t RO_bzA (ih _)
    · exact RO_bzA
/-! faults stay -/
theorem DD_num {lo hi k pl : Nat} (D : DDp t n s k pl) : DDp t n (numS t n lo hi s) k pl := by
  rcases D with ⟨d1, d2, d3⟩ | ⟨d1, d2, d3, d4⟩
  · unfold numS
    rw [if_neg (by omega)]
    exact Or.inl ⟨d1, d2, d3⟩
  · have z := numS_3 (lo := lo) (hi := hi) d1 d2
    exact Or.inl ⟨z.1.trans d3.symm, by omega, z.2.trans d4.symm⟩
theorem DD_wd {a k pl : Nat} (D : DDp t n s k pl) : isWd t n a s = false := by
  cases c : isWd t n a s
  · rfl
  · obtain ⟨h1, h2⟩ := wd_T3 c
    rcases D with ⟨d1, d2, d3⟩ | ⟨d1, d2, d3, d4⟩
    · omega
    · exact absurd d2 h2
theorem DD_bl {j k pl : Nat} (D : DDp t n s k pl) : DDp t n (blm t n j s) k pl := by
  rcases D with ⟨d1, d2, d3⟩ | ⟨d1, d2, d3, d4⟩
  · rw [blm_d (by omega)]; exact Or.inl ⟨d1, d2, d3⟩
  · have z := blm_1 (k := j) d1 d2
    exact Or.inl ⟨z.1.trans d3.symm, by omega, z.2.trans d4.symm⟩
theorem DD_mW {a k pl : Nat} (D : DDp t n s k pl) : DDp t n (mWd t n a s) k pl := by
  unfold mWd
  rw [DD_wd D, if_neg bft]
  exact DD_bl D
theorem DD_ch {a lo hi k pl : Nat} (D : DDp t n s k pl) : DDp t n (chS t n a lo hi s) k pl := by
  unfold chS
  rw [DD_wd D, if_neg bft]
  exact D
theorem DD_bzA {k pl : Nat} (D : DDp t n s k pl) : DDp t n (bzA t n s) k pl := DD_num D
theorem DD_bzB {k pl : Nat} (D : DDp t n (bzA t n s) k pl) : DDp t n (bzB t n s) k pl := by
  unfold bzB
  split
  · exact DD_bl D
  · exact D
theorem DD_hsS {k pl : Nat} (D : DDp t n s k pl) : ∀ F, DDp t n (hsS t n (F + 1) s) k pl := by
  intro F
  have D1 := DD_bzA D
  unfold hsS
  rw [if_neg (fun y => by
    rcases D1 with ⟨d1, d2, d3⟩ | ⟨d1, d2, d3, d4⟩
    · omega
    · omega)]
  exact D1
theorem DD_set {g : Nat → Nat} {k pl : Nat} (D : DDp t n s k pl) : DDp t n (setG g s) k pl := D
theorem DD_st {k pl : Nat} (D : DDp t n s k pl) : DDp t n (stS t n s) k pl ∧ psB (stS t n s) ≠ 0 := by
  have D1 : psB (mS t n 59 s) = k ∧ k ≠ 0 ∧ psL (mS t n 59 s) = pl := by
    rcases D with ⟨d1, d2, d3⟩ | ⟨d1, d2, d3, d4⟩
    · rw [mS_d (by omega)]; exact ⟨d1, d2, d3⟩
    · unfold mS
      rw [if_pos d1, if_neg (by omega)]
      have z := blm_1 (k := 2) d1 d2
      exact ⟨z.1.trans d3.symm, by omega, z.2.trans d4.symm⟩
  unfold stS
  rw [if_neg (by omega)]
  exact ⟨Or.inl D1, by omega⟩
/-- one of two: read well, or at fault -/
theorem DD_or (s : pst) : (psB s = 0 ∧ txK t n (psP s) ≠ 3) ∨ ∃ k pl, DDp t n s k pl := by
  by_cases b : psB s = 0
  · by_cases k : txK t n (psP s) = 3
    · exact Or.inr ⟨1, _, Or.inr ⟨b, k, rfl, rfl⟩⟩
    · exact Or.inl ⟨b, k⟩
  · exact Or.inr ⟨psB s, psL s, Or.inl ⟨rfl, b, rfl⟩⟩
end PL
