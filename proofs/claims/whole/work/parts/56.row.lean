/-! 56: worlds that differ in some rows only; writes to the row -/
theorem bm {z : Int} (h : -2147483648 ≤ z) (h2 : z < 2147483648) : z.bmod (2 ^ 32) = z := by
  rw [Int.bmod_def]
  split <;> omega
theorem tmod_e (x : Int) {r : Int} (hr : 0 < r) : (0 ≤ x ∧ x.tmod r = x % r) ∨ (x < 0 ∧ x.tmod r = 0 ∧ x % r = 0) ∨ (x < 0 ∧ x.tmod r < 0 ∧ x.tmod r + r = x % r) := by
  by_cases h : 0 ≤ x
  · exact Or.inl ⟨h, Int.tmod_eq_emod_of_nonneg h⟩
  · have e := Int.tmod_eq_emod (a := x) (b := r)
    have h1 := Int.emod_lt_of_pos x hr
    have h2 := Int.emod_nonneg x (show r ≠ 0 by omega)
    by_cases hd : r ∣ x
    · have hz : x % r = 0 := Int.emod_eq_zero_of_dvd hd
      rw [if_pos (Or.inr hd)] at e
      exact Or.inr (Or.inl ⟨by omega, by omega, hz⟩)
    · have hz : x % r ≠ 0 := fun z => hd (Int.dvd_of_emod_eq_zero z)
      rw [if_neg (fun z => z.elim h hd)] at e
      have : (r.natAbs : Int) = r := by omega
      exact Or.inr (Or.inr ⟨by omega, by omega, by omega⟩)
theorem tmod_ge (x : Int) {r : Int} (hr : 0 < r) : -r ≤ x.tmod r := by
  have h2 := Int.emod_nonneg x (show r ≠ 0 by omega)
  rcases tmod_e x hr with ⟨q1, q2⟩ | ⟨q1, q2, q3⟩ | ⟨q1, q2, q3⟩ <;> omega
theorem irem_toInt (x y : Int32) (hy : 0 < y.toInt) : (x_irem x y).toInt = x.toInt.tmod y.toInt := by
  have h1 : y ≠ -1 := fun e => by
    rw [e] at hy
    exact absurd hy (by decide)
  have e : (x_irem x y).toInt = (x.toInt - (x.toInt.tdiv y.toInt * y.toInt).bmod (2 ^ 32)).bmod (2 ^ 32) := by
    show (x - x / y * y).toInt = _
    rw [Int32.toInt_sub, Int32.toInt_mul, Int32.toInt_div_of_ne_right _ _ h1]
  rw [e, Int.sub_bmod_bmod, Int.mul_comm, ← Int.tmod_def]
  have b1 := Int32.toInt_lt y
  have q1 : x.toInt.tmod y.toInt < y.toInt := Int.tmod_lt_of_pos _ hy
  have q2 : -y.toInt ≤ x.toInt.tmod y.toInt := tmod_ge _ hy
  exact bm (by omega) (by omega)
/-- the rest of p - h by r, from 0 on -/
def fmN (p h r : Nat) : Nat := (((p : Int) - h) % (r : Int)).toNat
theorem fmN_lt {p h r : Nat} (hr : 0 < r) : fmN p h r < r := by
  have h1 := Int.emod_lt_of_pos ((p : Int) - h) (show (0 : Int) < r by omega)
  have h2 := Int.emod_nonneg ((p : Int) - h) (show (r : Int) ≠ 0 by omega)
  unfold fmN
  omega
theorem fm_ref {p h r : Nat} (hp : p < 2 ^ 24) (hh : h < 2 ^ 24) (h0 : 0 < r) (hr : r < 2 ^ 24) : x_irem (x_irem (nI p - nI h) (nI r) + nI r) (nI r) = nI (fmN p h r) := by
  have er : (nI r).toInt = r := nI_toInt (by omega)
  have e1 : (nI p - nI h).toInt = (p : Int) - h := pk_sub_toInt (by omega) (by omega)
  have e2 : (x_irem (nI p - nI h) (nI r)).toInt = ((p : Int) - h).tmod r := by rw [irem_toInt _ _ (by omega), er, e1]
  have l1 := fmN_lt (p := p) (h := h) h0
  have n2 := Int.emod_nonneg ((p : Int) - h) (show (r : Int) ≠ 0 by omega)
  have ef : ((p : Int) - h) % (r : Int) = (fmN p h r : Int) := by unfold fmN; omega
  have n1 : ((p : Int) - h).tmod r < r := Int.tmod_lt_of_pos _ (by omega)
  have n3 : -(r : Int) ≤ ((p : Int) - h).tmod r := tmod_ge _ (by omega)
  have e3 : (x_irem (nI p - nI h) (nI r) + nI r).toInt = ((p : Int) - h).tmod r + r := by rw [Int32.toInt_add, e2, er]; exact bm (by omega) (by omega)
  apply Int32.toInt_inj.mp
  rw [irem_toInt _ _ (by omega), e3, er, nI_toInt (by omega), Int.tmod_eq_emod_of_nonneg (by omega), Int.add_emod_right, ← ef]
  rcases tmod_e ((p : Int) - h) (r := r) (by omega) with ⟨q1, q2⟩ | ⟨q1, q2, q3⟩ | ⟨q1, q2, q3⟩
  · rw [q2, Int.emod_emod_of_dvd _ (Int.dvd_refl _)]
  · rw [q2, q3]; rfl
  · rw [← Int.add_emod_right, q3, Int.emod_emod_of_dvd _ (Int.dvd_refl _)]
/-- only rows of T differ -/
def eqW (T : Nat → Prop) (w w' : Wd) : Prop := w'.1 = w.1 ∧ w'.2.1 = w.2.1 ∧ w'.2.2.1 = w.2.2.1 ∧ ∀ r, ¬ T r → wI w' r = wI w r ∧ wL w' r = wL w r ∧ wR w' r = wR w r
theorem eqW_refl (T : Nat → Prop) (w : Wd) : eqW T w w := ⟨rfl, rfl, rfl, fun _ _ => ⟨rfl, rfl, rfl⟩⟩
theorem eqW_trans {T : Nat → Prop} {w u v : Wd} (h : eqW T w u) (k : eqW T u v) : eqW T w v := ⟨k.1.trans h.1, k.2.1.trans h.2.1, k.2.2.1.trans h.2.2.1, fun r hr => ⟨(k.2.2.2 r hr).1.trans (h.2.2.2 r hr).1, (k.2.2.2 r hr).2.1.trans (h.2.2.2 r hr).2.1, (k.2.2.2 r hr).2.2.trans (h.2.2.2 r hr).2.2⟩⟩
theorem eqW_mono {T U : Nat → Prop} (hT : ∀ r, T r → U r) {w u : Wd} (h : eqW T w u) : eqW U w u := ⟨h.1, h.2.1, h.2.2.1, fun r hr => h.2.2.2 r (fun z => hr (hT r z))⟩
theorem eqW_sI {T : Nat → Prop} {w : Wd} {t : Nat} {f : Nat → Int32} (ht : T t) : eqW T w (sI w t f) := ⟨rfl, rfl, rfl, fun r hr => ⟨wI_sIn (fun e => hr (e ▸ ht)), rfl, rfl⟩⟩
theorem eqW_uI {T : Nat → Prop} {w : Wd} {t k : Nat} {v : Int32} (ht : T t) : eqW T w (uI w t k v) := eqW_sI ht
theorem eqW_isK {T : Nat → Prop} {w u : Wd} (h : eqW T w u) {r k : Nat} : isK u r k ↔ isK w r k := by
  show (64 ≤ r ∧ r < u.1 ∧ u.2.1 r = k) ↔ (64 ≤ r ∧ r < w.1 ∧ w.2.1 r = k)
  rw [h.1, h.2.1]
theorem eqW_wn {T : Nat → Prop} {w u : Wd} (h : eqW T w u) (r : Nat) : wn u r = wn w r := congrFun h.2.2.1 r
def upN (g : Nat → Nat) (k v : Nat) : Nat → Nat := fun j => if j = k then v else g j
theorem upN_s (g : Nat → Nat) (k v : Nat) : upN g k v k = v := if_pos rfl
theorem upN_n {g : Nat → Nat} {k j : Nat} (v : Nat) (h : j ≠ k) : upN g k v j = g j := if_neg h
theorem RS_wr {w : Wd} {M : Nat} {g : Nat → Nat} (h : RS w M g) (k v : Nat) : RS (uI w (M + 1) k (nI v)) M (upN g k v) := ⟨h.1, fun j hj => by
  rw [sI_uI, wI_sI]
  unfold upd upN
  split
  · rfl
  · exact h.2 j hj⟩
/-- what the reference alone may change -/
def refT (M : Nat) (r : Nat) : Prop := r = M + 1 ∨ r = M + 6
theorem rT1 (M : Nat) : refT M (M + 1) := Or.inl rfl
theorem rT6 (M : Nat) : refT M (M + 6) := Or.inr rfl
theorem p_shiftsTo {w : Wd} {M : Nat} {g : Nat → Nat} {B : Nat} (h : RS w M g) (hh : wfH g) (hs : wfS g 5 B) (hB : B < 2 ^ 24) {v p : Nat} (hv : v < g 1) (hp : p < 2 ^ 24) {K : Wd → Prop} (hk : K (uI w (M + 1) (5 + v) (nI (fmN p (g 26) (g (27 + v)))))) : w_X12_shiftsTo M (nI v) (nI p) K w := by
  have hv' : v < 10 := Nat.lt_of_lt_of_le hv hh.1.2.1
  obtain ⟨⟨h1, h2, h3, h4⟩, -⟩ := hh.2.1 v hv
  have h6 : g 26 ≤ B := hs.2.2
  obtain ⟨a1, a2, a3⟩ := p_rd (k := 26) h (by decide) (P := fun z => z = nI (g 26)) rfl
  obtain ⟨-, b2, b3⟩ := p_rd (k := 5 + v) h (by omega) (P := fun z => z = nI (g (5 + v))) rfl
  obtain ⟨-, c2, c3⟩ := p_rd (k := 27 + v) h (by omega) (P := fun z => z = nI (g (27 + v))) rfl
  rw [show nI (5 + v) = 5 + nI v from (nI_add 5 v).symm] at b2 b3
  rw [show nI (27 + v) = 27 + nI v from (nI_add 27 v).symm] at c2 c3
  refine ⟨h.1.1, a1, c2, a2, ?_, ?_, b2, ?_⟩
  · rw [c3]; exact nI_ne0 (by omega) (by omega)
  · rw [c3]; exact nI_ne0 (by omega) (by omega)
  · rw [show wI w (wR w M 0) (26 : Int32).toNatClampNeg = nI (g 26) from a3, c3, fm_ref hp (by omega) (by omega) (by omega), show (5 + nI v : Int32) = nI (5 + v) from nI_add 5 v, nI_clamp (by omega), h.1.2.1.1]
    exact hk
