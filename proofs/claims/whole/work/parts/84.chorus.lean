/-! 84: calls: loudest, chorus, shield -/
/-- where a row of numbers is greatest first, of the first i -/
def am (f : Nat → Nat) : Nat → Nat
  | 0 => 0
  | i + 1 => if f (am f i) < f i then i else am f i
theorem am_lt (f : Nat → Nat) : ∀ i, am f (i + 1) ≤ i
  | 0 => by unfold am; split <;> simp [am]
  | i + 1 => by
    have := am_lt f i
    show (if f (am f (i + 1)) < f (i + 1) then i + 1 else am f (i + 1)) ≤ i + 1
    split <;> omega
/-- the best of all sets below i that will do: the fewest, then the least -/
def bs (ok : Nat → Bool) : Nat → Option Nat
  | 0 => none
  | i + 1 => match bs ok i with
    | none => if ok i then some i else none
    | some b => if ok i && decide (cb i < cb b) then some i else some b
def bsI (o : Option Nat) : Int32 := match o with
  | none => -1
  | some b => nI b
theorem bs_lt {ok : Nat → Bool} : ∀ {i b : Nat}, bs ok i = some b → b < i
  | i + 1, b, h => by
    unfold bs at h
    split at h
    · split at h
      · cases h; omega
      · cases h
    · rename_i e
      have := bs_lt e
      split at h
      · cases h; omega
      · cases h; omega
theorem bs_no {ok : Nat → Bool} {i : Nat} (h : ok i = false) : bs ok (i + 1) = bs ok i := by
  show (match bs ok i with | none => if ok i then some i else none | some b => if ok i && decide (cb i < cb b) then some i else some b) = bs ok i
  rw [h]
  cases bs ok i <;> rfl
theorem bs_hi {ok : Nat → Bool} {m : Nat} : ∀ d, (∀ n, m ≤ n → ok n = false) → bs ok (m + d) = bs ok m
  | 0, _ => rfl
  | d + 1, h => by rw [← Nat.add_assoc, bs_no (h _ (by omega)), bs_hi d h]
/-- a set may be tried when it is fewer than the best so far -/
def bsF (o : Option Nat) (i : Nat) : Bool := match o with
  | none => true
  | some b => decide (cb i < cb b)
theorem bs_s {ok : Nat → Bool} {i : Nat} : bs ok (i + 1) = if ok i && bsF (bs ok i) i then some i else bs ok i := by
  show (match bs ok i with | none => if ok i then some i else none | some b => if ok i && decide (cb i < cb b) then some i else some b) = _
  unfold bsF
  cases bs ok i
  · simp
  · rfl
theorem q_isFewer {K : Int32 → Wd → Prop} {w : Wd} {i : Nat} {o : Option Nat} (hi : i < 1024) (ho : ∀ b, o = some b → b < 1024) (hk : K (b2i (bsF o i)) w) : w_X4_isFewer (nI i) (bsI o) K w := by
  cases o with
  | none => exact br_t (show (-1 : Int32) < 0 by decide) hk
  | some b =>
    have hb := ho b rfl
    have c1 := cb_le b
    have c2 := cb_le i
    refine br_f (show ¬ nI b < 0 from nI_pos (by omega)) (p_bitCount hi (p_bitCount hb ?_))
    by_cases c : cb i < cb b
    · rw [show bsF (some b) i = true from decide_eq_true c] at hk
      exact br_f (nI_ge c (by omega)) hk
    · rw [show bsF (some b) i = false from decide_eq_false c] at hk
      exact br_t (nI_le (by omega) (by omega)) hk
theorem bsI_neg {o : Option Nat} (ho : ∀ b, o = some b → b < 1024) : bsI o = -1 ↔ o = none := by
  cases o with
  | none => exact ⟨fun _ => rfl, fun _ => rfl⟩
  | some b =>
    have hb := ho b rfl
    refine ⟨fun z => ?_, fun z => by cases z⟩
    have e := congrArg Int32.toInt z
    rw [show bsI (some b) = nI b from rfl, nI_toInt (by omega)] at e
    exact absurd e (by rw [show (-1 : Int32).toInt = -1 from by decide]; omega)
/-- what is answered: how many, or the set -/
def bsA (o : Option Nat) (a : Nat) : Int32 := match o with
  | none => -1
  | some b => if a = 0 then nI (cb b) else nI b
theorem q_sizeOrSet {K : Int32 → Wd → Prop} {w : Wd} {a : Nat} {o : Option Nat} (ha : a ≤ 1) (ho : ∀ b, o = some b → b < 1024) (hk : K (bsA o a) w) : w_X11_sizeOrSet (bsI o) (nI a) K w := by
  cases o with
  | none => exact br_f (show ¬ (0 : Int32) ≤ -1 by decide) hk
  | some b =>
    have hb := ho b rfl
    refine br_t (show 0 ≤ nI b from nI_pos' (by omega)) ?_
    replace hk : K (if a = 0 then nI (cb b) else nI b) w := hk
    by_cases a0 : a = 0
    · rw [if_pos a0] at hk; exact br_t (by rw [a0]; rfl) (p_bitCount hb hk)
    · rw [if_neg a0] at hk; exact br_f (nI_ne0 (by omega) (by omega)) hk
theorem p_sizeOrSet {K : Int32 → Wd → Prop} {w : Wd} {a : Nat} {o : Option Nat} (ha : a ≤ 1) (ho : ∀ b, o = some b → b < 1024) (hk : K (bsA o a) w) : ((bsI o = (-1) → K (bsI o) w) ∧ (¬ bsI o = (-1) → ((nI a = 1 → K (bsI o) w) ∧ (¬ nI a = 1 → w_X12_size (bsI o) K w)))) := by
  cases o with
  | none => exact br_t rfl hk
  | some b =>
    have hb := ho b rfl
    refine br_f (fun z => by have := (bsI_neg ho).mp z; cases this) ?_
    replace hk : K (if a = 0 then nI (cb b) else nI b) w := hk
    by_cases a0 : a = 0
    · rw [if_pos a0] at hk
      exact br_f (fun z => by have := (nI_eq (b := 1) (by omega) (by decide)).mp z; omega) (p_size hb hk)
    · rw [if_neg a0] at hk
      exact br_t (by rw [show a = 1 by omega]; rfl) hk
/-- all that are reached by some of a set -/
def unS (f : Nat → Nat) (s : Nat) : Nat → Nat
  | 0 => 0
  | i + 1 => if s.testBit i = true then unS f s i ||| f i else unS f s i
theorem unS_lt {f : Nat → Nat} {s n : Nat} (h : ∀ i, f i < 2 ^ n) : ∀ i, unS f s i < 2 ^ n
  | 0 => Nat.two_pow_pos n
  | i + 1 => by
    unfold unS
    split
    · exact Nat.or_lt_two_pow (unS_lt h i) (h i)
    · exact unS_lt h i
theorem unS_hi {f : Nat → Nat} {s m : Nat} : ∀ d, (∀ n, m ≤ n → s.testBit n = false) → unS f s (m + d) = unS f s m
  | 0, _ => rfl
  | d + 1, h => by
    show (if s.testBit (m + d) = true then _ else unS f s (m + d)) = _
    rw [if_neg (by rw [h _ (by omega)]; decide), unS_hi d h]
theorem dif_0 {a b : Nat} : dif a b = 0 ↔ ∀ k, a.testBit k = true → b.testBit k = true := by
  constructor
  · intro h k hk
    cases e : b.testBit k
    · have z := dif_bit a b k
      rw [h, Nat.zero_testBit, hk, e] at z
      cases z
    · rfl
  · intro h
    apply Nat.eq_of_testBit_eq
    intro k
    rw [dif_bit, Nat.zero_testBit]
    cases e : a.testBit k
    · rfl
    · rw [h k e]; rfl
theorem and_sub {a b : Nat} : a &&& b = b ↔ dif b a = 0 := by
  rw [dif_0]
  constructor
  · intro h k hk
    rw [← h, Nat.testBit_and] at hk
    simp at hk
    exact hk.1
  · intro h
    apply Nat.eq_of_testBit_eq
    intro k
    rw [Nat.testBit_and]
    cases e : b.testBit k
    · simp
    · rw [h k e]; rfl
theorem sub_le {a b : Nat} (h : dif a b = 0) : a ≤ b := subS_le (fun k hk => dif_0.mp h k hk)
theorem dif_ne {a b : Nat} (ha : a < 1024) (h : ¬ dif a b = 0) : ¬ nI (dif a b) = 0 := nI_ne0 (by omega) (by have : dif a b < 2 ^ 10 := dif_lt ha; omega)
section JC
variable {w : Wd} {B : Nat} {L F : Wd → Prop}
theorem jn_loudest {x : Int32} (I : INV w B) (hB : B + 99 < 2 ^ 24) (hk : ∀ u, INV u (B + 99) → L u) {K : Int32 → Wd → Prop} (hc : ∀ r w1, isK w1 245 12 → w_X12_loudest 245 x (fun b w2 => tlT L F r b.toInt64 w2) w1 → K r w1) : w_L_loudest 1 6 64 x 260 K w := by
  obtain ⟨g, I⟩ := INV_x I
  have hW := I.2.1
  have h10 := hW.1.1.2.1
  refine ⟨I.1.1.1, ⟨by decide, by decide⟩, ⟨by decide, by decide⟩, q_noise (fun n hy hn cn => ?_) (fun cn N hN => ⟨rfl, ?_⟩)⟩
  · subst hy
    obtain ⟨f, hf⟩ : ∃ f : Nat → Nat, f = fun a => cb (clo g a n 0) := ⟨_, rfl⟩
    have fl : ∀ a, f a ≤ 10 := fun a => by rw [hf]; exact cb_le _
    obtain ⟨bst, hbst⟩ : ∃ bst : Nat → Int32, bst = fun i => if i = 0 then -1 else nI (am f i) := ⟨_, rfl⟩
    obtain ⟨mst, hmst⟩ : ∃ mst : Nat → Int32, mst = fun i => if i = 0 then -1 else nI (f (am f i)) := ⟨_, rfl⟩
    have cl10 : ∀ a, clo g a n 0 < 1024 := fun a => set_lt hW.1 (clo_lt g a n 0)
    refine nStart I (fun u N => ⟨g 1 + 1, ?_⟩)
    have go : ∀ E : Int32 → Wd → Prop, ∀ X, (∀ u, nq w u g → E (bst (g 1)) u) → ∀ d i u, i + d = g 1 → nq w u g → l_X11_loudest_25 1 6 X E (d + 1) 64 (nI n) (bst i) (mst i) (nI i) 1 6 u := by
      intro E X hE d
      induction d with
      | zero =>
        intro i u hi Nu
        have : i = g 1 := by omega
        subst this
        have Iu := nq_x I Nu
        obtain ⟨h, Lx, e0, k5⟩ := x_P Iu
        unfold l_X11_loudest_25
        rw [Iu.1.1.2.1, e0, Lx.1.1.1.2.1, Lx.1.1.1.2.2.2.1.2.1]
        exact ⟨Iu.1.1.1, k5, Lx.1.1.1.1, Lx.1.1.1.2.2.1, br_t (nI_le (Nat.le_refl _) (by omega)) (hE u Nu)⟩
      | succ d ih =>
        intro i u hi Nu
        have Iu := nq_x I Nu
        obtain ⟨h, Lx, e0, k5⟩ := x_P Iu
        unfold l_X11_loudest_25
        rw [Iu.1.1.2.1, e0, Lx.1.1.1.2.1, Lx.1.1.1.2.2.2.1.2.1, Iu.1.1.2.2.2.2.2.2.1]
        refine ⟨Iu.1.1.1, k5, Lx.1.1.1.1, Lx.1.1.1.2.2.1, br_f (nI_ge (by omega) (by omega)) ⟨Iu.1.2.2.2.2.2.1.1, nWoken I Nu (by omega) hn (fun u' N' => p_bitCount (cl10 i) ?_)⟩⟩
        have z := ih (i + 1) u' (by omega) N'
        have fi := fl i
        have fa := fl (am f i)
        have ef : cb (clo g i n 0) = f i := by rw [hf]
        have eb : bst (i + 1) = nI (am f (i + 1)) := by rw [hbst]; exact if_neg (by omega)
        have em : mst (i + 1) = nI (f (am f (i + 1))) := by rw [hmst]; exact if_neg (by omega)
        have ea : am f (i + 1) = if f (am f i) < f i then i else am f i := rfl
        rw [ef, nI_1]
        rw [eb, em, ea] at z
        by_cases i0 : i = 0
        · subst i0
          have e1 : mst 0 = -1 := by rw [hmst]; rfl
          rw [e1]
          refine br_f ?_ ?_
          · rw [fa_le, nI_toInt (by omega)]; rw [show (-1 : Int32).toInt = -1 from by decide]; omega
          · rw [show (if f (am f 0) < f 0 then 0 else am f 0) = 0 from if_neg (Nat.lt_irrefl _)] at z
            exact z
        · have e1 : mst i = nI (f (am f i)) := by rw [hmst]; exact if_neg i0
          have e2 : bst i = nI (am f i) := by rw [hbst]; exact if_neg i0
          rw [e1, e2]
          by_cases c : f (am f i) < f i
          · rw [if_pos c] at z
            exact br_f (nI_ge c (by omega)) z
          · rw [if_neg c] at z
            exact br_t (nI_le (by omega) (by omega)) z
    refine (show l_X11_loudest_25 1 6 _ _ (g 1 + 1) 64 (nI n) (-1) (-1) 0 1 6 u from ?_)
    have e0 : bst 0 = -1 := by rw [hbst]; rfl
    have e1 : mst 0 = -1 := by rw [hmst]; rfl
    have z := fun E X hE => go E X hE (g 1) 0 u (by omega) N
    rw [e0, e1] at z
    refine z _ _ (fun u' N' => ?_)
    have Iu' := nq_x I N'
    have Io := INVx_o (v := (bst (g 1)).toInt64) Iu'
    have N0 := rq_0 (val := (bst (g 1)).toInt64) Iu'
    refine INVx_out Iu' (hc _ (uL u' 260 0 (bst (g 1)).toInt64) (INVx_M Io) ⟨INVx_M Io, p_isNoise ?_⟩)
    rw [cn]
    refine br_f (by decide) ⟨g 1 + 1, ?_⟩
    have gr : ∀ E : Int32 → Wd → Prop, (∀ z, rq (uL u' 260 0 (bst (g 1)).toInt64) z g → E (bst (g 1)) z) → ∀ d i z, i + d = g 1 → rq (uL u' 260 0 (bst (g 1)).toInt64) z g → l_X12_loudest_22 E (d + 1) 245 (nI n) (bst i) (nI i) z := by
      intro E hE d
      induction d with
      | zero =>
        intro i z hi Nz
        have : i = g 1 := by omega
        subst this
        exact ⟨Nz.2.1.1.1, p_wells Nz.2.1 (br_t (nI_le (Nat.le_refl _) (by omega)) (hE z Nz))⟩
      | succ d ih =>
        intro i z hi Nz
        refine ⟨Nz.2.1.1.1, p_wells Nz.2.1 (br_f (nI_ge (by omega) (by omega)) ?_)⟩
        have eb : bst (i + 1) = nI (am f (i + 1)) := by rw [hbst]; exact if_neg (by omega)
        have ea : am f (i + 1) = if f (am f i) < f i then i else am f i := rfl
        have y := fun z' N' => ih (i + 1) z' (by omega) N'
        rw [eb, ea] at y
        rw [nI_1]
        by_cases i0 : i = 0
        · subst i0
          have y2 := y z Nz
          rw [show (if f (am f 0) < f 0 then 0 else am f 0) = 0 from if_neg (Nat.lt_irrefl _)] at y2
          exact br_t e0 y2
        · have e2 : bst i = nI (am f i) := by rw [hbst]; exact if_neg i0
          have al : am f i < i := by
            have := am_lt f (i - 1)
            rw [show i - 1 + 1 = i by omega] at this
            omega
          have fi := fl i
          have fa := fl (am f i)
          rw [e2]
          refine br_f (fun q => ?_) ⟨Nz.2.1.1.1, rChain Nz hW (by omega) hn (fun z1 N1 => p_size (cl10 i) ⟨N1.2.1.1.1, rChain N1 hW (by omega) hn (fun z2 N2 => p_size (cl10 (am f i)) ?_)⟩)⟩
          · have e := congrArg Int32.toInt q
            rw [nI_toInt (by omega)] at e
            exact absurd e (by rw [show (-1 : Int32).toInt = -1 from by decide]; omega)
          have y2 := y z2 N2
          have ef : ∀ a, cb (clo g a n 0) = f a := fun a => by rw [hf]
          rw [ef, ef]
          by_cases c : f (am f i) < f i
          · rw [if_pos c] at y2
            exact br_f (nI_ge c (by omega)) y2
          · rw [if_neg c] at y2
            exact br_t (nI_le (by omega) (by omega)) y2
    have y := fun E hE => gr E hE (g 1) 0 _ (by omega) N0
    rw [e0] at y
    exact y _ (fun z Nz => rFin Iu' Nz hB hk)
  · have J := INVx_J I hN
    have J1 := INVx_t (k := 4) (v := 0) J (by decide) (by decide) (by decide)
    have J2 := INVx_t (k := 4) (v := 1) J1 (by decide) (by decide) (by decide)
    refine hc _ _ (INVx_M J) ⟨INVx_M J, p_isNoise ?_⟩
    rw [cn]
    exact br_t rfl ⟨INVx_M J1, INVx_M J1, finK J2 (by decide) (fw _ _) hB hk⟩
end JC
