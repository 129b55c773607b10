/-! the start -/
abbrev flS0 : List Cond := flatC (Jvm.Cond.and given_1 narrow_1)
def tmS : List Term := [.string "SnoringWells" 434, .string "SnoringWells$Reader" 71, .string "SnoringWells$Reader" 107, .string "SnoringWells$Reader" 116, .string "SnoringWells$Reader" 118, .string "SnoringWells$Reader" 124, .string "SnoringWells$Reader" 126, .string "SnoringWells$Reader" 80, .string "SnoringWells$Reader" 85, .string "SnoringWells$Reader" 142, .string "SnoringWells$Reader" 90, .string "SnoringWells$Reader" 176, .string "SnoringWells$Reader" 200, .string "SnoringWells$Reader" 202, .string "SnoringWells$Reader" 204, .string "SnoringWells$Reader" 206, .string "SnoringWells$Reader" 208, .string "SnoringWells$Reader" 95, .string "SnoringWells$Reader" 210, .string "SnoringWells$Reader" 212, .string "SnoringWells$Reader" 174, .string "SnoringWells$Reader" 165, .string "SnoringWells" 420, .string "SnoringWells" 423, .string "SnoringWells" 436, .string "SnoringWells" 441, .string "SnoringWells" 427, .string "SnoringWells" 432, .string "SnoringWells" 430, .string "SnoringWells" 447, .string "SnoringWells" 374, .string "SnoringWells" 449, .string "SnoringWells" 399]
def tm0 (i : Nat) : Term := tmS.getD i (.string "" 0)
def bsS : List Nat := [78, 95, 103, 112, 121, 130, 138, 147, 157, 166, 174, 183, 190, 196, 202, 208, 214, 219, 227, 236, 244, 251, 257, 273, 290, 306, 329, 350, 366, 392, 405, 422, 439]
theorem st_pl : ∀ i, i < nJS → flS0[bsS.getD i 0]? = some (.exactly (tm0 i) "java/lang/String") ∧ flS0[bsS.getD i 0 + 1]? = some (.eq (.field (tm0 i) "java/lang/String" "coder" "B") (.int 0)) ∧ flS0[bsS.getD i 0 + 2]? = some (.arrayOf (.field (tm0 i) "java/lang/String" "value" "[B") .byte) ∧ flS0[bsS.getD i 0 + 3]? = some (.eq (.length (.field (tm0 i) "java/lang/String" "value" "[B")) (.int (Int32.ofNat (lenJS.getD i 0)))) ∧ ∀ j, j < lenJS.getD i 0 → flS0[bsS.getD i 0 + 4 + j]? = some (.eq (.elem (.field (tm0 i) "java/lang/String" "value" "[B") (.int (Int32.ofNat j))) (.int ((bytJS.getD i []).getD j 0))) := by decide +kernel
theorem st_len : ∀ i, i < nJS → lenJS.getD i 0 < 2 ^ 31 := by decide +kernel
theorem st_texts {args : Array Value} {s : State} {A : Nat → Prop} (hs : ∀ c ∈ flS0, c.before args s = true) (hA : ∀ a : Nat, a < s.heap.size → ¬ A a) : ∃ adK adV : Nat → Nat, ∀ i : Nat, i < nJS → (tm0 i).eval args s none [] s = some (.ref (adK i)) ∧ va_O "java/lang/String" (adK i) A s s.heap ∧ va_OF "java/lang/String" "coder" "B" (.int 0) (adK i) A s s.heap ∧ va_OF "java/lang/String" "value" "[B" (.ref (adV i)) (adK i) A s s.heap ∧ va_T .byte (adV i) (lenJS.getD i 0) (fun j => .int ((bytJS.getD i []).getD j 0)) A s s.heap := by
  have h0 : ∀ i : Nat, ∃ q : Nat × Nat, i < nJS → (tm0 i).eval args s none [] s = some (.ref q.1) ∧ va_O "java/lang/String" q.1 A s s.heap ∧ va_OF "java/lang/String" "coder" "B" (.int 0) q.1 A s s.heap ∧ va_OF "java/lang/String" "value" "[B" (.ref q.2) q.1 A s s.heap ∧ va_T .byte q.2 (lenJS.getD i 0) (fun j => .int ((bytJS.getD i []).getD j 0)) A s s.heap := by
    intro i
    by_cases hi : i < nJS
    · obtain ⟨p1, p2, p3, p4, p5⟩ := st_pl i hi
      obtain ⟨a, c, cA, kA, q1, q2, q3, q4, q5, q6, -⟩ := Cond.exactly_spec (args := args) (first := s) (o := none) (s := s) (idx := []) (t := tm0 i) (cls := "java/lang/String") (hs _ (List.mem_of_getElem? p1))
      obtain ⟨t, ht, hT⟩ := va_Tof (f := fun j => .int ((bytJS.getD i []).getD j 0)) (A := A) (st_len i hi) (hs _ (List.mem_of_getElem? p3)) (va_eqt (hs _ (List.mem_of_getElem? p4))) (fun j hj => va_eqt (hs _ (List.mem_of_getElem? (p5 j hj)))) hA
      exact ⟨(a, t), fun _ => ⟨q1, ⟨cA, q3, q5, by rw [q6]; exact q2, hA a (Array.getElem?_eq_some_iff.mp q3).1⟩, vk_OFof q1 (va_eqt (hs _ (List.mem_of_getElem? p2))) hA, vk_OFof q1 ht hA, hT⟩⟩
    · exact ⟨(0, 0), fun h => absurd h hi⟩
  obtain ⟨ad, had⟩ := Classical.axiomOfChoice h0
  exact ⟨fun i => (ad i).1, fun i => (ad i).2, had⟩
theorem st_same {args : Array Value} {s : State} {t u : Term} {a : Nat} (h : (Cond.eq t u).before args s = true) (ht : t.eval args s none [] s = some (.ref a)) (hu : (Cond.exactly u "java/lang/String").before args s = true) : u.eval args s none [] s = some (.ref a) := by
  obtain ⟨b, c, cA, kA, q1, -⟩ := Cond.exactly_spec (args := args) (first := s) (o := none) (s := s) (idx := []) (t := u) (cls := "java/lang/String") hu
  simp [Cond.before, Cond.holds, Cond.value, ht, q1] at h
  rw [q1, h]
theorem st_strT {args : Array Value} {s : State} (hts : ∀ w ∈ lw_tbl, w.before args s = true) (hs : ∀ c ∈ flS0, c.before args s = true) {adK : Nat → Nat} (had : ∀ i : Nat, i < nJS → (tm0 i).eval args s none [] s = some (.ref (adK i)) ∧ True) : ∀ (i : Nat) (q : String × Nat × String × Nat), strT[i]? = some q → vk_R q.1 q.2.1 q.2.2.1 (adK q.2.2.2) s := fun i q h => match i, h with
  | 0, h => by cases h; exact vk_R.of (A := args) (hts _ (List.mem_of_getElem? (i := 850) (by decide +kernel))) ((had 0 (by decide)).1)
  | 1, h => by cases h; exact vk_R.of (A := args) (hts _ (List.mem_of_getElem? (i := 904) (by decide +kernel))) ((had 1 (by decide)).1)
  | 2, h => by cases h; exact vk_R.of (A := args) (hts _ (List.mem_of_getElem? (i := 961) (by decide +kernel))) ((had 2 (by decide)).1)
  | 3, h => by cases h; exact vk_R.of (A := args) (hts _ (List.mem_of_getElem? (i := 970) (by decide +kernel))) ((had 3 (by decide)).1)
  | 4, h => by cases h; exact vk_R.of (A := args) (hts _ (List.mem_of_getElem? (i := 971) (by decide +kernel))) ((had 4 (by decide)).1)
  | 5, h => by cases h; exact vk_R.of (A := args) (hts _ (List.mem_of_getElem? (i := 976) (by decide +kernel))) ((had 5 (by decide)).1)
  | 6, h => by cases h; exact vk_R.of (A := args) (hts _ (List.mem_of_getElem? (i := 977) (by decide +kernel))) ((had 6 (by decide)).1)
  | 7, h => by cases h; exact vk_R.of (A := args) (hts _ (List.mem_of_getElem? (i := 982) (by decide +kernel))) ((had 7 (by decide)).1)
  | 8, h => by cases h; exact vk_R.of (A := args) (hts _ (List.mem_of_getElem? (i := 997) (by decide +kernel))) ((had 8 (by decide)).1)
  | 9, h => by cases h; exact vk_R.of (A := args) (hts _ (List.mem_of_getElem? (i := 1002) (by decide +kernel))) ((had 9 (by decide)).1)
  | 10, h => by cases h; exact vk_R.of (A := args) (hts _ (List.mem_of_getElem? (i := 1007) (by decide +kernel))) ((had 10 (by decide)).1)
  | 11, h => by cases h; exact vk_R.of (A := args) (hts _ (List.mem_of_getElem? (i := 1024) (by decide +kernel))) ((had 11 (by decide)).1)
  | 12, h => by cases h; exact vk_R.of (A := args) (hts _ (List.mem_of_getElem? (i := 1057) (by decide +kernel))) ((had 12 (by decide)).1)
  | 13, h => by cases h; exact vk_R.of (A := args) (hts _ (List.mem_of_getElem? (i := 1058) (by decide +kernel))) ((had 13 (by decide)).1)
  | 14, h => by cases h; exact vk_R.of (A := args) (hts _ (List.mem_of_getElem? (i := 1059) (by decide +kernel))) ((had 14 (by decide)).1)
  | 15, h => by cases h; exact vk_R.of (A := args) (hts _ (List.mem_of_getElem? (i := 1060) (by decide +kernel))) ((had 15 (by decide)).1)
  | 16, h => by cases h; exact vk_R.of (A := args) (hts _ (List.mem_of_getElem? (i := 1061) (by decide +kernel))) ((had 16 (by decide)).1)
  | 17, h => by cases h; exact vk_R.of (A := args) (hts _ (List.mem_of_getElem? (i := 1062) (by decide +kernel))) ((had 17 (by decide)).1)
  | 18, h => by cases h; exact vk_R.of (A := args) (hts _ (List.mem_of_getElem? (i := 1063) (by decide +kernel))) ((had 18 (by decide)).1)
  | 19, h => by cases h; exact vk_R.of (A := args) (hts _ (List.mem_of_getElem? (i := 1064) (by decide +kernel))) ((had 19 (by decide)).1)
  | 20, h => by cases h; exact vk_R.of (A := args) (hts _ (List.mem_of_getElem? (i := 1069) (by decide +kernel))) ((had 20 (by decide)).1)
  | 21, h => by cases h; exact vk_R.of (A := args) (hts _ (List.mem_of_getElem? (i := 1070) (by decide +kernel))) ((had 21 (by decide)).1)
  | 22, h => by cases h; exact vk_R.of (A := args) (hts _ (List.mem_of_getElem? (i := 1116) (by decide +kernel))) ((had 22 (by decide)).1)
  | 23, h => by cases h; exact vk_R.of (A := args) (hts _ (List.mem_of_getElem? (i := 1146) (by decide +kernel))) ((had 23 (by decide)).1)
  | 24, h => by cases h; exact vk_R.of (A := args) (hts _ (List.mem_of_getElem? (i := 1183) (by decide +kernel))) ((had 24 (by decide)).1)
  | 25, h => by cases h; exact vk_R.of (A := args) (hts _ (List.mem_of_getElem? (i := 1193) (by decide +kernel))) ((had 25 (by decide)).1)
  | 26, h => by cases h; exact vk_R.of (A := args) (hts _ (List.mem_of_getElem? (i := 1270) (by decide +kernel))) ((had 26 (by decide)).1)
  | 27, h => by cases h; exact vk_R.of (A := args) (hts _ (List.mem_of_getElem? (i := 1345) (by decide +kernel))) ((had 27 (by decide)).1)
  | 28, h => by cases h; exact vk_R.of (A := args) (hts _ (List.mem_of_getElem? (i := 1530) (by decide +kernel))) ((had 28 (by decide)).1)
  | 29, h => by cases h; exact vk_R.of (A := args) (hts _ (List.mem_of_getElem? (i := 1547) (by decide +kernel))) ((had 29 (by decide)).1)
  | 30, h => by cases h; exact vk_R.of (A := args) (hts _ (List.mem_of_getElem? (i := 1631) (by decide +kernel))) ((had 30 (by decide)).1)
  | 31, h => by cases h; exact vk_R.of (A := args) (hts _ (List.mem_of_getElem? (i := 1665) (by decide +kernel))) ((had 31 (by decide)).1)
  | 32, h => by cases h; exact vk_R.of (A := args) (hts _ (List.mem_of_getElem? (i := 1677) (by decide +kernel))) ((had 32 (by decide)).1)
  | 33, h => by cases h; exact vk_R.of (A := args) (hts _ (List.mem_of_getElem? (i := 1813) (by decide +kernel))) (st_same (hs _ (List.mem_of_getElem? (i := 468) (by decide +kernel))) (had 1 (by decide)).1 (hs _ (List.mem_of_getElem? (i := 460) (by decide +kernel))))
  | 34, h => by cases h; exact vk_R.of (A := args) (hts _ (List.mem_of_getElem? (i := 1832) (by decide +kernel))) (st_same (hs _ (List.mem_of_getElem? (i := 478) (by decide +kernel))) (had 2 (by decide)).1 (hs _ (List.mem_of_getElem? (i := 469) (by decide +kernel))))
  | 35, h => by cases h; exact vk_R.of (A := args) (hts _ (List.mem_of_getElem? (i := 1845) (by decide +kernel))) (st_same (hs _ (List.mem_of_getElem? (i := 488) (by decide +kernel))) (had 3 (by decide)).1 (hs _ (List.mem_of_getElem? (i := 479) (by decide +kernel))))
  | 36, h => by cases h; exact vk_R.of (A := args) (hts _ (List.mem_of_getElem? (i := 1846) (by decide +kernel))) (st_same (hs _ (List.mem_of_getElem? (i := 498) (by decide +kernel))) (had 4 (by decide)).1 (hs _ (List.mem_of_getElem? (i := 489) (by decide +kernel))))
  | 37, h => by cases h; exact vk_R.of (A := args) (hts _ (List.mem_of_getElem? (i := 1847) (by decide +kernel))) (st_same (hs _ (List.mem_of_getElem? (i := 507) (by decide +kernel))) (had 5 (by decide)).1 (hs _ (List.mem_of_getElem? (i := 499) (by decide +kernel))))
  | 38, h => by cases h; exact vk_R.of (A := args) (hts _ (List.mem_of_getElem? (i := 1848) (by decide +kernel))) (st_same (hs _ (List.mem_of_getElem? (i := 517) (by decide +kernel))) (had 6 (by decide)).1 (hs _ (List.mem_of_getElem? (i := 508) (by decide +kernel))))
  | 39, h => by cases h; exact vk_R.of (A := args) (hts _ (List.mem_of_getElem? (i := 1849) (by decide +kernel))) (st_same (hs _ (List.mem_of_getElem? (i := 527) (by decide +kernel))) (had 8 (by decide)).1 (hs _ (List.mem_of_getElem? (i := 518) (by decide +kernel))))
  | 40, h => by cases h; exact vk_R.of (A := args) (hts _ (List.mem_of_getElem? (i := 1854) (by decide +kernel))) (st_same (hs _ (List.mem_of_getElem? (i := 536) (by decide +kernel))) (had 9 (by decide)).1 (hs _ (List.mem_of_getElem? (i := 528) (by decide +kernel))))
  | 41, h => by cases h; exact vk_R.of (A := args) (hts _ (List.mem_of_getElem? (i := 1859) (by decide +kernel))) (st_same (hs _ (List.mem_of_getElem? (i := 547) (by decide +kernel))) (had 7 (by decide)).1 (hs _ (List.mem_of_getElem? (i := 537) (by decide +kernel))))
  | 42, h => by cases h; exact vk_R.of (A := args) (hts _ (List.mem_of_getElem? (i := 1864) (by decide +kernel))) (st_same (hs _ (List.mem_of_getElem? (i := 556) (by decide +kernel))) (had 17 (by decide)).1 (hs _ (List.mem_of_getElem? (i := 548) (by decide +kernel))))
  | 43, h => by cases h; exact vk_R.of (A := args) (hts _ (List.mem_of_getElem? (i := 1865) (by decide +kernel))) (st_same (hs _ (List.mem_of_getElem? (i := 566) (by decide +kernel))) (had 10 (by decide)).1 (hs _ (List.mem_of_getElem? (i := 557) (by decide +kernel))))
  | 44, h => by cases h; exact vk_R.of (A := args) (hts _ (List.mem_of_getElem? (i := 1878) (by decide +kernel))) (st_same (hs _ (List.mem_of_getElem? (i := 574) (by decide +kernel))) (had 11 (by decide)).1 (hs _ (List.mem_of_getElem? (i := 567) (by decide +kernel))))
  | 45, h => by cases h; exact vk_R.of (A := args) (hts _ (List.mem_of_getElem? (i := 1911) (by decide +kernel))) (st_same (hs _ (List.mem_of_getElem? (i := 581) (by decide +kernel))) (had 12 (by decide)).1 (hs _ (List.mem_of_getElem? (i := 575) (by decide +kernel))))
  | 46, h => by cases h; exact vk_R.of (A := args) (hts _ (List.mem_of_getElem? (i := 1912) (by decide +kernel))) (st_same (hs _ (List.mem_of_getElem? (i := 588) (by decide +kernel))) (had 13 (by decide)).1 (hs _ (List.mem_of_getElem? (i := 582) (by decide +kernel))))
  | 47, h => by cases h; exact vk_R.of (A := args) (hts _ (List.mem_of_getElem? (i := 1913) (by decide +kernel))) (st_same (hs _ (List.mem_of_getElem? (i := 595) (by decide +kernel))) (had 14 (by decide)).1 (hs _ (List.mem_of_getElem? (i := 589) (by decide +kernel))))
  | 48, h => by cases h; exact vk_R.of (A := args) (hts _ (List.mem_of_getElem? (i := 1914) (by decide +kernel))) (st_same (hs _ (List.mem_of_getElem? (i := 602) (by decide +kernel))) (had 15 (by decide)).1 (hs _ (List.mem_of_getElem? (i := 596) (by decide +kernel))))
  | 49, h => by cases h; exact vk_R.of (A := args) (hts _ (List.mem_of_getElem? (i := 1915) (by decide +kernel))) (st_same (hs _ (List.mem_of_getElem? (i := 608) (by decide +kernel))) (had 16 (by decide)).1 (hs _ (List.mem_of_getElem? (i := 603) (by decide +kernel))))
  | 50, h => by cases h; exact vk_R.of (A := args) (hts _ (List.mem_of_getElem? (i := 1916) (by decide +kernel))) (st_same (hs _ (List.mem_of_getElem? (i := 618) (by decide +kernel))) (had 18 (by decide)).1 (hs _ (List.mem_of_getElem? (i := 609) (by decide +kernel))))
  | 51, h => by cases h; exact vk_R.of (A := args) (hts _ (List.mem_of_getElem? (i := 1917) (by decide +kernel))) (st_same (hs _ (List.mem_of_getElem? (i := 627) (by decide +kernel))) (had 19 (by decide)).1 (hs _ (List.mem_of_getElem? (i := 619) (by decide +kernel))))
  | 52, h => by cases h; exact vk_R.of (A := args) (hts _ (List.mem_of_getElem? (i := 1918) (by decide +kernel))) (st_same (hs _ (List.mem_of_getElem? (i := 635) (by decide +kernel))) (had 20 (by decide)).1 (hs _ (List.mem_of_getElem? (i := 628) (by decide +kernel))))
  | 53, h => by cases h; exact vk_R.of (A := args) (hts _ (List.mem_of_getElem? (i := 1919) (by decide +kernel))) (st_same (hs _ (List.mem_of_getElem? (i := 642) (by decide +kernel))) (had 21 (by decide)).1 (hs _ (List.mem_of_getElem? (i := 636) (by decide +kernel))))
  | k + 54, h => by simp [strT] at h
theorem st_sub {args : Array Value} {s : State} (hts : ∀ w ∈ lw_tbl, w.before args s = true) (ws : List Cond) (ps : List Nat) (hp : ws = ps.filterMap (fun i => lw_tbl[i]?)) : ∀ w ∈ ws, w.before args s = true := fun w hw => by
  rw [hp] at hw
  obtain ⟨i, -, hi⟩ := List.mem_filterMap.mp hw
  exact hts _ (List.mem_of_getElem? hi)
theorem st_nest {args : Array Value} {s : State} (hts : ∀ w ∈ lw_tbl, w.before args s = true) : ∀ w ∈ nestW, va_Nw w s := fun w hw => by
  have h := st_sub hts nestW [168, 194, 216, 220, 242, 361, 560, 591, 643, 708, 757, 881, 1564] (by decide +kernel) w hw
  rcases nestW_kind w hw with ⟨a1, a2, a3, a4, a5, a6, rfl⟩ | ⟨a1, a2, a3, a4, rfl⟩
  · exact va_Nw.of rfl h
  · exact va_Nw.of rfl h
theorem st_off {args : Array Value} {s : State} (hts : ∀ w ∈ lw_tbl, w.before args s = true) : ∀ w ∈ offW, va_Nw w s := fun w hw => by
  have h := st_sub hts offW [810, 1109, 1186, 1624, 811, 812, 813, 814, 815, 816] (by decide +kernel) w hw
  rcases offW_kind w hw with ⟨a1, a2, rfl⟩ | ⟨a1, rfl⟩
  · exact va_Nw.of rfl h
  · exact va_Nw.of rfl h
theorem st_nc {args : Array Value} {s : State} (hs : ∀ c ∈ flS0, c.before args s = true) : ∀ q ∈ ncW, va_Nc q.1 q.2 s := fun q hq => by
  have h : ∀ q ∈ ncW, Cond.not (.castable q.1 q.2) ∈ flS0 := by
    have h1 : ncW.map (fun q => Cond.not (.castable q.1 q.2)) = [42, 58, 74, 26, 59, 75, 27, 43, 76, 29, 45, 61].filterMap (fun i => flS0[i]?) := by decide +kernel
    intro q hq
    have h2 : Cond.not (.castable q.1 q.2) ∈ ncW.map (fun q => Cond.not (.castable q.1 q.2)) := List.mem_map.mpr ⟨q, hq, rfl⟩
    rw [h1] at h2
    obtain ⟨i, -, hi⟩ := List.mem_filterMap.mp h2
    exact List.mem_of_getElem? hi
  exact va_Nc.of (hs _ (h q hq))
theorem st_xO {args : Array Value} {s : State} (hts : ∀ w ∈ lw_tbl, w.before args s = true) (hs : ∀ c ∈ flS0, c.before args s = true) : ∃ (adK adV : Nat → Nat) (nlw : Nat), xO s.heap.size adK adV nlw s s.heap := by
  have hA : ∀ a : Nat, a < s.heap.size → ¬ (fun q : Nat => s.heap.size ≤ q) a := fun a h => Nat.not_le.mpr h
  obtain ⟨adK, adV, had⟩ := st_texts (A := fun q : Nat => s.heap.size ≤ q) hs hA
  obtain ⟨t, ht, hT⟩ := va_Tof (tm := .static "SnoringWells" "NO_LAW" "[I") (ty := .int) (N := 0) (f := fun _ => .int 0) (A := fun q : Nat => s.heap.size ≤ q) (by decide) (hs _ (List.mem_of_getElem? (i := 5) (by decide +kernel))) (va_eqt (hs _ (List.mem_of_getElem? (i := 6) (by decide +kernel)))) (fun j hj => absurd hj (Nat.not_lt_zero j)) hA
  refine ⟨adK, adV, t, fun i hi => (had i hi).2, st_strT hts hs (fun i hi => ⟨(had i hi).1, trivial⟩), va_Zref (hts _ (List.mem_of_getElem? (i := 221) (by decide +kernel))) (hts _ (List.mem_of_getElem? (i := 127) (by decide +kernel))) ht hA, hT, va_Zof (hts _ (List.mem_of_getElem? (i := 918) (by decide +kernel))) (hts _ (List.mem_of_getElem? (i := 143) (by decide +kernel))) (va_eqt (hs _ (List.mem_of_getElem? (i := 9) (by decide +kernel)))) hA, st_nest hts, va_Zqof (hts _ (List.mem_of_getElem? (i := 934) (by decide +kernel))) (hts _ (List.mem_of_getElem? (i := 145) (by decide +kernel))) (hs _ (List.mem_of_getElem? (i := 10) (by decide +kernel))) hA, vx_Zqof (hts _ (List.mem_of_getElem? (i := 835) (by decide +kernel))) (hts _ (List.mem_of_getElem? (i := 139) (by decide +kernel))) (hs _ (List.mem_of_getElem? (i := 7) (by decide +kernel))) hA, vx_Zqof (hts _ (List.mem_of_getElem? (i := 837) (by decide +kernel))) (hts _ (List.mem_of_getElem? (i := 139) (by decide +kernel))) (hs _ (List.mem_of_getElem? (i := 8) (by decide +kernel))) hA, fun C hC => ?_, st_off hts, st_nc hs⟩
  simp only [aoW, List.mem_cons, List.not_mem_nil, or_false] at hC
  rcases hC with rfl | rfl | rfl
  · exact (va_AO.of (hts _ (List.mem_of_getElem? (i := 339) (by decide +kernel))))
  · exact (va_AO.of (hts _ (List.mem_of_getElem? (i := 163) (by decide +kernel))))
  · exact (va_AO.of (hts _ (List.mem_of_getElem? (i := 165) (by decide +kernel))))
theorem st_cls {args : Array Value} {s : State} (hts : ∀ w ∈ lw_tbl, w.before args s = true) (hg : ∀ w ∈ gT, w.before args s = true) : ∀ k : Nat, ∃ (c : ClassId) (f : Nat → Nat), ∀ q : vw_C, classes[k]? = some q → u_Kn s q.1 q.2.1 q.2.2 c f := fun k => match k with
  | 0 => by
    obtain ⟨c, f, h⟩ := u_known (C := RX0) (T := TX0) (N := 1) (n := 1) hg inX0 (hts _ (List.mem_of_getElem? (i := 434) (by decide +kernel)))
    exact ⟨c, f, fun q hq => by cases hq; exact h⟩
  | 1 => by
    obtain ⟨c, f, h⟩ := u_known (C := RX1) (T := TX1) (N := 13) (n := 13) hg inX1 (hts _ (List.mem_of_getElem? (i := 215) (by decide +kernel)))
    exact ⟨c, f, fun q hq => by cases hq; exact h⟩
  | 2 => by
    obtain ⟨c, f, h⟩ := u_known (C := RX2) (T := TX2) (N := 5) (n := 5) hg inX2 (hts _ (List.mem_of_getElem? (i := 278) (by decide +kernel)))
    exact ⟨c, f, fun q hq => by cases hq; exact h⟩
  | 3 => by
    obtain ⟨c, f, h⟩ := u_known (C := RX3) (T := TX3) (N := 1) (n := 1) hg inX3 (hts _ (List.mem_of_getElem? (i := 1241) (by decide +kernel)))
    exact ⟨c, f, fun q hq => by cases hq; exact h⟩
  | 4 => by
    obtain ⟨c, f, h⟩ := u_known (C := RX4) (T := TX4) (N := 6) (n := 6) hg inX4 (hts _ (List.mem_of_getElem? (i := 309) (by decide +kernel)))
    exact ⟨c, f, fun q hq => by cases hq; exact h⟩
  | 5 => by
    obtain ⟨c, f, h⟩ := u_known (C := RX5) (T := TX5) (N := 5) (n := 5) hg inX5 (hts _ (List.mem_of_getElem? (i := 333) (by decide +kernel)))
    exact ⟨c, f, fun q hq => by cases hq; exact h⟩
  | 6 => by
    obtain ⟨c, f, h⟩ := u_known (C := RX6) (T := TX6) (N := 4) (n := 4) hg inX6 (hts _ (List.mem_of_getElem? (i := 444) (by decide +kernel)))
    exact ⟨c, f, fun q hq => by cases hq; exact h⟩
  | 7 => by
    obtain ⟨c, f, h⟩ := u_known (C := RX7) (T := TX7) (N := 13) (n := 13) hg inX7 (hts _ (List.mem_of_getElem? (i := 383) (by decide +kernel)))
    exact ⟨c, f, fun q hq => by cases hq; exact h⟩
  | 8 => by
    obtain ⟨c, f, h⟩ := u_known (C := RX8) (T := TX8) (N := 6) (n := 6) hg inX8 (hts _ (List.mem_of_getElem? (i := 167) (by decide +kernel)))
    exact ⟨c, f, fun q hq => by cases hq; exact h⟩
  | 9 => by
    obtain ⟨c, f, h⟩ := u_known (C := RX9) (T := TX9) (N := 5) (n := 5) hg inX9 (hts _ (List.mem_of_getElem? (i := 193) (by decide +kernel)))
    exact ⟨c, f, fun q hq => by cases hq; exact h⟩
  | 10 => by
    obtain ⟨c, f, h⟩ := u_known (C := RX10) (T := TX10) (N := 4) (n := 4) hg inX10 (hts _ (List.mem_of_getElem? (i := 360) (by decide +kernel)))
    exact ⟨c, f, fun q hq => by cases hq; exact h⟩
  | 11 => by
    obtain ⟨c, f, h⟩ := u_known (C := RX11) (T := TX11) (N := 10) (n := 10) hg inX11 (hts _ (List.mem_of_getElem? (i := 155) (by decide +kernel)))
    exact ⟨c, f, fun q hq => by cases hq; exact h⟩
  | 12 => by
    obtain ⟨c, f, h⟩ := u_known (C := RX12) (T := TX12) (N := 29) (n := 29) hg inX12 (hts _ (List.mem_of_getElem? (i := 1679) (by decide +kernel)))
    exact ⟨c, f, fun q hq => by cases hq; exact h⟩
  | k + 13 => ⟨0, fun _ => 0, fun q hq => by simp [classes] at hq⟩
def tyA (k : Nat) : Option FieldType := [FieldType.int, .long, .byte, .boolean, .object "SnoringWells$Land", .object "SnoringWells$Page", .object "SnoringWells$Tray"][k]?
theorem st_arr {args : Array Value} {s : State} (hts : ∀ w ∈ lw_tbl, w.before args s = true) : ∀ k : Nat, ∃ c : ClassId, ∀ ty : FieldType, tyA k = some ty → ArrOfT s c ty ∧ va_RA s c ty := fun k => match k with
  | 0 => by
    obtain ⟨c, kA, comp, h1, h2, h3⟩ := Cond.arrayClass_spec (args := args) (first := s) (o := none) (s := s) (idx := []) (type := .int) (hts _ (List.mem_of_getElem? (i := 191) (by decide +kernel)))
    exact ⟨c, fun q hq => by cases hq; exact ⟨fun n z => ⟨(fun k h => by cases h), kA, h2, comp, h3⟩, h1⟩⟩
  | 1 => by
    obtain ⟨c, kA, comp, h1, h2, h3⟩ := Cond.arrayClass_spec (args := args) (first := s) (o := none) (s := s) (idx := []) (type := .long) (hts _ (List.mem_of_getElem? (i := 381) (by decide +kernel)))
    exact ⟨c, fun q hq => by cases hq; exact ⟨fun n z => ⟨(fun k h => by cases h), kA, h2, comp, h3⟩, h1⟩⟩
  | 2 => by
    obtain ⟨c, kA, comp, h1, h2, h3⟩ := Cond.arrayClass_spec (args := args) (first := s) (o := none) (s := s) (idx := []) (type := .byte) (hts _ (List.mem_of_getElem? (i := 432) (by decide +kernel)))
    exact ⟨c, fun q hq => by cases hq; exact ⟨fun n z => ⟨(fun k h => by cases h), kA, h2, comp, h3⟩, h1⟩⟩
  | 3 => by
    obtain ⟨c, kA, comp, h1, h2, h3⟩ := Cond.arrayClass_spec (args := args) (first := s) (o := none) (s := s) (idx := []) (type := .boolean) (hts _ (List.mem_of_getElem? (i := 1772) (by decide +kernel)))
    exact ⟨c, fun q hq => by cases hq; exact ⟨fun n z => ⟨(fun k h => by cases h), kA, h2, comp, h3⟩, h1⟩⟩
  | 4 => by
    obtain ⟨comp, c, kA, h1, -, h2, h3, h4⟩ := Cond.arrayOver_spec (args := args) (first := s) (o := none) (s := s) (idx := []) (n := "SnoringWells$Land") (hts _ (List.mem_of_getElem? (i := 339) (by decide +kernel)))
    exact ⟨c, fun q hq => by cases hq; exact ⟨fun n z => ⟨(fun k h => by cases h), kA, h2, comp, h3⟩, kA, comp, h2, h3, h1, h4⟩⟩
  | 5 => by
    obtain ⟨comp, c, kA, h1, -, h2, h3, h4⟩ := Cond.arrayOver_spec (args := args) (first := s) (o := none) (s := s) (idx := []) (n := "SnoringWells$Page") (hts _ (List.mem_of_getElem? (i := 163) (by decide +kernel)))
    exact ⟨c, fun q hq => by cases hq; exact ⟨fun n z => ⟨(fun k h => by cases h), kA, h2, comp, h3⟩, kA, comp, h2, h3, h1, h4⟩⟩
  | 6 => by
    obtain ⟨comp, c, kA, h1, -, h2, h3, h4⟩ := Cond.arrayOver_spec (args := args) (first := s) (o := none) (s := s) (idx := []) (n := "SnoringWells$Tray") (hts _ (List.mem_of_getElem? (i := 165) (by decide +kernel)))
    exact ⟨c, fun q hq => by cases hq; exact ⟨fun n z => ⟨(fun k h => by cases h), kA, h2, comp, h3⟩, kA, comp, h2, h3, h1, h4⟩⟩
  | k + 7 => ⟨0, fun q hq => by simp [tyA] at hq⟩
theorem st_K {args : Array Value} {s : State} (hts : ∀ w ∈ lw_tbl, w.before args s = true) (hg : ∀ w ∈ gT, w.before args s = true) : ∃ (D : va_G) (cy : Nat → ClassId), va_K D classes (xtys cy) s := by
  obtain ⟨fc, hfc⟩ := Classical.axiomOfChoice (st_cls hts hg)
  obtain ⟨fi, hfi⟩ := Classical.axiomOfChoice hfc
  obtain ⟨cy, hcy⟩ := Classical.axiomOfChoice (st_arr hts)
  refine ⟨(fc, fi), cy, fun k q hq => hfi k q hq, fun k q hq => ?_⟩
  match k, hq with
  | 0, hq => cases hq; exact hcy 0 _ rfl
  | 1, hq => cases hq; exact hcy 1 _ rfl
  | 2, hq => cases hq; exact hcy 2 _ rfl
  | 3, hq => cases hq; exact hcy 3 _ rfl
  | 4, hq => cases hq; exact hcy 4 _ rfl
  | 5, hq => cases hq; exact hcy 5 _ rfl
  | 6, hq => cases hq; exact hcy 6 _ rfl
  | k + 7, hq => simp [xtys] at hq
theorem st_room {s : State} {pl : Platform} {R R' : Room} (h : s.hasRoom pl R = true) (h1 : R'.frames ≤ R.frames) (h2 : R'.cells ≤ R.cells) (h3 : R'.slots ≤ R.slots) (h4 : R'.locals ≤ R.locals) : s.hasRoom pl R' = true := by
  simp only [State.hasRoom, Bool.and_eq_true, decide_eq_true_eq] at h ⊢
  obtain ⟨⟨⟨⟨a1, a2, a3, a4, a5, a6⟩, a7⟩, a8⟩, a9⟩ := h
  exact ⟨⟨⟨⟨by omega, by omega, by omega, by omega, by omega, a6⟩, by omega⟩, by omega⟩, a9⟩
theorem st_shrink {p : Program} {l : Launch} {e : Env} {R R' : Room} {s : State} {m : MethodId} {args : Array Value} {below : List Frame} {meth : Method} {c : Code} {H : Heap} {locs : List Loc} {cells slots : Nat} {Q : State → Prop} {g : JFrame} (h1 : R'.frames ≤ R.frames) (h2 : R'.cells ≤ R.cells) (h3 : R'.slots ≤ R.slots) (h4 : R'.locals ≤ R.locals) (k : W p l e R' s m args below meth c H locs cells slots Q g) : W p l e R s m args below meth c H locs cells slots Q g := fun T hT X => k T hT { X with room := st_room X.room h1 h2 h3 h4 }
/-- the empty world -/
def w00 : Wd := (64, fun _ => 0, fun _ => 0, fun _ _ => 0, fun _ _ => 0, fun _ _ => 0)
theorem st_h0 {x : xG} {H : Heap} (h : x.2.2.1 = H.size) : xh x w00 H := ⟨Nat.le_refl _, by rw [h]; rfl, rfl, fun r h1 h2 _ => absurd h2 (Nat.not_lt.mpr h1)⟩
theorem st_law (l : Launch) (hflags : l.flags = flags0) (hpure : ∀ (n : Nat) (sc : Nat → Int32), n ≤ 3072 → w_L_law n sc 601024 7293034 (fun r _ => r = 1) w00) {p : Program} {e : Env} {s : State} {m : MethodId} {below : List Frame} {meth : Method} {c : Code} {b L : Nat} {xs : Nat → Int32} (hL : L ≤ 3072) (hx : p.tables.exec = Jvm.exec) (hb : c.code = code) (hr : meth.sig.returnType = ret) (hml : c.maxLocals = 8) (hown : s.vm.findClass R_law = some m.cls) (hts : ∀ w ∈ lw_tbl, w.before #[Value.ref b] s = true) (hX : va_X b L xs s s.heap) (hbl : b < s.heap.size) (hlocks : meth.locks = false) (hgv : (Jvm.Cond.and given_1 narrow_1).before #[Value.ref b] s = true) : W p l e room_1 s m #[Value.ref b] below meth c s.heap [] 0 0 (lw_Z below #[Value.ref b] s) (entryFrame m ([Value.ref b] : List Value).toArray 8) := by
  have hs := flat_of_before _ hgv
  have hg : ∀ w ∈ gT, w.before #[Value.ref b] s = true := fun w hw => hts w (List.mem_filter.mp hw).1
  obtain ⟨D, cy, hK⟩ := st_K hts hg
  obtain ⟨adK, adV, nlw, hO⟩ := st_xO hts hs
  have hl : l.stackTraces = false := by
    unfold Launch.stackTraces
    rw [hflags]
    decide +kernel
  refine st_shrink (R' := rmd 1312 601024 7293034) (by decide) (by decide) (by decide) (by decide) ?_
  have hlv := lv_entry ([.ref b]) (n := 8) (Nat.le_of_ble_eq_true rfl)
  rw [lg_entry_eq]
  exact t_L_law (x := (D, cy, s.heap.size, adK, adV, nlw)) (args := #[Value.ref b]) ⟨⟨hx, hb, hml, hown, hg⟩, hK, hO, Nat.le_refl _⟩ hlocks hr hl hX hbl (Nat.not_le.mpr hbl) ⟨Nat.le_refl _, Nat.le_refl _, rfl, rfl⟩ (fun r w h => h) w00 (hpure L xs hL) s.heap [] _ (st_h0 rfl) va_S.rf hlv
