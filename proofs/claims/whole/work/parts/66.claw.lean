/-! 66: the class's lawHolds -/
theorem wI_uI (w : Wd) (t k j : Nat) (v : Int32) : wI (uI w t k v) t j = if j = k then v else wI w t j := by
  rw [sI_uI, wI_sI]
  rfl
theorem LA_fr {T : Nat → Prop} {w u : Wd} {r h : Nat} {g : Nat → Nat} (e : eqW T w u) (hf : ∀ t, hT w h t ∨ landT r t → ¬ T t) (L : LA w r h g) : LA u r h g := by
  obtain ⟨⟨⟨l1, l2, l3⟩, ⟨l4, l5⟩, ⟨l6, l7⟩, l8, l9⟩, a⟩ := L
  have f0 := e.2.2.2 r (hf r (Or.inr (Or.inl rfl)))
  refine ⟨⟨⟨(eqW_isK e).mpr l1, by rw [f0.2.2]; exact l2, HR_fr e l3 (fun t ht => hf t (Or.inl ht)) (sameH_refl g)⟩, ⟨by rw [f0.1]; exact l4, by rw [f0.1]; exact l5⟩, ⟨by rw [f0.2.2]; exact l6, arr_fr e l7 (hf _ (Or.inr (Or.inr (Or.inl rfl)))) (fun _ _ => rfl)⟩, by rw [f0.2.2]; exact l8, arr_fr e l9 (hf _ (Or.inr (Or.inr (Or.inr rfl)))) (fun _ _ => rfl)⟩, aprt_fr e (hf h (Or.inl (Or.inl ⟨by omega, by omega⟩))) a⟩
def nT (q t : Nat) : Prop := t = q + 3 ∨ t = q + 4
theorem q_lawHolds {w : Wd} {q r h : Nat} {g : Nat → Nat} {B : Nat} (N : NS w q) (h0 : wR w q 0 = r) (L : LA w r h g) (hW : WF g B) (hf : ∀ t, hT w h t ∨ landT r t → ¬ nT q t) {a b n : Nat} (ha : a < g 1) (hb : b < g 1) (hn : n ≤ 99) {K : Int32 → Wd → Prop} (hk : ∀ u, eqW (nT q) w u → K (b2i (lawB g a b n)) u) : w_X4_lawHolds q (nI a) (nI b) (nI n) K w := by
  have h10 := hW.1.1.2.1
  have hB := hW.2.2.2.2
  have h6 : g 26 ≤ B := hW.2.2.1.2.2
  subst h0
  obtain ⟨⟨⟨l1, l2, l3⟩, l4⟩, ap⟩ := L
  subst l2
  have L : LA w (wR w q 0) (wR w (wR w q 0) 0) g := ⟨⟨⟨l1, rfl, l3⟩, l4⟩, ap⟩
  have k4 := N.2.2.2.1.1
  have kn : isK w (wR w q 4) 20 := by rw [k4]; exact N.2.2.2.1.2.1
  have kv : ∀ k, k < 8 → vp_in (nI k) (wn w (wR w q 4)) := fun k hk' => by rw [k4, N.2.2.2.1.2.2]; exact vp_in_nI hk' (by decide)
  have F : ∀ u, eqW (nT q) w u → LA u (wR w q 0) (wR w (wR w q 0) 0) g := fun u e => LA_fr e hf L
  have ha' : a < 10 := by omega
  have hb' : b < 10 := by omega
  have hset := set_lt hW.1 (hW.1.2.1 a ha).2.2.2
  refine ⟨N.1, kn, l1, l3.1, q_deepOf l3 ha' ⟨kn, kv 0 (by decide), N.1, kn, l1, l3.1, q_deepOf (F _ (eqW_uI (Or.inl k4))).1.1.2.2 hb' ⟨kn, kv 1 (by decide), N.1, kn, l1, q_waterOf (F _ (eqW_trans (eqW_uI (Or.inl k4)) (eqW_uI (Or.inl k4)))).1 ha' ⟨kn, kv 2 (by decide), N.1, kn, l1, q_waterOf (F _ (eqW_trans (eqW_trans (eqW_uI (Or.inl k4)) (eqW_uI (Or.inl k4))) (eqW_uI (Or.inl k4)))).1 hb' ⟨kn, kv 3 (by decide), N.1, kn, kv 4 (by decide), l1, kv 5 (by decide), ?_⟩⟩⟩⟩⟩
  have e5 : eqW (nT q) w (uI (uI (uI (uI (uI w (wR w q 4) 0 (nI (g (47 + a)))) (wR w q 4) 1 (nI (g (47 + b)))) (wR w q 4) 2 (nI (g (15 + a)))) (wR w q 4) 3 (nI (g (15 + b)))) (wR w q 4) 4 (nI n)) := eqW_trans (eqW_trans (eqW_trans (eqW_trans (eqW_uI (Or.inl k4)) (eqW_uI (Or.inl k4))) (eqW_uI (Or.inl k4))) (eqW_uI (Or.inl k4))) (eqW_uI (Or.inl k4))
  refine q_phaseOf (F _ (eqW_trans e5 (eqW_uI (Or.inl k4)))).1 hW hb ⟨kn, kv 6 (by decide), N.1, kn, l1, l3.1, q_besideOf (F _ (eqW_trans (eqW_trans e5 (eqW_uI (Or.inl k4))) (eqW_uI (Or.inl k4)))).1.1.2.2 ha' (p_bitCount hset ⟨kn, kv 7 (by decide), N.1, l1, l3.1, ?_⟩)⟩
  have e26 := (F _ e5).1.2.1.1
  have e24 : x_irem (nI (g 26)) 24 = nI (g 26 % 24) := pk_rem (by omega) (by decide) (by decide)
  have law : (wR w (wR w (wR w q 0) 0) 4 = 1 ∧ wn w 1 = 0 ∧ g 3 = 0) ∨ arr w (wR w (wR w (wR w q 0) 0) 4) (g 3) (fun i => cvS (g (299 + i))) := l3.2.2.2.2.2.2.2.2
  have e8 := eqW_trans (eqW_trans (eqW_trans e5 (eqW_uI (k := 5) (v := nI (g 26 % 24)) (Or.inl k4))) (eqW_uI (k := 6) (v := nI (ph g b 0)) (Or.inl k4))) (eqW_uI (k := 7) (v := nI (cb (g (57 + a)))) (Or.inl k4))
  rcases law with ⟨t1, t2, t3⟩ | hl
  · refine ⟨Or.inl t1, 1, Or.inl t1, br_t ?_ (br_t (by decide) ?_)⟩
    · show Int32.ofNat (wn w (wR w (wR w (wR w q 0) 0) 4)) ≤ 0
      rw [t1, t2]
      decide
    · have hk2 := fun u e => hk u e
      rw [show lawB g a b n = false by unfold lawB; rw [t3]; rfl] at hk2
      exact hk2 _ (eqW_trans (eqW_trans (eqW_trans e5 (eqW_uI (Or.inl k4))) (eqW_uI (Or.inl k4))) (eqW_uI (Or.inl k4)))
  · have hq := hf _ (Or.inl (Or.inr (Or.inl (rfl : wR w (wR w (wR w q 0) 0) 4 = _))))
    rcases hW.2.1 with ⟨g3, -⟩ | ⟨hT, -⟩
    · refine ⟨Or.inr hl.1, 1, Or.inr hl.1, br_t ?_ (br_t (by decide) ?_)⟩
      · show Int32.ofNat (wn w (wR w (wR w (wR w q 0) 0) 4)) ≤ 0
        rw [hl.2.1, g3]
        decide
      · have hk2 := fun u e => hk u e
        rw [show lawB g a b n = false by unfold lawB; rw [g3]; rfl] at hk2
        exact hk2 _ (eqW_trans (eqW_trans (eqW_trans e5 (eqW_uI (Or.inl k4))) (eqW_uI (Or.inl k4))) (eqW_uI (Or.inl k4)))
    · refine ⟨Or.inr hl.1, g 3 + 1, ?_⟩
      have hl2 := arr_fr e8 hl hq (fun _ _ => rfl)
      obtain ⟨W, hWW⟩ : ∃ W : Wd, W = uI (uI (uI (uI (uI (uI (uI (uI w (wR w q 4) 0 (nI (g (47 + a)))) (wR w q 4) 1 (nI (g (47 + b)))) (wR w q 4) 2 (nI (g (15 + a)))) (wR w q 4) 3 (nI (g (15 + b)))) (wR w q 4) 4 (nI n)) (wR w q 4) 5 (nI (g 26 % 24))) (wR w q 4) 6 (nI (ph g b 0))) (wR w q 4) 7 (nI (cb (g (57 + a)))) := ⟨_, rfl⟩
      have NW : NS W q := by rw [hWW]; exact N
      have eW : eqW (nT q) w W := by rw [hWW]; exact e8
      have aW : arr W (wR w (wR w (wR w q 0) 0) 4) (g 3) (fun i => cvS (g (299 + i))) := by rw [hWW]; exact hl2
      have nW : ∀ k, k < 8 → wI W (q + 3) k = nI (lEnv g a b n k) := by
        intro k hk8
        rw [hWW, ← k4]
        have e : k = 0 ∨ k = 1 ∨ k = 2 ∨ k = 3 ∨ k = 4 ∨ k = 5 ∨ k = 6 ∨ k = 7 := by omega
        rcases e with rfl | rfl | rfl | rfl | rfl | rfl | rfl | rfl <;> simp only [wI_uI] <;> rfl
      have m2 : l_X4_lawHolds_139 (fun b83 b84 w85 => ((b84 < 1 → K 0 w85) ∧ (¬ b84 < 1 → isK w85 b83 4 ∧ isK w85 (wR w85 b83 5) 20 ∧ vp_in 0 (wn w85 (wR w85 b83 5)) ∧ (((wI w85 (wR w85 b83 5) (0 : Int32).toNatClampNeg) = 0 → K 0 w85) ∧ (¬ (wI w85 (wR w85 b83 5) (0 : Int32).toNatClampNeg) = 0 → K 1 w85))))) K (g 3 + 1) q (wR w (wR w (wR w q 0) 0) 4) (nI 0) (nI 0) W := by
        clear hWW
        rw [← sI_self W (q + 4)]
        refine q_lawRun NW hW aW (fun e => hq (Or.inr e)) ha hb hn nW (g 3) 0 (wI W (q + 4)) [] [] (by omega) hT trivial trivial (fun f' l' e hv hst => ?_)
        obtain ⟨x, l2, rfl, hx, hv2⟩ := okV_c hv
        have e4 : l2 = [] := match l2, hv2 with | [], _ => rfl
        subst e4
        refine br_f (show ¬ nI 1 < 1 by decide) ?_
        have k17 : wR (sI W (q + 4) f') q 5 = q + 4 := NW.2.2.2.2.1
        have k20 : isK (sI W (q + 4) f') (q + 4) 20 := NW.2.2.2.2.2.1
        have k64 : wn (sI W (q + 4) f') (q + 4) = 64 := NW.2.2.2.2.2.2
        rw [k17, k64, wI_sI, show f' (0 : Int32).toNatClampNeg = x from hst.1]
        refine ⟨NW.1, k20, vp_in_nI (n := 0) (by decide) (by decide), ?_⟩
        have hk2 := hk (sI W (q + 4) f') (eqW_trans eW (eqW_sI (Or.inr rfl)))
        unfold lawB at hk2
        rw [← e] at hk2
        rcases hx with rfl | rfl
        · exact br_t rfl hk2
        · exact br_f (by decide) hk2
      have e26' : wI (uI (uI (uI (uI (uI w (wR w q 4) 0 (nI (g (47 + a)))) (wR w q 4) 1 (nI (g (47 + b)))) (wR w q 4) 2 (nI (g (15 + a)))) (wR w q 4) 3 (nI (g (15 + b)))) (wR w q 4) 4 (nI n)) (wR w q 0) 1 = nI (g 26) := e26
      rw [hWW, ← e24, ← e26'] at m2
      exact m2
