/-! 76: what holds between two calls: class and reference tell the same -/
def RdS (w : Wd) : Prop := isK w 67 8 ∧ (wR w 67 0 = 68 ∧ isK w 68 20 ∧ wn w 68 = 360) ∧ (wR w 67 1 = 69 ∧ isK w 69 20 ∧ wn w 69 = 7) ∧ (wR w 67 2 = 70 ∧ isK w 70 20 ∧ wn w 70 = 11)
def SnS (w : Wd) : Prop := isK w 71 9 ∧ wR w 71 4 = 72 ∧ isK w 72 20 ∧ wn w 72 = 649
def TrS (w : Wd) (i : Nat) : Prop := isK w (230 + 2 * i) 10 ∧ wR w (230 + 2 * i) 3 = 231 + 2 * i ∧ isK w (231 + 2 * i) 21 ∧ wn w (231 + 2 * i) = 30
def RrS (w : Wd) : Prop := isK w 238 7 ∧ (wR w 238 4 = 239 ∧ isK w 239 22 ∧ wn w 239 = 900) ∧ wR w 238 11 = 240 ∧ isK w 240 20 ∧ wn w 240 = 900
def PlS (w : Wd) : Prop := isK w 242 6 ∧ wR w 242 0 = 85 ∧ wR w 242 1 = 82 ∧ (wR w 242 2 = 243 ∧ isK w 243 21 ∧ wn w 243 = 6) ∧ wR w 242 3 = 244 ∧ isK w 244 21 ∧ wn w 244 = 64
def XtS (w : Wd) : Prop := isK w 64 11 ∧ wR w 64 0 = 90 ∧ wR w 64 1 = 65 ∧ wR w 64 2 = 66 ∧ wR w 64 3 = 82 ∧ wR w 64 4 = 238 ∧ wR w 64 5 = 85 ∧ wR w 64 6 = 241 ∧ wR w 64 7 = 67 ∧ wR w 64 8 = 242 ∧ wR w 64 9 = 71
def ArS (w : Wd) : Prop := (isK w 65 25 ∧ wn w 65 = 3 ∧ ∀ i, i < 3 → wR w 65 i = 125 + 35 * i) ∧ isK w 66 26 ∧ wn w 66 = 4 ∧ ∀ i, i < 4 → wR w 66 i = 230 + 2 * i
/-- the shapes of all that both stand on -/
def SH (w : Wd) : Prop := XtS w ∧ ArS w ∧ RdS w ∧ SnS w ∧ LdS w 82 ∧ NS w 85 ∧ (∀ i, i < 4 → TrS w i) ∧ RrS w ∧ (isK w 241 0 ∧ wR w 241 0 = 85 ∧ wn w 1 = 0) ∧ PlS w ∧ okM w 245 ∧ isK w 260 21 ∧ wn w 260 = 1
theorem NS_cx {T : Nat → Prop} {w u : Wd} {q : Nat} (e : cx T w u) (hq : ¬ T q) (N : NS w q) : NS u q := by
  have f0 := cx_at e N.1 hq
  refine ⟨cx_isK e N.1, ⟨?_, cx_isK e N.2.1.2.1, (cx_wn e N.2.1.2.1).trans N.2.1.2.2⟩, ⟨?_, cx_isK e N.2.2.1.2.1, (cx_wn e N.2.2.1.2.1).trans N.2.2.1.2.2⟩, ⟨?_, cx_isK e N.2.2.2.1.2.1, (cx_wn e N.2.2.2.1.2.1).trans N.2.2.2.1.2.2⟩, ⟨?_, cx_isK e N.2.2.2.2.2.1, (cx_wn e N.2.2.2.2.2.1).trans N.2.2.2.2.2.2⟩⟩
  · rw [f0.2.2]; exact N.2.1.1
  · rw [f0.2.2]; exact N.2.2.1.1
  · rw [f0.2.2]; exact N.2.2.2.1.1
  · rw [f0.2.2]; exact N.2.2.2.2.1
theorem LdS_cx {T : Nat → Prop} {w u : Wd} {q : Nat} (e : cx T w u) (hq : ¬ T q) (N : LdS w q) : LdS u q := by
  have f0 := cx_at e N.1 hq
  exact ⟨cx_isK e N.1, ⟨by rw [f0.2.2]; exact N.2.1.1, cx_isK e N.2.1.2.1, (cx_wn e N.2.1.2.1).trans N.2.1.2.2⟩, by rw [f0.2.2]; exact N.2.2.1, cx_isK e N.2.2.2.1, (cx_wn e N.2.2.2.1).trans N.2.2.2.2⟩
theorem arK_cx {T : Nat → Prop} {w u : Wd} {t m k n : Nat} (e : cx T w u) (hR : wR u t = wR w t) {j : Nat} (h : wR w t j = m ∧ isK w m k ∧ wn w m = n) : wR u t j = m ∧ isK u m k ∧ wn u m = n := ⟨by rw [hR]; exact h.1, cx_isK e h.2.1, (cx_wn e h.2.1).trans h.2.2⟩
theorem okM_cx {T : Nat → Prop} {w u : Wd} {M : Nat} (e : cx T w u) (hR : wR u M = wR w M) (h : okM w M) : okM u M := by
  obtain ⟨h0, h1, h2, h3, h4, h5, h6, h7, h8, h9, h10, h11, h12, h13, h14⟩ := h
  exact ⟨cx_isK e h0, arK_cx e hR h1, arK_cx e hR h2, arK_cx e hR h3, arK_cx e hR h4, arK_cx e hR h5, arK_cx e hR h6, arK_cx e hR h7, arK_cx e hR h8, arK_cx e hR h9, arK_cx e hR h10, arK_cx e hR h11, arK_cx e hR h12, arK_cx e hR h13, arK_cx e hR h14⟩
/-- refs stay at the cells that have shapes, but for the land ahead and the noise -/
def rfs (w u : Wd) : Prop := ∀ t, (t = 64 ∨ t = 65 ∨ t = 66 ∨ t = 67 ∨ t = 71 ∨ (230 ≤ t ∧ t ≤ 237) ∨ t = 241 ∨ t = 242 ∨ t = 245) → wR u t = wR w t
theorem SH_cx {T : Nat → Prop} {w u : Wd} (e : cx T w u) (hr : rfs w u) (hL : LdS u 82) (hN : NS u 85) (hD : RrS u) (s : SH w) : SH u := by
  obtain ⟨s1, ⟨s2, s3⟩, s4, s5, s6, s7, s8, s9, s10, s11, s12, s13, s14⟩ := s
  have r64 := hr 64 (by omega)
  have r65 := hr 65 (by omega)
  have r66 := hr 66 (by omega)
  have r67 := hr 67 (by omega)
  have r71 := hr 71 (by omega)
  have r241 := hr 241 (by omega)
  have r242 := hr 242 (by omega)
  have r245 := hr 245 (by omega)
  refine ⟨?_, ⟨⟨cx_isK e s2.1, (cx_wn e s2.1).trans s2.2.1, fun i hi => by rw [r65]; exact s2.2.2 i hi⟩, cx_isK e s3.1, (cx_wn e s3.1).trans s3.2.1, fun i hi => by rw [r66]; exact s3.2.2 i hi⟩, ⟨cx_isK e s4.1, arK_cx e r67 s4.2.1, arK_cx e r67 s4.2.2.1, arK_cx e r67 s4.2.2.2⟩, ⟨cx_isK e s5.1, arK_cx e r71 s5.2⟩, hL, hN, fun i hi => ?_, hD, ⟨cx_isK e s10.1, by rw [r241]; exact s10.2.1, ((e.2 1 (by have := s13.2.1; omega)).2.1).trans s10.2.2⟩, ⟨cx_isK e s11.1, by rw [r242]; exact s11.2.1, by rw [r242]; exact s11.2.2.1, arK_cx e r242 s11.2.2.2.1, arK_cx e r242 s11.2.2.2.2⟩, okM_cx e r245 s12, cx_isK e s13, (cx_wn e s13).trans s14⟩
  · obtain ⟨x0, x1⟩ := s1
    unfold XtS
    rw [r64]
    exact ⟨cx_isK e x0, x1⟩
  · have z := s8 i hi
    have rr := hr (230 + 2 * i) (by omega)
    exact ⟨cx_isK e z.1, arK_cx e rr z.2⟩
theorem RrS_cx {T : Nat → Prop} {w u : Wd} (e : cx T w u) (hR : wR u 238 = wR w 238) (h : RrS w) : RrS u := ⟨cx_isK e h.1, arK_cx e hR h.2.1, arK_cx e hR h.2.2⟩
theorem SH_e {T : Nat → Prop} {w u : Wd} (e : cx T w u) (hR : wR u = wR w) (s : SH w) : SH u := by
  have hl : LdS u 82 := by
    have N := s.2.2.2.2.1
    exact ⟨cx_isK e N.1, arK_cx e (congrFun hR 82) N.2.1, arK_cx e (congrFun hR 82) N.2.2⟩
  have hn : NS u 85 := by
    have N := s.2.2.2.2.2.1
    exact ⟨cx_isK e N.1, arK_cx e (congrFun hR 85) N.2.1, arK_cx e (congrFun hR 85) N.2.2.1, arK_cx e (congrFun hR 85) N.2.2.2.1, arK_cx e (congrFun hR 85) N.2.2.2.2⟩
  exact SH_cx e (fun t _ => congrFun hR t) hl hn (RrS_cx e (congrFun hR 238) s.2.2.2.2.2.2.2.1) s
/-- of the cells of T none bears a shape but, it may be, the land ahead and the noise -/
theorem SH_t {T : Nat → Prop} {w u : Wd} (e : cx T w u) (hT : ∀ t, T t → ¬ (t = 64 ∨ t = 65 ∨ t = 66 ∨ t = 67 ∨ t = 71 ∨ (230 ≤ t ∧ t ≤ 238) ∨ t = 241 ∨ t = 242 ∨ t = 245)) (hL : LdS u 82) (hN : NS u 85) (s : SH w) : SH u := by
  have W : 261 ≤ wN w := s.2.2.2.2.2.2.2.2.2.2.2.1.2.1
  have f : ∀ t, (t = 64 ∨ t = 65 ∨ t = 66 ∨ t = 67 ∨ t = 71 ∨ (230 ≤ t ∧ t ≤ 238) ∨ t = 241 ∨ t = 242 ∨ t = 245) → wR u t = wR w t := fun t ht => ((e.2 t (by omega)).2.2 (fun z => hT t z ht)).2.2
  exact SH_cx e (fun t ht => f t (by omega)) hL hN (RrS_cx e (f 238 (by omega)) s.2.2.2.2.2.2.2.1) s
theorem SH_d {w : Wd} (s : SH w) : isK w 241 0 ∧ wR w 241 0 = 85 := ⟨s.2.2.2.2.2.2.2.2.1.1, s.2.2.2.2.2.2.2.2.1.2.1⟩
theorem SH_0 {w : Wd} (s : SH w) : wn w 1 = 0 := s.2.2.2.2.2.2.2.2.1.2.2
theorem SH_N {w : Wd} (s : SH w) : 261 ≤ wN w := s.2.2.2.2.2.2.2.2.2.2.2.1.2.1
/-- what the class's calls change that only ask; its deeds; the reference -/
def cS (t : Nat) : Prop := (67 ≤ t ∧ t ≤ 72) ∨ (82 ≤ t ∧ t ≤ 89) ∨ t = 243 ∨ t = 244 ∨ t = 260
def cD (t : Nat) : Prop := cS t ∨ (90 ≤ t ∧ t ≤ 124)
def rS (t : Nat) : Prop := t = 245 ∨ t = 246 ∨ (251 ≤ t ∧ t ≤ 256)
def CP (w : Wd) (g : Nat → Nat) : Prop := ∃ h e, PG w 90 h e g
def IM (w : Wd) (B i : Nat) : Prop := ∃ g h e b, WF g B ∧ PG w (125 + 35 * i) h e g ∧ (∀ k, k < 1215 → wI w 248 (1215 * i + k) = nI (g k)) ∧ wI w (125 + 35 * i) 1 = b2i b ∧ wI w 249 i = b2i b
def TRv (w : Wd) (i : Nat) (b : Bool) (s m : Nat) (v : Nat → Int64) : Prop := s < 4 ∧ m ≤ 30 ∧ (wI w (230 + 2 * i) 0 = b2i b ∧ wI w (230 + 2 * i) 1 = nI m ∧ wI w (230 + 2 * i) 2 = nI s ∧ ∀ k, k < 30 → wL w (231 + 2 * i) k = v k) ∧ wI w 257 i = (if b then nI s else -1) ∧ wI w 258 i = nI m ∧ ∀ k, k < 30 → wL w 259 (30 * i + k) = v k
def TR (w : Wd) (i : Nat) : Prop := ∃ b s m v, TRv w i b s m v
def TP (w : Wd) : Prop := ∃ (n : Nat) (t : Nat → Nat), n ≤ 900 ∧ wI w 238 0 = nI n ∧ wI w 245 6 = nI n ∧ ∀ k, k < n → t k < 256 ∧ wI w 250 k = nI (t k) ∧ wI w 239 k = (nI (t k)).toInt8.toInt32
def FT (w : Wd) : Prop := wI w 238 1 = wI w 245 14 ∧ wI w 238 2 = wI w 245 15
def OT (w : Wd) (B : Nat) : Prop := (∀ i, i < 3 → IM w B i) ∧ (∀ i, i < 4 → TR w i) ∧ TP w ∧ FT w
def INV (w : Wd) (B : Nat) : Prop := SH w ∧ (∃ g, WF g B ∧ CP w g ∧ RS w 245 g) ∧ OT w B
def fl3 (w u : Wd) : Prop := wI u 245 6 = wI w 245 6 ∧ wI u 245 14 = wI w 245 14 ∧ wI u 245 15 = wI w 245 15
theorem WF_mono {g : Nat → Nat} {B C : Nat} (h : WF g B) (hc : B ≤ C) (hC : C < 2 ^ 24) : WF g C := WF_st h (sameH_refl g) (wfS_mono h.2.2.1 hc) hc hC
theorem cD_noH : noH cD := fun t z => by unfold cD cS at z; omega
theorem rS_noH : noH rS := fun t z => by unfold rS at z; omega
theorem OT_cx {T : Nat → Prop} {w u : Wd} {B C : Nat} (c : cx T w u) (hT : ∀ t, T t → cD t ∨ rS t) (s : SH w) (f : fl3 w u) (hB : B ≤ C) (hC : C < 2 ^ 24) (O : OT w B) : OT u C := by
  have W := SH_N s
  have nH : noH T := fun t z => (hT t z).elim (fun k => cD_noH t k) (fun k => rS_noH t k)
  have no : ∀ t, ((125 ≤ t ∧ t ≤ 240) ∨ (248 ≤ t ∧ t ≤ 250) ∨ (257 ≤ t ∧ t ≤ 259)) → wI u t = wI w t ∧ wL u t = wL w t := fun t ht => by
    have z := (c.2 t (by omega)).2.2 (fun k => by have := hT t k; unfold cD cS rS at this; omega)
    exact ⟨z.1, z.2.1⟩
  obtain ⟨o1, o2, ⟨n, tt, o3⟩, o4⟩ := O
  refine ⟨fun i hi => ?_, fun i hi => ?_, ⟨n, tt, ?_⟩, ?_⟩
  · obtain ⟨g, h, e, b, q1, q2, q3, q4, q5⟩ := o1 i hi
    refine ⟨g, h, e, b, WF_mono q1 hB hC, PG_cx c nH (fun t z k => by have := hT t k; unfold cD cS rS at this; unfold pgT at z; omega) q2, fun k hk => by rw [(no 248 (by omega)).1]; exact q3 k hk, by rw [(no (125 + 35 * i) (by omega)).1]; exact q4, by rw [(no 249 (by omega)).1]; exact q5⟩
  · obtain ⟨b, s', m, v, q1, q2, ⟨q3, q4, q5, q6⟩, q7, q8, q9⟩ := o2 i hi
    have a0 := no (230 + 2 * i) (by omega)
    refine ⟨b, s', m, v, q1, q2, ⟨by rw [a0.1]; exact q3, by rw [a0.1]; exact q4, by rw [a0.1]; exact q5, fun k hk => by rw [(no (231 + 2 * i) (by omega)).2]; exact q6 k hk⟩, by rw [(no 257 (by omega)).1]; exact q7, by rw [(no 258 (by omega)).1]; exact q8, fun k hk => by rw [(no 259 (by omega)).2]; exact q9 k hk⟩
  · refine ⟨o3.1, by rw [(no 238 (by omega)).1]; exact o3.2.1, by rw [f.1]; exact o3.2.2.1, fun k hk => ?_⟩
    have z := o3.2.2.2 k hk
    exact ⟨z.1, by rw [(no 250 (by omega)).1]; exact z.2.1, by rw [(no 239 (by omega)).1]; exact z.2.2⟩
  · unfold FT
    rw [f.2.1, f.2.2, (no 238 (by omega)).1]
    exact o4
theorem CP_cx {T : Nat → Prop} {w u : Wd} {g : Nat → Nat} (c : cx T w u) (n : noH T) (hT : ∀ t, T t → ¬ (90 ≤ t ∧ t ≤ 124)) (P : CP w g) : CP u g := by
  obtain ⟨h, e, z⟩ := P
  exact ⟨h, e, PG_cx c n (fun t z k => hT t k (by unfold pgT at z; omega)) z⟩
theorem RS_cx {T : Nat → Prop} {w u : Wd} {g : Nat → Nat} (c : cx T w u) (s : SH u) (hT : ¬ T 246) (R : RS w 245 g) : RS u 245 g := ⟨s.2.2.2.2.2.2.2.2.2.2.1, fun k hk => by rw [(cx_at c R.1.2.1.2.1 hT).1]; exact R.2 k hk⟩
/-- a stage of the class's; of the reference's -/
def stC (w u : Wd) : Prop := cx cD w u ∧ SH u
def stR (w u : Wd) : Prop := cx rS w u ∧ SH u ∧ fl3 w u
theorem stC_trans {w u v : Wd} (h : stC w u) (k : stC u v) : stC w v := ⟨cx_trans h.1 k.1, k.2⟩
theorem stR_trans {w u v : Wd} (h : stR w u) (k : stR u v) : stR w v := ⟨cx_trans h.1 k.1, k.2.1, k.2.2.1.trans h.2.2.1, k.2.2.2.1.trans h.2.2.2.1, k.2.2.2.2.trans h.2.2.2.2⟩
theorem cD_245 : ¬ cD 245 ∧ ¬ cD 246 := by unfold cD cS; omega
theorem stC_fl3 {w u : Wd} (s : SH w) (h : stC w u) : fl3 w u := by
  have z := (cx_at h.1 s.2.2.2.2.2.2.2.2.2.2.1.1 cD_245.1).1
  exact ⟨by rw [z], by rw [z], by rw [z]⟩
theorem stC_RS {w u : Wd} {g : Nat → Nat} (h : stC w u) (R : RS w 245 g) : RS u 245 g := RS_cx h.1 h.2 cD_245.2 R
theorem stC_OT {w u : Wd} {B C : Nat} (s : SH w) (h : stC w u) (hB : B ≤ C) (hC : C < 2 ^ 24) (O : OT w B) : OT u C := OT_cx h.1 (fun _ => Or.inl) s (stC_fl3 s h) hB hC O
theorem stR_CP {w u : Wd} {g : Nat → Nat} (h : stR w u) (P : CP w g) : CP u g := CP_cx h.1 rS_noH (fun t z => by unfold rS at z; omega) P
theorem stR_OT {w u : Wd} {B C : Nat} (s : SH w) (h : stR w u) (hB : B ≤ C) (hC : C < 2 ^ 24) (O : OT w B) : OT u C := OT_cx h.1 (fun _ => Or.inr) s h.2.2 hB hC O
/-- the reference's own small writes -/
theorem stR_uI {w : Wd} {k : Nat} {v : Int32} (s : SH w) (h6 : k ≠ 6) (h14 : k ≠ 14) (h15 : k ≠ 15) : stR w (uI w 245 k v) := by
  have e : cx rS w (uI w 245 k v) := cx_uI (Or.inl rfl)
  refine ⟨e, SH_e e rfl s, ?_, ?_, ?_⟩
  · rw [wI_uI, if_neg (fun z => h6 z.symm)]
  · rw [wI_uI, if_neg (fun z => h14 z.symm)]
  · rw [wI_uI, if_neg (fun z => h15 z.symm)]
theorem refT_rS {t : Nat} (h : refT 245 t) : rS t := by unfold refT at h; unfold rS; omega
theorem stR_e {T : Nat → Prop} {w u : Wd} (s : SH w) (e : eqW T w u) (hT : ∀ t, T t → rS t ∧ t ≠ 245) : stR w u := by
  have n : ∀ t, (t = 64 ∨ t = 65 ∨ t = 66 ∨ t = 67 ∨ t = 71 ∨ t = 82 ∨ t = 85 ∨ (230 ≤ t ∧ t ≤ 238) ∨ t = 241 ∨ t = 242 ∨ t = 245) → ¬ T t := fun t ht z => by
    have := hT t z
    unfold rS at this
    omega
  have c := cx_eqW e
  have z := e.2.2.2 245 (n 245 (by omega))
  exact ⟨cx_mono (fun t k => (hT t k).1) c, SH_t c (fun t k => by have := hT t k; unfold rS at this; omega) (LdS_cx c (n 82 (by omega)) s.2.2.2.2.1) (NS_cx c (n 85 (by omega)) s.2.2.2.2.2.1) s, by rw [z.1], by rw [z.1], by rw [z.1]⟩
theorem stR_refT {w u : Wd} (s : SH w) (e : eqW (refT 245) w u) : stR w u := stR_e s e (fun t z => ⟨refT_rS z, by unfold refT at z; omega⟩)
/-- a stage of the class's that leaves the shapes -/
theorem stC_e {T : Nat → Prop} {w u : Wd} (s : SH w) (c : cx T w u) (hT : ∀ t, T t → cD t ∧ t ≠ 67 ∧ t ≠ 71) (hL : T 82 → LdS u 82) (hN : T 85 → NS u 85) : stC w u := by
  refine ⟨cx_mono (fun t k => (hT t k).1) c, SH_t c (fun t k => by have := hT t k; unfold cD cS at this; omega) ?_ ?_ s⟩
  · by_cases z : T 82
    · exact hL z
    · exact LdS_cx c z s.2.2.2.2.1
  · by_cases z : T 85
    · exact hN z
    · exact NS_cx c z s.2.2.2.2.2.1
theorem stC_wJ {w : Wd} {N : Nat} (s : SH w) (h : wN w ≤ N) : stC w (wJ w N) := stC_e (T := fun _ => False) s (cx_wJ h) (fun _ z => z.elim) (fun z => z.elim) (fun z => z.elim)
theorem stC_refl {w : Wd} (s : SH w) : stC w w := ⟨cx_refl _ _, s⟩
theorem stR_refl {w : Wd} (s : SH w) : stR w w := ⟨cx_refl _ _, s, rfl, rfl, rfl⟩
theorem stC_out {w : Wd} {v : Int64} (s : SH w) : stC w (uL w 260 0 v) := ⟨cx_uL (Or.inl (by unfold cS; omega)), SH_e (T := cS) (cx_uL (by unfold cS; omega)) rfl s⟩
/-- the class's query: the page stays -/
theorem CP_q {T : Nat → Prop} {w u : Wd} {g : Nat → Nat} (c : cx T w u) (hT : ∀ t, T t → cS t) (P : CP w g) : CP u g := CP_cx c (fun t z => cD_noH t (Or.inl (hT t z))) (fun t z => by have := hT t z; unfold cS at this; omega) P
theorem INV_end {u : Wd} {B : Nat} {g : Nat → Nat} (s : SH u) (hW : WF g B) (P : CP u g) (R : RS u 245 g) (O : OT u B) : INV u B := ⟨s, ⟨g, hW, P, R⟩, O⟩
