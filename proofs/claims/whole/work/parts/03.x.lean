/-- all that is given with a call: numbers of classes and array classes, the start of the world, the texts' places, the empty law -/
abbrev xG : Type := va_G × (Nat → ClassId) × Nat × (Nat → Nat) × (Nat → Nat) × Nat
/-- the world: how many tokens; of each cell its kind, length, ints, longs, references (tokens: 0 null, 1 the empty law, 2 + i the text i, from 64 on the cells) -/
abbrev Wd : Type := Nat × (Nat → Nat) × (Nat → Nat) × (Nat → Nat → Int32) × (Nat → Nat → Int64) × (Nat → Nat → Nat)
def wN (w : Wd) : Nat := w.1
def wK (w : Wd) : Nat → Nat := w.2.1
def wn (w : Wd) : Nat → Nat := w.2.2.1
def wI (w : Wd) : Nat → Nat → Int32 := w.2.2.2.1
def wL (w : Wd) : Nat → Nat → Int64 := w.2.2.2.2.1
def wR (w : Wd) : Nat → Nat → Nat := w.2.2.2.2.2
def uI (w : Wd) (r k : Nat) (v : Int32) : Wd := (w.1, w.2.1, w.2.2.1, va_up w.2.2.2.1 r (upd (w.2.2.2.1 r) k v), w.2.2.2.2)
def uL (w : Wd) (r k : Nat) (v : Int64) : Wd := (w.1, w.2.1, w.2.2.1, w.2.2.2.1, va_up w.2.2.2.2.1 r (vp_updL (w.2.2.2.2.1 r) k v), w.2.2.2.2.2)
def uR (w : Wd) (r k : Nat) (v : Nat) : Wd := (w.1, w.2.1, w.2.2.1, w.2.2.2.1, w.2.2.2.2.1, va_up w.2.2.2.2.2 r (va_up (w.2.2.2.2.2 r) k v))
/-- a new cell -/
def wA (w : Wd) (kind len : Nat) : Wd := (w.1 + 1, va_up w.2.1 w.1 kind, va_up w.2.2.1 w.1 len, va_up w.2.2.2.1 w.1 (fun _ => 0), va_up w.2.2.2.2.1 w.1 (fun _ => 0), va_up w.2.2.2.2.2 w.1 (fun _ => 0))
def isK (w : Wd) (r k : Nat) : Prop := 64 ≤ r ∧ r < wN w ∧ wK w r = k
def adr (x : xG) (r : Nat) : Nat := if r = 1 then x.2.2.2.2.2 else if r < 64 then x.2.2.2.1 (r - 2) else x.2.2.1 + (r - 64)
theorem adr_w {x : xG} {r : Nat} (h : 64 ≤ r) : adr x r = x.2.2.1 + (r - 64) := by
  unfold adr
  rw [if_neg (by omega), if_neg (by omega)]
theorem adr_in {x : xG} {w : Wd} {r k : Nat} (h : isK w r k) : x.2.2.1 ≤ adr x r := by
  rw [adr_w h.1]
  exact Nat.le_add_right _ _
theorem adr_inj {x : xG} {r q : Nat} (h1 : 64 ≤ r) (h2 : 64 ≤ q) (h : adr x r = adr x q) : r = q := by
  rw [adr_w h1, adr_w h2] at h
  omega
def eO (x : xG) (r : Nat) : Option Nat := if r = 0 then none else some (adr x r)
theorem eO_ne {x : xG} {r : Nat} (h : r ≠ 0) : va_rf (eO x r) = .ref (adr x r) := by
  unfold eO
  rw [if_neg h]
  rfl
def fv (x : xG) (I : Nat → Int32) (L : Nat → Int64) (P : Nat → Nat) (c k : Nat) : Value := if c = 0 then .int (I k) else if c = 1 then .long (L k) else va_rf (eO x (P k))
def fl (x : xG) (I : Nat → Int32) (L : Nat → Int64) (P : Nat → Nat) (cs : List Nat) : List Value := (List.range cs.length).map (fun k => fv x I L P (cs.getD k 0) k)
theorem fl_get {x : xG} {I : Nat → Int32} {L : Nat → Int64} {P : Nat → Nat} {cs : List Nat} {k c : Nat} (h : cs[k]? = some c) : (fl x I L P cs)[k]? = some (fv x I L P c k) := by
  have hk : k < cs.length := (List.getElem?_eq_some_iff.mp h).1
  unfold fl
  rw [List.getElem?_map, List.getElem?_range hk]
  simp [List.getD, h]
theorem fl_len {x : xG} {I : Nat → Int32} {L : Nat → Int64} {P : Nat → Nat} {cs : List Nat} : (fl x I L P cs).length = cs.length := by simp [fl]
theorem fl_set {x : xG} {I I2 : Nat → Int32} {L L2 : Nat → Int64} {P P2 : Nat → Nat} {cs : List Nat} {k c : Nat} {v : Value} (h : cs[k]? = some c) (hv : fv x I2 L2 P2 c k = v) (ho : ∀ q, q ≠ k → I2 q = I q ∧ L2 q = L q ∧ P2 q = P q) : fl x I2 L2 P2 cs = (fl x I L P cs).set k v := by
  have hk : k < cs.length := (List.getElem?_eq_some_iff.mp h).1
  apply List.ext_getElem?
  intro q
  by_cases hq : q = k
  · subst hq
    rw [fl_get h, List.getElem?_set_self (by rw [fl_len]; exact hk), hv]
  · rw [List.getElem?_set_ne (fun z => hq z.symm)]
    cases hc : cs[q]? with
    | none =>
      have h1 : cs.length ≤ q := List.getElem?_eq_none_iff.mp hc
      rw [List.getElem?_eq_none_iff.mpr (by rw [fl_len]; exact h1), List.getElem?_eq_none_iff.mpr (by rw [fl_len]; exact h1)]
    | some d =>
      obtain ⟨a1, a2, a3⟩ := ho q hq
      rw [fl_get hc, fl_get hc]
      unfold fv
      rw [a1, a2, a3]
def encc (x : xG) (kd ln : Nat) (I : Nat → Int32) (L : Nat → Int64) (P : Nat → Nat) : va_E := if kd < 13 then .inr (kd, fl x I L P (kc.getD kd [])) else if kd = 21 then .inl (x.2.1 1, ln, .inr (.inl L)) else if kd < 24 then .inl (x.2.1 (kd - 20), ln, .inl I) else .inl (x.2.1 (kd - 20), ln, .inr (.inr (.inr (.inr (fun k => eO x (P k))))))
def enc (x : xG) (w : Wd) (r : Nat) : va_E := encc x (wK w r) (wn w r) (wI w r) (wL w r) (wR w r)
theorem enc_obj {x : xG} {w : Wd} {r k : Nat} (h : isK w r k) (hk : k < 13) : enc x w r = .inr (k, fl x (wI w r) (wL w r) (wR w r) (kc.getD k [])) := by
  unfold enc encc
  rw [h.2.2, if_pos hk]
theorem enc0 {x : xG} {w : Wd} {r : Nat} (h : isK w r 20) : enc x w r = .inl (x.2.1 0, wn w r, .inl (wI w r)) := by
  unfold enc encc
  rw [h.2.2]
  rfl
theorem enc1 {x : xG} {w : Wd} {r : Nat} (h : isK w r 21) : enc x w r = .inl (x.2.1 1, wn w r, .inr (.inl (wL w r))) := by
  unfold enc encc
  rw [h.2.2]
  rfl
theorem enc2 {x : xG} {w : Wd} {r : Nat} (h : isK w r 22) : enc x w r = .inl (x.2.1 2, wn w r, .inl (wI w r)) := by
  unfold enc encc
  rw [h.2.2]
  rfl
theorem enc3 {x : xG} {w : Wd} {r : Nat} (h : isK w r 23) : enc x w r = .inl (x.2.1 3, wn w r, .inl (wI w r)) := by
  unfold enc encc
  rw [h.2.2]
  rfl
theorem encq {x : xG} {w : Wd} {r t : Nat} (h : isK w r (20 + t)) (ht : 4 ≤ t) : enc x w r = .inl (x.2.1 t, wn w r, .inr (.inr (.inr (.inr (fun k => eO x (wR w r k)))))) := by
  unfold enc encc
  rw [h.2.2, if_neg (by omega), if_neg (by omega), if_neg (by omega), Nat.add_sub_cancel_left]
theorem isK_uI {w : Wd} {r k a b : Nat} {v : Int32} : isK (uI w a b v) r k ↔ isK w r k := Iff.rfl
theorem isK_uL {w : Wd} {r k a b : Nat} {v : Int64} : isK (uL w a b v) r k ↔ isK w r k := Iff.rfl
theorem isK_uR {w : Wd} {r k a b : Nat} {v : Nat} : isK (uR w a b v) r k ↔ isK w r k := Iff.rfl
theorem wI_uI_same {w : Wd} {r k : Nat} {v : Int32} : wI (uI w r k v) r = upd (wI w r) k v := by simp [wI, uI, va_up]
theorem wL_uL_same {w : Wd} {r k : Nat} {v : Int64} : wL (uL w r k v) r = vp_updL (wL w r) k v := by simp [wL, uL, va_up]
theorem wR_uR_same {w : Wd} {r k : Nat} {v : Nat} : wR (uR w r k v) r = va_up (wR w r) k v := by simp [wR, uR, va_up]
theorem wI_uI_ne {w : Wd} {r q k : Nat} {v : Int32} (h : q ≠ r) : wI (uI w r k v) q = wI w q := by simp [wI, uI, va_up, h]
theorem wL_uL_ne {w : Wd} {r q k : Nat} {v : Int64} (h : q ≠ r) : wL (uL w r k v) q = wL w q := by simp [wL, uL, va_up, h]
theorem wR_uR_ne {w : Wd} {r q k : Nat} {v : Nat} (h : q ≠ r) : wR (uR w r k v) q = wR w q := by simp [wR, uR, va_up, h]
theorem enc0_uI {x : xG} {w : Wd} {r k : Nat} {v : Int32} (h : isK w r 20) : enc x (uI w r k v) r = .inl (x.2.1 0, wn w r, .inl (upd (wI w r) k v)) := by
  rw [enc0 (isK_uI.mpr h), wI_uI_same]
  rfl
theorem enc1_uL {x : xG} {w : Wd} {r k : Nat} {v : Int64} (h : isK w r 21) : enc x (uL w r k v) r = .inl (x.2.1 1, wn w r, .inr (.inl (vp_updL (wL w r) k v))) := by
  rw [enc1 (isK_uL.mpr h), wL_uL_same]
  rfl
theorem enc2_uI {x : xG} {w : Wd} {r k : Nat} {v : Int32} (h : isK w r 22) : enc x (uI w r k v) r = .inl (x.2.1 2, wn w r, .inl (upd (wI w r) k v)) := by
  rw [enc2 (isK_uI.mpr h), wI_uI_same]
  rfl
theorem enc3_uI {x : xG} {w : Wd} {r k : Nat} {v : Int32} (h : isK w r 23) : enc x (uI w r k v) r = .inl (x.2.1 3, wn w r, .inl (upd (wI w r) k v)) := by
  rw [enc3 (isK_uI.mpr h), wI_uI_same]
  rfl
theorem encq_uR {x : xG} {w : Wd} {r k t : Nat} {v : Nat} (h : isK w r (20 + t)) (ht : 4 ≤ t) : enc x (uR w r k v) r = .inl (x.2.1 t, wn w r, .inr (.inr (.inr (.inr (fun q => eO x (va_up (wR w r) k v q)))))) := by
  rw [encq (isK_uR.mpr h) ht, wR_uR_same]
  rfl
/-- the heap from b on -/
def xh (x : xG) (w : Wd) (H : Heap) : Prop := 64 ≤ wN w ∧ H.size + 64 = x.2.2.1 + wN w ∧ wn w 1 = 0 ∧ ∀ r : Nat, 64 ≤ r → r < wN w → wK w r ≠ 99 → va_at x.1 classes (adr x r, enc x w r) H
theorem xh.one {x : xG} {w : Wd} {H : Heap} (h : xh x w H) {r k : Nat} (hr : isK w r k) (hk : k ≠ 99) {z : va_E} (hz : enc x w r = z) : va_P x.1 classes [(adr x r, z)] H := by
  intro q y hq
  match q, hq with
  | 0, hq => cases hq; rw [← hz]; exact h.2.2.2 r hr.1 hr.2.1 (by rw [hr.2.2]; exact hk)
  | q + 1, hq => simp at hq
theorem xh.obj {x : xG} {w : Wd} {H : Heap} (h : xh x w H) {r k : Nat} (hr : isK w r k) (hk : k < 13) : va_P x.1 classes [(adr x r, .inr (k, fl x (wI w r) (wL w r) (wR w r) (kc.getD k [])))] H := h.one hr (by omega) (enc_obj hr hk)
theorem xh.arr0 {x : xG} {w : Wd} {H : Heap} (h : xh x w H) {r : Nat} (hr : isK w r 20) : va_P x.1 classes [(adr x r, .inl (x.2.1 0, wn w r, .inl (wI w r)))] H := h.one hr (by decide) (enc0 hr)
theorem xh.arr1 {x : xG} {w : Wd} {H : Heap} (h : xh x w H) {r : Nat} (hr : isK w r 21) : va_P x.1 classes [(adr x r, .inl (x.2.1 1, wn w r, .inr (.inl (wL w r))))] H := h.one hr (by decide) (enc1 hr)
theorem xh.arr2 {x : xG} {w : Wd} {H : Heap} (h : xh x w H) {r : Nat} (hr : isK w r 22) : va_P x.1 classes [(adr x r, .inl (x.2.1 2, wn w r, .inl (wI w r)))] H := h.one hr (by decide) (enc2 hr)
theorem xh.arr3 {x : xG} {w : Wd} {H : Heap} (h : xh x w H) {r : Nat} (hr : isK w r 23) : va_P x.1 classes [(adr x r, .inl (x.2.1 3, wn w r, .inl (wI w r)))] H := h.one hr (by decide) (enc3 hr)
theorem xh.arrq {x : xG} {w : Wd} {H : Heap} (h : xh x w H) {r t : Nat} (hr : isK w r (20 + t)) (ht : 4 ≤ t) (ht2 : t < 7) : va_P x.1 classes [(adr x r, .inl (x.2.1 t, wn w r, .inr (.inr (.inr (.inr (fun k => eO x (wR w r k)))))))] H := h.one hr (by omega) (encq hr ht)
theorem xh.put {x : xG} {w w2 : Wd} {H H1 : Heap} (h : xh x w H) {r k : Nat} (hr : isK w r k) (z : H1.size = H.size) (hN : wN w2 = wN w) (hK : wK w2 = wK w) (hn : wn w2 = wn w) (ho : ∀ q, q ≠ r → wI w2 q = wI w q ∧ wL w2 q = wL w q ∧ wR w2 q = wR w q) (e : va_at x.1 classes (adr x r, enc x w2 r) H1) (o : ∀ q : Nat, q ≠ adr x r → H1[q]? = H[q]?) : xh x w2 H1 := by
  refine ⟨by rw [hN]; exact h.1, by rw [z, hN]; exact h.2.1, by rw [hn]; exact h.2.2.1, fun q h1 h2 h3 => ?_⟩
  by_cases hq : q = r
  · subst hq; exact e
  · obtain ⟨a1, a2, a3⟩ := ho q hq
    have h4 := h.2.2.2 q h1 (by rw [← hN]; exact h2) (by rw [← hK]; exact h3)
    have h5 : enc x w2 q = enc x w q := by unfold enc; rw [hK, hn, a1, a2, a3]
    rw [h5]
    exact h4.kept (o _ (fun hz => hq (adr_inj h1 hr.1 hz)))
theorem xh.putI {x : xG} {w : Wd} {H H1 : Heap} (h : xh x w H) {r k a : Nat} {v : Int32} (hr : isK w r k) (_ : k ≠ 99) (z : H1.size = H.size) (e : va_at x.1 classes (adr x r, enc x (uI w r a v) r) H1) (o : ∀ q : Nat, q ≠ adr x r → H1[q]? = H[q]?) : xh x (uI w r a v) H1 := h.put hr z rfl rfl rfl (fun q hq => ⟨wI_uI_ne hq, rfl, rfl⟩) e o
theorem xh.putL {x : xG} {w : Wd} {H H1 : Heap} (h : xh x w H) {r k a : Nat} {v : Int64} (hr : isK w r k) (_ : k ≠ 99) (z : H1.size = H.size) (e : va_at x.1 classes (adr x r, enc x (uL w r a v) r) H1) (o : ∀ q : Nat, q ≠ adr x r → H1[q]? = H[q]?) : xh x (uL w r a v) H1 := h.put hr z rfl rfl rfl (fun q hq => ⟨rfl, wL_uL_ne hq, rfl⟩) e o
theorem xh.putR {x : xG} {w : Wd} {H H1 : Heap} (h : xh x w H) {r k a : Nat} {v : Nat} (hr : isK w r k) (_ : k ≠ 99) (z : H1.size = H.size) (e : va_at x.1 classes (adr x r, enc x (uR w r a v) r) H1) (o : ∀ q : Nat, q ≠ adr x r → H1[q]? = H[q]?) : xh x (uR w r a v) H1 := h.put hr z rfl rfl rfl (fun q hq => ⟨rfl, rfl, wR_uR_ne hq⟩) e o
def aoW : List String := ["SnoringWells$Land", "SnoringWells$Page", "SnoringWells$Tray"]
def offW : List Cond := [.castable "java/lang/IllegalArgumentException" "java/lang/IllegalArgumentException", .castable "java/util/NoSuchElementException" "java/util/NoSuchElementException", .castable "java/lang/IllegalStateException" "java/lang/IllegalStateException", .castable "java/lang/IndexOutOfBoundsException" "java/lang/IndexOutOfBoundsException", .declares ⟨"java/lang/RuntimeException", "<init>", "()V"⟩, .declares ⟨"java/lang/RuntimeException", "<init>", "(Ljava/lang/String;)V"⟩, .declares ⟨"java/lang/Exception", "<init>", "()V"⟩, .declares ⟨"java/lang/Exception", "<init>", "(Ljava/lang/String;)V"⟩, .declares ⟨"java/lang/Throwable", "<init>", "()V"⟩, .declares ⟨"java/lang/Throwable", "<init>", "(Ljava/lang/String;)V"⟩]
theorem offW_kind : ∀ w ∈ offW, (∃ a b, w = .castable a b) ∨ (∃ y, w = .declares y) := by
  intro w hw
  simp only [offW, List.mem_cons, List.not_mem_nil, or_false] at hw
  rcases hw with rfl | rfl | rfl | rfl | rfl | rfl | rfl | rfl | rfl | rfl
  · exact Or.inl ⟨_, _, rfl⟩
  · exact Or.inl ⟨_, _, rfl⟩
  · exact Or.inl ⟨_, _, rfl⟩
  · exact Or.inl ⟨_, _, rfl⟩
  · exact Or.inr ⟨_, rfl⟩
  · exact Or.inr ⟨_, rfl⟩
  · exact Or.inr ⟨_, rfl⟩
  · exact Or.inr ⟨_, rfl⟩
  · exact Or.inr ⟨_, rfl⟩
  · exact Or.inr ⟨_, rfl⟩
def ncW : List (String × String) := [("java/lang/IllegalArgumentException", "java/util/NoSuchElementException"), ("java/lang/IllegalArgumentException", "java/lang/IllegalStateException"), ("java/lang/IllegalArgumentException", "java/lang/IndexOutOfBoundsException"), ("java/util/NoSuchElementException", "java/lang/IllegalArgumentException"), ("java/util/NoSuchElementException", "java/lang/IllegalStateException"), ("java/util/NoSuchElementException", "java/lang/IndexOutOfBoundsException"), ("java/lang/IllegalStateException", "java/lang/IllegalArgumentException"), ("java/lang/IllegalStateException", "java/util/NoSuchElementException"), ("java/lang/IllegalStateException", "java/lang/IndexOutOfBoundsException"), ("java/lang/IndexOutOfBoundsException", "java/lang/IllegalArgumentException"), ("java/lang/IndexOutOfBoundsException", "java/util/NoSuchElementException"), ("java/lang/IndexOutOfBoundsException", "java/lang/IllegalStateException")]
/-- what lies below b and stays: the texts of the class, the empty law; words of nest mates -/
def xO (b : Nat) (adK adV : Nat → Nat) (nlw : Nat) (U : State) (H : Heap) : Prop :=
  (∀ i : Nat, i < nJS → va_O "java/lang/String" (adK i) (fun q => b ≤ q) U H ∧ va_OF "java/lang/String" "coder" "B" (.int 0) (adK i) (fun q => b ≤ q) U H ∧ va_OF "java/lang/String" "value" "[B" (.ref (adV i)) (adK i) (fun q => b ≤ q) U H ∧ va_T .byte (adV i) (lenJS.getD i 0) (fun j => .int ((bytJS.getD i []).getD j 0)) (fun q => b ≤ q) U H) ∧
  (∀ (i : Nat) (q : String × Nat × String × Nat), strT[i]? = some q → vk_R q.1 q.2.1 q.2.2.1 (adK q.2.2.2) U) ∧ va_Z "SnoringWells" "NO_LAW" "[I" (.ref nlw) (fun q => b ≤ q) U H ∧ va_T .int nlw 0 (fun _ => .int 0) (fun q => b ≤ q) U H ∧ va_Z "java/lang/String" "COMPACT_STRINGS" "Z" (.int 1) (fun q => b ≤ q) U H ∧ (∀ w ∈ nestW, va_Nw w U) ∧ va_Zq "jdk/internal/util/Preconditions" "SIOOBE_FORMATTER" "Ljava/util/function/BiFunction;" (fun q => b ≤ q) U H ∧ vx_Zq Bundle.tN "UNASSIGNED_STACK" Bundle.steD (fun q => b ≤ q) U H ∧ vx_Zq Bundle.tN "SUPPRESSED_SENTINEL" Bundle.listD (fun q => b ≤ q) U H ∧ (∀ C ∈ aoW, va_AO C U) ∧ (∀ w ∈ offW, va_Nw w U) ∧ (∀ q ∈ ncW, va_Nc q.1 q.2 U)
theorem xO.go {b : Nat} {adK adV : Nat → Nat} {nlw : Nat} {s U : State} {H : Heap} (h : xO b adK adV nlw s s.heap) (hW : s.WarmedH U.vm) (hq : ∀ a : Nat, a < s.heap.size → ¬ b ≤ a → H[a]? = s.heap[a]?) : xO b adK adV nlw U H :=
  ⟨fun k hk => ⟨((h.1 k hk).1.moved hW.alike).kept hq, ((h.1 k hk).2.1.moved hW.alike).kept hq, ((h.1 k hk).2.2.1.moved hW.alike).kept hq, ((h.1 k hk).2.2.2.moved hW.alike).kept hq⟩, fun k q hk => (h.2.1 k q hk).warm hW, (h.2.2.1.moved hW.alike).kept hq, (h.2.2.2.1.moved hW.alike).kept hq, (h.2.2.2.2.1.moved hW.alike).kept hq, fun w hw => by
    rcases nestW_kind w hw with ⟨a1, a2, a3, a4, a5, a6, rfl⟩ | ⟨a1, a2, a3, a4, rfl⟩
    · exact va_Nw.warmF hW (h.2.2.2.2.2.1 _ hw)
    · exact va_Nw.warmM hW (h.2.2.2.2.2.1 _ hw), (h.2.2.2.2.2.2.1.moved hW.alike).kept hq, (h.2.2.2.2.2.2.2.1.moved hW.alike).kept hq, (h.2.2.2.2.2.2.2.2.1.moved hW.alike).kept hq, fun C hC => (h.2.2.2.2.2.2.2.2.2.1 C hC).moved hW.alike, fun w hw => by
    rcases offW_kind w hw with ⟨a1, a2, rfl⟩ | ⟨a1, rfl⟩
    · exact va_Nw.warmC hW (h.2.2.2.2.2.2.2.2.2.2.1 _ hw)
    · exact va_Nw.warmD hW (h.2.2.2.2.2.2.2.2.2.2.1 _ hw), fun q hQ => (h.2.2.2.2.2.2.2.2.2.2.2 q hQ).moved hW.alike⟩
theorem xO.call {b : Nat} {adK adV : Nat → Nat} {nlw : Nat} {U : State} {g : JFrame} {mk : MethodId} {a : Array Value} (h : xO b adK adV nlw U U.heap) : xO b adK adV nlw (U.calling g mk a) (U.calling g mk a).heap :=
  ⟨fun k hk => ⟨(h.1 k hk).1.moved (Vm.Alike.refl _), (h.1 k hk).2.1.moved (Vm.Alike.refl _), (h.1 k hk).2.2.1.moved (Vm.Alike.refl _), (h.1 k hk).2.2.2.moved (Vm.Alike.refl _)⟩, fun k q hk => vk_R.same rfl (h.2.1 k q hk), h.2.2.1.moved (Vm.Alike.refl _), h.2.2.2.1.moved (Vm.Alike.refl _), h.2.2.2.2.1.moved (Vm.Alike.refl _), fun w hw => by
    rcases nestW_kind w hw with ⟨a1, a2, a3, a4, a5, a6, rfl⟩ | ⟨a1, a2, a3, a4, rfl⟩
    · exact va_Nw.same rfl rfl (h.2.2.2.2.2.1 _ hw)
    · exact va_Nw.same rfl rfl (h.2.2.2.2.2.1 _ hw), h.2.2.2.2.2.2.1.moved (Vm.Alike.refl _), h.2.2.2.2.2.2.2.1.moved (Vm.Alike.refl _), h.2.2.2.2.2.2.2.2.1.moved (Vm.Alike.refl _), fun C hC => (h.2.2.2.2.2.2.2.2.2.1 C hC).moved (Vm.Alike.refl _), fun w hw => by
    rcases offW_kind w hw with ⟨a1, a2, rfl⟩ | ⟨a1, rfl⟩
    · exact va_Nw.same rfl rfl (h.2.2.2.2.2.2.2.2.2.2.1 _ hw)
    · exact va_Nw.same rfl rfl (h.2.2.2.2.2.2.2.2.2.2.1 _ hw), fun q hQ => (h.2.2.2.2.2.2.2.2.2.2.2 q hQ).moved (Vm.Alike.refl _)⟩
/-- the world at a state -/
def xS (x : xG) (w : Wd) (U : State) : Prop := xh x w U.heap ∧ va_K x.1 classes (xtys x.2.1) U ∧ xO x.2.2.1 x.2.2.2.1 x.2.2.2.2.1 x.2.2.2.2.2 U U.heap
abbrev xA (x : xG) : Nat → Prop := fun q => x.2.2.1 ≤ q
/-- what is given inside a method -/
def xC (x : xG) (p : Program) (s : State) (m : MethodId) (c : Code) (cc : ByteArray) (nL : Nat) (args : Array Value) (own : String) : Prop := CallFix p m c cc nL s args gT own ∧ va_K x.1 classes (xtys x.2.1) s ∧ xO x.2.2.1 x.2.2.2.1 x.2.2.2.2.1 x.2.2.2.2.2 s s.heap ∧ x.2.2.1 ≤ s.heap.size
def GW (x : xG) (p : Program) (l : Launch) (e : Env) (R : Room) (s : State) (m : MethodId) (args : Array Value) (below : List Frame) (meth : Method) (c : Code) (nL : Nat) (Q : State → Prop) (pc : Nat) (lo : List (Nat × Value)) (st : List Value) (w : Wd) (i j : Nat) : Prop :=
  ∀ (H : Heap) (locs : List Loc) (ls : Array Slot), xh x w H → va_S (xA x) s.heap H locs → lv_has ls nL lo → W p l e R s m args below meth c H locs i j Q (F0 m pc ls st)
def rmd (d mc ms : Nat) : Room := { frames := d, cells := mc, slots := ms, locals := 64 * d }
abbrev QcI (x : xG) (K : Int32 → Wd → Prop) : Array Value → State → Outcome → State → Prop := va_Qi K (fun u t => xh x u t.heap) (xA x)
abbrev QcL (x : xG) (K : Int64 → Wd → Prop) : Array Value → State → Outcome → State → Prop := va_Ql K (fun u t => xh x u t.heap) (xA x)
abbrev QcV (x : xG) (K : Wd → Prop) : Array Value → State → Outcome → State → Prop := va_Qv K (fun u t => xh x u t.heap) (xA x)
abbrev QcR (x : xG) (K : Nat → Wd → Prop) : Array Value → State → Outcome → State → Prop := va_Qr (S := Nat × Wd) (fun u => K u.1 u.2) (fun u a t => a = adr x u.1 ∧ xh x u.2 t.heap) (xA x)
abbrev QI (x : xG) (K : Int32 → Wd → Prop) (below : List Frame) (args : Array Value) (s : State) (mc ms : Nat) : State → Prop := MQ below (QcI x K) args s mc ms (xA x)
abbrev QL (x : xG) (K : Int64 → Wd → Prop) (below : List Frame) (args : Array Value) (s : State) (mc ms : Nat) : State → Prop := MQ below (QcL x K) args s mc ms (xA x)
abbrev QV (x : xG) (K : Wd → Prop) (below : List Frame) (args : Array Value) (s : State) (mc ms : Nat) : State → Prop := MQ below (QcV x K) args s mc ms (xA x)
abbrev QR (x : xG) (K : Nat → Wd → Prop) (below : List Frame) (args : Array Value) (s : State) (mc ms : Nat) : State → Prop := MQ below (QcR x K) args s mc ms (xA x)
theorem ne_toInt {v c : Int32} {n : Int} (h : ¬ v = c) (hc : c.toInt = n) : ¬ v.toInt = n := fun e => h (Int32.toInt_inj.mp (e.trans hc.symm))

section XL
variable {x : xG} {p : Program} {l : Launch} {e : Env} {R : Room} {s : State} {m : MethodId} {args : Array Value} {below : List Frame} {meth : Method} {c : Code} {Q : State → Prop} {cc : ByteArray} {nL : Nat} {own : String} {pc : Nat} {lo lo' : List (Nat × Value)} {st : List Value} {w : Wd} {i j : Nat}

theorem g_iadd (C : xC x p s m c cc nL args own) {a b : Int32} (hd : decode cc pc = .ok (.iadd, 1)) (k : GW x p l e R s m args below meth c nL Q (pc + 1) lo (.int (a + b) :: st) w i j) : GW x p l e R s m args below meth c nL Q pc lo (.int b :: .int a :: st) w i j := fun H locs ls h1 h2 h3 => lv_iadd C.1.1 C.1.2.1 hd (k H locs ls h1 h2 h3)
theorem g_isub (C : xC x p s m c cc nL args own) {a b : Int32} (hd : decode cc pc = .ok (.isub, 1)) (k : GW x p l e R s m args below meth c nL Q (pc + 1) lo (.int (a - b) :: st) w i j) : GW x p l e R s m args below meth c nL Q pc lo (.int b :: .int a :: st) w i j := fun H locs ls h1 h2 h3 => lv_isub C.1.1 C.1.2.1 hd (k H locs ls h1 h2 h3)
theorem g_imul (C : xC x p s m c cc nL args own) {a b : Int32} (hd : decode cc pc = .ok (.imul, 1)) (k : GW x p l e R s m args below meth c nL Q (pc + 1) lo (.int (a * b) :: st) w i j) : GW x p l e R s m args below meth c nL Q pc lo (.int b :: .int a :: st) w i j := fun H locs ls h1 h2 h3 => lv_imul C.1.1 C.1.2.1 hd (k H locs ls h1 h2 h3)
theorem g_iand (C : xC x p s m c cc nL args own) {a b : Int32} (hd : decode cc pc = .ok (.iand, 1)) (k : GW x p l e R s m args below meth c nL Q (pc + 1) lo (.int (a &&& b) :: st) w i j) : GW x p l e R s m args below meth c nL Q pc lo (.int b :: .int a :: st) w i j := fun H locs ls h1 h2 h3 => lv_iand C.1.1 C.1.2.1 hd (k H locs ls h1 h2 h3)
theorem g_ior (C : xC x p s m c cc nL args own) {a b : Int32} (hd : decode cc pc = .ok (.ior, 1)) (k : GW x p l e R s m args below meth c nL Q (pc + 1) lo (.int (a ||| b) :: st) w i j) : GW x p l e R s m args below meth c nL Q pc lo (.int b :: .int a :: st) w i j := fun H locs ls h1 h2 h3 => lv_ior C.1.1 C.1.2.1 hd (k H locs ls h1 h2 h3)
theorem g_ixor (C : xC x p s m c cc nL args own) {a b : Int32} (hd : decode cc pc = .ok (.ixor, 1)) (k : GW x p l e R s m args below meth c nL Q (pc + 1) lo (.int (a ^^^ b) :: st) w i j) : GW x p l e R s m args below meth c nL Q pc lo (.int b :: .int a :: st) w i j := fun H locs ls h1 h2 h3 => lv_ixor C.1.1 C.1.2.1 hd (k H locs ls h1 h2 h3)
theorem g_ishl (C : xC x p s m c cc nL args own) {a b : Int32} (hd : decode cc pc = .ok (.ishl, 1)) (k : GW x p l e R s m args below meth c nL Q (pc + 1) lo (.int (a <<< (b &&& 31)) :: st) w i j) : GW x p l e R s m args below meth c nL Q pc lo (.int b :: .int a :: st) w i j := fun H locs ls h1 h2 h3 => lv_ishl C.1.1 C.1.2.1 hd (k H locs ls h1 h2 h3)
theorem g_ishr (C : xC x p s m c cc nL args own) {a b : Int32} (hd : decode cc pc = .ok (.ishr, 1)) (k : GW x p l e R s m args below meth c nL Q (pc + 1) lo (.int (a >>> (b &&& 31)) :: st) w i j) : GW x p l e R s m args below meth c nL Q pc lo (.int b :: .int a :: st) w i j := fun H locs ls h1 h2 h3 => lv_ishr C.1.1 C.1.2.1 hd (k H locs ls h1 h2 h3)
theorem g_iushr (C : xC x p s m c cc nL args own) {a b : Int32} (hd : decode cc pc = .ok (.iushr, 1)) (k : GW x p l e R s m args below meth c nL Q (pc + 1) lo (.int ((a.toUInt32 >>> (b.toUInt32 &&& Int32.toUInt32 31)).toInt32) :: st) w i j) : GW x p l e R s m args below meth c nL Q pc lo (.int b :: .int a :: st) w i j := fun H locs ls h1 h2 h3 => lv_iushr C.1.1 C.1.2.1 hd rfl (k H locs ls h1 h2 h3)
theorem g_ladd (C : xC x p s m c cc nL args own) {a b : Int64} (hd : decode cc pc = .ok (.ladd, 1)) (k : GW x p l e R s m args below meth c nL Q (pc + 1) lo (.long (a + b) :: st) w i j) : GW x p l e R s m args below meth c nL Q pc lo (.long b :: .long a :: st) w i j := fun H locs ls h1 h2 h3 => lv_ladd C.1.1 C.1.2.1 hd (k H locs ls h1 h2 h3)
theorem g_lsub (C : xC x p s m c cc nL args own) {a b : Int64} (hd : decode cc pc = .ok (.lsub, 1)) (k : GW x p l e R s m args below meth c nL Q (pc + 1) lo (.long (a - b) :: st) w i j) : GW x p l e R s m args below meth c nL Q pc lo (.long b :: .long a :: st) w i j := fun H locs ls h1 h2 h3 => lv_lsub C.1.1 C.1.2.1 hd (k H locs ls h1 h2 h3)
theorem g_lmul (C : xC x p s m c cc nL args own) {a b : Int64} (hd : decode cc pc = .ok (.lmul, 1)) (k : GW x p l e R s m args below meth c nL Q (pc + 1) lo (.long (a * b) :: st) w i j) : GW x p l e R s m args below meth c nL Q pc lo (.long b :: .long a :: st) w i j := fun H locs ls h1 h2 h3 => lv_lmul C.1.1 C.1.2.1 hd (k H locs ls h1 h2 h3)
theorem g_land (C : xC x p s m c cc nL args own) {a b : Int64} (hd : decode cc pc = .ok (.land, 1)) (k : GW x p l e R s m args below meth c nL Q (pc + 1) lo (.long (a &&& b) :: st) w i j) : GW x p l e R s m args below meth c nL Q pc lo (.long b :: .long a :: st) w i j := fun H locs ls h1 h2 h3 => lv_land C.1.1 C.1.2.1 hd (k H locs ls h1 h2 h3)
theorem g_lor (C : xC x p s m c cc nL args own) {a b : Int64} (hd : decode cc pc = .ok (.lor, 1)) (k : GW x p l e R s m args below meth c nL Q (pc + 1) lo (.long (a ||| b) :: st) w i j) : GW x p l e R s m args below meth c nL Q pc lo (.long b :: .long a :: st) w i j := fun H locs ls h1 h2 h3 => lv_lor C.1.1 C.1.2.1 hd (k H locs ls h1 h2 h3)
theorem g_lxor (C : xC x p s m c cc nL args own) {a b : Int64} (hd : decode cc pc = .ok (.lxor, 1)) (k : GW x p l e R s m args below meth c nL Q (pc + 1) lo (.long (a ^^^ b) :: st) w i j) : GW x p l e R s m args below meth c nL Q pc lo (.long b :: .long a :: st) w i j := fun H locs ls h1 h2 h3 => lv_lxor C.1.1 C.1.2.1 hd (k H locs ls h1 h2 h3)
theorem g_lshl (C : xC x p s m c cc nL args own) {a : Int64} {b : Int32} (hd : decode cc pc = .ok (.lshl, 1)) (k : GW x p l e R s m args below meth c nL Q (pc + 1) lo (.long (a <<< (b.toInt64 &&& 63)) :: st) w i j) : GW x p l e R s m args below meth c nL Q pc lo (.int b :: .long a :: st) w i j := fun H locs ls h1 h2 h3 => lv_lshl C.1.1 C.1.2.1 hd rfl (k H locs ls h1 h2 h3)
theorem g_lshr (C : xC x p s m c cc nL args own) {a : Int64} {b : Int32} (hd : decode cc pc = .ok (.lshr, 1)) (k : GW x p l e R s m args below meth c nL Q (pc + 1) lo (.long (a >>> (b.toInt64 &&& 63)) :: st) w i j) : GW x p l e R s m args below meth c nL Q pc lo (.int b :: .long a :: st) w i j := fun H locs ls h1 h2 h3 => lv_lshr C.1.1 C.1.2.1 hd rfl (k H locs ls h1 h2 h3)
theorem g_lushr (C : xC x p s m c cc nL args own) {a : Int64} {b : Int32} (hd : decode cc pc = .ok (.lushr, 1)) (k : GW x p l e R s m args below meth c nL Q (pc + 1) lo (.long ((a.toUInt64 >>> (b.toInt64.toUInt64 &&& Int64.toUInt64 63)).toInt64) :: st) w i j) : GW x p l e R s m args below meth c nL Q pc lo (.int b :: .long a :: st) w i j := fun H locs ls h1 h2 h3 => lv_lushr C.1.1 C.1.2.1 hd rfl (k H locs ls h1 h2 h3)
theorem g_idiv (C : xC x p s m c cc nL args own) {a b : Int32} (hd : decode cc pc = .ok (.idiv, 1)) (hn : ¬ b = 0) (k : GW x p l e R s m args below meth c nL Q (pc + 1) lo (.int (a / b) :: st) w i j) : GW x p l e R s m args below meth c nL Q pc lo (.int b :: .int a :: st) w i j := fun H locs ls h1 h2 h3 => lv_idiv C.1.1 C.1.2.1 hd hn (k H locs ls h1 h2 h3)
theorem g_irem (C : xC x p s m c cc nL args own) {a b : Int32} (hd : decode cc pc = .ok (.irem, 1)) (hn : ¬ b = 0) (k : GW x p l e R s m args below meth c nL Q (pc + 1) lo (.int (a - a / b * b) :: st) w i j) : GW x p l e R s m args below meth c nL Q pc lo (.int b :: .int a :: st) w i j := fun H locs ls h1 h2 h3 => lv_irem C.1.1 C.1.2.1 hd hn (k H locs ls h1 h2 h3)
theorem g_ldiv (C : xC x p s m c cc nL args own) {a b : Int64} (hd : decode cc pc = .ok (.ldiv, 1)) (hn : ¬ b = 0) (k : GW x p l e R s m args below meth c nL Q (pc + 1) lo (.long (a / b) :: st) w i j) : GW x p l e R s m args below meth c nL Q pc lo (.long b :: .long a :: st) w i j := fun H locs ls h1 h2 h3 => lv_ldiv C.1.1 C.1.2.1 hd hn (k H locs ls h1 h2 h3)
theorem g_lrem (C : xC x p s m c cc nL args own) {a b : Int64} (hd : decode cc pc = .ok (.lrem, 1)) (hn : ¬ b = 0) (k : GW x p l e R s m args below meth c nL Q (pc + 1) lo (.long (a - a / b * b) :: st) w i j) : GW x p l e R s m args below meth c nL Q pc lo (.long b :: .long a :: st) w i j := fun H locs ls h1 h2 h3 => lv_lrem C.1.1 C.1.2.1 hd hn (k H locs ls h1 h2 h3)
theorem g_ineg (C : xC x p s m c cc nL args own) {a : Int32} (hd : decode cc pc = .ok (.ineg, 1)) (k : GW x p l e R s m args below meth c nL Q (pc + 1) lo (.int (-a) :: st) w i j) : GW x p l e R s m args below meth c nL Q pc lo (.int a :: st) w i j := fun H locs ls h1 h2 h3 => lv_ineg C.1.1 C.1.2.1 hd (k H locs ls h1 h2 h3)
theorem g_i2l (C : xC x p s m c cc nL args own) {a : Int32} (hd : decode cc pc = .ok (.i2l, 1)) (k : GW x p l e R s m args below meth c nL Q (pc + 1) lo (.long a.toInt64 :: st) w i j) : GW x p l e R s m args below meth c nL Q pc lo (.int a :: st) w i j := fun H locs ls h1 h2 h3 => lv_i2l C.1.1 C.1.2.1 hd rfl (k H locs ls h1 h2 h3)
theorem g_l2i (C : xC x p s m c cc nL args own) {a : Int64} (hd : decode cc pc = .ok (.l2i, 1)) (k : GW x p l e R s m args below meth c nL Q (pc + 1) lo (.int a.toInt32 :: st) w i j) : GW x p l e R s m args below meth c nL Q pc lo (.long a :: st) w i j := fun H locs ls h1 h2 h3 => lv_l2i C.1.1 C.1.2.1 hd rfl (k H locs ls h1 h2 h3)
theorem g_i2b (C : xC x p s m c cc nL args own) {a : Int32} (hd : decode cc pc = .ok (.i2b, 1)) (k : GW x p l e R s m args below meth c nL Q (pc + 1) lo (.int a.toInt8.toInt32 :: st) w i j) : GW x p l e R s m args below meth c nL Q pc lo (.int a :: st) w i j := fun H locs ls h1 h2 h3 => lv_i2b C.1.1 C.1.2.1 hd rfl (k H locs ls h1 h2 h3)
theorem g_i2s (C : xC x p s m c cc nL args own) {a : Int32} (hd : decode cc pc = .ok (.i2s, 1)) (k : GW x p l e R s m args below meth c nL Q (pc + 1) lo (.int a.toInt16.toInt32 :: st) w i j) : GW x p l e R s m args below meth c nL Q pc lo (.int a :: st) w i j := fun H locs ls h1 h2 h3 => lv_i2s C.1.1 C.1.2.1 hd rfl (k H locs ls h1 h2 h3)
theorem g_lcmp (C : xC x p s m c cc nL args own) {a b : Int64} (hd : decode cc pc = .ok (.lcmp, 1)) (k : GW x p l e R s m args below meth c nL Q (pc + 1) lo (.int (lg_cmp a b) :: st) w i j) : GW x p l e R s m args below meth c nL Q pc lo (.long b :: .long a :: st) w i j := fun H locs ls h1 h2 h3 => W.lcmp C.1.1 C.1.2.1 hd (k H locs ls h1 h2 h3)
theorem g_pop (C : xC x p s m c cc nL args own) {v : Value} (hd : decode cc pc = .ok (.pop, 1)) (hv : v.category = 1) (k : GW x p l e R s m args below meth c nL Q (pc + 1) lo (st) w i j) : GW x p l e R s m args below meth c nL Q pc lo (v :: st) w i j := fun H locs ls h1 h2 h3 => lv_pop C.1.1 C.1.2.1 hd hv (k H locs ls h1 h2 h3)
theorem g_dup (C : xC x p s m c cc nL args own) {v : Value} (hd : decode cc pc = .ok (.dup, 1)) (hv : v.category = 1) (k : GW x p l e R s m args below meth c nL Q (pc + 1) lo (v :: v :: st) w i j) : GW x p l e R s m args below meth c nL Q pc lo (v :: st) w i j := fun H locs ls h1 h2 h3 => lv_dup C.1.1 C.1.2.1 hd hv (k H locs ls h1 h2 h3)
theorem g_dup2 (C : xC x p s m c cc nL args own) {v v2 : Value} (hd : decode cc pc = .ok (.dup2, 1)) (hv : v.category = 1) (hw : v2.category = 1) (k : GW x p l e R s m args below meth c nL Q (pc + 1) lo (v :: v2 :: v :: v2 :: st) w i j) : GW x p l e R s m args below meth c nL Q pc lo (v :: v2 :: st) w i j := fun H locs ls h1 h2 h3 => lv_dup2_11 C.1.1 C.1.2.1 hd hv hw (k H locs ls h1 h2 h3)
theorem g_dup2l (C : xC x p s m c cc nL args own) {v : Value} (hd : decode cc pc = .ok (.dup2, 1)) (hv : v.category = 2) (k : GW x p l e R s m args below meth c nL Q (pc + 1) lo (v :: v :: st) w i j) : GW x p l e R s m args below meth c nL Q pc lo (v :: st) w i j := fun H locs ls h1 h2 h3 => lv_dup2_2 C.1.1 C.1.2.1 hd hv (k H locs ls h1 h2 h3)
theorem g_iconst (C : xC x p s m c cc nL args own) {n : Int} {v : Int32} (hd : decode cc pc = .ok (.iconst n, 1)) (hv : Int32.ofInt n = v) (k : GW x p l e R s m args below meth c nL Q (pc + 1) lo (.int v :: st) w i j) : GW x p l e R s m args below meth c nL Q pc lo (st) w i j := fun H locs ls h1 h2 h3 => lv_iconst C.1.1 C.1.2.1 hd hv (k H locs ls h1 h2 h3)
theorem g_bipush (C : xC x p s m c cc nL args own) {n : Int} {v : Int32} (hd : decode cc pc = .ok (.bipush n, 2)) (hv : (Int8.ofInt n).toInt32 = v) (k : GW x p l e R s m args below meth c nL Q (pc + 2) lo (.int v :: st) w i j) : GW x p l e R s m args below meth c nL Q pc lo (st) w i j := fun H locs ls h1 h2 h3 => lv_bipush C.1.1 C.1.2.1 hd hv (k H locs ls h1 h2 h3)
theorem g_sipush (C : xC x p s m c cc nL args own) {n : Int} {v : Int32} (hd : decode cc pc = .ok (.sipush n, 3)) (hv : (Int16.ofInt n).toInt32 = v) (k : GW x p l e R s m args below meth c nL Q (pc + 3) lo (.int v :: st) w i j) : GW x p l e R s m args below meth c nL Q pc lo (st) w i j := fun H locs ls h1 h2 h3 => lv_sipush C.1.1 C.1.2.1 hd hv (k H locs ls h1 h2 h3)
theorem g_lconst (C : xC x p s m c cc nL args own) {n : Fin 2} {v : Int64} (hd : decode cc pc = .ok (.lconst n, 1)) (hv : Int64.ofNat (n : Nat) = v) (k : GW x p l e R s m args below meth c nL Q (pc + 1) lo (.long v :: st) w i j) : GW x p l e R s m args below meth c nL Q pc lo (st) w i j := fun H locs ls h1 h2 h3 => lv_lconst C.1.1 C.1.2.1 hd hv (k H locs ls h1 h2 h3)
theorem g_ldc (C : xC x p s m c cc nL args own) {index : Nat} {v : Int32} (hw : Cond.constant own index v ∈ gT) (hd : decode cc pc = .ok (.ldc index, 2)) (k : GW x p l e R s m args below meth c nL Q (pc + 2) lo (.int v :: st) w i j) : GW x p l e R s m args below meth c nL Q pc lo st w i j := fun H locs ls h1 h2 h3 => lv_ldc C.1.1 C.1.2.1 C.1.2.2.2.1 (C.1.2.2.2.2 _ hw) hd (k H locs ls h1 h2 h3)
theorem g_ldc2 (C : xC x p s m c cc nL args own) {index : Nat} {v : Int64} (hw : Cond.constantLong own index v ∈ gT) (hd : decode cc pc = .ok (.ldc2_w index, 3)) (k : GW x p l e R s m args below meth c nL Q (pc + 3) lo (.long v :: st) w i j) : GW x p l e R s m args below meth c nL Q pc lo st w i j := fun H locs ls h1 h2 h3 => lv_ldc2 C.1.1 C.1.2.1 C.1.2.2.2.1 (C.1.2.2.2.2 _ hw) hd (k H locs ls h1 h2 h3)
theorem g_iload_n (C : xC x p s m c cc nL args own) {k0 : Fin 4} {q : Nat} {v : Int32} (hd : decode cc pc = .ok (.iload_n k0, 1)) (hq : lo[q]? = some (k0.val, .int v)) (k : GW x p l e R s m args below meth c nL Q (pc + 1) lo (.int v :: st) w i j) : GW x p l e R s m args below meth c nL Q pc lo st w i j := fun H locs ls h1 h2 h3 => lv_iload_n C.1.1 C.1.2.1 hd rfl (lv_at h3 q hq) (k H locs ls h1 h2 h3)
theorem g_iload (C : xC x p s m c cc nL args own) {k0 : Nat} {q : Nat} {v : Int32} (hd : decode cc pc = .ok (.iload k0, 2)) (hq : lo[q]? = some (k0, .int v)) (k : GW x p l e R s m args below meth c nL Q (pc + 2) lo (.int v :: st) w i j) : GW x p l e R s m args below meth c nL Q pc lo st w i j := fun H locs ls h1 h2 h3 => lv_iload C.1.1 C.1.2.1 hd (lv_at h3 q hq) (k H locs ls h1 h2 h3)
theorem g_istore_n (C : xC x p s m c cc nL args own) {k0 : Fin 4} {v : Int32} (hd : decode cc pc = .ok (.istore_n k0, 1)) (hn : k0.val < nL) (hl : (k0.val, Value.int v) :: lo.filter (fun q => !(q.1 == k0.val) && !(q.1 + 1 == k0.val && q.2.category == 2)) = lo') (k : GW x p l e R s m args below meth c nL Q (pc + 1) lo' st w i j) : GW x p l e R s m args below meth c nL Q pc lo (.int v :: st) w i j := fun H locs ls h1 h2 h3 => lv_istore_n C.1.1 C.1.2.1 hd rfl h3 hn hl (fun ls' h4 => k H locs ls' h1 h2 h4)
theorem g_istore (C : xC x p s m c cc nL args own) {k0 : Nat} {v : Int32} (hd : decode cc pc = .ok (.istore k0, 2)) (hn : k0 < nL) (hl : (k0, Value.int v) :: lo.filter (fun q => !(q.1 == k0) && !(q.1 + 1 == k0 && q.2.category == 2)) = lo') (k : GW x p l e R s m args below meth c nL Q (pc + 2) lo' st w i j) : GW x p l e R s m args below meth c nL Q pc lo (.int v :: st) w i j := fun H locs ls h1 h2 h3 => lv_istore C.1.1 C.1.2.1 hd h3 hn hl (fun ls' h4 => k H locs ls' h1 h2 h4)
theorem g_lload_n (C : xC x p s m c cc nL args own) {k0 : Fin 4} {q : Nat} {v : Int64} (hd : decode cc pc = .ok (.lload_n k0, 1)) (hq : lo[q]? = some (k0.val, .long v)) (k : GW x p l e R s m args below meth c nL Q (pc + 1) lo (.long v :: st) w i j) : GW x p l e R s m args below meth c nL Q pc lo st w i j := fun H locs ls h1 h2 h3 => lv_lload_n C.1.1 C.1.2.1 hd rfl (lv_at h3 q hq) (k H locs ls h1 h2 h3)
theorem g_lload (C : xC x p s m c cc nL args own) {k0 : Nat} {q : Nat} {v : Int64} (hd : decode cc pc = .ok (.lload k0, 2)) (hq : lo[q]? = some (k0, .long v)) (k : GW x p l e R s m args below meth c nL Q (pc + 2) lo (.long v :: st) w i j) : GW x p l e R s m args below meth c nL Q pc lo st w i j := fun H locs ls h1 h2 h3 => lv_lload C.1.1 C.1.2.1 hd (lv_at h3 q hq) (k H locs ls h1 h2 h3)
theorem g_lstore_n (C : xC x p s m c cc nL args own) {k0 : Fin 4} {v : Int64} (hd : decode cc pc = .ok (.lstore_n k0, 1)) (hn : k0.val + 1 < nL) (hl : (k0.val, Value.long v) :: lo.filter (fun q => !(q.1 == k0.val) && (!(q.1 == k0.val + 1) && !(q.1 + 1 == k0.val && q.2.category == 2))) = lo') (k : GW x p l e R s m args below meth c nL Q (pc + 1) lo' st w i j) : GW x p l e R s m args below meth c nL Q pc lo (.long v :: st) w i j := fun H locs ls h1 h2 h3 => lv_lstore_n C.1.1 C.1.2.1 hd rfl h3 hn hl (fun ls' h4 => k H locs ls' h1 h2 h4)
theorem g_lstore (C : xC x p s m c cc nL args own) {k0 : Nat} {v : Int64} (hd : decode cc pc = .ok (.lstore k0, 2)) (hn : k0 + 1 < nL) (hl : (k0, Value.long v) :: lo.filter (fun q => !(q.1 == k0) && (!(q.1 == k0 + 1) && !(q.1 + 1 == k0 && q.2.category == 2))) = lo') (k : GW x p l e R s m args below meth c nL Q (pc + 2) lo' st w i j) : GW x p l e R s m args below meth c nL Q pc lo (.long v :: st) w i j := fun H locs ls h1 h2 h3 => lv_lstore C.1.1 C.1.2.1 hd h3 hn hl (fun ls' h4 => k H locs ls' h1 h2 h4)
theorem g_aload_n (C : xC x p s m c cc nL args own) {k0 : Fin 4} {q : Nat} {v : Nat} (hd : decode cc pc = .ok (.aload_n k0, 1)) (hq : lo[q]? = some (k0.val, .ref v)) (k : GW x p l e R s m args below meth c nL Q (pc + 1) lo (.ref v :: st) w i j) : GW x p l e R s m args below meth c nL Q pc lo st w i j := fun H locs ls h1 h2 h3 => lv_aload_n C.1.1 C.1.2.1 hd rfl (lv_at h3 q hq) (k H locs ls h1 h2 h3)
theorem g_aload (C : xC x p s m c cc nL args own) {k0 : Nat} {q : Nat} {v : Nat} (hd : decode cc pc = .ok (.aload k0, 2)) (hq : lo[q]? = some (k0, .ref v)) (k : GW x p l e R s m args below meth c nL Q (pc + 2) lo (.ref v :: st) w i j) : GW x p l e R s m args below meth c nL Q pc lo st w i j := fun H locs ls h1 h2 h3 => lv_aload C.1.1 C.1.2.1 hd (lv_at h3 q hq) (k H locs ls h1 h2 h3)
theorem g_astore_n (C : xC x p s m c cc nL args own) {k0 : Fin 4} {v : Nat} (hd : decode cc pc = .ok (.astore_n k0, 1)) (hn : k0.val < nL) (hl : (k0.val, Value.ref v) :: lo.filter (fun q => !(q.1 == k0.val) && !(q.1 + 1 == k0.val && q.2.category == 2)) = lo') (k : GW x p l e R s m args below meth c nL Q (pc + 1) lo' st w i j) : GW x p l e R s m args below meth c nL Q pc lo (.ref v :: st) w i j := fun H locs ls h1 h2 h3 => lv_astore_n C.1.1 C.1.2.1 hd rfl h3 hn hl (fun ls' h4 => k H locs ls' h1 h2 h4)
theorem g_astore (C : xC x p s m c cc nL args own) {k0 : Nat} {v : Nat} (hd : decode cc pc = .ok (.astore k0, 2)) (hn : k0 < nL) (hl : (k0, Value.ref v) :: lo.filter (fun q => !(q.1 == k0) && !(q.1 + 1 == k0 && q.2.category == 2)) = lo') (k : GW x p l e R s m args below meth c nL Q (pc + 2) lo' st w i j) : GW x p l e R s m args below meth c nL Q pc lo (.ref v :: st) w i j := fun H locs ls h1 h2 h3 => lv_astore C.1.1 C.1.2.1 hd h3 hn hl (fun ls' h4 => k H locs ls' h1 h2 h4)
theorem g_iinc (C : xC x p s m c cc nL args own) {k0 q : Nat} {n : Int} {v v2 : Int32} (hd : decode cc pc = .ok (.iinc k0 n, 3)) (hq : lo[q]? = some (k0, .int v)) (hv : v + Int32.ofInt n = v2) (hn : k0 < nL) (hl : (k0, Value.int v2) :: lo.filter (fun q => !(q.1 == k0) && !(q.1 + 1 == k0 && q.2.category == 2)) = lo') (k : GW x p l e R s m args below meth c nL Q (pc + 3) lo' st w i j) : GW x p l e R s m args below meth c nL Q pc lo st w i j := fun H locs ls h1 h2 h3 => lv_iinc C.1.1 C.1.2.1 hd h3 hq hv hn hl (fun ls' h4 => k H locs ls' h1 h2 h4)
theorem g_goto (C : xC x p s m c cc nL args own) {off : Int} {tgt : Nat} (hd : decode cc pc = .ok (.goto off, 3)) (ht : (pc : Int) + off = (tgt : Int)) (k : GW x p l e R s m args below meth c nL Q tgt lo st w i j) : GW x p l e R s m args below meth c nL Q pc lo st w i j := fun H locs ls h1 h2 h3 => lv_goto C.1.1 C.1.2.1 hd ht (k H locs ls h1 h2 h3)
theorem g_sub (ps : List Nat) (hl : lv_pick lo ps = lo') (k : GW x p l e R s m args below meth c nL Q pc lo' st w i j) : GW x p l e R s m args below meth c nL Q pc lo st w i j := fun H locs ls h1 h2 h3 => k H locs ls h1 h2 (lv_sub h3 ps hl)
theorem g_widen {i1 j1 : Nat} (h1 : i ≤ i1) (h2 : j ≤ j1) (k : GW x p l e R s m args below meth c nL Q pc lo st w i1 j1) : GW x p l e R s m args below meth c nL Q pc lo st w i j := fun H locs ls a1 a2 a3 => W.widen h1 h2 (k H locs ls a1 a2 a3)
theorem g_if_eq (C : xC x p s m c cc nL args own) {a : Int32} {off : Int} {tgt : Nat} (hd : decode cc pc = .ok (.ifCond .eq off, 3)) (ht : (pc : Int) + off = (tgt : Int)) (kt : a = 0 → GW x p l e R s m args below meth c nL Q tgt lo st w i j) (kf : ¬ a = 0 → GW x p l e R s m args below meth c nL Q (pc + 3) lo st w i j) : GW x p l e R s m args below meth c nL Q pc lo (.int a :: st) w i j := fun H locs ls h1 h2 h3 => lv_if_eq C.1.1 C.1.2.1 hd ht (fun z => kt z H locs ls h1 h2 h3) (fun z => kf z H locs ls h1 h2 h3)
theorem g_if_ne (C : xC x p s m c cc nL args own) {a : Int32} {off : Int} {tgt : Nat} (hd : decode cc pc = .ok (.ifCond .ne off, 3)) (ht : (pc : Int) + off = (tgt : Int)) (kt : ¬ a = 0 → GW x p l e R s m args below meth c nL Q tgt lo st w i j) (kf : a = 0 → GW x p l e R s m args below meth c nL Q (pc + 3) lo st w i j) : GW x p l e R s m args below meth c nL Q pc lo (.int a :: st) w i j := fun H locs ls h1 h2 h3 => lv_if_ne C.1.1 C.1.2.1 hd ht (fun z => kt z H locs ls h1 h2 h3) (fun z => kf z H locs ls h1 h2 h3)
theorem g_if_lt (C : xC x p s m c cc nL args own) {a : Int32} {off : Int} {tgt : Nat} (hd : decode cc pc = .ok (.ifCond .lt off, 3)) (ht : (pc : Int) + off = (tgt : Int)) (kt : a < 0 → GW x p l e R s m args below meth c nL Q tgt lo st w i j) (kf : ¬ a < 0 → GW x p l e R s m args below meth c nL Q (pc + 3) lo st w i j) : GW x p l e R s m args below meth c nL Q pc lo (.int a :: st) w i j := fun H locs ls h1 h2 h3 => lv_if_lt C.1.1 C.1.2.1 hd ht (fun z => kt z H locs ls h1 h2 h3) (fun z => kf z H locs ls h1 h2 h3)
theorem g_if_ge (C : xC x p s m c cc nL args own) {a : Int32} {off : Int} {tgt : Nat} (hd : decode cc pc = .ok (.ifCond .ge off, 3)) (ht : (pc : Int) + off = (tgt : Int)) (kt : 0 ≤ a → GW x p l e R s m args below meth c nL Q tgt lo st w i j) (kf : ¬ 0 ≤ a → GW x p l e R s m args below meth c nL Q (pc + 3) lo st w i j) : GW x p l e R s m args below meth c nL Q pc lo (.int a :: st) w i j := fun H locs ls h1 h2 h3 => lv_if_ge C.1.1 C.1.2.1 hd ht (fun z => kt z H locs ls h1 h2 h3) (fun z => kf z H locs ls h1 h2 h3)
theorem g_if_gt (C : xC x p s m c cc nL args own) {a : Int32} {off : Int} {tgt : Nat} (hd : decode cc pc = .ok (.ifCond .gt off, 3)) (ht : (pc : Int) + off = (tgt : Int)) (kt : 0 < a → GW x p l e R s m args below meth c nL Q tgt lo st w i j) (kf : ¬ 0 < a → GW x p l e R s m args below meth c nL Q (pc + 3) lo st w i j) : GW x p l e R s m args below meth c nL Q pc lo (.int a :: st) w i j := fun H locs ls h1 h2 h3 => lv_if_gt C.1.1 C.1.2.1 hd ht (fun z => kt z H locs ls h1 h2 h3) (fun z => kf z H locs ls h1 h2 h3)
theorem g_if_le (C : xC x p s m c cc nL args own) {a : Int32} {off : Int} {tgt : Nat} (hd : decode cc pc = .ok (.ifCond .le off, 3)) (ht : (pc : Int) + off = (tgt : Int)) (kt : a ≤ 0 → GW x p l e R s m args below meth c nL Q tgt lo st w i j) (kf : ¬ a ≤ 0 → GW x p l e R s m args below meth c nL Q (pc + 3) lo st w i j) : GW x p l e R s m args below meth c nL Q pc lo (.int a :: st) w i j := fun H locs ls h1 h2 h3 => lv_if_le C.1.1 C.1.2.1 hd ht (fun z => kt z H locs ls h1 h2 h3) (fun z => kf z H locs ls h1 h2 h3)
theorem g_icmp_eq (C : xC x p s m c cc nL args own) {a b : Int32} {off : Int} {tgt : Nat} (hd : decode cc pc = .ok (.if_icmp .eq off, 3)) (ht : (pc : Int) + off = (tgt : Int)) (kt : a = b → GW x p l e R s m args below meth c nL Q tgt lo st w i j) (kf : ¬ a = b → GW x p l e R s m args below meth c nL Q (pc + 3) lo st w i j) : GW x p l e R s m args below meth c nL Q pc lo (.int b :: .int a :: st) w i j := fun H locs ls h1 h2 h3 => lv_icmp_eq C.1.1 C.1.2.1 hd ht (fun z => kt z H locs ls h1 h2 h3) (fun z => kf z H locs ls h1 h2 h3)
theorem g_icmp_ne (C : xC x p s m c cc nL args own) {a b : Int32} {off : Int} {tgt : Nat} (hd : decode cc pc = .ok (.if_icmp .ne off, 3)) (ht : (pc : Int) + off = (tgt : Int)) (kt : ¬ a = b → GW x p l e R s m args below meth c nL Q tgt lo st w i j) (kf : a = b → GW x p l e R s m args below meth c nL Q (pc + 3) lo st w i j) : GW x p l e R s m args below meth c nL Q pc lo (.int b :: .int a :: st) w i j := fun H locs ls h1 h2 h3 => lv_icmp_ne C.1.1 C.1.2.1 hd ht (fun z => kt z H locs ls h1 h2 h3) (fun z => kf z H locs ls h1 h2 h3)
theorem g_icmp_lt (C : xC x p s m c cc nL args own) {a b : Int32} {off : Int} {tgt : Nat} (hd : decode cc pc = .ok (.if_icmp .lt off, 3)) (ht : (pc : Int) + off = (tgt : Int)) (kt : a < b → GW x p l e R s m args below meth c nL Q tgt lo st w i j) (kf : ¬ a < b → GW x p l e R s m args below meth c nL Q (pc + 3) lo st w i j) : GW x p l e R s m args below meth c nL Q pc lo (.int b :: .int a :: st) w i j := fun H locs ls h1 h2 h3 => lv_icmp_lt C.1.1 C.1.2.1 hd ht (fun z => kt z H locs ls h1 h2 h3) (fun z => kf z H locs ls h1 h2 h3)
theorem g_icmp_ge (C : xC x p s m c cc nL args own) {a b : Int32} {off : Int} {tgt : Nat} (hd : decode cc pc = .ok (.if_icmp .ge off, 3)) (ht : (pc : Int) + off = (tgt : Int)) (kt : b ≤ a → GW x p l e R s m args below meth c nL Q tgt lo st w i j) (kf : ¬ b ≤ a → GW x p l e R s m args below meth c nL Q (pc + 3) lo st w i j) : GW x p l e R s m args below meth c nL Q pc lo (.int b :: .int a :: st) w i j := fun H locs ls h1 h2 h3 => lv_icmp_ge C.1.1 C.1.2.1 hd ht (fun z => kt z H locs ls h1 h2 h3) (fun z => kf z H locs ls h1 h2 h3)
theorem g_icmp_gt (C : xC x p s m c cc nL args own) {a b : Int32} {off : Int} {tgt : Nat} (hd : decode cc pc = .ok (.if_icmp .gt off, 3)) (ht : (pc : Int) + off = (tgt : Int)) (kt : b < a → GW x p l e R s m args below meth c nL Q tgt lo st w i j) (kf : ¬ b < a → GW x p l e R s m args below meth c nL Q (pc + 3) lo st w i j) : GW x p l e R s m args below meth c nL Q pc lo (.int b :: .int a :: st) w i j := fun H locs ls h1 h2 h3 => lv_icmp_gt C.1.1 C.1.2.1 hd ht (fun z => kt z H locs ls h1 h2 h3) (fun z => kf z H locs ls h1 h2 h3)
theorem g_icmp_le (C : xC x p s m c cc nL args own) {a b : Int32} {off : Int} {tgt : Nat} (hd : decode cc pc = .ok (.if_icmp .le off, 3)) (ht : (pc : Int) + off = (tgt : Int)) (kt : a ≤ b → GW x p l e R s m args below meth c nL Q tgt lo st w i j) (kf : ¬ a ≤ b → GW x p l e R s m args below meth c nL Q (pc + 3) lo st w i j) : GW x p l e R s m args below meth c nL Q pc lo (.int b :: .int a :: st) w i j := fun H locs ls h1 h2 h3 => lv_icmp_le C.1.1 C.1.2.1 hd ht (fun z => kt z H locs ls h1 h2 h3) (fun z => kf z H locs ls h1 h2 h3)
theorem g_tabIn (C : xC x p s m c cc nL args own) {dflt a b : Int} {offs : Array Int} {len : Nat} {v : Int32} {off : Int} {tgt : Nat} (hd : decode cc pc = .ok (.tableswitch dflt a b offs, len)) (z1 : ¬ v.toInt < a) (z2 : ¬ b < v.toInt) (ho : offs[(v.toInt - a).toNat]? = some off) (ht : (pc : Int) + off = (tgt : Int)) (k : GW x p l e R s m args below meth c nL Q tgt lo st w i j) : GW x p l e R s m args below meth c nL Q pc lo (.int v :: st) w i j := fun H locs ls h1 h2 h3 => lv_tableIn C.1.1 C.1.2.1 hd z1 z2 ho ht (k H locs ls h1 h2 h3)
theorem g_tabOut (C : xC x p s m c cc nL args own) {dflt a b : Int} {offs : Array Int} {len : Nat} {v : Int32} {tgt : Nat} (hd : decode cc pc = .ok (.tableswitch dflt a b offs, len)) (z : v.toInt < a ∨ b < v.toInt) (ht : (pc : Int) + dflt = (tgt : Int)) (k : GW x p l e R s m args below meth c nL Q tgt lo st w i j) : GW x p l e R s m args below meth c nL Q pc lo (.int v :: st) w i j := fun H locs ls h1 h2 h3 => lv_tableOut C.1.1 C.1.2.1 hd z ht (k H locs ls h1 h2 h3)
theorem g_iret (C : xC x p s m c cc nL args own) {K : Int32 → Wd → Prop} {mc ms : Nat} {v : Int32} (hlk : meth.locks = false) (hr : meth.sig.returnType = some .int) (hi : i ≤ mc) (hj : j ≤ ms) (hd : decode cc pc = .ok (.ireturn, 1)) (hK : K v w) : GW x p l e R s m args below meth c nL (QI x K below args s mc ms) pc lo [.int v] w i j := fun H locs ls h1 h2 h3 => W.widen hi hj (W.iret C.1.1 C.1.2.1 hr (fun t ht hw => ⟨⟨v, w, rfl, hK, by show xh x w t.heap; rw [ht]; exact h1⟩, h2.F ht⟩) h2.2.2 hd hlk)
theorem g_zret (C : xC x p s m c cc nL args own) {K : Int32 → Wd → Prop} {mc ms : Nat} {v : Int32} (hlk : meth.locks = false) (hr : meth.sig.returnType = some .boolean) (hi : i ≤ mc) (hj : j ≤ ms) (hd : decode cc pc = .ok (.ireturn, 1)) (hv : v = 0 ∨ v = 1) (hK : K v w) : GW x p l e R s m args below meth c nL (QI x K below args s mc ms) pc lo [.int v] w i j := fun H locs ls h1 h2 h3 => W.widen hi hj (W.zret C.1.1 C.1.2.1 hr (by rcases hv with rfl | rfl <;> rfl) (fun t ht hw => ⟨⟨v, w, rfl, hK, by show xh x w t.heap; rw [ht]; exact h1⟩, h2.F ht⟩) h2.2.2 hd hlk)
theorem g_lret (C : xC x p s m c cc nL args own) {K : Int64 → Wd → Prop} {mc ms : Nat} {v : Int64} (hlk : meth.locks = false) (hr : meth.sig.returnType = some .long) (hi : i ≤ mc) (hj : j ≤ ms) (hd : decode cc pc = .ok (.lreturn, 1)) (hK : K v w) : GW x p l e R s m args below meth c nL (QL x K below args s mc ms) pc lo [.long v] w i j := fun H locs ls h1 h2 h3 => W.widen hi hj (W.lret C.1.1 C.1.2.1 hr (fun t ht hw => ⟨⟨v, w, rfl, hK, by show xh x w t.heap; rw [ht]; exact h1⟩, h2.F ht⟩) h2.2.2 hd hlk)
theorem g_vret (C : xC x p s m c cc nL args own) {K : Wd → Prop} {mc ms : Nat} (hlk : meth.locks = false) (hr : meth.sig.returnType = none) (hi : i ≤ mc) (hj : j ≤ ms) (hd : decode cc pc = .ok (.return_, 1)) (hK : K  w) : GW x p l e R s m args below meth c nL (QV x K below args s mc ms) pc lo [] w i j := fun H locs ls h1 h2 h3 => W.widen hi hj (W.vret C.1.1 C.1.2.1 hr (fun t ht hw => ⟨⟨w, rfl, hK, by show xh x w t.heap; rw [ht]; exact h1⟩, h2.F ht⟩) h2.2.2 hd hlk)
theorem g_rret (C : xC x p s m c cc nL args own) {K : Nat → Wd → Prop} {mc ms : Nat} {v : Nat} {rt : FieldType} (hlk : meth.locks = false) (hr : meth.sig.returnType = some rt) (hrt : (∃ n, rt = .object n) ∨ ∃ t, rt = .array t) (hi : i ≤ mc) (hj : j ≤ ms) (hd : decode cc pc = .ok (.areturn, 1)) (hK : K v w) : GW x p l e R s m args below meth c nL (QR x K below args s mc ms) pc lo [.ref (adr x v)] w i j := fun H locs ls h1 h2 h3 => W.widen hi hj (W.aret C.1.1 C.1.2.1 hr hrt (Or.inr ⟨_, rfl⟩) (fun t ht hw => ⟨⟨(v, w), adr x v, rfl, hK, rfl, by show xh x w t.heap; rw [ht]; exact h1⟩, h2.F ht⟩) h2.2.2 hd hlk)
theorem g_pop2l (C : xC x p s m c cc nL args own) {v : Value} (hd : decode cc pc = .ok (.pop2, 1)) (hv : v.category = 2) (k : GW x p l e R s m args below meth c nL Q (pc + 1) lo st w i j) : GW x p l e R s m args below meth c nL Q pc lo (v :: st) w i j := fun H locs ls h1 h2 h3 => lv_pop2_2 C.1.1 C.1.2.1 hd hv (k H locs ls h1 h2 h3)
theorem g_ldcw (C : xC x p s m c cc nL args own) {index : Nat} {v : Int32} (hw : Cond.constant own index v ∈ gT) (hd : decode cc pc = .ok (.ldc_w index, 3)) (k : GW x p l e R s m args below meth c nL Q (pc + 3) lo (.int v :: st) w i j) : GW x p l e R s m args below meth c nL Q pc lo st w i j := fun H locs ls h1 h2 h3 => lv_ldcw C.1.1 C.1.2.1 C.1.2.2.2.1 (C.1.2.2.2.2 _ hw) hd (k H locs ls h1 h2 h3)
theorem g_look (C : xC x p s m c cc nL args own) {dflt : Int} {ps : Array (Int × Int)} {len : Nat} {v : Int32} {off : Int} {tgt : Nat} (hd : decode cc pc = .ok (.lookupswitch dflt ps, len)) (hp : (ps.toList.zip (ps.toList.drop 1)).all (fun (a, next) => a.1 < next.1) = true) (ho : Op.lookupswitch.offset ps.toList dflt v.toInt = off) (ht : (pc : Int) + off = (tgt : Int)) (k : GW x p l e R s m args below meth c nL Q tgt lo st w i j) : GW x p l e R s m args below meth c nL Q pc lo (.int v :: st) w i j := fun H locs ls h1 h2 h3 => lv_lookup C.1.1 C.1.2.1 hd hp ho ht (k H locs ls h1 h2 h3)
theorem adr_str {x : xG} {k : Nat} (h : k < 62) : adr x (2 + k) = x.2.2.2.1 k := by
  unfold adr
  rw [if_neg (by omega), if_pos (by omega), Nat.add_sub_cancel_left]
theorem g_ldcS (C : xC x p s m c cc nL args own) {index q k0 : Nat} {tx : String} (hq : strT[q]? = some (own, index, tx, k0)) (hk : k0 < 62) (hd : decode cc pc = .ok (.ldc index, 2)) (k : GW x p l e R s m args below meth c nL Q (pc + 2) lo (.ref (adr x (2 + k0)) :: st) w i j) : GW x p l e R s m args below meth c nL Q pc lo st w i j := fun H locs ls h1 h2 h3 => va_ldcS C.1.1 C.1.2.1 C.1.2.2.2.1 (C.2.2.1.2.1 q _ hq) hd (by have h9 := k H locs ls h1 h2 h3; rw [adr_str hk] at h9; exact h9)
theorem g_getf (C : xC x p s m c cc nL args own) {ref C2 : String} {T : u_T} {n ci index r k0 cd : Nat} {v : Value} (hq : isK w r ci) (hci : ci < 13) (hcd : (kc.getD ci [])[k0]? = some cd) (hin : ∀ w ∈ u_ws C2 T n, w ∈ gT) (hc : classes[ci]? = some (C2, T, n)) (hk : k0 < n) (hl : Cond.fieldLink own index ref (T k0).2.1 (T k0).2.2.1 ∈ gT) (hs : (T k0).1 = ref) (hv : fv x (wI w r) (wL w r) (wR w r) cd k0 = v) (hd : decode cc pc = .ok (.getfield index, 3)) (k : GW x p l e R s m args below meth c nL Q (pc + 3) lo (v :: st) w i j) : GW x p l e R s m args below meth c nL Q pc lo (.ref (adr x r) :: st) w i j := fun H locs ls h1 h2 h3 => va_get C.1.1 C.1.2.1 C.1.2.2.2.2 hin C.1.2.2.2.1 C.2.1 (h1.obj hq hci) 0 rfl hc k0 hk (C.1.2.2.2.2 _ hl) (fun z hz => by rw [← hs]; exact hz) (by rw [← hv]; exact fl_get hcd) hd (k H locs ls h1 h2 h3)
theorem g_getfN (C : xC x p s m c cc nL args own) {ref C2 host : String} {T : u_T} {n ci index r k0 cd : Nat} {v : Value} (hq : isK w r ci) (hci : ci < 13) (hcd : (kc.getD ci [])[k0]? = some cd) (hin : ∀ w ∈ u_ws C2 T n, w ∈ gT) (hc : classes[ci]? = some (C2, T, n)) (hk : k0 < n) (hl : Cond.fieldLinkNest own index ref (T k0).2.1 (T k0).2.2.1 host ∈ nestW) (hs : (T k0).1 = ref) (hv : fv x (wI w r) (wL w r) (wR w r) cd k0 = v) (hd : decode cc pc = .ok (.getfield index, 3)) (k : GW x p l e R s m args below meth c nL Q (pc + 3) lo (v :: st) w i j) : GW x p l e R s m args below meth c nL Q pc lo (.ref (adr x r) :: st) w i j := fun H locs ls h1 h2 h3 => va_getN C.1.1 C.1.2.1 C.1.2.2.2.2 hin C.1.2.2.2.1 C.2.1 (h1.obj hq hci) 0 rfl hc k0 hk (va_Nw.use rfl (C.2.2.1.2.2.2.2.2.1 _ hl)) (fun z hz => by rw [← hs]; exact hz) (by rw [← hv]; exact fl_get hcd) hd (k H locs ls h1 h2 h3)
theorem g_putf (C : xC x p s m c cc nL args own) {ref C2 : String} {T : u_T} {n ci index r k0 : Nat} {v : Value} {ty : FieldType} {w2 : Wd} (hq : isK w r ci) (hci : ci < 13) (hN : wN w2 = wN w) (hK : wK w2 = wK w) (hn2 : wn w2 = wn w) (ho : ∀ q, q ≠ r → wI w2 q = wI w q ∧ wL w2 q = wL w q ∧ wR w2 q = wR w q) (hw2 : fl x (wI w2 r) (wL w2 r) (wR w2 r) (kc.getD ci []) = (fl x (wI w r) (wL w r) (wR w r) (kc.getD ci [])).set k0 v) (hle : k0 < (kc.getD ci []).length) (hin : ∀ w ∈ u_ws C2 T n, w ∈ gT) (ty0 : Nat → FieldType) (hty : ∀ k, k < n → parseFieldDescriptor (T k).2.2.1 = some (ty0 k)) (hnm : ∀ a, a < n → ∀ b, b < n → a ≠ b → (T a).2.1 ≠ (T b).2.1) (hc : classes[ci]? = some (C2, T, n)) (hk : k0 < n) (hl : Cond.fieldLink own index ref (T k0).2.1 (T k0).2.2.1 ∈ gT) (hs : (T k0).1 = ref) (hfin : (T k0).2.2.2 = false ∨ ((T k0).2.2.2 = true ∧ meth.name = "<init>" ∧ (T k0).1 = own)) (hpd : parseFieldDescriptor (T k0).2.2.1 = some ty) (hn : narrow ty v = v) (hfit : fits ty v = true) (hd : decode cc pc = .ok (.putfield index, 3)) (k : GW x p l e R s m args below meth c nL Q (pc + 3) lo st w2 i j) : GW x p l e R s m args below meth c nL Q pc lo (v :: .ref (adr x r) :: st) w i j := by
  intro H locs ls h1 h2 h3
  have hts := C.1.2.2.2.2
  have hap := va_apart (own := own) hts hin ty0 hty hnm C.2.1 hc
  have hP := h1.obj hq hci
  obtain ⟨r9, z1, cell, q1, q2, q3, q4⟩ := hP 0 _ rfl
  have hr : r9 = (C2, T, n) := Option.some.inj (z1.symm.trans hc)
  subst hr
  obtain ⟨hS, hfc, kC, hkC, hkind⟩ := C.2.1.1 ci _ hc
  obtain ⟨cf, kf, fi, fd, hi, hsl⟩ := hS k0 hk
  have hlay := hts _ (hin _ (u_in_lay hk))
  have hst := (u_facts hfc hkC (u_lays hts hin hk) hi).1
  have hi' : s.fieldFound? ref (T k0).2.1 (T k0).2.2.1 = some (cf, kf, fi, fd) := by rw [← hs]; exact hi
  have fin : ∀ (H' : Heap), H'[adr x r]? = some (cell.setSlot fd.slot v) → H'.size = H.size → (∀ q, q ≠ adr x r → H'[q]? = H[q]?) → W p l e R s m args below meth c H' (locs ++ [⟨adr x r, fd.slot⟩]) i j Q (F0 m (pc + 3) ls st) := by
    intro H' e1 e2 e3
    rw [hsl] at e1 ⊢
    refine k H' _ ls (h1.put hq e2 hN hK hn2 ho ?_ e3) (h2.put e2 e3 (adr_in hq)) h3
    have hq2 : isK w2 r ci := ⟨hq.1, by rw [hN]; exact hq.2.1, by rw [hK]; exact hq.2.2⟩
    rw [enc_obj hq2 hci, hw2]
    exact ⟨_, hc, t_OB.to (V := updV (vp_V (fl x (wI w r) (wL w r) (wR w r) (kc.getD ci []))) k0 v) ⟨_, e1, q2, q3, t_set q4 hap hk v⟩ (fun j _ => vp_updV_set (by rw [fl_len]; exact hle) v j)⟩
  unfold u_lay at hlay
  rcases hfin with hfin | ⟨hfin, hin2, hdecl⟩
  · rw [if_neg (by rw [hfin]; decide)] at hlay
    have h6 := u_store hfc hkC hkind hlay hi hpd hn hfit
    exact W.putK C.1.1 C.1.2.1 (f := fd) ⟨C.1.2.2.2.1, hts _ hl, ⟨_, _, _, hi'⟩, hst⟩ (by rw [q2]; exact h6) q1 q3 (by rw [hsl]; exact k2_hasslot (q4 k0 hk)) rfl rfl hd fin
  · rw [if_pos hfin] at hlay
    have hcf : m.cls = cf := by
      obtain ⟨_, _, c', _, _, _, -, -, hf', -, -, -, hown2, -⟩ := Cond.laysFinal_spec hlay
      have e1 : c' = cf := by have := hi.symm.trans hf'; simp at this; exact this.1.symm
      rw [hdecl] at hown2
      rw [← e1]; exact Option.some.inj (C.1.2.2.2.1.symm.trans hown2)
    have h6 := u_fits hfc hkC hkind (Or.inr hlay) hi hpd hn hfit
    exact W.putFinK C.1.1 C.1.2.1 C.1.2.2.2.1 (hts _ hl) hi' hst hcf hin2 (by rw [q2]; exact h6) q1 q3 (by rw [hsl]; exact k2_hasslot (q4 k0 hk)) rfl rfl hd fin
theorem fl_uI {r k0 ci : Nat} {v : Int32} (h : (kc.getD ci [])[k0]? = some 0) : fl x (wI (uI w r k0 v) r) (wL (uI w r k0 v) r) (wR (uI w r k0 v) r) (kc.getD ci []) = (fl x (wI w r) (wL w r) (wR w r) (kc.getD ci [])).set k0 (.int v) := by
  rw [wI_uI_same]
  exact fl_set h (by simp [fv, upd]) (fun q hq => ⟨by simp [upd, hq], rfl, rfl⟩)
theorem fl_uL {r k0 ci : Nat} {v : Int64} (h : (kc.getD ci [])[k0]? = some 1) : fl x (wI (uL w r k0 v) r) (wL (uL w r k0 v) r) (wR (uL w r k0 v) r) (kc.getD ci []) = (fl x (wI w r) (wL w r) (wR w r) (kc.getD ci [])).set k0 (.long v) := by
  rw [wL_uL_same]
  exact fl_set h (by simp [fv, vp_updL]) (fun q hq => ⟨rfl, by simp [vp_updL, hq], rfl⟩)
theorem fl_uR {r k0 ci v : Nat} (h : (kc.getD ci [])[k0]? = some 2) (hv : v ≠ 0) : fl x (wI (uR w r k0 v) r) (wL (uR w r k0 v) r) (wR (uR w r k0 v) r) (kc.getD ci []) = (fl x (wI w r) (wL w r) (wR w r) (kc.getD ci [])).set k0 (.ref (adr x v)) := by
  rw [wR_uR_same]
  exact fl_set h (by simp [fv, va_up, eO, hv, va_rf]) (fun q hq => ⟨rfl, rfl, by simp [va_up, hq]⟩)
theorem g_aald (C : xC x p s m c cc nL args own) {r t : Nat} {a : Int32} {Cn : String} (hq : isK w r (20 + t)) (ht : 4 ≤ t) (ht2 : t < 7) (hty : (xtys x.2.1)[t]? = some (x.2.1 t, .object Cn)) (ha : vp_in a (wn w r)) (h0 : wR w r a.toNatClampNeg ≠ 0) (hd : decode cc pc = .ok (.aaload, 1)) (k : GW x p l e R s m args below meth c nL Q (pc + 1) lo (.ref (adr x (wR w r a.toNatClampNeg)) :: st) w i j) : GW x p l e R s m args below meth c nL Q pc lo (.int a :: .ref (adr x r) :: st) w i j := fun H locs ls h1 h2 h3 => va_aldq C.1.1 C.1.2.1 C.2.1 (h1.arrq hq ht ht2) 0 t rfl hty ha hd (by have h9 := k H locs ls h1 h2 h3; rw [← eO_ne h0] at h9; exact h9)
theorem g_alen (C : xC x p s m c cc nL args own) {r kd : Nat} (hq : isK w r kd) (hk : 20 ≤ kd ∧ kd < 27) (hd : decode cc pc = .ok (.arraylength, 1)) (k : GW x p l e R s m args below meth c nL Q (pc + 1) lo (.int (Int32.ofNat (wn w r)) :: st) w i j) : GW x p l e R s m args below meth c nL Q pc lo (.ref (adr x r) :: st) w i j := by
  intro H locs ls h1 h2 h3
  have h9 := k H locs ls h1 h2 h3
  rcases (show kd = 20 ∨ kd = 21 ∨ kd = 22 ∨ kd = 23 ∨ (4 ≤ kd - 20 ∧ kd - 20 < 7) by omega) with rfl | rfl | rfl | rfl | ⟨hk1, hk2⟩
  · exact va_alen C.1.1 C.1.2.1 C.2.1 (h1.arr0 hq) 0 0 rfl rfl rfl hd h9
  · exact va_alen C.1.1 C.1.2.1 C.2.1 (h1.arr1 hq) 0 1 rfl rfl rfl hd h9
  · exact va_alen C.1.1 C.1.2.1 C.2.1 (h1.arr2 hq) 0 2 rfl rfl rfl hd h9
  · exact va_alen C.1.1 C.1.2.1 C.2.1 (h1.arr3 hq) 0 3 rfl rfl rfl hd h9
  · have hq2 : isK w r (20 + (kd - 20)) := by rw [Nat.add_sub_cancel' hk.1]; exact hq
    rcases (show kd - 20 = 4 ∨ kd - 20 = 5 ∨ kd - 20 = 6 by omega) with h | h | h <;> rw [h] at hq2
    · exact va_alen C.1.1 C.1.2.1 C.2.1 (h1.arrq hq2 (by decide) (by decide)) 0 4 rfl rfl rfl hd h9
    · exact va_alen C.1.1 C.1.2.1 C.2.1 (h1.arrq hq2 (by decide) (by decide)) 0 5 rfl rfl rfl hd h9
    · exact va_alen C.1.1 C.1.2.1 C.2.1 (h1.arrq hq2 (by decide) (by decide)) 0 6 rfl rfl rfl hd h9
theorem g_alenI (C : xC x p s m c cc nL args own) {r : Nat} (hq : r = 1 ∨ isK w r 20) (hd : decode cc pc = .ok (.arraylength, 1)) (k : GW x p l e R s m args below meth c nL Q (pc + 1) lo (.int (Int32.ofNat (wn w r)) :: st) w i j) : GW x p l e R s m args below meth c nL Q pc lo (.ref (adr x r) :: st) w i j := by
  rcases hq with rfl | hq
  · intro H locs ls h1 h2 h3
    have h9 := k H locs ls h1 h2 h3
    rw [h1.2.2.1] at h9
    exact va_tlen C.1.1 C.1.2.1 C.2.2.1.2.2.2.1 h2 rfl hd h9
  · exact g_alen C hq (by decide) hd k
/-- a contract: from the world w with the arguments As -/
def xPc (x : xG) (As : List Value) (w : Wd) : Array Value → State → Prop := va_Pc As (fun U => xS x w U)
theorem xPc.blind {As : List Value} : FrameBlind (xPc x As w) := fun a U g mk h => ⟨h.1, h.2.1, va_K.moved (u := U) (U := U.calling g mk a) (Vm.Alike.refl U.vm) h.2.2.1, h.2.2.2.call⟩
theorem xPc.go {As : List Value} {H : Heap} {locs : List Loc} (C : xC x p s m c cc nL args own) (h1 : xh x w H) (h2 : va_S (xA x) s.heap H locs) (U : State) (hU : U.heap = H) (hW : s.WarmedH U.vm) : xPc x As w As.toArray U := ⟨rfl, by rw [hU]; exact h1, va_K.moved hW.alike C.2.1, C.2.2.1.go hW (by rw [hU]; exact h2.2.1)⟩
theorem xMet {y : MethodName} {n d mc ms : Nat} {ret : Option FieldType} {As : List Value} {Qc : Array Value → State → Outcome → State → Prop} (hy : plainName y.cls = true) (hn : (lg_sl As).length ≤ n)
    (body : ∀ (p : Program) (e : Env) (s : State) (m : MethodId) (below : List Frame) (meth : Method) (c : Code), xC x p s m c cc n As.toArray y.cls → meth.locks = false → meth.sig.returnType = ret → meth.name = y.name → GW x p l e (rmd d mc ms) s m As.toArray below meth c n (MQ below Qc As.toArray s mc ms (xA x)) 0 (lv_args 0 As) [] w 0 0) :
    Met l y (xws y cc n ret) (rmd d mc ms) (xPc x As w) Qc mc ms (xA x) := by
  refine Met.ofW (cc := cc) (maxL := n) (ret := ret) hy rfl ?_
  intro p e s m args below meth c s₁ B hml hv
  obtain ⟨rfl, h1, h2, h3⟩ := hv
  have hts := atoms_spec (ws := xws y cc n ret) B.pre
  have hown : s.vm.findClass y.cls = some m.cls := findClass_of_methodNamed B.named
  have hl := lv_entry As (n := n) hn
  rw [lg_entry_eq]
  exact body p e s m below meth c ⟨⟨B.exec, B.bytes, hml, hown, fun w hw => hts w (List.mem_cons_of_mem _ hw)⟩, h2, h3, by have := h1.1; have := h1.2.1; omega⟩ B.notSynchronized B.returns (name_of_methodNamed B.named B.method).1 s.heap [] _ h1 va_S.rf hl
theorem x_cwV {C2 : String} {y : MethodName} {bytes : ByteArray} {maxL mc ms d D index : Nat} {ret : Option FieldType} {MC MS : Nat} (C : xC x p s m c cc nL args own) (n : Nat) (hT : GoodIn gT (wsV own index C2 y (xws y bytes maxL ret))) (hd : y.cls = C2 ∧ y.cls ≠ "java/lang/invoke/MethodHandle" ∧ y.cls ≠ "java/lang/invoke/VarHandle" ∧ (parseMethodDescriptor y.desc).map (fun d => d.parameters.length) = some n) (h1 : d + 1 ≤ D) (h2 : maxL ≤ 45) : CallW (rmd D MC MS) s args own C2 index y bytes maxL ret (xws y bytes maxL ret) (rmd d mc ms) mc ms n :=
  cwV n C.1.2.2.2.2 hT rfl rfl rfl hd ⟨h1, by show 8 + (maxL + 11) + 64 * d ≤ 64 * D; omega⟩
theorem x_cwS {y : MethodName} {bytes : ByteArray} {maxL mc ms d D index : Nat} {ret : Option FieldType} {MC MS : Nat} (C : xC x p s m c cc nL args own) (n : Nat) (hT : GoodIn gT (va_wsS own index y (xws y bytes maxL ret))) (hd : y.cls ≠ "java/lang/invoke/MethodHandle" ∧ y.cls ≠ "java/lang/invoke/VarHandle" ∧ (parseMethodDescriptor y.desc).map (fun d => d.parameters.length) = some n) (h1 : d + 1 ≤ D) (h2 : maxL ≤ 45) : CallB (rmd D MC MS) s args own index y bytes maxL ret (xws y bytes maxL ret) (rmd d mc ms) mc ms n ∧ (Cond.static y).before args s = true :=
  va_cwS n C.1.2.2.2.2 hT rfl rfl rfl hd ⟨h1, by show 8 + (maxL + 11) + 64 * d ≤ 64 * D; omega⟩
theorem x_cwN {y : MethodName} {bytes : ByteArray} {maxL mc ms d D index : Nat} {ret : Option FieldType} {MC MS : Nat} {host : String} (C : xC x p s m c cc nL args own) (n : Nat) (hT : Cond.code y bytes maxL ret ∈ gT) (hl : Cond.methodLinkNest own index y host ∈ nestW) (hs : Cond.static y ∈ gT) (hini : Cond.initialized y.cls ∈ gT) (hd : y.cls ≠ "java/lang/invoke/MethodHandle" ∧ y.cls ≠ "java/lang/invoke/VarHandle" ∧ (parseMethodDescriptor y.desc).map (fun d => d.parameters.length) = some n) (h1 : d + 1 ≤ D) (h2 : maxL ≤ 45) : va_CN (rmd D MC MS) s args own index y host bytes maxL ret (xws y bytes maxL ret) (rmd d mc ms) mc ms n ∧ (Cond.static y).before args s = true ∧ True :=
  ⟨va_cnB n C.1.2.2.2.2 (xws_in hT) rfl rfl rfl (C.2.2.1.2.2.2.2.2.1 _ hl) (C.1.2.2.2.2 _ hini) hd ⟨h1, by show 8 + (maxL + 11) + 64 * d ≤ 64 * D; omega⟩, C.1.2.2.2.2 _ hs, trivial⟩

theorem g_callVi (C : xC x p s m c cc nL args own) {C2 : String} {q0 ci : Nat} {T : u_T} {nf : Nat} {y : MethodName} {bytes : ByteArray} {maxL n d index : Nat} {ret : Option FieldType} {As rest : List Value} {mc ms : Nat} {K : Int32 → Wd → Prop} (hM : Met l y (xws y bytes maxL ret) (rmd d mc ms) (xPc x (.ref (adr x q0) :: As) w) (QcI x K) mc ms (xA x)) (cw : CallW R s args own C2 index y bytes maxL ret (xws y bytes maxL ret) (rmd d mc ms) mc ms n) (hc : classes[ci]? = some (C2, T, nf)) (hq : isK w q0 ci) (hci : ci < 13) (hst : st = As.reverse ++ .ref (adr x q0) :: rest) (hn : As.length = n) (hW : (rest.map fun v => v.category).sum ≤ 8) (hd : decode cc pc = .ok (.invokevirtual index, 3)) (hr : i + mc ≤ R.cells ∧ j + ms ≤ R.slots)
    (k : ∀ (r : Int32) (u : Wd), K r u → GW x p l e R s m args below meth c nL Q (pc + 3) lo (.int r :: rest) u (i + mc) (j + ms)) : GW x p l e R s m args below meth c nL Q pc lo st w i j := by
  intro H locs ls h1 h2 h3
  subst hst
  exact va_calli (va_runV (As := As) (rest := rest) C.1 hM cw ⟨xPc.blind, va_recv C.2.1 (h1.obj hq hci) hc (q0 := 0) rfl, fun U hU hW => xPc.go C h1 h2 U hU hW⟩ rfl hn h3.1 rfl (lv_room hW) hd hr) h2 (fun _ _ h => h) (fun _ h => h) (fun r u t H1 locs1 ht hvm hw hB hz1 hk1 hS1 => k r u hw H1 locs1 ls (by rw [← ht]; exact hB) hS1 h3)
theorem g_callSi (C : xC x p s m c cc nL args own) {y : MethodName} {bytes : ByteArray} {maxL n d index : Nat} {ret : Option FieldType} {As rest : List Value} {mc ms : Nat} {K : Int32 → Wd → Prop} (hM : Met l y (xws y bytes maxL ret) (rmd d mc ms) (xPc x As w) (QcI x K) mc ms (xA x)) (cw : (CallB R s args own index y bytes maxL ret (xws y bytes maxL ret) (rmd d mc ms) mc ms n ∧ (Cond.static y).before args s = true)) (hst : st = As.reverse ++ rest) (hn : As.length = n) (hW : (rest.map fun v => v.category).sum ≤ 8) (hd : decode cc pc = .ok (.invokestatic index, 3)) (hr : i + mc ≤ R.cells ∧ j + ms ≤ R.slots)
    (k : ∀ (r : Int32) (u : Wd), K r u → GW x p l e R s m args below meth c nL Q (pc + 3) lo (.int r :: rest) u (i + mc) (j + ms)) : GW x p l e R s m args below meth c nL Q pc lo st w i j := by
  intro H locs ls h1 h2 h3
  subst hst
  exact va_calli (va_runS (As := As) (rest := rest) C.1 hM cw ⟨xPc.blind, fun U hU hW => xPc.go C h1 h2 U hU hW⟩ rfl hn h3.1 rfl (lv_room hW) hd hr) h2 (fun _ _ h => h) (fun _ h => h) (fun r u t H1 locs1 ht hvm hw hB hz1 hk1 hS1 => k r u hw H1 locs1 ls (by rw [← ht]; exact hB) hS1 h3)
theorem g_callNi (C : xC x p s m c cc nL args own) {host : String} {y : MethodName} {bytes : ByteArray} {maxL n d index : Nat} {ret : Option FieldType} {As rest : List Value} {mc ms : Nat} {K : Int32 → Wd → Prop} (hM : Met l y (xws y bytes maxL ret) (rmd d mc ms) (xPc x As w) (QcI x K) mc ms (xA x)) (cw : (va_CN R s args own index y host bytes maxL ret (xws y bytes maxL ret) (rmd d mc ms) mc ms n ∧ (Cond.static y).before args s = true ∧ True)) (hst : st = As.reverse ++ rest) (hn : As.length = n) (hW : (rest.map fun v => v.category).sum ≤ 8) (hd : decode cc pc = .ok (.invokestatic index, 3)) (hr : i + mc ≤ R.cells ∧ j + ms ≤ R.slots)
    (k : ∀ (r : Int32) (u : Wd), K r u → GW x p l e R s m args below meth c nL Q (pc + 3) lo (.int r :: rest) u (i + mc) (j + ms)) : GW x p l e R s m args below meth c nL Q pc lo st w i j := by
  intro H locs ls h1 h2 h3
  subst hst
  exact va_calli (va_runSN (As := As) (rest := rest) C.1 hM cw ⟨xPc.blind, fun U hU hW => xPc.go C h1 h2 U hU hW⟩ rfl hn h3.1 rfl (lv_room hW) hd hr) h2 (fun _ _ h => h) (fun _ h => h) (fun r u t H1 locs1 ht hvm hw hB hz1 hk1 hS1 => k r u hw H1 locs1 ls (by rw [← ht]; exact hB) hS1 h3)
theorem g_callVi0 (C : xC x p s m c cc nL args own) {C2 : String} {q0 ci : Nat} {T : u_T} {nf : Nat} {y : MethodName} {bytes : ByteArray} {maxL n d index : Nat} {ret : Option FieldType} {As rest : List Value} {K : Int32 → Wd → Prop} (hM : Met l y (xws y bytes maxL ret) (rmd d 0 0) (xPc x (.ref (adr x q0) :: As) w) (QcI x K) 0 0 (xA x)) (cw : CallW R s args own C2 index y bytes maxL ret (xws y bytes maxL ret) (rmd d 0 0) 0 0 n) (hc : classes[ci]? = some (C2, T, nf)) (hq : isK w q0 ci) (hci : ci < 13) (hst : st = As.reverse ++ .ref (adr x q0) :: rest) (hn : As.length = n) (hW : (rest.map fun v => v.category).sum ≤ 8) (hd : decode cc pc = .ok (.invokevirtual index, 3)) (hR : i ≤ R.cells ∧ j ≤ R.slots)
    (k : ∀ (r : Int32) (u : Wd), K r u → GW x p l e R s m args below meth c nL Q (pc + 3) lo (.int r :: rest) u i j) : GW x p l e R s m args below meth c nL Q pc lo st w i j := by
  intro H locs ls h1 h2 h3
  subst hst
  exact va_calli (va_runV (As := As) (rest := rest) C.1 hM cw ⟨xPc.blind, va_recv C.2.1 (h1.obj hq hci) hc (q0 := 0) rfl, fun U hU hW => xPc.go C h1 h2 U hU hW⟩ rfl hn h3.1 rfl (lv_room hW) hd ⟨hR.1, hR.2⟩) h2 (fun _ _ h => h) (fun _ h => h) (fun r u t H1 locs1 ht hvm hw hB hz1 hk1 hS1 => k r u hw H1 locs1 ls (by rw [← ht]; exact hB) hS1 h3)
theorem g_callSi0 (C : xC x p s m c cc nL args own) {y : MethodName} {bytes : ByteArray} {maxL n d index : Nat} {ret : Option FieldType} {As rest : List Value} {K : Int32 → Wd → Prop} (hM : Met l y (xws y bytes maxL ret) (rmd d 0 0) (xPc x As w) (QcI x K) 0 0 (xA x)) (cw : (CallB R s args own index y bytes maxL ret (xws y bytes maxL ret) (rmd d 0 0) 0 0 n ∧ (Cond.static y).before args s = true)) (hst : st = As.reverse ++ rest) (hn : As.length = n) (hW : (rest.map fun v => v.category).sum ≤ 8) (hd : decode cc pc = .ok (.invokestatic index, 3)) (hR : i ≤ R.cells ∧ j ≤ R.slots)
    (k : ∀ (r : Int32) (u : Wd), K r u → GW x p l e R s m args below meth c nL Q (pc + 3) lo (.int r :: rest) u i j) : GW x p l e R s m args below meth c nL Q pc lo st w i j := by
  intro H locs ls h1 h2 h3
  subst hst
  exact va_calli (va_runS (As := As) (rest := rest) C.1 hM cw ⟨xPc.blind, fun U hU hW => xPc.go C h1 h2 U hU hW⟩ rfl hn h3.1 rfl (lv_room hW) hd ⟨hR.1, hR.2⟩) h2 (fun _ _ h => h) (fun _ h => h) (fun r u t H1 locs1 ht hvm hw hB hz1 hk1 hS1 => k r u hw H1 locs1 ls (by rw [← ht]; exact hB) hS1 h3)
theorem g_callNi0 (C : xC x p s m c cc nL args own) {host : String} {y : MethodName} {bytes : ByteArray} {maxL n d index : Nat} {ret : Option FieldType} {As rest : List Value} {K : Int32 → Wd → Prop} (hM : Met l y (xws y bytes maxL ret) (rmd d 0 0) (xPc x As w) (QcI x K) 0 0 (xA x)) (cw : (va_CN R s args own index y host bytes maxL ret (xws y bytes maxL ret) (rmd d 0 0) 0 0 n ∧ (Cond.static y).before args s = true ∧ True)) (hst : st = As.reverse ++ rest) (hn : As.length = n) (hW : (rest.map fun v => v.category).sum ≤ 8) (hd : decode cc pc = .ok (.invokestatic index, 3)) (hR : i ≤ R.cells ∧ j ≤ R.slots)
    (k : ∀ (r : Int32) (u : Wd), K r u → GW x p l e R s m args below meth c nL Q (pc + 3) lo (.int r :: rest) u i j) : GW x p l e R s m args below meth c nL Q pc lo st w i j := by
  intro H locs ls h1 h2 h3
  subst hst
  exact va_calli (va_runSN (As := As) (rest := rest) C.1 hM cw ⟨xPc.blind, fun U hU hW => xPc.go C h1 h2 U hU hW⟩ rfl hn h3.1 rfl (lv_room hW) hd ⟨hR.1, hR.2⟩) h2 (fun _ _ h => h) (fun _ h => h) (fun r u t H1 locs1 ht hvm hw hB hz1 hk1 hS1 => k r u hw H1 locs1 ls (by rw [← ht]; exact hB) hS1 h3)
theorem g_callVl (C : xC x p s m c cc nL args own) {C2 : String} {q0 ci : Nat} {T : u_T} {nf : Nat} {y : MethodName} {bytes : ByteArray} {maxL n d index : Nat} {ret : Option FieldType} {As rest : List Value} {mc ms : Nat} {K : Int64 → Wd → Prop} (hM : Met l y (xws y bytes maxL ret) (rmd d mc ms) (xPc x (.ref (adr x q0) :: As) w) (QcL x K) mc ms (xA x)) (cw : CallW R s args own C2 index y bytes maxL ret (xws y bytes maxL ret) (rmd d mc ms) mc ms n) (hc : classes[ci]? = some (C2, T, nf)) (hq : isK w q0 ci) (hci : ci < 13) (hst : st = As.reverse ++ .ref (adr x q0) :: rest) (hn : As.length = n) (hW : (rest.map fun v => v.category).sum ≤ 8) (hd : decode cc pc = .ok (.invokevirtual index, 3)) (hr : i + mc ≤ R.cells ∧ j + ms ≤ R.slots)
    (k : ∀ (r : Int64) (u : Wd), K r u → GW x p l e R s m args below meth c nL Q (pc + 3) lo (.long r :: rest) u (i + mc) (j + ms)) : GW x p l e R s m args below meth c nL Q pc lo st w i j := by
  intro H locs ls h1 h2 h3
  subst hst
  exact va_calll (va_runV (As := As) (rest := rest) C.1 hM cw ⟨xPc.blind, va_recv C.2.1 (h1.obj hq hci) hc (q0 := 0) rfl, fun U hU hW => xPc.go C h1 h2 U hU hW⟩ rfl hn h3.1 rfl (lv_room hW) hd hr) h2 (fun _ _ h => h) (fun _ h => h) (fun r u t H1 locs1 ht hvm hw hB hz1 hk1 hS1 => k r u hw H1 locs1 ls (by rw [← ht]; exact hB) hS1 h3)
theorem g_callSl (C : xC x p s m c cc nL args own) {y : MethodName} {bytes : ByteArray} {maxL n d index : Nat} {ret : Option FieldType} {As rest : List Value} {mc ms : Nat} {K : Int64 → Wd → Prop} (hM : Met l y (xws y bytes maxL ret) (rmd d mc ms) (xPc x As w) (QcL x K) mc ms (xA x)) (cw : (CallB R s args own index y bytes maxL ret (xws y bytes maxL ret) (rmd d mc ms) mc ms n ∧ (Cond.static y).before args s = true)) (hst : st = As.reverse ++ rest) (hn : As.length = n) (hW : (rest.map fun v => v.category).sum ≤ 8) (hd : decode cc pc = .ok (.invokestatic index, 3)) (hr : i + mc ≤ R.cells ∧ j + ms ≤ R.slots)
    (k : ∀ (r : Int64) (u : Wd), K r u → GW x p l e R s m args below meth c nL Q (pc + 3) lo (.long r :: rest) u (i + mc) (j + ms)) : GW x p l e R s m args below meth c nL Q pc lo st w i j := by
  intro H locs ls h1 h2 h3
  subst hst
  exact va_calll (va_runS (As := As) (rest := rest) C.1 hM cw ⟨xPc.blind, fun U hU hW => xPc.go C h1 h2 U hU hW⟩ rfl hn h3.1 rfl (lv_room hW) hd hr) h2 (fun _ _ h => h) (fun _ h => h) (fun r u t H1 locs1 ht hvm hw hB hz1 hk1 hS1 => k r u hw H1 locs1 ls (by rw [← ht]; exact hB) hS1 h3)
theorem g_callNl (C : xC x p s m c cc nL args own) {host : String} {y : MethodName} {bytes : ByteArray} {maxL n d index : Nat} {ret : Option FieldType} {As rest : List Value} {mc ms : Nat} {K : Int64 → Wd → Prop} (hM : Met l y (xws y bytes maxL ret) (rmd d mc ms) (xPc x As w) (QcL x K) mc ms (xA x)) (cw : (va_CN R s args own index y host bytes maxL ret (xws y bytes maxL ret) (rmd d mc ms) mc ms n ∧ (Cond.static y).before args s = true ∧ True)) (hst : st = As.reverse ++ rest) (hn : As.length = n) (hW : (rest.map fun v => v.category).sum ≤ 8) (hd : decode cc pc = .ok (.invokestatic index, 3)) (hr : i + mc ≤ R.cells ∧ j + ms ≤ R.slots)
    (k : ∀ (r : Int64) (u : Wd), K r u → GW x p l e R s m args below meth c nL Q (pc + 3) lo (.long r :: rest) u (i + mc) (j + ms)) : GW x p l e R s m args below meth c nL Q pc lo st w i j := by
  intro H locs ls h1 h2 h3
  subst hst
  exact va_calll (va_runSN (As := As) (rest := rest) C.1 hM cw ⟨xPc.blind, fun U hU hW => xPc.go C h1 h2 U hU hW⟩ rfl hn h3.1 rfl (lv_room hW) hd hr) h2 (fun _ _ h => h) (fun _ h => h) (fun r u t H1 locs1 ht hvm hw hB hz1 hk1 hS1 => k r u hw H1 locs1 ls (by rw [← ht]; exact hB) hS1 h3)
theorem g_callVl0 (C : xC x p s m c cc nL args own) {C2 : String} {q0 ci : Nat} {T : u_T} {nf : Nat} {y : MethodName} {bytes : ByteArray} {maxL n d index : Nat} {ret : Option FieldType} {As rest : List Value} {K : Int64 → Wd → Prop} (hM : Met l y (xws y bytes maxL ret) (rmd d 0 0) (xPc x (.ref (adr x q0) :: As) w) (QcL x K) 0 0 (xA x)) (cw : CallW R s args own C2 index y bytes maxL ret (xws y bytes maxL ret) (rmd d 0 0) 0 0 n) (hc : classes[ci]? = some (C2, T, nf)) (hq : isK w q0 ci) (hci : ci < 13) (hst : st = As.reverse ++ .ref (adr x q0) :: rest) (hn : As.length = n) (hW : (rest.map fun v => v.category).sum ≤ 8) (hd : decode cc pc = .ok (.invokevirtual index, 3)) (hR : i ≤ R.cells ∧ j ≤ R.slots)
    (k : ∀ (r : Int64) (u : Wd), K r u → GW x p l e R s m args below meth c nL Q (pc + 3) lo (.long r :: rest) u i j) : GW x p l e R s m args below meth c nL Q pc lo st w i j := by
  intro H locs ls h1 h2 h3
  subst hst
  exact va_calll (va_runV (As := As) (rest := rest) C.1 hM cw ⟨xPc.blind, va_recv C.2.1 (h1.obj hq hci) hc (q0 := 0) rfl, fun U hU hW => xPc.go C h1 h2 U hU hW⟩ rfl hn h3.1 rfl (lv_room hW) hd ⟨hR.1, hR.2⟩) h2 (fun _ _ h => h) (fun _ h => h) (fun r u t H1 locs1 ht hvm hw hB hz1 hk1 hS1 => k r u hw H1 locs1 ls (by rw [← ht]; exact hB) hS1 h3)
theorem g_callSl0 (C : xC x p s m c cc nL args own) {y : MethodName} {bytes : ByteArray} {maxL n d index : Nat} {ret : Option FieldType} {As rest : List Value} {K : Int64 → Wd → Prop} (hM : Met l y (xws y bytes maxL ret) (rmd d 0 0) (xPc x As w) (QcL x K) 0 0 (xA x)) (cw : (CallB R s args own index y bytes maxL ret (xws y bytes maxL ret) (rmd d 0 0) 0 0 n ∧ (Cond.static y).before args s = true)) (hst : st = As.reverse ++ rest) (hn : As.length = n) (hW : (rest.map fun v => v.category).sum ≤ 8) (hd : decode cc pc = .ok (.invokestatic index, 3)) (hR : i ≤ R.cells ∧ j ≤ R.slots)
    (k : ∀ (r : Int64) (u : Wd), K r u → GW x p l e R s m args below meth c nL Q (pc + 3) lo (.long r :: rest) u i j) : GW x p l e R s m args below meth c nL Q pc lo st w i j := by
  intro H locs ls h1 h2 h3
  subst hst
  exact va_calll (va_runS (As := As) (rest := rest) C.1 hM cw ⟨xPc.blind, fun U hU hW => xPc.go C h1 h2 U hU hW⟩ rfl hn h3.1 rfl (lv_room hW) hd ⟨hR.1, hR.2⟩) h2 (fun _ _ h => h) (fun _ h => h) (fun r u t H1 locs1 ht hvm hw hB hz1 hk1 hS1 => k r u hw H1 locs1 ls (by rw [← ht]; exact hB) hS1 h3)
theorem g_callNl0 (C : xC x p s m c cc nL args own) {host : String} {y : MethodName} {bytes : ByteArray} {maxL n d index : Nat} {ret : Option FieldType} {As rest : List Value} {K : Int64 → Wd → Prop} (hM : Met l y (xws y bytes maxL ret) (rmd d 0 0) (xPc x As w) (QcL x K) 0 0 (xA x)) (cw : (va_CN R s args own index y host bytes maxL ret (xws y bytes maxL ret) (rmd d 0 0) 0 0 n ∧ (Cond.static y).before args s = true ∧ True)) (hst : st = As.reverse ++ rest) (hn : As.length = n) (hW : (rest.map fun v => v.category).sum ≤ 8) (hd : decode cc pc = .ok (.invokestatic index, 3)) (hR : i ≤ R.cells ∧ j ≤ R.slots)
    (k : ∀ (r : Int64) (u : Wd), K r u → GW x p l e R s m args below meth c nL Q (pc + 3) lo (.long r :: rest) u i j) : GW x p l e R s m args below meth c nL Q pc lo st w i j := by
  intro H locs ls h1 h2 h3
  subst hst
  exact va_calll (va_runSN (As := As) (rest := rest) C.1 hM cw ⟨xPc.blind, fun U hU hW => xPc.go C h1 h2 U hU hW⟩ rfl hn h3.1 rfl (lv_room hW) hd ⟨hR.1, hR.2⟩) h2 (fun _ _ h => h) (fun _ h => h) (fun r u t H1 locs1 ht hvm hw hB hz1 hk1 hS1 => k r u hw H1 locs1 ls (by rw [← ht]; exact hB) hS1 h3)
theorem g_callVv (C : xC x p s m c cc nL args own) {C2 : String} {q0 ci : Nat} {T : u_T} {nf : Nat} {y : MethodName} {bytes : ByteArray} {maxL n d index : Nat} {ret : Option FieldType} {As rest : List Value} {mc ms : Nat} {K : Wd → Prop} (hM : Met l y (xws y bytes maxL ret) (rmd d mc ms) (xPc x (.ref (adr x q0) :: As) w) (QcV x K) mc ms (xA x)) (cw : CallW R s args own C2 index y bytes maxL ret (xws y bytes maxL ret) (rmd d mc ms) mc ms n) (hc : classes[ci]? = some (C2, T, nf)) (hq : isK w q0 ci) (hci : ci < 13) (hst : st = As.reverse ++ .ref (adr x q0) :: rest) (hn : As.length = n) (hW : (rest.map fun v => v.category).sum ≤ 8) (hd : decode cc pc = .ok (.invokevirtual index, 3)) (hr : i + mc ≤ R.cells ∧ j + ms ≤ R.slots)
    (k : ∀ (u : Wd), K u → GW x p l e R s m args below meth c nL Q (pc + 3) lo rest u (i + mc) (j + ms)) : GW x p l e R s m args below meth c nL Q pc lo st w i j := by
  intro H locs ls h1 h2 h3
  subst hst
  exact va_callv (va_runV (As := As) (rest := rest) C.1 hM cw ⟨xPc.blind, va_recv C.2.1 (h1.obj hq hci) hc (q0 := 0) rfl, fun U hU hW => xPc.go C h1 h2 U hU hW⟩ rfl hn h3.1 rfl (lv_room hW) hd hr) h2 (fun _ _ h => h) (fun _ h => h) (fun u t H1 locs1 ht hvm hw hB hz1 hk1 hS1 => k u hw H1 locs1 ls (by rw [← ht]; exact hB) hS1 h3)
theorem g_callSv (C : xC x p s m c cc nL args own) {y : MethodName} {bytes : ByteArray} {maxL n d index : Nat} {ret : Option FieldType} {As rest : List Value} {mc ms : Nat} {K : Wd → Prop} (hM : Met l y (xws y bytes maxL ret) (rmd d mc ms) (xPc x As w) (QcV x K) mc ms (xA x)) (cw : (CallB R s args own index y bytes maxL ret (xws y bytes maxL ret) (rmd d mc ms) mc ms n ∧ (Cond.static y).before args s = true)) (hst : st = As.reverse ++ rest) (hn : As.length = n) (hW : (rest.map fun v => v.category).sum ≤ 8) (hd : decode cc pc = .ok (.invokestatic index, 3)) (hr : i + mc ≤ R.cells ∧ j + ms ≤ R.slots)
    (k : ∀ (u : Wd), K u → GW x p l e R s m args below meth c nL Q (pc + 3) lo rest u (i + mc) (j + ms)) : GW x p l e R s m args below meth c nL Q pc lo st w i j := by
  intro H locs ls h1 h2 h3
  subst hst
  exact va_callv (va_runS (As := As) (rest := rest) C.1 hM cw ⟨xPc.blind, fun U hU hW => xPc.go C h1 h2 U hU hW⟩ rfl hn h3.1 rfl (lv_room hW) hd hr) h2 (fun _ _ h => h) (fun _ h => h) (fun u t H1 locs1 ht hvm hw hB hz1 hk1 hS1 => k u hw H1 locs1 ls (by rw [← ht]; exact hB) hS1 h3)
theorem g_callNv (C : xC x p s m c cc nL args own) {host : String} {y : MethodName} {bytes : ByteArray} {maxL n d index : Nat} {ret : Option FieldType} {As rest : List Value} {mc ms : Nat} {K : Wd → Prop} (hM : Met l y (xws y bytes maxL ret) (rmd d mc ms) (xPc x As w) (QcV x K) mc ms (xA x)) (cw : (va_CN R s args own index y host bytes maxL ret (xws y bytes maxL ret) (rmd d mc ms) mc ms n ∧ (Cond.static y).before args s = true ∧ True)) (hst : st = As.reverse ++ rest) (hn : As.length = n) (hW : (rest.map fun v => v.category).sum ≤ 8) (hd : decode cc pc = .ok (.invokestatic index, 3)) (hr : i + mc ≤ R.cells ∧ j + ms ≤ R.slots)
    (k : ∀ (u : Wd), K u → GW x p l e R s m args below meth c nL Q (pc + 3) lo rest u (i + mc) (j + ms)) : GW x p l e R s m args below meth c nL Q pc lo st w i j := by
  intro H locs ls h1 h2 h3
  subst hst
  exact va_callv (va_runSN (As := As) (rest := rest) C.1 hM cw ⟨xPc.blind, fun U hU hW => xPc.go C h1 h2 U hU hW⟩ rfl hn h3.1 rfl (lv_room hW) hd hr) h2 (fun _ _ h => h) (fun _ h => h) (fun u t H1 locs1 ht hvm hw hB hz1 hk1 hS1 => k u hw H1 locs1 ls (by rw [← ht]; exact hB) hS1 h3)
theorem g_callI (C : xC x p s m c cc nL args own) {q0 : Nat} {y : MethodName} {bytes : ByteArray} {maxL n d index : Nat} {As rest : List Value} {mc ms : Nat} {K : Wd → Prop} (hM : Met l y (xws y bytes maxL none) (rmd d mc ms) (xPc x (.ref (adr x q0) :: As) w) (QcV x K) mc ms (xA x)) (cw : (CallB R s args own index y bytes maxL none (xws y bytes maxL none) (rmd d mc ms) mc ms n ∧ y.name = "<init>" ∧ (Cond.instanceMethod y).before args s = true)) (hst : st = As.reverse ++ .ref (adr x q0) :: rest) (hn : As.length = n) (hW : (rest.map fun v => v.category).sum ≤ 8) (hd : decode cc pc = .ok (.invokespecial index, 3)) (hr : i + mc ≤ R.cells ∧ j + ms ≤ R.slots)
    (k : ∀ (u : Wd), K u → GW x p l e R s m args below meth c nL Q (pc + 3) lo rest u (i + mc) (j + ms)) : GW x p l e R s m args below meth c nL Q pc lo st w i j := by
  intro H locs ls h1 h2 h3
  subst hst
  exact va_callv (va_runI (As := As) (rest := rest) C.1 hM cw ⟨xPc.blind, fun U hU hW => xPc.go C h1 h2 U hU hW⟩ rfl hn h3.1 rfl (lv_room hW) hd hr) h2 (fun _ _ h => h) (fun _ h => h) (fun u t H1 locs1 ht hvm hw hB hz1 hk1 hS1 => k u hw H1 locs1 ls (by rw [← ht]; exact hB) hS1 h3)
theorem g_callIN (C : xC x p s m c cc nL args own) {host : String} {q0 : Nat} {y : MethodName} {bytes : ByteArray} {maxL n d index : Nat} {As rest : List Value} {mc ms : Nat} {K : Wd → Prop} (hM : Met l y (xws y bytes maxL none) (rmd d mc ms) (xPc x (.ref (adr x q0) :: As) w) (QcV x K) mc ms (xA x)) (cw : (va_CN R s args own index y host bytes maxL none (xws y bytes maxL none) (rmd d mc ms) mc ms n ∧ y.name = "<init>" ∧ (Cond.instanceMethod y).before args s = true)) (hst : st = As.reverse ++ .ref (adr x q0) :: rest) (hn : As.length = n) (hW : (rest.map fun v => v.category).sum ≤ 8) (hd : decode cc pc = .ok (.invokespecial index, 3)) (hr : i + mc ≤ R.cells ∧ j + ms ≤ R.slots)
    (k : ∀ (u : Wd), K u → GW x p l e R s m args below meth c nL Q (pc + 3) lo rest u (i + mc) (j + ms)) : GW x p l e R s m args below meth c nL Q pc lo st w i j := by
  intro H locs ls h1 h2 h3
  subst hst
  exact va_callv (va_runIN (As := As) (rest := rest) C.1 hM cw ⟨xPc.blind, fun U hU hW => xPc.go C h1 h2 U hU hW⟩ rfl hn h3.1 rfl (lv_room hW) hd hr) h2 (fun _ _ h => h) (fun _ h => h) (fun u t H1 locs1 ht hvm hw hB hz1 hk1 hS1 => k u hw H1 locs1 ls (by rw [← ht]; exact hB) hS1 h3)
theorem g_callVv0 (C : xC x p s m c cc nL args own) {C2 : String} {q0 ci : Nat} {T : u_T} {nf : Nat} {y : MethodName} {bytes : ByteArray} {maxL n d index : Nat} {ret : Option FieldType} {As rest : List Value} {K : Wd → Prop} (hM : Met l y (xws y bytes maxL ret) (rmd d 0 0) (xPc x (.ref (adr x q0) :: As) w) (QcV x K) 0 0 (xA x)) (cw : CallW R s args own C2 index y bytes maxL ret (xws y bytes maxL ret) (rmd d 0 0) 0 0 n) (hc : classes[ci]? = some (C2, T, nf)) (hq : isK w q0 ci) (hci : ci < 13) (hst : st = As.reverse ++ .ref (adr x q0) :: rest) (hn : As.length = n) (hW : (rest.map fun v => v.category).sum ≤ 8) (hd : decode cc pc = .ok (.invokevirtual index, 3)) (hR : i ≤ R.cells ∧ j ≤ R.slots)
    (k : ∀ (u : Wd), K u → GW x p l e R s m args below meth c nL Q (pc + 3) lo rest u i j) : GW x p l e R s m args below meth c nL Q pc lo st w i j := by
  intro H locs ls h1 h2 h3
  subst hst
  exact va_callv (va_runV (As := As) (rest := rest) C.1 hM cw ⟨xPc.blind, va_recv C.2.1 (h1.obj hq hci) hc (q0 := 0) rfl, fun U hU hW => xPc.go C h1 h2 U hU hW⟩ rfl hn h3.1 rfl (lv_room hW) hd ⟨hR.1, hR.2⟩) h2 (fun _ _ h => h) (fun _ h => h) (fun u t H1 locs1 ht hvm hw hB hz1 hk1 hS1 => k u hw H1 locs1 ls (by rw [← ht]; exact hB) hS1 h3)
theorem g_callSv0 (C : xC x p s m c cc nL args own) {y : MethodName} {bytes : ByteArray} {maxL n d index : Nat} {ret : Option FieldType} {As rest : List Value} {K : Wd → Prop} (hM : Met l y (xws y bytes maxL ret) (rmd d 0 0) (xPc x As w) (QcV x K) 0 0 (xA x)) (cw : (CallB R s args own index y bytes maxL ret (xws y bytes maxL ret) (rmd d 0 0) 0 0 n ∧ (Cond.static y).before args s = true)) (hst : st = As.reverse ++ rest) (hn : As.length = n) (hW : (rest.map fun v => v.category).sum ≤ 8) (hd : decode cc pc = .ok (.invokestatic index, 3)) (hR : i ≤ R.cells ∧ j ≤ R.slots)
    (k : ∀ (u : Wd), K u → GW x p l e R s m args below meth c nL Q (pc + 3) lo rest u i j) : GW x p l e R s m args below meth c nL Q pc lo st w i j := by
  intro H locs ls h1 h2 h3
  subst hst
  exact va_callv (va_runS (As := As) (rest := rest) C.1 hM cw ⟨xPc.blind, fun U hU hW => xPc.go C h1 h2 U hU hW⟩ rfl hn h3.1 rfl (lv_room hW) hd ⟨hR.1, hR.2⟩) h2 (fun _ _ h => h) (fun _ h => h) (fun u t H1 locs1 ht hvm hw hB hz1 hk1 hS1 => k u hw H1 locs1 ls (by rw [← ht]; exact hB) hS1 h3)
theorem g_callNv0 (C : xC x p s m c cc nL args own) {host : String} {y : MethodName} {bytes : ByteArray} {maxL n d index : Nat} {ret : Option FieldType} {As rest : List Value} {K : Wd → Prop} (hM : Met l y (xws y bytes maxL ret) (rmd d 0 0) (xPc x As w) (QcV x K) 0 0 (xA x)) (cw : (va_CN R s args own index y host bytes maxL ret (xws y bytes maxL ret) (rmd d 0 0) 0 0 n ∧ (Cond.static y).before args s = true ∧ True)) (hst : st = As.reverse ++ rest) (hn : As.length = n) (hW : (rest.map fun v => v.category).sum ≤ 8) (hd : decode cc pc = .ok (.invokestatic index, 3)) (hR : i ≤ R.cells ∧ j ≤ R.slots)
    (k : ∀ (u : Wd), K u → GW x p l e R s m args below meth c nL Q (pc + 3) lo rest u i j) : GW x p l e R s m args below meth c nL Q pc lo st w i j := by
  intro H locs ls h1 h2 h3
  subst hst
  exact va_callv (va_runSN (As := As) (rest := rest) C.1 hM cw ⟨xPc.blind, fun U hU hW => xPc.go C h1 h2 U hU hW⟩ rfl hn h3.1 rfl (lv_room hW) hd ⟨hR.1, hR.2⟩) h2 (fun _ _ h => h) (fun _ h => h) (fun u t H1 locs1 ht hvm hw hB hz1 hk1 hS1 => k u hw H1 locs1 ls (by rw [← ht]; exact hB) hS1 h3)
theorem g_callI0 (C : xC x p s m c cc nL args own) {q0 : Nat} {y : MethodName} {bytes : ByteArray} {maxL n d index : Nat} {As rest : List Value} {K : Wd → Prop} (hM : Met l y (xws y bytes maxL none) (rmd d 0 0) (xPc x (.ref (adr x q0) :: As) w) (QcV x K) 0 0 (xA x)) (cw : (CallB R s args own index y bytes maxL none (xws y bytes maxL none) (rmd d 0 0) 0 0 n ∧ y.name = "<init>" ∧ (Cond.instanceMethod y).before args s = true)) (hst : st = As.reverse ++ .ref (adr x q0) :: rest) (hn : As.length = n) (hW : (rest.map fun v => v.category).sum ≤ 8) (hd : decode cc pc = .ok (.invokespecial index, 3)) (hR : i ≤ R.cells ∧ j ≤ R.slots)
    (k : ∀ (u : Wd), K u → GW x p l e R s m args below meth c nL Q (pc + 3) lo rest u i j) : GW x p l e R s m args below meth c nL Q pc lo st w i j := by
  intro H locs ls h1 h2 h3
  subst hst
  exact va_callv (va_runI (As := As) (rest := rest) C.1 hM cw ⟨xPc.blind, fun U hU hW => xPc.go C h1 h2 U hU hW⟩ rfl hn h3.1 rfl (lv_room hW) hd ⟨hR.1, hR.2⟩) h2 (fun _ _ h => h) (fun _ h => h) (fun u t H1 locs1 ht hvm hw hB hz1 hk1 hS1 => k u hw H1 locs1 ls (by rw [← ht]; exact hB) hS1 h3)
theorem g_callIN0 (C : xC x p s m c cc nL args own) {host : String} {q0 : Nat} {y : MethodName} {bytes : ByteArray} {maxL n d index : Nat} {As rest : List Value} {K : Wd → Prop} (hM : Met l y (xws y bytes maxL none) (rmd d 0 0) (xPc x (.ref (adr x q0) :: As) w) (QcV x K) 0 0 (xA x)) (cw : (va_CN R s args own index y host bytes maxL none (xws y bytes maxL none) (rmd d 0 0) 0 0 n ∧ y.name = "<init>" ∧ (Cond.instanceMethod y).before args s = true)) (hst : st = As.reverse ++ .ref (adr x q0) :: rest) (hn : As.length = n) (hW : (rest.map fun v => v.category).sum ≤ 8) (hd : decode cc pc = .ok (.invokespecial index, 3)) (hR : i ≤ R.cells ∧ j ≤ R.slots)
    (k : ∀ (u : Wd), K u → GW x p l e R s m args below meth c nL Q (pc + 3) lo rest u i j) : GW x p l e R s m args below meth c nL Q pc lo st w i j := by
  intro H locs ls h1 h2 h3
  subst hst
  exact va_callv (va_runIN (As := As) (rest := rest) C.1 hM cw ⟨xPc.blind, fun U hU hW => xPc.go C h1 h2 U hU hW⟩ rfl hn h3.1 rfl (lv_room hW) hd ⟨hR.1, hR.2⟩) h2 (fun _ _ h => h) (fun _ h => h) (fun u t H1 locs1 ht hvm hw hB hz1 hk1 hS1 => k u hw H1 locs1 ls (by rw [← ht]; exact hB) hS1 h3)
theorem g_callVr (C : xC x p s m c cc nL args own) {C2 : String} {q0 ci : Nat} {T : u_T} {nf : Nat} {y : MethodName} {bytes : ByteArray} {maxL n d index : Nat} {ret : Option FieldType} {As rest : List Value} {mc ms : Nat} {K : Nat → Wd → Prop} (hM : Met l y (xws y bytes maxL ret) (rmd d mc ms) (xPc x (.ref (adr x q0) :: As) w) (QcR x K) mc ms (xA x)) (cw : CallW R s args own C2 index y bytes maxL ret (xws y bytes maxL ret) (rmd d mc ms) mc ms n) (hc : classes[ci]? = some (C2, T, nf)) (hq : isK w q0 ci) (hci : ci < 13) (hst : st = As.reverse ++ .ref (adr x q0) :: rest) (hn : As.length = n) (hW : (rest.map fun v => v.category).sum ≤ 8) (hd : decode cc pc = .ok (.invokevirtual index, 3)) (hr : i + mc ≤ R.cells ∧ j + ms ≤ R.slots)
    (k : ∀ (r : Nat) (u : Wd), K r u → GW x p l e R s m args below meth c nL Q (pc + 3) lo (.ref (adr x r) :: rest) u (i + mc) (j + ms)) : GW x p l e R s m args below meth c nL Q pc lo st w i j := by
  intro H locs ls h1 h2 h3
  subst hst
  exact va_callr (va_runV (As := As) (rest := rest) C.1 hM cw ⟨xPc.blind, va_recv C.2.1 (h1.obj hq hci) hc (q0 := 0) rfl, fun U hU hW => xPc.go C h1 h2 U hU hW⟩ rfl hn h3.1 rfl (lv_room hW) hd hr) h2 (fun _ _ h => h) (fun _ h => h) (fun u ra t H1 locs1 ht hvm hw hB hz1 hk1 hS1 => by have h9 := k u.1 u.2 hw H1 locs1 ls (by rw [← ht]; exact hB.2) hS1 h3; rw [hB.1]; exact h9)
theorem g_callSr (C : xC x p s m c cc nL args own) {y : MethodName} {bytes : ByteArray} {maxL n d index : Nat} {ret : Option FieldType} {As rest : List Value} {mc ms : Nat} {K : Nat → Wd → Prop} (hM : Met l y (xws y bytes maxL ret) (rmd d mc ms) (xPc x As w) (QcR x K) mc ms (xA x)) (cw : (CallB R s args own index y bytes maxL ret (xws y bytes maxL ret) (rmd d mc ms) mc ms n ∧ (Cond.static y).before args s = true)) (hst : st = As.reverse ++ rest) (hn : As.length = n) (hW : (rest.map fun v => v.category).sum ≤ 8) (hd : decode cc pc = .ok (.invokestatic index, 3)) (hr : i + mc ≤ R.cells ∧ j + ms ≤ R.slots)
    (k : ∀ (r : Nat) (u : Wd), K r u → GW x p l e R s m args below meth c nL Q (pc + 3) lo (.ref (adr x r) :: rest) u (i + mc) (j + ms)) : GW x p l e R s m args below meth c nL Q pc lo st w i j := by
  intro H locs ls h1 h2 h3
  subst hst
  exact va_callr (va_runS (As := As) (rest := rest) C.1 hM cw ⟨xPc.blind, fun U hU hW => xPc.go C h1 h2 U hU hW⟩ rfl hn h3.1 rfl (lv_room hW) hd hr) h2 (fun _ _ h => h) (fun _ h => h) (fun u ra t H1 locs1 ht hvm hw hB hz1 hk1 hS1 => by have h9 := k u.1 u.2 hw H1 locs1 ls (by rw [← ht]; exact hB.2) hS1 h3; rw [hB.1]; exact h9)
theorem g_callNr (C : xC x p s m c cc nL args own) {host : String} {y : MethodName} {bytes : ByteArray} {maxL n d index : Nat} {ret : Option FieldType} {As rest : List Value} {mc ms : Nat} {K : Nat → Wd → Prop} (hM : Met l y (xws y bytes maxL ret) (rmd d mc ms) (xPc x As w) (QcR x K) mc ms (xA x)) (cw : (va_CN R s args own index y host bytes maxL ret (xws y bytes maxL ret) (rmd d mc ms) mc ms n ∧ (Cond.static y).before args s = true ∧ True)) (hst : st = As.reverse ++ rest) (hn : As.length = n) (hW : (rest.map fun v => v.category).sum ≤ 8) (hd : decode cc pc = .ok (.invokestatic index, 3)) (hr : i + mc ≤ R.cells ∧ j + ms ≤ R.slots)
    (k : ∀ (r : Nat) (u : Wd), K r u → GW x p l e R s m args below meth c nL Q (pc + 3) lo (.ref (adr x r) :: rest) u (i + mc) (j + ms)) : GW x p l e R s m args below meth c nL Q pc lo st w i j := by
  intro H locs ls h1 h2 h3
  subst hst
  exact va_callr (va_runSN (As := As) (rest := rest) C.1 hM cw ⟨xPc.blind, fun U hU hW => xPc.go C h1 h2 U hU hW⟩ rfl hn h3.1 rfl (lv_room hW) hd hr) h2 (fun _ _ h => h) (fun _ h => h) (fun u ra t H1 locs1 ht hvm hw hB hz1 hk1 hS1 => by have h9 := k u.1 u.2 hw H1 locs1 ls (by rw [← ht]; exact hB.2) hS1 h3; rw [hB.1]; exact h9)
theorem g_callVr0 (C : xC x p s m c cc nL args own) {C2 : String} {q0 ci : Nat} {T : u_T} {nf : Nat} {y : MethodName} {bytes : ByteArray} {maxL n d index : Nat} {ret : Option FieldType} {As rest : List Value} {K : Nat → Wd → Prop} (hM : Met l y (xws y bytes maxL ret) (rmd d 0 0) (xPc x (.ref (adr x q0) :: As) w) (QcR x K) 0 0 (xA x)) (cw : CallW R s args own C2 index y bytes maxL ret (xws y bytes maxL ret) (rmd d 0 0) 0 0 n) (hc : classes[ci]? = some (C2, T, nf)) (hq : isK w q0 ci) (hci : ci < 13) (hst : st = As.reverse ++ .ref (adr x q0) :: rest) (hn : As.length = n) (hW : (rest.map fun v => v.category).sum ≤ 8) (hd : decode cc pc = .ok (.invokevirtual index, 3)) (hR : i ≤ R.cells ∧ j ≤ R.slots)
    (k : ∀ (r : Nat) (u : Wd), K r u → GW x p l e R s m args below meth c nL Q (pc + 3) lo (.ref (adr x r) :: rest) u i j) : GW x p l e R s m args below meth c nL Q pc lo st w i j := by
  intro H locs ls h1 h2 h3
  subst hst
  exact va_callr (va_runV (As := As) (rest := rest) C.1 hM cw ⟨xPc.blind, va_recv C.2.1 (h1.obj hq hci) hc (q0 := 0) rfl, fun U hU hW => xPc.go C h1 h2 U hU hW⟩ rfl hn h3.1 rfl (lv_room hW) hd ⟨hR.1, hR.2⟩) h2 (fun _ _ h => h) (fun _ h => h) (fun u ra t H1 locs1 ht hvm hw hB hz1 hk1 hS1 => by have h9 := k u.1 u.2 hw H1 locs1 ls (by rw [← ht]; exact hB.2) hS1 h3; rw [hB.1]; exact h9)
theorem g_callSr0 (C : xC x p s m c cc nL args own) {y : MethodName} {bytes : ByteArray} {maxL n d index : Nat} {ret : Option FieldType} {As rest : List Value} {K : Nat → Wd → Prop} (hM : Met l y (xws y bytes maxL ret) (rmd d 0 0) (xPc x As w) (QcR x K) 0 0 (xA x)) (cw : (CallB R s args own index y bytes maxL ret (xws y bytes maxL ret) (rmd d 0 0) 0 0 n ∧ (Cond.static y).before args s = true)) (hst : st = As.reverse ++ rest) (hn : As.length = n) (hW : (rest.map fun v => v.category).sum ≤ 8) (hd : decode cc pc = .ok (.invokestatic index, 3)) (hR : i ≤ R.cells ∧ j ≤ R.slots)
    (k : ∀ (r : Nat) (u : Wd), K r u → GW x p l e R s m args below meth c nL Q (pc + 3) lo (.ref (adr x r) :: rest) u i j) : GW x p l e R s m args below meth c nL Q pc lo st w i j := by
  intro H locs ls h1 h2 h3
  subst hst
  exact va_callr (va_runS (As := As) (rest := rest) C.1 hM cw ⟨xPc.blind, fun U hU hW => xPc.go C h1 h2 U hU hW⟩ rfl hn h3.1 rfl (lv_room hW) hd ⟨hR.1, hR.2⟩) h2 (fun _ _ h => h) (fun _ h => h) (fun u ra t H1 locs1 ht hvm hw hB hz1 hk1 hS1 => by have h9 := k u.1 u.2 hw H1 locs1 ls (by rw [← ht]; exact hB.2) hS1 h3; rw [hB.1]; exact h9)
theorem g_callNr0 (C : xC x p s m c cc nL args own) {host : String} {y : MethodName} {bytes : ByteArray} {maxL n d index : Nat} {ret : Option FieldType} {As rest : List Value} {K : Nat → Wd → Prop} (hM : Met l y (xws y bytes maxL ret) (rmd d 0 0) (xPc x As w) (QcR x K) 0 0 (xA x)) (cw : (va_CN R s args own index y host bytes maxL ret (xws y bytes maxL ret) (rmd d 0 0) 0 0 n ∧ (Cond.static y).before args s = true ∧ True)) (hst : st = As.reverse ++ rest) (hn : As.length = n) (hW : (rest.map fun v => v.category).sum ≤ 8) (hd : decode cc pc = .ok (.invokestatic index, 3)) (hR : i ≤ R.cells ∧ j ≤ R.slots)
    (k : ∀ (r : Nat) (u : Wd), K r u → GW x p l e R s m args below meth c nL Q (pc + 3) lo (.ref (adr x r) :: rest) u i j) : GW x p l e R s m args below meth c nL Q pc lo st w i j := by
  intro H locs ls h1 h2 h3
  subst hst
  exact va_callr (va_runSN (As := As) (rest := rest) C.1 hM cw ⟨xPc.blind, fun U hU hW => xPc.go C h1 h2 U hU hW⟩ rfl hn h3.1 rfl (lv_room hW) hd ⟨hR.1, hR.2⟩) h2 (fun _ _ h => h) (fun _ h => h) (fun u ra t H1 locs1 ht hvm hw hB hz1 hk1 hS1 => by have h9 := k u.1 u.2 hw H1 locs1 ls (by rw [← ht]; exact hB.2) hS1 h3; rw [hB.1]; exact h9)
theorem g_iald (C : xC x p s m c cc nL args own) {r : Nat} {a : Int32} (hq : isK w r 20) (ha : vp_in a (wn w r)) (hd : decode cc pc = .ok (.iaload, 1)) (k : GW x p l e R s m args below meth c nL Q (pc + 1) lo (.int (wI w r a.toNatClampNeg) :: st) w i j) : GW x p l e R s m args below meth c nL Q pc lo (.int a :: .ref (adr x r) :: st) w i j := fun H locs ls h1 h2 h3 => va_iald C.1.1 C.1.2.1 C.2.1 (h1.arr0 hq) 0 0 rfl rfl ha hd (k H locs ls h1 h2 h3)
theorem g_lald (C : xC x p s m c cc nL args own) {r : Nat} {a : Int32} (hq : isK w r 21) (ha : vp_in a (wn w r)) (hd : decode cc pc = .ok (.laload, 1)) (k : GW x p l e R s m args below meth c nL Q (pc + 1) lo (.long (wL w r a.toNatClampNeg) :: st) w i j) : GW x p l e R s m args below meth c nL Q pc lo (.int a :: .ref (adr x r) :: st) w i j := fun H locs ls h1 h2 h3 => va_lald C.1.1 C.1.2.1 C.2.1 (h1.arr1 hq) 0 1 rfl rfl ha hd (k H locs ls h1 h2 h3)
theorem g_bald (C : xC x p s m c cc nL args own) {r : Nat} {a : Int32} (hq : isK w r 22) (ha : vp_in a (wn w r)) (hd : decode cc pc = .ok (.baload, 1)) (k : GW x p l e R s m args below meth c nL Q (pc + 1) lo (.int (wI w r a.toNatClampNeg) :: st) w i j) : GW x p l e R s m args below meth c nL Q pc lo (.int a :: .ref (adr x r) :: st) w i j := fun H locs ls h1 h2 h3 => va_bald C.1.1 C.1.2.1 C.2.1 (h1.arr2 hq) 0 2 rfl rfl ha hd (k H locs ls h1 h2 h3)
theorem g_zald (C : xC x p s m c cc nL args own) {r : Nat} {a : Int32} (hq : isK w r 23) (ha : vp_in a (wn w r)) (hd : decode cc pc = .ok (.baload, 1)) (k : GW x p l e R s m args below meth c nL Q (pc + 1) lo (.int (wI w r a.toNatClampNeg) :: st) w i j) : GW x p l e R s m args below meth c nL Q pc lo (.int a :: .ref (adr x r) :: st) w i j := fun H locs ls h1 h2 h3 => va_zald C.1.1 C.1.2.1 C.2.1 (h1.arr3 hq) 0 3 rfl rfl ha hd (k H locs ls h1 h2 h3)
theorem g_iast (C : xC x p s m c cc nL args own) {r : Nat} {a : Int32} {v : Int32} (hq : isK w r 20) (ha : vp_in a (wn w r)) (hd : decode cc pc = .ok (.iastore, 1)) (k : GW x p l e R s m args below meth c nL Q (pc + 1) lo st (uI w r a.toNatClampNeg v) i j) : GW x p l e R s m args below meth c nL Q pc lo (.int v :: .int a :: .ref (adr x r) :: st) w i j := by
  intro H locs ls h1 h2 h3
  have hP := h1.arr0 hq
  refine W.iast C.1.1 C.1.2.1 (hP 0 _ rfl) ((C.2.1.2 0 _ rfl).1 (wn w r) (fun j => .int (wI w r j))) (fun q => by cases q) (by show ¬ (a < 0 ∨ (arrV _ _ _).slots.size ≤ _); rw [arrV_size]; exact ha) rfl rfl hd fun H1 e z oq => ?_
  refine k H1 _ ls (h1.putI hq (by decide) z ?_ oq) (h2.put z oq (adr_in hq)) h3
  rw [enc0_uI hq]
  show H1[adr x r]? = some (vp_cell _ _)
  rw [e]
  rw [vp_cell_i, vp_cell_i, arrV_store]
  congr 2
  funext q
  by_cases hq : q = a.toNatClampNeg
  · subst hq
    first | (simp [updV, upd, vp_updL]; done) | (simp [updV, upd, vp_nar]; try rfl)
  · simp [updV, upd, vp_updL, hq]
theorem g_last (C : xC x p s m c cc nL args own) {r : Nat} {a : Int32} {v : Int64} (hq : isK w r 21) (ha : vp_in a (wn w r)) (hd : decode cc pc = .ok (.lastore, 1)) (k : GW x p l e R s m args below meth c nL Q (pc + 1) lo st (uL w r a.toNatClampNeg v) i j) : GW x p l e R s m args below meth c nL Q pc lo (.long v :: .int a :: .ref (adr x r) :: st) w i j := by
  intro H locs ls h1 h2 h3
  have hP := h1.arr1 hq
  refine W.last C.1.1 C.1.2.1 (hP 0 _ rfl) ((C.2.1.2 1 _ rfl).1 (wn w r) (fun j => .long (wL w r j))) (fun q => by cases q) (by show ¬ (a < 0 ∨ (arrV _ _ _).slots.size ≤ _); rw [arrV_size]; exact ha) rfl rfl hd fun H1 e z oq => ?_
  refine k H1 _ ls (h1.putL hq (by decide) z ?_ oq) (h2.put z oq (adr_in hq)) h3
  rw [enc1_uL hq]
  show H1[adr x r]? = some (vp_cell _ _)
  rw [e]
  rw [vp_cell_l, vp_cell_l, arrV_store]
  congr 2
  funext q
  by_cases hq : q = a.toNatClampNeg
  · subst hq
    first | (simp [updV, upd, vp_updL]; done) | (simp [updV, upd, vp_nar]; try rfl)
  · simp [updV, upd, vp_updL, hq]
theorem g_bast (C : xC x p s m c cc nL args own) {r : Nat} {a : Int32} {v : Int32} (hq : isK w r 22) (ha : vp_in a (wn w r)) (hd : decode cc pc = .ok (.bastore, 1)) (k : GW x p l e R s m args below meth c nL Q (pc + 1) lo st (uI w r a.toNatClampNeg (vp_nar .byte v)) i j) : GW x p l e R s m args below meth c nL Q pc lo (.int v :: .int a :: .ref (adr x r) :: st) w i j := by
  intro H locs ls h1 h2 h3
  have hP := h1.arr2 hq
  refine W.bast C.1.1 C.1.2.1 (hP 0 _ rfl) ((C.2.1.2 2 _ rfl).1 (wn w r) (fun j => .int (wI w r j))) (fun q => by cases q) (by show ¬ (a < 0 ∨ (arrV _ _ _).slots.size ≤ _); rw [arrV_size]; exact ha) rfl rfl hd fun H1 e z oq => ?_
  refine k H1 _ ls (h1.putI hq (by decide) z ?_ oq) (h2.put z oq (adr_in hq)) h3
  rw [enc2_uI hq]
  show H1[adr x r]? = some (vp_cell _ _)
  rw [e]
  rw [vp_cell_i, vp_cell_i, arrV_store]
  congr 2
  funext q
  by_cases hq : q = a.toNatClampNeg
  · subst hq
    first | (simp [updV, upd, vp_updL]; done) | (simp [updV, upd, vp_nar]; try rfl)
  · simp [updV, upd, vp_updL, hq]
theorem g_zast (C : xC x p s m c cc nL args own) {r : Nat} {a : Int32} {v : Int32} (hq : isK w r 23) (ha : vp_in a (wn w r)) (hd : decode cc pc = .ok (.bastore, 1)) (k : GW x p l e R s m args below meth c nL Q (pc + 1) lo st (uI w r a.toNatClampNeg (vp_nar .boolean v)) i j) : GW x p l e R s m args below meth c nL Q pc lo (.int v :: .int a :: .ref (adr x r) :: st) w i j := by
  intro H locs ls h1 h2 h3
  have hP := h1.arr3 hq
  refine W.zast C.1.1 C.1.2.1 (hP 0 _ rfl) ((C.2.1.2 3 _ rfl).1 (wn w r) (fun j => .int (wI w r j))) (fun q => by cases q) (by show ¬ (a < 0 ∨ (arrV _ _ _).slots.size ≤ _); rw [arrV_size]; exact ha) rfl rfl hd fun H1 e z oq => ?_
  refine k H1 _ ls (h1.putI hq (by decide) z ?_ oq) (h2.put z oq (adr_in hq)) h3
  rw [enc3_uI hq]
  show H1[adr x r]? = some (vp_cell _ _)
  rw [e]
  rw [vp_cell_i, vp_cell_i, arrV_store]
  congr 2
  funext q
  by_cases hq : q = a.toNatClampNeg
  · subst hq
    first | (simp [updV, upd, vp_updL]; done) | (simp [updV, upd, vp_nar]; try rfl)
  · simp [updV, upd, vp_updL, hq]
end XL
