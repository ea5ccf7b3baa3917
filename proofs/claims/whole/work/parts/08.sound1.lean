/-! THE SMALL MACHINE TELLS THE TRUTH OF THE REAL ONE: op by op -/
abbrev tysL (cy : Nat → ClassId) : List (ClassId × FieldType) := [(cy 1, .int), (cy 2, .long), (cy 3, .boolean), (cy 4, .char), (cy 5, .object RX2), (cy 6, .object RX4)]
def slnL : List Nat := [5, 6, 5, 4, 5]
def sbyL : List (List Int32) := [[112, 111, 105, 110, 116], [112, 97, 114, 105, 115, 104], [119, 97, 110, 116, 115], [108, 105, 110, 101], [99, 108, 111, 117, 100]]
def TBG : List Cond := lw_tbl.filter goodWord
theorem mem_tbg {w : Cond} {i : Nat} (h : lw_tbl[i]? = some w) (hg : goodWord w = true) : w ∈ TBG := List.mem_filter.mpr ⟨List.mem_of_getElem? h, hg⟩
/-- what holds whatever runs -/
def GW (cy : Nat → ClassId) (ad : Nat → Nat → Nat) (A : Nat → Prop) (SL : Nat) : Prop := (∀ V : Mem, va_D A (allC cy ad V)) ∧ ¬ A (ad 50 0) ∧ SL < 2 ^ 31
/-- the statics that String reads -/
def stZ (A : Nat → Prop) (s : State) (H : Heap) : Prop := va_Z "java/lang/String" "COMPACT_STRINGS" "Z" (.int 1) A s H ∧ va_Zq "jdk/internal/util/Preconditions" "SIOOBE_FORMATTER" "Ljava/util/function/BiFunction;" A s H
/-- what holds in a frame of method m that may go d calls deep -/
def CX (D : va_G) (cy : Nat → ClassId) (ad : Nat → Nat → Nat) (adV : Nat → Nat) (A : Nat → Prop) (SL : Nat) (xs : Nat → Int32) (d m : Nat) (p : Program) (R : Room) (s : State) (mid : MethodId) (args : Array Value) (c : Code) : Prop :=
  (p.tables.exec = Jvm.exec ∧ c.code = byt m ∧ c.maxLocals = nLo m ∧ s.vm.findClass (owS (ow m)) = some mid.cls ∧ ∀ w ∈ TBG, w.before args s = true) ∧ va_K D vwCl (tysL cy) s ∧ (d + 8 ≤ R.frames ∧ 64 * (d + 8) ≤ R.locals) ∧
  (vk_S 5 slnL sbyL (fun k => ad 52 k) adV A s s.heap ∧ (∀ k : Nat, k < 5 → vk_R RX7 (sidx k) (stx k) (ad 52 k) s) ∧ stZ A s s.heap) ∧ va_X (ad 50 0) SL xs s s.heap ∧ ad 50 0 < s.heap.size
def Vok (SL : Nat) (xs : Nat → Int32) (V : Mem) : Prop := V.1 50 0 = xs ∧ V.1 51 0 0 = nI SL
/-- from here the frame comes to Q -/
def PS (l : Launch) (D : va_G) (cy : Nat → ClassId) (ad : Nat → Nat → Nat) (A : Nat → Prop) (SL : Nat) (xs : Nat → Int32) (p : Program) (e : Env) (R : Room) (s : State) (mid : MethodId) (args : Array Value) (below : List Frame) (meth : Method) (c : Code) (cells slots : Nat) (Q : State → Prop) (m pc : Nat) (L : AL) (S : AS) (V : Mem) : Prop :=
  ∀ (H : Heap) (locs : List Loc) (ls : Array Slot), va_P D vwCl (allC cy ad V) H → va_S A s.heap H locs → LR ad ls (nLo m) L → okA L → okB S → Vok SL xs V → W p l e R s mid args below meth c H locs cells slots Q (F0 mid pc ls (S.map (rv ad)))
theorem cnt_lt {t i : Nat} (h : i < cnt t) : t < 53 := by
  rcases Nat.lt_or_ge t 53 with q | q
  · exact q
  · exfalso
    have e : cnt t = 0 := by
      unfold cnt
      have : Nat.blt t 53 = false := by
        cases hb : Nat.blt t 53 with
        | false => rfl
        | true => exact absurd (Nat.le_of_ble_eq_true hb) (by omega)
      rw [this]
      rfl
    omega
theorem obj_f : ∀ t, t < 53 → clsOf t ≤ 8 → t < 48 ∧ ak t = 0 ∧ (vwCl[clsOf t]?).map (fun q => q.2.2) = some (frl t).length := by decide +kernel
theorem arr_f : ∀ t, t < 53 → ak t ≠ 0 → t < 48 := by decide +kernel
def fldB (t k : Nat) : Option (Option (Nat × Option Nat)) → Bool
  | none => true
  | some none => decide (parseFieldDescriptor (TTc (clsOf t) k).2.2.1 = some (bif fz t k then .boolean else .int))
  | some (some (t', none)) => decide (t' < 48 ∧ cnt t ≤ cnt t')
  | some (some (t', some c)) => decide (t' < 48 ∧ c < cnt t')
theorem fld_f : ∀ t, t < 53 → clsOf t ≤ 8 → ∀ k, k < 24 → fldB t k (nth (frl t) k) = true := by decide +kernel
theorem frl_len : ∀ t, t < 53 → (frl t).length ≤ 24 := by decide +kernel
theorem flk_b : ∀ q ∈ flk, q.2.2.1 ≤ 8 := by decide +kernel
set_option maxRecDepth 100000 in
theorem in_c0 : ∀ w ∈ wsX00, w ∈ TBG := fun w h => List.mem_filter.mpr ((by decide +kernel : ∀ w ∈ wsX00, w ∈ lw_tbl ∧ goodWord w = true) w h)
set_option maxRecDepth 100000 in
theorem in_c1 : ∀ w ∈ wsX10, w ∈ TBG := fun w h => List.mem_filter.mpr ((by decide +kernel : ∀ w ∈ wsX10, w ∈ lw_tbl ∧ goodWord w = true) w h)
set_option maxRecDepth 100000 in
theorem in_c2 : ∀ w ∈ wsX20, w ∈ TBG := fun w h => List.mem_filter.mpr ((by decide +kernel : ∀ w ∈ wsX20, w ∈ lw_tbl ∧ goodWord w = true) w h)
set_option maxRecDepth 100000 in
theorem in_c3 : ∀ w ∈ wsX30, w ∈ TBG := fun w h => List.mem_filter.mpr ((by decide +kernel : ∀ w ∈ wsX30, w ∈ lw_tbl ∧ goodWord w = true) w h)
set_option maxRecDepth 100000 in
theorem in_c4 : ∀ w ∈ wsX40, w ∈ TBG := fun w h => List.mem_filter.mpr ((by decide +kernel : ∀ w ∈ wsX40, w ∈ lw_tbl ∧ goodWord w = true) w h)
set_option maxRecDepth 100000 in
theorem in_c6 : ∀ w ∈ wsX60, w ∈ TBG := fun w h => List.mem_filter.mpr ((by decide +kernel : ∀ w ∈ wsX60, w ∈ lw_tbl ∧ goodWord w = true) w h)
set_option maxRecDepth 100000 in
theorem in_c7 : ∀ w ∈ wsX70, w ∈ TBG := fun w h => List.mem_filter.mpr ((by decide +kernel : ∀ w ∈ wsX70, w ∈ lw_tbl ∧ goodWord w = true) w h)
set_option maxRecDepth 100000 in
theorem in_c8 : ∀ w ∈ wsX80, w ∈ TBG := fun w h => List.mem_filter.mpr ((by decide +kernel : ∀ w ∈ wsX80, w ∈ lw_tbl ∧ goodWord w = true) w h)
set_option maxRecDepth 100000 in
theorem in_c9 : ∀ w ∈ wsX90, w ∈ TBG := fun w h => List.mem_filter.mpr ((by decide +kernel : ∀ w ∈ wsX90, w ∈ lw_tbl ∧ goodWord w = true) w h)
/-- of a class of the worlds: its words, its fields' types and names -/
def clsF (q : vw_C) : Prop := (∀ w ∈ u_ws q.1 q.2.1 q.2.2, w ∈ TBG) ∧ (∃ ty0 : Nat → FieldType, ∀ k, k < q.2.2 → parseFieldDescriptor (q.2.1 k).2.2.1 = some (ty0 k)) ∧ ∀ a, a < q.2.2 → ∀ b, b < q.2.2 → a ≠ b → (q.2.1 a).2.1 ≠ (q.2.1 b).2.1
theorem cls_f {ci : Nat} {q : vw_C} (h : vwCl[ci]? = some q) : clsF q := by
  have hm := List.mem_of_getElem? h
  simp only [vwCl, List.mem_cons, List.not_mem_nil, or_false] at hm
  rcases hm with rfl | rfl | rfl | rfl | rfl | rfl | rfl | rfl | rfl
  · exact ⟨in_c0, ⟨tyX0, tyX0_ok⟩, nmX0⟩
  · exact ⟨in_c1, ⟨tyX1, tyX1_ok⟩, nmX1⟩
  · exact ⟨in_c2, ⟨tyX2, tyX2_ok⟩, nmX2⟩
  · exact ⟨in_c3, ⟨tyX3, tyX3_ok⟩, nmX3⟩
  · exact ⟨in_c4, ⟨tyX4, tyX4_ok⟩, nmX4⟩
  · exact ⟨in_c6, ⟨tyX6, tyX6_ok⟩, nmX6⟩
  · exact ⟨in_c7, ⟨tyX7, tyX7_ok⟩, nmX7⟩
  · exact ⟨in_c8, ⟨tyX8, tyX8_ok⟩, nmX8⟩
  · exact ⟨in_c9, ⟨tyX9, tyX9_ok⟩, nmX9⟩
theorem any_ex {α : Type} {l : List α} {f : α → Bool} (h : l.any f = true) : ∃ q ∈ l, f q = true := List.any_eq_true.mp h
theorem Vok.set {SL : Nat} {xs : Nat → Int32} {V : Mem} {t i k : Nat} {x : Int32} {g : Nat → Nat → Nat → Int64} (h : Vok SL xs V) (ht : t < 48) : Vok SL xs (mset V.1 t i k x, g) := by
  refine ⟨?_, ?_⟩
  · rw [show (mset V.1 t i k x, g).1 50 0 = mset V.1 t i k x 50 0 from rfl, mset_ne (fun q => by omega)]
    exact h.1
  · rw [show (mset V.1 t i k x, g).1 51 0 0 = mset V.1 t i k x 51 0 0 from rfl, mset_ne (fun q => by omega)]
    exact h.2
theorem Vok.cpy {SL : Nat} {xs : Nat → Int32} {V : Mem} {t i sp t2 i2 dp n : Nat} {g : Nat → Nat → Nat → Int64} (h : Vok SL xs V) (ht : t2 < 48) : Vok SL xs (mcpy V.1 t i sp t2 i2 dp n, g) := by
  refine ⟨?_, ?_⟩
  · rw [show (mcpy V.1 t i sp t2 i2 dp n, g).1 50 0 = mcpy V.1 t i sp t2 i2 dp n 50 0 from rfl, mcpy_ne (fun q => by omega)]
    exact h.1
  · rw [show (mcpy V.1 t i sp t2 i2 dp n, g).1 51 0 0 = mcpy V.1 t i sp t2 i2 dp n 51 0 0 from rfl, mcpy_ne (fun q => by omega)]
    exact h.2
section Sound
variable {l : Launch} {D : va_G} {cy : Nat → ClassId} {ad : Nat → Nat → Nat} {adV : Nat → Nat} {A : Nat → Prop} {SL : Nat} {xs : Nat → Int32}
variable {p : Program} {e : Env} {R : Room} {s : State} {mid : MethodId} {args : Array Value} {below : List Frame} {meth : Method} {c : Code} {cells slots : Nat} {Q : State → Prop}
variable {d m pc : Nat} {L : AL} {S : AS} {V : Mem} {a b nx n : Nat} {i : Instr}
theorem s_load (hC : CX D cy ad adV A SL xs d m p R s mid args c) (hd : decode (byt m) pc = .ok (i, n)) (hi : k_load pc a b nx i n = true) {w : AV} (hw : lget L a = some w) (hk : kd w = b) (k : PS l D cy ad A SL xs p e R s mid args below meth c cells slots Q m nx L (w :: S) V) : PS l D cy ad A SL xs p e R s mid args below meth c cells slots Q m pc L S V := by
  intro H locs ls hP hS hl hA hB hV
  have K := k H locs ls hP hS hl hA (hB.cons (hA a w hw)) hV
  have hat := hl.2.2.2 a w hw
  unfold k_load at hi
  split at hi <;> first | exact absurd hi (by decide) | simp only [decide_eq_true_eq] at hi
  · obtain ⟨rfl, h2, rfl, rfl⟩ := hi
    match w, hk.trans h2, hat, K with
    | .inl x, _, hat, K => exact lv_iload_n hC.1.1 hC.1.2.1 hd rfl hat K
  · obtain ⟨rfl, h2, rfl, rfl⟩ := hi
    match w, hk.trans h2, hat, K with
    | .inl x, _, hat, K => exact lv_iload hC.1.1 hC.1.2.1 hd hat K
  · obtain ⟨rfl, h2, rfl, rfl⟩ := hi
    match w, hk.trans h2, hat, K with
    | .inr (.inr q), _, hat, K => exact lv_aload_n hC.1.1 hC.1.2.1 hd rfl hat K
  · obtain ⟨rfl, h2, rfl, rfl⟩ := hi
    match w, hk.trans h2, hat, K with
    | .inr (.inr q), _, hat, K => exact lv_aload hC.1.1 hC.1.2.1 hd hat K
  · obtain ⟨rfl, h2, rfl, rfl⟩ := hi
    match w, hk.trans h2, hat, K with
    | .inr (.inl q), _, hat, K => exact lv_lload_n hC.1.1 hC.1.2.1 hd rfl hat K
  · obtain ⟨rfl, h2, rfl, rfl⟩ := hi
    match w, hk.trans h2, hat, K with
    | .inr (.inl q), _, hat, K => exact lv_lload hC.1.1 hC.1.2.1 hd hat K
theorem s_push (hC : CX D cy ad adV A SL xs d m p R s mid args c) (hd : decode (byt m) pc = .ok (i, n)) {v : AV} (hi : k_push (ow m) pc v nx i n = true) (k : PS l D cy ad A SL xs p e R s mid args below meth c cells slots Q m nx L (v :: S) V) : PS l D cy ad A SL xs p e R s mid args below meth c cells slots Q m pc L S V := by
  intro H locs ls hP hS hl hA hB hV
  unfold k_push at hi
  split at hi <;> first | exact absurd hi (by decide) | simp only [decide_eq_true_eq, Bool.and_eq_true, Bool.or_eq_true] at hi
  · obtain ⟨rfl, rfl, rfl⟩ := hi
    exact lv_iconst hC.1.1 hC.1.2.1 hd rfl (k H locs ls hP hS hl hA (hB.cons trivial) hV)
  · obtain ⟨rfl, rfl, rfl⟩ := hi
    exact lv_bipush hC.1.1 hC.1.2.1 hd rfl (k H locs ls hP hS hl hA (hB.cons trivial) hV)
  · obtain ⟨rfl, rfl, rfl⟩ := hi
    exact lv_sipush hC.1.1 hC.1.2.1 hd rfl (k H locs ls hP hS hl hA (hB.cons trivial) hV)
  · obtain ⟨rfl, rfl, rfl⟩ := hi
    exact lv_lconst hC.1.1 hC.1.2.1 hd rfl (k H locs ls hP hS hl hA (hB.cons trivial) hV)
  · obtain ⟨⟨rfl, rfl⟩, hi | hi⟩ := hi
    · obtain ⟨q, hq, hq2⟩ := any_ex hi
      simp only [decide_eq_true_eq] at hq2
      obtain ⟨h1, rfl, rfl⟩ := hq2
      have hw := hC.1.2.2.2.2 _ (mem_tbg (clk_ok q hq) rfl)
      rw [h1] at hw
      exact lv_ldc hC.1.1 hC.1.2.1 hC.1.2.2.2.1 hw hd (k H locs ls hP hS hl hA (hB.cons trivial) hV)
    · obtain ⟨h0, hi⟩ := hi
      obtain ⟨k5, hk5, hq2⟩ := any_ex hi
      simp only [decide_eq_true_eq] at hq2
      obtain ⟨rfl, rfl⟩ := hq2
      have hk5 := List.mem_range.mp hk5
      have ho := hC.1.2.2.2.1
      rw [h0] at ho
      exact va_ldcS hC.1.1 hC.1.2.1 ho (hC.2.2.2.1.2.1 k5 hk5) hd (k H locs ls hP hS hl hA (hB.cons hk5) hV)
  · obtain ⟨⟨rfl, rfl⟩, hi⟩ := hi
    obtain ⟨q, hq, hq2⟩ := any_ex hi
    simp only [decide_eq_true_eq] at hq2
    obtain ⟨h1, rfl, rfl⟩ := hq2
    have hw := hC.1.2.2.2.2 _ (mem_tbg (clk_ok q hq) rfl)
    rw [h1] at hw
    have K := k H locs ls hP hS hl hA (hB.cons trivial) hV
    intro T hT X
    obtain ⟨t, a1, b1⟩ := K T hT X
    exact ⟨t, va_ldcwI X hC.1.1 hC.1.2.2.2.1 hw rfl (by rw [hC.1.2.1]; exact hd) t a1, b1⟩
  · obtain ⟨⟨rfl, rfl⟩, hi⟩ := hi
    obtain ⟨q, hq, hq2⟩ := any_ex hi
    simp only [decide_eq_true_eq] at hq2
    obtain ⟨h1, rfl, rfl⟩ := hq2
    have hw := hC.1.2.2.2.2 _ (mem_tbg (llk_ok q hq) rfl)
    rw [h1] at hw
    exact lv_ldc2 hC.1.1 hC.1.2.1 hC.1.2.2.2.1 hw hd (k H locs ls hP hS hl hA (hB.cons trivial) hV)
theorem cellE_obj {t j : Nat} (h : ak t = 0) : cellE cy ad t j V = .inr (clsOf t, fds ad t j V) := by
  unfold cellE
  rw [if_pos h]
theorem cellE_num {t j : Nat} (h : ak t = 1 ∨ ak t = 3 ∨ ak t = 4) : cellE cy ad t j V = .inl (cy (ak t), alen t, .inl (V.1 t j)) := by
  unfold cellE
  rcases h with h | h | h <;> rw [h] <;> rfl
theorem cellE_lng {t j : Nat} (h : ak t = 2) : cellE cy ad t j V = .inl (cy 2, alen t, .inr (.inl (V.2 t j))) := by
  unfold cellE
  rw [h]
  rfl
theorem nth_some_of_get {α : Type} {l : List α} {k : Nat} (h : k < l.length) : ∃ x, nth l k = some x := ⟨l[k], by rw [nth_get]; exact List.getElem?_eq_getElem h⟩
theorem fldv_ok {t j k : Nat} {w : AV} (hj : j < cnt t) (hc : clsOf t ≤ 8) (h : fldv t k j V = some w) : okv w := by
  have ht := cnt_lt hj
  have hk : k < 24 := by
    have h2 := frl_len t ht
    unfold fldv at h
    cases hn : nth (frl t) k with
    | none => rw [hn] at h; cases h
    | some x =>
      rw [nth_get] at hn
      have := (List.getElem?_eq_some_iff.mp hn).1
      omega
  have hf := fld_f t ht hc k hk
  unfold fldv at h
  generalize nth (frl t) k = o at hf h
  match o, hf, h with
  | some none, _, h => cases h; exact trivial
  | some (some (t', none)), hf, h =>
    cases h
    exact Nat.lt_of_lt_of_le hj (of_decide_eq_true hf).2
  | some (some (t', some c)), hf, h =>
    cases h
    exact (of_decide_eq_true hf).2
theorem s_get (hC : CX D cy ad adV A SL xs d m p R s mid args c) (hd : decode (byt m) pc = .ok (i, n)) (hi : k_get (ow m) pc a b nx i n = true) {t j : Nat} {w : AV} (hc : clsOf t = a) (hv : fldv t b j V = some w) (k : PS l D cy ad A SL xs p e R s mid args below meth c cells slots Q m nx L (w :: S) V) : PS l D cy ad A SL xs p e R s mid args below meth c cells slots Q m pc L (.inr (.inr (t, j)) :: S) V := by
  intro H locs ls hP hS hl hA hB hV
  have hj : j < cnt t := hB.head
  have ht := cnt_lt hj
  unfold k_get at hi
  split at hi <;> first | exact absurd hi (by decide) | simp only [decide_eq_true_eq, Bool.and_eq_true] at hi
  obtain ⟨⟨rfl, rfl⟩, hi⟩ := hi
  obtain ⟨q, hq, hq2⟩ := any_ex hi
  simp only [decide_eq_true_eq] at hq2
  obtain ⟨h1, rfl, h3, h4⟩ := hq2
  have hw := hC.1.2.2.2.2 _ (mem_tbg (flk_ok q hq) rfl)
  have hle := flk_b q hq
  rw [h1, h3, h4] at hw
  rw [h3] at hle
  subst hc
  obtain ⟨t48, hak, hN⟩ := obj_f t ht hle
  cases hcl : vwCl[clsOf t]? with
  | none => rw [hcl] at hN; cases hN
  | some r =>
    obtain ⟨C, T, N⟩ := r
    rw [hcl] at hN
    have hN : N = (frl t).length := Option.some.inj hN
    have hTT : TTc (clsOf t) b = T b := by
      unfold TTc
      rw [nth_get, hcl]
      rfl
    rw [hTT] at hw
    obtain ⟨q0, hq0⟩ := allP_at t48 hj
    have hcell := allC_at (cy := cy) (ad := ad) (V := V) hq0
    rw [cellE_obj hak] at hcell
    have hb : b < N := by
      have := (List.getElem?_eq_some_iff.mp (fds_at (ad := ad) hv)).1
      rw [fds_len] at this
      omega
    exact va_get (D := D) (C := C) (T := T) (N := N) hC.1.1 hC.1.2.1 hC.1.2.2.2.2 (cls_f hcl).1 hC.1.2.2.2.1 hC.2.1 hP q0 hcell hcl b hb hw (fun _ h9 => h9) (fds_at hv) hd (k H locs ls hP hS hl hA (hB.tail.cons (fldv_ok hj hle hv)) hV)
theorem s_put (G : GW cy ad A SL) (hC : CX D cy ad adV A SL xs d m p R s mid args c) (hd : decode (byt m) pc = .ok (i, n)) (hi : k_put (ow m) pc a b nx i n = true) {t j : Nat} {x : Int32} (hc : clsOf t = a) (hn : nth (frl t) b = some none) (hz : fz t b = true → x = 0 ∨ x = 1) (k : PS l D cy ad A SL xs p e R s mid args below meth c cells slots Q m nx L S (mset V.1 t j b x, V.2)) : PS l D cy ad A SL xs p e R s mid args below meth c cells slots Q m pc L (.inl x :: .inr (.inr (t, j)) :: S) V := by
  intro H locs ls hP hS hl hA hB hV
  have hj : j < cnt t := hB.tail.head
  have ht := cnt_lt hj
  unfold k_put at hi
  split at hi <;> first | exact absurd hi (by decide) | simp only [decide_eq_true_eq, Bool.and_eq_true] at hi
  obtain ⟨⟨rfl, rfl, hfin⟩, hi⟩ := hi
  obtain ⟨q, hq, hq2⟩ := any_ex hi
  simp only [decide_eq_true_eq] at hq2
  obtain ⟨h1, rfl, h3, h4⟩ := hq2
  have hw := hC.1.2.2.2.2 _ (mem_tbg (flk_ok q hq) rfl)
  have hle := flk_b q hq
  rw [h1, h3, h4] at hw
  rw [h3] at hle
  subst hc
  obtain ⟨t48, hak, hN⟩ := obj_f t ht hle
  cases hcl : vwCl[clsOf t]? with
  | none => rw [hcl] at hN; cases hN
  | some r =>
    obtain ⟨C, T, N⟩ := r
    rw [hcl] at hN
    have hN : N = (frl t).length := Option.some.inj hN
    have hTT : TTc (clsOf t) b = T b := by
      unfold TTc
      rw [nth_get, hcl]
      rfl
    have hb : b < (frl t).length := by
      rw [nth_get] at hn
      exact (List.getElem?_eq_some_iff.mp hn).1
    have hb24 : b < 24 := by
      have := frl_len t ht
      omega
    have hty := fld_f t ht hle b hb24
    rw [hn] at hty
    have hty : parseFieldDescriptor (TTc (clsOf t) b).2.2.1 = some (bif fz t b then .boolean else .int) := of_decide_eq_true hty
    rw [hTT] at hw hfin hty
    obtain ⟨q0, hq0⟩ := allP_at t48 hj
    have hcell := allC_at (cy := cy) (ad := ad) (V := V) hq0
    rw [cellE_obj hak] at hcell
    obtain ⟨hin, ⟨ty0, hty0⟩, hnm⟩ := cls_f hcl
    have hnar : narrow (bif fz t b then .boolean else .int) (.int x) = .int x ∧ fits (bif fz t b then .boolean else .int) (.int x) = true := by
      cases hf : fz t b with
      | false => exact ⟨rfl, rfl⟩
      | true =>
        rcases hz hf with rfl | rfl
        · exact ⟨rfl, rfl⟩
        · exact ⟨rfl, rfl⟩
    have hset : ∀ e : va_E, e = .inr (clsOf t, (fds ad t j V).set b (.int x)) → (allC cy ad V).set q0 (ad t j, e) = allC cy ad (mset V.1 t j b x, V.2) := fun e he =>
      allC_set (V' := (mset V.1 t j b x, V.2)) hq0 (fun t' i' h => mset_ne h) (fun _ _ _ => rfl) (by rw [he, cellE_obj hak, fds_set hn])
    refine va_put (D := D) (C := C) (T := T) (N := N) (v := .int x) hC.1.1 hC.1.2.1 hC.1.2.2.2.2 hin ty0 hty0 hnm hC.1.2.2.2.1 hC.2.1 hP (G.1 V) hS q0 hcell hcl b (by omega) hw (fun _ h9 => h9) hfin hty hnar.1 hnar.2 (by rw [fds_len]; exact hb) hd (fun H1 locs1 hP1 hD1 hS1 => ?_)
    rw [hset _ rfl] at hP1
    exact k H1 locs1 ls hP1 hS1 hl hA hB.tail.tail (hV.set t48)
theorem s_ibin (hC : CX D cy ad adV A SL xs d m p R s mid args c) (hd : decode (byt m) pc = .ok (i, n)) (hi : k_ibin pc a nx i n = true) {x y : Int32} (k : PS l D cy ad A SL xs p e R s mid args below meth c cells slots Q m nx L (.inl (ibin a x y) :: S) V) : PS l D cy ad A SL xs p e R s mid args below meth c cells slots Q m pc L (.inl y :: .inl x :: S) V := by
  intro H locs ls hP hS hl hA hB hV
  have K := k H locs ls hP hS hl hA (hB.tail.tail.cons trivial) hV
  unfold k_ibin at hi
  split at hi <;> first | exact absurd hi (by decide) | simp only [decide_eq_true_eq] at hi
  · obtain ⟨rfl, rfl, rfl⟩ := hi; exact lv_iadd hC.1.1 hC.1.2.1 hd K
  · obtain ⟨rfl, rfl, rfl⟩ := hi; exact lv_isub hC.1.1 hC.1.2.1 hd K
  · obtain ⟨rfl, rfl, rfl⟩ := hi; exact lv_imul hC.1.1 hC.1.2.1 hd K
  · obtain ⟨rfl, rfl, rfl⟩ := hi; exact lv_iand hC.1.1 hC.1.2.1 hd K
  · obtain ⟨rfl, rfl, rfl⟩ := hi; exact lv_ior hC.1.1 hC.1.2.1 hd K
  · obtain ⟨rfl, rfl, rfl⟩ := hi; exact lv_ixor hC.1.1 hC.1.2.1 hd K
  · obtain ⟨rfl, rfl, rfl⟩ := hi; exact lv_ishl hC.1.1 hC.1.2.1 hd K
  · obtain ⟨rfl, rfl, rfl⟩ := hi; exact lv_ishr hC.1.1 hC.1.2.1 hd K
  · obtain ⟨rfl, rfl, rfl⟩ := hi; exact lv_iushr hC.1.1 hC.1.2.1 hd rfl K
theorem s_lbin (hC : CX D cy ad adV A SL xs d m p R s mid args c) (hd : decode (byt m) pc = .ok (i, n)) (hi : k_lbin pc a nx i n = true) {x y : Int64} (k : PS l D cy ad A SL xs p e R s mid args below meth c cells slots Q m nx L (.inr (.inl (lbin a x y)) :: S) V) : PS l D cy ad A SL xs p e R s mid args below meth c cells slots Q m pc L (.inr (.inl y) :: .inr (.inl x) :: S) V := by
  intro H locs ls hP hS hl hA hB hV
  have K := k H locs ls hP hS hl hA (hB.tail.tail.cons trivial) hV
  unfold k_lbin at hi
  split at hi <;> first | exact absurd hi (by decide) | simp only [decide_eq_true_eq] at hi
  · obtain ⟨rfl, rfl, rfl⟩ := hi; exact lv_ladd hC.1.1 hC.1.2.1 hd K
  · obtain ⟨rfl, rfl, rfl⟩ := hi; exact lv_lmul hC.1.1 hC.1.2.1 hd K
  · obtain ⟨rfl, rfl, rfl⟩ := hi; exact lv_land hC.1.1 hC.1.2.1 hd K
  · obtain ⟨rfl, rfl, rfl⟩ := hi; exact lv_lor hC.1.1 hC.1.2.1 hd K
theorem s_unry (hC : CX D cy ad adV A SL xs d m p R s mid args c) (hd : decode (byt m) pc = .ok (i, n)) (hi : k_unry pc a nx i n = true) {v w : AV} (hv : unry a v = some w) (k : PS l D cy ad A SL xs p e R s mid args below meth c cells slots Q m nx L (w :: S) V) : PS l D cy ad A SL xs p e R s mid args below meth c cells slots Q m pc L (v :: S) V := by
  intro H locs ls hP hS hl hA hB hV
  have hw : okv w := by
    unfold unry at hv
    split at hv
    · split at hv
      · cases hv; exact trivial
      · split at hv
        · cases hv; exact trivial
        · split at hv
          · cases hv; exact trivial
          · split at hv
            · cases hv; exact trivial
            · cases hv
    · split at hv
      · cases hv; exact trivial
      · cases hv
    · cases hv
  have K := k H locs ls hP hS hl hA (hB.tail.cons hw) hV
  unfold k_unry at hi
  split at hi <;> first | exact absurd hi (by decide) | simp only [decide_eq_true_eq] at hi
  · obtain ⟨rfl, rfl, rfl⟩ := hi
    match v, hv, K with
    | .inl x, hv, K => cases hv; exact lv_ineg hC.1.1 hC.1.2.1 hd K
  · obtain ⟨rfl, rfl, rfl⟩ := hi
    match v, hv, K with
    | .inl x, hv, K => cases hv; exact lv_i2l hC.1.1 hC.1.2.1 hd rfl K
  · obtain ⟨rfl, rfl, rfl⟩ := hi
    match v, hv, K with
    | .inr (.inl x), hv, K => cases hv; exact lv_l2i hC.1.1 hC.1.2.1 hd rfl K
  · obtain ⟨rfl, rfl, rfl⟩ := hi
    match v, hv, K with
    | .inl x, hv, K => cases hv; exact lv_i2b hC.1.1 hC.1.2.1 hd rfl K
  · obtain ⟨rfl, rfl, rfl⟩ := hi
    match v, hv, K with
    | .inl x, hv, K => cases hv; exact lv_i2s hC.1.1 hC.1.2.1 hd rfl K
theorem s_goto (hC : CX D cy ad adV A SL xs d m p R s mid args c) (hd : decode (byt m) pc = .ok (i, n)) (hi : k_goto pc b i n = true) (k : PS l D cy ad A SL xs p e R s mid args below meth c cells slots Q m b (trk a L) S V) : PS l D cy ad A SL xs p e R s mid args below meth c cells slots Q m pc L S V := by
  intro H locs ls hP hS hl hA hB hV
  unfold k_goto at hi
  split at hi <;> first | exact absurd hi (by decide) | simp only [decide_eq_true_eq] at hi
  obtain ⟨rfl, h2⟩ := hi
  exact lv_goto hC.1.1 hC.1.2.1 hd h2 (k H locs ls hP hS hl.cut hA.cut hB hV)
theorem s_sto1 (hC : CX D cy ad adV A SL xs d m p R s mid args c) (hd : decode (byt m) pc = .ok (i, n)) (hi : k_sto1 pc a nx i n = true) (hn : a < nLo m) {x : Int32} (k : PS l D cy ad A SL xs p e R s mid args below meth c cells slots Q m nx (trk b (sto1 L a (.inl x))) S V) : PS l D cy ad A SL xs p e R s mid args below meth c cells slots Q m pc L (.inl x :: S) V := by
  intro H locs ls hP hS hl hA hB hV
  unfold k_sto1 at hi
  split at hi <;> first | exact absurd hi (by decide) | simp only [decide_eq_true_eq] at hi
  · obtain ⟨rfl, rfl, rfl⟩ := hi
    exact lv_istore_n hC.1.1 hC.1.2.1 hd rfl hl.has hn rfl (fun ls' h' => k H locs ls' hP hS (hl.set1 h') (hA.set1 trivial) hB.tail hV)
  · obtain ⟨rfl, rfl, rfl⟩ := hi
    exact lv_istore hC.1.1 hC.1.2.1 hd hl.has hn rfl (fun ls' h' => k H locs ls' hP hS (hl.set1 h') (hA.set1 trivial) hB.tail hV)
theorem s_stoA (hC : CX D cy ad adV A SL xs d m p R s mid args c) (hd : decode (byt m) pc = .ok (i, n)) (hi : k_stoA pc a nx i n = true) (hn : a < nLo m) {q : Nat × Nat} (k : PS l D cy ad A SL xs p e R s mid args below meth c cells slots Q m nx (trk b (sto1 L a (.inr (.inr q)))) S V) : PS l D cy ad A SL xs p e R s mid args below meth c cells slots Q m pc L (.inr (.inr q) :: S) V := by
  intro H locs ls hP hS hl hA hB hV
  unfold k_stoA at hi
  split at hi <;> first | exact absurd hi (by decide) | simp only [decide_eq_true_eq] at hi
  · obtain ⟨rfl, rfl, rfl⟩ := hi
    exact lv_astore_n hC.1.1 hC.1.2.1 hd rfl hl.has hn rfl (fun ls' h' => k H locs ls' hP hS (LR.set1 (w := .inr (.inr q)) hl h') (hA.set1 hB.head) hB.tail hV)
  · obtain ⟨rfl, rfl, rfl⟩ := hi
    exact lv_astore hC.1.1 hC.1.2.1 hd hl.has hn rfl (fun ls' h' => k H locs ls' hP hS (LR.set1 (w := .inr (.inr q)) hl h') (hA.set1 hB.head) hB.tail hV)
theorem s_sto2 (hC : CX D cy ad adV A SL xs d m p R s mid args c) (hd : decode (byt m) pc = .ok (i, n)) (hi : k_sto2 pc a nx i n = true) (hn : a + 1 < nLo m) {x : Int64} (k : PS l D cy ad A SL xs p e R s mid args below meth c cells slots Q m nx (sto2 L a (.inr (.inl x))) S V) : PS l D cy ad A SL xs p e R s mid args below meth c cells slots Q m pc L (.inr (.inl x) :: S) V := by
  intro H locs ls hP hS hl hA hB hV
  unfold k_sto2 at hi
  split at hi <;> first | exact absurd hi (by decide) | simp only [decide_eq_true_eq] at hi
  · obtain ⟨rfl, rfl, rfl⟩ := hi
    exact lv_lstore_n hC.1.1 hC.1.2.1 hd rfl hl.has hn rfl (fun ls' h' => k H locs ls' hP hS (LR.set2 (w := .inr (.inl x)) hl h') (hA.set2 trivial) hB.tail hV)
  · obtain ⟨rfl, rfl, rfl⟩ := hi
    exact lv_lstore hC.1.1 hC.1.2.1 hd hl.has hn rfl (fun ls' h' => k H locs ls' hP hS (LR.set2 (w := .inr (.inl x)) hl h') (hA.set2 trivial) hB.tail hV)
end Sound
