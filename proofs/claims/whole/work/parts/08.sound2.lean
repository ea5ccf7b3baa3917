set_option maxRecDepth 100000 in
theorem math_ok : Cond.static Lib.Math.max.name ∈ TBG ∧ Cond.static Lib.Math.min.name ∈ TBG ∧ Cond.static Lib.Math.abs.name ∈ TBG ∧ Cond.static Lib.MathLoose.max_long.x ∈ TBG ∧ Cond.static Lib.MathLoose.min_long.x ∈ TBG ∧ Cond.initialized "java/lang/Math" ∈ TBG ∧ Cond.code Lib.Math.max.name Lib.Math.max.code 2 (some .int) ∈ TBG ∧ Cond.code Lib.Math.min.name Lib.Math.min.code 2 (some .int) ∈ TBG ∧ Cond.code Lib.Math.abs.name Lib.Math.abs.code 1 (some .int) ∈ TBG ∧ Cond.code Lib.MathLoose.max_long.x Lib.MathLoose.max_long.code 4 (some .long) ∈ TBG ∧ Cond.code Lib.MathLoose.min_long.x Lib.MathLoose.min_long.code 4 (some .long) ∈ TBG :=
  ⟨mem_tbg (i := 493) (by decide +kernel) rfl, mem_tbg (i := 785) (by decide +kernel) rfl, mem_tbg (i := 482) (by decide +kernel) rfl, mem_tbg (i := 1460) (by decide +kernel) rfl, mem_tbg (i := 1457) (by decide +kernel) rfl, mem_tbg (i := 111) (by decide +kernel) rfl, mem_tbg (i := 494) rfl rfl, mem_tbg (i := 786) rfl rfl, mem_tbg (i := 483) rfl rfl, mem_tbg (i := 1461) rfl rfl, mem_tbg (i := 1458) rfl rfl⟩
section Sound
variable {l : Launch} {D : va_G} {cy : Nat → ClassId} {ad : Nat → Nat → Nat} {adV : Nat → Nat} {A : Nat → Prop} {SL : Nat} {xs : Nat → Int32}
variable {p : Program} {e : Env} {R : Room} {s : State} {mid : MethodId} {args : Array Value} {below : List Frame} {meth : Method} {c : Code} {cells slots : Nat} {Q : State → Prop}
variable {d m pc : Nat} {L : AL} {S : AS} {V : Mem} {a b nx n : Nat} {i : Instr}
theorem nfw : nativeFrameWords "java/lang/System" "arraycopy" 5 ≤ 300 := by decide +kernel
theorem i32_nlt {x y : Int32} : ¬ x < y ↔ y ≤ x := Int32.not_lt
theorem i32_nle {x y : Int32} : ¬ x ≤ y ↔ y < x := Int32.not_le
theorem icmp_inv (h : k_icmp pc a b nx i n = true) : ∃ (cc : ClassFile.Cond) (off : Int), i = .if_icmp cc off ∧ n = 3 ∧ nx = pc + 3 ∧ (pc : Int) + off = (b : Int) ∧ cnd cc = a := by
  unfold k_icmp at h
  split at h
  · exact ⟨_, _, rfl, of_decide_eq_true h⟩
  · cases h
theorem s_icmp (hC : CX D cy ad adV A SL xs d m p R s mid args c) (hd : decode (byt m) pc = .ok (i, n)) (hi : k_icmp pc a b nx i n = true) {x y : Int32} (k : o_icmp (fun pc' L' S' V' => PS l D cy ad A SL xs p e R s mid args below meth c cells slots Q m pc' L' S' V') False a b nx L (.inl y :: .inl x :: S) V) : PS l D cy ad A SL xs p e R s mid args below meth c cells slots Q m pc L (.inl y :: .inl x :: S) V := by
  intro H locs ls hP hS hl hA hB hV
  have hB2 := hB.tail.tail
  have U : ∀ {q : Nat}, PS l D cy ad A SL xs p e R s mid args below meth c cells slots Q m q L S V → W p l e R s mid args below meth c H locs cells slots Q (F0 mid q ls (S.map (rv ad))) := fun h => h H locs ls hP hS hl hA hB2 hV
  obtain ⟨cc, off, rfl, rfl, rfl, h2, rfl⟩ := icmp_inv hi
  unfold o_icmp at k
  cases cc with
  | eq =>
    have k : (if x = y then PS l D cy ad A SL xs p e R s mid args below meth c cells slots Q m b L S V else PS l D cy ad A SL xs p e R s mid args below meth c cells slots Q m (pc + 3) L S V) := k
    exact lv_icmp_eq hC.1.1 hC.1.2.1 hd h2 (fun h => U (by rw [if_pos h] at k; exact k)) (fun h => U (by rw [if_neg h] at k; exact k))
  | ne =>
    have k : (if x = y then PS l D cy ad A SL xs p e R s mid args below meth c cells slots Q m (pc + 3) L S V else PS l D cy ad A SL xs p e R s mid args below meth c cells slots Q m b L S V) := k
    exact lv_icmp_ne hC.1.1 hC.1.2.1 hd h2 (fun h => U (by rw [if_neg h] at k; exact k)) (fun h => U (by rw [if_pos h] at k; exact k))
  | lt =>
    have k : (if x < y then PS l D cy ad A SL xs p e R s mid args below meth c cells slots Q m b L S V else PS l D cy ad A SL xs p e R s mid args below meth c cells slots Q m (pc + 3) L S V) := k
    exact lv_icmp_lt hC.1.1 hC.1.2.1 hd h2 (fun h => U (by rw [if_pos h] at k; exact k)) (fun h => U (by rw [if_neg h] at k; exact k))
  | ge =>
    have k : (if x < y then PS l D cy ad A SL xs p e R s mid args below meth c cells slots Q m (pc + 3) L S V else PS l D cy ad A SL xs p e R s mid args below meth c cells slots Q m b L S V) := k
    exact lv_icmp_ge hC.1.1 hC.1.2.1 hd h2 (fun h => U (by rw [if_neg (i32_nlt.mpr h)] at k; exact k)) (fun h => U (by rw [if_pos (i32_nle.mp h)] at k; exact k))
  | gt =>
    have k : (if y < x then PS l D cy ad A SL xs p e R s mid args below meth c cells slots Q m b L S V else PS l D cy ad A SL xs p e R s mid args below meth c cells slots Q m (pc + 3) L S V) := k
    exact lv_icmp_gt hC.1.1 hC.1.2.1 hd h2 (fun h => U (by rw [if_pos h] at k; exact k)) (fun h => U (by rw [if_neg h] at k; exact k))
  | le =>
    have k : (if y < x then PS l D cy ad A SL xs p e R s mid args below meth c cells slots Q m (pc + 3) L S V else PS l D cy ad A SL xs p e R s mid args below meth c cells slots Q m b L S V) := k
    exact lv_icmp_le hC.1.1 hC.1.2.1 hd h2 (fun h => U (by rw [if_neg (i32_nlt.mpr h)] at k; exact k)) (fun h => U (by rw [if_pos (i32_nle.mp h)] at k; exact k))
theorem ifz_inv (h : k_ifz pc a b nx i n = true) : ∃ (cc : ClassFile.Cond) (off : Int), i = .ifCond cc off ∧ n = 3 ∧ nx = pc + 3 ∧ (pc : Int) + off = (b : Int) ∧ cnd cc = a := by
  unfold k_ifz at h
  split at h
  · exact ⟨_, _, rfl, of_decide_eq_true h⟩
  · cases h
theorem s_ifz (hC : CX D cy ad adV A SL xs d m p R s mid args c) (hd : decode (byt m) pc = .ok (i, n)) (hi : k_ifz pc a b nx i n = true) {x : Int32} (k : o_ifz (fun pc' L' S' V' => PS l D cy ad A SL xs p e R s mid args below meth c cells slots Q m pc' L' S' V') False a b nx L (.inl x :: S) V) : PS l D cy ad A SL xs p e R s mid args below meth c cells slots Q m pc L (.inl x :: S) V := by
  intro H locs ls hP hS hl hA hB hV
  have hB2 := hB.tail
  have U : ∀ {q : Nat}, PS l D cy ad A SL xs p e R s mid args below meth c cells slots Q m q L S V → W p l e R s mid args below meth c H locs cells slots Q (F0 mid q ls (S.map (rv ad))) := fun h => h H locs ls hP hS hl hA hB2 hV
  obtain ⟨cc, off, rfl, rfl, rfl, h2, rfl⟩ := ifz_inv hi
  unfold o_ifz at k
  cases cc with
  | eq =>
    have k : (if x = 0 then PS l D cy ad A SL xs p e R s mid args below meth c cells slots Q m b L S V else PS l D cy ad A SL xs p e R s mid args below meth c cells slots Q m (pc + 3) L S V) := k
    exact lv_if_eq hC.1.1 hC.1.2.1 hd h2 (fun h => U (by rw [if_pos h] at k; exact k)) (fun h => U (by rw [if_neg h] at k; exact k))
  | ne =>
    have k : (if x = 0 then PS l D cy ad A SL xs p e R s mid args below meth c cells slots Q m (pc + 3) L S V else PS l D cy ad A SL xs p e R s mid args below meth c cells slots Q m b L S V) := k
    exact lv_if_ne hC.1.1 hC.1.2.1 hd h2 (fun h => U (by rw [if_neg h] at k; exact k)) (fun h => U (by rw [if_pos h] at k; exact k))
  | lt =>
    have k : (if x < 0 then PS l D cy ad A SL xs p e R s mid args below meth c cells slots Q m b L S V else PS l D cy ad A SL xs p e R s mid args below meth c cells slots Q m (pc + 3) L S V) := k
    exact lv_if_lt hC.1.1 hC.1.2.1 hd h2 (fun h => U (by rw [if_pos h] at k; exact k)) (fun h => U (by rw [if_neg h] at k; exact k))
  | ge =>
    have k : (if x < 0 then PS l D cy ad A SL xs p e R s mid args below meth c cells slots Q m (pc + 3) L S V else PS l D cy ad A SL xs p e R s mid args below meth c cells slots Q m b L S V) := k
    exact lv_if_ge hC.1.1 hC.1.2.1 hd h2 (fun h => U (by rw [if_neg (i32_nlt.mpr h)] at k; exact k)) (fun h => U (by rw [if_pos (i32_nle.mp h)] at k; exact k))
  | gt =>
    have k : (if 0 < x then PS l D cy ad A SL xs p e R s mid args below meth c cells slots Q m b L S V else PS l D cy ad A SL xs p e R s mid args below meth c cells slots Q m (pc + 3) L S V) := k
    exact lv_if_gt hC.1.1 hC.1.2.1 hd h2 (fun h => U (by rw [if_pos h] at k; exact k)) (fun h => U (by rw [if_neg h] at k; exact k))
  | le =>
    have k : (if 0 < x then PS l D cy ad A SL xs p e R s mid args below meth c cells slots Q m (pc + 3) L S V else PS l D cy ad A SL xs p e R s mid args below meth c cells slots Q m b L S V) := k
    exact lv_if_le hC.1.1 hC.1.2.1 hd h2 (fun h => U (by rw [if_neg (i32_nlt.mpr h)] at k; exact k)) (fun h => U (by rw [if_pos (i32_nle.mp h)] at k; exact k))
theorem s_xald (hC : CX D cy ad adV A SL xs d m p R s mid args c) (hd : decode (byt m) pc = .ok (i, n)) (hi : k_xald pc a nx i n = true) {t j : Nat} {x : Int32} (hk : ak t = a) (hin : ¬ (x < 0 ∨ alen t ≤ x.toNatClampNeg)) (k : PS l D cy ad A SL xs p e R s mid args below meth c cells slots Q m nx L (.inl (V.1 t j x.toNatClampNeg) :: S) V) : PS l D cy ad A SL xs p e R s mid args below meth c cells slots Q m pc L (.inl x :: .inr (.inr (t, j)) :: S) V := by
  intro H locs ls hP hS hl hA hB hV
  have hj : j < cnt t := hB.tail.head
  have K := k H locs ls hP hS hl hA (hB.tail.tail.cons trivial) hV
  have ht := cnt_lt hj
  unfold k_xald at hi
  split at hi <;> first | exact absurd hi (by decide) | simp only [decide_eq_true_eq] at hi
  · obtain ⟨rfl, rfl, rfl⟩ := hi
    obtain ⟨q0, hq0⟩ := allP_at (arr_f t ht (by omega)) hj
    have hcell := allC_at (cy := cy) (ad := ad) (V := V) hq0
    rw [cellE_num (Or.inl hk), hk] at hcell
    exact va_iald hC.1.1 hC.1.2.1 hC.2.1 hP q0 0 hcell rfl hin hd K
  · obtain ⟨rfl, rfl, rfl⟩ := hi
    obtain ⟨q0, hq0⟩ := allP_at (arr_f t ht (by omega)) hj
    have hcell := allC_at (cy := cy) (ad := ad) (V := V) hq0
    rw [cellE_num (Or.inr (Or.inl hk)), hk] at hcell
    exact va_zald hC.1.1 hC.1.2.1 hC.2.1 hP q0 2 hcell rfl hin hd K
  · obtain ⟨rfl, rfl, rfl⟩ := hi
    obtain ⟨q0, hq0⟩ := allP_at (arr_f t ht (by omega)) hj
    have hcell := allC_at (cy := cy) (ad := ad) (V := V) hq0
    rw [cellE_num (Or.inr (Or.inr hk)), hk] at hcell
    exact va_cald hC.1.1 hC.1.2.1 hC.2.1 hP q0 3 hcell rfl hin hd K
theorem nI_lt_in {x : Int32} (hs : SL < 2 ^ 31) (h : ¬ (x < 0 ∨ ¬ x < nI SL)) : vp_in x SL := by
  have h1 : ¬ x < 0 := fun q => h (Or.inl q)
  have h2 : x < nI SL := Classical.not_not.mp fun q => h (Or.inr q)
  rw [vp_in_iff]
  rw [Int32.lt_iff_toInt_lt, nI_toInt hs] at h2
  rw [Int32.lt_iff_toInt_lt, Int32.toInt_zero] at h1
  omega
theorem s_xscr (G : GW cy ad A SL) (hC : CX D cy ad adV A SL xs d m p R s mid args c) (hd : decode (byt m) pc = .ok (i, n)) (hi : k_xald pc 1 nx i n = true) {j : Nat} {x : Int32} (hin : ¬ (x < 0 ∨ ¬ x < V.1 51 0 0)) (k : PS l D cy ad A SL xs p e R s mid args below meth c cells slots Q m nx L (.inl (V.1 50 0 x.toNatClampNeg) :: S) V) : PS l D cy ad A SL xs p e R s mid args below meth c cells slots Q m pc L (.inl x :: .inr (.inr (50, j)) :: S) V := by
  intro H locs ls hP hS hl hA hB hV
  have hj : j < 1 := hB.tail.head
  have hj : j = 0 := by omega
  subst hj
  have K := k H locs ls hP hS hl hA (hB.tail.tail.cons trivial) hV
  rw [hV.1] at K
  rw [hV.2] at hin
  unfold k_xald at hi
  split at hi <;> first | exact absurd hi (by decide) | simp only [decide_eq_true_eq] at hi
  · obtain ⟨rfl, rfl, -⟩ := hi
    exact va_sld hC.1.1 hC.1.2.1 hC.2.2.2.2.1 hC.2.2.2.2.2 G.2.1 hS (nI_lt_in G.2.2 hin) hd K
  · exact absurd hi.2.2 (by decide)
  · exact absurd hi.2.2 (by decide)
theorem s_alen (hC : CX D cy ad adV A SL xs d m p R s mid args c) (hd : decode (byt m) pc = .ok (i, n)) (hi : k_alen pc nx i n = true) {t j : Nat} (hk : ak t = 1 ∨ ak t = 2) (k : PS l D cy ad A SL xs p e R s mid args below meth c cells slots Q m nx L (.inl (nI (alen t)) :: S) V) : PS l D cy ad A SL xs p e R s mid args below meth c cells slots Q m pc L (.inr (.inr (t, j)) :: S) V := by
  intro H locs ls hP hS hl hA hB hV
  have hj : j < cnt t := hB.head
  have K := k H locs ls hP hS hl hA (hB.tail.cons trivial) hV
  have ht := cnt_lt hj
  unfold k_alen at hi
  split at hi <;> first | exact absurd hi (by decide) | simp only [decide_eq_true_eq] at hi
  obtain ⟨rfl, rfl⟩ := hi
  obtain ⟨q0, hq0⟩ := allP_at (arr_f t ht (by omega)) hj
  have hcell := allC_at (cy := cy) (ad := ad) (V := V) hq0
  rcases hk with hk | hk
  · rw [cellE_num (Or.inl hk), hk] at hcell
    exact va_alen hC.1.1 hC.1.2.1 hC.2.1 hP q0 0 hcell (ty := .int) rfl rfl hd K
  · rw [cellE_lng hk] at hcell
    exact va_alen hC.1.1 hC.1.2.1 hC.2.1 hP q0 1 hcell (ty := .long) rfl rfl hd K
theorem s_alens (G : GW cy ad A SL) (hC : CX D cy ad adV A SL xs d m p R s mid args c) (hd : decode (byt m) pc = .ok (i, n)) (hi : k_alen pc nx i n = true) {j : Nat} (k : PS l D cy ad A SL xs p e R s mid args below meth c cells slots Q m nx L (.inl (V.1 51 0 0) :: S) V) : PS l D cy ad A SL xs p e R s mid args below meth c cells slots Q m pc L (.inr (.inr (50, j)) :: S) V := by
  intro H locs ls hP hS hl hA hB hV
  have hj : j < 1 := hB.head
  have hj : j = 0 := by omega
  subst hj
  have K := k H locs ls hP hS hl hA (hB.tail.cons trivial) hV
  rw [hV.2] at K
  unfold k_alen at hi
  split at hi <;> first | exact absurd hi (by decide) | simp only [decide_eq_true_eq] at hi
  obtain ⟨rfl, rfl⟩ := hi
  exact va_slen hC.1.1 hC.1.2.1 hC.2.2.2.2.1 hC.2.2.2.2.2 G.2.1 hS hd K
theorem upd_eq (f : Nat → Int32) (k : Nat) (x : Int32) : upd f k x = fun j => if j = k then x else f j := by
  funext j
  by_cases h : j = k
  · subst h; rw [if_pos rfl]; exact pk_us
  · rw [if_neg h]; exact pk_un h
theorem updL_eq (f : Nat → Int64) (k : Nat) (x : Int64) : vp_updL f k x = fun j => if j = k then x else f j := rfl
theorem nar_z {x : Int32} (h : x = 0 ∨ x = 1) : vp_nar .boolean x = x := by
  rcases h with rfl | rfl <;> rfl
theorem s_iast (G : GW cy ad A SL) (hC : CX D cy ad adV A SL xs d m p R s mid args c) (hd : decode (byt m) pc = .ok (i, n)) (hi : k_iast pc a nx i n = true) {t j : Nat} {x y : Int32} (hk : ak t = a) (hin : ¬ (x < 0 ∨ alen t ≤ x.toNatClampNeg)) (hz : a = 3 → y = 0 ∨ y = 1) (k : PS l D cy ad A SL xs p e R s mid args below meth c cells slots Q m nx L S (mset V.1 t j x.toNatClampNeg y, V.2)) : PS l D cy ad A SL xs p e R s mid args below meth c cells slots Q m pc L (.inl y :: .inl x :: .inr (.inr (t, j)) :: S) V := by
  intro H locs ls hP hS hl hA hB hV
  have hj : j < cnt t := hB.tail.tail.head
  have ht := cnt_lt hj
  unfold k_iast at hi
  split at hi <;> first | exact absurd hi (by decide) | simp only [decide_eq_true_eq] at hi
  · obtain ⟨rfl, rfl, rfl⟩ := hi
    have h48 := arr_f t ht (by omega)
    obtain ⟨q0, hq0⟩ := allP_at h48 hj
    have hcell := allC_at (cy := cy) (ad := ad) (V := V) hq0
    rw [cellE_num (Or.inl hk), hk] at hcell
    refine va_iast hC.1.1 hC.1.2.1 hC.2.1 hP (G.1 V) hS q0 0 hcell rfl hin hd (fun H1 locs1 hP1 hD1 hS1 => ?_)
    rw [allC_set (cy := cy) (ad := ad) (V := V) (V' := (mset V.1 t j x.toNatClampNeg y, V.2)) hq0 (fun t' i' h => mset_ne h) (fun _ _ _ => rfl) (by rw [cellE_num (Or.inl hk), hk, upd_eq]; show _ = Sum.inl (cy 1, alen t, Sum.inl (mset V.1 t j x.toNatClampNeg y t j)); rw [mset_at])] at hP1
    exact k H1 locs1 ls hP1 hS1 hl hA hB.tail.tail.tail (hV.set h48)
  · obtain ⟨rfl, rfl, rfl⟩ := hi
    have h48 := arr_f t ht (by omega)
    obtain ⟨q0, hq0⟩ := allP_at h48 hj
    have hcell := allC_at (cy := cy) (ad := ad) (V := V) hq0
    rw [cellE_num (Or.inr (Or.inl hk)), hk] at hcell
    refine va_zast hC.1.1 hC.1.2.1 hC.2.1 hP (G.1 V) hS q0 2 hcell rfl hin hd (fun H1 locs1 hP1 hD1 hS1 => ?_)
    rw [allC_set (cy := cy) (ad := ad) (V := V) (V' := (mset V.1 t j x.toNatClampNeg y, V.2)) hq0 (fun t' i' h => mset_ne h) (fun _ _ _ => rfl) (by rw [cellE_num (Or.inr (Or.inl hk)), hk, upd_eq, nar_z (hz rfl)]; show _ = Sum.inl (cy 3, alen t, Sum.inl (mset V.1 t j x.toNatClampNeg y t j)); rw [mset_at])] at hP1
    exact k H1 locs1 ls hP1 hS1 hl hA hB.tail.tail.tail (hV.set h48)
theorem s_lald (hC : CX D cy ad adV A SL xs d m p R s mid args c) (hd : decode (byt m) pc = .ok (i, n)) (hi : k_lald pc nx i n = true) {t j : Nat} {x : Int32} (hk : ak t = 2) (hin : ¬ (x < 0 ∨ alen t ≤ x.toNatClampNeg)) (k : PS l D cy ad A SL xs p e R s mid args below meth c cells slots Q m nx L (.inr (.inl (V.2 t j x.toNatClampNeg)) :: S) V) : PS l D cy ad A SL xs p e R s mid args below meth c cells slots Q m pc L (.inl x :: .inr (.inr (t, j)) :: S) V := by
  intro H locs ls hP hS hl hA hB hV
  have hj : j < cnt t := hB.tail.head
  have K := k H locs ls hP hS hl hA (hB.tail.tail.cons trivial) hV
  have ht := cnt_lt hj
  unfold k_lald at hi
  split at hi <;> first | exact absurd hi (by decide) | simp only [decide_eq_true_eq] at hi
  obtain ⟨rfl, rfl⟩ := hi
  obtain ⟨q0, hq0⟩ := allP_at (arr_f t ht (by omega)) hj
  have hcell := allC_at (cy := cy) (ad := ad) (V := V) hq0
  rw [cellE_lng hk] at hcell
  exact va_lald hC.1.1 hC.1.2.1 hC.2.1 hP q0 1 hcell rfl hin hd K
theorem s_last (G : GW cy ad A SL) (hC : CX D cy ad adV A SL xs d m p R s mid args c) (hd : decode (byt m) pc = .ok (i, n)) (hi : k_last pc nx i n = true) {t j : Nat} {x : Int32} {y : Int64} (hk : ak t = 2) (hin : ¬ (x < 0 ∨ alen t ≤ x.toNatClampNeg)) (k : PS l D cy ad A SL xs p e R s mid args below meth c cells slots Q m nx L S (V.1, mset V.2 t j x.toNatClampNeg y)) : PS l D cy ad A SL xs p e R s mid args below meth c cells slots Q m pc L (.inr (.inl y) :: .inl x :: .inr (.inr (t, j)) :: S) V := by
  intro H locs ls hP hS hl hA hB hV
  have hj : j < cnt t := hB.tail.tail.head
  have ht := cnt_lt hj
  unfold k_last at hi
  split at hi <;> first | exact absurd hi (by decide) | simp only [decide_eq_true_eq] at hi
  obtain ⟨rfl, rfl⟩ := hi
  have h48 := arr_f t ht (by omega)
  obtain ⟨q0, hq0⟩ := allP_at h48 hj
  have hcell := allC_at (cy := cy) (ad := ad) (V := V) hq0
  rw [cellE_lng hk] at hcell
  refine va_last hC.1.1 hC.1.2.1 hC.2.1 hP (G.1 V) hS q0 1 hcell rfl hin hd (fun H1 locs1 hP1 hD1 hS1 => ?_)
  rw [allC_set (cy := cy) (ad := ad) (V := V) (V' := (V.1, mset V.2 t j x.toNatClampNeg y)) hq0 (fun _ _ _ => rfl) (fun t' i' h => mset_ne h) (by rw [cellE_lng hk, updL_eq]; show _ = Sum.inl (cy 2, alen t, Sum.inr (Sum.inl (mset V.2 t j x.toNatClampNeg y t j))); rw [mset_at])] at hP1
  exact k H1 locs1 ls hP1 hS1 hl hA hB.tail.tail.tail hV
theorem s_aald4 (hC : CX D cy ad adV A SL xs d m p R s mid args c) (hd : decode (byt m) pc = .ok (i, n)) (hi : k_aald pc nx i n = true) {j : Nat} {x : Int32} (hin : ¬ (x < 0 ∨ 6 ≤ x.toNatClampNeg)) (k : PS l D cy ad A SL xs p e R s mid args below meth c cells slots Q m nx L (.inr (.inr (5, x.toNatClampNeg + 6 * j)) :: S) V) : PS l D cy ad A SL xs p e R s mid args below meth c cells slots Q m pc L (.inl x :: .inr (.inr (4, j)) :: S) V := by
  intro H locs ls hP hS hl hA hB hV
  have hj : j < cnt 4 := hB.tail.head
  have hj3 : j < 3 := hj
  have hx : x.toNatClampNeg < 6 := Nat.not_le.mp fun q => hin (Or.inr q)
  have hok : x.toNatClampNeg + 6 * j < cnt 5 := by show _ < 19; omega
  have K := k H locs ls hP hS hl hA (hB.tail.tail.cons hok) hV
  unfold k_aald at hi
  split at hi <;> first | exact absurd hi (by decide) | simp only [decide_eq_true_eq] at hi
  obtain ⟨rfl, rfl⟩ := hi
  obtain ⟨q0, hq0⟩ := allP_at (t := 4) (by decide) hj
  have hcell := allC_at (cy := cy) (ad := ad) (V := V) hq0
  have e : cellE cy ad 4 j V = .inl (cy 5, 6, .inr (.inr (.inr (.inr (fun q => some (ad 5 (q + 6 * j))))))) := rfl
  rw [e] at hcell
  exact va_aldq hC.1.1 hC.1.2.1 hC.2.1 hP q0 4 hcell (C := RX2) rfl hin hd K
theorem s_aald22 (hC : CX D cy ad adV A SL xs d m p R s mid args c) (hd : decode (byt m) pc = .ok (i, n)) (hi : k_aald pc nx i n = true) {j : Nat} {x : Int32} (hin : ¬ (x < 0 ∨ 8 ≤ x.toNatClampNeg)) (k : PS l D cy ad A SL xs p e R s mid args below meth c cells slots Q m nx L (.inr (.inr (23, x.toNatClampNeg)) :: S) V) : PS l D cy ad A SL xs p e R s mid args below meth c cells slots Q m pc L (.inl x :: .inr (.inr (22, j)) :: S) V := by
  intro H locs ls hP hS hl hA hB hV
  have hj : j < cnt 22 := hB.tail.head
  have hx : x.toNatClampNeg < 8 := Nat.not_le.mp fun q => hin (Or.inr q)
  have K := k H locs ls hP hS hl hA (hB.tail.tail.cons hx) hV
  unfold k_aald at hi
  split at hi <;> first | exact absurd hi (by decide) | simp only [decide_eq_true_eq] at hi
  obtain ⟨rfl, rfl⟩ := hi
  obtain ⟨q0, hq0⟩ := allP_at (t := 22) (by decide) hj
  have hcell := allC_at (cy := cy) (ad := ad) (V := V) hq0
  have e : cellE cy ad 22 j V = .inl (cy 6, 8, .inr (.inr (.inr (.inr (fun q => some (ad 23 q)))))) := rfl
  rw [e] at hcell
  exact va_aldq hC.1.1 hC.1.2.1 hC.2.1 hP q0 5 hcell (C := RX4) rfl hin hd K
theorem s_lcmp (hC : CX D cy ad adV A SL xs d m p R s mid args c) (hd : decode (byt m) pc = .ok (i, n)) (hi : k_lcmp pc nx i n = true) {x y : Int64} (k : PS l D cy ad A SL xs p e R s mid args below meth c cells slots Q m nx L (.inl (lg_cmp x y) :: S) V) : PS l D cy ad A SL xs p e R s mid args below meth c cells slots Q m pc L (.inr (.inl y) :: .inr (.inl x) :: S) V := by
  intro H locs ls hP hS hl hA hB hV
  unfold k_lcmp at hi
  split at hi <;> first | exact absurd hi (by decide) | simp only [decide_eq_true_eq] at hi
  obtain ⟨rfl, rfl⟩ := hi
  exact W.lcmp hC.1.1 hC.1.2.1 hd (k H locs ls hP hS hl hA (hB.tail.tail.cons trivial) hV)
theorem s_ldiv (hC : CX D cy ad adV A SL xs d m p R s mid args c) (hd : decode (byt m) pc = .ok (i, n)) (hi : k_ldiv pc nx i n = true) {x y : Int64} (hy : ¬ y = 0) (k : PS l D cy ad A SL xs p e R s mid args below meth c cells slots Q m nx L (.inr (.inl (x / y)) :: S) V) : PS l D cy ad A SL xs p e R s mid args below meth c cells slots Q m pc L (.inr (.inl y) :: .inr (.inl x) :: S) V := by
  intro H locs ls hP hS hl hA hB hV
  unfold k_ldiv at hi
  split at hi <;> first | exact absurd hi (by decide) | simp only [decide_eq_true_eq] at hi
  obtain ⟨rfl, rfl⟩ := hi
  exact lv_ldiv hC.1.1 hC.1.2.1 hd hy (k H locs ls hP hS hl hA (hB.tail.tail.cons trivial) hV)
theorem s_idiv (hC : CX D cy ad adV A SL xs d m p R s mid args c) (hd : decode (byt m) pc = .ok (i, n)) (hi : k_idiv pc a nx i n = true) {x y : Int32} (hy : ¬ y = 0) (k : PS l D cy ad A SL xs p e R s mid args below meth c cells slots Q m nx L (.inl (if a = 0 then x / y else x - x / y * y) :: S) V) : PS l D cy ad A SL xs p e R s mid args below meth c cells slots Q m pc L (.inl y :: .inl x :: S) V := by
  intro H locs ls hP hS hl hA hB hV
  have K := k H locs ls hP hS hl hA (hB.tail.tail.cons trivial) hV
  unfold k_idiv at hi
  split at hi <;> first | exact absurd hi (by decide) | simp only [decide_eq_true_eq] at hi
  · obtain ⟨rfl, rfl, rfl⟩ := hi; exact lv_idiv hC.1.1 hC.1.2.1 hd hy K
  · obtain ⟨rfl, rfl, rfl⟩ := hi; exact lv_irem hC.1.1 hC.1.2.1 hd hy K
theorem s_lshl (hC : CX D cy ad adV A SL xs d m p R s mid args c) (hd : decode (byt m) pc = .ok (i, n)) (hi : k_lshl pc nx i n = true) {x : Int64} {y : Int32} (k : PS l D cy ad A SL xs p e R s mid args below meth c cells slots Q m nx L (.inr (.inl (x <<< (y.toInt64 &&& 63))) :: S) V) : PS l D cy ad A SL xs p e R s mid args below meth c cells slots Q m pc L (.inl y :: .inr (.inl x) :: S) V := by
  intro H locs ls hP hS hl hA hB hV
  unfold k_lshl at hi
  split at hi <;> first | exact absurd hi (by decide) | simp only [decide_eq_true_eq] at hi
  obtain ⟨rfl, rfl⟩ := hi
  exact lv_lshl hC.1.1 hC.1.2.1 hd rfl (k H locs ls hP hS hl hA (hB.tail.tail.cons trivial) hV)
theorem s_dup (hC : CX D cy ad adV A SL xs d m p R s mid args c) (hd : decode (byt m) pc = .ok (i, n)) (hi : k_dup pc nx i n = true) {v : AV} (hv : ctg v = 1) (k : PS l D cy ad A SL xs p e R s mid args below meth c cells slots Q m nx L (v :: v :: S) V) : PS l D cy ad A SL xs p e R s mid args below meth c cells slots Q m pc L (v :: S) V := by
  intro H locs ls hP hS hl hA hB hV
  unfold k_dup at hi
  split at hi <;> first | exact absurd hi (by decide) | simp only [decide_eq_true_eq] at hi
  obtain ⟨rfl, rfl⟩ := hi
  exact lv_dup hC.1.1 hC.1.2.1 hd (by rw [rv_cat]; exact hv) (k H locs ls hP hS hl hA (hB.cons hB.head) hV)
theorem s_pop (hC : CX D cy ad adV A SL xs d m p R s mid args c) (hd : decode (byt m) pc = .ok (i, n)) (hi : k_pop pc nx i n = true) {v : AV} (hv : ctg v = 1) (k : PS l D cy ad A SL xs p e R s mid args below meth c cells slots Q m nx L S V) : PS l D cy ad A SL xs p e R s mid args below meth c cells slots Q m pc L (v :: S) V := by
  intro H locs ls hP hS hl hA hB hV
  unfold k_pop at hi
  split at hi <;> first | exact absurd hi (by decide) | simp only [decide_eq_true_eq] at hi
  obtain ⟨rfl, rfl⟩ := hi
  exact lv_pop hC.1.1 hC.1.2.1 hd (by rw [rv_cat]; exact hv) (k H locs ls hP hS hl hA hB.tail hV)
theorem s_dup2 (hC : CX D cy ad adV A SL xs d m p R s mid args c) (hd : decode (byt m) pc = .ok (i, n)) (hi : k_dup2 pc nx i n = true) {v w : AV} (hv : ctg v = 1) (hw : ctg w = 1) (k : PS l D cy ad A SL xs p e R s mid args below meth c cells slots Q m nx L (v :: w :: v :: w :: S) V) : PS l D cy ad A SL xs p e R s mid args below meth c cells slots Q m pc L (v :: w :: S) V := by
  intro H locs ls hP hS hl hA hB hV
  unfold k_dup2 at hi
  split at hi <;> first | exact absurd hi (by decide) | simp only [decide_eq_true_eq] at hi
  obtain ⟨rfl, rfl⟩ := hi
  exact lv_dup2_11 hC.1.1 hC.1.2.1 hd (by rw [rv_cat]; exact hv) (by rw [rv_cat]; exact hw) (k H locs ls hP hS hl hA ((hB.cons hB.tail.head).cons hB.head) hV)
theorem s_iinc (hC : CX D cy ad adV A SL xs d m p R s mid args c) (hd : decode (byt m) pc = .ok (i, n)) {v : AV} (hi : k_iinc pc a v nx i n = true) {x z : Int32} (hx : lget L a = some (.inl x)) (hv : v = .inl z) (k : PS l D cy ad A SL xs p e R s mid args below meth c cells slots Q m nx (sto1 L a (.inl (x + z))) S V) : PS l D cy ad A SL xs p e R s mid args below meth c cells slots Q m pc L S V := by
  intro H locs ls hP hS hl hA hB hV
  unfold k_iinc at hi
  split at hi <;> first | exact absurd hi (by decide) | simp only [decide_eq_true_eq] at hi
  obtain ⟨rfl, rfl, rfl, h4⟩ := hi
  have hz : z = Int32.ofInt _ := Sum.inl.inj (hv.symm.trans h4)
  have hm := prL_in ad L 0 _ _ hx
  rw [Nat.zero_add] at hm
  obtain ⟨k0, hk0⟩ := List.getElem?_of_mem hm
  have hn := lget_lt hx
  rw [hl.2.2.1] at hn
  refine lv_iinc hC.1.1 hC.1.2.1 hd hl.has hk0 (v := x + z) (by rw [hz]) hn rfl (fun ls' h' => ?_)
  exact k H locs ls' hP hS (LR.set1 (b := 0) (w := .inl (x + z)) hl h') (okA.set1 (b := 0) hA trivial) hB hV
theorem s_mat2 (hC : CX D cy ad adV A SL xs d m p R s mid args c) (hd : decode (byt m) pc = .ok (i, n)) (hi : k_math (ow m) pc (if a = 0 then 1 else 2) nx i n = true) {x y : Int32} (hcs : csum S ≤ 8) (hcl : cells ≤ R.cells) (hsl : slots ≤ R.slots) (k : PS l D cy ad A SL xs p e R s mid args below meth c cells slots Q m nx L (.inl (if a = 0 then imax x y else imin x y) :: S) V) : PS l D cy ad A SL xs p e R s mid args below meth c cells slots Q m pc L (.inl y :: .inl x :: S) V := by
  intro H locs ls hP hS hl hA hB hV
  have K := k H locs ls hP hS hl hA (hB.tail.tail.cons trivial) hV
  have hsum := csum_real ad S
  have hfr := hC.2.2.1
  unfold k_math at hi
  split at hi <;> first | exact absurd hi (by decide) | simp only [decide_eq_true_eq, Bool.and_eq_true] at hi
  obtain ⟨⟨rfl, rfl⟩, hi⟩ := hi
  obtain ⟨q, hq, hq2⟩ := any_ex hi
  simp only [decide_eq_true_eq] at hq2
  obtain ⟨h1, rfl, h3⟩ := hq2
  have hw := hC.1.2.2.2.2 _ (mem_tbg (jlk_ok q hq) rfl)
  rw [h1, h3] at hw
  by_cases ha : a = 0
  · subst ha
    exact va_mmax hC.1.1 hC.1.2.1 (hC.1.2.2.1.trans hl.1.symm) hC.1.2.2.2.1 hw (hC.1.2.2.2.2 _ math_ok.1) (hC.1.2.2.2.2 _ math_ok.2.2.2.2.2.1) (hC.1.2.2.2.2 _ math_ok.2.2.2.2.2.2.1) (by omega) (by rw [hsum]; omega) hcl hsl hd K
  · rw [if_neg ha] at K hw
    exact va_mmin hC.1.1 hC.1.2.1 (hC.1.2.2.1.trans hl.1.symm) hC.1.2.2.2.1 hw (hC.1.2.2.2.2 _ math_ok.2.1) (hC.1.2.2.2.2 _ math_ok.2.2.2.2.2.1) (hC.1.2.2.2.2 _ math_ok.2.2.2.2.2.2.2.1) (by omega) (by rw [hsum]; omega) hcl hsl hd K
theorem s_mabs (hC : CX D cy ad adV A SL xs d m p R s mid args c) (hd : decode (byt m) pc = .ok (i, n)) (hi : k_math (ow m) pc 0 nx i n = true) {x : Int32} (hcs : csum S ≤ 8) (hcl : cells ≤ R.cells) (hsl : slots ≤ R.slots) (k : PS l D cy ad A SL xs p e R s mid args below meth c cells slots Q m nx L (.inl (iabs x) :: S) V) : PS l D cy ad A SL xs p e R s mid args below meth c cells slots Q m pc L (.inl x :: S) V := by
  intro H locs ls hP hS hl hA hB hV
  have K := k H locs ls hP hS hl hA (hB.tail.cons trivial) hV
  have hsum := csum_real ad S
  have hfr := hC.2.2.1
  unfold k_math at hi
  split at hi <;> first | exact absurd hi (by decide) | simp only [decide_eq_true_eq, Bool.and_eq_true] at hi
  obtain ⟨⟨rfl, rfl⟩, hi⟩ := hi
  obtain ⟨q, hq, hq2⟩ := any_ex hi
  simp only [decide_eq_true_eq] at hq2
  obtain ⟨h1, rfl, h3⟩ := hq2
  have hw := hC.1.2.2.2.2 _ (mem_tbg (jlk_ok q hq) rfl)
  rw [h1, h3] at hw
  exact va_mabs hC.1.1 hC.1.2.1 (hC.1.2.2.1.trans hl.1.symm) hC.1.2.2.2.1 hw (hC.1.2.2.2.2 _ math_ok.2.2.1) (hC.1.2.2.2.2 _ math_ok.2.2.2.2.2.1) (hC.1.2.2.2.2 _ math_ok.2.2.2.2.2.2.2.2.1) (by omega) (by rw [hsum]; omega) hcl hsl hd K
theorem s_matJ (hC : CX D cy ad adV A SL xs d m p R s mid args c) (hd : decode (byt m) pc = .ok (i, n)) (hi : k_math (ow m) pc (if a = 0 then 3 else 4) nx i n = true) {x y : Int64} (hcs : csum S ≤ 8) (hcl : cells ≤ R.cells) (hsl : slots ≤ R.slots) (k : PS l D cy ad A SL xs p e R s mid args below meth c cells slots Q m nx L (.inr (.inl (if a = 0 then lmax x y else lmin x y)) :: S) V) : PS l D cy ad A SL xs p e R s mid args below meth c cells slots Q m pc L (.inr (.inl y) :: .inr (.inl x) :: S) V := by
  intro H locs ls hP hS hl hA hB hV
  have K := k H locs ls hP hS hl hA (hB.tail.tail.cons trivial) hV
  have hsum := csum_real ad S
  have hfr := hC.2.2.1
  unfold k_math at hi
  split at hi <;> first | exact absurd hi (by decide) | simp only [decide_eq_true_eq, Bool.and_eq_true] at hi
  obtain ⟨⟨rfl, rfl⟩, hi⟩ := hi
  obtain ⟨q, hq, hq2⟩ := any_ex hi
  simp only [decide_eq_true_eq] at hq2
  obtain ⟨h1, rfl, h3⟩ := hq2
  have hw := hC.1.2.2.2.2 _ (mem_tbg (jlk_ok q hq) rfl)
  rw [h1, h3] at hw
  by_cases ha : a = 0
  · subst ha
    exact va_mmax_long hC.1.1 hC.1.2.1 (hC.1.2.2.1.trans hl.1.symm) hC.1.2.2.2.1 hw (hC.1.2.2.2.2 _ math_ok.2.2.2.1) (hC.1.2.2.2.2 _ math_ok.2.2.2.2.2.1) (hC.1.2.2.2.2 _ math_ok.2.2.2.2.2.2.2.2.2.1) (by omega) (by rw [hsum]; omega) hcl hsl hd K
  · rw [if_neg ha] at K hw
    exact va_mmin_long hC.1.1 hC.1.2.1 (hC.1.2.2.1.trans hl.1.symm) hC.1.2.2.2.1 hw (hC.1.2.2.2.2 _ math_ok.2.2.2.2.1) (hC.1.2.2.2.2 _ math_ok.2.2.2.2.2.1) (hC.1.2.2.2.2 _ math_ok.2.2.2.2.2.2.2.2.2.2) (by omega) (by rw [hsum]; omega) hcl hsl hd K
theorem s_acpy1 (G : GW cy ad A SL) (hC : CX D cy ad adV A SL xs d m p R s mid args c) (hd : decode (byt m) pc = .ok (i, n)) (hi : k_acpy (ow m) pc a nx i n = true) {t j t2 j2 : Nat} {sp dp z : Int32} (hk : ak t = 1) (hk2 : ak t2 = 1) (hcs : csum S ≤ 8) (hg : ¬ (sp < 0 ∨ dp < 0 ∨ z < 0 ∨ alen t < sp.toNatClampNeg + z.toNatClampNeg ∨ alen t2 < dp.toNatClampNeg + z.toNatClampNeg))
    (k : PS l D cy ad A SL xs p e R s mid args below meth c cells slots Q m nx L S (mcpy V.1 t j sp.toNatClampNeg t2 j2 dp.toNatClampNeg z.toNatClampNeg, V.2)) : PS l D cy ad A SL xs p e R s mid args below meth c cells slots Q m pc L (.inl z :: .inl dp :: .inr (.inr (t2, j2)) :: .inl sp :: .inr (.inr (t, j)) :: S) V := by
  intro H locs ls hP hS hl hA hB hV
  have hj2 : j2 < cnt t2 := hB.tail.tail.head
  have hj : j < cnt t := hB.tail.tail.tail.tail.head
  have hsum := csum_real ad S
  have hfr := hC.2.2.1
  simp only [not_or] at hg
  obtain ⟨g1, g2, g3, g4, g5⟩ := hg
  unfold k_acpy at hi
  split at hi <;> first | exact absurd hi (by decide) | simp only [decide_eq_true_eq, Bool.and_eq_true] at hi
  obtain ⟨⟨rfl, rfl, -⟩, hi⟩ := hi
  obtain ⟨q, hq, hq2⟩ := any_ex hi
  simp only [decide_eq_true_eq] at hq2
  obtain ⟨h1, rfl⟩ := hq2
  have hw := hC.1.2.2.2.2 _ (mem_tbg (alk_ok q hq) rfl)
  rw [h1] at hw
  have h48 := arr_f t (cnt_lt hj) (by omega)
  have h482 := arr_f t2 (cnt_lt hj2) (by omega)
  obtain ⟨q0, hq0⟩ := allP_at h48 hj
  have hcell := allC_at (cy := cy) (ad := ad) (V := V) hq0
  rw [cellE_num (Or.inl hk), hk] at hcell
  obtain ⟨q1, hq1⟩ := allP_at h482 hj2
  have hcell1 := allC_at (cy := cy) (ad := ad) (V := V) hq1
  rw [cellE_num (Or.inl hk2), hk2] at hcell1
  refine va_copyi hC.1.1 hC.1.2.1 (hC.1.2.2.1.trans hl.1.symm) hC.1.2.2.2.1 hw (hC.1.2.2.2.2 _ (mem_tbg acp_ok.1 rfl)) (hC.1.2.2.2.2 _ (mem_tbg acp_ok.2.1 rfl)) (hC.1.2.2.2.2 _ (mem_tbg acp_ok.2.2 rfl)) hC.2.1 hP (G.1 V) hS q0 q1 0 0 (ty := .int) hcell hcell1 rfl rfl rfl g1 g2 g3 (by omega) (by omega) (fun _ _ => rfl) (by omega) (by rw [hsum]; have := nfw; omega) hd (fun H1 locs1 hP1 hD1 hS1 => ?_)
  rw [allC_set (cy := cy) (ad := ad) (V := V) (V' := (mcpy V.1 t j sp.toNatClampNeg t2 j2 dp.toNatClampNeg z.toNatClampNeg, V.2)) hq1 (fun t' i' h => mcpy_ne h) (fun _ _ _ => rfl) (by rw [cellE_num (Or.inl hk2), hk2]; show _ = Sum.inl (cy 1, alen t2, Sum.inl (mcpy V.1 t j sp.toNatClampNeg t2 j2 dp.toNatClampNeg z.toNatClampNeg t2 j2)); rw [mcpy_at])] at hP1
  exact k H1 locs1 ls hP1 hS1 hl hA hB.tail.tail.tail.tail.tail (hV.cpy h482)
theorem s_acpy2 (G : GW cy ad A SL) (hC : CX D cy ad adV A SL xs d m p R s mid args c) (hd : decode (byt m) pc = .ok (i, n)) (hi : k_acpy (ow m) pc a nx i n = true) {t j t2 j2 : Nat} {sp dp z : Int32} (hk : ak t = 2) (hk2 : ak t2 = 2) (hcs : csum S ≤ 8) (hg : ¬ (sp < 0 ∨ dp < 0 ∨ z < 0 ∨ alen t < sp.toNatClampNeg + z.toNatClampNeg ∨ alen t2 < dp.toNatClampNeg + z.toNatClampNeg))
    (k : PS l D cy ad A SL xs p e R s mid args below meth c cells slots Q m nx L S (V.1, mcpy V.2 t j sp.toNatClampNeg t2 j2 dp.toNatClampNeg z.toNatClampNeg)) : PS l D cy ad A SL xs p e R s mid args below meth c cells slots Q m pc L (.inl z :: .inl dp :: .inr (.inr (t2, j2)) :: .inl sp :: .inr (.inr (t, j)) :: S) V := by
  intro H locs ls hP hS hl hA hB hV
  have hj2 : j2 < cnt t2 := hB.tail.tail.head
  have hj : j < cnt t := hB.tail.tail.tail.tail.head
  have hsum := csum_real ad S
  have hfr := hC.2.2.1
  simp only [not_or] at hg
  obtain ⟨g1, g2, g3, g4, g5⟩ := hg
  unfold k_acpy at hi
  split at hi <;> first | exact absurd hi (by decide) | simp only [decide_eq_true_eq, Bool.and_eq_true] at hi
  obtain ⟨⟨rfl, rfl, -⟩, hi⟩ := hi
  obtain ⟨q, hq, hq2⟩ := any_ex hi
  simp only [decide_eq_true_eq] at hq2
  obtain ⟨h1, rfl⟩ := hq2
  have hw := hC.1.2.2.2.2 _ (mem_tbg (alk_ok q hq) rfl)
  rw [h1] at hw
  have h48 := arr_f t (cnt_lt hj) (by omega)
  have h482 := arr_f t2 (cnt_lt hj2) (by omega)
  obtain ⟨q0, hq0⟩ := allP_at h48 hj
  have hcell := allC_at (cy := cy) (ad := ad) (V := V) hq0
  rw [cellE_lng hk] at hcell
  obtain ⟨q1, hq1⟩ := allP_at h482 hj2
  have hcell1 := allC_at (cy := cy) (ad := ad) (V := V) hq1
  rw [cellE_lng hk2] at hcell1
  refine va_copyl hC.1.1 hC.1.2.1 (hC.1.2.2.1.trans hl.1.symm) hC.1.2.2.2.1 hw (hC.1.2.2.2.2 _ (mem_tbg acp_ok.1 rfl)) (hC.1.2.2.2.2 _ (mem_tbg acp_ok.2.1 rfl)) (hC.1.2.2.2.2 _ (mem_tbg acp_ok.2.2 rfl)) hC.2.1 hP (G.1 V) hS q0 q1 1 1 (ty := .long) hcell hcell1 rfl rfl rfl g1 g2 g3 (by omega) (by omega) (fun _ _ => rfl) (by omega) (by rw [hsum]; have := nfw; omega) hd (fun H1 locs1 hP1 hD1 hS1 => ?_)
  rw [allC_set (cy := cy) (ad := ad) (V := V) (V' := (V.1, mcpy V.2 t j sp.toNatClampNeg t2 j2 dp.toNatClampNeg z.toNatClampNeg)) hq1 (fun _ _ _ => rfl) (fun t' i' h => mcpy_ne h) (by rw [cellE_lng hk2]; show _ = Sum.inl (cy 2, alen t2, Sum.inr (Sum.inl (mcpy V.2 t j sp.toNatClampNeg t2 j2 dp.toNatClampNeg z.toNatClampNeg t2 j2))); rw [mcpy_at])] at hP1
  exact k H1 locs1 ls hP1 hS1 hl hA hB.tail.tail.tail.tail.tail hV
end Sound
