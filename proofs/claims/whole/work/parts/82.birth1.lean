/-! BIRTH: the second small machine tells the truth. g says where each cell lies -/
def bad (g : Nat → Nat) (b0 : Nat) : Nat → Nat → Nat := fun t i => if t = 0 then g i else b0
def bvv (g : Nat → Nat) : Option AV → Value
  | none => .null
  | some v => rv (bad g 0) v
def toE (cy : Nat → ClassId) (g : Nat → Nat) : BC → va_E
  | .inl (ci, fs) => .inr (ci, fs.map (bvv g))
  | .inr (.inl (k, c)) => if k = 2 then .inl (cy 2, c.length, .inr (.inl (fun _ => 0))) else .inl (cy k, c.length, .inl (fun j => c.getD j 0))
  | .inr (.inr (k, c)) => .inl (cy k, c.length, .inr (.inr (.inr (.inr (fun j => (c.getD j none).map g)))))
def bwsF (cy : Nat → ClassId) (g : Nat → Nat) : Nat → List BC → va_W
  | _, [] => []
  | n, c :: r => (g n, toE cy g c) :: bwsF cy g (n + 1) r
abbrev bws (cy : Nat → ClassId) (g : Nat → Nat) (hp : List BC) : va_W := bwsF cy g 0 hp
theorem bwsF_get (cy : Nat → ClassId) (g : Nat → Nat) : ∀ (hp : List BC) (n i : Nat), (bwsF cy g n hp)[i]? = (hp[i]?).map fun c => (g (n + i), toE cy g c)
  | [], _, _ => rfl
  | _ :: _, _, 0 => rfl
  | _ :: r, n, i + 1 => by
    show (bwsF cy g (n + 1) r)[i]? = (r[i]?).map _
    rw [bwsF_get cy g r (n + 1) i, show n + 1 + i = n + (i + 1) by omega]
theorem bws_at {cy : Nat → ClassId} {g : Nat → Nat} {hp : List BC} {i : Nat} {c : BC} (h : nth hp i = some c) : (bws cy g hp)[i]? = some (g i, toE cy g c) := by
  rw [nth_get] at h
  rw [bwsF_get, h, Nat.zero_add]
  rfl
theorem bwsF_app (cy : Nat → ClassId) (g : Nat → Nat) (c : BC) : ∀ (hp : List BC) (n : Nat), bwsF cy g n (hp ++ [c]) = bwsF cy g n hp ++ [(g (n + hp.length), toE cy g c)]
  | [], n => rfl
  | x :: r, n => by
    show (g n, toE cy g x) :: bwsF cy g (n + 1) (r ++ [c]) = (g n, toE cy g x) :: (bwsF cy g (n + 1) r ++ _)
    rw [bwsF_app cy g c r (n + 1), List.length_cons, show n + 1 + r.length = n + (r.length + 1) by omega]
theorem bwsF_set (cy : Nat → ClassId) (g : Nat → Nat) (c : BC) : ∀ (hp : List BC) (n i : Nat), bwsF cy g n (hp.set i c) = (bwsF cy g n hp).set i (g (n + i), toE cy g c)
  | [], _, _ => rfl
  | _ :: _, _, 0 => rfl
  | x :: r, n, i + 1 => by
    show (g n, toE cy g x) :: bwsF cy g (n + 1) (r.set i c) = (g n, toE cy g x) :: (bwsF cy g (n + 1) r).set i _
    rw [bwsF_set cy g c r (n + 1) i, show n + 1 + i = n + (i + 1) by omega]
theorem bws_set {cy : Nat → ClassId} {g : Nat → Nat} {hp : List BC} {i : Nat} {c : BC} : (bws cy g hp).set i (g i, toE cy g c) = bws cy g (hp.set i c) := by
  have h := bwsF_set cy g c hp 0 i
  rw [Nat.zero_add] at h
  exact h.symm
theorem rv_ext {g g' : Nat → Nat} {b0 n : Nat} {v : AV} (h : okr n v = true) (hg : ∀ i, i < n → g' i = g i) : rv (bad g' b0) v = rv (bad g b0) v := by
  match v, h with
  | .inl _, _ => rfl
  | .inr (.inl _), _ => rfl
  | .inr (.inr (0, i)), h =>
    have h2 : i < n := Nat.le_of_ble_eq_true h
    show Value.ref (g' i) = Value.ref (g i)
    rw [hg i h2]
  | .inr (.inr (t + 1, i)), _ => rfl
theorem toE_ext {cy : Nat → ClassId} {g g' : Nat → Nat} {n : Nat} (hg : ∀ i, i < n → g' i = g i) : ∀ {c : BC}, wfC n c = true → toE cy g' c = toE cy g c
  | .inl (ci, fs), h => by
    show Sum.inr (ci, fs.map (bvv g')) = Sum.inr (ci, fs.map (bvv g))
    have h2 : ∀ o ∈ fs, okro n o = true := List.all_eq_true.mp h
    congr 2
    apply List.map_congr_left
    intro o ho
    have h3 := h2 o ho
    cases o with
    | none => rfl
    | some v => exact rv_ext h3 hg
  | .inr (.inl (k, c)), _ => rfl
  | .inr (.inr (k, c)), h => by
    have h2 : ∀ o ∈ c, (match o with
      | some i => Nat.blt i n
      | none => true) = true := List.all_eq_true.mp h
    show Sum.inl (cy k, c.length, Sum.inr (Sum.inr (Sum.inr (Sum.inr (fun j => (c.getD j none).map g'))))) = Sum.inl (cy k, c.length, Sum.inr (Sum.inr (Sum.inr (Sum.inr (fun j => (c.getD j none).map g)))))
    congr 7
    funext j
    cases ho : c.getD j none with
    | none => rfl
    | some i =>
      have hm : some i ∈ c := by
        rw [List.getD_eq_getElem?_getD] at ho
        cases hq : c[j]? with
        | none => rw [hq] at ho; cases ho
        | some z => rw [hq] at ho; exact ho ▸ List.mem_of_getElem? hq
      have h3 : i < n := Nat.le_of_ble_eq_true (h2 _ hm)
      show some (g' i) = some (g i)
      rw [hg i h3]
theorem bwsF_ext {cy : Nat → ClassId} {g g' : Nat → Nat} {n : Nat} (hg : ∀ i, i < n → g' i = g i) : ∀ (hp : List BC) (k : Nat), k + hp.length ≤ n → hp.all (wfC n) = true → bwsF cy g' k hp = bwsF cy g k hp
  | [], _, _, _ => rfl
  | c :: r, k, h1, h2 => by
    rw [List.all_cons, Bool.and_eq_true] at h2
    rw [List.length_cons] at h1
    show (g' k, toE cy g' c) :: bwsF cy g' (k + 1) r = (g k, toE cy g c) :: bwsF cy g (k + 1) r
    rw [bwsF_ext hg r (k + 1) (by omega) h2.2, toE_ext hg h2.1, hg k (by omega)]
theorem bws_grow {cy : Nat → ClassId} {g : Nat → Nat} {hp : List BC} {q : Nat} {c : BC} (h : hp.all (wfC hp.length) = true) (hc : toE cy (va_up g hp.length q) c = toE cy g c) : bws cy (va_up g hp.length q) (hp ++ [c]) = bws cy g hp ++ [(q, toE cy g c)] := by
  have hg : ∀ i, i < hp.length → va_up g hp.length q i = g i := fun i hi => va_up_ne _ _ (by omega)
  unfold bws
  rw [bwsF_app, bwsF_ext hg hp 0 (by omega) h, Nat.zero_add, va_up_self, hc]
theorem LR_ext {g g' : Nat → Nat} {b0 n nL : Nat} {ls : Array Slot} {L : AL} (h : L.all (okro n) = true) (hg : ∀ i, i < n → g' i = g i) (hl : LR (bad g b0) ls nL L) : LR (bad g' b0) ls nL L := by
  refine ⟨hl.1, hl.2.1, hl.2.2.1, fun i v hi => ?_⟩
  rw [hl.2.2.2 i v hi]
  have hm : ∀ (L : AL) (i : Nat) (v : AV), lget L i = some v → some v ∈ L := by
    intro L
    induction L with
    | nil => intro i v h; rw [lget_nil] at h; cases h
    | cons a l ih =>
      intro i v h
      cases i with
      | zero => exact (show a = some v from h) ▸ List.mem_cons_self
      | succ i => exact List.mem_cons_of_mem _ (ih i v h)
  have h2 : okro n (some v) = true := List.all_eq_true.mp h _ (hm L i v hi)
  rw [rv_ext h2 hg]
theorem S_ext {g g' : Nat → Nat} {b0 n : Nat} {S : AS} (h : S.all (okr n) = true) (hg : ∀ i, i < n → g' i = g i) : S.map (rv (bad g' b0)) = S.map (rv (bad g b0)) := by
  apply List.map_congr_left
  intro v hv
  exact rv_ext (List.all_eq_true.mp h v hv) hg
def BX (D : va_G) (cy : Nat → ClassId) (base d m : Nat) (p : Program) (R : Room) (s : State) (mid : MethodId) (args : Array Value) (meth : Method) (c : Code) : Prop :=
  (p.tables.exec = Jvm.exec ∧ c.code = bbyt m ∧ c.maxLocals = bnl m ∧ s.vm.findClass (bow m) = some mid.cls ∧ ∀ w ∈ TBG, w.before args s = true) ∧ va_K D vwCl (tysL cy) s ∧ (d + 8 ≤ R.frames ∧ 64 * (d + 8) ≤ R.locals ∧ bmc m ≤ R.cells ∧ bms m ≤ R.slots) ∧
  (va_AO RX2 s ∧ va_AO RX4 s ∧ ∀ q ∈ bnst, va_Nw (.methodLinkNest (bow q.1) q.2.1 (byM q.2.2) RX8) s) ∧ base ≤ s.heap.size ∧ (m < 9 → meth.name = "<init>")
/-- from here the frame comes to Q, wherever the cells lie; those that were there at its start lie as g0 says -/
def BPS (l : Launch) (D : va_G) (cy : Nat → ClassId) (base b0 : Nat) (g0 : Nat → Nat) (n0 : Nat) (p : Program) (e : Env) (R : Room) (s : State) (mid : MethodId) (args : Array Value) (below : List Frame) (meth : Method) (c : Code) (Q : State → Prop) (m pc : Nat) (L : AL) (S : AS) (hp : List BC) (uc us : Nat) : Prop :=
  ∀ (g : Nat → Nat) (H : Heap) (locs : List Loc) (ls : Array Slot), (n0 ≤ hp.length ∧ ∀ i, i < n0 → g i = g0 i) → va_P D vwCl (bws cy g hp) H → va_D (fun q => base ≤ q) (bws cy g hp) → va_S (fun q => base ≤ q) s.heap H locs → LR (bad g b0) ls (bnl m) L → W p l e R s mid args below meth c H locs uc us Q (F0 mid pc ls (S.map (rv (bad g b0))))
/-- array classes are what their names say -/
theorem K_same {D : va_G} {cy : Nat → ClassId} {s : State} (hK : va_K D vwCl (tysL cy) s) {cA : ClassId} {k : Nat} {ty : FieldType} (hk : (tysL cy)[k]? = some (cy (k + 1), ty)) (hK2 : va_K D vwCl (tysL cy ++ [(cA, ty)]) s) : cA = cy (k + 1) := by
  have h1 := (hK.2 k _ hk).2
  have h2 := (hK2.2 6 (cA, ty) rfl).2
  cases ty with
  | object C =>
    obtain ⟨_, _, _, _, _, a1⟩ := h1
    obtain ⟨_, _, _, _, _, a2⟩ := h2
    exact Option.some.inj (a2.symm.trans a1)
  | _ => exact Option.some.inj ((show s.vm.findClass _ = some cA from h2).symm.trans h1)
theorem wfB_s {n : Nat} {L : AL} {S : AS} {hp : List BC} (h : wfB n L S hp = true) : L.all (okro n) = true ∧ S.all (okr n) = true ∧ hp.all (wfC n) = true := by
  unfold wfB at h
  rw [Bool.and_eq_true, Bool.and_eq_true] at h
  exact h
section Birth
variable {l : Launch} {D : va_G} {cy : Nat → ClassId} {base b0 n0 : Nat} {g0 : Nat → Nat}
variable {p : Program} {e : Env} {R : Room} {s : State} {mid : MethodId} {args : Array Value} {below : List Frame} {meth : Method} {c : Code} {Q : State → Prop}
variable {d m pc : Nat} {L : AL} {S : AS} {hp : List BC} {uc us : Nat} {a b nx n : Nat} {i : Instr}
theorem b_load (hC : BX D cy base d m p R s mid args meth c) (hd : decode (bbyt m) pc = .ok (i, n)) (hi : k_load pc a b nx i n = true) {w : AV} (hw : lget L a = some w) (hk : kd w = b) (k : BPS l D cy base b0 g0 n0 p e R s mid args below meth c Q m nx L (w :: S) hp uc us) : BPS l D cy base b0 g0 n0 p e R s mid args below meth c Q m pc L S hp uc us := by
  intro g H locs ls hg hP hD hS hl
  have K := k g H locs ls hg hP hD hS hl
  have hat := hl.2.2.2 a w hw
  unfold k_load at hi
  split at hi <;> first | exact absurd hi (by decide) | simp only [decide_eq_true_eq] at hi
  · obtain ⟨rfl, h2, rfl, rfl⟩ := hi
    match w, hk.trans h2, hat, K with
    | .inl x, _, hat, K => exact lv_iload_n hC.1.1 hC.1.2.1 hd rfl hat K
  · obtain ⟨rfl, h2, rfl, rfl⟩ := hi
    match w, hk.trans h2, hat, K with
    | .inl x, _, hat, K => exact lv_iload hC.1.1 hC.1.2.1 hd hat K
  · obtain ⟨rfl, h2, rfl, rfl⟩ := hi
    match w, hk.trans h2, hat, K with
    | .inr (.inr q), _, hat, K => exact lv_aload_n hC.1.1 hC.1.2.1 hd rfl hat K
  · obtain ⟨rfl, h2, rfl, rfl⟩ := hi
    match w, hk.trans h2, hat, K with
    | .inr (.inr q), _, hat, K => exact lv_aload hC.1.1 hC.1.2.1 hd hat K
  · obtain ⟨rfl, h2, rfl, rfl⟩ := hi
    match w, hk.trans h2, hat, K with
    | .inr (.inl q), _, hat, K => exact lv_lload_n hC.1.1 hC.1.2.1 hd rfl hat K
  · obtain ⟨rfl, h2, rfl, rfl⟩ := hi
    match w, hk.trans h2, hat, K with
    | .inr (.inl q), _, hat, K => exact lv_lload hC.1.1 hC.1.2.1 hd hat K
theorem b_push (hC : BX D cy base d m p R s mid args meth c) (hd : decode (bbyt m) pc = .ok (i, n)) {x : Int32} (hi : kb_push pc x nx i n = true) (k : BPS l D cy base b0 g0 n0 p e R s mid args below meth c Q m nx L (.inl x :: S) hp uc us) : BPS l D cy base b0 g0 n0 p e R s mid args below meth c Q m pc L S hp uc us := by
  intro g H locs ls hg hP hD hS hl
  have K := k g H locs ls hg hP hD hS hl
  unfold kb_push at hi
  split at hi <;> first | exact absurd hi (by decide) | simp only [decide_eq_true_eq] at hi
  · obtain ⟨rfl, rfl, rfl⟩ := hi
    exact lv_iconst hC.1.1 hC.1.2.1 hd rfl K
  · obtain ⟨rfl, rfl, rfl⟩ := hi
    exact lv_bipush hC.1.1 hC.1.2.1 hd rfl K
  · obtain ⟨rfl, rfl, rfl⟩ := hi
    exact lv_sipush hC.1.1 hC.1.2.1 hd rfl K
/-- a new cell, wherever it lies -/
theorem b_cell {cl : BC} (hwf : wfB hp.length L S hp = true) (hc : wfC 0 cl = true) {uc' us' : Nat} (k : BPS l D cy base b0 g0 n0 p e R s mid args below meth c Q m nx L (.inr (.inr (0, hp.length)) :: S) (hp ++ [cl]) uc' us') {g : Nat → Nat} {locs : List Loc} {ls : Array Slot} (hg : n0 ≤ hp.length ∧ ∀ i, i < n0 → g i = g0 i) (hl : LR (bad g b0) ls (bnl m) L)
    (q : Nat) (H1 : Heap) (hP : va_P D vwCl (bws cy g hp ++ [(q, toE cy g cl)]) H1) (hD : va_D (fun q => base ≤ q) (bws cy g hp ++ [(q, toE cy g cl)])) (hS : va_S (fun q => base ≤ q) s.heap H1 locs) : W p l e R s mid args below meth c H1 locs uc' us' Q (F0 mid nx ls (.ref q :: S.map (rv (bad g b0)))) := by
  obtain ⟨w1, w2, w3⟩ := wfB_s hwf
  have hg2 : ∀ i, i < hp.length → va_up g hp.length q i = g i := fun i hi => va_up_ne _ _ (by omega)
  have e1 : toE cy (va_up g hp.length q) cl = toE cy g cl := toE_ext (n := 0) (fun i hi => absurd hi (Nat.not_lt_zero i)) hc
  rw [← bws_grow w3 e1] at hP hD
  have K := k (va_up g hp.length q) H1 locs ls ⟨by rw [List.length_append]; omega, fun i hi => by rw [hg2 i (by omega)]; exact hg.2 i hi⟩ hP hD hS (LR_ext w1 hg2 hl)
  rw [List.map_cons, S_ext w2 hg2] at K
  have e9 : rv (bad (va_up g hp.length q) b0) (.inr (.inr (0, hp.length))) = .ref q := by
    show Value.ref (va_up g hp.length q hp.length) = _
    rw [va_up_self]
  rw [e9] at K
  exact K
theorem getD_rep {α : Type} (n j : Nat) (x : α) : (List.replicate n x).getD j x = x := by
  rw [List.getD_eq_getElem?_getD, List.getElem?_replicate]
  split <;> rfl
theorem hA_of (hC : BX D cy base d m p R s mid args meth c) : ∀ q, s.heap.size ≤ q → base ≤ q := fun q h => Nat.le_trans hC.2.2.2.2.1 h
theorem b_newa (hC : BX D cy base d m p R s mid args meth c) (hd : decode (bbyt m) pc = .ok (i, n)) (hi : kb_newa pc a nx i n = true) {z : Int32} (hn : ¬ z < 0) (hn2 : z.toNatClampNeg ≤ 1000) (huc : uc + 1 ≤ bmc m) (hus : us + z.toNatClampNeg ≤ bms m) (hwf : wfB hp.length L S hp = true) (k : BPS l D cy base b0 g0 n0 p e R s mid args below meth c Q m nx L (.inr (.inr (0, hp.length)) :: S) (hp ++ [.inr (.inl (a, List.replicate z.toNatClampNeg 0))]) (uc + 1) (us + z.toNatClampNeg)) : BPS l D cy base b0 g0 n0 p e R s mid args below meth c Q m pc L (.inl z :: S) hp uc us := by
  intro g H locs ls hg hP hD hS hl
  have c1 := Nat.le_trans huc hC.2.2.1.2.2.1
  have c2 := Nat.le_trans hus hC.2.2.1.2.2.2
  have num : ∀ (cA : ClassId), vp_cell cA ((List.replicate z.toNatClampNeg (0 : Int32)).length, .inl (fun j => (List.replicate z.toNatClampNeg 0).getD j 0)) = arrV cA z.toNatClampNeg (fun _ => .int 0) := by
    intro cA
    rw [vp_cell_i, List.length_replicate]
    congr 1
    funext j
    rw [getD_rep]
  have cb : ∀ ty : FieldType, componentBytes ty ≤ 8 → z.toNatClampNeg * componentBytes ty ≤ 536870912 := fun ty h => Nat.le_trans (Nat.mul_le_mul hn2 h) (by decide)
  unfold kb_newa at hi
  split at hi <;> first | exact absurd hi (by decide) | simp only [decide_eq_true_eq] at hi
  · obtain ⟨rfl, rfl, rfl⟩ := hi
    refine va_newa hC.1.1 hC.1.2.1 (hC.1.2.2.2.2 _ (mem_tbg arr_ok.1 rfl)) (ty := .int) rfl hC.2.1 hP hD hS (hA_of hC) (a0 := ((List.replicate z.toNatClampNeg (0 : Int32)).length, .inl (fun j => (List.replicate z.toNatClampNeg 0).getD j 0))) num hn rfl (cb _ (by decide)) c1 c2 hd fun q cA H1 hK1 hP1 hD1 hS1 => ?_
    have hcA := K_same hC.2.1 (k := 0) rfl hK1
    subst hcA
    exact b_cell hwf rfl k hg hl q H1 hP1 hD1 hS1
  · obtain ⟨rfl, rfl, rfl⟩ := hi
    refine va_newa hC.1.1 hC.1.2.1 (hC.1.2.2.2.2 _ (mem_tbg arr_ok.2.1 rfl)) (ty := .long) rfl hC.2.1 hP hD hS (hA_of hC) (a0 := ((List.replicate z.toNatClampNeg (0 : Int32)).length, .inr (.inl (fun _ => 0)))) (fun cA => by rw [vp_cell_l, List.length_replicate]; rfl) hn rfl (cb _ (by decide)) c1 c2 hd fun q cA H1 hK1 hP1 hD1 hS1 => ?_
    have hcA := K_same hC.2.1 (k := 1) rfl hK1
    subst hcA
    exact b_cell hwf rfl k hg hl q H1 hP1 hD1 hS1
  · obtain ⟨rfl, rfl, rfl⟩ := hi
    refine va_newa hC.1.1 hC.1.2.1 (hC.1.2.2.2.2 _ (mem_tbg arr_ok.2.2.1 rfl)) (ty := .boolean) rfl hC.2.1 hP hD hS (hA_of hC) (a0 := ((List.replicate z.toNatClampNeg (0 : Int32)).length, .inl (fun j => (List.replicate z.toNatClampNeg 0).getD j 0))) num hn rfl (cb _ (by decide)) c1 c2 hd fun q cA H1 hK1 hP1 hD1 hS1 => ?_
    have hcA := K_same hC.2.1 (k := 2) rfl hK1
    subst hcA
    exact b_cell hwf rfl k hg hl q H1 hP1 hD1 hS1
  · obtain ⟨rfl, rfl, rfl⟩ := hi
    refine va_newa hC.1.1 hC.1.2.1 (hC.1.2.2.2.2 _ (mem_tbg arr_ok.2.2.2 rfl)) (ty := .char) rfl hC.2.1 hP hD hS (hA_of hC) (a0 := ((List.replicate z.toNatClampNeg (0 : Int32)).length, .inl (fun j => (List.replicate z.toNatClampNeg 0).getD j 0))) num hn rfl (cb _ (by decide)) c1 c2 hd fun q cA H1 hK1 hP1 hD1 hS1 => ?_
    have hcA := K_same hC.2.1 (k := 3) rfl hK1
    subst hcA
    exact b_cell hwf rfl k hg hl q H1 hP1 hD1 hS1
theorem wfC_none (a n : Nat) : wfC 0 (.inr (.inr (a, List.replicate n none))) = true := by
  refine List.all_eq_true.mpr (fun o ho => ?_)
  rw [List.mem_replicate] at ho
  rw [ho.2]
theorem b_anew (hC : BX D cy base d m p R s mid args meth c) (hd : decode (bbyt m) pc = .ok (i, n)) (hi : kb_anew m pc a nx i n = true) {z : Int32} (hn : ¬ z < 0) (hn2 : z.toNatClampNeg ≤ 1000) (huc : uc + 1 ≤ bmc m) (hus : us + z.toNatClampNeg ≤ bms m) (hwf : wfB hp.length L S hp = true) (k : BPS l D cy base b0 g0 n0 p e R s mid args below meth c Q m nx L (.inr (.inr (0, hp.length)) :: S) (hp ++ [.inr (.inr (a, List.replicate z.toNatClampNeg none))]) (uc + 1) (us + z.toNatClampNeg)) : BPS l D cy base b0 g0 n0 p e R s mid args below meth c Q m pc L (.inl z :: S) hp uc us := by
  intro g H locs ls hg hP hD hS hl
  have c1 := Nat.le_trans huc hC.2.2.1.2.2.1
  have c2 := Nat.le_trans hus hC.2.2.1.2.2.2
  unfold kb_anew at hi
  split at hi <;> first | exact absurd hi (by decide) | simp only [decide_eq_true_eq, Bool.and_eq_true] at hi
  obtain ⟨⟨rfl, rfl⟩, hi⟩ := hi
  obtain ⟨q, hq, hq2⟩ := any_ex hi
  simp only [decide_eq_true_eq] at hq2
  obtain ⟨h1, rfl, h3⟩ := hq2
  have hw := hC.1.2.2.2.2 _ (mem_tbg (bcl_ok q hq) rfl)
  rw [h1] at hw
  have key : ∀ (C : String) (j : Nat), cnm q.2.2.1 = C → va_AO C s → (tysL cy)[j]? = some (cy (j + 1), .object C) → j + 1 = a → W p l e R s mid args below meth c H locs uc us Q (F0 mid pc ls ((.inl z :: S).map (rv (bad g b0)))) := by
    intro C j hC' hao hty hj
    rw [hC'] at hw
    refine va_newq hC.1.1 hC.1.2.1 hC.1.2.2.2.1 hw hao hC.2.1 hP hD hS (hA_of hC) hn rfl (by omega) c1 c2 hd fun q cA H1 hK1 hP1 hD1 hS1 => ?_
    have hcA := K_same hC.2.1 (k := j) hty hK1
    rw [hj] at hcA
    subst hcA
    have e1 : toE cy g (.inr (.inr (a, List.replicate z.toNatClampNeg none))) = .inl (cy a, z.toNatClampNeg, .inr (.inr (.inr (.inr (fun _ => none))))) := by
      show Sum.inl (cy a, (List.replicate z.toNatClampNeg (none : Option Nat)).length, Sum.inr (Sum.inr (Sum.inr (Sum.inr (fun j => ((List.replicate z.toNatClampNeg none).getD j none).map g))))) = _
      rw [List.length_replicate]
      congr 7
      funext j
      rw [getD_rep]
      rfl
    rw [← e1] at hP1 hD1
    exact b_cell hwf (wfC_none _ _) k hg hl q H1 hP1 hD1 hS1
  rcases h3 with ⟨h3, h4⟩ | ⟨h3, h4⟩
  · exact key RX2 4 (by rw [h3]; rfl) hC.2.2.2.1.1 rfl h4.symm
  · exact key RX4 5 (by rw [h3]; rfl) hC.2.2.2.1.2.1 rfl h4.symm
theorem bdef_wf : ∀ ci, ci < 9 → wfC 0 (.inl (ci, bdef ci)) = true := by decide +kernel
theorem cls_get {ci : Nat} (h : ci ≤ 8) : ∃ C T N, vwCl[ci]? = some (C, T, N) := by
  have hl : ci < vwCl.length := by show ci < 9; omega
  exact ⟨_, _, _, List.getElem?_eq_getElem hl⟩
theorem b_new (hC : BX D cy base d m p R s mid args meth c) (hd : decode (bbyt m) pc = .ok (i, n)) (hi : kb_new m pc a nx i n = true) (huc : uc + 1 ≤ bmc m) (hus : us + (bdef a).length ≤ bms m) (hwf : wfB hp.length L S hp = true) (k : BPS l D cy base b0 g0 n0 p e R s mid args below meth c Q m nx L (.inr (.inr (0, hp.length)) :: S) (hp ++ [.inl (a, bdef a)]) (uc + 1) (us + (bdef a).length)) : BPS l D cy base b0 g0 n0 p e R s mid args below meth c Q m pc L S hp uc us := by
  intro g H locs ls hg hP hD hS hl
  have c1 := Nat.le_trans huc hC.2.2.1.2.2.1
  have c2 := Nat.le_trans hus hC.2.2.1.2.2.2
  unfold kb_new at hi
  split at hi <;> first | exact absurd hi (by decide) | simp only [decide_eq_true_eq, Bool.and_eq_true] at hi
  obtain ⟨⟨rfl, rfl⟩, hi⟩ := hi
  obtain ⟨q, hq, hq2⟩ := any_ex hi
  simp only [decide_eq_true_eq] at hq2
  obtain ⟨h1, rfl, rfl⟩ := hq2
  have hw := hC.1.2.2.2.2 _ (mem_tbg (bcl_ok q hq) rfl)
  rw [h1] at hw
  have hle := bcl_b q hq
  generalize q.2.2.1 = ci at hw hle k hus c2
  obtain ⟨C, T, N, hcl⟩ := cls_get hle
  have hi9 := inst_p ci (by omega)
  have hcn : cnm ci = C := by
    unfold cnm
    rw [nth_get, hcl]
    rfl
  rw [hcn] at hw hi9
  rw [nth_get, hcl] at hi9
  obtain ⟨hin1, ⟨ty0, hty0⟩, hnm⟩ := cls_f hcl
  have hbl : (bdef ci).length = N := by
    unfold bdef
    rw [List.length_map, List.length_range, nth_get, hcl]
    rfl
  rw [hbl] at c2 k
  refine va_new (ci := ci) (fs := (bdef ci).map (bvv g)) hC.1.1 hC.1.2.1 hC.1.2.2.2.2 hin1 ty0 hty0 hC.1.2.2.2.1 hw (hC.1.2.2.2.2 _ (mem_tbg hi9.1 rfl)) (hC.1.2.2.2.2 _ (mem_tbg hi9.2 rfl)) hC.2.1 hP hD hS (hA_of hC) hcl (fun j hj => ?_) c1 c2 hd fun q H1 hP1 hD1 hS1 => b_cell (cl := .inl (ci, bdef ci)) hwf (bdef_wf ci (by omega)) k hg hl q H1 hP1 hD1 hS1
  have hTT : TTc ci j = T j := by
    unfold TTc
    rw [nth_get, hcl]
    rfl
  have h24 : j < 24 := by
    have := n24 ci (by omega)
    rw [nth_get, hcl] at this
    exact Nat.lt_of_lt_of_le hj this
  have hok := fty_f ci (by omega) j h24 (by rw [nth_get, hcl]; exact hj)
  rw [hTT, hty0 j hj] at hok
  unfold vp_V bdef
  rw [List.getD_eq_getElem?_getD, List.getElem?_map, List.getElem?_map, nth_get, hcl]
  show defaultValue (ty0 j) = (((List.range N)[j]?.map _).map (bvv g)).getD .null
  rw [List.getElem?_range hj]
  show defaultValue (ty0 j) = bvv g (match parseFieldDescriptor (TTc ci j).2.2.1 with
    | some .int => some (.inl 0)
    | some .boolean => some (.inl 0)
    | _ => none)
  rw [hTT, hty0 j hj]
  generalize ty0 j = ty at hok
  cases ty <;> first | rfl | cases hok
theorem b_dup (hC : BX D cy base d m p R s mid args meth c) (hd : decode (bbyt m) pc = .ok (i, n)) (hi : k_dup pc nx i n = true) {v : AV} (hv : ctg v = 1) (k : BPS l D cy base b0 g0 n0 p e R s mid args below meth c Q m nx L (v :: v :: S) hp uc us) : BPS l D cy base b0 g0 n0 p e R s mid args below meth c Q m pc L (v :: S) hp uc us := by
  intro g H locs ls hg hP hD hS hl
  unfold k_dup at hi
  split at hi <;> first | exact absurd hi (by decide) | simp only [decide_eq_true_eq] at hi
  obtain ⟨rfl, rfl⟩ := hi
  exact lv_dup hC.1.1 hC.1.2.1 hd (by rw [rv_cat]; exact hv) (k g H locs ls hg hP hD hS hl)
theorem rv_0 {g : Nat → Nat} {v : AV} (h : ∀ t i, v = .inr (.inr (t, i)) → t = 0) : rv (bad g b0) v = rv (bad g 0) v := by
  match v, h with
  | .inl _, _ => rfl
  | .inr (.inl _), _ => rfl
  | .inr (.inr (t, i)), h =>
    have := h t i rfl
    subst this
    rfl
theorem b_get (hC : BX D cy base d m p R s mid args meth c) (hd : decode (bbyt m) pc = .ok (i, n)) (hi : kb_get m pc a b nx i n = true) {j : Nat} {fs : List (Option AV)} {w : AV} (hj : nth hp j = some (.inl (a, fs))) (hw : nth fs b = some (some w)) (h0 : ∀ t i, w = .inr (.inr (t, i)) → t = 0) (k : BPS l D cy base b0 g0 n0 p e R s mid args below meth c Q m nx L (w :: S) hp uc us) : BPS l D cy base b0 g0 n0 p e R s mid args below meth c Q m pc L (.inr (.inr (0, j)) :: S) hp uc us := by
  intro g H locs ls hg hP hD hS hl
  unfold kb_get at hi
  split at hi <;> first | exact absurd hi (by decide) | simp only [decide_eq_true_eq, Bool.and_eq_true] at hi
  obtain ⟨⟨rfl, rfl⟩, hi⟩ := hi
  obtain ⟨q, hq, hq2⟩ := any_ex hi
  simp only [decide_eq_true_eq] at hq2
  obtain ⟨h1, rfl, h3, h4⟩ := hq2
  have hwd := hC.1.2.2.2.2 _ (mem_tbg (bfl_ok q hq) rfl)
  have hle := bfl_b q hq
  rw [h1, h3, h4] at hwd
  rw [h3, h4] at hle
  obtain ⟨C, T, N, hcl⟩ := cls_get hle.1
  have hTT : TTc a b = T b := by
    unfold TTc
    rw [nth_get, hcl]
    rfl
  rw [hTT] at hwd
  have hb : b < N := by
    have h9 := hle.2
    rw [nth_get, hcl] at h9
    exact h9
  have hcell := bws_at (cy := cy) (g := g) hj
  have K := k g H locs ls hg hP hD hS hl
  rw [List.map_cons, rv_0 h0] at K
  exact va_get (D := D) (C := C) (T := T) (N := N) hC.1.1 hC.1.2.1 hC.1.2.2.2.2 (cls_f hcl).1 hC.1.2.2.2.1 hC.2.1 hP j (fs := fs.map (bvv g)) hcell hcl b hb hwd (fun _ h9 => h9) (v := rv (bad g 0) w) (by rw [List.getElem?_map, ← nth_get, hw]; rfl) hd K
theorem b_put (hC : BX D cy base d m p R s mid args meth c) (hd : decode (bbyt m) pc = .ok (i, n)) (hi : kb_put m pc a b nx i n = true) {j : Nat} {fs : List (Option AV)} {w : AV} (hj : nth hp j = some (.inl (a, fs))) (hbl : b < fs.length) (hpf : pfok a b w = true) (k : BPS l D cy base b0 g0 n0 p e R s mid args below meth c Q m nx L S (hp.set j (.inl (a, fs.set b (some w)))) uc us) : BPS l D cy base b0 g0 n0 p e R s mid args below meth c Q m pc L (w :: .inr (.inr (0, j)) :: S) hp uc us := by
  intro g H locs ls hg hP hD hS hl
  unfold kb_put at hi
  split at hi <;> first | exact absurd hi (by decide) | simp only [decide_eq_true_eq, Bool.and_eq_true] at hi
  obtain ⟨⟨rfl, rfl, hfm⟩, hi⟩ := hi
  obtain ⟨q, hq, hq2⟩ := any_ex hi
  simp only [decide_eq_true_eq] at hq2
  obtain ⟨h1, rfl, h3, h4⟩ := hq2
  have hwd := hC.1.2.2.2.2 _ (mem_tbg (bfl_ok q hq) rfl)
  have hle := bfl_b q hq
  rw [h1, h3, h4] at hwd
  rw [h3, h4] at hle
  obtain ⟨C, T, N, hcl⟩ := cls_get hle.1
  have hTT : TTc a b = T b := by
    unfold TTc
    rw [nth_get, hcl]
    rfl
  have hb : b < N := by
    have h9 := hle.2
    rw [nth_get, hcl] at h9
    exact h9
  have hcell : (bws cy g hp)[j]? = some (g j, .inr (a, fs.map (bvv g))) := bws_at (cy := cy) (g := g) hj
  obtain ⟨hin, ⟨ty0, hty0⟩, hnm⟩ := cls_f hcl
  have hty := hty0 b hb
  have hv : rv (bad g b0) w = rv (bad g 0) w ∧ narrow (ty0 b) (rv (bad g 0) w) = rv (bad g 0) w ∧ fits (ty0 b) (rv (bad g 0) w) = true := by
    unfold pfok at hpf
    rw [hTT] at hpf
    match w, hpf with
    | .inl x, hpf =>
      rw [hty] at hpf
      simp only [Bool.or_eq_true, decide_eq_true_eq, Bool.and_eq_true, Option.some.injEq] at hpf
      rcases hpf with h9 | ⟨h9, h8⟩
      · rw [h9]; exact ⟨rfl, rfl, rfl⟩
      · rw [h9]
        rcases h8 with rfl | rfl
        · exact ⟨rfl, rfl, rfl⟩
        · exact ⟨rfl, rfl, rfl⟩
    | .inr (.inr (0, x)), hpf =>
      have hpf : isRefT (parseFieldDescriptor (T b).2.2.1) = true := hpf
      rw [hty] at hpf
      generalize ty0 b = ty at hpf
      cases ty <;> first | exact ⟨rfl, rfl, rfl⟩ | cases hpf
  have hset : (bws cy g hp).set j (g j, .inr (a, (fs.map (bvv g)).set b (rv (bad g 0) w))) = bws cy g (hp.set j (.inl (a, fs.set b (some w)))) := by
    rw [← bws_set]
    show _ = (bws cy g hp).set j (g j, .inr (a, (fs.set b (some w)).map (bvv g)))
    rw [List.map_set]
    rfl
  have hgo : ∀ (H1 : Heap) (locs1 : List Loc), va_P D vwCl ((bws cy g hp).set j (g j, .inr (a, (fs.map (bvv g)).set b (rv (bad g 0) w)))) H1 → va_D (fun q => base ≤ q) ((bws cy g hp).set j (g j, .inr (a, (fs.map (bvv g)).set b (rv (bad g 0) w)))) → va_S (fun q => base ≤ q) s.heap H1 locs1 → W p l e R s mid args below meth c H1 locs1 uc us Q (F0 mid (pc + 3) ls (S.map (rv (bad g b0)))) := by
    intro H1 locs1 hP1 hD1 hS1
    rw [hset] at hP1 hD1
    exact k g H1 locs1 ls ⟨by rw [List.length_set]; exact hg.1, hg.2⟩ hP1 hD1 hS1 hl
  rw [hTT] at hwd hfm
  show W p l e R s mid args below meth c H locs uc us Q (F0 mid pc ls (rv (bad g b0) w :: .ref (g j) :: S.map (rv (bad g b0))))
  rw [hv.1]
  cases hf : (T b).2.2.2 with
  | false => exact va_put (D := D) (C := C) (T := T) (N := N) hC.1.1 hC.1.2.1 hC.1.2.2.2.2 hin ty0 hty0 hnm hC.1.2.2.2.1 hC.2.1 hP hD hS j hcell hcl b hb hwd (fun _ h9 => h9) hf hty hv.2.1 hv.2.2 (by rw [List.length_map]; exact hbl) hd hgo
  | true =>
    have h9 := hfm hf
    exact va_putF (D := D) (C := C) (T := T) (N := N) hC.1.1 hC.1.2.1 hC.1.2.2.2.2 hin ty0 hty0 hnm hC.1.2.2.2.1 hC.2.1 hP hD hS j hcell hcl b hb hwd (fun _ h9 => h9) hf (hC.2.2.2.2.2 h9.1) h9.2 hty hv.2.1 hv.2.2 (by rw [List.length_map]; exact hbl) hd hgo
theorem getD_set (c : List Int32) (k : Nat) (x : Int32) (hk : k < c.length) : (fun j => (c.set k x).getD j 0) = upd (fun j => c.getD j 0) k x := by
  rw [upd_eq]
  funext j
  rw [List.getD_eq_getElem?_getD]
  by_cases h : j = k
  · subst h
    rw [if_pos rfl, List.getElem?_set_self hk]
    rfl
  · rw [if_neg h, List.getElem?_set_ne (Ne.symm h), List.getD_eq_getElem?_getD]
theorem b_xast (hC : BX D cy base d m p R s mid args meth c) (hd : decode (bbyt m) pc = .ok (i, n)) (hi : kb_xast pc a nx i n = true) {j : Nat} {cs : List Int32} {x y : Int32} (hj : nth hp j = some (.inr (.inl (a, cs)))) (hin : ¬ (x < 0 ∨ cs.length ≤ x.toNatClampNeg)) (hch : a = 1 ∨ a = 4 ∧ vp_nar .char y = y) (k : BPS l D cy base b0 g0 n0 p e R s mid args below meth c Q m nx L S (hp.set j (.inr (.inl (a, cs.set x.toNatClampNeg y)))) uc us) : BPS l D cy base b0 g0 n0 p e R s mid args below meth c Q m pc L (.inl y :: .inl x :: .inr (.inr (0, j)) :: S) hp uc us := by
  intro g H locs ls hg hP hD hS hl
  have hlt : x.toNatClampNeg < cs.length := Nat.not_le.mp fun q => hin (Or.inr q)
  have hcell := bws_at (cy := cy) (g := g) hj
  have hset : ∀ ka : Nat, ka ≠ 2 → ka = a → (bws cy g hp).set j (g j, .inl (cy ka, cs.length, .inl (upd (fun j => cs.getD j 0) x.toNatClampNeg y))) = bws cy g (hp.set j (.inr (.inl (a, cs.set x.toNatClampNeg y)))) := by
    intro ka h2 h3
    subst h3
    rw [← bws_set]
    have e : toE cy g (.inr (.inl (ka, cs.set x.toNatClampNeg y))) = .inl (cy ka, (cs.set x.toNatClampNeg y).length, .inl (fun j => (cs.set x.toNatClampNeg y).getD j 0)) := by
      show (if ka = 2 then _ else _) = _
      rw [if_neg h2]
    rw [e, List.length_set, getD_set cs _ _ hlt]
  have hgo : ∀ (H1 : Heap) (locs1 : List Loc), va_P D vwCl (bws cy g (hp.set j (.inr (.inl (a, cs.set x.toNatClampNeg y))))) H1 → va_D (fun q => base ≤ q) (bws cy g (hp.set j (.inr (.inl (a, cs.set x.toNatClampNeg y))))) → va_S (fun q => base ≤ q) s.heap H1 locs1 → W p l e R s mid args below meth c H1 locs1 uc us Q (F0 mid nx ls (S.map (rv (bad g b0)))) := fun H1 locs1 hP1 hD1 hS1 => k g H1 locs1 ls ⟨by rw [List.length_set]; exact hg.1, hg.2⟩ hP1 hD1 hS1 hl
  unfold kb_xast at hi
  split at hi <;> first | exact absurd hi (by decide) | simp only [decide_eq_true_eq] at hi
  · obtain ⟨rfl, rfl, rfl⟩ := hi
    refine va_iast hC.1.1 hC.1.2.1 hC.2.1 hP hD hS j 0 (f := fun j => cs.getD j 0) hcell rfl hin hd (fun H1 locs1 hP1 hD1 hS1 => hgo H1 locs1 ?_ ?_ hS1)
    · rw [hset 1 (by decide) rfl] at hP1; exact hP1
    · rw [hset 1 (by decide) rfl] at hD1; exact hD1
  · obtain ⟨rfl, rfl, rfl⟩ := hi
    have hy : vp_nar .char y = y := by
      rcases hch with h | h
      · exact absurd h (by decide)
      · exact h.2
    refine va_cast hC.1.1 hC.1.2.1 hC.2.1 hP hD hS j 3 (f := fun j => cs.getD j 0) hcell rfl hin hd (fun H1 locs1 hP1 hD1 hS1 => hgo H1 locs1 ?_ ?_ hS1)
    · rw [hy, hset 4 (by decide) rfl] at hP1; exact hP1
    · rw [hy, hset 4 (by decide) rfl] at hD1; exact hD1
theorem b_aast (hC : BX D cy base d m p R s mid args meth c) (hd : decode (bbyt m) pc = .ok (i, n)) (hi : kb_aast pc nx i n = true) {j w ka ci : Nat} {cs : List (Option Nat)} {fs : List (Option AV)} {x : Int32} (hj : nth hp j = some (.inr (.inr (ka, cs)))) (hw : nth hp w = some (.inl (ci, fs))) (hk : ka = 5 ∧ ci = 2 ∨ ka = 6 ∧ ci = 4) (hin : ¬ (x < 0 ∨ cs.length ≤ x.toNatClampNeg)) (k : BPS l D cy base b0 g0 n0 p e R s mid args below meth c Q m nx L S (hp.set j (.inr (.inr (ka, cs.set x.toNatClampNeg (some w))))) uc us) : BPS l D cy base b0 g0 n0 p e R s mid args below meth c Q m pc L (.inr (.inr (0, w)) :: .inl x :: .inr (.inr (0, j)) :: S) hp uc us := by
  intro g H locs ls hg hP hD hS hl
  have hlt : x.toNatClampNeg < cs.length := Nat.not_le.mp fun q => hin (Or.inr q)
  have hcell : (bws cy g hp)[j]? = some (g j, .inl (cy ka, cs.length, .inr (.inr (.inr (.inr (fun j => (cs.getD j none).map g)))))) := bws_at (cy := cy) (g := g) hj
  have hcw : (bws cy g hp)[w]? = some (g w, .inr (ci, fs.map (bvv g))) := bws_at (cy := cy) (g := g) hw
  have hfun : (fun j => ((cs.set x.toNatClampNeg (some w)).getD j none).map g) = va_up (fun j => (cs.getD j none).map g) x.toNatClampNeg (some (g w)) := by
    funext q
    unfold va_up
    rw [List.getD_eq_getElem?_getD]
    by_cases h : q = x.toNatClampNeg
    · rw [if_pos h, h, List.getElem?_set_self hlt]
      rfl
    · rw [if_neg h, List.getElem?_set_ne (Ne.symm h)]
      show _ = Option.map g (cs.getD q none)
      rw [List.getD_eq_getElem?_getD]
  have hset : (bws cy g hp).set j (g j, .inl (cy ka, cs.length, .inr (.inr (.inr (.inr (va_up (fun j => (cs.getD j none).map g) x.toNatClampNeg (some (g w)))))))) = bws cy g (hp.set j (.inr (.inr (ka, cs.set x.toNatClampNeg (some w))))) := by
    rw [← bws_set]
    show _ = (bws cy g hp).set j (g j, .inl (cy ka, (cs.set x.toNatClampNeg (some w)).length, .inr (.inr (.inr (.inr (fun j => ((cs.set x.toNatClampNeg (some w)).getD j none).map g))))))
    rw [List.length_set, hfun]
  unfold kb_aast at hi
  split at hi <;> first | exact absurd hi (by decide) | simp only [decide_eq_true_eq] at hi
  obtain ⟨rfl, rfl⟩ := hi
  rcases hk with ⟨rfl, rfl⟩ | ⟨rfl, rfl⟩
  · refine va_astq hC.1.1 hC.1.2.1 hC.2.1 hP hD hS j 4 w 2 (r := (RX2, TX2, 6)) hcell rfl hcw rfl hin hd (fun H1 locs1 hP1 hD1 hS1 => ?_)
    rw [hset] at hP1 hD1
    exact k g H1 locs1 ls ⟨by rw [List.length_set]; exact hg.1, hg.2⟩ hP1 hD1 hS1 hl
  · refine va_astq hC.1.1 hC.1.2.1 hC.2.1 hP hD hS j 5 w 4 (r := (RX4, TX4, 3)) hcell rfl hcw rfl hin hd (fun H1 locs1 hP1 hD1 hS1 => ?_)
    rw [hset] at hP1 hD1
    exact k g H1 locs1 ls ⟨by rw [List.length_set]; exact hg.1, hg.2⟩ hP1 hD1 hS1 hl
theorem b_sto1 (hC : BX D cy base d m p R s mid args meth c) (hd : decode (bbyt m) pc = .ok (i, n)) (hi : k_sto1 pc a nx i n = true) (hn : a < bnl m) {x : Int32} (k : BPS l D cy base b0 g0 n0 p e R s mid args below meth c Q m nx (sto1 L a (.inl x)) S hp uc us) : BPS l D cy base b0 g0 n0 p e R s mid args below meth c Q m pc L (.inl x :: S) hp uc us := by
  intro g H locs ls hg hP hD hS hl
  unfold k_sto1 at hi
  split at hi <;> first | exact absurd hi (by decide) | simp only [decide_eq_true_eq] at hi
  · obtain ⟨rfl, rfl, rfl⟩ := hi
    exact lv_istore_n hC.1.1 hC.1.2.1 hd rfl hl.has hn rfl (fun ls' h' => k g H locs ls' hg hP hD hS (LR.set1 (b := 0) (w := .inl x) hl h'))
  · obtain ⟨rfl, rfl, rfl⟩ := hi
    exact lv_istore hC.1.1 hC.1.2.1 hd hl.has hn rfl (fun ls' h' => k g H locs ls' hg hP hD hS (LR.set1 (b := 0) (w := .inl x) hl h'))
theorem b_stoA (hC : BX D cy base d m p R s mid args meth c) (hd : decode (bbyt m) pc = .ok (i, n)) (hi : k_stoA pc a nx i n = true) (hn : a < bnl m) {q : Nat × Nat} (k : BPS l D cy base b0 g0 n0 p e R s mid args below meth c Q m nx (sto1 L a (.inr (.inr q))) S hp uc us) : BPS l D cy base b0 g0 n0 p e R s mid args below meth c Q m pc L (.inr (.inr q) :: S) hp uc us := by
  intro g H locs ls hg hP hD hS hl
  unfold k_stoA at hi
  split at hi <;> first | exact absurd hi (by decide) | simp only [decide_eq_true_eq] at hi
  · obtain ⟨rfl, rfl, rfl⟩ := hi
    exact lv_astore_n hC.1.1 hC.1.2.1 hd rfl hl.has hn rfl (fun ls' h' => k g H locs ls' hg hP hD hS (LR.set1 (b := 0) (w := .inr (.inr q)) hl h'))
  · obtain ⟨rfl, rfl, rfl⟩ := hi
    exact lv_astore hC.1.1 hC.1.2.1 hd hl.has hn rfl (fun ls' h' => k g H locs ls' hg hP hD hS (LR.set1 (b := 0) (w := .inr (.inr q)) hl h'))
theorem b_iinc (hC : BX D cy base d m p R s mid args meth c) (hd : decode (bbyt m) pc = .ok (i, n)) {v : AV} (hi : k_iinc pc a v nx i n = true) {x z : Int32} (hx : lget L a = some (.inl x)) (hv : v = .inl z) (k : BPS l D cy base b0 g0 n0 p e R s mid args below meth c Q m nx (sto1 L a (.inl (x + z))) S hp uc us) : BPS l D cy base b0 g0 n0 p e R s mid args below meth c Q m pc L S hp uc us := by
  intro g H locs ls hg hP hD hS hl
  unfold k_iinc at hi
  split at hi <;> first | exact absurd hi (by decide) | simp only [decide_eq_true_eq] at hi
  obtain ⟨rfl, rfl, rfl, h4⟩ := hi
  have hz : z = Int32.ofInt _ := Sum.inl.inj (hv.symm.trans h4)
  have hm := prL_in (bad g b0) L 0 _ _ hx
  rw [Nat.zero_add] at hm
  obtain ⟨k0, hk0⟩ := List.getElem?_of_mem hm
  have hn := lget_lt hx
  rw [hl.2.2.1] at hn
  refine lv_iinc hC.1.1 hC.1.2.1 hd hl.has hk0 (v := x + z) (by rw [hz]) hn rfl (fun ls' h' => ?_)
  exact k g H locs ls' hg hP hD hS (LR.set1 (b := 0) (w := .inl (x + z)) hl h')
theorem b_ge (hC : BX D cy base d m p R s mid args meth c) (hd : decode (bbyt m) pc = .ok (i, n)) (hi : kb_ge pc b nx i n = true) {x y : Int32} (kt : y ≤ x → BPS l D cy base b0 g0 n0 p e R s mid args below meth c Q m b L S hp uc us) (kf : ¬ y ≤ x → BPS l D cy base b0 g0 n0 p e R s mid args below meth c Q m nx L S hp uc us) : BPS l D cy base b0 g0 n0 p e R s mid args below meth c Q m pc L (.inl y :: .inl x :: S) hp uc us := by
  intro g H locs ls hg hP hD hS hl
  unfold kb_ge at hi
  split at hi <;> first | exact absurd hi (by decide) | simp only [decide_eq_true_eq] at hi
  obtain ⟨rfl, rfl, h2⟩ := hi
  exact lv_icmp_ge hC.1.1 hC.1.2.1 hd h2 (fun h => kt h g H locs ls hg hP hD hS hl) (fun h => kf h g H locs ls hg hP hD hS hl)
theorem b_goto (hC : BX D cy base d m p R s mid args meth c) (hd : decode (bbyt m) pc = .ok (i, n)) (hi : k_goto pc b i n = true) (k : BPS l D cy base b0 g0 n0 p e R s mid args below meth c Q m b L S hp uc us) : BPS l D cy base b0 g0 n0 p e R s mid args below meth c Q m pc L S hp uc us := by
  intro g H locs ls hg hP hD hS hl
  unfold k_goto at hi
  split at hi <;> first | exact absurd hi (by decide) | simp only [decide_eq_true_eq] at hi
  obtain ⟨rfl, h2⟩ := hi
  exact lv_goto hC.1.1 hC.1.2.1 hd h2 (k g H locs ls hg hP hD hS hl)
theorem b_obj (hC : BX D cy base d m p R s mid args meth c) (hd : decode (bbyt m) pc = .ok (i, n)) (hi : kb_obj m pc nx i n = true) {q : Nat × Nat} (hcs : csum S ≤ 8) (k : BPS l D cy base b0 g0 n0 p e R s mid args below meth c Q m nx L S hp uc us) : BPS l D cy base b0 g0 n0 p e R s mid args below meth c Q m pc L (.inr (.inr q) :: S) hp uc us := by
  intro g H locs ls hg hP hD hS hl
  have hsum := csum_real (bad g b0) S
  have hfr := hC.2.2.1
  unfold kb_obj at hi
  split at hi <;> first | exact absurd hi (by decide) | simp only [decide_eq_true_eq, Bool.and_eq_true] at hi
  obtain ⟨⟨rfl, rfl⟩, hi⟩ := hi
  obtain ⟨z, hz, hz2⟩ := any_ex hi
  simp only [decide_eq_true_eq] at hz2
  obtain ⟨h1, rfl⟩ := hz2
  have hw := hC.1.2.2.2.2 _ (mem_tbg (bob_ok z hz) rfl)
  rw [h1] at hw
  refine W.objInit hC.1.1 hC.1.2.1 hC.1.2.2.2.1 hw (hC.1.2.2.2.2 _ obj_ok.1) (hC.1.2.2.2.2 _ obj_ok.2) rfl (by rw [hC.1.2.2.1]; exact hl.1) rfl hd (by omega) ?_ (k g H locs ls hg hP hD hS hl)
  show 2 * 0 + _ + 12 ≤ _
  rw [hsum]
  omega
end Birth
