/-! THE REAL MACHINE'S WORLD: the cells behind the small machine's memory -/
def rv (ad : Nat → Nat → Nat) : AV → Value
  | .inl x => .int x
  | .inr (.inl x) => .long x
  | .inr (.inr q) => .ref (ad q.1 q.2)
def fdV (ad : Nat → Nat → Nat) (t i : Nat) (V : Mem) (k : Nat) : Value := match fldv t k i V with
  | some w => rv ad w
  | none => .null
def fds (ad : Nat → Nat → Nat) (t i : Nat) (V : Mem) : List Value := (List.range (frl t).length).map (fdV ad t i V)
def cellE (cy : Nat → ClassId) (ad : Nat → Nat → Nat) (t i : Nat) (V : Mem) : va_E :=
  if ak t = 0 then .inr (clsOf t, fds ad t i V)
  else if ak t = 2 then .inl (cy 2, alen t, .inr (.inl (V.2 t i)))
  else if ak t = 5 then .inl (cy 5, alen t, .inr (.inr (.inr (.inr (fun j => some (ad 5 (j + 6 * i)))))))
  else if ak t = 6 then .inl (cy 6, alen t, .inr (.inr (.inr (.inr (fun j => some (ad 23 j))))))
  else .inl (cy (ak t), alen t, .inl (V.1 t i))
def allP : List (Nat × Nat) := (List.range 48).flatMap fun t => (List.range (cnt t)).map fun i => (t, i)
def allC (cy : Nat → ClassId) (ad : Nat → Nat → Nat) (V : Mem) : va_W := allP.map fun q => (ad q.1 q.2, cellE cy ad q.1 q.2 V)
theorem allP_mem {t i : Nat} (ht : t < 48) (hi : i < cnt t) : (t, i) ∈ allP :=
  List.mem_flatMap.mpr ⟨t, List.mem_range.mpr ht, List.mem_map.mpr ⟨i, List.mem_range.mpr hi, rfl⟩⟩
theorem allP_nd : va_nd (allP.map fun q => q.1 * 100 + q.2) = true := by decide +kernel
theorem allP_inj {j k : Nat} {q : Nat × Nat} (h1 : allP[j]? = some q) (h2 : allP[k]? = some q) : j = k :=
  va_nd_inj _ allP_nd j k (q.1 * 100 + q.2) (by rw [List.getElem?_map, h1]; rfl) (by rw [List.getElem?_map, h2]; rfl)
theorem allP_at {t i : Nat} (ht : t < 48) (hi : i < cnt t) : ∃ q0 : Nat, allP[q0]? = some (t, i) := List.getElem?_of_mem (allP_mem ht hi)
theorem allC_at {cy : Nat → ClassId} {ad : Nat → Nat → Nat} {V : Mem} {q0 t i : Nat} (h : allP[q0]? = some (t, i)) : (allC cy ad V)[q0]? = some (ad t i, cellE cy ad t i V) := by
  unfold allC
  rw [List.getElem?_map, h]
  rfl
theorem cellE_congr {cy : Nat → ClassId} {ad : Nat → Nat → Nat} {V V' : Mem} {t i : Nat} (h1 : V'.1 t i = V.1 t i) (h2 : V'.2 t i = V.2 t i) : cellE cy ad t i V' = cellE cy ad t i V := by
  have h3 : fds ad t i V' = fds ad t i V := by
    unfold fds
    congr 1
    funext k
    unfold fdV fldv
    rw [h1]
  unfold cellE
  rw [h1, h2, h3]
theorem allC_set {cy : Nat → ClassId} {ad : Nat → Nat → Nat} {V V' : Mem} {q0 t i : Nat} (hq : allP[q0]? = some (t, i)) (h1 : ∀ t' i', ¬ (t' = t ∧ i' = i) → V'.1 t' i' = V.1 t' i') (h2 : ∀ t' i', ¬ (t' = t ∧ i' = i) → V'.2 t' i' = V.2 t' i') {e : va_E} (he : e = cellE cy ad t i V') :
    (allC cy ad V).set q0 (ad t i, e) = allC cy ad V' := by
  subst he
  apply List.ext_getElem?
  intro j
  by_cases hj : j = q0
  · subst hj
    have hl : j < (allC cy ad V).length := (List.getElem?_eq_some_iff.mp (allC_at (cy := cy) (ad := ad) (V := V) hq)).1
    rw [List.getElem?_set_self hl, allC_at hq]
  · rw [List.getElem?_set_ne (Ne.symm hj)]
    unfold allC
    rw [List.getElem?_map, List.getElem?_map]
    cases hp : allP[j]? with
    | none => rfl
    | some q =>
      have hne : ¬ (q.1 = t ∧ q.2 = i) := fun hh => hj (allP_inj hp (by rw [hq]; exact congrArg some (Prod.ext hh.1.symm hh.2.symm)))
      show some (ad q.1 q.2, cellE cy ad q.1 q.2 V) = some (ad q.1 q.2, cellE cy ad q.1 q.2 V')
      rw [cellE_congr (h1 _ _ hne) (h2 _ _ hne)]
theorem mset_ne {α : Type} {f : Nat → Nat → Nat → α} {t i k : Nat} {x : α} {t' i' : Nat} (h : ¬ (t' = t ∧ i' = i)) : mset f t i k x t' i' = f t' i' := by
  funext k'
  unfold mset
  rw [if_neg]
  rintro ⟨a, b, -⟩
  exact h ⟨a, b⟩
theorem mset_at {α : Type} (f : Nat → Nat → Nat → α) (t i k : Nat) (x : α) : mset f t i k x t i = fun j => if j = k then x else f t i j := by
  funext j
  unfold mset
  by_cases h : j = k
  · rw [if_pos ⟨rfl, rfl, h⟩, if_pos h]
  · rw [if_neg (fun q => h q.2.2), if_neg h]
theorem mcpy_ne {α : Type} {f : Nat → Nat → Nat → α} {t i sp t2 i2 dp n : Nat} {t' i' : Nat} (h : ¬ (t' = t2 ∧ i' = i2)) : mcpy f t i sp t2 i2 dp n t' i' = f t' i' := by
  funext k'
  unfold mcpy
  rw [if_neg]
  rintro ⟨a, b, -⟩
  exact h ⟨a, b⟩
theorem mcpy_at {α : Type} (f : Nat → Nat → Nat → α) (t i sp t2 i2 dp n : Nat) : mcpy f t i sp t2 i2 dp n t2 i2 = va_cpy (f t i) (f t2 i2) sp dp n := by
  funext j
  unfold mcpy va_cpy
  by_cases h : dp ≤ j ∧ j < dp + n
  · rw [if_pos ⟨rfl, rfl, h⟩, if_pos h]
  · rw [if_neg (fun q => h q.2.2), if_neg h]
theorem nth_get {α : Type} : ∀ (l : List α) (n : Nat), nth l n = l[n]?
  | [], _ => rfl
  | _ :: _, 0 => rfl
  | _ :: l, n + 1 => by
    show nth l n = _
    rw [nth_get l n, List.getElem?_cons_succ]
theorem fds_at {ad : Nat → Nat → Nat} {t k i : Nat} {V : Mem} {w : AV} (h : fldv t k i V = some w) : (fds ad t i V)[k]? = some (rv ad w) := by
  have hk : k < (frl t).length := by
    unfold fldv at h
    cases hn : nth (frl t) k with
    | none => rw [hn] at h; cases h
    | some x =>
      rw [nth_get] at hn
      exact (List.getElem?_eq_some_iff.mp hn).1
  unfold fds
  rw [List.getElem?_map, List.getElem?_range hk]
  show some (fdV ad t i V k) = _
  unfold fdV
  rw [h]
theorem fds_len {ad : Nat → Nat → Nat} {t i : Nat} {V : Mem} : (fds ad t i V).length = (frl t).length := by
  unfold fds
  rw [List.length_map, List.length_range]
theorem fds_set {ad : Nat → Nat → Nat} {t k i : Nat} {V : Mem} {x : Int32} (h : nth (frl t) k = some none) : (fds ad t i V).set k (.int x) = fds ad t i (mset V.1 t i k x, V.2) := by
  have hk : k < (frl t).length := by
    rw [nth_get] at h
    exact (List.getElem?_eq_some_iff.mp h).1
  apply List.ext_getElem?
  intro j
  by_cases hj : j = k
  · subst hj
    rw [List.getElem?_set_self (by rw [fds_len]; exact hk)]
    have h2 : fldv t j i (mset V.1 t i j x, V.2) = some (.inl x) := by
      unfold fldv
      rw [h]
      simp [mset]
    rw [fds_at h2]
    rfl
  · rw [List.getElem?_set_ne (Ne.symm hj)]
    by_cases hl : j < (frl t).length
    · unfold fds
      rw [List.getElem?_map, List.getElem?_map, List.getElem?_range hl]
      show some (fdV ad t i V j) = some (fdV ad t i (mset V.1 t i k x, V.2) j)
      have e : fldv t j i (mset V.1 t i k x, V.2) = fldv t j i V := by
        have e2 : mset V.1 t i k x t i j = V.1 t i j := by
          rw [mset_at]
          exact if_neg hj
        unfold fldv
        cases nth (frl t) j with
        | none => rfl
        | some y =>
          cases y with
          | none => exact congrArg (fun z => some (Sum.inl z)) e2
          | some y =>
            obtain ⟨t', o⟩ := y
            cases o <;> rfl
      unfold fdV
      rw [e]
    · rw [List.getElem?_eq_none (by rw [fds_len]; omega), List.getElem?_eq_none (by rw [fds_len]; omega)]
/-! locals -/
theorem lset_len : ∀ (L : AL) (i : Nat) (x : Option AV), (lset L i x).length = L.length
  | [], _, _ => rfl
  | _ :: _, 0, _ => rfl
  | _ :: l, n + 1, x => by
    show (lset l n x).length + 1 = l.length + 1
    rw [lset_len l n x]
theorem lget_lset_self : ∀ (L : AL) (i : Nat) (x : Option AV), i < L.length → lget (lset L i x) i = x
  | [], _, _, h => absurd h (Nat.not_lt_zero _)
  | _ :: _, 0, _, _ => rfl
  | _ :: l, n + 1, x, h => lget_lset_self l n x (Nat.lt_of_succ_lt_succ h)
theorem lget_lset_ne : ∀ (L : AL) (i j : Nat) (x : Option AV), j ≠ i → lget (lset L i x) j = lget L j
  | [], _, _, _, _ => rfl
  | _ :: _, 0, 0, _, h => absurd rfl h
  | _ :: _, 0, _ + 1, _, _ => rfl
  | _ :: _, _ + 1, 0, _, _ => rfl
  | _ :: l, n + 1, j + 1, x, h => lget_lset_ne l n j x (fun e => h (by rw [e]))
theorem lget_lt : ∀ {L : AL} {i : Nat} {v : AV}, lget L i = some v → i < L.length
  | [], _, _, h => by cases h
  | _ :: _, 0, _, _ => Nat.zero_lt_succ _
  | _ :: _, _ + 1, _, h => Nat.succ_lt_succ (lget_lt h)
theorem kil_len (L : AL) (i : Nat) : (kil L i).length = L.length := by
  cases i with
  | zero => rfl
  | succ n =>
    show (bif isL (lget L n) then lset L n none else L).length = L.length
    cases isL (lget L n)
    · rfl
    · exact lset_len _ _ _
theorem lget_kil {L : AL} {i j : Nat} {u : AV} (h : lget (kil L i) j = some u) : lget L j = some u ∧ ¬ (j + 1 = i ∧ isL (some u) = true) := by
  cases i with
  | zero => exact ⟨h, fun q => by omega⟩
  | succ n =>
    have h : lget (bif isL (lget L n) then lset L n none else L) j = some u := h
    cases hc : isL (lget L n) with
    | false =>
      rw [hc] at h
      refine ⟨h, fun q => ?_⟩
      have e : j = n := by omega
      subst e
      have h : lget L j = some u := h
      rw [h] at hc
      rw [hc] at q
      exact absurd q.2 (by decide)
    | true =>
      rw [hc] at h
      have h : lget (lset L n none) j = some u := h
      by_cases e : j = n
      · subst e
        by_cases hl : j < L.length
        · rw [lget_lset_self _ _ _ hl] at h
          cases h
        · have := lget_lt h
          rw [lset_len] at this
          exact absurd this hl
      · rw [lget_lset_ne _ _ _ _ e] at h
        exact ⟨h, fun q => e (by omega)⟩
theorem lget_trn : ∀ {L : AL} {k j : Nat} {u : AV}, lget (trn k L) j = some u → lget L j = some u
  | [], _, _, _, h => by
    unfold trn at h
    exact h
  | _ :: _, 0, 0, _, h => by
    unfold trn at h
    cases h
  | _ :: l, 0, j + 1, _, h => by
    unfold trn at h
    exact lget_trn (L := l) (k := 0) h
  | _ :: _, _ + 1, 0, _, h => h
  | _ :: l, k + 1, j + 1, _, h => lget_trn (L := l) (k := k) h
theorem trn_len : ∀ (k : Nat) (L : AL), (trn k L).length = L.length
  | _, [] => by unfold trn; rfl
  | 0, _ :: l => by
    unfold trn
    show (trn 0 l).length + 1 = l.length + 1
    rw [trn_len 0 l]
  | k + 1, _ :: l => by
    show (trn k l).length + 1 = l.length + 1
    rw [trn_len k l]
theorem lget_trk {L : AL} {k j : Nat} {u : AV} (h : lget (trk k L) j = some u) : lget L j = some u := by
  cases k with
  | zero => exact h
  | succ k => exact lget_trn h
theorem trk_len (k : Nat) (L : AL) : (trk k L).length = L.length := by
  cases k with
  | zero => rfl
  | succ k => exact trn_len k L
theorem lget_nil (j : Nat) : lget [] j = none := by cases j <;> rfl
/-- the locals of the real frame are at least the small machine's -/
def LR (ad : Nat → Nat → Nat) (ls : Array Slot) (nL : Nat) (L : AL) : Prop := ls.size = nL ∧ lv_wf ls ∧ L.length = nL ∧ ∀ (i : Nat) (v : AV), lget L i = some v → ls[i]? = some (.val (rv ad v))
def prL (ad : Nat → Nat → Nat) : Nat → AL → List (Nat × Value)
  | _, [] => []
  | n, none :: l => prL ad (n + 1) l
  | n, some v :: l => (n, rv ad v) :: prL ad (n + 1) l
theorem prL_in (ad : Nat → Nat → Nat) : ∀ (L : AL) (n i : Nat) (v : AV), lget L i = some v → (n + i, rv ad v) ∈ prL ad n L
  | [], _, i, _, h => by rw [lget_nil] at h; cases h
  | none :: _, _, 0, _, h => by cases h
  | some v :: _, n, 0, _, h => by
    cases h
    exact List.mem_cons_self
  | none :: l, n, i + 1, v, h => by
    have := prL_in ad l (n + 1) i v h
    rw [show n + 1 + i = n + (i + 1) by omega] at this
    exact this
  | some _ :: l, n, i + 1, v, h => by
    have := prL_in ad l (n + 1) i v h
    rw [show n + 1 + i = n + (i + 1) by omega] at this
    exact List.mem_cons_of_mem _ this
theorem prL_out (ad : Nat → Nat → Nat) : ∀ (L : AL) (n : Nat) (q : Nat × Value), q ∈ prL ad n L → ∃ (i : Nat) (v : AV), q = (n + i, rv ad v) ∧ lget L i = some v
  | [], _, _, h => by cases h
  | none :: l, n, q, h => by
    obtain ⟨i, v, h1, h2⟩ := prL_out ad l (n + 1) q h
    exact ⟨i + 1, v, by rw [h1]; congr 1; omega, h2⟩
  | some w :: l, n, q, h => by
    rcases List.mem_cons.mp h with rfl | h
    · exact ⟨0, w, rfl, rfl⟩
    · obtain ⟨i, v, h1, h2⟩ := prL_out ad l (n + 1) q h
      exact ⟨i + 1, v, by rw [h1]; congr 1; omega, h2⟩
theorem LR.has {ad : Nat → Nat → Nat} {ls : Array Slot} {nL : Nat} {L : AL} (h : LR ad ls nL L) : lv_has ls nL (prL ad 0 L) := by
  refine ⟨h.1, h.2.1, fun q hq => ?_⟩
  obtain ⟨i, v, rfl, h2⟩ := prL_out ad L 0 q hq
  rw [Nat.zero_add]
  exact h.2.2.2 i v h2
theorem rv_cat (ad : Nat → Nat → Nat) (v : AV) : (rv ad v).category = ctg v := by
  match v with
  | .inl _ => rfl
  | .inr (.inl _) => rfl
  | .inr (.inr _) => rfl
theorem isL_cat (ad : Nat → Nat → Nat) (v : AV) : isL (some v) = true ↔ (rv ad v).category = 2 := by
  match v with
  | .inl _ => exact ⟨fun h => (by cases h), fun h => (by cases h)⟩
  | .inr (.inl _) => exact ⟨fun _ => rfl, fun _ => rfl⟩
  | .inr (.inr _) => exact ⟨fun h => (by cases h), fun h => (by cases h)⟩
theorem LR.set1 {ad : Nat → Nat → Nat} {ls ls' : Array Slot} {nL : Nat} {L : AL} {a b : Nat} {w : AV} (h : LR ad ls nL L)
    (h' : lv_has ls' nL ((a, rv ad w) :: (prL ad 0 L).filter (fun q => !(q.1 == a) && !(q.1 + 1 == a && q.2.category == 2)))) : LR ad ls' nL (trk b (sto1 L a w)) := by
  refine ⟨h'.1, h'.2.1, by rw [trk_len]; unfold sto1; rw [lset_len, kil_len]; exact h.2.2.1, fun i v hi => ?_⟩
  have hi := lget_trk hi
  unfold sto1 at hi
  by_cases e : i = a
  · subst e
    have hl := lget_lt hi
    rw [lset_len] at hl
    rw [lget_lset_self _ _ _ hl] at hi
    cases hi
    exact h'.2.2 (i, rv ad w) List.mem_cons_self
  · rw [lget_lset_ne _ _ _ _ e] at hi
    obtain ⟨h1, h2⟩ := lget_kil hi
    refine h'.2.2 (i, rv ad v) (List.mem_cons_of_mem _ (List.mem_filter.mpr ⟨?_, ?_⟩))
    · have := prL_in ad L 0 i v h1
      rw [Nat.zero_add] at this
      exact this
    · rw [isL_cat ad] at h2
      simp only [Bool.and_eq_true, Bool.not_eq_true', beq_eq_false_iff_ne, ne_eq, Bool.and_eq_false_iff]
      refine ⟨e, ?_⟩
      by_cases q : i + 1 = a
      · exact Or.inr (fun z => h2 ⟨q, z⟩)
      · exact Or.inl q
theorem LR.set2 {ad : Nat → Nat → Nat} {ls ls' : Array Slot} {nL : Nat} {L : AL} {a : Nat} {w : AV} (h : LR ad ls nL L)
    (h' : lv_has ls' nL ((a, rv ad w) :: (prL ad 0 L).filter (fun q => !(q.1 == a) && (!(q.1 == a + 1) && !(q.1 + 1 == a && q.2.category == 2))))) : LR ad ls' nL (sto2 L a w) := by
  refine ⟨h'.1, h'.2.1, by unfold sto2; rw [lset_len, lset_len, kil_len]; exact h.2.2.1, fun i v hi => ?_⟩
  unfold sto2 at hi
  by_cases e1 : i = a + 1
  · subst e1
    have hl := lget_lt hi
    rw [lset_len] at hl
    rw [lget_lset_self _ _ _ hl] at hi
    cases hi
  rw [lget_lset_ne _ _ _ _ e1] at hi
  by_cases e : i = a
  · subst e
    have hl := lget_lt hi
    rw [lset_len] at hl
    rw [lget_lset_self _ _ _ hl] at hi
    cases hi
    exact h'.2.2 (i, rv ad w) List.mem_cons_self
  · rw [lget_lset_ne _ _ _ _ e] at hi
    obtain ⟨h1, h2⟩ := lget_kil hi
    refine h'.2.2 (i, rv ad v) (List.mem_cons_of_mem _ (List.mem_filter.mpr ⟨?_, ?_⟩))
    · have := prL_in ad L 0 i v h1
      rw [Nat.zero_add] at this
      exact this
    · rw [isL_cat ad] at h2
      simp only [Bool.and_eq_true, Bool.not_eq_true', beq_eq_false_iff_ne, ne_eq, Bool.and_eq_false_iff]
      refine ⟨e, e1, ?_⟩
      by_cases q : i + 1 = a
      · exact Or.inr (fun z => h2 ⟨q, z⟩)
      · exact Or.inl q
theorem LR.cut {ad : Nat → Nat → Nat} {ls : Array Slot} {nL : Nat} {L : AL} {k : Nat} (h : LR ad ls nL L) : LR ad ls nL (trk k L) :=
  ⟨h.1, h.2.1, by rw [trk_len]; exact h.2.2.1, fun i v hi => h.2.2.2 i v (lget_trk hi)⟩
theorem entL_get (ad : Nat → Nat → Nat) : ∀ (as : List AV) (n i : Nat) (v : AV), lget (entL as) i = some v → (n + i, rv ad v) ∈ lv_args n (as.map (rv ad))
  | [], _, i, _, h => by
    have h : lget [] i = some _ := h
    rw [lget_nil] at h; cases h
  | .inl x :: r, n, 0, v, h => by
    cases h
    exact List.mem_cons_self
  | .inl x :: r, n, i + 1, v, h => by
    have := entL_get ad r (n + 1) i v h
    rw [show n + 1 + i = n + (i + 1) by omega] at this
    exact List.mem_cons_of_mem _ this
  | .inr (.inr x) :: r, n, 0, v, h => by
    cases h
    exact List.mem_cons_self
  | .inr (.inr x) :: r, n, i + 1, v, h => by
    have := entL_get ad r (n + 1) i v h
    rw [show n + 1 + i = n + (i + 1) by omega] at this
    exact List.mem_cons_of_mem _ this
  | .inr (.inl x) :: r, n, 0, v, h => by
    cases h
    exact List.mem_cons_self
  | .inr (.inl x) :: r, n, 1, v, h => by cases h
  | .inr (.inl x) :: r, n, i + 2, v, h => by
    have := entL_get ad r (n + 2) i v h
    rw [show n + 2 + i = n + (i + 2) by omega] at this
    exact List.mem_cons_of_mem _ this
theorem padL_get : ∀ (n : Nat) (L : AL) (i : Nat) (v : AV), lget (padL n L) i = some v → lget L i = some v
  | 0, _, _, _, h => h
  | n + 1, [], 0, _, h => by cases h
  | n + 1, [], i + 1, v, h => by
    have := padL_get n [] i v h
    rw [lget_nil] at this
    cases this
  | n + 1, a :: l, 0, v, h => h
  | n + 1, a :: l, i + 1, v, h => padL_get n l i v h
theorem padL_len : ∀ (n : Nat) (L : AL), L.length ≤ n → (padL n L).length = n
  | 0, [], _ => rfl
  | 0, _ :: _, h => absurd h (by simp)
  | n + 1, [], _ => by
    show (padL n []).length + 1 = n + 1
    rw [padL_len n [] (Nat.zero_le _)]
  | n + 1, _ :: l, h => by
    show (padL n l).length + 1 = n + 1
    rw [padL_len n l (Nat.le_of_succ_le_succ h)]
theorem entL_len : ∀ (as : List AV), (entL as).length = csum as
  | [] => rfl
  | .inl _ :: r => by
    show (entL r).length + 1 = 1 + csum r
    rw [entL_len r, Nat.add_comm]
  | .inr (.inr _) :: r => by
    show (entL r).length + 1 = 1 + csum r
    rw [entL_len r, Nat.add_comm]
  | .inr (.inl _) :: r => by
    show (entL r).length + 1 + 1 = 2 + csum r
    rw [entL_len r]
    omega
theorem lg_len (ad : Nat → Nat → Nat) : ∀ (as : List AV), (lg_sl (as.map (rv ad))).length = csum as
  | [] => rfl
  | v :: r => by
    have ih := lg_len ad r
    unfold lg_sl at ih ⊢
    rw [List.map_cons, List.flatMap_cons, List.length_append, ih]
    match v with
    | .inl _ => rfl
    | .inr (.inl _) => rfl
    | .inr (.inr _) => rfl
theorem LR.entry {ad : Nat → Nat → Nat} {as : List AV} {n : Nat} (h : csum as ≤ n) : LR ad ((lg_sl (as.map (rv ad)) ++ List.replicate (n - (lg_sl (as.map (rv ad))).length) Slot.unset).toArray) n (padL n (entL as)) := by
  have hl := lv_entry (as.map (rv ad)) (n := n) (by rw [lg_len]; exact h)
  refine ⟨hl.1, hl.2.1, padL_len n _ (by rw [entL_len]; exact h), fun i v hi => ?_⟩
  have := entL_get ad as 0 i v (padL_get _ _ _ _ hi)
  rw [Nat.zero_add] at this
  exact hl.2.2 (i, rv ad v) this
theorem csum_real (ad : Nat → Nat → Nat) : ∀ S : AS, ((S.map (rv ad)).map fun v => v.category).sum = csum S
  | [] => rfl
  | v :: S => by
    rw [List.map_cons, List.map_cons, List.sum_cons, csum_real ad S, rv_cat]
    rfl
/-- a reference is to a cell that is there -/
def okv : AV → Prop
  | .inr (.inr q) => q.2 < cnt q.1
  | _ => True
def okA (L : AL) : Prop := ∀ (i : Nat) (v : AV), lget L i = some v → okv v
def okB (S : AS) : Prop := ∀ v ∈ S, okv v
theorem okA.set1 {L : AL} {a b : Nat} {w : AV} (h : okA L) (hw : okv w) : okA (trk b (sto1 L a w)) := by
  intro i v hi
  have hi := lget_trk hi
  unfold sto1 at hi
  by_cases e : i = a
  · subst e
    have hl := lget_lt hi
    rw [lset_len] at hl
    rw [lget_lset_self _ _ _ hl] at hi
    cases hi
    exact hw
  · rw [lget_lset_ne _ _ _ _ e] at hi
    exact h i v (lget_kil hi).1
theorem okA.set2 {L : AL} {a : Nat} {w : AV} (h : okA L) (hw : okv w) : okA (sto2 L a w) := by
  intro i v hi
  unfold sto2 at hi
  by_cases e1 : i = a + 1
  · subst e1
    have hl := lget_lt hi
    rw [lset_len] at hl
    rw [lget_lset_self _ _ _ hl] at hi
    cases hi
  rw [lget_lset_ne _ _ _ _ e1] at hi
  by_cases e : i = a
  · subst e
    have hl := lget_lt hi
    rw [lset_len] at hl
    rw [lget_lset_self _ _ _ hl] at hi
    cases hi
    exact hw
  · rw [lget_lset_ne _ _ _ _ e] at hi
    exact h i v (lget_kil hi).1
theorem okA.cut {L : AL} {k : Nat} (h : okA L) : okA (trk k L) := fun i v hi => h i v (lget_trk hi)
theorem okB.cons {v : AV} {S : AS} (hv : okv v) (h : okB S) : okB (v :: S) := fun w hw => (List.mem_cons.mp hw).elim (fun e => e ▸ hv) (h w)
theorem okB.tail {v : AV} {S : AS} (h : okB (v :: S)) : okB S := fun w hw => h w (List.mem_cons_of_mem _ hw)
theorem okB.head {v : AV} {S : AS} (h : okB (v :: S)) : okv v := h v List.mem_cons_self
theorem entL_ok : ∀ (as : List AV), okB as → ∀ (i : Nat) (v : AV), lget (entL as) i = some v → okv v
  | [], _, i, _, h => by
    have h : lget [] i = some _ := h
    rw [lget_nil] at h; cases h
  | .inl x :: r, _, 0, v, h => by cases h; exact trivial
  | .inl x :: r, hb, i + 1, v, h => entL_ok r hb.tail i v h
  | .inr (.inr x) :: r, hb, 0, v, h => by cases h; exact hb.head
  | .inr (.inr x) :: r, hb, i + 1, v, h => entL_ok r hb.tail i v h
  | .inr (.inl x) :: r, _, 0, v, h => by cases h; exact trivial
  | .inr (.inl x) :: r, _, 1, v, h => by cases h
  | .inr (.inl x) :: r, hb, i + 2, v, h => entL_ok r hb.tail i v h
theorem okA.entry {as : List AV} {n : Nat} (h : okB as) : okA (padL n (entL as)) := fun i v hi => entL_ok as h i v (padL_get _ _ _ _ hi)
theorem takA_split (ad : Nat → Nat → Nat) : ∀ (n : Nat) (S acc : AS) (as R : List AV), takA n S acc = some (as, R) → ∃ t, as = t.reverse ++ acc ∧ S = t ++ R ∧ t.length = n
  | 0, S, acc, as, R, h => by
    cases h
    exact ⟨[], rfl, rfl, rfl⟩
  | n + 1, [], acc, as, R, h => by cases h
  | n + 1, v :: S, acc, as, R, h => by
    obtain ⟨t, h1, h2, h3⟩ := takA_split ad n S (v :: acc) as R h
    refine ⟨v :: t, ?_, ?_, ?_⟩
    · rw [h1, List.reverse_cons, List.append_assoc]; rfl
    · rw [h2]; rfl
    · rw [List.length_cons, h3]
