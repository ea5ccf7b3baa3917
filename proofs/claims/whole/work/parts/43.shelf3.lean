/-! SHELVES: show, row, set, copy -/
def dpK (t i _k : Nat) : Prop := ((t = 1 ∨ t = 2 ∨ t = 3) ∧ i = 0) ∨ ((t = 5 ∨ t = 6 ∨ t = 7) ∧ i < 6)
theorem CS.eq0 {V V' : Mem} {K : SKY} (hx : kNX K ≤ 6) (h : CS V 0 K) (hc : ∀ t i k, dpK t i k → V'.1 t i k = V.1 t i k) : CS V' 0 K := by
  have c1 : ∀ k, V'.1 1 0 k = V.1 1 0 k := fun k => hc 1 0 k (by unfold dpK; omega)
  have c2 : ∀ k, V'.1 2 0 k = V.1 2 0 k := fun k => hc 2 0 k (by unfold dpK; omega)
  have c3 : ∀ k, V'.1 3 0 k = V.1 3 0 k := fun k => hc 3 0 k (by unfold dpK; omega)
  have c5 : ∀ j, j < 6 → ∀ k, V'.1 5 j k = V.1 5 j k := fun j hj k => hc 5 j k (by unfold dpK; omega)
  have c6 : ∀ j, j < 6 → ∀ k, V'.1 6 j k = V.1 6 j k := fun j hj k => hc 6 j k (by unfold dpK; omega)
  have c7 : ∀ j, j < 6 → ∀ k, V'.1 7 j k = V.1 7 j k := fun j hj k => hc 7 j k (by unfold dpK; omega)
  obtain ⟨⟨h1, h2, h3, h4⟩, h5, h6⟩ := h
  refine ⟨⟨by rw [c1]; exact h1, by rw [c1]; exact h2, by rw [c1]; exact h3, by rw [c1]; exact h4⟩, fun p hp => ⟨by rw [c2]; exact (h5 p hp).1, by rw [c3]; exact (h5 p hp).2⟩, fun x h9 => ?_⟩
  have hj : x + 6 * 0 < 6 := by omega
  obtain ⟨g1, g2, g3, g4, g5⟩ := h6 x h9
  exact ⟨by rw [c5 _ hj]; exact g1, by rw [c5 _ hj]; exact g2, by rw [c5 _ hj]; exact g3, by rw [c5 _ hj]; exact g4, fun i hi => ⟨by rw [c6 _ hj]; exact (g5 i hi).1, by rw [c7 _ hj]; exact (g5 i hi).2⟩⟩
theorem I1.word {V V' : Mem} {K : SKY} (k1 : okK K) (k2 : CS V 0 K) (k3 : MS V 32 0 K) (k4 : ∀ s, s < 8 → okH (kNX K) (V.1 23 s 1) ∧ V.1 42 0 s = V.1 23 s 1) {j : Nat} {w : Int32} (hw : okH (kNX K) w)
    (c : ∀ t i k, ¬ (t = 23 ∧ i = j) → ¬ (t = 42 ∧ k = j) → ¬ t = 43 → V'.1 t i k = V.1 t i k) (e1 : V'.1 23 j 1 = w) (e2 : V'.1 42 0 j = w) : I1 V' := by
  refine ⟨K, k1, k2.eq0 k1.2.1 (fun t i k q => c t i k (by unfold dpK at q; omega) (by unfold dpK at q; omega) (by unfold dpK at q; omega)), k3.same (funext fun k => c 32 0 k (by omega) (by omega) (by omega)), fun s hs => ?_⟩
  by_cases e : s = j
  · subst e
    rw [e1, e2]
    exact ⟨hw, rfl⟩
  · rw [c 23 s 1 (by omega) (by omega) (by omega), c 42 0 s (by omega) (by omega) (by omega)]
    exact k4 s hs
theorem pm_show (SL : Nat) (xs : Nat → Int32) (a1 : Int32) (a2 : Int32) : PMI SL xs m_C_show m_M_show [.inl a1, .inl a2] := by
  intro V h
  obtain ⟨K, k1, k2, k3, k4⟩ := h.1
  have hK := k1.2.1
  have m175 : ∀ k, (CRf V k).1 32 0 175 = nI (kNX K) := fun k => by unfold CRf; simp (disch := omega) only [mset_n]; exact k3.1.2.1
  rcases ix_or a1 (n := 8) (by omega) with hN | ⟨j, hj, rfl⟩
  · refine ⟨-2, CRf V 0, MRf (CRf V 0) 0, clI_of ((e_C_show_0 29 a1 a2 V).trans ?_), h.vok.crf 0, clI_of ((e_M_show_0 29 a1 a2 _).trans ?_), h.ref (by omega)⟩
    · rw [c_C_isShelf, bind_some', bI_f hN, if_pos rfl, e_C_show_21, c_C_ref2, bind_some']
    · rw [c_M_isShelf, bind_some', bI_f hN, if_pos rfl, e_M_show_20, c_M_ref2, bind_some']
  · by_cases hm : a2 = -1
    · refine ⟨1, (mset V.1 23 j 1 (-1), V.2), (mset (mset V.1 23 j 1 (-1)) 42 0 j (-1), V.2), clI_of ((e_C_show_0 29 _ a2 V).trans ?_), h.vok.ag (Ag.set (by unfold dp8; omega) Ag.rfl), clI_of ((e_M_show_0 29 _ a2 _).trans ?_), ?_⟩
      · rw [c_C_isShelf, bind_some', bI_t (ix_in hj (by omega)), if_neg one_ne, if_pos hm, e_C_show_28, if_neg (nI_in hj (by omega)), if_pos hm, nI_clamp (by omega)]
      · rw [c_M_isShelf, bind_some', bI_t (ix_in hj (by omega)), if_neg one_ne, if_pos hm, e_M_show_27, if_pos hm, if_neg (nI_in hj (by omega)), nI_clamp (by omega)]
      · refine h.shelf (Ag.set (by unfold dpH dp2 dp3 dp5 dp6 dp7 dp8; omega) (Ag.set (by unfold dpH dp2 dp3 dp5 dp6 dp7 dp8; omega) Ag.rfl)) ?_ (I4.ag h.2.2.2.1 (Ag.set (by unfold dp4; omega) (Ag.set (by unfold dp4; omega) Ag.rfl)))
        refine I1.word k1 k2 k3 k4 (j := j) (w := -1) (Or.inl rfl) (fun t i k q1 q2 _ => ?_) ?_ ?_
        · simp (disch := omega) only [mset_n]
        · simp (disch := omega) only [mset_n, mset_h]
        · simp (disch := omega) only [mset_n, mset_h]
    · rcases ix_or a2 (n := kNX K) (by omega) with hM | ⟨x, hx, rfl⟩
      · refine ⟨-2, CRf V 0, MRf (CRf V 0) 0, clI_of ((e_C_show_0 29 _ a2 V).trans ?_), h.vok.crf 0, clI_of ((e_M_show_0 29 _ a2 _).trans ?_), h.ref (by omega)⟩
        · rw [c_C_isShelf, bind_some', bI_t (ix_in hj (by omega)), if_neg one_ne, if_neg hm, c_C_isParish, bind_some', k2.1.2.1, bI_f hM, if_pos rfl, e_C_show_21, c_C_ref2, bind_some']
        · rw [c_M_isShelf, bind_some', bI_t (ix_in hj (by omega)), if_neg one_ne, if_neg hm, c_M_isParish (by omega) a2 (m175 0), bind_some', bI_f hM, if_pos rfl, e_M_show_20, c_M_ref2, bind_some']
      · refine ⟨1, (mset V.1 23 j 1 (10 + nI x), V.2), (mset (mset V.1 23 j 1 (10 + nI x)) 42 0 j (10 + nI x), V.2), clI_of ((e_C_show_0 29 _ _ V).trans ?_), h.vok.ag (Ag.set (by unfold dp8; omega) Ag.rfl), clI_of ((e_M_show_0 29 _ _ _).trans ?_), ?_⟩
        · rw [c_C_isShelf, bind_some', bI_t (ix_in hj (by omega)), if_neg one_ne, if_neg hm, c_C_isParish, bind_some', k2.1.2.1, bI_t (ix_in hx (by omega)), if_neg one_ne, e_C_show_28, if_neg (nI_in hj (by omega)), if_neg hm, nI_clamp (by omega)]
        · rw [c_M_isShelf, bind_some', bI_t (ix_in hj (by omega)), if_neg one_ne, if_neg hm, c_M_isParish (n := kNX K) (by omega) _ (by simp (disch := omega) only [mset_n]; exact k3.1.2.1), bind_some', bI_t (ix_in hx (by omega)), if_neg one_ne, e_M_show_27, if_neg hm, if_neg (nI_in hj (by omega)), nI_clamp (by omega)]
        · refine h.shelf (Ag.set (by unfold dpH dp2 dp3 dp5 dp6 dp7 dp8; omega) (Ag.set (by unfold dpH dp2 dp3 dp5 dp6 dp7 dp8; omega) Ag.rfl)) ?_ (I4.ag h.2.2.2.1 (Ag.set (by unfold dp4; omega) (Ag.set (by unfold dp4; omega) Ag.rfl)))
          refine I1.word k1 k2 k3 k4 (j := j) (w := 10 + nI x) (Or.inr (Or.inr ⟨x, hx, nI_add 10 x⟩)) (fun t i k q1 q2 _ => ?_) ?_ ?_
          · simp (disch := omega) only [mset_n]
          · simp (disch := omega) only [mset_n, mset_h]
          · simp (disch := omega) only [mset_n, mset_h]
/-- a stretch of cells all x -/
def mfo {α : Type} (f : Nat → Nat → Nat → α) (t i o n : Nat) (x : α) : Nat → Nat → Nat → α := fun t' i' k' => if t' = t ∧ i' = i ∧ o ≤ k' ∧ k' < o + n then x else f t' i' k'
theorem mfo_0 {α : Type} (f : Nat → Nat → Nat → α) (t i o : Nat) (x : α) : mfo f t i o 0 x = f := by
  funext t' i' k'
  unfold mfo
  rw [if_neg (by omega)]
theorem mfo_s {α : Type} (f : Nat → Nat → Nat → α) (t i o n : Nat) (x : α) : mset (mfo f t i o n x) t i (o + n) x = mfo f t i o (n + 1) x := by
  funext t' i' k'
  unfold mset mfo
  by_cases h : t' = t ∧ i' = i ∧ k' = o + n
  · rw [if_pos h, if_pos (by omega)]
  · rw [if_neg h]
    by_cases h2 : t' = t ∧ i' = i ∧ o ≤ k' ∧ k' < o + n
    · rw [if_pos h2, if_pos (by omega)]
    · rw [if_neg h2, if_neg (by omega)]
theorem mfo_in {α : Type} {f : Nat → Nat → Nat → α} {t i o n t' i' k' : Nat} {x : α} (h : t' = t ∧ i' = i ∧ o ≤ k' ∧ k' < o + n) : mfo f t i o n x t' i' k' = x := if_pos h
theorem mfo_out {α : Type} {f : Nat → Nat → Nat → α} {t i o n t' i' k' : Nat} {x : α} (h : ¬ (t' = t ∧ i' = i ∧ o ≤ k' ∧ k' < o + n)) : mfo f t i o n x t' i' k' = f t' i' k' := if_neg h
theorem Ag.filL {P : Nat → Nat → Nat → Prop} {V : Mem} {F : Nat → Nat → Nat → Int32} {G : Nat → Nat → Nat → Int64} {t i o n : Nat} {x : Int64} (hn : ∀ k, ¬ P t i k) (h : Ag P V (F, G)) : Ag P V (F, mfo G t i o n x) := by
  intro t' i' k' hc
  refine ⟨(h t' i' k' hc).1, ?_⟩
  show mfo G t i o n x t' i' k' = _
  rw [mfo_out (fun q => hn k' (by obtain ⟨rfl, rfl, -⟩ := q; exact hc))]
  exact (h t' i' k' hc).2
theorem fill24 (d s : Nat) (x : Int64) (F : Nat → Nat → Nat → Int32) (G : Nat → Nat → Nat → Int64) : ∀ m p, p + m = 40 → sem d 225 6 [some (.inr (.inr (24, s))), some (.inr (.inl x)), none, some (.inl (nI p)), some (.inl (nI 40))] [] (F, mfo G 24 s 0 p x) = some (none, (F, mfo G 24 s 0 40 x)) := by
  intro m
  induction m with
  | zero =>
    intro p hp
    obtain rfl : p = 40 := by omega
    rw [e_Arrays_fill_AJJV_t24_6, if_neg (nI_nlt (by omega) (by omega))]
  | succ m ih =>
    intro p hp
    rw [e_Arrays_fill_AJJV_t24_6, if_pos (nI_lt (by omega) (by omega)), if_neg (nI_in (N := 40) (by omega) (by omega)), nI_clamp (by omega), nI_1]
    have := mfo_s G 24 s 0 p x
    rw [Nat.zero_add] at this
    simp only [this]
    exact ih (p + 1) (by omega)
theorem c_fill24 {d s : Nat} (x : Int64) (V : Mem) : clV (d + 1) m_Arrays_fill_AJJV [.inr (.inr (24, s)), .inr (.inl x)] V = some (V.1, mfo V.2 24 s 0 40 x) := by
  apply clV_of
  refine (e_Arrays_fill_AJJV_t24_0 d s x V).trans ?_
  have := fill24 d s x V.1 V.2 40 0 (by omega)
  rw [mfo_0] at this
  exact this
theorem c_takeRow {d s : Nat} (x y : Int32) (V : Mem) : clV (d + 2) m_Shelf_takeRow [.inr (.inr (23, s)), .inl x, .inl y] V = some (mset (mset V.1 23 s 1 x) 23 s 2 y, mfo V.2 24 s 0 40 0) := by
  apply clV_of
  refine (e_Shelf_takeRow_0 (d + 1) s x y V).trans ?_
  rw [c_fill24, bind_some']
theorem mrow55 (d j : Nat) (hj : j < 8) (x y : Int32) (F : Nat → Nat → Nat → Int32) (G : Nat → Nat → Nat → Int64) : ∀ m p, p + m = 40 → sem d 203 55 [some (.inr (.inr (30, 0))), some (.inl (nI j)), some (.inl x), some (.inl y), some (.inl (nI p))] [] (F, mfo G 44 0 (40 * j) p 0) = some (some (.inl 1), (F, mfo G 44 0 (40 * j) 40 0)) := by
  intro m
  induction m with
  | zero =>
    intro p hp
    obtain rfl : p = 40 := by omega
    rw [e_M_row_55, if_neg (show ¬ nI 40 < 40 from nI_nlt (b := 40) (by omega) (by omega))]
  | succ m ih =>
    intro p hp
    rw [e_M_row_55, if_pos (show nI p < 40 from nI_lt (b := 40) (by omega) (by omega))]
    simp (disch := omega) only [fa_lit, pk_mul, nI_add, nI_clamp, nI_ltI]
    rw [if_neg (by omega), mfo_s]
    exact ih (p + 1) (by omega)
theorem gt_of {n : Nat} {x : Int32} (hn : n < 2 ^ 30) (h0 : ¬ x < 0) (h : ¬ inR (n + 1) x) : nI n < x := by
  have h2 : ¬ x < nI (n + 1) := fun q => h ⟨h0, q⟩
  rw [lt_toInt, nI_toInt (by omega)] at h2
  rw [lt_toInt, nI_toInt (by omega)]
  omega
theorem C_row_bad {d : Nat} {x1 x2 x3 : Int32} (h : ¬ (inR 5 x2 ∧ inR 41 x3)) (V : Mem) : sem d 74 0 [some (.inr (.inr (0, 0))), some (.inl x1), some (.inl x2), some (.inl x3), none] [] V = sem d 74 24 [some (.inr (.inr (0, 0))), some (.inl x1), some (.inl x2), some (.inl x3), none] [.inl 0] V := by
  rw [e_C_row_0, e_C_row_23]
  by_cases h1 : x2 < 0
  · rw [if_pos h1]
  · rw [if_neg h1]
    by_cases h2 : x2 < 5
    · rw [if_pos h2]
      by_cases h3 : x3 < 0
      · rw [if_pos h3]
      · rw [if_neg h3, if_pos (show 40 < x3 from gt_of (n := 40) (by omega) h3 (fun q => h ⟨⟨h1, h2⟩, q⟩))]
    · rw [if_neg h2]
theorem C_row_good {d i n : Nat} {x1 : Int32} (hi : i < 5) (hn : n < 41) (V : Mem) : sem d 74 0 [some (.inr (.inr (0, 0))), some (.inl x1), some (.inl (nI i)), some (.inl (nI n)), none] [] V = sem d 74 24 [some (.inr (.inr (0, 0))), some (.inl x1), some (.inl (nI i)), some (.inl (nI n)), none] [.inl 1] V := by
  rw [e_C_row_0, if_neg (nI_pos (by omega)), if_pos (show nI i < 5 from nI_lt (b := 5) hi (by omega)), if_neg (nI_pos (by omega)), if_neg (show ¬ 40 < nI n from nI_nlt (a := 40) (by omega) (by omega))]
theorem pm_row (SL : Nat) (xs : Nat → Int32) (a1 : Int32) (a2 : Int32) (a3 : Int32) : PMI SL xs m_C_row m_M_row [.inl a1, .inl a2, .inl a3] := by
  intro V h
  have bad : ¬ (inR 8 a1 ∧ inR 5 a2 ∧ inR 41 a3) → ∃ (r : Int32) (V1 V2 : Mem), clI 30 m_C_row [.inr (.inr (0, 0)), .inl a1, .inl a2, .inl a3] V = some (r, V1) ∧ Vok SL xs V1 ∧ clI 30 m_M_row [.inr (.inr (30, 0)), .inl a1, .inl a2, .inl a3] V1 = some (r, V2) ∧ Inv SL xs V2 := by
    intro q
    refine PMI_ref h (k := 0) (x := -2) (by omega) (clI_of ?_) (fun V' => clI_of ((e_M_row_0 29 a1 a2 a3 V').trans ?_))
    · have f39 : ∀ z, sem 29 74 39 [some (.inr (.inr (0, 0))), some (.inl a1), some (.inl a2), some (.inl a3), some (.inl z)] [] V = some (some (.inl (-2)), CRf V 0) := fun z => by
        rw [e_C_row_39, c_C_ref2, bind_some']
      by_cases h2 : inR 5 a2 ∧ inR 41 a3
      · obtain ⟨i, hi, rfl⟩ := (ix_or a2 (n := 5) (by omega)).resolve_left (fun w => w h2.1)
        obtain ⟨n, hn, rfl⟩ := (ix_or a3 (n := 41) (by omega)).resolve_left (fun w => w h2.2)
        refine (C_row_good hi hn V).trans ((e_C_row_24 29 a1 _ _ 1 V).trans ?_)
        rw [c_C_isShelf, bind_some', bI_f (fun w => q ⟨w, h2⟩), if_pos rfl]
        exact f39 1
      · refine (C_row_bad h2 V).trans ((e_C_row_24 29 a1 _ _ 0 V).trans ?_)
        rw [c_C_isShelf, bind_some']
        simp only [f39]
        by_cases hz : bI (inR 8 a1) = 0
        · rw [if_pos hz]
        · rw [if_neg hz, if_pos trivial]
    · rw [c_M_isShelf, bind_some']
      have f31 : sem 29 203 31 [some (.inr (.inr (30, 0))), some (.inl a1), some (.inl a2), some (.inl a3), none] [] V' = some (some (.inl (-2)), MRf V' 0) := by
        rw [e_M_row_31, c_M_ref2, bind_some']
      by_cases h1 : inR 8 a1
      · rw [bI_t h1, if_neg one_ne, c_in0_4, bind_some']
        by_cases h2 : inR 5 a2
        · rw [bI_t h2, if_neg one_ne, c_in0_40, bind_some', bI_f (fun w => q ⟨h1, h2, w⟩), if_pos rfl]
          exact f31
        · rw [bI_f h2, if_pos rfl]
          exact f31
      · rw [bI_f h1, if_pos rfl]
        exact f31
  rcases ix_or a1 (n := 8) (by omega) with hN | ⟨j, hj, rfl⟩
  · exact bad (fun w => hN w.1)
  rcases ix_or a2 (n := 5) (by omega) with hN | ⟨i, hi, rfl⟩
  · exact bad (fun w => hN w.2.1)
  rcases ix_or a3 (n := 41) (by omega) with hN | ⟨n, hn, rfl⟩
  · exact bad (fun w => hN w.2.2)
  clear bad
  obtain ⟨K, k1, k2, k3, k4⟩ := h.1
  refine ⟨1, (mset (mset V.1 23 j 1 (nI i)) 23 j 2 (nI n), mfo V.2 24 j 0 40 0), (mset (mset (mset (mset V.1 23 j 1 (nI i)) 23 j 2 (nI n)) 42 0 j (nI i)) 43 0 j (nI n), mfo (mfo V.2 24 j 0 40 0) 44 0 (40 * j) 40 0), clI_of ((C_row_good hi hn V).trans ((e_C_row_24 29 _ _ _ 1 V).trans ?_)), h.vok.ag (Ag.set (by unfold dp8; omega) (Ag.set (by unfold dp8; omega) (Ag.filL (by unfold dp8; omega) Ag.rfl))), clI_of ((e_M_row_0 29 _ _ _ _).trans ?_), ?_⟩
  · rw [c_C_isShelf, bind_some', bI_t (ix_in hj (by omega)), if_neg one_ne, if_neg one_ne, if_neg (nI_in hj (by omega)), nI_clamp (by omega), c_takeRow, bind_some']
  · rw [c_M_isShelf, bind_some', bI_t (ix_in hj (by omega)), if_neg one_ne, c_in0_4, bind_some', bI_t (ix_in hi (by omega)), if_neg one_ne, c_in0_40, bind_some', bI_t (ix_in hn (by omega)), if_neg one_ne, if_neg (nI_in hj (by omega)), if_neg (nI_in hj (by omega)), nI_clamp (by omega)]
    have := mrow55 29 j hj (nI i) (nI n) (mset (mset (mset (mset V.1 23 j 1 (nI i)) 23 j 2 (nI n)) 42 0 j (nI i)) 43 0 j (nI n)) (mfo V.2 24 j 0 40 0) 40 0 (by omega)
    rw [mfo_0] at this
    exact this
  · have ag : ∀ P : Nat → Nat → Nat → Prop, (∀ k, ¬ P 44 0 k) → (∀ k, ¬ P 24 j k) → (∀ k, ¬ P 23 j k) → (∀ k, ¬ P 42 0 k) → (∀ k, ¬ P 43 0 k) → Ag P V (mset (mset (mset (mset V.1 23 j 1 (nI i)) 23 j 2 (nI n)) 42 0 j (nI i)) 43 0 j (nI n), mfo (mfo V.2 24 j 0 40 0) 44 0 (40 * j) 40 0) := fun P p1 p2 p3 p4 p5 => Ag.filL p1 (Ag.filL p2 (Ag.set (p5 _) (Ag.set (p4 _) (Ag.set (p3 _) (Ag.set (p3 _) Ag.rfl)))))
    refine h.shelf (ag _ (by unfold dpH dp2 dp3 dp5 dp6 dp7 dp8; omega) (by unfold dpH dp2 dp3 dp5 dp6 dp7 dp8; omega) (by unfold dpH dp2 dp3 dp5 dp6 dp7 dp8; omega) (by unfold dpH dp2 dp3 dp5 dp6 dp7 dp8; omega) (by unfold dpH dp2 dp3 dp5 dp6 dp7 dp8; omega)) ?_ ?_
    · refine I1.word k1 k2 k3 k4 (j := j) (w := nI i) (Or.inr (Or.inl ⟨i, hi, rfl⟩)) (fun t i k q1 q2 _ => ?_) ?_ ?_
      · simp (disch := omega) only [mset_n]
      · simp (disch := omega) only [mset_n, mset_h]
      · simp (disch := omega) only [mset_n, mset_h]
    · intro s hs
      obtain ⟨⟨n', w1, w2, w3⟩, w4⟩ := h.2.2.2.1 s hs
      by_cases e : s = j
      · subst e
        refine ⟨⟨n, by omega, ?_, ?_⟩, fun k hk => ?_⟩
        · simp (disch := omega) only [mset_n, mset_h]
        · simp (disch := omega) only [mset_n, mset_h]
        · simp (disch := omega) only [mfo_in, mfo_out]
      · refine ⟨⟨n', w1, ?_, ?_⟩, fun k hk => ?_⟩
        · simp (disch := omega) only [mset_n, mset_h]; exact w2
        · simp (disch := omega) only [mset_n, mset_h]; exact w3
        · simp (disch := omega) only [mfo_in, mfo_out]; exact w4 k hk
