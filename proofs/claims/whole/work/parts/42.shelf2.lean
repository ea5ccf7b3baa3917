/-! SHELVES, ROWS -/
theorem neg1_lt10 : (-1 : Int32) < 10 := by decide
theorem neg1_nI {n : Nat} (h : n < 2 ^ 31) : ¬ nI n = -1 := by
  intro q
  have := congrArg Int32.toInt q
  rw [nI_toInt h] at this
  have e : (-1 : Int32).toInt = -1 := by decide
  omega
theorem nI_in' {c N : Nat} (h : c < N) (hN : N < 2 ^ 31) : ¬ (nI c < 0 ∨ N ≤ c) := fun q => q.elim (nI_pos (by omega)) (by omega)
theorem c_holdsParish {d s : Nat} (V : Mem) : clI (d + 1) m_Shelf_holdsParish [.inr (.inr (23, s))] V = some (bI (¬ V.1 23 s 1 < 10), V) := by
  apply clI_of
  refine (e_Shelf_holdsParish_0 d s V).trans ?_
  by_cases h1 : V.1 23 s 1 < 10
  · rw [if_pos h1, bI_f (fun h => h h1)]
  · rw [if_neg h1, bI_t h1]
theorem c_asRow0 {d s k : Nat} {V : Mem} (hk : k < 5) (h : V.1 23 s 1 = nI k) : clI (d + 2) m_Shelf_refusalAsRow [.inr (.inr (23, s))] V = some (0, V) := by
  apply clI_of
  refine (e_Shelf_refusalAsRow_0 (d + 1) s V).trans ?_
  rw [c_holdsParish, bind_some', h, bI_f (fun q => q (nI_lt (b := 10) (by omega) (by omega))), if_pos rfl, if_neg (neg1_nI (by omega))]
theorem c_asRowN {d s : Nat} {V : Mem} (h : V.1 23 s 1 = -1) : clI (d + 2) m_Shelf_refusalAsRow [.inr (.inr (23, s))] V = some (-4, V) := by
  apply clI_of
  refine (e_Shelf_refusalAsRow_0 (d + 1) s V).trans ?_
  rw [c_holdsParish, bind_some', h, bI_f (fun q => q neg1_lt10), if_pos rfl, if_pos rfl]
theorem c_asRowP {d s x : Nat} {V : Mem} (hx : x < 6) (h : V.1 23 s 1 = nI (10 + x)) : clI (d + 2) m_Shelf_refusalAsRow [.inr (.inr (23, s))] V = some (-3, V) := by
  apply clI_of
  refine (e_Shelf_refusalAsRow_0 (d + 1) s V).trans ?_
  rw [c_holdsParish, bind_some', h, bI_t (show ¬ nI (10 + x) < 10 from nI_nlt (b := 10) (by omega) (by omega)), if_neg one_ne]
theorem c_hasEl0 {d s k n : Nat} {V : Mem} (hk : k < 5) (h : V.1 23 s 1 = nI k) (h2 : V.1 23 s 2 = nI n) (x : Int32) : clI (d + 3) m_Shelf_hasElement [.inr (.inr (23, s)), .inl x] V = some (bI (inR n x), V) := by
  apply clI_of
  refine (e_Shelf_hasElement_0 (d + 2) s x V).trans ?_
  rw [c_asRow0 hk h, bind_some', if_pos rfl]
  by_cases h1 : x < 0
  · rw [if_pos h1, bI_f (fun q => q.1 h1)]
  · rw [if_neg h1, h2]
    by_cases h3 : x < nI n
    · rw [if_pos h3, bI_t ⟨h1, h3⟩]
    · rw [if_neg h3, bI_f (fun q => h3 q.2)]
theorem c_hasElN {d s : Nat} {V : Mem} (h : V.1 23 s 1 = -1) (x : Int32) : clI (d + 3) m_Shelf_hasElement [.inr (.inr (23, s)), .inl x] V = some (0, V) := by
  apply clI_of
  refine (e_Shelf_hasElement_0 (d + 2) s x V).trans ?_
  rw [c_asRowN h, bind_some', if_neg (show ¬ (-4 : Int32) = 0 by decide)]
theorem c_hasElP {d s y : Nat} {V : Mem} (hy : y < 6) (h : V.1 23 s 1 = nI (10 + y)) (x : Int32) : clI (d + 3) m_Shelf_hasElement [.inr (.inr (23, s)), .inl x] V = some (0, V) := by
  apply clI_of
  refine (e_Shelf_hasElement_0 (d + 2) s x V).trans ?_
  rw [c_asRowP hy h, bind_some', if_neg (show ¬ (-3 : Int32) = 0 by decide)]
theorem pm_element (SL : Nat) (xs : Nat → Int32) (a1 : Int32) (a2 : Int32) : PMJ SL xs m_C_element m_M_element [.inl a1, .inl a2] := by
  intro V h
  rcases ix_or a1 (n := 8) (by omega) with hN | ⟨j, hj, rfl⟩
  · refine ⟨0, V, V, clJ_of ((e_C_element_0 29 a1 a2 V).trans ?_), h.vok, clJ_of ((e_M_element_0 29 a1 a2 V).trans ?_), h⟩
    · rw [c_C_isShelf, bind_some', bI_f hN, if_pos rfl]
    · rw [c_M_isShelf, bind_some', bI_f hN, if_pos rfl]
  · obtain ⟨K, k1, k2, k3, k4⟩ := h.1
    obtain ⟨⟨n, n1, n2, n3⟩, el⟩ := h.2.2.2.1 j hj
    obtain ⟨o1, o2⟩ := k4 j hj
    have hK := k1.2.1
    have pre : ∀ {A : Type} (x y : A), (if (1 : Int32) = 0 then x else if nI j < 0 ∨ 8 ≤ (nI j).toNatClampNeg then x else y) = y := fun x y => by rw [if_neg one_ne, if_neg (nI_in hj (by omega))]
    rcases o1 with o | ⟨k, hk, o⟩ | ⟨x, hx, o⟩
    · refine ⟨0, V, V, clJ_of ((e_C_element_0 29 _ a2 V).trans ?_), h.vok, clJ_of ((e_M_element_0 29 _ a2 V).trans ?_), h⟩
      · rw [c_C_isShelf, bind_some', bI_t (ix_in hj (by omega)), if_neg one_ne, if_neg (nI_in hj (by omega)), nI_clamp (by omega), c_hasElN o, bind_some', if_pos rfl]
      · rw [c_M_isShelf, bind_some', bI_t (ix_in hj (by omega)), if_neg one_ne, if_neg (nI_in hj (by omega)), nI_clamp (by omega), o2, o, c_in0_4, bind_some', bI_f (by decide), if_pos rfl]
    · rcases ix_or a2 (n := n) (by omega) with hM | ⟨i, hi, rfl⟩
      · refine ⟨0, V, V, clJ_of ((e_C_element_0 29 _ a2 V).trans ?_), h.vok, clJ_of ((e_M_element_0 29 _ a2 V).trans ?_), h⟩
        · rw [c_C_isShelf, bind_some', bI_t (ix_in hj (by omega)), if_neg one_ne, if_neg (nI_in hj (by omega)), nI_clamp (by omega), c_hasEl0 hk o n2, bind_some', bI_f hM, if_pos rfl]
        · rw [c_M_isShelf, bind_some', bI_t (ix_in hj (by omega)), if_neg one_ne, if_neg (nI_in hj (by omega)), nI_clamp (by omega), o2, o, c_in0_4, bind_some', bI_t (ix_in hk (by omega)), if_neg one_ne, if_neg (nI_in' hj (by omega))]
          simp only [n3]
          rw [c_in0p (by omega) _ rfl, bind_some', bI_f hM, if_pos rfl]
      · refine ⟨V.2 24 j i, V, V, clJ_of ((e_C_element_0 29 _ _ V).trans ?_), h.vok, clJ_of ((e_M_element_0 29 _ _ V).trans ?_), h⟩
        · rw [c_C_isShelf, bind_some', bI_t (ix_in hj (by omega)), if_neg one_ne, if_neg (nI_in hj (by omega)), nI_clamp (by omega), c_hasEl0 hk o n2, bind_some', bI_t (ix_in hi (by omega)), if_neg one_ne, if_neg (nI_in' hj (by omega)), if_neg (nI_in (N := 40) (by omega) (by omega)), nI_clamp (by omega)]
        · rw [c_M_isShelf, bind_some', bI_t (ix_in hj (by omega)), if_neg one_ne, if_neg (nI_in hj (by omega)), nI_clamp (by omega), o2, o, c_in0_4, bind_some', bI_t (ix_in hk (by omega)), if_neg one_ne, if_neg (nI_in' hj (by omega))]
          simp only [n3]
          rw [c_in0p (by omega) _ rfl, bind_some', bI_t (ix_in hi (by omega)), if_neg one_ne]
          simp (disch := omega) only [fa_lit, pk_mul, nI_add, nI_clamp, nI_ltI]
          rw [if_neg (by omega), el i (by omega)]
    · refine ⟨0, V, V, clJ_of ((e_C_element_0 29 _ a2 V).trans ?_), h.vok, clJ_of ((e_M_element_0 29 _ a2 V).trans ?_), h⟩
      · rw [c_C_isShelf, bind_some', bI_t (ix_in hj (by omega)), if_neg one_ne, if_neg (nI_in hj (by omega)), nI_clamp (by omega), c_hasElP (by omega) o, bind_some', if_pos rfl]
      · rw [c_M_isShelf, bind_some', bI_t (ix_in hj (by omega)), if_neg one_ne, if_neg (nI_in hj (by omega)), nI_clamp (by omega), o2, o, c_in0_4, bind_some', bI_f (fun q => by have := q.2; rw [nI_ltI (by omega) (by omega)] at this; omega), if_pos rfl]
