/-! SHELVES: set, copy -/
def putv (w : Int32) (v : Int64) : Int64 := if w = 0 then Int32.toInt64 ((Int32.toInt8 (Int64.toInt32 v)).toInt32) else if w = 1 then Int32.toInt64 ((Int32.toInt16 (Int64.toInt32 v)).toInt32) else if w = 2 then Int32.toInt64 (Int64.toInt32 v) else if w = 3 then v else if lg_cmp v 0 = 0 then 0 else 1
theorem putv_eq {β : Type} (f : Int64 → β) (w : Int32) (v : Int64) : (if w = 0 then f (Int32.toInt64 ((Int32.toInt8 (Int64.toInt32 v)).toInt32)) else if w = 1 then f (Int32.toInt64 ((Int32.toInt16 (Int64.toInt32 v)).toInt32)) else if w = 2 then f (Int32.toInt64 (Int64.toInt32 v)) else if w = 3 then f v else if lg_cmp v 0 = 0 then f 0 else f 1) = f (putv w v) := by
  unfold putv
  by_cases h0 : w = 0
  · rw [if_pos h0, if_pos h0]
  rw [if_neg h0, if_neg h0]
  by_cases h1 : w = 1
  · rw [if_pos h1, if_pos h1]
  rw [if_neg h1, if_neg h1]
  by_cases h2 : w = 2
  · rw [if_pos h2, if_pos h2]
  rw [if_neg h2, if_neg h2]
  by_cases h3 : w = 3
  · rw [if_pos h3, if_pos h3]
  rw [if_neg h3, if_neg h3]
  by_cases h4 : lg_cmp v 0 = 0
  · rw [if_pos h4, if_pos h4]
  · rw [if_neg h4, if_neg h4]
theorem c_put {d s i : Nat} (hi : i < 40) (v : Int64) (V : Mem) : clV (d + 1) m_Shelf_put [.inr (.inr (23, s)), .inl (nI i), .inr (.inl v)] V = some (V.1, mset V.2 24 s i (putv (V.1 23 s 1) v)) := by
  apply clV_of
  refine (e_Shelf_put_0 d s (nI i) v V).trans ?_
  simp only [nI_in (c := i) (N := 40) hi (by omega), if_false]
  rw [nI_clamp (by omega)]
  exact putv_eq (fun z => some (none, (V.1, mset V.2 24 s i z))) (V.1 23 s 1) v
theorem c_rowIn0 {d s k : Nat} {V : Mem} (hs : s < 8) (hk : k < 5) (h : V.1 42 0 s = nI k) : clI (d + 1) m_M_rowIn [.inr (.inr (30, 0)), .inl (nI s)] V = some (1, V) := by
  apply clI_of
  refine (e_M_rowIn_0 d (nI s) V).trans ?_
  rw [if_neg (nI_in hs (by omega)), if_neg (nI_in hs (by omega)), nI_clamp (by omega), h, if_pos (show nI k < 10 from nI_lt (b := 10) (by omega) (by omega)), if_neg (neg1_nI (by omega))]
theorem c_rowInN {d s : Nat} {V : Mem} (hs : s < 8) (h : V.1 42 0 s = -1) : clI (d + 1) m_M_rowIn [.inr (.inr (30, 0)), .inl (nI s)] V = some (-4, V) := by
  apply clI_of
  refine (e_M_rowIn_0 d (nI s) V).trans ?_
  rw [if_neg (nI_in hs (by omega)), if_neg (nI_in hs (by omega)), nI_clamp (by omega), h, if_pos neg1_lt10, if_pos rfl]
theorem c_rowInP {d s x : Nat} {V : Mem} (hs : s < 8) (hx : x < 6) (h : V.1 42 0 s = nI (10 + x)) : clI (d + 1) m_M_rowIn [.inr (.inr (30, 0)), .inl (nI s)] V = some (-3, V) := by
  apply clI_of
  refine (e_M_rowIn_0 d (nI s) V).trans ?_
  rw [if_neg (nI_in hs (by omega)), nI_clamp (by omega), h, if_neg (show ¬ nI (10 + x) < 10 from nI_nlt (b := 10) (by omega) (by omega))]
theorem CRf_n {V : Mem} {k t i k' : Nat} (h : ¬ t = 25) : (CRf V k).1 t i k' = V.1 t i k' := by
  unfold CRf
  simp (disch := omega) only [mset_n]
theorem pm_set (SL : Nat) (xs : Nat → Int32) (a1 : Int32) (a2 : Int32) (a3 : Int64) : PMI SL xs m_C_set m_M_set [.inl a1, .inl a2, .inr (.inl a3)] := by
  intro V h
  rcases ix_or a1 (n := 8) (by omega) with hN | ⟨j, hj, rfl⟩
  · refine PMI_ref h (k := 0) (x := -2) (by omega) (clI_of ((e_C_set_0 29 a1 a2 a3 V).trans ?_)) (fun V' => clI_of ((e_M_set_0 29 a1 a2 a3 V').trans ?_))
    · rw [c_C_isShelf, bind_some', bI_f hN, if_pos rfl, c_C_ref2, bind_some']
    · rw [c_M_isShelf, bind_some', bI_f hN, if_pos rfl, c_M_ref2, bind_some']
  obtain ⟨K, k1, k2, k3, k4⟩ := h.1
  obtain ⟨⟨n, n1, n2, n3⟩, el⟩ := h.2.2.2.1 j hj
  obtain ⟨o1, o2⟩ := k4 j hj
  have hK := k1.2.1
  rcases o1 with o | ⟨k, hk, o⟩ | ⟨x, hx, o⟩
  · refine ⟨-4, CRf V 2, MRf (CRf V 2) 2, clI_of ((e_C_set_0 29 _ a2 a3 V).trans ?_), h.vok.crf 2, clI_of ((e_M_set_0 29 _ a2 a3 _).trans ?_), h.ref (by omega)⟩
    · rw [c_C_isShelf, bind_some', bI_t (ix_in hj (by omega)), if_neg one_ne, if_neg (nI_in hj (by omega)), nI_clamp (by omega), c_asRowN o, bind_some', if_neg (show ¬ (-4 : Int32) = 0 by decide), c_C_ref4, bind_some']
    · have q : (CRf V 2).1 42 0 j = -1 := by rw [CRf_n (by omega), o2, o]
      rw [c_M_isShelf, bind_some', bI_t (ix_in hj (by omega)), if_neg one_ne, c_rowInN hj q, bind_some', if_pos (show (-4 : Int32) < 0 by decide), c_rowInN hj q, bind_some', c_M_ref4, bind_some']
  · have q : ∀ e, (CRf V e).1 42 0 j = nI k := fun e => by rw [CRf_n (by omega), o2, o]
    have q3 : ∀ e, (CRf V e).1 43 0 j = nI n := fun e => by rw [CRf_n (by omega), n3]
    rcases ix_or a2 (n := n) (by omega) with hM | ⟨i, hi, rfl⟩
    · refine ⟨-2, CRf V 0, MRf (CRf V 0) 0, clI_of ((e_C_set_0 29 _ a2 a3 V).trans ?_), h.vok.crf 0, clI_of ((e_M_set_0 29 _ a2 a3 _).trans ?_), h.ref (by omega)⟩
      · rw [c_C_isShelf, bind_some', bI_t (ix_in hj (by omega)), if_neg one_ne, if_neg (nI_in hj (by omega)), nI_clamp (by omega), c_asRow0 hk o, bind_some', if_pos rfl, c_hasEl0 hk o n2, bind_some', bI_f hM, if_pos rfl, c_C_ref2, bind_some']
      · rw [c_M_isShelf, bind_some', bI_t (ix_in hj (by omega)), if_neg one_ne, c_rowIn0 hj hk (q 0), bind_some', if_neg (show ¬ (1 : Int32) < 0 by decide), if_neg (nI_in hj (by omega)), nI_clamp (by omega), c_in0p (by omega) _ (q3 0), bind_some', bI_f hM, if_pos rfl, c_M_ref2, bind_some']
    · refine ⟨1, (V.1, mset V.2 24 j i (putv (nI k) a3)), (V.1, mset (mset V.2 24 j i (putv (nI k) a3)) 44 0 (40 * j + i) (putv (nI k) a3)), clI_of ((e_C_set_0 29 _ _ a3 V).trans ?_), h.vok.ag (Ag.setL (by unfold dp8; omega) Ag.rfl), clI_of ((e_M_set_0 29 _ _ a3 _).trans ?_), ?_⟩
      · rw [c_C_isShelf, bind_some', bI_t (ix_in hj (by omega)), if_neg one_ne, if_neg (nI_in hj (by omega)), nI_clamp (by omega), c_asRow0 hk o, bind_some', if_pos rfl, c_hasEl0 hk o n2, bind_some', bI_t (ix_in hi (by omega)), if_neg one_ne, c_put (by omega), bind_some', o]
      · have g : 40 * nI j + nI i = nI (40 * j + i) := by
          show nI 40 * nI j + nI i = _
          rw [pk_mul, nI_add]
        rw [c_M_isShelf, bind_some', bI_t (ix_in hj (by omega)), if_neg one_ne, c_rowIn0 (V := (V.1, mset V.2 24 j i (putv (nI k) a3))) hj hk (o2.trans o), bind_some', if_neg (show ¬ (1 : Int32) < 0 by decide), if_neg (nI_in hj (by omega)), nI_clamp (by omega), c_in0p (by omega) _ n3, bind_some', bI_t (ix_in hi (by omega)), if_neg one_ne, if_neg (nI_in' hj (by omega))]
        simp only [g, nI_in (c := 40 * j + i) (N := 320) (by omega) (by omega), if_false]
        rw [nI_clamp (by omega), o2, o]
        exact putv_eq (fun z => some (some (Sum.inl 1 : AV), (V.1, mset (mset V.2 24 j i (putv (nI k) a3)) 44 0 (40 * j + i) z))) (nI k) a3
      · refine h.shelf (Ag.setL (by unfold dpH dp2 dp3 dp5 dp6 dp7 dp8; omega) (Ag.setL (by unfold dpH dp2 dp3 dp5 dp6 dp7 dp8; omega) Ag.rfl)) (I1.ag h.1 (Ag.setL (by unfold dp1; omega) (Ag.setL (by unfold dp1; omega) Ag.rfl))) ?_
        intro s hs
        obtain ⟨w0, w4⟩ := h.2.2.2.1 s hs
        refine ⟨w0, fun m hm => ?_⟩
        by_cases e : s = j ∧ m = i
        · obtain ⟨rfl, rfl⟩ := e
          simp (disch := omega) only [mset_n, mset_h]
        · simp (disch := omega) only [mset_n]
          exact w4 m hm
  · refine ⟨-3, CRf V 1, MRf (CRf V 1) 1, clI_of ((e_C_set_0 29 _ a2 a3 V).trans ?_), h.vok.crf 1, clI_of ((e_M_set_0 29 _ a2 a3 _).trans ?_), h.ref (by omega)⟩
    · rw [c_C_isShelf, bind_some', bI_t (ix_in hj (by omega)), if_neg one_ne, if_neg (nI_in hj (by omega)), nI_clamp (by omega), c_asRowP (by omega) o, bind_some', if_neg (show ¬ (-3 : Int32) = 0 by decide), c_C_ref3, bind_some']
    · have q : (CRf V 1).1 42 0 j = nI (10 + x) := by rw [CRf_n (by omega), o2, o]
      rw [c_M_isShelf, bind_some', bI_t (ix_in hj (by omega)), if_neg one_ne, c_rowInP hj (by omega) q, bind_some', if_pos (show (-3 : Int32) < 0 by decide), c_rowInP hj (by omega) q, bind_some', c_M_ref3, bind_some']
