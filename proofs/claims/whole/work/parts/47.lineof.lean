/-! lineOf -/
theorem pm_lineOf (SL : Nat) (xs : Nat → Int32) (a1 : Int32) (a2 : Int32) : PMI SL xs m_C_lineOf m_M_lineOf [.inl a1, .inl a2] := by
  intro V h
  obtain ⟨K, k1, k2, k3, k4⟩ := h.1
  have hK := k1.2.1
  have m175 : ∀ k, (CRf V k).1 32 0 175 = nI (kNX K) := fun k => by rw [CRf_n (by omega)]; exact k3.1.2.1
  rcases ix_or a1 (n := kNX K) (by omega) with hN | ⟨x, hx, rfl⟩
  · refine ⟨-2, CRf V 0, MRf (CRf V 0) 0, clI_of ((e_C_lineOf_0 29 a1 a2 V).trans ?_), h.vok.crf 0, clI_of ((e_M_lineOf_0 29 a1 a2 _).trans ?_), h.ref (by omega)⟩
    · rw [c_C_isParish, bind_some', k2.1.2.1, bI_f hN, if_pos rfl, c_C_ref2, bind_some']
    · rw [c_M_isParish (by omega) a1 (m175 0), bind_some', bI_f hN, if_pos rfl, e_M_lineOf_25, c_M_ref2, bind_some']
  · have ln := (k2.2.2 x hx).2.2.2.1
    have lo := (k2.2.2 x hx).2.2.2.2
    rw [show x + 6 * 0 = x by omega] at ln lo
    obtain ⟨⟨m1, m2, m3⟩, m4⟩ := k3.2.2 x hx
    have hl := (k1.2.2.2.2 x hx).1.2.2
    have m3' : V.1 32 0 (38 + 23 * x) = nI (kLn K x) := by rw [← m3, Nat.zero_add]
    rcases ix_or a2 (n := kLn K x) (by omega) with hM | ⟨i, hi, rfl⟩
    · refine ⟨-2, CRf V 0, MRf (CRf V 0) 0, clI_of ((e_C_lineOf_0 29 _ a2 V).trans ?_), h.vok.crf 0, clI_of ((e_M_lineOf_0 29 _ a2 _).trans ?_), h.ref (by omega)⟩
      · rw [c_C_isParish, bind_some', k2.1.2.1, bI_t (ix_in hx (by omega)), if_neg one_ne, if_neg (nI_in (N := 6) (by omega) (by omega)), nI_clamp (by omega), e_C_lineOf_37, c_C_ref2, bind_some', ln]
        by_cases g : a2 < 0
        · rw [if_pos g]
        · rw [if_neg g, if_neg (fun q => hM ⟨g, q⟩)]
      · rw [c_M_isParish (by omega) _ (m175 0), bind_some', bI_t (ix_in hx (by omega)), if_neg one_ne, c_M_lines 28 (by omega), bind_some', c_in0p (n := kLn K x) (by omega) a2 (by rw [CRf_n (by omega)]; exact m3'), bind_some', bI_f hM, if_pos rfl, e_M_lineOf_25, c_M_ref2, bind_some']
    · refine ⟨100 * nI (kF K x i) + nI (kG K x i), V, V, clI_of ((e_C_lineOf_0 29 _ _ V).trans ?_), h.vok, clI_of ((e_M_lineOf_0 29 _ _ _).trans ?_), h⟩
      · rw [c_C_isParish, bind_some', k2.1.2.1, bI_t (ix_in hx (by omega)), if_neg one_ne, if_neg (nI_in (N := 6) (by omega) (by omega)), nI_clamp (n := x) (by omega), ln, if_neg (nI_pos (by omega)), if_pos (nI_lt hi (by omega)), if_neg (nI_in (N := 10) (by omega) (by omega)), if_neg (nI_in (N := 10) (by omega) (by omega)), nI_clamp (by omega), (lo i hi).1, (lo i hi).2]
      · have g0 : V.1 32 0 (39 + 23 * x + 2 * i + 0) = nI (kF K x i) := by rw [← (m4 i hi).1, Nat.zero_add, Nat.add_zero]
        have g1 : V.1 32 0 (39 + 23 * x + 2 * i + 1) = nI (kG K x i) := by rw [← (m4 i hi).2, Nat.zero_add]
        rw [c_M_isParish (by omega) _ k3.1.2.1, bind_some', bI_t (ix_in hx (by omega)), if_neg one_ne, c_M_lines 28 (by omega), bind_some', c_in0p (n := kLn K x) (by omega) _ m3', bind_some', bI_t (ix_in hi (by omega)), if_neg one_ne, show (Sum.inl (0 : Int32) : AV) = .inl (nI 0) from rfl, show (Sum.inl (1 : Int32) : AV) = .inl (nI 1) from rfl, c_M_end 28 (by omega) (by omega) (by omega), bind_some', c_M_end 28 (by omega) (by omega) (by omega), bind_some', g0, g1]
