/-! point -/
theorem c_in19 {d : Nat} (x : Int32) (V : Mem) : clI (d + 1) m_M_isIn [.inr (.inl x.toInt64), .inr (.inl 1), .inr (.inl 9)] V = some (bI (¬ x < 1 ∧ ¬ 9 < x), V) := by
  have e : (¬ x.toInt64 < 1 ∧ ¬ 9 < x.toInt64) ↔ (¬ x < 1 ∧ ¬ 9 < x) := by
    rw [show (1 : Int64) = (1 : Int32).toInt64 from rfl, show (9 : Int64) = (9 : Int32).toInt64 from rfl, j_lt, j_lt]
  rw [c_M_isInL, bI_same e]
theorem pm_point (SL : Nat) (xs : Nat → Int32) (a1 : Int32) (a2 : Int32) : PMI SL xs m_C_point m_M_point [.inl a1, .inl a2] := by
  intro V h
  have bad : ¬ (inR 100 a1 ∧ (¬ a2 < 1 ∧ ¬ 9 < a2)) → ∃ (r : Int32) (V1 V2 : Mem), clI 30 m_C_point [.inr (.inr (0, 0)), .inl a1, .inl a2] V = some (r, V1) ∧ Vok SL xs V1 ∧ clI 30 m_M_point [.inr (.inr (30, 0)), .inl a1, .inl a2] V1 = some (r, V2) ∧ Inv SL xs V2 := by
    intro w
    refine PMI_ref h (k := 0) (x := -2) (by omega) (clI_of ((e_C_point_0 29 a1 a2 V).trans ?_)) (fun V' => clI_of ((e_M_point_0 29 a1 a2 V').trans ?_))
    · rw [e_C_point_21, c_C_ref2, bind_some']
      by_cases g1 : a1 < 0
      · rw [if_pos g1]
      rw [if_neg g1]
      by_cases g2 : a1 < 100
      · rw [if_pos g2]
        by_cases g3 : a2 < 1
        · rw [if_pos g3]
        · rw [if_neg g3]
          by_cases g4 : 9 < a2
          · rw [if_pos g4]
          · exact absurd ⟨⟨g1, g2⟩, g3, g4⟩ w
      · rw [if_neg g2]
    · rw [c_in0_99, bind_some']
      by_cases g1 : inR 100 a1
      · rw [bI_t g1, if_neg one_ne, c_in19, bind_some', bI_f (fun q => w ⟨g1, q⟩), if_pos rfl, e_M_point_24, c_M_ref2, bind_some']
      · rw [bI_f g1, if_pos rfl, e_M_point_24, c_M_ref2, bind_some']
  rcases ix_or a1 (n := 100) (by omega) with hN | ⟨c, hc, rfl⟩
  · exact bad (fun w => hN w.1)
  by_cases hb' : ¬ (¬ a2 < 1 ∧ ¬ 9 < a2)
  · exact bad (fun w => hb' w.2)
  have hb := Classical.not_not.mp hb'
  clear bad
  have h0 : ¬ a2 < 0 := fun q => hb.1 (by rw [lt_toInt] at q ⊢; have e0 : (0 : Int32).toInt = 0 := by decide
                                          have e1 : (1 : Int32).toInt = 1 := by decide
                                          omega)
  obtain ⟨b, hb2, rfl⟩ := nI_of h0
  have b1 : 1 ≤ b := by
    have := hb.1
    rw [show (1 : Int32) = nI 1 from rfl, nI_ltI (by omega) (by omega)] at this
    omega
  have b9 : b ≤ 9 := by
    have := hb.2
    rw [show (9 : Int32) = nI 9 from rfl, nI_ltI (by omega) (by omega)] at this
    omega
  obtain ⟨K, k1, k2, k3, k4⟩ := h.1
  have hK := k1.1
  have cc : ∀ {A : Type} (x y : A), (if nI c < 0 then x else if nI c < 100 then if nI b < 1 then x else if 9 < nI b then x else y else x) = y := fun x y => by
    rw [if_neg (nI_pos (by omega)), if_pos (show nI c < 100 from nI_lt (b := 100) hc (by omega)), if_neg hb.1, if_neg hb.2]
  by_cases hn : kNP K < 12
  · obtain ⟨V1, p1, p2, p3⟩ := c_addPoint (d := 27) k2 hn k1.2.1 c b
    obtain ⟨V2, q1, q2, q3⟩ := c_M_addPoint (d := 28) (k3.frc p3) k1 hn c b
    refine ⟨nI (kNP K), V1, V2, clI_of ((e_C_point_0 29 _ _ V).trans ?_), h.vok.frc p3, clI_of ((e_M_point_0 29 _ _ V1).trans ?_), h.skyop (K := K) (K' := addPt K c b) k4 (Nat.le_refl _) (addPt_ok k1 hn hc b1 b9) p3 p2 q3 q2⟩
    · rw [cc, c_roomPt, bind_some', k2.1.1, bI_t (show nI (kNP K) < 12 from nI_lt (b := 12) hn (by omega)), if_neg one_ne, p1, bind_some', p2.1.1]
      show some (some (Sum.inl (nI (kNP K + 1) - 1)), _) = _
      rw [nI_pred]
    · have e := (k3.frc p3).1.1
      rw [Nat.zero_add] at e
      rw [c_in0_99, bind_some', bI_t (ix_in hc (by omega)), if_neg one_ne, c_in19, bind_some', bI_t hb, if_neg one_ne, if_neg (by rw [e]; exact fun q => absurd ((nI_eq (b := 12) (by omega) (by omega)).mp q) (by omega)), q1, bind_some']
  · have e6 : kNP K = 12 := by omega
    refine ⟨-6, CRf V 4, MRf (CRf V 4) 4, clI_of ((e_C_point_0 29 _ _ V).trans ?_), h.vok.crf 4, clI_of ((e_M_point_0 29 _ _ _).trans ?_), h.ref (by omega)⟩
    · rw [cc, c_roomPt, bind_some', k2.1.1, e6, bI_f (by decide), if_pos rfl, c_C_ref6, bind_some']
    · have e := k3.1.1
      rw [Nat.zero_add] at e
      rw [c_in0_99, bind_some', bI_t (ix_in hc (by omega)), if_neg one_ne, c_in19, bind_some', bI_t hb, if_neg one_ne, if_pos (by rw [CRf_n (by omega), e, e6]; rfl), c_M_ref6, bind_some']
