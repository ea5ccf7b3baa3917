/-! SHELVES: copy, the two walks -/
theorem C_copy_mid {d p q : Nat} (hp : p < 8) (hq : q < 8) (x3 x4 x5 : Int32) (V : Mem) : sem (d + 1) 76 0 [some (.inr (.inr (0, 0))), some (.inl (nI p)), some (.inl (nI q)), some (.inl x3), some (.inl x4), some (.inl x5), none, none, none, none] [] V = sem (d + 1) 76 87 [some (.inr (.inr (0, 0))), some (.inl (nI p)), some (.inl (nI q)), some (.inl x3), some (.inl x4), some (.inl x5), some (.inr (.inr (23, p))), some (.inr (.inr (23, q))), some (.inl (bI (V.1 23 p 1 = -1 ∨ V.1 23 q 1 = -1))), none] [.inl (bI (¬ (V.1 23 p 1 = -1 ∨ V.1 23 q 1 = -1) ∧ ¬ V.1 23 p 1 = V.1 23 q 1))] V := by
  rw [e_C_copy_0, c_C_isShelf, bind_some', bI_t (ix_in hp (by omega)), if_neg one_ne, c_C_isShelf, bind_some', bI_t (ix_in hq (by omega)), if_neg one_ne, if_neg (nI_in hp (by omega)), if_neg (nI_in hq (by omega)), nI_clamp (by omega), nI_clamp (by omega)]
  by_cases h1 : V.1 23 p 1 = -1
  · rw [if_pos h1, e_C_copy_57, e_C_copy_62, if_neg one_ne, e_C_copy_86, bI_t (Or.inl h1), bI_f (fun w => w.1 (Or.inl h1))]
  · rw [if_neg h1]
    by_cases h2 : V.1 23 q 1 = -1
    · rw [if_pos h2, e_C_copy_57, e_C_copy_62, if_neg one_ne, e_C_copy_86, bI_t (Or.inr h2), bI_f (fun w => w.1 (Or.inr h2))]
    · have h3 : ¬ (V.1 23 p 1 = -1 ∨ V.1 23 q 1 = -1) := fun w => w.elim h1 h2
      rw [if_neg h2, e_C_copy_62, if_pos rfl, bI_f h3]
      by_cases h4 : V.1 23 p 1 = V.1 23 q 1
      · rw [if_pos h4, e_C_copy_86, bI_f (fun w => w.2 h4)]
      · rw [if_neg h4, bI_t ⟨h3, h4⟩]
theorem M_copy_mid {d p q : Nat} (hp : p < 8) (hq : q < 8) (x3 x4 x5 : Int32) (V : Mem) : sem (d + 2) 206 0 [some (.inr (.inr (30, 0))), some (.inl (nI p)), some (.inl (nI q)), some (.inl x3), some (.inl x4), some (.inl x5), none, none] [] V = sem (d + 2) 206 46 [some (.inr (.inr (30, 0))), some (.inl (nI p)), some (.inl (nI q)), some (.inl x3), some (.inl x4), some (.inl x5), none, none] [.inl (bI (¬ (V.1 42 0 p = -1 ∨ V.1 42 0 q = -1)))] V := by
  rw [e_M_copy_0, c_M_isShelf, bind_some', bI_t (ix_in hp (by omega)), if_neg one_ne, c_M_isShelf, bind_some', bI_t (ix_in hq (by omega)), if_neg one_ne, if_neg (nI_in hp (by omega)), nI_clamp (by omega)]
  by_cases h1 : V.1 42 0 p = -1
  · rw [if_pos h1, e_M_copy_45, bI_f (fun w => w (Or.inl h1))]
  · rw [if_neg h1, if_neg (nI_in hq (by omega)), nI_clamp (by omega)]
    by_cases h2 : V.1 42 0 q = -1
    · rw [if_pos h2, e_M_copy_45, bI_f (fun w => w (Or.inr h2))]
    · have h3 : ¬ (V.1 42 0 p = -1 ∨ V.1 42 0 q = -1) := fun w => w.elim h1 h2
      rw [if_neg h2, bI_t h3]
theorem c_hasSpan {d s z : Nat} (hz : z ≤ 40) {V : Mem} (h : V.1 23 s 2 = nI z) (i n : Int32) [Decidable (spn z i n)] : clI (d + 1) m_Shelf_hasSpan [.inr (.inr (23, s)), .inl i, .inl n] V = some (bI (spn z i n), V) := by
  apply clI_of
  refine (e_Shelf_hasSpan_0 d s i n V).trans ?_
  by_cases h0 : i < 0
  · rw [if_pos h0, bI_f (fun q => q.1 h0)]
  · rw [if_neg h0]
    by_cases h1 : n < 0
    · rw [if_pos h1, bI_f (fun q => q.2.1 h1)]
    · rw [if_neg h1, h]
      by_cases h2 : spn z i n
      · rw [if_neg (fun q => (spn_dec hz h0 h1).1.mp q h2), bI_t h2]
      · rw [if_pos ((spn_dec hz h0 h1).1.mpr h2), bI_f h2]
theorem spn_nat {z : Nat} (hz : z ≤ 40) {i n : Int32} (h : spn z i n) : ∃ a b : Nat, i = nI a ∧ n = nI b ∧ a + b ≤ z := by
  obtain ⟨h0, h1, h2⟩ := h
  obtain ⟨a, ha, rfl⟩ := nI_of h0
  obtain ⟨b, hb, rfl⟩ := nI_of h1
  rw [nI_toInt ha, nI_toInt hb] at h2
  exact ⟨a, b, rfl, rfl, by omega⟩
theorem pm_copy (SL : Nat) (xs : Nat → Int32) (a1 : Int32) (a2 : Int32) (a3 : Int32) (a4 : Int32) (a5 : Int32) : PMI SL xs m_C_copy m_M_copy [.inl a1, .inl a2, .inl a3, .inl a4, .inl a5] := by
  intro V h
  have bad : ¬ (inR 8 a1 ∧ inR 8 a2) → ∃ (r : Int32) (V1 V2 : Mem), clI 30 m_C_copy [.inr (.inr (0, 0)), .inl a1, .inl a2, .inl a3, .inl a4, .inl a5] V = some (r, V1) ∧ Vok SL xs V1 ∧ clI 30 m_M_copy [.inr (.inr (30, 0)), .inl a1, .inl a2, .inl a3, .inl a4, .inl a5] V1 = some (r, V2) ∧ Inv SL xs V2 := by
    intro w
    refine PMI_ref h (k := 0) (x := -2) (by omega) (clI_of ((e_C_copy_0 29 a1 a2 a3 a4 a5 V).trans ?_)) (fun V' => clI_of ((e_M_copy_0 29 a1 a2 a3 a4 a5 V').trans ?_))
    · rw [c_C_isShelf, bind_some']
      by_cases h1 : inR 8 a1
      · rw [bI_t h1, if_neg one_ne, c_C_isShelf, bind_some', bI_f (fun x => w ⟨h1, x⟩), if_pos rfl, e_C_copy_16, c_C_ref2, bind_some']
      · rw [bI_f h1, if_pos rfl, e_C_copy_16, c_C_ref2, bind_some']
    · rw [c_M_isShelf, bind_some']
      by_cases h1 : inR 8 a1
      · rw [bI_t h1, if_neg one_ne, c_M_isShelf, bind_some', bI_f (fun x => w ⟨h1, x⟩), if_pos rfl, e_M_copy_14, c_M_ref2, bind_some']
      · rw [bI_f h1, if_pos rfl, e_M_copy_14, c_M_ref2, bind_some']
  rcases ix_or a1 (n := 8) (by omega) with hN | ⟨p, hp, rfl⟩
  · exact bad (fun w => hN w.1)
  rcases ix_or a2 (n := 8) (by omega) with hN | ⟨q, hq, rfl⟩
  · exact bad (fun w => hN w.2)
  clear bad
  obtain ⟨K, k1, k2, k3, k4⟩ := h.1
  obtain ⟨⟨zp, zp1, zp2, zp3⟩, elp⟩ := h.2.2.2.1 p hp
  obtain ⟨⟨zq, zq1, zq2, zq3⟩, elq⟩ := h.2.2.2.1 q hq
  have op := (k4 p hp).2
  have oq := (k4 q hq).2
  by_cases hA : V.1 23 p 1 < 10 ∧ V.1 23 q 1 < 10 ∧ ((V.1 23 p 1 = -1 ∨ V.1 23 q 1 = -1) ∨ V.1 23 p 1 = V.1 23 q 1)
  · obtain ⟨hA1, hA2, hA3⟩ := hA
    have hT : ¬ (¬ (V.1 23 p 1 = -1 ∨ V.1 23 q 1 = -1) ∧ ¬ V.1 23 p 1 = V.1 23 q 1) := fun w => hA3.elim w.1 w.2
    by_cases hE : V.1 23 p 1 = -1 ∨ V.1 23 q 1 = -1
    · refine ⟨-4, CRf V 2, MRf (CRf V 2) 2, clI_of ((C_copy_mid hp hq a3 a4 a5 V).trans ?_), h.vok.crf 2, clI_of ((M_copy_mid hp hq a3 a4 a5 _).trans ?_), h.ref (by omega)⟩
      · rw [e_C_copy_87, c_holdsParish, bind_some', bI_f (fun w => w hA1), if_pos rfl, c_holdsParish, bind_some', bI_f (fun w => w hA2), if_pos rfl, bI_f hT, if_pos rfl, bI_t hE, if_neg one_ne, c_C_ref4, bind_some']
      · simp only [CRf_n (V := V) (k := 2) (t := 42) (by omega), op, oq]
        rw [bI_f (fun w => w hE), e_M_copy_46, if_neg (nI_in hp (by omega)), if_neg (nI_in hq (by omega)), nI_clamp (by omega), nI_clamp (by omega)]
        simp only [CRf_n (V := V) (k := 2) (t := 42) (by omega), op, oq]
        rw [if_pos hA1, if_pos hA2, if_pos trivial, e_M_copy_97, if_pos rfl, c_M_ref4, bind_some']
    · have hS : V.1 23 p 1 = V.1 23 q 1 := hA3.resolve_left hE
      have mm : ∀ V' : Mem, V'.1 42 0 p = V.1 42 0 p → V'.1 42 0 q = V.1 42 0 q → sem 29 206 0 [some (.inr (.inr (30, 0))), some (.inl (nI p)), some (.inl (nI q)), some (.inl a3), some (.inl a4), some (.inl a5), none, none] [] V' = sem 29 206 97 [some (.inr (.inr (30, 0))), some (.inl (nI p)), some (.inl (nI q)), some (.inl a3), some (.inl a4), some (.inl a5), some (.inl 1), none] [] V' := by
        intro V' v1 v2
        refine (M_copy_mid hp hq a3 a4 a5 V').trans ?_
        rw [v1, v2, op, oq, bI_t hE, e_M_copy_46, if_neg (nI_in hp (by omega)), if_neg (nI_in hp (by omega)), if_neg (nI_in hq (by omega)), nI_clamp (by omega), nI_clamp (by omega), v1, v2, op, oq, if_pos hA1, if_pos hA2, if_neg one_ne, if_neg (nI_in' hq (by omega)), if_pos hS]
      by_cases hP : spn zp a3 a5 ∧ spn zq a4 a5
      · obtain ⟨i, n, rfl, rfl, hin⟩ := spn_nat zp1 hP.1
        obtain ⟨j, n', rfl, e5, hjn⟩ := spn_nat zq1 hP.2
        obtain rfl : n = n' := by
          have : n < 2 ^ 31 := by omega
          exact (nI_eq (by omega) (by omega)).mp e5
        refine ⟨nI n, (V.1, mcpy V.2 24 p i 24 q j n), (V.1, mcpy (mcpy (mcpy V.2 24 p i 24 q j n) 44 0 (40 * p + i) 45 0 0 n) 45 0 0 44 0 (40 * q + j) n), clI_of ((C_copy_mid hp hq _ _ _ V).trans ?_), h.vok.ag (Ag.cpyL (by unfold dp8; omega) Ag.rfl), clI_of ((mm (V.1, mcpy V.2 24 p i 24 q j n) rfl rfl).trans ?_), ?_⟩
        · have dec1 : Decidable (spn zp (nI i) (nI n)) := Classical.propDecidable _
          have dec2 : Decidable (spn zq (nI j) (nI n)) := Classical.propDecidable _
          rw [e_C_copy_87, c_holdsParish, bind_some', bI_f (fun w => w hA1), if_pos rfl, c_holdsParish, bind_some', bI_f (fun w => w hA2), if_pos rfl, bI_f hT, if_pos rfl, bI_f hE, if_pos rfl, c_hasSpan zp1 zp2, bind_some', bI_t hP.1, if_neg one_ne, c_hasSpan zq1 zq2, bind_some', bI_t hP.2, if_neg one_ne, nI_clamp (by omega), nI_clamp (by omega), nI_clamp (by omega), if_neg (fun w => by
            rcases w with w | w | w | w | w
            · exact nI_pos (by omega) w
            · exact nI_pos (by omega) w
            · exact nI_pos (by omega) w
            · omega
            · omega)]
        · rw [e_M_copy_97, if_neg one_ne, if_neg (nI_pos (by omega)), if_neg (nI_pos (by omega)), if_neg (nI_pos (by omega)), if_neg (nI_in hp (by omega)), if_neg (nI_in hq (by omega)), nI_clamp (by omega), nI_clamp (by omega)]
          simp only [zp3, zq3]
          rw [if_neg (fun w => (spn_dec zp1 (nI_pos (by omega)) (nI_pos (by omega))).2.mp w hP.1), if_neg (fun w => (spn_dec zq1 (nI_pos (by omega)) (nI_pos (by omega))).2.mp w hP.2)]
          have t1 := mcopy160 29 p q (i := i) (j := j) (n := n) 1 hp (by omega) V.1 (mcpy V.2 24 p i 24 q j n) n 0 (by omega)
          have t2 := mcopy197 29 p q (i := i) (j := j) (n := n) 1 hq (by omega) V.1 (mcpy (mcpy V.2 24 p i 24 q j n) 44 0 (40 * p + i) 45 0 0 n) n 0 (by omega)
          rw [mcpy_0] at t1 t2
          exact t1.trans t2
        · refine h.shelf (Ag.cpyL (by unfold dpH dp2 dp3 dp5 dp6 dp7 dp8; omega) (Ag.cpyL (by unfold dpH dp2 dp3 dp5 dp6 dp7 dp8; omega) (Ag.cpyL (by unfold dpH dp2 dp3 dp5 dp6 dp7 dp8; omega) Ag.rfl))) (I1.ag h.1 (Ag.cpyL (by unfold dp1; omega) (Ag.cpyL (by unfold dp1; omega) (Ag.cpyL (by unfold dp1; omega) Ag.rfl)))) ?_
          intro s hs
          obtain ⟨w0, w4⟩ := h.2.2.2.1 s hs
          refine ⟨w0, fun m hm => ?_⟩
          by_cases e : s = q ∧ j ≤ m ∧ m < j + n
          · obtain ⟨rfl, e1, e2⟩ := e
            simp (disch := omega) only [mcpy_in, mcpy_out]
            have := elp (i + (m - j)) (by omega)
            have e9 : ∀ a b, a = b → V.2 44 0 a = V.2 44 0 b := fun a b q => by rw [q]
            exact (e9 _ _ (by omega)).trans this
          · simp (disch := omega) only [mcpy_out]
            exact w4 m hm
      · refine ⟨-2, CRf V 0, MRf (CRf V 0) 0, clI_of ((C_copy_mid hp hq _ _ _ V).trans ?_), h.vok.crf 0, clI_of ((mm _ (CRf_n (by omega)) (CRf_n (by omega))).trans ?_), h.ref (by omega)⟩
        · have dec1 : Decidable (spn zp a3 a5) := Classical.propDecidable _
          have dec2 : Decidable (spn zq a4 a5) := Classical.propDecidable _
          rw [e_C_copy_87, c_holdsParish, bind_some', bI_f (fun w => w hA1), if_pos rfl, c_holdsParish, bind_some', bI_f (fun w => w hA2), if_pos rfl, bI_f hT, if_pos rfl, bI_f hE, if_pos rfl, c_hasSpan zp1 zp2, bind_some']
          by_cases hP1 : spn zp a3 a5
          · rw [bI_t hP1, if_neg one_ne, c_hasSpan zq1 zq2, bind_some', bI_f (fun w => hP ⟨hP1, w⟩), if_pos rfl, e_C_copy_152, c_C_ref2, bind_some']
          · rw [bI_f hP1, if_pos rfl, e_C_copy_152, c_C_ref2, bind_some']
        · have f : sem 29 206 150 [some (.inr (.inr (30, 0))), some (.inl (nI p)), some (.inl (nI q)), some (.inl a3), some (.inl a4), some (.inl a5), some (.inl 1), none] [] (CRf V 0) = some (some (.inl (-2)), MRf (CRf V 0) 0) := by
            rw [e_M_copy_150, c_M_ref2, bind_some']
          rw [e_M_copy_97, if_neg one_ne, f]
          by_cases g1 : a5 < 0
          · rw [if_pos g1]
          rw [if_neg g1]
          by_cases g2 : a3 < 0
          · rw [if_pos g2]
          rw [if_neg g2]
          by_cases g3 : a4 < 0
          · rw [if_pos g3]
          rw [if_neg g3, if_neg (nI_in hp (by omega)), if_neg (nI_in hq (by omega)), nI_clamp (by omega), nI_clamp (by omega)]
          simp only [CRf_n (V := V) (k := 0) (t := 43) (by omega), zp3, zq3]
          by_cases g4 : spn zp a3 a5
          · rw [if_neg (fun w => (spn_dec zp1 g2 g1).2.mp w g4), if_pos ((spn_dec zq1 g3 g1).2.mpr (fun w => hP ⟨g4, w⟩))]
          · rw [if_pos ((spn_dec zp1 g2 g1).2.mpr g4)]
  · refine ⟨-3, CRf V 1, MRf (CRf V 1) 1, clI_of ((C_copy_mid hp hq a3 a4 a5 V).trans ?_), h.vok.crf 1, clI_of ((M_copy_mid hp hq a3 a4 a5 _).trans ?_), h.ref (by omega)⟩
    · rw [e_C_copy_87, c_holdsParish, bind_some']
      by_cases g1 : V.1 23 p 1 < 10
      · rw [bI_f (fun w => w g1), if_pos rfl, c_holdsParish, bind_some']
        by_cases g2 : V.1 23 q 1 < 10
        · have hT : ¬ (V.1 23 p 1 = -1 ∨ V.1 23 q 1 = -1) ∧ ¬ V.1 23 p 1 = V.1 23 q 1 := ⟨fun w => hA ⟨g1, g2, Or.inl w⟩, fun w => hA ⟨g1, g2, Or.inr w⟩⟩
          rw [bI_f (fun w => w g2), if_pos rfl, bI_t hT, if_neg one_ne, e_C_copy_110, c_C_ref3, bind_some']
        · rw [bI_t g2, if_neg one_ne, e_C_copy_110, c_C_ref3, bind_some']
      · rw [bI_t g1, if_neg one_ne, e_C_copy_110, c_C_ref3, bind_some']
    · simp only [CRf_n (V := V) (k := 1) (t := 42) (by omega), op, oq]
      rw [e_M_copy_46, if_neg (nI_in hp (by omega)), if_neg (nI_in hq (by omega)), nI_clamp (by omega), nI_clamp (by omega)]
      simp only [CRf_n (V := V) (k := 1) (t := 42) (by omega), op, oq]
      by_cases g1 : V.1 23 p 1 < 10
      · rw [if_pos g1]
        by_cases g2 : V.1 23 q 1 < 10
        · have hE : ¬ (V.1 23 p 1 = -1 ∨ V.1 23 q 1 = -1) := fun w => hA ⟨g1, g2, Or.inl w⟩
          rw [if_pos g2, bI_t hE, if_neg one_ne, if_neg (nI_in' hp (by omega)), if_neg (nI_in' hq (by omega)), if_neg (fun w => hA ⟨g1, g2, Or.inr w⟩), e_M_copy_90, c_M_ref3, bind_some']
        · rw [if_neg g2, e_M_copy_90, c_M_ref3, bind_some']
      · rw [if_neg g1, e_M_copy_90, c_M_ref3, bind_some']
