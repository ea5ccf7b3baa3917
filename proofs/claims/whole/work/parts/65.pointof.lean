/-! pointOf -/
theorem wanters4 (d s p : Nat) (hp : p < 12) {V : Mem} {K : SKY} (h : CS V s K) (ok : okK K) (hpn : p < kNP K) : ∀ m x, x + m = kNX K → sem (d + 1) 51 4 [some (.inr (.inr (1, s))), some (.inl (nI p)), some (.inl (nI (bm x (fun y => kW K y p)))), some (.inl (nI x))] [] V = some (some (.inl (nI (bm (kNX K) (fun y => kW K y p)))), V) := by
  have hX := ok.2.1
  have hP := ok.1
  intro m
  induction m with
  | zero =>
    intro x hx
    obtain rfl : x = kNX K := by omega
    rw [e_Sky_wantersOf_4, h.1.2.1, if_neg (nI_nlt (by omega) (by omega))]
  | succ m ih =>
    intro x hx
    rw [e_Sky_wantersOf_4, h.1.2.1, if_pos (nI_lt (by omega) (by omega)), if_neg (nI_in (N := 6) (by omega) (by omega)), nI_clamp (by omega), shl12 (by omega), shl12 (by omega), c_wants1 (h.2.2 x (by omega)) hP hpn, bind_some']
    have lt := bm_lt x (fun y => kW K y p)
    by_cases e : kW K x p = true
    · rw [bI_t e, if_neg one_ne, e_Sky_wantersOf_33, nI_1, nI_or]
      have q : bm x (fun y => kW K y p) ||| 2 ^ x = bm (x + 1) (fun y => kW K y p) := by
        apply Nat.eq_of_testBit_eq
        intro k
        rw [Nat.testBit_or, Nat.testBit_two_pow, bm_test, bm_test]
        by_cases e2 : k = x
        · subst e2; simp [e]
        · have e3 : ¬ x = k := fun w => e2 w.symm
          by_cases e4 : k < x
          · have : k < x + 1 := by omega
            simp [e3, e4, this]
          · have : ¬ k < x + 1 := by omega
            simp [e3, e4, this]
      rw [q]
      exact ih (x + 1) (by omega)
    · rw [bI_f e, if_pos rfl, e_Sky_wantersOf_33, nI_1]
      have q : bm x (fun y => kW K y p) = bm (x + 1) (fun y => kW K y p) := (bm_more (by simpa using e)).symm
      rw [q]
      exact ih (x + 1) (by omega)
theorem c_wantersOf {d s p : Nat} {V : Mem} {K : SKY} (h : CS V s K) (ok : okK K) (hp : p < kNP K) : clI (d + 2) m_Sky_wantersOf [.inr (.inr (1, s)), .inl (nI p)] V = some (nI (bm (kNX K) (fun y => kW K y p)), V) :=
  clI_of ((e_Sky_wantersOf_0 (d + 1) s _ V).trans (wanters4 d s p (by have := ok.1; omega) h ok hp (kNX K) 0 (by omega)))
theorem pm_pointOf (SL : Nat) (xs : Nat → Int32) (a1 : Int32) (a2 : Int32) : PMI SL xs m_C_pointOf m_M_pointOf [.inl a1, .inl a2] := by
  intro V h
  obtain ⟨K, k1, k2, k3, k4⟩ := h.1
  have hX := k1.2.1
  have hP := k1.1
  have e4 : ∀ V' : Mem, MS V' 32 0 K → V'.1 32 0 174 = nI (kNP K) := fun V' w => by have := w.1.1; rw [Nat.zero_add] at this; exact this
  rcases ix_or a1 (n := kNP K) (by omega) with hN | ⟨p, hp, rfl⟩
  · refine ⟨-2, CRf V 0, MRf (CRf V 0) 0, clI_of ((e_C_pointOf_0 29 a1 a2 V).trans ?_), h.vok.crf 0, clI_of ((e_M_pointOf_0 29 a1 a2 _).trans ?_), h.ref (by omega)⟩
    · rw [c_C_isPoint, bind_some', k2.1.1, bI_f hN, if_pos rfl, c_C_ref2, bind_some']
    · rw [c_M_isPoint (by omega) a1 (e4 _ (k3.crf 0)), bind_some', bI_f hN, if_pos rfl, e_M_pointOf_21, c_M_ref2, bind_some']
  · obtain ⟨g1, g2, g3⟩ := k3.2.1 p hp
    obtain ⟨c1, c2⟩ := k2.2.1 p hp
    rw [Nat.zero_add] at g1 g2 g3
    rcases ix_or a2 (n := 4) (by omega) with hN | ⟨i, hi, rfl⟩
    · have n0 : ∀ j, j < 4 → ¬ a2 = nI j := fun j hj w => hN (w ▸ ix_in hj (by omega))
      refine ⟨-2, CRf V 0, MRf (CRf V 0) 0, clI_of ((e_C_pointOf_0 29 _ a2 V).trans ?_), h.vok.crf 0, clI_of ((e_M_pointOf_0 29 _ a2 _).trans ?_), h.ref (by omega)⟩
      · rw [c_C_isPoint, bind_some', k2.1.1, bI_t (ix_in hp (by omega)), if_neg one_ne, if_neg (show ¬ a2 = 0 from n0 0 (by omega)), if_neg (show ¬ a2 = 1 from n0 1 (by omega)), if_neg (show ¬ a2 = 2 from n0 2 (by omega)), if_neg (show ¬ a2 = 3 from n0 3 (by omega)), c_C_ref2, bind_some']
      · rw [c_M_isPoint (by omega) _ (e4 _ (k3.crf 0)), bind_some', bI_t (ix_in hp (by omega)), if_neg one_ne, c_in0_3, bind_some', bI_f hN, if_pos rfl, e_M_pointOf_21, c_M_ref2, bind_some']
    · have mm : sem 29 177 0 [some (.inr (.inr (30, 0))), some (.inl (nI p)), some (.inl (nI i))] [] V = _ := e_M_pointOf_0 29 (nI p) (nI i) V
      have cc : sem 29 90 0 [some (.inr (.inr (0, 0))), some (.inl (nI p)), some (.inl (nI i))] [] V = _ := e_C_pointOf_0 29 (nI p) (nI i) V
      have ad : (3 * nI p + nI i : Int32) = nI (3 * p + i) := by simp only [fa_lit, pk_mul, nI_add]
      rw [c_M_isPoint (by omega) _ (e4 _ k3), bind_some', bI_t (ix_in hp (by omega)), if_neg one_ne, c_in0_3, bind_some', bI_t (ix_in hi (by omega)), if_neg one_ne, ad] at mm
      rw [c_C_isPoint, bind_some', k2.1.1, bI_t (ix_in hp (by omega)), if_neg one_ne] at cc
      have : i = 0 ∨ i = 1 ∨ i = 2 ∨ i = 3 := by omega
      rcases this with rfl | rfl | rfl | rfl
      · refine ⟨nI (kCe K p), V, V, clI_of (cc.trans ?_), h.vok, clI_of (mm.trans ?_), h⟩
        · rw [if_pos (show nI 0 = 0 from rfl), if_neg (nI_in (N := 12) (by omega) (by omega)), nI_clamp (by omega), c1]
        · rw [if_pos (show nI 0 < 3 by decide), if_neg (nI_in (N := 178) (by omega) (by omega)), nI_clamp (by omega), Nat.add_zero, g1]
      · refine ⟨nI (kBr K p), V, V, clI_of (cc.trans ?_), h.vok, clI_of (mm.trans ?_), h⟩
        · rw [if_neg (show ¬ nI 1 = 0 by decide), if_pos (show nI 1 = 1 from rfl), if_neg (nI_in (N := 12) (by omega) (by omega)), nI_clamp (by omega), c2]
        · rw [if_pos (show nI 1 < 3 by decide), if_neg (nI_in (N := 178) (by omega) (by omega)), nI_clamp (by omega), g2]
      · refine ⟨nI (bm (kNX K) (fun y => kW K y p)), V, V, clI_of (cc.trans ?_), h.vok, clI_of (mm.trans ?_), h⟩
        · rw [if_neg (show ¬ nI 2 = 0 by decide), if_neg (show ¬ nI 2 = 1 by decide), if_pos (show nI 2 = 2 from rfl), c_wantersOf k2 k1 hp, bind_some']
        · rw [if_pos (show nI 2 < 3 by decide), if_neg (nI_in (N := 178) (by omega) (by omega)), nI_clamp (by omega), g3]
      · refine ⟨nI (cntA K p (kNX K)), V, V, clI_of (cc.trans ?_), h.vok, clI_of (mm.trans ?_), h⟩
        · rw [if_neg (show ¬ nI 3 = 0 by decide), if_neg (show ¬ nI 3 = 1 by decide), if_neg (show ¬ nI 3 = 2 by decide), if_pos (show nI 3 = 3 from rfl), c_linesAt (by omega) k2 k1.toL k1.bd, bind_some']
        · rw [if_neg (show ¬ nI 3 < 3 by decide), c_M_meet (by omega) k3 k1.toL k1.bd, bind_some']
