/-! NEW POINTS AND PARISHES -/
theorem bm_zero {n : Nat} {f : Nat → Bool} (h : ∀ k, k < n → f k = false) : bm n f = 0 := by
  apply Nat.eq_of_testBit_eq
  intro k
  rw [bm_test, Nat.zero_testBit]
  by_cases hk : k < n
  · rw [h k hk, Bool.and_false]
  · simp [hk]
theorem c_addParish {d s : Nat} {V : Mem} {K : SKY} (h : CS V s K) (hn : kNX K < 6) (ki a : Nat) : ∃ V', clV (d + 2) m_Sky_addParish [.inr (.inr (1, s)), .inl (nI ki), .inl (nI a)] V = some V' ∧ CS V' s (addPar K ki a) ∧ FrC s V V' := by
  obtain ⟨⟨h1, h2, h3, h4⟩, h5, h6⟩ := h
  refine ⟨(mset (mset (mset (mset (mset V.1 5 (kNX K + 6 * s) 2 (nI ki)) 5 (kNX K + 6 * s) 3 (nI a)) 5 (kNX K + 6 * s) 4 0) 5 (kNX K + 6 * s) 5 0) 1 s 4 (nI (kNX K + 1)), V.2), clV_of ((e_Sky_addParish_0 (d + 1) s _ _ V).trans ?_), ⟨⟨?_, ?_, ?_, ?_⟩, fun p hp => ?_, fun x hx' => ?_⟩, fun t i k q1 q2 => ?_, rfl⟩
  · rw [c_roomPar, bind_some', h2, bI_t (show nI (kNX K) < 6 from nI_lt (b := 6) hn (by omega)), if_neg one_ne, if_neg (nI_in hn (by omega)), nI_clamp (by omega), clV_of (e_Parish_begin_0 d _ _ _ V), bind_some']
    simp (disch := omega) only [mset_n, h2, nI_1]
  · simp (disch := omega) only [mset_n, mset_h]; exact h1
  · simp (disch := omega) only [mset_n, mset_h]; rfl
  · simp (disch := omega) only [mset_n, mset_h]; exact h3
  · simp (disch := omega) only [mset_n, mset_h]; exact h4
  · simp (disch := omega) only [mset_n, mset_h]; exact h5 p hp
  · have hx2 : x < kNX K + 1 := hx'
    by_cases e : x = kNX K
    · subst e
      have e1 : kKi (addPar K ki a) (kNX K) = ki := by unfold kKi addPar; simp only [if_true]
      have e2 : kA (addPar K ki a) (kNX K) = a := by unfold kA addPar; simp only [if_true]
      have e3 : kLn (addPar K ki a) (kNX K) = 0 := by unfold kLn addPar; simp only [if_true]
      have eb : bm (kNP (addPar K ki a)) (kW (addPar K ki a) (kNX K)) = 0 := bm_zero fun k hk => by unfold kW addPar; simp only [if_true]
      rw [e1, e2, e3, eb]
      refine ⟨?_, ?_, ?_, ?_, fun i hi => by omega⟩
      · simp (disch := omega) only [mset_n, mset_h]
      · simp (disch := omega) only [mset_n, mset_h]
      · simp (disch := omega) only [mset_n, mset_h]; rfl
      · simp (disch := omega) only [mset_n, mset_h]; rfl
    · have e1 : kKi (addPar K ki a) x = kKi K x := by unfold kKi addPar; simp only [e, if_false]
      have e2 : kA (addPar K ki a) x = kA K x := by unfold kA addPar; simp only [e, if_false]
      have e3 : kLn (addPar K ki a) x = kLn K x := by unfold kLn addPar; simp only [e, if_false]
      have eb : bm (kNP (addPar K ki a)) (kW (addPar K ki a) x) = bm (kNP K) (kW K x) := bm_ext fun k hk => by
        show (if x = kNX K then false else kW K x k) = _
        rw [if_neg e]
      obtain ⟨g1, g2, g3, g4, g5⟩ := h6 x (by omega)
      rw [e1, e2, e3, eb]
      refine ⟨?_, ?_, ?_, ?_, fun i hi => ⟨?_, ?_⟩⟩
      · simp (disch := omega) only [mset_n]; exact g1
      · simp (disch := omega) only [mset_n]; exact g2
      · simp (disch := omega) only [mset_n]; exact g3
      · simp (disch := omega) only [mset_n]; exact g4
      · simp (disch := omega) only [mset_n]; exact (g5 i hi).1
      · simp (disch := omega) only [mset_n]; exact (g5 i hi).2
  · simp (disch := omega) only [mset_n]
theorem c_M_addPoint {d : Nat} {V : Mem} {K : SKY} (h : MS V 32 0 K) (ok : okK K) (hn : kNP K < 12) (c b : Nat) : ∃ V', clI (d + 1) m_M_addPoint [.inr (.inr (30, 0)), .inl (nI c), .inl (nI b)] V = some (nI (kNP K), V') ∧ MS V' 32 0 (addPt K c b) ∧ FrM V V' := by
  obtain ⟨⟨h1, h2, h3, h4⟩, h5, h6⟩ := h
  have hx := ok.2.1
  simp only [Nat.zero_add] at h1 h2 h3 h4
  refine ⟨(mset (mset (mset (mset V.1 32 0 (3 * kNP K) (nI c)) 32 0 (3 * kNP K + 1) (nI b)) 32 0 (3 * kNP K + 2) 0) 32 0 174 (nI (kNP K + 1)), V.2), clI_of ((e_M_addPoint_0 d _ _ V).trans ?_), ⟨⟨?_, ?_, ?_, ?_⟩, fun p hp => ?_, fun x hx' => ?_⟩, fun t i k q => ?_, rfl⟩
  · rw [h1]
    have e3 : (3 : Int32) * nI (kNP K) = nI (3 * kNP K) := pk_mul 3 _
    have e31 : nI (3 * kNP K) + 1 = nI (3 * kNP K + 1) := nI_add _ 1
    have e32 : nI (3 * kNP K) + 2 = nI (3 * kNP K + 2) := nI_add _ 2
    rw [e3, e31, e32, if_neg (nI_in (N := 178) (by omega) (by omega)), if_neg (nI_in (N := 178) (by omega) (by omega)), if_neg (nI_in (N := 178) (by omega) (by omega)), nI_clamp (by omega), nI_clamp (by omega), nI_clamp (by omega)]
    simp (disch := omega) only [mset_n, h1, nI_1]
  · simp (disch := omega) only [mset_h]; rfl
  · simp (disch := omega) only [mset_n, Nat.zero_add]; exact h2
  · simp (disch := omega) only [mset_n, Nat.zero_add]; exact h3
  · simp (disch := omega) only [mset_n, Nat.zero_add]; exact h4
  · have hp' : p < kNP K + 1 := hp
    by_cases e : p = kNP K
    · subst e
      have eb : bm (kNX (addPt K c b)) (fun x => kW (addPt K c b) x (kNP K)) = 0 := bm_zero fun k hk => by unfold kW addPt; simp only [if_true]
      have e1 : kCe (addPt K c b) (kNP K) = c := by unfold kCe addPt; simp only [if_true]
      have e2 : kBr (addPt K c b) (kNP K) = b := by unfold kBr addPt; simp only [if_true]
      rw [e1, e2, eb]
      refine ⟨?_, ?_, ?_⟩
      · simp (disch := omega) only [mset_n, mset_h]
      · simp (disch := omega) only [mset_n, mset_h]
      · simp (disch := omega) only [mset_n, mset_h]; rfl
    · have eb : bm (kNX (addPt K c b)) (fun x => kW (addPt K c b) x p) = bm (kNX K) (fun x => kW K x p) := bm_ext fun k hk => by
        show (if p = kNP K then false else kW K k p) = _
        rw [if_neg e]
      have e1 : kCe (addPt K c b) p = kCe K p := by unfold kCe addPt; simp only [e, if_false]
      have e2 : kBr (addPt K c b) p = kBr K p := by unfold kBr addPt; simp only [e, if_false]
      obtain ⟨g1, g2, g3⟩ := h5 p (by omega)
      rw [e1, e2, eb]
      refine ⟨?_, ?_, ?_⟩
      · simp (disch := omega) only [mset_n]; exact g1
      · simp (disch := omega) only [mset_n]; exact g2
      · simp (disch := omega) only [mset_n]; exact g3
  · have hx2 : x < kNX K := hx'
    have hl := (ok.2.2.2.2 x hx2).1.2.2
    obtain ⟨⟨g1, g2, g3⟩, g4⟩ := h6 x hx2
    refine ⟨⟨?_, ?_, ?_⟩, fun i hi => ?_⟩
    · simp (disch := omega) only [mset_n]; exact g1
    · simp (disch := omega) only [mset_n]; exact g2
    · simp (disch := omega) only [mset_n]; exact g3
    · have hi' : i < kLn K x := hi
      refine ⟨?_, ?_⟩
      · simp (disch := omega) only [mset_n]; exact (g4 i hi).1
      · simp (disch := omega) only [mset_n]; exact (g4 i hi).2
  · simp (disch := omega) only [mset_n]
theorem c_M_addParish {d : Nat} {V : Mem} {K : SKY} (h : MS V 32 0 K) (ok : okK K) (hn : kNX K < 6) (ki a : Nat) : ∃ V', clI (d + 1) m_M_addParish [.inr (.inr (30, 0)), .inl (nI ki), .inl (nI a)] V = some (nI (kNX K), V') ∧ MS V' 32 0 (addPar K ki a) ∧ FrM V V' := by
  obtain ⟨⟨h1, h2, h3, h4⟩, h5, h6⟩ := h
  have hp12 := ok.1
  simp only [Nat.zero_add] at h1 h2 h3 h4
  refine ⟨(mset (mset (mset (mset V.1 32 0 (36 + 23 * kNX K) (nI ki)) 32 0 (36 + 23 * kNX K + 1) (nI a)) 32 0 (36 + 23 * kNX K + 2) 0) 32 0 175 (nI (kNX K + 1)), V.2), clI_of ((e_M_addParish_0 d _ _ V).trans ?_), ⟨⟨?_, ?_, ?_, ?_⟩, fun p hp => ?_, fun x hx' => ?_⟩, fun t i k q => ?_, rfl⟩
  · rw [h2]
    have e0 : (23 : Int32) * nI (kNX K) = nI (23 * kNX K) := pk_mul 23 _
    have e3 : (36 : Int32) + nI (23 * kNX K) = nI (36 + 23 * kNX K) := nI_add 36 _
    have e31 : nI (36 + 23 * kNX K) + 1 = nI (36 + 23 * kNX K + 1) := nI_add _ 1
    have e32 : nI (36 + 23 * kNX K) + 2 = nI (36 + 23 * kNX K + 2) := nI_add _ 2
    rw [e0, e3, e31, e32, if_neg (nI_in (N := 178) (by omega) (by omega)), if_neg (nI_in (N := 178) (by omega) (by omega)), if_neg (nI_in (N := 178) (by omega) (by omega)), nI_clamp (by omega), nI_clamp (by omega), nI_clamp (by omega)]
    simp (disch := omega) only [mset_n, h2, nI_1]
  · simp (disch := omega) only [mset_n, Nat.zero_add]; exact h1
  · simp (disch := omega) only [mset_h]; rfl
  · simp (disch := omega) only [mset_n, Nat.zero_add]; exact h3
  · simp (disch := omega) only [mset_n, Nat.zero_add]; exact h4
  · have hp' : p < kNP K := hp
    have eb : bm (kNX (addPar K ki a)) (fun x => kW (addPar K ki a) x p) = bm (kNX K) (fun x => kW K x p) := by
      refine (bm_more (n := kNX K) (f := fun x => kW (addPar K ki a) x p) ?_).trans (bm_ext fun k hk => ?_)
      · unfold kW addPar; simp only [if_true]
      · show (if k = kNX K then false else kW K k p) = _
        rw [if_neg (by omega)]
    obtain ⟨g1, g2, g3⟩ := h5 p hp
    rw [eb]
    refine ⟨?_, ?_, ?_⟩
    · simp (disch := omega) only [mset_n]; exact g1
    · simp (disch := omega) only [mset_n]; exact g2
    · simp (disch := omega) only [mset_n]; exact g3
  · have hx2 : x < kNX K + 1 := hx'
    by_cases e : x = kNX K
    · subst e
      have e1 : kKi (addPar K ki a) (kNX K) = ki := by unfold kKi addPar; simp only [if_true]
      have e2 : kA (addPar K ki a) (kNX K) = a := by unfold kA addPar; simp only [if_true]
      have e3 : kLn (addPar K ki a) (kNX K) = 0 := by unfold kLn addPar; simp only [if_true]
      rw [e1, e2, e3]
      refine ⟨⟨?_, ?_, ?_⟩, fun i hi => by omega⟩
      · simp (disch := omega) only [mset_n, mset_h]
      · simp (disch := omega) only [mset_n, mset_h]
      · simp (disch := omega) only [mset_n, mset_h]; rfl
    · have e1 : kKi (addPar K ki a) x = kKi K x := by unfold kKi addPar; simp only [e, if_false]
      have e2 : kA (addPar K ki a) x = kA K x := by unfold kA addPar; simp only [e, if_false]
      have e3 : kLn (addPar K ki a) x = kLn K x := by unfold kLn addPar; simp only [e, if_false]
      have hx3 : x < kNX K := by omega
      have hl := (ok.2.2.2.2 x hx3).1.2.2
      obtain ⟨⟨g1, g2, g3⟩, g4⟩ := h6 x hx3
      rw [e1, e2, e3]
      refine ⟨⟨?_, ?_, ?_⟩, fun i hi => ⟨?_, ?_⟩⟩
      · simp (disch := omega) only [mset_n]; exact g1
      · simp (disch := omega) only [mset_n]; exact g2
      · simp (disch := omega) only [mset_n]; exact g3
      · simp (disch := omega) only [mset_n]; exact (g4 i hi).1
      · simp (disch := omega) only [mset_n]; exact (g4 i hi).2
  · simp (disch := omega) only [mset_n]
theorem MS.frc {V V' : Mem} {K : SKY} (h : MS V 32 0 K) (f : FrC 0 V V') : MS V' 32 0 K := h.same (funext fun k => f.1 32 0 k (by omega) (by omega))
theorem pm_parish (SL : Nat) (xs : Nat → Int32) (a1 : Int32) (a2 : Int32) : PMI SL xs m_C_parish m_M_parish [.inl a1, .inl a2] := by
  intro V h
  have bad : ¬ (inR 6 a1 ∧ inR 10 a2) → ∃ (r : Int32) (V1 V2 : Mem), clI 30 m_C_parish [.inr (.inr (0, 0)), .inl a1, .inl a2] V = some (r, V1) ∧ Vok SL xs V1 ∧ clI 30 m_M_parish [.inr (.inr (30, 0)), .inl a1, .inl a2] V1 = some (r, V2) ∧ Inv SL xs V2 := by
    intro w
    refine PMI_ref h (k := 0) (x := -2) (by omega) (clI_of ((e_C_parish_0 29 a1 a2 V).trans ?_)) (fun V' => clI_of ((e_M_parish_0 29 a1 a2 V').trans ?_))
    · rw [e_C_parish_20, c_C_ref2, bind_some']
      by_cases g1 : a1 < 0
      · rw [if_pos g1]
      rw [if_neg g1]
      by_cases g2 : a1 < 6
      · rw [if_pos g2]
        by_cases g3 : a2 < 0
        · rw [if_pos g3]
        · rw [if_neg g3, if_pos (show 9 < a2 from gt_of (n := 9) (by omega) g3 (fun q => w ⟨⟨g1, g2⟩, q⟩))]
      · rw [if_neg g2]
    · rw [c_in0_5, bind_some']
      by_cases g1 : inR 6 a1
      · rw [bI_t g1, if_neg one_ne, c_in0_9, bind_some', bI_f (fun q => w ⟨g1, q⟩), if_pos rfl, e_M_parish_24, c_M_ref2, bind_some']
      · rw [bI_f g1, if_pos rfl, e_M_parish_24, c_M_ref2, bind_some']
  rcases ix_or a1 (n := 6) (by omega) with hN | ⟨ki, hk, rfl⟩
  · exact bad (fun w => hN w.1)
  rcases ix_or a2 (n := 10) (by omega) with hN | ⟨a, ha, rfl⟩
  · exact bad (fun w => hN w.2)
  clear bad
  obtain ⟨K, k1, k2, k3, k4⟩ := h.1
  have hK := k1.2.1
  have cc : ∀ {A : Type} (x y : A), (if nI ki < 0 then x else if nI ki < 6 then if nI a < 0 then x else if 9 < nI a then x else y else x) = y := fun x y => by
    rw [if_neg (nI_pos (by omega)), if_pos (show nI ki < 6 from nI_lt (b := 6) hk (by omega)), if_neg (nI_pos (by omega)), if_neg (show ¬ 9 < nI a from nI_nlt (a := 9) (by omega) (by omega))]
  by_cases hn : kNX K < 6
  · obtain ⟨V1, p1, p2, p3⟩ := c_addParish (d := 27) k2 hn ki a
    obtain ⟨V2, q1, q2, q3⟩ := c_M_addParish (d := 28) (k3.frc p3) k1 hn ki a
    refine ⟨nI (kNX K), V1, V2, clI_of ((e_C_parish_0 29 _ _ V).trans ?_), h.vok.frc p3, clI_of ((e_M_parish_0 29 _ _ V1).trans ?_), h.skyop k4 (Nat.le_succ _) (addPar_ok k1 hn hk ha) p3 p2 q3 q2⟩
    · rw [cc, c_roomPar, bind_some', k2.1.2.1, bI_t (show nI (kNX K) < 6 from nI_lt (b := 6) hn (by omega)), if_neg one_ne, p1, bind_some', p2.1.2.1]
      show some (some (Sum.inl (nI (kNX K + 1) - 1)), _) = _
      rw [nI_pred]
    · have e := (k3.frc p3).1.2.1
      rw [Nat.zero_add] at e
      rw [c_in0_5, bind_some', bI_t (ix_in hk (by omega)), if_neg one_ne, c_in0_9, bind_some', bI_t (ix_in ha (by omega)), if_neg one_ne, if_neg (by rw [e]; exact fun q => absurd ((nI_eq (b := 6) (by omega) (by omega)).mp q) (by omega)), q1, bind_some']
  · have e6 : kNX K = 6 := by omega
    refine ⟨-6, CRf V 4, MRf (CRf V 4) 4, clI_of ((e_C_parish_0 29 _ _ V).trans ?_), h.vok.crf 4, clI_of ((e_M_parish_0 29 _ _ _).trans ?_), h.ref (by omega)⟩
    · rw [cc, c_roomPar, bind_some', k2.1.2.1, e6, bI_f (by decide), if_pos rfl, c_C_ref6, bind_some']
    · have e := k3.1.2.1
      rw [Nat.zero_add] at e
      rw [c_in0_5, bind_some', bI_t (ix_in hk (by omega)), if_neg one_ne, c_in0_9, bind_some', bI_t (ix_in ha (by omega)), if_neg one_ne, if_pos (by rw [CRf_n (by omega), e, e6]; rfl), c_M_ref6, bind_some']
