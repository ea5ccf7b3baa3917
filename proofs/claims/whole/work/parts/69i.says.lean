/-! parishOf, says, seen, status -/
theorem PM_cor {SL : Nat} {xs : Nat → Int32} {V V1 V2 : Mem} (h : Inv SL xs V) {b c : Nat} {as bs : List AV} {r : Int32} (hb : clI 30 b as V = some (r, V1)) (c1 : Cor V V1) (hc : clI 30 c bs V1 = some (r, V2)) (c2 : Cor V1 V2) : ∃ (r : Int32) (V1 V2 : Mem), clI 30 b as V = some (r, V1) ∧ Vok SL xs V1 ∧ clI 30 c bs V1 = some (r, V2) ∧ Inv SL xs V2 := ⟨r, V1, V2, hb, (h.cor c1).vok, hc, h.cor (c1.trans c2)⟩
theorem c_meas {d x : Nat} {V : Mem} {K : SKY} (h : CS V 0 K) (ok : okK K) (hx : x < kNX K) : ∃ V', clV (d + 3) m_Figure_measure [.inr (.inr (8, 0)), .inr (.inr (1, 0)), .inr (.inr (5, x))] V = some V' ∧ FIG V' (kCe K) (kBr K) (kF K x) (kG K x) (kNP K) (kLn K x) ∧ FrF V V' ∧ CS V' 0 K ∧ CPar V' x (kKi K x) (kA K x) (bm (kNP K) (kW K x)) (kLn K x) (kF K x) (kG K x) := by
  have par := h.2.2 x hx
  rw [show x + 6 * 0 = x by omega] at par
  obtain ⟨V', v1, v2, v3⟩ := c_measure (d := d) h ok par (ok.toL.2.2 x hx) (ok.fn3 hx)
  exact ⟨V', v1, v2, v3, h.frf ok v3, par.frf v3⟩
theorem c_wor {d x : Nat} {V : Mem} {K : SKY} (ok : okK K) (hx : x < kNX K) (h : FIG V (kCe K) (kBr K) (kF K x) (kG K x) (kNP K) (kLn K x)) : clI (d + 2) m_Figure_worthTo [.inr (.inr (8, 0)), .inl (nI (kKi K x)), .inl (nI (kA K x))] V = some (nI (wK K x), V) :=
  c_worthTo h ok.1 (ok.toL.2.2 x hx) (ok.fn hx) (ok.fc hx) ok.br (ok.2.2.2.2 x hx).1.1
theorem c_worthOf {d x : Nat} {V : Mem} {K : SKY} (h : CS V 0 K) (ok : okK K) (hx : x < kNX K) : ∃ V', clI (d + 4) m_C_worthOf [.inr (.inr (0, 0)), .inl (nI x)] V = some (nI (wK K x), V') ∧ FrF V V' := by
  have hX := ok.2.1
  obtain ⟨V', v1, v2, v3, v4, v5⟩ := c_meas (d := d) h ok hx
  refine ⟨V', clI_of ((e_C_worthOf_0 (d + 3) _ V).trans ?_), v3⟩
  rw [if_neg (nI_in (N := 6) (by omega) (by omega)), nI_clamp (by omega), v1, bind_some', v5.1, v5.2.1, c_wor ok hx v2, bind_some']
theorem pm_parishOf (SL : Nat) (xs : Nat → Int32) (a1 : Int32) (a2 : Int32) : PMI SL xs m_C_parishOf m_M_parishOf [.inl a1, .inl a2] := by
  intro V h
  obtain ⟨K, k1, k2, k3, k4⟩ := h.1
  have hX := k1.2.1
  have hP := k1.1
  rcases ix_or a1 (n := kNX K) (by omega) with hN | ⟨x, hx, rfl⟩
  · refine ⟨-2, CRf V 0, MRf (CRf V 0) 0, clI_of ((e_C_parishOf_0 29 a1 a2 V).trans ?_), h.vok.crf 0, clI_of ((e_M_parishOf_0 29 a1 a2 _).trans ?_), h.ref (by omega)⟩
    · rw [c_C_isParish, bind_some', k2.1.2.1, bI_f hN, if_pos rfl, c_C_ref2, bind_some']
    · rw [c_M_isParish (by omega) a1 (k3.crf 0).nx, bind_some', bI_f hN, if_pos rfl, e_M_parishOf_20, c_M_ref2, bind_some']
  · obtain ⟨V1, v1, v2, v3, v4, v5⟩ := c_meas (d := 26) k2 k1 hx
    have m1 : MS V1 32 0 K := k3.frf v3 (by omega)
    have cl := e_C_parishOf_0 29 (nI x) a2 V
    rw [c_C_isParish, bind_some', k2.1.2.1, bI_t (ix_in hx (by omega)), if_neg one_ne, if_neg (nI_in (N := 6) (by omega) (by omega)), nI_clamp (by omega), v1, bind_some'] at cl
    rcases ix_or a2 (n := 12) (by omega) with hN | ⟨j, hj, rfl⟩
    · have n0 : ∀ j, j < 12 → ¬ a2 = nI j := fun j hj w => hN (w ▸ ix_in hj (by omega))
      refine ⟨-2, CRf V1 0, MRf (CRf V1 0) 0, clI_of (cl.trans ?_), (h.cor v3.cor).vok.crf 0, clI_of ((e_M_parishOf_0 29 _ a2 _).trans ?_), (h.cor v3.cor).ref (by omega)⟩
      · rw [if_neg (show ¬ a2 = 0 from n0 0 (by omega)), if_neg (show ¬ a2 = 1 from n0 1 (by omega)), if_neg (show ¬ a2 = 2 from n0 2 (by omega)), if_neg (show ¬ a2 = 3 from n0 3 (by omega)), if_neg (show ¬ a2 = 4 from n0 4 (by omega)), if_neg (show ¬ a2 = 5 from n0 5 (by omega)), if_neg (show ¬ a2 = 6 from n0 6 (by omega)), if_neg (show ¬ a2 = 7 from n0 7 (by omega)), if_neg (show ¬ a2 = 8 from n0 8 (by omega)), if_neg (show ¬ a2 = 9 from n0 9 (by omega)), if_neg (show ¬ a2 = 10 from n0 10 (by omega)), if_neg (show ¬ a2 = 11 from n0 11 (by omega)), c_C_ref2, bind_some']
      · rw [c_M_isParish (by omega) _ (m1.crf 0).nx, bind_some', bI_t (ix_in hx (by omega)), if_neg one_ne, c_in0_11, bind_some', bI_f hN, if_pos rfl, e_M_parishOf_20, c_M_ref2, bind_some']
    · have ml := e_M_parishOf_0 29 (nI x) (nI j) V1
      rw [c_M_isParish (by omega) _ m1.nx, bind_some', bI_t (ix_in hx (by omega)), if_neg one_ne, c_in0_11, bind_some', bI_t (ix_in hj (by omega)), if_neg one_ne] at ml
      have rd : ∀ k, k < 3 → ∀ y, V1.1 32 0 (36 + 23 * x + k) = nI y → (if 36 + 23 * nI x + nI k < 0 ∨ 178 ≤ Int32.toNatClampNeg (36 + 23 * nI x + nI k) then none else some (some (.inl (V1.1 32 0 (Int32.toNatClampNeg (36 + 23 * nI x + nI k)))), V1) : RR) = some (some (.inl (nI y)), V1) := fun k hk y hy => by
        have e : (36 + 23 * nI x + nI k : Int32) = nI (36 + 23 * x + k) := by simp only [fa_lit, pk_mul, nI_add]
        rw [e, if_neg (nI_in (N := 178) (by omega) (by omega)), nI_clamp (by omega), hy]
      obtain ⟨⟨q1, q2, q3⟩, q4⟩ := m1.2.2 x hx
      rw [Nat.zero_add] at q1 q2 q3
      match j, hj, cl, ml with
      | 0, _, cl, ml =>
        refine PM_cor h (V1 := V1) (V2 := V1) (r := nI (kKi K x)) (clI_of (cl.trans ?_)) v3.cor (clI_of (ml.trans ?_)) Cor.rfl
        · rw [if_pos (by decide), v5.1]
        · rw [if_pos (by decide)]
          exact rd 0 (by omega) _ q1
      | 1, _, cl, ml =>
        refine PM_cor h (V1 := V1) (V2 := V1) (r := nI (kA K x)) (clI_of (cl.trans ?_)) v3.cor (clI_of (ml.trans ?_)) Cor.rfl
        · rw [if_neg (by decide), if_pos (by decide), v5.2.1]
        · rw [if_neg (by decide), if_pos (by decide)]
          exact rd 1 (by omega) _ (by rw [show 36 + 23 * x + 1 = 37 + 23 * x by omega]; exact q2)
      | 2, _, cl, ml =>
        refine PM_cor h (V1 := V1) (V2 := V1) (r := nI (kLn K x)) (clI_of (cl.trans ?_)) v3.cor (clI_of (ml.trans ?_)) Cor.rfl
        · rw [if_neg (by decide), if_neg (by decide), if_pos (by decide), v5.2.2.2.1]
        · rw [if_neg (by decide), if_neg (by decide), if_pos (by decide)]
          exact rd 2 (by omega) _ (by rw [show 36 + 23 * x + 2 = 38 + 23 * x by omega]; exact q3)
      | 3, _, cl, ml =>
        refine PM_cor h (V1 := V1) (V2 := V1) (r := nI (usdN (kF K x) (kG K x) (kLn K x))) (clI_of (cl.trans ?_)) v3.cor (clI_of (ml.trans ?_)) Cor.rfl
        · rw [if_neg (by decide), if_neg (by decide), if_neg (by decide), if_pos (by decide), v2.2.1]
        · rw [if_neg (by decide), if_neg (by decide), if_neg (by decide), if_pos (by decide), c_M_used m1 k1 hx, bind_some']
      | 4, _, cl, ml =>
        refine PM_cor h (V1 := V1) (V2 := V1) (r := nI (litN (kBr K) (usdN (kF K x) (kG K x) (kLn K x)) (kNP K))) (clI_of (cl.trans ?_)) v3.cor (clI_of (ml.trans ?_)) Cor.rfl
        · rw [if_neg (by decide), if_neg (by decide), if_neg (by decide), if_neg (by decide), if_pos (by decide), v2.2.2.2.1]
        · rw [if_neg (by decide), if_neg (by decide), if_neg (by decide), if_neg (by decide), if_pos (by decide), c_M_light m1 k1 hx, bind_some']
      | 5, _, cl, ml =>
        refine PM_cor h (V1 := V1) (V2 := V1) (r := nI (pcN (kF K x) (kG K x) (kLn K x) (kNP K)).1) (clI_of (cl.trans ?_)) v3.cor (clI_of (ml.trans ?_)) Cor.rfl
        · rw [if_neg (by decide), if_neg (by decide), if_neg (by decide), if_neg (by decide), if_neg (by decide), if_pos (by decide), v2.2.2.2.2.2.2.1]
        · rw [if_neg (by decide), if_neg (by decide), if_neg (by decide), if_neg (by decide), if_neg (by decide), if_pos (by decide)]
          have P := c_M_pieces (d := 26) false m1 k1 hx; rw [bI_f (by simp)] at P; exact congrArg (fun z => Option.bind z _) P
      | 6, _, cl, ml =>
        refine PM_cor h (V1 := V1) (V2 := V1) (r := nI (oddN (kF K x) (kG K x) (kLn K x))) (clI_of (cl.trans ?_)) v3.cor (clI_of (ml.trans ?_)) Cor.rfl
        · rw [if_neg (by decide), if_neg (by decide), if_neg (by decide), if_neg (by decide), if_neg (by decide), if_neg (by decide), if_pos (by decide), v2.2.2.1]
        · rw [if_neg (by decide), if_neg (by decide), if_neg (by decide), if_neg (by decide), if_neg (by decide), if_neg (by decide), if_pos (by decide), c_M_odd m1 k1 hx, bind_some']
      | 7, _, cl, ml =>
        refine PM_cor h (V1 := V1) (V2 := V1) (r := nI (pcN (kF K x) (kG K x) (kLn K x) (kNP K)).2) (clI_of (cl.trans ?_)) v3.cor (clI_of (ml.trans ?_)) Cor.rfl
        · rw [if_neg (by decide), if_neg (by decide), if_neg (by decide), if_neg (by decide), if_neg (by decide), if_neg (by decide), if_neg (by decide), if_pos (by decide), v2.2.2.2.2.2.2.2]
        · rw [if_neg (by decide), if_neg (by decide), if_neg (by decide), if_neg (by decide), if_neg (by decide), if_neg (by decide), if_neg (by decide), if_pos (by decide)]
          have P := c_M_pieces (d := 26) true m1 k1 hx; exact congrArg (fun z => Option.bind z _) P
      | 8, _, cl, ml =>
        refine PM_cor h (V1 := V1) (V2 := V1) (r := bI (0 < kLn K x ∧ oddN (kF K x) (kG K x) (kLn K x) = 0)) (clI_of (cl.trans ?_)) v3.cor (clI_of (ml.trans ?_)) Cor.rfl
        · rw [if_neg (by decide), if_neg (by decide), if_neg (by decide), if_neg (by decide), if_neg (by decide), if_neg (by decide), if_neg (by decide), if_neg (by decide), if_pos (by decide), c_isClosed v2 hP (k1.toL.2.2 x hx) (k1.fn hx), bind_some']
          by_cases e : 0 < kLn K x ∧ oddN (kF K x) (kG K x) (kLn K x) = 0
          · rw [bI_t e, if_neg one_ne]
          · rw [bI_f e, if_pos rfl]
        · rw [if_neg (by decide), if_neg (by decide), if_neg (by decide), if_neg (by decide), if_neg (by decide), if_neg (by decide), if_neg (by decide), if_neg (by decide), if_pos (by decide), c_M_isClosed m1 k1 hx, bind_some']
          by_cases e : 0 < kLn K x ∧ oddN (kF K x) (kG K x) (kLn K x) = 0
          · rw [bI_t e, if_neg one_ne]
          · rw [bI_f e, if_pos rfl]
      | 9, _, cl, ml =>
        refine PM_cor h (V1 := V1) (V2 := V1) (r := nI (wK K x)) (clI_of (cl.trans ?_)) v3.cor (clI_of (ml.trans ?_)) Cor.rfl
        · rw [if_neg (by decide), if_neg (by decide), if_neg (by decide), if_neg (by decide), if_neg (by decide), if_neg (by decide), if_neg (by decide), if_neg (by decide), if_neg (by decide), if_pos (by decide), v5.1, v5.2.1, c_wor k1 hx v2, bind_some']
        · rw [if_neg (by decide), if_neg (by decide), if_neg (by decide), if_neg (by decide), if_neg (by decide), if_neg (by decide), if_neg (by decide), if_neg (by decide), if_neg (by decide), if_pos (by decide), c_M_worth m1 k1 hx, bind_some']
      | 10, _, cl, ml =>
        refine PM_cor h (V1 := V1) (V2 := V1) (r := nI (bm (kNP K) (kW K x))) (clI_of (cl.trans ?_)) v3.cor (clI_of (ml.trans ?_)) Cor.rfl
        · rw [if_neg (by decide), if_neg (by decide), if_neg (by decide), if_neg (by decide), if_neg (by decide), if_neg (by decide), if_neg (by decide), if_neg (by decide), if_neg (by decide), if_neg (by decide), if_pos (by decide), v5.2.2.1]
        · rw [if_neg (by decide), if_neg (by decide), if_neg (by decide), if_neg (by decide), if_neg (by decide), if_neg (by decide), if_neg (by decide), if_neg (by decide), if_neg (by decide), if_neg (by decide), if_pos (by decide), c_M_wish m1 k1 hx, bind_some']
      | 11, _, cl, ml =>
        refine PM_cor h (V1 := V1) (V2 := V1) (r := nI (sumLen (kCe K) (kF K x) (kG K x) (kLn K x))) (clI_of (cl.trans ?_)) v3.cor (clI_of (ml.trans ?_)) Cor.rfl
        · rw [if_neg (by decide), if_neg (by decide), if_neg (by decide), if_neg (by decide), if_neg (by decide), if_neg (by decide), if_neg (by decide), if_neg (by decide), if_neg (by decide), if_neg (by decide), if_neg (by decide), if_pos (by decide), v2.2.2.2.2.1]
        · rw [if_neg (by decide), if_neg (by decide), if_neg (by decide), if_neg (by decide), if_neg (by decide), if_neg (by decide), if_neg (by decide), if_neg (by decide), if_neg (by decide), if_neg (by decide), if_neg (by decide), c_M_lengths m1 k1 hx, bind_some']
      | n + 12, hj, _, _ => exact absurd hj (by omega)
theorem says_up {d : Nat} {V : Mem} (h : I7 V) (x1 x3 : Int32) (k : Nat) (hk : k < 6) (ki : Nat) (hki : ki < 6) : sem d 210 68 [some (.inr (.inr (30, 0))), some (.inl x1), some (.inl (nI k)), some (.inl x3), some (.inl (nI ki))] [] V = sem d 210 92 [some (.inr (.inr (30, 0))), some (.inl x1), some (.inl (nI k)), some (.inl x3), some (.inl (if k = 0 ∨ ki = k ∨ (ki = 3 ∧ k = 1) ∨ (ki = 4 ∧ k = 2) then nI k else -1))] [] V := by
  obtain ⟨a0, a1, a2, a3, a4, a5⟩ := h
  have nk : ∀ n, n < 6 → ¬ n = k → ¬ nI n = nI k := fun n hn hne w => hne ((nI_eq (by omega) (by omega)).mp w)
  have st : ∀ n, n < 6 → ¬ n = k → sem d 210 68 [some (.inr (.inr (30, 0))), some (.inl x1), some (.inl (nI k)), some (.inl x3), some (.inl (nI n))] [] V = sem d 210 68 [some (.inr (.inr (30, 0))), some (.inl x1), some (.inl (nI k)), some (.inl x3), some (.inl (V.1 46 0 n))] [] V := fun n hn hne => by
    rw [e_M_says_68, if_neg (neg1_nI (by omega)), if_neg (nk n hn hne), if_neg (nI_in (N := 6) (by omega) (by omega)), nI_clamp (by omega)]
  have eq : sem d 210 68 [some (.inr (.inr (30, 0))), some (.inl x1), some (.inl (nI k)), some (.inl x3), some (.inl (nI k))] [] V = sem d 210 92 [some (.inr (.inr (30, 0))), some (.inl x1), some (.inl (nI k)), some (.inl x3), some (.inl (nI k))] [] V := by
    rw [e_M_says_68, if_neg (neg1_nI (by omega)), if_pos rfl]
  have s0 : sem d 210 68 [some (.inr (.inr (30, 0))), some (.inl x1), some (.inl (nI k)), some (.inl x3), some (.inl (nI 0))] [] V = sem d 210 92 [some (.inr (.inr (30, 0))), some (.inl x1), some (.inl (nI k)), some (.inl x3), some (.inl (if k = 0 then nI k else -1))] [] V := by
    by_cases e : k = 0
    · subst e; rw [if_pos rfl]; exact eq
    · rw [st 0 (by omega) (fun w => e w.symm), a0, if_neg e, e_M_says_68, if_pos rfl]
  have s1 : ∀ n, n < 6 → ¬ n = k → V.1 46 0 n = 0 → sem d 210 68 [some (.inr (.inr (30, 0))), some (.inl x1), some (.inl (nI k)), some (.inl x3), some (.inl (nI n))] [] V = sem d 210 92 [some (.inr (.inr (30, 0))), some (.inl x1), some (.inl (nI k)), some (.inl x3), some (.inl (if k = 0 then nI k else -1))] [] V := fun n hn hne hv => by
    rw [st n hn hne, hv]; exact s0
  by_cases e : ki = k
  · subst e
    rw [if_pos (by omega)]
    exact eq
  · have c : ki = 0 ∨ ki = 1 ∨ ki = 2 ∨ ki = 3 ∨ ki = 4 ∨ ki = 5 := by omega
    have fin : ∀ (p q : Prop) [Decidable p] [Decidable q], (p ↔ q) → sem d 210 92 [some (.inr (.inr (30, 0))), some (.inl x1), some (.inl (nI k)), some (.inl x3), some (.inl (if p then nI k else -1))] [] V = sem d 210 92 [some (.inr (.inr (30, 0))), some (.inl x1), some (.inl (nI k)), some (.inl x3), some (.inl (if q then nI k else -1))] [] V := fun p q _ _ hpq => by simp only [hpq]
    rcases c with rfl | rfl | rfl | rfl | rfl | rfl
    · rw [s0]; exact fin _ _ (by omega)
    · rw [s1 1 (by omega) e a1]; exact fin _ _ (by omega)
    · rw [s1 2 (by omega) e a2]; exact fin _ _ (by omega)
    · rw [st 3 (by omega) e, a3]
      by_cases e1 : k = 1
      · subst e1
        rw [if_pos (by omega)]
        exact eq
      · refine Eq.trans (s1 1 (by omega) (fun w => e1 w.symm) a1) (fin _ _ (by omega))
    · rw [st 4 (by omega) e, a4]
      by_cases e1 : k = 2
      · subst e1
        rw [if_pos (by omega)]
        exact eq
      · refine Eq.trans (s1 2 (by omega) (fun w => e1 w.symm) a2) (fin _ _ (by omega))
    · rw [s1 5 (by omega) e a5]; exact fin _ _ (by omega)
theorem c_isUnder {d ki k : Nat} (hki : ki < 6) (hk : k < 6) (V : Mem) : clI (d + 1) m_C_isUnder [.inl (nI ki), .inl (nI k)] V = some (bI (k = 0 ∨ ki = k ∨ (ki = 3 ∧ k = 1) ∨ (ki = 4 ∧ k = 2)), V) := by
  have E : ∀ (a b : Nat), a < 6 → b < 6 → (nI a = nI b ↔ a = b) := fun a b ha hb => nI_eq (by omega) (by omega)
  have f25 : ∀ z : Int32, sem d 114 25 [some (.inl (nI ki)), some (.inl (nI k)), none] [.inl z] V = some (some (.inl (bI (k = 0 ∨ ki = k ∨ ¬ z = 0))), V) := fun z => by
    rw [e_C_isUnder_25]
    by_cases e1 : k = 0
    · rw [if_pos (by rw [e1]; rfl), bI_t (Or.inl e1)]
    · rw [if_neg (show ¬ nI k = 0 from fun w => e1 ((E k 0 hk (by omega)).mp w))]
      by_cases e2 : ki = k
      · rw [if_pos (by rw [e2]), bI_t (Or.inr (Or.inl e2))]
      · rw [if_neg (fun w => e2 ((E ki k hki hk).mp w))]
        by_cases e3 : z = 0
        · rw [if_pos e3, bI_f (fun w => w.elim e1 (fun w => w.elim e2 (fun w => w e3)))]
        · rw [if_neg e3, bI_t (Or.inr (Or.inr e3))]
  have f1 : sem d 114 20 [some (.inl (nI ki)), some (.inl (nI k)), none] [] V = some (some (.inl 1), V) := by
    rw [e_C_isUnder_20, f25, bI_t (Or.inr (Or.inr one_ne))]
  have f0 : sem d 114 24 [some (.inl (nI ki)), some (.inl (nI k)), none] [] V = some (some (.inl (bI (k = 0 ∨ ki = k))), V) := by
    rw [e_C_isUnder_24, f25]
    exact congrArg (fun z => some (some (Sum.inl z), V)) (bI_same (by simp))
  refine clI_of ((e_C_isUnder_0 d _ _ V).trans ?_)
  rw [e_C_isUnder_10, f1, f0]
  by_cases e1 : ki = 3
  · subst e1
    rw [if_pos (show nI 3 = 3 from rfl), if_neg (show ¬ nI 3 = 4 by decide)]
    by_cases e2 : k = 1
    · subst e2
      rw [if_pos (show nI 1 = 1 from rfl), bI_t (by omega)]
    · rw [if_neg (show ¬ nI k = 1 from fun w => e2 ((E k 1 hk (by omega)).mp w))]
      exact congrArg (fun z => some (some (Sum.inl z), V)) (bI_same (by omega))
  · rw [if_neg (show ¬ nI ki = 3 from fun w => e1 ((E ki 3 hki (by omega)).mp w))]
    by_cases e3 : ki = 4
    · subst e3
      rw [if_pos (show nI 4 = 4 from rfl)]
      by_cases e2 : k = 2
      · subst e2
        rw [if_pos (show nI 2 = 2 from rfl), bI_t (by omega)]
      · rw [if_neg (show ¬ nI k = 2 from fun w => e2 ((E k 2 hk (by omega)).mp w))]
        exact congrArg (fun z => some (some (Sum.inl z), V)) (bI_same (by omega))
    · rw [if_neg (show ¬ nI ki = 4 from fun w => e3 ((E ki 4 hki (by omega)).mp w))]
      exact congrArg (fun z => some (some (Sum.inl z), V)) (bI_same (by omega))
theorem pm_says (SL : Nat) (xs : Nat → Int32) (a1 : Int32) (a2 : Int32) : PMI SL xs m_C_says m_M_says [.inl a1, .inl a2] := by
  intro V h
  obtain ⟨K, k1, k2, k3, k4⟩ := h.1
  have hX := k1.2.1
  have hP := k1.1
  by_cases B : inR 8 a1 ∧ inR 6 a2
  · obtain ⟨s, hs, rfl⟩ := (ix_or a1 (n := 8) (by omega)).resolve_left (fun w => w B.1)
    obtain ⟨k, hk, rfl⟩ := (ix_or a2 (n := 6) (by omega)).resolve_left (fun w => w B.2)
    have kl : nI k < 6 := nI_lt (b := 6) hk (by omega)
    have cl := e_C_says_0 29 (nI s) (nI k) V
    rw [c_C_isShelf, bind_some', bI_t B.1, if_neg one_ne, if_neg (nI_pos (by omega)), if_pos kl, if_neg (nI_in (N := 8) (by omega) (by omega)), nI_clamp (by omega)] at cl
    have ml : ∀ V' : Mem, sem 29 210 0 [some (.inr (.inr (30, 0))), some (.inl (nI s)), some (.inl (nI k)), none, none] [] V' = if V'.1 42 0 s = -1 then (clI 29 129 [.inr (.inr (30, 0)), .inl (-4)] V').bind (fun W3 => some (some (.inl W3.1), W3.2)) else if V'.1 42 0 s - 10 < 0 then sem 29 210 66 [some (.inr (.inr (30, 0))), some (.inl (nI s)), some (.inl (nI k)), some (.inl (V'.1 42 0 s - 10)), none] [.inl (-1)] V' else (clI 29 137 [.inr (.inr (30, 0)), .inl (V'.1 42 0 s - 10)] V').bind fun W4 => sem 29 210 66 [some (.inr (.inr (30, 0))), some (.inl (nI s)), some (.inl (nI k)), some (.inl (V'.1 42 0 s - 10)), none] [.inl W4.1] W4.2 := fun V' => by
      rw [e_M_says_0 29 (nI s) (nI k) V', c_M_isShelf, bind_some', bI_t B.1, if_neg one_ne, c_in0_5, bind_some', bI_t B.2, if_neg one_ne, if_neg (nI_in (N := 8) (by omega) (by omega)), if_neg (nI_in (N := 8) (by omega) (by omega)), nI_clamp (by omega)]
    obtain ⟨o1, o2⟩ := k4 s hs
    have crf : ∀ n, (CRf V n).1 42 0 s = V.1 23 s 1 := fun n => by rw [CRf_n (by omega)]; exact o2
    rcases o1 with o | ⟨n, hn, o⟩ | ⟨x, hx, o⟩
    · refine ⟨-4, CRf V 2, MRf (CRf V 2) 2, clI_of (cl.trans ?_), h.vok.crf 2, clI_of ((ml _).trans ?_), h.ref (by omega)⟩
      · rw [o, if_pos rfl, c_C_ref4, bind_some']
      · rw [crf, o, if_pos rfl, c_M_ref4, bind_some']
    · have ng : nI n - 10 < 0 := pk_sneg (b := 10) (by omega) (by omega)
      refine ⟨-3, CRf V 1, MRf (CRf V 1) 1, clI_of (cl.trans ?_), h.vok.crf 1, clI_of ((ml _).trans ?_), h.ref (by omega)⟩
      · rw [o, if_neg (neg1_nI (by omega)), c_C_isParish, bind_some', bI_f (fun w => w.1 ng), if_pos rfl, e_C_says_85, c_C_ref3, bind_some']
      · rw [crf, o, if_neg (neg1_nI (by omega)), if_pos ng, e_M_says_66, e_M_says_68, if_pos rfl, e_M_says_92, if_pos rfl, c_M_ref3, bind_some']
    · have ki := (k1.2.2.2.2 x hx).1.1
      have par := k2.2.2 x hx
      rw [show x + 6 * 0 = x by omega] at par
      have mm : ∀ V' : Mem, MS V' 32 0 K → V'.1 42 0 s = nI (10 + x) → I7 V' → sem 29 210 0 [some (.inr (.inr (30, 0))), some (.inl (nI s)), some (.inl (nI k)), none, none] [] V' = sem 29 210 92 [some (.inr (.inr (30, 0))), some (.inl (nI s)), some (.inl (nI k)), some (.inl (nI x)), some (.inl (if k = 0 ∨ kKi K x = k ∨ (kKi K x = 3 ∧ k = 1) ∨ (kKi K x = 4 ∧ k = 2) then nI k else -1))] [] V' := fun V' hm ho h7 => by
        rw [ml V', ho, if_neg (neg1_nI (by omega)), ten_sub, if_neg (nI_pos (by omega)), c_M_kind hm k1.toL hx, bind_some', e_M_says_66, says_up h7 _ _ k hk _ ki]
      rw [o, if_neg (neg1_nI (by omega)), ten_sub, c_C_isParish, bind_some', k2.1.2.1, bI_t (ix_in hx (by omega)), if_neg one_ne, if_neg (nI_in (N := 6) (by omega) (by omega)), nI_clamp (n := x) (by omega), par.1, c_isUnder ki hk, bind_some'] at cl
      by_cases U : k = 0 ∨ kKi K x = k ∨ (kKi K x = 3 ∧ k = 1) ∨ (kKi K x = 4 ∧ k = 2)
      · rw [bI_t U, if_neg one_ne] at cl
        by_cases e0 : k = 0
        · subst e0
          refine PM_cor h (V1 := V) (V2 := V) (r := nI (kA K x)) (clI_of (cl.trans ?_)) Cor.rfl (clI_of ((mm V k3 (o2.trans o) h.2.2.2.2.2.2.1).trans ?_)) Cor.rfl
          · rw [if_pos (by decide), if_neg (nI_in' (N := 6) (by omega) (by omega)), par.2.1]
          · rw [if_pos U, e_M_says_92, if_neg (by decide), if_pos (by decide), c_M_a k3 k1.toL hx, bind_some']
        · have n0 : ¬ nI k = 0 := nI_ne0 (by omega) (by omega)
          obtain ⟨V1, w1, w2⟩ := c_worthOf (d := 25) k2 k1 hx
          refine PM_cor h (V1 := V1) (V2 := V1) (r := nI (wK K x)) (clI_of (cl.trans ?_)) w2.cor (clI_of ((mm V1 (k3.frf w2 (by omega)) ((w2.1 42 0 s (by omega)).trans (o2.trans o)) (h.cor w2.cor).2.2.2.2.2.2.1).trans ?_)) Cor.rfl
          · rw [if_neg n0, w1, bind_some']
          · rw [if_pos U, e_M_says_92, if_neg (neg1_nI (by omega)), if_neg n0, c_M_worth (k3.frf w2 (by omega)) k1 hx, bind_some']
      · rw [bI_f U, if_pos rfl] at cl
        refine ⟨-3, CRf V 1, MRf (CRf V 1) 1, clI_of (cl.trans ?_), h.vok.crf 1, clI_of ((mm _ (k3.crf 1) ((crf 1).trans o) ?_).trans ?_), h.ref (by omega)⟩
        · rw [e_C_says_85, c_C_ref3, bind_some']
        · have i7 := h.2.2.2.2.2.2.1
          exact I7.ag i7 (Ag.set (by unfold dp7; omega) Ag.rfl)
        · rw [if_neg U, e_M_says_92, if_pos rfl, c_M_ref3, bind_some']
  · refine ⟨-2, CRf V 0, MRf (CRf V 0) 0, clI_of ((e_C_says_0 29 a1 a2 V).trans ?_), h.vok.crf 0, clI_of ((e_M_says_0 29 a1 a2 _).trans ?_), h.ref (by omega)⟩
    · rw [c_C_isShelf, bind_some', e_C_says_18, c_C_ref2, bind_some']
      by_cases b1 : inR 8 a1
      · rw [bI_t b1, if_neg one_ne]
        by_cases b2 : a2 < 0
        · rw [if_pos b2]
        · rw [if_neg b2, if_neg (show ¬ a2 < 6 from fun w => B ⟨b1, b2, w⟩)]
      · rw [bI_f b1, if_pos rfl]
    · rw [c_M_isShelf, bind_some', e_M_says_19, c_M_ref2, bind_some']
      by_cases b1 : inR 8 a1
      · rw [bI_t b1, if_neg one_ne, c_in0_5, bind_some', bI_f (fun w => B ⟨b1, w⟩), if_pos rfl, e_M_says_19, c_M_ref2, bind_some']
      · rw [bI_f b1, if_pos rfl]
