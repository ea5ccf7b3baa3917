/-! seen, status -/
def wyL (c : Int32) : Nat → Int64
  | 0 => 1000000
  | k + 1 => wyL c k * c.toInt64
def alL : Nat → Int64
  | 0 => 1
  | k + 1 => alL k * 12
theorem alL_ne : ∀ n, n < 13 → ¬ alL n = 0 := by decide +kernel
theorem alL_pos : ∀ n, n < 13 → 0 < lg_cmp (alL n) 0 := by decide +kernel
theorem c_likely {d n : Nat} (hn : n < 13) (c : Int32) (V : Mem) : clI (d + 1) m_C_likelyAllSeen [.inl (nI n), .inl c] V = some (Int64.toInt32 (wyL c n / alL n), V) := by
  refine clI_of ((e_C_likelyAllSeen_0 d _ _ V).trans ?_)
  refine loopN n (fun k => sem d 127 10 [some (.inl (nI n)), some (.inl c), some (.inr (.inl (wyL c k))), none, some (.inr (.inl (alL k))), none, some (.inl (nI k))] [] V) _ (fun k hk => ?_) ?_
  · show sem _ _ _ _ _ _ = sem _ _ _ _ _ _
    rw [e_C_likelyAllSeen_10, if_pos (nI_lt hk (by omega)), nI_1]
    rfl
  · show sem _ _ _ _ _ _ = _
    rw [e_C_likelyAllSeen_10, if_neg (nI_nlt (Nat.le_refl _) (by omega)), if_pos (alL_pos n hn), if_neg (alL_ne n hn)]
theorem usd12 {K : SKY} (ok : okK K) {x : Nat} (hx : x < kNX K) : usdN (kF K x) (kG K x) (kLn K x) < 4096 := by
  have hP := ok.1
  have hpw : 2 ^ kNP K ≤ 2 ^ 12 := Nat.pow_le_pow_right (by omega) hP
  have lu := usdN_lt (kLn K x) (ok.fn hx)
  omega
theorem mseen {d x : Nat} {V : Mem} {K : SKY} (h : MS V 32 0 K) (ok : okK K) (hx : x < kNX K) (x2 c : Int32) : sem (d + 2) 213 71 [some (.inr (.inr (30, 0))), some (.inl (nI x)), some (.inl x2), some (.inl c), some (.inr (.inl (1000000))), none, some (.inr (.inl (1))), none, some (.inl 0)] [] V = some (some (.inl (Int64.toInt32 (wyL c (onesN (usdN (kF K x) (kG K x) (kLn K x)) 12) / alL (onesN (usdN (kF K x) (kG K x) (kLn K x)) 12)))), V) := by
  have lu := usd12 ok hx
  have lo := onesN_le (usdN (kF K x) (kG K x) (kLn K x)) 12
  refine loopN (onesN (usdN (kF K x) (kG K x) (kLn K x)) 12) (fun k => sem (d + 2) 213 71 [some (.inr (.inr (30, 0))), some (.inl (nI x)), some (.inl x2), some (.inl c), some (.inr (.inl (wyL c k))), none, some (.inr (.inl (alL k))), none, some (.inl (nI k))] [] V) _ (fun k hk => ?_) ?_
  · show sem _ _ _ _ _ _ = sem _ _ _ _ _ _
    rw [e_M_seen_71, c_M_used h ok hx, bind_some', c_M_ones (by omega), bind_some', if_pos (nI_lt hk (by omega)), nI_1]
    rfl
  · show sem _ _ _ _ _ _ = _
    rw [e_M_seen_71, c_M_used h ok hx, bind_some', c_M_ones (by omega), bind_some', if_neg (nI_nlt (Nat.le_refl _) (by omega)), if_neg (alL_ne _ (by omega))]
theorem pm_seen (SL : Nat) (xs : Nat → Int32) (a1 : Int32) (a2 : Int32) : PMI SL xs m_C_seen m_M_seen [.inl a1, .inl a2] := by
  intro V h
  obtain ⟨K, k1, k2, k3, k4⟩ := h.1
  have hX := k1.2.1
  have hP := k1.1
  rcases ix_or a1 (n := kNX K) (by omega) with hN | ⟨x, hx, rfl⟩
  · refine ⟨-2, CRf V 0, MRf (CRf V 0) 0, clI_of ((e_C_seen_0 29 a1 a2 V).trans ?_), h.vok.crf 0, clI_of ((e_M_seen_0 29 a1 a2 _).trans ?_), h.ref (by omega)⟩
    · rw [c_C_isParish, bind_some', k2.1.2.1, bI_f hN, if_pos rfl, c_C_ref2, bind_some']
    · rw [c_M_isParish (by omega) a1 (k3.crf 0).nx, bind_some', bI_f hN, if_pos rfl, e_M_seen_18, c_M_ref2, bind_some']
  · obtain ⟨V1, v1, v2, v3, v4, v5⟩ := c_meas (d := 26) k2 k1 hx
    have m1 : MS V1 32 0 K := k3.frf v3 (by omega)
    have cl := e_C_seen_0 29 (nI x) a2 V
    rw [c_C_isParish, bind_some', k2.1.2.1, bI_t (ix_in hx (by omega)), if_neg one_ne, if_neg (nI_in (N := 6) (by omega) (by omega)), nI_clamp (by omega), v1, bind_some', v4.1.2.2.1, v2.1, v2.2.1] at cl
    rcases ix_or a2 (n := 2) (by omega) with hN | ⟨j, hj, rfl⟩
    · have n0 : ∀ j, j < 2 → ¬ a2 = nI j := fun j hj w => hN (w ▸ ix_in hj (by omega))
      refine ⟨-2, CRf V1 0, MRf (CRf V1 0) 0, clI_of (cl.trans ?_), (h.cor v3.cor).vok.crf 0, clI_of ((e_M_seen_0 29 _ a2 _).trans ?_), (h.cor v3.cor).ref (by omega)⟩
      · rw [if_neg (show ¬ a2 = 0 from n0 0 (by omega)), if_neg (show ¬ a2 = 1 from n0 1 (by omega)), c_C_ref2, bind_some']
      · rw [c_M_isParish (by omega) _ (m1.crf 0).nx, bind_some', bI_t (ix_in hx (by omega)), if_neg one_ne, c_in0_1, bind_some', bI_f hN, if_pos rfl, e_M_seen_18, c_M_ref2, bind_some']
    · have ml := e_M_seen_0 29 (nI x) (nI j) V1
      rw [c_M_isParish (by omega) _ m1.nx, bind_some', bI_t (ix_in hx (by omega)), if_neg one_ne, c_in0_1, bind_some', bI_t (ix_in hj (by omega)), if_neg one_ne, m1.cl] at ml
      match j, hj, cl, ml with
      | 0, _, cl, ml =>
        have lo := onesN_le (usdN (kF K x) (kG K x) (kLn K x)) 12
        refine PM_cor h (V1 := V1) (V2 := V1) (r := Int64.toInt32 (wyL (12 - nI (kCl K)) (onesN (usdN (kF K x) (kG K x) (kLn K x)) 12) / alL (onesN (usdN (kF K x) (kG K x) (kLn K x)) 12))) (clI_of (cl.trans ?_)) v3.cor (clI_of (ml.trans ?_)) Cor.rfl
        · rw [if_pos (by decide), c_bitCount, bind_some', bc12 (usd12 k1 hx), c_likely (by omega), bind_some']
        · rw [if_neg (by decide)]
          exact mseen (d := 27) m1 k1 hx _ _
      | 1, _, cl, ml =>
        refine PM_cor h (V1 := V1) (V2 := V1) (r := 1000 * nI (kLn K x) * (12 - nI (kCl K)) * (12 - nI (kCl K)) / 144) (clI_of (cl.trans ?_)) v3.cor (clI_of (ml.trans ?_)) Cor.rfl
        · rw [if_neg (by decide), if_pos (by decide)]
        · rw [if_pos (by decide), c_M_ln m1 k1.toL hx, bind_some']
      | n + 2, hj, _, _ => exact absurd hj (by omega)
def sumW (K : SKY) : Nat → Nat
  | 0 => 0
  | k + 1 => sumW K k + wK K k
theorem c_allWorth {d : Nat} {V : Mem} {K : SKY} (h : CS V 0 K) (ok : okK K) : ∃ V', clI (d + 5) m_C_allWorth [.inr (.inr (0, 0))] V = some (nI (sumW K (kNX K)), V') ∧ FrF V V' := by
  have hX := ok.2.1
  obtain ⟨V', v1, v2⟩ := loopI (kNX K) (fun _ W => FrF V W) (fun k W => sem (d + 4) 117 4 [some (.inr (.inr (0, 0))), some (.inl (nI (sumW K k))), some (.inl (nI k))] [] W) (fun k W hk hW => by
    obtain ⟨W2, w1, w2⟩ := c_worthOf (d := d) (h.frf ok hW) ok hk
    refine ⟨W2, hW.trans w2, ?_⟩
    show sem _ _ _ _ _ _ = sem _ _ _ _ _ _
    rw [e_C_allWorth_4, (h.frf ok hW).1.2.1, if_pos (nI_lt hk (by omega)), w1, bind_some', nI_add, nI_1]
    rfl) V FrF.rfl
  refine ⟨V', clI_of ((e_C_allWorth_0 (d + 4) V).trans (v2.trans ?_)), v1⟩
  show sem _ _ _ _ _ _ = _
  rw [e_C_allWorth_4, (h.frf ok v1).1.2.1, if_neg (nI_nlt (Nat.le_refl _) (by omega))]
theorem c_M_allWorth {d : Nat} (x1 : Int32) {V : Mem} {K : SKY} (h : MS V 32 0 K) (ok : okK K) : sem (d + 5) 222 110 [some (.inr (.inr (30, 0))), some (.inl x1), some (.inl 0), some (.inl 0)] [] V = some (some (.inl (nI (sumW K (kNX K)))), V) := by
  have hX := ok.2.1
  refine loopN (kNX K) (fun k => sem (d + 5) 222 110 [some (.inr (.inr (30, 0))), some (.inl x1), some (.inl (nI (sumW K k))), some (.inl (nI k))] [] V) _ (fun k hk => ?_) ?_
  · show sem _ _ _ _ _ _ = sem _ _ _ _ _ _
    rw [e_M_status_110, h.nx, if_pos (nI_lt hk (by omega)), c_M_worth h ok hk, bind_some', nI_add, nI_1]
    rfl
  · show sem _ _ _ _ _ _ = _
    rw [e_M_status_110, h.nx, if_neg (nI_nlt (Nat.le_refl _) (by omega))]
abbrev shB (K : SKY) (p : Nat) : Prop := 2 ≤ onesN (bm (kNX K) (fun y => kW K y p)) 12
def shC (K : SKY) : Nat → Nat
  | 0 => 0
  | k + 1 => shC K k + (if shB K k then 1 else 0)
theorem bmx_lt {K : SKY} (ok : okK K) (p : Nat) : bm (kNX K) (fun y => kW K y p) < 64 := by
  have l := bm_lt (kNX K) (fun y => kW K y p)
  have l2 : 2 ^ kNX K ≤ 2 ^ 6 := Nat.pow_le_pow_right (by omega) ok.2.1
  omega
theorem c_isShared {d s p : Nat} {V : Mem} {K : SKY} (h : CS V s K) (ok : okK K) (hp : p < kNP K) : clI (d + 3) m_Sky_isShared [.inr (.inr (1, s)), .inl (nI p)] V = some (bI (shB K p), V) := by
  have lb := bmx_lt ok p
  have lo := onesN_le (bm (kNX K) (fun y => kW K y p)) 12
  refine clI_of ((e_Sky_isShared_0 (d + 2) s _ V).trans ?_)
  rw [c_wantersOf h ok hp, bind_some', c_bitCount, bind_some', bc12 (by omega)]
  by_cases e : shB K p
  · rw [if_neg (show ¬ nI _ < 2 from nI_nlt (b := 2) e (by omega)), bI_t e]
  · rw [if_pos (show nI _ < 2 from nI_lt (b := 2) (Nat.lt_of_not_le e) (by omega)), bI_f e]
theorem c_sharedPoints {d s : Nat} {V : Mem} {K : SKY} (h : CS V s K) (ok : okK K) : clI (d + 4) m_Sky_sharedPoints [.inr (.inr (1, s))] V = some (nI (shC K (kNP K)), V) := by
  have hP := ok.1
  refine clI_of ((e_Sky_sharedPoints_0 (d + 3) s V).trans ?_)
  refine loopN (kNP K) (fun k => sem (d + 3) 53 4 [some (.inr (.inr (1, s))), some (.inl (nI (shC K k))), some (.inl (nI k))] [] V) _ (fun k hk => ?_) ?_
  · show sem _ _ _ _ _ _ = sem (d + 3) 53 4 [some (.inr (.inr (1, s))), some (.inl (nI (shC K k + (if shB K k then 1 else 0)))), some (.inl (nI (k + 1)))] [] V
    rw [e_Sky_sharedPoints_4, h.1.1, if_pos (nI_lt hk (by omega)), c_isShared h ok hk, bind_some']
    by_cases e : shB K k
    · rw [bI_t e, if_neg one_ne, e_Sky_sharedPoints_23, nI_1, nI_1, if_pos e]
    · rw [bI_f e, if_pos rfl, e_Sky_sharedPoints_23, nI_1, if_neg e]
      rfl
  · show sem _ _ _ _ _ _ = _
    rw [e_Sky_sharedPoints_4, h.1.1, if_neg (nI_nlt (Nat.le_refl _) (by omega))]
theorem c_M_wanted {d p : Nat} {V : Mem} {K : SKY} (h : MS V 32 0 K) (ok : okK K) (hp : p < kNP K) : clI (d + 1) m_M_wanted [.inr (.inr (30, 0)), .inl (nI p)] V = some (nI (bm (kNX K) (fun x => kW K x p)), V) := by
  have hP := ok.1
  have g3 := (h.2.1 p hp).2.2
  rw [Nat.zero_add] at g3
  refine clI_of ((e_M_wanted_0 d (nI p) V).trans ?_)
  have e : (3 * nI p + 2 : Int32) = nI (3 * p + 2) := by simp only [fa_lit, pk_mul, nI_add]
  rw [e, if_neg (nI_in (N := 178) (by omega) (by omega)), nI_clamp (by omega), g3]
theorem c_M_manyShared {d : Nat} {V : Mem} {K : SKY} (h : MS V 32 0 K) (ok : okK K) : clI (d + 2) m_M_manyShared [.inr (.inr (30, 0))] V = some (nI (shC K (kNP K)), V) := by
  have hP := ok.1
  refine clI_of ((e_M_manyShared_0 (d + 1) V).trans ?_)
  refine loopN (kNP K) (fun k => sem (d + 1) 190 4 [some (.inr (.inr (30, 0))), some (.inl (nI (shC K k))), some (.inl (nI k))] [] V) _ (fun k hk => ?_) ?_
  · have lb := bmx_lt ok k
    have lo := onesN_le (bm (kNX K) (fun y => kW K y k)) 12
    show sem _ _ _ _ _ _ = sem (d + 1) 190 4 [some (.inr (.inr (30, 0))), some (.inl (nI (shC K k + (if shB K k then 1 else 0)))), some (.inl (nI (k + 1)))] [] V
    rw [e_M_manyShared_4, h.np, if_pos (nI_lt hk (by omega)), c_M_wanted h ok hk, bind_some', c_M_ones (by omega), bind_some']
    by_cases e : shB K k
    · rw [if_pos (show 1 < nI _ from nI_lt (a := 1) (by have e' : 2 ≤ onesN (bm (kNX K) (fun y => kW K y k)) 12 := e; omega) (by omega)), e_M_manyShared_34, nI_1, nI_1, if_pos e]
    · rw [if_neg (show ¬ 1 < nI _ from nI_nlt (a := 1) (by have e' : ¬ 2 ≤ onesN (bm (kNX K) (fun y => kW K y k)) 12 := e; omega) (by omega)), e_M_manyShared_34, nI_1, if_neg e, Int32.add_zero]
      rfl
  · show sem _ _ _ _ _ _ = _
    rw [e_M_manyShared_4, h.np, if_neg (nI_nlt (Nat.le_refl _) (by omega))]
theorem pm_status (SL : Nat) (xs : Nat → Int32) (a1 : Int32) : PMI SL xs m_C_status m_M_status [.inl a1] := by
  intro V h
  obtain ⟨K, k1, k2, k3, k4⟩ := h.1
  have hX := k1.2.1
  have hP := k1.1
  have cl := e_C_status_0 29 a1 V
  have ml : ∀ V' : Mem, _ = _ := fun V' => e_M_status_0 29 a1 V'
  have eI : ∀ V', clI 29 128 [.inr (.inl (Int32.toInt64 a1)), .inr (.inl (12)), .inr (.inl (16))] V' = some (bI (¬ a1 < 12 ∧ ¬ 16 < a1), V') := fun V' => by
    have := c_M_isInL (d := 28) a1.toInt64 12 16 V'
    have e1 : (a1.toInt64 < 12) ↔ a1 < 12 := j_lt a1 12
    have e2 : (16 < a1.toInt64) ↔ 16 < a1 := j_lt 16 a1
    rw [bI_same (show (¬ a1.toInt64 < 12 ∧ ¬ 16 < a1.toInt64) ↔ (¬ a1 < 12 ∧ ¬ 16 < a1) by rw [e1, e2])] at this
    exact this
  simp only [eI, bind_some'] at ml
  rcases ix_or a1 (n := 17) (by omega) with hN | ⟨j, hj, rfl⟩
  · have n0 : ∀ j, j < 17 → ¬ a1 = nI j := fun j hj w => hN (w ▸ ix_in hj (by omega))
    have nB : ¬ (¬ a1 < 12 ∧ ¬ 16 < a1) := fun w => hN (by
      have e1 := w.1
      have e2 := w.2
      rw [lt_toInt] at e1 e2
      have q12 : (12 : Int32).toInt = 12 := by decide
      have q16 : (16 : Int32).toInt = 16 := by decide
      have q0 : (0 : Int32).toInt = 0 := by decide
      refine ⟨?_, ?_⟩
      · rw [lt_toInt]; omega
      · rw [lt_toInt, nI_toInt (by omega)]; omega)
    refine PM_cor h (V1 := V) (V2 := V) (r := -1) (clI_of (cl.trans ?_)) Cor.rfl (clI_of ((ml V).trans ?_)) Cor.rfl
    · rw [if_neg (show ¬ a1 = 0 from n0 0 (by omega)), if_neg (show ¬ a1 = 1 from n0 1 (by omega)), if_neg (show ¬ a1 = 2 from n0 2 (by omega)), if_neg (show ¬ a1 = 3 from n0 3 (by omega)), if_neg (show ¬ a1 = 4 from n0 4 (by omega)), if_neg (show ¬ a1 = 5 from n0 5 (by omega)), if_neg (show ¬ a1 = 6 from n0 6 (by omega)), if_neg (show ¬ a1 = 7 from n0 7 (by omega)), if_neg (show ¬ a1 = 8 from n0 8 (by omega)), if_neg (show ¬ a1 = 9 from n0 9 (by omega)), if_neg (show ¬ a1 = 10 from n0 10 (by omega)), if_neg (show ¬ a1 = 11 from n0 11 (by omega)), if_neg (show ¬ a1 = 12 from n0 12 (by omega)), if_neg (show ¬ a1 = 13 from n0 13 (by omega)), if_neg (show ¬ a1 = 14 from n0 14 (by omega)), if_neg (show ¬ a1 = 15 from n0 15 (by omega)), if_neg (show ¬ a1 = 16 from n0 16 (by omega))]
    · rw [bI_f nB, if_pos rfl, if_neg (show ¬ a1 = 0 from n0 0 (by omega)), if_neg (show ¬ a1 = 1 from n0 1 (by omega)), if_neg (show ¬ a1 = 2 from n0 2 (by omega)), if_neg (show ¬ a1 = 3 from n0 3 (by omega)), if_neg (show ¬ a1 = 4 from n0 4 (by omega)), if_neg (show ¬ a1 = 5 from n0 5 (by omega)), if_neg (show ¬ a1 = 6 from n0 6 (by omega)), if_neg (show ¬ a1 = 7 from n0 7 (by omega)), if_neg (show ¬ a1 = 8 from n0 8 (by omega))]
  · match j, hj, cl, ml with
    | 0, _, cl, ml =>
      refine PM_cor h (V1 := V) (V2 := V) (r := nI (kNP K)) (clI_of (cl.trans ?_)) Cor.rfl (clI_of ((ml V).trans ?_)) Cor.rfl
      · rw [if_pos (by decide), k2.1.1]
      · rw [bI_f (by decide), if_pos rfl, if_pos (by decide), k3.np]
    | 1, _, cl, ml =>
      refine PM_cor h (V1 := V) (V2 := V) (r := nI (kNX K)) (clI_of (cl.trans ?_)) Cor.rfl (clI_of ((ml V).trans ?_)) Cor.rfl
      · rw [if_neg (by decide), if_pos (by decide), k2.1.2.1]
      · rw [bI_f (by decide), if_pos rfl, if_neg (by decide), if_pos (by decide), k3.nx]
    | 2, _, cl, ml =>
      refine PM_cor h (V1 := V) (V2 := V) (r := nI (kCl K)) (clI_of (cl.trans ?_)) Cor.rfl (clI_of ((ml V).trans ?_)) Cor.rfl
      · rw [if_neg (by decide), if_neg (by decide), if_pos (by decide), k2.1.2.2.1]
      · rw [bI_f (by decide), if_pos rfl, if_neg (by decide), if_neg (by decide), if_pos (by decide), k3.cl]
    | 3, _, cl, ml =>
      refine PM_cor h (V1 := V) (V2 := V) (r := nI (sumL K (kNX K))) (clI_of (cl.trans ?_)) Cor.rfl (clI_of ((ml V).trans ?_)) Cor.rfl
      · rw [if_neg (by decide), if_neg (by decide), if_neg (by decide), if_pos (by decide), c_allLines k2 k1.toL, bind_some']
      · rw [bI_f (by decide), if_pos rfl, if_neg (by decide), if_neg (by decide), if_neg (by decide), if_pos (by decide), c_M_allLines k3 k1.toL, bind_some']
    | 4, _, cl, ml =>
      obtain ⟨V1, w1, w2⟩ := c_allWorth (d := 24) k2 k1
      refine PM_cor h (V1 := V1) (V2 := V1) (r := nI (sumW K (kNX K))) (clI_of (cl.trans ?_)) w2.cor (clI_of ((ml V1).trans ?_)) Cor.rfl
      · rw [if_neg (by decide), if_neg (by decide), if_neg (by decide), if_neg (by decide), if_pos (by decide), w1, bind_some']
      · rw [bI_f (by decide), if_pos rfl, if_neg (by decide), if_neg (by decide), if_neg (by decide), if_neg (by decide), if_pos (by decide)]
        exact c_M_allWorth (d := 24) _ (k3.frf w2 (by omega)) k1
    | 5, _, cl, ml =>
      refine PM_cor h (V1 := V) (V2 := V) (r := nI (shC K (kNP K))) (clI_of (cl.trans ?_)) Cor.rfl (clI_of ((ml V).trans ?_)) Cor.rfl
      · rw [if_neg (by decide), if_neg (by decide), if_neg (by decide), if_neg (by decide), if_neg (by decide), if_pos (by decide), c_sharedPoints k2 k1, bind_some']
      · rw [bI_f (by decide), if_pos rfl, if_neg (by decide), if_neg (by decide), if_neg (by decide), if_neg (by decide), if_neg (by decide), if_pos (by decide), c_M_manyShared k3 k1, bind_some']
    | 6, _, cl, ml =>
      obtain ⟨n, t1, t2, t3, t4⟩ := h.2.2.1
      refine PM_cor h (V1 := V) (V2 := V) (r := nI n) (clI_of (cl.trans ?_)) Cor.rfl (clI_of ((ml V).trans ?_)) Cor.rfl
      · rw [if_neg (by decide), if_neg (by decide), if_neg (by decide), if_neg (by decide), if_neg (by decide), if_neg (by decide), if_pos (by decide), t2]
      · rw [bI_f (by decide), if_pos rfl, if_neg (by decide), if_neg (by decide), if_neg (by decide), if_neg (by decide), if_neg (by decide), if_neg (by decide), if_pos (by decide), t3]
    | 7, _, cl, ml =>
      refine PM_cor h (V1 := V) (V2 := V) (r := kSd K) (clI_of (cl.trans ?_)) Cor.rfl (clI_of ((ml V).trans ?_)) Cor.rfl
      · rw [if_neg (by decide), if_neg (by decide), if_neg (by decide), if_neg (by decide), if_neg (by decide), if_neg (by decide), if_neg (by decide), if_pos (by decide), k2.1.2.2.2]
      · rw [bI_f (by decide), if_pos rfl, if_neg (by decide), if_neg (by decide), if_neg (by decide), if_neg (by decide), if_neg (by decide), if_neg (by decide), if_neg (by decide), if_pos (by decide), k3.se]
    | 8, _, cl, ml =>
      have ue := useN_eq (f := fun s => V.1 42 0 s) (g := fun s => V.1 23 s 1) 8 (fun s hs => (k4 s hs).2)
      refine PM_cor h (V1 := V) (V2 := V) (r := nI (useN (fun s => V.1 23 s 1) 8)) (clI_of (cl.trans ?_)) Cor.rfl (clI_of ((ml V).trans ?_)) Cor.rfl
      · rw [if_neg (by decide), if_neg (by decide), if_neg (by decide), if_neg (by decide), if_neg (by decide), if_neg (by decide), if_neg (by decide), if_neg (by decide), if_pos (by decide), c_inUse, bind_some']
      · rw [bI_f (by decide), if_pos rfl, if_neg (by decide), if_neg (by decide), if_neg (by decide), if_neg (by decide), if_neg (by decide), if_neg (by decide), if_neg (by decide), if_neg (by decide), if_pos (by decide), ← ue]
        exact minUse 29 V _ 8 0 (by omega)
    | 9, _, cl, ml =>
      refine PM_cor h (V1 := V) (V2 := V) (r := -1) (clI_of (cl.trans ?_)) Cor.rfl (clI_of ((ml V).trans ?_)) Cor.rfl
      · rw [if_neg (by decide), if_neg (by decide), if_neg (by decide), if_neg (by decide), if_neg (by decide), if_neg (by decide), if_neg (by decide), if_neg (by decide), if_neg (by decide), if_pos (by decide)]
      · rw [bI_f (by decide), if_pos rfl, if_neg (by decide), if_neg (by decide), if_neg (by decide), if_neg (by decide), if_neg (by decide), if_neg (by decide), if_neg (by decide), if_neg (by decide), if_neg (by decide)]
    | 10, _, cl, ml =>
      refine PM_cor h (V1 := V) (V2 := V) (r := -1) (clI_of (cl.trans ?_)) Cor.rfl (clI_of ((ml V).trans ?_)) Cor.rfl
      · rw [if_neg (by decide), if_neg (by decide), if_neg (by decide), if_neg (by decide), if_neg (by decide), if_neg (by decide), if_neg (by decide), if_neg (by decide), if_neg (by decide), if_neg (by decide), if_pos (by decide)]
      · rw [bI_f (by decide), if_pos rfl, if_neg (by decide), if_neg (by decide), if_neg (by decide), if_neg (by decide), if_neg (by decide), if_neg (by decide), if_neg (by decide), if_neg (by decide), if_neg (by decide)]
    | 11, _, cl, ml =>
      refine PM_cor h (V1 := V) (V2 := V) (r := -1) (clI_of (cl.trans ?_)) Cor.rfl (clI_of ((ml V).trans ?_)) Cor.rfl
      · rw [if_neg (by decide), if_neg (by decide), if_neg (by decide), if_neg (by decide), if_neg (by decide), if_neg (by decide), if_neg (by decide), if_neg (by decide), if_neg (by decide), if_neg (by decide), if_neg (by decide), if_pos (by decide)]
      · rw [bI_f (by decide), if_pos rfl, if_neg (by decide), if_neg (by decide), if_neg (by decide), if_neg (by decide), if_neg (by decide), if_neg (by decide), if_neg (by decide), if_neg (by decide), if_neg (by decide)]
    | 12, _, cl, ml =>
      have r5 := h.2.2.2.2.1 0 (by omega)
      refine PM_cor h (V1 := V) (V2 := V) (r := V.1 25 0 0) (clI_of (cl.trans ?_)) Cor.rfl (clI_of ((ml V).trans ?_)) Cor.rfl
      · rw [if_neg (by decide), if_neg (by decide), if_neg (by decide), if_neg (by decide), if_neg (by decide), if_neg (by decide), if_neg (by decide), if_neg (by decide), if_neg (by decide), if_neg (by decide), if_neg (by decide), if_neg (by decide), if_pos (by decide)]
      · rw [bI_t (by decide), if_neg one_ne, show nI 12 - 10 = nI 2 from by decide, if_neg (nI_in (N := 7) (by omega) (by omega)), nI_clamp (by omega), r5]
    | 13, _, cl, ml =>
      have r5 := h.2.2.2.2.1 1 (by omega)
      refine PM_cor h (V1 := V) (V2 := V) (r := V.1 25 0 1) (clI_of (cl.trans ?_)) Cor.rfl (clI_of ((ml V).trans ?_)) Cor.rfl
      · rw [if_neg (by decide), if_neg (by decide), if_neg (by decide), if_neg (by decide), if_neg (by decide), if_neg (by decide), if_neg (by decide), if_neg (by decide), if_neg (by decide), if_neg (by decide), if_neg (by decide), if_neg (by decide), if_neg (by decide), if_pos (by decide)]
      · rw [bI_t (by decide), if_neg one_ne, show nI 13 - 10 = nI 3 from by decide, if_neg (nI_in (N := 7) (by omega) (by omega)), nI_clamp (by omega), r5]
    | 14, _, cl, ml =>
      have r5 := h.2.2.2.2.1 2 (by omega)
      refine PM_cor h (V1 := V) (V2 := V) (r := V.1 25 0 2) (clI_of (cl.trans ?_)) Cor.rfl (clI_of ((ml V).trans ?_)) Cor.rfl
      · rw [if_neg (by decide), if_neg (by decide), if_neg (by decide), if_neg (by decide), if_neg (by decide), if_neg (by decide), if_neg (by decide), if_neg (by decide), if_neg (by decide), if_neg (by decide), if_neg (by decide), if_neg (by decide), if_neg (by decide), if_neg (by decide), if_pos (by decide)]
      · rw [bI_t (by decide), if_neg one_ne, show nI 14 - 10 = nI 4 from by decide, if_neg (nI_in (N := 7) (by omega) (by omega)), nI_clamp (by omega), r5]
    | 15, _, cl, ml =>
      have r5 := h.2.2.2.2.1 3 (by omega)
      refine PM_cor h (V1 := V) (V2 := V) (r := V.1 25 0 3) (clI_of (cl.trans ?_)) Cor.rfl (clI_of ((ml V).trans ?_)) Cor.rfl
      · rw [if_neg (by decide), if_neg (by decide), if_neg (by decide), if_neg (by decide), if_neg (by decide), if_neg (by decide), if_neg (by decide), if_neg (by decide), if_neg (by decide), if_neg (by decide), if_neg (by decide), if_neg (by decide), if_neg (by decide), if_neg (by decide), if_neg (by decide), if_pos (by decide)]
      · rw [bI_t (by decide), if_neg one_ne, show nI 15 - 10 = nI 5 from by decide, if_neg (nI_in (N := 7) (by omega) (by omega)), nI_clamp (by omega), r5]
    | 16, _, cl, ml =>
      have r5 := h.2.2.2.2.1 4 (by omega)
      refine PM_cor h (V1 := V) (V2 := V) (r := V.1 25 0 4) (clI_of (cl.trans ?_)) Cor.rfl (clI_of ((ml V).trans ?_)) Cor.rfl
      · rw [if_neg (by decide), if_neg (by decide), if_neg (by decide), if_neg (by decide), if_neg (by decide), if_neg (by decide), if_neg (by decide), if_neg (by decide), if_neg (by decide), if_neg (by decide), if_neg (by decide), if_neg (by decide), if_neg (by decide), if_neg (by decide), if_neg (by decide), if_neg (by decide), if_pos (by decide)]
      · rw [bI_t (by decide), if_neg one_ne, show nI 16 - 10 = nI 6 from by decide, if_neg (nI_in (N := 7) (by omega) (by omega)), nI_clamp (by omega), r5]
    | n + 17, hj, _, _ => exact absurd hj (by omega)
