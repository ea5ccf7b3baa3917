/-! LOOPS; nights -/
theorem loopN {α : Type} (n : Nat) (H : Nat → α) (E : α) (hs : ∀ k, k < n → H k = H (k + 1)) (he : H n = E) : H 0 = E := by
  induction n with
  | zero => exact he
  | succ n ih => exact ih (fun k hk => hs k (by omega)) ((hs n (by omega)).trans he)
theorem loopI {α σ : Type} (n : Nat) (I : Nat → σ → Prop) (H : Nat → σ → α) (hs : ∀ k V, k < n → I k V → ∃ V', I (k + 1) V' ∧ H k V = H (k + 1) V') (V : σ) (h0 : I 0 V) : ∃ V', I n V' ∧ H 0 V = H n V' := by
  induction n with
  | zero => exact ⟨V, h0, rfl⟩
  | succ n ih =>
    obtain ⟨V1, i1, e1⟩ := ih (fun k V hk => hs k V (by omega))
    obtain ⟨V2, i2, e2⟩ := hs n V1 (by omega) i1
    exact ⟨V2, i2, e1.trans e2⟩
def lowI (m : Nat) : Nat → Nat
  | 0 => m
  | i + 1 => lowI m i &&& (lowI m i - 1)
theorem lowI_lt {m : Nat} (hm : m < 4096) : ∀ i, lowI m i < 4096 := by
  intro i
  induction i with
  | zero => exact hm
  | succ i ih => exact Nat.lt_of_le_of_lt Nat.and_le_left ih
theorem lowI_ones {m l i : Nat} (h : ∀ k, k < 12 → l.testBit k = (m.testBit k && decide (i ≤ onesN m k))) : ∀ k, k ≤ 12 → onesN l k = onesN m k - i := by
  intro k
  induction k with
  | zero => intro _; show 0 = 0 - i; omega
  | succ k ih =>
    intro hk
    show onesN l k + (if l.testBit k = true then 1 else 0) = (onesN m k + (if m.testBit k = true then 1 else 0)) - i
    rw [ih (by omega), h k (by omega)]
    by_cases a : m.testBit k = true
    · by_cases b : i ≤ onesN m k
      · simp [a, b]; omega
      · simp [a, b]; omega
    · simp [a]
theorem lowI_test {m : Nat} (hm : m < 4096) : ∀ i k, k < 12 → (lowI m i).testBit k = (m.testBit k && decide (i ≤ onesN m k)) := by
  intro i
  induction i with
  | zero => intro k hk; simp [lowI]
  | succ i ih =>
    intro k hk
    show (lowI m i &&& (lowI m i - 1)).testBit k = _
    rw [lowc_test (lowI_lt hm i) hk, ih k hk, lowI_ones ih k (by omega)]
    by_cases a : m.testBit k = true
    · by_cases b : i + 1 ≤ onesN m k
      · have c : i ≤ onesN m k := by omega
        have e : Nat.blt 0 (onesN m k - i) = true := by rw [Nat.blt_eq]; omega
        simp [a, b, c, e]
      · have e : Nat.blt 0 (onesN m k - i) = false := by
          rw [Bool.eq_false_iff]
          intro w
          rw [Nat.blt_eq] at w
          omega
        simp [a, b, e]
    · simp [a]
theorem and_low (l : Nat) : nI l &&& (nI l - 1) = nI (l &&& (l - 1)) := by
  cases l with
  | zero => decide
  | succ l => rw [nI_pred, nI_and, Nat.add_sub_cancel]
theorem onesN_le (m n : Nat) : onesN m n ≤ n := by
  induction n with
  | zero => exact Nat.le_refl _
  | succ n ih => show onesN m n + _ ≤ _; split <;> omega
theorem c_wantedPoint {d m q : Nat} (hm : m < 4096) (hq : q < 12) (hb : m.testBit q = true) (V : Mem) : clI (d + 2) m_Sky_wantedPoint [.inl (nI m), .inl (nI (onesN m q))] V = some (nI q, V) := by
  have hl := onesN_le m q
  refine clI_of ((e_Sky_wantedPoint_0 (d + 1) _ _ V).trans ?_)
  refine loopN (onesN m q) (fun i => sem (d + 1) 60 4 [some (.inl (nI m)), some (.inl (nI (onesN m q))), some (.inl (nI (lowI m i))), some (.inl (nI i))] [] V) _ (fun k hk => ?_) ?_
  · show sem _ _ _ _ _ _ = sem _ _ _ _ _ _
    rw [e_Sky_wantedPoint_4, if_pos (nI_lt hk (by omega)), and_low, nI_1]
    rfl
  · show sem _ _ _ _ _ _ = _
    rw [e_Sky_wantedPoint_4, if_neg (nI_nlt (Nat.le_refl _) (by omega)), c_tz, bind_some', tz_low (lowI_lt hm _) hq]
    · rw [lowI_test hm _ _ hq]; simp [hb]
    · rw [lowI_ones (lowI_test hm _) q (by omega), Nat.sub_self]
theorem nthB (m : Nat) : ∀ n j, j < onesN m n → ∃ q, q < n ∧ m.testBit q = true ∧ onesN m q = j := by
  intro n
  induction n with
  | zero => intro j hj; exact absurd hj (Nat.not_lt_zero _)
  | succ n ih =>
    intro j hj
    by_cases a : j < onesN m n
    · obtain ⟨q, h1, h2⟩ := ih j a
      exact ⟨q, by omega, h2⟩
    · have hj' : j < onesN m n + (if m.testBit n = true then 1 else 0) := hj
      by_cases b : m.testBit n = true
      · rw [if_pos b] at hj'
        exact ⟨n, by omega, b, by omega⟩
      · rw [if_neg b] at hj'
        omega
theorem lotE_nat {n : Nat} (hn : 0 < n) (hn2 : n < 2 ^ 31) (v : Int32) : ∃ j, j < n ∧ lotE v (nI n) = nI j := by
  have e := pk_ushr v 16 16 (by decide)
  have lt : v.toBitVec.toNat < 2 ^ 32 := v.toBitVec.isLt
  have e2 : (Int32.toUInt32 v >>> (Int32.toUInt32 16 &&& Int32.toUInt32 31)).toInt32 = nI (v.toBitVec.toNat / 2 ^ 16) := by
    apply Int32.toBitVec_inj.mp
    apply BitVec.eq_of_toNat_eq
    rw [e, pk_tn (by omega)]
  refine ⟨v.toBitVec.toNat / 2 ^ 16 % n, Nat.mod_lt _ hn, ?_⟩
  unfold lotE
  rw [e2, pk_rem (by omega) hn hn2]
theorem bm_bit {n : Nat} {f : Nat → Bool} {q : Nat} (h : (bm n f).testBit q = true) : q < n ∧ f q = true := by
  rw [bm_test] at h
  simpa using h
theorem night_both (d : Nat) {K : SKY} (ok : okK K) {x : Nat} (hx : x < kNX K) : ∃ K', okK K' ∧ kNX K' = kNX K ∧ (∀ V, CS V 0 K → ∃ V', clV (d + 5) m_Sky_drawByLot [.inr (.inr (1, 0)), .inr (.inr (5, x))] V = some V' ∧ CS V' 0 K' ∧ FrC 0 V V') ∧ (∀ V, MS V 32 0 K → ∃ V', clV (d + 5) m_M_night [.inr (.inr (30, 0)), .inl (nI x)] V = some V' ∧ MS V' 32 0 K' ∧ FrM V V') := by
  have hX := ok.2.1
  have hP := ok.1
  have lb := bm_lt (kNP K) (kW K x)
  have lp : 2 ^ kNP K ≤ 2 ^ 12 := Nat.pow_le_pow_right (by omega) hP
  have lo := onesN_le (bm (kNP K) (kW K x)) 12
  have hm : bm (kNP K) (kW K x) < 4096 := by omega
  have hn : onesN (bm (kNP K) (kW K x)) 12 < 2 ^ 31 := by omega
  generalize hM : bm (kNP K) (kW K x) = M at *
  generalize hN : onesN M 12 = N at *
  have par : ∀ V, CS V 0 K → V.1 5 x 4 = nI M := fun V h => by
    have := (h.2.2 x hx).2.2.1
    rw [show x + 6 * 0 = x by omega, hM] at this
    exact this
  have B : ∀ V, CS V 0 K → clI (d + 4) 224 [.inl (V.1 5 x 4)] V = some (nI N, V) := fun V h => by rw [par V h, c_bitCount, bc12 hm, hN]
  have W : ∀ V, MS V 32 0 K → clI (d + 4) 175 [.inr (.inr (30, 0)), .inl (nI x)] V = some (nI M, V) := fun V h => by
    have := c_M_wish (d := d + 1) h ok hx
    rw [hM] at this
    exact this
  have O : ∀ V, clI (d + 4) 167 [.inl (nI M)] V = some (nI N, V) := fun V => by
    have := c_M_ones (d := d + 3) (m := M) (by omega) V
    rw [hN] at this
    exact this
  by_cases a : N < 2
  · refine ⟨K, ok, rfl, fun V h => ⟨V, clV_of ((e_Sky_drawByLot_0 (d + 4) 0 x V).trans ?_), h, FrC.rfl⟩, fun V h => ⟨V, clV_of ((e_M_night_0 (d + 4) _ V).trans ?_), h, FrM.rfl⟩⟩
    · rw [B V h, bind_some', if_pos (show nI N < 2 from nI_lt (b := 2) a (by omega))]
    · rw [W V h, bind_some', O, bind_some', if_pos (show nI N < 2 from nI_lt (b := 2) a (by omega))]
  · have na : ¬ nI N < 2 := nI_nlt (b := 2) (by omega) (by omega)
    obtain ⟨s1, hs1⟩ : ∃ s1, nxS (kSd K) = s1 := ⟨_, rfl⟩
    obtain ⟨s2, hs2⟩ : ∃ s2, nxS s1 = s2 := ⟨_, rfl⟩
    obtain ⟨j1, j1l, e1⟩ := lotE_nat (n := N) (by omega) hn s1
    obtain ⟨j2, j2l, e2⟩ := lotE_nat (n := N) (by omega) hn s2
    obtain ⟨p, hp, pb, po⟩ := nthB M 12 j1 (by omega)
    obtain ⟨q, hq, qb, qo⟩ := nthB M 12 j2 (by omega)
    have pw : p < kNP K ∧ kW K x p = true := bm_bit (by rw [hM]; exact pb)
    have qw : q < kNP K ∧ kW K x q = true := bm_bit (by rw [hM]; exact qb)
    have k2 : okK (setSd (setSd K s1) s2) := setSd_ok (setSd_ok ok s1) s2
    obtain ⟨K2, hK2⟩ : ∃ K2, setSd (setSd K s1) s2 = K2 := ⟨_, rfl⟩
    have eF : kF K2 x = kF K x := by rw [← hK2]; rfl
    have eG : kG K2 x = kG K x := by rw [← hK2]; rfl
    have eL : kLn K2 x = kLn K x := by rw [← hK2]; rfl
    have eW : kW K2 x = kW K x := by rw [← hK2]; rfl
    have eP : kNP K2 = kNP K := by rw [← hK2]; rfl
    have eX : kNX K2 = kNX K := by rw [← hK2]; rfl
    rw [hK2] at k2
    have C : ∀ V, CS V 0 K → ∃ V2, CS V2 0 K2 ∧ FrC 0 V V2 ∧ sem (d + 4) 58 0 [some (.inr (.inr (1, 0))), some (.inr (.inr (5, x))), none, none, none, none] [] V = if nI p = nI q then some (none, V2) else (clI (d + 4) 17 [.inr (.inr (5, x)), .inl ((1 <<< (nI p &&& 31)) ||| (1 <<< (nI q &&& 31)))] V2).bind fun W6 => if W6.1 = (-1) then (clV (d + 4) 18 [.inr (.inr (5, x)), .inl (nI p), .inl (nI q)] W6.2).bind fun W7 => some (none, W7) else (clV (d + 4) 19 [.inr (.inr (5, x)), .inl W6.1] W6.2).bind fun W8 => some (none, W8) := by
      intro V h
      have h1 := h.sd s1
      have h2 := h1.sd s2
      have L1 := c_lot (d := d + 3) (n := N) (by omega) hn h
      have L2 := c_lot (d := d + 3) (n := N) (by omega) hn h1
      rw [hs1, e1, ← po] at L1
      have es : kSd (setSd K s1) = s1 := rfl
      rw [es, hs2, e2, ← qo] at L2
      have pr1 : (mset V.1 1 0 6 s1) 5 x 4 = nI M := by rw [mset_n (by omega)]; exact par V h
      have L1' : clI (d + 4) 59 [.inr (.inr (1, 0)), .inl (nI N)] V = some (nI (onesN M p), (mset V.1 1 0 6 s1, V.2)) := L1
      have L2' : clI (d + 4) 59 [.inr (.inr (1, 0)), .inl (nI N)] (mset V.1 1 0 6 s1, V.2) = some (nI (onesN M q), (mset (mset V.1 1 0 6 s1) 1 0 6 s2, V.2)) := L2
      have P1 : ∀ V', clI (d + 4) 60 [.inl (nI M), .inl (nI (onesN M p))] V' = some (nI p, V') := fun V' => c_wantedPoint (d := d + 2) hm hp pb V'
      have P2 : ∀ V', clI (d + 4) 60 [.inl (nI M), .inl (nI (onesN M q))] V' = some (nI q, V') := fun V' => c_wantedPoint (d := d + 2) hm hq qb V'
      refine ⟨(mset (mset V.1 1 0 6 s1) 1 0 6 s2, V.2), hK2 ▸ h2, ⟨fun t i k w1 w2 => ?_, rfl⟩, (e_Sky_drawByLot_0 (d + 4) 0 x V).trans ?_⟩
      · simp (disch := omega) only [mset_n]
      · rw [B V h, bind_some', if_neg na, L1', bind_some', par V h, P1, bind_some', L2', bind_some']
        dsimp only
        rw [pr1, P2, bind_some']
    have M' : ∀ V, MS V 32 0 K → ∃ V2, MS V2 32 0 K2 ∧ FrM V V2 ∧ sem (d + 4) 216 0 [some (.inr (.inr (30, 0))), some (.inl (nI x)), none, none, none, none] [] V = if nI p = nI q then some (none, V2) else (clI (d + 4) 143 [.inr (.inr (30, 0)), .inl (nI x), .inl (nI p), .inl (nI q)] V2).bind fun W9 => if W9.1 = (-1) then (clI (d + 4) 139 [.inr (.inr (30, 0)), .inl (nI x)] W9.2).bind fun W11 => if W11.1 < 10 then (clI (d + 4) 144 [.inr (.inr (30, 0)), .inl (nI x), .inl (nI p), .inl (nI q)] W11.2).bind fun W12 => some (none, W12.2) else some (none, W11.2) else (clI (d + 4) 145 [.inr (.inr (30, 0)), .inl (nI x), .inl W9.1] W9.2).bind fun W10 => some (none, W10.2) := by
      intro V h
      have h1 := h.sd ok.toL s1
      have h2 := h1.sd (setSd_ok ok s1).toL s2
      have L1 := c_M_drawBelow (d := d + 3) (n := N) (by omega) hn h
      have L2 := c_M_drawBelow (d := d + 3) (n := N) (by omega) hn h1
      rw [hs1, e1, ← po] at L1
      have es : kSd (setSd K s1) = s1 := rfl
      rw [es, hs2, e2, ← qo] at L2
      have L1' : clI (d + 4) 214 [.inr (.inr (30, 0)), .inl (nI N)] V = some (nI (onesN M p), (mset V.1 32 0 177 s1, V.2)) := L1
      have L2' : clI (d + 4) 214 [.inr (.inr (30, 0)), .inl (nI N)] (mset V.1 32 0 177 s1, V.2) = some (nI (onesN M q), (mset (mset V.1 32 0 177 s1) 32 0 177 s2, V.2)) := L2
      have P1 : ∀ V', clI (d + 4) 215 [.inl (nI M), .inl (nI (onesN M p))] V' = some (nI p, V') := fun V' => c_M_among (d := d + 3) (by omega) hp pb V'
      have P2 : ∀ V', clI (d + 4) 215 [.inl (nI M), .inl (nI (onesN M q))] V' = some (nI q, V') := fun V' => c_M_among (d := d + 3) (by omega) hq qb V'
      refine ⟨(mset (mset V.1 32 0 177 s1) 32 0 177 s2, V.2), hK2 ▸ h2, ⟨fun t i k w1 => ?_, rfl⟩, (e_M_night_0 (d + 4) _ V).trans ?_⟩
      · simp (disch := omega) only [mset_n]
      · rw [W V h, bind_some', O, bind_some', if_neg na, O, bind_some', L1', bind_some', P1, bind_some', O, bind_some', L2', bind_some', P2, bind_some']
    by_cases pq : p = q
    · refine ⟨K2, k2, eX, fun V h => ?_, fun V h => ?_⟩
      · obtain ⟨V2, c1, c2, c3⟩ := C V h
        exact ⟨V2, clV_of (c3.trans (if_pos (by rw [pq]))), c1, c2⟩
      · obtain ⟨V2, c1, c2, c3⟩ := M' V h
        exact ⟨V2, clV_of (c3.trans (if_pos (by rw [pq]))), c1, c2⟩
    · have npq : ¬ nI p = nI q := fun w => pq ((nI_eq (by omega) (by omega)).mp w)
      have hx2 : x < kNX K2 := by omega
      have hl2 := (k2.2.2.2.2 x hx2).1.2.2
      by_cases D : ∃ i, i < kLn K2 x ∧ eqL (kF K2 x i) (kG K2 x i) p q
      · obtain ⟨i, hi, D⟩ := D
        have r1 : (∀ i, i < kLn K2 x → ¬ eqL (kF K2 x i) (kG K2 x i) p q) → nI i = -1 := fun w => absurd D (w i hi)
        have r2 : ∀ u, u < kLn K2 x → eqL (kF K2 x u) (kG K2 x u) p q → nI i = nI u := fun u hu w => by
          have := (k2.2.2.2.2 x hx2).2.2 i u hi hu (by omega)
          rw [this]
        refine ⟨eraseK K2 x i, eraseK_ok k2 hx2 hi, eX, fun V h => ?_, fun V h => ?_⟩
        · obtain ⟨V2, c1, c2, c3⟩ := C V h
          have pr := c1.2.2 x hx2
          rw [show x + 6 * 0 = x by omega] at pr
          obtain ⟨V3, v1, v2, v3, v4⟩ := c_erase (d := d + 3) pr hl2 hi
          refine ⟨V3, clV_of (c3.trans ?_), c1.erase (x := x) (fun t i k w => v3 t i k (by omega)) (by rw [show x + 6 * 0 = x by omega]; exact v2), c2.trans ⟨fun t i k w1 w2 => v3 t i k (by omega), v4⟩⟩
          have F : clI (d + 4) 17 [.inr (.inr (5, x)), .inl (nI (2 ^ p ||| 2 ^ q))] V2 = some (nI i, V2) := c_find (d := d + 2) pr hl2 (k2.fg hx2) hp hq pq r1 r2
          have v1' : clV (d + 4) 19 [.inr (.inr (5, x)), .inl (nI i)] V2 = some V3 := v1
          rw [if_neg npq, shl12 (by omega), shl12 (by omega), nI_or, F, bind_some', if_neg (neg1_nI (by omega)), v1', bind_some']
        · obtain ⟨V2, c1, c2, c3⟩ := M' V h
          obtain ⟨V3, u1, u2, u3⟩ := c_M_erase (d := d + 2) c1 k2.toL hx2 hi
          refine ⟨V3, clV_of (c3.trans ?_), u2, c2.trans u3⟩
          have F : clI (d + 4) 143 [.inr (.inr (30, 0)), .inl (nI x), .inl (nI p), .inl (nI q)] V2 = some (nI i, V2) := c_M_drawn (d := d + 2) c1 k2 hx2 hp hq r1 r2
          have u1' : clI (d + 4) 145 [.inr (.inr (30, 0)), .inl (nI x), .inl (nI i)] V2 = some (nI (kLn K2 x - 1), V3) := u1
          rw [if_neg npq, F, bind_some', if_neg (neg1_nI (by omega)), u1', bind_some']
      · have D' : ∀ i, i < kLn K2 x → ¬ eqL (kF K2 x i) (kG K2 x i) p q := fun i hi w => D ⟨i, hi, w⟩
        have r1 : (∀ i, i < kLn K2 x → ¬ eqL (kF K2 x i) (kG K2 x i) p q) → (-1 : Int32) = -1 := fun _ => rfl
        have r2 : ∀ u, u < kLn K2 x → eqL (kF K2 x u) (kG K2 x u) p q → (-1 : Int32) = nI u := fun u hu w => absurd w (D' u hu)
        by_cases F : kLn K2 x < 10
        · refine ⟨drawK K2 x p q, drawK_ok k2 hx2 F (by omega) (by omega) pq (by rw [eW]; exact pw.2) (by rw [eW]; exact qw.2) D', eX, fun V h => ?_, fun V h => ?_⟩
          · obtain ⟨V2, c1, c2, c3⟩ := C V h
            have pr := c1.2.2 x hx2
            rw [show x + 6 * 0 = x by omega] at pr
            obtain ⟨V3, v1, v2, v3, v4⟩ := c_draw (d := d + 2) pr F p q
            refine ⟨V3, clV_of (c3.trans ?_), c1.draw (x := x) (fun t i k w => v3 t i k (by omega)) (by rw [show x + 6 * 0 = x by omega]; exact v2), c2.trans ⟨fun t i k w1 w2 => v3 t i k (by omega), v4⟩⟩
            have F : clI (d + 4) 17 [.inr (.inr (5, x)), .inl (nI (2 ^ p ||| 2 ^ q))] V2 = some (-1, V2) := c_find (d := d + 2) pr hl2 (k2.fg hx2) hp hq pq r1 r2
            have v1' : clV (d + 4) 18 [.inr (.inr (5, x)), .inl (nI p), .inl (nI q)] V2 = some V3 := v1
            rw [if_neg npq, shl12 (by omega), shl12 (by omega), nI_or, F, bind_some', if_pos rfl, v1', bind_some']
          · obtain ⟨V2, c1, c2, c3⟩ := M' V h
            obtain ⟨V3, u1, u2, u3⟩ := c_M_draw (d := d + 2) c1 k2 hx2 F p q
            refine ⟨V3, clV_of (c3.trans ?_), u2, c2.trans u3⟩
            have m3 := (c1.2.2 x hx2).1.2.2
            rw [Nat.zero_add] at m3
            have F : clI (d + 4) 143 [.inr (.inr (30, 0)), .inl (nI x), .inl (nI p), .inl (nI q)] V2 = some (-1, V2) := c_M_drawn (d := d + 2) c1 k2 hx2 hp hq r1 r2
            have u1' : clI (d + 4) 144 [.inr (.inr (30, 0)), .inl (nI x), .inl (nI p), .inl (nI q)] V2 = some (nI (kLn K2 x + 1), V3) := u1
            have ln' : clI (d + 4) 139 [.inr (.inr (30, 0)), .inl (nI x)] V2 = some (nI (kLn K2 x), V2) := by rw [← m3]; exact c_M_lines (d + 3) (by omega) V2
            rw [if_neg npq, F, bind_some', if_pos rfl, ln', bind_some', if_pos (show nI (kLn K2 x) < 10 from nI_lt (b := 10) (by omega) (by omega)), u1', bind_some']
        · refine ⟨K2, k2, eX, fun V h => ?_, fun V h => ?_⟩
          · obtain ⟨V2, c1, c2, c3⟩ := C V h
            have pr := c1.2.2 x hx2
            rw [show x + 6 * 0 = x by omega] at pr
            refine ⟨V2, clV_of (c3.trans ?_), c1, c2⟩
            have Fi : clI (d + 4) 17 [.inr (.inr (5, x)), .inl (nI (2 ^ p ||| 2 ^ q))] V2 = some (-1, V2) := c_find (d := d + 2) pr hl2 (k2.fg hx2) hp hq pq r1 r2
            have v1' : clV (d + 4) 18 [.inr (.inr (5, x)), .inl (nI p), .inl (nI q)] V2 = some V2 := by
              refine clV_of ((e_Parish_draw_0 (d + 3) x _ _ V2).trans ?_)
              rw [c_room (d := d + 2) pr, bind_some', bI_f (show ¬ nI (kLn K2 x) < 10 from nI_nlt (b := 10) (by omega) (by omega)), if_pos rfl]
            rw [if_neg npq, shl12 (by omega), shl12 (by omega), nI_or, Fi, bind_some', if_pos rfl, v1', bind_some']
          · obtain ⟨V2, c1, c2, c3⟩ := M' V h
            refine ⟨V2, clV_of (c3.trans ?_), c1, c2⟩
            have m3 := (c1.2.2 x hx2).1.2.2
            rw [Nat.zero_add] at m3
            have Fi : clI (d + 4) 143 [.inr (.inr (30, 0)), .inl (nI x), .inl (nI p), .inl (nI q)] V2 = some (-1, V2) := c_M_drawn (d := d + 2) c1 k2 hx2 hp hq r1 r2
            have ln' : clI (d + 4) 139 [.inr (.inr (30, 0)), .inl (nI x)] V2 = some (nI (kLn K2 x), V2) := by rw [← m3]; exact c_M_lines (d + 3) (by omega) V2
            rw [if_neg npq, Fi, bind_some', if_pos rfl, ln', bind_some', if_neg (show ¬ nI (kLn K2 x) < 10 from nI_nlt (b := 10) (by omega) (by omega))]
theorem nights_in (d : Nat) {K : SKY} (ok : okK K) (x1 x2 : Int32) : ∀ m x, x + m = kNX K → ∃ K', okK K' ∧ kNX K' = kNX K ∧ (∀ V, CS V 0 K → ∃ V', sem (d + 5) 103 27 [some (.inr (.inr (0, 0))), some (.inl x1), some (.inl x2), some (.inl (nI x))] [] V = sem (d + 5) 103 20 [some (.inr (.inr (0, 0))), some (.inl x1), some (.inl (x2 + 1)), none] [] V' ∧ CS V' 0 K' ∧ FrC 0 V V') ∧ (∀ V, MS V 32 0 K → ∃ V', sem (d + 5) 218 28 [some (.inr (.inr (30, 0))), some (.inl x1), some (.inl x2), some (.inl (nI x))] [] V = sem (d + 5) 218 21 [some (.inr (.inr (30, 0))), some (.inl x1), some (.inl (x2 + 1)), none] [] V' ∧ MS V' 32 0 K' ∧ FrM V V') := by
  intro m
  induction m generalizing K with
  | zero =>
    intro x hx
    have hX := ok.2.1
    refine ⟨K, ok, rfl, fun V h => ⟨V, ?_, h, FrC.rfl⟩, fun V h => ⟨V, ?_, h, FrM.rfl⟩⟩
    · rw [e_C_nights_27, h.1.2.1, if_neg (nI_nlt (by omega) (by omega))]
    · have e5 := h.1.2.1
      rw [Nat.zero_add] at e5
      rw [e_M_nights_28, e5, if_neg (nI_nlt (by omega) (by omega))]
  | succ m ih =>
    intro x hx
    have hX := ok.2.1
    obtain ⟨K1, o1, n1, c1, m1⟩ := night_both d ok (show x < kNX K by omega)
    obtain ⟨K2, o2, n2, c2, m2⟩ := ih o1 (x + 1) (by omega)
    refine ⟨K2, o2, n2.trans n1, fun V h => ?_, fun V h => ?_⟩
    · obtain ⟨V1, a1, a2, a3⟩ := c1 V h
      obtain ⟨V2, b1, b2, b3⟩ := c2 V1 a2
      refine ⟨V2, ?_, b2, a3.trans b3⟩
      rw [← b1, e_C_nights_27, h.1.2.1, if_pos (nI_lt (by omega) (by omega)), if_neg (nI_in (N := 6) (by omega) (by omega)), nI_clamp (by omega), nI_1]
      have a1' : clV (d + 5) 58 [.inr (.inr (1, 0)), .inr (.inr (5, x))] V = some V1 := a1
      rw [a1', bind_some']
    · obtain ⟨V1, a1, a2, a3⟩ := m1 V h
      obtain ⟨V2, b1, b2, b3⟩ := m2 V1 a2
      have e5 := h.1.2.1
      rw [Nat.zero_add] at e5
      refine ⟨V2, ?_, b2, a3.trans b3⟩
      have a1' : clV (d + 5) 216 [.inr (.inr (30, 0)), .inl (nI x)] V = some V1 := a1
      rw [← b1, e_M_nights_28, e5, if_pos (nI_lt (by omega) (by omega)), a1', bind_some', nI_1]
theorem nights_out (d N : Nat) (hN : N ≤ 40) {K : SKY} (ok : okK K) : ∀ m k, k + m = N → ∃ K', okK K' ∧ kNX K' = kNX K ∧ (∀ V, CS V 0 K → ∃ V', sem (d + 5) 103 20 [some (.inr (.inr (0, 0))), some (.inl (nI N)), some (.inl (nI k)), none] [] V = sem (d + 5) 103 20 [some (.inr (.inr (0, 0))), some (.inl (nI N)), some (.inl (nI N)), none] [] V' ∧ CS V' 0 K' ∧ FrC 0 V V') ∧ (∀ V, MS V 32 0 K → ∃ V', sem (d + 5) 218 21 [some (.inr (.inr (30, 0))), some (.inl (nI N)), some (.inl (nI k)), none] [] V = sem (d + 5) 218 21 [some (.inr (.inr (30, 0))), some (.inl (nI N)), some (.inl (nI N)), none] [] V' ∧ MS V' 32 0 K' ∧ FrM V V') := by
  intro m
  induction m generalizing K with
  | zero =>
    intro k hk
    obtain rfl : k = N := by omega
    exact ⟨K, ok, rfl, fun V h => ⟨V, rfl, h, FrC.rfl⟩, fun V h => ⟨V, rfl, h, FrM.rfl⟩⟩
  | succ m ih =>
    intro k hk
    obtain ⟨K1, o1, n1, c1, m1⟩ := nights_in d ok (nI N) (nI k) (kNX K) 0 (by omega)
    obtain ⟨K2, o2, n2, c2, m2⟩ := ih o1 (k + 1) (by omega)
    refine ⟨K2, o2, n2.trans n1, fun V h => ?_, fun V h => ?_⟩
    · obtain ⟨V1, a1, a2, a3⟩ := c1 V h
      obtain ⟨V2, b1, b2, b3⟩ := c2 V1 a2
      refine ⟨V2, ?_, b2, a3.trans b3⟩
      rw [nI_1] at a1
      rw [e_C_nights_20, if_pos (nI_lt (by omega) (by omega))]
      exact a1.trans b1
    · obtain ⟨V1, a1, a2, a3⟩ := m1 V h
      obtain ⟨V2, b1, b2, b3⟩ := m2 V1 a2
      refine ⟨V2, ?_, b2, a3.trans b3⟩
      rw [nI_1] at a1
      rw [e_M_nights_21, if_pos (nI_lt (by omega) (by omega))]
      exact a1.trans b1
theorem pm_nights (SL : Nat) (xs : Nat → Int32) (a1 : Int32) : PMI SL xs m_C_nights m_M_nights [.inl a1] := by
  intro V h
  obtain ⟨K, k1, k2, k3, k4⟩ := h.1
  have eI : ∀ V', clI 29 128 [.inr (.inl (Int32.toInt64 a1)), .inr (.inl 1), .inr (.inl 40)] V' = some (bI (¬ a1 < 1 ∧ ¬ 40 < a1), V') := fun V' => by
    have := c_M_isInL (d := 28) a1.toInt64 1 40 V'
    have e1 : (a1.toInt64 < 1) ↔ a1 < 1 := j_lt a1 1
    have e2 : (40 < a1.toInt64) ↔ 40 < a1 := j_lt 40 a1
    rw [bI_same (show (¬ a1.toInt64 < 1 ∧ ¬ 40 < a1.toInt64) ↔ (¬ a1 < 1 ∧ ¬ 40 < a1) by rw [e1, e2])] at this
    exact this
  by_cases B : ¬ a1 < 1 ∧ ¬ 40 < a1
  · obtain ⟨n, hn, rfl⟩ : ∃ n : Nat, n ≤ 40 ∧ a1 = nI n := by
      have e1 := B.1
      have e2 := B.2
      rw [lt_toInt] at e1 e2
      rcases ix_or a1 (n := 41) (by omega) with w | ⟨j, hj, w⟩
      · exact absurd (show inR 41 a1 from ⟨fun z => by rw [lt_toInt] at z; have q0 : (0 : Int32).toInt = 0 := by decide
                                                       have q1 : (1 : Int32).toInt = 1 := by decide
                                                       omega, by rw [lt_toInt, nI_toInt (by omega)]; have q40 : (40 : Int32).toInt = 40 := by decide
                                                                 omega⟩) w
      · exact ⟨j, by omega, w⟩
    obtain ⟨K1, o1, n1, c1, m1⟩ := nights_out 24 n hn k1 n 0 (by omega)
    obtain ⟨V1, v1, v2, v3⟩ := c1 V k2
    obtain ⟨V2, u1, u2, u3⟩ := m1 V1 (k3.frc v3)
    refine ⟨nI (sumL K1 (kNX K1)), V1, V2, clI_of ((e_C_nights_0 29 _ V).trans ?_), h.vok.frc v3, clI_of ((e_M_nights_0 29 _ V1).trans ?_), h.skyop (K := K) (K' := K1) k4 (by omega) o1 v3 v2 u3 u2⟩
    · rw [if_neg B.1, if_neg B.2]
      refine v1.trans ?_
      rw [e_C_nights_20, if_neg (nI_nlt (Nat.le_refl _) (by omega)), c_allLines v2 o1.toL, bind_some']
    · rw [eI, bind_some', bI_t B, if_neg one_ne]
      refine u1.trans ?_
      rw [e_M_nights_21, if_neg (nI_nlt (Nat.le_refl _) (by omega)), c_M_allLines u2 o1.toL, bind_some']
  · refine ⟨-2, CRf V 0, MRf (CRf V 0) 0, clI_of ((e_C_nights_0 29 a1 V).trans ?_), h.vok.crf 0, clI_of ((e_M_nights_0 29 a1 _).trans ?_), h.ref (by omega)⟩
    · rw [e_C_nights_11, c_C_ref2, bind_some']
      by_cases b1 : a1 < 1
      · rw [if_pos b1]
      · rw [if_neg b1]
        by_cases b2 : 40 < a1
        · rw [if_pos b2]
        · exact absurd ⟨b1, b2⟩ B
    · rw [eI, bind_some', bI_f B, if_pos rfl, c_M_ref2, bind_some']
