/-! HOW MANY BITS; A PARISH'S WISH -/
def bcE (x0 : Int32) : Int32 := ((((((((x0 - (((Int32.toUInt32 x0 >>> (Int32.toUInt32 1 &&& Int32.toUInt32 31)).toInt32) &&& 1431655765)) &&& 858993459) + (((Int32.toUInt32 (x0 - (((Int32.toUInt32 x0 >>> (Int32.toUInt32 1 &&& Int32.toUInt32 31)).toInt32) &&& 1431655765)) >>> (Int32.toUInt32 2 &&& Int32.toUInt32 31)).toInt32) &&& 858993459)) + ((Int32.toUInt32 (((x0 - (((Int32.toUInt32 x0 >>> (Int32.toUInt32 1 &&& Int32.toUInt32 31)).toInt32) &&& 1431655765)) &&& 858993459) + (((Int32.toUInt32 (x0 - (((Int32.toUInt32 x0 >>> (Int32.toUInt32 1 &&& Int32.toUInt32 31)).toInt32) &&& 1431655765)) >>> (Int32.toUInt32 2 &&& Int32.toUInt32 31)).toInt32) &&& 858993459)) >>> (Int32.toUInt32 4 &&& Int32.toUInt32 31)).toInt32)) &&& 252645135) + ((Int32.toUInt32 (((((x0 - (((Int32.toUInt32 x0 >>> (Int32.toUInt32 1 &&& Int32.toUInt32 31)).toInt32) &&& 1431655765)) &&& 858993459) + (((Int32.toUInt32 (x0 - (((Int32.toUInt32 x0 >>> (Int32.toUInt32 1 &&& Int32.toUInt32 31)).toInt32) &&& 1431655765)) >>> (Int32.toUInt32 2 &&& Int32.toUInt32 31)).toInt32) &&& 858993459)) + ((Int32.toUInt32 (((x0 - (((Int32.toUInt32 x0 >>> (Int32.toUInt32 1 &&& Int32.toUInt32 31)).toInt32) &&& 1431655765)) &&& 858993459) + (((Int32.toUInt32 (x0 - (((Int32.toUInt32 x0 >>> (Int32.toUInt32 1 &&& Int32.toUInt32 31)).toInt32) &&& 1431655765)) >>> (Int32.toUInt32 2 &&& Int32.toUInt32 31)).toInt32) &&& 858993459)) >>> (Int32.toUInt32 4 &&& Int32.toUInt32 31)).toInt32)) &&& 252645135) >>> (Int32.toUInt32 8 &&& Int32.toUInt32 31)).toInt32)) + ((Int32.toUInt32 ((((((x0 - (((Int32.toUInt32 x0 >>> (Int32.toUInt32 1 &&& Int32.toUInt32 31)).toInt32) &&& 1431655765)) &&& 858993459) + (((Int32.toUInt32 (x0 - (((Int32.toUInt32 x0 >>> (Int32.toUInt32 1 &&& Int32.toUInt32 31)).toInt32) &&& 1431655765)) >>> (Int32.toUInt32 2 &&& Int32.toUInt32 31)).toInt32) &&& 858993459)) + ((Int32.toUInt32 (((x0 - (((Int32.toUInt32 x0 >>> (Int32.toUInt32 1 &&& Int32.toUInt32 31)).toInt32) &&& 1431655765)) &&& 858993459) + (((Int32.toUInt32 (x0 - (((Int32.toUInt32 x0 >>> (Int32.toUInt32 1 &&& Int32.toUInt32 31)).toInt32) &&& 1431655765)) >>> (Int32.toUInt32 2 &&& Int32.toUInt32 31)).toInt32) &&& 858993459)) >>> (Int32.toUInt32 4 &&& Int32.toUInt32 31)).toInt32)) &&& 252645135) + ((Int32.toUInt32 (((((x0 - (((Int32.toUInt32 x0 >>> (Int32.toUInt32 1 &&& Int32.toUInt32 31)).toInt32) &&& 1431655765)) &&& 858993459) + (((Int32.toUInt32 (x0 - (((Int32.toUInt32 x0 >>> (Int32.toUInt32 1 &&& Int32.toUInt32 31)).toInt32) &&& 1431655765)) >>> (Int32.toUInt32 2 &&& Int32.toUInt32 31)).toInt32) &&& 858993459)) + ((Int32.toUInt32 (((x0 - (((Int32.toUInt32 x0 >>> (Int32.toUInt32 1 &&& Int32.toUInt32 31)).toInt32) &&& 1431655765)) &&& 858993459) + (((Int32.toUInt32 (x0 - (((Int32.toUInt32 x0 >>> (Int32.toUInt32 1 &&& Int32.toUInt32 31)).toInt32) &&& 1431655765)) >>> (Int32.toUInt32 2 &&& Int32.toUInt32 31)).toInt32) &&& 858993459)) >>> (Int32.toUInt32 4 &&& Int32.toUInt32 31)).toInt32)) &&& 252645135) >>> (Int32.toUInt32 8 &&& Int32.toUInt32 31)).toInt32)) >>> (Int32.toUInt32 16 &&& Int32.toUInt32 31)).toInt32)) &&& 63)
def onesN (m : Nat) : Nat → Nat
  | 0 => 0
  | n + 1 => onesN m n + (if m.testBit n = true then 1 else 0)
theorem c_bitCount {d : Nat} (x : Int32) (V : Mem) : clI (d + 1) m_Integer_bitCount [.inl x] V = some (bcE x, V) := clI_of (e_Integer_bitCount_0 d x V)
theorem ones4 (d m : Nat) (hm : m < 2 ^ 31) (V : Mem) : ∀ r k, k + r = 12 → sem d 167 4 [some (.inl (nI m)), some (.inl (nI (onesN m k))), some (.inl (nI k))] [] V = some (some (.inl (nI (onesN m 12))), V) := by
  intro r
  induction r with
  | zero =>
    intro k hk
    obtain rfl : k = 12 := by omega
    rw [e_M_ones_4, if_neg (show ¬ nI 12 < 12 from nI_nlt (b := 12) (by omega) (by omega))]
  | succ r ih =>
    intro k hk
    rw [e_M_ones_4, if_pos (show nI k < 12 from nI_lt (b := 12) (by omega) (by omega)), bitAt hm (by omega), bI_nat, nI_add, nI_1]
    exact ih (k + 1) (by omega)
theorem c_M_ones {d m : Nat} (hm : m < 2 ^ 31) (V : Mem) : clI (d + 1) m_M_ones [.inl (nI m)] V = some (nI (onesN m 12), V) :=
  clI_of ((e_M_ones_0 d _ V).trans (ones4 d m hm V 12 0 (by omega)))
theorem wish4 (d x : Nat) {V : Mem} {K : SKY} (h : MS V 32 0 K) (ok : okK K) (hx : x < kNX K) : ∀ m p, p + m = kNP K → sem (d + 2) 175 4 [some (.inr (.inr (30, 0))), some (.inl (nI x)), some (.inl (nI (bm p (kW K x)))), some (.inl (nI p))] [] V = some (some (.inl (nI (bm (kNP K) (kW K x)))), V) := by
  have hP := ok.1
  have e4 := h.1.1
  rw [Nat.zero_add] at e4
  intro m
  induction m with
  | zero =>
    intro p hp
    obtain rfl : p = kNP K := by omega
    rw [e_M_wish_4, e4, if_neg (nI_nlt (by omega) (by omega))]
  | succ m ih =>
    intro p hp
    rw [e_M_wish_4, e4, if_pos (nI_lt (by omega) (by omega)), c_M_isWanted h ok hx (by omega), bind_some', shl12 (by omega)]
    by_cases e : kW K x p = true
    · rw [bI_t e, if_neg one_ne, e_M_wish_33, nI_or, nI_1]
      have q : bm p (kW K x) ||| 2 ^ p = bm (p + 1) (kW K x) := by
        apply Nat.eq_of_testBit_eq
        intro k
        rw [Nat.testBit_or, Nat.testBit_two_pow, bm_test, bm_test]
        by_cases e2 : k = p
        · subst e2; simp [e]
        · have e3 : ¬ p = k := fun w => e2 w.symm
          by_cases e4 : k < p
          · have : k < p + 1 := by omega
            simp [e3, e4, this]
          · have : ¬ k < p + 1 := by omega
            simp [e3, e4, this]
      rw [q]
      exact ih (p + 1) (by omega)
    · rw [bI_f e, if_pos rfl, e_M_wish_33, nI_1, show (0 : Int32) = nI 0 from rfl, nI_or, Nat.or_zero]
      have q : bm p (kW K x) = bm (p + 1) (kW K x) := (bm_more (by simpa using e)).symm
      rw [q]
      exact ih (p + 1) (by omega)
theorem c_M_wish {d x : Nat} {V : Mem} {K : SKY} (h : MS V 32 0 K) (ok : okK K) (hx : x < kNX K) : clI (d + 3) m_M_wish [.inr (.inr (30, 0)), .inl (nI x)] V = some (nI (bm (kNP K) (kW K x)), V) :=
  clI_of ((e_M_wish_0 (d + 2) _ V).trans (wish4 d x h ok hx (kNP K) 0 (by omega)))
