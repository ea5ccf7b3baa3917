/-! BITS -/
theorem nI_and (a b : Nat) : nI a &&& nI b = nI (a &&& b) := by
  apply Int32.toBitVec_inj.mp
  rw [Int32.toBitVec_and]
  show BitVec.ofNat 32 a &&& BitVec.ofNat 32 b = BitVec.ofNat 32 (a &&& b)
  rw [BitVec.ofNat_and]
theorem nI_or (a b : Nat) : nI a ||| nI b = nI (a ||| b) := by
  apply Int32.toBitVec_inj.mp
  rw [Int32.toBitVec_or]
  show BitVec.ofNat 32 a ||| BitVec.ofNat 32 b = BitVec.ofNat 32 (a ||| b)
  rw [BitVec.ofNat_or]
theorem nI_xor (a b : Nat) : nI a ^^^ nI b = nI (a ^^^ b) := by
  apply Int32.toBitVec_inj.mp
  rw [Int32.toBitVec_xor]
  show BitVec.ofNat 32 a ^^^ BitVec.ofNat 32 b = BitVec.ofNat 32 (a ^^^ b)
  rw [BitVec.ofNat_xor]
theorem shl1 : ∀ p, p < 31 → (1 : Int32) <<< (nI p &&& 31) = nI (2 ^ p) := by decide +kernel
theorem bm_lt (n : Nat) (f : Nat → Bool) : bm n f < 2 ^ n := by
  induction n with
  | zero => exact Nat.one_pos
  | succ n ih =>
    unfold bm
    rw [Nat.pow_succ]
    split <;> omega
theorem bm_test (n : Nat) (f : Nat → Bool) (k : Nat) : (bm n f).testBit k = (decide (k < n) && f k) := by
  induction n with
  | zero => simp [bm]
  | succ n ih =>
    have hl := bm_lt n f
    unfold bm
    by_cases h : f n = true
    · rw [if_pos h, Nat.add_comm]
      by_cases hk : k = n
      · subst hk
        rw [Nat.testBit_two_pow_add_eq, Nat.testBit_lt_two_pow hl, h]
        simp
      · by_cases hk2 : k < n
        · rw [Nat.testBit_two_pow_add_gt hk2, ih]
          simp [hk2, Nat.lt_succ_of_lt hk2]
        · rw [Nat.testBit_lt_two_pow]
          · simp; omega
          · have : 2 ^ (n + 1) ≤ 2 ^ k := Nat.pow_le_pow_right (by omega) (by omega)
            rw [Nat.pow_succ] at this
            omega
    · rw [if_neg h, Nat.add_zero, ih]
      by_cases hk : k = n
      · subst hk
        simp at h
        simp [h]
      · by_cases hk2 : k < n
        · simp [hk2, Nat.lt_succ_of_lt hk2]
        · have : ¬ k < n + 1 := by omega
          simp [hk2, this]
theorem bm_ext {n : Nat} {f g : Nat → Bool} (h : ∀ k, k < n → f k = g k) : bm n f = bm n g := by
  apply Nat.eq_of_testBit_eq
  intro k
  rw [bm_test, bm_test]
  by_cases hk : k < n
  · rw [h k hk]
  · simp [hk]
theorem bm_more {n : Nat} {f : Nat → Bool} (h : f n = false) : bm (n + 1) f = bm n f := by
  show bm n f + _ = _
  rw [if_neg (by rw [h]; simp), Nat.add_zero]
theorem and_pow (m p : Nat) : (m &&& 2 ^ p = 2 ^ p) ↔ m.testBit p = true := by
  constructor
  · intro h
    have := congrArg (fun z => z.testBit p) h
    simp at this
    exact this
  · intro h
    apply Nat.eq_of_testBit_eq
    intro k
    rw [Nat.testBit_and, Nat.testBit_two_pow]
    by_cases hk : p = k
    · subst hk; simp [h]
    · simp [hk]
