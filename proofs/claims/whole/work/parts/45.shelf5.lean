/-! SHELVES: copy -/
/-- the reference's two passes of copy -/
theorem mcopy160 (d a b : Nat) {i j n : Nat} (x6 : Int32) (ha : a < 8) (hi : i + n ≤ 40) (F : Nat → Nat → Nat → Int32) (G : Nat → Nat → Nat → Int64) : ∀ m p, p + m = n → sem d 206 160 [some (.inr (.inr (30, 0))), some (.inl (nI a)), some (.inl (nI b)), some (.inl (nI i)), some (.inl (nI j)), some (.inl (nI n)), some (.inl x6), some (.inl (nI p))] [] (F, mcpy G 44 0 (40 * a + i) 45 0 0 p) = sem d 206 197 [some (.inr (.inr (30, 0))), some (.inl (nI a)), some (.inl (nI b)), some (.inl (nI i)), some (.inl (nI j)), some (.inl (nI n)), some (.inl x6), some (.inl 0)] [] (F, mcpy G 44 0 (40 * a + i) 45 0 0 n) := by
  intro m
  induction m with
  | zero =>
    intro p hp
    obtain rfl : p = n := by omega
    rw [e_M_copy_160, if_neg (nI_nlt (by omega) (by omega))]
  | succ m ih =>
    intro p hp
    rw [e_M_copy_160, if_pos (nI_lt (by omega) (by omega))]
    simp (disch := omega) only [fa_lit, pk_mul, nI_add, nI_clamp, nI_ltI]
    rw [if_neg (by omega), if_neg (by omega)]
    refine Eq.trans ?_ (ih (p + 1) (by omega))
    have e : mset (mcpy G 44 0 (40 * a + i) 45 0 0 p) 45 0 p (mcpy G 44 0 (40 * a + i) 45 0 0 p 44 0 (40 * a + i + p)) = mcpy G 44 0 (40 * a + i) 45 0 0 (p + 1) := by
      funext t' i' k'
      unfold mset mcpy
      by_cases h : t' = 45 ∧ i' = 0 ∧ k' = p
      · obtain ⟨rfl, rfl, rfl⟩ := h
        rw [if_pos ⟨rfl, rfl, rfl⟩, if_neg (by omega), if_pos (by omega)]
        rfl
      · rw [if_neg h]
        by_cases h2 : t' = 45 ∧ i' = 0 ∧ 0 ≤ k' ∧ k' < 0 + p
        · rw [if_pos h2, if_pos (by omega)]
        · rw [if_neg h2, if_neg (by omega)]
    rw [e]
theorem mcopy197 (d a b : Nat) {i j n : Nat} (x6 : Int32) (hb : b < 8) (hj : j + n ≤ 40) (F : Nat → Nat → Nat → Int32) (G : Nat → Nat → Nat → Int64) : ∀ m p, p + m = n → sem d 206 197 [some (.inr (.inr (30, 0))), some (.inl (nI a)), some (.inl (nI b)), some (.inl (nI i)), some (.inl (nI j)), some (.inl (nI n)), some (.inl x6), some (.inl (nI p))] [] (F, mcpy G 45 0 0 44 0 (40 * b + j) p) = some (some (.inl (nI n)), (F, mcpy G 45 0 0 44 0 (40 * b + j) n)) := by
  intro m
  induction m with
  | zero =>
    intro p hp
    obtain rfl : p = n := by omega
    rw [e_M_copy_197, if_neg (nI_nlt (by omega) (by omega))]
  | succ m ih =>
    intro p hp
    rw [e_M_copy_197, if_pos (nI_lt (by omega) (by omega))]
    simp (disch := omega) only [fa_lit, pk_mul, nI_add, nI_clamp, nI_ltI]
    rw [if_neg (by omega), if_neg (by omega)]
    refine Eq.trans ?_ (ih (p + 1) (by omega))
    have e : mset (mcpy G 45 0 0 44 0 (40 * b + j) p) 44 0 (40 * b + j + p) (mcpy G 45 0 0 44 0 (40 * b + j) p 45 0 p) = mcpy G 45 0 0 44 0 (40 * b + j) (p + 1) := by
      funext t' i' k'
      unfold mset mcpy
      by_cases h : t' = 44 ∧ i' = 0 ∧ k' = 40 * b + j + p
      · obtain ⟨rfl, rfl, rfl⟩ := h
        rw [if_pos ⟨rfl, rfl, rfl⟩, if_neg (by omega), if_pos (by omega)]
        congr 1
        omega
      · rw [if_neg h]
        by_cases h2 : t' = 44 ∧ i' = 0 ∧ 40 * b + j ≤ k' ∧ k' < 40 * b + j + p
        · rw [if_pos h2, if_pos (by omega)]
        · rw [if_neg h2, if_neg (by omega)]
    rw [e]
theorem mcpy_0 {α : Type} (f : Nat → Nat → Nat → α) (t i sp t2 i2 dp : Nat) : mcpy f t i sp t2 i2 dp 0 = f := by
  funext t' i' k'
  unfold mcpy
  rw [if_neg (by omega)]
theorem mcpy_in {α : Type} {f : Nat → Nat → Nat → α} {t i sp t2 i2 dp n t' i' k' : Nat} (h : t' = t2 ∧ i' = i2 ∧ dp ≤ k' ∧ k' < dp + n) : mcpy f t i sp t2 i2 dp n t' i' k' = f t i (sp + (k' - dp)) := if_pos h
theorem mcpy_out {α : Type} {f : Nat → Nat → Nat → α} {t i sp t2 i2 dp n t' i' k' : Nat} (h : ¬ (t' = t2 ∧ i' = i2 ∧ dp ≤ k' ∧ k' < dp + n)) : mcpy f t i sp t2 i2 dp n t' i' k' = f t' i' k' := if_neg h
/-- whether a span may be: i and n not negative, and i + n no more than the size -/
def spn (z : Nat) (i n : Int32) : Prop := ¬ i < 0 ∧ ¬ n < 0 ∧ i.toInt + n.toInt ≤ z
theorem spn_dec {z : Nat} (hz : z ≤ 40) {i n : Int32} (h0 : ¬ i < 0) (h1 : ¬ n < 0) : (nI z - n < i ↔ ¬ spn z i n) ∧ (nI z - i < n ↔ ¬ spn z i n) := by
  have e0 : (0 : Int32).toInt = 0 := by decide
  have f0 : ¬ i.toInt < 0 := by rw [lt_toInt, e0] at h0; exact h0
  have f1 : ¬ n.toInt < 0 := by rw [lt_toInt, e0] at h1; exact h1
  have u0 := Int32.toInt_lt i
  have u1 := Int32.toInt_lt n
  have s : ∀ w : Int32, ¬ w.toInt < 0 → w.toInt < 2 ^ 31 → (nI z - w).toInt = z - w.toInt := by
    intro w w0 w1
    rw [Int32.toInt_sub, nI_toInt (by omega)]
    apply Int.bmod_eq_of_le <;> omega
  unfold spn
  constructor
  · rw [lt_toInt, s n f1 u1]
    constructor
    · intro q r; omega
    · intro q; apply Classical.byContradiction; intro r; exact q ⟨h0, h1, by omega⟩
  · rw [lt_toInt, s i f0 u0]
    constructor
    · intro q r; omega
    · intro q; apply Classical.byContradiction; intro r; exact q ⟨h0, h1, by omega⟩
