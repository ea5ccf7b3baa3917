/-! the JDK's bitCount on 12 bits -/
theorem bc64 : ∀ a, a < 64 → ∀ b, b < 64 → bcE (nI (64 * a + b)) = nI (onesN (64 * a + b) 12) := by decide +kernel
theorem bc12 {m : Nat} (h : m < 4096) : bcE (nI m) = nI (onesN m 12) := by
  have := bc64 (m / 64) (by omega) (m % 64) (by omega)
  rw [show 64 * (m / 64) + m % 64 = m by omega] at this
  exact this
