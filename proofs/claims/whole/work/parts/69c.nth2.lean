/-! THE N-TH BIT: the class -/
def allB : Nat → (Nat → Bool) → Bool
  | 0, _ => true
  | n + 1, f => f n && allB n f
theorem allB_of {n : Nat} {f : Nat → Bool} (h : allB n f = true) {k : Nat} (hk : k < n) : f k = true := by
  induction n with
  | zero => omega
  | succ n ih =>
    unfold allB at h
    rw [Bool.and_eq_true] at h
    by_cases e : k = n
    · rw [e]; exact h.1
    · exact ih h.2 (by omega)
theorem lowc64 : allB 64 (fun a => allB 64 (fun b => allB 12 (fun k => ((64 * a + b) &&& (64 * a + b - 1)).testBit k == ((64 * a + b).testBit k && Nat.blt 0 (onesN (64 * a + b) k))))) = true := by decide +kernel
theorem lowc_test {m k : Nat} (hm : m < 4096) (hk : k < 12) : (m &&& (m - 1)).testBit k = (m.testBit k && Nat.blt 0 (onesN m k)) := by
  have := allB_of (allB_of (allB_of lowc64 (show m / 64 < 64 by omega)) (show m % 64 < 64 by omega)) hk
  rw [show 64 * (m / 64) + m % 64 = m by omega] at this
  exact beq_iff_eq.mp this
