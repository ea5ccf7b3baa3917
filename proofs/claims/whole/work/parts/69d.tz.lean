/-! numberOfTrailingZeros on 12 bits -/
def tz4 (x0 x1 : Int32) : Int32 := if 4 < x0 then (x1 + 2) + ((Int32.toUInt32 ((Int32.toUInt32 x0 >>> (Int32.toUInt32 2 &&& Int32.toUInt32 31)).toInt32) >>> (Int32.toUInt32 1 &&& Int32.toUInt32 31)).toInt32) else x1 + ((Int32.toUInt32 x0 >>> (Int32.toUInt32 1 &&& Int32.toUInt32 31)).toInt32)
def tz3 (x0 x1 : Int32) : Int32 := if 16 < x0 then tz4 ((Int32.toUInt32 x0 >>> (Int32.toUInt32 4 &&& Int32.toUInt32 31)).toInt32) (x1 + 4) else tz4 x0 x1
def tz2 (x0 x1 : Int32) : Int32 := if 256 < x0 then tz3 ((Int32.toUInt32 x0 >>> (Int32.toUInt32 8 &&& Int32.toUInt32 31)).toInt32) (x1 + 8) else tz3 x0 x1
def tz1 (x0 : Int32) : Int32 := if 0 < (x0 ^^^ (-1)) &&& (x0 - 1) then if 65536 < (x0 ^^^ (-1)) &&& (x0 - 1) then tz2 ((Int32.toUInt32 ((x0 ^^^ (-1)) &&& (x0 - 1)) >>> (Int32.toUInt32 16 &&& Int32.toUInt32 31)).toInt32) (1 + 16) else tz2 ((x0 ^^^ (-1)) &&& (x0 - 1)) 1 else ((x0 ^^^ (-1)) &&& (x0 - 1)) &&& 32
theorem tz4_eq (d : Nat) (x0 x1 : Int32) (V : Mem) : sem d 223 62 [some (.inl x0), some (.inl x1)] [] V = some (some (.inl (tz4 x0 x1)), V) := by
  rw [e_Integer_numberOfTrailingZeros_62]; unfold tz4; split <;> rfl
theorem tz3_eq (d : Nat) (x0 x1 : Int32) (V : Mem) : sem d 223 49 [some (.inl x0), some (.inl x1)] [] V = some (some (.inl (tz3 x0 x1)), V) := by
  rw [e_Integer_numberOfTrailingZeros_49, tz4_eq, tz4_eq]; unfold tz3; split <;> rfl
theorem tz2_eq (d : Nat) (x0 x1 : Int32) (V : Mem) : sem d 223 34 [some (.inl x0), some (.inl x1)] [] V = some (some (.inl (tz2 x0 x1)), V) := by
  rw [e_Integer_numberOfTrailingZeros_34, tz3_eq, tz3_eq]; unfold tz2; split <;> rfl
theorem c_tz {d : Nat} (x : Int32) (V : Mem) : clI (d + 1) m_Integer_numberOfTrailingZeros [.inl x] V = some (tz1 x, V) := by
  refine clI_of ((e_Integer_numberOfTrailingZeros_0 d x V).trans ?_)
  rw [tz2_eq, tz2_eq]
  unfold tz1
  split
  · split <;> rfl
  · rfl
theorem tz64 : allB 64 (fun a => allB 64 (fun b => allB 12 (fun k => !((64 * a + b).testBit k && Nat.beq (onesN (64 * a + b) k) 0) || decide (tz1 (nI (64 * a + b)) = nI k)))) = true := by decide +kernel
theorem tz_low {m k : Nat} (hm : m < 4096) (hk : k < 12) (hb : m.testBit k = true) (ho : onesN m k = 0) : tz1 (nI m) = nI k := by
  have := allB_of (allB_of (allB_of tz64 (show m / 64 < 64 by omega)) (show m % 64 < 64 by omega)) hk
  rw [show 64 * (m / 64) + m % 64 = m by omega, hb, ho] at this
  simpa using this
