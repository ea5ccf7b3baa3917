/-! THE N-TH BIT -/
theorem among4 (d m q i : Nat) (hm : m < 2 ^ 31) (hq : q < 12) (hb : m.testBit q = true) (ho : onesN m q = i) (x1 : Int32) (V : Mem) : ∀ r k, k + r = q → sem d 215 4 [some (.inl (nI m)), some (.inl x1), some (.inl (nI (i - onesN m k))), some (.inl (nI k))] [] V = some (some (.inl (nI q)), V) := by
  have mono : ∀ a b, a ≤ b → onesN m a ≤ onesN m b := by
    intro a b h
    induction b with
    | zero => rw [show a = 0 by omega]; exact Nat.le_refl _
    | succ b ih =>
      by_cases e : a = b + 1
      · rw [e]; exact Nat.le_refl _
      · have := ih (by omega)
        show _ ≤ onesN m b + _
        omega
  intro r
  induction r with
  | zero =>
    intro k hk
    obtain rfl : k = q := by omega
    rw [e_M_among_4, bitAt hm hq, bI_t hb, if_neg one_ne, ho, Nat.sub_self, if_neg (by decide)]
  | succ r ih =>
    intro k hk
    have nx : sem d 215 16 [some (.inl (nI m)), some (.inl x1), some (.inl (nI (i - onesN m k))), some (.inl (nI k))] [] V = some (some (.inl (nI q)), V) := by
      refine Eq.trans ?_ (ih (k + 1) (by omega))
      have hle := mono (k + 1) q (by omega)
      have e1 : onesN m (k + 1) = onesN m k + (if m.testBit k = true then 1 else 0) := rfl
      rw [e_M_among_16, bitAt hm (by omega), bI_nat, nI_1, pk_sub (by omega), e1, Nat.sub_sub]
    rw [e_M_among_4, bitAt hm (by omega)]
    by_cases e : m.testBit k = true
    · have hle := mono (k + 1) q (by omega)
      have e1 : onesN m (k + 1) = onesN m k + (if m.testBit k = true then 1 else 0) := rfl
      rw [if_pos e] at e1
      rw [bI_t e, if_neg one_ne, if_pos (show 0 < nI (i - onesN m k) from nI_lt (a := 0) (by omega) (by
        have : onesN m q ≤ 12 := by
          have g : ∀ n, onesN m n ≤ n := by
            intro n
            induction n with
            | zero => exact Nat.le_refl _
            | succ n ih2 => show onesN m n + _ ≤ _; split <;> omega
          have := g q
          omega
        omega))]
      exact nx
    · rw [bI_f e, if_pos rfl]
      exact nx
theorem c_M_among {d m q : Nat} (hm : m < 2 ^ 31) (hq : q < 12) (hb : m.testBit q = true) (V : Mem) : clI (d + 1) m_M_among [.inl (nI m), .inl (nI (onesN m q))] V = some (nI q, V) :=
  clI_of ((e_M_among_0 d _ _ V).trans (among4 d m q (onesN m q) hm hq hb rfl _ V q 0 (by omega)))
