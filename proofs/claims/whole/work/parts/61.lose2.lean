/-! LOSING A POINT: the reference -/
theorem lessK_le (x p : Nat) : ∀ n (K : SKY), kLn (lessK x p n K) x ≤ kLn K x := by
  intro n
  induction n with
  | zero => intro K; exact Nat.le_refl _
  | succ n ih =>
    intro K
    show kLn (lessK x p n (if kF K x n = p ∨ kG K x n = p then eraseK K x n else K)) x ≤ _
    by_cases e : kF K x n = p ∨ kG K x n = p
    · rw [if_pos e]
      have := ih (eraseK K x n)
      rw [eraseK_Ln] at this
      omega
    · rw [if_neg e]
      exact ih K
theorem eraseIn11 (d x p : Nat) (hp : p < 12) : ∀ n (K : SKY) (V : Mem) (y : Int32), MS V 32 0 K → okL K → x < kNX K → bd12 K x → n ≤ kLn K x → ∃ V', sem (d + 2) 146 11 [some (.inr (.inr (30, 0))), some (.inl (nI x)), some (.inl (nI p)), some (.inl y), some (.inl (nI n + -1))] [] V = some (some (.inl (y + nI (kLn K x - kLn (lessK x p n K) x))), V') ∧ MS V' 32 0 (lessK x p n K) ∧ FrM V V' := by
  intro n
  induction n with
  | zero =>
    intro K V y h ok hx hb hn
    refine ⟨V, ?_, h, FrM.rfl⟩
    rw [e_M_eraseIn_11, if_pos (by decide)]
    show _ = some (some (Sum.inl (y + nI (kLn K x - kLn K x))), V)
    rw [Nat.sub_self, nI_0, Int32.add_zero]
  | succ n ih =>
    intro K V y h ok hx hb hn
    have hl := ok.2.2 x hx
    have hX := ok.2.1
    obtain ⟨b1, b2⟩ := hb n (by omega)
    obtain ⟨⟨m1, m2, m3⟩, m4⟩ := h.2.2 x hx
    have g0 : V.1 32 0 (39 + 23 * x + 2 * n + 0) = nI (kF K x n) := by rw [← (m4 n (by omega)).1, Nat.zero_add, Nat.add_zero]
    have g1 : V.1 32 0 (39 + 23 * x + 2 * n + 1) = nI (kG K x n) := by rw [← (m4 n (by omega)).2, Nat.zero_add]
    have E0 := c_M_end (d + 1) (x := x) (i := n) (e := 0) (by omega) (by omega) (by omega) V
    have E1 := c_M_end (d + 1) (x := x) (i := n) (e := 1) (by omega) (by omega) (by omega) V
    rw [g0] at E0
    rw [g1] at E1
    have E0' : clI (d + 2) m_M_end [.inr (.inr (30, 0)), .inl (nI x), .inl (nI n), .inl 0] V = some (nI (kF K x n), V) := E0
    have E1' : clI (d + 2) m_M_end [.inr (.inr (30, 0)), .inl (nI x), .inl (nI n), .inl 1] V = some (nI (kG K x n), V) := E1
    have nq : ∀ {a b : Nat}, a < 12 → b < 12 → ¬ a = b → ¬ nI a = nI b := fun ha hb hab w => hab ((nI_eq (by omega) (by omega)).mp w)
    have st : sem (d + 2) 146 11 [some (.inr (.inr (30, 0))), some (.inl (nI x)), some (.inl (nI p)), some (.inl y), some (.inl (nI n))] [] V = if kF K x n = p ∨ kG K x n = p then sem (d + 2) 146 40 [some (.inr (.inr (30, 0))), some (.inl (nI x)), some (.inl (nI p)), some (.inl y), some (.inl (nI n))] [] V else sem (d + 2) 146 51 [some (.inr (.inr (30, 0))), some (.inl (nI x)), some (.inl (nI p)), some (.inl y), some (.inl (nI n))] [] V := by
      rw [e_M_eraseIn_11, if_neg (nI_pos (by omega)), E0', bind_some']
      by_cases a1 : kF K x n = p
      · rw [if_pos (by rw [a1]), if_pos (Or.inl a1)]
      · rw [if_neg (nq b1 hp a1), E1', bind_some']
        by_cases a2 : kG K x n = p
        · rw [if_pos (by rw [a2]), if_pos (Or.inr a2)]
        · rw [if_neg (nq b2 hp a2), if_neg (fun w => w.elim a1 a2)]
    rw [sub_self1]
    by_cases e : kF K x n = p ∨ kG K x n = p
    · obtain ⟨V1, v1, v2, v3⟩ := c_M_erase (d := d) h ok hx (show n < kLn K x by omega)
      rw [if_pos e, e_M_eraseIn_40, v1, bind_some', e_M_eraseIn_51] at st
      obtain ⟨V', w1, w2, w3⟩ := ih (eraseK K x n) V1 (y + 1) v2 (eraseK_okL ok) hx (eraseK_bd hb (by omega)) (by rw [eraseK_Ln]; omega)
      refine ⟨V', ?_, ?_, v3.trans w3⟩
      · rw [st]
        show _ = some (some (Sum.inl (y + nI (kLn K x - kLn (lessK x p n (if kF K x n = p ∨ kG K x n = p then eraseK K x n else K)) x))), V')
        rw [if_pos e]
        refine w1.trans ?_
        have l := lessK_le x p n (eraseK K x n)
        rw [eraseK_Ln] at l ⊢
        have : nI (kLn K x - kLn (lessK x p n (eraseK K x n)) x) = 1 + nI (kLn K x - 1 - kLn (lessK x p n (eraseK K x n)) x) := by
          show _ = nI 1 + _
          rw [nI_add]
          congr 1
          omega
        rw [this, Int32.add_assoc]
      · show MS V' 32 0 (lessK x p n (if kF K x n = p ∨ kG K x n = p then eraseK K x n else K))
        rw [if_pos e]
        exact w2
    · rw [if_neg e, e_M_eraseIn_51] at st
      obtain ⟨V', w1, w2, w3⟩ := ih K V y h ok hx hb (by omega)
      refine ⟨V', ?_, ?_, w3⟩
      · rw [st]
        show _ = some (some (Sum.inl (y + nI (kLn K x - kLn (lessK x p n (if kF K x n = p ∨ kG K x n = p then eraseK K x n else K)) x))), V')
        rw [if_neg e]
        exact w1
      · show MS V' 32 0 (lessK x p n (if kF K x n = p ∨ kG K x n = p then eraseK K x n else K))
        rw [if_neg e]
        exact w2
/-- who wants a point, anew -/
def setW (K : SKY) (x p : Nat) (b : Bool) : SKY := (K.1, K.2.1, K.2.2.1, (fun y z => if y = x ∧ z = p then b else kW K y z), K.2.2.2.2)
theorem bm_set {n : Nat} {f : Nat → Bool} {p : Nat} (hp : p < n) : bm n (fun z => if z = p then true else f z) = bm n f ||| 2 ^ p := by
  apply Nat.eq_of_testBit_eq
  intro k
  rw [Nat.testBit_or, Nat.testBit_two_pow, bm_test, bm_test]
  by_cases e : k = p
  · subst e; simp [hp]
  · have e' : ¬ p = k := fun w => e w.symm
    simp [e, e']
theorem bm_flip {n : Nat} {f : Nat → Bool} {p : Nat} (hp : p < n) : bm n (fun z => if z = p then !f z else f z) = bm n f ^^^ 2 ^ p := by
  apply Nat.eq_of_testBit_eq
  intro k
  rw [Nat.testBit_xor, Nat.testBit_two_pow, bm_test, bm_test]
  by_cases e : k = p
  · subst e; simp [hp]
  · have e' : ¬ p = k := fun w => e w.symm
    simp [e, e']
