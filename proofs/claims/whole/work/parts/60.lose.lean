/-! LOSING A POINT: every line at it goes, from the last to the first -/
def uses (K : SKY) (x i p : Nat) : Prop := kF K x i = p ∨ kG K x i = p
/-- the lines below n that use p go -/
def lessK (x p : Nat) : Nat → SKY → SKY
  | 0, K => K
  | n + 1, K => lessK x p n (if kF K x n = p ∨ kG K x n = p then eraseK K x n else K)
theorem eraseK_okL {K : SKY} (ok : okL K) {x n : Nat} : okL (eraseK K x n) := by
  refine ⟨ok.1, ok.2.1, fun y hy => ?_⟩
  by_cases e : y = x
  · subst e
    rw [eraseK_Ln]
    have := ok.2.2 y hy
    omega
  · have q3 : kLn (eraseK K x n) y = kLn K y := by unfold kLn eraseK; simp only [e, if_false]
    rw [q3]
    exact ok.2.2 y hy
def bd12 (K : SKY) (x : Nat) : Prop := ∀ i, i < kLn K x → kF K x i < 12 ∧ kG K x i < 12
theorem eraseK_bd {K : SKY} {x n : Nat} (h : bd12 K x) (hn : n < kLn K x) : bd12 (eraseK K x n) x := by
  intro i hi
  rw [eraseK_Ln] at hi
  rw [eraseK_F, eraseK_G]
  unfold delN
  by_cases e : i < n
  · rw [if_pos e, if_pos e]; exact h i (by omega)
  · rw [if_neg e, if_neg e]; exact h (i + 1) (by omega)
theorem bit_and {a b p : Nat} : ((2 ^ a ||| 2 ^ b) &&& 2 ^ p = 0) ↔ ¬ (a = p ∨ b = p) := by
  constructor
  · intro e w
    have := congrArg (fun z => z.testBit p) e
    simp only [Nat.testBit_and, Nat.testBit_or, Nat.testBit_two_pow, Nat.zero_testBit, decide_true, Bool.and_true, Bool.or_eq_false_iff, decide_eq_false_iff_not] at this
    exact w.elim this.1 this.2
  · intro w
    apply Nat.eq_of_testBit_eq
    intro k
    simp only [Nat.testBit_and, Nat.testBit_or, Nat.testBit_two_pow, Nat.zero_testBit]
    by_cases e : p = k
    · subst e
      have w1 : ¬ a = p := fun z => w (Or.inl z)
      have w2 : ¬ b = p := fun z => w (Or.inr z)
      simp [w1, w2]
    · simp [e]
theorem sub_self1 (n : Nat) : nI (n + 1) + -1 = nI n := by
  have := nI_pred n
  rw [Int32.sub_eq_add_neg] at this
  exact this
theorem eraseAt9 (d s x p : Nat) (hp : p < 12) (y : Int32) : ∀ n (K : SKY) (V : Mem), CS V s K → okL K → x < kNX K → bd12 K x → n ≤ kLn K x → ∃ V', sem (d + 1) 20 9 [some (.inr (.inr (5, x + 6 * s))), some (.inl (nI (2 ^ p))), some (.inl y), some (.inl (nI n + -1))] [] V = some (some (.inl (y - nI (kLn (lessK x p n K) x))), V') ∧ CS V' s (lessK x p n K) ∧ (∀ t i k, ¬ ((t = 5 ∨ t = 6 ∨ t = 7) ∧ i = x + 6 * s) → V'.1 t i k = V.1 t i k) ∧ V'.2 = V.2 := by
  intro n
  induction n with
  | zero =>
    intro K V h ok hx hb hn
    refine ⟨V, ?_, h, fun _ _ _ _ => rfl, rfl⟩
    rw [e_Parish_eraseAt_9, if_pos (by decide), (h.2.2 x hx).2.2.2.1]
    rfl
  | succ n ih =>
    intro K V h ok hx hb hn
    have hl := ok.2.2 x hx
    obtain ⟨b1, b2⟩ := hb n (by omega)
    have lt1 := por_lt b1 b2
    have lt2 := pw_lt hp
    have lt3 : (2 ^ kF K x n ||| 2 ^ kG K x n) &&& 2 ^ p ≤ 2 ^ p := Nat.and_le_right
    have st : sem (d + 1) 20 9 [some (.inr (.inr (5, x + 6 * s))), some (.inl (nI (2 ^ p))), some (.inl y), some (.inl (nI (n + 1) + -1))] [] V = _ := e_Parish_eraseAt_9 (d + 1) (x + 6 * s) (nI (2 ^ p)) y (nI (n + 1) + -1) V
    rw [sub_self1, if_neg (nI_pos (by omega)), c_ends (h.2.2 x hx) hl (by omega) b1 b2, bind_some'] at st
    by_cases e : kF K x n = p ∨ kG K x n = p
    · have ne : ¬ nI (2 ^ kF K x n ||| 2 ^ kG K x n) &&& nI (2 ^ p) = 0 := fun w => by
        rw [nI_and] at w
        exact absurd e (bit_and.mp ((nI_eq (b := 0) (by omega) (by omega)).mp w))
      obtain ⟨V1, v1, v2, v3, v4⟩ := c_erase (d := d) (h.2.2 x hx) hl (show n < kLn K x by omega)
      rw [if_neg ne, v1, bind_some', e_Parish_eraseAt_28] at st
      obtain ⟨V', w1, w2, w3, w4⟩ := ih (eraseK K x n) V1 (h.erase (x := x) v3 v2) (eraseK_okL ok) hx (eraseK_bd hb (by omega)) (by rw [eraseK_Ln]; omega)
      refine ⟨V', ?_, ?_, fun t i k q => (w3 t i k q).trans (v3 t i k q), w4.trans v4⟩
      · rw [sub_self1, st]
        show _ = some (some (Sum.inl (y - nI (kLn (lessK x p n (if kF K x n = p ∨ kG K x n = p then eraseK K x n else K)) x))), V')
        rw [if_pos e]
        exact w1
      · show CS V' s (lessK x p n (if kF K x n = p ∨ kG K x n = p then eraseK K x n else K))
        rw [if_pos e]
        exact w2
    · have eq : nI (2 ^ kF K x n ||| 2 ^ kG K x n) &&& nI (2 ^ p) = 0 := by
        rw [nI_and, bit_and.mpr e]
        rfl
      rw [if_pos eq, e_Parish_eraseAt_28] at st
      obtain ⟨V', w1, w2, w3, w4⟩ := ih K V h ok hx hb (by omega)
      refine ⟨V', ?_, ?_, w3, w4⟩
      · rw [sub_self1, st]
        show _ = some (some (Sum.inl (y - nI (kLn (lessK x p n (if kF K x n = p ∨ kG K x n = p then eraseK K x n else K)) x))), V')
        rw [if_neg e]
        exact w1
      · show CS V' s (lessK x p n (if kF K x n = p ∨ kG K x n = p then eraseK K x n else K))
        rw [if_neg e]
        exact w2
