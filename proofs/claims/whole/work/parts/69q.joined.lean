/-! JOINED: fewest steps of line -/
def stj (σ : Option (Nat × Nat)) (p far : Nat) : Option (Nat × Nat) := match σ with
  | none => some (p, far)
  | some (b, l) => if far < l then some (p, far) else some (b, l)
def farJ (K : SKY) (I p q : Nat) : Nat := if I = 0 then 0 else lenN (kCe K) p q
/-- all q of I, one after the other -/
def qJ (K : SKY) (I p : Nat) (σ : Option (Nat × Nat)) : Nat → Option (Nat × Nat)
  | 0 => σ
  | q + 1 => if I = 0 ∨ I.testBit q = true then stj (qJ K I p σ q) p (farJ K I p q) else qJ K I p σ q
def pJ (K : SKY) (L I : Nat) : Nat → Option (Nat × Nat)
  | 0 => none
  | p + 1 => if L.testBit p = true then qJ K I p (pJ K L I p) (kNP K) else pJ K L I p
/-- the least far, as the class finds it -/
def ltJ (K : SKY) (I p : Nat) : Nat → Option Nat
  | 0 => none
  | q + 1 => if I.testBit q = true then (match ltJ K I p q with
    | none => some (lenN (kCe K) p q)
    | some m => some (min m (lenN (kCe K) p q))) else ltJ K I p q
theorem stj_min (σ : Option (Nat × Nat)) (p m f : Nat) : stj (stj σ p m) p f = stj σ p (min m f) := by
  cases σ with
  | none =>
    show (if f < m then some (p, f) else some (p, m)) = some (p, min m f)
    by_cases h : f < m
    · rw [if_pos h, show min m f = f by omega]
    · rw [if_neg h, show min m f = m by omega]
  | some bl =>
    obtain ⟨b, l⟩ := bl
    show stj (if m < l then some (p, m) else some (b, l)) p f = if min m f < l then some (p, min m f) else some (b, l)
    by_cases h : m < l
    · rw [if_pos h, if_pos (by omega)]
      show (if f < m then some (p, f) else some (p, m)) = _
      by_cases h2 : f < m
      · rw [if_pos h2, show min m f = f by omega]
      · rw [if_neg h2, show min m f = m by omega]
    · rw [if_neg h]
      show (if f < l then some (p, f) else some (b, l)) = _
      by_cases h2 : f < l
      · rw [if_pos h2, if_pos (by omega), show min m f = f by omega]
      · rw [if_neg h2, if_neg (by omega)]
theorem qJ_lt {K : SKY} {I p : Nat} (hI : I ≠ 0) (σ : Option (Nat × Nat)) : ∀ n, qJ K I p σ n = (match ltJ K I p n with
    | none => σ
    | some m => stj σ p m) := by
  intro n
  induction n with
  | zero => rfl
  | succ n ih =>
    unfold qJ ltJ
    rw [ih]
    by_cases e : I.testBit n = true
    · rw [if_pos (Or.inr e), if_pos e, show farJ K I p n = lenN (kCe K) p n from if_neg hI]
      cases ltJ K I p n with
      | none => rfl
      | some m => exact stj_min σ p m _
    · rw [if_neg (fun w => w.elim hI e), if_neg e]
theorem ltJ_some {K : SKY} (ok : okK K) {I p : Nat} (hp : p < kNP K) : ∀ n, n ≤ kNP K → (∃ q, q < n ∧ I.testBit q = true) → ∃ m, ltJ K I p n = some m ∧ m ≤ 18 := by
  intro n
  induction n with
  | zero => rintro _ ⟨q, hq, _⟩; omega
  | succ n ih =>
    rintro hn ⟨q, hq, hb⟩
    have ll := lenN_le (ok.2.2.2.1 p hp).1 (ok.2.2.2.1 n (by omega)).1
    unfold ltJ
    by_cases e : I.testBit n = true
    · rw [if_pos e]
      by_cases w : ∃ q, q < n ∧ I.testBit q = true
      · obtain ⟨m, m1, m2⟩ := ih (by omega) w
        rw [m1]
        exact ⟨_, rfl, by omega⟩
      · cases h : ltJ K I p n with
        | none => exact ⟨_, rfl, ll⟩
        | some m => exact ⟨_, rfl, by omega⟩
    · rw [if_neg e]
      refine ih (by omega) ⟨q, ?_, hb⟩
      by_cases w : q = n
      · subst w; exact absurd hb e
      · omega
theorem ltJ_le {K : SKY} (ok : okK K) {I p : Nat} (hp : p < kNP K) : ∀ n, n ≤ kNP K → ∀ m, ltJ K I p n = some m → m ≤ 18 := by
  intro n
  induction n with
  | zero => intro _ m h; exact absurd h (by simp [ltJ])
  | succ n ih =>
    intro hn m h
    have ll := lenN_le (ok.2.2.2.1 p hp).1 (ok.2.2.2.1 n (by omega)).1
    unfold ltJ at h
    by_cases e : I.testBit n = true
    · rw [if_pos e] at h
      cases h2 : ltJ K I p n with
      | none =>
        rw [h2] at h
        have := Option.some.inj h
        omega
      | some m2 =>
        rw [h2] at h
        have := Option.some.inj h
        omega
    · rw [if_neg e] at h
      exact ih (by omega) m h
theorem stj_ok {σ : Option (Nat × Nat)} {p far b l : Nat} (h : stj σ p far = some (b, l)) : (b = p ∧ l = far) ∨ σ = some (b, l) := by
  cases σ with
  | none =>
    have h' : some (p, far) = some (b, l) := h
    simp only [Option.some.injEq, Prod.mk.injEq] at h'
    exact Or.inl ⟨h'.1.symm, h'.2.symm⟩
  | some bl =>
    obtain ⟨b', l'⟩ := bl
    have h' : (if far < l' then some (p, far) else some (b', l')) = some (b, l) := h
    by_cases e : far < l'
    · rw [if_pos e] at h'
      simp only [Option.some.injEq, Prod.mk.injEq] at h'
      exact Or.inl ⟨h'.1.symm, h'.2.symm⟩
    · rw [if_neg e] at h'
      exact Or.inr h'
theorem stj_ne (σ : Option (Nat × Nat)) (p far : Nat) : stj σ p far ≠ none := by
  cases σ with
  | none => exact fun h => by cases h
  | some bl =>
    obtain ⟨b', l'⟩ := bl
    show (if far < l' then some (p, far) else some (b', l')) ≠ none
    split <;> simp
theorem pJ_ok {K : SKY} (ok : okK K) {L I : Nat} (hI : I ≠ 0) : ∀ n, n ≤ kNP K → ∀ b l, pJ K L I n = some (b, l) → L.testBit b = true ∧ b < n ∧ l ≤ 18 := by
  intro n
  induction n with
  | zero => intro _ b l h; exact absurd h (by simp [pJ])
  | succ n ih =>
    intro hn b l h
    unfold pJ at h
    by_cases e : L.testBit n = true
    · rw [if_pos e, qJ_lt hI] at h
      cases h2 : ltJ K I n (kNP K) with
      | none =>
        rw [h2] at h
        obtain ⟨h3, h4, h5⟩ := ih (by omega) b l h
        exact ⟨h3, by omega, h5⟩
      | some m =>
        rw [h2] at h
        rcases stj_ok h with ⟨h3, h4⟩ | h3
        · have := ltJ_le ok (show n < kNP K by omega) (kNP K) (Nat.le_refl _) m h2
          subst h3; subst h4
          exact ⟨e, by omega, this⟩
        · obtain ⟨h3, h4, h5⟩ := ih (by omega) b l h3
          exact ⟨h3, by omega, h5⟩
    · rw [if_neg e] at h
      obtain ⟨h3, h4, h5⟩ := ih (by omega) b l h
      exact ⟨h3, by omega, h5⟩
theorem pJ_some {K : SKY} (ok : okK K) {L I : Nat} (hI : I ≠ 0) (hI2 : I < 2 ^ kNP K) : ∀ n, n ≤ kNP K → (∃ p, p < n ∧ L.testBit p = true) → pJ K L I n ≠ none := by
  intro n
  induction n with
  | zero => rintro _ ⟨q, hq, _⟩; omega
  | succ n ih =>
    rintro hn ⟨q, hq, hb⟩
    obtain ⟨q0, h0⟩ := Nat.exists_testBit_of_ne_zero hI
    unfold pJ
    by_cases e : L.testBit n = true
    · rw [if_pos e, qJ_lt hI]
      obtain ⟨m, m1, _⟩ := ltJ_some ok (show n < kNP K by omega) (I := I) (kNP K) (Nat.le_refl _) ⟨q0, bit_lt hI2 h0, h0⟩
      rw [m1]
      exact stj_ne _ _ _
    · rw [if_neg e]
      refine ih (by omega) ⟨q, ?_, hb⟩
      by_cases w : q = n
      · subst w; exact absurd hb e
      · omega
/-- r more are to come -/
def jS (K : SKY) (W : Nat) : Nat → Nat → Nat → Nat
  | 0, _, s => s
  | r + 1, I, s => match pJ K (clr W I) I (kNP K) with
    | none => s
    | some (b, l) => jS K W r (I ||| 2 ^ b) (s + l)
theorem onesN_clr {l b : Nat} (h : l.testBit b = true) : ∀ n, onesN (clr l (2 ^ b)) n + (if b < n then 1 else 0) = onesN l n := by
  intro n
  induction n with
  | zero => rfl
  | succ n ih =>
    show onesN (clr l (2 ^ b)) n + (if (clr l (2 ^ b)).testBit n = true then 1 else 0) + _ = onesN l n + _
    rw [← ih, clr_test, Nat.testBit_two_pow]
    by_cases e : b = n
    · subst e
      rw [h]
      simp
    · by_cases e2 : b < n
      · have : b < n + 1 := by omega
        by_cases e3 : l.testBit n = true
        · simp [e, e2, this, e3]
        · simp [e, e2, this, e3]
      · have : ¬ b < n + 1 := by omega
        simp [e, e2, this]
theorem clr_or (W I b : Nat) : clr W (I ||| 2 ^ b) = clr (clr W I) (2 ^ b) := by
  apply Nat.eq_of_testBit_eq
  intro k
  rw [clr_test, clr_test, clr_test, Nat.testBit_or]
  cases W.testBit k <;> cases I.testBit k <;> cases (2 ^ b).testBit k <;> rfl
theorem ones_nil {m : Nat} (hm : m < 4096) (h : onesN m 12 = 0) : m = 0 := by
  apply Nat.eq_of_testBit_eq
  intro k
  rw [Nat.zero_testBit]
  by_cases e : k < 12
  · have mono : ∀ n, onesN m n = 0 → ∀ j, j < n → m.testBit j = false := by
      intro n
      induction n with
      | zero => intro _ j hj; omega
      | succ n ih =>
        intro h0 j hj
        have h1 : onesN m n + (if m.testBit n = true then 1 else 0) = 0 := h0
        by_cases w : j = n
        · subst w
          by_cases q : m.testBit j = true
          · rw [if_pos q] at h1; omega
          · simpa using q
        · exact ih (by omega) j (by omega)
    exact mono 12 h k e
  · exact Nat.testBit_lt_two_pow (Nat.lt_of_lt_of_le hm (show 2 ^ 12 ≤ 2 ^ k from Nat.pow_le_pow_right (by omega) (by omega)))
theorem c_lengthTo {d I p : Nat} {V : Mem} {K : SKY} (h : CS V 0 K) (ok : okK K) (hp : p < kNP K) (hI : I < 2 ^ kNP K) : clI (d + 3) m_Sky_lengthTo [.inr (.inr (1, 0)), .inl (nI p), .inl (nI I)] V = some ((match ltJ K I p (kNP K) with
    | none => 1000000
    | some m => nI m), V) := by
  have hP := ok.1
  have hpw : 2 ^ kNP K ≤ 2 ^ 12 := Nat.pow_le_pow_right (by omega) hP
  refine clI_of ((e_Sky_lengthTo_0 (d + 2) 0 _ _ V).trans ?_)
  refine loopN (kNP K) (fun k => sem (d + 2) 57 6 [some (.inr (.inr (1, 0))), some (.inl (nI p)), some (.inl (nI I)), some (.inl (match ltJ K I p k with
    | none => 1000000
    | some m => nI m)), some (.inl (nI k))] [] V) _ (fun k hk => ?_) ?_
  · show sem _ _ _ _ _ _ = sem _ _ _ _ _ _
    rw [e_Sky_lengthTo_6, h.1.1, if_pos (nI_lt hk (by omega)), bitAt (by omega) (by omega)]
    have ll := lenN_le (ok.2.2.2.1 p hp).1 (ok.2.2.2.1 k hk).1
    rw [show ltJ K I p (k + 1) = if I.testBit k = true then (match ltJ K I p k with
      | none => some (lenN (kCe K) p k)
      | some m => some (min m (lenN (kCe K) p k))) else ltJ K I p k from rfl]
    by_cases e : I.testBit k = true
    · rw [bI_t e, if_neg one_ne, c_length h ok hp hk, bind_some', e_Sky_lengthTo_36, nI_1, if_pos e]
      cases h2 : ltJ K I p k with
      | none =>
        have : imin 1000000 (nI (lenN (kCe K) p k)) = nI (lenN (kCe K) p k) := if_pos (nI_lt (b := 1000000) (by omega) (by omega))
        simp only [this]
      | some m =>
        have := ltJ_le ok hp k (by omega) m h2
        simp only
        rw [imin_nat (by omega) (by omega)]
    · rw [bI_f e, if_pos rfl, e_Sky_lengthTo_36, nI_1, if_neg e]
  · show sem _ _ _ _ _ _ = _
    rw [e_Sky_lengthTo_6, h.1.1, if_neg (nI_nlt (Nat.le_refl _) (by omega))]
def sN1 (σ : Option (Nat × Nat)) : Int32 := match σ with
  | none => 0
  | some (b, _) => nI b
def sN2 (σ : Option (Nat × Nat)) : Int32 := match σ with
  | none => 1000000
  | some (_, l) => nI l
theorem jround {d W I k : Nat} (s : Int32) {V : Mem} {K : SKY} (h : CS V 0 K) (ok : okK K) (hW : W < 2 ^ kNP K) (hI0 : I ≠ 0) (hI : I < 2 ^ kNP K) : sem (d + 3) 56 32 [some (.inr (.inr (1, 0))), some (.inl (nI W)), some (.inl (nI I)), some (.inl s), some (.inl (nI k)), some (.inl 0), some (.inl 1000000), some (.inl 0), none, none] [] V = sem (d + 3) 56 10 [some (.inr (.inr (1, 0))), some (.inl (nI W)), some (.inl (nI I ||| (1 <<< (sN1 (pJ K (clr W I) I (kNP K)) &&& 31)))), some (.inl (s + sN2 (pJ K (clr W I) I (kNP K)))), some (.inl (nI (k + 1))), none, none, none, none, none] [] V := by
  have hP := ok.1
  have hpw : 2 ^ kNP K ≤ 2 ^ 12 := Nat.pow_le_pow_right (by omega) hP
  have lc : clr W I < 2 ^ kNP K := clr_lt hW
  refine loopN (kNP K) (fun p => sem (d + 3) 56 32 [some (.inr (.inr (1, 0))), some (.inl (nI W)), some (.inl (nI I)), some (.inl s), some (.inl (nI k)), some (.inl (sN1 (pJ K (clr W I) I p))), some (.inl (sN2 (pJ K (clr W I) I p))), some (.inl (nI p)), none, none] [] V) _ (fun p hp => ?_) ?_
  · show sem _ _ _ _ _ _ = sem _ _ _ _ _ _
    rw [e_Sky_joined_32, h.1.1, if_pos (nI_lt hp (by omega)), nI_clr, bitAt (by omega) (by omega)]
    rw [show pJ K (clr W I) I (p + 1) = if (clr W I).testBit p = true then qJ K I p (pJ K (clr W I) I p) (kNP K) else pJ K (clr W I) I p from rfl]
    have hb : ∀ b l, pJ K (clr W I) I p = some (b, l) → l ≤ 18 := fun b l w => (pJ_ok ok hI0 p (by omega) b l w).2.2
    by_cases e : (clr W I).testBit p = true
    · rw [bI_t e, if_neg one_ne, e_Sky_joined_59, if_neg one_ne, c_lengthTo h ok hp hI, bind_some', if_pos e, qJ_lt hI0, e_Sky_joined_78]
      cases h2 : ltJ K I p (kNP K) with
      | none =>
        have nl : ¬ (1000000 : Int32) < sN2 (pJ K (clr W I) I p) := by
          cases h3 : pJ K (clr W I) I p with
          | none => decide
          | some bl =>
            obtain ⟨b, l⟩ := bl
            have := hb b l h3
            exact nI_nlt (a := 1000000) (b := l) (by omega) (by omega)
        simp only
        rw [if_neg nl, e_Sky_joined_95, nI_1]
      | some m =>
        have hm := ltJ_le ok hp (kNP K) (Nat.le_refl _) m h2
        simp only
        cases h3 : pJ K (clr W I) I p with
        | none =>
          rw [if_pos (show nI m < sN2 none from nI_lt (b := 1000000) (by omega) (by omega)), e_Sky_joined_95, nI_1]
          rfl
        | some bl =>
          obtain ⟨b, l⟩ := bl
          have := hb b l h3
          show (if nI m < nI l then _ else _) = sem (d + 3) 56 32 [some (.inr (.inr (1, 0))), some (.inl (nI W)), some (.inl (nI I)), some (.inl s), some (.inl (nI k)), some (.inl (sN1 (if m < l then some (p, m) else some (b, l)))), some (.inl (sN2 (if m < l then some (p, m) else some (b, l)))), some (.inl (nI (p + 1))), none, none] [] V
          by_cases q : m < l
          · rw [if_pos (nI_lt q (by omega)), if_pos q, e_Sky_joined_95, nI_1]
            rfl
          · rw [if_neg (nI_nlt (by omega) (by omega)), if_neg q, e_Sky_joined_95, nI_1]
    · have nl : ¬ (1000000 : Int32) < sN2 (pJ K (clr W I) I p) := by
        cases h3 : pJ K (clr W I) I p with
        | none => decide
        | some bl =>
          obtain ⟨b, l⟩ := bl
          have := hb b l h3
          exact nI_nlt (a := 1000000) (b := l) (by omega) (by omega)
      rw [bI_f e, if_pos rfl, e_Sky_joined_59, if_pos rfl, e_Sky_joined_78, if_neg nl, e_Sky_joined_95, nI_1, if_neg e]
  · show sem _ _ _ _ _ _ = _
    rw [e_Sky_joined_32, h.1.1, if_neg (nI_nlt (Nat.le_refl _) (by omega)), nI_1]
theorem jloop {d W : Nat} {V : Mem} {K : SKY} (h : CS V 0 K) (ok : okK K) (hW : W < 2 ^ kNP K) : ∀ r I s k, k + r ≤ 11 → I ≠ 0 → I < 2 ^ kNP K → clr I W = 0 → onesN (clr W I) 12 = r → sem (d + 3) 56 10 [some (.inr (.inr (1, 0))), some (.inl (nI W)), some (.inl (nI I)), some (.inl (nI s)), some (.inl (nI k)), none, none, none, none, none] [] V = some (some (.inl (nI (jS K W r I s))), V) := by
  have hP := ok.1
  have hpw : 2 ^ kNP K ≤ 2 ^ 12 := Nat.pow_le_pow_right (by omega) hP
  intro r
  induction r with
  | zero =>
    intro I s k hk hI0 hI hs ho
    have lc : clr W I < 2 ^ kNP K := clr_lt hW
    have c0 : clr W I = 0 := ones_nil (by omega) ho
    have : I = W := by
      apply Nat.eq_of_testBit_eq
      intro j
      by_cases a : I.testBit j = true
      · rw [a, sub_bit hs a]
      · by_cases b : W.testBit j = true
        · exact absurd (sub_bit c0 b) a
        · rw [show I.testBit j = false by simpa using a, show W.testBit j = false by simpa using b]
    rw [e_Sky_joined_10, if_pos (show nI I = nI W by rw [this])]
    split <;> rfl
  | succ r ih =>
    intro I s k hk hI0 hI hs ho
    have lc : clr W I < 2 ^ kNP K := clr_lt hW
    have cn : clr W I ≠ 0 := fun w => by rw [w, onesN_zero (fun k _ => Nat.zero_testBit k)] at ho; omega
    obtain ⟨p0, hp0⟩ := Nat.exists_testBit_of_ne_zero cn
    have ns := pJ_some ok hI0 hI (kNP K) (Nat.le_refl _) ⟨p0, bit_lt lc hp0, hp0⟩
    have ne : ¬ nI I = nI W := fun w => by
      have := (nI_eq (by omega) (by omega)).mp w
      rw [this] at cn
      exact cn (sub_of (fun p w => w))
    rw [e_Sky_joined_10, if_pos (show nI k < 12 from nI_lt (b := 12) (by omega) (by omega)), if_neg ne, jround (d := d) (nI s) h ok hW hI0 hI]
    show _ = some (some (Sum.inl (nI (match pJ K (clr W I) I (kNP K) with
      | none => s
      | some (b, l) => jS K W r (I ||| 2 ^ b) (s + l)))), V)
    cases h2 : pJ K (clr W I) I (kNP K) with
    | none => exact absurd h2 ns
    | some bl =>
      obtain ⟨b, l⟩ := bl
      obtain ⟨g1, g2, g3⟩ := pJ_ok ok hI0 (kNP K) (Nat.le_refl _) b l h2
      have oc := onesN_clr g1 12
      rw [if_pos (by omega), ← clr_or] at oc
      have pb : 2 ^ b < 2 ^ kNP K := Nat.pow_lt_pow_right (by omega) g2
      show sem (d + 3) 56 10 [some (.inr (.inr (1, 0))), some (.inl (nI W)), some (.inl (nI I ||| (1 <<< (nI b &&& 31)))), some (.inl (nI s + nI l)), some (.inl (nI (k + 1))), none, none, none, none, none] [] V = _
      rw [shl12 (by omega), nI_or, nI_add]
      refine ih (I ||| 2 ^ b) (s + l) (k + 1) (by omega) (fun w => hI0 ?_) (Nat.or_lt_two_pow hI pb) (sub_of (fun j w => ?_)) (by omega)
      · apply Nat.eq_of_testBit_eq
        intro j
        have := congrArg (fun z => z.testBit j) w
        simp only [Nat.testBit_or, Nat.zero_testBit, Bool.or_eq_false_iff] at this
        rw [this.1, Nat.zero_testBit]
      · rw [Nat.testBit_or, Bool.or_eq_true] at w
        rcases w with w | w
        · exact sub_bit hs w
        · rw [Nat.testBit_two_pow] at w
          have e : b = j := by simpa using w
          subst e
          rw [clr_test] at g1
          simp at g1
          exact g1.1
theorem pJ_first {K : SKY} {L p0 : Nat} (hn : 0 < kNP K) (h1 : L.testBit p0 = true) (h2 : ∀ j, j < p0 → L.testBit j = false) : ∀ n, pJ K L 0 n = if p0 < n then some (p0, 0) else none := by
  have q0 : ∀ p n, 0 < n → qJ K 0 p none n = some (p, 0) := by
    intro p n
    induction n with
    | zero => intro h; omega
    | succ n ih =>
      intro _
      unfold qJ
      rw [if_pos (Or.inl rfl)]
      by_cases e : n = 0
      · subst e; rfl
      · rw [ih (by omega)]; rfl
  have q1 : ∀ p b n, qJ K 0 p (some (b, 0)) n = some (b, 0) := by
    intro p b n
    induction n with
    | zero => rfl
    | succ n ih =>
      unfold qJ
      rw [if_pos (Or.inl rfl), ih]
      rfl
  intro n
  induction n with
  | zero => rfl
  | succ n ih =>
    unfold pJ
    rw [ih]
    by_cases e : n = p0
    · subst e
      rw [if_pos h1, if_neg (by omega), q0 _ _ hn, if_pos (by omega)]
    · by_cases e2 : n < p0
      · rw [if_neg (by rw [h2 n e2]; simp), if_neg (by omega), if_neg (by omega)]
      · rw [if_pos (show p0 < n by omega), if_pos (show p0 < n + 1 by omega), q1]
        split <;> rfl
theorem least_bit {m : Nat} (h : m ≠ 0) : ∃ p, m.testBit p = true ∧ ∀ j, j < p → m.testBit j = false := by
  obtain ⟨p, h1, h2⟩ := pk_least (fun k => m.testBit k = true) (Nat.exists_testBit_of_ne_zero h)
  exact ⟨p, h1, fun j hj => by simpa using h2 j hj⟩
theorem c_joined {d x : Nat} {V : Mem} {K : SKY} (h : CS V 0 K) (ok : okK K) : clI (d + 4) m_Sky_joined [.inr (.inr (1, 0)), .inl (nI (bm (kNP K) (kW K x)))] V = some (nI (jS K (bm (kNP K) (kW K x)) (onesN (bm (kNP K) (kW K x)) 12) 0 0), V) := by
  have hP := ok.1
  have hpw : 2 ^ kNP K ≤ 2 ^ 12 := Nat.pow_le_pow_right (by omega) hP
  have hW := bm_lt (kNP K) (kW K x)
  generalize bm (kNP K) (kW K x) = W at *
  refine clI_of ((e_Sky_joined_0 (d + 3) 0 _ V).trans ?_)
  by_cases z : W = 0
  · subst z
    rw [show (nI 0 &&& -nI 0 : Int32) = nI 0 by decide, e_Sky_joined_10, if_pos (by decide), if_pos rfl]
    rfl
  · obtain ⟨p, p1, p2⟩ := least_bit z
    have hp := bit_lt hW p1
    have c0 : clr W 0 = W := by
      apply Nat.eq_of_testBit_eq
      intro k
      rw [clr_test, Nat.zero_testBit]
      simp
    have oc := onesN_clr p1 12
    rw [if_pos (by omega)] at oc
    have ol := onesN_le W 12
    rw [low_bit (by omega) (by omega) p1 (onesN_zero p2)]
    have main := jloop (d := d) h ok hW (onesN (clr W (2 ^ p)) 12) (2 ^ p) 0 0 (by omega) (Nat.ne_of_gt (Nat.two_pow_pos p)) (Nat.pow_lt_pow_right (by omega) hp) (sub_of (fun j w => by
      rw [Nat.testBit_two_pow] at w
      have e : p = j := by simpa using w
      exact e ▸ p1)) rfl
    refine Eq.trans main ?_
    rw [← oc]
    show _ = some (some (Sum.inl (nI (match pJ K (clr W 0) 0 (kNP K) with
      | none => 0
      | some (b, l) => jS K W (onesN (clr W (2 ^ p)) 12) (0 ||| 2 ^ b) (0 + l)))), V)
    rw [c0, pJ_first (by omega) p1 p2 (kNP K), if_pos hp]
    simp only [Nat.zero_or, Nat.add_zero]
def sM1 (σ : Option (Nat × Nat)) : Int32 := match σ with
  | none => -1
  | some (b, _) => nI b
def sM2 (σ : Option (Nat × Nat)) : Int32 := match σ with
  | none => 0
  | some (_, l) => nI l
theorem qJ_lt100 {K : SKY} (ok : okK K) {I p : Nat} (hp : p < kNP K) {σ : Option (Nat × Nat)} (hs : ∀ b l, σ = some (b, l) → b < 12 ∧ l ≤ 18) : ∀ n, n ≤ kNP K → ∀ b l, qJ K I p σ n = some (b, l) → b < 12 ∧ l ≤ 18 := by
  have hP := ok.1
  intro n
  induction n with
  | zero => intro _; exact hs
  | succ n ih =>
    intro hn b l h
    have ll := lenN_le (ok.2.2.2.1 p hp).1 (ok.2.2.2.1 n (by omega)).1
    unfold qJ at h
    by_cases e : I = 0 ∨ I.testBit n = true
    · rw [if_pos e] at h
      rcases stj_ok h with ⟨h1, h2⟩ | h1
      · have : farJ K I p n ≤ 18 := by unfold farJ; split <;> omega
        omega
      · exact ih (by omega) b l h1
    · rw [if_neg e] at h
      exact ih (by omega) b l h
theorem pJ_lt100 {K : SKY} (ok : okK K) {L I : Nat} : ∀ n, n ≤ kNP K → ∀ b l, pJ K L I n = some (b, l) → b < 12 ∧ l ≤ 18 := by
  intro n
  induction n with
  | zero => intro _ b l h; exact absurd h (by simp [pJ])
  | succ n ih =>
    intro hn b l h
    unfold pJ at h
    by_cases e : L.testBit n = true
    · rw [if_pos e] at h
      exact qJ_lt100 ok (show n < kNP K by omega) (ih (by omega)) (kNP K) (Nat.le_refl _) b l h
    · rw [if_neg e] at h
      exact ih (by omega) b l h
theorem mjq {d L I p : Nat} (x1 s : Int32) {V : Mem} {K : SKY} (h : MS V 32 0 K) (ok : okK K) (hL : L < 2 ^ kNP K) (hI : I < 2 ^ kNP K) (hp : p < kNP K) {σ : Option (Nat × Nat)} (hs : ∀ b l, σ = some (b, l) → b < 12 ∧ l ≤ 18) : sem (d + 2) 184 40 [some (.inr (.inr (30, 0))), some (.inl x1), some (.inl (nI L)), some (.inl (nI I)), some (.inl s), some (.inl (sM1 σ)), some (.inl (sM2 σ)), some (.inl (nI p)), some (.inl 0), none, none] [] V = sem (d + 2) 184 24 [some (.inr (.inr (30, 0))), some (.inl x1), some (.inl (nI L)), some (.inl (nI I)), some (.inl s), some (.inl (sM1 (if L.testBit p = true then qJ K I p σ (kNP K) else σ))), some (.inl (sM2 (if L.testBit p = true then qJ K I p σ (kNP K) else σ))), some (.inl (nI (p + 1))), none, none, none] [] V := by
  have hP := ok.1
  have hpw : 2 ^ kNP K ≤ 2 ^ 12 := Nat.pow_le_pow_right (by omega) hP
  refine loopN (kNP K) (fun q => sem (d + 2) 184 40 [some (.inr (.inr (30, 0))), some (.inl x1), some (.inl (nI L)), some (.inl (nI I)), some (.inl s), some (.inl (sM1 (if L.testBit p = true then qJ K I p σ q else σ))), some (.inl (sM2 (if L.testBit p = true then qJ K I p σ q else σ))), some (.inl (nI p)), some (.inl (nI q)), none, none] [] V) _ (fun q hq => ?_) ?_ |> fun w => Eq.trans (by
      have e0 : (if L.testBit p = true then qJ K I p σ 0 else σ) = σ := by split <;> rfl
      show _ = sem (d + 2) 184 40 [some (.inr (.inr (30, 0))), some (.inl x1), some (.inl (nI L)), some (.inl (nI I)), some (.inl s), some (.inl (sM1 (if L.testBit p = true then qJ K I p σ 0 else σ))), some (.inl (sM2 (if L.testBit p = true then qJ K I p σ 0 else σ))), some (.inl (nI p)), some (.inl (nI 0)), none, none] [] V
      rw [e0]
      rfl) w
  · show sem _ _ _ _ _ _ = sem _ _ _ _ _ _
    rw [e_M_joined_40, h.np, if_pos (nI_lt hq (by omega)), bitAt (by omega) (by omega)]
    have f82 : ∀ (z x5 x6 : Int32), sem (d + 2) 184 82 [some (.inr (.inr (30, 0))), some (.inl x1), some (.inl (nI L)), some (.inl (nI I)), some (.inl s), some (.inl x5), some (.inl x6), some (.inl (nI p)), some (.inl (nI q)), none, none] [.inl z] V = if ¬ z = 0 ∧ (x5 = -1 ∨ nI (farJ K I p q) < x6) then sem (d + 2) 184 40 [some (.inr (.inr (30, 0))), some (.inl x1), some (.inl (nI L)), some (.inl (nI I)), some (.inl s), some (.inl (nI p)), some (.inl (nI (farJ K I p q))), some (.inl (nI p)), some (.inl (nI (q + 1))), none, none] [] V else sem (d + 2) 184 40 [some (.inr (.inr (30, 0))), some (.inl x1), some (.inl (nI L)), some (.inl (nI I)), some (.inl s), some (.inl x5), some (.inl x6), some (.inl (nI p)), some (.inl (nI (q + 1))), none, none] [] V := by
      intro z x5 x6
      have f100 : ∀ f : Int32, sem (d + 2) 184 100 [some (.inr (.inr (30, 0))), some (.inl x1), some (.inl (nI L)), some (.inl (nI I)), some (.inl s), some (.inl x5), some (.inl x6), some (.inl (nI p)), some (.inl (nI q)), some (.inl z), none] [.inl f] V = if ¬ z = 0 ∧ (x5 = -1 ∨ f < x6) then sem (d + 2) 184 40 [some (.inr (.inr (30, 0))), some (.inl x1), some (.inl (nI L)), some (.inl (nI I)), some (.inl s), some (.inl (nI p)), some (.inl f), some (.inl (nI p)), some (.inl (nI (q + 1))), none, none] [] V else sem (d + 2) 184 40 [some (.inr (.inr (30, 0))), some (.inl x1), some (.inl (nI L)), some (.inl (nI I)), some (.inl s), some (.inl x5), some (.inl x6), some (.inl (nI p)), some (.inl (nI (q + 1))), none, none] [] V := by
        intro f
        rw [e_M_joined_100]
        by_cases a : z = 0
        · rw [if_pos a, if_neg (fun w => w.1 a), e_M_joined_128, nI_1]
        · rw [if_neg a]
          by_cases b : x5 = -1
          · rw [if_pos b, if_pos ⟨a, Or.inl b⟩, e_M_joined_120, e_M_joined_128, nI_1]
          · rw [if_neg b]
            by_cases c : f < x6
            · rw [if_pos c, if_pos ⟨a, Or.inr c⟩, e_M_joined_120, e_M_joined_128, nI_1]
            · rw [if_neg c, if_neg (fun w => w.2.elim b c), e_M_joined_128, nI_1]
      rw [e_M_joined_82]
      by_cases e : I = 0
      · rw [if_pos (by rw [e]; rfl), show farJ K I p q = 0 from if_pos e]
        exact f100 0
      · rw [if_neg (nI_ne0 (by omega) (by omega)), c_M_len h ok hp hq, bind_some', show farJ K I p q = lenN (kCe K) p q from if_neg e]
        exact f100 _
    by_cases e : L.testBit p = true
    · rw [bI_t e, if_pos rfl, if_pos e, if_pos e]
      rw [show qJ K I p σ (q + 1) = if I = 0 ∨ I.testBit q = true then stj (qJ K I p σ q) p (farJ K I p q) else qJ K I p σ q from rfl]
      have hb := qJ_lt100 ok hp hs q (by omega) (I := I)
      have ll := lenN_le (ok.2.2.2.1 p hp).1 (ok.2.2.2.1 q hq).1
      have fl : farJ K I p q ≤ 18 := by unfold farJ; split <;> omega
      generalize qJ K I p σ q = τ at *
      have may : I = 0 ∨ I.testBit q = true → sem (d + 2) 184 77 [some (.inr (.inr (30, 0))), some (.inl x1), some (.inl (nI L)), some (.inl (nI I)), some (.inl s), some (.inl (sM1 τ)), some (.inl (sM2 τ)), some (.inl (nI p)), some (.inl (nI q)), none, none] [] V = sem (d + 2) 184 40 [some (.inr (.inr (30, 0))), some (.inl x1), some (.inl (nI L)), some (.inl (nI I)), some (.inl s), some (.inl (sM1 (stj τ p (farJ K I p q)))), some (.inl (sM2 (stj τ p (farJ K I p q)))), some (.inl (nI p)), some (.inl (nI (q + 1))), none, none] [] V := by
        intro _
        rw [e_M_joined_77, f82]
        cases τ with
        | none => rw [if_pos ⟨one_ne, Or.inl rfl⟩]; rfl
        | some bl =>
          obtain ⟨b, l⟩ := bl
          obtain ⟨b1, b2⟩ := hb b l rfl
          show _ = sem (d + 2) 184 40 [some (.inr (.inr (30, 0))), some (.inl x1), some (.inl (nI L)), some (.inl (nI I)), some (.inl s), some (.inl (sM1 (if farJ K I p q < l then some (p, farJ K I p q) else some (b, l)))), some (.inl (sM2 (if farJ K I p q < l then some (p, farJ K I p q) else some (b, l)))), some (.inl (nI p)), some (.inl (nI (q + 1))), none, none] [] V
          by_cases c : farJ K I p q < l
          · rw [if_pos ⟨one_ne, Or.inr (nI_lt c (by omega))⟩, if_pos c]; rfl
          · rw [if_neg (fun w => w.2.elim (fun w => neg1_nI (n := b) (by omega) w) (fun w => nI_nlt (a := farJ K I p q) (b := l) (by omega) (by omega) w)), if_neg c]
      by_cases i0 : I = 0
      · rw [if_pos (show nI I = 0 by rw [i0]; rfl), if_pos (Or.inl i0)]
        exact may (Or.inl i0)
      · rw [if_neg (show ¬ nI I = 0 from nI_ne0 (by omega) (by omega)), bitAt (by omega) (by omega)]
        by_cases i1 : I.testBit q = true
        · rw [bI_t i1, if_pos rfl, if_pos (Or.inr i1)]
          exact may (Or.inr i1)
        · rw [bI_f i1, if_neg (by decide), if_neg (fun w => w.elim i0 i1), e_M_joined_81, f82, if_neg (fun w => w.1 rfl)]
    · rw [bI_f e, if_neg (by decide), if_neg e, if_neg e, e_M_joined_81, f82, if_neg (fun w => w.1 rfl)]
  · show sem _ _ _ _ _ _ = _
    rw [e_M_joined_40, h.np, if_neg (nI_nlt (Nat.le_refl _) (by omega)), nI_1]
theorem mjround {d L I : Nat} (x1 s : Int32) {V : Mem} {K : SKY} (h : MS V 32 0 K) (ok : okK K) (hL : L < 2 ^ kNP K) (hI : I < 2 ^ kNP K) : sem (d + 2) 184 24 [some (.inr (.inr (30, 0))), some (.inl x1), some (.inl (nI L)), some (.inl (nI I)), some (.inl s), some (.inl (-1)), some (.inl 0), some (.inl 0), none, none, none] [] V = sem (d + 2) 184 11 [some (.inr (.inr (30, 0))), some (.inl x1), some (.inl (nI L &&& ((1 <<< (sM1 (pJ K L I (kNP K)) &&& 31)) ^^^ (-1)))), some (.inl (nI I ||| (1 <<< (sM1 (pJ K L I (kNP K)) &&& 31)))), some (.inl (s + sM2 (pJ K L I (kNP K)))), none, none, none, none, none, none] [] V := by
  have hP := ok.1
  refine loopN (kNP K) (fun p => sem (d + 2) 184 24 [some (.inr (.inr (30, 0))), some (.inl x1), some (.inl (nI L)), some (.inl (nI I)), some (.inl s), some (.inl (sM1 (pJ K L I p))), some (.inl (sM2 (pJ K L I p))), some (.inl (nI p)), none, none, none] [] V) _ (fun p hp => ?_) ?_
  · show sem _ _ _ _ _ _ = sem _ _ _ _ _ _
    rw [e_M_joined_24, h.np, if_pos (nI_lt hp (by omega))]
    exact mjq (d := d) x1 s h ok hL hI hp (pJ_lt100 ok p (by omega))
  · show sem _ _ _ _ _ _ = _
    rw [e_M_joined_24, h.np, if_neg (nI_nlt (Nat.le_refl _) (by omega))]
theorem mjloop {d W : Nat} (x1 : Int32) {V : Mem} {K : SKY} (h : MS V 32 0 K) (ok : okK K) (hW : W < 2 ^ kNP K) : ∀ r I s, I < 2 ^ kNP K → onesN (clr W I) 12 = r → sem (d + 2) 184 11 [some (.inr (.inr (30, 0))), some (.inl x1), some (.inl (nI (clr W I))), some (.inl (nI I)), some (.inl (nI s)), none, none, none, none, none, none] [] V = some (some (.inl (nI (jS K W r I s))), V) := by
  have hP := ok.1
  have hpw : 2 ^ kNP K ≤ 2 ^ 12 := Nat.pow_le_pow_right (by omega) hP
  intro r
  induction r with
  | zero =>
    intro I s hI ho
    have lc : clr W I < 2 ^ kNP K := clr_lt hW
    have c0 : clr W I = 0 := ones_nil (by omega) ho
    rw [c0, e_M_joined_11, if_pos (by decide)]
    rfl
  | succ r ih =>
    intro I s hI ho
    have lc : clr W I < 2 ^ kNP K := clr_lt hW
    have cn : clr W I ≠ 0 := fun w => by rw [w, onesN_zero (fun k _ => Nat.zero_testBit k)] at ho; omega
    obtain ⟨p0, hp0, hl0⟩ := least_bit cn
    have hp0n := bit_lt lc hp0
    rw [e_M_joined_11, if_neg (nI_ne0 (by omega) (by omega)), mjround (d := d) x1 (nI s) h ok lc hI]
    show _ = some (some (Sum.inl (nI (match pJ K (clr W I) I (kNP K) with
      | none => s
      | some (b, l) => jS K W r (I ||| 2 ^ b) (s + l)))), V)
    have ex : ∃ b l, pJ K (clr W I) I (kNP K) = some (b, l) ∧ (clr W I).testBit b = true ∧ b < kNP K := by
      by_cases z : I = 0
      · subst z
        exact ⟨p0, 0, by rw [pJ_first (by omega) hp0 hl0, if_pos hp0n], hp0, hp0n⟩
      · have ns := pJ_some ok z hI (kNP K) (Nat.le_refl _) ⟨p0, hp0n, hp0⟩
        cases h2 : pJ K (clr W I) I (kNP K) with
        | none => exact absurd h2 ns
        | some bl =>
          obtain ⟨b, l⟩ := bl
          obtain ⟨g1, g2, g3⟩ := pJ_ok ok z (kNP K) (Nat.le_refl _) b l h2
          exact ⟨b, l, rfl, g1, g2⟩
    obtain ⟨b, l, h2, g1, g2⟩ := ex
    rw [h2]
    have oc := onesN_clr g1 12
    rw [if_pos (by omega), ← clr_or] at oc
    have pb : 2 ^ b < 2 ^ kNP K := Nat.pow_lt_pow_right (by omega) g2
    show sem (d + 2) 184 11 [some (.inr (.inr (30, 0))), some (.inl x1), some (.inl (nI (clr W I) &&& ((1 <<< (nI b &&& 31)) ^^^ (-1)))), some (.inl (nI I ||| (1 <<< (nI b &&& 31)))), some (.inl (nI s + nI l)), none, none, none, none, none, none] [] V = _
    rw [shl12 (by omega), nI_or, nI_add, nI_clr, ← clr_or]
    exact ih (I ||| 2 ^ b) (s + l) (Nat.or_lt_two_pow hI pb) (by omega)
theorem c_M_joined {d x : Nat} {V : Mem} {K : SKY} (h : MS V 32 0 K) (ok : okK K) (hx : x < kNX K) : clI (d + 4) m_M_joined [.inr (.inr (30, 0)), .inl (nI x)] V = some (nI (jS K (bm (kNP K) (kW K x)) (onesN (bm (kNP K) (kW K x)) 12) 0 0), V) := by
  refine clI_of ((e_M_joined_0 (d + 3) _ V).trans ?_)
  rw [c_M_wish h ok hx, bind_some']
  have c0 : clr (bm (kNP K) (kW K x)) 0 = bm (kNP K) (kW K x) := by
    apply Nat.eq_of_testBit_eq
    intro k
    rw [clr_test, Nat.zero_testBit]
    simp
  have := mjloop (d := d + 1) (nI x) h ok (bm_lt (kNP K) (kW K x)) (onesN (bm (kNP K) (kW K x)) 12) 0 0 (Nat.two_pow_pos _) (by rw [c0])
  rw [c0] at this
  exact this
