/-! COUNTING PAIRS -/
def S1 (f : Nat → Nat) : Nat → Nat
  | 0 => 0
  | n + 1 => S1 f n + f n
theorem S1_congr {f g : Nat → Nat} : ∀ n, (∀ k, k < n → f k = g k) → S1 f n = S1 g n := by
  intro n
  induction n with
  | zero => intro _; rfl
  | succ n ih => intro h; show S1 f n + f n = S1 g n + g n; rw [ih (fun k hk => h k (by omega)), h n (by omega)]
theorem S1_add (f g : Nat → Nat) : ∀ n, S1 (fun k => f k + g k) n = S1 f n + S1 g n := by
  intro n
  induction n with
  | zero => rfl
  | succ n ih => show S1 (fun k => f k + g k) n + (f n + g n) = S1 f n + f n + (S1 g n + g n); rw [ih]; omega
theorem S1_zero {f : Nat → Nat} : ∀ n, (∀ k, k < n → f k = 0) → S1 f n = 0 := by
  intro n
  induction n with
  | zero => intro _; rfl
  | succ n ih => intro h; show S1 f n + f n = 0; rw [ih (fun k hk => h k (by omega)), h n (by omega)]
theorem S1_one {f : Nat → Nat} {a : Nat} : ∀ n, a < n → (∀ k, k < n → k ≠ a → f k = 0) → S1 f n = f a := by
  intro n
  induction n with
  | zero => intro h; omega
  | succ n ih =>
    intro ha h
    show S1 f n + f n = f a
    by_cases e : a = n
    · subst e
      rw [S1_zero a (fun k hk => h k (by omega) (by omega)), Nat.zero_add]
    · rw [ih (by omega) (fun k hk => h k (by omega)), h n (by omega) (fun w => e w.symm), Nat.add_zero]
theorem S1_const (n : Nat) : S1 (fun _ => 1) n = n := by
  induction n with
  | zero => rfl
  | succ n ih => show S1 (fun _ => 1) n + 1 = n + 1; rw [ih]
def S2 (f : Nat → Nat → Nat) (n : Nat) : Nat := S1 (fun p => S1 (fun q => if p < q then f p q else 0) n) n
theorem S2_congr {f g : Nat → Nat → Nat} {n : Nat} (h : ∀ p q, p < q → q < n → f p q = g p q) : S2 f n = S2 g n := by
  refine S1_congr n (fun p hp => S1_congr n (fun q hq => ?_))
  by_cases e : p < q
  · rw [if_pos e, if_pos e, h p q e hq]
  · rw [if_neg e, if_neg e]
theorem S2_add (f g : Nat → Nat → Nat) (n : Nat) : S2 (fun p q => f p q + g p q) n = S2 f n + S2 g n := by
  unfold S2
  rw [← S1_add]
  refine S1_congr n (fun p hp => ?_)
  rw [← S1_add]
  refine S1_congr n (fun q hq => ?_)
  by_cases e : p < q
  · rw [if_pos e, if_pos e, if_pos e]
  · rw [if_neg e, if_neg e, if_neg e]
theorem S2_one {f : Nat → Nat → Nat} {n a b : Nat} (hab : a < b) (hb : b < n) (h : ∀ p q, p < q → q < n → ¬ (p = a ∧ q = b) → f p q = 0) : S2 f n = f a b := by
  unfold S2
  rw [S1_one (a := a) n (by omega) (fun p hp ne => S1_zero n (fun q hq => ?_)), S1_one (a := b) n hb (fun q hq ne => ?_), if_pos hab]
  · by_cases e : a < q
    · rw [if_pos e]; exact h a q e hq (fun w => ne w.2)
    · rw [if_neg e]
  · by_cases e : p < q
    · rw [if_pos e]; exact h p q e hq (fun w => ne w.1)
    · rw [if_neg e]
theorem S2_zero {n : Nat} : S2 (fun _ _ => 0) n = 0 := S1_zero n (fun p hp => S1_zero n (fun q hq => by split <;> rfl))
def memP (f g : Nat → Nat) (a b : Nat) : Nat → Bool
  | 0 => false
  | n + 1 => memP f g a b n || decide (eqL (f n) (g n) a b)
theorem memP_iff {f g : Nat → Nat} {a b : Nat} : ∀ n, memP f g a b n = true ↔ ∃ i, i < n ∧ eqL (f i) (g i) a b := by
  intro n
  induction n with
  | zero => exact ⟨fun w => absurd w (by simp [memP]), fun ⟨i, hi, _⟩ => by omega⟩
  | succ n ih =>
    show (memP f g a b n || decide (eqL (f n) (g n) a b)) = true ↔ _
    rw [Bool.or_eq_true, ih, decide_eq_true_iff]
    constructor
    · rintro (⟨i, h1, h2⟩ | h)
      · exact ⟨i, by omega, h2⟩
      · exact ⟨n, by omega, h⟩
    · rintro ⟨i, h1, h2⟩
      by_cases e : i = n
      · subst e; exact Or.inr h2
      · exact Or.inl ⟨i, by omega, h2⟩
theorem memP_mm {f g : Nat → Nat} {a b n : Nat} : memP f g (min a b) (max a b) n = memP f g a b n := by
  rw [Bool.eq_iff_iff, memP_iff, memP_iff]
  constructor
  · rintro ⟨i, h1, h2⟩; exact ⟨i, h1, by omega⟩
  · rintro ⟨i, h1, h2⟩; exact ⟨i, h1, by omega⟩
def chi (f g : Nat → Nat) (p q : Nat) : Nat → Nat
  | 0 => 0
  | n + 1 => chi f g p q n + (if eqL (f n) (g n) p q then 1 else 0)
theorem chi01 {f g : Nat → Nat} {p q : Nat} : ∀ n, (∀ i j, i < n → j < n → eqL (f i) (g i) (f j) (g j) → i = j) → chi f g p q n = if memP f g p q n = true then 1 else 0 := by
  intro n
  induction n with
  | zero => intro _; rfl
  | succ n ih =>
    intro h
    have ih' := ih (fun i j hi hj => h i j (by omega) (by omega))
    show chi f g p q n + _ = if (memP f g p q n || decide (eqL (f n) (g n) p q)) = true then 1 else 0
    rw [ih']
    by_cases e : eqL (f n) (g n) p q
    · have : ¬ memP f g p q n = true := fun w => by
        obtain ⟨i, h1, h2⟩ := (memP_iff n).mp w
        have := h i n (by omega) (by omega) (by omega)
        omega
      rw [if_neg this, if_pos e, if_pos (by rw [decide_eq_true e, Bool.or_true])]
    · rw [if_neg e, decide_eq_false e, Bool.or_false, Nat.add_zero]
theorem S2_chi {f g : Nat → Nat} {N : Nat} (w : Nat → Nat → Nat) : ∀ n, (∀ i, i < n → f i < N ∧ g i < N ∧ f i ≠ g i) → S2 (fun p q => chi f g p q n * w p q) N = S1 (fun i => w (min (f i) (g i)) (max (f i) (g i))) n := by
  intro n
  induction n with
  | zero => intro _; exact (S2_congr (fun p q _ _ => Nat.zero_mul _)).trans S2_zero
  | succ n ih =>
    intro h
    have ih' := ih (fun i hi => h i (by omega))
    have e1 : S2 (fun p q => chi f g p q (n + 1) * w p q) N = S2 (fun p q => chi f g p q n * w p q + (if eqL (f n) (g n) p q then w p q else 0)) N := S2_congr (fun p q _ _ => by
      show (chi f g p q n + _) * w p q = _
      rw [Nat.add_mul]
      split
      · rw [Nat.one_mul]
      · rw [Nat.zero_mul])
    obtain ⟨h1, h2, h3⟩ := h n (by omega)
    rw [e1, S2_add, ih', S2_one (a := min (f n) (g n)) (b := max (f n) (g n)) (by omega) (by omega) (fun p q hpq hq ne => if_neg (by omega)), if_pos (by omega)]
    rfl
/-- in how many pairs they are unlike -/
def unN (U W : Nat → Nat) (P : Nat) (f g : Nat → Nat) (ln N : Nat) : Nat := S2 (fun p q => if memP U W p q P = memP f g p q ln then 0 else 1) N
def bth (U W : Nat → Nat) (P : Nat) (f g : Nat → Nat) : Nat → Nat
  | 0 => 0
  | n + 1 => bth U W P f g n + (if memP U W (f n) (g n) P = true then 1 else 0)
theorem bth_S1 (U W : Nat → Nat) (P : Nat) (f g : Nat → Nat) (n : Nat) : bth U W P f g n = S1 (fun i => if memP U W (min (f i) (g i)) (max (f i) (g i)) P = true then 1 else 0) n := by
  induction n with
  | zero => rfl
  | succ n ih =>
    show bth U W P f g n + _ = S1 _ n + _
    rw [ih]
    dsimp only
    rw [memP_mm]
theorem un_sum {U W f g : Nat → Nat} {P ln N : Nat} (hT : ∀ i, i < P → U i < N ∧ W i < N ∧ U i ≠ W i) (dT : ∀ i j, i < P → j < P → eqL (U i) (W i) (U j) (W j) → i = j) (hL : ∀ i, i < ln → f i < N ∧ g i < N ∧ f i ≠ g i) (dL : ∀ i j, i < ln → j < ln → eqL (f i) (g i) (f j) (g j) → i = j) : unN U W P f g ln N + (bth U W P f g ln + bth U W P f g ln) = P + ln := by
  have a1 : S2 (fun p q => chi U W p q P * 1) N = P := by rw [S2_chi (fun _ _ => 1) P hT]; exact S1_const P
  have a2 : S2 (fun p q => chi f g p q ln * 1) N = ln := by rw [S2_chi (fun _ _ => 1) ln hL]; exact S1_const ln
  have a3 : S2 (fun p q => chi f g p q ln * (if memP U W p q P = true then 1 else 0)) N = bth U W P f g ln := by rw [S2_chi (fun p q => if memP U W p q P = true then 1 else 0) ln hL, bth_S1]
  have e : S2 (fun p q => (if memP U W p q P = memP f g p q ln then 0 else 1) + (chi f g p q ln * (if memP U W p q P = true then 1 else 0) + chi f g p q ln * (if memP U W p q P = true then 1 else 0))) N = S2 (fun p q => chi U W p q P * 1 + chi f g p q ln * 1) N := S2_congr (fun p q _ _ => by
    rw [chi01 P dT, chi01 ln dL]
    cases memP U W p q P <;> cases memP f g p q ln <;> rfl)
  rw [S2_add, S2_add, S2_add, a1, a2, a3] at e
  exact e
/-! whose: the class -/
def el64 (V : Mem) (s k : Nat) : Int64 := V.2 24 s k
abbrev isPt (n : Nat) (z : Int64) : Prop := ¬ z < 0 ∧ z < lN n
theorem isPt_ex {n : Nat} (hn : n ≤ 12) {z : Int64} (h : isPt n z) : z = lN z.toInt.toNat ∧ z.toInt.toNat < n := by
  obtain ⟨k, h1, h2⟩ := pk_lOf h.1
  have h3 := h.2
  rw [h2, pk_lLT h1 (by omega)] at h3
  have : z.toInt.toNat = k := by rw [h2, pk_lT h1]; rfl
  rw [this]
  exact ⟨h2, h3⟩
abbrev goodP (n : Nat) (E : Nat → Int64) (k : Nat) : Prop := isPt n (E (2 * k)) ∧ isPt n (E (2 * k + 1)) ∧ ¬ E (2 * k) = E (2 * k + 1)
theorem c_arePairs {d s n : Nat} (hn : n ≤ 20) {V : Mem} {np : Nat} (hP : np ≤ 12) (h : V.1 1 0 3 = nI np) : ∃ b : Bool, clI (d + 1) m_C_arePairs [.inr (.inr (0, 0)), .inr (.inr (23, s)), .inl (nI n)] V = some (bI (b = true), V) ∧ (b = true ↔ ∀ k, k < n → goodP np (V.2 24 s) k) := by
  have main : ∀ m k, k + m = n → ∃ b : Bool, sem d 122 2 [some (.inr (.inr (0, 0))), some (.inr (.inr (23, s))), some (.inl (nI n)), some (.inl (nI k)), none, none, none, none, none] [] V = some (some (.inl (bI (b = true))), V) ∧ (b = true ↔ ∀ j, k ≤ j → j < n → goodP np (V.2 24 s) j) := by
    intro m
    induction m with
    | zero =>
      intro k hk
      refine ⟨true, ?_, fun _ j h1 h2 => by omega, fun _ => rfl⟩
      rw [e_C_arePairs_2, if_neg (nI_nlt (by omega) (by omega))]
      rfl
    | succ m ih =>
      intro k hk
      obtain ⟨b, b1, b2⟩ := ih (k + 1) (by omega)
      have st := e_C_arePairs_2 d s (nI n) (nI k) V
      have q1 : (2 * nI k : Int32) = nI (2 * k) := by simp only [fa_lit, pk_mul]
      rw [if_pos (nI_lt (by omega) (by omega)), q1, nI_1, if_neg (nI_in (N := 40) (by omega) (by omega)), if_neg (nI_in (N := 40) (by omega) (by omega)), nI_clamp (by omega), nI_clamp (by omega), h, nI_l (by omega)] at st
      simp only [lg_cmp_lt, lg_cmp_eq] at st
      have bad : ¬ goodP np (V.2 24 s) k → (false = true ↔ ∀ j, k ≤ j → j < n → goodP np (V.2 24 s) j) := fun ng => ⟨fun w => absurd w (by simp), fun w => absurd (w k (Nat.le_refl _) (by omega)) ng⟩
      by_cases g1 : V.2 24 s (2 * k) < 0
      · rw [if_pos g1, e_C_arePairs_75, e_C_arePairs_76, if_pos rfl] at st
        exact ⟨false, st, bad (fun w => w.1.1 g1)⟩
      · rw [if_neg g1] at st
        by_cases g2 : V.2 24 s (2 * k) < lN np
        · rw [if_pos g2] at st
          by_cases g3 : V.2 24 s (2 * k + 1) < 0
          · rw [if_pos g3, e_C_arePairs_75, e_C_arePairs_76, if_pos rfl] at st
            exact ⟨false, st, bad (fun w => w.2.1.1 g3)⟩
          · rw [if_neg g3] at st
            by_cases g4 : V.2 24 s (2 * k + 1) < lN np
            · rw [if_pos g4, e_C_arePairs_76, if_neg one_ne] at st
              by_cases g5 : V.2 24 s (2 * k) = V.2 24 s (2 * k + 1)
              · rw [if_pos ((lg_cmp_eq _ _).mpr g5)] at st
                exact ⟨false, st, bad (fun w => w.2.2 g5)⟩
              · rw [if_neg (fun w => g5 ((lg_cmp_eq _ _).mp w)), nI_1] at st
                refine ⟨b, st.trans b1, b2.trans ⟨fun w j h1 h2 => ?_, fun w j h1 h2 => w j (by omega) h2⟩⟩
                by_cases e : j = k
                · subst e; exact ⟨⟨g1, g2⟩, ⟨g3, g4⟩, g5⟩
                · exact w j (by omega) h2
            · rw [if_neg g4, e_C_arePairs_75, e_C_arePairs_76, if_pos rfl] at st
              exact ⟨false, st, bad (fun w => g4 w.2.1.2)⟩
        · rw [if_neg g2, e_C_arePairs_75, e_C_arePairs_76, if_pos rfl] at st
          exact ⟨false, st, bad (fun w => g2 w.1.2)⟩
  obtain ⟨b, b1, b2⟩ := main n 0 (by omega)
  exact ⟨b, clI_of ((e_C_arePairs_0 d s _ V).trans b1), b2.trans ⟨fun w k hk => w k (by omega) hk, fun w k _ hk => w k hk⟩⟩
/-- the told pairs as the class keeps them -/
def TC (V : Mem) (U W : Nat → Nat) (P : Nat) : Prop := ∀ j, j < P → V.1 26 0 j = nI (2 ^ U j ||| 2 ^ W j) ∧ U j < 12 ∧ W j < 12 ∧ U j ≠ W j
theorem c_isTold {d P a b : Nat} {U W : Nat → Nat} {V : Mem} (hP : P ≤ 20) (h : TC V U W P) (ha : a < 12) (hb : b < 12) (hab : a ≠ b) : clI (d + 1) m_C_isTold [.inr (.inr (0, 0)), .inl (nI (2 ^ a ||| 2 ^ b)), .inl (nI P)] V = some (bI (memP U W a b P = true), V) := by
  have main : ∀ m k, k + m = P → memP U W a b k = false → sem d 124 2 [some (.inr (.inr (0, 0))), some (.inl (nI (2 ^ a ||| 2 ^ b))), some (.inl (nI P)), some (.inl (nI k))] [] V = some (some (.inl (bI (memP U W a b P = true))), V) := by
    intro m
    induction m with
    | zero =>
      intro k hk hm
      obtain rfl : k = P := by omega
      rw [e_C_isTold_2, if_neg (nI_nlt (Nat.le_refl _) (by omega)), bI_f (by rw [hm]; simp)]
    | succ m ih =>
      intro k hk hm
      obtain ⟨t1, t2, t3, t4⟩ := h k (by omega)
      have l1 := por_lt t2 t3
      have l2 := por_lt ha hb
      rw [e_C_isTold_2, if_pos (nI_lt (by omega) (by omega)), if_neg (nI_in (N := 20) (by omega) (by omega)), nI_clamp (by omega), t1]
      by_cases e : eqL (U k) (W k) a b
      · rw [if_pos (by rw [(pair_bits t4 hab).mpr e]), bI_t ((memP_iff P).mpr ⟨k, by omega, e⟩)]
      · rw [if_neg (fun w => e ((pair_bits t4 hab).mp ((nI_eq (by omega) (by omega)).mp w))), nI_1]
        exact ih (k + 1) (by omega) (by show (memP U W a b k || decide (eqL (U k) (W k) a b)) = false; rw [hm, decide_eq_false e]; rfl)
  exact clI_of ((e_C_isTold_0 d _ _ V).trans (main P 0 (by omega) rfl))
abbrev p26 (t _i _k : Nat) : Prop := t = 26
def toN (z : Int64) : Nat := z.toInt.toNat
theorem c_takeTold {d s n : Nat} (hn : n ≤ 20) {V : Mem} {np : Nat} (hP : np ≤ 12) (hg : ∀ k, k < n → goodP np (V.2 24 s) k) : ∃ (V' : Mem) (P : Nat) (U W : Nat → Nat), clI (d + 2) m_C_takeTold [.inr (.inr (0, 0)), .inr (.inr (23, s)), .inl (nI n)] V = some (nI P, V') ∧ P ≤ n ∧ TC V' U W P ∧ (∀ j, j < P → U j < np ∧ W j < np) ∧ (∀ i j, i < P → j < P → eqL (U i) (W i) (U j) (W j) → i = j) ∧ (∀ a b, memP U W a b P = memP (fun k => toN (V.2 24 s (2 * k))) (fun k => toN (V.2 24 s (2 * k + 1))) a b n) ∧ Fr p26 V V' := by
  have gd : ∀ k, k < n → V.2 24 s (2 * k) = lN (toN (V.2 24 s (2 * k))) ∧ toN (V.2 24 s (2 * k)) < np ∧ V.2 24 s (2 * k + 1) = lN (toN (V.2 24 s (2 * k + 1))) ∧ toN (V.2 24 s (2 * k + 1)) < np ∧ toN (V.2 24 s (2 * k)) ≠ toN (V.2 24 s (2 * k + 1)) := fun k hk => by
    obtain ⟨g1, g2, g3⟩ := hg k hk
    obtain ⟨a1, a2⟩ := isPt_ex hP g1
    obtain ⟨b1, b2⟩ := isPt_ex hP g2
    exact ⟨a1, a2, b1, b2, fun w => g3 (by rw [a1, b1]; exact congrArg lN w)⟩
  obtain ⟨⟨P, V'⟩, ⟨U, W, i1, i2, i3, i4, i5, i6⟩, st⟩ := loopI (σ := Nat × Mem) n (fun k σ => ∃ U W : Nat → Nat, σ.1 ≤ k ∧ TC σ.2 U W σ.1 ∧ (∀ j, j < σ.1 → U j < np ∧ W j < np) ∧ (∀ i j, i < σ.1 → j < σ.1 → eqL (U i) (W i) (U j) (W j) → i = j) ∧ (∀ a b, memP U W a b σ.1 = memP (fun k => toN (V.2 24 s (2 * k))) (fun k => toN (V.2 24 s (2 * k + 1))) a b k) ∧ Fr p26 V σ.2) (fun k σ => sem (d + 1) 123 5 [some (.inr (.inr (0, 0))), some (.inr (.inr (23, s))), some (.inl (nI n)), some (.inl (nI σ.1)), some (.inl (nI k)), none] [] σ.2) (fun k σ hk hI => by
    obtain ⟨P, Z⟩ := σ
    obtain ⟨U, W, i1, i2, i3, i4, i5, i6⟩ := hI
    dsimp only at i1 i2 i3 i4 i5 i6
    obtain ⟨a1, a2, b1, b2, ne⟩ := gd k hk
    have st := e_C_takeTold_5 (d + 1) s (nI n) (nI P) (nI k) Z
    have q1 : (2 * nI k : Int32) = nI (2 * k) := by simp only [fa_lit, pk_mul]
    rw [if_pos (nI_lt (by omega) (by omega)), q1, nI_1, if_neg (nI_in (N := 40) (by omega) (by omega)), if_neg (nI_in (N := 40) (by omega) (by omega)), nI_clamp (by omega), nI_clamp (by omega), i6.2, a1, b1, lN_i, lN_i, shl12 (by omega), shl12 (by omega), nI_or, c_isTold (by omega) i2 (by omega) (by omega) ne, bind_some'] at st
    have mstep : ∀ a b, memP (fun k => toN (V.2 24 s (2 * k))) (fun k => toN (V.2 24 s (2 * k + 1))) a b (k + 1) = (memP U W a b P || decide (eqL (toN (V.2 24 s (2 * k))) (toN (V.2 24 s (2 * k + 1))) a b)) := fun a b => by rw [i5 a b]; rfl
    generalize toN (V.2 24 s (2 * k)) = x at *
    generalize toN (V.2 24 s (2 * k + 1)) = y at *
    by_cases e : memP U W x y P = true
    · rw [bI_t e, if_neg one_ne, e_C_takeTold_61, nI_1] at st
      refine ⟨(P, Z), ⟨U, W, by show P ≤ k + 1; omega, i2, i3, i4, fun a b => ?_, i6⟩, st⟩
      show memP U W a b P = _
      rw [mstep a b]
      by_cases f : eqL x y a b
      · obtain ⟨j, j1, j2⟩ := (memP_iff P).mp e
        rw [(memP_iff P).mpr ⟨j, j1, by omega⟩]; rfl
      · rw [decide_eq_false f, Bool.or_false]
    · rw [bI_f e, if_pos rfl, if_neg (nI_in (N := 20) (by omega) (by omega)), nI_clamp (by omega), e_C_takeTold_61, nI_1, nI_1] at st
      have uo : ∀ j, j < P → updN U P x j = U j := fun j hj => if_neg (by omega)
      have wo : ∀ j, j < P → updN W P y j = W j := fun j hj => if_neg (by omega)
      have un : updN U P x P = x := if_pos rfl
      have wn : updN W P y P = y := if_pos rfl
      have me : ∀ a b m, m ≤ P → memP (updN U P x) (updN W P y) a b m = memP U W a b m := by
        intro a b m
        induction m with
        | zero => intro _; rfl
        | succ m ih2 =>
          intro hm
          show (memP (updN U P x) (updN W P y) a b m || decide (eqL (updN U P x m) (updN W P y m) a b)) = (memP U W a b m || decide (eqL (U m) (W m) a b))
          rw [ih2 (by omega), uo m (by omega), wo m (by omega)]
      refine ⟨(P + 1, (mset Z.1 26 0 P (nI (2 ^ x ||| 2 ^ y)), Z.2)), ⟨updN U P x, updN W P y, by show P + 1 ≤ k + 1; omega, fun j hj => ?_, fun j hj => ?_, fun i j hi hj w => ?_, fun a b => ?_, i6.set rfl⟩, st⟩
      · have hj' : j < P + 1 := hj
        by_cases q : j = P
        · subst q
          rw [un, wn]
          exact ⟨by simp (disch := omega) only [mset_h], by omega, by omega, ne⟩
        · rw [uo j (by omega), wo j (by omega)]
          obtain ⟨t1, t2⟩ := i2 j (by omega)
          exact ⟨by simp (disch := omega) only [mset_n]; exact t1, t2⟩
      · have hj' : j < P + 1 := hj
        by_cases q : j = P
        · subst q
          rw [un, wn]
          exact ⟨a2, b2⟩
        · rw [uo j (by omega), wo j (by omega)]
          exact i3 j (by omega)
      · have hi' : i < P + 1 := hi
        have hj' : j < P + 1 := hj
        by_cases q1 : i = P
        · by_cases q2 : j = P
          · omega
          · subst q1
            rw [un, wn, uo j (by omega), wo j (by omega)] at w
            exact absurd ((memP_iff i).mpr ⟨j, by omega, by omega⟩) e
        · by_cases q2 : j = P
          · subst q2
            rw [un, wn, uo i (by omega), wo i (by omega)] at w
            exact absurd ((memP_iff j).mpr ⟨i, by omega, by omega⟩) e
          · rw [uo i (by omega), wo i (by omega), uo j (by omega), wo j (by omega)] at w
            exact i4 i j (by omega) (by omega) w
      · show (memP (updN U P x) (updN W P y) a b P || decide (eqL (updN U P x P) (updN W P y P) a b)) = _
        rw [mstep a b, me a b P (Nat.le_refl _), un, wn]) (0, V) ⟨fun _ => 0, fun _ => 0, Nat.le_refl _, fun j hj => absurd hj (Nat.not_lt_zero _), fun j hj => absurd hj (Nat.not_lt_zero _), fun i j hi => absurd hi (Nat.not_lt_zero _), fun a b => rfl, Fr.rfl⟩
  refine ⟨V', P, U, W, clI_of ((e_C_takeTold_0 (d + 1) s _ V).trans (Eq.trans st ?_)), i1, i2, i3, i4, i5, i6⟩
  show sem _ _ _ _ _ _ = _
  rw [e_C_takeTold_5, if_neg (nI_nlt (Nat.le_refl _) (by omega))]
theorem bth_le (U W : Nat → Nat) (P : Nat) (f g : Nat → Nat) (n : Nat) : bth U W P f g n ≤ n := by
  induction n with
  | zero => exact Nat.le_refl _
  | succ n ih => show bth U W P f g n + _ ≤ _; split <;> omega
theorem dif_int {P b l u : Nat} (h : u + (b + b) = P + l) : nI P - nI b + nI l - nI b = nI u := by
  have e : ∀ x y z : Int32, x - y + z = x + z - y := fun x y z => by
    rw [Int32.sub_eq_add_neg, Int32.sub_eq_add_neg, Int32.add_assoc, Int32.add_comm (-y) z, ← Int32.add_assoc]
  rw [e, nI_add, pk_sub (by omega), pk_sub (by omega), show P + l - b - b = u by omega]
theorem c_difference {d P x : Nat} {U W : Nat → Nat} {V : Mem} {K : SKY} (hP : P ≤ 20) (h : CS V 0 K) (ok : okK K) (hx : x < kNX K) (ht : TC V U W P) (hu : ∀ j, j < P → U j < kNP K ∧ W j < kNP K) (hd : ∀ i j, i < P → j < P → eqL (U i) (W i) (U j) (W j) → i = j) : clI (d + 2) m_C_differenceFromTold [.inr (.inr (0, 0)), .inr (.inr (5, x)), .inl (nI P)] V = some (nI (unN U W P (kF K x) (kG K x) (kLn K x) (kNP K)), V) := by
  have px := h.p0 hx
  have lx := ok.toL.2.2 x hx
  refine clI_of ((e_C_differenceFromTold_0 (d + 1) x _ V).trans ?_)
  refine loopN (kLn K x) (fun k => sem (d + 1) 126 5 [some (.inr (.inr (0, 0))), some (.inr (.inr (5, x))), some (.inl (nI P)), some (.inl (nI (bth U W P (kF K x) (kG K x) k))), some (.inl (nI k))] [] V) _ (fun k hk => ?_) ?_
  · obtain ⟨f1, f2, f3⟩ := ok.fg hx k hk
    show sem _ _ _ _ _ _ = sem (d + 1) 126 5 [some (.inr (.inr (0, 0))), some (.inr (.inr (5, x))), some (.inl (nI P)), some (.inl (nI (bth U W P (kF K x) (kG K x) k + (if memP U W (kF K x k) (kG K x k) P = true then 1 else 0)))), some (.inl (nI (k + 1)))] [] V
    rw [e_C_differenceFromTold_5, px.2.2.2.1, if_pos (nI_lt hk (by omega)), c_ends px lx hk f1 f2, bind_some', c_isTold hP ht f1 f2 f3, bind_some']
    by_cases e : memP U W (kF K x k) (kG K x k) P = true
    · rw [bI_t e, if_neg one_ne, e_C_differenceFromTold_31, nI_1, nI_1, if_pos e]
    · rw [bI_f e, if_pos rfl, e_C_differenceFromTold_31, nI_1, if_neg e]
      rfl
  · show sem _ _ _ _ _ _ = _
    rw [e_C_differenceFromTold_5, px.2.2.2.1, if_neg (nI_nlt (Nat.le_refl _) (by omega)), dif_int (un_sum (fun j hj => ⟨(hu j hj).1, (hu j hj).2, (ht j hj).2.2.2⟩) hd (ok.fn3 hx) (ok.2.2.2.2 x hx).2.2)]
def bsm (b : Nat → Nat) : Nat → Nat
  | 0 => 0
  | k + 1 => if b (k + 1) < b (bsm b k) then k + 1 else bsm b k
theorem bsm_le (b : Nat → Nat) : ∀ k, bsm b k ≤ k := by
  intro k
  induction k with
  | zero => exact Nat.le_refl _
  | succ k ih => unfold bsm; split <;> omega
theorem un_le {U W f g : Nat → Nat} {P ln N : Nat} (hT : ∀ i, i < P → U i < N ∧ W i < N ∧ U i ≠ W i) (dT : ∀ i j, i < P → j < P → eqL (U i) (W i) (U j) (W j) → i = j) (hL : ∀ i, i < ln → f i < N ∧ g i < N ∧ f i ≠ g i) (dL : ∀ i j, i < ln → j < ln → eqL (f i) (g i) (f j) (g j) → i = j) : unN U W P f g ln N ≤ P + ln := by
  have := un_sum hT dT hL dL
  omega
theorem c_nearest {d P : Nat} {U W : Nat → Nat} {V : Mem} {K : SKY} (hP : P ≤ 20) (h : CS V 0 K) (ok : okK K) (h0 : 0 < kNX K) (ht : TC V U W P) (hu : ∀ j, j < P → U j < kNP K ∧ W j < kNP K) (hd : ∀ i j, i < P → j < P → eqL (U i) (W i) (U j) (W j) → i = j) : clI (d + 3) m_C_nearestToTold [.inr (.inr (0, 0)), .inl (nI P)] V = some (nI (bsm (fun x => unN U W P (kF K x) (kG K x) (kLn K x) (kNP K)) (kNX K - 1)), V) := by
  have hX := ok.2.1
  have bd : ∀ x, x < kNX K → unN U W P (kF K x) (kG K x) (kLn K x) (kNP K) ≤ 30 := fun x hx => by
    have := un_le (fun j hj => ⟨(hu j hj).1, (hu j hj).2, (ht j hj).2.2.2⟩) hd (ok.fn3 hx) (ok.2.2.2.2 x hx).2.2
    have := ok.toL.2.2 x hx
    omega
  refine clI_of ((e_C_nearestToTold_0 (d + 2) _ V).trans ?_)
  rw [c_difference hP h ok h0 ht hu hd, bind_some']
  have main : ∀ m k, k + 1 + m = kNX K → sem (d + 2) 125 20 [some (.inr (.inr (0, 0))), some (.inl (nI P)), some (.inl (nI (bsm (fun x => unN U W P (kF K x) (kG K x) (kLn K x) (kNP K)) k))), some (.inl (nI (unN U W P (kF K (bsm (fun x => unN U W P (kF K x) (kG K x) (kLn K x) (kNP K)) k)) (kG K (bsm (fun x => unN U W P (kF K x) (kG K x) (kLn K x) (kNP K)) k)) (kLn K (bsm (fun x => unN U W P (kF K x) (kG K x) (kLn K x) (kNP K)) k)) (kNP K)))), some (.inl (nI (k + 1))), none] [] V = some (some (.inl (nI (bsm (fun x => unN U W P (kF K x) (kG K x) (kLn K x) (kNP K)) (kNX K - 1)))), V) := by
    intro m
    induction m with
    | zero =>
      intro k hk
      rw [e_C_nearestToTold_20, h.1.2.1, if_neg (nI_nlt (by omega) (by omega)), show kNX K - 1 = k by omega]
    | succ m ih =>
      intro k hk
      have bl := bsm_le (fun x => unN U W P (kF K x) (kG K x) (kLn K x) (kNP K)) k
      have b1 := bd (k + 1) (by omega)
      have b2 := bd (bsm (fun x => unN U W P (kF K x) (kG K x) (kLn K x) (kNP K)) k) (by omega)
      refine Eq.trans ?_ (ih (k + 1) (by omega))
      rw [e_C_nearestToTold_20, h.1.2.1, if_pos (nI_lt (by omega) (by omega)), if_neg (nI_in (N := 6) (by omega) (by omega)), nI_clamp (by omega), c_difference hP h ok (show k + 1 < kNX K by omega) ht hu hd, bind_some']
      by_cases e : unN U W P (kF K (k + 1)) (kG K (k + 1)) (kLn K (k + 1)) (kNP K) < unN U W P (kF K (bsm (fun x => unN U W P (kF K x) (kG K x) (kLn K x) (kNP K)) k)) (kG K (bsm (fun x => unN U W P (kF K x) (kG K x) (kLn K x) (kNP K)) k)) (kLn K (bsm (fun x => unN U W P (kF K x) (kG K x) (kLn K x) (kNP K)) k)) (kNP K)
      · have be : bsm (fun x => unN U W P (kF K x) (kG K x) (kLn K x) (kNP K)) (k + 1) = k + 1 := if_pos e
        rw [if_pos (nI_lt e (by omega)), e_C_nearestToTold_61, nI_1, be]
      · have be : bsm (fun x => unN U W P (kF K x) (kG K x) (kLn K x) (kNP K)) (k + 1) = bsm (fun x => unN U W P (kF K x) (kG K x) (kLn K x) (kNP K)) k := if_neg e
        rw [if_neg (nI_nlt (by omega) (by omega)), e_C_nearestToTold_61, nI_1, be]
  exact main (kNX K - 1) 0 (by omega)
