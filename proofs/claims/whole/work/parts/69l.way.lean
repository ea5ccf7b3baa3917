/-! FRAMES; the bonds; way -/
def Fr (P : Nat → Nat → Nat → Prop) (V V' : Mem) : Prop := (∀ t i k, ¬ P t i k → V'.1 t i k = V.1 t i k) ∧ V'.2 = V.2
theorem Fr.rfl {P : Nat → Nat → Nat → Prop} {V : Mem} : Fr P V V := ⟨fun _ _ _ _ => Eq.refl _, Eq.refl _⟩
theorem Fr.trans {P : Nat → Nat → Nat → Prop} {V V' V'' : Mem} (h : Fr P V V') (h' : Fr P V' V'') : Fr P V V'' := ⟨fun t i k q => (h'.1 t i k q).trans (h.1 t i k q), h'.2.trans h.2⟩
theorem Fr.set {P : Nat → Nat → Nat → Prop} {V V' : Mem} {t i k : Nat} {x : Int32} (h : Fr P V V') (ht : P t i k) : Fr P V (mset V'.1 t i k x, V'.2) := ⟨fun t' i' k' q => by
  show mset V'.1 t i k x t' i' k' = _
  rw [mset_n (fun w => q (by obtain ⟨rfl, rfl, rfl⟩ := w; exact ht))]
  exact h.1 t' i' k' q, h.2⟩
theorem Fr.mono {P Q : Nat → Nat → Nat → Prop} {V V' : Mem} (h : Fr P V V') (hq : ∀ t i k, P t i k → Q t i k) : Fr Q V V' := ⟨fun t i k q => h.1 t i k (fun w => q (hq t i k w)), h.2⟩
theorem Fr.cor {P : Nat → Nat → Nat → Prop} {V V' : Mem} (h : Fr P V V') (hp : ∀ t i k, P t i k → ¬ core t i k) : Cor V V' := fun t i k q => ⟨h.1 t i k (fun w => hp t i k w q), by rw [h.2]⟩
theorem CS.fr {P : Nat → Nat → Nat → Prop} {s : Nat} {V V' : Mem} {K : SKY} (h : CS V s K) (ok : okK K) (c : Fr P V V') (hp : ∀ t i k, P t i k → ¬ (((t = 1 ∨ t = 2 ∨ t = 3) ∧ i = s) ∨ ((t = 5 ∨ t = 6 ∨ t = 7) ∧ 6 * s ≤ i ∧ i < 6 * s + 6))) : CS V' s K := h.frame ok.2.1 (fun t i k q => c.1 t i k (fun w => hp t i k w q))
theorem MS.fr {P : Nat → Nat → Nat → Prop} {V V' : Mem} {t o : Nat} {K : SKY} (h : MS V t o K) (c : Fr P V V') (ht : ∀ k, ¬ P t 0 k) : MS V' t o K := h.same (funext fun k => c.1 t 0 k (ht k))
abbrev pB (t _i _k : Nat) : Prop := t = 18 ∨ t = 19
def bes (K : SKY) (x y : Nat) : Bool := !(Nat.beq (bm (kNP K) (kW K x) &&& bm (kNP K) (kW K y)) 0)
theorem bes_comm (K : SKY) (x y : Nat) : bes K x y = bes K y x := by unfold bes; rw [Nat.and_comm]
theorem bes_t {K : SKY} {x y : Nat} : bes K x y = true ↔ ¬ (bm (kNP K) (kW K x) &&& bm (kNP K) (kW K y)) = 0 := by
  unfold bes
  rw [Bool.not_eq_true', ← Bool.not_eq_true, Nat.beq_eq]
def nearN (K : SKY) (p : Nat) : Nat := bm (kNX K) (fun q => !(Nat.beq p q) && bes K p q)
theorem near_lt {K : SKY} (ok : okK K) (p : Nat) : nearN K p < 64 := by
  have l := bm_lt (kNX K) (fun q => !(Nat.beq p q) && bes K p q)
  have l2 : 2 ^ kNX K ≤ 2 ^ 6 := Nat.pow_le_pow_right (by omega) ok.2.1
  unfold nearN
  omega
theorem wish_lt {K : SKY} (ok : okK K) (x : Nat) : bm (kNP K) (kW K x) < 4096 := by
  have l := bm_lt (kNP K) (kW K x)
  have l2 : 2 ^ kNP K ≤ 2 ^ 12 := Nat.pow_le_pow_right (by omega) ok.1
  omega
theorem bm_or {n : Nat} {f : Nat → Bool} (h : f n = true) : bm n f ||| 2 ^ n = bm (n + 1) f := by
  apply Nat.eq_of_testBit_eq
  intro k
  rw [Nat.testBit_or, Nat.testBit_two_pow, bm_test, bm_test]
  by_cases e2 : k = n
  · subst e2; simp [h]
  · have e3 : ¬ n = k := fun w => e2 w.symm
    by_cases e4 : k < n
    · have : k < n + 1 := by omega
      simp [e3, e4, this]
    · have : ¬ k < n + 1 := by omega
      simp [e3, e4, this]
theorem c_bfind {d : Nat} {V : Mem} {K : SKY} (h : CS V 0 K) (ok : okK K) : ∃ V', clV (d + 1) m_Bonds_find [.inr (.inr (17, 0)), .inr (.inr (1, 0))] V = some V' ∧ (∀ p, p < kNX K → V'.1 18 0 p = nI (nearN K p)) ∧ Fr pB V V' := by
  have hX := ok.2.1
  obtain ⟨V', ⟨v1, v2⟩, v3⟩ := loopI (kNX K) (fun k W => (∀ p, p < k → W.1 18 0 p = nI (nearN K p)) ∧ Fr pB V W) (fun k W => sem d 0 2 [some (.inr (.inr (17, 0))), some (.inr (.inr (1, 0))), some (.inl (nI k)), none, none] [] W) (fun p W hp hW => by
    obtain ⟨w1, w2⟩ := hW
    have cs : CS W 0 K := h.fr ok w2 (by unfold pB; omega)
    have st := e_Bonds_find_2 d 0 (nI p) W
    rw [cs.1.2.1, if_pos (nI_lt hp (by omega)), if_neg (nI_in (N := 6) (by omega) (by omega)), nI_clamp (by omega)] at st
    obtain ⟨W', ⟨u1, u2, u3⟩, u4⟩ := loopI (kNX K) (fun q U => U.1 18 0 p = nI (bm q (fun q => !(Nat.beq p q) && bes K p q)) ∧ (∀ q, q < p → U.1 18 0 q = nI (nearN K q)) ∧ Fr pB V U) (fun q U => sem d 0 19 [some (.inr (.inr (17, 0))), some (.inr (.inr (1, 0))), some (.inl (nI p)), some (.inl (nI q)), none] [] U) (fun q U hq hU => by
      obtain ⟨q1, q2, q3⟩ := hU
      have cu : CS U 0 K := h.fr ok q3 (by unfold pB; omega)
      have P1 := (cu.2.2 p hp).2.2.1
      have P2 := (cu.2.2 q hq).2.2.1
      have l1 := wish_lt ok p
      have l2 : bm (kNP K) (kW K p) &&& bm (kNP K) (kW K q) ≤ bm (kNP K) (kW K p) := Nat.and_le_left
      have sq := e_Bonds_find_19 d 0 (nI p) (nI q) U
      rw [cu.1.2.1, if_pos (nI_lt hq (by omega)), if_neg (nI_in (N := 6) (by omega) (by omega)), if_neg (nI_in (N := 6) (by omega) (by omega)), nI_clamp (by omega), nI_clamp (by omega), P1, P2, nI_and] at sq
      by_cases e : p = q
      · subst e
        rw [e_Bonds_find_54, if_pos rfl, e_Bonds_find_54, if_pos rfl, e_Bonds_find_78, e_Bonds_find_78, nI_1] at sq
        refine ⟨U, ⟨?_, q2, q3⟩, ?_⟩
        · rw [q1, bm_more]
          simp
        · show sem _ _ _ _ _ _ = sem _ _ _ _ _ _
          rw [sq]
          split <;> rfl
      · have ne : ¬ nI p = nI q := fun w => e ((nI_eq (by omega) (by omega)).mp w)
        have nb : Nat.beq p q = false := by rw [Bool.eq_false_iff]; intro w; rw [Nat.beq_eq] at w; exact e w
        by_cases b : bes K p q = true
        · rw [if_neg (nI_ne0 (by have := bes_t.mp b; omega) (by omega)), e_Bonds_find_54, if_neg ne, if_neg one_ne, if_neg (nI_in (N := 6) (by omega) (by omega)), if_neg (nI_in (N := 6) (by omega) (by omega)), e_Bonds_find_78, nI_1, nI_clamp (by omega), q1, shl12 (by omega), nI_or] at sq
          refine ⟨_, ⟨?_, fun y hy => ?_, q3.set (Or.inl rfl)⟩, sq⟩
          · simp (disch := omega) only [mset_h]
            rw [bm_or (by simp [nb, b])]
          · simp (disch := omega) only [mset_n]
            exact q2 y hy
        · rw [if_pos (show nI (bm (kNP K) (kW K p) &&& bm (kNP K) (kW K q)) = 0 by
            have : bm (kNP K) (kW K p) &&& bm (kNP K) (kW K q) = 0 := Classical.byContradiction (fun w => b (bes_t.mpr w))
            rw [this]; rfl), e_Bonds_find_54, if_neg ne, if_pos rfl, e_Bonds_find_78, nI_1] at sq
          refine ⟨U, ⟨?_, q2, q3⟩, sq⟩
          rw [q1, bm_more]
          simp [b]) (mset W.1 18 0 p 0, W.2) ⟨by simp (disch := omega) only [mset_h]; rfl, fun q hq => by simp (disch := omega) only [mset_n]; exact w1 q hq, w2.set (Or.inl rfl)⟩
    have cu : CS W' 0 K := h.fr ok u3 (by unfold pB; omega)
    refine ⟨W', ⟨fun q hq => ?_, u3⟩, ?_⟩
    · by_cases e : q = p
      · subst e; exact u1
      · exact u2 q (by omega)
    · refine st.trans (u4.trans ?_)
      show sem _ _ _ _ _ _ = sem _ _ _ _ _ _
      rw [e_Bonds_find_19, cu.1.2.1, if_neg (nI_nlt (Nat.le_refl _) (by omega)), nI_1]) V ⟨fun p hp => by omega, Fr.rfl⟩
  refine ⟨V', clV_of ((e_Bonds_find_0 d 0 V).trans (v3.trans ?_)), v1, v2⟩
  have cu : CS V' 0 K := h.fr ok v2 (by unfold pB; omega)
  show sem _ _ _ _ _ _ = _
  rw [e_Bonds_find_2, cu.1.2.1, if_neg (nI_nlt (Nat.le_refl _) (by omega))]
theorem bitAt6 {m p : Nat} (hm : m < 2 ^ 31) (hp : p < 6) : (nI m >>> (nI p &&& 31)) &&& 1 = bI (m.testBit p = true) := bitAt hm (by omega)
def arN (K : SKY) (r : Nat) : Nat → Nat
  | 0 => 0
  | k + 1 => if r.testBit k = true then arN K r k ||| nearN K k else arN K r k
theorem c_around {d r : Nat} {V : Mem} {K : SKY} (ok : okK K) (hr : r < 2 ^ kNX K) (h : ∀ p, p < kNX K → V.1 18 0 p = nI (nearN K p)) : clI (d + 1) m_Bonds_around [.inr (.inr (17, 0)), .inl (nI r)] V = some (nI (arN K r 6), V) := by
  have hX := ok.2.1
  have l2 : 2 ^ kNX K ≤ 2 ^ 6 := Nat.pow_le_pow_right (by omega) hX
  refine clI_of ((e_Bonds_around_0 d _ V).trans ?_)
  refine loopN 6 (fun k => sem d 4 4 [some (.inr (.inr (17, 0))), some (.inl (nI r)), some (.inl (nI (arN K r k))), some (.inl (nI k))] [] V) _ (fun k hk => ?_) ?_
  · show sem _ _ _ _ _ _ = sem d 4 4 [some (.inr (.inr (17, 0))), some (.inl (nI r)), some (.inl (nI (if r.testBit k = true then arN K r k ||| nearN K k else arN K r k))), some (.inl (nI (k + 1)))] [] V
    rw [e_Bonds_around_4, if_pos (show nI k < 6 from nI_lt (b := 6) hk (by omega)), bitAt6 (by omega) hk]
    by_cases e : r.testBit k = true
    · have hk2 : k < kNX K := Nat.lt_of_not_le (fun w => by
        rw [Nat.testBit_lt_two_pow (Nat.lt_of_lt_of_le hr (Nat.pow_le_pow_right (by omega) w))] at e
        exact absurd e (by simp))
      rw [bI_t e, if_neg one_ne, if_neg (nI_in (N := 6) (by omega) (by omega)), nI_clamp (by omega), h k hk2, nI_or, e_Bonds_around_27, nI_1, if_pos e]
    · rw [bI_f e, if_pos rfl, e_Bonds_around_27, nI_1, if_neg e]
  · show sem _ _ _ _ _ _ = _
    rw [e_Bonds_around_4, if_neg (by decide)]
theorem arN_test (K : SKY) (r q : Nat) : ∀ n, (arN K r n).testBit q = true ↔ ∃ p, p < n ∧ r.testBit p = true ∧ (nearN K p).testBit q = true := by
  intro n
  induction n with
  | zero =>
    constructor
    · intro w; unfold arN at w; rw [Nat.zero_testBit] at w; exact absurd w (by simp)
    · rintro ⟨p, hp, _⟩; omega
  | succ n ih =>
    unfold arN
    by_cases e : r.testBit n = true
    · rw [if_pos e, Nat.testBit_or, Bool.or_eq_true, ih]
      constructor
      · rintro (⟨p, h1, h2⟩ | h)
        · exact ⟨p, by omega, h2⟩
        · exact ⟨n, by omega, e, h⟩
      · rintro ⟨p, h1, h2, h3⟩
        by_cases w : p = n
        · subst w; exact Or.inr h3
        · exact Or.inl ⟨p, by omega, h2, h3⟩
    · rw [if_neg e, ih]
      constructor
      · rintro ⟨p, h1, h2⟩; exact ⟨p, by omega, h2⟩
      · rintro ⟨p, h1, h2, h3⟩
        by_cases w : p = n
        · subst w; exact absurd h2 e
        · exact ⟨p, by omega, h2, h3⟩
def wdY (K : SKY) (r x w : Nat) : Nat → Nat
  | 0 => w
  | y + 1 => if r.testBit x = true ∧ bes K x y = true then wdY K r x w y ||| 2 ^ y else wdY K r x w y
def wdX (K : SKY) (r : Nat) : Nat → Nat
  | 0 => r
  | x + 1 => wdY K r x (wdX K r x) (kNX K)
theorem wdY_test (K : SKY) (r x w q : Nat) : ∀ n, (wdY K r x w n).testBit q = true ↔ w.testBit q = true ∨ (q < n ∧ r.testBit x = true ∧ bes K x q = true) := by
  intro n
  induction n with
  | zero => unfold wdY; simp
  | succ n ih =>
    unfold wdY
    by_cases e : r.testBit x = true ∧ bes K x n = true
    · rw [if_pos e, Nat.testBit_or, Bool.or_eq_true, ih, Nat.testBit_two_pow]
      constructor
      · rintro ((h | h) | h)
        · exact Or.inl h
        · exact Or.inr ⟨by omega, h.2⟩
        · have h' : n = q := by simpa using h
          subst h'
          exact Or.inr ⟨by omega, e⟩
      · rintro (h | h)
        · exact Or.inl (Or.inl h)
        · by_cases w : q = n
          · subst w; exact Or.inr (by simp)
          · exact Or.inl (Or.inr ⟨by omega, h.2⟩)
    · rw [if_neg e, ih]
      constructor
      · rintro (h | h)
        · exact Or.inl h
        · exact Or.inr ⟨by omega, h.2⟩
      · rintro (h | h)
        · exact Or.inl h
        · by_cases w : q = n
          · subst w; exact absurd h.2 e
          · exact Or.inr ⟨by omega, h.2⟩
theorem wdX_test (K : SKY) (r q : Nat) : ∀ n, (wdX K r n).testBit q = true ↔ r.testBit q = true ∨ ∃ x, x < n ∧ q < kNX K ∧ r.testBit x = true ∧ bes K x q = true := by
  intro n
  induction n with
  | zero =>
    unfold wdX
    constructor
    · exact Or.inl
    · rintro (h | ⟨x, hx, _⟩)
      · exact h
      · omega
  | succ n ih =>
    unfold wdX
    rw [wdY_test, ih]
    constructor
    · rintro ((h | ⟨x, h1, h2⟩) | h)
      · exact Or.inl h
      · exact Or.inr ⟨x, by omega, h2⟩
      · exact Or.inr ⟨n, by omega, h⟩
    · rintro (h | ⟨x, h1, h2⟩)
      · exact Or.inl (Or.inl h)
      · by_cases w : x = n
        · subst w; exact Or.inr h2
        · exact Or.inl (Or.inr ⟨x, by omega, h2⟩)
theorem wd_ar {K : SKY} (ok : okK K) {r : Nat} (hr : r < 2 ^ kNX K) : wdX K r (kNX K) = r ||| arN K r 6 := by
  have hX := ok.2.1
  apply Nat.eq_of_testBit_eq
  intro q
  rw [Bool.eq_iff_iff, wdX_test, Nat.testBit_or, Bool.or_eq_true, arN_test]
  constructor
  · rintro (h | ⟨x, h1, h2, h3, h4⟩)
    · exact Or.inl h
    · by_cases e : x = q
      · subst e; exact Or.inl h3
      · refine Or.inr ⟨x, by omega, h3, ?_⟩
        have nb : Nat.beq x q = false := by rw [Bool.eq_false_iff]; intro w; rw [Nat.beq_eq] at w; exact e w
        unfold nearN
        rw [bm_test]
        simp [h2, nb, h4]
  · rintro (h | ⟨p, h1, h2, h3⟩)
    · exact Or.inl h
    · have hp : p < kNX K := Nat.lt_of_not_le (fun w => by
        rw [Nat.testBit_lt_two_pow (Nat.lt_of_lt_of_le hr (Nat.pow_le_pow_right (by omega) w))] at h2
        exact absurd h2 (by simp))
      unfold nearN at h3
      rw [bm_test] at h3
      simp at h3
      exact Or.inr ⟨p, hp, h3.1, h2, h3.2.2⟩
theorem wdX_lt {K : SKY} (ok : okK K) {r : Nat} (hr : r < 2 ^ kNX K) : r ||| arN K r 6 < 2 ^ kNX K := by
  refine Nat.or_lt_two_pow hr (Nat.lt_of_not_le (fun w => ?_))
  obtain ⟨i, hi, h⟩ := Nat.exists_ge_and_testBit_of_ge_two_pow w
  obtain ⟨p, h1, h2, h3⟩ := (arN_test K r i 6).mp h
  unfold nearN at h3
  rw [bm_test] at h3
  simp at h3
  omega
def wyS (K : SKY) (to : Nat) : Nat → Nat → Nat → Int32
  | 0, _, _ => -1
  | m + 1, s, r => if r.testBit to = true then nI s else wyS K to m (s + 1) (r ||| arN K r 6)
theorem c_steps {d x y : Nat} {V : Mem} {K : SKY} (h : CS V 0 K) (ok : okK K) (hx : x < kNX K) (hy : y < kNX K) : ∃ V', clI (d + 2) m_Bonds_steps [.inr (.inr (17, 0)), .inr (.inr (1, 0)), .inl (nI x), .inl (nI y)] V = some (wyS K y 6 0 (2 ^ x), V') ∧ Fr pB V V' := by
  have hX := ok.2.1
  have l2 : 2 ^ kNX K ≤ 2 ^ 6 := Nat.pow_le_pow_right (by omega) hX
  obtain ⟨V', v1, v2, v3⟩ := c_bfind (d := d) h ok
  refine ⟨V', clI_of ((e_Bonds_steps_0 (d + 1) 0 _ _ V).trans ?_), v3⟩
  rw [v1, bind_some', shl12 (by omega)]
  have main : ∀ m s r, s + m = 6 → r < 2 ^ kNX K → sem (d + 1) 3 13 [some (.inr (.inr (17, 0))), some (.inr (.inr (1, 0))), some (.inl (nI x)), some (.inl (nI y)), some (.inl (nI r)), some (.inl (nI s))] [] V' = some (some (.inl (wyS K y m s r)), V') := by
    intro m
    induction m with
    | zero =>
      intro s r hs hr
      obtain rfl : s = 6 := by omega
      rw [e_Bonds_steps_13, if_neg (by decide)]
      rfl
    | succ m ih =>
      intro s r hs hr
      rw [e_Bonds_steps_13, if_pos (show nI s < 6 from nI_lt (b := 6) (by omega) (by omega)), bitAt6 (by omega) (by omega)]
      by_cases e : r.testBit y = true
      · rw [bI_t e, if_neg one_ne]
        show _ = some (some (Sum.inl (if r.testBit y = true then nI s else _)), V')
        rw [if_pos e]
      · rw [bI_f e, if_pos rfl, c_around ok hr v2, bind_some', nI_or, nI_1, ih (s + 1) _ (by omega) (wdX_lt ok hr)]
        show _ = some (some (Sum.inl (if r.testBit y = true then nI s else _)), V')
        rw [if_neg e]
  exact main 6 0 (2 ^ x) (by omega) (Nat.pow_lt_pow_right (by omega) hx)
theorem c_M_isBeside {d x y : Nat} {V : Mem} {K : SKY} (h : MS V 32 0 K) (ok : okK K) (hx : x < kNX K) (hy : y < kNX K) : clI (d + 4) m_M_isBeside [.inr (.inr (30, 0)), .inl (nI x), .inl (nI y)] V = some (bI (bes K x y = true), V) := by
  have l1 := wish_lt ok x
  have l2 : bm (kNP K) (kW K x) &&& bm (kNP K) (kW K y) ≤ bm (kNP K) (kW K x) := Nat.and_le_left
  refine clI_of ((e_M_isBeside_0 (d + 3) _ _ V).trans ?_)
  rw [c_M_wish h ok hx, bind_some', c_M_wish h ok hy, bind_some', nI_and]
  by_cases b : bes K x y = true
  · rw [if_neg (nI_ne0 (by have := bes_t.mp b; omega) (by omega)), bI_t b]
  · rw [if_pos (show nI (bm (kNP K) (kW K x) &&& bm (kNP K) (kW K y)) = 0 by
      have : bm (kNP K) (kW K x) &&& bm (kNP K) (kW K y) = 0 := Classical.byContradiction (fun w => b (bes_t.mpr w))
      rw [this]; rfl), bI_f b]
theorem c_M_way {d x y : Nat} {V : Mem} {K : SKY} (h : MS V 32 0 K) (ok : okK K) (hx : x < kNX K) (hy : y < kNX K) : sem (d + 4) 197 30 [some (.inr (.inr (30, 0))), some (.inl (nI x)), some (.inl (nI y)), some (.inl (nI (2 ^ x))), some (.inl 0), none, none, none] [] V = some (some (.inl (wyS K y 6 0 (2 ^ x))), V) := by
  have hX := ok.2.1
  have l2 : 2 ^ kNX K ≤ 2 ^ 6 := Nat.pow_le_pow_right (by omega) hX
  have main : ∀ m s r, s + m = 6 → r < 2 ^ kNX K → sem (d + 4) 197 30 [some (.inr (.inr (30, 0))), some (.inl (nI x)), some (.inl (nI y)), some (.inl (nI r)), some (.inl (nI s)), none, none, none] [] V = some (some (.inl (wyS K y m s r)), V) := by
    intro m
    induction m with
    | zero =>
      intro s r hs hr
      obtain rfl : s = 6 := by omega
      rw [e_M_way_30, if_neg (by decide)]
      rfl
    | succ m ih =>
      intro s r hs hr
      have inner : ∀ u, u < kNX K → sem (d + 4) 197 71 [some (.inr (.inr (30, 0))), some (.inl (nI x)), some (.inl (nI y)), some (.inl (nI r)), some (.inl (nI s)), some (.inl (nI (wdX K r u))), some (.inl (nI u)), some (.inl 0)] [] V = sem (d + 4) 197 55 [some (.inr (.inr (30, 0))), some (.inl (nI x)), some (.inl (nI y)), some (.inl (nI r)), some (.inl (nI s)), some (.inl (nI (wdX K r (u + 1)))), some (.inl (nI (u + 1))), none] [] V := by
        intro u hu
        refine loopN (kNX K) (fun k => sem (d + 4) 197 71 [some (.inr (.inr (30, 0))), some (.inl (nI x)), some (.inl (nI y)), some (.inl (nI r)), some (.inl (nI s)), some (.inl (nI (wdY K r u (wdX K r u) k))), some (.inl (nI u)), some (.inl (nI k))] [] V) _ (fun k hk => ?_) ?_
        · show sem _ _ _ _ _ _ = sem (d + 4) 197 71 [some (.inr (.inr (30, 0))), some (.inl (nI x)), some (.inl (nI y)), some (.inl (nI r)), some (.inl (nI s)), some (.inl (nI (if r.testBit u = true ∧ bes K u k = true then wdY K r u (wdX K r u) k ||| 2 ^ k else wdY K r u (wdX K r u) k))), some (.inl (nI u)), some (.inl (nI (k + 1)))] [] V
          rw [e_M_way_71, h.nx, if_pos (nI_lt hk (by omega)), bitAt6 (by omega) (by omega)]
          by_cases a : r.testBit u = true
          · rw [bI_t a, if_pos rfl, c_M_isBeside h ok hu hk, bind_some']
            by_cases b : bes K u k = true
            · rw [bI_t b, if_neg one_ne, e_M_way_115, shl12 (by omega), nI_or, nI_1, if_pos ⟨a, b⟩]
            · rw [bI_f b, if_pos rfl, e_M_way_114, e_M_way_115, show (0 : Int32) = nI 0 from rfl, nI_or, Nat.or_zero, nI_1, if_neg (fun w => b w.2)]
          · rw [bI_f a, if_neg (by decide), e_M_way_114, e_M_way_115, show (0 : Int32) = nI 0 from rfl, nI_or, Nat.or_zero, nI_1, if_neg (fun w => a w.1)]
        · show sem _ _ _ _ _ _ = _
          rw [e_M_way_71, h.nx, if_neg (nI_nlt (Nat.le_refl _) (by omega)), nI_1]
          rfl
      have wide : sem (d + 4) 197 55 [some (.inr (.inr (30, 0))), some (.inl (nI x)), some (.inl (nI y)), some (.inl (nI r)), some (.inl (nI s)), some (.inl (nI r)), some (.inl 0), none] [] V = sem (d + 4) 197 30 [some (.inr (.inr (30, 0))), some (.inl (nI x)), some (.inl (nI y)), some (.inl (nI (wdX K r (kNX K)))), some (.inl (nI (s + 1))), none, none, none] [] V := by
        refine loopN (kNX K) (fun k => sem (d + 4) 197 55 [some (.inr (.inr (30, 0))), some (.inl (nI x)), some (.inl (nI y)), some (.inl (nI r)), some (.inl (nI s)), some (.inl (nI (wdX K r k))), some (.inl (nI k)), none] [] V) _ (fun k hk => ?_) ?_
        · show sem _ _ _ _ _ _ = sem _ _ _ _ _ _
          rw [e_M_way_55, h.nx, if_pos (nI_lt hk (by omega)), inner k hk]
        · show sem _ _ _ _ _ _ = _
          rw [e_M_way_55, h.nx, if_neg (nI_nlt (Nat.le_refl _) (by omega)), nI_1]
      rw [e_M_way_30, if_pos (show nI s < 6 from nI_lt (b := 6) (by omega) (by omega)), bitAt6 (by omega) (by omega)]
      by_cases e : r.testBit y = true
      · rw [bI_t e, if_pos rfl]
        show _ = some (some (Sum.inl (if r.testBit y = true then nI s else _)), V)
        rw [if_pos e]
      · rw [bI_f e, if_neg (by decide), wide, wd_ar ok hr, ih (s + 1) _ (by omega) (wdX_lt ok hr)]
        show _ = some (some (Sum.inl (if r.testBit y = true then nI s else _)), V)
        rw [if_neg e]
  exact main 6 0 (2 ^ x) (by omega) (Nat.pow_lt_pow_right (by omega) hx)
theorem pm_way (SL : Nat) (xs : Nat → Int32) (a1 : Int32) (a2 : Int32) : PMI SL xs m_C_way m_M_way [.inl a1, .inl a2] := by
  intro V h
  obtain ⟨K, k1, k2, k3, k4⟩ := h.1
  have hX := k1.2.1
  by_cases B : inR (kNX K) a1 ∧ inR (kNX K) a2
  · obtain ⟨x, hx, rfl⟩ := (ix_or a1 (n := kNX K) (by omega)).resolve_left (fun w => w B.1)
    obtain ⟨y, hy, rfl⟩ := (ix_or a2 (n := kNX K) (by omega)).resolve_left (fun w => w B.2)
    obtain ⟨V1, v1, v2⟩ := c_steps (d := 27) k2 k1 hx hy
    have m1 : MS V1 32 0 K := k3.fr v2 (by unfold pB; omega)
    refine PM_cor h (V1 := V1) (V2 := V1) (r := wyS K y 6 0 (2 ^ x)) (clI_of ((e_C_way_0 29 _ _ V).trans ?_)) (v2.cor (by unfold pB core; omega)) (clI_of ((e_M_way_0 29 _ _ _).trans ?_)) Cor.rfl
    · rw [c_C_isParish, bind_some', k2.1.2.1, bI_t B.1, if_neg one_ne, c_C_isParish, bind_some', k2.1.2.1, bI_t B.2, if_neg one_ne, v1, bind_some']
    · rw [c_M_isParish (by omega) _ m1.nx, bind_some', bI_t B.1, if_neg one_ne, c_M_isParish (by omega) _ m1.nx, bind_some', bI_t B.2, if_neg one_ne, shl12 (by omega)]
      exact c_M_way (d := 25) m1 k1 hx hy
  · refine ⟨-2, CRf V 0, MRf (CRf V 0) 0, clI_of ((e_C_way_0 29 a1 a2 V).trans ?_), h.vok.crf 0, clI_of ((e_M_way_0 29 a1 a2 _).trans ?_), h.ref (by omega)⟩
    · rw [c_C_isParish, bind_some', k2.1.2.1]
      by_cases b1 : inR (kNX K) a1
      · rw [bI_t b1, if_neg one_ne, c_C_isParish, bind_some', k2.1.2.1, bI_f (fun w => B ⟨b1, w⟩), if_pos rfl, e_C_way_16, c_C_ref2, bind_some']
      · rw [bI_f b1, if_pos rfl, e_C_way_16, c_C_ref2, bind_some']
    · rw [c_M_isParish (by omega) _ (k3.crf 0).nx, bind_some']
      by_cases b1 : inR (kNX K) a1
      · rw [bI_t b1, if_neg one_ne, c_M_isParish (by omega) _ (k3.crf 0).nx, bind_some', bI_f (fun w => B ⟨b1, w⟩), if_pos rfl, e_M_way_16, c_M_ref2, bind_some']
      · rw [bI_f b1, if_pos rfl, e_M_way_16, c_M_ref2, bind_some']
