/-! line, drop -/
theorem c_wantsPair {d j ki a ln : Nat} {f g : Nat → Nat} {V : Mem} {n : Nat} {w : Nat → Bool} (h : CPar V j ki a (bm n w) ln f g) (hn : n ≤ 12) {p q : Nat} (hp : p < n) (hq : q < n) : clI (d + 1) m_Parish_wantsAll [.inr (.inr (5, j)), .inl (nI (2 ^ p ||| 2 ^ q))] V = some (bI (w p = true ∧ w q = true), V) := by
  apply clI_of
  refine (e_Parish_wantsAll_0 d j _ V).trans ?_
  have l1 := bm_lt n w
  have l0 : 2 ^ n ≤ 2 ^ 12 := Nat.pow_le_pow_right (by omega) hn
  have l2 := por_lt (a := p) (b := q) (by omega) (by omega)
  have l3 : bm n w &&& (2 ^ p ||| 2 ^ q) ≤ 2 ^ p ||| 2 ^ q := Nat.and_le_right
  have key : (nI (bm n w) &&& nI (2 ^ p ||| 2 ^ q) = nI (2 ^ p ||| 2 ^ q)) ↔ (w p = true ∧ w q = true) := by
    rw [nI_and, nI_eq (by omega) (by omega)]
    constructor
    · intro e
      have t : ∀ k, ((bm n w).testBit k && (decide (p = k) || decide (q = k))) = (decide (p = k) || decide (q = k)) := fun k => by
        have := congrArg (fun z => z.testBit k) e
        simpa only [Nat.testBit_and, Nat.testBit_or, Nat.testBit_two_pow] using this
      have tp := t p
      have tq := t q
      rw [bm_test] at tp tq
      simp [hp] at tp
      simp [hq] at tq
      exact ⟨tp, tq⟩
    · rintro ⟨e1, e2⟩
      apply Nat.eq_of_testBit_eq
      intro k
      rw [Nat.testBit_and, Nat.testBit_or, Nat.testBit_two_pow, Nat.testBit_two_pow, bm_test]
      by_cases a1 : p = k
      · subst a1; simp [hp, e1]
      · by_cases a2 : q = k
        · subst a2; simp [hq, e2]
        · simp [a1, a2]
  rw [h.2.2.1]
  by_cases e : w p = true ∧ w q = true
  · rw [if_pos (key.mpr e), bI_t e]
  · rw [if_neg (fun z => e (key.mp z)), bI_f e]
theorem shr1 : ∀ x, x < 6 → ∀ m, m < 64 → ((nI m >>> (nI x &&& 31)) &&& 1 = 1) = (m.testBit x = true) := by decide +kernel
theorem c_M_isWanted {d : Nat} {V : Mem} {K : SKY} (h : MS V 32 0 K) (ok : okK K) {x p : Nat} (hx : x < kNX K) (hp : p < kNP K) : clI (d + 2) m_M_isWanted [.inr (.inr (30, 0)), .inl (nI p), .inl (nI x)] V = some (bI (kW K x p = true), V) := by
  have hX := ok.2.1
  have hP := ok.1
  obtain ⟨g1, g2, g3⟩ := h.2.1 p hp
  rw [Nat.zero_add] at g3
  have lt := bm_lt (kNX K) (fun x => kW K x p)
  have l0 : 2 ^ kNX K ≤ 2 ^ 6 := Nat.pow_le_pow_right (by omega) hX
  have W : clI (d + 1) m_M_wanted [.inr (.inr (30, 0)), .inl (nI p)] V = some (nI (bm (kNX K) (fun x => kW K x p)), V) := by
    refine clI_of ((e_M_wanted_0 d (nI p) V).trans ?_)
    have e : (3 * nI p + 2 : Int32) = nI (3 * p + 2) := by simp only [fa_lit, pk_mul, nI_add]
    rw [e, if_neg (nI_in (N := 178) (by omega) (by omega)), nI_clamp (by omega), g3]
  apply clI_of
  refine (e_M_isWanted_0 (d + 1) _ _ V).trans ?_
  rw [W, bind_some']
  have key := shr1 x (by omega) (bm (kNX K) (fun x => kW K x p)) (by omega)
  rw [bm_test] at key
  simp only [hx, decide_true, Bool.true_and] at key
  by_cases e : kW K x p = true
  · rw [if_pos (key.mpr e), bI_t e]
  · rw [if_neg (fun z => e (key.mp z)), bI_f e]
theorem c_C_isPair {d n : Nat} {V : Mem} (h : V.1 1 0 3 = nI n) (x y : Int32) : clI (d + 2) m_C_isPair [.inr (.inr (0, 0)), .inl x, .inl y] V = some (bI (inR n x ∧ inR n y ∧ ¬ x = y), V) := by
  apply clI_of
  refine (e_C_isPair_0 (d + 1) x y V).trans ?_
  rw [c_C_isPoint, bind_some', h]
  by_cases a1 : inR n x
  · rw [bI_t a1, if_neg one_ne, c_C_isPoint, bind_some', h]
    by_cases a2 : inR n y
    · rw [bI_t a2, if_neg one_ne]
      by_cases a3 : x = y
      · rw [if_pos a3, bI_f (fun z => z.2.2 a3)]
      · rw [if_neg a3, bI_t ⟨a1, a2, a3⟩]
    · rw [bI_f a2, if_pos rfl, bI_f (fun z => a2 z.2.1)]
  · rw [bI_f a1, if_pos rfl, bI_f (fun z => a1 z.1)]
theorem c_M_isPair {d : Nat} {V : Mem} {K : SKY} (h : MS V 32 0 K) (ok : okK K) (z x y : Int32) : clI (d + 3) m_M_isPair [.inr (.inr (30, 0)), .inl z, .inl x, .inl y] V = some (bI (inR (kNX K) z ∧ inR (kNP K) x ∧ inR (kNP K) y ∧ ¬ x = y), V) := by
  have hX := ok.2.1
  have hP := ok.1
  have e5 := h.1.2.1
  have e4 := h.1.1
  rw [Nat.zero_add] at e4 e5
  apply clI_of
  refine (e_M_isPair_0 (d + 2) z x y V).trans ?_
  rw [c_M_isParish (by omega) z e5, bind_some']
  by_cases a0 : inR (kNX K) z
  · rw [bI_t a0, if_neg one_ne, c_M_isPoint (by omega) x e4, bind_some']
    by_cases a1 : inR (kNP K) x
    · rw [bI_t a1, if_neg one_ne, c_M_isPoint (by omega) y e4, bind_some']
      by_cases a2 : inR (kNP K) y
      · rw [bI_t a2, if_neg one_ne]
        by_cases a3 : x = y
        · rw [if_pos a3, bI_f (fun z => z.2.2.2 a3)]
        · rw [if_neg a3, bI_t ⟨a0, a1, a2, a3⟩]
      · rw [bI_f a2, if_pos rfl, bI_f (fun z => a2 z.2.2.1)]
    · rw [bI_f a1, if_pos rfl, bI_f (fun z => a1 z.2.1)]
  · rw [bI_f a0, if_pos rfl, bI_f (fun z => a0 z.1)]
theorem MS.crf {V : Mem} {K : SKY} (h : MS V 32 0 K) (k : Nat) : MS (CRf V k) 32 0 K := h.same (funext fun _ => CRf_n (by omega))
theorem okK.fg {K : SKY} (ok : okK K) {x : Nat} (hx : x < kNX K) : ∀ i, i < kLn K x → kF K x i < 12 ∧ kG K x i < 12 ∧ kF K x i ≠ kG K x i := fun i hi => by
  have := ok.1
  obtain ⟨o1, o2, o3, _, _⟩ := (ok.2.2.2.2 x hx).2.1 i hi
  exact ⟨by omega, by omega, o3⟩
