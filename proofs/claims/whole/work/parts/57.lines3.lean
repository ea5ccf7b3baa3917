/-! LINES: the reference erases; line, drop -/
theorem erase14 (d : Nat) {x n l : Nat} (hx : x < 6) (hl : l ≤ 10) (hn : n < l) (y : Int32) (F : Nat → Nat → Nat → Int32) (G : Nat → Nat → Nat → Int64) (h : F 32 0 (38 + 23 * x) = nI l) : ∀ m k, k + m = 2 * (l - n - 1) → sem (d + 1) 145 14 [some (.inr (.inr (30, 0))), some (.inl (nI x)), some (.inl y), some (.inl (nI (39 + 23 * x + 2 * n + k)))] [] (mcpy F 32 0 (39 + 23 * x + 2 * n + 2) 32 0 (39 + 23 * x + 2 * n) k, G) = some (some (.inl (nI (l - 1))), (mset (mcpy F 32 0 (39 + 23 * x + 2 * n + 2) 32 0 (39 + 23 * x + 2 * n) (2 * (l - n - 1))) 32 0 (38 + 23 * x) (nI (l - 1)), G)) := by
  have lim : ∀ z : Nat, (36 + 23 * nI x + 1 : Int32) + 2 * nI z = nI (37 + 23 * x + 2 * z) := fun z => by
    simp only [fa_lit, pk_mul, nI_add]
    rw [show 36 + 23 * x + 1 + 2 * z = 37 + 23 * x + 2 * z by omega]
  have a2 : (36 + 23 * nI x + 2 : Int32) = nI (38 + 23 * x) := by
    simp only [fa_lit, pk_mul, nI_add]
    rw [show 36 + 23 * x + 2 = 38 + 23 * x by omega]
  have rd : ∀ z, mcpy F 32 0 (39 + 23 * x + 2 * n + 2) 32 0 (39 + 23 * x + 2 * n) z 32 0 (38 + 23 * x) = nI l := fun z => by rw [mcpy_out (by omega), h]
  have el : nI l - 1 = nI (l - 1) := by
    have := nI_pred (l - 1)
    rw [show l - 1 + 1 = l by omega] at this
    exact this
  intro m
  induction m with
  | zero =>
    intro k hk
    obtain rfl : k = 2 * (l - n - 1) := by omega
    rw [e_M_erase_14, c_M_lines d hx, bind_some']
    simp only [rd]
    rw [lim, if_neg (nI_nlt (by omega) (by omega)), a2, if_neg (nI_in (N := 178) (by omega) (by omega)), if_neg (nI_in (N := 178) (by omega) (by omega)), nI_clamp (by omega), c_M_lines d hx, bind_some']
    simp (disch := omega) only [mset_h, rd, el]
  | succ m ih =>
    intro k hk
    rw [e_M_erase_14, c_M_lines d hx, bind_some']
    simp only [rd]
    have e2 : nI (39 + 23 * x + 2 * n + k) + 2 = nI (39 + 23 * x + 2 * n + k + 2) := nI_add _ 2
    rw [lim, if_pos (nI_lt (by omega) (by omega)), e2, if_neg (nI_in (N := 178) (by omega) (by omega)), if_neg (nI_in (N := 178) (by omega) (by omega)), nI_clamp (by omega), nI_clamp (by omega), nI_1]
    refine Eq.trans ?_ (ih (k + 1) (by omega))
    have e : mset (mcpy F 32 0 (39 + 23 * x + 2 * n + 2) 32 0 (39 + 23 * x + 2 * n) k) 32 0 (39 + 23 * x + 2 * n + k) (mcpy F 32 0 (39 + 23 * x + 2 * n + 2) 32 0 (39 + 23 * x + 2 * n) k 32 0 (39 + 23 * x + 2 * n + k + 2)) = mcpy F 32 0 (39 + 23 * x + 2 * n + 2) 32 0 (39 + 23 * x + 2 * n) (k + 1) := by
      funext t' i' k'
      unfold mset mcpy
      by_cases w : t' = 32 ∧ i' = 0 ∧ k' = 39 + 23 * x + 2 * n + k
      · obtain ⟨rfl, rfl, rfl⟩ := w
        rw [if_pos ⟨rfl, rfl, rfl⟩, if_neg (by omega), if_pos (by omega), show 39 + 23 * x + 2 * n + 2 + (39 + 23 * x + 2 * n + k - (39 + 23 * x + 2 * n)) = 39 + 23 * x + 2 * n + k + 2 by omega]
      · rw [if_neg w]
        by_cases w2 : t' = 32 ∧ i' = 0 ∧ 39 + 23 * x + 2 * n ≤ k' ∧ k' < 39 + 23 * x + 2 * n + k
        · rw [if_pos w2, if_pos (by omega)]
        · rw [if_neg w2, if_neg (by omega)]
    rw [e]
    rfl
theorem c_M_erase {d : Nat} {V : Mem} {K : SKY} (h : MS V 32 0 K) (ok : okL K) {x n : Nat} (hx : x < kNX K) (hn : n < kLn K x) : ∃ V', clI (d + 2) m_M_erase [.inr (.inr (30, 0)), .inl (nI x), .inl (nI n)] V = some (nI (kLn K x - 1), V') ∧ MS V' 32 0 (eraseK K x n) ∧ FrM V V' := by
  have hX := ok.2.1
  have hl := ok.2.2 x hx
  obtain ⟨⟨m1, m2, m3⟩, m4⟩ := h.2.2 x hx
  have m3' : V.1 32 0 (38 + 23 * x) = nI (kLn K x) := by rw [← m3, Nat.zero_add]
  have E := erase14 d (x := x) (n := n) (l := kLn K x) (by omega) hl hn (nI n) V.1 V.2 m3' (2 * (kLn K x - n - 1)) 0 (by omega)
  rw [mcpy_0] at E
  refine ⟨(mset (mcpy V.1 32 0 (39 + 23 * x + 2 * n + 2) 32 0 (39 + 23 * x + 2 * n) (2 * (kLn K x - n - 1))) 32 0 (38 + 23 * x) (nI (kLn K x - 1)), V.2), clI_of ((e_M_erase_0 (d + 1) _ _ V).trans ?_), ?_, fun t i k w => ?_, rfl⟩
  · have a3 : (36 + 23 * nI x + 3 : Int32) + 2 * nI n = nI (39 + 23 * x + 2 * n) := by
      simp only [fa_lit, pk_mul, nI_add]
      rw [show 36 + 23 * x + 3 + 2 * n = 39 + 23 * x + 2 * n by omega]
    rw [a3]
    exact E
  · refine h.par ok (x := x) (by omega) (fun k w => ?_) rfl rfl (fun y hy => if_neg hy) rfl (fun y hy => ?_) (eraseK_Ki K x n) (eraseK_A K x n) ?_ (fun i hi => ?_)
    · simp (disch := omega) only [mset_n, mcpy_out]
    · funext i
      show (if y = x then (if i < n then K.2.2.2.2 x i else K.2.2.2.2 x (i + 1)) else K.2.2.2.2 y i) = _
      rw [if_neg hy]
    · rw [eraseK_Ln]
      simp (disch := omega) only [mset_h]
    · rw [eraseK_Ln] at hi
      rw [eraseK_F, eraseK_G]
      unfold delN
      by_cases e : i < n
      · rw [if_pos e, if_pos e]
        simp (disch := omega) only [mset_n, mcpy_out]
        have := m4 i (by omega)
        rw [Nat.zero_add] at this
        exact this
      · rw [if_neg e, if_neg e]
        simp (disch := omega) only [mset_n, mcpy_in]
        have := m4 (i + 1) (by omega)
        rw [Nat.zero_add] at this
        rw [show 39 + 23 * x + 2 * n + 2 + (39 + 23 * x + 2 * i - (39 + 23 * x + 2 * n)) = 39 + 23 * x + 2 * (i + 1) by omega, show 39 + 23 * x + 2 * n + 2 + (39 + 23 * x + 2 * i + 1 - (39 + 23 * x + 2 * n)) = 39 + 23 * x + 2 * (i + 1) + 1 by omega]
        exact this
  · simp (disch := omega) only [mset_n, mcpy_out]
theorem drawK_ok {K : SKY} (ok : okK K) {x p q : Nat} (hx : x < kNX K) (hl : kLn K x < 10) (hp : p < kNP K) (hq : q < kNP K) (hpq : p ≠ q) (wp : kW K x p = true) (wq : kW K x q = true) (hno : ∀ i, i < kLn K x → ¬ eqL (kF K x i) (kG K x i) p q) : okK (drawK K x p q) := by
  obtain ⟨h1, h2, h3, h4, h5⟩ := ok
  refine ⟨h1, h2, h3, h4, fun y hy => ?_⟩
  obtain ⟨g1, g2, g3⟩ := h5 y hy
  by_cases e : y = x
  · subst e
    rw [drawK_Ki, drawK_A, drawK_Ln, drawK_F, drawK_G]
    have u : ∀ (f : Nat → Nat) v i, i ≠ kLn K y → updN f (kLn K y) v i = f i := fun f v i w => if_neg w
    have u2 : ∀ (f : Nat → Nat) v, updN f (kLn K y) v (kLn K y) = v := fun f v => if_pos rfl
    refine ⟨⟨g1.1, g1.2.1, by omega⟩, fun i hi => ?_, fun i j hi hj w => ?_⟩
    · by_cases e : i = kLn K y
      · subst e
        rw [u2, u2]
        exact ⟨hp, hq, hpq, wp, wq⟩
      · rw [u _ _ _ e, u _ _ _ e]
        exact g2 i (by omega)
    · by_cases ei : i = kLn K y
      · by_cases ej : j = kLn K y
        · omega
        · exfalso
          rw [ei, u2, u2, u _ _ _ ej, u _ _ _ ej] at w
          refine hno j (by omega) ?_
          omega
      · by_cases ej : j = kLn K y
        · exfalso
          rw [ej, u2, u2, u _ _ _ ei, u _ _ _ ei] at w
          exact hno i (by omega) w
        · rw [u _ _ _ ei, u _ _ _ ei, u _ _ _ ej, u _ _ _ ej] at w
          exact g3 i j (by omega) (by omega) w
  · have q1 : kKi (drawK K x p q) y = kKi K y := by unfold kKi drawK; simp only [e, if_false]
    have q2 : kA (drawK K x p q) y = kA K y := by unfold kA drawK; simp only [e, if_false]
    have q3 : kLn (drawK K x p q) y = kLn K y := by unfold kLn drawK; simp only [e, if_false]
    have q5 : kF (drawK K x p q) y = kF K y := by funext z; unfold kF drawK; simp only [e, false_and, if_false]
    have q6 : kG (drawK K x p q) y = kG K y := by funext z; unfold kG drawK; simp only [e, false_and, if_false]
    rw [q1, q2, q3, q5, q6]
    exact ⟨g1, g2, g3⟩
theorem eraseK_ok {K : SKY} (ok : okK K) {x n : Nat} (hx : x < kNX K) (hn : n < kLn K x) : okK (eraseK K x n) := by
  obtain ⟨h1, h2, h3, h4, h5⟩ := ok
  refine ⟨h1, h2, h3, h4, fun y hy => ?_⟩
  obtain ⟨g1, g2, g3⟩ := h5 y hy
  by_cases e : y = x
  · subst e
    rw [eraseK_Ki, eraseK_A, eraseK_Ln, eraseK_F, eraseK_G]
    have u : ∀ (f : Nat → Nat) i, delN f n i = f (if i < n then i else i + 1) := fun f i => by unfold delN; split <;> rfl
    refine ⟨⟨g1.1, g1.2.1, by omega⟩, fun i hi => ?_, fun i j hi hj w => ?_⟩
    · rw [u, u]
      exact g2 _ (by split <;> omega)
    · rw [u, u, u, u] at w
      have := g3 (if i < n then i else i + 1) (if j < n then j else j + 1) (by split <;> omega) (by split <;> omega) w
      by_cases a : i < n <;> by_cases b : j < n <;> simp only [a, b, if_true, if_false] at this <;> omega
  · have q1 : kKi (eraseK K x n) y = kKi K y := by unfold kKi eraseK; simp only [e, if_false]
    have q2 : kA (eraseK K x n) y = kA K y := by unfold kA eraseK; simp only [e, if_false]
    have q3 : kLn (eraseK K x n) y = kLn K y := by unfold kLn eraseK; simp only [e, if_false]
    have q5 : kF (eraseK K x n) y = kF K y := by funext z; unfold kF eraseK; simp only [e, if_false]
    have q6 : kG (eraseK K x n) y = kG K y := by funext z; unfold kG eraseK; simp only [e, if_false]
    rw [q1, q2, q3, q5, q6]
    exact ⟨g1, g2, g3⟩
