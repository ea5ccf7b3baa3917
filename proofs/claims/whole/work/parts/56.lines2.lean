/-! LINES: drawing and erasing -/
def drawK (K : SKY) (x p q : Nat) : SKY := (K.1, K.2.1, (fun y => if y = x then (kKi K x, kA K x, kLn K x + 1) else K.2.2.1 y), K.2.2.2.1, (fun y i => if y = x ∧ i = kLn K x then (p, q) else K.2.2.2.2 y i))
def eraseK (K : SKY) (x n : Nat) : SKY := (K.1, K.2.1, (fun y => if y = x then (kKi K x, kA K x, kLn K x - 1) else K.2.2.1 y), K.2.2.2.1, (fun y i => if y = x then (if i < n then K.2.2.2.2 x i else K.2.2.2.2 x (i + 1)) else K.2.2.2.2 y i))
theorem CS.par {V V' : Mem} {s x : Nat} {K K' : SKY} (h : CS V s K) (c : ∀ t i k, ¬ ((t = 5 ∨ t = 6 ∨ t = 7) ∧ i = x + 6 * s) → V'.1 t i k = V.1 t i k) (e1 : K'.1 = K.1) (e2 : K'.2.1 = K.2.1) (e3 : ∀ y, y ≠ x → K'.2.2.1 y = K.2.2.1 y) (e4 : ∀ y, y ≠ x → K'.2.2.2.1 y = K.2.2.2.1 y) (e5 : ∀ y, y ≠ x → K'.2.2.2.2 y = K.2.2.2.2 y) (hp : CPar V' (x + 6 * s) (kKi K' x) (kA K' x) (bm (kNP K') (kW K' x)) (kLn K' x) (kF K' x) (kG K' x)) : CS V' s K' := by
  obtain ⟨⟨h1, h2, h3, h4⟩, h5, h6⟩ := h
  have n1 : kNP K' = kNP K := by unfold kNP; rw [e1]
  have n2 : kNX K' = kNX K := by unfold kNX; rw [e1]
  have n3 : kCl K' = kCl K := by unfold kCl; rw [e1]
  have n4 : kSd K' = kSd K := by unfold kSd; rw [e1]
  refine ⟨⟨?_, ?_, ?_, ?_⟩, fun p hpp => ?_, fun y hy => ?_⟩
  · rw [n1]; exact (c _ _ _ (by omega)).trans h1
  · rw [n2]; exact (c _ _ _ (by omega)).trans h2
  · rw [n3]; exact (c _ _ _ (by omega)).trans h3
  · rw [n4]; exact (c _ _ _ (by omega)).trans h4
  · rw [n1] at hpp
    unfold kCe kBr
    rw [e2]
    exact ⟨(c _ _ _ (by omega)).trans (h5 p hpp).1, (c _ _ _ (by omega)).trans (h5 p hpp).2⟩
  · by_cases e : y = x
    · subst e; exact hp
    · rw [n2] at hy
      obtain ⟨g1, g2, g3, g4, g5⟩ := h6 y hy
      have q1 : kKi K' y = kKi K y := by unfold kKi; rw [e3 y e]
      have q2 : kA K' y = kA K y := by unfold kA; rw [e3 y e]
      have q3 : kLn K' y = kLn K y := by unfold kLn; rw [e3 y e]
      have q4 : kW K' y = kW K y := by funext z; unfold kW; rw [e4 y e]
      have q5 : kF K' y = kF K y := by funext z; unfold kF; rw [e5 y e]
      have q6 : kG K' y = kG K y := by funext z; unfold kG; rw [e5 y e]
      rw [q1, q2, q3, q4, q5, q6, n1]
      exact ⟨(c _ _ _ (by omega)).trans g1, (c _ _ _ (by omega)).trans g2, (c _ _ _ (by omega)).trans g3, (c _ _ _ (by omega)).trans g4, fun i hi => ⟨(c _ _ _ (by omega)).trans (g5 i hi).1, (c _ _ _ (by omega)).trans (g5 i hi).2⟩⟩
theorem drawK_F (K : SKY) (x p q : Nat) : kF (drawK K x p q) x = updN (kF K x) (kLn K x) p := by
  funext i
  unfold kF drawK updN
  by_cases e : i = kLn K x
  · simp only [e, and_self, if_true]
  · simp only [e, and_false, if_false]
theorem drawK_G (K : SKY) (x p q : Nat) : kG (drawK K x p q) x = updN (kG K x) (kLn K x) q := by
  funext i
  unfold kG drawK updN
  by_cases e : i = kLn K x
  · simp only [e, and_self, if_true]
  · simp only [e, and_false, if_false]
theorem eraseK_F (K : SKY) (x n : Nat) : kF (eraseK K x n) x = delN (kF K x) n := by
  funext i
  unfold kF eraseK delN
  by_cases e : i < n
  · simp only [e, if_true]
  · simp only [e, if_false, if_true]
theorem eraseK_G (K : SKY) (x n : Nat) : kG (eraseK K x n) x = delN (kG K x) n := by
  funext i
  unfold kG eraseK delN
  by_cases e : i < n
  · simp only [e, if_true]
  · simp only [e, if_false, if_true]
theorem drawK_Ln (K : SKY) (x p q : Nat) : kLn (drawK K x p q) x = kLn K x + 1 := by unfold kLn drawK; simp only [if_true]; rfl
theorem eraseK_Ln (K : SKY) (x n : Nat) : kLn (eraseK K x n) x = kLn K x - 1 := by unfold kLn eraseK; simp only [if_true]; rfl
theorem drawK_Ki (K : SKY) (x p q : Nat) : kKi (drawK K x p q) x = kKi K x := by unfold kKi drawK; simp only [if_true]; rfl
theorem eraseK_Ki (K : SKY) (x n : Nat) : kKi (eraseK K x n) x = kKi K x := by unfold kKi eraseK; simp only [if_true]; rfl
theorem drawK_A (K : SKY) (x p q : Nat) : kA (drawK K x p q) x = kA K x := by unfold kA drawK; simp only [if_true]; rfl
theorem eraseK_A (K : SKY) (x n : Nat) : kA (eraseK K x n) x = kA K x := by unfold kA eraseK; simp only [if_true]; rfl
theorem CS.draw {V V' : Mem} {s x : Nat} {K : SKY} (h : CS V s K) (c : ∀ t i k, ¬ ((t = 5 ∨ t = 6 ∨ t = 7) ∧ i = x + 6 * s) → V'.1 t i k = V.1 t i k) {p q : Nat} (hp : CPar V' (x + 6 * s) (kKi K x) (kA K x) (bm (kNP K) (kW K x)) (kLn K x + 1) (updN (kF K x) (kLn K x) p) (updN (kG K x) (kLn K x) q)) : CS V' s (drawK K x p q) := by
  refine h.par (x := x) c rfl rfl (fun y hy => if_neg hy) (fun y hy => rfl) (fun y hy => ?_) ?_
  · funext i
    show (if y = x ∧ i = kLn K x then (p, q) else K.2.2.2.2 y i) = _
    rw [if_neg (fun w => hy w.1)]
  · rw [drawK_F, drawK_G, drawK_Ln, drawK_Ki, drawK_A]
    exact hp
theorem CS.erase {V V' : Mem} {s x : Nat} {K : SKY} (h : CS V s K) (c : ∀ t i k, ¬ ((t = 5 ∨ t = 6 ∨ t = 7) ∧ i = x + 6 * s) → V'.1 t i k = V.1 t i k) {n : Nat} (hp : CPar V' (x + 6 * s) (kKi K x) (kA K x) (bm (kNP K) (kW K x)) (kLn K x - 1) (delN (kF K x) n) (delN (kG K x) n)) : CS V' s (eraseK K x n) := by
  refine h.par (x := x) c rfl rfl (fun y hy => if_neg hy) (fun y hy => rfl) (fun y hy => ?_) ?_
  · funext i
    show (if y = x then (if i < n then K.2.2.2.2 x i else K.2.2.2.2 x (i + 1)) else K.2.2.2.2 y i) = _
    rw [if_neg hy]
  · rw [eraseK_F, eraseK_G, eraseK_Ln, eraseK_Ki, eraseK_A]
    exact hp
def okL (K : SKY) : Prop := kNP K ≤ 12 ∧ kNX K ≤ 6 ∧ ∀ x, x < kNX K → kLn K x ≤ 10
theorem okK.toL {K : SKY} (h : okK K) : okL K := ⟨h.1, h.2.1, fun x hx => (h.2.2.2.2 x hx).1.2.2⟩
/-- the reference's row when only a parish's lines are new -/
theorem MS.par {V V' : Mem} {x : Nat} {K K' : SKY} (h : MS V 32 0 K) (ok : okL K) (hx : x < 6) (c : ∀ k, ¬ (38 + 23 * x ≤ k ∧ k < 59 + 23 * x) → V'.1 32 0 k = V.1 32 0 k) (e1 : K'.1 = K.1) (e2 : K'.2.1 = K.2.1) (e3 : ∀ y, y ≠ x → K'.2.2.1 y = K.2.2.1 y) (e4 : K'.2.2.2.1 = K.2.2.2.1) (e5 : ∀ y, y ≠ x → K'.2.2.2.2 y = K.2.2.2.2 y) (e6 : kKi K' x = kKi K x) (e7 : kA K' x = kA K x) (l1 : V'.1 32 0 (38 + 23 * x) = nI (kLn K' x)) (l2 : ∀ i, i < kLn K' x → V'.1 32 0 (39 + 23 * x + 2 * i) = nI (kF K' x i) ∧ V'.1 32 0 (39 + 23 * x + 2 * i + 1) = nI (kG K' x i)) : MS V' 32 0 K' := by
  have hP := ok.1
  have hX := ok.2.1
  obtain ⟨⟨h1, h2, h3, h4⟩, h5, h6⟩ := h
  have n1 : kNP K' = kNP K := by unfold kNP; rw [e1]
  have n2 : kNX K' = kNX K := by unfold kNX; rw [e1]
  have n3 : kCl K' = kCl K := by unfold kCl; rw [e1]
  have n4 : kSd K' = kSd K := by unfold kSd; rw [e1]
  have n5 : ∀ y z, kW K' y z = kW K y z := fun y z => by unfold kW; rw [e4]
  refine ⟨⟨?_, ?_, ?_, ?_⟩, fun p hpp => ?_, fun y hy => ?_⟩
  · rw [n1]; exact (c _ (by omega)).trans h1
  · rw [n2]; exact (c _ (by omega)).trans h2
  · rw [n3]; exact (c _ (by omega)).trans h3
  · rw [n4]; exact (c _ (by omega)).trans h4
  · rw [n1] at hpp
    obtain ⟨g1, g2, g3⟩ := h5 p hpp
    refine ⟨?_, ?_, ?_⟩
    · unfold kCe; rw [e2]; exact (c _ (by omega)).trans g1
    · unfold kBr; rw [e2]; exact (c _ (by omega)).trans g2
    · rw [n2]
      simp only [n5]
      exact (c _ (by omega)).trans g3
  · rw [n2] at hy
    obtain ⟨⟨g1, g2, g3⟩, g4⟩ := h6 y hy
    have hl := ok.2.2 y hy
    by_cases e : y = x
    · subst e
      rw [e6, e7]
      refine ⟨⟨(c _ (by omega)).trans g1, (c _ (by omega)).trans g2, ?_⟩, fun i hi => ?_⟩
      · rw [Nat.zero_add]; exact l1
      · rw [Nat.zero_add]; exact l2 i hi
    · have q1 : kKi K' y = kKi K y := by unfold kKi; rw [e3 y e]
      have q2 : kA K' y = kA K y := by unfold kA; rw [e3 y e]
      have q3 : kLn K' y = kLn K y := by unfold kLn; rw [e3 y e]
      have q5 : kF K' y = kF K y := by funext z; unfold kF; rw [e5 y e]
      have q6 : kG K' y = kG K y := by funext z; unfold kG; rw [e5 y e]
      rw [q1, q2, q3, q5, q6]
      exact ⟨⟨(c _ (by omega)).trans g1, (c _ (by omega)).trans g2, (c _ (by omega)).trans g3⟩, fun i hi => ⟨(c _ (by omega)).trans (g4 i hi).1, (c _ (by omega)).trans (g4 i hi).2⟩⟩
theorem c_M_draw {d : Nat} {V : Mem} {K : SKY} (h : MS V 32 0 K) (ok : okK K) {x : Nat} (hx : x < kNX K) (hl : kLn K x < 10) (p q : Nat) : ∃ V', clI (d + 2) m_M_draw [.inr (.inr (30, 0)), .inl (nI x), .inl (nI p), .inl (nI q)] V = some (nI (kLn K x + 1), V') ∧ MS V' 32 0 (drawK K x p q) ∧ FrM V V' := by
  have hX := ok.2.1
  obtain ⟨⟨m1, m2, m3⟩, m4⟩ := h.2.2 x hx
  have m3' : V.1 32 0 (38 + 23 * x) = nI (kLn K x) := by rw [← m3, Nat.zero_add]
  refine ⟨(mset (mset (mset V.1 32 0 (39 + 23 * x + 2 * kLn K x) (nI p)) 32 0 (39 + 23 * x + 2 * kLn K x + 1) (nI q)) 32 0 (38 + 23 * x) (nI (kLn K x + 1)), V.2), clI_of ((e_M_draw_0 (d + 1) _ _ _ V).trans ?_), ?_, fun t i k w => ?_, rfl⟩
  · rw [c_M_lines d (by omega), bind_some', m3']
    have a3 : (36 + 23 * nI x + 3 : Int32) + 2 * nI (kLn K x) = nI (39 + 23 * x + 2 * kLn K x) := by
      simp only [fa_lit, pk_mul, nI_add]
      rw [show 36 + 23 * x + 3 + 2 * kLn K x = 39 + 23 * x + 2 * kLn K x by omega]
    have a4 : (36 + 23 * nI x + 4 : Int32) + 2 * nI (kLn K x) = nI (39 + 23 * x + 2 * kLn K x + 1) := by
      simp only [fa_lit, pk_mul, nI_add]
      rw [show 36 + 23 * x + 4 + 2 * kLn K x = 39 + 23 * x + 2 * kLn K x + 1 by omega]
    have a2 : (36 + 23 * nI x + 2 : Int32) = nI (38 + 23 * x) := by
      simp only [fa_lit, pk_mul, nI_add]
      rw [show 36 + 23 * x + 2 = 38 + 23 * x by omega]
    rw [a3, a4, a2, if_neg (nI_in (N := 178) (by omega) (by omega)), if_neg (nI_in (N := 178) (by omega) (by omega)), if_neg (nI_in (N := 178) (by omega) (by omega)), if_neg (nI_in (N := 178) (by omega) (by omega)), nI_clamp (by omega), nI_clamp (by omega), nI_clamp (by omega)]
    simp (disch := omega) only [mset_n, m3', nI_1]
  · refine h.par ok.toL (x := x) (by omega) (fun k w => ?_) rfl rfl (fun y hy => if_neg hy) rfl (fun y hy => ?_) (drawK_Ki K x p q) (drawK_A K x p q) ?_ (fun i hi => ?_)
    · simp (disch := omega) only [mset_n]
    · funext i
      show (if y = x ∧ i = kLn K x then (p, q) else K.2.2.2.2 y i) = _
      rw [if_neg (fun w => hy w.1)]
    · rw [drawK_Ln]
      simp (disch := omega) only [mset_h]
    · rw [drawK_Ln] at hi
      rw [drawK_F, drawK_G]
      unfold updN
      by_cases e : i = kLn K x
      · subst e
        simp (disch := omega) only [mset_n, mset_h, if_true, and_self]
      · simp (disch := omega) only [mset_n, e, if_false]
        have := m4 i (by omega)
        rw [Nat.zero_add] at this
        exact this
  · simp (disch := omega) only [mset_n]
