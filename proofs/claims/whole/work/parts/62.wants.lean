/-! wants -/
theorem setW_same {K : SKY} {x p : Nat} {b : Bool} (h : kW K x p = b) : setW K x p b = K := by
  obtain ⟨a, b1, c, w, e⟩ := K
  have : (fun y z => if y = x ∧ z = p then b else w y z) = w := by
    funext y z
    by_cases q : y = x ∧ z = p
    · rw [if_pos q, q.1, q.2]; exact h.symm
    · rw [if_neg q]
  show (a, b1, c, (fun y z => if y = x ∧ z = p then b else w y z), e) = _
  rw [this]
theorem setW_W (K : SKY) (x p : Nat) (b : Bool) (y z : Nat) : kW (setW K x p b) y z = if y = x ∧ z = p then b else kW K y z := rfl
theorem setW_on {K : SKY} (ok : okK K) (x p : Nat) : okK (setW K x p true) := by
  obtain ⟨h1, h2, h3, h4, h5⟩ := ok
  refine ⟨h1, h2, h3, h4, fun y hy => ?_⟩
  obtain ⟨g1, g2, g3⟩ := h5 y hy
  refine ⟨g1, fun i hi => ?_, g3⟩
  obtain ⟨e1, e2, e3, e4, e5⟩ := g2 i hi
  refine ⟨e1, e2, e3, ?_, ?_⟩
  · rw [setW_W]; split
    · rfl
    · exact e4
  · rw [setW_W]; split
    · rfl
    · exact e5
theorem lessK_ok (x p : Nat) : ∀ n (K : SKY), okK (setW K x p true) → x < kNX K → n ≤ kLn K x → (∀ i, n ≤ i → i < kLn K x → ¬ (kF K x i = p ∨ kG K x i = p)) → okK (lessK x p n K) := by
  intro n
  induction n with
  | zero =>
    intro K h hx hn hu
    obtain ⟨h1, h2, h3, h4, h5⟩ := h
    refine ⟨h1, h2, h3, h4, fun y hy => ?_⟩
    obtain ⟨g1, g2, g3⟩ := h5 y hy
    refine ⟨g1, fun i hi => ?_, g3⟩
    obtain ⟨e1, e2, e3, e4, e5⟩ := g2 i hi
    refine ⟨e1, e2, e3, ?_, ?_⟩
    · rw [setW_W, if_neg (fun w => by
        obtain ⟨rfl, w2⟩ := w
        exact hu i (by omega) hi (Or.inl w2))] at e4
      exact e4
    · rw [setW_W, if_neg (fun w => by
        obtain ⟨rfl, w2⟩ := w
        exact hu i (by omega) hi (Or.inr w2))] at e5
      exact e5
  | succ n ih =>
    intro K h hx hn hu
    show okK (lessK x p n (if kF K x n = p ∨ kG K x n = p then eraseK K x n else K))
    by_cases e : kF K x n = p ∨ kG K x n = p
    · rw [if_pos e]
      refine ih (eraseK K x n) (eraseK_ok h hx (show n < kLn K x by omega)) hx (by rw [eraseK_Ln]; omega) (fun i h1 h2 => ?_)
      rw [eraseK_Ln] at h2
      rw [eraseK_F, eraseK_G]
      unfold delN
      rw [if_neg (by omega), if_neg (by omega)]
      exact hu (i + 1) (by omega) (by omega)
    · rw [if_neg e]
      refine ih K h hx (by omega) (fun i h1 h2 => ?_)
      by_cases e2 : i = n
      · rw [e2]; exact e
      · exact hu i (by omega) h2
theorem c_wants1 {d j ki a ln : Nat} {f g : Nat → Nat} {V : Mem} {n : Nat} {w : Nat → Bool} (h : CPar V j ki a (bm n w) ln f g) (hn : n ≤ 12) {p : Nat} (hp : p < n) : clI (d + 1) m_Parish_wantsAll [.inr (.inr (5, j)), .inl (nI (2 ^ p))] V = some (bI (w p = true), V) := by
  have := c_wantsPair (d := d) h hn hp hp
  rw [Nat.or_self] at this
  rw [this]
  congr 2
  exact bI_same (by simp)
theorem and_not {n : Nat} {w : Nat → Bool} (hn : n ≤ 12) {p : Nat} (hp : p < n) : nI (bm n w) &&& (nI (2 ^ p) ^^^ -1) = nI (bm n (fun z => if z = p then false else w z)) := by
  rw [show (-1 : Int32) = nI (2 ^ 32 - 1) from by decide, nI_xor, nI_and]
  congr 1
  apply Nat.eq_of_testBit_eq
  intro k
  rw [Nat.testBit_and, Nat.testBit_xor, Nat.testBit_two_pow, Nat.testBit_two_pow_sub_one, bm_test, bm_test]
  by_cases e : k = p
  · subst e; simp [hp]; omega
  · have e' : ¬ p = k := fun q => e q.symm
    by_cases hk : k < n
    · have : k < 32 := by omega
      simp [e, e', hk, this]
    · simp [hk]
theorem CS.setW {V : Mem} {s x p : Nat} {K : SKY} (h : CS V s K) (hx : x < kNX K) {b : Bool} {v : Int32} (hv : v = nI (bm (kNP K) (fun z => if z = p then b else kW K x z))) : CS (mset V.1 5 (x + 6 * s) 4 v, V.2) s (setW K x p b) := by
  obtain ⟨g1, g2, g3, g4, g5⟩ := h.2.2 x hx
  refine h.par (x := x) (fun t i k w => ?_) rfl rfl (fun y hy => rfl) (fun y hy => ?_) (fun y hy => rfl) ⟨?_, ?_, ?_, ?_, fun i hi => ⟨?_, ?_⟩⟩
  · simp (disch := omega) only [mset_n]
  · funext z
    show (if y = x ∧ z = p then b else kW K y z) = kW K y z
    rw [if_neg (fun w => hy w.1)]
  · simp (disch := omega) only [mset_n]; exact g1
  · simp (disch := omega) only [mset_n]; exact g2
  · simp (disch := omega) only [mset_h]
    rw [hv]
    show nI (bm (kNP K) _) = nI (bm (kNP K) _)
    congr 1
    apply bm_ext
    intro z hz
    rw [setW_W]
    simp only [true_and]
  · simp (disch := omega) only [mset_n]; exact g4
  · simp (disch := omega) only [mset_n]; exact (g5 i hi).1
  · simp (disch := omega) only [mset_n]; exact (g5 i hi).2
theorem MS.setW {V : Mem} {x p : Nat} {K : SKY} (h : MS V 32 0 K) (ok : okK K) (hp : p < kNP K) {b : Bool} {v : Int32} (hv : v = nI (bm (kNX K) (fun z => if z = x then b else kW K z p))) : MS (mset V.1 32 0 (3 * p + 2) v, V.2) 32 0 (setW K x p b) := by
  have hP := ok.1
  have hX := ok.2.1
  obtain ⟨⟨h1, h2, h3, h4⟩, h5, h6⟩ := h
  refine ⟨⟨?_, ?_, ?_, ?_⟩, fun q hq => ?_, fun y hy => ?_⟩
  · simp (disch := omega) only [mset_n]; exact h1
  · simp (disch := omega) only [mset_n]; exact h2
  · simp (disch := omega) only [mset_n]; exact h3
  · simp (disch := omega) only [mset_n]; exact h4
  · have hq' : q < kNP K := hq
    obtain ⟨g1, g2, g3⟩ := h5 q hq
    refine ⟨?_, ?_, ?_⟩
    · simp (disch := omega) only [mset_n]; exact g1
    · simp (disch := omega) only [mset_n]; exact g2
    · by_cases e : q = p
      · subst e
        simp (disch := omega) only [mset_h]
        rw [hv]
        show nI (bm (kNX K) _) = nI (bm (kNX K) _)
        congr 1
        apply bm_ext
        intro z hz
        rw [setW_W]
        simp only [and_true]
      · simp (disch := omega) only [mset_n]
        rw [g3]
        show nI (bm (kNX K) _) = nI (bm (kNX K) _)
        congr 1
        apply bm_ext
        intro z hz
        rw [setW_W, if_neg (fun w => e w.2)]
  · have hy' : y < kNX K := hy
    have hl := (ok.2.2.2.2 y hy').1.2.2
    obtain ⟨⟨g1, g2, g3⟩, g4⟩ := h6 y hy
    refine ⟨⟨?_, ?_, ?_⟩, fun i hi => ⟨?_, ?_⟩⟩
    · simp (disch := omega) only [mset_n]; exact g1
    · simp (disch := omega) only [mset_n]; exact g2
    · simp (disch := omega) only [mset_n]; exact g3
    · simp (disch := omega) only [mset_n]; exact (g4 i hi).1
    · simp (disch := omega) only [mset_n]; exact (g4 i hi).2
/-- the class's parish loses a point -/
theorem c_lose {d s x p : Nat} {V : Mem} {K : SKY} (h : CS V s K) (ok : okK K) (hx : x < kNX K) (hp : p < kNP K) : ∃ V', clI (d + 3) m_Parish_lose [.inr (.inr (5, x + 6 * s)), .inl (nI (2 ^ p))] V = some (nI (kLn K x) - nI (kLn (lessK x p (kLn K x) (setW K x p false)) x), V') ∧ CS V' s (lessK x p (kLn K x) (setW K x p false)) ∧ FrC s V V' := by
  have hP := ok.1
  have hX := ok.2.1
  have c1 := h.setW (p := p) hx (b := false) (v := (V.1 5 (x + 6 * s) 4) &&& (nI (2 ^ p) ^^^ -1)) (by rw [(h.2.2 x hx).2.2.1, and_not hP hp])
  have fg := ok.fg hx
  obtain ⟨V', w1, w2, w3, w4⟩ := eraseAt9 d s x p (by omega) (nI (kLn K x)) (kLn K x) (setW K x p false) _ c1 ok.toL hx (fun i hi => ⟨(fg i hi).1, (fg i hi).2.1⟩) (Nat.le_refl _)
  refine ⟨V', clI_of ((e_Parish_lose_0 (d + 2) _ _ V).trans ?_), w2, fun t i k q1 q2 => ?_, w4⟩
  · have l := (c1.2.2 x hx).2.2.2.1
    have E : clI (d + 2) m_Parish_eraseAt [.inr (.inr (5, x + 6 * s)), .inl (nI (2 ^ p))] (mset V.1 5 (x + 6 * s) 4 ((V.1 5 (x + 6 * s) 4) &&& (nI (2 ^ p) ^^^ -1)), V.2) = some (nI (kLn K x) - nI (kLn (lessK x p (kLn K x) (setW K x p false)) x), V') := by
      refine clI_of ((e_Parish_eraseAt_0 (d + 1) _ _ _).trans ?_)
      rw [l, Int32.sub_eq_add_neg]
      exact w1
    rw [E, bind_some']
  · rw [w3 t i k (by omega)]
    simp (disch := omega) only [mset_n]
theorem c_M_eraseIn {d x p : Nat} {V : Mem} {K : SKY} (h : MS V 32 0 K) (ok : okL K) (hx : x < kNX K) (hb : bd12 K x) (hp : p < 12) : ∃ V', clI (d + 3) m_M_eraseIn [.inr (.inr (30, 0)), .inl (nI x), .inl (nI p)] V = some (nI (kLn K x - kLn (lessK x p (kLn K x) K) x), V') ∧ MS V' 32 0 (lessK x p (kLn K x) K) ∧ FrM V V' := by
  have hX := ok.2.1
  have m3 := (h.2.2 x hx).1.2.2
  rw [Nat.zero_add] at m3
  obtain ⟨V', w1, w2, w3⟩ := eraseIn11 d x p hp (kLn K x) K V 0 h ok hx hb (Nat.le_refl _)
  refine ⟨V', clI_of ((e_M_eraseIn_0 (d + 2) _ _ V).trans ?_), w2, w3⟩
  rw [c_M_lines (d + 1) (by omega), bind_some', m3, Int32.sub_eq_add_neg, w1, Int32.zero_add]
