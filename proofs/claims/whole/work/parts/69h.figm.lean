/-! THE FIGURE: the reference -/
theorem c_M_ln {d x : Nat} {V : Mem} {K : SKY} (h : MS V 32 0 K) (ok : okL K) (hx : x < kNX K) : clI (d + 1) m_M_lines [.inr (.inr (30, 0)), .inl (nI x)] V = some (nI (kLn K x), V) := by
  have hX := ok.2.1
  have m3 := (h.2.2 x hx).1.2.2
  rw [Nat.zero_add] at m3
  rw [c_M_lines d (by omega), m3]
theorem c_M_end0 {d x k : Nat} {V : Mem} {K : SKY} (h : MS V 32 0 K) (ok : okL K) (hx : x < kNX K) (hk : k < kLn K x) : clI (d + 1) m_M_end [.inr (.inr (30, 0)), .inl (nI x), .inl (nI k), .inl 0] V = some (nI (kF K x k), V) := by
  have hX := ok.2.1
  have hl := ok.2.2 x hx
  have g0 : V.1 32 0 (39 + 23 * x + 2 * k + 0) = nI (kF K x k) := by rw [← ((h.2.2 x hx).2 k hk).1, Nat.zero_add, Nat.add_zero]
  have E0 := c_M_end d (x := x) (i := k) (e := 0) (by omega) (by omega) (by omega) V
  rw [g0] at E0
  exact E0
theorem c_M_end1 {d x k : Nat} {V : Mem} {K : SKY} (h : MS V 32 0 K) (ok : okL K) (hx : x < kNX K) (hk : k < kLn K x) : clI (d + 1) m_M_end [.inr (.inr (30, 0)), .inl (nI x), .inl (nI k), .inl 1] V = some (nI (kG K x k), V) := by
  have hX := ok.2.1
  have hl := ok.2.2 x hx
  have g0 : V.1 32 0 (39 + 23 * x + 2 * k + 1) = nI (kG K x k) := by rw [← ((h.2.2 x hx).2 k hk).2, Nat.zero_add]
  have E0 := c_M_end d (x := x) (i := k) (e := 1) (by omega) (by omega) (by omega) V
  rw [g0] at E0
  exact E0
theorem c_M_len {d p q : Nat} {V : Mem} {K : SKY} (h : MS V 32 0 K) (ok : okK K) (hp : p < kNP K) (hq : q < kNP K) : clI (d + 2) m_M_length [.inr (.inr (30, 0)), .inl (nI p), .inl (nI q)] V = some (nI (lenN (kCe K) p q), V) := by
  have hP := ok.1
  have a1 := (h.2.1 p hp).1
  have a2 := (h.2.1 q hq).1
  have b1 := (ok.2.2.2.1 p hp).1
  have b2 := (ok.2.2.2.1 q hq).1
  rw [Nat.zero_add] at a1 a2
  rw [c_M_length d (by omega) (by omega) V a1 a2 b1 b2, iabs_nat (by omega) (by omega), iabs_nat (by omega) (by omega), nI_add]
  rfl
theorem okK.fn {K : SKY} (ok : okK K) {x : Nat} (hx : x < kNX K) : ∀ i, i < kLn K x → kF K x i < kNP K ∧ kG K x i < kNP K := fun i hi => ⟨((ok.2.2.2.2 x hx).2.1 i hi).1, ((ok.2.2.2.2 x hx).2.1 i hi).2.1⟩
theorem okK.fn3 {K : SKY} (ok : okK K) {x : Nat} (hx : x < kNX K) : ∀ i, i < kLn K x → kF K x i < kNP K ∧ kG K x i < kNP K ∧ kF K x i ≠ kG K x i := fun i hi => ⟨((ok.2.2.2.2 x hx).2.1 i hi).1, ((ok.2.2.2.2 x hx).2.1 i hi).2.1, ((ok.2.2.2.2 x hx).2.1 i hi).2.2.1⟩
theorem okK.fc {K : SKY} (ok : okK K) {x : Nat} (hx : x < kNX K) : ∀ i, i < kLn K x → kCe K (kF K x i) < 100 ∧ kCe K (kG K x i) < 100 := fun i hi => ⟨(ok.2.2.2.1 _ (ok.fn hx i hi).1).1, (ok.2.2.2.1 _ (ok.fn hx i hi).2).1⟩
theorem okK.br {K : SKY} (ok : okK K) : ∀ p, p < kNP K → kBr K p ≤ 9 := fun p hp => (ok.2.2.2.1 p hp).2.2
theorem c_M_lengthOf {d x k : Nat} {V : Mem} {K : SKY} (h : MS V 32 0 K) (ok : okK K) (hx : x < kNX K) (hk : k < kLn K x) : clI (d + 3) m_M_lengthOf [.inr (.inr (30, 0)), .inl (nI x), .inl (nI k)] V = some (nI (lenN (kCe K) (kF K x k) (kG K x k)), V) := by
  refine clI_of ((e_M_lengthOf_0 (d + 2) _ _ V).trans ?_)
  rw [c_M_end0 h ok.toL hx hk, bind_some', c_M_end1 h ok.toL hx hk, bind_some', c_M_len h ok (ok.fn hx k hk).1 (ok.fn hx k hk).2, bind_some']
theorem c_M_lengths {d x : Nat} {V : Mem} {K : SKY} (h : MS V 32 0 K) (ok : okK K) (hx : x < kNX K) : clI (d + 4) m_M_lengths [.inr (.inr (30, 0)), .inl (nI x)] V = some (nI (sumLen (kCe K) (kF K x) (kG K x) (kLn K x)), V) := by
  have hl := ok.toL.2.2 x hx
  refine clI_of ((e_M_lengths_0 (d + 3) _ V).trans ?_)
  refine loopN (kLn K x) (fun k => sem (d + 3) 165 4 [some (.inr (.inr (30, 0))), some (.inl (nI x)), some (.inl (nI (sumLen (kCe K) (kF K x) (kG K x) k))), some (.inl (nI k))] [] V) _ (fun k hk => ?_) ?_
  · show sem _ _ _ _ _ _ = sem _ _ _ _ _ _
    rw [e_M_lengths_4, c_M_ln h ok.toL hx, bind_some', if_pos (nI_lt hk (by omega)), c_M_lengthOf h ok hx hk, bind_some', nI_add, nI_1]
    rfl
  · show sem _ _ _ _ _ _ = _
    rw [e_M_lengths_4, c_M_ln h ok.toL hx, bind_some', if_neg (nI_nlt (Nat.le_refl _) (by omega))]
theorem c_M_longest {d x : Nat} {V : Mem} {K : SKY} (h : MS V 32 0 K) (ok : okK K) (hx : x < kNX K) : clI (d + 4) m_M_longest [.inr (.inr (30, 0)), .inl (nI x)] V = some (nI (maxLen (kCe K) (kF K x) (kG K x) (kLn K x)), V) := by
  have hl := ok.toL.2.2 x hx
  refine clI_of ((e_M_longest_0 (d + 3) _ V).trans ?_)
  refine loopN (kLn K x) (fun k => sem (d + 3) 166 4 [some (.inr (.inr (30, 0))), some (.inl (nI x)), some (.inl (nI (maxLen (kCe K) (kF K x) (kG K x) k))), some (.inl (nI k))] [] V) _ (fun k hk => ?_) ?_
  · have b1 := maxLen_le k (fun i hi => ok.fc hx i (show i < kLn K x by omega))
    have b2 := lenN_le (ok.fc hx k hk).1 (ok.fc hx k hk).2
    show sem _ _ _ _ _ _ = sem _ _ _ _ _ _
    rw [e_M_longest_4, c_M_ln h ok.toL hx, bind_some', if_pos (nI_lt hk (by omega)), c_M_lengthOf h ok hx hk, bind_some', imax_nat (by omega) (by omega), nI_1]
    rfl
  · show sem _ _ _ _ _ _ = _
    rw [e_M_longest_4, c_M_ln h ok.toL hx, bind_some', if_neg (nI_nlt (Nat.le_refl _) (by omega))]
theorem c_M_used {d x : Nat} {V : Mem} {K : SKY} (h : MS V 32 0 K) (ok : okK K) (hx : x < kNX K) : clI (d + 2) m_M_used [.inr (.inr (30, 0)), .inl (nI x)] V = some (nI (usdN (kF K x) (kG K x) (kLn K x)), V) := by
  have hl := ok.toL.2.2 x hx
  refine clI_of ((e_M_used_0 (d + 1) _ V).trans ?_)
  refine loopN (kLn K x) (fun k => sem (d + 1) 168 4 [some (.inr (.inr (30, 0))), some (.inl (nI x)), some (.inl (nI (usdN (kF K x) (kG K x) k))), some (.inl (nI k))] [] V) _ (fun k hk => ?_) ?_
  · have b1 := ok.fg hx k hk
    show sem _ _ _ _ _ _ = sem _ _ _ _ _ _
    rw [e_M_used_4, c_M_ln h ok.toL hx, bind_some', if_pos (nI_lt hk (by omega)), c_M_end0 h ok.toL hx hk, bind_some', c_M_end1 h ok.toL hx hk, bind_some', shl12 (by omega), shl12 (by omega), nI_or, nI_or, nI_1]
    rfl
  · show sem _ _ _ _ _ _ = _
    rw [e_M_used_4, c_M_ln h ok.toL hx, bind_some', if_neg (nI_nlt (Nat.le_refl _) (by omega))]
theorem xor_or {a b : Nat} (h : a ≠ b) : 2 ^ a ^^^ 2 ^ b = 2 ^ a ||| 2 ^ b := by
  apply Nat.eq_of_testBit_eq
  intro k
  rw [Nat.testBit_xor, Nat.testBit_or, Nat.testBit_two_pow, Nat.testBit_two_pow]
  by_cases e : a = k
  · subst e
    have : ¬ b = a := fun w => h w.symm
    simp [this]
  · simp [e]
theorem c_M_odd {d x : Nat} {V : Mem} {K : SKY} (h : MS V 32 0 K) (ok : okK K) (hx : x < kNX K) : clI (d + 2) m_M_odd [.inr (.inr (30, 0)), .inl (nI x)] V = some (nI (oddN (kF K x) (kG K x) (kLn K x)), V) := by
  have hl := ok.toL.2.2 x hx
  refine clI_of ((e_M_odd_0 (d + 1) _ V).trans ?_)
  refine loopN (kLn K x) (fun k => sem (d + 1) 169 4 [some (.inr (.inr (30, 0))), some (.inl (nI x)), some (.inl (nI (oddN (kF K x) (kG K x) k))), some (.inl (nI k))] [] V) _ (fun k hk => ?_) ?_
  · have b1 := ok.fg hx k hk
    show sem _ _ _ _ _ _ = sem _ _ _ _ _ _
    rw [e_M_odd_4, c_M_ln h ok.toL hx, bind_some', if_pos (nI_lt hk (by omega)), c_M_end0 h ok.toL hx hk, bind_some', c_M_end1 h ok.toL hx hk, bind_some', shl12 (by omega), shl12 (by omega), nI_xor, xor_or b1.2.2, nI_xor, nI_1]
    rfl
  · show sem _ _ _ _ _ _ = _
    rw [e_M_odd_4, c_M_ln h ok.toL hx, bind_some', if_neg (nI_nlt (Nat.le_refl _) (by omega))]
theorem MS.np {V : Mem} {K : SKY} (h : MS V 32 0 K) : V.1 32 0 174 = nI (kNP K) := by have := h.1.1; rw [Nat.zero_add] at this; exact this
theorem MS.nx {V : Mem} {K : SKY} (h : MS V 32 0 K) : V.1 32 0 175 = nI (kNX K) := by have := h.1.2.1; rw [Nat.zero_add] at this; exact this
theorem MS.cl {V : Mem} {K : SKY} (h : MS V 32 0 K) : V.1 32 0 176 = nI (kCl K) := by have := h.1.2.2.1; rw [Nat.zero_add] at this; exact this
theorem MS.se {V : Mem} {K : SKY} (h : MS V 32 0 K) : V.1 32 0 177 = kSd K := by have := h.1.2.2.2; rw [Nat.zero_add] at this; exact this
theorem c_M_bright {d p : Nat} {V : Mem} {K : SKY} (h : MS V 32 0 K) (ok : okL K) (hp : p < kNP K) : clI (d + 1) m_M_bright [.inr (.inr (30, 0)), .inl (nI p)] V = some (nI (kBr K p), V) := by
  have hP := ok.1
  have a1 := (h.2.1 p hp).2.1
  rw [Nat.zero_add] at a1
  refine clI_of ((e_M_bright_0 d _ V).trans ?_)
  have e : (3 * nI p + 1 : Int32) = nI (3 * p + 1) := by simp only [fa_lit, pk_mul, nI_add]
  rw [e, if_neg (nI_in (N := 178) (by omega) (by omega)), nI_clamp (by omega), a1]
theorem c_M_kind {d x : Nat} {V : Mem} {K : SKY} (h : MS V 32 0 K) (ok : okL K) (hx : x < kNX K) : clI (d + 1) m_M_kind [.inr (.inr (30, 0)), .inl (nI x)] V = some (nI (kKi K x), V) := by
  have hX := ok.2.1
  have a1 := (h.2.2 x hx).1.1
  rw [Nat.zero_add] at a1
  refine clI_of ((e_M_kind_0 d _ V).trans ?_)
  have e : (36 + 23 * nI x : Int32) = nI (36 + 23 * x) := by simp only [fa_lit, pk_mul, nI_add]
  rw [e, if_neg (nI_in (N := 178) (by omega) (by omega)), nI_clamp (by omega), a1]
theorem c_M_a {d x : Nat} {V : Mem} {K : SKY} (h : MS V 32 0 K) (ok : okL K) (hx : x < kNX K) : clI (d + 1) m_M_a [.inr (.inr (30, 0)), .inl (nI x)] V = some (nI (kA K x), V) := by
  have hX := ok.2.1
  have a1 := (h.2.2 x hx).1.2.1
  rw [Nat.zero_add] at a1
  refine clI_of ((e_M_a_0 d _ V).trans ?_)
  have e : (36 + 23 * nI x + 1 : Int32) = nI (36 + 23 * x + 1) := by simp only [fa_lit, pk_mul, nI_add]
  rw [e, if_neg (nI_in (N := 178) (by omega) (by omega)), nI_clamp (by omega), show 36 + 23 * x + 1 = 37 + 23 * x by omega, a1]
theorem c_M_light {d x : Nat} {V : Mem} {K : SKY} (h : MS V 32 0 K) (ok : okK K) (hx : x < kNX K) : clI (d + 3) m_M_light [.inr (.inr (30, 0)), .inl (nI x)] V = some (nI (litN (kBr K) (usdN (kF K x) (kG K x) (kLn K x)) (kNP K)), V) := by
  have hP := ok.1
  have hpw : 2 ^ kNP K ≤ 2 ^ 12 := Nat.pow_le_pow_right (by omega) hP
  have lu := usdN_lt (kLn K x) (ok.fn hx)
  refine clI_of ((e_M_light_0 (d + 2) _ V).trans ?_)
  refine loopN (kNP K) (fun k => sem (d + 2) 170 4 [some (.inr (.inr (30, 0))), some (.inl (nI x)), some (.inl (nI (litN (kBr K) (usdN (kF K x) (kG K x) (kLn K x)) k))), some (.inl (nI k))] [] V) _ (fun k hk => ?_) ?_
  · show sem _ _ _ _ _ _ = sem (d + 2) 170 4 [some (.inr (.inr (30, 0))), some (.inl (nI x)), some (.inl (nI (litN (kBr K) (usdN (kF K x) (kG K x) (kLn K x)) k + (if (usdN (kF K x) (kG K x) (kLn K x)).testBit k = true then kBr K k else 0)))), some (.inl (nI (k + 1)))] [] V
    rw [e_M_light_4, h.np, if_pos (nI_lt hk (by omega)), c_M_used h ok hx, bind_some', c_M_bright h ok.toL hk, bind_some', bitAt (by omega) (by omega), bI_nat, pk_mul, nI_add, nI_1]
    by_cases e : (usdN (kF K x) (kG K x) (kLn K x)).testBit k = true
    · rw [if_pos e, if_pos e, Nat.one_mul]
    · rw [if_neg e, if_neg e, Nat.zero_mul]
  · show sem _ _ _ _ _ _ = _
    rw [e_M_light_4, h.np, if_neg (nI_nlt (Nat.le_refl _) (by omega))]
theorem c_M_piece {d x p : Nat} {V : Mem} {K : SKY} (h : MS V 32 0 K) (ok : okK K) (hx : x < kNX K) (hp : p < kNP K) : clI (d + 2) m_M_piece [.inr (.inr (30, 0)), .inl (nI x), .inl (nI p)] V = some (nI (itr (kF K x) (kG K x) (kLn K x) 12 (2 ^ p)), V) := by
  have hP := ok.1
  have hpw : 2 ^ kNP K ≤ 2 ^ 12 := Nat.pow_le_pow_right (by omega) hP
  have hl := ok.toL.2.2 x hx
  have lp : 2 ^ p < 2 ^ kNP K := Nat.pow_lt_pow_right (by omega) hp
  have inner : ∀ (c : Nat), c < 2 ^ kNP K → ∀ x4 : Int32, sem (d + 1) 171 17 [some (.inr (.inr (30, 0))), some (.inl (nI x)), some (.inl (nI p)), some (.inl (nI c)), some (.inl x4), some (.inl 0), none] [] V = sem (d + 1) 171 7 [some (.inr (.inr (30, 0))), some (.inl (nI x)), some (.inl (nI p)), some (.inl (nI (swp (kF K x) (kG K x) (kLn K x) c))), some (.inl (x4 + 1)), none, none] [] V := by
    intro c hc x4
    refine loopN (kLn K x) (fun k => sem (d + 1) 171 17 [some (.inr (.inr (30, 0))), some (.inl (nI x)), some (.inl (nI p)), some (.inl (nI (swp (kF K x) (kG K x) k c))), some (.inl x4), some (.inl (nI k)), none] [] V) _ (fun k hk => ?_) ?_
    · have b1 := ok.fg hx k hk
      have l1 := swp_lt (f := kF K x) (g := kG K x) hc k (fun i hi => ok.fn hx i (by omega))
      have l2 := endB_lt (ok.fn hx k hk).1 (ok.fn hx k hk).2
      have l3 : swp (kF K x) (kG K x) k c &&& endB (kF K x) (kG K x) k ≤ swp (kF K x) (kG K x) k c := Nat.and_le_left
      show sem _ _ _ _ _ _ = sem (d + 1) 171 17 [some (.inr (.inr (30, 0))), some (.inl (nI x)), some (.inl (nI p)), some (.inl (nI (if swp (kF K x) (kG K x) k c &&& endB (kF K x) (kG K x) k = 0 then swp (kF K x) (kG K x) k c else swp (kF K x) (kG K x) k c ||| endB (kF K x) (kG K x) k))), some (.inl x4), some (.inl (nI (k + 1))), none] [] V
      rw [e_M_piece_17, c_M_ln h ok.toL hx, bind_some', if_pos (nI_lt hk (by omega)), c_M_end0 h ok.toL hx hk, bind_some', c_M_end1 h ok.toL hx hk, bind_some', shl12 (by omega), shl12 (by omega), nI_or, nI_and]
      show (if nI (swp (kF K x) (kG K x) k c &&& endB (kF K x) (kG K x) k) = 0 then _ else _) = _
      by_cases e : swp (kF K x) (kG K x) k c &&& endB (kF K x) (kG K x) k = 0
      · rw [if_pos (show nI (swp (kF K x) (kG K x) k c &&& endB (kF K x) (kG K x) k) = 0 by rw [e]; rfl), if_pos e, e_M_piece_64, show (0 : Int32) = nI 0 from rfl, nI_or, Nat.or_zero, nI_1]
      · rw [if_neg (nI_ne0 (by omega) (by omega)), if_neg e, e_M_piece_64, nI_or, nI_1]
        rfl
    · show sem _ _ _ _ _ _ = _
      rw [e_M_piece_17, c_M_ln h ok.toL hx, bind_some', if_neg (nI_nlt (Nat.le_refl _) (by omega))]
  have outer : ∀ m k c, k + m = 12 → c < 2 ^ kNP K → sem (d + 1) 171 7 [some (.inr (.inr (30, 0))), some (.inl (nI x)), some (.inl (nI p)), some (.inl (nI c)), some (.inl (nI k)), none, none] [] V = some (some (.inl (nI (itr (kF K x) (kG K x) (kLn K x) m c))), V) := by
    intro m
    induction m with
    | zero =>
      intro k c hk hc
      obtain rfl : k = 12 := by omega
      rw [e_M_piece_7, if_neg (show ¬ nI 12 < 12 by decide)]
      rfl
    | succ m ih =>
      intro k c hk hc
      rw [e_M_piece_7, if_pos (show nI k < 12 from nI_lt (b := 12) (by omega) (by omega)), inner c hc, nI_1]
      exact ih (k + 1) _ (by omega) (swp_lt hc _ (ok.fn hx))
  refine clI_of ((e_M_piece_0 (d + 1) _ _ V).trans ?_)
  rw [shl12 (by omega)]
  exact outer 12 0 (2 ^ p) (by omega) lp
def sel (z : Bool) (r : Nat × Nat) : Nat := bif z then r.2 else r.1
theorem c_M_pieces {d x : Nat} (z : Bool) {V : Mem} {K : SKY} (h : MS V 32 0 K) (ok : okK K) (hx : x < kNX K) : clI (d + 3) m_M_pieces [.inr (.inr (30, 0)), .inl (nI x), .inl (bI (z = true))] V = some (nI (sel z (pcN (kF K x) (kG K x) (kLn K x) (kNP K))), V) := by
  have hP := ok.1
  have hpw : 2 ^ kNP K ≤ 2 ^ 12 := Nat.pow_le_pow_right (by omega) hP
  have hl := ok.toL.2.2 x hx
  have lo := oddN_lt (kLn K x) (ok.fn hx)
  have lu := usdN_lt (kLn K x) (ok.fn hx)
  have main : ∀ m p l (r : Nat × Nat), p + m = kNP K → l < 2 ^ kNP K → sem (d + 2) 172 12 [some (.inr (.inr (30, 0))), some (.inl (nI x)), some (.inl (bI (z = true))), some (.inl (nI l)), some (.inl (nI (sel z r))), some (.inl (nI p)), none] [] V = some (some (.inl (nI (sel z (cpN (kF K x) (kG K x) (kLn K x) (oddN (kF K x) (kG K x) (kLn K x)) m p l r)))), V) := by
    intro m
    induction m with
    | zero =>
      intro p l r hm hll
      rw [e_M_pieces_12, h.np, if_neg (nI_nlt (by omega) (by omega))]
      rfl
    | succ m ih =>
      intro p l r hm hll
      rw [e_M_pieces_12, h.np, if_pos (nI_lt (by omega) (by omega)), bitAt (by omega) (by omega)]
      by_cases e : l.testBit p = true
      · have lp : 2 ^ p < 2 ^ kNP K := Nat.pow_lt_pow_right (by omega) (by omega)
        have li := itr_lt (ok.fn hx) 12 (2 ^ p) lp
        have la : oddN (kF K x) (kG K x) (kLn K x) &&& itr (kF K x) (kG K x) (kLn K x) 12 (2 ^ p) ≤ oddN (kF K x) (kG K x) (kLn K x) := Nat.and_le_left
        have l1 := onesN_le (oddN (kF K x) (kG K x) (kLn K x) &&& itr (kF K x) (kG K x) (kLn K x) 12 (2 ^ p)) 12
        rw [show cpN (kF K x) (kG K x) (kLn K x) (oddN (kF K x) (kG K x) (kLn K x)) (m + 1) p l r = cpN (kF K x) (kG K x) (kLn K x) (oddN (kF K x) (kG K x) (kLn K x)) m (p + 1) (clr l (itr (kF K x) (kG K x) (kLn K x) 12 (2 ^ p))) (r.1 + 1, r.2 + max 1 (onesN (oddN (kF K x) (kG K x) (kLn K x) &&& itr (kF K x) (kG K x) (kLn K x) 12 (2 ^ p)) 12 / 2)) from if_pos e]
        rw [bI_t e, if_pos rfl, c_M_piece h ok hx (by omega), bind_some', nI_clr]
        refine Eq.trans ?_ (ih (p + 1) _ _ (by omega) (clr_lt hll))
        cases z with
        | false =>
          rw [bI_f (by simp), if_pos rfl, e_M_pieces_78, e_M_pieces_81v2, nI_1, nI_1]
          rfl
        | true =>
          rw [bI_t rfl, if_neg one_ne, c_M_odd h ok hx, bind_some', nI_and, Nat.and_comm, c_M_ones (by omega), bind_some', e_M_pieces_78, e_M_pieces_81v2, nI_1, show (2 : Int32) = nI 2 from rfl, pk_div (by omega) (by omega) (by omega), show (1 : Int32) = nI 1 from rfl, imax_nat (by omega) (by omega), nI_add]
          rfl
      · rw [show cpN (kF K x) (kG K x) (kLn K x) (oddN (kF K x) (kG K x) (kLn K x)) (m + 1) p l r = cpN (kF K x) (kG K x) (kLn K x) (oddN (kF K x) (kG K x) (kLn K x)) m (p + 1) l r from if_neg e]
        rw [bI_f e, if_neg (by decide), e_M_pieces_81, nI_1]
        exact ih (p + 1) l r (by omega) hll
  refine clI_of ((e_M_pieces_0 (d + 2) _ _ V).trans ?_)
  rw [c_M_used h ok hx, bind_some']
  have := main (kNP K) 0 _ (0, 0) (by omega) lu
  have e0 : sel z (0, 0) = 0 := by cases z <;> rfl
  rw [e0] at this
  exact this
theorem c_M_isClosed {d x : Nat} {V : Mem} {K : SKY} (h : MS V 32 0 K) (ok : okK K) (hx : x < kNX K) : clI (d + 3) m_M_isClosed [.inr (.inr (30, 0)), .inl (nI x)] V = some (bI (0 < kLn K x ∧ oddN (kF K x) (kG K x) (kLn K x) = 0), V) := by
  have hP := ok.1
  have hpw : 2 ^ kNP K ≤ 2 ^ 12 := Nat.pow_le_pow_right (by omega) hP
  have hl := ok.toL.2.2 x hx
  have lo := oddN_lt (kLn K x) (ok.fn hx)
  refine clI_of ((e_M_isClosed_0 (d + 2) _ V).trans ?_)
  rw [c_M_ln h ok.toL hx, bind_some']
  by_cases a : 0 < kLn K x
  · rw [if_pos (show 0 < nI (kLn K x) from nI_lt (a := 0) a (by omega)), c_M_odd h ok hx, bind_some']
    by_cases b : oddN (kF K x) (kG K x) (kLn K x) = 0
    · rw [if_pos (by rw [b]; rfl), bI_t ⟨a, b⟩]
    · rw [if_neg (nI_ne0 (by omega) (by omega)), bI_f (fun w => b w.2)]
  · rw [if_neg (show ¬ 0 < nI (kLn K x) from nI_nlt (b := kLn K x) (a := 0) (by omega) (by omega)), bI_f (fun w => a w.1)]
theorem c_M_worth {d x : Nat} {V : Mem} {K : SKY} (h : MS V 32 0 K) (ok : okK K) (hx : x < kNX K) : clI (d + 5) m_M_worth [.inr (.inr (30, 0)), .inl (nI x)] V = some (nI (wK K x), V) := by
  have hP := ok.1
  have hl := ok.toL.2.2 x hx
  have hk := (ok.2.2.2.2 x hx).1.1
  have b1 := litN_le (m := usdN (kF K x) (kG K x) (kLn K x)) (kNP K) ok.br
  have b2 := maxLen_le (kLn K x) (ok.fc hx)
  have b3 := sumLen_le (kLn K x) (ok.fc hx)
  have b4 := pcN_le (kF K x) (kG K x) (kLn K x) (kNP K)
  have nk : ∀ n, n < 6 → kKi K x ≠ n → ¬ nI (kKi K x) = nI n := fun n hn hne w => hne ((nI_eq (by omega) (by omega)).mp w)
  have PP : clI (d + 4) 172 [.inr (.inr (30, 0)), .inl (nI x), .inl 1] V = some (nI (pcN (kF K x) (kG K x) (kLn K x) (kNP K)).2, V) := c_M_pieces (d := d + 1) true h ok hx
  refine clI_of ((e_M_worth_0 (d + 4) _ V).trans ?_)
  rw [c_M_light h ok hx, bind_some', c_M_ln h ok.toL hx, bind_some', c_M_kind h ok.toL hx, bind_some', nI_add]
  unfold wK wrt worN
  by_cases k1 : kKi K x = 1
  · rw [k1, if_pos (show nI 1 = 1 from rfl), if_pos rfl, e_M_worth_28, c_M_longest h ok hx, bind_some', if_neg (show ¬ nI 1 = 3 by decide), show (3 : Int32) = nI 3 from rfl, pk_mul, nI_add]
  · rw [if_neg (show ¬ nI (kKi K x) = 1 from nk 1 (by omega) k1), if_neg k1]
    by_cases k3 : kKi K x = 3
    · rw [k3, if_pos (show nI 3 = 3 from rfl), if_pos rfl, e_M_worth_28, c_M_longest h ok hx, bind_some', if_pos (show nI 3 = 3 from rfl), show (3 : Int32) = nI 3 from rfl, pk_mul, nI_add, show (2 : Int32) = nI 2 from rfl, pk_mul]
    · rw [if_neg (show ¬ nI (kKi K x) = 3 from nk 3 (by omega) k3), if_neg k3]
      by_cases k2 : kKi K x = 2
      · rw [k2, if_pos (show nI 2 = 2 from rfl), if_pos rfl, e_M_worth_64, PP, bind_some', if_neg (show ¬ nI 2 = 4 by decide), show (2 : Int32) = nI 2 from rfl, pk_mul, imax0_sub (by omega) (by omega)]
      · rw [if_neg (show ¬ nI (kKi K x) = 2 from nk 2 (by omega) k2), if_neg k2]
        by_cases k4 : kKi K x = 4
        · rw [k4, if_pos (show nI 4 = 4 from rfl), if_pos rfl, e_M_worth_64, PP, bind_some', if_pos (show nI 4 = 4 from rfl), c_M_lengths h ok hx, bind_some', show (2 : Int32) = nI 2 from rfl, pk_mul, imax0_sub (by omega) (by omega), imax0_sub (by omega) (by omega)]
        · rw [if_neg (show ¬ nI (kKi K x) = 4 from nk 4 (by omega) k4), if_neg k4]
          by_cases k5 : kKi K x = 5
          · rw [k5, if_pos (show nI 5 = 5 from rfl), c_M_isClosed h ok hx, bind_some']
            by_cases e : 0 < kLn K x ∧ oddN (kF K x) (kG K x) (kLn K x) = 0
            · rw [bI_t e, if_neg one_ne, c_M_a h ok.toL hx, bind_some', if_pos ⟨rfl, e⟩, nI_add]
            · rw [bI_f e, if_pos rfl, if_neg (fun w => e w.2)]
          · rw [if_neg (show ¬ nI (kKi K x) = 5 from nk 5 (by omega) k5), if_neg (fun w => k5 w.1)]
