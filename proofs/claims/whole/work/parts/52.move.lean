/-! the reference's move of a sky -/
theorem mv32_34 (d : Nat) {o u : Nat} (ho : o + 178 ≤ 178) (hu : u + 178 ≤ 178) (F : Nat → Nat → Nat → Int32) (G : Nat → Nat → Nat → Int64) : ∀ m p, p + m = 178 → sem d 130 3 [some (.inr (.inr (32, 0))), some (.inl (nI o)), some (.inr (.inr (34, 0))), some (.inl (nI u)), some (.inl (nI p))] [] (mcpy F 32 0 o 34 0 u p, G) = some (none, (mcpy F 32 0 o 34 0 u 178, G)) := by
  intro m
  induction m with
  | zero =>
    intro p hp
    obtain rfl : p = 178 := by omega
    rw [e_M_move_t32_34_3, if_neg (show ¬ nI 178 < 178 from nI_nlt (b := 178) (by omega) (by omega))]
  | succ m ih =>
    intro p hp
    rw [e_M_move_t32_34_3, if_pos (show nI p < 178 from nI_lt (b := 178) (by omega) (by omega))]
    simp (disch := omega) only [fa_lit, nI_add, nI_clamp, nI_ltI]
    rw [if_neg (by omega), if_neg (by omega)]
    refine Eq.trans ?_ (ih (p + 1) (by omega))
    have e : mset (mcpy F 32 0 o 34 0 u p) 34 0 (u + p) (mcpy F 32 0 o 34 0 u p 32 0 (o + p)) = mcpy F 32 0 o 34 0 u (p + 1) := by
      funext t' i' k'
      unfold mset mcpy
      by_cases h : t' = 34 ∧ i' = 0 ∧ k' = u + p
      · obtain ⟨rfl, rfl, rfl⟩ := h
        rw [if_pos ⟨rfl, rfl, rfl⟩, if_neg (by omega), if_pos (by omega), show o + (u + p - u) = o + p by omega]
      · rw [if_neg h]
        by_cases h2 : t' = 34 ∧ i' = 0 ∧ u ≤ k' ∧ k' < u + p
        · rw [if_pos h2, if_pos (by omega)]
        · rw [if_neg h2, if_neg (by omega)]
    rw [e]
theorem c_mv32_34 {d o u : Nat} (ho : o + 178 ≤ 178) (hu : u + 178 ≤ 178) (V : Mem) : clV (d + 1) m_M_move [.inr (.inr (32, 0)), .inl (nI o), .inr (.inr (34, 0)), .inl (nI u)] V = some (mcpy V.1 32 0 o 34 0 u 178, V.2) := by
  apply clV_of
  refine (e_M_move_t32_34_0 d (nI o) (nI u) V).trans ?_
  have := mv32_34 d ho hu V.1 V.2 178 0 (by omega)
  rw [mcpy_0] at this
  exact this
theorem mv34_32 (d : Nat) {o u : Nat} (ho : o + 178 ≤ 178) (hu : u + 178 ≤ 178) (F : Nat → Nat → Nat → Int32) (G : Nat → Nat → Nat → Int64) : ∀ m p, p + m = 178 → sem d 130 3 [some (.inr (.inr (34, 0))), some (.inl (nI o)), some (.inr (.inr (32, 0))), some (.inl (nI u)), some (.inl (nI p))] [] (mcpy F 34 0 o 32 0 u p, G) = some (none, (mcpy F 34 0 o 32 0 u 178, G)) := by
  intro m
  induction m with
  | zero =>
    intro p hp
    obtain rfl : p = 178 := by omega
    rw [e_M_move_t34_32_3, if_neg (show ¬ nI 178 < 178 from nI_nlt (b := 178) (by omega) (by omega))]
  | succ m ih =>
    intro p hp
    rw [e_M_move_t34_32_3, if_pos (show nI p < 178 from nI_lt (b := 178) (by omega) (by omega))]
    simp (disch := omega) only [fa_lit, nI_add, nI_clamp, nI_ltI]
    rw [if_neg (by omega), if_neg (by omega)]
    refine Eq.trans ?_ (ih (p + 1) (by omega))
    have e : mset (mcpy F 34 0 o 32 0 u p) 32 0 (u + p) (mcpy F 34 0 o 32 0 u p 34 0 (o + p)) = mcpy F 34 0 o 32 0 u (p + 1) := by
      funext t' i' k'
      unfold mset mcpy
      by_cases h : t' = 32 ∧ i' = 0 ∧ k' = u + p
      · obtain ⟨rfl, rfl, rfl⟩ := h
        rw [if_pos ⟨rfl, rfl, rfl⟩, if_neg (by omega), if_pos (by omega), show o + (u + p - u) = o + p by omega]
      · rw [if_neg h]
        by_cases h2 : t' = 32 ∧ i' = 0 ∧ u ≤ k' ∧ k' < u + p
        · rw [if_pos h2, if_pos (by omega)]
        · rw [if_neg h2, if_neg (by omega)]
    rw [e]
theorem c_mv34_32 {d o u : Nat} (ho : o + 178 ≤ 178) (hu : u + 178 ≤ 178) (V : Mem) : clV (d + 1) m_M_move [.inr (.inr (34, 0)), .inl (nI o), .inr (.inr (32, 0)), .inl (nI u)] V = some (mcpy V.1 34 0 o 32 0 u 178, V.2) := by
  apply clV_of
  refine (e_M_move_t34_32_0 d (nI o) (nI u) V).trans ?_
  have := mv34_32 d ho hu V.1 V.2 178 0 (by omega)
  rw [mcpy_0] at this
  exact this
theorem mv32_33 (d : Nat) {o u : Nat} (ho : o + 178 ≤ 178) (hu : u + 178 ≤ 178) (F : Nat → Nat → Nat → Int32) (G : Nat → Nat → Nat → Int64) : ∀ m p, p + m = 178 → sem d 130 3 [some (.inr (.inr (32, 0))), some (.inl (nI o)), some (.inr (.inr (33, 0))), some (.inl (nI u)), some (.inl (nI p))] [] (mcpy F 32 0 o 33 0 u p, G) = some (none, (mcpy F 32 0 o 33 0 u 178, G)) := by
  intro m
  induction m with
  | zero =>
    intro p hp
    obtain rfl : p = 178 := by omega
    rw [e_M_move_t32_33_3, if_neg (show ¬ nI 178 < 178 from nI_nlt (b := 178) (by omega) (by omega))]
  | succ m ih =>
    intro p hp
    rw [e_M_move_t32_33_3, if_pos (show nI p < 178 from nI_lt (b := 178) (by omega) (by omega))]
    simp (disch := omega) only [fa_lit, nI_add, nI_clamp, nI_ltI]
    rw [if_neg (by omega), if_neg (by omega)]
    refine Eq.trans ?_ (ih (p + 1) (by omega))
    have e : mset (mcpy F 32 0 o 33 0 u p) 33 0 (u + p) (mcpy F 32 0 o 33 0 u p 32 0 (o + p)) = mcpy F 32 0 o 33 0 u (p + 1) := by
      funext t' i' k'
      unfold mset mcpy
      by_cases h : t' = 33 ∧ i' = 0 ∧ k' = u + p
      · obtain ⟨rfl, rfl, rfl⟩ := h
        rw [if_pos ⟨rfl, rfl, rfl⟩, if_neg (by omega), if_pos (by omega), show o + (u + p - u) = o + p by omega]
      · rw [if_neg h]
        by_cases h2 : t' = 33 ∧ i' = 0 ∧ u ≤ k' ∧ k' < u + p
        · rw [if_pos h2, if_pos (by omega)]
        · rw [if_neg h2, if_neg (by omega)]
    rw [e]
theorem c_mv32_33 {d o u : Nat} (ho : o + 178 ≤ 178) (hu : u + 178 ≤ 178) (V : Mem) : clV (d + 1) m_M_move [.inr (.inr (32, 0)), .inl (nI o), .inr (.inr (33, 0)), .inl (nI u)] V = some (mcpy V.1 32 0 o 33 0 u 178, V.2) := by
  apply clV_of
  refine (e_M_move_t32_33_0 d (nI o) (nI u) V).trans ?_
  have := mv32_33 d ho hu V.1 V.2 178 0 (by omega)
  rw [mcpy_0] at this
  exact this
theorem mv33_32 (d : Nat) {o u : Nat} (ho : o + 178 ≤ 178) (hu : u + 178 ≤ 178) (F : Nat → Nat → Nat → Int32) (G : Nat → Nat → Nat → Int64) : ∀ m p, p + m = 178 → sem d 130 3 [some (.inr (.inr (33, 0))), some (.inl (nI o)), some (.inr (.inr (32, 0))), some (.inl (nI u)), some (.inl (nI p))] [] (mcpy F 33 0 o 32 0 u p, G) = some (none, (mcpy F 33 0 o 32 0 u 178, G)) := by
  intro m
  induction m with
  | zero =>
    intro p hp
    obtain rfl : p = 178 := by omega
    rw [e_M_move_t33_32_3, if_neg (show ¬ nI 178 < 178 from nI_nlt (b := 178) (by omega) (by omega))]
  | succ m ih =>
    intro p hp
    rw [e_M_move_t33_32_3, if_pos (show nI p < 178 from nI_lt (b := 178) (by omega) (by omega))]
    simp (disch := omega) only [fa_lit, nI_add, nI_clamp, nI_ltI]
    rw [if_neg (by omega), if_neg (by omega)]
    refine Eq.trans ?_ (ih (p + 1) (by omega))
    have e : mset (mcpy F 33 0 o 32 0 u p) 32 0 (u + p) (mcpy F 33 0 o 32 0 u p 33 0 (o + p)) = mcpy F 33 0 o 32 0 u (p + 1) := by
      funext t' i' k'
      unfold mset mcpy
      by_cases h : t' = 32 ∧ i' = 0 ∧ k' = u + p
      · obtain ⟨rfl, rfl, rfl⟩ := h
        rw [if_pos ⟨rfl, rfl, rfl⟩, if_neg (by omega), if_pos (by omega), show o + (u + p - u) = o + p by omega]
      · rw [if_neg h]
        by_cases h2 : t' = 32 ∧ i' = 0 ∧ u ≤ k' ∧ k' < u + p
        · rw [if_pos h2, if_pos (by omega)]
        · rw [if_neg h2, if_neg (by omega)]
    rw [e]
theorem c_mv33_32 {d o u : Nat} (ho : o + 178 ≤ 178) (hu : u + 178 ≤ 178) (V : Mem) : clV (d + 1) m_M_move [.inr (.inr (33, 0)), .inl (nI o), .inr (.inr (32, 0)), .inl (nI u)] V = some (mcpy V.1 33 0 o 32 0 u 178, V.2) := by
  apply clV_of
  refine (e_M_move_t33_32_0 d (nI o) (nI u) V).trans ?_
  have := mv33_32 d ho hu V.1 V.2 178 0 (by omega)
  rw [mcpy_0] at this
  exact this
theorem mv32_40 (d : Nat) {o u : Nat} (ho : o + 178 ≤ 178) (hu : u + 178 ≤ 890) (F : Nat → Nat → Nat → Int32) (G : Nat → Nat → Nat → Int64) : ∀ m p, p + m = 178 → sem d 130 3 [some (.inr (.inr (32, 0))), some (.inl (nI o)), some (.inr (.inr (40, 0))), some (.inl (nI u)), some (.inl (nI p))] [] (mcpy F 32 0 o 40 0 u p, G) = some (none, (mcpy F 32 0 o 40 0 u 178, G)) := by
  intro m
  induction m with
  | zero =>
    intro p hp
    obtain rfl : p = 178 := by omega
    rw [e_M_move_t32_40_3, if_neg (show ¬ nI 178 < 178 from nI_nlt (b := 178) (by omega) (by omega))]
  | succ m ih =>
    intro p hp
    rw [e_M_move_t32_40_3, if_pos (show nI p < 178 from nI_lt (b := 178) (by omega) (by omega))]
    simp (disch := omega) only [fa_lit, nI_add, nI_clamp, nI_ltI]
    rw [if_neg (by omega), if_neg (by omega)]
    refine Eq.trans ?_ (ih (p + 1) (by omega))
    have e : mset (mcpy F 32 0 o 40 0 u p) 40 0 (u + p) (mcpy F 32 0 o 40 0 u p 32 0 (o + p)) = mcpy F 32 0 o 40 0 u (p + 1) := by
      funext t' i' k'
      unfold mset mcpy
      by_cases h : t' = 40 ∧ i' = 0 ∧ k' = u + p
      · obtain ⟨rfl, rfl, rfl⟩ := h
        rw [if_pos ⟨rfl, rfl, rfl⟩, if_neg (by omega), if_pos (by omega), show o + (u + p - u) = o + p by omega]
      · rw [if_neg h]
        by_cases h2 : t' = 40 ∧ i' = 0 ∧ u ≤ k' ∧ k' < u + p
        · rw [if_pos h2, if_pos (by omega)]
        · rw [if_neg h2, if_neg (by omega)]
    rw [e]
theorem c_mv32_40 {d o u : Nat} (ho : o + 178 ≤ 178) (hu : u + 178 ≤ 890) (V : Mem) : clV (d + 1) m_M_move [.inr (.inr (32, 0)), .inl (nI o), .inr (.inr (40, 0)), .inl (nI u)] V = some (mcpy V.1 32 0 o 40 0 u 178, V.2) := by
  apply clV_of
  refine (e_M_move_t32_40_0 d (nI o) (nI u) V).trans ?_
  have := mv32_40 d ho hu V.1 V.2 178 0 (by omega)
  rw [mcpy_0] at this
  exact this
theorem mv40_32 (d : Nat) {o u : Nat} (ho : o + 178 ≤ 890) (hu : u + 178 ≤ 178) (F : Nat → Nat → Nat → Int32) (G : Nat → Nat → Nat → Int64) : ∀ m p, p + m = 178 → sem d 130 3 [some (.inr (.inr (40, 0))), some (.inl (nI o)), some (.inr (.inr (32, 0))), some (.inl (nI u)), some (.inl (nI p))] [] (mcpy F 40 0 o 32 0 u p, G) = some (none, (mcpy F 40 0 o 32 0 u 178, G)) := by
  intro m
  induction m with
  | zero =>
    intro p hp
    obtain rfl : p = 178 := by omega
    rw [e_M_move_t40_32_3, if_neg (show ¬ nI 178 < 178 from nI_nlt (b := 178) (by omega) (by omega))]
  | succ m ih =>
    intro p hp
    rw [e_M_move_t40_32_3, if_pos (show nI p < 178 from nI_lt (b := 178) (by omega) (by omega))]
    simp (disch := omega) only [fa_lit, nI_add, nI_clamp, nI_ltI]
    rw [if_neg (by omega), if_neg (by omega)]
    refine Eq.trans ?_ (ih (p + 1) (by omega))
    have e : mset (mcpy F 40 0 o 32 0 u p) 32 0 (u + p) (mcpy F 40 0 o 32 0 u p 40 0 (o + p)) = mcpy F 40 0 o 32 0 u (p + 1) := by
      funext t' i' k'
      unfold mset mcpy
      by_cases h : t' = 32 ∧ i' = 0 ∧ k' = u + p
      · obtain ⟨rfl, rfl, rfl⟩ := h
        rw [if_pos ⟨rfl, rfl, rfl⟩, if_neg (by omega), if_pos (by omega), show o + (u + p - u) = o + p by omega]
      · rw [if_neg h]
        by_cases h2 : t' = 32 ∧ i' = 0 ∧ u ≤ k' ∧ k' < u + p
        · rw [if_pos h2, if_pos (by omega)]
        · rw [if_neg h2, if_neg (by omega)]
    rw [e]
theorem c_mv40_32 {d o u : Nat} (ho : o + 178 ≤ 890) (hu : u + 178 ≤ 178) (V : Mem) : clV (d + 1) m_M_move [.inr (.inr (40, 0)), .inl (nI o), .inr (.inr (32, 0)), .inl (nI u)] V = some (mcpy V.1 40 0 o 32 0 u 178, V.2) := by
  apply clV_of
  refine (e_M_move_t40_32_0 d (nI o) (nI u) V).trans ?_
  have := mv40_32 d ho hu V.1 V.2 178 0 (by omega)
  rw [mcpy_0] at this
  exact this
theorem MS.moved {V : Mem} {K : SKY} {a b o u : Nat} (h : MS V a o K) (ok : okK K) : MS (mcpy V.1 a 0 o b 0 u 178, V.2) b u K := by
  obtain ⟨⟨h1, h2, h3, h4⟩, h5, h6⟩ := h
  have hp := ok.1
  have hx := ok.2.1
  have e : ∀ j, j < 178 → mcpy V.1 a 0 o b 0 u 178 b 0 (u + j) = V.1 a 0 (o + j) := fun j hj => by
    rw [mcpy_in (by omega), show o + (u + j - u) = o + j by omega]
  have e' : ∀ i j, i < 178 → i = u + j → True := fun _ _ _ _ => trivial
  refine ⟨⟨(e 174 (by omega)).trans h1, (e 175 (by omega)).trans h2, (e 176 (by omega)).trans h3, (e 177 (by omega)).trans h4⟩, fun p hp2 => ?_, fun x hx2 => ?_⟩
  · obtain ⟨g1, g2, g3⟩ := h5 p hp2
    refine ⟨(e (3 * p) (by omega)).trans g1, ?_, ?_⟩
    · rw [Nat.add_assoc] at g2 ⊢
      exact (e (3 * p + 1) (by omega)).trans g2
    · rw [Nat.add_assoc] at g3 ⊢
      exact (e (3 * p + 2) (by omega)).trans g3
  · have hl := (ok.2.2.2.2 x hx2).1.2.2
    obtain ⟨⟨g1, g2, g3⟩, g4⟩ := h6 x hx2
    refine ⟨⟨?_, ?_, ?_⟩, fun i hi => ⟨?_, ?_⟩⟩
    · rw [Nat.add_assoc] at g1 ⊢
      exact (e (36 + 23 * x) (by omega)).trans g1
    · rw [Nat.add_assoc] at g2 ⊢
      exact (e (37 + 23 * x) (by omega)).trans g2
    · rw [Nat.add_assoc] at g3 ⊢
      exact (e (38 + 23 * x) (by omega)).trans g3
    · have := (g4 i hi).1
      rw [show o + 39 + 23 * x + 2 * i = o + (39 + 23 * x + 2 * i) by omega] at this
      rw [show u + 39 + 23 * x + 2 * i = u + (39 + 23 * x + 2 * i) by omega]
      exact (e _ (by omega)).trans this
    · have := (g4 i hi).2
      rw [show o + 39 + 23 * x + 2 * i + 1 = o + (39 + 23 * x + 2 * i + 1) by omega] at this
      rw [show u + 39 + 23 * x + 2 * i + 1 = u + (39 + 23 * x + 2 * i + 1) by omega]
      exact (e _ (by omega)).trans this
