/-! LINES: finding one -/
abbrev eqL (a b p q : Nat) : Prop := a = p ∧ b = q ∨ a = q ∧ b = p
theorem pair_bits {a b p q : Nat} (h : a ≠ b) (h' : p ≠ q) : (2 ^ a ||| 2 ^ b = 2 ^ p ||| 2 ^ q) ↔ eqL a b p q := by
  constructor
  · intro e
    have t : ∀ k, (decide (a = k) || decide (b = k)) = (decide (p = k) || decide (q = k)) := fun k => by
      have := congrArg (fun z => z.testBit k) e
      simpa only [Nat.testBit_or, Nat.testBit_two_pow] using this
    have ta := t a
    have tb := t b
    have tp := t p
    simp only [decide_true, Bool.true_or, Bool.or_true, Bool.true_eq, Bool.or_eq_true, decide_eq_true_eq] at ta tb
    omega
  · rintro (⟨rfl, rfl⟩ | ⟨rfl, rfl⟩)
    · rfl
    · exact Nat.or_comm _ _
theorem shl12 {p : Nat} (h : p < 31) : (1 : Int32) <<< (nI p &&& 31) = nI (2 ^ p) := shl1 p h
theorem pw_lt {a : Nat} (h : a < 12) : 2 ^ a < 2 ^ 12 := Nat.pow_lt_pow_right (by omega) h
theorem por_lt {a b : Nat} (h : a < 12) (h2 : b < 12) : 2 ^ a ||| 2 ^ b < 2 ^ 12 := Nat.or_lt_two_pow (pw_lt h) (pw_lt h2)
theorem c_ends {d j ki a wm ln i : Nat} {f g : Nat → Nat} {V : Mem} (h : CPar V j ki a wm ln f g) (hl : ln ≤ 10) (hi : i < ln) (hf : f i < 12) (hg : g i < 12) : clI (d + 1) m_Parish_ends [.inr (.inr (5, j)), .inl (nI i)] V = some (nI (2 ^ f i ||| 2 ^ g i), V) := by
  apply clI_of
  refine (e_Parish_ends_0 d j (nI i) V).trans ?_
  rw [if_neg (nI_in (N := 10) (by omega) (by omega)), if_neg (nI_in (N := 10) (by omega) (by omega)), nI_clamp (by omega), (h.2.2.2.2 i hi).1, (h.2.2.2.2 i hi).2, shl12 (by omega), shl12 (by omega), nI_or]
theorem find2 (d j ki a wm ln : Nat) (f g : Nat → Nat) (V : Mem) (h : CPar V j ki a wm ln f g) (hl : ln ≤ 10) (hf : ∀ i, i < ln → f i < 12 ∧ g i < 12 ∧ f i ≠ g i) (p q : Nat) (hp : p < 12) (hq : q < 12) (hpq : p ≠ q) (r : Int32) : ∀ m k, k + m = ln → (∀ i, i < k → ¬ eqL (f i) (g i) p q) → ((∀ i, i < ln → ¬ eqL (f i) (g i) p q) → r = -1) → (∀ i, i < ln → eqL (f i) (g i) p q → (∀ u, u < i → ¬ eqL (f u) (g u) p q) → r = nI i) → sem (d + 1) 17 2 [some (.inr (.inr (5, j))), some (.inl (nI (2 ^ p ||| 2 ^ q))), some (.inl (nI k))] [] V = some (some (.inl r), V) := by
  intro m
  induction m with
  | zero =>
    intro k hk h1 h2 h3
    obtain rfl : k = ln := by omega
    rw [e_Parish_find_2, h.2.2.2.1, if_neg (nI_nlt (by omega) (by omega)), h2 h1]
  | succ m ih =>
    intro k hk h1 h2 h3
    obtain ⟨f1, f2, f3⟩ := hf k (by omega)
    have l1 := por_lt f1 f2
    have l2 := por_lt hp hq
    rw [e_Parish_find_2, h.2.2.2.1, if_pos (nI_lt (by omega) (by omega)), c_ends h hl (by omega) f1 f2, bind_some']
    by_cases e : eqL (f k) (g k) p q
    · rw [if_pos (by rw [(pair_bits f3 hpq).mpr e]), h3 k (by omega) e h1]
    · rw [if_neg (fun w => e ((pair_bits f3 hpq).mp ((nI_eq (by omega) (by omega)).mp w))), nI_1]
      exact ih (k + 1) (by omega) (fun i hi => by
        by_cases e2 : i = k
        · rw [e2]; exact e
        · exact h1 i (by omega)) h2 h3
theorem drawn6 (d : Nat) {V : Mem} {K : SKY} (h : MS V 32 0 K) (ok : okK K) {x : Nat} (hx : x < kNX K) (p q : Nat) (hp : p < 12) (hq : q < 12) (r : Int32) : ∀ m k, k + m = kLn K x → ∀ y : Int32, ((∀ i, i < kLn K x → ¬ eqL (kF K x i) (kG K x i) p q) → r = -1) → (∀ i, i < kLn K x → eqL (kF K x i) (kG K x i) p q → r = nI i) → ((∀ i, i < k → ¬ eqL (kF K x i) (kG K x i) p q) → y = -1) → (∀ i, i < k → eqL (kF K x i) (kG K x i) p q → y = nI i) → sem (d + 1) 143 6 [some (.inr (.inr (30, 0))), some (.inl (nI x)), some (.inl (nI p)), some (.inl (nI q)), some (.inl y), some (.inl (nI k)), none] [] V = some (some (.inl r), V) := by
  have hx6 := ok.2.1
  obtain ⟨o1, o2, o3⟩ := ok.2.2.2.2 x hx
  obtain ⟨⟨m1, m2, m3⟩, m4⟩ := h.2.2 x hx
  have hnp := ok.1
  have m3' : V.1 32 0 (38 + 23 * x) = nI (kLn K x) := by rw [← m3, Nat.zero_add]
  have hl := o1.2.2
  intro m
  induction m with
  | zero =>
    intro k hk y r1 r2 h1 h2
    obtain rfl : k = kLn K x := by omega
    have e : y = r := by
      by_cases w : ∃ i, i < kLn K x ∧ eqL (kF K x i) (kG K x i) p q
      · obtain ⟨i, hi, w⟩ := w
        rw [h2 i hi w, r2 i hi w]
      · have w' : ∀ i, i < kLn K x → ¬ eqL (kF K x i) (kG K x i) p q := fun i hi q => w ⟨i, hi, q⟩
        rw [h1 w', r1 w']
    rw [e_M_drawn_6, c_M_lines d (by omega), bind_some', m3', if_neg (nI_nlt (by omega) (by omega)), e]
  | succ m ih =>
    intro k hk y r1 r2 h1 h2
    have g0 : V.1 32 0 (39 + 23 * x + 2 * k + 0) = nI (kF K x k) := by rw [← (m4 k (by omega)).1, Nat.zero_add, Nat.add_zero]
    have g1 : V.1 32 0 (39 + 23 * x + 2 * k + 1) = nI (kG K x k) := by rw [← (m4 k (by omega)).2, Nat.zero_add]
    obtain ⟨f1, f2, f3, _, _⟩ := o2 k (by omega)
    have E0 := c_M_end d (x := x) (i := k) (e := 0) (by omega) (by omega) (by omega) V
    have E1 := c_M_end d (x := x) (i := k) (e := 1) (by omega) (by omega) (by omega) V
    rw [g0] at E0
    rw [g1] at E1
    have E0' : clI (d + 1) m_M_end [.inr (.inr (30, 0)), .inl (nI x), .inl (nI k), .inl 0] V = some (nI (kF K x k), V) := E0
    have E1' : clI (d + 1) m_M_end [.inr (.inr (30, 0)), .inl (nI x), .inl (nI k), .inl 1] V = some (nI (kG K x k), V) := E1
    have key : sem (d + 1) 143 6 [some (.inr (.inr (30, 0))), some (.inl (nI x)), some (.inl (nI p)), some (.inl (nI q)), some (.inl y), some (.inl (nI k)), none] [] V = if eqL (kF K x k) (kG K x k) p q then sem (d + 1) 143 64 [some (.inr (.inr (30, 0))), some (.inl (nI x)), some (.inl (nI p)), some (.inl (nI q)), some (.inl y), some (.inl (nI k)), none] [] V else sem (d + 1) 143 68 [some (.inr (.inr (30, 0))), some (.inl (nI x)), some (.inl (nI p)), some (.inl (nI q)), some (.inl y), some (.inl (nI k)), none] [] V := by
      have nq : ∀ {a b : Nat}, a < 12 → b < 12 → ¬ a = b → ¬ nI a = nI b := fun ha hb hab w => hab ((nI_eq (by omega) (by omega)).mp w)
      have f40 : ¬ (kF K x k = p ∧ kG K x k = q) → sem (d + 1) 143 40 [some (.inr (.inr (30, 0))), some (.inl (nI x)), some (.inl (nI p)), some (.inl (nI q)), some (.inl y), some (.inl (nI k)), none] [] V = if eqL (kF K x k) (kG K x k) p q then sem (d + 1) 143 64 [some (.inr (.inr (30, 0))), some (.inl (nI x)), some (.inl (nI p)), some (.inl (nI q)), some (.inl y), some (.inl (nI k)), none] [] V else sem (d + 1) 143 68 [some (.inr (.inr (30, 0))), some (.inl (nI x)), some (.inl (nI p)), some (.inl (nI q)), some (.inl y), some (.inl (nI k)), none] [] V := by
        intro w
        rw [e_M_drawn_40, E0', bind_some']
        by_cases a1 : kF K x k = q
        · rw [if_pos (by rw [a1]), E1', bind_some']
          by_cases a2 : kG K x k = p
          · rw [if_pos (by rw [a2]), if_pos (Or.inr ⟨a1, a2⟩)]
          · rw [if_neg (nq (by omega) hp a2), if_neg (fun z => z.elim w (fun z => a2 z.2))]
        · rw [if_neg (nq (by omega) hq a1), if_neg (fun z => z.elim w (fun z => a1 z.1))]
      rw [e_M_drawn_6, c_M_lines d (by omega), bind_some', m3', if_pos (nI_lt (by omega) (by omega)), E0', bind_some']
      by_cases a1 : kF K x k = p
      · rw [if_pos (by rw [a1]), E1', bind_some']
        by_cases a2 : kG K x k = q
        · rw [if_pos (by rw [a2]), if_pos (Or.inl ⟨a1, a2⟩)]
        · rw [if_neg (nq (by omega) hq a2)]
          exact f40 (fun z => a2 z.2)
      · rw [if_neg (nq (by omega) hp a1)]
        exact f40 (fun z => a1 z.1)
    rw [key]
    by_cases e : eqL (kF K x k) (kG K x k) p q
    · rw [if_pos e, e_M_drawn_64, e_M_drawn_69, if_neg one_ne, e_M_drawn_83, nI_1]
      refine ih (k + 1) (by omega) (nI k) r1 r2 (fun w => absurd e (w k (by omega))) (fun i hi w => ?_)
      rw [← r2 k (by omega) e, r2 i (by omega) w]
    · rw [if_neg e, e_M_drawn_68, e_M_drawn_69, if_pos rfl, e_M_drawn_83, nI_1]
      refine ih (k + 1) (by omega) y r1 r2 (fun w => h1 (fun i hi => w i (by omega))) (fun i hi w => ?_)
      by_cases e2 : i = k
      · exact absurd (e2 ▸ w) e
      · exact h2 i (by omega) w
/-- the place of a line, or -1: what both answer -/
theorem c_find {d j ki a wm ln : Nat} {f g : Nat → Nat} {V : Mem} (h : CPar V j ki a wm ln f g) (hl : ln ≤ 10) (hf : ∀ i, i < ln → f i < 12 ∧ g i < 12 ∧ f i ≠ g i) {p q : Nat} (hp : p < 12) (hq : q < 12) (hpq : p ≠ q) {r : Int32} (r1 : (∀ i, i < ln → ¬ eqL (f i) (g i) p q) → r = -1) (r2 : ∀ i, i < ln → eqL (f i) (g i) p q → r = nI i) : clI (d + 2) m_Parish_find [.inr (.inr (5, j)), .inl (nI (2 ^ p ||| 2 ^ q))] V = some (r, V) :=
  clI_of ((e_Parish_find_0 (d + 1) j _ V).trans (find2 d j ki a wm ln f g V h hl hf p q hp hq hpq r ln 0 (by omega) (fun i hi => by omega) r1 (fun i hi w _ => r2 i hi w)))
theorem c_M_drawn {d : Nat} {V : Mem} {K : SKY} (h : MS V 32 0 K) (ok : okK K) {x : Nat} (hx : x < kNX K) {p q : Nat} (hp : p < 12) (hq : q < 12) {r : Int32} (r1 : (∀ i, i < kLn K x → ¬ eqL (kF K x i) (kG K x i) p q) → r = -1) (r2 : ∀ i, i < kLn K x → eqL (kF K x i) (kG K x i) p q → r = nI i) : clI (d + 2) m_M_drawn [.inr (.inr (30, 0)), .inl (nI x), .inl (nI p), .inl (nI q)] V = some (r, V) :=
  clI_of ((e_M_drawn_0 (d + 1) _ _ _ V).trans (drawn6 d h ok hx p q hp hq r (kLn K x) 0 (by omega) (-1) r1 r2 (fun _ => rfl) (fun i hi => by omega)))
theorem c_room {d j ki a wm ln : Nat} {f g : Nat → Nat} {V : Mem} (h : CPar V j ki a wm ln f g) : clI (d + 1) m_Parish_hasRoom [.inr (.inr (5, j))] V = some (bI (nI ln < 10), V) := by
  apply clI_of
  refine (e_Parish_hasRoom_0 d j V).trans ?_
  rw [h.2.2.2.1]
  by_cases e : nI ln < 10
  · rw [if_pos e, bI_t e]
  · rw [if_neg e, bI_f e]
def updN (f : Nat → Nat) (n v : Nat) : Nat → Nat := fun k => if k = n then v else f k
def delN (f : Nat → Nat) (n : Nat) : Nat → Nat := fun k => if k < n then f k else f (k + 1)
theorem c_draw {d j ki a wm ln : Nat} {f g : Nat → Nat} {V : Mem} (h : CPar V j ki a wm ln f g) (hl : ln < 10) (p q : Nat) : ∃ V', clV (d + 2) m_Parish_draw [.inr (.inr (5, j)), .inl (nI p), .inl (nI q)] V = some V' ∧ CPar V' j ki a wm (ln + 1) (updN f ln p) (updN g ln q) ∧ (∀ t i k, ¬ ((t = 5 ∨ t = 6 ∨ t = 7) ∧ i = j) → V'.1 t i k = V.1 t i k) ∧ V'.2 = V.2 := by
  have hr := c_room (d := d) h
  obtain ⟨h1, h2, h3, h4, h5⟩ := h
  refine ⟨(mset (mset (mset V.1 6 j ln (nI p)) 7 j ln (nI q)) 5 j 5 (nI (ln + 1)), V.2), clV_of ((e_Parish_draw_0 (d + 1) j _ _ V).trans ?_), ⟨?_, ?_, ?_, ?_, fun i hi => ?_⟩, fun t i k w => ?_, rfl⟩
  · rw [hr, bind_some', bI_t (show nI ln < 10 from nI_lt (b := 10) hl (by omega)), if_neg one_ne, h4, if_neg (nI_in hl (by omega)), nI_clamp (by omega)]
    simp (disch := omega) only [mset_n, h4, nI_clamp, nI_1]
    rw [if_neg (nI_in' hl (by omega))]
  · simp (disch := omega) only [mset_n]; exact h1
  · simp (disch := omega) only [mset_n]; exact h2
  · simp (disch := omega) only [mset_n]; exact h3
  · simp (disch := omega) only [mset_h]
  · unfold updN
    by_cases e : i = ln
    · subst e
      simp (disch := omega) only [mset_n, mset_h, if_true, and_self]
    · simp (disch := omega) only [mset_n, mset_h, e, if_false]
      exact h5 i (by omega)
  · simp (disch := omega) only [mset_n]
theorem c_erase {d j ki a wm ln i : Nat} {f g : Nat → Nat} {V : Mem} (h : CPar V j ki a wm ln f g) (hl : ln ≤ 10) (hi : i < ln) : ∃ V', clV (d + 1) m_Parish_erase [.inr (.inr (5, j)), .inl (nI i)] V = some V' ∧ CPar V' j ki a wm (ln - 1) (delN f i) (delN g i) ∧ (∀ t i k, ¬ ((t = 5 ∨ t = 6 ∨ t = 7) ∧ i = j) → V'.1 t i k = V.1 t i k) ∧ V'.2 = V.2 := by
  obtain ⟨h1, h2, h3, h4, h5⟩ := h
  have es : nI ln - nI i = nI (ln - i) := by
    have : nI ln = nI (ln - i) + nI i := by rw [nI_add, show ln - i + i = ln by omega]
    rw [this, Int32.add_sub_cancel]
  have es1 : nI (ln - i) - 1 = nI (ln - i - 1) := by
    have := nI_pred (ln - i - 1)
    rw [show ln - i - 1 + 1 = ln - i by omega] at this
    exact this
  have el : nI ln - 1 = nI (ln - 1) := by
    have := nI_pred (ln - 1)
    rw [show ln - 1 + 1 = ln by omega] at this
    exact this
  have ng : ¬ (nI (i + 1) < 0 ∨ nI i < 0 ∨ nI (ln - i - 1) < 0 ∨ 10 < i + 1 + (ln - i - 1) ∨ 10 < i + (ln - i - 1)) := fun w => by
    rcases w with w | w | w | w | w
    · exact nI_pos (by omega) w
    · exact nI_pos (by omega) w
    · exact nI_pos (by omega) w
    · omega
    · omega
  refine ⟨(mset (mcpy (mcpy V.1 6 j (i + 1) 6 j i (ln - i - 1)) 7 j (i + 1) 7 j i (ln - i - 1)) 5 j 5 (nI (ln - 1)), V.2), clV_of ((e_Parish_erase_0 d j _ V).trans ?_), ⟨?_, ?_, ?_, ?_, fun k hk => ?_⟩, fun t u k w => ?_, rfl⟩
  · rw [if_neg (nI_pos (by omega)), h4, if_pos (nI_lt hi (by omega)), nI_1, es, es1, nI_clamp (by omega), nI_clamp (by omega), nI_clamp (by omega), if_neg ng, if_neg ng]
    simp (disch := omega) only [mcpy_out, h4, el]
  · simp (disch := omega) only [mset_n, mcpy_out]; exact h1
  · simp (disch := omega) only [mset_n, mcpy_out]; exact h2
  · simp (disch := omega) only [mset_n, mcpy_out]; exact h3
  · simp (disch := omega) only [mset_h]
  · unfold delN
    by_cases e : k < i
    · rw [if_pos e, if_pos e]
      simp (disch := omega) only [mset_n, mcpy_out]
      exact h5 k (by omega)
    · rw [if_neg e, if_neg e]
      simp (disch := omega) only [mset_n, mcpy_in, mcpy_out]
      rw [show i + 1 + (k - i) = k + 1 by omega]
      exact h5 (k + 1) (by omega)
  · simp (disch := omega) only [mset_n, mcpy_out]
