/-! a sky becomes another -/
theorem mset_t {α : Type} {f : Nat → Nat → Nat → α} {t i k t' i' k' : Nat} {x : α} (h : ¬ (t' = t ∧ i' = i)) : mset f t i k x t' i' k' = f t' i' k' := mset_n (fun q => h ⟨q.1, q.2.1⟩)
theorem c_parBecome {d j u : Nat} (hne : j ≠ u) (V : Mem) : ∃ V', clV (d + 1) m_Parish_become [.inr (.inr (5, j)), .inr (.inr (5, u))] V = some V' ∧ (∀ ki a wm ln f g, ln ≤ 10 → CPar V u ki a wm ln f g → CPar V' j ki a wm ln f g) ∧ (∀ t i k, ¬ ((t = 5 ∨ t = 6 ∨ t = 7) ∧ i = j) → V'.1 t i k = V.1 t i k) ∧ V'.2 = V.2 := by
  refine ⟨_, clV_of (e_Parish_become_0 d j u V), fun ki a wm ln f g hl h => ?_, fun t i k q => ?_, rfl⟩
  · obtain ⟨h1, h2, h3, h4, h5⟩ := h
    refine ⟨?_, ?_, ?_, ?_, fun i hi => ⟨?_, ?_⟩⟩
    · simp (disch := omega) only [mcpy_out, mset_n, mset_h]; exact h1
    · simp (disch := omega) only [mcpy_out, mset_n, mset_h]; exact h2
    · simp (disch := omega) only [mcpy_out, mset_n, mset_h]; exact h3
    · simp (disch := omega) only [mcpy_out, mset_n, mset_h]; exact h4
    · simp (disch := omega) only [mcpy_in, mcpy_out, mset_n, mset_h, Nat.zero_add, Nat.sub_zero]; exact (h5 i hi).1
    · simp (disch := omega) only [mcpy_in, mcpy_out, mset_n, mset_h, Nat.zero_add, Nat.sub_zero]; exact (h5 i hi).2
  · simp (disch := omega) only [mcpy_out, mset_n]
theorem become64 (d s u n : Nat) (hn : n ≤ 6) (hne : s ≠ u) (ki a wm ln : Nat → Nat) (f g : Nat → Nat → Nat) (hl : ∀ x, x < n → ln x ≤ 10) : ∀ m p, p + m = n → ∀ V : Mem, V.1 1 s 4 = nI n → (∀ x, x < n → CPar V (x + 6 * u) (ki x) (a x) (wm x) (ln x) (f x) (g x)) → (∀ x, x < p → CPar V (x + 6 * s) (ki x) (a x) (wm x) (ln x) (f x) (g x)) →
    ∃ V', sem (d + 1) 42 64 [some (.inr (.inr (1, s))), some (.inr (.inr (1, u))), some (.inl (nI p))] [] V = some (none, V') ∧ (∀ x, x < n → CPar V' (x + 6 * s) (ki x) (a x) (wm x) (ln x) (f x) (g x)) ∧ (∀ t i k, ¬ ((t = 5 ∨ t = 6 ∨ t = 7) ∧ 6 * s ≤ i ∧ i < 6 * s + 6) → V'.1 t i k = V.1 t i k) ∧ V'.2 = V.2 := by
  intro m
  induction m with
  | zero =>
    intro p hp V h1 h2 h3
    obtain rfl : p = n := by omega
    refine ⟨V, ?_, h3, fun _ _ _ _ => rfl, rfl⟩
    rw [e_Sky_become_64, h1, if_neg (nI_nlt (by omega) (by omega))]
  | succ m ih =>
    intro p hp V h1 h2 h3
    obtain ⟨V1, v1, v2, v3, v4⟩ := c_parBecome (d := d) (j := p + 6 * s) (u := p + 6 * u) (by omega) V
    have c : ∀ j, j ≠ p + 6 * s → ∀ x, CPar V j (ki x) (a x) (wm x) (ln x) (f x) (g x) → CPar V1 j (ki x) (a x) (wm x) (ln x) (f x) (g x) := by
      intro j hj x ⟨g1, g2, g3, g4, g5⟩
      exact ⟨(v3 _ _ _ (by omega)).trans g1, (v3 _ _ _ (by omega)).trans g2, (v3 _ _ _ (by omega)).trans g3, (v3 _ _ _ (by omega)).trans g4, fun i hi => ⟨(v3 _ _ _ (by omega)).trans (g5 i hi).1, (v3 _ _ _ (by omega)).trans (g5 i hi).2⟩⟩
    obtain ⟨V2, w1, w2, w3, w4⟩ := ih (p + 1) (by omega) V1 ((v3 _ _ _ (by omega)).trans h1) (fun x hx => c _ (by omega) x (h2 x hx)) (fun x hx => by
      by_cases e : x = p
      · subst e
        exact v2 _ _ _ _ _ _ (hl x (by omega)) (h2 x (by omega))
      · exact c _ (by omega) x (h3 x (by omega)))
    refine ⟨V2, ?_, w2, fun t i k q => (w3 t i k q).trans (v3 t i k (by omega)), w4.trans v4⟩
    rw [e_Sky_become_64, h1, if_pos (nI_lt (by omega) (by omega)), if_neg (nI_in (N := 6) (by omega) (by omega)), if_neg (nI_in (N := 6) (by omega) (by omega)), nI_clamp (by omega), v1, bind_some', nI_1]
    exact w1
theorem become0 (d s u : Nat) (hne : s ≠ u) (V : Mem) : ∃ Vb : Mem, sem d 42 0 [some (.inr (.inr (1, s))), some (.inr (.inr (1, u))), none] [] V = sem d 42 64 [some (.inr (.inr (1, s))), some (.inr (.inr (1, u))), some (.inl 0)] [] Vb ∧ (∀ k, 3 ≤ k → k < 7 → Vb.1 1 s k = V.1 1 u k) ∧ (∀ p, p < 12 → Vb.1 2 s p = V.1 2 u p ∧ Vb.1 3 s p = V.1 3 u p) ∧ (∀ t i k, ¬ ((t = 1 ∨ t = 2 ∨ t = 3) ∧ i = s) → Vb.1 t i k = V.1 t i k) ∧ Vb.2 = V.2 := by
  refine ⟨_, e_Sky_become_0 d s u V, fun k h1 h2 => ?_, fun p hp => ⟨?_, ?_⟩, fun t i k q => ?_, rfl⟩
  · have : k = 3 ∨ k = 4 ∨ k = 5 ∨ k = 6 := by omega
    rcases this with rfl | rfl | rfl | rfl
    · simp (disch := omega) only [mcpy_out, mset_n, mset_h]
    · simp (disch := omega) only [mcpy_out, mset_n, mset_h]
    · simp (disch := omega) only [mcpy_out, mset_n, mset_h]
    · simp (disch := omega) only [mcpy_out, mset_n, mset_h]
  · simp (disch := omega) only [mcpy_in, mcpy_out, mset_n, mset_h, Nat.zero_add, Nat.sub_zero]
  · simp (disch := omega) only [mcpy_in, mcpy_out, mset_n, mset_h, Nat.zero_add, Nat.sub_zero]
  · simp (disch := omega) only [mcpy_out, mset_n]
theorem c_become {d s u : Nat} (hne : s ≠ u) {V : Mem} {K : SKY} (h : CS V u K) (ok : okK K) : ∃ V', clV (d + 2) m_Sky_become [.inr (.inr (1, s)), .inr (.inr (1, u))] V = some V' ∧ CS V' s K ∧ FrC s V V' := by
  obtain ⟨⟨h1, h2, h3, h4⟩, h5, h6⟩ := h
  have hp := ok.1
  obtain ⟨Vb, b1, b2, b3, b4, b5⟩ := become0 (d + 1) s u hne V
  obtain ⟨V', w1, w2, w3, w4⟩ := become64 d s u (kNX K) ok.2.1 hne (kKi K) (kA K) (fun x => bm (kNP K) (kW K x)) (kLn K) (kF K) (kG K) (fun x hx => (ok.2.2.2.2 x hx).1.2.2) (kNX K) 0 (by omega) Vb ((b2 4 (by omega) (by omega)).trans h2) (fun x hx => by
    obtain ⟨g1, g2, g3, g4, g5⟩ := h6 x hx
    exact ⟨(b4 _ _ _ (by omega)).trans g1, (b4 _ _ _ (by omega)).trans g2, (b4 _ _ _ (by omega)).trans g3, (b4 _ _ _ (by omega)).trans g4, fun i hi => ⟨(b4 _ _ _ (by omega)).trans (g5 i hi).1, (b4 _ _ _ (by omega)).trans (g5 i hi).2⟩⟩) (fun x hx => by omega)
  refine ⟨V', clV_of (b1.trans w1), ⟨⟨?_, ?_, ?_, ?_⟩, fun p hp2 => ⟨?_, ?_⟩, w2⟩, fun t i k q1 q2 => ?_, w4.trans b5⟩
  · exact (w3 _ _ _ (by omega)).trans ((b2 3 (by omega) (by omega)).trans h1)
  · exact (w3 _ _ _ (by omega)).trans ((b2 4 (by omega) (by omega)).trans h2)
  · exact (w3 _ _ _ (by omega)).trans ((b2 5 (by omega) (by omega)).trans h3)
  · exact (w3 _ _ _ (by omega)).trans ((b2 6 (by omega) (by omega)).trans h4)
  · exact (w3 _ _ _ (by omega)).trans ((b3 p (by omega)).1.trans (h5 p hp2).1)
  · exact (w3 _ _ _ (by omega)).trans ((b3 p (by omega)).2.trans (h5 p hp2).2)
  · exact (w3 _ _ _ q2).trans (b4 _ _ _ q1)
/-- the image's cells -/
theorem Inv.kept {SL : Nat} {xs : Nat → Int32} {V V' : Mem} (h : Inv SL xs V) (a : Ag (fun t i k => dp1 t i k ∨ dp3 t i k ∨ dp4 t i k ∨ dp5 t i k ∨ dp6 t i k ∨ dp7 t i k ∨ dp8 t i k) V V') (h1 : I2 V') : Inv SL xs V' :=
  ⟨I1.ag h.1 (a.sub fun _ _ _ q => by simp only [q, true_or, or_true]), h1, I3.ag h.2.2.1 (a.sub fun _ _ _ q => by simp only [q, true_or, or_true]), I4.ag h.2.2.2.1 (a.sub fun _ _ _ q => by simp only [q, true_or, or_true]), I5.ag h.2.2.2.2.1 (a.sub fun _ _ _ q => by simp only [q, true_or, or_true]), I6.ag h.2.2.2.2.2.1 (a.sub fun _ _ _ q => by simp only [q, true_or, or_true]), I7.ag h.2.2.2.2.2.2.1 (a.sub fun _ _ _ q => by simp only [q, true_or, or_true]), Vok.ag h.2.2.2.2.2.2.2 (a.sub fun _ _ _ q => by simp only [q, true_or, or_true])⟩
theorem CS.frame {s : Nat} {V V' : Mem} {K : SKY} (hx : kNX K ≤ 6) (h : CS V s K) (c : ∀ t i k, ((t = 1 ∨ t = 2 ∨ t = 3) ∧ i = s) ∨ ((t = 5 ∨ t = 6 ∨ t = 7) ∧ 6 * s ≤ i ∧ i < 6 * s + 6) → V'.1 t i k = V.1 t i k) : CS V' s K := by
  obtain ⟨⟨h1, h2, h3, h4⟩, h5, h6⟩ := h
  refine ⟨⟨(c _ _ _ (by omega)).trans h1, (c _ _ _ (by omega)).trans h2, (c _ _ _ (by omega)).trans h3, (c _ _ _ (by omega)).trans h4⟩, fun p hp => ⟨(c _ _ _ (by omega)).trans (h5 p hp).1, (c _ _ _ (by omega)).trans (h5 p hp).2⟩, fun x hx2 => ?_⟩
  obtain ⟨g1, g2, g3, g4, g5⟩ := h6 x hx2
  exact ⟨(c _ _ _ (by omega)).trans g1, (c _ _ _ (by omega)).trans g2, (c _ _ _ (by omega)).trans g3, (c _ _ _ (by omega)).trans g4, fun i hi => ⟨(c _ _ _ (by omega)).trans (g5 i hi).1, (c _ _ _ (by omega)).trans (g5 i hi).2⟩⟩
theorem pm_image (SL : Nat) (xs : Nat → Int32) : PMI SL xs m_C_image m_M_image [] := by
  intro V h
  obtain ⟨K, k1, k2, k3, k4⟩ := h.1
  obtain ⟨V1, p1, p2, p3⟩ := c_become (d := 27) (s := 1) (u := 0) (by omega) k2 k1
  have f1 : ∀ t i k, ¬ ((t = 1 ∨ t = 2 ∨ t = 3) ∧ i = 1) → ¬ ((t = 5 ∨ t = 6 ∨ t = 7) ∧ 6 * 1 ≤ i ∧ i < 6 * 1 + 6) → V1.1 t i k = V.1 t i k := p3.1
  refine ⟨1, (mset V1.1 0 0 11 1, V1.2), (mset (mcpy (mset V1.1 0 0 11 1) 32 0 0 33 0 0 178) 30 0 4 1, V1.2), clI_of ((e_C_image_0 29 V).trans ?_), ?_, clI_of ((e_M_image_0 29 _).trans ?_), ?_⟩
  · rw [p1, bind_some']
  · exact (h.vok.frc p3).ag (Ag.set (by unfold dp8; omega) Ag.rfl)
  · rw [show (Sum.inl (0 : Int32) : AV) = .inl (nI 0) from rfl, c_mv32_33 (by omega) (by omega), bind_some']
  · have k3' : MS (mset V1.1 0 0 11 1, V1.2) 32 0 K := k3.same (funext fun k => by simp (disch := omega) only [mset_n]; exact f1 32 0 k (by omega) (by omega))
    have k3m := k3'.moved (b := 33) (u := 0) k1
    refine h.kept (fun t i k q => ?_) ⟨?_, Or.inr ⟨?_, K, k1, ?_, ?_⟩⟩
    · have q1 : ¬ ((t = 1 ∨ t = 2 ∨ t = 3) ∧ i = 1) ∧ ¬ ((t = 5 ∨ t = 6 ∨ t = 7) ∧ 6 * 1 ≤ i ∧ i < 6 * 1 + 6) ∧ ¬ (t = 0) ∧ ¬ t = 33 ∧ ¬ (t = 30 ∧ k = 4) := by unfold dp1 dp3 dp4 dp5 dp6 dp7 dp8 at q; omega
      refine ⟨?_, by show V1.2 t i k = _; rw [p3.2]⟩
      simp (disch := omega) only [mset_n, mcpy_out]
      exact f1 t i k q1.1 q1.2.1
    · simp (disch := omega) only [mset_n, mset_h, mcpy_out]
    · simp (disch := omega) only [mset_n, mset_h, mcpy_out]
    · exact p2.frame k1.2.1 (fun t i k q => by simp (disch := omega) only [mset_n, mcpy_out])
    · exact k3m.same (funext fun k => by simp (disch := omega) only [mset_n])
