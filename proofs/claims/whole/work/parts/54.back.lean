/-! back -/
def fxw (n : Nat) (w : Int32) : Int32 := if w < 10 + nI n then w else -1
theorem fxw_N (n : Nat) : fxw n (-1) = -1 := by unfold fxw; split <;> rfl
theorem fxw_R {n k : Nat} (hn : n ≤ 6) (hk : k < 5) : fxw n (nI k) = nI k := if_pos (by
  show nI k < nI 10 + nI n
  rw [nI_add]
  exact nI_lt (by omega) (by omega))
theorem fxw_P {n x : Nat} (hn : n ≤ 6) (hx : x < 6) : fxw n (nI (10 + x)) = if x < n then nI (10 + x) else -1 := by
  unfold fxw
  rw [show (10 : Int32) + nI n = nI (10 + n) from nI_add 10 n]
  by_cases h : x < n
  · rw [if_pos h, if_pos (nI_lt (by omega) (by omega))]
  · rw [if_neg h, if_neg (nI_nlt (by omega) (by omega))]
theorem fxw_ok {n : Nat} (hn : n ≤ 6) {w : Int32} (h : okH 6 w) : okH n (fxw n w) := by
  rcases h with rfl | ⟨k, hk, rfl⟩ | ⟨x, hx, rfl⟩
  · rw [fxw_N]; exact Or.inl rfl
  · rw [fxw_R hn hk]; exact Or.inr (Or.inl ⟨k, hk, rfl⟩)
  · rw [fxw_P hn hx]
    by_cases h : x < n
    · rw [if_pos h]; exact Or.inr (Or.inr ⟨x, h, rfl⟩)
    · rw [if_neg h]; exact Or.inl rfl
theorem ten_sub (x : Nat) : nI (10 + x) - 10 = nI x := by
  have : nI (10 + x) = 10 + nI x := (nI_add 10 x).symm
  rw [this, Int32.add_comm, Int32.add_sub_cancel]
theorem cback_step {d p n : Nat} (hp : p < 8) (hn : n ≤ 6) {V : Mem} (h : V.1 1 0 4 = nI n) (hw : okH 6 (V.1 23 p 1)) : ∃ V1 : Mem, sem (d + 1) 107 27 [some (.inr (.inr (0, 0))), some (.inl (nI p)), none] [] V = sem (d + 1) 107 27 [some (.inr (.inr (0, 0))), some (.inl (nI (p + 1))), none] [] V1 ∧ V1.1 23 p 1 = fxw n (V.1 23 p 1) ∧ (∀ t i k, ¬ (t = 23 ∧ i = p ∧ k = 1) → V1.1 t i k = V.1 t i k) ∧ V1.2 = V.2 := by
  have e : sem (d + 1) 107 27 [some (.inr (.inr (0, 0))), some (.inl (nI p)), none] [] V = _ := e_C_back_27 (d + 1) (nI p) V
  rw [if_pos (show nI p < 8 from nI_lt (b := 8) hp (by omega)), if_neg (nI_in hp (by omega)), nI_clamp (by omega), c_holdsParish, bind_some'] at e
  rcases hw with w | ⟨k, hk, w⟩ | ⟨x, hx, w⟩
  · refine ⟨V, ?_, by rw [w, fxw_N], fun _ _ _ _ => rfl, rfl⟩
    rw [e, w, bI_f (fun q => q neg1_lt10), if_pos rfl, e_C_back_66, nI_1]
  · refine ⟨V, ?_, by rw [w, fxw_R hn hk], fun _ _ _ _ => rfl, rfl⟩
    rw [e, w, bI_f (fun q => q (show nI k < 10 from nI_lt (b := 10) (by omega) (by omega))), if_pos rfl, e_C_back_66, nI_1]
  · have e2 : sem (d + 1) 107 27 [some (.inr (.inr (0, 0))), some (.inl (nI p)), none] [] V = _ := e
    rw [bI_t (show ¬ V.1 23 p 1 < 10 by rw [w]; exact nI_nlt (b := 10) (by omega) (by omega)), if_neg one_ne] at e2
    simp only [w, ten_sub] at e2
    rw [c_C_isParish, bind_some', h] at e2
    by_cases hx2 : x < n
    · refine ⟨V, ?_, by rw [w, fxw_P hn hx, if_pos hx2], fun _ _ _ _ => rfl, rfl⟩
      rw [e2, bI_t (ix_in hx2 (by omega)), if_neg one_ne, e_C_back_66, nI_1]
    · refine ⟨(mset V.1 23 p 1 (-1), V.2), ?_, ?_, fun t i k q => mset_n q, rfl⟩
      · rw [e2, bI_f (fun q => by have := q.2; rw [nI_ltI (by omega) (by omega)] at this; omega), if_pos rfl, e_C_back_66, nI_1]
      · rw [w, fxw_P hn hx, if_neg hx2]
        simp (disch := omega) only [mset_h]
theorem cback (d n : Nat) (hn : n ≤ 6) : ∀ m p, p + m = 8 → ∀ V : Mem, V.1 1 0 4 = nI n → (∀ s, s < 8 → okH 6 (V.1 23 s 1)) → ∃ V', sem (d + 1) 107 27 [some (.inr (.inr (0, 0))), some (.inl (nI p)), none] [] V = some (some (.inl 1), V') ∧ (∀ s, p ≤ s → s < 8 → V'.1 23 s 1 = fxw n (V.1 23 s 1)) ∧ (∀ t i k, ¬ (t = 23 ∧ p ≤ i ∧ i < 8 ∧ k = 1) → V'.1 t i k = V.1 t i k) ∧ V'.2 = V.2 := by
  intro m
  induction m with
  | zero =>
    intro p hp V h1 h2
    obtain rfl : p = 8 := by omega
    refine ⟨V, ?_, fun s _ _ => by omega, fun _ _ _ _ => rfl, rfl⟩
    rw [e_C_back_27, if_neg (show ¬ nI 8 < 8 from nI_nlt (b := 8) (by omega) (by omega))]
  | succ m ih =>
    intro p hp V h1 h2
    obtain ⟨V1, s1, s2, s3, s4⟩ := cback_step (d := d) (p := p) (by omega) hn h1 (h2 p (by omega))
    have hok : ∀ s, s < 8 → okH 6 (V1.1 23 s 1) := fun s hs => by
      by_cases e : s = p
      · subst e
        rw [s2]
        rcases fxw_ok hn (h2 s hs) with o | o | ⟨x, hx, o⟩
        · exact Or.inl o
        · exact Or.inr (Or.inl o)
        · exact Or.inr (Or.inr ⟨x, by omega, o⟩)
      · rw [s3 _ _ _ (by omega)]
        exact h2 s hs
    obtain ⟨V', t1, t2, t3, t4⟩ := ih (p + 1) (by omega) V1 ((s3 _ _ _ (by omega)).trans h1) hok
    refine ⟨V', s1.trans t1, fun s h3 h4 => ?_, fun t i k q => (t3 t i k (by omega)).trans (s3 t i k (by omega)), t4.trans s4⟩
    by_cases e : s = p
    · subst e
      exact (t3 _ _ _ (by omega)).trans s2
    · rw [t2 s (by omega) h4, s3 _ _ _ (by omega)]
theorem mback (d n : Nat) (hn : n ≤ 6) : ∀ m p, p + m = 8 → ∀ V : Mem, V.1 32 0 175 = nI n → ∃ V', sem d 221 29 [some (.inr (.inr (30, 0))), some (.inl (nI p))] [] V = some (some (.inl 1), V') ∧ (∀ s, p ≤ s → s < 8 → V'.1 42 0 s = fxw n (V.1 42 0 s)) ∧ (∀ t i k, ¬ (t = 42 ∧ i = 0 ∧ p ≤ k ∧ k < 8) → V'.1 t i k = V.1 t i k) ∧ V'.2 = V.2 := by
  intro m
  induction m with
  | zero =>
    intro p hp V h1
    obtain rfl : p = 8 := by omega
    refine ⟨V, ?_, fun s _ _ => by omega, fun _ _ _ _ => rfl, rfl⟩
    rw [e_M_back_29, if_neg (show ¬ nI 8 < 8 from nI_nlt (b := 8) (by omega) (by omega))]
  | succ m ih =>
    intro p hp V h1
    have st : sem d 221 29 [some (.inr (.inr (30, 0))), some (.inl (nI p))] [] V = sem d 221 29 [some (.inr (.inr (30, 0))), some (.inl (nI (p + 1)))] [] (mset V.1 42 0 p (fxw n (V.1 42 0 p)), V.2) := by
      rw [e_M_back_29, if_pos (show nI p < 8 from nI_lt (b := 8) (by omega) (by omega)), if_neg (nI_in (N := 8) (by omega) (by omega)), if_neg (nI_in (N := 8) (by omega) (by omega)), nI_clamp (by omega), h1]
      unfold fxw
      by_cases g : V.1 42 0 p < 10 + nI n
      · rw [if_pos g, if_pos g, e_M_back_70, if_neg (nI_in (N := 8) (by omega) (by omega)), nI_clamp (by omega), nI_1]
      · rw [if_neg g, if_neg g, e_M_back_70, if_neg (nI_in (N := 8) (by omega) (by omega)), nI_clamp (by omega), nI_1]
    obtain ⟨V', t1, t2, t3, t4⟩ := ih (p + 1) (by omega) (mset V.1 42 0 p (fxw n (V.1 42 0 p)), V.2) (by simp (disch := omega) only [mset_n]; exact h1)
    refine ⟨V', st.trans t1, fun s h3 h4 => ?_, fun t i k q => ?_, t4⟩
    · by_cases e : s = p
      · subst e
        rw [t3 _ _ _ (by omega)]
        simp (disch := omega) only [mset_h]
      · rw [t2 s (by omega) h4]
        simp (disch := omega) only [mset_n]
    · rw [t3 _ _ _ (by omega)]
      simp (disch := omega) only [mset_n]
theorem pm_back (SL : Nat) (xs : Nat → Int32) : PMI SL xs m_C_back m_M_back [] := by
  intro V h
  obtain ⟨K0, j1, j2, j3, j4⟩ := h.1
  obtain ⟨i1, i2⟩ := h.2.1
  rcases i2 with i2 | ⟨i2, K, k1, k2, k3⟩
  · refine ⟨-5, CRf V 3, MRf (CRf V 3) 3, clI_of ((e_C_back_0 29 V).trans ?_), h.vok.crf 3, clI_of ((e_M_back_0 29 _).trans ?_), h.ref (by omega)⟩
    · rw [if_pos i2, c_C_ref5, bind_some']
    · rw [if_pos (by rw [CRf_n (by omega), i1, i2]), c_M_ref5, bind_some']
  · have hn := k1.2.1
    obtain ⟨V1, p1, p2, p3⟩ := c_become (d := 27) (s := 0) (u := 1) (by omega) k2 k1
    have f1 : ∀ t i k, ¬ ((t = 1 ∨ t = 2 ∨ t = 3) ∧ i = 0) → ¬ ((t = 5 ∨ t = 6 ∨ t = 7) ∧ 6 * 0 ≤ i ∧ i < 6 * 0 + 6) → V1.1 t i k = V.1 t i k := p3.1
    have ok6 : ∀ s, s < 8 → okH 6 (V.1 23 s 1) := fun s hs => by
      rcases (j4 s hs).1 with o | o | ⟨x, hx, o⟩
      · exact Or.inl o
      · exact Or.inr (Or.inl o)
      · exact Or.inr (Or.inr ⟨x, by have := j1.2.1; omega, o⟩)
    obtain ⟨V2, r1, r2, r3, r4⟩ := cback 28 (kNX K) hn 8 0 (by omega) V1 p2.1.2.1 (fun s hs => by rw [f1 23 s 1 (by omega) (by omega)]; exact ok6 s hs)
    have k3' : MS V2 33 0 K := k3.same (funext fun k => (r3 33 0 k (by omega)).trans (f1 33 0 k (by omega) (by omega)))
    have k3m := k3'.moved (b := 32) (u := 0) k1
    have e175 : mcpy V2.1 33 0 0 32 0 0 178 32 0 175 = nI (kNX K) := k3m.1.2.1
    obtain ⟨V3, q1, q2, q3, q4⟩ := mback 29 (kNX K) hn 8 0 (by omega) (mcpy V2.1 33 0 0 32 0 0 178, V2.2) e175
    have g : ∀ t i k, ¬ ((t = 1 ∨ t = 2 ∨ t = 3) ∧ i = 0) → ¬ ((t = 5 ∨ t = 6 ∨ t = 7) ∧ i < 6) → ¬ t = 32 → ¬ t = 42 → ¬ (t = 23 ∧ k = 1) → V3.1 t i k = V.1 t i k := fun t i k w1 w2 w3 w4 w5 => by
      rw [q3 t i k (by omega)]
      simp (disch := omega) only [mcpy_out]
      rw [r3 t i k (by omega), f1 t i k w1 (by omega)]
    have gL : V3.2 = V.2 := q4.trans (r4.trans p3.2)
    refine ⟨1, V2, V3, clI_of ((e_C_back_0 29 V).trans ?_), ?_, clI_of ((e_M_back_0 29 V2).trans ?_), ?_⟩
    · rw [if_neg (by rw [i2]; decide), p1, bind_some']
      exact r1
    · exact ⟨by rw [← h.vok.1]; exact funext fun k => (r3 50 0 k (by omega)).trans (f1 50 0 k (by omega) (by omega)), ((r3 51 0 0 (by omega)).trans (f1 51 0 0 (by omega) (by omega))).trans h.vok.2⟩
    · rw [if_neg (by rw [r3 30 0 4 (by omega), f1 30 0 4 (by omega) (by omega), i1, i2]; decide), show (Sum.inl (0 : Int32) : AV) = .inl (nI 0) from rfl, c_mv33_32 (by omega) (by omega), bind_some']
      exact q1
    · refine h.sky (fun t i k q => ?_) ⟨K, k1, ?_, ?_, fun s hs => ?_⟩
      · have q' : ¬ ((t = 1 ∨ t = 2 ∨ t = 3) ∧ i = 0) ∧ ¬ ((t = 5 ∨ t = 6 ∨ t = 7) ∧ i < 6) ∧ ¬ t = 32 ∧ ¬ t = 42 ∧ ¬ (t = 23 ∧ k = 1) := by unfold dpS dp2 dp3 dp4 dp5 dp6 dp7 dp8 at q; omega
        exact ⟨g t i k q'.1 q'.2.1 q'.2.2.1 q'.2.2.2.1 q'.2.2.2.2, by rw [gL]⟩
      · refine p2.frame hn (fun t i k q => ?_)
        rw [q3 t i k (by omega)]
        simp (disch := omega) only [mcpy_out]
        exact r3 t i k (by omega)
      · exact k3m.same (funext fun k => q3 32 0 k (by omega))
      · have e23 : V3.1 23 s 1 = fxw (kNX K) (V.1 23 s 1) := by
          rw [q3 23 s 1 (by omega)]
          simp (disch := omega) only [mcpy_out]
          rw [r2 s (by omega) hs, f1 23 s 1 (by omega) (by omega)]
        have e42 : V3.1 42 0 s = fxw (kNX K) (V.1 42 0 s) := by
          rw [q2 s (by omega) hs]
          simp (disch := omega) only [mcpy_out]
          rw [r3 42 0 s (by omega), f1 42 0 s (by omega) (by omega)]
        rw [e23, e42, (j4 s hs).2]
        exact ⟨fxw_ok hn (ok6 s hs), rfl⟩
