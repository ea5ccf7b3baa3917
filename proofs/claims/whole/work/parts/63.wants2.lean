/-! wants: the two -/
theorem bI_eq_one {p : Prop} [Decidable p] : bI p = 1 ↔ p := by
  unfold bI
  by_cases h : p
  · simp [h]
  · simp [h]
theorem bI_eq_zero {p : Prop} [Decidable p] : bI p = 0 ↔ ¬ p := by
  unfold bI
  by_cases h : p
  · simp [h]
  · simp [h]
theorem pm_wants (SL : Nat) (xs : Nat → Int32) (a1 : Int32) (a2 : Int32) (a3 : Int32) (h3 : a3 = 0 ∨ a3 = 1) : PMI SL xs m_C_wants m_M_wants [.inl a1, .inl a2, .inl a3] := by
  intro V h
  obtain ⟨K, k1, k2, k3, k4⟩ := h.1
  have hX := k1.2.1
  have hP := k1.1
  have e5 : ∀ V' : Mem, MS V' 32 0 K → V'.1 32 0 175 = nI (kNX K) := fun V' w => by have := w.1.2.1; rw [Nat.zero_add] at this; exact this
  have e4 : ∀ V' : Mem, MS V' 32 0 K → V'.1 32 0 174 = nI (kNP K) := fun V' w => by have := w.1.1; rw [Nat.zero_add] at this; exact this
  by_cases B : ¬ (inR (kNX K) a1 ∧ inR (kNP K) a2)
  · refine ⟨-2, CRf V 0, MRf (CRf V 0) 0, clI_of ((e_C_wants_0 29 a1 a2 a3 V).trans ?_), h.vok.crf 0, clI_of ((e_M_wants_0 29 a1 a2 a3 _).trans ?_), h.ref (by omega)⟩
    · rw [c_C_isParish, bind_some', k2.1.2.1]
      by_cases b1 : inR (kNX K) a1
      · rw [bI_t b1, if_neg one_ne, c_C_isPoint, bind_some', k2.1.1, bI_f (fun w => B ⟨b1, w⟩), if_pos rfl, e_C_wants_16, c_C_ref2, bind_some']
      · rw [bI_f b1, if_pos rfl, e_C_wants_16, c_C_ref2, bind_some']
    · rw [c_M_isParish (by omega) a1 (e5 _ (k3.crf 0)), bind_some']
      by_cases b1 : inR (kNX K) a1
      · rw [bI_t b1, if_neg one_ne, c_M_isPoint (by omega) a2 (e4 _ (k3.crf 0)), bind_some', bI_f (fun w => B ⟨b1, w⟩), if_pos rfl, e_M_wants_17, c_M_ref2, bind_some']
      · rw [bI_f b1, if_pos rfl, e_M_wants_17, c_M_ref2, bind_some']
  · have B' := Classical.not_not.mp B
    obtain ⟨x, hx, rfl⟩ := (ix_or a1 (n := kNX K) (by omega)).resolve_left (fun w => w B'.1)
    obtain ⟨p, hp, rfl⟩ := (ix_or a2 (n := kNP K) (by omega)).resolve_left (fun w => w B'.2)
    have par := k2.2.2 x hx
    have par0 := par
    rw [show x + 6 * 0 = x by omega] at par0
    have cl : sem 29 83 0 [some (.inr (.inr (0, 0))), some (.inl (nI x)), some (.inl (nI p)), some (.inl a3), none, none, none] [] V = sem 29 83 54 [some (.inr (.inr (0, 0))), some (.inl (nI x)), some (.inl (nI p)), some (.inl a3), some (.inr (.inr (5, x))), some (.inl (nI (2 ^ p))), none] [.inl (bI (kW K x p = true))] V := by
      rw [e_C_wants_0, c_C_isParish, bind_some', k2.1.2.1, bI_t B'.1, if_neg one_ne, c_C_isPoint, bind_some', k2.1.1, bI_t B'.2, if_neg one_ne, if_neg (nI_in (N := 6) (by omega) (by omega)), nI_clamp (by omega), shl12 (by omega), c_wants1 par0 hP hp, bind_some']
      by_cases w : kW K x p = true
      · rw [bI_t w, if_neg one_ne]
      · rw [bI_f w, if_pos rfl]
    have e32 : (3 * nI p + 2 : Int32) = nI (3 * p + 2) := by simp only [fa_lit, pk_mul, nI_add]
    have mm : ∀ V' : Mem, MS V' 32 0 K → ∀ b : Bool, a3 = bI (b = true) → ∃ V2 : Mem, sem 29 149 0 [some (.inr (.inr (30, 0))), some (.inl (nI x)), some (.inl (nI p)), some (.inl a3), none] [] V' = sem 29 149 54 [some (.inr (.inr (30, 0))), some (.inl (nI x)), some (.inl (nI p)), some (.inl a3), some (.inl (bI (kW K x p = true)))] [] V2 ∧ MS V2 32 0 (setW K x p b) ∧ FrM V' V2 := by
      intro V' hV b hb
      have st : sem 29 149 0 [some (.inr (.inr (30, 0))), some (.inl (nI x)), some (.inl (nI p)), some (.inl a3), none] [] V' = _ := e_M_wants_0 29 (nI x) (nI p) a3 V'
      rw [c_M_isParish (by omega) _ (e5 _ hV), bind_some', bI_t B'.1, if_neg one_ne, c_M_isPoint (by omega) _ (e4 _ hV), bind_some', bI_t B'.2, if_neg one_ne, c_M_isWanted hV k1 hx hp, bind_some'] at st
      by_cases w : kW K x p = b
      · refine ⟨V', ?_, by rw [setW_same w]; exact hV, FrM.rfl⟩
        rw [st, if_pos (by rw [hb, w])]
      · have ne : ¬ bI (kW K x p = true) = a3 := fun q => w (by
          rw [hb] at q
          by_cases z : kW K x p = true
          · rw [bI_t z] at q
            rw [z]
            exact (bI_eq_one.mp q.symm).symm
          · rw [bI_f z] at q
            have := bI_eq_zero.mp q.symm
            rw [Bool.not_eq_true] at z this
            rw [z, this])
        have g3 := (hV.2.1 p hp).2.2
        rw [Nat.zero_add] at g3
        rw [if_neg ne, e32, if_neg (nI_in (N := 178) (by omega) (by omega)), if_neg (nI_in (N := 178) (by omega) (by omega)), nI_clamp (by omega), shl12 (by omega)] at st
        refine ⟨_, st, hV.setW (x := x) (p := p) k1 hp (b := b) ?_, fun t i k q => by simp (disch := omega) only [mset_n], rfl⟩
        show V'.1 32 0 (3 * p + 2) ^^^ nI (2 ^ x) = _
        rw [g3, nI_xor, ← bm_flip hx]
        congr 1
        apply bm_ext
        intro z hz
        by_cases e : z = x
        · subst e
          simp only [if_true]
          cases hk : kW K z p <;> cases hb2 : b <;> simp_all
        · simp only [e, if_false]
    have m65 : ∀ V' : Mem, sem 29 149 65 [some (.inr (.inr (30, 0))), some (.inl (nI x)), some (.inl (nI p)), some (.inl a3), some (.inl (bI (kW K x p = true)))] [] V' = some (some (.inl (bI (kW K x p = true))), V') := fun V' => by
      rw [e_M_wants_65]
      by_cases w : kW K x p = true
      · rw [bI_t w, if_neg one_ne]
      · rw [bI_f w, if_pos rfl]
    rcases h3 with rfl | rfl
    · obtain ⟨V1, v1, v2, v3⟩ := c_lose (d := 26) k2 k1 hx hp
      rw [show x + 6 * 0 = x by omega] at v1
      obtain ⟨V2, u1, u2, u3⟩ := mm V1 (k3.frc v3) false (by decide)
      have fg := k1.fg hx
      obtain ⟨V3, t1, t2, t3⟩ := c_M_eraseIn (d := 26) (x := x) (p := p) u2 k1.toL hx (fun i hi => ⟨(fg i hi).1, (fg i hi).2.1⟩) (by omega)
      have okn : okK (lessK x p (kLn K x) (setW K x p false)) := lessK_ok x p (kLn K x) (setW K x p false) (by
        have : setW (setW K x p false) x p true = setW K x p true := by
          have e : (fun y z => if y = x ∧ z = p then true else if y = x ∧ z = p then false else kW K y z) = (fun y z => if y = x ∧ z = p then true else kW K y z) := by
            funext y z
            by_cases q : y = x ∧ z = p
            · rw [if_pos q, if_pos q]
            · rw [if_neg q, if_neg q, if_neg q]
          show (K.1, K.2.1, K.2.2.1, (fun y z => if y = x ∧ z = p then true else if y = x ∧ z = p then false else kW K y z), K.2.2.2.2) = _
          rw [e]
          rfl
        rw [this]
        exact setW_on k1 x p) hx (Nat.le_refl _) (fun i w1 w2 => absurd w2 (Nat.not_lt.mpr w1))
      have nxe : ∀ n (K' : SKY), kNX (lessK x p n K') = kNX K' := by
        intro n
        induction n with
        | zero => intro K'; rfl
        | succ n ih =>
          intro K'
          show kNX (lessK x p n (if kF K' x n = p ∨ kG K' x n = p then eraseK K' x n else K')) = _
          split
          · exact ih _
          · exact ih _
      refine ⟨bI (kW K x p = true), V1, V3, clI_of (cl.trans ?_), h.vok.frc v3, clI_of (u1.trans ?_), h.skyop (K := K) (K' := lessK x p (kLn K x) (setW K x p false)) k4 (by rw [nxe]; exact Nat.le_refl _) okn v3 v2 (u3.trans t3) t2⟩
      · rw [e_C_wants_54, if_pos rfl, v1, bind_some']
      · rw [e_M_wants_54, if_pos rfl, t1, bind_some', m65]
    · have c1 := k2.setW (p := p) hx (b := true) (v := (V.1 5 (x + 6 * 0) 4) ||| nI (2 ^ p)) (by rw [par.2.2.1, nI_or, bm_set hp])
      rw [show x + 6 * 0 = x by omega] at c1
      have f1 : FrC 0 V (mset V.1 5 x 4 (V.1 5 x 4 ||| nI (2 ^ p)), V.2) := ⟨fun t i k w1 w2 => by simp (disch := omega) only [mset_n], rfl⟩
      obtain ⟨V2, u1, u2, u3⟩ := mm (mset V.1 5 x 4 (V.1 5 x 4 ||| nI (2 ^ p)), V.2) (k3.frc f1) true (by decide)
      refine ⟨bI (kW K x p = true), (mset V.1 5 x 4 (V.1 5 x 4 ||| nI (2 ^ p)), V.2), V2, clI_of (cl.trans ?_), h.vok.frc f1, clI_of (u1.trans ?_), h.skyop (K := K) (K' := setW K x p true) k4 (Nat.le_refl _) (setW_on k1 x p) f1 c1 u3 u2⟩
      · rw [e_C_wants_54, if_neg one_ne]
      · rw [e_M_wants_54, if_neg one_ne, m65]
