/-! line, drop: the two -/
theorem pm_line (SL : Nat) (xs : Nat → Int32) (a1 : Int32) (a2 : Int32) (a3 : Int32) : PMI SL xs m_C_line m_M_line [.inl a1, .inl a2, .inl a3] := by
  intro V h
  obtain ⟨K, k1, k2, k3, k4⟩ := h.1
  have hX := k1.2.1
  have hP := k1.1
  by_cases B : ¬ (inR (kNX K) a1 ∧ inR (kNP K) a2 ∧ inR (kNP K) a3 ∧ ¬ a2 = a3)
  · refine ⟨-2, CRf V 0, MRf (CRf V 0) 0, clI_of ((e_C_line_0 29 a1 a2 a3 V).trans ?_), h.vok.crf 0, clI_of ((e_M_line_0 29 a1 a2 a3 _).trans ?_), h.ref (by omega)⟩
    · rw [c_C_isParish, bind_some', k2.1.2.1]
      by_cases b1 : inR (kNX K) a1
      · rw [bI_t b1, if_neg one_ne, c_C_isPair k2.1.1, bind_some', bI_f (fun w => B ⟨b1, w⟩), if_pos rfl, e_C_line_17, c_C_ref2, bind_some']
      · rw [bI_f b1, if_pos rfl, e_C_line_17, c_C_ref2, bind_some']
    · rw [c_M_isPair (k3.crf 0) k1, bind_some', bI_f B, if_pos rfl, c_M_ref2, bind_some']
  · have B' := Classical.not_not.mp B
    obtain ⟨x, hx, rfl⟩ := (ix_or a1 (n := kNX K) (by omega)).resolve_left (fun w => w B'.1)
    obtain ⟨p, hp, rfl⟩ := (ix_or a2 (n := kNP K) (by omega)).resolve_left (fun w => w B'.2.1)
    obtain ⟨q, hq, rfl⟩ := (ix_or a3 (n := kNP K) (by omega)).resolve_left (fun w => w B'.2.2.1)
    have hpq : p ≠ q := fun w => B'.2.2.2 (by rw [w])
    have par := k2.2.2 x hx
    rw [show x + 6 * 0 = x by omega] at par
    have hl := (k1.2.2.2.2 x hx).1.2.2
    have cl : sem 29 84 0 [some (.inr (.inr (0, 0))), some (.inl (nI x)), some (.inl (nI p)), some (.inl (nI q)), none, none] [] V = _ := e_C_line_0 29 (nI x) (nI p) (nI q) V
    rw [c_C_isParish, bind_some', k2.1.2.1, bI_t B'.1, if_neg one_ne, c_C_isPair k2.1.1, bind_some', bI_t B'.2, if_neg one_ne, if_neg (nI_in (N := 6) (by omega) (by omega)), nI_clamp (by omega), shl12 (by omega), shl12 (by omega), nI_or, c_wantsPair par hP hp hq, bind_some'] at cl
    have ml : ∀ V' : Mem, MS V' 32 0 K → sem 29 151 0 [some (.inr (.inr (30, 0))), some (.inl (nI x)), some (.inl (nI p)), some (.inl (nI q))] [] V' = _ := fun V' _ => e_M_line_0 29 (nI x) (nI p) (nI q) V'
    by_cases W : kW K x p = true ∧ kW K x q = true
    · rw [bI_t W, if_neg one_ne] at cl
      have mw : ∀ V' : Mem, MS V' 32 0 K → sem 29 151 0 [some (.inr (.inr (30, 0))), some (.inl (nI x)), some (.inl (nI p)), some (.inl (nI q))] [] V' = (clI 29 m_M_drawn [.inr (.inr (30, 0)), .inl (nI x), .inl (nI p), .inl (nI q)] V').bind fun W5 => if W5.1 = (-1) then (clI 29 139 [.inr (.inr (30, 0)), .inl (nI x)] W5.2).bind fun W6 => if W6.1 = 10 then (clI 29 129 [.inr (.inr (30, 0)), .inl (-6)] W6.2).bind fun W7 => some (some (.inl W7.1), W7.2) else (clI 29 144 [.inr (.inr (30, 0)), .inl (nI x), .inl (nI p), .inl (nI q)] W6.2).bind fun W8 => some (some (.inl W8.1), W8.2) else sem 29 151 46 [some (.inr (.inr (30, 0))), some (.inl (nI x)), some (.inl (nI p)), some (.inl (nI q))] [] W5.2 := fun V' hV => by
        rw [e_M_line_0, c_M_isPair hV k1, bind_some', bI_t B', if_neg one_ne, c_M_isWanted hV k1 hx hp, bind_some', bI_t W.1, if_neg one_ne, c_M_isWanted hV k1 hx hq, bind_some', bI_t W.2, if_neg one_ne]
      by_cases D : ∃ i, i < kLn K x ∧ eqL (kF K x i) (kG K x i) p q
      · obtain ⟨i, hi, D⟩ := D
        have r1 : (∀ i, i < kLn K x → ¬ eqL (kF K x i) (kG K x i) p q) → nI i = -1 := fun w => absurd D (w i hi)
        have r2 : ∀ u, u < kLn K x → eqL (kF K x u) (kG K x u) p q → nI i = nI u := fun u hu w => by
          have := (k1.2.2.2.2 x hx).2.2 i u hi hu (by omega)
          rw [this]
        refine ⟨-5, CRf V 3, MRf (CRf V 3) 3, clI_of (cl.trans ?_), h.vok.crf 3, clI_of ((mw _ (k3.crf 3)).trans ?_), h.ref (by omega)⟩
        · rw [c_find par hl (k1.fg hx) (by omega) (by omega) hpq r1 r2, bind_some', if_neg (neg1_nI (by omega)), e_C_line_65, c_C_ref5, bind_some']
        · rw [c_M_drawn (k3.crf 3) k1 hx (by omega) (by omega) r1 r2, bind_some', if_neg (neg1_nI (by omega)), e_M_line_46, c_M_ref5, bind_some']
      · have D' : ∀ i, i < kLn K x → ¬ eqL (kF K x i) (kG K x i) p q := fun i hi w => D ⟨i, hi, w⟩
        rw [c_find (r := -1) par hl (k1.fg hx) (by omega) (by omega) hpq (fun _ => rfl) (fun i hi w => absurd w (D' i hi)), bind_some', if_pos rfl, c_room par, bind_some'] at cl
        have mw2 : ∀ V' : Mem, MS V' 32 0 K → sem 29 151 0 [some (.inr (.inr (30, 0))), some (.inl (nI x)), some (.inl (nI p)), some (.inl (nI q))] [] V' = if nI (kLn K x) = 10 then (clI 29 129 [.inr (.inr (30, 0)), .inl (-6)] V').bind fun W7 => some (some (.inl W7.1), W7.2) else (clI 29 144 [.inr (.inr (30, 0)), .inl (nI x), .inl (nI p), .inl (nI q)] V').bind fun W8 => some (some (.inl W8.1), W8.2) := fun V' hV => by
          have m3 := (hV.2.2 x hx).1.2.2
          rw [Nat.zero_add] at m3
          rw [mw V' hV, c_M_drawn (r := -1) hV k1 hx (by omega) (by omega) (fun _ => rfl) (fun i hi w => absurd w (D' i hi)), bind_some', if_pos rfl, c_M_lines 28 (by omega), bind_some', m3]
        by_cases F : kLn K x = 10
        · refine ⟨-6, CRf V 4, MRf (CRf V 4) 4, clI_of (cl.trans ?_), h.vok.crf 4, clI_of ((mw2 _ (k3.crf 4)).trans ?_), h.ref (by omega)⟩
          · rw [F, bI_f (by decide), if_pos rfl, c_C_ref6, bind_some']
          · rw [F, if_pos (show nI 10 = 10 from rfl), c_M_ref6, bind_some']
        · obtain ⟨V1, v1, v2, v3, v4⟩ := c_draw (d := 27) par (by omega) p q
          have f1 : FrC 0 V V1 := ⟨fun t i k w1 w2 => v3 t i k (by omega), v4⟩
          obtain ⟨V2, u1, u2, u3⟩ := c_M_draw (d := 27) (k3.frc f1) k1 hx (by omega) p q
          have c1 : CS V1 0 (drawK K x p q) := k2.draw (x := x) (fun t i k w => v3 t i k (by omega)) (by rw [show x + 6 * 0 = x by omega]; exact v2)
          refine ⟨nI (kLn K x + 1), V1, V2, clI_of (cl.trans ?_), h.vok.frc f1, clI_of ((mw2 _ (k3.frc f1)).trans ?_), h.skyop (K := K) (K' := drawK K x p q) k4 (Nat.le_refl _) (drawK_ok k1 hx (by omega) hp hq hpq W.1 W.2 D') f1 c1 u3 u2⟩
          · rw [bI_t (show nI (kLn K x) < 10 from nI_lt (b := 10) (by omega) (by omega)), if_neg one_ne, v1, bind_some', v2.2.2.2.1]
          · rw [if_neg (show ¬ nI (kLn K x) = 10 from fun w => F ((nI_eq (b := 10) (by omega) (by omega)).mp w)), u1, bind_some']
    · refine ⟨-5, CRf V 3, MRf (CRf V 3) 3, clI_of (cl.trans ?_), h.vok.crf 3, clI_of ((e_M_line_0 29 _ _ _ _).trans ?_), h.ref (by omega)⟩
      · rw [bI_f W, if_pos rfl, e_C_line_65, c_C_ref5, bind_some']
      · rw [c_M_isPair (k3.crf 3) k1, bind_some', bI_t B', if_neg one_ne, c_M_isWanted (k3.crf 3) k1 hx hp, bind_some']
        by_cases W1 : kW K x p = true
        · rw [bI_t W1, if_neg one_ne, c_M_isWanted (k3.crf 3) k1 hx hq, bind_some', bI_f (fun w => W ⟨W1, w⟩), if_pos rfl, e_M_line_46, c_M_ref5, bind_some']
        · rw [bI_f W1, if_pos rfl, e_M_line_46, c_M_ref5, bind_some']
theorem pm_drop (SL : Nat) (xs : Nat → Int32) (a1 : Int32) (a2 : Int32) (a3 : Int32) : PMI SL xs m_C_drop m_M_drop [.inl a1, .inl a2, .inl a3] := by
  intro V h
  obtain ⟨K, k1, k2, k3, k4⟩ := h.1
  have hX := k1.2.1
  have hP := k1.1
  by_cases B : ¬ (inR (kNX K) a1 ∧ inR (kNP K) a2 ∧ inR (kNP K) a3 ∧ ¬ a2 = a3)
  · refine ⟨-2, CRf V 0, MRf (CRf V 0) 0, clI_of ((e_C_drop_0 29 a1 a2 a3 V).trans ?_), h.vok.crf 0, clI_of ((e_M_drop_0 29 a1 a2 a3 _).trans ?_), h.ref (by omega)⟩
    · rw [c_C_isParish, bind_some', k2.1.2.1]
      by_cases b1 : inR (kNX K) a1
      · rw [bI_t b1, if_neg one_ne, c_C_isPair k2.1.1, bind_some', bI_f (fun w => B ⟨b1, w⟩), if_pos rfl, e_C_drop_17, c_C_ref2, bind_some']
      · rw [bI_f b1, if_pos rfl, e_C_drop_17, c_C_ref2, bind_some']
    · rw [c_M_isPair (k3.crf 0) k1, bind_some', bI_f B, if_pos rfl, c_M_ref2, bind_some']
  · have B' := Classical.not_not.mp B
    obtain ⟨x, hx, rfl⟩ := (ix_or a1 (n := kNX K) (by omega)).resolve_left (fun w => w B'.1)
    obtain ⟨p, hp, rfl⟩ := (ix_or a2 (n := kNP K) (by omega)).resolve_left (fun w => w B'.2.1)
    obtain ⟨q, hq, rfl⟩ := (ix_or a3 (n := kNP K) (by omega)).resolve_left (fun w => w B'.2.2.1)
    have hpq : p ≠ q := fun w => B'.2.2.2 (by rw [w])
    have par := k2.2.2 x hx
    rw [show x + 6 * 0 = x by omega] at par
    have hl := (k1.2.2.2.2 x hx).1.2.2
    have cl : sem 29 85 0 [some (.inr (.inr (0, 0))), some (.inl (nI x)), some (.inl (nI p)), some (.inl (nI q)), none, none] [] V = _ := e_C_drop_0 29 (nI x) (nI p) (nI q) V
    rw [c_C_isParish, bind_some', k2.1.2.1, bI_t B'.1, if_neg one_ne, c_C_isPair k2.1.1, bind_some', bI_t B'.2, if_neg one_ne, if_neg (nI_in (N := 6) (by omega) (by omega)), nI_clamp (by omega), shl12 (by omega), shl12 (by omega), nI_or] at cl
    by_cases D : ∃ i, i < kLn K x ∧ eqL (kF K x i) (kG K x i) p q
    · obtain ⟨i, hi, D⟩ := D
      have r1 : (∀ i, i < kLn K x → ¬ eqL (kF K x i) (kG K x i) p q) → nI i = -1 := fun w => absurd D (w i hi)
      have r2 : ∀ u, u < kLn K x → eqL (kF K x u) (kG K x u) p q → nI i = nI u := fun u hu w => by
        have := (k1.2.2.2.2 x hx).2.2 i u hi hu (by omega)
        rw [this]
      obtain ⟨V1, v1, v2, v3, v4⟩ := c_erase (d := 28) par hl hi
      have f1 : FrC 0 V V1 := ⟨fun t i k w1 w2 => v3 t i k (by omega), v4⟩
      obtain ⟨V2, u1, u2, u3⟩ := c_M_erase (d := 27) (k3.frc f1) k1.toL hx hi
      have c1 : CS V1 0 (eraseK K x i) := k2.erase (x := x) (fun t i k w => v3 t i k (by omega)) (by rw [show x + 6 * 0 = x by omega]; exact v2)
      refine ⟨nI (kLn K x - 1), V1, V2, clI_of (cl.trans ?_), h.vok.frc f1, clI_of ((e_M_drop_0 29 _ _ _ _).trans ?_), h.skyop (K := K) (K' := eraseK K x i) k4 (Nat.le_refl _) (eraseK_ok k1 hx hi) f1 c1 u3 u2⟩
      · rw [c_find par hl (k1.fg hx) (by omega) (by omega) hpq r1 r2, bind_some', if_neg (neg1_nI (by omega)), v1, bind_some', v2.2.2.2.1]
      · rw [c_M_isPair (k3.frc f1) k1, bind_some', bI_t B', if_neg one_ne, c_M_drawn (k3.frc f1) k1 hx (by omega) (by omega) r1 r2, bind_some', if_neg (neg1_nI (by omega)), u1, bind_some']
    · have D' : ∀ i, i < kLn K x → ¬ eqL (kF K x i) (kG K x i) p q := fun i hi w => D ⟨i, hi, w⟩
      refine ⟨-5, CRf V 3, MRf (CRf V 3) 3, clI_of (cl.trans ?_), h.vok.crf 3, clI_of ((e_M_drop_0 29 _ _ _ _).trans ?_), h.ref (by omega)⟩
      · rw [c_find (r := -1) par hl (k1.fg hx) (by omega) (by omega) hpq (fun _ => rfl) (fun i hi w => absurd w (D' i hi)), bind_some', if_pos rfl, c_C_ref5, bind_some']
      · rw [c_M_isPair (k3.crf 3) k1, bind_some', bI_t B', if_neg one_ne, c_M_drawn (r := -1) (k3.crf 3) k1 hx (by omega) (by omega) (fun _ => rfl) (fun i hi w => absurd w (D' i hi)), bind_some', if_pos rfl, c_M_ref5, bind_some']
