/-! SHELVES -/
theorem mset_h {α : Type} {f : Nat → Nat → Nat → α} {t i k t' i' k' : Nat} {x : α} (h : t' = t ∧ i' = i ∧ k' = k) : mset f t i k x t' i' k' = x := if_pos h
theorem pm_holds (SL : Nat) (xs : Nat → Int32) (a1 : Int32) : PMI SL xs m_C_holds m_M_holds [.inl a1] := by
  intro V h
  rcases ix_or a1 (n := 8) (by omega) with hN | ⟨j, hj, rfl⟩
  · refine ⟨-1, V, V, clI_of ((e_C_holds_0 29 a1 V).trans ?_), h.vok, clI_of ((e_M_holds_0 29 a1 V).trans ?_), h⟩
    · rw [c_C_isShelf, bind_some', bI_f hN, if_pos rfl]
    · rw [c_M_isShelf, bind_some', bI_f hN, if_pos rfl]
  · obtain ⟨K, k1, k2, k3, k4⟩ := h.1
    refine ⟨V.1 23 j 1, V, V, clI_of ((e_C_holds_0 29 _ V).trans ?_), h.vok, clI_of ((e_M_holds_0 29 _ V).trans ?_), h⟩
    · rw [c_C_isShelf, bind_some', bI_t (ix_in hj (by omega)), if_neg one_ne, if_neg (nI_in hj (by omega)), nI_clamp (by omega)]
    · rw [c_M_isShelf, bind_some', bI_t (ix_in hj (by omega)), if_neg one_ne, if_neg (nI_in hj (by omega)), nI_clamp (by omega), (k4 j hj).2]
/-- Inv from its parts, when a method touched what some part looks at -/
theorem Inv.mk {SL : Nat} {xs : Nat → Int32} {V : Mem} (h1 : I1 V) (h2 : I2 V) (h3 : I3 V) (h4 : I4 V) (h5 : I5 V) (h6 : I6 V) (h7 : I7 V) (h8 : Vok SL xs V) : Inv SL xs V := ⟨h1, h2, h3, h4, h5, h6, h7, h8⟩
theorem Ag.sub {P Q : Nat → Nat → Nat → Prop} {V V' : Mem} (h : Ag P V V') (hs : ∀ t i k, Q t i k → P t i k) : Ag Q V V' := fun t i k hq => h t i k (hs t i k hq)
def dpS (t i k : Nat) : Prop := dp2 t i k ∨ dp3 t i k ∨ dp4 t i k ∨ dp5 t i k ∨ dp6 t i k ∨ dp7 t i k ∨ dp8 t i k
def dpT (t i k : Nat) : Prop := dp1 t i k ∨ dp2 t i k ∨ dp4 t i k ∨ dp5 t i k ∨ dp6 t i k ∨ dp7 t i k ∨ dp8 t i k
def dpH (t i k : Nat) : Prop := dp2 t i k ∨ dp3 t i k ∨ dp5 t i k ∨ dp6 t i k ∨ dp7 t i k ∨ dp8 t i k
/-- only the sky was touched -/
theorem Inv.sky {SL : Nat} {xs : Nat → Int32} {V V' : Mem} (h : Inv SL xs V) (a : Ag dpS V V') (h1 : I1 V') : Inv SL xs V' := by
  unfold dpS at a
  exact ⟨h1, I2.ag h.2.1 (a.sub fun _ _ _ q => by simp only [q, true_or, or_true]), I3.ag h.2.2.1 (a.sub fun _ _ _ q => by simp only [q, true_or, or_true]), I4.ag h.2.2.2.1 (a.sub fun _ _ _ q => by simp only [q, true_or, or_true]), I5.ag h.2.2.2.2.1 (a.sub fun _ _ _ q => by simp only [q, true_or, or_true]), I6.ag h.2.2.2.2.2.1 (a.sub fun _ _ _ q => by simp only [q, true_or, or_true]), I7.ag h.2.2.2.2.2.2.1 (a.sub fun _ _ _ q => by simp only [q, true_or, or_true]), Vok.ag h.2.2.2.2.2.2.2 (a.sub fun _ _ _ q => by simp only [q, true_or, or_true])⟩
/-- only the tape was touched -/
theorem Inv.tape {SL : Nat} {xs : Nat → Int32} {V V' : Mem} (h : Inv SL xs V) (a : Ag dpT V V') (h1 : I3 V') : Inv SL xs V' := by
  unfold dpT at a
  exact ⟨I1.ag h.1 (a.sub fun _ _ _ q => by simp only [q, true_or, or_true]), I2.ag h.2.1 (a.sub fun _ _ _ q => by simp only [q, true_or, or_true]), h1, I4.ag h.2.2.2.1 (a.sub fun _ _ _ q => by simp only [q, true_or, or_true]), I5.ag h.2.2.2.2.1 (a.sub fun _ _ _ q => by simp only [q, true_or, or_true]), I6.ag h.2.2.2.2.2.1 (a.sub fun _ _ _ q => by simp only [q, true_or, or_true]), I7.ag h.2.2.2.2.2.2.1 (a.sub fun _ _ _ q => by simp only [q, true_or, or_true]), Vok.ag h.2.2.2.2.2.2.2 (a.sub fun _ _ _ q => by simp only [q, true_or, or_true])⟩
/-- only the shelves were touched -/
theorem Inv.shelf {SL : Nat} {xs : Nat → Int32} {V V' : Mem} (h : Inv SL xs V) (a : Ag dpH V V') (h1 : I1 V') (h4 : I4 V') : Inv SL xs V' := by
  unfold dpH at a
  exact ⟨h1, I2.ag h.2.1 (a.sub fun _ _ _ q => by simp only [q, true_or, or_true]), I3.ag h.2.2.1 (a.sub fun _ _ _ q => by simp only [q, true_or, or_true]), h4, I5.ag h.2.2.2.2.1 (a.sub fun _ _ _ q => by simp only [q, true_or, or_true]), I6.ag h.2.2.2.2.2.1 (a.sub fun _ _ _ q => by simp only [q, true_or, or_true]), I7.ag h.2.2.2.2.2.2.1 (a.sub fun _ _ _ q => by simp only [q, true_or, or_true]), Vok.ag h.2.2.2.2.2.2.2 (a.sub fun _ _ _ q => by simp only [q, true_or, or_true])⟩
/-- a new cloud or seed -/
theorem I1.hd {V V' : Mem} {K : SKY} {cl : Nat} {sd : Int32} (hcl : cl ≤ 12) (k1 : okK K) (k2 : CS V 0 K) (k3 : MS V 32 0 K) (k4 : ∀ s, s < 8 → okH (kNX K) (V.1 23 s 1) ∧ V.1 42 0 s = V.1 23 s 1)
    (c : ∀ t i k, ¬ (t = 32 ∧ (k = 176 ∨ k = 177)) → ¬ (t = 1 ∧ (k = 5 ∨ k = 6)) → V'.1 t i k = V.1 t i k) (e1 : V'.1 1 0 5 = nI cl) (e2 : V'.1 1 0 6 = sd) (e3 : V'.1 32 0 176 = nI cl) (e4 : V'.1 32 0 177 = sd) : I1 V' := by
  refine ⟨((kNP K, kNX K, cl, sd), K.2), ⟨k1.1, k1.2.1, hcl, k1.2.2.2⟩, ⟨⟨?_, ?_, e1, e2⟩, fun p hp => ?_, fun x hx => ?_⟩, ⟨⟨?_, ?_, e3, e4⟩, fun p hp => ?_, fun x hx => ?_⟩, fun s hs => ?_⟩
  · exact (c _ _ _ (by omega) (by omega)).trans k2.1.1
  · exact (c _ _ _ (by omega) (by omega)).trans k2.1.2.1
  · exact ⟨(c _ _ _ (by omega) (by omega)).trans (k2.2.1 p hp).1, (c _ _ _ (by omega) (by omega)).trans (k2.2.1 p hp).2⟩
  · obtain ⟨g1, g2, g3, g4, g5⟩ := k2.2.2 x hx
    exact ⟨(c _ _ _ (by omega) (by omega)).trans g1, (c _ _ _ (by omega) (by omega)).trans g2, (c _ _ _ (by omega) (by omega)).trans g3, (c _ _ _ (by omega) (by omega)).trans g4, fun i hi => ⟨(c _ _ _ (by omega) (by omega)).trans (g5 i hi).1, (c _ _ _ (by omega) (by omega)).trans (g5 i hi).2⟩⟩
  · exact (c _ _ _ (by omega) (by omega)).trans k3.1.1
  · exact (c _ _ _ (by omega) (by omega)).trans k3.1.2.1
  · have hp' : p < kNP K := hp
    have := k1.1
    obtain ⟨g1, g2, g3⟩ := k3.2.1 p hp
    exact ⟨(c _ _ _ (by omega) (by omega)).trans g1, (c _ _ _ (by omega) (by omega)).trans g2, (c _ _ _ (by omega) (by omega)).trans g3⟩
  · have hx' : x < kNX K := hx
    have := k1.2.1
    have hl := (k1.2.2.2.2 x hx).1.2.2
    obtain ⟨⟨g1, g2, g3⟩, g4⟩ := k3.2.2 x hx
    refine ⟨⟨(c _ _ _ (by omega) (by omega)).trans g1, (c _ _ _ (by omega) (by omega)).trans g2, (c _ _ _ (by omega) (by omega)).trans g3⟩, fun i hi => ?_⟩
    have hi' : i < kLn K x := hi
    exact ⟨(c _ _ _ (by omega) (by omega)).trans (g4 i hi).1, (c _ _ _ (by omega) (by omega)).trans (g4 i hi).2⟩
  · rw [c 23 s 1 (by omega) (by omega), c 42 0 s (by omega) (by omega)]
    exact k4 s hs
theorem pm_seed (SL : Nat) (xs : Nat → Int32) (a1 : Int32) : PMI SL xs m_C_seed m_M_seed [.inl a1] := by
  intro V h
  obtain ⟨K, k1, k2, k3, k4⟩ := h.1
  refine ⟨kSd K, (mset V.1 1 0 6 a1, V.2), _, clI_of ((e_C_seed_0 29 a1 V).trans ?_), h.vok.ag (Ag.set (by unfold dp8; omega) Ag.rfl), clI_of (V' := (mset (mset V.1 1 0 6 a1) 32 0 177 a1, V.2)) ((e_M_seed_0 29 a1 _).trans ?_), ?_⟩
  · rw [k2.1.2.2.2]
  · have e : mset V.1 1 0 6 a1 32 0 177 = kSd K := by simp (disch := omega) only [mset_n]; exact k3.1.2.2.2
    simp only [e]
  · refine h.sky (Ag.set (by unfold dpS dp2 dp3 dp4 dp5 dp6 dp7 dp8; omega) (Ag.set (by unfold dpS dp2 dp3 dp4 dp5 dp6 dp7 dp8; omega) Ag.rfl)) ?_
    refine I1.hd (K := K) (cl := kCl K) (sd := a1) k1.2.2.1 k1 k2 k3 k4 (fun t i k q1 q2 => ?_) ?_ ?_ ?_ ?_
    · exact (mset_n (fun q => q1 (by omega))).trans (mset_n (fun q => q2 (by omega)))
    · simp (disch := omega) only [mset_h, mset_n, k2.1.2.2.1]
    · simp (disch := omega) only [mset_h, mset_n]
    · simp (disch := omega) only [mset_h, mset_n, k3.1.2.2.1]
    · simp (disch := omega) only [mset_h, mset_n]
theorem pm_cloud (SL : Nat) (xs : Nat → Int32) (a1 : Int32) : PMI SL xs m_C_cloud m_M_cloud [.inl a1] := by
  intro V h
  rcases ix_or a1 (n := 13) (by omega) with hN | ⟨j, hj, rfl⟩
  · refine PMI_ref h (k := 0) (x := -2) (by omega) (clI_of ((e_C_cloud_0 29 a1 V).trans ?_)) (fun V' => clI_of ((e_M_cloud_0 29 a1 V').trans ?_))
    · rw [e_C_cloud_10, c_C_ref2, bind_some']
      by_cases h1 : a1 < 0
      · rw [if_pos h1]
      · rw [if_neg h1, if_pos]
        have h2 : ¬ a1 < nI 13 := fun q => hN ⟨h1, q⟩
        rw [lt_toInt, nI_toInt (by omega)] at h2
        have e : (12 : Int32).toInt = 12 := by decide
        rw [lt_toInt, e]
        omega
    · rw [c_in0_12, bind_some', bI_f hN, if_pos rfl, c_M_ref2, bind_some']
  · obtain ⟨K, k1, k2, k3, k4⟩ := h.1
    refine ⟨nI (kCl K), (mset V.1 1 0 5 (nI j), V.2), _, clI_of ((e_C_cloud_0 29 (nI j) V).trans ?_), h.vok.ag (Ag.set (by unfold dp8; omega) Ag.rfl), clI_of (V' := (mset (mset V.1 1 0 5 (nI j)) 32 0 176 (nI j), V.2)) ((e_M_cloud_0 29 (nI j) _).trans ?_), ?_⟩
    · rw [if_neg (nI_pos (by omega)), if_neg (show ¬ 12 < nI j from nI_nlt (b := j) (a := 12) (by omega) (by omega)), k2.1.2.2.1]
    · rw [c_in0_12, bind_some', bI_t (ix_in hj (by omega)), if_neg one_ne]
      have e : mset V.1 1 0 5 (nI j) 32 0 176 = nI (kCl K) := by simp (disch := omega) only [mset_n]; exact k3.1.2.2.1
      simp only [e]
    · refine h.sky (Ag.set (by unfold dpS dp2 dp3 dp4 dp5 dp6 dp7 dp8; omega) (Ag.set (by unfold dpS dp2 dp3 dp4 dp5 dp6 dp7 dp8; omega) Ag.rfl)) ?_
      refine I1.hd (K := K) (cl := j) (sd := kSd K) (by omega) k1 k2 k3 k4 (fun t i k q1 q2 => ?_) ?_ ?_ ?_ ?_
      · exact (mset_n (fun q => q1 (by omega))).trans (mset_n (fun q => q2 (by omega)))
      · simp (disch := omega) only [mset_h, mset_n]
      · simp (disch := omega) only [mset_h, mset_n, k2.1.2.2.2]
      · simp (disch := omega) only [mset_h, mset_n]
      · simp (disch := omega) only [mset_h, mset_n, k3.1.2.2.2]
theorem pm_wipe (SL : Nat) (xs : Nat → Int32) : PMI SL xs m_C_wipe m_M_wipe [] := by
  intro V h
  obtain ⟨n, t1, t2, t3, t4⟩ := h.2.2.1
  refine ⟨nI n, (mset V.1 20 0 0 0, V.2), _, clI_of ((e_C_wipe_0 29 V).trans ?_), h.vok.ag (Ag.set (by unfold dp8; omega) Ag.rfl), clI_of (V' := (mset (mset V.1 20 0 0 0) 30 0 6 0, V.2)) ((e_M_wipe_0 29 _).trans ?_), ?_⟩
  · rw [t2]
  · have e : mset V.1 20 0 0 0 30 0 6 = nI n := by simp (disch := omega) only [mset_n]; exact t3
    simp only [e]
  · refine h.tape (Ag.set (by unfold dpT dp1 dp2 dp4 dp5 dp6 dp7 dp8; omega) (Ag.set (by unfold dpT dp1 dp2 dp4 dp5 dp6 dp7 dp8; omega) Ag.rfl)) ⟨0, by omega, ?_, ?_, fun k hk => by omega⟩
    · simp (disch := omega) only [mset_h, mset_n]; rfl
    · simp (disch := omega) only [mset_h, mset_n]; rfl
theorem c_Tape_append {d n : Nat} (hn : n < 250) (x : Int32) {V : Mem} (h : V.1 20 0 0 = nI n) : clV (d + 1) m_Tape_append [.inr (.inr (20, 0)), .inl x] V = some (mset (mset V.1 21 0 n x) 20 0 0 (nI (n + 1)), V.2) := by
  apply clV_of
  refine (e_Tape_append_0 d x V).trans ?_
  rw [h, if_pos (show nI n < 250 from nI_lt (b := 250) hn (by omega)), if_neg (nI_in hn (by omega)), nI_clamp (by omega), mset_n (t := 21) (by omega), h, nI_1]
theorem pm_feed (SL : Nat) (xs : Nat → Int32) (a1 : Int32) : PMI SL xs m_C_feed m_M_feed [.inl a1] := by
  intro V h
  rcases ix_or a1 (n := 256) (by omega) with hN | ⟨j, hj, rfl⟩
  · refine PMI_ref h (k := 0) (x := -2) (by omega) (clI_of ((e_C_feed_0 29 a1 V).trans ?_)) (fun V' => clI_of ((e_M_feed_0 29 a1 V').trans ?_))
    · rw [e_C_feed_11, c_C_ref2, bind_some']
      by_cases h1 : a1 < 0
      · rw [if_pos h1]
      · rw [if_neg h1, if_pos]
        have h2 : ¬ a1 < nI 256 := fun q => hN ⟨h1, q⟩
        rw [lt_toInt, nI_toInt (by omega)] at h2
        have e : (255 : Int32).toInt = 255 := by decide
        rw [lt_toInt, e]
        omega
    · rw [c_in0_255, bind_some', bI_f hN, if_pos rfl, c_M_ref2, bind_some']
  · obtain ⟨n, t1, t2, t3, t4⟩ := h.2.2.1
    have hc : ∀ {A : Type} (x y : A), (if nI j < 0 then x else if 255 < nI j then x else y) = y := fun x y => by
      rw [if_neg (nI_pos (by omega)), if_neg (show ¬ 255 < nI j from nI_nlt (b := j) (a := 255) (by omega) (by omega))]
    by_cases hf : n = 250
    · have q1 : clI 30 m_C_feed [.inr (.inr (0, 0)), .inl (nI j)] V = some (-6, CRf V 4) := by
        refine clI_of ((e_C_feed_0 29 _ V).trans ?_)
        rw [hc, t2, hf, if_neg (by decide), c_C_ref6, bind_some']
      refine ⟨-6, _, MRf (CRf V 4) 4, q1, h.vok.crf 4, clI_of ((e_M_feed_0 29 _ _).trans ?_), h.ref (by omega)⟩
      rw [c_in0_255, bind_some', bI_t (ix_in hj (by omega)), if_neg one_ne, if_pos, c_M_ref6, bind_some']
      show (CRf V 4).1 30 0 6 = 250
      unfold CRf
      simp (disch := omega) only [mset_n]
      rw [t3, hf]; rfl
    · have hn : n < 250 := by omega
      have ft := fun (F : Nat → Nat → Nat → Int32) => (mset_e (mset F 21 0 n (nI j)) 20 0 0 (nI (n + 1)))
      refine ⟨nI (n + 1), (mset (mset V.1 21 0 n (nI j)) 20 0 0 (nI (n + 1)), V.2), (mset (mset (mset (mset V.1 21 0 n (nI j)) 20 0 0 (nI (n + 1))) 35 0 n (nI j)) 30 0 6 (nI (n + 1)), V.2), clI_of ((e_C_feed_0 29 _ V).trans ?_), h.vok.ag (Ag.set (by unfold dp8; omega) (Ag.set (by unfold dp8; omega) Ag.rfl)), clI_of ((e_M_feed_0 29 _ _).trans ?_), ?_⟩
      · rw [hc, t2, if_pos (show nI n < 250 from nI_lt (b := 250) hn (by omega)), c_Tape_append hn _ t2, bind_some']
        simp only [ft]
      · have e : mset (mset V.1 21 0 n (nI j)) 20 0 0 (nI (n + 1)) 30 0 6 = nI n := by simp (disch := omega) only [mset_n]; exact t3
        rw [c_in0_255, bind_some', bI_t (ix_in hj (by omega)), if_neg one_ne]
        simp only [e]
        rw [if_neg (show ¬ nI n = 250 from fun q => hf ((nI_eq (b := 250) (by omega) (by omega)).mp q)), if_neg (nI_in hn (by omega)), nI_clamp (by omega)]
        simp (disch := omega) only [mset_h, mset_n, t3, nI_1]
      · refine h.tape (Ag.set (by unfold dpT dp1 dp2 dp4 dp5 dp6 dp7 dp8; omega) (Ag.set (by unfold dpT dp1 dp2 dp4 dp5 dp6 dp7 dp8; omega) (Ag.set (by unfold dpT dp1 dp2 dp4 dp5 dp6 dp7 dp8; omega) (Ag.set (by unfold dpT dp1 dp2 dp4 dp5 dp6 dp7 dp8; omega) Ag.rfl)))) ⟨n + 1, by omega, ?_, ?_, fun k hk => ?_⟩
        · simp (disch := omega) only [mset_h, mset_n]
        · simp (disch := omega) only [mset_h, mset_n]
        · by_cases hkn : k = n
          · subst hkn
            exact ⟨j, hj, by simp (disch := omega) only [mset_h, mset_n], by simp (disch := omega) only [mset_h, mset_n]⟩
          · obtain ⟨b, hb, b1, b2⟩ := t4 k (by omega)
            exact ⟨b, hb, by simp (disch := omega) only [mset_h, mset_n]; exact b1, by simp (disch := omega) only [mset_h, mset_n]; exact b2⟩
