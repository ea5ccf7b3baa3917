/-! THE TAPE: lines; the whole sky -/
theorem c_allow0 {d : Nat} (V : Mem) : clV (d + 1) m_Tape_allow [.inr (.inr (20, 0)), .inl 0] V = some (mset V.1 20 0 1 (V.1 20 0 4), V.2) := clV_of ((e_Tape_allow_0 d 0 V).trans (if_pos rfl))
theorem c_allow1 {d : Nat} (V : Mem) : clV (d + 1) m_Tape_allow [.inr (.inr (20, 0)), .inl 1] V = some V := clV_of ((e_Tape_allow_0 d 1 V).trans (if_neg one_ne))
theorem line74F {d : Nat} (x2 x4 : Int32) (j : Nat) {V : Mem} (h : ¬ V.1 20 0 1 = -1) : sem (d + 1) 71 74 [some (.inr (.inr (20, 0))), some (.inr (.inr (1, 2))), some (.inl x2), some (.inr (.inr (5, j))), some (.inl x4), none, none] [.inl 1, .inr (.inr (20, 0))] V = some (none, V) := by
  rw [e_Tape_readLine_74, c_allow1, bind_some', c_readNumF _ _ h, bind_some', if_neg h]
theorem line740 {d f : Nat} (hf : f < 1000) (x2 x4 : Int32) (j : Nat) {V : Mem} (h : V.1 20 0 4 = nI f) : sem (d + 1) 71 74 [some (.inr (.inr (20, 0))), some (.inr (.inr (1, 2))), some (.inl x2), some (.inr (.inr (5, j))), some (.inl x4), none, none] [.inl 0, .inr (.inr (20, 0))] V = some (none, (mset V.1 20 0 1 (nI f), V.2)) := by
  have n1 : ¬ (mset V.1 20 0 1 (nI f)) 20 0 1 = -1 := by rw [mset_h ⟨rfl, rfl, rfl⟩]; exact neg1_nI (by omega)
  rw [e_Tape_readLine_74, c_allow0, bind_some', h]
  dsimp only
  rw [c_readNumF _ _ n1, bind_some', if_neg n1]
theorem line1420 {d f : Nat} (hf : f < 1000) (x2 x4 x5 x6 : Int32) (j : Nat) {V : Mem} (h : V.1 20 0 4 = nI f) : sem (d + 1) 71 141 [some (.inr (.inr (20, 0))), some (.inr (.inr (1, 2))), some (.inl x2), some (.inr (.inr (5, j))), some (.inl x4), some (.inl x5), some (.inl x6)] [.inr (.inr (20, 0))] V = some (none, (mset V.1 20 0 1 (nI f), V.2)) := by
  have n1 : ¬ (mset V.1 20 0 1 (nI f)) 20 0 1 = -1 := by rw [mset_h ⟨rfl, rfl, rfl⟩]; exact neg1_nI (by omega)
  rw [e_Tape_readLine_141, e_Tape_readLine_142, c_allow0, bind_some', h]
  dsimp only
  rw [if_neg n1]
theorem out_line {d n s : Nat} {T : Nat → Nat} (hn : n ≤ 250) (hT : ∀ k, k < n → T k < 256) (hs : s ≤ n) (hk : kw T n s 3) {K : SKY} (ok : okK K) : OutE d T n K s (sc isLt T n s) 3 := by
  have hX := ok.2.1
  have hP := ok.1
  have he := (sc_p (P := isLt) (T := T) (n := n) (n - s) s rfl hs).2.1
  generalize hE : sc isLt T n s = e at *
  obtain ⟨a1, a2, a3⟩ := tS_p T he
  obtain ⟨b1, b2, b3⟩ := tS_p T (a := tD T n e) a3
  obtain ⟨c1, c2, c3⟩ := tS_p T (a := tD T n (tD T n e)) b3
  have mD : ∀ (W W' : Mem) (z : Int32), (z = 0 ∨ z = 1) → sem (d + 4) 160 0 [some (.inr (.inr (30, 0))), none, none, none] [] W = some (some (.inl z), W') → sem (d + 5) 161 31 [some (.inr (.inr (30, 0))), some (.inl (nI 3)), none, none] [] W = some (some (.inl z), W') := fun W W' z hz hw => by
    have li : clI (d + 5) 160 [.inr (.inr (30, 0))] W = some (z, W') := clI_of hw
    rw [e_M_isStatement_31, if_neg (by decide), e_M_isStatement_51, if_pos (by decide), li, bind_some', if_pos hz]
  have cD : ∀ V V', CLs T n V e K → V.1 20 0 4 = nI s → sem (d + 4) 71 0 [some (.inr (.inr (20, 0))), some (.inr (.inr (1, 2))), none, none, none, none, none] [] V = some (none, V') → sem (d + 5) 65 56 [some (.inr (.inr (20, 0))), some (.inr (.inr (1, 2)))] [] V = some (none, V') := fun V V' h h4 hw => by
    have rd : clV (d + 5) 71 [.inr (.inr (20, 0)), .inr (.inr (1, 2))] V = some V' := clV_of hw
    rw [disp_C (d := d + 3) hn hT hs hk ok (by rw [hE]; exact h) h4, if_neg (by omega), if_neg (by omega), if_neg (by omega), if_pos rfl, rd, bind_some']
  by_cases A : nOK T n e 0 (nI (kNX K) - 1)
  · obtain ⟨x, hx, x3⟩ := rngM (m := kNX K) (by omega) A.2.1 A.2.2
    have hl := ok.toL.2.2 x hx
    by_cases B : kLn K x < 10
    · by_cases C : nOK T n (tD T n e) 0 (nI (kNP K) - 1)
      · obtain ⟨p, hp, p3⟩ := rngM (m := kNP K) (by omega) C.2.1 C.2.2
        by_cases D : kW K x p = true
        · by_cases E : nOK T n (tD T n (tD T n e)) 0 (nI (kNP K) - 1)
          · obtain ⟨q, hq, q3⟩ := rngM (m := kNP K) (by omega) E.2.1 E.2.2
            by_cases F : ¬ p = q ∧ kW K x q = true ∧ memP (kF K x) (kG K x) p q (kLn K x) = false
            · have D' : ∀ i, i < kLn K x → ¬ eqL (kF K x i) (kG K x i) p q := fun i hi w => by
                have := (memP_iff (kLn K x)).mpr ⟨i, hi, w⟩
                rw [F.2.2] at this
                exact absurd this (by simp)
              have npq : ¬ nI p = nI q := fun w => F.1 ((nI_eq (by omega) (by omega)).mp w)
              refine Or.inl ⟨drawK K x p q, tD T n (tD T n (tD T n e)), by omega, c3, drawK_ok ok hx B hp hq F.1 D F.2.1 D', Nat.le_refl _, fun V h h4 => ?_, fun W h h8 => ?_⟩
              · obtain ⟨V1, v1, v2, v3, v4, v5⟩ := (c_readNum (d := d + 2) 0 (nI (kNX K) - 1) hn hT he h.1 h.2.1 h.2.2.1).1 A
                rw [x3] at v1
                have cs1 := h.2.2.2.t20 ok v5 (by unfold p34; omega)
                have t1 := h.1.fr v5 (by unfold p34; omega)
                have px := cs1.2.2 x hx
                have st := e_Tape_readLine_0 (d + 4) 2 V
                rw [h.2.2.2.1.2.1, v1, bind_some', if_pos v2, if_neg (nI_in (N := 6) (by omega) (by omega)), nI_clamp (by omega), c_room px, bind_some'] at st
                rw [bI_t (show nI (kLn K x) < 10 from nI_lt (b := 10) B (by omega)), c_allow1, bind_some', cs1.1.1] at st
                obtain ⟨V2, u1, u2, u3, u4, u5⟩ := (c_readNum (d := d + 2) 0 (nI (kNP K) - 1) hn hT a3 t1 v2 v3).1 C
                rw [p3] at u1
                have cs2 := cs1.t20 ok u5 (by unfold p34; omega)
                have t2 := t1.fr u5 (by unfold p34; omega)
                rw [u1, bind_some', if_pos u2, shl12 (by omega), c_wants1 (cs2.2.2 x hx) hP hp, bind_some'] at st
                rw [bI_t D, if_neg one_ne, e_Tape_readLine_69, e_Tape_readLine_74, c_allow1, bind_some', cs2.1.1] at st
                obtain ⟨V3, z1, z2, z3, z4, z5⟩ := (c_readNum (d := d + 2) 0 (nI (kNP K) - 1) hn hT b3 t2 u2 u3).1 E
                rw [q3] at z1
                have cs3 := cs2.t20 ok z5 (by unfold p34; omega)
                have t3 := t2.fr z5 (by unfold p34; omega)
                rw [z1, bind_some', if_pos z2, shl12 (by omega), shl12 (by omega), nI_or] at st
                have pz := cs3.2.2 x hx
                obtain ⟨V4, y1, y2, y3, y4⟩ := c_draw (d := d + 2) pz B p q
                have fr : FrC 2 V3 V4 := ⟨fun t i k g1 g2 => y3 t i k (by omega), y4⟩
                have c3' : CLs T n V3 (tD T n (tD T n (tD T n e))) K := ⟨t3, z2, z3, cs3⟩
                refine ⟨V4, cD V V4 h h4 (st.trans ?_), c3'.frc fr (cs3.draw (x := x) (fun t i k w => y3 t i k w) y2), (((v5.trans u5).trans z5).toT (by unfold p34; omega)).trans (FrC2.fT fr)⟩
                rw [if_neg npq, c_wantsPair pz hP hp hq, bind_some', bI_t ⟨D, F.2.1⟩, if_neg one_ne, c_find (r := -1) pz hl (ok.fg hx) (by omega) (by omega) F.1 (fun _ => rfl) (fun i hi w => absurd w (D' i hi)), bind_some', if_pos rfl, e_Tape_readLine_142, c_allow1, bind_some', if_pos z2, y1, bind_some']
              · obtain ⟨W1, v1, v2, v3, v4⟩ := (c_M_number (d := d) 0 (nI (kNX K) - 1) hn hT he h.1 h.2.1).1 A
                rw [x3] at v1
                have m1 : MS W1 32 0 K := h.2.2.fr v4 (by unfold p789; omega)
                have t1 := h.1.fr v4 (by unfold p789; omega)
                have st := e_M_isLine_0 (d + 4) W
                rw [h.2.2.nx, v1, bind_some', if_neg (neg1_nI (by omega)), c_M_ln m1 ok.toL hx, bind_some'] at st
                rw [if_neg (show ¬ nI (kLn K x) = 10 from fun w => by have := (nI_eq (b := 10) (by omega) (by omega)).mp w; omega)] at st
                dsimp only at st
                rw [m1.np] at st
                obtain ⟨W2, u1, u2, u3, u4⟩ := (c_M_number (d := d) 0 (nI (kNP K) - 1) hn hT a3 t1 v2).1 C
                rw [p3] at u1
                have m2 : MS W2 32 0 K := m1.fr u4 (by unfold p789; omega)
                have t2 := t1.fr u4 (by unfold p789; omega)
                rw [u1, bind_some', if_neg (neg1_nI (by omega)), c_M_isWanted m2 ok hx hp, bind_some'] at st
                rw [bI_t D, if_neg one_ne] at st
                dsimp only at st
                rw [m2.np] at st
                obtain ⟨W3, z1, z2, z3, z4⟩ := (c_M_number (d := d) 0 (nI (kNP K) - 1) hn hT b3 t2 u2).1 E
                rw [q3] at z1
                have m3 : MS W3 32 0 K := m2.fr z4 (by unfold p789; omega)
                have t3 := t2.fr z4 (by unfold p789; omega)
                rw [z1, bind_some', if_neg (neg1_nI (by omega)), c_M_isWanted m3 ok hx hq, bind_some'] at st
                obtain ⟨W4, y1, y2, y3⟩ := c_M_draw (d := d + 2) m3 ok hx B p q
                have c3' : MOs T n W3 (tD T n (tD T n (tD T n e))) K := ⟨t3, z2, m3⟩
                refine ⟨W4, mD W W4 1 (Or.inr rfl) (st.trans ?_), c3'.frm y3 y2, ((v4.trans u4).trans z4).toM.trans (y3.fr (by unfold fMo; omega))⟩
                rw [bI_t F.2.1, if_neg one_ne, if_neg (fun w => npq w.symm), c_M_drawn (r := -1) m3 ok hx (by omega) (by omega) (fun _ => rfl) (fun i hi w => absurd w (D' i hi)), bind_some', if_pos rfl, y1, bind_some']
            · refine Or.inr ⟨tS T n (tD T n (tD T n e)), by omega, fun V h h4 => ?_, fun W h h8 => ?_⟩
              · obtain ⟨V1, v1, v2, v3, v4, v5⟩ := (c_readNum (d := d + 2) 0 (nI (kNX K) - 1) hn hT he h.1 h.2.1 h.2.2.1).1 A
                rw [x3] at v1
                have cs1 := h.2.2.2.t20 ok v5 (by unfold p34; omega)
                have t1 := h.1.fr v5 (by unfold p34; omega)
                have px := cs1.2.2 x hx
                have st := e_Tape_readLine_0 (d + 4) 2 V
                rw [h.2.2.2.1.2.1, v1, bind_some', if_pos v2, if_neg (nI_in (N := 6) (by omega) (by omega)), nI_clamp (by omega), c_room px, bind_some'] at st
                rw [bI_t (show nI (kLn K x) < 10 from nI_lt (b := 10) B (by omega)), c_allow1, bind_some', cs1.1.1] at st
                obtain ⟨V2, u1, u2, u3, u4, u5⟩ := (c_readNum (d := d + 2) 0 (nI (kNP K) - 1) hn hT a3 t1 v2 v3).1 C
                rw [p3] at u1
                have cs2 := cs1.t20 ok u5 (by unfold p34; omega)
                have t2 := t1.fr u5 (by unfold p34; omega)
                rw [u1, bind_some', if_pos u2, shl12 (by omega), c_wants1 (cs2.2.2 x hx) hP hp, bind_some'] at st
                rw [bI_t D, if_neg one_ne, e_Tape_readLine_69, e_Tape_readLine_74, c_allow1, bind_some', cs2.1.1] at st
                obtain ⟨V3, z1, z2, z3, z4, z5⟩ := (c_readNum (d := d + 2) 0 (nI (kNP K) - 1) hn hT b3 t2 u2 u3).1 E
                rw [q3] at z1
                have cs3 := cs2.t20 ok z5 (by unfold p34; omega)
                have t3 := t2.fr z5 (by unfold p34; omega)
                rw [z1, bind_some', if_pos z2, shl12 (by omega), shl12 (by omega), nI_or] at st
                have pz := cs3.2.2 x hx
                refine ⟨(mset V3.1 20 0 1 (nI (tS T n (tD T n (tD T n e)))), V3.2), cD V _ h h4 (st.trans ?_), by simp (disch := omega) only [mset_h], ((((v5.trans u5).trans z5).mono (by unfold p34 p134; omega)).set (by unfold p134; omega)).toT (P := p134) (by unfold p134; omega)⟩
                by_cases e1 : p = q
                · rw [if_pos (by rw [e1]), line1420 (d := d + 3) (by omega) _ _ _ _ _ z4]
                · rw [if_neg (fun w => e1 ((nI_eq (by omega) (by omega)).mp w)), c_wantsPair pz hP hp hq, bind_some']
                  by_cases e2 : kW K x q = true
                  · rw [bI_t ⟨D, e2⟩, if_neg one_ne]
                    have e3 : memP (kF K x) (kG K x) p q (kLn K x) = true := by
                      by_cases w : memP (kF K x) (kG K x) p q (kLn K x) = true
                      · exact w
                      · exact absurd ⟨e1, e2, by simpa using w⟩ F
                    obtain ⟨j, hj, dj⟩ := (memP_iff _).mp e3
                    have r2 : ∀ u, u < kLn K x → eqL (kF K x u) (kG K x u) p q → nI j = nI u := fun u hu w => by
                      have := (ok.2.2.2.2 x hx).2.2 j u hj hu (by omega)
                      rw [this]
                    rw [c_find pz hl (ok.fg hx) (by omega) (by omega) e1 (fun w => absurd dj (w j hj)) r2, bind_some', if_neg (neg1_nI (by omega)), line1420 (d := d + 3) (by omega) _ _ _ _ _ z4]
                  · rw [bI_f (fun w => e2 w.2), if_pos rfl, line1420 (d := d + 3) (by omega) _ _ _ _ _ z4]
              · obtain ⟨W1, v1, v2, v3, v4⟩ := (c_M_number (d := d) 0 (nI (kNX K) - 1) hn hT he h.1 h.2.1).1 A
                rw [x3] at v1
                have m1 : MS W1 32 0 K := h.2.2.fr v4 (by unfold p789; omega)
                have t1 := h.1.fr v4 (by unfold p789; omega)
                have st := e_M_isLine_0 (d + 4) W
                rw [h.2.2.nx, v1, bind_some', if_neg (neg1_nI (by omega)), c_M_ln m1 ok.toL hx, bind_some'] at st
                rw [if_neg (show ¬ nI (kLn K x) = 10 from fun w => by have := (nI_eq (b := 10) (by omega) (by omega)).mp w; omega)] at st
                dsimp only at st
                rw [m1.np] at st
                obtain ⟨W2, u1, u2, u3, u4⟩ := (c_M_number (d := d) 0 (nI (kNP K) - 1) hn hT a3 t1 v2).1 C
                rw [p3] at u1
                have m2 : MS W2 32 0 K := m1.fr u4 (by unfold p789; omega)
                have t2 := t1.fr u4 (by unfold p789; omega)
                rw [u1, bind_some', if_neg (neg1_nI (by omega)), c_M_isWanted m2 ok hx hp, bind_some'] at st
                rw [bI_t D, if_neg one_ne] at st
                dsimp only at st
                rw [m2.np] at st
                obtain ⟨W3, z1, z2, z3, z4⟩ := (c_M_number (d := d) 0 (nI (kNP K) - 1) hn hT b3 t2 u2).1 E
                rw [q3] at z1
                have m3 : MS W3 32 0 K := m2.fr z4 (by unfold p789; omega)
                have t3 := t2.fr z4 (by unfold p789; omega)
                rw [z1, bind_some', if_neg (neg1_nI (by omega)), c_M_isWanted m3 ok hx hq, bind_some'] at st
                refine ⟨W3, mD W W3 0 (Or.inl rfl) (st.trans ?_), z3, ((v4.trans u4).trans z4).toM⟩
                by_cases e2 : kW K x q = true
                · rw [bI_t e2, if_neg one_ne]
                  by_cases e1 : p = q
                  · rw [if_pos (by rw [e1])]
                  · rw [if_neg (fun w => e1 ((nI_eq (by omega) (by omega)).mp w.symm))]
                    have e3 : memP (kF K x) (kG K x) p q (kLn K x) = true := by
                      by_cases w : memP (kF K x) (kG K x) p q (kLn K x) = true
                      · exact w
                      · exact absurd ⟨e1, e2, by simpa using w⟩ F
                    obtain ⟨j, hj, dj⟩ := (memP_iff _).mp e3
                    have r2 : ∀ u, u < kLn K x → eqL (kF K x u) (kG K x u) p q → nI j = nI u := fun u hu w => by
                      have := (ok.2.2.2.2 x hx).2.2 j u hj hu (by omega)
                      rw [this]
                    rw [c_M_drawn m3 ok hx (by omega) (by omega) (fun w => absurd dj (w j hj)) r2, bind_some', if_neg (neg1_nI (by omega))]
                · rw [bI_f e2, if_pos rfl]
          · refine Or.inr ⟨tS T n (tD T n (tD T n e)), by omega, fun V h h4 => ?_, fun W h h8 => ?_⟩
            · obtain ⟨V1, v1, v2, v3, v4, v5⟩ := (c_readNum (d := d + 2) 0 (nI (kNX K) - 1) hn hT he h.1 h.2.1 h.2.2.1).1 A
              rw [x3] at v1
              have cs1 := h.2.2.2.t20 ok v5 (by unfold p34; omega)
              have t1 := h.1.fr v5 (by unfold p34; omega)
              have px := cs1.2.2 x hx
              have st := e_Tape_readLine_0 (d + 4) 2 V
              rw [h.2.2.2.1.2.1, v1, bind_some', if_pos v2, if_neg (nI_in (N := 6) (by omega) (by omega)), nI_clamp (by omega), c_room px, bind_some'] at st
              rw [bI_t (show nI (kLn K x) < 10 from nI_lt (b := 10) B (by omega)), c_allow1, bind_some', cs1.1.1] at st
              obtain ⟨V2, u1, u2, u3, u4, u5⟩ := (c_readNum (d := d + 2) 0 (nI (kNP K) - 1) hn hT a3 t1 v2 v3).1 C
              rw [p3] at u1
              have cs2 := cs1.t20 ok u5 (by unfold p34; omega)
              have t2 := t1.fr u5 (by unfold p34; omega)
              rw [u1, bind_some', if_pos u2, shl12 (by omega), c_wants1 (cs2.2.2 x hx) hP hp, bind_some'] at st
              rw [bI_t D, if_neg one_ne, e_Tape_readLine_69, e_Tape_readLine_74, c_allow1, bind_some', cs2.1.1] at st
              obtain ⟨V3, zz, z1, z2, z3⟩ := (c_readNum (d := d + 2) 0 (nI (kNP K) - 1) hn hT b3 t2 u2 u3).2 E
              refine ⟨V3, cD V V3 h h4 (st.trans ?_), z2, (((v5.trans u5).mono (by unfold p34 p134; omega)).trans z3).toT (P := p134) (by unfold p134; omega)⟩
              rw [z1, bind_some', if_neg (by rw [z2]; exact neg1_nI (by omega))]
            · obtain ⟨W1, v1, v2, v3, v4⟩ := (c_M_number (d := d) 0 (nI (kNX K) - 1) hn hT he h.1 h.2.1).1 A
              rw [x3] at v1
              have m1 : MS W1 32 0 K := h.2.2.fr v4 (by unfold p789; omega)
              have t1 := h.1.fr v4 (by unfold p789; omega)
              have st := e_M_isLine_0 (d + 4) W
              rw [h.2.2.nx, v1, bind_some', if_neg (neg1_nI (by omega)), c_M_ln m1 ok.toL hx, bind_some'] at st
              rw [if_neg (show ¬ nI (kLn K x) = 10 from fun w => by have := (nI_eq (b := 10) (by omega) (by omega)).mp w; omega)] at st
              dsimp only at st
              rw [m1.np] at st
              obtain ⟨W2, u1, u2, u3, u4⟩ := (c_M_number (d := d) 0 (nI (kNP K) - 1) hn hT a3 t1 v2).1 C
              rw [p3] at u1
              have m2 : MS W2 32 0 K := m1.fr u4 (by unfold p789; omega)
              have t2 := t1.fr u4 (by unfold p789; omega)
              rw [u1, bind_some', if_neg (neg1_nI (by omega)), c_M_isWanted m2 ok hx hp, bind_some'] at st
              rw [bI_t D, if_neg one_ne] at st
              dsimp only at st
              rw [m2.np] at st
              obtain ⟨W3, z1, z2, z3⟩ := (c_M_number (d := d) 0 (nI (kNP K) - 1) hn hT b3 t2 u2).2 E
              refine ⟨W3, mD W W3 0 (Or.inl rfl) (st.trans ?_), z2, ((v4.trans u4).trans z3).toM⟩
              rw [z1, bind_some', if_pos rfl]
        · refine Or.inr ⟨tS T n (tD T n e), by omega, fun V h h4 => ?_, fun W h h8 => ?_⟩
          · obtain ⟨V1, v1, v2, v3, v4, v5⟩ := (c_readNum (d := d + 2) 0 (nI (kNX K) - 1) hn hT he h.1 h.2.1 h.2.2.1).1 A
            rw [x3] at v1
            have cs1 := h.2.2.2.t20 ok v5 (by unfold p34; omega)
            have t1 := h.1.fr v5 (by unfold p34; omega)
            have px := cs1.2.2 x hx
            have st := e_Tape_readLine_0 (d + 4) 2 V
            rw [h.2.2.2.1.2.1, v1, bind_some', if_pos v2, if_neg (nI_in (N := 6) (by omega) (by omega)), nI_clamp (by omega), c_room px, bind_some'] at st
            rw [bI_t (show nI (kLn K x) < 10 from nI_lt (b := 10) B (by omega)), c_allow1, bind_some', cs1.1.1] at st
            obtain ⟨V2, u1, u2, u3, u4, u5⟩ := (c_readNum (d := d + 2) 0 (nI (kNP K) - 1) hn hT a3 t1 v2 v3).1 C
            rw [p3] at u1
            have cs2 := cs1.t20 ok u5 (by unfold p34; omega)
            have t2 := t1.fr u5 (by unfold p34; omega)
            rw [u1, bind_some', if_pos u2, shl12 (by omega), c_wants1 (cs2.2.2 x hx) hP hp, bind_some'] at st
            refine ⟨(mset V2.1 20 0 1 (nI (tS T n (tD T n e))), V2.2), cD V _ h h4 (st.trans ?_), by simp (disch := omega) only [mset_h], (((v5.trans u5).mono (by unfold p34 p134; omega)).set (by unfold p134; omega)).toT (P := p134) (by unfold p134; omega)⟩
            rw [bI_f D, if_pos rfl, line740 (d := d + 3) (by omega) _ _ _ u4]
          · obtain ⟨W1, v1, v2, v3, v4⟩ := (c_M_number (d := d) 0 (nI (kNX K) - 1) hn hT he h.1 h.2.1).1 A
            rw [x3] at v1
            have m1 : MS W1 32 0 K := h.2.2.fr v4 (by unfold p789; omega)
            have t1 := h.1.fr v4 (by unfold p789; omega)
            have st := e_M_isLine_0 (d + 4) W
            rw [h.2.2.nx, v1, bind_some', if_neg (neg1_nI (by omega)), c_M_ln m1 ok.toL hx, bind_some'] at st
            rw [if_neg (show ¬ nI (kLn K x) = 10 from fun w => by have := (nI_eq (b := 10) (by omega) (by omega)).mp w; omega)] at st
            dsimp only at st
            rw [m1.np] at st
            obtain ⟨W2, u1, u2, u3, u4⟩ := (c_M_number (d := d) 0 (nI (kNP K) - 1) hn hT a3 t1 v2).1 C
            rw [p3] at u1
            have m2 : MS W2 32 0 K := m1.fr u4 (by unfold p789; omega)
            have t2 := t1.fr u4 (by unfold p789; omega)
            rw [u1, bind_some', if_neg (neg1_nI (by omega)), c_M_isWanted m2 ok hx hp, bind_some'] at st
            refine ⟨W2, mD W W2 0 (Or.inl rfl) (st.trans ?_), u3, (v4.trans u4).toM⟩
            rw [bI_f D, if_pos rfl]
      · refine Or.inr ⟨tS T n (tD T n e), by omega, fun V h h4 => ?_, fun W h h8 => ?_⟩
        · obtain ⟨V1, v1, v2, v3, v4, v5⟩ := (c_readNum (d := d + 2) 0 (nI (kNX K) - 1) hn hT he h.1 h.2.1 h.2.2.1).1 A
          rw [x3] at v1
          have cs1 := h.2.2.2.t20 ok v5 (by unfold p34; omega)
          have t1 := h.1.fr v5 (by unfold p34; omega)
          have px := cs1.2.2 x hx
          have st := e_Tape_readLine_0 (d + 4) 2 V
          rw [h.2.2.2.1.2.1, v1, bind_some', if_pos v2, if_neg (nI_in (N := 6) (by omega) (by omega)), nI_clamp (by omega), c_room px, bind_some'] at st
          rw [bI_t (show nI (kLn K x) < 10 from nI_lt (b := 10) B (by omega)), c_allow1, bind_some', cs1.1.1] at st
          obtain ⟨V2, zz, z1, z2, z3⟩ := (c_readNum (d := d + 2) 0 (nI (kNP K) - 1) hn hT a3 t1 v2 v3).2 C
          have n1 : ¬ V2.1 20 0 1 = -1 := by rw [z2]; exact neg1_nI (by omega)
          refine ⟨V2, cD V V2 h h4 (st.trans ?_), z2, ((v5.mono (by unfold p34 p134; omega)).trans z3).toT (P := p134) (by unfold p134; omega)⟩
          rw [z1, bind_some', if_neg n1, e_Tape_readLine_69, line74F (d := d + 3) _ _ _ n1]
        · obtain ⟨W1, v1, v2, v3, v4⟩ := (c_M_number (d := d) 0 (nI (kNX K) - 1) hn hT he h.1 h.2.1).1 A
          rw [x3] at v1
          have m1 : MS W1 32 0 K := h.2.2.fr v4 (by unfold p789; omega)
          have t1 := h.1.fr v4 (by unfold p789; omega)
          have st := e_M_isLine_0 (d + 4) W
          rw [h.2.2.nx, v1, bind_some', if_neg (neg1_nI (by omega)), c_M_ln m1 ok.toL hx, bind_some'] at st
          rw [if_neg (show ¬ nI (kLn K x) = 10 from fun w => by have := (nI_eq (b := 10) (by omega) (by omega)).mp w; omega)] at st
          dsimp only at st
          rw [m1.np] at st
          obtain ⟨W2, z1, z2, z3⟩ := (c_M_number (d := d) 0 (nI (kNP K) - 1) hn hT a3 t1 v2).2 C
          refine ⟨W2, mD W W2 0 (Or.inl rfl) (st.trans ?_), z2, (v4.trans z3).toM⟩
          rw [z1, bind_some', if_pos rfl]
    · refine Or.inr ⟨tS T n e, by omega, fun V h h4 => ?_, fun W h h8 => ?_⟩
      · obtain ⟨V1, v1, v2, v3, v4, v5⟩ := (c_readNum (d := d + 2) 0 (nI (kNX K) - 1) hn hT he h.1 h.2.1 h.2.2.1).1 A
        rw [x3] at v1
        have cs1 := h.2.2.2.t20 ok v5 (by unfold p34; omega)
        have t1 := h.1.fr v5 (by unfold p34; omega)
        have px := cs1.2.2 x hx
        have st := e_Tape_readLine_0 (d + 4) 2 V
        rw [h.2.2.2.1.2.1, v1, bind_some', if_pos v2, if_neg (nI_in (N := 6) (by omega) (by omega)), nI_clamp (by omega), c_room px, bind_some'] at st
        have n1 : ¬ (mset V1.1 20 0 1 (nI (tS T n e))) 20 0 1 = -1 := by rw [mset_h ⟨rfl, rfl, rfl⟩]; exact neg1_nI (by omega)
        refine ⟨(mset V1.1 20 0 1 (nI (tS T n e)), V1.2), cD V _ h h4 (st.trans ?_), by simp (disch := omega) only [mset_h], ((v5.mono (by unfold p34 p134; omega)).set (by unfold p134; omega)).toT (P := p134) (by unfold p134; omega)⟩
        rw [bI_f (show ¬ nI (kLn K x) < 10 from nI_nlt (b := 10) (by omega) (by omega)), c_allow0, bind_some', v4]
        dsimp only
        rw [c_readNumF _ _ n1, bind_some', if_neg n1, e_Tape_readLine_69, line74F (d := d + 3) _ _ _ n1]
      · obtain ⟨W1, v1, v2, v3, v4⟩ := (c_M_number (d := d) 0 (nI (kNX K) - 1) hn hT he h.1 h.2.1).1 A
        rw [x3] at v1
        have m1 : MS W1 32 0 K := h.2.2.fr v4 (by unfold p789; omega)
        have t1 := h.1.fr v4 (by unfold p789; omega)
        have st := e_M_isLine_0 (d + 4) W
        rw [h.2.2.nx, v1, bind_some', if_neg (neg1_nI (by omega)), c_M_ln m1 ok.toL hx, bind_some'] at st
        refine ⟨W1, mD W W1 0 (Or.inl rfl) (st.trans ?_), v3, v4.toM⟩
        rw [if_pos (show nI (kLn K x) = 10 by rw [show kLn K x = 10 by omega]; rfl)]
  · refine Or.inr ⟨tS T n e, by omega, fun V h h4 => ?_, fun W h h8 => ?_⟩
    · obtain ⟨V1, z, v1, v2, v3⟩ := (c_readNum (d := d + 2) 0 (nI (kNX K) - 1) hn hT he h.1 h.2.1 h.2.2.1).2 A
      refine ⟨V1, cD V V1 h h4 ((e_Tape_readLine_0 (d + 4) 2 V).trans ?_), v2, v3.toT (by unfold p134; omega)⟩
      rw [h.2.2.2.1.2.1, v1, bind_some', if_neg (by rw [v2]; exact neg1_nI (by omega))]
    · obtain ⟨W1, v1, v2, v3⟩ := (c_M_number (d := d) 0 (nI (kNX K) - 1) hn hT he h.1 h.2.1).2 A
      refine ⟨W1, mD W W1 0 (Or.inl rfl) ((e_M_isLine_0 (d + 4) W).trans ?_), v2, v3.toM⟩
      rw [h.2.2.nx, v1, bind_some', if_pos rfl]
