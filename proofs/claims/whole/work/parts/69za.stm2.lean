/-! THE TAPE: what a statement does -/
def CLs (T : Nat → Nat) (n : Nat) (V : Mem) (a : Nat) (K : SKY) : Prop := TPc T n V ∧ V.1 20 0 1 = -1 ∧ V.1 20 0 3 = nI a ∧ CS V 2 K
def MOs (T : Nat → Nat) (n : Nat) (W : Mem) (a : Nat) (K : SKY) : Prop := TPm T n W ∧ W.1 30 0 7 = nI a ∧ MS W 32 0 K
def fT (t i k : Nat) : Prop := (t = 20 ∧ ¬ k = 0) ∨ ((t = 1 ∨ t = 2 ∨ t = 3) ∧ i = 2) ∨ ((t = 5 ∨ t = 6 ∨ t = 7) ∧ 12 ≤ i ∧ i < 18)
def fMo (t _i k : Nat) : Prop := t = 32 ∨ (t = 30 ∧ (k = 7 ∨ k = 8 ∨ k = 9))
theorem CS.t20 {V V' : Mem} {K : SKY} (h : CS V 2 K) (ok : okK K) {P : Nat → Nat → Nat → Prop} (f : Fr P V V') (hp : ∀ t i k, P t i k → t = 20) : CS V' 2 K := h.fr ok f (fun t i k w => by have := hp t i k w; omega)
theorem pre_C {d n a : Nat} {T : Nat → Nat} (hn : n ≤ 250) (hT : ∀ k, k < n → T k < 256) (ha : a ≤ n) {V : Mem} {K : SKY} (ok : okK K) (h : CLs T n V a K) : ∃ V1, sem (d + 1) 65 0 [some (.inr (.inr (20, 0))), some (.inr (.inr (1, 2)))] [] V = sem (d + 1) 65 56 [some (.inr (.inr (20, 0))), some (.inr (.inr (1, 2)))] [] V1 ∧ CLs T n V1 (sc isLt T n (tS T n a)) K ∧ V1.1 20 0 4 = nI (tS T n a) ∧ Fr p34 V V1 := by
  obtain ⟨h1, h2, h3, h4⟩ := h
  obtain ⟨a1, a2, a3⟩ := tS_p T ha
  obtain ⟨V1, v1, v2, v3, v4⟩ := c_skip (d := d) hn hT ha h1 h3
  have t1 := h1.fr v4 (by unfold p34; omega)
  obtain ⟨V2, u1, u2, u3⟩ := letW (d := d + 1) (s := 2) hn hT (n - tS T n a) (tS T n a) V1 rfl (Nat.le_trans a2 a3) t1 v2
  have f : Fr p34 V V2 := v4.trans (u3.mono (by unfold p3 p34; omega))
  refine ⟨V2, (e_Tape_readStatement_0 (d + 1) 2 V).trans ?_, ⟨h1.fr f (by unfold p34; omega), (f.1 20 0 1 (by unfold p34; omega)).trans h2, u2, h4.t20 ok f (by unfold p34; omega)⟩, (u3.1 20 0 4 (by unfold p3; omega)).trans v3, f⟩
  rw [v1, bind_some']
  exact u1
theorem disp_C {d n s k0 : Nat} {T : Nat → Nat} (hn : n ≤ 250) (hT : ∀ k, k < n → T k < 256) (hs : s ≤ n) (hk : kw T n s k0) {V : Mem} {K : SKY} (ok : okK K) (h : CLs T n V (sc isLt T n s) K) (h4 : V.1 20 0 4 = nI s) : sem (d + 2) 65 56 [some (.inr (.inr (20, 0))), some (.inr (.inr (1, 2)))] [] V = if k0 = 0 ∧ kNP K < 12 then (clV (d + 2) 68 [.inr (.inr (20, 0)), .inr (.inr (1, 2))] V).bind fun W3 => some (none, W3) else if k0 = 1 ∧ kNX K < 6 then (clV (d + 2) 69 [.inr (.inr (20, 0)), .inr (.inr (1, 2))] V).bind fun W3 => some (none, W3) else if k0 = 2 then (clV (d + 2) 70 [.inr (.inr (20, 0)), .inr (.inr (1, 2))] V).bind fun W3 => some (none, W3) else if k0 = 3 then (clV (d + 2) 71 [.inr (.inr (20, 0)), .inr (.inr (1, 2))] V).bind fun W3 => some (none, W3) else if k0 = 4 then (clV (d + 2) 73 [.inr (.inr (20, 0)), .inr (.inr (1, 2))] V).bind fun W3 => some (none, W3) else some (none, (mset V.1 20 0 1 (nI s), V.2)) := by
  obtain ⟨h1, h2, h3, h5⟩ := h
  have hP := ok.1
  have hX := ok.2.1
  obtain ⟨q1, q2, q3, q4⟩ := sc_p (P := isLt) (T := T) (n := n) (n - s) s rfl hs
  have iw : ∀ k, k < 5 → clI (d + 2) 66 [.inr (.inr (20, 0)), .inr (.inr (52, k))] V = some (bI (k = k0), V) := fun k hk5 => by
    obtain ⟨b, b1, b2⟩ := c_isWord (d := d + 1) hk5 hn hT q1 q2 h1 h3 h4
    rw [bI_same (q := k = k0) (b2.trans (hk.2 k hk5).symm)] at b1
    exact b1
  have rp : clI (d + 2) 43 [.inr (.inr (1, 2))] V = some (bI (kNP K < 12), V) := by
    have := c_roomPt (d := d + 1) (s := 2) (V := V)
    rw [h5.1.1, bI_same (p := nI (kNP K) < 12) (q := kNP K < 12) (nI_ltI (b := 12) (by omega) (by omega))] at this
    exact this
  have rx : clI (d + 2) 45 [.inr (.inr (1, 2))] V = some (bI (kNX K < 6), V) := by
    have := c_roomPar (d := d + 1) (s := 2) (V := V)
    rw [h5.1.2.1, bI_same (p := nI (kNX K) < 6) (q := kNX K < 6) (nI_ltI (b := 6) (by omega) (by omega))] at this
    exact this
  have s104 : sem (d + 2) 65 104 [some (.inr (.inr (20, 0))), some (.inr (.inr (1, 2)))] [] V = if k0 = 2 then (clV (d + 2) 70 [.inr (.inr (20, 0)), .inr (.inr (1, 2))] V).bind fun W3 => some (none, W3) else if k0 = 3 then (clV (d + 2) 71 [.inr (.inr (20, 0)), .inr (.inr (1, 2))] V).bind fun W3 => some (none, W3) else if k0 = 4 then (clV (d + 2) 73 [.inr (.inr (20, 0)), .inr (.inr (1, 2))] V).bind fun W3 => some (none, W3) else some (none, (mset V.1 20 0 1 (nI s), V.2)) := by
    rw [e_Tape_readStatement_104, iw 2 (by omega), bind_some']
    by_cases e2 : k0 = 2
    · rw [bI_t e2.symm, if_neg one_ne, if_pos e2]
    · rw [bI_f (fun w => e2 w.symm), if_pos rfl, iw 3 (by omega), bind_some', if_neg e2]
      by_cases e3 : k0 = 3
      · rw [bI_t e3.symm, if_neg one_ne, if_pos e3]
      · rw [bI_f (fun w => e3 w.symm), if_pos rfl, iw 4 (by omega), bind_some', if_neg e3]
        by_cases e4 : k0 = 4
        · rw [bI_t e4.symm, if_neg one_ne, if_pos e4]
        · rw [bI_f (fun w => e4 w.symm), if_pos rfl, if_neg e4, h4]
  have s80 : sem (d + 2) 65 80 [some (.inr (.inr (20, 0))), some (.inr (.inr (1, 2)))] [] V = if k0 = 1 ∧ kNX K < 6 then (clV (d + 2) 69 [.inr (.inr (20, 0)), .inr (.inr (1, 2))] V).bind fun W3 => some (none, W3) else sem (d + 2) 65 104 [some (.inr (.inr (20, 0))), some (.inr (.inr (1, 2)))] [] V := by
    rw [e_Tape_readStatement_80, iw 1 (by omega), bind_some']
    by_cases e1 : k0 = 1
    · rw [bI_t e1.symm, if_neg one_ne, rx, bind_some']
      by_cases r : kNX K < 6
      · rw [bI_t r, if_neg one_ne, if_pos ⟨e1, r⟩]
      · rw [bI_f r, if_pos rfl, if_neg (fun w => r w.2)]
    · rw [bI_f (fun w => e1 w.symm), if_pos rfl, if_neg (fun w => e1 w.1)]
  rw [← s104, ← s80, e_Tape_readStatement_56, iw 0 (by omega), bind_some']
  by_cases e0 : k0 = 0
  · rw [bI_t e0.symm, if_neg one_ne, rp, bind_some']
    by_cases r : kNP K < 12
    · rw [bI_t r, if_neg one_ne, if_pos ⟨e0, r⟩]
    · rw [bI_f r, if_pos rfl, if_neg (fun w => r w.2)]
  · rw [bI_f (fun w => e0 w.symm), if_pos rfl, if_neg (fun w => e0 w.1)]
theorem pre_M {d n a k0 : Nat} {T : Nat → Nat} (hn : n ≤ 250) (hT : ∀ k, k < n → T k < 256) (ha : a ≤ n) {W : Mem} {K : SKY} (h : MOs T n W a K) (hk : kw T n (tS T n a) k0) : ∃ W1, TPm T n W1 ∧ W1.1 30 0 8 = nI (tS T n a) ∧ W1.1 30 0 7 = nI (tE T n (tS T n a)) ∧ MS W1 32 0 K ∧ Fr p789 W W1 ∧ sem (d + 4) 161 0 [some (.inr (.inr (30, 0))), none, none, none] [] W = (if k0 = 5 then some (some (.inl 0), W1) else if k0 = 0 ∧ nI (kNP K) = 12 then some (some (.inl 0), W1) else sem (d + 4) 161 31 [some (.inr (.inr (30, 0))), some (.inl (nI k0)), none, none] [] W1) := by
  obtain ⟨h1, h2, h3⟩ := h
  obtain ⟨a1, a2, a3⟩ := tS_p T ha
  have k5 := hk.1
  obtain ⟨W1, v1, v8, v9, v7, v4⟩ := c_M_next (d := d + 1) hn hT ha h1 h2
  have t1 := h1.fr v4 (by unfold p789; omega)
  have m1 : MS W1 32 0 K := h3.fr v4 (by unfold p789; omega)
  refine ⟨W1, t1, v8, v7, m1, v4, (e_M_isStatement_0 (d + 4) W).trans ?_⟩
  rw [v1, bind_some', c_M_word hn hT (Nat.le_trans a2 a3) hk t1 v7 v8 v9, bind_some']
  by_cases e5 : k0 = 5
  · rw [if_pos e5, if_pos e5, if_pos rfl]
  · rw [if_neg e5, if_neg e5, if_neg (neg1_nI (by omega))]
    by_cases e0 : k0 = 0
    · subst e0
      rw [if_pos (show nI 0 = 0 from rfl)]
      dsimp only
      rw [m1.np]
      by_cases r : nI (kNP K) = 12
      · rw [if_pos r, if_pos ⟨rfl, r⟩]
      · rw [if_neg r, if_neg (fun w => r w.2)]
    · rw [if_neg (show ¬ nI k0 = 0 from nI_ne0 (by omega) (by omega)), if_neg (fun w => e0 w.1)]
/-- where the fault of two numbers is -/
abbrev fp2 (T : Nat → Nat) (n e : Nat) (hi1 : Int32) : Nat := if nOK T n e 0 hi1 then tS T n (tD T n e) else tS T n e
theorem ctwo {d n e : Nat} {T : Nat → Nat} (hn : n ≤ 250) (hT : ∀ k, k < n → T k < 256) (he : e ≤ n) {V : Mem} {K : SKY} (ok : okK K) (h : CLs T n V e K) (hi1 lo2 hi2 : Int32) : (nOK T n e 0 hi1 → nOK T n (tD T n e) lo2 hi2 → ∃ V1 V2, clI (d + 2) 67 [.inr (.inr (20, 0)), .inl 0, .inl hi1] V = some (tV T n e, V1) ∧ clI (d + 2) 67 [.inr (.inr (20, 0)), .inl lo2, .inl hi2] V1 = some (tV T n (tD T n e), V2) ∧ CLs T n V2 (tD T n (tD T n e)) K ∧ Fr p34 V V1 ∧ Fr p34 V V2) ∧ (¬ (nOK T n e 0 hi1 ∧ nOK T n (tD T n e) lo2 hi2) → ∃ (V1 V2 : Mem) (z1 z2 : Int32), clI (d + 2) 67 [.inr (.inr (20, 0)), .inl 0, .inl hi1] V = some (z1, V1) ∧ clI (d + 2) 67 [.inr (.inr (20, 0)), .inl lo2, .inl hi2] V1 = some (z2, V2) ∧ V2.1 20 0 1 = nI (fp2 T n e hi1) ∧ Fr p134 V V1 ∧ Fr p134 V V2) := by
  obtain ⟨h1, h2, h3, h4⟩ := h
  obtain ⟨a1, a2, a3⟩ := tS_p T he
  obtain ⟨b1, b2, b3⟩ := tS_p T (a := tD T n e) a3
  obtain ⟨g1, g2⟩ := c_readNum (d := d) 0 hi1 hn hT he h1 h2 h3
  by_cases N1 : nOK T n e 0 hi1
  · obtain ⟨V1, v1, v2, v3, v4, v5⟩ := g1 N1
    have t1 := h1.fr v5 (by unfold p34; omega)
    obtain ⟨k1, k2⟩ := c_readNum (d := d) lo2 hi2 hn hT a3 t1 v2 v3
    refine ⟨fun _ N2 => ?_, fun nn => ?_⟩
    · obtain ⟨V2, u1, u2, u3, u4, u5⟩ := k1 N2
      have f : Fr p34 V V2 := v5.trans u5
      exact ⟨V1, V2, v1, u1, ⟨t1.fr u5 (by unfold p34; omega), u2, u3, h4.t20 ok f (by unfold p34; omega)⟩, v5, f⟩
    · obtain ⟨V2, z, u1, u2, u3⟩ := k2 (fun w => nn ⟨N1, w⟩)
      exact ⟨V1, V2, _, z, v1, u1, by rw [u2, show fp2 T n e hi1 = tS T n (tD T n e) from if_pos N1], v5.mono (by unfold p34 p134; omega), (v5.mono (by unfold p34 p134; omega)).trans u3⟩
  · obtain ⟨V1, z, v1, v2, v3⟩ := g2 N1
    refine ⟨fun w => absurd w N1, fun _ => ⟨V1, V1, z, -1, v1, ?_, by rw [v2, show fp2 T n e hi1 = tS T n e from if_neg N1], v3, v3⟩⟩
    exact c_readNumF (d := d + 1) lo2 hi2 (by rw [v2]; exact neg1_nI (by omega))
theorem mtwo {d n e k0 : Nat} {T : Nat → Nat} (hk : k0 < 3) (hn : n ≤ 250) (hT : ∀ k, k < n → T k < 256) (he : e ≤ n) {W : Mem} {K : SKY} (ok : okK K) (h : MOs T n W e K) (hi1 lo2 hi2 : Int32) (hl : lo2 = if k0 = 0 then 1 else 0) (hh : hi2 = if k0 = 2 then nI (kNP K) - 1 else 9) : (nOK T n e 0 hi1 → nOK T n (tD T n e) lo2 hi2 → ∃ W', sem (d + 4) 161 101 [some (.inr (.inr (30, 0))), some (.inl (nI k0)), none, none] [.inl hi1, .inl 0, .inr (.inr (30, 0))] W = sem (d + 4) 161 156 [some (.inr (.inr (30, 0))), some (.inl (nI k0)), some (.inl (tV T n e)), none] [.inl (tV T n (tD T n e))] W' ∧ MOs T n W' (tD T n (tD T n e)) K ∧ Fr p789 W W') ∧ (¬ (nOK T n e 0 hi1 ∧ nOK T n (tD T n e) lo2 hi2) → ∃ W', sem (d + 4) 161 101 [some (.inr (.inr (30, 0))), some (.inl (nI k0)), none, none] [.inl hi1, .inl 0, .inr (.inr (30, 0))] W = some (some (.inl 0), W') ∧ W'.1 30 0 8 = nI (fp2 T n e hi1) ∧ Fr p789 W W') := by
  obtain ⟨h1, h2, h3⟩ := h
  obtain ⟨a1, a2, a3⟩ := tS_p T he
  obtain ⟨g1, g2⟩ := c_M_number (d := d) 0 hi1 hn hT he h1 h2
  have st := e_M_isStatement_101 (d + 4) (nI k0) hi1 0 W
  have lo0 : ∀ x, x < 6 → ¬ x = k0 → ¬ nI k0 = nI x := fun x hx hne w => hne ((nI_eq (by omega) (by omega)).mp w).symm
  by_cases N1 : nOK T n e 0 hi1
  · obtain ⟨W1, v1, v2, v3, v4⟩ := g1 N1
    have ne1 : ¬ tV T n e = -1 := fun w => by
      have := N1.2.1
      rw [w] at this
      exact this (by decide)
    have t1 := h1.fr v4 (by unfold p789; omega)
    have m1 : MS W1 32 0 K := h3.fr v4 (by unfold p789; omega)
    rw [v1, bind_some', if_neg ne1, if_neg (show ¬ nI k0 = 4 from lo0 4 (by omega) (by omega))] at st
    have st2 : sem (d + 4) 161 101 [some (.inr (.inr (30, 0))), some (.inl (nI k0)), none, none] [.inl hi1, .inl 0, .inr (.inr (30, 0))] W = (clI (d + 4) 159 [.inr (.inr (30, 0)), .inl lo2, .inl hi2] W1).bind fun W2 => sem (d + 4) 161 156 [some (.inr (.inr (30, 0))), some (.inl (nI k0)), some (.inl (tV T n e)), none] [.inl W2.1] W2.2 := by
      rw [st]
      have s153 : ∀ lo : Int32, sem (d + 4) 161 133 [some (.inr (.inr (30, 0))), some (.inl (nI k0)), some (.inl (tV T n e)), none] [.inl lo, .inr (.inr (30, 0))] W1 = (clI (d + 4) 159 [.inr (.inr (30, 0)), .inl lo, .inl hi2] W1).bind fun W2 => sem (d + 4) 161 156 [some (.inr (.inr (30, 0))), some (.inl (nI k0)), some (.inl (tV T n e)), none] [.inl W2.1] W2.2 := fun lo => by
        rw [e_M_isStatement_133, m1.np]
        by_cases e2 : k0 = 2
        · rw [if_pos (by rw [e2]; rfl), e_M_isStatement_153, hh, if_pos e2]
        · rw [if_neg (show ¬ nI k0 = 2 from lo0 2 (by omega) (fun w => e2 w.symm)), e_M_isStatement_153, hh, if_neg e2]
      by_cases e0 : k0 = 0
      · rw [if_pos (by rw [e0]; rfl), s153, hl, if_pos e0]
      · rw [if_neg (show ¬ nI k0 = 0 from lo0 0 (by omega) (fun w => e0 w.symm)), s153, hl, if_neg e0]
    obtain ⟨k1, k2⟩ := c_M_number (d := d) lo2 hi2 hn hT a3 t1 v2
    refine ⟨fun _ N2 => ?_, fun nn => ?_⟩
    · obtain ⟨W2, u1, u2, u3, u4⟩ := k1 N2
      rw [u1, bind_some'] at st2
      exact ⟨W2, st2, ⟨t1.fr u4 (by unfold p789; omega), u2, m1.fr u4 (by unfold p789; omega)⟩, v4.trans u4⟩
    · obtain ⟨W2, u1, u2, u3⟩ := k2 (fun w => nn ⟨N1, w⟩)
      rw [u1, bind_some', e_M_isStatement_156, if_pos rfl] at st2
      exact ⟨W2, st2, by rw [u2, show fp2 T n e hi1 = tS T n (tD T n e) from if_pos N1], v4.trans u3⟩
  · obtain ⟨W1, v1, v2, v3⟩ := g2 N1
    rw [v1, bind_some', if_pos rfl, e_M_isStatement_156, if_pos rfl] at st
    exact ⟨fun w => absurd w N1, fun _ => ⟨W1, st, by rw [v2, show fp2 T n e hi1 = tS T n e from if_neg N1], v3⟩⟩
def OutE (d : Nat) (T : Nat → Nat) (n : Nat) (K : SKY) (s e k0 : Nat) : Prop :=
  (∃ (K' : SKY) (a' : Nat), e ≤ a' ∧ a' ≤ n ∧ okK K' ∧ kNX K ≤ kNX K' ∧ (∀ V, CLs T n V e K → V.1 20 0 4 = nI s → ∃ V', sem (d + 5) 65 56 [some (.inr (.inr (20, 0))), some (.inr (.inr (1, 2)))] [] V = some (none, V') ∧ CLs T n V' a' K' ∧ Fr fT V V') ∧ (∀ W, MOs T n W e K → W.1 30 0 8 = nI s → ∃ W', sem (d + 5) 161 31 [some (.inr (.inr (30, 0))), some (.inl (nI k0)), none, none] [] W = some (some (.inl 1), W') ∧ MOs T n W' a' K' ∧ Fr fMo W W')) ∨
  (∃ f : Nat, f ≤ n ∧ (∀ V, CLs T n V e K → V.1 20 0 4 = nI s → ∃ V', sem (d + 5) 65 56 [some (.inr (.inr (20, 0))), some (.inr (.inr (1, 2)))] [] V = some (none, V') ∧ V'.1 20 0 1 = nI f ∧ Fr fT V V') ∧ (∀ W, MOs T n W e K → W.1 30 0 8 = nI s → ∃ W', sem (d + 5) 161 31 [some (.inr (.inr (30, 0))), some (.inl (nI k0)), none, none] [] W = some (some (.inl 0), W') ∧ W'.1 30 0 8 = nI f ∧ Fr fMo W W'))
theorem fp2_le {T : Nat → Nat} {n e : Nat} (he : e ≤ n) (hi1 : Int32) : fp2 T n e hi1 ≤ n := by
  obtain ⟨a1, a2, a3⟩ := tS_p T he
  obtain ⟨b1, b2, b3⟩ := tS_p T (a := tD T n e) a3
  by_cases N : nOK T n e 0 hi1
  · rw [show fp2 T n e hi1 = tS T n (tD T n e) from if_pos N]; omega
  · rw [show fp2 T n e hi1 = tS T n e from if_neg N]; omega
theorem FrC2.fT {V V' : Mem} (f : FrC 2 V V') : Fr fT V V' := ⟨fun t i k q => f.1 t i k (fun w => q (Or.inr (Or.inl w))) (fun w => q (Or.inr (Or.inr ⟨w.1, by omega, by omega⟩))), f.2⟩
theorem TPc.frc {T : Nat → Nat} {n : Nat} {V V' : Mem} (h : TPc T n V) (f : FrC 2 V V') : TPc T n V' := h.fr (FrC2.fT f) (by unfold fT; omega)
theorem Fr.toT {V V' : Mem} {P : Nat → Nat → Nat → Prop} (f : Fr P V V') (hp : ∀ t i k, P t i k → t = 20 ∧ ¬ k = 0) : Fr fT V V' := f.mono (fun t i k w => Or.inl (hp t i k w))
theorem Fr.toM {V V' : Mem} (f : Fr p789 V V') : Fr fMo V V' := f.mono (by unfold p789 fMo; omega)
theorem CLs.frc {T : Nat → Nat} {n a : Nat} {V V' : Mem} {K K' : SKY} (h : CLs T n V a K) (f : FrC 2 V V') (c : CS V' 2 K') : CLs T n V' a K' := ⟨h.1.frc f, (f.1 20 0 1 (by omega) (by omega)).trans h.2.1, (f.1 20 0 3 (by omega) (by omega)).trans h.2.2.1, c⟩
theorem MOs.frm {T : Nat → Nat} {n a : Nat} {W W' : Mem} {K K' : SKY} (h : MOs T n W a K) (f : FrM W W') (c : MS W' 32 0 K') : MOs T n W' a K' := ⟨h.1.fr (f.fr (P := fun t _ _ => t = 32) (fun _ _ => rfl)) (by omega), (f.1 30 0 7 (by omega)).trans h.2.1, c⟩
theorem bind_none' {α β : Type} (f : α → Option β) : (none : Option α).bind f = none := rfl
theorem out_point {d n s : Nat} {T : Nat → Nat} (hn : n ≤ 250) (hT : ∀ k, k < n → T k < 256) (hs : s ≤ n) (hk : kw T n s 0) {K : SKY} (ok : okK K) (hr : kNP K < 12) : OutE d T n K s (sc isLt T n s) 0 := by
  have hX := ok.2.1
  have he := (sc_p (P := isLt) (T := T) (n := n) (n - s) s rfl hs).2.1
  generalize hE : sc isLt T n s = e at *
  obtain ⟨a1, a2, a3⟩ := tS_p T he
  obtain ⟨b1, b2, b3⟩ := tS_p T (a := tD T n e) a3
  have mD : ∀ W, sem (d + 5) 161 31 [some (.inr (.inr (30, 0))), some (.inl (nI 0)), none, none] [] W = sem (d + 5) 161 101 [some (.inr (.inr (30, 0))), some (.inl (nI 0)), none, none] [.inl 99, .inl 0, .inr (.inr (30, 0))] W := fun W => by
    rw [e_M_isStatement_31, if_neg (by decide), e_M_isStatement_51, if_neg (by decide), if_pos (by decide)]
  have cD : ∀ V, CLs T n V e K → V.1 20 0 4 = nI s → sem (d + 5) 65 56 [some (.inr (.inr (20, 0))), some (.inr (.inr (1, 2)))] [] V = (clV (d + 5) 68 [.inr (.inr (20, 0)), .inr (.inr (1, 2))] V).bind fun W3 => some (none, W3) := fun V h h4 => by
    rw [disp_C (d := d + 3) hn hT hs hk ok (by rw [hE]; exact h) h4, if_pos ⟨rfl, hr⟩]
  by_cases N : nOK T n e 0 99 ∧ nOK T n (tD T n e) 1 9
  · obtain ⟨c, _, c2, c3⟩ := rng (l := 0) (h := 99) (by omega) (by omega) N.1.2.1 N.1.2.2
    obtain ⟨b, bb1, bb2, bb3⟩ := rng (l := 1) (h := 9) (by omega) (by omega) N.2.2.1 N.2.2.2
    refine Or.inl ⟨addPt K c b, tD T n (tD T n e), by omega, b3, addPt_ok ok hr (by omega) bb1 bb2, Nat.le_refl _, fun V h h4 => ?_, fun W h h8 => ?_⟩
    · obtain ⟨V1, V2, v1, v2, v3, v4, v5⟩ := (ctwo (d := d + 2) hn hT he ok h 99 1 9).1 N.1 N.2
      rw [c3] at v1
      rw [bb3] at v2
      obtain ⟨V3, u1, u2, u3⟩ := c_addPoint (d := d + 2) (s := 2) v3.2.2.2 hr hX c b
      refine ⟨V3, (cD V h h4).trans ?_, v3.frc u3 u2, (v5.toT (by unfold p34; omega)).trans (FrC2.fT u3)⟩
      have rd : clV (d + 5) 68 [.inr (.inr (20, 0)), .inr (.inr (1, 2))] V = some V3 := by
        refine clV_of ((e_Tape_readPoint_0 (d + 4) 2 V).trans ?_)
        rw [v1, bind_some', v2, bind_some', if_pos v3.2.1, u1, bind_some']
      rw [rd, bind_some']
    · obtain ⟨W1, v1, v2, v3⟩ := (mtwo (d := d + 1) (k0 := 0) (by omega) hn hT he ok h 99 1 9 rfl rfl).1 N.1 N.2
      rw [c3, bb3] at v1
      obtain ⟨W2, u1, u2, u3⟩ := c_M_addPoint (d := d + 4) v2.2.2 ok hr c b
      refine ⟨W2, (mD W).trans (v1.trans ?_), v2.frm u3 u2, v3.toM.trans (u3.fr (by unfold fMo; omega))⟩
      rw [e_M_isStatement_156, if_neg (neg1_nI (by omega)), if_pos (by decide), u1, bind_some']
  · refine Or.inr ⟨fp2 T n e 99, fp2_le he 99, fun V h h4 => ?_, fun W h h8 => ?_⟩
    · obtain ⟨V1, V2, z1, z2, v1, v2, v3, v4, v5⟩ := (ctwo (d := d + 2) hn hT he ok h 99 1 9).2 N
      have fl := fp2_le (T := T) he 99
      refine ⟨V2, (cD V h h4).trans ?_, v3, v5.toT (by unfold p134; omega)⟩
      have rd : clV (d + 5) 68 [.inr (.inr (20, 0)), .inr (.inr (1, 2))] V = some V2 := by
        refine clV_of ((e_Tape_readPoint_0 (d + 4) 2 V).trans ?_)
        rw [v1, bind_some', v2, bind_some', if_neg (by rw [v3]; exact neg1_nI (by omega))]
      rw [rd, bind_some']
    · obtain ⟨W1, v1, v2, v3⟩ := (mtwo (d := d + 1) (k0 := 0) (by omega) hn hT he ok h 99 1 9 rfl rfl).2 N
      exact ⟨W1, (mD W).trans v1, v2, v3.toM⟩
theorem out_parish {d n s : Nat} {T : Nat → Nat} (hn : n ≤ 250) (hT : ∀ k, k < n → T k < 256) (hs : s ≤ n) (hk : kw T n s 1) {K : SKY} (ok : okK K) (hr : kNX K < 6) : OutE d T n K s (sc isLt T n s) 1 := by
  have hX := ok.2.1
  have he := (sc_p (P := isLt) (T := T) (n := n) (n - s) s rfl hs).2.1
  generalize hE : sc isLt T n s = e at *
  obtain ⟨a1, a2, a3⟩ := tS_p T he
  obtain ⟨b1, b2, b3⟩ := tS_p T (a := tD T n e) a3
  have mD : ∀ W, MS W 32 0 K → sem (d + 5) 161 31 [some (.inr (.inr (30, 0))), some (.inl (nI 1)), none, none] [] W = sem (d + 5) 161 101 [some (.inr (.inr (30, 0))), some (.inl (nI 1)), none, none] [.inl 5, .inl 0, .inr (.inr (30, 0))] W := fun W hm => by
    rw [e_M_isStatement_31, if_pos (by decide), hm.nx, if_neg (show ¬ nI (kNX K) = 6 from fun w => by have := (nI_eq (b := 6) (by omega) (by omega)).mp w; omega), e_M_isStatement_51, if_neg (by decide), if_neg (by decide), if_pos (by decide)]
  have cD : ∀ V, CLs T n V e K → V.1 20 0 4 = nI s → sem (d + 5) 65 56 [some (.inr (.inr (20, 0))), some (.inr (.inr (1, 2)))] [] V = (clV (d + 5) 69 [.inr (.inr (20, 0)), .inr (.inr (1, 2))] V).bind fun W3 => some (none, W3) := fun V h h4 => by
    rw [disp_C (d := d + 3) hn hT hs hk ok (by rw [hE]; exact h) h4, if_neg (by omega), if_pos ⟨rfl, hr⟩]
  by_cases N : nOK T n e 0 5 ∧ nOK T n (tD T n e) 0 9
  · obtain ⟨c, _, c2, c3⟩ := rng (l := 0) (h := 5) (by omega) (by omega) N.1.2.1 N.1.2.2
    obtain ⟨b, bb1, bb2, bb3⟩ := rng (l := 0) (h := 9) (by omega) (by omega) N.2.2.1 N.2.2.2
    refine Or.inl ⟨addPar K c b, tD T n (tD T n e), by omega, b3, addPar_ok ok hr (by omega) (by omega), Nat.le_succ _, fun V h h4 => ?_, fun W h h8 => ?_⟩
    · obtain ⟨V1, V2, v1, v2, v3, v4, v5⟩ := (ctwo (d := d + 2) hn hT he ok h 5 0 9).1 N.1 N.2
      rw [c3] at v1
      rw [bb3] at v2
      obtain ⟨V3, u1, u2, u3⟩ := c_addParish (d := d + 2) (s := 2) v3.2.2.2 hr c b
      refine ⟨V3, (cD V h h4).trans ?_, v3.frc u3 u2, (v5.toT (by unfold p34; omega)).trans (FrC2.fT u3)⟩
      have rd : clV (d + 5) 69 [.inr (.inr (20, 0)), .inr (.inr (1, 2))] V = some V3 := by
        refine clV_of ((e_Tape_readParish_0 (d + 4) 2 V).trans ?_)
        rw [v1, bind_some', v2, bind_some', if_pos v3.2.1, u1, bind_some']
      rw [rd, bind_some']
    · obtain ⟨W1, v1, v2, v3⟩ := (mtwo (d := d + 1) (k0 := 1) (by omega) hn hT he ok h 5 0 9 rfl rfl).1 N.1 N.2
      rw [c3, bb3] at v1
      obtain ⟨W2, u1, u2, u3⟩ := c_M_addParish (d := d + 4) v2.2.2 ok hr c b
      refine ⟨W2, (mD W h.2.2).trans (v1.trans ?_), v2.frm u3 u2, v3.toM.trans (u3.fr (by unfold fMo; omega))⟩
      rw [e_M_isStatement_156, if_neg (neg1_nI (by omega)), if_neg (by decide), if_pos (by decide), u1, bind_some']
  · refine Or.inr ⟨fp2 T n e 5, fp2_le he 5, fun V h h4 => ?_, fun W h h8 => ?_⟩
    · obtain ⟨V1, V2, z1, z2, v1, v2, v3, v4, v5⟩ := (ctwo (d := d + 2) hn hT he ok h 5 0 9).2 N
      have fl := fp2_le (T := T) he 5
      refine ⟨V2, (cD V h h4).trans ?_, v3, v5.toT (by unfold p134; omega)⟩
      have rd : clV (d + 5) 69 [.inr (.inr (20, 0)), .inr (.inr (1, 2))] V = some V2 := by
        refine clV_of ((e_Tape_readParish_0 (d + 4) 2 V).trans ?_)
        rw [v1, bind_some', v2, bind_some', if_neg (by rw [v3]; exact neg1_nI (by omega))]
      rw [rd, bind_some']
    · obtain ⟨W1, v1, v2, v3⟩ := (mtwo (d := d + 1) (k0 := 1) (by omega) hn hT he ok h 5 0 9 rfl rfl).2 N
      exact ⟨W1, (mD W h.2.2).trans v1, v2, v3.toM⟩
theorem out_wants {d n s : Nat} {T : Nat → Nat} (hn : n ≤ 250) (hT : ∀ k, k < n → T k < 256) (hs : s ≤ n) (hk : kw T n s 2) {K : SKY} (ok : okK K) : OutE d T n K s (sc isLt T n s) 2 := by
  have hX := ok.2.1
  have hP := ok.1
  have he := (sc_p (P := isLt) (T := T) (n := n) (n - s) s rfl hs).2.1
  generalize hE : sc isLt T n s = e at *
  obtain ⟨a1, a2, a3⟩ := tS_p T he
  obtain ⟨b1, b2, b3⟩ := tS_p T (a := tD T n e) a3
  have mD : ∀ W, MS W 32 0 K → sem (d + 5) 161 31 [some (.inr (.inr (30, 0))), some (.inl (nI 2)), none, none] [] W = sem (d + 5) 161 101 [some (.inr (.inr (30, 0))), some (.inl (nI 2)), none, none] [.inl (nI (kNX K) - 1), .inl 0, .inr (.inr (30, 0))] W := fun W hm => by
    rw [e_M_isStatement_31, if_neg (by decide), e_M_isStatement_51, if_neg (by decide), if_neg (by decide), if_neg (by decide), if_pos (by decide), hm.nx]
  have cD : ∀ V, CLs T n V e K → V.1 20 0 4 = nI s → sem (d + 5) 65 56 [some (.inr (.inr (20, 0))), some (.inr (.inr (1, 2)))] [] V = (clV (d + 5) 70 [.inr (.inr (20, 0)), .inr (.inr (1, 2))] V).bind fun W3 => some (none, W3) := fun V h h4 => by
    rw [disp_C (d := d + 3) hn hT hs hk ok (by rw [hE]; exact h) h4, if_neg (by omega), if_neg (by omega), if_pos rfl]
  by_cases N : nOK T n e 0 (nI (kNX K) - 1) ∧ nOK T n (tD T n e) 0 (nI (kNP K) - 1)
  · obtain ⟨x, c2, c3⟩ := rngM (m := kNX K) (by omega) N.1.2.1 N.1.2.2
    obtain ⟨p, bb2, bb3⟩ := rngM (m := kNP K) (by omega) N.2.2.1 N.2.2.2
    refine Or.inl ⟨setW K x p true, tD T n (tD T n e), by omega, b3, setW_on ok x p, Nat.le_refl _, fun V h h4 => ?_, fun W h h8 => ?_⟩
    · obtain ⟨V1, V2, v1, v2, v3, v4, v5⟩ := (ctwo (d := d + 2) hn hT he ok h (nI (kNX K) - 1) 0 (nI (kNP K) - 1)).1 N.1 N.2
      rw [c3] at v1
      rw [bb3] at v2
      have cs1 := h.2.2.2.t20 ok v4 (by unfold p34; omega)
      have old := (v3.2.2.2.2.2 x c2).2.2.1
      have cw := v3.2.2.2.setW (p := p) c2 (b := true) (v := V2.1 5 (x + 6 * 2) 4 ||| nI (2 ^ p)) (by rw [old, nI_or, ← bm_set bb2])
      have fr : FrC 2 V2 (mset V2.1 5 (x + 6 * 2) 4 (V2.1 5 (x + 6 * 2) 4 ||| nI (2 ^ p)), V2.2) := ⟨fun t i k q1 q2 => by
        show mset V2.1 5 (x + 6 * 2) 4 _ t i k = _
        rw [mset_n (by omega)], rfl⟩
      refine ⟨_, (cD V h h4).trans ?_, v3.frc fr cw, (v5.toT (by unfold p34; omega)).trans (FrC2.fT fr)⟩
      have rd : clV (d + 5) 70 [.inr (.inr (20, 0)), .inr (.inr (1, 2))] V = some (mset V2.1 5 (x + 6 * 2) 4 (V2.1 5 (x + 6 * 2) 4 ||| nI (2 ^ p)), V2.2) := by
        refine clV_of ((e_Tape_readWants_0 (d + 4) 2 V).trans ?_)
        rw [h.2.2.2.1.2.1, v1, bind_some']
        dsimp only
        rw [cs1.1.1, v2, bind_some', if_pos v3.2.1, if_neg (nI_in (N := 6) (by omega) (by omega)), nI_clamp (by omega), shl12 (by omega)]
      rw [rd, bind_some']
    · obtain ⟨W1, v1, v2, v3⟩ := (mtwo (d := d + 1) (k0 := 2) (by omega) hn hT he ok h (nI (kNX K) - 1) 0 (nI (kNP K) - 1) rfl rfl).1 N.1 N.2
      rw [c3, bb3] at v1
      have old := (v2.2.2.2.1 p bb2).2.2
      rw [Nat.zero_add] at old
      have mw := v2.2.2.setW (x := x) ok bb2 (b := true) (v := W1.1 32 0 (3 * p + 2) ||| nI (2 ^ x)) (by rw [old, nI_or, ← bm_set c2])
      have fr : FrM W1 (mset W1.1 32 0 (3 * p + 2) (W1.1 32 0 (3 * p + 2) ||| nI (2 ^ x)), W1.2) := ⟨fun t i k q => by
        show mset W1.1 32 0 (3 * p + 2) _ t i k = _
        rw [mset_n (by omega)], rfl⟩
      refine ⟨_, (mD W h.2.2).trans (v1.trans ?_), v2.frm fr mw, v3.toM.trans (fr.fr (by unfold fMo; omega))⟩
      have ix : (3 * nI p + 2 : Int32) = nI (3 * p + 2) := by simp only [fa_lit, pk_mul, nI_add]
      rw [e_M_isStatement_156, if_neg (neg1_nI (by omega)), if_neg (by decide), if_neg (by decide), if_pos (by decide), ix, if_neg (nI_in (N := 178) (by omega) (by omega)), if_neg (nI_in (N := 178) (by omega) (by omega)), nI_clamp (by omega), shl12 (by omega)]
  · refine Or.inr ⟨fp2 T n e (nI (kNX K) - 1), fp2_le he _, fun V h h4 => ?_, fun W h h8 => ?_⟩
    · obtain ⟨V1, V2, z1, z2, v1, v2, v3, v4, v5⟩ := (ctwo (d := d + 2) hn hT he ok h (nI (kNX K) - 1) 0 (nI (kNP K) - 1)).2 N
      have fl := fp2_le (T := T) he (nI (kNX K) - 1)
      have cs1 := h.2.2.2.t20 ok v4 (by unfold p134; omega)
      refine ⟨V2, (cD V h h4).trans ?_, v3, v5.toT (by unfold p134; omega)⟩
      have rd : clV (d + 5) 70 [.inr (.inr (20, 0)), .inr (.inr (1, 2))] V = some V2 := by
        refine clV_of ((e_Tape_readWants_0 (d + 4) 2 V).trans ?_)
        rw [h.2.2.2.1.2.1, v1, bind_some']
        dsimp only
        rw [cs1.1.1, v2, bind_some', if_neg (by rw [v3]; exact neg1_nI (by omega))]
      rw [rd, bind_some']
    · obtain ⟨W1, v1, v2, v3⟩ := (mtwo (d := d + 1) (k0 := 2) (by omega) hn hT he ok h (nI (kNX K) - 1) 0 (nI (kNP K) - 1) rfl rfl).2 N
      exact ⟨W1, (mD W h.2.2).trans v1, v2, v3.toM⟩
theorem out_cloud {d n s : Nat} {T : Nat → Nat} (hn : n ≤ 250) (hT : ∀ k, k < n → T k < 256) (hs : s ≤ n) (hk : kw T n s 4) {K : SKY} (ok : okK K) : OutE d T n K s (sc isLt T n s) 4 := by
  have he := (sc_p (P := isLt) (T := T) (n := n) (n - s) s rfl hs).2.1
  generalize hE : sc isLt T n s = e at *
  obtain ⟨a1, a2, a3⟩ := tS_p T he
  have mD : ∀ W, sem (d + 5) 161 31 [some (.inr (.inr (30, 0))), some (.inl (nI 4)), none, none] [] W = (clI (d + 5) 159 [.inr (.inr (30, 0)), .inl 0, .inl 12] W).bind fun W1 => if W1.1 = (-1) then sem (d + 5) 161 156 [some (.inr (.inr (30, 0))), some (.inl (nI 4)), some (.inl W1.1), none] [.inl (-1)] W1.2 else sem (d + 5) 161 156 [some (.inr (.inr (30, 0))), some (.inl (nI 4)), some (.inl W1.1), none] [.inl W1.1] W1.2 := fun W => by
    rw [e_M_isStatement_31, if_neg (by decide), e_M_isStatement_51, if_neg (by decide), if_neg (by decide), if_neg (by decide), if_neg (by decide), e_M_isStatement_101]
    cases h : clI (d + 5) 159 [.inr (.inr (30, 0)), .inl 0, .inl 12] W with
    | none => rfl
    | some w =>
      rw [bind_some', bind_some', if_pos (show nI 4 = 4 from rfl)]
  have cD : ∀ V, CLs T n V e K → V.1 20 0 4 = nI s → sem (d + 5) 65 56 [some (.inr (.inr (20, 0))), some (.inr (.inr (1, 2)))] [] V = (clV (d + 5) 73 [.inr (.inr (20, 0)), .inr (.inr (1, 2))] V).bind fun W3 => some (none, W3) := fun V h h4 => by
    rw [disp_C (d := d + 3) hn hT hs hk ok (by rw [hE]; exact h) h4, if_neg (by omega), if_neg (by omega), if_neg (by omega), if_neg (by omega), if_pos rfl]
  by_cases N : nOK T n e 0 12
  · obtain ⟨c, _, c2, c3⟩ := rng (l := 0) (h := 12) (by omega) (by omega) N.2.1 N.2.2
    refine Or.inl ⟨setCl K c, tD T n e, by omega, a3, setCl_ok ok c2, Nat.le_refl _, fun V h h4 => ?_, fun W h h8 => ?_⟩
    · obtain ⟨V1, v1, v2, v3, v4, v5⟩ := (c_readNum (d := d + 2) 0 12 hn hT he h.1 h.2.1 h.2.2.1).1 N
      rw [c3] at v1
      have cs1 := h.2.2.2.t20 ok v5 (by unfold p34; omega)
      have fr : FrC 2 V1 (mset V1.1 1 2 5 (nI c), V1.2) := ⟨fun t i k q1 q2 => by
        show mset V1.1 1 2 5 _ t i k = _
        rw [mset_n (by omega)], rfl⟩
      have c1 : CLs T n V1 (tD T n e) K := ⟨h.1.fr v5 (by unfold p34; omega), v2, v3, cs1⟩
      refine ⟨_, (cD V h h4).trans ?_, c1.frc fr (cs1.cl c), (v5.toT (by unfold p34; omega)).trans (FrC2.fT fr)⟩
      have rd : clV (d + 5) 73 [.inr (.inr (20, 0)), .inr (.inr (1, 2))] V = some (mset V1.1 1 2 5 (nI c), V1.2) := by
        refine clV_of ((e_Tape_readCloud_0 (d + 4) 2 V).trans ?_)
        rw [v1, bind_some', if_pos v2]
      rw [rd, bind_some']
    · obtain ⟨W1, v1, v2, v3, v4⟩ := (c_M_number (d := d + 1) 0 12 hn hT he h.1 h.2.1).1 N
      rw [c3] at v1
      have m1 : MS W1 32 0 K := h.2.2.fr v4 (by unfold p789; omega)
      have fr : FrM W1 (mset W1.1 32 0 176 (nI c), W1.2) := ⟨fun t i k q => by
        show mset W1.1 32 0 176 _ t i k = _
        rw [mset_n (by omega)], rfl⟩
      have c1 : MOs T n W1 (tD T n e) K := ⟨h.1.fr v4 (by unfold p789; omega), v2, m1⟩
      refine ⟨_, (mD W).trans ?_, c1.frm fr (m1.setCl ok.toL c), v4.toM.trans (fr.fr (by unfold fMo; omega))⟩
      rw [v1, bind_some', if_neg (neg1_nI (by omega)), e_M_isStatement_156, if_neg (neg1_nI (by omega)), if_neg (by decide), if_neg (by decide), if_neg (by decide)]
  · refine Or.inr ⟨tS T n e, by omega, fun V h h4 => ?_, fun W h h8 => ?_⟩
    · obtain ⟨V1, z, v1, v2, v3⟩ := (c_readNum (d := d + 2) 0 12 hn hT he h.1 h.2.1 h.2.2.1).2 N
      refine ⟨V1, (cD V h h4).trans ?_, v2, v3.toT (by unfold p134; omega)⟩
      have rd : clV (d + 5) 73 [.inr (.inr (20, 0)), .inr (.inr (1, 2))] V = some V1 := by
        refine clV_of ((e_Tape_readCloud_0 (d + 4) 2 V).trans ?_)
        rw [v1, bind_some', if_neg (by rw [v2]; exact neg1_nI (by omega))]
      rw [rd, bind_some']
    · obtain ⟨W1, v1, v2, v3⟩ := (c_M_number (d := d + 1) 0 12 hn hT he h.1 h.2.1).2 N
      refine ⟨W1, (mD W).trans ?_, v2, v3.toM⟩
      rw [v1, bind_some', if_pos rfl, e_M_isStatement_156, if_pos rfl]
