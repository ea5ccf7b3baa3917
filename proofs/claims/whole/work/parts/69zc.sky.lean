/-! THE TAPE: a statement, the whole tape, the sky -/
theorem ms_at (f : Nat → Nat → Nat → Int32) (g : Nat → Nat → Nat → Int64) (t i k : Nat) (x : Int32) : (mset f t i k x, g).1 t i k = x := mset_h ⟨rfl, rfl, rfl⟩
theorem srt_3 {T : Nat → Nat} {n a : Nat} : srt T n a = 3 ↔ a < n ∧ T a = 59 := by
  unfold srt
  by_cases h : a < n
  · rw [if_pos h]
    by_cases e : T a = 59
    · rw [e, if_neg (by decide), if_neg (by decide), if_pos rfl]
      exact ⟨fun _ => ⟨h, rfl⟩, fun _ => rfl⟩
    · refine ⟨fun w => ?_, fun w => absurd w.2 e⟩
      split at w
      · omega
      · split at w
        · omega
        · omega
  · rw [if_neg h]
    exact ⟨fun w => by omega, fun w => absurd w.1 h⟩
def Good (d : Nat) (T : Nat → Nat) (n : Nat) (K : SKY) (a : Nat) : Prop := ∃ (K' : SKY) (a' : Nat), a < a' ∧ a' ≤ n ∧ okK K' ∧ kNX K ≤ kNX K' ∧ (∀ V, CLs T n V a K → ∃ V', clV (d + 6) 65 [.inr (.inr (20, 0)), .inr (.inr (1, 2))] V = some V' ∧ CLs T n V' a' K' ∧ Fr fT V V') ∧ (∀ W, MOs T n W a K → ∃ W', clI (d + 6) 161 [.inr (.inr (30, 0))] W = some (1, W') ∧ MOs T n W' a' K' ∧ Fr fMo W W')
def Bad (d : Nat) (T : Nat → Nat) (n : Nat) (K : SKY) (a : Nat) : Prop := ∃ f : Nat, f ≤ n ∧ (∀ V, CLs T n V a K → ∃ V', clV (d + 6) 65 [.inr (.inr (20, 0)), .inr (.inr (1, 2))] V = some V' ∧ V'.1 20 0 1 = nI f ∧ Fr fT V V') ∧ (∀ W, MOs T n W a K → ∃ W', clI (d + 6) 161 [.inr (.inr (30, 0))] W = some (0, W') ∧ W'.1 30 0 8 = nI f ∧ Fr fMo W W')
theorem stm {d n a : Nat} {T : Nat → Nat} (hn : n ≤ 250) (hT : ∀ k, k < n → T k < 256) (ha : a ≤ n) {K : SKY} (ok : okK K) : Good d T n K a ∨ Bad d T n K a := by
  obtain ⟨a1, a2, a3⟩ := tS_p T ha
  have hs : tS T n a ≤ n := Nat.le_trans a2 a3
  obtain ⟨q1, q2, q3, q4⟩ := sc_p (P := isLt) (T := T) (n := n) (n - tS T n a) (tS T n a) rfl hs
  obtain ⟨k0, hk⟩ := kw_ex T n (tS T n a)
  have k5 := hk.1
  have hP := ok.1
  have hX := ok.2.1
  have bad : (k0 = 5 ∨ (k0 = 0 ∧ ¬ kNP K < 12) ∨ (k0 = 1 ∧ ¬ kNX K < 6)) → Bad d T n K a := fun w => by
    refine ⟨tS T n a, hs, fun V h => ?_, fun W h => ?_⟩
    · obtain ⟨V1, v1, v2, v3, v4⟩ := pre_C (d := d + 4) hn hT ha ok h
      have dd := disp_C (d := d + 3) hn hT hs hk ok v2 v3
      rw [if_neg (by omega), if_neg (by omega), if_neg (by omega), if_neg (by omega), if_neg (by omega)] at dd
      refine ⟨_, clV_of (v1.trans dd), ms_at _ _ _ _ _ _, (v4.toT (by unfold p34; omega)).trans ⟨fun t i k q => ?_, rfl⟩⟩
      exact mset_n (fun w => q (by unfold fT; omega))
    · obtain ⟨W1, t1, t8, t7, m1, f1, e1⟩ := pre_M (d := d + 1) hn hT ha h hk
      refine ⟨W1, clI_of (e1.trans ?_), t8, f1.toM⟩
      by_cases e5 : k0 = 5
      · rw [if_pos e5]
      · rw [if_neg e5]
        by_cases e0 : k0 = 0
        · rw [if_pos ⟨e0, by rw [show kNP K = 12 by omega]; rfl⟩]
        · rw [if_neg (fun w => e0 w.1), show k0 = 1 by omega, e_M_isStatement_31, if_pos (show nI 1 = 1 from rfl), m1.nx, if_pos (by rw [show kNX K = 6 by omega]; rfl)]
  have good : OutE d T n K (tS T n a) (sc isLt T n (tS T n a)) k0 → k0 < 5 → ¬ (k0 = 0 ∧ ¬ kNP K < 12) → Good d T n K a ∨ Bad d T n K a := fun o lt nn => by
    obtain ⟨l1, l2⟩ := kw_lt hk lt hs
    have te : tE T n (tS T n a) = sc isLt T n (tS T n a) := by unfold tE; rw [if_neg (by omega), if_pos l1]
    have preM : ∀ W, MOs T n W a K → ∃ W1, MOs T n W1 (sc isLt T n (tS T n a)) K ∧ W1.1 30 0 8 = nI (tS T n a) ∧ Fr fMo W W1 ∧ sem (d + 5) 161 0 [some (.inr (.inr (30, 0))), none, none, none] [] W = sem (d + 5) 161 31 [some (.inr (.inr (30, 0))), some (.inl (nI k0)), none, none] [] W1 := fun W h => by
      obtain ⟨W1, t1, t8, t7, m1, f1, e1⟩ := pre_M (d := d + 1) hn hT ha h hk
      rw [te] at t7
      refine ⟨W1, ⟨t1, t7, m1⟩, t8, f1.toM, e1.trans ?_⟩
      rw [if_neg (by omega), if_neg (fun w => nn ⟨w.1, fun l => by
        have := (nI_eq (b := 12) (by omega) (by omega)).mp w.2
        omega⟩)]
    rcases o with ⟨K', a', o1, o2, o3, o4, oC, oM⟩ | ⟨f, o1, oC, oM⟩
    · refine Or.inl ⟨K', a', by omega, o2, o3, o4, fun V h => ?_, fun W h => ?_⟩
      · obtain ⟨V1, v1, v2, v3, v4⟩ := pre_C (d := d + 4) hn hT ha ok h
        obtain ⟨V2, u1, u2, u3⟩ := oC V1 v2 v3
        exact ⟨V2, clV_of (v1.trans u1), u2, (v4.toT (by unfold p34; omega)).trans u3⟩
      · obtain ⟨W1, w1, w2, w3, w4⟩ := preM W h
        obtain ⟨W2, u1, u2, u3⟩ := oM W1 w1 w2
        exact ⟨W2, clI_of (w4.trans u1), u2, w3.trans u3⟩
    · refine Or.inr ⟨f, o1, fun V h => ?_, fun W h => ?_⟩
      · obtain ⟨V1, v1, v2, v3, v4⟩ := pre_C (d := d + 4) hn hT ha ok h
        obtain ⟨V2, u1, u2, u3⟩ := oC V1 v2 v3
        exact ⟨V2, clV_of (v1.trans u1), u2, (v4.toT (by unfold p34; omega)).trans u3⟩
      · obtain ⟨W1, w1, w2, w3, w4⟩ := preM W h
        obtain ⟨W2, u1, u2, u3⟩ := oM W1 w1 w2
        exact ⟨W2, clI_of (w4.trans u1), u2, w3.trans u3⟩
  by_cases b : k0 = 5 ∨ (k0 = 0 ∧ ¬ kNP K < 12) ∨ (k0 = 1 ∧ ¬ kNX K < 6)
  · exact Or.inr (bad b)
  · have c : k0 = 0 ∨ k0 = 1 ∨ k0 = 2 ∨ k0 = 3 ∨ k0 = 4 := by omega
    refine good ?_ (by omega) (by omega)
    rcases c with c | c | c | c | c
    · subst c; exact out_point hn hT hs hk ok (by omega)
    · subst c; exact out_parish hn hT hs hk ok (by omega)
    · subst c; exact out_wants hn hT hs hk ok
    · subst c; exact out_line hn hT hs hk ok
    · subst c; exact out_cloud hn hT hs hk ok
/-- after a statement: the class -/
theorem c_semi {d n a : Nat} {T : Nat → Nat} (hn : n ≤ 250) (hT : ∀ k, k < n → T k < 256) (ha : a ≤ n) {K : SKY} (ok : okK K) {V : Mem} (h : CLs T n V a K) : ∃ V', Fr fT V V' ∧ CS V' 2 K ∧ ((tS T n a < n → T (tS T n a) = 59 → clI (d + 2) 64 [.inr (.inr (20, 0))] V = some (1, V') ∧ CLs T n V' (tS T n a + 1) K) ∧ (tS T n a < n → ¬ T (tS T n a) = 59 → clI (d + 2) 64 [.inr (.inr (20, 0))] V = some (0, V') ∧ V'.1 20 0 1 = nI (tS T n a)) ∧ (¬ tS T n a < n → clI (d + 2) 64 [.inr (.inr (20, 0))] V = some (0, V') ∧ V'.1 20 0 1 = -1)) := by
  obtain ⟨h1, h2, h3, h4⟩ := h
  obtain ⟨a1, a2, a3⟩ := tS_p T ha
  obtain ⟨V1, v1, v2, v3, v4⟩ := c_skip (d := d) hn hT ha h1 h3
  have t1 := h1.fr v4 (by unfold p34; omega)
  have f1 : Fr fT V V1 := v4.toT (by unfold p34; omega)
  have g1 : V1.1 20 0 1 = -1 := (v4.1 20 0 1 (by unfold p34; omega)).trans h2
  have c1 : CS V1 2 K := h4.t20 ok v4 (by unfold p34; omega)
  replace v2 : V1.1 20 0 3 = nI (tS T n a) := v2
  have st := e_Tape_readSemicolon_0 (d + 1) V
  rw [v1, bind_some', v2, t1.1] at st
  by_cases lt : tS T n a < n
  · have b := hT _ lt
    rw [if_pos (nI_lt lt (by omega)), if_neg (nI_in (N := 250) (by omega) (by omega)), nI_clamp (by omega), t1.2 _ lt] at st
    by_cases e : T (tS T n a) = 59
    · rw [if_pos (show nI (T (tS T n a)) = 59 by rw [e]; rfl), nI_1] at st
      refine ⟨(mset V1.1 20 0 3 (nI (tS T n a + 1)), V1.2), f1.trans (Fr.rfl.set (by unfold fT; omega)), c1.t20 ok (P := p3) (Fr.rfl.set (by unfold p3; omega)) (by unfold p3; omega), fun _ _ => ⟨clI_of st, ⟨t1.fr (P := p3) (Fr.rfl.set (by unfold p3; omega)) (by unfold p3; omega), ?_, ms_at _ _ _ _ _ _, c1.t20 ok (P := p3) (Fr.rfl.set (by unfold p3; omega)) (by unfold p3; omega)⟩⟩, fun _ q => absurd e q, fun q => absurd lt q⟩
      exact (show mset V1.1 20 0 3 (nI (tS T n a + 1)) 20 0 1 = V1.1 20 0 1 from mset_n (by omega)).trans g1
    · rw [if_neg (show ¬ nI (T (tS T n a)) = 59 from fun w => e ((nI_eq (b := 59) (by omega) (by omega)).mp w))] at st
      exact ⟨_, f1.trans (Fr.rfl.set (by unfold fT; omega)), c1.t20 ok (P := fun t _ _ => t = 20) (Fr.rfl.set rfl) (fun t i k w => w), fun _ q => absurd q e, fun _ _ => ⟨clI_of st, ms_at _ _ _ _ _ _⟩, fun q => absurd lt q⟩
  · rw [if_neg (nI_nlt (by omega) (by omega))] at st
    exact ⟨V1, f1, c1, fun q => absurd q lt, fun q => absurd q lt, fun _ => ⟨clI_of st, g1⟩⟩
theorem m_next {d n a : Nat} {T : Nat → Nat} (hn : n ≤ 250) (hT : ∀ k, k < n → T k < 256) (ha : a ≤ n) {K : SKY} {W : Mem} (h : MOs T n W a K) : ∃ W1, clV (d + 3) 157 [.inr (.inr (30, 0))] W = some W1 ∧ W1.1 30 0 8 = nI (tS T n a) ∧ W1.1 30 0 9 = nI (srt T n (tS T n a)) ∧ MOs T n W1 (tE T n (tS T n a)) K ∧ Fr fMo W W1 := by
  obtain ⟨W1, v1, v2, v3, v4, v5⟩ := c_M_next (d := d) hn hT ha h.1 h.2.1
  exact ⟨W1, v1, v2, v3, ⟨h.1.fr v5 (by unfold p789; omega), v4, h.2.2.fr v5 (by unfold p789; omega)⟩, v5.toM⟩
abbrev fMz (t i k : Nat) : Prop := fMo t i k ∨ (t = 30 ∧ k = 6)
theorem tape {d n : Nat} {T : Nat → Nat} (hn : n ≤ 250) (hT : ∀ k, k < n → T k < 256) : ∀ f a S (K : SKY), n - a = f → a ≤ n → okK K → 2 * S ≤ a →
  (∃ (K' : SKY) (S' : Nat), S' ≤ 126 ∧ okK K' ∧ kNX K ≤ kNX K' ∧ (∀ V, CLs T n V a K → ∃ V', sem (d + 6) 62 14 [some (.inr (.inr (20, 0))), some (.inr (.inr (1, 2))), some (.inl (nI S)), some (.inl 1)] [] V = some (some (.inl (nI S')), V') ∧ CS V' 2 K' ∧ Fr fT V V') ∧ (∀ W, MOs T n W a K → ∃ (b : Int32) (W2 W' : Mem), clI (d + 6) 161 [.inr (.inr (30, 0))] W = some (b, W2) ∧ (b = 0 ∨ b = 1) ∧ sem (d + 6) 162 25 [some (.inr (.inr (30, 0))), some (.inl (nI S)), some (.inl b)] [] W2 = some (some (.inl (nI S')), W') ∧ W'.1 30 0 6 = 0 ∧ MS W' 32 0 K' ∧ Fr fMz W W')) ∨
  (∃ g : Nat, g ≤ n ∧ (∀ V, CLs T n V a K → ∃ V', sem (d + 6) 62 14 [some (.inr (.inr (20, 0))), some (.inr (.inr (1, 2))), some (.inl (nI S)), some (.inl 1)] [] V = some (some (.inl (-1)), V') ∧ V'.1 20 0 1 = nI g ∧ Fr fT V V') ∧ (∀ W, MOs T n W a K → ∃ (b x : Int32) (W2 W' : Mem), clI (d + 6) 161 [.inr (.inr (30, 0))] W = some (b, W2) ∧ (b = 0 ∨ b = 1) ∧ sem (d + 6) 162 25 [some (.inr (.inr (30, 0))), some (.inl (nI S)), some (.inl b)] [] W2 = sem (d + 6) 162 25 [some (.inr (.inr (30, 0))), some (.inl x), some (.inl 0)] [] W' ∧ W'.1 30 0 8 = nI g ∧ Fr fMo W W')) := by
  intro f
  induction f using Nat.strongRecOn with
  | ind f ih =>
  intro a S K hf ha ok h2
  have e14 : ∀ V, sem (d + 6) 62 14 [some (.inr (.inr (20, 0))), some (.inr (.inr (1, 2))), some (.inl (nI S)), some (.inl 1)] [] V = (clV (d + 6) 65 [.inr (.inr (20, 0)), .inr (.inr (1, 2))] V).bind fun W1 => if W1.1 20 0 1 = (-1) then (clI (d + 6) 64 [.inr (.inr (20, 0))] W1).bind fun W2 => if W2.1 = 0 then sem (d + 6) 62 52 [some (.inr (.inr (20, 0))), some (.inr (.inr (1, 2))), some (.inl (nI (S + 1))), some (.inl 1)] [] W2.2 else sem (d + 6) 62 53 [some (.inr (.inr (20, 0))), some (.inr (.inr (1, 2))), some (.inl (nI (S + 1))), some (.inl 1)] [.inl 1] W2.2 else sem (d + 6) 62 52 [some (.inr (.inr (20, 0))), some (.inr (.inr (1, 2))), some (.inl (nI (S + 1))), some (.inl 1)] [] W1 := fun V => by
    rw [e_Tape_readInto_14, if_neg one_ne, if_pos (show nI S < 250 from nI_lt (b := 250) (by omega) (by omega)), nI_1]
  have e52 : ∀ V, sem (d + 6) 62 52 [some (.inr (.inr (20, 0))), some (.inr (.inr (1, 2))), some (.inl (nI (S + 1))), some (.inl 1)] [] V = if V.1 20 0 1 = (-1) then some (some (.inl (nI (S + 1))), V) else some (some (.inl (-1)), V) := fun V => by
    rw [e_Tape_readInto_52, e_Tape_readInto_53, e_Tape_readInto_14, if_pos rfl, e_Tape_readInto_57]
  have m69 : ∀ W, sem (d + 6) 162 69 [some (.inr (.inr (30, 0))), some (.inl (nI (S + 1))), some (.inl 1)] [] W = sem (d + 6) 162 25 [some (.inr (.inr (30, 0))), some (.inl (nI (S + 1))), some (.inl 0)] [] W := fun W => by
    rw [e_M_sky_69, e_M_sky_70]
  rcases stm (d := d) hn hT ha ok with ⟨K', a', s1, s2, s3, s4, sC, sM⟩ | ⟨g, s1, sC, sM⟩
  · obtain ⟨b1, b2, b3⟩ := tS_p T s2
    have tsn : tS T n a' ≤ n := Nat.le_trans b2 b3
    have sr4 := srt_le T n (tS T n a')
    have e25 : ∀ W1, MOs T n W1 a' K' → ∃ W2, W2.1 30 0 8 = nI (tS T n a') ∧ MOs T n W2 (tE T n (tS T n a')) K' ∧ Fr fMo W1 W2 ∧ sem (d + 6) 162 25 [some (.inr (.inr (30, 0))), some (.inl (nI S)), some (.inl 1)] [] W1 = if srt T n (tS T n a') = 0 then some (some (.inl (nI (S + 1))), (mset W2.1 30 0 6 0, W2.2)) else if srt T n (tS T n a') = 3 then (clI (d + 6) 161 [.inr (.inr (30, 0))] W2).bind fun Z => if Z.1 = 0 then sem (d + 6) 162 69 [some (.inr (.inr (30, 0))), some (.inl (nI (S + 1))), some (.inl 1)] [] Z.2 else sem (d + 6) 162 70 [some (.inr (.inr (30, 0))), some (.inl (nI (S + 1))), some (.inl 1)] [.inl 1] Z.2 else sem (d + 6) 162 69 [some (.inr (.inr (30, 0))), some (.inl (nI (S + 1))), some (.inl 1)] [] W2 := fun W1 h => by
      obtain ⟨W2, v1, v2, v3, v4, v5⟩ := m_next (d := d + 3) hn hT s2 h
      refine ⟨W2, v2, v4, v5, ?_⟩
      rw [e_M_sky_25, if_neg one_ne, v1, bind_some', v3, nI_1]
      by_cases c0 : srt T n (tS T n a') = 0
      · rw [if_pos c0, if_pos (by rw [c0]; rfl)]
      · rw [if_neg c0, if_neg (nI_ne0 (by omega) (by omega))]
        by_cases c3 : srt T n (tS T n a') = 3
        · rw [if_pos c3, if_pos (by rw [c3]; rfl)]
        · rw [if_neg c3, if_neg (show ¬ nI (srt T n (tS T n a')) = 3 from fun w => c3 ((nI_eq (b := 3) (by omega) (by omega)).mp w))]
    by_cases lt : tS T n a' < n
    · by_cases e : T (tS T n a') = 59
      · have r3 := srt_3.mpr ⟨lt, e⟩
        have te : tE T n (tS T n a') = tS T n a' + 1 := by unfold tE; rw [r3, if_neg (by omega), if_neg (by omega), if_neg (by omega)]
        have cC : ∀ V, CLs T n V a K → ∃ V', sem (d + 6) 62 14 [some (.inr (.inr (20, 0))), some (.inr (.inr (1, 2))), some (.inl (nI S)), some (.inl 1)] [] V = sem (d + 6) 62 14 [some (.inr (.inr (20, 0))), some (.inr (.inr (1, 2))), some (.inl (nI (S + 1))), some (.inl 1)] [] V' ∧ CLs T n V' (tS T n a' + 1) K' ∧ Fr fT V V' := fun V h => by
          obtain ⟨V1, v1, v2, v3⟩ := sC V h
          obtain ⟨V2, u1, u2, u3, u4, u5⟩ := c_semi (d := d + 4) hn hT s2 s3 v2
          obtain ⟨x1, x2⟩ := u3 lt e
          refine ⟨V2, (e14 V).trans ?_, x2, v3.trans u1⟩
          rw [v1, bind_some', if_pos v2.2.1, x1, bind_some', if_neg one_ne, e_Tape_readInto_53]
        have cM : ∀ W, MOs T n W a K → ∃ W1 W2, clI (d + 6) 161 [.inr (.inr (30, 0))] W = some (1, W1) ∧ MOs T n W2 (tS T n a' + 1) K' ∧ Fr fMo W W2 ∧ sem (d + 6) 162 25 [some (.inr (.inr (30, 0))), some (.inl (nI S)), some (.inl 1)] [] W1 = (clI (d + 6) 161 [.inr (.inr (30, 0))] W2).bind fun Z => if Z.1 = 0 then sem (d + 6) 162 69 [some (.inr (.inr (30, 0))), some (.inl (nI (S + 1))), some (.inl 1)] [] Z.2 else sem (d + 6) 162 70 [some (.inr (.inr (30, 0))), some (.inl (nI (S + 1))), some (.inl 1)] [.inl 1] Z.2 := fun W h => by
          obtain ⟨W1, v1, v2, v3⟩ := sM W h
          obtain ⟨W2, u1, u2, u3, u4⟩ := e25 W1 v2
          rw [te] at u2
          rw [if_neg (by omega), if_pos r3] at u4
          exact ⟨W1, W2, v1, u2, v3.trans u3, u4⟩
        have go : ∀ (b : Int32) (Z : Mem), b = 0 ∨ b = 1 → (if b = 0 then sem (d + 6) 162 69 [some (.inr (.inr (30, 0))), some (.inl (nI (S + 1))), some (.inl 1)] [] Z else sem (d + 6) 162 70 [some (.inr (.inr (30, 0))), some (.inl (nI (S + 1))), some (.inl 1)] [.inl 1] Z) = sem (d + 6) 162 25 [some (.inr (.inr (30, 0))), some (.inl (nI (S + 1))), some (.inl b)] [] Z := fun b Z hb => by
          rcases hb with hb | hb
          · subst hb; rw [if_pos rfl, m69]
          · subst hb; rw [if_neg one_ne, e_M_sky_70]
        rcases ih (n - (tS T n a' + 1)) (by omega) (tS T n a' + 1) (S + 1) K' rfl (by omega) s3 (by omega) with ⟨K2, S2, i1, i2, i3, iC, iM⟩ | ⟨g, i1, iC, iM⟩
        · refine Or.inl ⟨K2, S2, i1, i2, by omega, fun V h => ?_, fun W h => ?_⟩
          · obtain ⟨V1, v1, v2, v3⟩ := cC V h
            obtain ⟨V2, u1, u2, u3⟩ := iC V1 v2
            exact ⟨V2, v1.trans u1, u2, v3.trans u3⟩
          · obtain ⟨W1, W2, w1, w2, w3, w4⟩ := cM W h
            obtain ⟨b, W3, W4, u1, u2, u3, u4, u5, u6⟩ := iM W2 w2
            refine ⟨1, W1, W4, w1, Or.inr rfl, w4.trans ?_, u4, u5, (w3.mono (fun t i k q => Or.inl q)).trans u6⟩
            rw [u1, bind_some', go b W3 u2, u3]
        · refine Or.inr ⟨g, i1, fun V h => ?_, fun W h => ?_⟩
          · obtain ⟨V1, v1, v2, v3⟩ := cC V h
            obtain ⟨V2, u1, u2, u3⟩ := iC V1 v2
            exact ⟨V2, v1.trans u1, u2, v3.trans u3⟩
          · obtain ⟨W1, W2, w1, w2, w3, w4⟩ := cM W h
            obtain ⟨b, x, W3, W4, u1, u2, u3, u4, u5⟩ := iM W2 w2
            refine ⟨1, x, W1, W4, w1, Or.inr rfl, w4.trans ?_, u4, w3.trans u5⟩
            rw [u1, bind_some', go b W3 u2, u3]
      · refine Or.inr ⟨tS T n a', tsn, fun V h => ?_, fun W h => ?_⟩
        · obtain ⟨V1, v1, v2, v3⟩ := sC V h
          obtain ⟨V2, u1, u2, u3, u4, u5⟩ := c_semi (d := d + 4) hn hT s2 s3 v2
          obtain ⟨x1, x2⟩ := u4 lt e
          refine ⟨V2, (e14 V).trans ?_, x2, v3.trans u1⟩
          rw [v1, bind_some', if_pos v2.2.1, x1, bind_some', if_pos rfl, e52, if_neg (by rw [x2]; exact neg1_nI (by omega))]
        · obtain ⟨W1, v1, v2, v3⟩ := sM W h
          obtain ⟨W2, u1, u2, u3, u4⟩ := e25 W1 v2
          rw [if_neg (fun w => srt_0.mp w lt), if_neg (fun w => e (srt_3.mp w).2), m69] at u4
          exact ⟨1, _, W1, W2, v1, Or.inr rfl, u4, u1, v3.trans u3⟩
    · refine Or.inl ⟨K', S + 1, by omega, s3, s4, fun V h => ?_, fun W h => ?_⟩
      · obtain ⟨V1, v1, v2, v3⟩ := sC V h
        obtain ⟨V2, u1, u2, u3, u4, u5⟩ := c_semi (d := d + 4) hn hT s2 s3 v2
        obtain ⟨x1, x2⟩ := u5 lt
        refine ⟨V2, (e14 V).trans ?_, u2, v3.trans u1⟩
        rw [v1, bind_some', if_pos v2.2.1, x1, bind_some', if_pos rfl, e52, if_pos x2]
      · obtain ⟨W1, v1, v2, v3⟩ := sM W h
        obtain ⟨W2, u1, u2, u3, u4⟩ := e25 W1 v2
        rw [if_pos (srt_0.mpr lt)] at u4
        refine ⟨1, W1, _, v1, Or.inr rfl, u4, ms_at _ _ _ _ _ _, ?_, ((v3.trans u3).mono (fun t i k q => Or.inl q)).set (Or.inr ⟨rfl, rfl⟩)⟩
        exact u2.2.2.fr (P := fun t _ _ => t = 30) (Fr.rfl.set rfl) (by omega)
  · refine Or.inr ⟨g, s1, fun V h => ?_, fun W h => ?_⟩
    · obtain ⟨V1, v1, v2, v3⟩ := sC V h
      refine ⟨V1, (e14 V).trans ?_, v2, v3⟩
      rw [v1, bind_some', if_neg (by rw [v2]; exact neg1_nI (by omega)), e52, if_neg (by rw [v2]; exact neg1_nI (by omega))]
    · obtain ⟨W1, v1, v2, v3⟩ := sM W h
      exact ⟨0, nI S, W1, W1, v1, Or.inl rfl, rfl, v2, v3⟩
theorem MRf_n {V : Mem} {k t i k' : Nat} (h : ¬ t = 31) : (MRf V k).1 t i k' = V.1 t i k' := by
  show mset V.1 31 0 (k + 2) (V.1 31 0 (k + 2) + 1) t i k' = _
  exact mset_n (by omega)
theorem Fr.crf {P : Nat → Nat → Nat → Prop} {V W : Mem} (h : Fr P V W) (hp : ∀ i k, ¬ P 25 i k) (j : Nat) : Fr P (CRf V j) (CRf W j) := by
  refine ⟨fun t i k q => ?_, h.2⟩
  show mset W.1 25 0 j (W.1 25 0 j + 1) t i k = mset V.1 25 0 j (V.1 25 0 j + 1) t i k
  by_cases e : t = 25 ∧ i = 0 ∧ k = j
  · rw [mset_h e, mset_h e, h.1 25 0 j (hp _ _)]
  · rw [mset_n e, mset_n e]
    exact h.1 t i k q
theorem Inv.genT {SL : Nat} {xs : Nat → Int32} {V V' : Mem} (h : Inv SL xs V) {K K' : SKY} (k4 : ∀ s, s < 8 → okH (kNX K) (V.1 23 s 1) ∧ V.1 42 0 s = V.1 23 s 1) (hx : kNX K ≤ kNX K') (ok : okK K') {P : Nat → Nat → Nat → Prop} (f : Fr P V V') (hp : ∀ t i k, P t i k → ¬ dp2 t i k ∧ ¬ dp4 t i k ∧ ¬ dp5 t i k ∧ ¬ dp6 t i k ∧ ¬ dp7 t i k ∧ ¬ dp8 t i k ∧ ¬ (t = 23 ∧ k = 1) ∧ ¬ t = 42) (c1 : CS V' 0 K') (c2 : MS V' 32 0 K') (h3 : I3 V') : Inv SL xs V' := by
  have ag : ∀ Q : Nat → Nat → Nat → Prop, (∀ t i k, P t i k → ¬ Q t i k) → Ag Q V V' := fun Q hq t i k q => ⟨f.1 t i k (fun w => hq t i k w q), by rw [f.2]⟩
  refine ⟨⟨K', ok, c1, c2, fun s hs => ?_⟩, I2.ag h.2.1 (ag _ fun t i k w => (hp t i k w).1), h3, I4.ag h.2.2.2.1 (ag _ fun t i k w => (hp t i k w).2.1), I5.ag h.2.2.2.2.1 (ag _ fun t i k w => (hp t i k w).2.2.1), I6.ag h.2.2.2.2.2.1 (ag _ fun t i k w => (hp t i k w).2.2.2.1), I7.ag h.2.2.2.2.2.2.1 (ag _ fun t i k w => (hp t i k w).2.2.2.2.1), Vok.ag h.2.2.2.2.2.2.2 (ag _ fun t i k w => (hp t i k w).2.2.2.2.2.1)⟩
  rw [f.1 23 s 1 (fun w => (hp _ _ _ w).2.2.2.2.2.2.1 ⟨rfl, rfl⟩), f.1 42 0 s (fun w => (hp _ _ _ w).2.2.2.2.2.2.2 rfl)]
  obtain ⟨o1, o2⟩ := k4 s hs
  refine ⟨?_, o2⟩
  rcases o1 with o | o | ⟨x, hx2, o⟩
  · exact Or.inl o
  · exact Or.inr (Or.inl o)
  · exact Or.inr (Or.inr ⟨x, by omega, o⟩)
/-- a deeper stack answers the same -/
theorem go_up : ∀ f d m pc L S V X, go f d m pc L S V = some X → go f (d + 1) m pc L S V = some X
  | 0 => fun _ _ _ _ _ _ _ h => by cases h
  | f + 1 => by
    intro d m pc L S V X e
    have H := go_up f
    have C : ∀ {b : Nat} {as : List AV} {V : Mem} {X : Option AV × Mem}, cal (go f) d b as V = some X → cal (go f) (d + 1) b as V = some X := by
      intro b as V X e
      cases d with
      | zero => cases e
      | succ d => exact H _ _ _ _ _ _ _ e
    show stG (go f) (d + 1) m pc L S V = some X
    replace e : stG (go f) d m pc L S V = some X := e
    unfold stG at e ⊢
    rw [stp_free] at e ⊢
    generalize nxt m pc L S V = n at e ⊢
    match n, e with
    | some (.inl (pc, L, S, V)), e => exact H _ _ _ _ _ _ _ e
    | some (.inr (.inl (r, V))), e => exact e
    | some (.inr (.inr (0, b, as, V, nx, L, R))), e =>
      obtain ⟨V', h1, h2⟩ := Option.bind_eq_some_iff.mp e
      exact Option.bind_eq_some_iff.mpr ⟨V', by rw [C (toV_some h1)]; rfl, H _ _ _ _ _ _ _ h2⟩
    | some (.inr (.inr (1, b, as, V, nx, L, R))), e =>
      obtain ⟨V', h1, h2⟩ := Option.bind_eq_some_iff.mp e
      exact Option.bind_eq_some_iff.mpr ⟨V', by rw [C (toI_some h1)]; rfl, H _ _ _ _ _ _ _ h2⟩
    | some (.inr (.inr (k + 2, b, as, V, nx, L, R))), e =>
      obtain ⟨V', h1, h2⟩ := Option.bind_eq_some_iff.mp e
      exact Option.bind_eq_some_iff.mpr ⟨V', by rw [C (toJ_some h1)]; rfl, H _ _ _ _ _ _ _ h2⟩
theorem clI_up {d b : Nat} {as : List AV} {V : Mem} {X : Int32 × Mem} (h : clI (d + 1) b as V = some X) : clI (d + 2) b as V = some X := by
  have e : sem d b 0 (padL (nLo b) (entL as)) [] V = some (some (.inl X.1), X.2) := toI_some h
  obtain ⟨f, hf⟩ := sem_iff.mp e
  exact clI_of (sem_iff.mpr ⟨f, go_up f _ _ _ _ _ _ _ hf⟩)
/-- what the class may touch while it reads; what both may touch -/
abbrev gT (t i k : Nat) : Prop := fT t i k ∨ (t = 20 ∧ k = 0)
abbrev gA (t i k : Nat) : Prop := gT t i k ∨ ((t = 1 ∨ t = 2 ∨ t = 3) ∧ i = 0) ∨ ((t = 5 ∨ t = 6 ∨ t = 7) ∧ i < 6) ∨ t = 32 ∨ t = 34 ∨ (t = 30 ∧ (k = 6 ∨ k = 7 ∨ k = 8 ∨ k = 9))
theorem pm_sky (SL : Nat) (xs : Nat → Int32) : PMI SL xs m_C_sky m_M_sky [] := by
  intro V h
  obtain ⟨K, k1, k2, k3, k4⟩ := h.1
  obtain ⟨n, n1, n2, n3, n4⟩ := h.2.2.1
  have i6 := h.2.2.2.2.2.1
  have hT : ∀ k, k < n → (fun k => Int32.toNatClampNeg (V.1 21 0 k)) k < 256 := fun k hk => by
    obtain ⟨b, b1, b2, b3⟩ := n4 k hk
    show Int32.toNatClampNeg (V.1 21 0 k) < 256
    rw [b2, nI_clamp (by omega)]; exact b1
  have hTc : ∀ k, k < n → V.1 21 0 k = nI ((fun k => Int32.toNatClampNeg (V.1 21 0 k)) k) := fun k hk => by
    obtain ⟨b, b1, b2, b3⟩ := n4 k hk
    show V.1 21 0 k = nI (Int32.toNatClampNeg (V.1 21 0 k))
    rw [b2, nI_clamp (by omega)]
  have hTm : ∀ k, k < n → V.1 35 0 k = nI ((fun k => Int32.toNatClampNeg (V.1 21 0 k)) k) := fun k hk => by
    obtain ⟨b, b1, b2, b3⟩ := n4 k hk
    show V.1 35 0 k = nI (Int32.toNatClampNeg (V.1 21 0 k))
    rw [b2, b3, nI_clamp (by omega)]
  generalize (fun k => Int32.toNatClampNeg (V.1 21 0 k)) = T at hT hTc hTm
  have tc : TPc T n V := ⟨n2, hTc⟩
  have tm : TPm T n V := ⟨n3, hTm, i6⟩
  -- the class up to the reading
  obtain ⟨V1, v1, v2, v3⟩ := c_become (d := 27) (s := 2) (u := 0) (by omega) k2 k1
  have f1 : Fr fT V V1 := FrC2.fT v3
  have c0 : CLs T n (mset (mset V1.1 20 0 3 0) 20 0 1 (-1), V1.2) 0 K := by
    have fr : Fr (fun t _ k => t = 20 ∧ (k = 1 ∨ k = 3)) V1 (mset (mset V1.1 20 0 3 0) 20 0 1 (-1), V1.2) := (Fr.rfl.set (V' := V1) (t := 20) (i := 0) (k := 3) ⟨rfl, Or.inr rfl⟩).set (V' := (mset V1.1 20 0 3 0, V1.2)) ⟨rfl, Or.inl rfl⟩
    refine ⟨(tc.frc v3).fr fr (by omega), ms_at _ _ _ _ _ _, ?_, v2.t20 k1 fr (fun t i k w => w.1)⟩
    show mset (mset V1.1 20 0 3 0) 20 0 1 (-1) 20 0 3 = nI 0
    rw [mset_n (by omega), mset_h ⟨rfl, rfl, rfl⟩]; rfl
  have fc0 : Fr fT V (mset (mset V1.1 20 0 3 0) 20 0 1 (-1), V1.2) := (f1.set (t := 20) (i := 0) (k := 3) (by unfold fT; omega)).set (V' := (mset V1.1 20 0 3 0, V1.2)) (by unfold fT; omega)
  -- the model up to the reading
  have mm : ∀ U : Mem, Fr (fun t i k => gT t i k ∨ ((t = 1 ∨ t = 2 ∨ t = 3) ∧ i = 0) ∨ ((t = 5 ∨ t = 6 ∨ t = 7) ∧ i < 6) ∨ t = 25) V U → ∃ U1, clV 28 130 [.inr (.inr (32, 0)), .inl 0, .inr (.inr (34, 0)), .inl 0] U = some U1 ∧ MOs T n (mset U1.1 30 0 7 0, U1.2) 0 K ∧ MS (mset U1.1 30 0 7 0, U1.2) 34 0 K ∧ Fr (fun t _ k => t = 34 ∨ (t = 30 ∧ k = 7)) U (mset U1.1 30 0 7 0, U1.2) := fun U f => by
    have mU : MS U 32 0 K := k3.fr f (by unfold gT fT; omega)
    have fr : Fr (fun t _ k => t = 34 ∨ (t = 30 ∧ k = 7)) U (mcpy U.1 32 0 0 34 0 0 178, U.2) := ⟨fun t i k q => by
      have : ¬ t = 34 := fun w => q (Or.inl w)
      show mcpy U.1 32 0 0 34 0 0 178 t i k = _
      simp (disch := omega) only [mcpy_out], rfl⟩
    have fr2 := fr.set (t := 30) (i := 0) (k := 7) (x := 0) (Or.inr ⟨rfl, rfl⟩)
    refine ⟨(mcpy U.1 32 0 0 34 0 0 178, U.2), ?_, ⟨(tm.fr f (by unfold gT fT; omega)).fr fr2 (by omega), ms_at _ _ _ _ _ _, mU.fr fr2 (by omega)⟩, ?_, fr2⟩
    · rw [show (Sum.inl (0 : Int32) : AV) = .inl (nI 0) from rfl]
      exact c_mv32_34 (by omega) (by omega) U
    · exact (show MS (mcpy U.1 32 0 0 34 0 0 178, U.2) 34 0 K from mU.moved k1).fr (P := fun t _ _ => t = 30) (Fr.rfl.set rfl) (by omega)
  rcases tape (d := 22) n1 hT (n - 0) 0 0 K rfl (Nat.zero_le _) k1 (by omega) with ⟨K', S, s1, s2, s3, sC, sM⟩ | ⟨g, s1, sC, sM⟩
  · obtain ⟨V3, x1, x2, x3⟩ := sC _ c0
    have rd : clI 29 62 [.inr (.inr (20, 0)), .inr (.inr (1, 2))] V1 = some (nI S, V3) := clI_of ((e_Tape_readInto_0 28 2 V1).trans x1)
    have cz : CS (mset V3.1 20 0 0 0, V3.2) 2 K' := x2.t20 s2 (P := fun t _ _ => t = 20) (Fr.rfl.set rfl) (fun t i k w => w)
    obtain ⟨V5, y1, y2, y3⟩ := c_become (d := 27) (s := 0) (u := 2) (by omega) cz s2
    have fA : Fr gT V (mset V3.1 20 0 0 0, V3.2) := ((fc0.trans x3).mono (fun t i k w => Or.inl w)).set (Or.inr ⟨rfl, rfl⟩)
    have fB : Fr (fun t i k => gT t i k ∨ ((t = 1 ∨ t = 2 ∨ t = 3) ∧ i = 0) ∨ ((t = 5 ∨ t = 6 ∨ t = 7) ∧ i < 6) ∨ t = 25) V V5 := (fA.mono (fun t i k w => Or.inl w)).trans ⟨fun t i k q => y3.1 t i k (fun w => q (Or.inr (Or.inl w))) (fun w => q (Or.inr (Or.inr (Or.inl ⟨w.1, by omega⟩)))), y3.2⟩
    have fB' : Fr gA V V5 := (fA.mono (fun t i k w => Or.inl w)).trans ⟨fun t i k q => y3.1 t i k (fun w => q (Or.inr (Or.inl w))) (fun w => q (Or.inr (Or.inr (Or.inl ⟨w.1, by omega⟩)))), y3.2⟩
    obtain ⟨U1, u1, u2, u3, u4⟩ := mm V5 fB
    obtain ⟨b, W2, W', w1, w2, w3, w4, w5, w6⟩ := sM _ u2
    have fC : Fr gA V5 W' := (u4.mono (by unfold gA; omega)).trans (w6.mono (by unfold fMz fMo gA; omega))
    have fD : Fr (fun t i k => t = 32 ∨ t = 34 ∨ t = 30) V5 W' := (u4.mono (by omega)).trans (w6.mono (by unfold fMz fMo; omega))
    refine ⟨nI S, V5, W', clI_of ((e_C_sky_0 29 V).trans ?_), h.vok.fr fB' (by unfold gA gT fT dp8; omega), clI_up (clI_of ((e_M_sky_0 28 V5).trans ?_)), h.genT k4 s3 s2 (fB'.trans fC) (by unfold gA gT fT dp2 dp4 dp5 dp6 dp7 dp8; omega) (y2.fr s2 fD (by omega)) w5 ⟨0, by omega, ?_, w4, fun k hk => by omega⟩⟩
    · rw [v1, bind_some', rd, bind_some', if_neg (neg1_nI (by omega)), y1, bind_some']
    · rw [u1, bind_some', w1, bind_some']
      exact w3
    · rw [fD.1 20 0 0 (by omega), y3.1 20 0 0 (by omega) (by omega)]
      exact ms_at _ _ _ _ _ _
  · obtain ⟨V3, x1, x2, x3⟩ := sC _ c0
    have rd : clI 29 62 [.inr (.inr (20, 0)), .inr (.inr (1, 2))] V1 = some (-1, V3) := clI_of ((e_Tape_readInto_0 28 2 V1).trans x1)
    have fA : Fr gT V (mset V3.1 20 0 0 0, V3.2) := ((fc0.trans x3).mono (fun t i k w => Or.inl w)).set (Or.inr ⟨rfl, rfl⟩)
    have fU : Fr gA (CRf V 0) (CRf (mset V3.1 20 0 0 0, V3.2) 0) := (fA.mono (Q := gA) (fun t i k w => Or.inl w)).crf (by unfold gA gT fT; omega) 0
    have fB : Fr (fun t i k => gT t i k ∨ ((t = 1 ∨ t = 2 ∨ t = 3) ∧ i = 0) ∨ ((t = 5 ∨ t = 6 ∨ t = 7) ∧ i < 6) ∨ t = 25) V (CRf (mset V3.1 20 0 0 0, V3.2) 0) := (fA.mono (fun t i k w => Or.inl w)).set (Or.inr (Or.inr (Or.inr rfl)))
    obtain ⟨U1, u1, u2, u3, u4⟩ := mm _ fB
    obtain ⟨b, x, W2, W', w1, w2, w3, w4, w5⟩ := sM _ u2
    have m34 : MS W' 34 0 K := u3.fr w5 (by unfold fMo; omega)
    have mz : Fr gA W' (mcpy W'.1 34 0 0 32 0 0 178, W'.2) := ⟨fun t i k q => by
      have : ¬ t = 32 := fun w => q (by unfold gA; omega)
      show mcpy W'.1 34 0 0 32 0 0 178 t i k = _
      simp (disch := omega) only [mcpy_out], rfl⟩
    have mz8 : (mcpy W'.1 34 0 0 32 0 0 178) 30 0 8 = nI g := (show mcpy W'.1 34 0 0 32 0 0 178 30 0 8 = W'.1 30 0 8 by simp (disch := omega) only [mcpy_out]).trans w4
    have mz32 : MS (mcpy W'.1 34 0 0 32 0 0 178, W'.2) 32 0 K := m34.moved k1
    have fZ := ((u4.mono (Q := gA) (by unfold gA; omega)).trans (w5.mono (by unfold fMo gA; omega))).trans mz
    have fZ6 := fZ.set (t := 30) (i := 0) (k := 6) (x := 0) (by unfold gA; omega)
    have fin := (fU.trans fZ6).mrf (by unfold gA gT fT; omega) 0
    have hr := h.ref (k := 0) (by omega)
    have mzD : Fr (fun t _ _ => t = 30 ∨ t = 31 ∨ t = 32 ∨ t = 34) W' (mcpy W'.1 34 0 0 32 0 0 178, W'.2) := ⟨fun t i k q => by
      have : ¬ t = 32 := fun w => q (by omega)
      show mcpy W'.1 34 0 0 32 0 0 178 t i k = _
      simp (disch := omega) only [mcpy_out], rfl⟩
    have fD : Fr (fun t _ _ => t = 30 ∨ t = 31 ∨ t = 32 ∨ t = 34) (CRf (mset V3.1 20 0 0 0, V3.2) 0) (MRf (mset (mcpy W'.1 34 0 0 32 0 0 178) 30 0 6 0, W'.2) 0) := ((((u4.mono (by omega)).trans (w5.mono (by unfold fMo; omega))).trans mzD).set (t := 30) (i := 0) (k := 6) (x := 0) (Or.inl rfl)).set (V' := (mset (mcpy W'.1 34 0 0 32 0 0 178) 30 0 6 0, W'.2)) (Or.inr (Or.inl rfl))
    have rf20 : (CRf (mset V3.1 20 0 0 0, V3.2) 0).1 20 0 1 = V3.1 20 0 1 := (CRf_n (by omega)).trans (show mset V3.1 20 0 0 0 20 0 1 = _ from mset_n (by omega))
    have rf30 : (MRf (mset (mcpy W'.1 34 0 0 32 0 0 178) 30 0 6 0, W'.2) 0).1 30 0 8 = (mcpy W'.1 34 0 0 32 0 0 178) 30 0 8 := (MRf_n (by omega)).trans (show mset (mcpy W'.1 34 0 0 32 0 0 178) 30 0 6 0 30 0 8 = _ from mset_n (by omega))
    refine ⟨(-20) - nI g, CRf (mset V3.1 20 0 0 0, V3.2) 0, MRf (mset (mcpy W'.1 34 0 0 32 0 0 178) 30 0 6 0, W'.2) 0, clI_of ((e_C_sky_0 29 V).trans ?_), (h.vok.fr fA (by unfold gT fT dp8; omega)).crf 0, clI_up (clI_of ((e_M_sky_0 28 _).trans ?_)), ?_⟩
    · rw [v1, bind_some', rd, bind_some', if_pos rfl, c_C_ref2, bind_some']
      dsimp only
      rw [rf20, x2]
    · rw [u1, bind_some', w1, bind_some']
      refine Eq.trans w3 ((e_M_sky_25 28 x 0 W').trans ?_)
      rw [if_pos rfl, show (Sum.inl (0 : Int32) : AV) = .inl (nI 0) from rfl, c_mv34_32 (by omega) (by omega), bind_some', c_M_ref2, bind_some']
      dsimp only
      rw [rf30, mz8]
    · refine hr.genT (K := K) (K' := K) (fun s hs => ?_) (Nat.le_refl _) k1 fin (by unfold gA gT fT dp2 dp4 dp5 dp6 dp7 dp8; omega) ?_ ?_ ⟨0, by omega, ?_, ?_, fun k hk => by omega⟩
      · have e1 : (MRf (CRf V 0) 0).1 23 s 1 = V.1 23 s 1 := (MRf_n (by omega)).trans (CRf_n (by omega))
        have e2 : (MRf (CRf V 0) 0).1 42 0 s = V.1 42 0 s := (MRf_n (by omega)).trans (CRf_n (by omega))
        rw [e1, e2]
        exact k4 s hs
      · refine CS.fr (P := fun t i k => gT t i k ∨ t = 25 ∨ t = 30 ∨ t = 31 ∨ t = 32 ∨ t = 34) k2 k1 ?_ (by unfold gT fT; omega)
        have fa : Fr (fun t i k => gT t i k ∨ t = 25 ∨ t = 30 ∨ t = 31 ∨ t = 32 ∨ t = 34) V (CRf (mset V3.1 20 0 0 0, V3.2) 0) := (fA.mono (fun t i k w => Or.inl w)).set (V' := (mset V3.1 20 0 0 0, V3.2)) (t := 25) (i := 0) (k := 0) (Or.inr (Or.inl rfl))
        exact fa.trans (fD.mono (fun t i k w => Or.inr (Or.inr w)))
      · exact mz32.fr (P := fun t _ _ => t = 30 ∨ t = 31) ((Fr.rfl.set (V' := (mcpy W'.1 34 0 0 32 0 0 178, W'.2)) (t := 30) (i := 0) (k := 6) (x := 0) (Or.inl rfl)).set (Or.inr rfl)) (by omega)
      · refine (fD.1 20 0 0 (by omega)).trans ((CRf_n (by omega)).trans (ms_at _ _ _ _ _ _))
      · exact (MRf_n (by omega)).trans (ms_at _ _ _ _ _ _)
