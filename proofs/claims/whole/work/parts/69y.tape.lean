/-! THE TAPE: scanning -/
def scn (P : Nat → Bool) (T : Nat → Nat) (n : Nat) : Nat → Nat → Nat
  | 0, a => a
  | f + 1, a => if a < n ∧ P (T a) = true then scn P T n f (a + 1) else a
def sc (P : Nat → Bool) (T : Nat → Nat) (n a : Nat) : Nat := scn P T n (n - a) a
theorem sc_step {P : Nat → Bool} {T : Nat → Nat} {n a : Nat} (h : a < n) (hp : P (T a) = true) : sc P T n a = sc P T n (a + 1) := by
  unfold sc
  rw [show n - a = (n - (a + 1)) + 1 by omega]
  exact if_pos ⟨h, hp⟩
theorem sc_stop {P : Nat → Bool} {T : Nat → Nat} {n a : Nat} (h : ¬ (a < n ∧ P (T a) = true)) : sc P T n a = a := by
  unfold sc
  cases n - a with
  | zero => rfl
  | succ f => exact if_neg h
theorem sc_p {P : Nat → Bool} {T : Nat → Nat} {n : Nat} : ∀ f a, n - a = f → a ≤ n → a ≤ sc P T n a ∧ sc P T n a ≤ n ∧ (∀ k, a ≤ k → k < sc P T n a → P (T k) = true) ∧ (sc P T n a < n → ¬ P (T (sc P T n a)) = true) := by
  intro f
  induction f with
  | zero =>
    intro a hf ha
    rw [sc_stop (fun w => by omega)]
    exact ⟨Nat.le_refl _, ha, fun k h1 h2 => by omega, fun h => by omega⟩
  | succ f ih =>
    intro a hf ha
    by_cases e : a < n ∧ P (T a) = true
    · obtain ⟨h1, h2, h3, h4⟩ := ih (a + 1) (by omega) (by omega)
      rw [sc_step e.1 e.2]
      refine ⟨by omega, h2, fun k g1 g2 => ?_, h4⟩
      by_cases q : k = a
      · subst q; exact e.2
      · exact h3 k (by omega) g2
    · rw [sc_stop e]
      exact ⟨Nat.le_refl _, ha, fun k h1 h2 => by omega, fun h w => e ⟨h, w⟩⟩
def isBl (b : Nat) : Bool := Nat.beq b 32
def isLt (b : Nat) : Bool := decide (97 ≤ b ∧ b ≤ 122)
def isDg (b : Nat) : Bool := decide (48 ≤ b ∧ b ≤ 57)
def TPc (T : Nat → Nat) (n : Nat) (V : Mem) : Prop := V.1 20 0 0 = nI n ∧ ∀ k, k < n → V.1 21 0 k = nI (T k)
theorem TPc.fr {T : Nat → Nat} {n : Nat} {V V' : Mem} (h : TPc T n V) {P : Nat → Nat → Nat → Prop} (f : Fr P V V') (hp : ∀ t i k, P t i k → ¬ (t = 20 ∧ k = 0) ∧ ¬ t = 21) : TPc T n V' := ⟨(f.1 20 0 0 (fun w => (hp _ _ _ w).1 ⟨rfl, rfl⟩)).trans h.1, fun k hk => (f.1 21 0 k (fun w => (hp _ _ _ w).2 rfl)).trans (h.2 k hk)⟩
abbrev p34 (t _i k : Nat) : Prop := t = 20 ∧ (k = 3 ∨ k = 4)
abbrev p134 (t _i k : Nat) : Prop := t = 20 ∧ (k = 1 ∨ k = 3 ∨ k = 4)
theorem skipW {d n : Nat} {T : Nat → Nat} (hn : n ≤ 250) (hT : ∀ k, k < n → T k < 256) : ∀ f a (V : Mem), n - a = f → a ≤ n → TPc T n V → V.1 20 0 3 = nI a → ∃ V', sem d 63 0 [some (.inr (.inr (20, 0)))] [] V = some (none, V') ∧ V'.1 20 0 3 = nI (sc isBl T n a) ∧ V'.1 20 0 4 = nI (sc isBl T n a) ∧ Fr p34 V V' := by
  intro f
  induction f with
  | zero =>
    intro a V hf ha ht h3
    refine ⟨(mset V.1 20 0 4 (nI a), V.2), ?_, ?_, ?_, Fr.rfl.set ⟨rfl, Or.inr rfl⟩⟩
    · rw [e_Tape_skipBlanks_0, h3, ht.1, if_neg (nI_nlt (by omega) (by omega))]
    · rw [sc_stop (fun w => by omega)]; simp (disch := omega) only [mset_n]; exact h3
    · rw [sc_stop (fun w => by omega)]; simp (disch := omega) only [mset_h]
  | succ f ih =>
    intro a V hf ha ht h3
    have tl := hT a (by omega)
    have st := e_Tape_skipBlanks_0 d V
    rw [h3, ht.1, if_pos (nI_lt (by omega) (by omega)), if_neg (nI_in (N := 250) (by omega) (by omega)), nI_clamp (by omega), ht.2 a (by omega), nI_1] at st
    by_cases e : T a = 32
    · have eb : isBl (T a) = true := by unfold isBl; rw [Nat.beq_eq]; exact e
      rw [if_pos (by rw [e]; rfl)] at st
      have fr : Fr p34 V (mset V.1 20 0 3 (nI (a + 1)), V.2) := Fr.rfl.set ⟨rfl, Or.inl rfl⟩
      obtain ⟨V', v1, v2, v3, v4⟩ := ih (a + 1) (mset V.1 20 0 3 (nI (a + 1)), V.2) (by omega) (by omega) (ht.fr fr (by unfold p34; omega)) (by simp (disch := omega) only [mset_h])
      rw [sc_step (by omega) eb]
      exact ⟨V', st.trans v1, v2, v3, fr.trans v4⟩
    · have eb : ¬ isBl (T a) = true := by unfold isBl; rw [Nat.beq_eq]; exact e
      rw [if_neg (show ¬ nI (T a) = 32 from fun w => e ((nI_eq (b := 32) (by omega) (by omega)).mp w))] at st
      refine ⟨(mset V.1 20 0 4 (nI a), V.2), st, ?_, ?_, Fr.rfl.set ⟨rfl, Or.inr rfl⟩⟩
      · rw [sc_stop (fun w => eb w.2)]; simp (disch := omega) only [mset_n]; exact h3
      · rw [sc_stop (fun w => eb w.2)]; simp (disch := omega) only [mset_h]
theorem c_skip {d n a : Nat} {T : Nat → Nat} (hn : n ≤ 250) (hT : ∀ k, k < n → T k < 256) (ha : a ≤ n) {V : Mem} (ht : TPc T n V) (h3 : V.1 20 0 3 = nI a) : ∃ V', clV (d + 1) m_Tape_skipBlanks [.inr (.inr (20, 0))] V = some V' ∧ V'.1 20 0 3 = nI (sc isBl T n a) ∧ V'.1 20 0 4 = nI (sc isBl T n a) ∧ Fr p34 V V' := by
  obtain ⟨V', v1, v2⟩ := skipW (d := d) hn hT (n - a) a V rfl ha ht h3
  exact ⟨V', clV_of v1, v2⟩
abbrev p3 (t _i k : Nat) : Prop := t = 20 ∧ k = 3
theorem letW {d n s : Nat} {T : Nat → Nat} (hn : n ≤ 250) (hT : ∀ k, k < n → T k < 256) : ∀ f a (V : Mem), n - a = f → a ≤ n → TPc T n V → V.1 20 0 3 = nI a → ∃ V', sem d 65 4 [some (.inr (.inr (20, 0))), some (.inr (.inr (1, s)))] [] V = sem d 65 56 [some (.inr (.inr (20, 0))), some (.inr (.inr (1, s)))] [] V' ∧ V'.1 20 0 3 = nI (sc isLt T n a) ∧ Fr p3 V V' := by
  intro f
  induction f with
  | zero =>
    intro a V hf ha ht h3
    refine ⟨V, ?_, ?_, Fr.rfl⟩
    · rw [e_Tape_readStatement_4, h3, ht.1, if_neg (nI_nlt (by omega) (by omega))]
    · rw [sc_stop (fun w => by omega)]; exact h3
  | succ f ih =>
    intro a V hf ha ht h3
    have tl := hT a (by omega)
    have st := e_Tape_readStatement_4 d s V
    rw [h3, ht.1, if_pos (nI_lt (by omega) (by omega)), if_neg (nI_in (N := 250) (by omega) (by omega)), if_neg (nI_in (N := 250) (by omega) (by omega)), nI_clamp (by omega), ht.2 a (by omega), nI_1] at st
    by_cases e1 : T a < 97
    · have eb : ¬ isLt (T a) = true := by unfold isLt; rw [decide_eq_true_iff]; omega
      rw [if_pos (show nI (T a) < 97 from nI_lt (b := 97) e1 (by omega))] at st
      exact ⟨V, st, by rw [sc_stop (fun w => eb w.2)]; exact h3, Fr.rfl⟩
    · rw [if_neg (show ¬ nI (T a) < 97 from nI_nlt (b := 97) (by omega) (by omega))] at st
      by_cases e2 : 122 < T a
      · have eb : ¬ isLt (T a) = true := by unfold isLt; rw [decide_eq_true_iff]; omega
        rw [if_pos (show 122 < nI (T a) from nI_lt (a := 122) e2 (by omega))] at st
        exact ⟨V, st, by rw [sc_stop (fun w => eb w.2)]; exact h3, Fr.rfl⟩
      · have eb : isLt (T a) = true := by unfold isLt; rw [decide_eq_true_iff]; omega
        rw [if_neg (show ¬ 122 < nI (T a) from nI_nlt (a := 122) (by omega) (by omega))] at st
        have fr : Fr p3 V (mset V.1 20 0 3 (nI (a + 1)), V.2) := Fr.rfl.set ⟨rfl, rfl⟩
        obtain ⟨V', v1, v2, v3⟩ := ih (a + 1) (mset V.1 20 0 3 (nI (a + 1)), V.2) (by omega) (by omega) (ht.fr fr (by unfold p3; omega)) (by simp (disch := omega) only [mset_h])
        rw [sc_step (by omega) eb]
        exact ⟨V', st.trans v1, v2, fr.trans v3⟩
def vI (T : Nat → Nat) (s : Nat) : Nat → Int32
  | 0 => 0
  | k + 1 => vI T s k * 10 + nI (T (s + k)) - 48
theorem digW {d n s : Nat} (lo hi : Int32) {T : Nat → Nat} (hn : n ≤ 250) (hT : ∀ k, k < n → T k < 256) : ∀ f k (V : Mem), n - (s + k) = f → s + k ≤ n → TPc T n V → V.1 20 0 3 = nI (s + k) → ∃ V', sem d 67 16 [some (.inr (.inr (20, 0))), some (.inl lo), some (.inl hi), some (.inl (vI T s k)), none] [] V = sem d 67 86 [some (.inr (.inr (20, 0))), some (.inl lo), some (.inl hi), some (.inl (vI T s (sc isDg T n (s + k) - s))), none] [] V' ∧ V'.1 20 0 3 = nI (sc isDg T n (s + k)) ∧ Fr p3 V V' := by
  intro f
  induction f with
  | zero =>
    intro k V hf ha ht h3
    rw [sc_stop (fun w => by omega), show s + k - s = k by omega]
    refine ⟨V, ?_, h3, Fr.rfl⟩
    rw [e_Tape_readNumber_16, h3, ht.1, if_neg (nI_nlt (by omega) (by omega))]
  | succ f ih =>
    intro k V hf ha ht h3
    have tl := hT (s + k) (by omega)
    have st := e_Tape_readNumber_16 d lo hi (vI T s k) V
    rw [h3, ht.1, if_pos (nI_lt (by omega) (by omega)), if_neg (nI_in (N := 250) (by omega) (by omega)), if_neg (nI_in (N := 250) (by omega) (by omega)), if_neg (nI_in (N := 250) (by omega) (by omega)), nI_clamp (by omega), ht.2 (s + k) (by omega), nI_1] at st
    by_cases e1 : T (s + k) < 48
    · have eb : ¬ isDg (T (s + k)) = true := by unfold isDg; rw [decide_eq_true_iff]; omega
      rw [if_pos (show nI (T (s + k)) < 48 from nI_lt (b := 48) e1 (by omega))] at st
      rw [sc_stop (fun w => eb w.2), show s + k - s = k by omega]
      exact ⟨V, st, h3, Fr.rfl⟩
    · rw [if_neg (show ¬ nI (T (s + k)) < 48 from nI_nlt (b := 48) (by omega) (by omega))] at st
      by_cases e2 : 57 < T (s + k)
      · have eb : ¬ isDg (T (s + k)) = true := by unfold isDg; rw [decide_eq_true_iff]; omega
        rw [if_pos (show 57 < nI (T (s + k)) from nI_lt (a := 57) e2 (by omega))] at st
        rw [sc_stop (fun w => eb w.2), show s + k - s = k by omega]
        exact ⟨V, st, h3, Fr.rfl⟩
      · have eb : isDg (T (s + k)) = true := by unfold isDg; rw [decide_eq_true_iff]; omega
        rw [if_neg (show ¬ 57 < nI (T (s + k)) from nI_nlt (a := 57) (by omega) (by omega))] at st
        have fr : Fr p3 V (mset V.1 20 0 3 (nI (s + k + 1)), V.2) := Fr.rfl.set ⟨rfl, rfl⟩
        obtain ⟨V', v1, v2, v3⟩ := ih (k + 1) (mset V.1 20 0 3 (nI (s + k + 1)), V.2) (by omega) (by omega) (ht.fr fr (by unfold p3; omega)) (by simp (disch := omega) only [mset_h]; rfl)
        rw [sc_step (by omega) eb]
        exact ⟨V', st.trans v1, v2, fr.trans v3⟩
/-- where a token begins, where its digits end, what it says -/
abbrev tS (T : Nat → Nat) (n a : Nat) : Nat := sc isBl T n a
abbrev tD (T : Nat → Nat) (n a : Nat) : Nat := sc isDg T n (sc isBl T n a)
abbrev tV (T : Nat → Nat) (n a : Nat) : Int32 := vI T (tS T n a) (tD T n a - tS T n a)
abbrev nOK (T : Nat → Nat) (n a : Nat) (lo hi : Int32) : Prop := (1 ≤ tD T n a - tS T n a ∧ tD T n a - tS T n a ≤ 2) ∧ ¬ tV T n a < lo ∧ ¬ hi < tV T n a
theorem tS_p (T : Nat → Nat) {n a : Nat} (ha : a ≤ n) : a ≤ tS T n a ∧ tS T n a ≤ tD T n a ∧ tD T n a ≤ n := by
  obtain ⟨h1, h2, _, _⟩ := sc_p (P := isBl) (T := T) (n := n) (n - a) a rfl ha
  obtain ⟨g1, g2, _, _⟩ := sc_p (P := isDg) (T := T) (n := n) (n - tS T n a) (tS T n a) rfl h2
  exact ⟨h1, g1, g2⟩
theorem c_readNum {d n a : Nat} (lo hi : Int32) {T : Nat → Nat} (hn : n ≤ 250) (hT : ∀ k, k < n → T k < 256) (ha : a ≤ n) {V : Mem} (ht : TPc T n V) (h1 : V.1 20 0 1 = -1) (h3 : V.1 20 0 3 = nI a) : (nOK T n a lo hi → ∃ V', clI (d + 2) m_Tape_readNumber [.inr (.inr (20, 0)), .inl lo, .inl hi] V = some (tV T n a, V') ∧ V'.1 20 0 1 = -1 ∧ V'.1 20 0 3 = nI (tD T n a) ∧ V'.1 20 0 4 = nI (tS T n a) ∧ Fr p34 V V') ∧ (¬ nOK T n a lo hi → ∃ (V' : Mem) (z : Int32), clI (d + 2) m_Tape_readNumber [.inr (.inr (20, 0)), .inl lo, .inl hi] V = some (z, V') ∧ V'.1 20 0 1 = nI (tS T n a) ∧ Fr p134 V V') := by
  obtain ⟨a1, a2, a3⟩ := tS_p T ha
  obtain ⟨V1, v1, v2, v3, v4⟩ := c_skip (d := d) hn hT ha ht h3
  have t1 := ht.fr v4 (by unfold p34; omega)
  obtain ⟨V2, u1, u2, u3⟩ := digW (d := d + 1) (s := tS T n a) lo hi hn hT (n - tS T n a) 0 V1 (by omega) (by omega) t1 v2
  have st := e_Tape_readNumber_0 (d + 1) lo hi V
  rw [if_pos h1, v1, bind_some'] at st
  have f2 : Fr p34 V1 V2 := u3.mono (by unfold p3 p34; omega)
  have e4 : V2.1 20 0 4 = nI (tS T n a) := (u3.1 20 0 4 (by unfold p3; omega)).trans v3
  have e1 : V2.1 20 0 1 = -1 := (u3.1 20 0 1 (by unfold p3; omega)).trans ((v4.1 20 0 1 (by unfold p34; omega)).trans h1)
  have st2 := st.trans u1
  rw [Nat.add_zero] at st2 u2
  have e86 := e_Tape_readNumber_86 (d + 1) lo hi (tV T n a) V2
  rw [u2, e4, pk_sub (by omega)] at e86
  have fin := st2.trans e86
  have frA : Fr p34 V V2 := v4.trans f2
  have bad : sem (d + 1) 67 0 [some (.inr (.inr (20, 0))), some (.inl lo), some (.inl hi), none, none] [] V = some (some (.inl (tV T n a)), (mset V2.1 20 0 1 (nI (tS T n a)), V2.2)) → ∃ (V' : Mem) (z : Int32), clI (d + 2) m_Tape_readNumber [.inr (.inr (20, 0)), .inl lo, .inl hi] V = some (z, V') ∧ V'.1 20 0 1 = nI (tS T n a) ∧ Fr p134 V V' := fun w => ⟨_, _, clI_of w, by simp (disch := omega) only [mset_h], (frA.mono (by unfold p34 p134; omega)).set (by unfold p134; omega)⟩
  have q1 : (nI (tD T n a - tS T n a) < 1) ↔ tD T n a - tS T n a < 1 := nI_ltI (b := 1) (by omega) (by omega)
  have q2 : (2 < nI (tD T n a - tS T n a)) ↔ 2 < tD T n a - tS T n a := nI_ltI (a := 2) (by omega) (by omega)
  refine ⟨fun ok => ⟨V2, clI_of (fin.trans ?_), e1, u2, e4, frA⟩, fun nk => bad (fin.trans ?_)⟩
  · rw [if_neg (fun w => by have := q1.mp w; omega), if_neg (fun w => by have := q2.mp w; omega), if_neg ok.2.1, if_neg ok.2.2]
  · by_cases b1 : nI (tD T n a - tS T n a) < 1
    · rw [if_pos b1]
    · rw [if_neg b1]
      by_cases b2 : 2 < nI (tD T n a - tS T n a)
      · rw [if_pos b2]
      · rw [if_neg b2]
        by_cases b3 : tV T n a < lo
        · rw [if_pos b3]
        · rw [if_neg b3]
          by_cases b4 : hi < tV T n a
          · rw [if_pos b4]
          · exact absurd ⟨⟨by rw [q1] at b1; omega, by rw [q2] at b2; omega⟩, b3, b4⟩ nk
theorem c_readNumF {d : Nat} (lo hi : Int32) {V : Mem} (h1 : ¬ V.1 20 0 1 = -1) : clI (d + 1) m_Tape_readNumber [.inr (.inr (20, 0)), .inl lo, .inl hi] V = some (-1, V) := by
  refine clI_of ((e_Tape_readNumber_0 d lo hi V).trans ?_)
  rw [if_neg h1]
def chW (k j : Nat) : Nat := (nth ((nth [[112, 111, 105, 110, 116], [112, 97, 114, 105, 115, 104], [119, 97, 110, 116, 115], [108, 105, 110, 101], [99, 108, 111, 117, 100]] k).getD []) j).getD 0
theorem schr_nat : ∀ k, k < 5 → ∀ j, j < 6 → schr k j = nI (chW k j) ∧ chW k j < 256 := by decide +kernel
def isW (T : Nat → Nat) (k s e : Nat) : Prop := e - s = slen k ∧ s ≤ e ∧ ∀ j, j < slen k → T (s + j) = chW k j
theorem slen_le : ∀ k, k < 5 → slen k ≤ 6 ∧ 4 ≤ slen k := by decide +kernel
theorem c_isWord {d n k s e : Nat} {T : Nat → Nat} (hk : k < 5) (hn : n ≤ 250) (hT : ∀ k, k < n → T k < 256) (hse : s ≤ e) (hen : e ≤ n) {V : Mem} (ht : TPc T n V) (h3 : V.1 20 0 3 = nI e) (h4 : V.1 20 0 4 = nI s) : ∃ b : Bool, clI (d + 1) m_Tape_isWord [.inr (.inr (20, 0)), .inr (.inr (52, k))] V = some (bI (b = true), V) ∧ (b = true ↔ isW T k s e) := by
  obtain ⟨sl, sl4⟩ := slen_le k hk
  have st := e_Tape_isWord_0 d k V
  rw [h3, h4, pk_sub hse] at st
  by_cases L : e - s = slen k
  · rw [if_pos (by rw [L])] at st
    have main : ∀ m j, j + m = slen k → ∃ b : Bool, sem d 66 20 [some (.inr (.inr (20, 0))), some (.inr (.inr (52, k))), some (.inl (nI j))] [] V = some (some (.inl (bI (b = true))), V) ∧ (b = true ↔ ∀ q, j ≤ q → q < slen k → T (s + q) = chW k q) := by
      intro m
      induction m with
      | zero =>
        intro j hj
        refine ⟨true, ?_, fun _ q h1 h2 => by omega, fun _ => rfl⟩
        rw [e_Tape_isWord_20, if_neg (nI_nlt (by omega) (by omega))]
        rfl
      | succ m ih =>
        intro j hj
        obtain ⟨b, b1, b2⟩ := ih (j + 1) (by omega)
        obtain ⟨c1, c2⟩ := schr_nat k hk j (by omega)
        have tl := hT (s + j) (by omega)
        have sq := e_Tape_isWord_20 d k (nI j) V
        rw [if_pos (nI_lt (by omega) (by omega)), h4, nI_add, if_neg (nI_in (N := 250) (by omega) (by omega)), if_neg (nI_in (N := slen k) (by omega) (by omega)), nI_clamp (by omega), nI_clamp (by omega), ht.2 (s + j) (by omega), c1, nI_1] at sq
        by_cases e2 : T (s + j) = chW k j
        · rw [if_pos (by rw [e2])] at sq
          refine ⟨b, sq.trans b1, b2.trans ⟨fun w q h1 h2 => ?_, fun w q h1 h2 => w q (by omega) h2⟩⟩
          by_cases z : q = j
          · subst z; exact e2
          · exact w q (by omega) h2
        · rw [if_neg (fun w => e2 ((nI_eq (by omega) (by omega)).mp w))] at sq
          exact ⟨false, sq, fun w => absurd w (by simp), fun w => absurd (w j (Nat.le_refl _) (by omega)) e2⟩
    obtain ⟨b, b1, b2⟩ := main (slen k) 0 (by omega)
    exact ⟨b, clI_of (st.trans b1), b2.trans ⟨fun w => ⟨L, hse, fun j hj => w j (by omega) hj⟩, fun w q _ h2 => w.2.2 q h2⟩⟩
  · rw [if_neg (fun w => L ((nI_eq (by omega) (by omega)).mp w))] at st
    exact ⟨false, clI_of st, fun w => absurd w (by simp), fun w => absurd w.1 L⟩
/-! the reference's scanning -/
def TPm (T : Nat → Nat) (n : Nat) (W : Mem) : Prop := W.1 30 0 6 = nI n ∧ (∀ k, k < n → W.1 35 0 k = nI (T k)) ∧ I6 W
theorem TPm.fr {T : Nat → Nat} {n : Nat} {V V' : Mem} (h : TPm T n V) {P : Nat → Nat → Nat → Prop} (f : Fr P V V') (hp : ∀ t i k, P t i k → ¬ (t = 30 ∧ k = 6) ∧ ¬ t = 35 ∧ ¬ t = 36) : TPm T n V' := ⟨(f.1 30 0 6 (fun w => (hp _ _ _ w).1 ⟨rfl, rfl⟩)).trans h.1, fun k hk => (f.1 35 0 k (fun w => (hp _ _ _ w).2.1 rfl)).trans (h.2.1 k hk), fun k hk => (f.1 36 0 k (fun w => (hp _ _ _ w).2.2 rfl)).trans (h.2.2 k hk)⟩
def srt (T : Nat → Nat) (n a : Nat) : Nat := if a < n then (if isLt (T a) = true then 1 else if isDg (T a) = true then 2 else if T a = 59 then 3 else 4) else 0
theorem isIn_nat {d a l h : Nat} (ha : a < 1000) (hl : l < 1000) (hh : h < 1000) {lo hi : Int64} (e1 : lo = lN l) (e2 : hi = lN h) (V : Mem) : clI (d + 1) m_M_isIn [.inr (.inl ((nI a).toInt64)), .inr (.inl (lo)), .inr (.inl (hi))] V = some (bI (l ≤ a ∧ a ≤ h), V) := by
  rw [c_M_isInL, nI_l (by omega), e1, e2]
  refine congrArg (fun z => some (z, V)) (bI_same ?_)
  rw [lN_lt (by omega) (by omega), lN_lt (by omega) (by omega)]
  omega
theorem c_sortAt {d n a : Nat} {T : Nat → Nat} (hn : n ≤ 250) (hT : ∀ k, k < n → T k < 256) (ha : a ≤ n) {V : Mem} (ht : TPm T n V) : clI (d + 2) m_M_sortAt [.inr (.inr (30, 0)), .inl (nI a)] V = some (nI (srt T n a), V) := by
  refine clI_of ((e_M_sortAt_0 (d + 1) _ V).trans ?_)
  unfold srt
  rw [ht.1]
  by_cases e : a < n
  · have tl := hT a e
    have L1 : clI (d + 1) 128 [.inr (.inl (Int32.toInt64 (nI (T a)))), .inr (.inl (97)), .inr (.inl (122))] V = some (bI (97 ≤ T a ∧ T a ≤ 122), V) := isIn_nat (l := 97) (h := 122) (by omega) (by omega) (by omega) rfl rfl V
    have L2 : clI (d + 1) 128 [.inr (.inl (Int32.toInt64 (nI (T a)))), .inr (.inl (48)), .inr (.inl (57))] V = some (bI (48 ≤ T a ∧ T a ≤ 57), V) := isIn_nat (l := 48) (h := 57) (by omega) (by omega) (by omega) rfl rfl V
    rw [if_pos (nI_lt e (by omega)), if_pos e, if_neg (nI_in (N := 250) (by omega) (by omega)), nI_clamp (by omega), ht.2.1 a e, L1, bind_some']
    by_cases b1 : 97 ≤ T a ∧ T a ≤ 122
    · rw [bI_t b1, if_neg one_ne, if_pos (show isLt (T a) = true from decide_eq_true b1)]
      rfl
    · rw [bI_f b1, if_pos rfl, if_neg (show ¬ isLt (T a) = true from fun w => b1 (of_decide_eq_true w)), if_neg (nI_in' (N := 250) (by omega) (by omega))]
      dsimp only
      rw [ht.2.1 a e, L2, bind_some']
      by_cases b2 : 48 ≤ T a ∧ T a ≤ 57
      · rw [bI_t b2, if_neg one_ne, if_pos (show isDg (T a) = true from decide_eq_true b2)]
        rfl
      · rw [bI_f b2, if_pos rfl, if_neg (show ¬ isDg (T a) = true from fun w => b2 (of_decide_eq_true w)), if_neg (nI_in' (N := 250) (by omega) (by omega))]
        dsimp only
        rw [ht.2.1 a e]
        by_cases b3 : T a = 59
        · rw [if_pos (by rw [b3]; rfl), if_pos b3]; rfl
        · rw [if_neg (show ¬ nI (T a) = 59 from fun w => b3 ((nI_eq (b := 59) (by omega) (by omega)).mp w)), if_neg b3]; rfl
  · rw [if_neg (nI_nlt (by omega) (by omega)), if_neg e]
    rfl
abbrev p789 (t _i k : Nat) : Prop := t = 30 ∧ (k = 7 ∨ k = 8 ∨ k = 9)
theorem mskip {d n : Nat} {T : Nat → Nat} (hn : n ≤ 250) (hT : ∀ k, k < n → T k < 256) : ∀ f a (V : Mem), n - a = f → a ≤ n → TPm T n V → V.1 30 0 7 = nI a → ∃ V', sem d 157 0 [some (.inr (.inr (30, 0)))] [] V = sem d 157 38 [some (.inr (.inr (30, 0)))] [] V' ∧ V'.1 30 0 7 = nI (sc isBl T n a) ∧ Fr p789 V V' := by
  intro f
  induction f with
  | zero =>
    intro a V hf ha ht h3
    refine ⟨V, ?_, ?_, Fr.rfl⟩
    · rw [e_M_next_0, h3, ht.1, if_neg (nI_nlt (by omega) (by omega))]
    · rw [sc_stop (fun w => by omega)]; exact h3
  | succ f ih =>
    intro a V hf ha ht h3
    have tl := hT a (by omega)
    have st := e_M_next_0 d V
    rw [h3, ht.1, if_pos (nI_lt (by omega) (by omega)), if_neg (nI_in (N := 250) (by omega) (by omega)), nI_clamp (by omega), ht.2.1 a (by omega), nI_1] at st
    by_cases e : T a = 32
    · have eb : isBl (T a) = true := by unfold isBl; rw [Nat.beq_eq]; exact e
      rw [if_pos (by rw [e]; rfl)] at st
      have fr : Fr p789 V (mset V.1 30 0 7 (nI (a + 1)), V.2) := Fr.rfl.set ⟨rfl, Or.inl rfl⟩
      obtain ⟨V', v1, v2, v3⟩ := ih (a + 1) (mset V.1 30 0 7 (nI (a + 1)), V.2) (by omega) (by omega) (ht.fr fr (by unfold p789; omega)) (by simp (disch := omega) only [mset_h])
      rw [sc_step (by omega) eb]
      exact ⟨V', st.trans v1, v2, fr.trans v3⟩
    · have eb : ¬ isBl (T a) = true := by unfold isBl; rw [Nat.beq_eq]; exact e
      rw [if_neg (show ¬ nI (T a) = 32 from fun w => e ((nI_eq (b := 32) (by omega) (by omega)).mp w))] at st
      exact ⟨V, st, by rw [sc_stop (fun w => eb w.2)]; exact h3, Fr.rfl⟩
/-- where the reference's token ends -/
def tE (T : Nat → Nat) (n s : Nat) : Nat := if srt T n s = 0 then s else if srt T n s = 1 then sc isLt T n s else if srt T n s = 2 then sc isDg T n s else s + 1
theorem srt_1 {T : Nat → Nat} {n a : Nat} : srt T n a = 1 ↔ a < n ∧ isLt (T a) = true := by
  unfold srt
  by_cases e : a < n
  · rw [if_pos e]
    by_cases b : isLt (T a) = true
    · rw [if_pos b]; exact ⟨fun _ => ⟨e, b⟩, fun _ => rfl⟩
    · rw [if_neg b]
      refine ⟨fun w => ?_, fun w => absurd w.2 b⟩
      repeat' split at w
      all_goals omega
  · rw [if_neg e]; exact ⟨fun w => by omega, fun w => absurd w.1 e⟩
theorem srt_2 {T : Nat → Nat} {n a : Nat} : srt T n a = 2 ↔ a < n ∧ isDg (T a) = true := by
  unfold srt
  by_cases e : a < n
  · rw [if_pos e]
    by_cases b : isLt (T a) = true
    · rw [if_pos b]
      refine ⟨fun w => by omega, fun w => ?_⟩
      have h1 := of_decide_eq_true b
      have h2 := of_decide_eq_true w.2
      omega
    · rw [if_neg b]
      by_cases c : isDg (T a) = true
      · rw [if_pos c]; exact ⟨fun _ => ⟨e, c⟩, fun _ => rfl⟩
      · rw [if_neg c]
        refine ⟨fun w => ?_, fun w => absurd w.2 c⟩
        split at w <;> omega
  · rw [if_neg e]; exact ⟨fun w => by omega, fun w => absurd w.1 e⟩
theorem srt_le (T : Nat → Nat) (n a : Nat) : srt T n a ≤ 4 := by
  unfold srt
  repeat' split
  all_goals omega
theorem srt_0 {T : Nat → Nat} {n a : Nat} : srt T n a = 0 ↔ ¬ a < n := by
  unfold srt
  by_cases e : a < n
  · rw [if_pos e]
    refine ⟨fun w => ?_, fun w => absurd e w⟩
    repeat' split at w
    all_goals omega
  · rw [if_neg e]; exact ⟨fun _ => e, fun _ => rfl⟩
theorem mrun {d n S : Nat} {T : Nat → Nat} {P : Nat → Bool} (hS : S < 3) (hP : ∀ a, srt T n a = S ↔ a < n ∧ P (T a) = true) (hn : n ≤ 250) (hT : ∀ k, k < n → T k < 256) : ∀ f a (V : Mem), n - a = f → a ≤ n → TPm T n V → V.1 30 0 7 = nI a → V.1 30 0 9 = nI S → ∃ V', sem (d + 2) 157 75 [some (.inr (.inr (30, 0)))] [] V = some (none, V') ∧ V'.1 30 0 7 = nI (sc P T n a) ∧ Fr (fun t _ k => t = 30 ∧ k = 7) V V' := by
  intro f
  induction f with
  | zero =>
    intro a V hf ha ht h7 h9
    have ns : ¬ srt T n a = S := fun w => by have := (hP a).mp w; omega
    have sl := srt_le T n a
    refine ⟨V, ?_, ?_, Fr.rfl⟩
    · rw [e_M_next_75, h9, if_pos (show nI S < 3 from nI_lt (b := 3) hS (by omega)), h7, c_sortAt hn hT ha ht, bind_some']
      dsimp only
      rw [h9, if_neg (fun w => ns ((nI_eq (by omega) (by omega)).mp w))]
    · rw [sc_stop (fun w => by omega)]; exact h7
  | succ f ih =>
    intro a V hf ha ht h7 h9
    have sl := srt_le T n a
    have st := e_M_next_75 (d + 2) V
    rw [h9, if_pos (show nI S < 3 from nI_lt (b := 3) hS (by omega)), h7, c_sortAt hn hT ha ht, bind_some'] at st
    dsimp only at st
    rw [h9, h7, nI_1] at st
    by_cases e : srt T n a = S
    · obtain ⟨e1, e2⟩ := (hP a).mp e
      rw [if_pos (by rw [e])] at st
      have fr : Fr (fun t _ k => t = 30 ∧ k = 7) V (mset V.1 30 0 7 (nI (a + 1)), V.2) := Fr.rfl.set ⟨rfl, rfl⟩
      obtain ⟨V', v1, v2, v3⟩ := ih (a + 1) (mset V.1 30 0 7 (nI (a + 1)), V.2) (by omega) (by omega) (ht.fr fr (by omega)) (by simp (disch := omega) only [mset_h]) (by simp (disch := omega) only [mset_n]; exact h9)
      rw [sc_step e1 e2]
      exact ⟨V', st.trans v1, v2, fr.trans v3⟩
    · rw [if_neg (fun w => e ((nI_eq (by omega) (by omega)).mp w))] at st
      exact ⟨V, st, by rw [sc_stop (fun w => e ((hP a).mpr w))]; exact h7, Fr.rfl⟩
theorem c_M_next {d n a : Nat} {T : Nat → Nat} (hn : n ≤ 250) (hT : ∀ k, k < n → T k < 256) (ha : a ≤ n) {V : Mem} (ht : TPm T n V) (h7 : V.1 30 0 7 = nI a) : ∃ V', clV (d + 3) m_M_next [.inr (.inr (30, 0))] V = some V' ∧ V'.1 30 0 8 = nI (tS T n a) ∧ V'.1 30 0 9 = nI (srt T n (tS T n a)) ∧ V'.1 30 0 7 = nI (tE T n (tS T n a)) ∧ Fr p789 V V' := by
  obtain ⟨a1, a2, a3⟩ := tS_p T ha
  obtain ⟨V1, v1, v2, v3⟩ := mskip (d := d + 2) hn hT (n - a) a V rfl ha ht h7
  have sl := srt_le T n (tS T n a)
  have t1 : TPm T n (mset V1.1 30 0 8 (nI (tS T n a)), V1.2) := ht.fr (P := p789) (v3.trans (Fr.rfl.set ⟨rfl, Or.inr (Or.inl rfl)⟩)) (by unfold p789; omega)
  have st := e_M_next_38 (d + 2) V1
  rw [v2] at st
  simp (disch := omega) only [mset_n, v2] at st
  rw [c_sortAt hn hT (Nat.le_trans a2 a3) t1, bind_some'] at st
  simp (disch := omega) only [mset_n, mset_h, v2, nI_1] at st
  have f1 : Fr p789 V (mset (mset V1.1 30 0 8 (nI (tS T n a))) 30 0 9 (nI (srt T n (tS T n a))), V1.2) := v3.trans ((Fr.rfl.set ⟨rfl, Or.inr (Or.inl rfl)⟩).set ⟨rfl, Or.inr (Or.inr rfl)⟩)
  by_cases z : srt T n (tS T n a) = 0
  · rw [if_neg (show ¬ 0 < nI (srt T n (tS T n a)) by rw [z]; decide)] at st
    refine ⟨_, clV_of (v1.trans st), ?_, ?_, ?_, f1⟩
    · simp (disch := omega) only [mset_n, mset_h]
    · simp (disch := omega) only [mset_h]
    · rw [show tE T n (tS T n a) = tS T n a from if_pos z]
      simp (disch := omega) only [mset_n]; exact v2
  · rw [if_pos (show 0 < nI (srt T n (tS T n a)) from nI_lt (a := 0) (by omega) (by omega))] at st
    have f2 : Fr p789 V (mset (mset (mset V1.1 30 0 8 (nI (tS T n a))) 30 0 9 (nI (srt T n (tS T n a)))) 30 0 7 (nI (tS T n a + 1)), V1.2) := f1.set ⟨rfl, Or.inl rfl⟩
    have t2 := ht.fr f2 (by unfold p789; omega)
    have lt : tS T n a < n := Classical.byContradiction (fun w => z (srt_0.mpr w))
    have run : ∀ (S : Nat) (P : Nat → Bool), S < 3 → (∀ a, srt T n a = S ↔ a < n ∧ P (T a) = true) → srt T n (tS T n a) = S → tE T n (tS T n a) = sc P T n (tS T n a) → ∃ V', clV (d + 3) m_M_next [.inr (.inr (30, 0))] V = some V' ∧ V'.1 30 0 8 = nI (tS T n a) ∧ V'.1 30 0 9 = nI (srt T n (tS T n a)) ∧ V'.1 30 0 7 = nI (tE T n (tS T n a)) ∧ Fr p789 V V' := fun S P hS hP hs he => by
      obtain ⟨V', u1, u2, u3⟩ := mrun (d := d) hS hP hn hT (n - (tS T n a + 1)) (tS T n a + 1) (mset (mset (mset V1.1 30 0 8 (nI (tS T n a))) 30 0 9 (nI (srt T n (tS T n a)))) 30 0 7 (nI (tS T n a + 1)), V1.2) rfl (by omega) t2 (by simp (disch := omega) only [mset_h]) (by rw [← hs]; simp (disch := omega) only [mset_n, mset_h])
      have e12 := (hP (tS T n a)).mp hs
      refine ⟨V', clV_of (v1.trans (st.trans u1)), (u3.1 30 0 8 (by omega)).trans (by simp (disch := omega) only [mset_n, mset_h]), (u3.1 30 0 9 (by omega)).trans (by simp (disch := omega) only [mset_n, mset_h]), ?_, f2.trans (u3.mono (by unfold p789; omega))⟩
      rw [he, sc_step e12.1 e12.2]
      exact u2
    by_cases s1 : srt T n (tS T n a) = 1
    · exact run 1 isLt (by omega) (fun a => srt_1) s1 (by unfold tE; rw [if_neg z, if_pos s1])
    · by_cases s2 : srt T n (tS T n a) = 2
      · exact run 2 isDg (by omega) (fun a => srt_2) s2 (by unfold tE; rw [if_neg z, if_neg s1, if_pos s2])
      · refine ⟨_, clV_of (v1.trans (st.trans ?_)), ?_, ?_, ?_, f2⟩
        · rw [e_M_next_75]
          simp (disch := omega) only [mset_n, mset_h]
          rw [if_neg (show ¬ nI (srt T n (tS T n a)) < 3 from nI_nlt (b := 3) (by omega) (by omega))]
        · simp (disch := omega) only [mset_n, mset_h]
        · simp (disch := omega) only [mset_n, mset_h]
        · rw [show tE T n (tS T n a) = tS T n a + 1 by unfold tE; rw [if_neg z, if_neg s1, if_neg s2]]
          simp (disch := omega) only [mset_h]
theorem c_M_number {d n a : Nat} (lo hi : Int32) {T : Nat → Nat} (hn : n ≤ 250) (hT : ∀ k, k < n → T k < 256) (ha : a ≤ n) {V : Mem} (ht : TPm T n V) (h7 : V.1 30 0 7 = nI a) : (nOK T n a lo hi → ∃ V', clI (d + 4) m_M_number [.inr (.inr (30, 0)), .inl lo, .inl hi] V = some (tV T n a, V') ∧ V'.1 30 0 7 = nI (tD T n a) ∧ V'.1 30 0 8 = nI (tS T n a) ∧ Fr p789 V V') ∧ (¬ nOK T n a lo hi → ∃ V', clI (d + 4) m_M_number [.inr (.inr (30, 0)), .inl lo, .inl hi] V = some (-1, V') ∧ V'.1 30 0 8 = nI (tS T n a) ∧ Fr p789 V V') := by
  obtain ⟨a1, a2, a3⟩ := tS_p T ha
  obtain ⟨V1, v1, v8, v9, v7, v4⟩ := c_M_next (d := d) hn hT ha ht h7
  have t1 := ht.fr v4 (by unfold p789; omega)
  have sl := srt_le T n (tS T n a)
  have st := e_M_number_0 (d + 3) lo hi V
  rw [v1, bind_some', v9] at st
  by_cases s2 : srt T n (tS T n a) = 2
  · have te : tE T n (tS T n a) = tD T n a := by unfold tE; rw [if_neg (by omega), if_neg (by omega), if_pos s2]
    rw [te] at v7
    have e12 := srt_2.mp s2
    have d1 : tS T n a + 1 ≤ tD T n a := by
      have : tD T n a = sc isDg T n (tS T n a + 1) := sc_step e12.1 e12.2
      have := (sc_p (P := isDg) (T := T) (n := n) (n - (tS T n a + 1)) (tS T n a + 1) rfl (by omega)).1
      omega
    rw [if_pos (by rw [s2]; rfl), v7, v8, pk_sub (by omega)] at st
    by_cases l2 : 2 < tD T n a - tS T n a
    · rw [if_pos (show 2 < nI (tD T n a - tS T n a) from nI_lt (a := 2) l2 (by omega))] at st
      exact ⟨fun ok => by have := ok.1; omega, fun _ => ⟨V1, clI_of st, v8, v4⟩⟩
    · rw [if_neg (show ¬ 2 < nI (tD T n a - tS T n a) from nI_nlt (a := 2) (by omega) (by omega))] at st
      have lp : sem (d + 3) 159 35 [some (.inr (.inr (30, 0))), some (.inl lo), some (.inl hi), some (.inl 0), some (.inl (nI (tS T n a)))] [] V1 = sem (d + 3) 159 35 [some (.inr (.inr (30, 0))), some (.inl lo), some (.inl hi), some (.inl (tV T n a)), some (.inl (nI (tS T n a + (tD T n a - tS T n a))))] [] V1 := by
        refine loopN (tD T n a - tS T n a) (fun k => sem (d + 3) 159 35 [some (.inr (.inr (30, 0))), some (.inl lo), some (.inl hi), some (.inl (vI T (tS T n a) k)), some (.inl (nI (tS T n a + k)))] [] V1) _ (fun k hk => ?_) rfl
        show sem _ _ _ _ _ _ = sem (d + 3) 159 35 [some (.inr (.inr (30, 0))), some (.inl lo), some (.inl hi), some (.inl (vI T (tS T n a) k * 10 + nI (T (tS T n a + k)) - 48)), some (.inl (nI (tS T n a + (k + 1))))] [] V1
        rw [e_M_number_35, v7, if_pos (nI_lt (by omega) (by omega)), if_neg (nI_in (N := 250) (by omega) (by omega)), nI_clamp (by omega), t1.2.1 _ (by omega), nI_1, Int32.mul_comm]
        rfl
      have ii : clI (d + 3) 128 [.inr (.inl (Int32.toInt64 (tV T n a))), .inr (.inl (Int32.toInt64 lo)), .inr (.inl (Int32.toInt64 hi))] V1 = some (bI (¬ tV T n a < lo ∧ ¬ hi < tV T n a), V1) := by
        have := c_M_isInL (d := d + 2) (Int32.toInt64 (tV T n a)) (Int32.toInt64 lo) (Int32.toInt64 hi) V1
        rw [bI_same (q := ¬ tV T n a < lo ∧ ¬ hi < tV T n a) (by rw [j_lt, j_lt])] at this
        exact this
      have e35 := e_M_number_35 (d + 3) lo hi (tV T n a) (nI (tS T n a + (tD T n a - tS T n a))) V1
      rw [v7, if_neg (nI_nlt (by omega) (by omega)), ii, bind_some'] at e35
      have fin := st.trans (lp.trans e35)
      refine ⟨fun ok => ⟨V1, clI_of (fin.trans ?_), v7, v8, v4⟩, fun nk => ⟨V1, clI_of (fin.trans ?_), v8, v4⟩⟩
      · rw [bI_t ok.2, if_neg one_ne]
      · rw [bI_f (fun w => nk ⟨⟨by omega, by omega⟩, w⟩), if_pos rfl]
  · have nd : tD T n a = tS T n a := sc_stop (fun w => s2 (srt_2.mpr w))
    rw [if_neg (show ¬ nI (srt T n (tS T n a)) = 2 from fun w => s2 ((nI_eq (b := 2) (by omega) (by omega)).mp w))] at st
    exact ⟨fun ok => by have := ok.1; omega, fun _ => ⟨V1, clI_of st, v8, v4⟩⟩
