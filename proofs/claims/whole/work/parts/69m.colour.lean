/-! FEWEST COLOURS -/
def colS (K : SKY) (S n : Nat) : Prop := ∃ c : Nat → Nat, (∀ p, p < kNX K → S.testBit p = true → c p < n) ∧ ∀ p q, p < kNX K → q < kNX K → S.testBit p = true → S.testBit q = true → p ≠ q → bes K p q = true → c p ≠ c q
def ind (K : SKY) (T : Nat) : Prop := ∀ p, p < kNX K → T.testBit p = true → nearN K p &&& T = 0
theorem ind_iff {K : SKY} {T : Nat} : ind K T ↔ ∀ p q, p < kNX K → q < kNX K → T.testBit p = true → T.testBit q = true → p ≠ q → ¬ bes K p q = true := by
  constructor
  · intro h p q hp hq tp tq ne b
    have := congrArg (fun z => z.testBit q) (h p hp tp)
    have nb : Nat.beq p q = false := by rw [Bool.eq_false_iff]; intro w; rw [Nat.beq_eq] at w; exact ne w
    unfold nearN at this
    simp only [Nat.testBit_and, bm_test, Nat.zero_testBit, hq, nb, b, tq] at this
    simp at this
  · intro h p hp tp
    apply Nat.eq_of_testBit_eq
    intro q
    rw [Nat.testBit_and, Nat.zero_testBit]
    unfold nearN
    rw [bm_test]
    by_cases a : q < kNX K
    · by_cases b : T.testBit q = true
      · by_cases c : p = q
        · subst c; simp
        · have := h p q hp a tp b c
          simp [this]
      · simp [b]
    · simp [a]
def valid (K : SKY) (S T : Nat) : Prop := 1 ≤ T ∧ T ≤ S ∧ clr T S = 0 ∧ ind K T
theorem sub_bit {S T : Nat} (h : clr T S = 0) {p : Nat} (ht : T.testBit p = true) : S.testBit p = true := by
  have := congrArg (fun z => z.testBit p) h
  simp only [clr_test, ht, Nat.zero_testBit] at this
  simpa using this
theorem sub_of {S T : Nat} (h : ∀ p, T.testBit p = true → S.testBit p = true) : clr T S = 0 := by
  apply Nat.eq_of_testBit_eq
  intro p
  rw [clr_test, Nat.zero_testBit]
  by_cases a : T.testBit p = true
  · simp [a, h p a]
  · simp [a]
theorem sub_le {S T : Nat} (h : ∀ p, T.testBit p = true → S.testBit p = true) : T ≤ S := by
  have : T &&& S = T := by
    apply Nat.eq_of_testBit_eq
    intro p
    rw [Nat.testBit_and]
    by_cases a : T.testBit p = true
    · rw [a, h p a]; rfl
    · simp [a]
  rw [← this]
  exact Nat.and_le_right
theorem clr_less {S T : Nat} (h1 : 1 ≤ T) (h : clr T S = 0) : clr S T < S := by
  have le : clr S T ≤ S := sub_le (fun p w => by rw [clr_test] at w; simp at w; exact w.1)
  obtain ⟨p, hp⟩ := Nat.exists_testBit_of_ne_zero (show T ≠ 0 by omega)
  have sp := sub_bit h hp
  refine Nat.lt_of_le_of_ne le (fun w => ?_)
  have := congrArg (fun z => z.testBit p) w
  simp only [clr_test, sp, hp] at this
  exact absurd this (by simp)
theorem bit_lt {S n p : Nat} (h : S < 2 ^ n) (hp : S.testBit p = true) : p < n := Nat.lt_of_not_le (fun w => by
  rw [Nat.testBit_lt_two_pow (Nat.lt_of_lt_of_le h (Nat.pow_le_pow_right (by omega) w))] at hp
  exact absurd hp (by simp))
theorem col_zero {K : SKY} {S : Nat} (hS : S < 2 ^ kNX K) (h0 : 1 ≤ S) : ¬ colS K S 0 := by
  rintro ⟨c, h1, _⟩
  obtain ⟨p, hp⟩ := Nat.exists_testBit_of_ne_zero (show S ≠ 0 by omega)
  have := h1 p (bit_lt hS hp) hp
  omega
theorem col_up {K : SKY} {S T n : Nat} (hv : valid K S T) (h : colS K (clr S T) n) : colS K S (n + 1) := by
  obtain ⟨c, h1, h2⟩ := h
  obtain ⟨v1, v2, v3, v4⟩ := hv
  rw [ind_iff] at v4
  refine ⟨fun p => if T.testBit p = true then n else c p, fun p hp sp => ?_, fun p q hp hq sp sq ne b => ?_⟩
  · show (if T.testBit p = true then n else c p) < n + 1
    by_cases t : T.testBit p = true
    · rw [if_pos t]; omega
    · rw [if_neg t]
      have := h1 p hp (by rw [clr_test]; simp [sp, t])
      omega
  · show (if T.testBit p = true then n else c p) ≠ (if T.testBit q = true then n else c q)
    by_cases t : T.testBit p = true
    · by_cases u : T.testBit q = true
      · exact absurd b (v4 p q hp hq t u ne)
      · rw [if_pos t, if_neg u]
        have := h1 q hq (by rw [clr_test]; simp [sq, u])
        omega
    · by_cases u : T.testBit q = true
      · rw [if_neg t, if_pos u]
        have := h1 p hp (by rw [clr_test]; simp [sp, t])
        omega
      · rw [if_neg t, if_neg u]
        exact h2 p q hp hq (by rw [clr_test]; simp [sp, t]) (by rw [clr_test]; simp [sq, u]) ne b
theorem col_down {K : SKY} {S n : Nat} (hS : S < 2 ^ kNX K) (h0 : 1 ≤ S) (h : colS K S (n + 1)) : ∃ T, valid K S T ∧ colS K (clr S T) n := by
  obtain ⟨c, h1, h2⟩ := h
  by_cases z : ∃ p, S.testBit p = true ∧ c p = n
  · obtain ⟨p0, s0, c0⟩ := z
    have tb : ∀ p, (bm (kNX K) (fun p => S.testBit p && Nat.beq (c p) n)).testBit p = true ↔ p < kNX K ∧ S.testBit p = true ∧ c p = n := fun p => by
      rw [bm_test]
      simp
    have sub : ∀ p, (bm (kNX K) (fun p => S.testBit p && Nat.beq (c p) n)).testBit p = true → S.testBit p = true := fun p w => ((tb p).mp w).2.1
    refine ⟨bm (kNX K) (fun p => S.testBit p && Nat.beq (c p) n), ⟨?_, sub_le sub, sub_of sub, ?_⟩, c, fun p hp w => ?_, fun p q hp hq sp sq => ?_⟩
    · refine Nat.pos_of_ne_zero (fun w => ?_)
      have := (tb p0).mpr ⟨bit_lt hS s0, s0, c0⟩
      rw [w, Nat.zero_testBit] at this
      exact absurd this (by simp)
    · rw [ind_iff]
      intro p q hp hq tp tq ne b
      have := h2 p q hp hq (sub p tp) (sub q tq) ne b
      rw [((tb p).mp tp).2.2, ((tb q).mp tq).2.2] at this
      exact this rfl
    · rw [clr_test] at w
      simp only [Bool.and_eq_true, Bool.not_eq_true', ← Bool.not_eq_true] at w
      have a := h1 p hp w.1
      have b : c p ≠ n := fun q => w.2 ((tb p).mpr ⟨hp, w.1, q⟩)
      omega
    · rw [clr_test] at sp sq
      simp only [Bool.and_eq_true] at sp sq
      exact h2 p q hp hq sp.1 sq.1
  · obtain ⟨p0, s0⟩ := Nat.exists_testBit_of_ne_zero (show S ≠ 0 by omega)
    have sub : ∀ p, (2 ^ p0).testBit p = true → S.testBit p = true := fun p w => by
      rw [Nat.testBit_two_pow] at w
      have : p0 = p := by simpa using w
      exact this ▸ s0
    refine ⟨2 ^ p0, ⟨Nat.two_pow_pos _, sub_le sub, sub_of sub, ?_⟩, c, fun p hp w => ?_, fun p q hp hq sp sq => ?_⟩
    · rw [ind_iff]
      intro p q hp hq tp tq ne _
      rw [Nat.testBit_two_pow] at tp tq
      have e1 : p0 = p := by simpa using tp
      have e2 : p0 = q := by simpa using tq
      exact ne (e1.symm.trans e2)
    · rw [clr_test] at w
      simp only [Bool.and_eq_true] at w
      have a := h1 p hp w.1
      have b : c p ≠ n := fun q => z ⟨p, w.1, q⟩
      omega
    · rw [clr_test] at sp sq
      simp only [Bool.and_eq_true] at sp sq
      exact h2 p q hp hq sp.1 sq.1
def FP (K : SKY) (F : Nat → Nat) (S : Nat) : Prop := F S ≤ 6 ∧ (∀ T, valid K S T → F S ≤ F (clr S T) + 1) ∧ (F S = 6 ∨ ∃ T, valid K S T ∧ F S = F (clr S T) + 1)
theorem F_col {K : SKY} (hX : kNX K ≤ 6) {F : Nat → Nat} {A : Nat} (hA : A < 2 ^ kNX K) (h0 : F 0 = 0) (hF : ∀ S, 1 ≤ S → S ≤ A → FP K F S) : ∀ S, S ≤ A → ∀ n, n ≤ 6 → (F S ≤ n ↔ colS K S n) := by
  intro S
  induction S using Nat.strongRecOn with
  | _ S ih =>
    intro hS n hn
    by_cases z : S = 0
    · subst z
      refine ⟨fun _ => ⟨fun _ => 0, fun p hp w => ?_, fun p q hp hq sp => ?_⟩, fun _ => by omega⟩
      · rw [Nat.zero_testBit] at w; exact absurd w (by simp)
      · rw [Nat.zero_testBit] at sp; exact absurd sp (by simp)
    · obtain ⟨f1, f2, f3⟩ := hF S (by omega) hS
      have hS2 : S < 2 ^ kNX K := by omega
      constructor
      · intro le
        by_cases six : n = 6
        · subst six
          exact ⟨fun p => p, fun p hp _ => by show p < 6; omega, fun p q _ _ _ _ ne _ => ne⟩
        · rcases f3 with f3 | ⟨T, v, e⟩
          · omega
          · have lt := clr_less v.1 v.2.2.1
            obtain ⟨n', rfl⟩ : ∃ n', n = n' + 1 := ⟨n - 1, by omega⟩
            exact col_up v ((ih (clr S T) lt (by omega) n' (by omega)).mp (by omega))
      · intro c
        cases n with
        | zero => exact absurd c (col_zero hS2 (by omega))
        | succ n =>
          obtain ⟨T, v, c2⟩ := col_down hS2 (by omega) c
          have lt := clr_less v.1 v.2.2.1
          have := (ih (clr S T) lt (by omega) n (by omega)).mpr c2
          have := f2 T v
          omega
theorem c_noBonds {d T : Nat} {V : Mem} {K : SKY} (ok : okK K) (hT : T < 2 ^ kNX K) (h : ∀ p, p < kNX K → V.1 18 0 p = nI (nearN K p)) : ∃ b : Bool, clI (d + 1) m_Bonds_hasNoBonds [.inr (.inr (17, 0)), .inl (nI T)] V = some (bI (b = true), V) ∧ (b = true ↔ ind K T) := by
  have hX := ok.2.1
  have l2 : 2 ^ kNX K ≤ 2 ^ 6 := Nat.pow_le_pow_right (by omega) hX
  have main : ∀ m k, k + m = 6 → ∃ b : Bool, sem d 2 2 [some (.inr (.inr (17, 0))), some (.inl (nI T)), some (.inl (nI k))] [] V = some (some (.inl (bI (b = true))), V) ∧ (b = true ↔ ∀ p, k ≤ p → p < kNX K → T.testBit p = true → nearN K p &&& T = 0) := by
    intro m
    induction m with
    | zero =>
      intro k hk
      obtain rfl : k = 6 := by omega
      refine ⟨true, ?_, fun _ p h1 h2 => by omega, fun _ => rfl⟩
      rw [e_Bonds_hasNoBonds_2, if_neg (by decide)]
      rfl
    | succ m ih =>
      intro k hk
      obtain ⟨b, b1, b2⟩ := ih (k + 1) (by omega)
      have st := e_Bonds_hasNoBonds_2 d (nI T) (nI k) V
      rw [if_pos (show nI k < 6 from nI_lt (b := 6) (by omega) (by omega)), bitAt6 (by omega) (by omega), e_Bonds_hasNoBonds_29, nI_1] at st
      by_cases e : T.testBit k = true
      · have hk2 := bit_lt hT e
        have nl := near_lt ok k
        have al : nearN K k &&& T ≤ T := Nat.and_le_right
        rw [bI_t e, if_neg one_ne, if_neg (nI_in (N := 6) (by omega) (by omega)), nI_clamp (by omega), h k hk2, nI_and] at st
        by_cases a : nearN K k &&& T = 0
        · rw [if_pos (by rw [a]; rfl)] at st
          refine ⟨b, st.trans b1, b2.trans ⟨fun w p h1 h2 h3 => ?_, fun w p h1 h2 h3 => w p (by omega) h2 h3⟩⟩
          by_cases q : p = k
          · subst q; exact a
          · exact w p (by omega) h2 h3
        · rw [if_neg (nI_ne0 (by omega) (by omega))] at st
          refine ⟨false, st.trans ?_, fun w => absurd w (by simp), fun w => absurd (w k (by omega) hk2 e) a⟩
          rfl
      · rw [bI_f e, if_pos rfl] at st
        refine ⟨b, st.trans b1, b2.trans ⟨fun w p h1 h2 h3 => ?_, fun w p h1 h2 h3 => w p (by omega) h2 h3⟩⟩
        by_cases q : p = k
        · subst q; exact absurd h3 e
        · exact w p (by omega) h2 h3
  obtain ⟨b, b1, b2⟩ := main 6 0 (by omega)
  exact ⟨b, clI_of ((e_Bonds_hasNoBonds_0 d _ V).trans b1), b2.trans ⟨fun w p h1 h2 => w p (by omega) h1 h2, fun w p _ h1 h2 => w p h1 h2⟩⟩
def JC (K : SKY) (V0 : Mem) (F : Nat → Nat) (set : Nat) (W : Mem) : Prop := Fr pB V0 W ∧ (∀ p, p < kNX K → W.1 18 0 p = nI (nearN K p)) ∧ F 0 = 0 ∧ (∀ S, S < set → W.1 19 0 S = nI (F S) ∧ F S ≤ 6) ∧ ∀ S, 1 ≤ S → S < set → FP K F S
theorem FP_upd {K : SKY} {F : Nat → Nat} {S n v : Nat} (hS : S < n) (h : FP K F S) : FP K (updN F n v) S := by
  have eS : updN F n v S = F S := if_neg (by omega)
  have eT : ∀ T, valid K S T → updN F n v (clr S T) = F (clr S T) := fun T hv => if_neg (by
    have := clr_less hv.1 hv.2.2.1
    omega)
  obtain ⟨h1, h2, h3⟩ := h
  refine ⟨by rw [eS]; exact h1, fun T hv => by rw [eS, eT T hv]; exact h2 T hv, ?_⟩
  rw [eS]
  rcases h3 with h3 | ⟨T, hv, h3⟩
  · exact Or.inl h3
  · exact Or.inr ⟨T, hv, by rw [eT T hv]; exact h3⟩
theorem fcInner {d A set : Nat} {V0 W : Mem} {K : SKY} {F : Nat → Nat} (ok : okK K) (hs : 1 ≤ set) (hsA : set < 2 ^ kNX K) (h : JC K V0 F set W) : ∃ W' v, JC K V0 (updN F set v) (set + 1) W' ∧ sem (d + 1) 1 23 [some (.inr (.inr (17, 0))), some (.inr (.inr (1, 0))), some (.inl (nI A)), some (.inl (nI (set + 1))), none] [] W' = sem (d + 1) 1 39 [some (.inr (.inr (17, 0))), some (.inr (.inr (1, 0))), some (.inl (nI A)), some (.inl (nI set)), some (.inl 1)] [] (mset W.1 19 0 set 6, W.2) := by
  have hX := ok.2.1
  have l2 : 2 ^ kNX K ≤ 2 ^ 6 := Nat.pow_le_pow_right (by omega) hX
  obtain ⟨h1, h2, h3, h4, h5⟩ := h
  obtain ⟨W', ⟨w1, w2, w3, v, w4, w5, w6, w7⟩, w8⟩ := loopI set (fun k U => Fr pB V0 U ∧ (∀ p, p < kNX K → U.1 18 0 p = nI (nearN K p)) ∧ (∀ S, S < set → U.1 19 0 S = nI (F S)) ∧ ∃ v, U.1 19 0 set = nI v ∧ v ≤ 6 ∧ (∀ T, T ≤ k → valid K set T → v ≤ F (clr set T) + 1) ∧ (v = 6 ∨ ∃ T, valid K set T ∧ v = F (clr set T) + 1)) (fun k U => sem (d + 1) 1 39 [some (.inr (.inr (17, 0))), some (.inr (.inr (1, 0))), some (.inl (nI A)), some (.inl (nI set)), some (.inl (nI (k + 1)))] [] U) (fun k U hk hU => by
    obtain ⟨u1, u2, u3, v, u4, u5, u6, u7⟩ := hU
    have cl1 : clr (k + 1) set < 2 ^ kNX K := clr_lt (by omega)
    have st := e_Bonds_fewestColours_39 (d + 1) 0 (nI A) (nI set) (nI (k + 1)) U
    rw [if_neg (nI_nlt (by omega) (by omega)), nI_clr, nI_clr] at st
    have skip : ¬ valid K set (k + 1) → ∃ v, U.1 19 0 set = nI v ∧ v ≤ 6 ∧ (∀ T, T ≤ k + 1 → valid K set T → v ≤ F (clr set T) + 1) ∧ (v = 6 ∨ ∃ T, valid K set T ∧ v = F (clr set T) + 1) := fun nv => ⟨v, u4, u5, fun T hT hv => by
      by_cases e : T = k + 1
      · subst e; exact absurd hv nv
      · exact u6 T (by omega) hv, u7⟩
    by_cases a : clr (k + 1) set = 0
    · obtain ⟨b, b1, b2⟩ := c_noBonds (d := d) ok (show k + 1 < 2 ^ kNX K by omega) u2
      rw [if_pos (by rw [a]; rfl), b1, bind_some'] at st
      by_cases e : b = true
      · have hv : valid K set (k + 1) := ⟨by omega, by omega, a, b2.mp e⟩
        have lt := clr_less hv.1 hv.2.2.1
        have f6 := (h4 (clr set (k + 1)) lt).2
        rw [bI_t e, if_neg one_ne, if_neg (nI_in (N := 64) (by omega) (by omega)), if_neg (nI_in (N := 64) (by omega) (by omega)), if_neg (nI_in (N := 64) (by omega) (by omega)), nI_clamp (by omega), nI_clamp (by omega), u4, u3 _ lt, nI_1, imin_nat (by omega) (by omega), e_Bonds_fewestColours_91, nI_1] at st
        refine ⟨_, ⟨u1.set (Or.inr rfl), fun p hp => ?_, fun S hS => ?_, min v (F (clr set (k + 1)) + 1), ?_, by omega, fun T hT hv2 => ?_, ?_⟩, st⟩
        · simp (disch := omega) only [mset_n]; exact u2 p hp
        · simp (disch := omega) only [mset_n]; exact u3 S hS
        · simp (disch := omega) only [mset_h]
        · by_cases q : T = k + 1
          · subst q; omega
          · have := u6 T (by omega) hv2
            omega
        · by_cases q : v ≤ F (clr set (k + 1)) + 1
          · rw [show min v (F (clr set (k + 1)) + 1) = v by omega]; exact u7
          · exact Or.inr ⟨k + 1, hv, by omega⟩
      · rw [bI_f e, if_pos rfl, e_Bonds_fewestColours_91, nI_1] at st
        exact ⟨U, ⟨u1, u2, u3, skip (fun hv => e (b2.mpr hv.2.2.2))⟩, st⟩
    · rw [if_neg (nI_ne0 (by omega) (by omega)), e_Bonds_fewestColours_91, nI_1] at st
      exact ⟨U, ⟨u1, u2, u3, skip (fun hv => a hv.2.2.1)⟩, st⟩) (mset W.1 19 0 set 6, W.2) ⟨h1.set (Or.inr rfl), fun p hp => by simp (disch := omega) only [mset_n]; exact h2 p hp, fun S hS => by simp (disch := omega) only [mset_n]; exact (h4 S hS).1, 6, by simp (disch := omega) only [mset_h]; rfl, by omega, fun T hT hv => by have := hv.1; omega, Or.inl rfl⟩
  have eS : ∀ S, S < set → updN F set v S = F S := fun S hS => if_neg (by omega)
  have ev : updN F set v set = v := if_pos rfl
  refine ⟨W', v, ⟨w1, w2, (eS 0 (by omega)).trans h3, fun S hS => ?_, fun S hS1 hS2 => ?_⟩, ?_⟩
  · by_cases e : S = set
    · subst e; rw [ev]; exact ⟨w4, w5⟩
    · rw [eS S (by omega)]; exact ⟨w3 S (by omega), (h4 S (by omega)).2⟩
  · by_cases e : S = set
    · subst e
      have eT : ∀ T, valid K S T → updN F S v (clr S T) = F (clr S T) := fun T hv => eS _ (clr_less hv.1 hv.2.2.1)
      refine ⟨by rw [ev]; exact w5, fun T hv => by rw [ev, eT T hv]; exact w6 T hv.2.1 hv, ?_⟩
      rw [ev]
      rcases w7 with w7 | ⟨T, hv, w7⟩
      · exact Or.inl w7
      · exact Or.inr ⟨T, hv, by rw [eT T hv]; exact w7⟩
    · exact FP_upd (by omega) (h5 S hS1 (by omega))
  · refine Eq.symm (Eq.trans w8 ?_)
    show sem _ _ _ _ _ _ = _
    rw [e_Bonds_fewestColours_39, if_pos (nI_lt (by omega) (by omega)), nI_1]
theorem all_bits (n p : Nat) : (2 ^ n - 1).testBit p = decide (p < n) := Nat.testBit_two_pow_sub_one n p
theorem c_fewest {d : Nat} {V : Mem} {K : SKY} (h : CS V 0 K) (ok : okK K) : ∃ V' R, clI (d + 3) m_Bonds_fewestColours [.inr (.inr (17, 0)), .inr (.inr (1, 0))] V = some (nI R, V') ∧ R ≤ 6 ∧ (∀ n, n ≤ 6 → (R ≤ n ↔ colS K (2 ^ kNX K - 1) n)) ∧ Fr pB V V' := by
  have hX := ok.2.1
  have l2 : 2 ^ kNX K ≤ 2 ^ 6 := Nat.pow_le_pow_right (by omega) hX
  have l0 := Nat.two_pow_pos (kNX K)
  obtain ⟨V1, v1, v2, v3⟩ := c_bfind (d := d + 1) h ok
  have cs : CS V1 0 K := h.fr ok v3 (by unfold pB; omega)
  obtain ⟨V2, ⟨F, f1, f2, f3, f4, f5⟩, v5⟩ := loopI (2 ^ kNX K - 1) (fun k W => ∃ F, JC K V F (k + 1) W) (fun k W => sem (d + 2) 1 23 [some (.inr (.inr (17, 0))), some (.inr (.inr (1, 0))), some (.inl (nI (2 ^ kNX K - 1))), some (.inl (nI (k + 1))), none] [] W) (fun k W hk hW => by
    obtain ⟨F, hF⟩ := hW
    obtain ⟨W', v, j1, j2⟩ := fcInner (d := d + 1) (A := 2 ^ kNX K - 1) ok (show 1 ≤ k + 1 by omega) (by omega) hF
    refine ⟨W', ⟨_, j1⟩, ?_⟩
    have st := e_Bonds_fewestColours_23 (d + 2) 0 (nI (2 ^ kNX K - 1)) (nI (k + 1)) W
    rw [if_neg (nI_nlt (by omega) (by omega)), if_neg (nI_in (N := 64) (by omega) (by omega)), nI_clamp (by omega)] at st
    exact st.trans j2.symm) (mset V1.1 19 0 0 0, V1.2) ⟨fun _ => 0, v3.set (Or.inr rfl), fun p hp => by simp (disch := omega) only [mset_n]; exact v2 p hp, rfl, fun S hS => by
      obtain rfl : S = 0 := by omega
      exact ⟨by simp (disch := omega) only [mset_h]; rfl, Nat.zero_le _⟩, fun S h1 h2 => by omega⟩
  have fc := F_col hX (A := 2 ^ kNX K - 1) (by omega) f3 (fun S h1 h2 => f5 S h1 (by omega)) (2 ^ kNX K - 1) (Nat.le_refl _)
  obtain ⟨g1, g2⟩ := f4 (2 ^ kNX K - 1) (by omega)
  refine ⟨V2, F (2 ^ kNX K - 1), clI_of ((e_Bonds_fewestColours_0 (d + 2) 0 V).trans ?_), g2, fc, f1⟩
  rw [v1, bind_some', cs.1.2.1, shl12 (by omega), show (1 : Int32) = nI 1 from rfl, pk_sub (by omega)]
  refine Eq.trans v5 ?_
  show sem _ _ _ _ _ _ = _
  rw [e_Bonds_fewestColours_23, if_pos (nI_lt (by omega) (by omega)), if_neg (nI_in (N := 64) (by omega) (by omega)), nI_clamp (by omega), g1]
/-! the reference: trying colours -/
abbrev p41 (t _i _k : Nat) : Prop := t = 41
def ext (K : SKY) (x n : Nat) (col : Nat → Nat) : Prop := ∃ c : Nat → Nat, (∀ y, y < x → c y = col y) ∧ ∀ z, x ≤ z → z < kNX K → c z < n ∧ ∀ y, y < z → c y = c z → ¬ bes K z y = true
def mayC (K : SKY) (x c : Nat) (col : Nat → Nat) : Nat → Bool
  | 0 => true
  | k + 1 => mayC K x c col k && !(Nat.beq (col k) c && bes K x k)
theorem mayC_iff {K : SKY} {x c : Nat} {col : Nat → Nat} : ∀ n, mayC K x c col n = true ↔ ∀ y, y < n → col y = c → ¬ bes K x y = true := by
  intro n
  induction n with
  | zero => exact ⟨fun _ y hy => by omega, fun _ => rfl⟩
  | succ n ih =>
    unfold mayC
    rw [Bool.and_eq_true, ih]
    constructor
    · rintro ⟨h1, h2⟩ y hy e b
      by_cases w : y = n
      · subst w
        have : Nat.beq (col y) c = true := Nat.beq_eq ▸ e
        rw [this, b] at h2
        exact absurd h2 (by simp)
      · exact h1 y (by omega) e b
    · intro h
      refine ⟨fun y hy => h y (by omega), ?_⟩
      by_cases e : col n = c
      · have := h n (by omega) e
        simp [this]
      · have : Nat.beq (col n) c = false := by rw [Bool.eq_false_iff]; intro w; rw [Nat.beq_eq] at w; exact e w
        simp [this]
theorem ext_step {K : SKY} {x n : Nat} {col : Nat → Nat} (hx : x < kNX K) : ext K x n col ↔ ∃ c, c < n ∧ mayC K x c col x = true ∧ ext K (x + 1) n (updN col x c) := by
  constructor
  · rintro ⟨f, h1, h2⟩
    obtain ⟨a1, a2⟩ := h2 x (Nat.le_refl _) hx
    refine ⟨f x, a1, (mayC_iff x).mpr (fun y hy e => a2 y hy (by rw [h1 y hy]; exact e)), f, fun y hy => ?_, fun z hz hz2 => h2 z (by omega) hz2⟩
    unfold updN
    by_cases e : y = x
    · rw [if_pos e, e]
    · rw [if_neg e]; exact h1 y (by omega)
  · rintro ⟨c, hc, hm, f, h1, h2⟩
    have fx : f x = c := by have := h1 x (by omega); unfold updN at this; rwa [if_pos rfl] at this
    have fy : ∀ y, y < x → f y = col y := fun y hy => by have := h1 y (by omega); unfold updN at this; rwa [if_neg (by omega)] at this
    refine ⟨f, fy, fun z hz hz2 => ?_⟩
    by_cases e : z = x
    · subst e
      refine ⟨by omega, fun y hy w => (mayC_iff z).mp hm y hy (by rw [← fy y hy, w, fx])⟩
    · exact h2 z (by omega) hz2
theorem c_M_canColour {d n : Nat} {K : SKY} (ok : okK K) (hn : n ≤ 6) : ∀ m x (col : Nat → Nat) (V : Mem), x + m = kNX K → MS V 32 0 K → (∀ y, y < x → V.1 41 0 y = nI (col y) ∧ col y < 6) → ∃ (V' : Mem) (b : Bool), clI (d + 5 + m) m_M_canColour [.inr (.inr (30, 0)), .inl (nI x), .inl (nI n)] V = some (bI (b = true), V') ∧ (b = true ↔ ext K x n col) ∧ Fr p41 V V' ∧ ∀ y, y < x → V'.1 41 0 y = V.1 41 0 y := by
  have hX := ok.2.1
  intro m
  induction m with
  | zero =>
    intro x col V hx h hc
    refine ⟨V, true, clI_of ((e_M_canColour_0 (d + 4) _ _ V).trans ?_), ⟨fun _ => ⟨col, fun _ _ => rfl, fun z h1 h2 => by omega⟩, fun _ => rfl⟩, Fr.rfl, fun _ _ => rfl⟩
    rw [h.nx, if_pos (by rw [show x = kNX K by omega])]
    rfl
  | succ m ih =>
    intro x col V hx h hc
    have key : ∀ r c (W : Mem), c + r = n → Fr p41 V W → (∀ y, y < x → W.1 41 0 y = V.1 41 0 y) → ∃ (W' : Mem) (b : Bool), sem (d + 5 + m) 195 16 [some (.inr (.inr (30, 0))), some (.inl (nI x)), some (.inl (nI n)), some (.inl (nI c)), none, none] [] W = some (some (.inl (bI (b = true))), W') ∧ (b = true ↔ ∃ c', c ≤ c' ∧ c' < n ∧ mayC K x c' col x = true ∧ ext K (x + 1) n (updN col x c')) ∧ Fr p41 V W' ∧ ∀ y, y < x → W'.1 41 0 y = V.1 41 0 y := by
      intro r
      induction r with
      | zero =>
        intro c W hr hW hy
        refine ⟨W, false, ?_, ⟨fun w => absurd w (by simp), fun ⟨c', h1, h2, _⟩ => by omega⟩, hW, hy⟩
        rw [e_M_canColour_16, if_neg (nI_nlt (by omega) (by omega))]
        rfl
      | succ r ihr =>
        intro c W hr hW hy
        have mw : MS W 32 0 K := h.fr hW (by unfold p41; omega)
        have inner : sem (d + 5 + m) 195 27 [some (.inr (.inr (30, 0))), some (.inl (nI x)), some (.inl (nI n)), some (.inl (nI c)), some (.inl 1), some (.inl 0)] [] W = sem (d + 5 + m) 195 27 [some (.inr (.inr (30, 0))), some (.inl (nI x)), some (.inl (nI n)), some (.inl (nI c)), some (.inl (bI (mayC K x c col x = true))), some (.inl (nI x))] [] W := by
          refine loopN x (fun k => sem (d + 5 + m) 195 27 [some (.inr (.inr (30, 0))), some (.inl (nI x)), some (.inl (nI n)), some (.inl (nI c)), some (.inl (bI (mayC K x c col k = true))), some (.inl (nI k))] [] W) _ (fun k hk => ?_) rfl
          show sem _ _ _ _ _ _ = sem (d + 5 + m) 195 27 [some (.inr (.inr (30, 0))), some (.inl (nI x)), some (.inl (nI n)), some (.inl (nI c)), some (.inl (bI ((mayC K x c col k && !(Nat.beq (col k) c && bes K x k)) = true))), some (.inl (nI (k + 1)))] [] W
          have wk : W.1 41 0 k = nI (col k) := (hy k hk).trans (hc k hk).1
          have ck := (hc k hk).2
          have st := e_M_canColour_27 (d + 5 + m) (nI x) (nI n) (nI c) (bI (mayC K x c col k = true)) (nI k) W
          rw [if_pos (nI_lt hk (by omega)), if_neg (nI_in (N := 6) (by omega) (by omega)), nI_clamp (by omega), wk] at st
          have cI : (nI (col k) = nI c) ↔ col k = c := nI_eq (by omega) (by omega)
          have IB : clI (d + 5 + m) 194 [.inr (.inr (30, 0)), .inl (nI x), .inl (nI k)] W = some (bI (bes K x k = true), W) := by
            have := c_M_isBeside (d := d + 1 + m) mw ok (show x < kNX K by omega) (show k < kNX K by omega)
            rw [show d + 1 + m + 4 = d + 5 + m by omega] at this
            exact this
          rw [st]
          by_cases a : mayC K x c col k = true
          · rw [a, bI_t rfl, if_neg one_ne]
            by_cases e : col k = c
            · rw [if_pos (cI.mpr e), IB, bind_some', show Nat.beq (col k) c = true from Nat.beq_eq ▸ e]
              by_cases b : bes K x k = true
              · rw [bI_t b, if_neg one_ne, e_M_canColour_63, e_M_canColour_64, nI_1, b, bI_f (by simp)]
              · rw [bI_f b, if_pos rfl, e_M_canColour_59, e_M_canColour_64, nI_1, (show bes K x k = false by simpa using b), bI_t (by simp)]
            · rw [if_neg (fun w => e (cI.mp w)), e_M_canColour_59, e_M_canColour_64, nI_1, show Nat.beq (col k) c = false by rw [Bool.eq_false_iff]; intro w; rw [Nat.beq_eq] at w; exact e w, bI_t (by simp)]
          · rw [bI_f a, if_pos rfl, e_M_canColour_63, e_M_canColour_64, nI_1, (show mayC K x c col k = false by simpa using a), bI_f (by simp)]
        have st := e_M_canColour_27 (d + 5 + m) (nI x) (nI n) (nI c) (bI (mayC K x c col x = true)) (nI x) W
        rw [if_neg (nI_nlt (Nat.le_refl _) (by omega)), if_neg (nI_in (N := 6) (by omega) (by omega)), nI_clamp (by omega)] at st
        have hW1 : Fr p41 V (mset W.1 41 0 x (nI c), W.2) := hW.set rfl
        have hy1 : ∀ y, y < x → (mset W.1 41 0 x (nI c)) 41 0 y = V.1 41 0 y := fun y h1 => by
          rw [mset_n (by omega)]; exact hy y h1
        have go : sem (d + 5 + m) 195 16 [some (.inr (.inr (30, 0))), some (.inl (nI x)), some (.inl (nI n)), some (.inl (nI c)), none, none] [] W = sem (d + 5 + m) 195 27 [some (.inr (.inr (30, 0))), some (.inl (nI x)), some (.inl (nI n)), some (.inl (nI c)), some (.inl (bI (mayC K x c col x = true))), some (.inl (nI x))] [] W := by
          rw [e_M_canColour_16, if_pos (nI_lt (by omega) (by omega)), inner]
        by_cases a : mayC K x c col x = true
        · rw [bI_t a, if_neg one_ne] at st
          obtain ⟨W2, b, b1, b2, b3, b4⟩ := ih (x + 1) (updN col x c) (mset W.1 41 0 x (nI c), W.2) (by omega) (h.fr hW1 (by unfold p41; omega)) (fun y hy2 => by
            unfold updN
            by_cases e : y = x
            · subst e; rw [if_pos rfl]
              exact ⟨by simp (disch := omega) only [mset_h], by omega⟩
            · rw [if_neg e]
              exact ⟨(hy1 y (by omega)).trans (hc y (by omega)).1, (hc y (by omega)).2⟩)
          have b1' : clI (d + 5 + m) 195 [.inr (.inr (30, 0)), .inl (nI x + 1), .inl (nI n)] (mset W.1 41 0 x (nI c), W.2) = some (bI (b = true), W2) := by rw [nI_1]; exact b1
          rw [b1', bind_some'] at st
          have hy2 : ∀ y, y < x → W2.1 41 0 y = V.1 41 0 y := fun y h1 => (b4 y (by omega)).trans (hy1 y h1)
          by_cases e : b = true
          · rw [bI_t e, if_neg one_ne] at st
            refine ⟨W2, true, go.trans ?_, ⟨fun _ => ⟨c, Nat.le_refl _, by omega, a, b2.mp e⟩, fun _ => rfl⟩, hW1.trans b3, hy2⟩
            rw [bI_t a]
            exact st
          · rw [bI_f e, if_pos rfl, e_M_canColour_97, nI_1] at st
            obtain ⟨W3, b', c1, c2, c3, c4⟩ := ihr (c + 1) W2 (by omega) (hW1.trans b3) hy2
            refine ⟨W3, b', go.trans ?_, c2.trans ⟨fun ⟨c', q1, q2⟩ => ⟨c', by omega, q2⟩, fun ⟨c', q1, q2, q3, q4⟩ => ?_⟩, c3, c4⟩
            · rw [bI_t a]
              exact st.trans c1
            · by_cases w : c' = c
              · subst w; exact absurd (b2.mpr q4) e
              · exact ⟨c', by omega, q2, q3, q4⟩
        · rw [bI_f a, if_pos rfl, e_M_canColour_97, nI_1] at st
          obtain ⟨W3, b', c1, c2, c3, c4⟩ := ihr (c + 1) (mset W.1 41 0 x (nI c), W.2) (by omega) hW1 hy1
          refine ⟨W3, b', go.trans ?_, c2.trans ⟨fun ⟨c', q1, q2⟩ => ⟨c', by omega, q2⟩, fun ⟨c', q1, q2, q3, q4⟩ => ?_⟩, c3, c4⟩
          · rw [bI_f a]
            exact st.trans c1
          · by_cases w : c' = c
            · subst w; exact absurd q3 a
            · exact ⟨c', by omega, q2, q3, q4⟩
    obtain ⟨W', b, b1, b2, b3, b4⟩ := key n 0 V (by omega) Fr.rfl (fun _ _ => rfl)
    refine ⟨W', b, clI_of ((e_M_canColour_0 (d + 5 + m) _ _ V).trans ?_), b2.trans ?_, b3, b4⟩
    · rw [h.nx, if_neg (fun w => by have := (nI_eq (by omega) (by omega)).mp w; omega)]
      exact b1
    · rw [ext_step (by omega)]
      exact ⟨fun ⟨c', _, q⟩ => ⟨c', q⟩, fun ⟨c', q⟩ => ⟨c', Nat.zero_le _, q⟩⟩
theorem ext_col {K : SKY} {n : Nat} {col : Nat → Nat} : ext K 0 n col ↔ colS K (2 ^ kNX K - 1) n := by
  constructor
  · rintro ⟨c, _, h⟩
    refine ⟨c, fun p hp _ => (h p (by omega) hp).1, fun p q hp hq _ _ ne b w => ?_⟩
    by_cases e : p < q
    · exact (h q (by omega) hq).2 p e w (by rw [bes_comm]; exact b)
    · exact (h p (by omega) hp).2 q (by omega) w.symm b
  · rintro ⟨c, h1, h2⟩
    refine ⟨c, fun y hy => by omega, fun z _ hz => ⟨h1 z hz (by rw [all_bits]; simp [hz]), fun y hy w b => ?_⟩⟩
    exact h2 z y hz (by omega) (by rw [all_bits]; simp [hz]) (by rw [all_bits]; simp; omega) (by omega) b w.symm
theorem pm_colours (SL : Nat) (xs : Nat → Int32) : PMI SL xs m_C_colours m_M_colours [] := by
  intro V h
  obtain ⟨K, k1, k2, k3, k4⟩ := h.1
  have hX := k1.2.1
  obtain ⟨V1, R, v1, v2, v3, v4⟩ := c_fewest (d := 26) k2 k1
  have m1 : MS V1 32 0 K := k3.fr v4 (by unfold pB; omega)
  have main : ∀ m n (W : Mem), n + m = R → Fr p41 V1 W → ∃ W', sem 29 196 2 [some (.inr (.inr (30, 0))), some (.inl (nI n))] [] W = some (some (.inl (nI R)), W') ∧ Fr p41 V1 W' := by
    intro m
    induction m with
    | zero =>
      intro n W hn hW
      obtain rfl : n = R := by omega
      obtain ⟨W', b, b1, b2, b3, _⟩ := c_M_canColour (d := 24 - kNX K) k1 v2 (kNX K) 0 (fun _ => 0) W (by omega) (m1.fr hW (by unfold p41; omega)) (fun y hy => by omega)
      rw [show 24 - kNX K + 5 + kNX K = 29 by omega] at b1
      have bt : b = true := b2.mpr (ext_col.mpr ((v3 n v2).mp (Nat.le_refl _)))
      refine ⟨W', ?_, hW.trans b3⟩
      have b1' : clI 29 195 [.inr (.inr (30, 0)), .inl 0, .inl (nI n)] W = some (bI (b = true), W') := b1
      rw [e_M_colours_2, b1', bind_some', bI_t bt, if_neg one_ne]
    | succ m ih =>
      intro n W hn hW
      obtain ⟨W', b, b1, b2, b3, _⟩ := c_M_canColour (d := 24 - kNX K) k1 (show n ≤ 6 by omega) (kNX K) 0 (fun _ => 0) W (by omega) (m1.fr hW (by unfold p41; omega)) (fun y hy => by omega)
      rw [show 24 - kNX K + 5 + kNX K = 29 by omega] at b1
      have bt : ¬ b = true := fun w => by
        have := (v3 n (by omega)).mpr (ext_col.mp (b2.mp w))
        omega
      obtain ⟨W2, c1, c2⟩ := ih (n + 1) W' (by omega) (hW.trans b3)
      refine ⟨W2, ?_, c2⟩
      have b1' : clI 29 195 [.inr (.inr (30, 0)), .inl 0, .inl (nI n)] W = some (bI (b = true), W') := b1
      rw [e_M_colours_2, b1', bind_some', bI_f bt, if_pos rfl, nI_1]
      exact c1
  obtain ⟨V2, u1, u2⟩ := main R 0 V1 (by omega) Fr.rfl
  refine PM_cor h (V1 := V1) (V2 := V2) (r := nI R) (clI_of ((e_C_colours_0 29 V).trans ?_)) (v4.cor (by unfold pB core; omega)) (clI_of ((e_M_colours_0 29 _).trans u1)) (u2.cor (by unfold p41 core; omega))
  rw [v1, bind_some']
