/-! HOW MANY LINES MEET AT A POINT; crowd -/
theorem smod12 : ∀ p, p < 12 → ((nI p &&& 31).toBitVec.smod 32).toNat = p := by decide +kernel
theorem bitAt {m p : Nat} (hm : m < 2 ^ 31) (hp : p < 12) : (nI m >>> (nI p &&& 31)) &&& 1 = bI (m.testBit p = true) := by
  rw [pk_shrN hm _ p (smod12 p hp)]
  show nI (m / 2 ^ p) &&& nI 1 = _
  rw [nI_and, Nat.and_one_is_mod]
  by_cases h : m / 2 ^ p % 2 = 1
  · rw [bI_t (by rw [Nat.testBit_eq_decide_div_mod_eq, h]; rfl), h]; rfl
  · rw [bI_f (by rw [Nat.testBit_eq_decide_div_mod_eq]; simp [h]), show m / 2 ^ p % 2 = 0 by omega]; rfl
theorem por_test (a b p : Nat) : ((2 ^ a ||| 2 ^ b).testBit p = true) ↔ (a = p ∨ b = p) := by
  rw [Nat.testBit_or, Nat.testBit_two_pow, Nat.testBit_two_pow]
  simp
def cnt1 (f g : Nat → Nat) (p : Nat) : Nat → Nat
  | 0 => 0
  | n + 1 => cnt1 f g p n + (if f n = p ∨ g n = p then 1 else 0)
def cntA (K : SKY) (p : Nat) : Nat → Nat
  | 0 => 0
  | n + 1 => cntA K p n + cnt1 (kF K n) (kG K n) p (kLn K n)
theorem cnt1_le (f g : Nat → Nat) (p n : Nat) : cnt1 f g p n ≤ n := by
  induction n with
  | zero => exact Nat.le_refl _
  | succ n ih => unfold cnt1; split <;> omega
theorem cntA_le {K : SKY} (ok : okL K) (p n : Nat) (hn : n ≤ kNX K) : cntA K p n ≤ 10 * n := by
  induction n with
  | zero => exact Nat.le_refl _
  | succ n ih =>
    unfold cntA
    have := ih (by omega)
    have := cnt1_le (kF K n) (kG K n) p (kLn K n)
    have := ok.2.2 n (by omega)
    omega
theorem bI_nat (p : Prop) [Decidable p] : bI p = nI (if p then 1 else 0) := by
  by_cases h : p
  · rw [bI_t h, if_pos h]; rfl
  · rw [bI_f h, if_neg h]; rfl
theorem linesAt23 (d s x p : Nat) (hp : p < 12) {V : Mem} {K : SKY} (h : CS V s K) (ok : okL K) (hx : x < kNX K) (hb : bd12 K x) (b : Nat) : ∀ m k, k + m = kLn K x → sem (d + 1) 54 23 [some (.inr (.inr (1, s))), some (.inl (nI p)), some (.inl (nI (b + cnt1 (kF K x) (kG K x) p k))), some (.inl (nI x)), some (.inr (.inr (5, x + 6 * s))), some (.inl (nI k))] [] V = sem (d + 1) 54 4 [some (.inr (.inr (1, s))), some (.inl (nI p)), some (.inl (nI (b + cnt1 (kF K x) (kG K x) p (kLn K x)))), some (.inl (nI (x + 1))), none, none] [] V := by
  have hl := ok.2.2 x hx
  have par := h.2.2 x hx
  intro m
  induction m with
  | zero =>
    intro k hk
    obtain rfl : k = kLn K x := by omega
    rw [e_Sky_linesAt_23, par.2.2.2.1, if_neg (nI_nlt (by omega) (by omega)), nI_1]
  | succ m ih =>
    intro k hk
    obtain ⟨b1, b2⟩ := hb k (by omega)
    have lt := por_lt b1 b2
    rw [e_Sky_linesAt_23, par.2.2.2.1, if_pos (nI_lt (by omega) (by omega)), c_ends par hl (by omega) b1 b2, bind_some', bitAt (by omega) hp, bI_nat]
    simp only [por_test, nI_add, nI_1, Nat.add_assoc]
    exact ih (k + 1) (by omega)
theorem linesAt4 (d s p : Nat) (hp : p < 12) {V : Mem} {K : SKY} (h : CS V s K) (ok : okL K) (hb : ∀ x, x < kNX K → bd12 K x) : ∀ m x, x + m = kNX K → sem (d + 1) 54 4 [some (.inr (.inr (1, s))), some (.inl (nI p)), some (.inl (nI (cntA K p x))), some (.inl (nI x)), none, none] [] V = some (some (.inl (nI (cntA K p (kNX K)))), V) := by
  have hX := ok.2.1
  intro m
  induction m with
  | zero =>
    intro x hx
    obtain rfl : x = kNX K := by omega
    rw [e_Sky_linesAt_4, h.1.2.1, if_neg (nI_nlt (by omega) (by omega))]
  | succ m ih =>
    intro x hx
    rw [e_Sky_linesAt_4, h.1.2.1, if_pos (nI_lt (by omega) (by omega)), if_neg (nI_in (N := 6) (by omega) (by omega)), nI_clamp (by omega)]
    have := linesAt23 d s x p hp h ok (by omega) (hb x (by omega)) (cntA K p x) (kLn K x) 0 (by omega)
    exact this.trans (ih (x + 1) (by omega))
theorem c_linesAt {d s p : Nat} (hp : p < 12) {V : Mem} {K : SKY} (h : CS V s K) (ok : okL K) (hb : ∀ x, x < kNX K → bd12 K x) : clI (d + 2) m_Sky_linesAt [.inr (.inr (1, s)), .inl (nI p)] V = some (nI (cntA K p (kNX K)), V) :=
  clI_of ((e_Sky_linesAt_0 (d + 1) s _ V).trans (linesAt4 d s p hp h ok hb (kNX K) 0 (by omega)))
theorem meet19 (d x p : Nat) (hp : p < 12) {V : Mem} {K : SKY} (h : MS V 32 0 K) (ok : okL K) (hx : x < kNX K) (hb : bd12 K x) (b : Nat) : ∀ m k, k + m = kLn K x → sem (d + 1) 176 19 [some (.inr (.inr (30, 0))), some (.inl (nI p)), some (.inl (nI (b + cnt1 (kF K x) (kG K x) p k))), some (.inl (nI x)), some (.inl (nI k))] [] V = sem (d + 1) 176 4 [some (.inr (.inr (30, 0))), some (.inl (nI p)), some (.inl (nI (b + cnt1 (kF K x) (kG K x) p (kLn K x)))), some (.inl (nI (x + 1))), none] [] V := by
  have hl := ok.2.2 x hx
  have hX := ok.2.1
  obtain ⟨⟨m1, m2, m3⟩, m4⟩ := h.2.2 x hx
  rw [Nat.zero_add] at m3
  intro m
  induction m with
  | zero =>
    intro k hk
    obtain rfl : k = kLn K x := by omega
    rw [e_M_meet_19, c_M_lines d (by omega), bind_some', m3, if_neg (nI_nlt (by omega) (by omega)), nI_1]
  | succ m ih =>
    intro k hk
    obtain ⟨b1, b2⟩ := hb k (by omega)
    have g0 : V.1 32 0 (39 + 23 * x + 2 * k + 0) = nI (kF K x k) := by rw [← (m4 k (by omega)).1, Nat.zero_add, Nat.add_zero]
    have g1 : V.1 32 0 (39 + 23 * x + 2 * k + 1) = nI (kG K x k) := by rw [← (m4 k (by omega)).2, Nat.zero_add]
    have E0 := c_M_end d (x := x) (i := k) (e := 0) (by omega) (by omega) (by omega) V
    have E1 := c_M_end d (x := x) (i := k) (e := 1) (by omega) (by omega) (by omega) V
    rw [g0] at E0
    rw [g1] at E1
    have E0' : clI (d + 1) m_M_end [.inr (.inr (30, 0)), .inl (nI x), .inl (nI k), .inl 0] V = some (nI (kF K x k), V) := E0
    have E1' : clI (d + 1) m_M_end [.inr (.inr (30, 0)), .inl (nI x), .inl (nI k), .inl 1] V = some (nI (kG K x k), V) := E1
    have nq : ∀ {a b : Nat}, a < 12 → b < 12 → ¬ a = b → ¬ nI a = nI b := fun ha hb hab w => hab ((nI_eq (by omega) (by omega)).mp w)
    refine Eq.trans ?_ (ih (k + 1) (by omega))
    show _ = sem (d + 1) 176 19 [some (.inr (.inr (30, 0))), some (.inl (nI p)), some (.inl (nI (b + (cnt1 (kF K x) (kG K x) p k + (if kF K x k = p ∨ kG K x k = p then 1 else 0))))), some (.inl (nI x)), some (.inl (nI (k + 1)))] [] V
    rw [e_M_meet_19, c_M_lines d (by omega), bind_some', m3, if_pos (nI_lt (by omega) (by omega)), E0', bind_some', ← Nat.add_assoc]
    by_cases a1 : kF K x k = p
    · rw [if_pos (by rw [a1]), if_pos (Or.inl a1), e_M_meet_54, e_M_meet_59, nI_1, nI_1]
    · rw [if_neg (nq b1 hp a1), E1', bind_some']
      by_cases a2 : kG K x k = p
      · rw [if_pos (by rw [a2]), if_pos (Or.inr a2), e_M_meet_54, e_M_meet_59, nI_1, nI_1]
      · rw [if_neg (nq b2 hp a2), if_neg (fun w => w.elim a1 a2), e_M_meet_59, nI_1, Int32.add_zero]
        rfl
theorem meet4 (d p : Nat) (hp : p < 12) {V : Mem} {K : SKY} (h : MS V 32 0 K) (ok : okL K) (hb : ∀ x, x < kNX K → bd12 K x) : ∀ m x, x + m = kNX K → sem (d + 1) 176 4 [some (.inr (.inr (30, 0))), some (.inl (nI p)), some (.inl (nI (cntA K p x))), some (.inl (nI x)), none] [] V = some (some (.inl (nI (cntA K p (kNX K)))), V) := by
  have hX := ok.2.1
  have e5 := h.1.2.1
  rw [Nat.zero_add] at e5
  intro m
  induction m with
  | zero =>
    intro x hx
    obtain rfl : x = kNX K := by omega
    rw [e_M_meet_4, e5, if_neg (nI_nlt (by omega) (by omega))]
  | succ m ih =>
    intro x hx
    rw [e_M_meet_4, e5, if_pos (nI_lt (by omega) (by omega))]
    have := meet19 d x p hp h ok (by omega) (hb x (by omega)) (cntA K p x) (kLn K x) 0 (by omega)
    exact this.trans (ih (x + 1) (by omega))
theorem c_M_meet {d p : Nat} (hp : p < 12) {V : Mem} {K : SKY} (h : MS V 32 0 K) (ok : okL K) (hb : ∀ x, x < kNX K → bd12 K x) : clI (d + 2) m_M_meet [.inr (.inr (30, 0)), .inl (nI p)] V = some (nI (cntA K p (kNX K)), V) :=
  clI_of ((e_M_meet_0 (d + 1) _ V).trans (meet4 d p hp h ok hb (kNX K) 0 (by omega)))
theorem okK.bd {K : SKY} (ok : okK K) : ∀ x, x < kNX K → bd12 K x := fun _ hx i hi => ⟨(ok.fg hx i hi).1, (ok.fg hx i hi).2.1⟩
/-- the first point where most lines meet -/
def top (K : SKY) : Nat → Nat
  | 0 => 0
  | n + 1 => if cntA K (top K n) (kNX K) < cntA K (n + 1) (kNX K) then n + 1 else top K n
theorem top_le (K : SKY) (n : Nat) : top K n ≤ n := by
  induction n with
  | zero => exact Nat.le_refl _
  | succ n ih => unfold top; split <;> omega
theorem crowdC (d : Nat) {V : Mem} {K : SKY} (h : CS V 0 K) (ok : okK K) : ∀ m k, k + m + 1 = kNP K → sem (d + 2) 92 30 [some (.inr (.inr (0, 0))), some (.inl (nI (top K k))), some (.inl (nI (cntA K (top K k) (kNX K)))), some (.inl (nI (k + 1))), none] [] V = some (some (.inl (nI (top K (kNP K - 1)))), V) := by
  have hP := ok.1
  have hX := ok.2.1
  intro m
  induction m with
  | zero =>
    intro k hk
    rw [e_C_crowd_30, h.1.1, if_neg (nI_nlt (by omega) (by omega)), show kNP K - 1 = k by omega]
  | succ m ih =>
    intro k hk
    have l1 := cntA_le ok.toL (top K k) (kNX K) (Nat.le_refl _)
    have l2 := cntA_le ok.toL (k + 1) (kNX K) (Nat.le_refl _)
    refine Eq.trans ?_ (ih (k + 1) (by omega))
    rw [e_C_crowd_30, h.1.1, if_pos (nI_lt (by omega) (by omega)), c_linesAt (by omega) h ok.toL ok.bd, bind_some']
    by_cases e : cntA K (top K k) (kNX K) < cntA K (k + 1) (kNX K)
    · rw [if_pos (nI_lt e (by omega)), e_C_crowd_62, nI_1, show top K (k + 1) = k + 1 from if_pos e]
    · rw [if_neg (nI_nlt (by omega) (by omega)), e_C_crowd_62, nI_1, show top K (k + 1) = top K k from if_neg e]
theorem crowdM (d : Nat) {V : Mem} {K : SKY} (h : MS V 32 0 K) (ok : okK K) : ∀ m k, k + m + 1 = kNP K → sem (d + 2) 179 22 [some (.inr (.inr (30, 0))), some (.inl (nI (top K k))), some (.inl (nI (k + 1)))] [] V = some (some (.inl (nI (top K (kNP K - 1)))), V) := by
  have hP := ok.1
  have hX := ok.2.1
  have e4 := h.1.1
  rw [Nat.zero_add] at e4
  intro m
  induction m with
  | zero =>
    intro k hk
    rw [e_M_crowd_22, e4, if_neg (nI_nlt (by omega) (by omega)), show kNP K - 1 = k by omega]
  | succ m ih =>
    intro k hk
    have t := top_le K k
    have l1 := cntA_le ok.toL (top K k) (kNX K) (Nat.le_refl _)
    have l2 := cntA_le ok.toL (k + 1) (kNX K) (Nat.le_refl _)
    refine Eq.trans ?_ (ih (k + 1) (by omega))
    rw [e_M_crowd_22, e4, if_pos (nI_lt (by omega) (by omega)), c_M_meet (by omega) h ok.toL ok.bd, bind_some', c_M_meet (by omega) h ok.toL ok.bd, bind_some']
    by_cases e : cntA K (top K k) (kNX K) < cntA K (k + 1) (kNX K)
    · rw [if_pos (nI_lt e (by omega)), e_M_crowd_52, nI_1, show top K (k + 1) = k + 1 from if_pos e]
    · rw [if_neg (nI_nlt (by omega) (by omega)), e_M_crowd_52, nI_1, show top K (k + 1) = top K k from if_neg e]
theorem pm_crowd (SL : Nat) (xs : Nat → Int32) : PMI SL xs m_C_crowd m_M_crowd [] := by
  intro V h
  obtain ⟨K, k1, k2, k3, k4⟩ := h.1
  have hP := k1.1
  by_cases e : kNP K = 0
  · refine ⟨-5, CRf V 3, MRf (CRf V 3) 3, clI_of ((e_C_crowd_0 29 V).trans ?_), h.vok.crf 3, clI_of ((e_M_crowd_0 29 _).trans ?_), h.ref (by omega)⟩
    · rw [if_pos (by rw [k2.1.1, e]; rfl), c_C_ref5, bind_some']
    · have := (k3.crf 3).1.1
      rw [Nat.zero_add] at this
      rw [if_pos (by rw [this, e]; rfl), c_M_ref5, bind_some']
  · refine ⟨nI (top K (kNP K - 1)), V, V, clI_of ((e_C_crowd_0 29 V).trans ?_), h.vok, clI_of ((e_M_crowd_0 29 _).trans ?_), h⟩
    · rw [if_neg (by rw [k2.1.1]; exact nI_ne0 (by omega) (by omega)), show (Sum.inl (0 : Int32) : AV) = .inl (nI 0) from rfl, c_linesAt (by omega) k2 k1.toL k1.bd, bind_some']
      exact crowdC 27 k2 k1 (kNP K - 1) 0 (by omega)
    · have := k3.1.1
      rw [Nat.zero_add] at this
      rw [if_neg (by rw [this]; exact nI_ne0 (by omega) (by omega))]
      exact crowdM 27 k3 k1 (kNP K - 1) 0 (by omega)
