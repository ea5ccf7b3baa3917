/-! ALL LINES; SHELVES IN USE -/
def sumL (K : SKY) : Nat → Nat
  | 0 => 0
  | n + 1 => sumL K n + kLn K n
theorem allLines4 (d s : Nat) {V : Mem} {K : SKY} (h : CS V s K) (ok : okL K) : ∀ m x, x + m = kNX K → sem d 55 4 [some (.inr (.inr (1, s))), some (.inl (nI (sumL K x))), some (.inl (nI x))] [] V = some (some (.inl (nI (sumL K (kNX K)))), V) := by
  have hX := ok.2.1
  intro m
  induction m with
  | zero =>
    intro x hx
    obtain rfl : x = kNX K := by omega
    rw [e_Sky_allLines_4, h.1.2.1, if_neg (nI_nlt (by omega) (by omega))]
  | succ m ih =>
    intro x hx
    rw [e_Sky_allLines_4, h.1.2.1, if_pos (nI_lt (by omega) (by omega)), if_neg (nI_in (N := 6) (by omega) (by omega)), nI_clamp (by omega), (h.2.2 x (by omega)).2.2.2.1, nI_add, nI_1]
    exact ih (x + 1) (by omega)
theorem c_allLines {d s : Nat} {V : Mem} {K : SKY} (h : CS V s K) (ok : okL K) : clI (d + 1) m_Sky_allLines [.inr (.inr (1, s))] V = some (nI (sumL K (kNX K)), V) :=
  clI_of ((e_Sky_allLines_0 d s V).trans (allLines4 d s h ok (kNX K) 0 (by omega)))
theorem mallLines4 (d : Nat) {V : Mem} {K : SKY} (h : MS V 32 0 K) (ok : okL K) : ∀ m x, x + m = kNX K → sem (d + 1) 217 4 [some (.inr (.inr (30, 0))), some (.inl (nI (sumL K x))), some (.inl (nI x))] [] V = some (some (.inl (nI (sumL K (kNX K)))), V) := by
  have hX := ok.2.1
  have e5 := h.1.2.1
  rw [Nat.zero_add] at e5
  intro m
  induction m with
  | zero =>
    intro x hx
    obtain rfl : x = kNX K := by omega
    rw [e_M_allLines_4, e5, if_neg (nI_nlt (by omega) (by omega))]
  | succ m ih =>
    intro x hx
    have m3 := (h.2.2 x (by omega)).1.2.2
    rw [Nat.zero_add] at m3
    rw [e_M_allLines_4, e5, if_pos (nI_lt (by omega) (by omega)), c_M_lines d (by omega), bind_some', m3, nI_add, nI_1]
    exact ih (x + 1) (by omega)
theorem c_M_allLines {d : Nat} {V : Mem} {K : SKY} (h : MS V 32 0 K) (ok : okL K) : clI (d + 2) m_M_allLines [.inr (.inr (30, 0))] V = some (nI (sumL K (kNX K)), V) :=
  clI_of ((e_M_allLines_0 (d + 1) V).trans (mallLines4 d h ok (kNX K) 0 (by omega)))
def useN (f : Nat → Int32) : Nat → Nat
  | 0 => 0
  | n + 1 => useN f n + (if f n = -1 then 0 else 1)
theorem inUse4 (d : Nat) (V : Mem) : ∀ m k, k + m = 8 → sem d 118 4 [some (.inr (.inr (0, 0))), some (.inl (nI (useN (fun s => V.1 23 s 1) k))), some (.inl (nI k))] [] V = some (some (.inl (nI (useN (fun s => V.1 23 s 1) 8))), V) := by
  intro m
  induction m with
  | zero =>
    intro k hk
    obtain rfl : k = 8 := by omega
    rw [e_C_shelvesInUse_4, if_neg (show ¬ nI 8 < 8 from nI_nlt (b := 8) (by omega) (by omega))]
  | succ m ih =>
    intro k hk
    refine Eq.trans ?_ (ih (k + 1) (by omega))
    show _ = sem d 118 4 [some (.inr (.inr (0, 0))), some (.inl (nI (useN (fun s => V.1 23 s 1) k + (if V.1 23 k 1 = -1 then 0 else 1)))), some (.inl (nI (k + 1)))] [] V
    rw [e_C_shelvesInUse_4, if_pos (show nI k < 8 from nI_lt (b := 8) (by omega) (by omega)), if_neg (nI_in (N := 8) (by omega) (by omega)), nI_clamp (by omega)]
    by_cases e : V.1 23 k 1 = -1
    · rw [if_pos e, if_pos e, e_C_shelvesInUse_26, nI_1]
      rfl
    · rw [if_neg e, if_neg e, e_C_shelvesInUse_26, nI_1, nI_1]
theorem c_inUse {d : Nat} (V : Mem) : clI (d + 1) m_C_shelvesInUse [.inr (.inr (0, 0))] V = some (nI (useN (fun s => V.1 23 s 1) 8), V) :=
  clI_of ((e_C_shelvesInUse_0 d V).trans (inUse4 d V 8 0 (by omega)))
theorem minUse (d : Nat) (V : Mem) (x1 : Int32) : ∀ m k, k + m = 8 → sem d 222 159 [some (.inr (.inr (30, 0))), some (.inl x1), some (.inl (nI (useN (fun s => V.1 42 0 s) k))), some (.inl (nI k))] [] V = some (some (.inl (nI (useN (fun s => V.1 42 0 s) 8))), V) := by
  intro m
  induction m with
  | zero =>
    intro k hk
    obtain rfl : k = 8 := by omega
    rw [e_M_status_159, if_neg (show ¬ nI 8 < 8 from nI_nlt (b := 8) (by omega) (by omega))]
  | succ m ih =>
    intro k hk
    refine Eq.trans ?_ (ih (k + 1) (by omega))
    show _ = sem d 222 159 [some (.inr (.inr (30, 0))), some (.inl x1), some (.inl (nI (useN (fun s => V.1 42 0 s) k + (if V.1 42 0 k = -1 then 0 else 1)))), some (.inl (nI (k + 1)))] [] V
    rw [e_M_status_159, if_pos (show nI k < 8 from nI_lt (b := 8) (by omega) (by omega)), if_neg (nI_in (N := 8) (by omega) (by omega)), nI_clamp (by omega)]
    by_cases e : V.1 42 0 k = -1
    · rw [if_pos e, if_pos e, e_M_status_181, nI_1, Int32.add_zero]
      rfl
    · rw [if_neg e, if_neg e, e_M_status_181, nI_1, nI_1]
theorem useN_eq {f g : Nat → Int32} : ∀ n, (∀ k, k < n → f k = g k) → useN f n = useN g n := by
  intro n
  induction n with
  | zero => intro _; rfl
  | succ n ih =>
    intro h
    show useN f n + _ = useN g n + _
    rw [ih (fun k hk => h k (by omega)), h n (by omega)]
