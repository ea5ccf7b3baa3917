/-! ALL LINES; SHELVES IN USE -/
def sumL (K : SKY) : Nat → Nat
  | 0 => 0
  | n + 1 => sumL K n + kLn K n
theorem allLines4 (d s : Nat) {V : Mem} {K : SKY} (h : CS V s K) (ok : okL K) : ∀ m x, x + m = kNX K → sem d 55 4 [some (.inr (.inr (1, s))), some (.inl (nI (sumL K x))), some (.inl (nI x))] [] V = some (some (.inl (nI (sumL K (kNX K)))), V) := by
  have hX := ok.2.1
  intro m
  induction m with
  | zero =>
    intro x hx
    obtain rfl : x = kNX K := by omega
    rw [e_Sky_allLines_4, h.1.2.1, if_neg (nI_nlt (by omega) (by omega))]
  | succ m ih =>
    intro x hx
    rw [e_Sky_allLines_4, h.1.2.1, if_pos (nI_lt (by omega) (by omega)), if_neg (nI_in (N := 6) (by omega) (by omega)), nI_clamp (by omega), (h.2.2 x (by omega)).2.2.2.1, nI_add, nI_1]
    exact ih (x + 1) (by omega)
theorem c_allLines {d s : Nat} {V : Mem} {K : SKY} (h : CS V s K) (ok : okL K) : clI (d + 1) m_Sky_allLines [.inr (.inr (1, s))] V = some (nI (sumL K (kNX K)), V) :=
  clI_of ((e_Sky_allLines_0 d s V).trans (allLines4 d s h ok (kNX K) 0 (by omega)))
theorem mallLines4 (d : Nat) {V : Mem} {K : SKY} (h : MS V 32 0 K) (ok : okL K) : ∀ m x, x + m = kNX K → sem (d + 1) 217 4 [some (.inr (.inr (30, 0))), some (.inl (nI (sumL K x))), some (.inl (nI x))] [] V = some (some (.inl (nI (sumL K (kNX K)))), V) := by
  have hX := ok.2.1
  have e5 := h.1.2.1
  rw [Nat.zero_add] at e5
  intro m
  induction m with
  | zero =>
    intro x hx
    obtain rfl : x = kNX K := by omega
    rw [e_M_allLines_4, e5, if_neg (nI_nlt (by omega) (by omega))]
  | succ m ih =>
    intro x hx
    have m3 := (h.2.2 x (by omega)).1.2.2
    rw [Nat.zero_add] at m3
    rw [e_M_allLines_4, e5, if_pos (nI_lt (by omega) (by omega)), c_M_lines d (by omega), bind_some', m3, nI_add, nI_1]
    exact ih (x + 1) (by omega)
theorem c_M_allLines {d : Nat} {V : Mem} {K : SKY} (h : MS V 32 0 K) (ok : okL K) : clI (d + 2) m_M_allLines [.inr (.inr (30, 0))] V = some (nI (sumL K (kNX K)), V) :=
  clI_of ((e_M_allLines_0 (d + 1) V).trans (mallLines4 d h ok (kNX K) 0 (by omega)))
