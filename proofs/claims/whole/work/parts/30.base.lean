/-! NUMBERS: the small machine's ints as naturals -/
theorem fa_lit (n : Nat) : (OfNat.ofNat n : Int32) = nI n := rfl
theorem bind_some' {α β : Type} (a : α) (f : α → Option β) : (some a).bind f = f a := rfl
theorem rem2 {a d : Nat} (ha : a < 2 ^ 31) (h0 : 0 < d) (hd : d < 2 ^ 31) : nI a - nI (a / d) * nI d = nI (a % d) := by
  rw [← pk_div ha h0 hd]
  exact pk_rem ha h0 hd
theorem clV_of {d b : Nat} {as : List AV} {V V' : Mem} (h : sem d b 0 (padL (nLo b) (entL as)) [] V = some (none, V')) : clV (d + 1) b as V = some V' := by
  rw [clV_eq, h]; rfl
theorem clI_of {d b : Nat} {as : List AV} {V V' : Mem} {r : Int32} (h : sem d b 0 (padL (nLo b) (entL as)) [] V = some (some (.inl r), V')) : clI (d + 1) b as V = some (r, V') := by
  rw [clI_eq, h]; rfl
theorem clJ_of {d b : Nat} {as : List AV} {V V' : Mem} {r : Int64} (h : sem d b 0 (padL (nLo b) (entL as)) [] V = some (some (.inr (.inl r)), V')) : clJ (d + 1) b as V = some (r, V') := by
  rw [clJ_eq, h]; rfl
theorem c_M_lines (d : Nat) {x : Nat} (hx : x < 6) (V : Mem) : clI (d + 1) m_M_lines [.inr (.inr (30, 0)), .inl (nI x)] V = some (V.1 32 0 (38 + 23 * x), V) := by
  apply clI_of
  refine (e_M_lines_0 d (nI x) V).trans ?_
  simp (disch := omega) only [fa_lit, nI_add, pk_mul, nI_clamp, nI_ltI]
  rw [if_neg (by omega), show 36 + 23 * x + 2 = 38 + 23 * x by omega]
theorem c_M_end (d : Nat) {x i e : Nat} (hx : x < 6) (hi : i < 10) (he : e < 2) (V : Mem) : clI (d + 1) m_M_end [.inr (.inr (30, 0)), .inl (nI x), .inl (nI i), .inl (nI e)] V = some (V.1 32 0 (39 + 23 * x + 2 * i + e), V) := by
  apply clI_of
  refine (e_M_end_0 d (nI x) (nI i) (nI e) V).trans ?_
  simp (disch := omega) only [fa_lit, nI_add, pk_mul, nI_clamp, nI_ltI]
  rw [if_neg (by omega), show 36 + 23 * x + 3 + 2 * i + e = 39 + 23 * x + 2 * i + e by omega]
theorem c_M_cell (d : Nat) {p : Nat} (hp : p < 12) (V : Mem) : clI (d + 1) m_M_cell [.inr (.inr (30, 0)), .inl (nI p)] V = some (V.1 32 0 (3 * p), V) := by
  apply clI_of
  refine (e_M_cell_0 d (nI p) V).trans ?_
  simp (disch := omega) only [fa_lit, nI_add, pk_mul, nI_clamp, nI_ltI]
  rw [if_neg (by omega)]
theorem c_M_length (d : Nat) {p q a b : Nat} (hp : p < 12) (hq : q < 12) (V : Mem) (ha : V.1 32 0 (3 * p) = nI a) (hb : V.1 32 0 (3 * q) = nI b) (ha2 : a < 100) (hb2 : b < 100) : clI (d + 2) m_M_length [.inr (.inr (30, 0)), .inl (nI p), .inl (nI q)] V = some (iabs (nI (a / 10) - nI (b / 10)) + iabs (nI (a % 10) - nI (b % 10)), V) := by
  apply clI_of
  refine (e_M_length_0 (d + 1) (nI p) (nI q) V).trans ?_
  simp (disch := omega) only [c_M_cell, bind_some', ha, hb, fa_lit, pk_div, pk_rem, rem2]
