/-! LEAVES: the small methods that tell whether a number is in its range -/
def bI (p : Prop) [Decidable p] : Int32 := if p then 1 else 0
theorem bI_t {p : Prop} [Decidable p] (h : p) : bI p = 1 := if_pos h
theorem bI_f {p : Prop} [Decidable p] (h : ¬ p) : bI p = 0 := if_neg h
theorem bI_01 (p : Prop) [Decidable p] : bI p = 0 ∨ bI p = 1 := by unfold bI; split <;> simp
abbrev inR (n : Nat) (x : Int32) : Prop := ¬ x < 0 ∧ x < nI n
theorem one_ne : ¬ (1 : Int32) = 0 := by decide
theorem lt_toInt {x y : Int32} : x < y ↔ x.toInt < y.toInt := Int32.lt_iff_toInt_lt
theorem le_toInt {x y : Int32} : x ≤ y ↔ x.toInt ≤ y.toInt := Int32.le_iff_toInt_le
theorem c_C_isShelf {d : Nat} (x : Int32) (V : Mem) : clI (d + 1) m_C_isShelf [.inr (.inr (0, 0)), .inl x] V = some (bI (inR 8 x), V) := by
  apply clI_of
  refine (e_C_isShelf_0 d x V).trans ?_
  by_cases h1 : x < 0
  · rw [if_pos h1, bI_f (fun h => h.1 h1)]
  · rw [if_neg h1]
    by_cases h2 : x < 8
    · rw [if_pos h2, bI_t ⟨h1, h2⟩]
    · rw [if_neg h2, bI_f (fun h => h2 h.2)]
theorem c_C_isPoint {d : Nat} (x : Int32) (V : Mem) : clI (d + 1) m_C_isPoint [.inr (.inr (0, 0)), .inl x] V = some (bI (¬ x < 0 ∧ x < V.1 1 0 3), V) := by
  apply clI_of
  refine (e_C_isPoint_0 d x V).trans ?_
  by_cases h1 : x < 0
  · rw [if_pos h1, bI_f (fun h => h.1 h1)]
  · rw [if_neg h1]
    by_cases h2 : x < V.1 1 0 3
    · rw [if_pos h2, bI_t ⟨h1, h2⟩]
    · rw [if_neg h2, bI_f (fun h => h2 h.2)]
theorem c_C_isParish {d : Nat} (x : Int32) (V : Mem) : clI (d + 1) m_C_isParish [.inr (.inr (0, 0)), .inl x] V = some (bI (¬ x < 0 ∧ x < V.1 1 0 4), V) := by
  apply clI_of
  refine (e_C_isParish_0 d x V).trans ?_
  by_cases h1 : x < 0
  · rw [if_pos h1, bI_f (fun h => h.1 h1)]
  · rw [if_neg h1]
    by_cases h2 : x < V.1 1 0 4
    · rw [if_pos h2, bI_t ⟨h1, h2⟩]
    · rw [if_neg h2, bI_f (fun h => h2 h.2)]
theorem c_M_isInL {d : Nat} (x lo hi : Int64) (V : Mem) : clI (d + 1) m_M_isIn [.inr (.inl x), .inr (.inl lo), .inr (.inl hi)] V = some (bI (¬ x < lo ∧ ¬ hi < x), V) := by
  apply clI_of
  refine (e_M_isIn_0 d x lo hi V).trans ?_
  simp only [lg_cmp_lt, lg_cmp_gt]
  by_cases h1 : x < lo
  · rw [if_pos h1, bI_f (fun h => h.1 h1)]
  · rw [if_neg h1]
    by_cases h2 : hi < x
    · rw [if_pos h2, bI_f (fun h => h.2 h2)]
    · rw [if_neg h2, bI_t ⟨h1, h2⟩]
theorem j_lt (x y : Int32) : (x.toInt64 < y.toInt64) ↔ x < y := by
  rw [Int64.lt_iff_toInt_lt, Int32.lt_iff_toInt_lt, Int32.toInt_toInt64, Int32.toInt_toInt64]
theorem bI_same {p q : Prop} [Decidable p] [Decidable q] (h : p ↔ q) : bI p = bI q := by unfold bI; simp only [h]
theorem c_in0 {d n : Nat} (hn : n < 2 ^ 31) (x : Int32) {hi : Int64} (hh : hi.toInt = (n : Int) - 1) (V : Mem) : clI (d + 1) m_M_isIn [.inr (.inl x.toInt64), .inr (.inl 0), .inr (.inl hi)] V = some (bI (inR n x), V) := by
  have e0 : (0 : Int64).toInt = 0 := by decide
  have e1 : (0 : Int32).toInt = 0 := by decide
  have e : (¬ x.toInt64 < 0 ∧ ¬ hi < x.toInt64) ↔ inR n x := by
    unfold inR
    rw [Int64.lt_iff_toInt_lt, Int64.lt_iff_toInt_lt, Int32.toInt_toInt64, e0, hh, lt_toInt, lt_toInt, nI_toInt hn, e1]
    omega
  rw [c_M_isInL, bI_same e]
theorem c_in0p {d n : Nat} (hn : n < 2 ^ 31) (x : Int32) {y : Int32} (hy : y = nI n) (V : Mem) : clI (d + 1) m_M_isIn [.inr (.inl x.toInt64), .inr (.inl 0), .inr (.inl (y - 1).toInt64)] V = some (bI (inR n x), V) := by
  apply c_in0 hn
  rw [Int32.toInt_toInt64, hy]
  cases n with
  | zero => decide
  | succ n => rw [nI_pred, nI_toInt (by omega)]; omega
theorem c_in0_1 {d : Nat} (x : Int32) (V : Mem) : clI (d + 1) m_M_isIn [.inr (.inl x.toInt64), .inr (.inl 0), .inr (.inl 1)] V = some (bI (inR 2 x), V) := c_in0 (by omega) x (by decide) V
theorem c_in0_2 {d : Nat} (x : Int32) (V : Mem) : clI (d + 1) m_M_isIn [.inr (.inl x.toInt64), .inr (.inl 0), .inr (.inl 2)] V = some (bI (inR 3 x), V) := c_in0 (by omega) x (by decide) V
theorem c_in0_3 {d : Nat} (x : Int32) (V : Mem) : clI (d + 1) m_M_isIn [.inr (.inl x.toInt64), .inr (.inl 0), .inr (.inl 3)] V = some (bI (inR 4 x), V) := c_in0 (by omega) x (by decide) V
theorem c_in0_4 {d : Nat} (x : Int32) (V : Mem) : clI (d + 1) m_M_isIn [.inr (.inl x.toInt64), .inr (.inl 0), .inr (.inl 4)] V = some (bI (inR 5 x), V) := c_in0 (by omega) x (by decide) V
theorem c_in0_5 {d : Nat} (x : Int32) (V : Mem) : clI (d + 1) m_M_isIn [.inr (.inl x.toInt64), .inr (.inl 0), .inr (.inl 5)] V = some (bI (inR 6 x), V) := c_in0 (by omega) x (by decide) V
theorem c_in0_7 {d : Nat} (x : Int32) (V : Mem) : clI (d + 1) m_M_isIn [.inr (.inl x.toInt64), .inr (.inl 0), .inr (.inl 7)] V = some (bI (inR 8 x), V) := c_in0 (by omega) x (by decide) V
theorem c_in0_9 {d : Nat} (x : Int32) (V : Mem) : clI (d + 1) m_M_isIn [.inr (.inl x.toInt64), .inr (.inl 0), .inr (.inl 9)] V = some (bI (inR 10 x), V) := c_in0 (by omega) x (by decide) V
theorem c_in0_11 {d : Nat} (x : Int32) (V : Mem) : clI (d + 1) m_M_isIn [.inr (.inl x.toInt64), .inr (.inl 0), .inr (.inl 11)] V = some (bI (inR 12 x), V) := c_in0 (by omega) x (by decide) V
theorem c_in0_12 {d : Nat} (x : Int32) (V : Mem) : clI (d + 1) m_M_isIn [.inr (.inl x.toInt64), .inr (.inl 0), .inr (.inl 12)] V = some (bI (inR 13 x), V) := c_in0 (by omega) x (by decide) V
theorem c_in0_20 {d : Nat} (x : Int32) (V : Mem) : clI (d + 1) m_M_isIn [.inr (.inl x.toInt64), .inr (.inl 0), .inr (.inl 20)] V = some (bI (inR 21 x), V) := c_in0 (by omega) x (by decide) V
theorem c_in0_40 {d : Nat} (x : Int32) (V : Mem) : clI (d + 1) m_M_isIn [.inr (.inl x.toInt64), .inr (.inl 0), .inr (.inl 40)] V = some (bI (inR 41 x), V) := c_in0 (by omega) x (by decide) V
theorem c_in0_99 {d : Nat} (x : Int32) (V : Mem) : clI (d + 1) m_M_isIn [.inr (.inl x.toInt64), .inr (.inl 0), .inr (.inl 99)] V = some (bI (inR 100 x), V) := c_in0 (by omega) x (by decide) V
theorem c_in0_255 {d : Nat} (x : Int32) (V : Mem) : clI (d + 1) m_M_isIn [.inr (.inl x.toInt64), .inr (.inl 0), .inr (.inl 255)] V = some (bI (inR 256 x), V) := c_in0 (by omega) x (by decide) V
theorem c_M_isShelf {d : Nat} (x : Int32) (V : Mem) : clI (d + 2) m_M_isShelf [.inl x] V = some (bI (inR 8 x), V) := by
  apply clI_of
  refine (e_M_isShelf_0 (d + 1) x V).trans ?_
  rw [c_in0_7, bind_some', if_pos (bI_01 _)]
theorem c_M_isParish {d n : Nat} (hn : n < 2 ^ 31) (x : Int32) {V : Mem} (h : V.1 32 0 175 = nI n) : clI (d + 2) m_M_isParish [.inr (.inr (30, 0)), .inl x] V = some (bI (inR n x), V) := by
  apply clI_of
  refine (e_M_isParish_0 (d + 1) x V).trans ?_
  rw [c_in0p hn x h, bind_some', if_pos (bI_01 _)]
theorem c_M_isPoint {d n : Nat} (hn : n < 2 ^ 31) (x : Int32) {V : Mem} (h : V.1 32 0 174 = nI n) : clI (d + 2) m_M_isPoint [.inr (.inr (30, 0)), .inr (.inl x.toInt64)] V = some (bI (inR n x), V) := by
  apply clI_of
  refine (e_M_isPoint_0 (d + 1) x.toInt64 V).trans ?_
  rw [c_in0p hn x h, bind_some', if_pos (bI_01 _)]
/-- an index in a range, or not -/
theorem ix_or (x : Int32) {n : Nat} (hn : n < 2 ^ 31) : (¬ inR n x) ∨ ∃ j : Nat, j < n ∧ x = nI j := by
  rcases pk_ix x hn with h | h | h
  · exact Or.inl (fun q => q.1 h)
  · exact Or.inl (fun q => by have := q.2; rw [lt_toInt] at this; rw [le_toInt] at h; omega)
  · exact Or.inr h
theorem ix_in {j n : Nat} (h : j < n) (hn : n < 2 ^ 31) : inR n (nI j) := ⟨nI_pos (by omega), nI_lt h hn⟩
theorem ix_g {j n : Nat} (h : j < n) (hn : n < 2 ^ 31) : ¬ (nI j < 0 ∨ n ≤ (nI j).toNatClampNeg) := nI_in h hn
