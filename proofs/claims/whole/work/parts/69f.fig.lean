/-! THE FIGURE, pure -/
def absd (a b : Nat) : Nat := (a - b) + (b - a)
def lenN (ce : Nat → Nat) (p q : Nat) : Nat := absd (ce p / 10) (ce q / 10) + absd (ce p % 10) (ce q % 10)
def sumLen (ce f g : Nat → Nat) : Nat → Nat
  | 0 => 0
  | n + 1 => sumLen ce f g n + lenN ce (f n) (g n)
def maxLen (ce f g : Nat → Nat) : Nat → Nat
  | 0 => 0
  | n + 1 => max (maxLen ce f g n) (lenN ce (f n) (g n))
def endB (f g : Nat → Nat) (i : Nat) : Nat := 2 ^ f i ||| 2 ^ g i
def usdN (f g : Nat → Nat) : Nat → Nat
  | 0 => 0
  | n + 1 => usdN f g n ||| endB f g n
def oddN (f g : Nat → Nat) : Nat → Nat
  | 0 => 0
  | n + 1 => oddN f g n ^^^ endB f g n
def litN (br : Nat → Nat) (m : Nat) : Nat → Nat
  | 0 => 0
  | n + 1 => litN br m n + (if m.testBit n = true then br n else 0)
def swp (f g : Nat → Nat) : Nat → Nat → Nat
  | 0, b => b
  | n + 1, b => if swp f g n b &&& endB f g n = 0 then swp f g n b else swp f g n b ||| endB f g n
def itr (f g : Nat → Nat) (ln : Nat) : Nat → Nat → Nat
  | 0, b => b
  | k + 1, b => itr f g ln k (swp f g ln b)
def clr (a b : Nat) : Nat := a ^^^ (a &&& b)
def cpN (f g : Nat → Nat) (ln od : Nat) : Nat → Nat → Nat → Nat × Nat → Nat × Nat
  | 0, _, _, r => r
  | m + 1, p, l, r => if l.testBit p = true then cpN f g ln od m (p + 1) (clr l (itr f g ln 12 (2 ^ p))) (r.1 + 1, r.2 + max 1 (onesN (od &&& itr f g ln 12 (2 ^ p)) 12 / 2)) else cpN f g ln od m (p + 1) l r
def pcN (f g : Nat → Nat) (ln np : Nat) : Nat × Nat := cpN f g ln (oddN f g ln) np 0 (usdN f g ln) (0, 0)
def worN (ki a lt ln od lon str len : Nat) : Nat :=
  if ki = 1 then lt + ln + 3 * lon else if ki = 3 then 2 * (lt + ln + 3 * lon) else if ki = 2 then lt + ln - 2 * str else if ki = 4 then lt + ln - 2 * str - len else if ki = 5 ∧ 0 < ln ∧ od = 0 then lt + ln + a else lt + ln
def wrt (ce br f g : Nat → Nat) (np ki a ln : Nat) : Nat := worN ki a (litN br (usdN f g ln) np) ln (oddN f g ln) (maxLen ce f g ln) (pcN f g ln np).2 (sumLen ce f g ln)
def wK (K : SKY) (x : Nat) : Nat := wrt (kCe K) (kBr K) (kF K x) (kG K x) (kNP K) (kKi K x) (kA K x) (kLn K x)
/-! bounds -/
theorem absd_le {a b n : Nat} (ha : a ≤ n) (hb : b ≤ n) : absd a b ≤ n := by unfold absd; omega
theorem lenN_le {ce : Nat → Nat} {p q : Nat} (hp : ce p < 100) (hq : ce q < 100) : lenN ce p q ≤ 18 := by
  have h1 := absd_le (a := ce p / 10) (b := ce q / 10) (n := 9) (by omega) (by omega)
  have h2 := absd_le (a := ce p % 10) (b := ce q % 10) (n := 9) (by omega) (by omega)
  unfold lenN
  omega
theorem sumLen_le {ce f g : Nat → Nat} : ∀ n, (∀ i, i < n → ce (f i) < 100 ∧ ce (g i) < 100) → sumLen ce f g n ≤ 18 * n := by
  intro n
  induction n with
  | zero => intro _; exact Nat.le_refl _
  | succ n ih =>
    intro h
    have := ih (fun i hi => h i (by omega))
    have := lenN_le (h n (by omega)).1 (h n (by omega)).2
    show sumLen ce f g n + lenN ce (f n) (g n) ≤ _
    omega
theorem maxLen_le {ce f g : Nat → Nat} : ∀ n, (∀ i, i < n → ce (f i) < 100 ∧ ce (g i) < 100) → maxLen ce f g n ≤ 18 := by
  intro n
  induction n with
  | zero => intro _; exact Nat.zero_le _
  | succ n ih =>
    intro h
    have := ih (fun i hi => h i (by omega))
    have := lenN_le (h n (by omega)).1 (h n (by omega)).2
    show max (maxLen ce f g n) (lenN ce (f n) (g n)) ≤ _
    omega
theorem endB_lt {f g : Nat → Nat} {i n : Nat} (hf : f i < n) (hg : g i < n) : endB f g i < 2 ^ n := Nat.or_lt_two_pow (Nat.pow_lt_pow_right (by omega) hf) (Nat.pow_lt_pow_right (by omega) hg)
theorem endB_ne {f g : Nat → Nat} {i : Nat} : endB f g i ≠ 0 := fun w => by
  have := congrArg (fun z => z.testBit (f i)) w
  simp [endB] at this
theorem usdN_lt {f g : Nat → Nat} {np : Nat} : ∀ n, (∀ i, i < n → f i < np ∧ g i < np) → usdN f g n < 2 ^ np := by
  intro n
  induction n with
  | zero => intro _; exact Nat.two_pow_pos _
  | succ n ih =>
    intro h
    exact Nat.or_lt_two_pow (ih (fun i hi => h i (by omega))) (endB_lt (h n (by omega)).1 (h n (by omega)).2)
theorem oddN_lt {f g : Nat → Nat} {np : Nat} : ∀ n, (∀ i, i < n → f i < np ∧ g i < np) → oddN f g n < 2 ^ np := by
  intro n
  induction n with
  | zero => intro _; exact Nat.two_pow_pos _
  | succ n ih =>
    intro h
    exact Nat.xor_lt_two_pow (ih (fun i hi => h i (by omega))) (endB_lt (h n (by omega)).1 (h n (by omega)).2)
theorem litN_le {br : Nat → Nat} {m : Nat} : ∀ n, (∀ p, p < n → br p ≤ 9) → litN br m n ≤ 9 * n := by
  intro n
  induction n with
  | zero => intro _; exact Nat.le_refl _
  | succ n ih =>
    intro h
    have := ih (fun i hi => h i (by omega))
    have := h n (by omega)
    show litN br m n + _ ≤ _
    split <;> omega
theorem swp_lt {f g : Nat → Nat} {np b : Nat} (hb : b < 2 ^ np) : ∀ n, (∀ i, i < n → f i < np ∧ g i < np) → swp f g n b < 2 ^ np := by
  intro n
  induction n with
  | zero => intro _; exact hb
  | succ n ih =>
    intro h
    have := ih (fun i hi => h i (by omega))
    show (if swp f g n b &&& endB f g n = 0 then swp f g n b else swp f g n b ||| endB f g n) < _
    split
    · exact this
    · exact Nat.or_lt_two_pow this (endB_lt (h n (by omega)).1 (h n (by omega)).2)
theorem itr_lt {f g : Nat → Nat} {np ln : Nat} (h : ∀ i, i < ln → f i < np ∧ g i < np) : ∀ k b, b < 2 ^ np → itr f g ln k b < 2 ^ np := by
  intro k
  induction k with
  | zero => intro b hb; exact hb
  | succ k ih => intro b hb; exact ih _ (swp_lt hb ln h)
theorem itr_fix {f g : Nat → Nat} {ln b : Nat} (h : swp f g ln b = b) : ∀ k, itr f g ln k b = b := by
  intro k
  induction k with
  | zero => rfl
  | succ k ih => show itr f g ln k (swp f g ln b) = b; rw [h]; exact ih
theorem swp_test {f g : Nat → Nat} {b q : Nat} (h : b.testBit q = true) : ∀ n, (swp f g n b).testBit q = true := by
  intro n
  induction n with
  | zero => exact h
  | succ n ih =>
    show (if swp f g n b &&& endB f g n = 0 then swp f g n b else swp f g n b ||| endB f g n).testBit q = true
    split
    · exact ih
    · rw [Nat.testBit_or, ih]; rfl
theorem itr_test {f g : Nat → Nat} {ln q : Nat} : ∀ k b, b.testBit q = true → (itr f g ln k b).testBit q = true := by
  intro k
  induction k with
  | zero => intro b h; exact h
  | succ k ih => intro b h; exact ih _ (swp_test h ln)
theorem clr_test (a b k : Nat) : (clr a b).testBit k = (a.testBit k && !b.testBit k) := by
  unfold clr
  rw [Nat.testBit_xor, Nat.testBit_and]
  cases a.testBit k <;> cases b.testBit k <;> rfl
theorem clr_lt {a b n : Nat} (ha : a < 2 ^ n) : clr a b < 2 ^ n := Nat.xor_lt_two_pow ha (Nat.lt_of_le_of_lt Nat.and_le_left ha)
theorem nI_clr (a b : Nat) : nI a &&& (nI b ^^^ -1) = nI (clr a b) := by
  unfold clr
  rw [← nI_xor, ← nI_and]
  apply Int32.toBitVec_inj.mp
  rw [Int32.toBitVec_and, Int32.toBitVec_xor, Int32.toBitVec_xor, Int32.toBitVec_and]
  apply BitVec.eq_of_getLsbD_eq
  intro i hi
  have : (Int32.toBitVec (-1)).getLsbD i = true := by
    have e : Int32.toBitVec (-1) = BitVec.allOnes 32 := by decide
    rw [e, BitVec.getLsbD_allOnes]
    exact decide_eq_true hi
  simp only [BitVec.getLsbD_and, BitVec.getLsbD_xor, this]
  cases (nI a).toBitVec.getLsbD i <;> cases (nI b).toBitVec.getLsbD i <;> rfl
theorem cpN_le {f g : Nat → Nat} {ln od : Nat} : ∀ m p l r, (cpN f g ln od m p l r).1 ≤ r.1 + m ∧ (cpN f g ln od m p l r).2 ≤ r.2 + 6 * m := by
  intro m
  induction m with
  | zero => intro p l r; exact ⟨Nat.le_refl _, Nat.le_refl _⟩
  | succ m ih =>
    intro p l r
    unfold cpN
    split
    · have h1 := ih (p + 1) (clr l (itr f g ln 12 (2 ^ p))) (r.1 + 1, r.2 + max 1 (onesN (od &&& itr f g ln 12 (2 ^ p)) 12 / 2))
      have h2 := onesN_le (od &&& itr f g ln 12 (2 ^ p)) 12
      have h3 : max 1 (onesN (od &&& itr f g ln 12 (2 ^ p)) 12 / 2) ≤ 6 := by omega
      refine ⟨?_, ?_⟩
      · have := h1.1
        simp only at this
        omega
      · have := h1.2
        simp only at this
        omega
    · have h1 := ih (p + 1) l r
      omega
theorem pcN_le (f g : Nat → Nat) (ln np : Nat) : (pcN f g ln np).1 ≤ np ∧ (pcN f g ln np).2 ≤ 6 * np := by
  have := cpN_le (f := f) (g := g) (ln := ln) (od := oddN f g ln) np 0 (usdN f g ln) (0, 0)
  unfold pcN
  simpa using this
theorem worN_le {ki a lt ln od lon str len : Nat} (h1 : a ≤ 9) (h2 : lt ≤ 108) (h3 : ln ≤ 10) (h4 : lon ≤ 18) : worN ki a lt ln od lon str len ≤ 400 := by
  unfold worN
  repeat' split
  all_goals omega
theorem low64 : allB 64 (fun a => allB 64 (fun b => allB 12 (fun k => !((64 * a + b).testBit k && Nat.beq (onesN (64 * a + b) k) 0) || decide (nI (64 * a + b) &&& -nI (64 * a + b) = nI (2 ^ k))))) = true := by decide +kernel
theorem low_bit {m k : Nat} (hm : m < 4096) (hk : k < 12) (hb : m.testBit k = true) (ho : onesN m k = 0) : nI m &&& -nI m = nI (2 ^ k) := by
  have := allB_of (allB_of (allB_of low64 (show m / 64 < 64 by omega)) (show m % 64 < 64 by omega)) hk
  rw [show 64 * (m / 64) + m % 64 = m by omega, hb, ho] at this
  simpa using this
theorem onesN_zero {m n : Nat} (h : ∀ k, k < n → m.testBit k = false) : onesN m n = 0 := by
  induction n with
  | zero => rfl
  | succ n ih =>
    show onesN m n + _ = 0
    rw [ih (fun k hk => h k (by omega)), if_neg (by rw [h n (by omega)]; simp)]
/-! ints -/
theorem imax_nat {a b : Nat} (ha : a < 2 ^ 31) (hb : b < 2 ^ 31) : imax (nI a) (nI b) = nI (max a b) := by
  unfold imax
  by_cases h : a < b
  · rw [if_pos (nI_lt h hb), show max a b = b by omega]
  · rw [if_neg (nI_nlt (by omega) ha), show max a b = a by omega]
theorem imin_nat {a b : Nat} (ha : a < 2 ^ 31) (hb : b < 2 ^ 31) : imin (nI a) (nI b) = nI (min a b) := by
  unfold imin
  by_cases h : b < a
  · rw [if_pos (nI_lt h ha), show min a b = b by omega]
  · rw [if_neg (nI_nlt (by omega) hb), show min a b = a by omega]
theorem imax0_sub {a b : Nat} (ha : a < 2 ^ 30) (hb : b < 2 ^ 30) : imax 0 (nI a - nI b) = nI (a - b) := by
  by_cases h : b ≤ a
  · rw [pk_sub h]
    have := imax_nat (a := 0) (b := a - b) (by omega) (by omega)
    rw [show max 0 (a - b) = a - b by omega] at this
    exact this
  · unfold imax
    rw [if_neg, show a - b = 0 by omega]
    · rfl
    · intro w
      have := pk_sneg hb (show a < b by omega)
      rw [lt_toInt] at w this
      omega
theorem iabs_nat {a b : Nat} (ha : a < 2 ^ 30) (hb : b < 2 ^ 30) : iabs (nI a - nI b) = nI (absd a b) := by
  unfold iabs absd
  by_cases h : b ≤ a
  · rw [pk_sub h, if_pos (nI_pos' (by omega)), show a - b + (b - a) = a - b by omega]
  · have h1 := pk_sneg hb (show a < b by omega)
    have h2 : ¬ (0 : Int32) ≤ nI a - nI b := by
      rw [le_toInt]
      rw [lt_toInt] at h1
      omega
    rw [if_neg h2, show a - b + (b - a) = b - a by omega, ← pk_sub (show a ≤ b by omega)]
    have e : ∀ x y : Int32, 0 - (x - y) = y - x := fun x y => by
      rw [Int32.zero_sub, Int32.neg_sub]
    exact e _ _
