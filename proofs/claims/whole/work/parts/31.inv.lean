/-! WHAT A STATE IS: a sky in numbers; how the class's cells and the reference's row hold it -/
abbrev SKY : Type := (Nat × Nat × Nat × Int32) × (Nat → Nat × Nat) × (Nat → Nat × Nat × Nat) × (Nat → Nat → Bool) × (Nat → Nat → Nat × Nat)
def kNP (K : SKY) : Nat := K.1.1
def kNX (K : SKY) : Nat := K.1.2.1
def kCl (K : SKY) : Nat := K.1.2.2.1
def kSd (K : SKY) : Int32 := K.1.2.2.2
def kCe (K : SKY) (p : Nat) : Nat := (K.2.1 p).1
def kBr (K : SKY) (p : Nat) : Nat := (K.2.1 p).2
def kKi (K : SKY) (x : Nat) : Nat := (K.2.2.1 x).1
def kA (K : SKY) (x : Nat) : Nat := (K.2.2.1 x).2.1
def kLn (K : SKY) (x : Nat) : Nat := (K.2.2.1 x).2.2
def kW (K : SKY) (x p : Nat) : Bool := K.2.2.2.1 x p
def kF (K : SKY) (x i : Nat) : Nat := (K.2.2.2.2 x i).1
def kG (K : SKY) (x i : Nat) : Nat := (K.2.2.2.2 x i).2
/-- a row of bits as a number -/
def bm : Nat → (Nat → Bool) → Nat
  | 0, _ => 0
  | n + 1, f => bm n f + (if f n then 2 ^ n else 0)
/-- the parish object j holds these -/
def CPar (V : Mem) (j ki a wm ln : Nat) (f g : Nat → Nat) : Prop :=
  V.1 5 j 2 = nI ki ∧ V.1 5 j 3 = nI a ∧ V.1 5 j 4 = nI wm ∧ V.1 5 j 5 = nI ln ∧ ∀ i, i < ln → V.1 6 j i = nI (f i) ∧ V.1 7 j i = nI (g i)
/-- the class's sky s holds K -/
def CS (V : Mem) (s : Nat) (K : SKY) : Prop :=
  (V.1 1 s 3 = nI (kNP K) ∧ V.1 1 s 4 = nI (kNX K) ∧ V.1 1 s 5 = nI (kCl K) ∧ V.1 1 s 6 = kSd K) ∧ (∀ p, p < kNP K → V.1 2 s p = nI (kCe K p) ∧ V.1 3 s p = nI (kBr K p)) ∧
  ∀ x, x < kNX K → CPar V (x + 6 * s) (kKi K x) (kA K x) (bm (kNP K) (kW K x)) (kLn K x) (kF K x) (kG K x)
/-- the reference's row t holds K from place o on -/
def MS (V : Mem) (t o : Nat) (K : SKY) : Prop :=
  (V.1 t 0 (o + 174) = nI (kNP K) ∧ V.1 t 0 (o + 175) = nI (kNX K) ∧ V.1 t 0 (o + 176) = nI (kCl K) ∧ V.1 t 0 (o + 177) = kSd K) ∧
  (∀ p, p < kNP K → V.1 t 0 (o + 3 * p) = nI (kCe K p) ∧ V.1 t 0 (o + 3 * p + 1) = nI (kBr K p) ∧ V.1 t 0 (o + 3 * p + 2) = nI (bm (kNX K) (fun x => kW K x p))) ∧
  ∀ x, x < kNX K → (V.1 t 0 (o + 36 + 23 * x) = nI (kKi K x) ∧ V.1 t 0 (o + 37 + 23 * x) = nI (kA K x) ∧ V.1 t 0 (o + 38 + 23 * x) = nI (kLn K x)) ∧
    ∀ i, i < kLn K x → V.1 t 0 (o + 39 + 23 * x + 2 * i) = nI (kF K x i) ∧ V.1 t 0 (o + 39 + 23 * x + 2 * i + 1) = nI (kG K x i)
/-- a sky as it may be -/
def okK (K : SKY) : Prop :=
  kNP K ≤ 12 ∧ kNX K ≤ 6 ∧ kCl K ≤ 12 ∧ (∀ p, p < kNP K → kCe K p < 100 ∧ 1 ≤ kBr K p ∧ kBr K p ≤ 9) ∧
  ∀ x, x < kNX K → (kKi K x < 6 ∧ kA K x < 10 ∧ kLn K x ≤ 10) ∧ (∀ i, i < kLn K x → kF K x i < kNP K ∧ kG K x i < kNP K ∧ kF K x i ≠ kG K x i ∧ kW K x (kF K x i) = true ∧ kW K x (kG K x i) = true) ∧
    ∀ i j, i < kLn K x → j < kLn K x → (kF K x i = kF K x j ∧ kG K x i = kG K x j ∨ kF K x i = kG K x j ∧ kG K x i = kF K x j) → i = j
/-- a shelf's word -/
def okH (n : Nat) (h : Int32) : Prop := h = -1 ∨ (∃ k, k < 5 ∧ h = nI k) ∨ ∃ x, x < n ∧ h = nI (10 + x)
def wordsL : List Nat := [112, 111, 105, 110, 116, 0, 112, 97, 114, 105, 115, 104, 119, 97, 110, 116, 115, 0, 108, 105, 110, 101, 0, 0, 99, 108, 111, 117, 100, 0]
/-- all that is one in the class and in the reference -/
def Inv (SL : Nat) (xs : Nat → Int32) (V : Mem) : Prop :=
  (∃ K : SKY, okK K ∧ CS V 0 K ∧ MS V 32 0 K ∧ (∀ s, s < 8 → okH (kNX K) (V.1 23 s 1) ∧ V.1 42 0 s = V.1 23 s 1)) ∧
  (V.1 30 0 4 = V.1 0 0 11 ∧ (V.1 0 0 11 = 0 ∨ (V.1 0 0 11 = 1 ∧ ∃ K : SKY, okK K ∧ CS V 1 K ∧ MS V 33 0 K))) ∧
  (∃ n : Nat, n ≤ 250 ∧ V.1 20 0 0 = nI n ∧ V.1 30 0 6 = nI n ∧ ∀ k, k < n → ∃ b : Nat, b < 256 ∧ V.1 21 0 k = nI b ∧ V.1 35 0 k = nI b) ∧
  (∀ s, s < 8 → (∃ n : Nat, n ≤ 40 ∧ V.1 23 s 2 = nI n ∧ V.1 43 0 s = nI n) ∧ ∀ k, k < 40 → V.2 44 0 (40 * s + k) = V.2 24 s k) ∧
  (∀ k, k < 5 → V.1 31 0 (k + 2) = V.1 25 0 k) ∧
  (∀ k, k < 30 → V.1 36 0 k = nI (wordsL.getD k 0)) ∧ (V.1 46 0 0 = -1 ∧ V.1 46 0 1 = 0 ∧ V.1 46 0 2 = 0 ∧ V.1 46 0 3 = 1 ∧ V.1 46 0 4 = 2 ∧ V.1 46 0 5 = 0) ∧
  Vok SL xs V
/-- what Inv looks at -/
def core (t i k : Nat) : Prop :=
  t = 0 ∨ ((t = 1 ∨ t = 2 ∨ t = 3) ∧ i < 2) ∨ ((t = 5 ∨ t = 6 ∨ t = 7) ∧ i < 12) ∨ (t = 20 ∧ k = 0) ∨ t = 21 ∨ t = 23 ∨ t = 24 ∨ t = 25 ∨ (t = 30 ∧ (k = 4 ∨ k = 6)) ∨ t = 31 ∨ t = 32 ∨ t = 33 ∨ t = 35 ∨ t = 36 ∨ t = 42 ∨ t = 43 ∨ t = 44 ∨ t = 46 ∨ 48 ≤ t
def Cor (V V' : Mem) : Prop := ∀ t i k, core t i k → V'.1 t i k = V.1 t i k ∧ V'.2 t i k = V.2 t i k
theorem Cor.rfl {V : Mem} : Cor V V := fun _ _ _ _ => ⟨Eq.refl _, Eq.refl _⟩
theorem Cor.trans {V V' V'' : Mem} (h : Cor V V') (h' : Cor V' V'') : Cor V V'' := fun t i k hc => ⟨(h' t i k hc).1.trans (h t i k hc).1, (h' t i k hc).2.trans (h t i k hc).2⟩
theorem Cor.set {V V' : Mem} {t i k : Nat} {x : Int32} (h : Cor V V') (hn : ¬ core t i k) : Cor V (mset V'.1 t i k x, V'.2) := by
  intro t' i' k' hc
  refine ⟨?_, (h t' i' k' hc).2⟩
  show mset V'.1 t i k x t' i' k' = _
  unfold mset
  rw [if_neg (fun q => hn (by obtain ⟨rfl, rfl, rfl⟩ := q; exact hc))]
  exact (h t' i' k' hc).1
theorem Cor.setL {V V' : Mem} {t i k : Nat} {x : Int64} (h : Cor V V') (hn : ¬ core t i k) : Cor V (V'.1, mset V'.2 t i k x) := by
  intro t' i' k' hc
  refine ⟨(h t' i' k' hc).1, ?_⟩
  show mset V'.2 t i k x t' i' k' = _
  unfold mset
  rw [if_neg (fun q => hn (by obtain ⟨rfl, rfl, rfl⟩ := q; exact hc))]
  exact (h t' i' k' hc).2
theorem Cor.cpy {V V' : Mem} {t i sp t2 i2 dp n : Nat} (h : Cor V V') (hn : ∀ k, ¬ core t2 i2 k) : Cor V (mcpy V'.1 t i sp t2 i2 dp n, V'.2) := by
  intro t' i' k' hc
  refine ⟨?_, (h t' i' k' hc).2⟩
  show mcpy V'.1 t i sp t2 i2 dp n t' i' k' = _
  unfold mcpy
  rw [if_neg (fun q => hn k' (by obtain ⟨rfl, rfl, -⟩ := q; exact hc))]
  exact (h t' i' k' hc).1
theorem CPar.cor {V V' : Mem} {j ki a wm ln : Nat} {f g : Nat → Nat} (hj : j < 12) (h : CPar V j ki a wm ln f g) (hc : Cor V V') : CPar V' j ki a wm ln f g := by
  have c5 : ∀ k, V'.1 5 j k = V.1 5 j k := fun k => (hc 5 j k (by unfold core; omega)).1
  have c6 : ∀ k, V'.1 6 j k = V.1 6 j k := fun k => (hc 6 j k (by unfold core; omega)).1
  have c7 : ∀ k, V'.1 7 j k = V.1 7 j k := fun k => (hc 7 j k (by unfold core; omega)).1
  obtain ⟨h1, h2, h3, h4, h5⟩ := h
  exact ⟨by rw [c5]; exact h1, by rw [c5]; exact h2, by rw [c5]; exact h3, by rw [c5]; exact h4, fun i hi => ⟨by rw [c6]; exact (h5 i hi).1, by rw [c7]; exact (h5 i hi).2⟩⟩
theorem CS.cor {V V' : Mem} {s : Nat} {K : SKY} (hs : s < 2) (hx : kNX K ≤ 6) (h : CS V s K) (hc : Cor V V') : CS V' s K := by
  have c1 : ∀ k, V'.1 1 s k = V.1 1 s k := fun k => (hc 1 s k (by unfold core; omega)).1
  have c2 : ∀ k, V'.1 2 s k = V.1 2 s k := fun k => (hc 2 s k (by unfold core; omega)).1
  have c3 : ∀ k, V'.1 3 s k = V.1 3 s k := fun k => (hc 3 s k (by unfold core; omega)).1
  obtain ⟨⟨h1, h2, h3, h4⟩, h5, h6⟩ := h
  exact ⟨⟨by rw [c1]; exact h1, by rw [c1]; exact h2, by rw [c1]; exact h3, by rw [c1]; exact h4⟩, fun p hp => ⟨by rw [c2]; exact (h5 p hp).1, by rw [c3]; exact (h5 p hp).2⟩, fun x h9 => (h6 x h9).cor (by omega) hc⟩
theorem MS.same {V V' : Mem} {t o : Nat} {K : SKY} (h : MS V t o K) (hc : V'.1 t 0 = V.1 t 0) : MS V' t o K := by
  unfold MS at h ⊢
  rw [hc]
  exact h
theorem Inv.cor {SL : Nat} {xs : Nat → Int32} {V V' : Mem} (h : Inv SL xs V) (hc : Cor V V') : Inv SL xs V' := by
  have c : ∀ t, (t = 0 ∨ t = 21 ∨ t = 23 ∨ t = 25 ∨ t = 31 ∨ t = 32 ∨ t = 33 ∨ t = 35 ∨ t = 36 ∨ t = 42 ∨ t = 43 ∨ t = 44 ∨ t = 46 ∨ 48 ≤ t) → ∀ i, V'.1 t i = V.1 t i := fun t ht i => funext fun k => (hc t i k (by unfold core; omega)).1
  have cl : ∀ t, (t = 24 ∨ t = 44) → ∀ i, V'.2 t i = V.2 t i := fun t ht i => funext fun k => (hc t i k (by unfold core; omega)).2
  have e20 : V'.1 20 0 0 = V.1 20 0 0 := (hc 20 0 0 (by unfold core; omega)).1
  have e304 : V'.1 30 0 4 = V.1 30 0 4 := (hc 30 0 4 (by unfold core; omega)).1
  have e306 : V'.1 30 0 6 = V.1 30 0 6 := (hc 30 0 6 (by unfold core; omega)).1
  obtain ⟨⟨K, k1, k2, k3, k4⟩, ⟨i1, i2⟩, ⟨n, t1, t2, t3, t4⟩, s1, r1, w1, a1, v1⟩ := h
  refine ⟨⟨K, k1, k2.cor (by omega) k1.2.1 hc, k3.same (c 32 (by omega) 0), fun s hs => ?_⟩, ⟨?_, ?_⟩, ⟨n, t1, ?_, ?_, fun k hk => ?_⟩, fun s hs => ⟨?_, fun k hk => ?_⟩, fun k hk => ?_, fun k hk => ?_, ?_, ?_⟩
  · rw [c 23 (by omega), c 42 (by omega)]; exact k4 s hs
  · rw [e304, c 0 (by omega)]; exact i1
  · rw [c 0 (by omega)]
    rcases i2 with i2 | ⟨i2, K2, j1, j2, j3⟩
    · exact Or.inl i2
    · exact Or.inr ⟨i2, K2, j1, j2.cor (by omega) j1.2.1 hc, j3.same (c 33 (by omega) 0)⟩
  · rw [e20]; exact t2
  · rw [e306]; exact t3
  · rw [c 21 (by omega), c 35 (by omega)]; exact t4 k hk
  · rw [c 23 (by omega), c 43 (by omega)]; exact (s1 s hs).1
  · rw [cl 24 (by omega), cl 44 (by omega)]; exact (s1 s hs).2 k hk
  · rw [c 31 (by omega), c 25 (by omega)]; exact r1 k hk
  · rw [c 36 (by omega)]; exact w1 k hk
  · rw [c 46 (by omega)]; exact a1
  · exact ⟨by rw [c 50 (by omega)]; exact v1.1, by rw [c 51 (by omega)]; exact v1.2⟩
theorem Cor.vok {SL : Nat} {xs : Nat → Int32} {V V' : Mem} (h : Vok SL xs V) (hc : Cor V V') : Vok SL xs V' := by
  have c : ∀ t, 48 ≤ t → ∀ i, V'.1 t i = V.1 t i := fun t ht i => funext fun k => (hc t i k (by unfold core; omega)).1
  exact ⟨by rw [c 50 (by omega)]; exact h.1, by rw [c 51 (by omega)]; exact h.2⟩
/-- a method of the class and the reference's answer alike, and Inv stays -/
def PMI (SL : Nat) (xs : Nat → Int32) (b c : Nat) (as : List AV) : Prop := ∀ V : Mem, Inv SL xs V → ∃ (r : Int32) (V1 V2 : Mem), clI 30 b (.inr (.inr (0, 0)) :: as) V = some (r, V1) ∧ Vok SL xs V1 ∧ clI 30 c (.inr (.inr (30, 0)) :: as) V1 = some (r, V2) ∧ Inv SL xs V2
def PMJ (SL : Nat) (xs : Nat → Int32) (b c : Nat) (as : List AV) : Prop := ∀ V : Mem, Inv SL xs V → ∃ (r : Int64) (V1 V2 : Mem), clJ 30 b (.inr (.inr (0, 0)) :: as) V = some (r, V1) ∧ Vok SL xs V1 ∧ clJ 30 c (.inr (.inr (30, 0)) :: as) V1 = some (r, V2) ∧ Inv SL xs V2
