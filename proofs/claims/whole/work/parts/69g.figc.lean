/-! THE FIGURE: the class -/
theorem c_rowOf {d s p : Nat} {V : Mem} {K : SKY} (h : CS V s K) (ok : okK K) (hp : p < kNP K) : clI (d + 1) m_Sky_rowOf [.inr (.inr (1, s)), .inl (nI p)] V = some (nI (kCe K p / 10), V) := by
  have hP := ok.1
  have hc := (ok.2.2.2.1 p hp).1
  refine clI_of ((e_Sky_rowOf_0 d s _ V).trans ?_)
  rw [if_neg (nI_in (N := 12) (by omega) (by omega)), nI_clamp (by omega), (h.2.1 p hp).1, show (10 : Int32) = nI 10 from rfl, pk_div (by omega) (by omega) (by omega)]
theorem c_columnOf {d s p : Nat} {V : Mem} {K : SKY} (h : CS V s K) (ok : okK K) (hp : p < kNP K) : clI (d + 1) m_Sky_columnOf [.inr (.inr (1, s)), .inl (nI p)] V = some (nI (kCe K p % 10), V) := by
  have hP := ok.1
  have hc := (ok.2.2.2.1 p hp).1
  refine clI_of ((e_Sky_columnOf_0 d s _ V).trans ?_)
  rw [if_neg (nI_in (N := 12) (by omega) (by omega)), nI_clamp (by omega), (h.2.1 p hp).1, show (10 : Int32) = nI 10 from rfl, pk_rem (by omega) (by omega) (by omega)]
theorem c_length {d s p q : Nat} {V : Mem} {K : SKY} (h : CS V s K) (ok : okK K) (hp : p < kNP K) (hq : q < kNP K) : clI (d + 2) m_Sky_length [.inr (.inr (1, s)), .inl (nI p), .inl (nI q)] V = some (nI (lenN (kCe K) p q), V) := by
  have hc := (ok.2.2.2.1 p hp).1
  have hc2 := (ok.2.2.2.1 q hq).1
  refine clI_of ((e_Sky_length_0 (d + 1) s _ _ V).trans ?_)
  rw [c_rowOf h ok hp, bind_some', c_rowOf h ok hq, bind_some', c_columnOf h ok hp, bind_some', c_columnOf h ok hq, bind_some', iabs_nat (by omega) (by omega), iabs_nat (by omega) (by omega), nI_add]
  rfl
theorem c_lightOf {d s m : Nat} (hm : m < 2 ^ 31) {V : Mem} {K : SKY} (h : CS V s K) (ok : okK K) : clI (d + 1) m_Sky_lightOf [.inr (.inr (1, s)), .inl (nI m)] V = some (nI (litN (kBr K) m (kNP K)), V) := by
  have hP := ok.1
  refine clI_of ((e_Sky_lightOf_0 d s _ V).trans ?_)
  refine loopN (kNP K) (fun k => sem d 50 4 [some (.inr (.inr (1, s))), some (.inl (nI m)), some (.inl (nI (litN (kBr K) m k))), some (.inl (nI k))] [] V) _ (fun k hk => ?_) ?_
  · show sem _ _ _ _ _ _ = sem d 50 4 [some (.inr (.inr (1, s))), some (.inl (nI m)), some (.inl (nI (litN (kBr K) m k + (if m.testBit k = true then kBr K k else 0)))), some (.inl (nI (k + 1)))] [] V
    rw [e_Sky_lightOf_4, h.1.1, if_pos (nI_lt hk (by omega)), bitAt hm (by omega)]
    by_cases e : m.testBit k = true
    · rw [bI_t e, if_neg one_ne, if_neg (nI_in (N := 12) (by omega) (by omega)), nI_clamp (by omega), (h.2.1 k hk).2, nI_add, e_Sky_lightOf_29, nI_1, if_pos e]
    · rw [bI_f e, if_pos rfl, e_Sky_lightOf_29, nI_1, if_neg e]
      rfl
  · show sem _ _ _ _ _ _ = _
    rw [e_Sky_lightOf_4, h.1.1, if_neg (nI_nlt (Nat.le_refl _) (by omega))]
def FrF (V V' : Mem) : Prop := (∀ t i k, ¬ (t = 8 ∨ t = 9) → V'.1 t i k = V.1 t i k) ∧ V'.2 = V.2
theorem FrF.rfl {V : Mem} : FrF V V := ⟨fun _ _ _ _ => Eq.refl _, Eq.refl _⟩
theorem FrF.trans {V V' V'' : Mem} (h : FrF V V') (h' : FrF V' V'') : FrF V V'' := ⟨fun t i k q => (h'.1 t i k q).trans (h.1 t i k q), h'.2.trans h.2⟩
theorem FrF.set {V V' : Mem} {t i k : Nat} {x : Int32} (h : FrF V V') (ht : t = 8 ∨ t = 9) : FrF V (mset V'.1 t i k x, V'.2) := ⟨fun t' i' k' q => by
  show mset V'.1 t i k x t' i' k' = _
  rw [mset_n (by omega)]
  exact h.1 t' i' k' q, h.2⟩
theorem CPar.eqv {V V' : Mem} {j ki a wm ln : Nat} {f g : Nat → Nat} (h : CPar V j ki a wm ln f g) (c : ∀ t k, (t = 5 ∨ t = 6 ∨ t = 7) → V'.1 t j k = V.1 t j k) : CPar V' j ki a wm ln f g := by
  obtain ⟨h1, h2, h3, h4, h5⟩ := h
  exact ⟨(c 5 2 (by omega)).trans h1, (c 5 3 (by omega)).trans h2, (c 5 4 (by omega)).trans h3, (c 5 5 (by omega)).trans h4, fun i hi => ⟨(c 6 i (by omega)).trans (h5 i hi).1, (c 7 i (by omega)).trans (h5 i hi).2⟩⟩
theorem CPar.frf {V V' : Mem} {j ki a wm ln : Nat} {f g : Nat → Nat} (h : CPar V j ki a wm ln f g) (c : FrF V V') : CPar V' j ki a wm ln f g := h.eqv (fun t k ht => c.1 t j k (by omega))
theorem CS.frf {s : Nat} {V V' : Mem} {K : SKY} (h : CS V s K) (ok : okK K) (c : FrF V V') : CS V' s K := h.frame ok.2.1 (fun t i k q => c.1 t i k (by omega))
theorem MS.frf {V V' : Mem} {t o : Nat} {K : SKY} (h : MS V t o K) (c : FrF V V') (ht : ¬ (t = 8 ∨ t = 9)) : MS V' t o K := h.same (funext fun k => c.1 t 0 k ht)
theorem FrF.cor {V V' : Mem} (h : FrF V V') : Cor V V' := fun t i k q => ⟨h.1 t i k (by unfold core at q; omega), by rw [h.2]⟩
/-- the ends as they are measured -/
def ENS (V : Mem) (f g : Nat → Nat) (ln : Nat) : Prop := V.1 8 0 1 = nI ln ∧ ∀ i, i < ln → V.1 9 0 i = nI (endB f g i)
theorem c_pieceAround {d np ln b : Nat} {f g : Nat → Nat} {V : Mem} (hn : np ≤ 12) (hl : ln ≤ 10) (hf : ∀ i, i < ln → f i < np ∧ g i < np) (h : ENS V f g ln) (hb : b < 2 ^ np) (hb0 : b ≠ 0) : clI (d + 1) m_Figure_pieceAround [.inr (.inr (8, 0)), .inl (nI b)] V = some (nI (itr f g ln 12 b), V) := by
  have hp : 2 ^ np ≤ 2 ^ 12 := Nat.pow_le_pow_right (by omega) hn
  have inner : ∀ (c : Nat), c < 2 ^ np → ∀ x1 x3 x4 : Int32, sem d 7 24 [some (.inr (.inr (8, 0))), some (.inl x1), some (.inl (nI c)), some (.inl x3), some (.inl x4), some (.inl 0)] [] V = sem d 7 7 [some (.inr (.inr (8, 0))), some (.inl x1), some (.inl (nI (swp f g ln c))), some (.inl x3), some (.inl (x4 + 1)), none] [] V := by
    intro c hc x1 x3 x4
    refine loopN ln (fun k => sem d 7 24 [some (.inr (.inr (8, 0))), some (.inl x1), some (.inl (nI (swp f g k c))), some (.inl x3), some (.inl x4), some (.inl (nI k))] [] V) _ (fun k hk => ?_) ?_
    · have l1 := swp_lt (f := f) (g := g) hc k (fun i hi => hf i (by omega))
      have l2 := endB_lt (hf k hk).1 (hf k hk).2
      have l3 : endB f g k &&& swp f g k c ≤ endB f g k := Nat.and_le_left
      show sem _ _ _ _ _ _ = sem d 7 24 [some (.inr (.inr (8, 0))), some (.inl x1), some (.inl (nI (if swp f g k c &&& endB f g k = 0 then swp f g k c else swp f g k c ||| endB f g k))), some (.inl x3), some (.inl x4), some (.inl (nI (k + 1)))] [] V
      rw [e_Figure_pieceAround_24, h.1, if_pos (nI_lt hk (by omega)), if_neg (nI_in (N := 10) (by omega) (by omega)), if_neg (nI_in (N := 10) (by omega) (by omega)), nI_clamp (by omega), h.2 k hk, nI_and, nI_or]
      by_cases e : swp f g k c &&& endB f g k = 0
      · rw [if_pos (show nI (endB f g k &&& swp f g k c) = 0 by rw [Nat.and_comm, e]; rfl), if_pos e, e_Figure_pieceAround_55, nI_1]
      · rw [if_neg (nI_ne0 (by rw [Nat.and_comm]; omega) (by omega)), if_neg e, e_Figure_pieceAround_55, nI_1]
    · show sem _ _ _ _ _ _ = _
      rw [e_Figure_pieceAround_24, h.1, if_neg (nI_nlt (Nat.le_refl _) (by omega))]
  have outer : ∀ m k c e, k + m = 12 → c < 2 ^ np → e < 2 ^ np → (c = e → swp f g ln c = c) → sem d 7 7 [some (.inr (.inr (8, 0))), some (.inl (nI b)), some (.inl (nI c)), some (.inl (nI e)), some (.inl (nI k)), none] [] V = some (some (.inl (nI (itr f g ln m c))), V) := by
    intro m
    induction m with
    | zero =>
      intro k c e hk hc he hce
      obtain rfl : k = 12 := by omega
      rw [e_Figure_pieceAround_7, if_neg (show ¬ nI 12 < 12 by decide)]
      rfl
    | succ m ih =>
      intro k c e hk hc he hce
      rw [e_Figure_pieceAround_7, if_pos (show nI k < 12 from nI_lt (b := 12) (by omega) (by omega))]
      by_cases w : c = e
      · rw [if_pos (by rw [w]), itr_fix (hce w)]
      · rw [if_neg (fun z => w ((nI_eq (by omega) (by omega)).mp z)), inner c hc, nI_1]
        exact ih (k + 1) (swp f g ln c) c (by omega) (swp_lt hc ln hf) hc (fun z => by rw [z]; exact z)
  refine clI_of ((e_Figure_pieceAround_0 d _ V).trans ?_)
  exact outer 12 0 b 0 (by omega) hb (Nat.two_pow_pos _) (fun z => absurd z hb0)
theorem cp17 {d np ln od : Nat} {f g : Nat → Nat} (hn : np ≤ 12) (hl : ln ≤ 10) (hf : ∀ i, i < ln → f i < np ∧ g i < np) (ho : od < 2 ^ np) : ∀ m p k l (r : Nat × Nat) (V : Mem), p + m = np → k ≤ p → l < 2 ^ np → (∀ q, q < p → l.testBit q = false) → ENS V f g ln → V.1 8 0 3 = nI od → V.1 8 0 7 = nI r.1 → V.1 8 0 8 = nI r.2 → ∃ V', sem (d + 1) 6 17 [some (.inr (.inr (8, 0))), some (.inl (nI l)), some (.inl (nI k)), none] [] V = some (none, V') ∧ V'.1 8 0 7 = nI (cpN f g ln od m p l r).1 ∧ V'.1 8 0 8 = nI (cpN f g ln od m p l r).2 ∧ (∀ t i k, ¬ (t = 8 ∧ (k = 7 ∨ k = 8)) → V'.1 t i k = V.1 t i k) ∧ V'.2 = V.2 := by
  have hp : 2 ^ np ≤ 2 ^ 12 := Nat.pow_le_pow_right (by omega) hn
  intro m
  induction m with
  | zero =>
    intro p k l r V hm hk hll hz he h3 h7 h8
    have l0 : l = 0 := by
      apply Nat.eq_of_testBit_eq
      intro q
      rw [Nat.zero_testBit]
      by_cases w : q < p
      · exact hz q w
      · exact Nat.testBit_lt_two_pow (Nat.lt_of_lt_of_le hll (Nat.pow_le_pow_right (by omega) (by omega)))
    refine ⟨V, ?_, h7, h8, fun _ _ _ _ => rfl, rfl⟩
    rw [e_Figure_countPieces_17, if_pos (show nI l = 0 by rw [l0]; rfl)]
    split <;> rfl
  | succ m ih =>
    intro p k l r V hm hk hll hz he h3 h7 h8
    by_cases e : l.testBit p = true
    · have lp : 2 ^ p < 2 ^ np := Nat.pow_lt_pow_right (by omega) (by omega)
      have l0 : 0 < l := Nat.pos_of_ne_zero (fun w => by rw [w, Nat.zero_testBit] at e; exact absurd e (by simp))
      have li := itr_lt hf 12 (2 ^ p) lp
      have la : od &&& itr f g ln 12 (2 ^ p) ≤ od := Nat.and_le_left
      have lo := onesN_le (od &&& itr f g ln 12 (2 ^ p)) 12
      have P := c_pieceAround (d := d) hn hl hf he lp (Nat.ne_of_gt (Nat.two_pow_pos p))
      have st := e_Figure_countPieces_17 (d + 1) (nI l) (nI k) V
      rw [if_pos (show nI k < 12 from nI_lt (b := 12) (by omega) (by omega)), if_neg (nI_ne0 l0 (by omega)), low_bit (by omega) (by omega) e (onesN_zero hz), P, bind_some', c_bitCount, bind_some'] at st
      simp (disch := omega) only [mset_n, h3, h7, h8, nI_and, nI_1, nI_clr] at st
      rw [bc12 (by omega), show (2 : Int32) = nI 2 from rfl, pk_div (by omega) (by omega) (by omega), show (1 : Int32) = nI 1 from rfl, imax_nat (by omega) (by omega), nI_add] at st
      have cl : ∀ q, q < p + 1 → (clr l (itr f g ln 12 (2 ^ p))).testBit q = false := by
        intro q hq
        rw [clr_test]
        by_cases w : q = p
        · rw [w, itr_test 12 (2 ^ p) (by rw [Nat.testBit_two_pow]; simp)]
          simp
        · rw [hz q (by omega)]; rfl
      obtain ⟨V', v1, v2, v3, v4, v5⟩ := ih (p + 1) (k + 1) (clr l (itr f g ln 12 (2 ^ p))) (r.1 + 1, r.2 + max 1 (onesN (od &&& itr f g ln 12 (2 ^ p)) 12 / 2)) (mset (mset V.1 8 0 7 (nI (r.1 + 1))) 8 0 8 (nI (r.2 + max 1 (onesN (od &&& itr f g ln 12 (2 ^ p)) 12 / 2))), V.2) (by omega) (by omega) (clr_lt hll) cl ⟨by simp (disch := omega) only [mset_n]; exact he.1, fun i hi => by simp (disch := omega) only [mset_n]; exact he.2 i hi⟩ (by simp (disch := omega) only [mset_n]; exact h3) (by simp (disch := omega) only [mset_n, mset_h]) (by simp (disch := omega) only [mset_h])
      have ce : cpN f g ln od (m + 1) p l r = cpN f g ln od m (p + 1) (clr l (itr f g ln 12 (2 ^ p))) (r.1 + 1, r.2 + max 1 (onesN (od &&& itr f g ln 12 (2 ^ p)) 12 / 2)) := if_pos e
      refine ⟨V', st.trans v1, by rw [ce]; exact v2, by rw [ce]; exact v3, fun t i k q => ?_, v5⟩
      rw [v4 t i k q]
      simp (disch := omega) only [mset_n]
    · have ce : cpN f g ln od (m + 1) p l r = cpN f g ln od m (p + 1) l r := if_neg e
      rw [ce]
      refine ih (p + 1) k l r V (by omega) (by omega) hll (fun q hq => ?_) he h3 h7 h8
      by_cases w : q = p
      · rw [w]; simpa using e
      · exact hz q (by omega)
theorem c_countPieces {d np ln : Nat} {f g : Nat → Nat} {V : Mem} (hn : np ≤ 12) (hl : ln ≤ 10) (hf : ∀ i, i < ln → f i < np ∧ g i < np) (he : ENS V f g ln) (h2 : V.1 8 0 2 = nI (usdN f g ln)) (h3 : V.1 8 0 3 = nI (oddN f g ln)) : ∃ V', clV (d + 2) m_Figure_countPieces [.inr (.inr (8, 0))] V = some V' ∧ V'.1 8 0 7 = nI (pcN f g ln np).1 ∧ V'.1 8 0 8 = nI (pcN f g ln np).2 ∧ (∀ t i k, ¬ (t = 8 ∧ (k = 7 ∨ k = 8)) → V'.1 t i k = V.1 t i k) ∧ V'.2 = V.2 := by
  obtain ⟨V', v1, v2, v3, v4, v5⟩ := cp17 (d := d) hn hl hf (oddN_lt ln hf) np 0 0 (usdN f g ln) (0, 0) (mset (mset V.1 8 0 7 0) 8 0 8 0, V.2) (by omega) (by omega) (usdN_lt ln hf) (fun q hq => by omega) ⟨by simp (disch := omega) only [mset_n]; exact he.1, fun i hi => by simp (disch := omega) only [mset_n]; exact he.2 i hi⟩ (by simp (disch := omega) only [mset_n]; exact h3) (by simp (disch := omega) only [mset_n, mset_h]; rfl) (by simp (disch := omega) only [mset_h]; rfl)
  refine ⟨V', clV_of ((e_Figure_countPieces_0 (d + 1) V).trans ?_), v2, v3, fun t i k q => ?_, v5⟩
  · rw [h2]; exact v1
  · rw [v4 t i k q]
    simp (disch := omega) only [mset_n]
def FIG (V : Mem) (ce br f g : Nat → Nat) (np ln : Nat) : Prop := V.1 8 0 1 = nI ln ∧ V.1 8 0 2 = nI (usdN f g ln) ∧ V.1 8 0 3 = nI (oddN f g ln) ∧ V.1 8 0 4 = nI (litN br (usdN f g ln) np) ∧ V.1 8 0 5 = nI (sumLen ce f g ln) ∧ V.1 8 0 6 = nI (maxLen ce f g ln) ∧ V.1 8 0 7 = nI (pcN f g ln np).1 ∧ V.1 8 0 8 = nI (pcN f g ln np).2
def MEA (V0 : Mem) (ce f g : Nat → Nat) (ln k : Nat) (V : Mem) : Prop := V.1 8 0 1 = nI ln ∧ V.1 8 0 2 = nI (usdN f g k) ∧ V.1 8 0 3 = nI (oddN f g k) ∧ V.1 8 0 5 = nI (sumLen ce f g k) ∧ V.1 8 0 6 = nI (maxLen ce f g k) ∧ (∀ i, i < k → V.1 9 0 i = nI (endB f g i)) ∧ FrF V0 V
theorem c_measure {d s j ki a wm ln : Nat} {f g : Nat → Nat} {V : Mem} {K : SKY} (h : CS V s K) (ok : okK K) (hp : CPar V j ki a wm ln f g) (hl : ln ≤ 10) (hf : ∀ i, i < ln → f i < kNP K ∧ g i < kNP K ∧ f i ≠ g i) : ∃ V', clV (d + 3) m_Figure_measure [.inr (.inr (8, 0)), .inr (.inr (1, s)), .inr (.inr (5, j))] V = some V' ∧ FIG V' (kCe K) (kBr K) f g (kNP K) ln ∧ FrF V V' := by
  have hP := ok.1
  have hpw : 2 ^ kNP K ≤ 2 ^ 12 := Nat.pow_le_pow_right (by omega) hP
  have hc : ∀ n, n ≤ ln → ∀ i, i < n → kCe K (f i) < 100 ∧ kCe K (g i) < 100 := fun n hn i hi => ⟨(ok.2.2.2.1 _ (hf i (by omega)).1).1, (ok.2.2.2.1 _ (hf i (by omega)).2.1).1⟩
  have hf2 : ∀ i, i < ln → f i < kNP K ∧ g i < kNP K := fun i hi => ⟨(hf i hi).1, (hf i hi).2.1⟩
  have L := loopI ln (MEA V (kCe K) f g ln) (fun k W => sem (d + 2) 5 30 [some (.inr (.inr (8, 0))), some (.inr (.inr (1, s))), some (.inr (.inr (5, j))), some (.inl (nI k)), none] [] W) (fun k W hk hW => ?_) (mset (mset (mset (mset (mset V.1 8 0 1 (V.1 5 j 5)) 8 0 2 0) 8 0 3 0) 8 0 5 0) 8 0 6 0, V.2) ?_
  · obtain ⟨V1, ⟨m1, m2, m3, m4, m5, m6, m7⟩, st⟩ := L
    have st' : sem (d + 2) 5 30 [some (.inr (.inr (8, 0))), some (.inr (.inr (1, s))), some (.inr (.inr (5, j))), some (.inl (nI 0)), none] [] (mset (mset (mset (mset (mset V.1 8 0 1 (V.1 5 j 5)) 8 0 2 0) 8 0 3 0) 8 0 5 0) 8 0 6 0, V.2) = sem (d + 2) 5 30 [some (.inr (.inr (8, 0))), some (.inr (.inr (1, s))), some (.inr (.inr (5, j))), some (.inl (nI ln)), none] [] V1 := st
    have lu := usdN_lt ln hf2
    have c1 := h.frf ok m7
    obtain ⟨V2, v1, v2, v3, v4, v5⟩ := c_countPieces (d := d) (V := (mset V1.1 8 0 4 (nI (litN (kBr K) (usdN f g ln) (kNP K))), V1.2)) hP hl hf2 ⟨by simp (disch := omega) only [mset_n]; exact m1, fun i hi => by simp (disch := omega) only [mset_n]; exact m6 i hi⟩ (by simp (disch := omega) only [mset_n]; exact m2) (by simp (disch := omega) only [mset_n]; exact m3)
    refine ⟨V2, clV_of ((e_Figure_measure_0 (d + 2) s j V).trans (st'.trans ?_)), ⟨?_, ?_, ?_, ?_, ?_, ?_, v2, v3⟩, m7.trans ⟨fun t i k q => ?_, v5⟩⟩
    · rw [e_Figure_measure_30, m1, if_neg (nI_nlt (Nat.le_refl _) (by omega)), m2, c_lightOf (by omega) c1 ok, bind_some', v1, bind_some']
    · rw [v4 _ _ _ (by omega)]; simp (disch := omega) only [mset_n]; exact m1
    · rw [v4 _ _ _ (by omega)]; simp (disch := omega) only [mset_n]; exact m2
    · rw [v4 _ _ _ (by omega)]; simp (disch := omega) only [mset_n]; exact m3
    · rw [v4 _ _ _ (by omega)]; simp (disch := omega) only [mset_h]
    · rw [v4 _ _ _ (by omega)]; simp (disch := omega) only [mset_n]; exact m4
    · rw [v4 _ _ _ (by omega)]; simp (disch := omega) only [mset_n]; exact m5
    · rw [v4 _ _ _ (by omega)]; simp (disch := omega) only [mset_n]
  · obtain ⟨m1, m2, m3, m4, m5, m6, m7⟩ := hW
    have par := hp.frf m7
    have cs := h.frf ok m7
    obtain ⟨f1, f2, f3⟩ := hf k hk
    have a1 := sumLen_le k (hc k (by omega))
    have a2 := maxLen_le k (hc k (by omega))
    have a3 := lenN_le (hc ln (Nat.le_refl _) k hk).1 (hc ln (Nat.le_refl _) k hk).2
    have st := e_Figure_measure_30 (d + 2) s j (nI k) W
    rw [m1, if_pos (nI_lt hk (by omega)), nI_clamp (by omega), if_neg (nI_in' (N := 10) (by omega) (by omega)), if_neg (nI_in' (N := 10) (by omega) (by omega)), (par.2.2.2.2 k hk).1, (par.2.2.2.2 k hk).2, c_length cs ok f1 f2, bind_some', c_ends par hl hk (by omega) (by omega), bind_some', if_neg (nI_in' (N := 10) (by omega) (by omega)), if_neg (nI_in' (N := 10) (by omega) (by omega)), if_neg (nI_in' (N := 10) (by omega) (by omega)), nI_1] at st
    simp (disch := omega) only [mset_n, mset_h, m2, m3, m4, m5, nI_or, nI_xor, nI_add, imax_nat] at st
    refine ⟨_, ⟨?_, ?_, ?_, ?_, ?_, fun i hi => ?_, ?_⟩, st⟩
    · simp (disch := omega) only [mset_n]; exact m1
    · simp (disch := omega) only [mset_n, mset_h]; rfl
    · simp (disch := omega) only [mset_n, mset_h]; rfl
    · simp (disch := omega) only [mset_n, mset_h]; rfl
    · simp (disch := omega) only [mset_n, mset_h]; rfl
    · by_cases e : i = k
      · subst e
        simp (disch := omega) only [mset_n, mset_h]; rfl
      · simp (disch := omega) only [mset_n]; exact m6 i (by omega)
    · exact ((((m7.set (by omega)).set (by omega)).set (by omega)).set (by omega)).set (by omega)
  · refine ⟨?_, ?_, ?_, ?_, ?_, fun i hi => by omega, ?_⟩
    · simp (disch := omega) only [mset_n, mset_h]; exact hp.2.2.2.1
    · simp (disch := omega) only [mset_n, mset_h]; rfl
    · simp (disch := omega) only [mset_n, mset_h]; rfl
    · simp (disch := omega) only [mset_n, mset_h]; rfl
    · simp (disch := omega) only [mset_n, mset_h]; rfl
    · exact ((((FrF.rfl.set (by omega)).set (by omega)).set (by omega)).set (by omega)).set (by omega)
theorem c_isClosed {d np ln : Nat} {ce br f g : Nat → Nat} {V : Mem} (h : FIG V ce br f g np ln) (hn : np ≤ 12) (hl : ln ≤ 10) (hf : ∀ i, i < ln → f i < np ∧ g i < np) : clI (d + 1) m_Figure_isClosed [.inr (.inr (8, 0))] V = some (bI (0 < ln ∧ oddN f g ln = 0), V) := by
  have hpw : 2 ^ np ≤ 2 ^ 12 := Nat.pow_le_pow_right (by omega) hn
  have lo := oddN_lt ln hf
  refine clI_of ((e_Figure_isClosed_0 d V).trans ?_)
  rw [h.1, h.2.2.1]
  by_cases a : 0 < ln
  · rw [if_pos (show 0 < nI ln from nI_lt (a := 0) a (by omega))]
    by_cases b : oddN f g ln = 0
    · rw [if_pos (by rw [b]; rfl), bI_t ⟨a, b⟩]
    · rw [if_neg (nI_ne0 (by omega) (by omega)), bI_f (fun w => b w.2)]
  · rw [if_neg (show ¬ 0 < nI ln from nI_nlt (b := ln) (a := 0) (by omega) (by omega)), bI_f (fun w => a w.1)]
theorem c_lessStrokes {d np ln m : Nat} {ce br f g : Nat → Nat} {V : Mem} (h : FIG V ce br f g np ln) (hn : np ≤ 12) (hm : m < 1000) : clI (d + 1) m_Figure_lessStrokes [.inr (.inr (8, 0)), .inl (nI m)] V = some (nI (m - 2 * (pcN f g ln np).2), V) := by
  have := (pcN_le f g ln np).2
  refine clI_of ((e_Figure_lessStrokes_0 d _ V).trans ?_)
  rw [h.2.2.2.2.2.2.2, show (2 : Int32) = nI 2 from rfl, pk_mul, imax0_sub (by omega) (by omega)]
theorem c_worthTo {d np ln ki a : Nat} {ce br f g : Nat → Nat} {V : Mem} (h : FIG V ce br f g np ln) (hn : np ≤ 12) (hl : ln ≤ 10) (hf : ∀ i, i < ln → f i < np ∧ g i < np) (hc : ∀ i, i < ln → ce (f i) < 100 ∧ ce (g i) < 100) (hb : ∀ p, p < np → br p ≤ 9) (hk : ki < 6) : clI (d + 2) m_Figure_worthTo [.inr (.inr (8, 0)), .inl (nI ki), .inl (nI a)] V = some (nI (wrt ce br f g np ki a ln), V) := by
  have b1 := litN_le (m := usdN f g ln) np hb
  have b2 := maxLen_le ln hc
  have b3 := sumLen_le ln hc
  have nk : ∀ n, n < 6 → ki ≠ n → ¬ nI ki = nI n := fun n hn hne w => hne ((nI_eq (by omega) (by omega)).mp w)
  refine clI_of ((e_Figure_worthTo_0 (d + 1) _ _ V).trans ?_)
  obtain ⟨h1, h2, h3, h4, h5, h6, h7, h8⟩ := id h
  rw [h4, h1, nI_add]
  unfold wrt worN
  by_cases k1 : ki = 1
  · subst k1
    rw [if_pos (show nI 1 = 1 from rfl), if_pos rfl, h6, show (3 : Int32) = nI 3 from rfl, pk_mul, nI_add]
  · rw [if_neg (show ¬ nI ki = 1 from nk 1 (by omega) k1), if_neg k1]
    by_cases k2 : ki = 2
    · subst k2
      rw [if_pos (show nI 2 = 2 from rfl), if_neg (by omega), if_pos rfl, c_lessStrokes h hn (by omega), bind_some']
    · rw [if_neg (show ¬ nI ki = 2 from nk 2 (by omega) k2)]
      by_cases k3 : ki = 3
      · subst k3
        rw [if_pos (show nI 3 = 3 from rfl), if_pos rfl, h6, show (3 : Int32) = nI 3 from rfl, pk_mul, nI_add, show (2 : Int32) = nI 2 from rfl, pk_mul]
      · rw [if_neg (show ¬ nI ki = 3 from nk 3 (by omega) k3), if_neg k3, if_neg k2]
        by_cases k4 : ki = 4
        · subst k4
          rw [if_pos (show nI 4 = 4 from rfl), if_pos rfl, c_lessStrokes h hn (by omega), bind_some', h5, imax0_sub (by omega) (by omega)]
        · rw [if_neg (show ¬ nI ki = 4 from nk 4 (by omega) k4), if_neg k4]
          by_cases k5 : ki = 5
          · subst k5
            rw [if_pos (show nI 5 = 5 from rfl), c_isClosed h hn hl hf, bind_some']
            by_cases e : 0 < ln ∧ oddN f g ln = 0
            · rw [bI_t e, if_neg one_ne, if_pos ⟨rfl, e⟩, nI_add]
            · rw [bI_f e, if_pos rfl, if_neg (fun w => e w.2)]
          · rw [if_neg (show ¬ nI ki = 5 from nk 5 (by omega) k5), if_neg (fun w => k5 w.1)]
