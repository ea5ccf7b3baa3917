/-! whose: the reference; the two -/
abbrev p47 (t _i _k : Nat) : Prop := t = 47
theorem c_M_isPtL {d n : Nat} (hn : n ≤ 12) (z : Int64) {V : Mem} (h : V.1 32 0 174 = nI n) : clI (d + 2) m_M_isPoint [.inr (.inr (30, 0)), .inr (.inl (z))] V = some (bI (isPt n z), V) := by
  refine clI_of ((e_M_isPoint_0 (d + 1) z V).trans ?_)
  have hh : (Int32.toInt64 (V.1 32 0 174 - 1)).toInt = (n : Int) - 1 := by
    rw [Int32.toInt_toInt64, h]
    cases n with
    | zero => decide
    | succ n => rw [nI_pred, nI_toInt (by omega)]; omega
  rw [c_M_isInL, bind_some', if_pos (bI_01 _)]
  have e : (¬ z < 0 ∧ ¬ Int32.toInt64 (V.1 32 0 174 - 1) < z) ↔ isPt n z := by
    unfold isPt
    rw [Int64.lt_iff_toInt_lt, Int64.lt_iff_toInt_lt, Int64.lt_iff_toInt_lt, hh, pk_lT (by omega)]
    omega
  rw [bI_same e]
theorem mwipe {d : Nat} (x1 x2 x3 : Int32) (V : Mem) : ∃ W, sem d 212 76 [some (.inr (.inr (30, 0))), some (.inl x1), some (.inl x2), some (.inl x3), some (.inl 0), none, none, none, none] [] V = sem d 212 101 [some (.inr (.inr (30, 0))), some (.inl x1), some (.inl x2), some (.inl x3), some (.inl 0), none, none, none, none] [] W ∧ (∀ k, k < 144 → W.1 47 0 k = 0) ∧ Fr p47 V W := by
  obtain ⟨W, ⟨w1, w2⟩, w3⟩ := loopI 144 (fun n W => (∀ k, k < n → W.1 47 0 k = 0) ∧ Fr p47 V W) (fun n W => sem d 212 76 [some (.inr (.inr (30, 0))), some (.inl x1), some (.inl x2), some (.inl x3), some (.inl (nI n)), none, none, none, none] [] W) (fun n W hn hW => by
    obtain ⟨w1, w2⟩ := hW
    have st := e_M_whose_76 d x1 x2 x3 (nI n) W
    rw [if_pos (show nI n < 144 from nI_lt (b := 144) hn (by omega)), if_neg (nI_in (N := 144) (by omega) (by omega)), nI_clamp (by omega), nI_1] at st
    refine ⟨_, ⟨fun k hk => ?_, w2.set rfl⟩, st⟩
    by_cases e : k = n
    · subst e; simp (disch := omega) only [mset_h]
    · simp (disch := omega) only [mset_n]; exact w1 k (by omega)) V ⟨fun k hk => by omega, Fr.rfl⟩
  refine ⟨W, Eq.trans w3 ?_, w1, w2⟩
  show sem _ _ _ _ _ _ = _
  rw [e_M_whose_76, if_neg (by decide)]
def TM (u v : Nat → Nat) (n : Nat) (W : Mem) : Prop := ∀ p q, p < q → q < 12 → W.1 47 0 (12 * p + q) = bI (memP u v p q n = true)
theorem mtell {d s n np : Nat} (hs : s < 8) (hn : n ≤ 20) (hP : np ≤ 12) (x3 : Int32) {V : Mem} (hv : V.1 32 0 174 = nI np) (h0 : ∀ k, k < 144 → V.1 47 0 k = 0) {E : Nat → Int64} (hE : ∀ k, k < 2 * n → V.2 44 0 (40 * s + k) = E k) {m : Nat} (hm : m ≤ n) (hg : ∀ k, k < m → goodP np E k) : ∃ W, sem (d + 2) 212 101 [some (.inr (.inr (30, 0))), some (.inl (nI s)), some (.inl (nI n)), some (.inl x3), some (.inl 0), none, none, none, none] [] V = sem (d + 2) 212 101 [some (.inr (.inr (30, 0))), some (.inl (nI s)), some (.inl (nI n)), some (.inl x3), some (.inl (nI m)), none, none, none, none] [] W ∧ TM (fun k => toN (E (2 * k))) (fun k => toN (E (2 * k + 1))) m W ∧ Fr p47 V W := by
  obtain ⟨W, ⟨w1, w2⟩, w3⟩ := loopI m (fun k W => TM (fun k => toN (E (2 * k))) (fun k => toN (E (2 * k + 1))) k W ∧ Fr p47 V W) (fun k W => sem (d + 2) 212 101 [some (.inr (.inr (30, 0))), some (.inl (nI s)), some (.inl (nI n)), some (.inl x3), some (.inl (nI k)), none, none, none, none] [] W) (fun k W hk hW => by
    obtain ⟨w1, w2⟩ := hW
    obtain ⟨g1, g2, g3⟩ := hg k hk
    obtain ⟨a1, a2⟩ := isPt_ex hP g1
    obtain ⟨b1, b2⟩ := isPt_ex hP g2
    have np2 : W.1 32 0 174 = nI np := (w2.1 32 0 174 (by unfold p47; omega)).trans hv
    have st := e_M_whose_101 (d + 2) (nI s) (nI n) x3 (nI k) W
    have q1 : (40 * nI s + 2 * nI k : Int32) = nI (40 * s + 2 * k) := by simp only [fa_lit, pk_mul, nI_add]
    have r1 : W.2 44 0 (40 * s + 2 * k) = E (2 * k) := by rw [w2.2]; exact hE (2 * k) (by omega)
    have r2 : W.2 44 0 (40 * s + 2 * k + 1) = E (2 * k + 1) := by rw [w2.2, Nat.add_assoc]; exact hE (2 * k + 1) (by omega)
    rw [if_pos (nI_lt (by omega) (by omega)), q1, nI_1, if_neg (nI_in (N := 320) (by omega) (by omega)), if_neg (nI_in (N := 320) (by omega) (by omega)), nI_clamp (by omega), nI_clamp (by omega), r1, r2, c_M_isPtL hP _ np2, bind_some', bI_t g1, if_neg one_ne, c_M_isPtL hP _ np2, bind_some', bI_t g2, if_neg one_ne, if_neg (fun w => g3 ((lg_cmp_eq _ _).mp w))] at st
    have ne : toN (E (2 * k)) ≠ toN (E (2 * k + 1)) := fun w => g3 (by rw [a1, b1]; exact congrArg lN w)
    have a1' : E (2 * k) = lN (toN (E (2 * k))) := a1
    have b1' : E (2 * k + 1) = lN (toN (E (2 * k + 1))) := b1
    have a2' : toN (E (2 * k)) < np := a2
    have b2' : toN (E (2 * k + 1)) < np := b2
    have ix : Int64.toInt32 (12 * lmin (E (2 * k)) (E (2 * k + 1)) + lmax (E (2 * k)) (E (2 * k + 1))) = nI (12 * min (toN (E (2 * k))) (toN (E (2 * k + 1))) + max (toN (E (2 * k))) (toN (E (2 * k + 1)))) := by
      rw [a1', b1']
      have ln : ∀ z, toN (lN z) = z ∨ ¬ z < 2 ^ 63 := fun z => by
        by_cases q : z < 2 ^ 63
        · exact Or.inl (by unfold toN; rw [pk_lT q]; rfl)
        · exact Or.inr q
      generalize toN (E (2 * k)) = x at *
      generalize toN (E (2 * k + 1)) = y at *
      rw [(ln x).resolve_right (by omega), (ln y).resolve_right (by omega)]
      unfold lmin lmax
      rw [show (12 : Int64) = lN 12 from rfl]
      by_cases q : y < x
      · have q' : lN y < lN x := (pk_lLT (by omega) (by omega)).mpr q
        rw [if_pos q', if_pos q', lN_mul, lN_add, lN_i, show min x y = y by omega, show max x y = x by omega]
      · have q' : ¬ lN y < lN x := fun w => q ((pk_lLT (by omega) (by omega)).mp w)
        rw [if_neg q', if_neg q', lN_mul, lN_add, lN_i, show min x y = x by omega, show max x y = y by omega]
    rw [ix, if_neg (nI_in (N := 144) (by omega) (by omega)), nI_clamp (by omega), nI_1] at st
    refine ⟨_, ⟨fun p q hpq hq => ?_, w2.set rfl⟩, st⟩
    show (mset W.1 47 0 (12 * min (toN (E (2 * k))) (toN (E (2 * k + 1))) + max (toN (E (2 * k))) (toN (E (2 * k + 1)))) 1) 47 0 (12 * p + q) = bI ((memP (fun k => toN (E (2 * k))) (fun k => toN (E (2 * k + 1))) p q k || decide (eqL (toN (E (2 * k))) (toN (E (2 * k + 1))) p q)) = true)
    by_cases e : eqL (toN (E (2 * k))) (toN (E (2 * k + 1))) p q
    · rw [mset_h ⟨rfl, rfl, by omega⟩, decide_eq_true e, Bool.or_true, bI_t rfl]
    · rw [mset_n (by omega), decide_eq_false e, Bool.or_false]
      exact w1 p q hpq hq) V ⟨fun p q hpq hq => by rw [h0 _ (by omega)]; rfl, Fr.rfl⟩
  exact ⟨W, w3, w1, w2⟩
theorem mbad {d s n np : Nat} (hs : s < 8) (hn : n ≤ 20) (hP : np ≤ 12) (x3 : Int32) {W : Mem} (hv : W.1 32 0 174 = nI np) {E : Nat → Int64} (hE : ∀ k, k < 2 * n → W.2 44 0 (40 * s + k) = E k) {k : Nat} (hk : k < n) (hb : ¬ goodP np E k) : sem (d + 2) 212 101 [some (.inr (.inr (30, 0))), some (.inl (nI s)), some (.inl (nI n)), some (.inl x3), some (.inl (nI k)), none, none, none, none] [] W = some (some (.inl (-5)), MRf W 3) := by
  have st := e_M_whose_101 (d + 2) (nI s) (nI n) x3 (nI k) W
  have q1 : (40 * nI s + 2 * nI k : Int32) = nI (40 * s + 2 * k) := by simp only [fa_lit, pk_mul, nI_add]
  have r1 : W.2 44 0 (40 * s + 2 * k) = E (2 * k) := hE (2 * k) (by omega)
  have r2 : W.2 44 0 (40 * s + 2 * k + 1) = E (2 * k + 1) := by rw [Nat.add_assoc]; exact hE (2 * k + 1) (by omega)
  rw [if_pos (nI_lt (by omega) (by omega)), q1, nI_1, if_neg (nI_in (N := 320) (by omega) (by omega)), if_neg (nI_in (N := 320) (by omega) (by omega)), nI_clamp (by omega), nI_clamp (by omega), r1, r2, c_M_isPtL hP _ hv, bind_some'] at st
  rw [st]
  by_cases g1 : isPt np (E (2 * k))
  · rw [bI_t g1, if_neg one_ne, c_M_isPtL hP _ hv, bind_some']
    by_cases g2 : isPt np (E (2 * k + 1))
    · rw [bI_t g2, if_neg one_ne, if_pos ((lg_cmp_eq _ _).mpr (Classical.not_not.mp (fun w => hb ⟨g1, g2, w⟩))), e_M_whose_167, c_M_ref5, bind_some']
    · rw [bI_f g2, if_pos rfl, e_M_whose_167, c_M_ref5, bind_some']
  · rw [bI_f g1, if_pos rfl, e_M_whose_167, c_M_ref5, bind_some']
theorem c_M_unlike {d x n : Nat} {u v : Nat → Nat} {V : Mem} {K : SKY} (h : MS V 32 0 K) (ok : okK K) (hx : x < kNX K) (ht : TM u v n V) : clI (d + 3) m_M_unlike [.inr (.inr (30, 0)), .inl (nI x)] V = some (nI (unN u v n (kF K x) (kG K x) (kLn K x) (kNP K)), V) := by
  have hP := ok.1
  refine clI_of ((e_M_unlike_0 (d + 2) _ V).trans ?_)
  refine loopN (kNP K) (fun p => sem (d + 2) 211 4 [some (.inr (.inr (30, 0))), some (.inl (nI x)), some (.inl (nI (S1 (fun p => S1 (fun q => if p < q then (if memP u v p q n = memP (kF K x) (kG K x) p q (kLn K x) then 0 else 1) else 0) (kNP K)) p))), some (.inl (nI p)), none] [] V) _ (fun p hp => ?_) ?_
  · show sem _ _ _ _ _ _ = sem (d + 2) 211 4 [some (.inr (.inr (30, 0))), some (.inl (nI x)), some (.inl (nI (S1 (fun p => S1 (fun q => if p < q then (if memP u v p q n = memP (kF K x) (kG K x) p q (kLn K x) then 0 else 1) else 0) (kNP K)) p + S1 (fun q => if p < q then (if memP u v p q n = memP (kF K x) (kG K x) p q (kLn K x) then 0 else 1) else 0) (kNP K)))), some (.inl (nI (p + 1))), none] [] V
    rw [e_M_unlike_4, h.np, if_pos (nI_lt hp (by omega)), nI_1]
    generalize S1 (fun p => S1 (fun q => if p < q then (if memP u v p q n = memP (kF K x) (kG K x) p q (kLn K x) then 0 else 1) else 0) (kNP K)) p = B
    have z : S1 (fun q => if p < q then (if memP u v p q n = memP (kF K x) (kG K x) p q (kLn K x) then 0 else 1) else 0) (p + 1) = 0 := S1_zero _ (fun q hq => if_neg (by omega))
    have main : ∀ m q, p < q → q + m = kNP K → sem (d + 2) 211 21 [some (.inr (.inr (30, 0))), some (.inl (nI x)), some (.inl (nI (B + S1 (fun q => if p < q then (if memP u v p q n = memP (kF K x) (kG K x) p q (kLn K x) then 0 else 1) else 0) q))), some (.inl (nI p)), some (.inl (nI q))] [] V = sem (d + 2) 211 4 [some (.inr (.inr (30, 0))), some (.inl (nI x)), some (.inl (nI (B + S1 (fun q => if p < q then (if memP u v p q n = memP (kF K x) (kG K x) p q (kLn K x) then 0 else 1) else 0) (kNP K)))), some (.inl (nI (p + 1))), none] [] V := by
      intro m
      induction m with
      | zero =>
        intro q hpq hq
        obtain rfl : q = kNP K := by omega
        rw [e_M_unlike_21, h.np, if_neg (nI_nlt (Nat.le_refl _) (by omega)), nI_1]
      | succ m ih =>
        intro q hpq hq
        refine Eq.trans ?_ (ih (q + 1) (by omega) (by omega))
        have q1 : (12 * nI p + nI q : Int32) = nI (12 * p + q) := by simp only [fa_lit, pk_mul, nI_add]
        have sp : S1 (fun q => if p < q then (if memP u v p q n = memP (kF K x) (kG K x) p q (kLn K x) then 0 else 1) else 0) (q + 1) = S1 (fun q => if p < q then (if memP u v p q n = memP (kF K x) (kG K x) p q (kLn K x) then 0 else 1) else 0) q + (if memP u v p q n = memP (kF K x) (kG K x) p q (kLn K x) then 0 else 1) := by
          show S1 _ q + (if p < q then _ else 0) = _
          rw [if_pos hpq]
        rw [sp]
        generalize S1 (fun q => if p < q then (if memP u v p q n = memP (kF K x) (kG K x) p q (kLn K x) then 0 else 1) else 0) q = C
        rw [e_M_unlike_21, h.np, if_pos (nI_lt (by omega) (by omega)), q1, if_neg (nI_in (N := 144) (by omega) (by omega)), nI_clamp (by omega), ht p q hpq (by omega)]
        have fin : ∀ zd : Bool, zd = memP (kF K x) (kG K x) p q (kLn K x) → sem (d + 2) 211 64 [some (.inr (.inr (30, 0))), some (.inl (nI x)), some (.inl (nI (B + C))), some (.inl (nI p)), some (.inl (nI q))] [.inl (bI (zd = true)), .inl (bI (memP u v p q n = true)), .inl (nI (B + C))] V = sem (d + 2) 211 21 [some (.inr (.inr (30, 0))), some (.inl (nI x)), some (.inl (nI (B + (C + (if memP u v p q n = memP (kF K x) (kG K x) p q (kLn K x) then 0 else 1))))), some (.inl (nI p)), some (.inl (nI (q + 1)))] [] V := by
          rintro zd rfl
          rw [e_M_unlike_64]
          by_cases e : memP u v p q n = memP (kF K x) (kG K x) p q (kLn K x)
          · rw [if_pos e, e, if_pos rfl, e_M_unlike_72, nI_1, Int32.add_zero]
            rfl
          · have e' : ¬ bI (memP u v p q n = true) = bI (memP (kF K x) (kG K x) p q (kLn K x) = true) := fun w => by
              cases h1 : memP u v p q n <;> cases h2 : memP (kF K x) (kG K x) p q (kLn K x) <;> rw [h1, h2] at w e
              · exact e rfl
              · exact absurd w (by decide)
              · exact absurd w (by decide)
              · exact e rfl
            rw [if_neg e, if_neg e', e_M_unlike_72, nI_1, nI_1, Nat.add_assoc]
        by_cases D : memP (kF K x) (kG K x) p q (kLn K x) = true
        · obtain ⟨j, hj, D2⟩ := (memP_iff _).mp D
          have r1 : (∀ i, i < kLn K x → ¬ eqL (kF K x i) (kG K x i) p q) → nI j = -1 := fun w => absurd D2 (w j hj)
          have r2 : ∀ i, i < kLn K x → eqL (kF K x i) (kG K x i) p q → nI j = nI i := fun i hi w => by
            have := (ok.2.2.2.2 x hx).2.2 j i hj hi (by omega)
            rw [this]
          have hl := ok.toL.2.2 x hx
          rw [c_M_drawn h ok hx (by omega) (by omega) r1 r2, bind_some', if_neg (neg1_nI (by omega))]
          exact fin true D.symm
        · have D' : ∀ i, i < kLn K x → ¬ eqL (kF K x i) (kG K x i) p q := fun i hi w => D ((memP_iff _).mpr ⟨i, hi, w⟩)
          rw [c_M_drawn (r := -1) h ok hx (by omega) (by omega) (fun _ => rfl) (fun i hi w => absurd w (D' i hi)), bind_some', if_pos rfl]
          exact fin false (by simpa using D)
    have := main (kNP K - (p + 1)) (p + 1) (by omega) (by omega)
    rw [z] at this
    exact this
  · show sem _ _ _ _ _ _ = _
    rw [e_M_unlike_4, h.np, if_neg (nI_nlt (Nat.le_refl _) (by omega))]
    rfl
theorem c_M_best {d n : Nat} {u v : Nat → Nat} (x1 x2 x3 : Int32) {V : Mem} {K : SKY} (h : MS V 32 0 K) (ok : okK K) (h0 : 0 < kNX K) (ht : TM u v n V) (bd : ∀ x, x < kNX K → unN u v n (kF K x) (kG K x) (kLn K x) (kNP K) ≤ 30) : sem (d + 3) 212 230 [some (.inr (.inr (30, 0))), some (.inl x1), some (.inl x2), some (.inl x3), some (.inl 0), some (.inl 1), none, none, none] [] V = some (some (.inl (if x3 = 0 then nI (bsm (fun x => unN u v n (kF K x) (kG K x) (kLn K x) (kNP K)) (kNX K - 1)) else nI ((fun x => unN u v n (kF K x) (kG K x) (kLn K x) (kNP K)) (bsm (fun x => unN u v n (kF K x) (kG K x) (kLn K x) (kNP K)) (kNX K - 1))))), V) := by
  have hX := ok.2.1
  have main : ∀ m k, k + 1 + m = kNX K → sem (d + 3) 212 230 [some (.inr (.inr (30, 0))), some (.inl x1), some (.inl x2), some (.inl x3), some (.inl (nI (bsm (fun x => unN u v n (kF K x) (kG K x) (kLn K x) (kNP K)) k))), some (.inl (nI (k + 1))), none, none, none] [] V = some (some (.inl (if x3 = 0 then nI (bsm (fun x => unN u v n (kF K x) (kG K x) (kLn K x) (kNP K)) (kNX K - 1)) else nI ((fun x => unN u v n (kF K x) (kG K x) (kLn K x) (kNP K)) (bsm (fun x => unN u v n (kF K x) (kG K x) (kLn K x) (kNP K)) (kNX K - 1))))), V) := by
    intro m
    induction m with
    | zero =>
      intro k hk
      have bl := bsm_le (fun x => unN u v n (kF K x) (kG K x) (kLn K x) (kNP K)) k
      rw [e_M_whose_230, h.nx, if_neg (nI_nlt (by omega) (by omega)), show kNX K - 1 = k by omega]
      by_cases e : x3 = 0
      · rw [if_pos e, if_pos e]
      · rw [if_neg e, if_neg e, c_M_unlike h ok (by omega) ht, bind_some']
    | succ m ih =>
      intro k hk
      have bl := bsm_le (fun x => unN u v n (kF K x) (kG K x) (kLn K x) (kNP K)) k
      have b1 := bd (k + 1) (by omega)
      have b2 := bd (bsm (fun x => unN u v n (kF K x) (kG K x) (kLn K x) (kNP K)) k) (by omega)
      refine Eq.trans ?_ (ih (k + 1) (by omega))
      rw [e_M_whose_230, h.nx, if_pos (nI_lt (by omega) (by omega)), c_M_unlike h ok (show k + 1 < kNX K by omega) ht, bind_some', c_M_unlike h ok (show bsm (fun x => unN u v n (kF K x) (kG K x) (kLn K x) (kNP K)) k < kNX K by omega) ht, bind_some']
      by_cases e : unN u v n (kF K (k + 1)) (kG K (k + 1)) (kLn K (k + 1)) (kNP K) < unN u v n (kF K (bsm (fun x => unN u v n (kF K x) (kG K x) (kLn K x) (kNP K)) k)) (kG K (bsm (fun x => unN u v n (kF K x) (kG K x) (kLn K x) (kNP K)) k)) (kLn K (bsm (fun x => unN u v n (kF K x) (kG K x) (kLn K x) (kNP K)) k)) (kNP K)
      · have be : bsm (fun x => unN u v n (kF K x) (kG K x) (kLn K x) (kNP K)) (k + 1) = k + 1 := if_pos e
        rw [if_pos (nI_lt e (by omega)), e_M_whose_265, nI_1, be]
      · have be : bsm (fun x => unN u v n (kF K x) (kG K x) (kLn K x) (kNP K)) (k + 1) = bsm (fun x => unN u v n (kF K x) (kG K x) (kLn K x) (kNP K)) k := if_neg e
        rw [if_neg (nI_nlt (by omega) (by omega)), e_M_whose_265, nI_1, be]
  exact main (kNX K - 1) 0 (by omega)
theorem Fr.mrf {P : Nat → Nat → Nat → Prop} {V W : Mem} (h : Fr P V W) (hp : ∀ i k, ¬ P 31 i k) (j : Nat) : Fr P (MRf V j) (MRf W j) := by
  refine ⟨fun t i k q => ?_, h.2⟩
  show mset W.1 31 0 (j + 2) (W.1 31 0 (j + 2) + 1) t i k = mset V.1 31 0 (j + 2) (V.1 31 0 (j + 2) + 1) t i k
  by_cases e : t = 31 ∧ i = 0 ∧ k = j + 2
  · rw [mset_h e, mset_h e, h.1 31 0 (j + 2) (hp _ _)]
  · rw [mset_n e, mset_n e]
    exact h.1 t i k q
theorem pm_whose (SL : Nat) (xs : Nat → Int32) (a1 : Int32) (a2 : Int32) (a3 : Int32) : PMI SL xs m_C_whose m_M_whose [.inl a1, .inl a2, .inl a3] := by
  intro V h
  obtain ⟨K, k1, k2, k3, k4⟩ := h.1
  have hX := k1.2.1
  have hP := k1.1
  by_cases B : inR 8 a1 ∧ inR 21 a2 ∧ inR 2 a3
  · obtain ⟨s, hs, rfl⟩ := (ix_or a1 (n := 8) (by omega)).resolve_left (fun w => w B.1)
    obtain ⟨n, hn, rfl⟩ := (ix_or a2 (n := 21) (by omega)).resolve_left (fun w => w B.2.1)
    obtain ⟨z, hz, rfl⟩ := (ix_or a3 (n := 2) (by omega)).resolve_left (fun w => w B.2.2)
    have cl := e_C_whose_0 29 (nI s) (nI n) (nI z) V
    rw [c_C_isShelf, bind_some', bI_t B.1, if_neg one_ne, if_neg (nI_pos (by omega)), if_neg (show ¬ 20 < nI n from nI_nlt (a := 20) (by omega) (by omega)), if_neg (nI_pos (by omega)), if_neg (show ¬ 1 < nI z from nI_nlt (a := 1) (by omega) (by omega)), if_neg (nI_in (N := 8) (by omega) (by omega)), nI_clamp (by omega)] at cl
    have ml : ∀ V' : Mem, sem 29 212 0 [some (.inr (.inr (30, 0))), some (.inl (nI s)), some (.inl (nI n)), some (.inl (nI z)), none, none, none, none, none] [] V' = (clI 29 204 [.inr (.inr (30, 0)), .inl (nI s)] V').bind fun W4 => if W4.1 < 0 then (clI 29 204 [.inr (.inr (30, 0)), .inl (nI s)] W4.2).bind fun W5 => (clI 29 129 [.inr (.inr (30, 0)), .inl W5.1] W5.2).bind fun W6 => some (some (.inl W6.1), W6.2) else if nI s < 0 ∨ 8 ≤ Int32.toNatClampNeg (nI s) then none else if W4.2.1 43 0 (Int32.toNatClampNeg (nI s)) < 2 * nI n then (clI 29 129 [.inr (.inr (30, 0)), .inl (-2)] W4.2).bind fun W7 => some (some (.inl W7.1), W7.2) else sem 29 212 76 [some (.inr (.inr (30, 0))), some (.inl (nI s)), some (.inl (nI n)), some (.inl (nI z)), some (.inl 0), none, none, none, none] [] W4.2 := fun V' => by
      rw [e_M_whose_0, c_M_isShelf, bind_some', bI_t B.1, if_neg one_ne, c_in0_20, bind_some', bI_t B.2.1, if_neg one_ne, c_in0_1, bind_some', bI_t B.2.2, if_neg one_ne]
    obtain ⟨⟨sz, z1, z2, z3⟩, el⟩ := h.2.2.2.1 s hs
    obtain ⟨o1, o2⟩ := k4 s hs
    have q2n : (2 * nI n : Int32) = nI (2 * n) := by simp only [fa_lit, pk_mul]
    rcases o1 with o | ⟨k, hk, o⟩ | ⟨x, hx, o⟩
    · refine ⟨-4, CRf V 2, MRf (CRf V 2) 2, clI_of (cl.trans ?_), h.vok.crf 2, clI_of ((ml _).trans ?_), h.ref (by omega)⟩
      · rw [c_asRowN o, bind_some', if_neg (show ¬ (-4 : Int32) = 0 by decide), c_C_ref4, bind_some']
      · have q : (CRf V 2).1 42 0 s = -1 := by rw [CRf_n (by omega), o2, o]
        rw [c_rowInN hs q, bind_some', if_pos (show (-4 : Int32) < 0 by decide), c_rowInN hs q, bind_some', c_M_ref4, bind_some']
    · rw [c_asRow0 hk o, bind_some', if_pos rfl, q2n, z2] at cl
      have mk : ∀ V' : Mem, V'.1 42 0 s = nI k → V'.1 43 0 s = nI sz → sem 29 212 0 [some (.inr (.inr (30, 0))), some (.inl (nI s)), some (.inl (nI n)), some (.inl (nI z)), none, none, none, none, none] [] V' = if nI sz < nI (2 * n) then (clI 29 129 [.inr (.inr (30, 0)), .inl (-2)] V').bind fun W7 => some (some (.inl W7.1), W7.2) else sem 29 212 76 [some (.inr (.inr (30, 0))), some (.inl (nI s)), some (.inl (nI n)), some (.inl (nI z)), some (.inl 0), none, none, none, none] [] V' := fun V' h1 h2 => by
        rw [ml V', c_rowIn0 hs hk h1, bind_some', if_neg (show ¬ (1 : Int32) < 0 by decide), if_neg (nI_in (N := 8) (by omega) (by omega)), nI_clamp (by omega), q2n]
        dsimp only
        rw [h2]
      by_cases S : sz < 2 * n
      · refine ⟨-2, CRf V 0, MRf (CRf V 0) 0, clI_of (cl.trans ?_), h.vok.crf 0, clI_of ((mk _ (by rw [CRf_n (by omega), o2, o]) (by rw [CRf_n (by omega), z3])).trans ?_), h.ref (by omega)⟩
        · rw [if_pos (nI_lt S (by omega)), c_C_ref2, bind_some']
        · rw [if_pos (nI_lt S (by omega)), c_M_ref2, bind_some']
      · rw [if_neg (nI_nlt (by omega) (by omega)), k2.1.2.1] at cl
        obtain ⟨bp, bp1, bp2⟩ := c_arePairs (d := 28) (s := s) (n := n) (by omega) (V := V) hP k2.1.1
        by_cases G : 0 < kNX K ∧ bp = true
        · have hg := bp2.mp G.2
          obtain ⟨V1, P, U, W, t1, t2, t3, t4, t5, t6, t7⟩ := c_takeTold (d := 27) (s := s) (n := n) (by omega) (V := V) hP hg
          have cs1 : CS V1 0 K := k2.fr k1 t7 (by unfold p26; omega)
          have m1 : MS V1 32 0 K := k3.fr t7 (by unfold p26; omega)
          have une : ∀ x, unN U W P (kF K x) (kG K x) (kLn K x) (kNP K) = unN (fun k => toN (V.2 24 s (2 * k))) (fun k => toN (V.2 24 s (2 * k + 1))) n (kF K x) (kG K x) (kLn K x) (kNP K) := fun x => S2_congr (fun p q _ _ => by rw [t6])
          have bd : ∀ x, x < kNX K → unN U W P (kF K x) (kG K x) (kLn K x) (kNP K) ≤ 30 := fun x hx => by
            have := un_le (fun j hj => ⟨(t4 j hj).1, (t4 j hj).2, (t3 j hj).2.2.2⟩) t5 (k1.fn3 hx) (k1.2.2.2.2 x hx).2.2
            have := k1.toL.2.2 x hx
            omega
          obtain ⟨W0, w1, w2, w3⟩ := mwipe (d := 29) (nI s) (nI n) (nI z) V1
          have mw0 : MS W0 32 0 K := m1.fr w3 (by unfold p47; omega)
          obtain ⟨W1, y1, y2, y3⟩ := mtell (d := 27) (s := s) (n := n) hs (by omega) hP (nI z) mw0.np w2 (E := V.2 24 s) (fun k hk2 => by rw [w3.2, t7.2]; exact el k (by omega)) (Nat.le_refl n) hg
          have mw1 : MS W1 32 0 K := mw0.fr y3 (by unfold p47; omega)
          have best := c_M_best (d := 26) (nI s) (nI n) (nI z) mw1 k1 G.1 y2 (fun x hx => by rw [← une]; exact bd x hx)
          have e1 : (fun x => unN (fun k => toN (V.2 24 s (2 * k))) (fun k => toN (V.2 24 s (2 * k + 1))) n (kF K x) (kG K x) (kLn K x) (kNP K)) = (fun x => unN U W P (kF K x) (kG K x) (kLn K x) (kNP K)) := funext fun x => (une x).symm
          rw [e1] at best
          have bl := bsm_le (fun x => unN U W P (kF K x) (kG K x) (kLn K x) (kNP K)) (kNX K - 1)
          refine PM_cor h (V1 := V1) (V2 := W1) (r := if nI z = 0 then nI (bsm (fun x => unN U W P (kF K x) (kG K x) (kLn K x) (kNP K)) (kNX K - 1)) else nI ((fun x => unN U W P (kF K x) (kG K x) (kLn K x) (kNP K)) (bsm (fun x => unN U W P (kF K x) (kG K x) (kLn K x) (kNP K)) (kNX K - 1)))) (clI_of (cl.trans ?_)) (t7.cor (by unfold p26 core; omega)) (clI_of ((mk V1 (by rw [t7.1 42 0 s (by unfold p26; omega), o2, o]) (by rw [t7.1 43 0 s (by unfold p26; omega), z3])).trans ?_)) ((w3.trans y3).cor (by unfold p47 core; omega))
          · rw [if_neg (nI_ne0 G.1 (by omega)), bp1, bind_some', bI_t G.2, if_neg one_ne, t1, bind_some', c_nearest (by omega) cs1 k1 G.1 t3 t4 t5, bind_some']
            by_cases e : nI z = 0
            · rw [if_pos e, if_pos e]
            · rw [if_neg e, if_neg e, if_neg (nI_in (N := 6) (by omega) (by omega)), nI_clamp (by omega), c_difference (by omega) cs1 k1 (by omega) t3 t4 t5, bind_some']
          · rw [if_neg (nI_nlt (by omega) (by omega))]
            refine w1.trans (y1.trans ?_)
            rw [e_M_whose_101, if_neg (nI_nlt (Nat.le_refl _) (by omega)), mw1.nx, if_neg (nI_ne0 G.1 (by omega))]
            exact best
        · obtain ⟨W0, w1, w2, w3⟩ := mwipe (d := 29) (nI s) (nI n) (nI z) (CRf V 3)
          have mw0 : MS W0 32 0 K := (k3.crf 3).fr w3 (by unfold p47; omega)
          have hE : ∀ k, k < 2 * n → W0.2 44 0 (40 * s + k) = V.2 24 s k := fun k hk2 => by rw [w3.2]; exact el k (by omega)
          have cc : sem 29 101 0 [some (.inr (.inr (0, 0))), some (.inl (nI s)), some (.inl (nI n)), some (.inl (nI z)), none, none, none, none] [] V = some (some (.inl (-5)), CRf V 3) := by
            rw [cl]
            by_cases nx : kNX K = 0
            · rw [if_pos (by rw [nx]; rfl), e_C_whose_99, c_C_ref5, bind_some']
            · rw [if_neg (nI_ne0 (by omega) (by omega)), bp1, bind_some', bI_f (fun w => G ⟨by omega, w⟩), if_pos rfl, e_C_whose_99, c_C_ref5, bind_some']
          have fin : ∀ W1, Fr p47 W0 W1 → sem 29 212 101 [some (.inr (.inr (30, 0))), some (.inl (nI s)), some (.inl (nI n)), some (.inl (nI z)), some (.inl 0), none, none, none, none] [] W0 = some (some (.inl (-5)), MRf W1 3) → ∃ (r : Int32) (V1 V2 : Mem), clI 30 m_C_whose [.inr (.inr (0, 0)), .inl (nI s), .inl (nI n), .inl (nI z)] V = some (r, V1) ∧ Vok SL xs V1 ∧ clI 30 m_M_whose [.inr (.inr (30, 0)), .inl (nI s), .inl (nI n), .inl (nI z)] V1 = some (r, V2) ∧ Inv SL xs V2 := fun W1 f1 st => by
            refine ⟨-5, CRf V 3, MRf W1 3, clI_of cc, h.vok.crf 3, clI_of ((mk _ (by rw [CRf_n (by omega), o2, o]) (by rw [CRf_n (by omega), z3])).trans ?_), (h.ref (k := 3) (by omega)).cor (((w3.trans f1).mrf (by unfold p47; omega) 3).cor (by unfold p47 core; omega))⟩
            rw [if_neg (nI_nlt (by omega) (by omega))]
            exact w1.trans st
          by_cases ag : ∀ k, k < n → goodP (kNP K) (V.2 24 s) k
          · have nx : kNX K = 0 := Classical.byContradiction (fun w => G ⟨by omega, bp2.mpr ag⟩)
            obtain ⟨W1, y1, y2, y3⟩ := mtell (d := 27) (s := s) (n := n) hs (by omega) hP (nI z) mw0.np w2 (E := V.2 24 s) hE (Nat.le_refl n) ag
            refine fin W1 y3 (y1.trans ?_)
            rw [e_M_whose_101, if_neg (nI_nlt (Nat.le_refl _) (by omega)), (mw0.fr y3 (by unfold p47; omega)).nx, if_pos (by rw [nx]; rfl), c_M_ref5, bind_some']
          · obtain ⟨kb, ⟨kb1, kb2⟩, kb3⟩ := pk_least (fun k => k < n ∧ ¬ goodP (kNP K) (V.2 24 s) k) (Classical.byContradiction (fun w => ag (fun k hk2 => Classical.byContradiction (fun w2 => w ⟨k, hk2, w2⟩))))
            obtain ⟨W1, y1, y2, y3⟩ := mtell (d := 27) (s := s) (n := n) hs (by omega) hP (nI z) mw0.np w2 (E := V.2 24 s) hE (show kb ≤ n by omega) (fun k hk2 => Classical.byContradiction (fun w2 => kb3 k hk2 ⟨by omega, w2⟩))
            exact fin W1 y3 (y1.trans (mbad (d := 27) hs (by omega) hP _ (mw0.fr y3 (by unfold p47; omega)).np (fun k hk2 => by rw [y3.2]; exact hE k hk2) kb1 kb2))
    · refine ⟨-3, CRf V 1, MRf (CRf V 1) 1, clI_of (cl.trans ?_), h.vok.crf 1, clI_of ((ml _).trans ?_), h.ref (by omega)⟩
      · rw [c_asRowP (by omega) o, bind_some', if_neg (show ¬ (-3 : Int32) = 0 by decide), c_C_ref3, bind_some']
      · have q : (CRf V 1).1 42 0 s = nI (10 + x) := by rw [CRf_n (by omega), o2, o]
        rw [c_rowInP hs (by omega) q, bind_some', if_pos (show (-3 : Int32) < 0 by decide), c_rowInP hs (by omega) q, bind_some', c_M_ref3, bind_some']
  · refine ⟨-2, CRf V 0, MRf (CRf V 0) 0, clI_of ((e_C_whose_0 29 a1 a2 a3 V).trans ?_), h.vok.crf 0, clI_of ((e_M_whose_0 29 a1 a2 a3 _).trans ?_), h.ref (by omega)⟩
    · rw [c_C_isShelf, bind_some', e_C_whose_27, c_C_ref2, bind_some']
      by_cases b1 : inR 8 a1
      · rw [bI_t b1, if_neg one_ne]
        by_cases b2 : a2 < 0
        · rw [if_pos b2]
        · rw [if_neg b2]
          by_cases b3 : 20 < a2
          · rw [if_pos b3]
          · rw [if_neg b3]
            have b23 : inR 21 a2 := ⟨b2, by
              rw [lt_toInt] at b3 ⊢
              rw [nI_toInt (by omega)]
              have : (20 : Int32).toInt = 20 := by decide
              omega⟩
            by_cases b4 : a3 < 0
            · rw [if_pos b4]
            · rw [if_neg b4]
              by_cases b5 : 1 < a3
              · rw [if_pos b5]
              · exact absurd ⟨b1, b23, b4, by
                  rw [lt_toInt] at b5 ⊢
                  rw [nI_toInt (by omega)]
                  have : (1 : Int32).toInt = 1 := by decide
                  omega⟩ B
      · rw [bI_f b1, if_pos rfl]
    · rw [c_M_isShelf, bind_some', e_M_whose_29, c_M_ref2, bind_some']
      by_cases b1 : inR 8 a1
      · rw [bI_t b1, if_neg one_ne, c_in0_20, bind_some']
        by_cases b2 : inR 21 a2
        · rw [bI_t b2, if_neg one_ne, c_in0_1, bind_some', bI_f (fun w => B ⟨b1, b2, w⟩), if_pos rfl, e_M_whose_29, c_M_ref2, bind_some']
        · rw [bI_f b2, if_pos rfl, e_M_whose_29, c_M_ref2, bind_some']
      · rw [bI_f b1, if_pos rfl]
