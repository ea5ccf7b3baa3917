/-! CHANGES OF THE SKY -/
def FrC (s : Nat) (V V' : Mem) : Prop := (∀ t i k, ¬ ((t = 1 ∨ t = 2 ∨ t = 3) ∧ i = s) → ¬ ((t = 5 ∨ t = 6 ∨ t = 7) ∧ 6 * s ≤ i ∧ i < 6 * s + 6) → V'.1 t i k = V.1 t i k) ∧ V'.2 = V.2
def FrM (V V' : Mem) : Prop := (∀ t i k, ¬ t = 32 → V'.1 t i k = V.1 t i k) ∧ V'.2 = V.2
theorem FrC.rfl {s : Nat} {V : Mem} : FrC s V V := ⟨fun _ _ _ _ _ => Eq.refl _, Eq.refl _⟩
theorem FrM.rfl {V : Mem} : FrM V V := ⟨fun _ _ _ _ => Eq.refl _, Eq.refl _⟩
theorem FrC.trans {s : Nat} {V V' V'' : Mem} (h : FrC s V V') (h' : FrC s V' V'') : FrC s V V'' := ⟨fun t i k q r => (h'.1 t i k q r).trans (h.1 t i k q r), h'.2.trans h.2⟩
theorem FrM.trans {V V' V'' : Mem} (h : FrM V V') (h' : FrM V' V'') : FrM V V'' := ⟨fun t i k q => (h'.1 t i k q).trans (h.1 t i k q), h'.2.trans h.2⟩
theorem FrC.ag {s : Nat} {V V' : Mem} (h : FrC s V V') {P : Nat → Nat → Nat → Prop} (hp : ∀ t i k, P t i k → ¬ ((t = 1 ∨ t = 2 ∨ t = 3) ∧ i = s) ∧ ¬ ((t = 5 ∨ t = 6 ∨ t = 7) ∧ 6 * s ≤ i ∧ i < 6 * s + 6)) : Ag P V V' := fun t i k q => ⟨h.1 t i k (hp t i k q).1 (hp t i k q).2, by rw [h.2]⟩
theorem FrM.ag {V V' : Mem} (h : FrM V V') {P : Nat → Nat → Nat → Prop} (hp : ∀ t i k, P t i k → ¬ t = 32) : Ag P V V' := fun t i k q => ⟨h.1 t i k (hp t i k q), by rw [h.2]⟩
/-- both skies were changed alike -/
theorem Inv.skyop {SL : Nat} {xs : Nat → Int32} {V V1 V2 : Mem} (h : Inv SL xs V) {K K' : SKY} (k4 : ∀ s, s < 8 → okH (kNX K) (V.1 23 s 1) ∧ V.1 42 0 s = V.1 23 s 1) (hx : kNX K ≤ kNX K') (ok : okK K') (f1 : FrC 0 V V1) (c1 : CS V1 0 K') (f2 : FrM V1 V2) (c2 : MS V2 32 0 K') : Inv SL xs V2 := by
  have a1 : Ag dpS V V1 := f1.ag (by unfold dpS dp2 dp3 dp4 dp5 dp6 dp7 dp8; omega)
  have a2 : Ag dpS V1 V2 := f2.ag (by unfold dpS dp2 dp3 dp4 dp5 dp6 dp7 dp8; omega)
  refine h.sky (a1.trans a2) ⟨K', ok, c1.eq0 ok.2.1 (fun t i k q => f2.1 t i k (by unfold dpK at q; omega)), c2, fun s hs => ?_⟩
  rw [f2.1 23 s 1 (by omega), f2.1 42 0 s (by omega), f1.1 23 s 1 (by omega) (by omega), f1.1 42 0 s (by omega) (by omega)]
  obtain ⟨o1, o2⟩ := k4 s hs
  refine ⟨?_, o2⟩
  rcases o1 with o | o | ⟨x, hx2, o⟩
  · exact Or.inl o
  · exact Or.inr (Or.inl o)
  · exact Or.inr (Or.inr ⟨x, by omega, o⟩)
theorem Vok.frc {SL : Nat} {xs : Nat → Int32} {s : Nat} {V V' : Mem} (h : Vok SL xs V) (f : FrC s V V') : Vok SL xs V' := h.ag (f.ag (by unfold dp8; omega))
def addPt (K : SKY) (c b : Nat) : SKY := ((kNP K + 1, kNX K, kCl K, kSd K), (fun p => if p = kNP K then (c, b) else K.2.1 p), K.2.2.1, (fun x p => if p = kNP K then false else kW K x p), K.2.2.2.2)
def addPar (K : SKY) (ki a : Nat) : SKY := ((kNP K, kNX K + 1, kCl K, kSd K), K.2.1, (fun x => if x = kNX K then (ki, a, 0) else K.2.2.1 x), (fun x p => if x = kNX K then false else kW K x p), K.2.2.2.2)
theorem addPt_ok {K : SKY} {c b : Nat} (h : okK K) (hn : kNP K < 12) (hc : c < 100) (hb : 1 ≤ b) (hb2 : b ≤ 9) : okK (addPt K c b) := by
  obtain ⟨h1, h2, h3, h4, h5⟩ := h
  refine ⟨?_, h2, h3, fun p hp => ?_, fun x hx => ?_⟩
  · show kNP K + 1 ≤ 12
    omega
  · have hp' : p < kNP K + 1 := hp
    show ((if p = kNP K then (c, b) else K.2.1 p).1 < 100 ∧ 1 ≤ (if p = kNP K then (c, b) else K.2.1 p).2 ∧ (if p = kNP K then (c, b) else K.2.1 p).2 ≤ 9)
    by_cases e : p = kNP K
    · rw [if_pos e]
      exact ⟨hc, hb, hb2⟩
    · rw [if_neg e]
      exact h4 p (by omega)
  · obtain ⟨g1, g2, g3⟩ := h5 x hx
    refine ⟨g1, fun i hi => ?_, g3⟩
    obtain ⟨e1, e2, e3, e4, e5⟩ := g2 i hi
    refine ⟨?_, ?_, e3, ?_, ?_⟩
    · show kF K x i < kNP K + 1
      omega
    · show kG K x i < kNP K + 1
      omega
    · show (if kF K x i = kNP K then false else kW K x (kF K x i)) = true
      rw [if_neg (by omega)]
      exact e4
    · show (if kG K x i = kNP K then false else kW K x (kG K x i)) = true
      rw [if_neg (by omega)]
      exact e5
theorem addPar_ok {K : SKY} {ki a : Nat} (h : okK K) (hn : kNX K < 6) (hc : ki < 6) (hb : a < 10) : okK (addPar K ki a) := by
  obtain ⟨h1, h2, h3, h4, h5⟩ := h
  refine ⟨h1, ?_, h3, h4, fun x hx => ?_⟩
  · show kNX K + 1 ≤ 6
    omega
  · have hx' : x < kNX K + 1 := hx
    by_cases e : x = kNX K
    · have e1 : kKi (addPar K ki a) x = ki := by unfold kKi addPar; simp only [e, if_true]
      have e2 : kA (addPar K ki a) x = a := by unfold kA addPar; simp only [e, if_true]
      have e3 : kLn (addPar K ki a) x = 0 := by unfold kLn addPar; simp only [e, if_true]
      rw [e1, e2, e3]
      exact ⟨⟨hc, hb, by omega⟩, fun i hi => by omega, fun i j hi => by omega⟩
    · have e1 : kKi (addPar K ki a) x = kKi K x := by unfold kKi addPar; simp only [e, if_false]
      have e2 : kA (addPar K ki a) x = kA K x := by unfold kA addPar; simp only [e, if_false]
      have e3 : kLn (addPar K ki a) x = kLn K x := by unfold kLn addPar; simp only [e, if_false]
      obtain ⟨g1, g2, g3⟩ := h5 x (by omega)
      rw [e1, e2, e3]
      refine ⟨g1, fun i hi => ?_, g3⟩
      obtain ⟨q1, q2, q3, q4, q5⟩ := g2 i hi
      refine ⟨q1, q2, q3, ?_, ?_⟩
      · show (if x = kNX K then false else kW K x (kF K x i)) = true
        rw [if_neg e]
        exact q4
      · show (if x = kNX K then false else kW K x (kG K x i)) = true
        rw [if_neg e]
        exact q5
theorem c_roomPt {d s : Nat} {V : Mem} : clI (d + 1) m_Sky_hasRoomForPoint [.inr (.inr (1, s))] V = some (bI (V.1 1 s 3 < 12), V) := by
  apply clI_of
  refine (e_Sky_hasRoomForPoint_0 d s V).trans ?_
  by_cases h : V.1 1 s 3 < 12
  · rw [if_pos h, bI_t h]
  · rw [if_neg h, bI_f h]
theorem c_roomPar {d s : Nat} {V : Mem} : clI (d + 1) m_Sky_hasRoomForParish [.inr (.inr (1, s))] V = some (bI (V.1 1 s 4 < 6), V) := by
  apply clI_of
  refine (e_Sky_hasRoomForParish_0 d s V).trans ?_
  by_cases h : V.1 1 s 4 < 6
  · rw [if_pos h, bI_t h]
  · rw [if_neg h, bI_f h]
theorem c_addPoint {d s : Nat} {V : Mem} {K : SKY} (h : CS V s K) (hn : kNP K < 12) (hx : kNX K ≤ 6) (c b : Nat) : ∃ V', clV (d + 2) m_Sky_addPoint [.inr (.inr (1, s)), .inl (nI c), .inl (nI b)] V = some V' ∧ CS V' s (addPt K c b) ∧ FrC s V V' := by
  obtain ⟨⟨h1, h2, h3, h4⟩, h5, h6⟩ := h
  refine ⟨(mset (mset (mset V.1 2 s (kNP K) (nI c)) 3 s (kNP K) (nI b)) 1 s 3 (nI (kNP K + 1)), V.2), clV_of ((e_Sky_addPoint_0 (d + 1) s _ _ V).trans ?_), ⟨⟨?_, ?_, ?_, ?_⟩, fun p hp => ?_, fun x hx' => ?_⟩, fun t i k q1 q2 => ?_, rfl⟩
  · rw [c_roomPt, bind_some', h1, bI_t (show nI (kNP K) < 12 from nI_lt (b := 12) hn (by omega)), if_neg one_ne, if_neg (nI_in hn (by omega)), nI_clamp (by omega)]
    simp (disch := omega) only [mset_n, h1, nI_clamp, nI_1]
    rw [if_neg (nI_in' hn (by omega))]
  · simp (disch := omega) only [mset_n, mset_h]; rfl
  · simp (disch := omega) only [mset_n, mset_h]; exact h2
  · simp (disch := omega) only [mset_n, mset_h]; exact h3
  · simp (disch := omega) only [mset_n, mset_h]; exact h4
  · have hp' : p < kNP K + 1 := hp
    unfold kCe kBr addPt
    by_cases e : p = kNP K
    · subst e
      simp (disch := omega) only [mset_n, mset_h, if_true, and_self]
    · simp (disch := omega) only [mset_n, mset_h, e, if_false]
      exact h5 p (by omega)
  · have hx2 : x < kNX K := hx'
    obtain ⟨g1, g2, g3, g4, g5⟩ := h6 x hx2
    have eb : bm (kNP (addPt K c b)) (kW (addPt K c b) x) = bm (kNP K) (kW K x) := by
      refine (bm_more (n := kNP K) (f := kW (addPt K c b) x) ?_).trans (bm_ext fun k hk => ?_)
      · unfold kW addPt; simp only [if_true]
      · show (if k = kNP K then false else kW K x k) = _
        rw [if_neg (by omega)]
    refine ⟨?_, ?_, ?_, ?_, fun i hi => ⟨?_, ?_⟩⟩
    · simp (disch := omega) only [mset_n]; exact g1
    · simp (disch := omega) only [mset_n]; exact g2
    · rw [eb]; simp (disch := omega) only [mset_n]; exact g3
    · simp (disch := omega) only [mset_n]; exact g4
    · simp (disch := omega) only [mset_n]; exact (g5 i hi).1
    · simp (disch := omega) only [mset_n]; exact (g5 i hi).2
  · simp (disch := omega) only [mset_n]
