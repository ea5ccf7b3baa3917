/-! better -/
theorem MS.eqv {V : Mem} {t o : Nat} {K K' : SKY} (h : MS V t o K') (e1 : K.1 = K'.1) (e2 : K.2.1 = K'.2.1) (e3 : K.2.2.1 = K'.2.2.1) (e4 : K.2.2.2.1 = K'.2.2.2.1) (e5 : ∀ x, x < kNX K → ∀ i, i < kLn K x → K.2.2.2.2 x i = K'.2.2.2.2 x i) : MS V t o K := by
  obtain ⟨h1, h2, h3⟩ := h
  have n1 : kNP K = kNP K' := by unfold kNP; rw [e1]
  have n2 : kNX K = kNX K' := by unfold kNX; rw [e1]
  have n3 : kCl K = kCl K' := by unfold kCl; rw [e1]
  have n4 : kSd K = kSd K' := by unfold kSd; rw [e1]
  have n5 : ∀ p, kCe K p = kCe K' p := fun p => by unfold kCe; rw [e2]
  have n6 : ∀ p, kBr K p = kBr K' p := fun p => by unfold kBr; rw [e2]
  have n7 : ∀ x, kKi K x = kKi K' x := fun x => by unfold kKi; rw [e3]
  have n8 : ∀ x, kA K x = kA K' x := fun x => by unfold kA; rw [e3]
  have n9 : ∀ x, kLn K x = kLn K' x := fun x => by unfold kLn; rw [e3]
  have n10 : ∀ x p, kW K x p = kW K' x p := fun x p => by unfold kW; rw [e4]
  refine ⟨by rw [n1, n2, n3, n4]; exact h1, fun p hp => ?_, fun x hx => ?_⟩
  · rw [n5, n6, n2]
    simp only [n10]
    exact h2 p (by omega)
  · rw [n7, n8, n9]
    refine ⟨(h3 x (by omega)).1, fun i hi => ?_⟩
    have := e5 x hx i (by rw [n9]; exact hi)
    have f1 : kF K x i = kF K' x i := by unfold kF; rw [this]
    have f2 : kG K x i = kG K' x i := by unfold kG; rw [this]
    rw [f1, f2]
    exact (h3 x (by omega)).2 i hi
theorem MS.undraw {V : Mem} {K : SKY} {x p q : Nat} (h : MS V 32 0 (eraseK (drawK K x p q) x (kLn K x))) : MS V 32 0 K := by
  refine h.eqv rfl rfl (funext fun y => ?_) rfl (fun y hy i hi => ?_)
  · show K.2.2.1 y = if y = x then (kKi (drawK K x p q) x, kA (drawK K x p q) x, kLn (drawK K x p q) x - 1) else (drawK K x p q).2.2.1 y
    by_cases e : y = x
    · subst e
      rw [if_pos rfl, drawK_Ki, drawK_A, drawK_Ln, Nat.add_sub_cancel]
      rfl
    · rw [if_neg e]
      show _ = if y = x then _ else K.2.2.1 y
      rw [if_neg e]
  · show K.2.2.2.2 y i = if y = x then (if i < kLn K x then (drawK K x p q).2.2.2.2 x i else (drawK K x p q).2.2.2.2 x (i + 1)) else (drawK K x p q).2.2.2.2 y i
    by_cases e : y = x
    · subst e
      rw [if_pos rfl, if_pos hi]
      show _ = if y = y ∧ i = kLn K y then _ else K.2.2.2.2 y i
      rw [if_neg (by omega)]
    · rw [if_neg e]
      show _ = if y = x ∧ i = kLn K x then _ else K.2.2.2.2 y i
      rw [if_neg (fun w => e w.1)]
theorem Inv.gen {SL : Nat} {xs : Nat → Int32} {V V' : Mem} (h : Inv SL xs V) {K K' : SKY} (k4 : ∀ s, s < 8 → okH (kNX K) (V.1 23 s 1) ∧ V.1 42 0 s = V.1 23 s 1) (hx : kNX K ≤ kNX K') (ok : okK K') {P : Nat → Nat → Nat → Prop} (f : Fr P V V') (hp : ∀ t i k, P t i k → ¬ dpS t i k ∧ ¬ (t = 23 ∧ k = 1) ∧ ¬ t = 42) (c1 : CS V' 0 K') (c2 : MS V' 32 0 K') : Inv SL xs V' := by
  refine h.sky (fun t i k q => ⟨f.1 t i k (fun w => (hp t i k w).1 q), by rw [f.2]⟩) ⟨K', ok, c1, c2, fun s hs => ?_⟩
  rw [f.1 23 s 1 (fun w => (hp _ _ _ w).2.1 ⟨rfl, rfl⟩), f.1 42 0 s (fun w => (hp _ _ _ w).2.2 rfl)]
  obtain ⟨o1, o2⟩ := k4 s hs
  refine ⟨?_, o2⟩
  rcases o1 with o | o | ⟨x, hx2, o⟩
  · exact Or.inl o
  · exact Or.inr (Or.inl o)
  · exact Or.inr (Or.inr ⟨x, by omega, o⟩)
theorem Vok.fr {SL : Nat} {xs : Nat → Int32} {V V' : Mem} (h : Vok SL xs V) {P : Nat → Nat → Nat → Prop} (f : Fr P V V') (hp : ∀ t i k, P t i k → ¬ dp8 t i k) : Vok SL xs V' := h.ag (fun t i k q => ⟨f.1 t i k (fun w => hp t i k w q), by rw [f.2]⟩)
abbrev pS (t i _k : Nat) : Prop := t = 8 ∨ t = 9 ∨ ((t = 5 ∨ t = 6 ∨ t = 7) ∧ i = 18)
abbrev pM (t _i _k : Nat) : Prop := t = 32 ∨ t = 34
theorem FrF.fr {V V' : Mem} (h : FrF V V') {P : Nat → Nat → Nat → Prop} (hp : ∀ t i k, t = 8 ∨ t = 9 → P t i k) : Fr P V V' := ⟨fun t i k q => h.1 t i k (fun w => q (hp t i k w)), h.2⟩
theorem FrM.fr {V V' : Mem} (h : FrM V V') {P : Nat → Nat → Nat → Prop} (hp : ∀ i k, P 32 i k) : Fr P V V' := ⟨fun t i k q => h.1 t i k (fun w => q (w ▸ hp i k)), h.2⟩
theorem CS.frS {V V' : Mem} {K : SKY} (h : CS V 0 K) (ok : okK K) (f : Fr pS V V') : CS V' 0 K := h.fr ok f (by unfold pS; omega)
theorem c_spareWorth {d ki a wm ln : Nat} {f g : Nat → Nat} {V : Mem} {K : SKY} (h : CS V 0 K) (ok : okK K) (hp : CPar V 18 ki a wm ln f g) (hl : ln ≤ 10) (hf : ∀ i, i < ln → f i < kNP K ∧ g i < kNP K ∧ f i ≠ g i) (hk : ki < 6) : ∃ V', clI (d + 4) m_C_spareWorth [.inr (.inr (0, 0))] V = some (nI (wrt (kCe K) (kBr K) f g (kNP K) ki a ln), V') ∧ FrF V V' := by
  obtain ⟨V', v1, v2, v3⟩ := c_measure (d := d) h ok hp hl hf
  have par := hp.frf v3
  refine ⟨V', clI_of ((e_C_spareWorth_0 (d + 3) V).trans ?_), v3⟩
  rw [v1, bind_some', par.1, par.2.1, c_worthTo v2 ok.1 hl (fun i hi => ⟨(hf i hi).1, (hf i hi).2.1⟩) (fun i hi => ⟨(ok.2.2.2.1 _ (hf i hi).1).1, (ok.2.2.2.1 _ (hf i hi).2.1).1⟩) ok.br hk, bind_some']
def cndS (σ : Option (Nat × Nat)) (b w : Nat) : Option (Nat × Nat) := match σ with
  | none => some (b, w)
  | some (b', m) => if m < w then some (b, w) else some (b', m)
def sC2 (σ : Option (Nat × Nat)) : Int32 := match σ with
  | none => -1
  | some (_, l) => nI l
def gdS (σ : Option (Nat × Nat)) : Prop := ∀ b m, σ = some (b, m) → b < 2000 ∧ m ≤ 400
theorem gdS_none : gdS none := fun b m h => by cases h
theorem cndS_gd {σ : Option (Nat × Nat)} {b w : Nat} (h : gdS σ) (hb : b < 2000) (hw : w ≤ 400) : gdS (cndS σ b w) := by
  cases σ with
  | none =>
    intro b' m' e
    have e' : some (b, w) = some (b', m') := e
    simp only [Option.some.injEq, Prod.mk.injEq] at e'
    omega
  | some bm =>
    obtain ⟨b0, m0⟩ := bm
    obtain ⟨g1, g2⟩ := h b0 m0 rfl
    intro b' m' e
    have e' : (if m0 < w then some (b, w) else some (b0, m0)) = some (b', m') := e
    by_cases q : m0 < w
    · rw [if_pos q] at e'
      simp only [Option.some.injEq, Prod.mk.injEq] at e'
      omega
    · rw [if_neg q] at e'
      simp only [Option.some.injEq, Prod.mk.injEq] at e'
      omega
theorem cndS_C {σ : Option (Nat × Nat)} (h : gdS σ) (b : Nat) {w : Nat} (hw : w ≤ 400) : (sC2 σ < nI w ∧ cndS σ b w = some (b, w)) ∨ (¬ sC2 σ < nI w ∧ cndS σ b w = σ) := by
  cases σ with
  | none =>
    refine Or.inl ⟨?_, rfl⟩
    show (-1 : Int32) < nI w
    rw [lt_toInt, nI_toInt (by omega)]
    have : (-1 : Int32).toInt = -1 := by decide
    omega
  | some bm =>
    obtain ⟨b0, m0⟩ := bm
    obtain ⟨g1, g2⟩ := h b0 m0 rfl
    by_cases q : m0 < w
    · exact Or.inl ⟨nI_lt q (by omega), if_pos q⟩
    · exact Or.inr ⟨nI_nlt (by omega) (by omega), if_neg q⟩
theorem cndS_M {σ : Option (Nat × Nat)} (h : gdS σ) (b : Nat) {w : Nat} (hw : w ≤ 400) : ((sM1 σ = -1 ∨ sM2 σ < nI w) ∧ cndS σ b w = some (b, w) ∧ imax (nI w) (sM2 σ) = nI w) ∨ (¬ sM1 σ = -1 ∧ ¬ sM2 σ < nI w ∧ cndS σ b w = σ ∧ imax (nI w) (sM2 σ) = sM2 σ) := by
  cases σ with
  | none =>
    refine Or.inl ⟨Or.inl rfl, rfl, ?_⟩
    have := imax_nat (a := w) (b := 0) (by omega) (by omega)
    rw [show max w 0 = w by omega] at this
    exact this
  | some bm =>
    obtain ⟨b0, m0⟩ := bm
    obtain ⟨g1, g2⟩ := h b0 m0 rfl
    have im := imax_nat (a := w) (b := m0) (by omega) (by omega)
    by_cases q : m0 < w
    · refine Or.inl ⟨Or.inr (nI_lt q (by omega)), if_pos q, ?_⟩
      rw [show max w m0 = w by omega] at im
      exact im
    · refine Or.inr ⟨neg1_nI (n := b0) (by omega), nI_nlt (by omega) (by omega), if_neg q, ?_⟩
      rw [show max w m0 = m0 by omega] at im
      exact im
def wE (K : SKY) (x k : Nat) : Nat := wK (eraseK K x k) x
theorem wE_le {K : SKY} (ok : okK K) {x k : Nat} (hx : x < kNX K) (hk : k < kLn K x) : wE K x k ≤ 400 := wK_le (eraseK_ok ok hx hk) hx
def worS (K : SKY) (x : Nat) : Nat → Option (Nat × Nat)
  | 0 => none
  | k + 1 => cndS (worS K x k) k (wE K x k)
theorem worS_gd {K : SKY} (ok : okK K) {x : Nat} (hx : x < kNX K) : ∀ k, k ≤ kLn K x → gdS (worS K x k) := by
  intro k
  induction k with
  | zero => intro _; exact gdS_none
  | succ k ih =>
    intro hk
    have := ok.toL.2.2 x hx
    exact cndS_gd (ih (by omega)) (by omega) (wE_le ok hx (by omega))
theorem c_worstLine {d x : Nat} {V : Mem} {K : SKY} (h : CS V 0 K) (ok : okK K) (hx : x < kNX K) : ∃ V', clI (d + 5) m_C_worstLine [.inr (.inr (0, 0)), .inr (.inr (5, x))] V = some (sM1 (worS K x (kLn K x)), V') ∧ Fr pS V V' := by
  have hX := ok.2.1
  have hl := ok.toL.2.2 x hx
  obtain ⟨V', v1, v2⟩ := loopI (kLn K x) (fun _ W => Fr pS V W) (fun k W => sem (d + 4) 120 7 [some (.inr (.inr (0, 0))), some (.inr (.inr (5, x))), some (.inl (sM1 (worS K x k))), some (.inl (sC2 (worS K x k))), some (.inl (nI k)), none] [] W) (fun k W hk hW => by
    have cs := h.frS ok hW
    have px := cs.p0 hx
    obtain ⟨W1, a1, a2, a3, a4⟩ := c_parBecome (d := d + 3) (j := 18) (u := x) (by omega) W
    have p1 := a2 _ _ _ _ _ _ hl px
    obtain ⟨W2, b1, b2, b3, b4⟩ := c_erase (d := d + 3) p1 hl hk
    have f1 : Fr pS W W1 := ⟨fun t i k q => a3 t i k (fun w => q (Or.inr (Or.inr w))), a4⟩
    have f2 : Fr pS W1 W2 := ⟨fun t i k q => b3 t i k (fun w => q (Or.inr (Or.inr w))), b4⟩
    have cs2 := (cs.frS ok f1).frS ok f2
    have oe := eraseK_ok ok hx hk
    obtain ⟨W3, c1, c2⟩ := c_spareWorth (d := d) cs2 ok b2 (by omega) (fun i hi => by
      have := oe.fn3 hx i (by rw [eraseK_Ln]; exact hi)
      rw [eraseK_F, eraseK_G] at this
      exact this) (ok.2.2.2.2 x hx).1.1
    have we : wrt (kCe K) (kBr K) (delN (kF K x) k) (delN (kG K x) k) (kNP K) (kKi K x) (kA K x) (kLn K x - 1) = wE K x k := by
      unfold wE wK
      rw [eraseK_F, eraseK_G, eraseK_Ki, eraseK_A, eraseK_Ln]
      rfl
    rw [we] at c1
    refine ⟨W3, hW.trans (f1.trans (f2.trans (c2.fr (by unfold pS; omega)))), ?_⟩
    show sem _ _ _ _ _ _ = sem (d + 4) 120 7 [some (.inr (.inr (0, 0))), some (.inr (.inr (5, x))), some (.inl (sM1 (cndS (worS K x k) k (wE K x k)))), some (.inl (sC2 (cndS (worS K x k) k (wE K x k)))), some (.inl (nI (k + 1))), none] [] W3
    rw [e_C_worstLine_7, px.2.2.2.1, if_pos (nI_lt hk (by omega)), a1, bind_some', b1, bind_some', c1, bind_some']
    rcases cndS_C (worS_gd ok hx k (by omega)) k (wE_le ok hx hk) with ⟨g1, g2⟩ | ⟨g1, g2⟩
    · rw [if_pos g1, g2, e_C_worstLine_51, nI_1]; rfl
    · rw [if_neg g1, g2, e_C_worstLine_51, nI_1]) V Fr.rfl
  refine ⟨V', clI_of ((e_C_worstLine_0 (d + 4) x V).trans (Eq.trans v2 ?_)), v1⟩
  show sem _ _ _ _ _ _ = _
  rw [e_C_worstLine_7, ((h.frS ok v1).p0 hx).2.2.2.1, if_neg (nI_nlt (Nat.le_refl _) (by omega))]
theorem c_M_worst {d x : Nat} {V : Mem} {K : SKY} (h : MS V 32 0 K) (ok : okK K) (hx : x < kNX K) : ∃ V', clI (d + 6) m_M_worst [.inr (.inr (30, 0)), .inl (nI x)] V = some (sM1 (worS K x (kLn K x)), V') ∧ MS V' 32 0 K ∧ Fr pM V V' := by
  have hX := ok.2.1
  have hl := ok.toL.2.2 x hx
  have m34 : MS (mcpy V.1 32 0 0 34 0 0 178, V.2) 34 0 K := h.moved ok
  have m32 : MS (mcpy V.1 32 0 0 34 0 0 178, V.2) 32 0 K := h.same (funext fun k => by simp (disch := omega) only [mcpy_out])
  obtain ⟨V', ⟨v1, v2, v3⟩, v4⟩ := loopI (kLn K x) (fun _ W => MS W 32 0 K ∧ MS W 34 0 K ∧ Fr pM V W) (fun k W => sem (d + 5) 186 20 [some (.inr (.inr (30, 0))), some (.inl (nI x)), some (.inl (sM1 (worS K x k))), some (.inl (sM2 (worS K x k))), some (.inl (nI k)), none] [] W) (fun k W hk hW => by
    obtain ⟨w1, w2, w3⟩ := hW
    obtain ⟨W1, a1, a2, a3⟩ := c_M_erase (d := d + 3) w1 ok.toL hx hk
    have oe := eraseK_ok ok hx hk
    have e34 : MS W1 34 0 K := w2.same (funext fun k => a3.1 34 0 k (by omega))
    have wo : clI (d + 5) 174 [.inr (.inr (30, 0)), .inl (nI x)] W1 = some (nI (wE K x k), W1) := c_M_worth (d := d) a2 oe hx
    refine ⟨(mcpy W1.1 34 0 0 32 0 0 178, W1.2), ⟨e34.moved ok, e34.same (funext fun k => by simp (disch := omega) only [mcpy_out]), w3.trans ((a3.fr (by unfold pM; omega)).trans ⟨fun t i k q => by
      have : ¬ t = 32 := fun w => q (Or.inl w)
      simp (disch := omega) only [mcpy_out], rfl⟩)⟩, ?_⟩
    show sem _ _ _ _ _ _ = sem (d + 5) 186 20 [some (.inr (.inr (30, 0))), some (.inl (nI x)), some (.inl (sM1 (cndS (worS K x k) k (wE K x k)))), some (.inl (sM2 (cndS (worS K x k) k (wE K x k)))), some (.inl (nI (k + 1))), none] [] (mcpy W1.1 34 0 0 32 0 0 178, W1.2)
    rw [e_M_worst_20, c_M_ln w1 ok.toL hx, bind_some', if_pos (nI_lt hk (by omega)), a1, bind_some', wo, bind_some']
    have f62 : ∀ z : Int32, sem (d + 5) 186 62 [some (.inr (.inr (30, 0))), some (.inl (nI x)), some (.inl (sM1 (worS K x k))), some (.inl (sM2 (worS K x k))), some (.inl (nI k)), some (.inl (nI (wE K x k)))] [.inl z] W1 = sem (d + 5) 186 20 [some (.inr (.inr (30, 0))), some (.inl (nI x)), some (.inl z), some (.inl (imax (nI (wE K x k)) (sM2 (worS K x k)))), some (.inl (nI (k + 1))), none] [] (mcpy W1.1 34 0 0 32 0 0 178, W1.2) := fun z => by
      rw [e_M_worst_62, show (Sum.inl (0 : Int32) : AV) = .inl (nI 0) from rfl, c_mv34_32 (by omega) (by omega), bind_some', nI_1]
    rcases cndS_M (worS_gd ok hx k (by omega)) k (wE_le ok hx hk) with ⟨g1, g2, g3⟩ | ⟨g0, g1, g2, g3⟩
    · rw [g2, e_M_worst_56, f62, g3]
      rcases g1 with g1 | g1
      · rw [if_pos g1]; rfl
      · rw [if_pos g1]
        split <;> rfl
    · rw [if_neg g0, if_neg g1, g2, f62, g3]) (mcpy V.1 32 0 0 34 0 0 178, V.2) ⟨m32, m34, ⟨fun t i k q => by
      have : ¬ t = 34 := fun w => q (Or.inr w)
      simp (disch := omega) only [mcpy_out], rfl⟩⟩
  refine ⟨V', clI_of ((e_M_worst_0 (d + 5) _ V).trans ?_), v1, v3⟩
  rw [show (Sum.inl (0 : Int32) : AV) = .inl (nI 0) from rfl, c_mv32_34 (by omega) (by omega), bind_some']
  refine Eq.trans v4 ?_
  show sem _ _ _ _ _ _ = _
  rw [e_M_worst_20, c_M_ln v1 ok.toL hx, bind_some', if_neg (nI_nlt (Nat.le_refl _) (by omega))]
abbrev cN (K : SKY) (x p q : Nat) : Prop := kW K x p = true ∧ kW K x q = true ∧ memP (kF K x) (kG K x) p q (kLn K x) = false
def wN (K : SKY) (x p q : Nat) : Nat := wK (drawK K x p q) x
theorem cN_ok {K : SKY} (ok : okK K) {x p q : Nat} (hx : x < kNX K) (hl : kLn K x < 10) (hpq : p < q) (hq : q < kNP K) (h : cN K x p q) : okK (drawK K x p q) := drawK_ok ok hx hl (by omega) hq (by omega) h.1 h.2.1 (fun i hi w => by
  have := (memP_iff (kLn K x)).mpr ⟨i, hi, w⟩
  rw [h.2.2] at this
  exact absurd this (by simp))
theorem wN_le {K : SKY} (ok : okK K) {x p q : Nat} (hx : x < kNX K) (hl : kLn K x < 10) (hpq : p < q) (hq : q < kNP K) (h : cN K x p q) : wN K x p q ≤ 400 := wK_le (cN_ok ok hx hl hpq hq h) hx
def nlQ (K : SKY) (x p : Nat) (σ : Option (Nat × Nat)) : Nat → Option (Nat × Nat)
  | 0 => σ
  | q + 1 => if p < q ∧ cN K x p q then cndS (nlQ K x p σ q) (100 * p + q) (wN K x p q) else nlQ K x p σ q
def nlP (K : SKY) (x : Nat) : Nat → Option (Nat × Nat)
  | 0 => none
  | p + 1 => nlQ K x p (nlP K x p) (kNP K)
theorem nlQ_gd {K : SKY} (ok : okK K) {x : Nat} (hx : x < kNX K) (hl : kLn K x < 10) {p : Nat} {σ : Option (Nat × Nat)} (hs : gdS σ) : ∀ q, q ≤ kNP K → gdS (nlQ K x p σ q) := by
  have hP := ok.1
  intro q
  induction q with
  | zero => intro _; exact hs
  | succ q ih =>
    intro hq
    unfold nlQ
    by_cases e : p < q ∧ cN K x p q
    · rw [if_pos e]
      exact cndS_gd (ih (by omega)) (by omega) (wN_le ok hx hl e.1 (by omega) e.2)
    · rw [if_neg e]
      exact ih (by omega)
theorem nlQ_low {K : SKY} {x p : Nat} {σ : Option (Nat × Nat)} : ∀ q, q ≤ p + 1 → nlQ K x p σ q = σ := by
  intro q
  induction q with
  | zero => intro _; rfl
  | succ q ih =>
    intro hq
    unfold nlQ
    rw [if_neg (fun w => by omega), ih (by omega)]
theorem nlP_gd {K : SKY} (ok : okK K) {x : Nat} (hx : x < kNX K) (hl : kLn K x < 10) : ∀ p, p ≤ kNP K → gdS (nlP K x p) := by
  intro p
  induction p with
  | zero => intro _; exact gdS_none
  | succ p ih => intro hp; exact nlQ_gd ok hx hl (ih (by omega)) (kNP K) (Nat.le_refl _)
theorem cNewIn {d x p : Nat} {V W : Mem} {K : SKY} (h : CS V 0 K) (ok : okK K) (hx : x < kNX K) (hl : kLn K x < 10) (hp : p < kNP K) {σ : Option (Nat × Nat)} (hs : gdS σ) (hW : Fr pS V W) : ∃ W', Fr pS V W' ∧ sem (d + 4) 119 34 [some (.inr (.inr (0, 0))), some (.inr (.inr (5, x))), some (.inl (sM1 σ)), some (.inl (sC2 σ)), some (.inl (nI p)), some (.inl (nI (p + 1))), none, none] [] W = sem (d + 4) 119 16 [some (.inr (.inr (0, 0))), some (.inr (.inr (5, x))), some (.inl (sM1 (nlQ K x p σ (kNP K)))), some (.inl (sC2 (nlQ K x p σ (kNP K)))), some (.inl (nI (p + 1))), none, none, none] [] W' := by
  have hX := ok.2.1
  have hP := ok.1
  have hl' := ok.toL.2.2 x hx
  obtain ⟨W', w1, w2⟩ := loopI (kNP K - (p + 1)) (fun _ U => Fr pS V U) (fun k U => sem (d + 4) 119 34 [some (.inr (.inr (0, 0))), some (.inr (.inr (5, x))), some (.inl (sM1 (nlQ K x p σ (p + 1 + k)))), some (.inl (sC2 (nlQ K x p σ (p + 1 + k)))), some (.inl (nI p)), some (.inl (nI (p + 1 + k))), none, none] [] U) (fun k U hk hU => by
    have cs := h.frS ok hU
    have px := cs.p0 hx
    have hq : p + 1 + k < kNP K := by omega
    have nx : nlQ K x p σ (p + 1 + (k + 1)) = if p < p + 1 + k ∧ cN K x p (p + 1 + k) then cndS (nlQ K x p σ (p + 1 + k)) (100 * p + (p + 1 + k)) (wN K x p (p + 1 + k)) else nlQ K x p σ (p + 1 + k) := rfl
    rw [show p + 1 + (k + 1) = p + 1 + k + 1 by omega] at *
    have hpq : p < p + 1 + k := by omega
    have gd := nlQ_gd ok hx hl (p := p) hs (p + 1 + k) (by omega)
    generalize p + 1 + k = q at *
    have st := e_C_bestNewLine_34 (d + 4) x (sM1 (nlQ K x p σ q)) (sC2 (nlQ K x p σ q)) (nI p) (nI q) U
    rw [cs.1.1, if_pos (nI_lt hq (by omega)), shl12 (by omega), shl12 (by omega), nI_or, c_wantsPair px hP hp hq, bind_some'] at st
    by_cases a : kW K x p = true ∧ kW K x q = true
    · rw [bI_t a, if_neg one_ne] at st
      by_cases b : memP (kF K x) (kG K x) p q (kLn K x) = true
      · obtain ⟨j, hj, D⟩ := (memP_iff _).mp b
        have r2 : ∀ u, u < kLn K x → eqL (kF K x u) (kG K x u) p q → nI j = nI u := fun u hu w => by
          have := (ok.2.2.2.2 x hx).2.2 j u hj hu (by omega)
          rw [this]
        rw [c_find px hl' (ok.fg hx) (by omega) (by omega) (by omega) (fun w => absurd D (w j hj)) r2, bind_some', if_neg (neg1_nI (by omega)), e_C_bestNewLine_119v2, nI_1] at st
        refine ⟨U, hU, ?_⟩
        rw [nx, if_neg (fun w => by have := w.2.2.2; rw [b] at this; exact absurd this (by simp))]
        exact st
      · have b' : memP (kF K x) (kG K x) p q (kLn K x) = false := by simpa using b
        have D' : ∀ i, i < kLn K x → ¬ eqL (kF K x i) (kG K x i) p q := fun i hi w => b ((memP_iff _).mpr ⟨i, hi, w⟩)
        have cn : cN K x p q := ⟨a.1, a.2, b'⟩
        rw [c_find (r := -1) px hl' (ok.fg hx) (by omega) (by omega) (by omega) (fun _ => rfl) (fun i hi w => absurd w (D' i hi)), bind_some', if_pos rfl] at st
        obtain ⟨W1, a1, a2, a3, a4⟩ := c_parBecome (d := d + 3) (j := 18) (u := x) (by omega) U
        have p1 := a2 _ _ _ _ _ _ hl' px
        obtain ⟨W2, b1, b2, b3, b4⟩ := c_draw (d := d + 2) p1 hl p q
        have f1 : Fr pS U W1 := ⟨fun t i k q => a3 t i k (fun w => q (Or.inr (Or.inr w))), a4⟩
        have f2 : Fr pS W1 W2 := ⟨fun t i k q => b3 t i k (fun w => q (Or.inr (Or.inr w))), b4⟩
        have cs2 := (cs.frS ok f1).frS ok f2
        have od := cN_ok ok hx hl hpq hq cn
        obtain ⟨W3, c1, c2⟩ := c_spareWorth (d := d) cs2 ok b2 (by omega) (fun i hi => by
          have := od.fn3 hx i (by rw [drawK_Ln]; exact hi)
          rw [drawK_F, drawK_G] at this
          exact this) (ok.2.2.2.2 x hx).1.1
        have we : wrt (kCe K) (kBr K) (updN (kF K x) (kLn K x) p) (updN (kG K x) (kLn K x) q) (kNP K) (kKi K x) (kA K x) (kLn K x + 1) = wN K x p q := by
          unfold wN wK
          rw [drawK_F, drawK_G, drawK_Ki, drawK_A, drawK_Ln]
          rfl
        rw [we] at c1
        rw [a1, bind_some', b1, bind_some', c1, bind_some'] at st
        refine ⟨W3, hU.trans (f1.trans (f2.trans (c2.fr (by unfold pS; omega)))), ?_⟩
        rw [nx, if_pos ⟨hpq, cn⟩]
        refine st.trans ?_
        rcases cndS_C gd (100 * p + q) (wN_le ok hx hl hpq hq cn) with ⟨g1, g2⟩ | ⟨g1, g2⟩
        · have e : (100 * nI p + nI q : Int32) = nI (100 * p + q) := by simp only [fa_lit, pk_mul, nI_add]
          rw [if_pos g1, g2, e_C_bestNewLine_119, nI_1, e]
          rfl
        · rw [if_neg g1, g2, e_C_bestNewLine_119, nI_1]
    · rw [bI_f a, if_pos rfl, e_C_bestNewLine_119v2, nI_1] at st
      refine ⟨U, hU, ?_⟩
      rw [nx, if_neg (fun w => a ⟨w.2.1, w.2.2.1⟩)]
      exact st) W hW
  refine ⟨W', w1, ?_⟩
  have cs := h.frS ok w1
  have e0 : nlQ K x p σ (p + 1 + 0) = σ := nlQ_low _ (by omega)
  rw [e0] at w2
  refine Eq.trans w2 ?_
  rw [show p + 1 + (kNP K - (p + 1)) = kNP K by omega, e_C_bestNewLine_34, cs.1.1, if_neg (nI_nlt (Nat.le_refl _) (by omega)), nI_1]
theorem c_bestNewLine {d x : Nat} {V : Mem} {K : SKY} (h : CS V 0 K) (ok : okK K) (hx : x < kNX K) : ∃ V', clI (d + 5) m_C_bestNewLine [.inr (.inr (0, 0)), .inr (.inr (5, x))] V = some (if kLn K x < 10 then sM1 (nlP K x (kNP K)) else -1, V') ∧ Fr pS V V' := by
  have hP := ok.1
  have hl' := ok.toL.2.2 x hx
  by_cases hl : kLn K x < 10
  · obtain ⟨V', v1, v2⟩ := loopI (kNP K) (fun _ W => Fr pS V W) (fun p W => sem (d + 4) 119 16 [some (.inr (.inr (0, 0))), some (.inr (.inr (5, x))), some (.inl (sM1 (nlP K x p))), some (.inl (sC2 (nlP K x p))), some (.inl (nI p)), none, none, none] [] W) (fun p W hp hW => by
      obtain ⟨W', w1, w2⟩ := cNewIn (d := d) h ok hx hl hp (nlP_gd ok hx hl p (by omega)) hW
      refine ⟨W', w1, Eq.trans ?_ w2⟩
      show sem _ _ _ _ _ _ = sem _ _ _ _ _ _
      rw [e_C_bestNewLine_16, (h.frS ok hW).1.1, if_pos (nI_lt hp (by omega)), nI_1]) V Fr.rfl
    refine ⟨V', clI_of ((e_C_bestNewLine_0 (d + 4) x V).trans ?_), v1⟩
    rw [c_room (h.p0 hx), bind_some', bI_t (show nI (kLn K x) < 10 from nI_lt (b := 10) hl (by omega)), if_neg one_ne, if_pos hl]
    refine Eq.trans v2 ?_
    show sem _ _ _ _ _ _ = _
    rw [e_C_bestNewLine_16, (h.frS ok v1).1.1, if_neg (nI_nlt (Nat.le_refl _) (by omega))]
  · refine ⟨V, clI_of ((e_C_bestNewLine_0 (d + 4) x V).trans ?_), Fr.rfl⟩
    rw [c_room (h.p0 hx), bind_some', bI_f (show ¬ nI (kLn K x) < 10 from nI_nlt (b := 10) (by omega) (by omega)), if_pos rfl, if_neg hl]
theorem mNewIn {d x p : Nat} {V W : Mem} {K : SKY} (ok : okK K) (hx : x < kNX K) (hl : kLn K x < 10) (hp : p < kNP K) {σ : Option (Nat × Nat)} (hs : gdS σ) (hM : MS W 32 0 K) (hW : FrM V W) : ∃ W', MS W' 32 0 K ∧ FrM V W' ∧ sem (d + 5) 185 36 [some (.inr (.inr (30, 0))), some (.inl (nI x)), some (.inl (sM1 σ)), some (.inl (sM2 σ)), some (.inl (nI p)), some (.inl (nI (p + 1))), none] [] W = sem (d + 5) 185 7 [some (.inr (.inr (30, 0))), some (.inl (nI x)), some (.inl (sM1 (nlQ K x p σ (kNP K)))), some (.inl (sM2 (nlQ K x p σ (kNP K)))), some (.inl (nI (p + 1))), none, none] [] W' := by
  have hX := ok.2.1
  have hP := ok.1
  obtain ⟨W', ⟨w1, w2⟩, w3⟩ := loopI (kNP K - (p + 1)) (fun _ U => MS U 32 0 K ∧ FrM V U) (fun k U => sem (d + 5) 185 36 [some (.inr (.inr (30, 0))), some (.inl (nI x)), some (.inl (sM1 (nlQ K x p σ (p + 1 + k)))), some (.inl (sM2 (nlQ K x p σ (p + 1 + k)))), some (.inl (nI p)), some (.inl (nI (p + 1 + k))), none] [] U) (fun k U hk hU => by
    obtain ⟨ms, fu⟩ := hU
    have hq : p + 1 + k < kNP K := by omega
    have nx : nlQ K x p σ (p + 1 + (k + 1)) = if p < p + 1 + k ∧ cN K x p (p + 1 + k) then cndS (nlQ K x p σ (p + 1 + k)) (100 * p + (p + 1 + k)) (wN K x p (p + 1 + k)) else nlQ K x p σ (p + 1 + k) := rfl
    rw [show p + 1 + (k + 1) = p + 1 + k + 1 by omega] at *
    have hpq : p < p + 1 + k := by omega
    have gd := nlQ_gd ok hx hl (p := p) hs (p + 1 + k) (by omega)
    generalize p + 1 + k = q at *
    have st := e_M_newLine_36 (d + 5) (nI x) (sM1 (nlQ K x p σ q)) (sM2 (nlQ K x p σ q)) (nI p) (nI q) U
    rw [ms.np, if_pos (nI_lt hq (by omega)), c_M_isWanted ms ok hx hp, bind_some'] at st
    have skip : ¬ cN K x p q → sem (d + 5) 185 36 [some (.inr (.inr (30, 0))), some (.inl (nI x)), some (.inl (sM1 (nlQ K x p σ q))), some (.inl (sM2 (nlQ K x p σ q))), some (.inl (nI p)), some (.inl (nI q)), none] [] U = sem (d + 5) 185 36 [some (.inr (.inr (30, 0))), some (.inl (nI x)), some (.inl (sM1 (nlQ K x p σ q))), some (.inl (sM2 (nlQ K x p σ q))), some (.inl (nI p)), some (.inl (nI (q + 1))), none] [] U → ∃ V', (MS V' 32 0 K ∧ FrM V V') ∧ sem (d + 5) 185 36 [some (.inr (.inr (30, 0))), some (.inl (nI x)), some (.inl (sM1 (nlQ K x p σ q))), some (.inl (sM2 (nlQ K x p σ q))), some (.inl (nI p)), some (.inl (nI q)), none] [] U = sem (d + 5) 185 36 [some (.inr (.inr (30, 0))), some (.inl (nI x)), some (.inl (sM1 (nlQ K x p σ (q + 1)))), some (.inl (sM2 (nlQ K x p σ (q + 1)))), some (.inl (nI p)), some (.inl (nI (q + 1))), none] [] V' := fun nc e => ⟨U, ⟨ms, fu⟩, by rw [nx, if_neg (fun w => nc w.2)]; exact e⟩
    by_cases a : kW K x p = true
    · rw [bI_t a, if_neg one_ne, c_M_isWanted ms ok hx hq, bind_some'] at st
      by_cases a2 : kW K x q = true
      · rw [bI_t a2, if_neg one_ne] at st
        by_cases b : memP (kF K x) (kG K x) p q (kLn K x) = true
        · obtain ⟨j, hj, D⟩ := (memP_iff _).mp b
          have r2 : ∀ u, u < kLn K x → eqL (kF K x u) (kG K x u) p q → nI j = nI u := fun u hu w => by
            have := (ok.2.2.2.2 x hx).2.2 j u hj hu (by omega)
            rw [this]
          rw [c_M_drawn ms ok hx (by omega) (by omega) (fun w => absurd D (w j hj)) r2, bind_some', if_neg (neg1_nI (by omega)), e_M_newLine_143, nI_1] at st
          exact skip (fun w => by have := w.2.2; rw [b] at this; exact absurd this (by simp)) st
        · have b' : memP (kF K x) (kG K x) p q (kLn K x) = false := by simpa using b
          have D' : ∀ i, i < kLn K x → ¬ eqL (kF K x i) (kG K x i) p q := fun i hi w => b ((memP_iff _).mpr ⟨i, hi, w⟩)
          have cn : cN K x p q := ⟨a, a2, b'⟩
          have od := cN_ok ok hx hl hpq hq cn
          obtain ⟨W1, a1, m1, f1⟩ := c_M_draw (d := d + 3) ms ok hx hl p q
          have wo : clI (d + 5) 174 [.inr (.inr (30, 0)), .inl (nI x)] W1 = some (nI (wN K x p q), W1) := c_M_worth (d := d) m1 od hx
          have lnn : clI (d + 5) 139 [.inr (.inr (30, 0)), .inl (nI x)] W1 = some (nI (kLn K x + 1), W1) := by
            have := c_M_ln (d := d + 4) m1 od.toL hx
            rw [drawK_Ln] at this
            exact this
          obtain ⟨W2, b1, m2, f2⟩ := c_M_erase (d := d + 3) m1 od.toL hx (show kLn K x < kLn (drawK K x p q) x by rw [drawK_Ln]; omega)
          rw [c_M_drawn (r := -1) ms ok hx (by omega) (by omega) (fun _ => rfl) (fun i hi w => absurd w (D' i hi)), bind_some', if_pos rfl, a1, bind_some', wo, bind_some', lnn, bind_some', nI_pred, b1, bind_some'] at st
          refine ⟨W2, ⟨m2.undraw, fu.trans (f1.trans f2)⟩, ?_⟩
          rw [nx, if_pos ⟨hpq, cn⟩]
          refine st.trans ?_
          rcases cndS_M gd (100 * p + q) (wN_le ok hx hl hpq hq cn) with ⟨g1, g2, g3⟩ | ⟨g0, g1, g2, g3⟩
          · have e : (100 * nI p + nI q : Int32) = nI (100 * p + q) := by simp only [fa_lit, pk_mul, nI_add]
            rw [g2, e_M_newLine_123, e_M_newLine_135, e_M_newLine_143v2, nI_1, e, g3]
            rcases g1 with g1 | g1
            · rw [if_pos g1]; rfl
            · rw [if_pos g1]
              split <;> rfl
          · rw [if_neg g0, if_neg g1, g2, e_M_newLine_135, e_M_newLine_143v2, nI_1, g3]
      · rw [bI_f a2, if_pos rfl, e_M_newLine_143, nI_1] at st
        exact skip (fun w => a2 w.2.1) st
    · rw [bI_f a, if_pos rfl, e_M_newLine_143, nI_1] at st
      exact skip (fun w => a w.1) st) W ⟨hM, hW⟩
  refine ⟨W', w1, w2, ?_⟩
  have e0 : nlQ K x p σ (p + 1 + 0) = σ := nlQ_low _ (by omega)
  rw [e0] at w3
  refine Eq.trans w3 ?_
  rw [show p + 1 + (kNP K - (p + 1)) = kNP K by omega, e_M_newLine_36, w1.np, if_neg (nI_nlt (Nat.le_refl _) (by omega)), nI_1]
theorem c_M_newLine {d x : Nat} {V : Mem} {K : SKY} (h : MS V 32 0 K) (ok : okK K) (hx : x < kNX K) : ∃ V', clI (d + 6) m_M_newLine [.inr (.inr (30, 0)), .inl (nI x)] V = some (if kLn K x < 10 then sM1 (nlP K x (kNP K)) else -1, V') ∧ MS V' 32 0 K ∧ FrM V V' := by
  have hP := ok.1
  have hl' := ok.toL.2.2 x hx
  by_cases hl : kLn K x < 10
  · have lt : nI (kLn K x) < 10 := nI_lt (b := 10) hl (by omega)
    obtain ⟨V', ⟨v1, v2⟩, v3⟩ := loopI (kNP K) (fun _ W => MS W 32 0 K ∧ FrM V W) (fun p W => sem (d + 5) 185 7 [some (.inr (.inr (30, 0))), some (.inl (nI x)), some (.inl (sM1 (nlP K x p))), some (.inl (sM2 (nlP K x p))), some (.inl (nI p)), none, none] [] W) (fun p W hp hW => by
      obtain ⟨W', w1, w2, w3⟩ := mNewIn (d := d) ok hx hl hp (nlP_gd ok hx hl p (by omega)) hW.1 hW.2
      refine ⟨W', ⟨w1, w2⟩, Eq.trans ?_ w3⟩
      show sem _ _ _ _ _ _ = sem _ _ _ _ _ _
      rw [e_M_newLine_7, hW.1.np, if_pos (nI_lt hp (by omega)), c_M_ln hW.1 ok.toL hx, bind_some', if_pos lt, nI_1]) V ⟨h, FrM.rfl⟩
    refine ⟨V', clI_of ((e_M_newLine_0 (d + 5) _ V).trans ?_), v1, v2⟩
    rw [if_pos hl]
    refine Eq.trans v3 ?_
    show sem _ _ _ _ _ _ = _
    rw [e_M_newLine_7, v1.np, if_neg (nI_nlt (Nat.le_refl _) (by omega))]
  · refine ⟨V, clI_of ((e_M_newLine_0 (d + 5) _ V).trans ?_), h, FrM.rfl⟩
    rw [if_neg hl, e_M_newLine_7, c_M_ln h ok.toL hx, bind_some', if_neg (show ¬ nI (kLn K x) < 10 from nI_nlt (b := 10) (by omega) (by omega))]
    split <;> rfl
theorem pm_better (SL : Nat) (xs : Nat → Int32) (a1 : Int32) (a2 : Int32) : PMI SL xs m_C_better m_M_better [.inl a1, .inl a2] := by
  intro V h
  obtain ⟨K, k1, k2, k3, k4⟩ := h.1
  have hX := k1.2.1
  have hP := k1.1
  rcases ix_or a1 (n := kNX K) (by omega) with hN | ⟨x, hx, rfl⟩
  · refine ⟨-2, CRf V 0, MRf (CRf V 0) 0, clI_of ((e_C_better_0 29 a1 a2 V).trans ?_), h.vok.crf 0, clI_of ((e_M_better_0 29 a1 a2 _).trans ?_), h.ref (by omega)⟩
    · rw [c_C_isParish, bind_some', k2.1.2.1, bI_f hN, if_pos rfl, c_C_ref2, bind_some']
    · rw [c_M_isParish (by omega) a1 (k3.crf 0).nx, bind_some', bI_f hN, if_pos rfl, e_M_better_20, c_M_ref2, bind_some']
  · have cl := e_C_better_0 29 (nI x) a2 V
    rw [c_C_isParish, bind_some', k2.1.2.1, bI_t (ix_in hx (by omega)), if_neg one_ne, if_neg (nI_in (N := 6) (by omega) (by omega)), if_neg (nI_in (N := 6) (by omega) (by omega)), if_neg (nI_in (N := 6) (by omega) (by omega)), nI_clamp (by omega)] at cl
    rcases ix_or a2 (n := 3) (by omega) with hN | ⟨j, hj, rfl⟩
    · have n0 : ∀ j, j < 3 → ¬ a2 = nI j := fun j hj w => hN (w ▸ ix_in hj (by omega))
      refine ⟨-2, CRf V 0, MRf (CRf V 0) 0, clI_of (cl.trans ?_), h.vok.crf 0, clI_of ((e_M_better_0 29 _ a2 _).trans ?_), h.ref (by omega)⟩
      · rw [if_neg (show ¬ a2 = 0 from n0 0 (by omega)), if_neg (show ¬ a2 = 1 from n0 1 (by omega)), if_neg (show ¬ a2 = 2 from n0 2 (by omega)), c_C_ref2, bind_some']
      · rw [c_M_isParish (by omega) _ (k3.crf 0).nx, bind_some', bI_t (ix_in hx (by omega)), if_neg one_ne, c_in0_2, bind_some', bI_f hN, if_pos rfl, e_M_better_20, c_M_ref2, bind_some']
    · have ml : ∀ V' : Mem, MS V' 32 0 K → sem 29 187 0 [some (.inr (.inr (30, 0))), some (.inl (nI x)), some (.inl (nI j))] [] V' = if nI j = 0 then (clI 29 184 [.inr (.inr (30, 0)), .inl (nI x)] V').bind fun W3 => some (some (.inl W3.1), W3.2) else if nI j = 1 then (clI 29 185 [.inr (.inr (30, 0)), .inl (nI x)] V').bind fun W4 => some (some (.inl W4.1), W4.2) else (clI 29 186 [.inr (.inr (30, 0)), .inl (nI x)] V').bind fun W5 => some (some (.inl W5.1), W5.2) := fun V' hm => by
        rw [e_M_better_0, c_M_isParish (by omega) _ hm.nx, bind_some', bI_t (ix_in hx (by omega)), if_neg one_ne, c_in0_2, bind_some', bI_t (ix_in hj (by omega)), if_neg one_ne]
      have px := k2.p0 hx
      match j, hj, cl, ml with
      | 0, _, cl, ml =>
        refine PM_cor h (V1 := V) (V2 := V) (r := nI (jS K (bm (kNP K) (kW K x)) (onesN (bm (kNP K) (kW K x)) 12) 0 0)) (clI_of (cl.trans ?_)) Cor.rfl (clI_of ((ml V k3).trans ?_)) Cor.rfl
        · rw [if_pos (by decide), px.2.2.1, c_joined k2 k1, bind_some']
        · rw [if_pos (by decide), c_M_joined k3 k1 hx, bind_some']
      | 1, _, cl, ml =>
        obtain ⟨V1, v1, v2⟩ := c_bestNewLine (d := 24) k2 k1 hx
        obtain ⟨V2, u1, u2, u3⟩ := c_M_newLine (d := 23) (k3.fr v2 (by unfold pS; omega)) k1 hx
        refine ⟨if kLn K x < 10 then sM1 (nlP K x (kNP K)) else -1, V1, V2, clI_of (cl.trans ?_), h.vok.fr v2 (by unfold pS dp8; omega), clI_of ((ml V1 (k3.fr v2 (by unfold pS; omega))).trans ?_), h.gen (K := K) (K' := K) (P := fun t i k => pS t i k ∨ t = 32) k4 (Nat.le_refl _) k1 ((v2.mono (fun t i k w => Or.inl w)).trans (u3.fr (fun i k => Or.inr rfl))) (by unfold pS dpS dp2 dp3 dp4 dp5 dp6 dp7 dp8; omega) ((k2.frS k1 v2).frame k1.2.1 (fun t i k q => u3.1 t i k (by omega))) u2⟩
        · rw [if_neg (by decide), if_pos (by decide), v1, bind_some']
        · rw [if_neg (by decide), if_pos (by decide), u1, bind_some']
      | 2, _, cl, ml =>
        obtain ⟨V1, v1, v2⟩ := c_worstLine (d := 24) k2 k1 hx
        obtain ⟨V2, u1, u2, u3⟩ := c_M_worst (d := 23) (k3.fr v2 (by unfold pS; omega)) k1 hx
        refine ⟨sM1 (worS K x (kLn K x)), V1, V2, clI_of (cl.trans ?_), h.vok.fr v2 (by unfold pS dp8; omega), clI_of ((ml V1 (k3.fr v2 (by unfold pS; omega))).trans ?_), h.gen (K := K) (K' := K) (P := fun t i k => pS t i k ∨ pM t i k) k4 (Nat.le_refl _) k1 ((v2.mono (fun t i k w => Or.inl w)).trans (u3.mono (fun t i k w => Or.inr w))) (by unfold pS pM dpS dp2 dp3 dp4 dp5 dp6 dp7 dp8; omega) ((k2.frS k1 v2).fr k1 u3 (by unfold pM; omega)) u2⟩
        · rw [if_neg (by decide), if_neg (by decide), if_pos (by decide), v1, bind_some']
        · rw [if_neg (by decide), if_neg (by decide), u1, bind_some']
      | n + 3, hj, _, _ => exact absurd hj (by omega)
