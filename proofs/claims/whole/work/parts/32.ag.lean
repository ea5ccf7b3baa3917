/-! AGREEMENT: what a part of Inv looks at, and what leaves it alone -/
def Ag (P : Nat → Nat → Nat → Prop) (V V' : Mem) : Prop := ∀ t i k, P t i k → V'.1 t i k = V.1 t i k ∧ V'.2 t i k = V.2 t i k
theorem Ag.rfl {P : Nat → Nat → Nat → Prop} {V : Mem} : Ag P V (V.1, V.2) := fun _ _ _ _ => ⟨Eq.refl _, Eq.refl _⟩
theorem Ag.trans {P : Nat → Nat → Nat → Prop} {V V' V'' : Mem} (h : Ag P V V') (h' : Ag P V' V'') : Ag P V V'' := fun t i k hc => ⟨(h' t i k hc).1.trans (h t i k hc).1, (h' t i k hc).2.trans (h t i k hc).2⟩
theorem Ag.set {P : Nat → Nat → Nat → Prop} {V : Mem} {F : Nat → Nat → Nat → Int32} {G : Nat → Nat → Nat → Int64} {t i k : Nat} {x : Int32} (hn : ¬ P t i k) (h : Ag P V (F, G)) : Ag P V (mset F t i k x, G) := by
  intro t' i' k' hc
  refine ⟨?_, (h t' i' k' hc).2⟩
  show mset F t i k x t' i' k' = _
  unfold mset
  rw [if_neg (fun q => hn (by obtain ⟨rfl, rfl, rfl⟩ := q; exact hc))]
  exact (h t' i' k' hc).1
theorem Ag.setL {P : Nat → Nat → Nat → Prop} {V : Mem} {F : Nat → Nat → Nat → Int32} {G : Nat → Nat → Nat → Int64} {t i k : Nat} {x : Int64} (hn : ¬ P t i k) (h : Ag P V (F, G)) : Ag P V (F, mset G t i k x) := by
  intro t' i' k' hc
  refine ⟨(h t' i' k' hc).1, ?_⟩
  show mset G t i k x t' i' k' = _
  unfold mset
  rw [if_neg (fun q => hn (by obtain ⟨rfl, rfl, rfl⟩ := q; exact hc))]
  exact (h t' i' k' hc).2
theorem Ag.cpy {P : Nat → Nat → Nat → Prop} {V : Mem} {F : Nat → Nat → Nat → Int32} {G : Nat → Nat → Nat → Int64} {t i sp t2 i2 dp n : Nat} (hn : ∀ k, ¬ P t2 i2 k) (h : Ag P V (F, G)) : Ag P V (mcpy F t i sp t2 i2 dp n, G) := by
  intro t' i' k' hc
  refine ⟨?_, (h t' i' k' hc).2⟩
  show mcpy F t i sp t2 i2 dp n t' i' k' = _
  unfold mcpy
  rw [if_neg (fun q => hn k' (by obtain ⟨rfl, rfl, -⟩ := q; exact hc))]
  exact (h t' i' k' hc).1
theorem Ag.cpyL {P : Nat → Nat → Nat → Prop} {V : Mem} {F : Nat → Nat → Nat → Int32} {G : Nat → Nat → Nat → Int64} {t i sp t2 i2 dp n : Nat} (hn : ∀ k, ¬ P t2 i2 k) (h : Ag P V (F, G)) : Ag P V (F, mcpy G t i sp t2 i2 dp n) := by
  intro t' i' k' hc
  refine ⟨(h t' i' k' hc).1, ?_⟩
  show mcpy G t i sp t2 i2 dp n t' i' k' = _
  unfold mcpy
  rw [if_neg (fun q => hn k' (by obtain ⟨rfl, rfl, -⟩ := q; exact hc))]
  exact (h t' i' k' hc).2
def dp1 (t i k : Nat) : Prop := ((t = 1 ∨ t = 2 ∨ t = 3) ∧ i = 0) ∨ ((t = 5 ∨ t = 6 ∨ t = 7) ∧ i < 6) ∨ t = 32 ∨ (t = 23 ∧ k = 1) ∨ t = 42
def dp2 (t i k : Nat) : Prop := (t = 0 ∧ k = 11) ∨ (t = 30 ∧ k = 4) ∨ ((t = 1 ∨ t = 2 ∨ t = 3) ∧ i = 1) ∨ ((t = 5 ∨ t = 6 ∨ t = 7) ∧ 6 ≤ i ∧ i < 12) ∨ t = 33
def dp3 (t _i k : Nat) : Prop := (t = 20 ∧ k = 0) ∨ (t = 30 ∧ k = 6) ∨ t = 21 ∨ t = 35
def dp4 (t _i k : Nat) : Prop := (t = 23 ∧ k = 2) ∨ t = 43 ∨ t = 24 ∨ t = 44
def dp5 (t _i _k : Nat) : Prop := t = 25 ∨ t = 31
def dp6 (t _i _k : Nat) : Prop := t = 36
def dp7 (t _i _k : Nat) : Prop := t = 46
def dp8 (t _i _k : Nat) : Prop := t = 50 ∨ t = 51
def I1 (V : Mem) : Prop := ∃ K : SKY, okK K ∧ CS V 0 K ∧ MS V 32 0 K ∧ (∀ s, s < 8 → okH (kNX K) (V.1 23 s 1) ∧ V.1 42 0 s = V.1 23 s 1)
def I2 (V : Mem) : Prop := V.1 30 0 4 = V.1 0 0 11 ∧ (V.1 0 0 11 = 0 ∨ (V.1 0 0 11 = 1 ∧ ∃ K : SKY, okK K ∧ CS V 1 K ∧ MS V 33 0 K))
def I3 (V : Mem) : Prop := ∃ n : Nat, n ≤ 250 ∧ V.1 20 0 0 = nI n ∧ V.1 30 0 6 = nI n ∧ ∀ k, k < n → ∃ b : Nat, b < 256 ∧ V.1 21 0 k = nI b ∧ V.1 35 0 k = nI b
def I4 (V : Mem) : Prop := ∀ s, s < 8 → (∃ n : Nat, n ≤ 40 ∧ V.1 23 s 2 = nI n ∧ V.1 43 0 s = nI n) ∧ ∀ k, k < 40 → V.2 44 0 (40 * s + k) = V.2 24 s k
def I5 (V : Mem) : Prop := ∀ k, k < 5 → V.1 31 0 (k + 2) = V.1 25 0 k
def I6 (V : Mem) : Prop := ∀ k, k < 30 → V.1 36 0 k = nI (wordsL.getD k 0)
def I7 (V : Mem) : Prop := V.1 46 0 0 = -1 ∧ V.1 46 0 1 = 0 ∧ V.1 46 0 2 = 0 ∧ V.1 46 0 3 = 1 ∧ V.1 46 0 4 = 2 ∧ V.1 46 0 5 = 0
theorem CS.ag0 {V V' : Mem} {K : SKY} (hx : kNX K ≤ 6) (h : CS V 0 K) (hc : Ag dp1 V V') : CS V' 0 K := by
  have c1 : ∀ k, V'.1 1 0 k = V.1 1 0 k := fun k => (hc 1 0 k (by unfold dp1; omega)).1
  have c2 : ∀ k, V'.1 2 0 k = V.1 2 0 k := fun k => (hc 2 0 k (by unfold dp1; omega)).1
  have c3 : ∀ k, V'.1 3 0 k = V.1 3 0 k := fun k => (hc 3 0 k (by unfold dp1; omega)).1
  have c5 : ∀ j, j < 6 → ∀ k, V'.1 5 j k = V.1 5 j k := fun j hj k => (hc 5 j k (by unfold dp1; omega)).1
  have c6 : ∀ j, j < 6 → ∀ k, V'.1 6 j k = V.1 6 j k := fun j hj k => (hc 6 j k (by unfold dp1; omega)).1
  have c7 : ∀ j, j < 6 → ∀ k, V'.1 7 j k = V.1 7 j k := fun j hj k => (hc 7 j k (by unfold dp1; omega)).1
  obtain ⟨⟨h1, h2, h3, h4⟩, h5, h6⟩ := h
  refine ⟨⟨by rw [c1]; exact h1, by rw [c1]; exact h2, by rw [c1]; exact h3, by rw [c1]; exact h4⟩, fun p hp => ⟨by rw [c2]; exact (h5 p hp).1, by rw [c3]; exact (h5 p hp).2⟩, fun x h9 => ?_⟩
  have hj : x + 6 * 0 < 6 := by omega
  obtain ⟨g1, g2, g3, g4, g5⟩ := h6 x h9
  exact ⟨by rw [c5 _ hj]; exact g1, by rw [c5 _ hj]; exact g2, by rw [c5 _ hj]; exact g3, by rw [c5 _ hj]; exact g4, fun i hi => ⟨by rw [c6 _ hj]; exact (g5 i hi).1, by rw [c7 _ hj]; exact (g5 i hi).2⟩⟩
theorem CS.ag1 {V V' : Mem} {K : SKY} (hx : kNX K ≤ 6) (h : CS V 1 K) (hc : Ag dp2 V V') : CS V' 1 K := by
  have c1 : ∀ k, V'.1 1 1 k = V.1 1 1 k := fun k => (hc 1 1 k (by unfold dp2; omega)).1
  have c2 : ∀ k, V'.1 2 1 k = V.1 2 1 k := fun k => (hc 2 1 k (by unfold dp2; omega)).1
  have c3 : ∀ k, V'.1 3 1 k = V.1 3 1 k := fun k => (hc 3 1 k (by unfold dp2; omega)).1
  have c5 : ∀ j, 6 ≤ j → j < 12 → ∀ k, V'.1 5 j k = V.1 5 j k := fun j h0 hj k => (hc 5 j k (by unfold dp2; omega)).1
  have c6 : ∀ j, 6 ≤ j → j < 12 → ∀ k, V'.1 6 j k = V.1 6 j k := fun j h0 hj k => (hc 6 j k (by unfold dp2; omega)).1
  have c7 : ∀ j, 6 ≤ j → j < 12 → ∀ k, V'.1 7 j k = V.1 7 j k := fun j h0 hj k => (hc 7 j k (by unfold dp2; omega)).1
  obtain ⟨⟨h1, h2, h3, h4⟩, h5, h6⟩ := h
  refine ⟨⟨by rw [c1]; exact h1, by rw [c1]; exact h2, by rw [c1]; exact h3, by rw [c1]; exact h4⟩, fun p hp => ⟨by rw [c2]; exact (h5 p hp).1, by rw [c3]; exact (h5 p hp).2⟩, fun x h9 => ?_⟩
  have h0 : 6 ≤ x + 6 * 1 := by omega
  have hj : x + 6 * 1 < 12 := by omega
  obtain ⟨g1, g2, g3, g4, g5⟩ := h6 x h9
  exact ⟨by rw [c5 _ h0 hj]; exact g1, by rw [c5 _ h0 hj]; exact g2, by rw [c5 _ h0 hj]; exact g3, by rw [c5 _ h0 hj]; exact g4, fun i hi => ⟨by rw [c6 _ h0 hj]; exact (g5 i hi).1, by rw [c7 _ h0 hj]; exact (g5 i hi).2⟩⟩
theorem I1.ag {V V' : Mem} (h : I1 V) (hc : Ag dp1 V V') : I1 V' := by
  obtain ⟨K, k1, k2, k3, k4⟩ := h
  refine ⟨K, k1, k2.ag0 k1.2.1 hc, k3.same (funext fun k => (hc 32 0 k (by unfold dp1; omega)).1), fun s hs => ?_⟩
  rw [(hc 23 s 1 (by unfold dp1; omega)).1, (hc 42 0 s (by unfold dp1; omega)).1]
  exact k4 s hs
theorem I2.ag {V V' : Mem} (h : I2 V) (hc : Ag dp2 V V') : I2 V' := by
  obtain ⟨i1, i2⟩ := h
  have e1 := (hc 30 0 4 (by unfold dp2; omega)).1
  have e2 := (hc 0 0 11 (by unfold dp2; omega)).1
  refine ⟨by rw [e1, e2]; exact i1, ?_⟩
  rw [e2]
  rcases i2 with i2 | ⟨i2, K2, j1, j2, j3⟩
  · exact Or.inl i2
  · exact Or.inr ⟨i2, K2, j1, j2.ag1 j1.2.1 hc, j3.same (funext fun k => (hc 33 0 k (by unfold dp2; omega)).1)⟩
theorem I3.ag {V V' : Mem} (h : I3 V) (hc : Ag dp3 V V') : I3 V' := by
  obtain ⟨n, t1, t2, t3, t4⟩ := h
  refine ⟨n, t1, ?_, ?_, fun k hk => ?_⟩
  · rw [(hc 20 0 0 (by unfold dp3; omega)).1]; exact t2
  · rw [(hc 30 0 6 (by unfold dp3; omega)).1]; exact t3
  · rw [(hc 21 0 k (by unfold dp3; omega)).1, (hc 35 0 k (by unfold dp3; omega)).1]; exact t4 k hk
theorem I4.ag {V V' : Mem} (h : I4 V) (hc : Ag dp4 V V') : I4 V' := by
  intro s hs
  refine ⟨?_, fun k hk => ?_⟩
  · rw [(hc 23 s 2 (by unfold dp4; omega)).1, (hc 43 0 s (by unfold dp4; omega)).1]; exact (h s hs).1
  · rw [(hc 24 s k (by unfold dp4; omega)).2, (hc 44 0 (40 * s + k) (by unfold dp4; omega)).2]; exact (h s hs).2 k hk
theorem I5.ag {V V' : Mem} (h : I5 V) (hc : Ag dp5 V V') : I5 V' := by
  intro k hk
  rw [(hc 31 0 (k + 2) (by unfold dp5; omega)).1, (hc 25 0 k (by unfold dp5; omega)).1]
  exact h k hk
theorem I6.ag {V V' : Mem} (h : I6 V) (hc : Ag dp6 V V') : I6 V' := by
  intro k hk
  rw [(hc 36 0 k (by unfold dp6; omega)).1]
  exact h k hk
theorem I7.ag {V V' : Mem} (h : I7 V) (hc : Ag dp7 V V') : I7 V' := by
  have e : ∀ k, V'.1 46 0 k = V.1 46 0 k := fun k => (hc 46 0 k (by unfold dp7; omega)).1
  unfold I7
  rw [e, e, e, e, e, e]
  exact h
theorem Vok.ag {SL : Nat} {xs : Nat → Int32} {V V' : Mem} (h : Vok SL xs V) (hc : Ag dp8 V V') : Vok SL xs V' :=
  ⟨(funext fun k => (hc 50 0 k (by unfold dp8; omega)).1 : V'.1 50 0 = V.1 50 0).trans h.1, (hc 51 0 0 (by unfold dp8; omega)).1.trans h.2⟩
theorem mset_e {α : Type} (f : Nat → Nat → Nat → α) (t i k : Nat) (x : α) : mset f t i k x t i k = x := if_pos ⟨rfl, rfl, rfl⟩
theorem mset_n {α : Type} {f : Nat → Nat → Nat → α} {t i k t' i' k' : Nat} {x : α} (h : ¬ (t' = t ∧ i' = i ∧ k' = k)) : mset f t i k x t' i' k' = f t' i' k' := if_neg h
/-! REFUSING -/
def CRf (V : Mem) (k : Nat) : Mem := (mset V.1 25 0 k (V.1 25 0 k + 1), V.2)
def MRf (V : Mem) (k : Nat) : Mem := (mset V.1 31 0 (k + 2) (V.1 31 0 (k + 2) + 1), V.2)
theorem c_C_ref {d : Nat} {k : Nat} (hk : k < 5) {x : Int32} (hx : -2 - x = nI k) (V : Mem) : clI (d + 1) m_C_refuse [.inr (.inr (0, 0)), .inl x] V = some (x, CRf V k) := by
  apply clI_of
  refine (e_C_refuse_0 d x V).trans ((e_C_refuse_5 d x _ V).trans ?_)
  rw [hx]
  simp (disch := omega) only [fa_lit, nI_clamp, nI_ltI]
  rw [if_neg (by omega), if_pos hk, if_neg (by omega), if_neg (by omega)]
  rfl
theorem c_C_ref2 {d : Nat} (V : Mem) : clI (d + 1) m_C_refuse [.inr (.inr (0, 0)), .inl (-2)] V = some (-2, CRf V 0) := c_C_ref (by omega) (by decide) V
theorem c_C_ref3 {d : Nat} (V : Mem) : clI (d + 1) m_C_refuse [.inr (.inr (0, 0)), .inl (-3)] V = some (-3, CRf V 1) := c_C_ref (by omega) (by decide) V
theorem c_C_ref4 {d : Nat} (V : Mem) : clI (d + 1) m_C_refuse [.inr (.inr (0, 0)), .inl (-4)] V = some (-4, CRf V 2) := c_C_ref (by omega) (by decide) V
theorem c_C_ref5 {d : Nat} (V : Mem) : clI (d + 1) m_C_refuse [.inr (.inr (0, 0)), .inl (-5)] V = some (-5, CRf V 3) := c_C_ref (by omega) (by decide) V
theorem c_C_ref6 {d : Nat} (V : Mem) : clI (d + 1) m_C_refuse [.inr (.inr (0, 0)), .inl (-6)] V = some (-6, CRf V 4) := c_C_ref (by omega) (by decide) V
theorem c_M_ref {d : Nat} {k : Nat} (hk : k < 5) {x : Int32} (hx : -x = nI (k + 2)) (V : Mem) : clI (d + 1) m_M_refuse [.inr (.inr (30, 0)), .inl x] V = some (x, MRf V k) := by
  apply clI_of
  refine (e_M_refuse_0 d x V).trans ?_
  rw [hx]
  simp (disch := omega) only [fa_lit, nI_clamp, nI_ltI]
  rw [if_neg (by omega), if_neg (by omega)]
  rfl
theorem c_M_ref2 {d : Nat} (V : Mem) : clI (d + 1) m_M_refuse [.inr (.inr (30, 0)), .inl (-2)] V = some (-2, MRf V 0) := c_M_ref (by omega) (by decide) V
theorem c_M_ref3 {d : Nat} (V : Mem) : clI (d + 1) m_M_refuse [.inr (.inr (30, 0)), .inl (-3)] V = some (-3, MRf V 1) := c_M_ref (by omega) (by decide) V
theorem c_M_ref4 {d : Nat} (V : Mem) : clI (d + 1) m_M_refuse [.inr (.inr (30, 0)), .inl (-4)] V = some (-4, MRf V 2) := c_M_ref (by omega) (by decide) V
theorem c_M_ref5 {d : Nat} (V : Mem) : clI (d + 1) m_M_refuse [.inr (.inr (30, 0)), .inl (-5)] V = some (-5, MRf V 3) := c_M_ref (by omega) (by decide) V
theorem c_M_ref6 {d : Nat} (V : Mem) : clI (d + 1) m_M_refuse [.inr (.inr (30, 0)), .inl (-6)] V = some (-6, MRf V 4) := c_M_ref (by omega) (by decide) V
theorem Vok.crf {SL : Nat} {xs : Nat → Int32} {V : Mem} (h : Vok SL xs V) (k : Nat) : Vok SL xs (CRf V k) := h.ag (Ag.set (by unfold dp8; omega) Ag.rfl)
theorem Inv.vok {SL : Nat} {xs : Nat → Int32} {V : Mem} (h : Inv SL xs V) : Vok SL xs V := h.2.2.2.2.2.2.2
theorem Inv.ref {SL : Nat} {xs : Nat → Int32} {V : Mem} (h : Inv SL xs V) {k : Nat} (hk : k < 5) : Inv SL xs (MRf (CRf V k) k) := by
  have a : ∀ P : Nat → Nat → Nat → Prop, ¬ P 31 0 (k + 2) → ¬ P 25 0 k → Ag P V (MRf (CRf V k) k) := fun P h1 h2 => Ag.set h1 (Ag.set h2 Ag.rfl)
  obtain ⟨h1, h2, h3, h4, h5, h6, h7, h8⟩ := h
  refine ⟨I1.ag h1 (a _ (by unfold dp1; omega) (by unfold dp1; omega)), I2.ag h2 (a _ (by unfold dp2; omega) (by unfold dp2; omega)), I3.ag h3 (a _ (by unfold dp3; omega) (by unfold dp3; omega)), I4.ag h4 (a _ (by unfold dp4; omega) (by unfold dp4; omega)), ?_, I6.ag h6 (a _ (by unfold dp6; omega) (by unfold dp6; omega)), I7.ag h7 (a _ (by unfold dp7; omega) (by unfold dp7; omega)), Vok.ag h8 (a _ (by unfold dp8; omega) (by unfold dp8; omega))⟩
  intro j hj
  show mset (mset V.1 25 0 k (V.1 25 0 k + 1)) 31 0 (k + 2) (mset V.1 25 0 k (V.1 25 0 k + 1) 31 0 (k + 2) + 1) 31 0 (j + 2) = mset (mset V.1 25 0 k (V.1 25 0 k + 1)) 31 0 (k + 2) (mset V.1 25 0 k (V.1 25 0 k + 1) 31 0 (k + 2) + 1) 25 0 j
  rw [mset_n (t := 31) (t' := 25) (by omega), mset_n (t := 25) (t' := 31) (by omega)]
  by_cases e : j = k
  · subst e
    rw [mset_e, mset_e, h5 j hj]
  · rw [mset_n (by omega), mset_n (by omega), mset_n (by omega)]
    exact h5 j hj
/-- both refuse alike -/
theorem PMI_ref {SL : Nat} {xs : Nat → Int32} {V : Mem} (h : Inv SL xs V) {b c k : Nat} (hk : k < 5) {as bs : List AV} {x : Int32} (hb : clI 30 b as V = some (x, CRf V k)) (hc : ∀ V', clI 30 c bs V' = some (x, MRf V' k)) : ∃ (r : Int32) (V1 V2 : Mem), clI 30 b as V = some (r, V1) ∧ Vok SL xs V1 ∧ clI 30 c bs V1 = some (r, V2) ∧ Inv SL xs V2 :=
  ⟨x, _, _, hb, h.vok.crf k, hc _, h.ref hk⟩
