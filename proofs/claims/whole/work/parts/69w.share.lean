/-! SHARING: the class's work; share -/
def GC (W : Mem) (σ : Option (Nat × (Nat → Nat))) (c : Nat) : Prop := match σ with
  | none => W.1 10 0 3 = -1
  | some (g, b) => W.1 10 0 3 = nI g ∧ ∀ j, j < c → W.1 12 0 j = nI (b j)
theorem GC.same {W W' : Mem} {σ : Option (Nat × (Nat → Nat))} {c : Nat} (h : GC W σ c) (h1 : W'.1 10 0 3 = W.1 10 0 3) (h2 : ∀ j, W'.1 12 0 j = W.1 12 0 j) : GC W' σ c := by
  cases σ with
  | none => exact h1.trans h
  | some gb =>
    obtain ⟨g, b⟩ := gb
    exact ⟨h1.trans h.1, fun j hj => (h2 j).trans (h.2 j hj)⟩
def ST (K : SKY) (c : Nat) (sp : Nat → Nat) (V0 : Mem) (o : Nat → Nat) (σ : Option (Nat × (Nat → Nat))) (V : Mem) : Prop := SHm K c sp o V ∧ WOR K sp c V ∧ GC V σ c ∧ bGd σ ∧ Fr pW V0 V
theorem WOR.same {K : SKY} {sp : Nat → Nat} {c : Nat} {V W : Mem} (h : WOR K sp c V) (e : ∀ k, W.1 16 0 k = V.1 16 0 k) : WOR K sp c W := fun p hp keep hk mk => (e _).trans (h p hp keep hk mk)
theorem witer {d c k : Nat} (hc : c ≤ 5) (hk : k < 7776) {K : SKY} (ok : okK K) (hx0 : 0 < kNX K) {sp o : Nat → Nat} (hfo : ∀ j, j < c → nxW (wtN K (sp j)) 0 < 6) (hr : rowOK K sp c o) {V0 V : Mem} (h0 : CS V0 0 K) {σ : Option (Nat × (Nat → Nat))} (h : ST K c sp V0 o σ V) : ∃ V', sem (d + 4) 22 43 [some (.inr (.inr (10, 0))), some (.inr (.inr (1, 0))), some (.inr (.inr (8, 0))), some (.inr (.inr (5, 18))), some (.inl 1), some (.inl (nI k)), none] [] V = sem (d + 4) 22 43 [some (.inr (.inr (10, 0))), some (.inr (.inr (1, 0))), some (.inr (.inr (8, 0))), some (.inr (.inr (5, 18))), some (.inl (bI ((crF (fun j => wtN K (sp j)) c o).2 = true))), some (.inl (nI (k + 1))), none] [] V' ∧ ST K c sp V0 (crF (fun j => wtN K (sp j)) c o).1 (updS σ (lfP K sp o c (kNX K)) o) V' := by
  have hX := ok.2.1
  obtain ⟨s1, s2, s3, s4, s5⟩ := h
  have cs : CS V 0 K := h0.fr ok s5 (by unfold pW; omega)
  have l4 := lfP_le K sp o c (kNX K)
  obtain ⟨z, z1, z2, z3⟩ := c_least (d := d + 3) hc ok hx0 s1 s2 hr
  have st := e_Sharing_work_43 (d + 4) 0 18 1 (nI k) V
  rw [if_pos (show nI k < 7776 from nI_lt (b := 7776) hk (by omega)), if_neg one_ne, cs.1.2.1, z1, bind_some'] at st
  have go : ∀ U : Mem, SHm K c sp o U → WOR K sp c U → GC U (updS σ (lfP K sp o c (kNX K)) o) c → Fr pW V0 U → ∃ V', sem (d + 4) 22 98 [some (.inr (.inr (10, 0))), some (.inr (.inr (1, 0))), some (.inr (.inr (8, 0))), some (.inr (.inr (5, 18))), some (.inl 1), some (.inl (nI k)), some (.inl z)] [] U = sem (d + 4) 22 43 [some (.inr (.inr (10, 0))), some (.inr (.inr (1, 0))), some (.inr (.inr (8, 0))), some (.inr (.inr (5, 18))), some (.inl (bI ((crF (fun j => wtN K (sp j)) c o).2 = true))), some (.inl (nI (k + 1))), none] [] V' ∧ ST K c sp V0 (crF (fun j => wtN K (sp j)) c o).1 (updS σ (lfP K sp o c (kNX K)) o) V' := by
    intro U u1 u2 u3 u4
    obtain ⟨V', v1, v2, v3⟩ := c_nextRow (d := d + 2) hc ok hfo c o U (Nat.le_refl _) (fun j hj => by have := (hr j hj).1; omega) u1
    refine ⟨V', ?_, v2, u2.same (fun k => v3.1 16 0 k (by unfold pR; omega)), u3.same (v3.1 10 0 3 (by unfold pR; omega)) (fun j => v3.1 12 0 j (by unfold pR; omega)), updS_gd s4 l4, u4.trans (v3.mono (by unfold pR pW; omega))⟩
    have nr : clI (d + 4) 28 [.inr (.inr (10, 0))] U = some (bI ((crF (fun j => wtN K (sp j)) c o).2 = true), V') := by
      refine clI_of ((e_Sharing_nextRow_0 (d + 3) U).trans ?_)
      rw [u1.1, Int32.sub_eq_add_neg]
      exact v1
    rw [e_Sharing_work_98, nr, bind_some', nI_1]
  by_cases e : V.1 10 0 3 < z
  · have ze := z3 e
    have up : updS σ (lfP K sp o c (kNX K)) o = some (lfP K sp o c (kNX K), o) := by
      cases σ with
      | none => rfl
      | some gb =>
        obtain ⟨g, b⟩ := gb
        have hg := s4 g b rfl
        have h3 : V.1 10 0 3 = nI g := s3.1
        rw [ze, h3, nI_ltI (by omega) (by omega)] at e
        exact if_pos e
    have c2 : (mset V.1 10 0 3 z) 10 0 2 = nI c := by rw [mset_n (by omega)]; exact s1.1
    rw [if_pos e] at st
    dsimp only at st
    rw [c2, nI_clamp (by omega), if_neg (fun w => by
      rcases w with w | w | w | w | w
      · exact absurd w (by decide)
      · exact absurd w (by decide)
      · exact nI_pos (by omega) w
      · omega
      · omega)] at st
    obtain ⟨V', v1, v2⟩ := go (mcpy (mset V.1 10 0 3 z) 14 0 0 12 0 0 c, V.2) ⟨by show mcpy (mset V.1 10 0 3 z) 14 0 0 12 0 0 c 10 0 2 = _; rw [mcpy_out (by omega)]; exact c2, fun j hj => ⟨by simp (disch := omega) only [mcpy_out, mset_n]; exact (s1.2.1 j hj).1, by simp (disch := omega) only [mcpy_out, mset_n]; exact (s1.2.1 j hj).2.1, by simp (disch := omega) only [mcpy_out, mset_n]; exact (s1.2.1 j hj).2.2⟩, fun p hp => by simp (disch := omega) only [mcpy_out, mset_n]; exact s1.2.2 p hp⟩ (s2.same (fun k => by simp (disch := omega) only [mcpy_out, mset_n])) (by
      rw [up]
      refine ⟨?_, fun j hj => ?_⟩
      · show mcpy (mset V.1 10 0 3 z) 14 0 0 12 0 0 c 10 0 3 = _
        rw [mcpy_out (by omega), mset_h ⟨rfl, rfl, rfl⟩, ze]
      · show mcpy (mset V.1 10 0 3 z) 14 0 0 12 0 0 c 12 0 j = _
        rw [mcpy_in (by omega), mset_n (by omega), show 0 + (j - 0) = j by omega]
        exact (s1.2.1 j hj).2.2) (s5.trans ⟨fun t i k q => by
      have : ¬ t = 12 ∧ ¬ t = 10 := by unfold pW at q; omega
      simp (disch := omega) only [mcpy_out, mset_n], rfl⟩)
    exact ⟨V', st.trans v1, v2⟩
  · have up : updS σ (lfP K sp o c (kNX K)) o = σ := by
      have ne : ¬ V.1 10 0 3 < nI (lfP K sp o c (kNX K)) := fun w => e (z2.mpr w)
      cases σ with
      | none =>
        have h3 : V.1 10 0 3 = -1 := s3
        rw [h3, lt_toInt, nI_toInt (by omega)] at ne
        have : (-1 : Int32).toInt = -1 := by decide
        omega
      | some gb =>
        obtain ⟨g, b⟩ := gb
        have hg := s4 g b rfl
        have h3 : V.1 10 0 3 = nI g := s3.1
        rw [h3, nI_ltI (by omega) (by omega)] at ne
        exact if_neg ne
    rw [if_neg e] at st
    obtain ⟨V', v1, v2⟩ := go V s1 s2 (by rw [up]; exact s3) s5
    exact ⟨V', st.trans v1, v2⟩
theorem foldX_skip {body : Nat → Option (Nat × (Nat → Nat)) → Option (Nat × (Nat → Nat))} {want : Nat → Bool} {σ : Option (Nat × (Nat → Nat))} {a : Nat} : ∀ b, a ≤ b → (∀ y, a ≤ y → y < b → want y = false) → foldX body want b σ = foldX body want a σ := by
  intro b
  induction b with
  | zero => intro h _; rw [show a = 0 by omega]
  | succ b ih =>
    intro h hw
    by_cases e : a = b + 1
    · rw [e]
    · have := ih (by omega) (fun y h1 h2 => hw y h1 (by omega))
      show (if want b = true then _ else foldX body want b σ) = _
      rw [if_neg (by rw [hw b (by omega) (by omega)]; simp), this]
theorem updN_updN (o : Nat → Nat) (j x y : Nat) : updN (updN o j x) j y = updN o j y := funext fun k => by
  unfold updN
  by_cases e : k = j
  · rw [if_pos e, if_pos e]
  · rw [if_neg e, if_neg e, if_neg e]
theorem updN_self {o : Nat → Nat} {j x : Nat} (h : o j = x) : updN o j x = o := funext fun k => by
  unfold updN
  by_cases e : k = j
  · rw [if_pos e, e, h]
  · rw [if_neg e]
theorem wbit {K : SKY} {p y : Nat} (hy : y < kNX K) : (wtN K p).testBit y = kW K y p := by
  unfold wtN
  rw [bm_test]
  simp [hy]
theorem wloop {d c : Nat} (hc : c ≤ 5) {K : SKY} (ok : okK K) (hx0 : 0 < kNX K) {sp : Nat → Nat} (hfo : ∀ j, j < c → nxW (wtN K (sp j)) 0 < kNX K) {V0 : Mem} (h0 : CS V0 0 K) : ∀ m j (o : Nat → Nat) (σ : Option (Nat × (Nat → Nat))) (k : Nat) (V : Mem), j + m = c → rowOK K sp c o → (∀ q, j ≤ q → q < c → o q = nxW (wtN K (sp q)) 0) → ST K c sp V0 o σ V → k + 6 ^ m ≤ 7776 → ∃ (V' : Mem) (k' : Nat), sem (d + 4) 22 43 [some (.inr (.inr (10, 0))), some (.inr (.inr (1, 0))), some (.inr (.inr (8, 0))), some (.inr (.inr (5, 18))), some (.inl 1), some (.inl (nI k)), none] [] V = sem (d + 4) 22 43 [some (.inr (.inr (10, 0))), some (.inr (.inr (1, 0))), some (.inr (.inr (8, 0))), some (.inr (.inr (5, 18))), some (.inl (bI ((crF (fun j => wtN K (sp j)) j o).2 = true))), some (.inl (nI k')), none] [] V' ∧ k' ≤ k + 6 ^ m ∧ ST K c sp V0 (crF (fun j => wtN K (sp j)) j o).1 (gv K sp c m o σ) V' := by
  have hX := ok.2.1
  intro m
  induction m with
  | zero =>
    intro j o σ k V hj hr hf hs hk
    obtain rfl : j = c := by omega
    obtain ⟨V', v1, v2⟩ := witer (d := d) (k := k) hc (by have : 6 ^ 0 = 1 := rfl; omega) ok hx0 (fun j hj => by have := hfo j hj; omega) hr h0 hs
    exact ⟨V', k + 1, v1, Nat.le_refl _, v2⟩
  | succ m ih =>
    intro j o σ k V hj hr hf hs hk
    have hjc : c - (m + 1) = j := by omega
    have wj : ∀ y, y < kNX K → (wtN K (sp j)).testBit y = kW K y (sp j) := fun y hy => wbit hy
    have f0 := hfo j (by omega)
    obtain ⟨a1, a2, a3, a4⟩ := nxW_p (wtN K (sp j)) (p := 0) (by omega)
    have main : ∀ r x k V, x + r = 6 → x < kNX K → kW K x (sp j) = true → ST K c sp V0 (updN o j x) (foldX (fun x τ => gv K sp c m (updN o (c - (m + 1)) x) τ) (fun x => kW K x (sp (c - (m + 1)))) x σ) V → k + 6 ^ m * r ≤ 7776 → ∃ (V' : Mem) (k' : Nat), sem (d + 4) 22 43 [some (.inr (.inr (10, 0))), some (.inr (.inr (1, 0))), some (.inr (.inr (8, 0))), some (.inr (.inr (5, 18))), some (.inl 1), some (.inl (nI k)), none] [] V = sem (d + 4) 22 43 [some (.inr (.inr (10, 0))), some (.inr (.inr (1, 0))), some (.inr (.inr (8, 0))), some (.inr (.inr (5, 18))), some (.inl (bI ((crF (fun j => wtN K (sp j)) j o).2 = true))), some (.inl (nI k')), none] [] V' ∧ k' ≤ k + 6 ^ m * r ∧ ST K c sp V0 (crF (fun j => wtN K (sp j)) j o).1 (foldX (fun x τ => gv K sp c m (updN o (c - (m + 1)) x) τ) (fun x => kW K x (sp (c - (m + 1)))) (kNX K) σ) V' := by
      intro r
      induction r using Nat.strongRecOn with
      | _ r ihr =>
        intro x k V hxr hx hw hst hkk
        have r1 : 1 ≤ r := by omega
        have pw : 6 ^ m ≤ 6 ^ m * r := Nat.le_mul_of_pos_right _ r1
        have ro : rowOK K sp c (updN o j x) := fun q hq => by
          unfold updN
          by_cases e : q = j
          · subst e; rw [if_pos rfl]; exact ⟨hx, hw⟩
          · rw [if_neg e]; exact hr q hq
        obtain ⟨V1, k1, v1, v2, v3⟩ := ih (j + 1) (updN o j x) _ k V (by omega) ro (fun q h1 h2 => by
          rw [show updN o j x q = o q from if_neg (by omega)]
          exact hf q (by omega) h2) hst (by omega)
        have fx : foldX (fun x τ => gv K sp c m (updN o (c - (m + 1)) x) τ) (fun x => kW K x (sp (c - (m + 1)))) (x + 1) σ = gv K sp c m (updN o j x) (foldX (fun x τ => gv K sp c m (updN o (c - (m + 1)) x) τ) (fun x => kW K x (sp (c - (m + 1)))) x σ) := by
          show (if kW K x (sp (c - (m + 1))) = true then gv K sp c m (updN o (c - (m + 1)) x) (foldX _ _ x σ) else _) = _
          rw [hjc, if_pos hw]
        rw [← fx] at v3
        have ux : updN o j x j = x := if_pos rfl
        obtain ⟨q1, q2, q3, q4⟩ := nxW_p (wtN K (sp j)) (p := x + 1) (by omega)
        by_cases e : nxW (wtN K (sp j)) (x + 1) = 6
        · have ce : crF (fun j => wtN K (sp j)) (j + 1) (updN o j x) = crF (fun j => wtN K (sp j)) j o := by
            show (if nxW (wtN K (sp j)) (updN o j x j + 1) = 6 then crF (fun j => wtN K (sp j)) j (updN (updN o j x) j (nxW (wtN K (sp j)) 0)) else _) = _
            rw [ux, if_pos e, updN_updN, updN_self (hf j (Nat.le_refl _) (by omega))]
          rw [ce] at v1 v3
          have sk : foldX (fun x τ => gv K sp c m (updN o (c - (m + 1)) x) τ) (fun x => kW K x (sp (c - (m + 1)))) (kNX K) σ = foldX (fun x τ => gv K sp c m (updN o (c - (m + 1)) x) τ) (fun x => kW K x (sp (c - (m + 1)))) (x + 1) σ := foldX_skip (kNX K) (by omega) (fun y h1 h2 => by
            show kW K y (sp (c - (m + 1))) = false
            rw [hjc, ← wj y h2]
            exact q3 y h1 (by omega))
          rw [sk]
          exact ⟨V1, k1, v1, by omega, v3⟩
        · have lt : nxW (wtN K (sp j)) (x + 1) < 6 := by omega
          obtain ⟨b1, b2⟩ := bm_bit (q4 lt)
          have ce : crF (fun j => wtN K (sp j)) (j + 1) (updN o j x) = (updN o j (nxW (wtN K (sp j)) (x + 1)), true) := by
            show (if nxW (wtN K (sp j)) (updN o j x j + 1) = 6 then _ else (updN (updN o j x) j (nxW (wtN K (sp j)) (updN o j x j + 1)), true)) = _
            rw [ux, if_neg e, updN_updN]
          rw [ce] at v1 v3
          have sk : foldX (fun x τ => gv K sp c m (updN o (c - (m + 1)) x) τ) (fun x => kW K x (sp (c - (m + 1)))) (nxW (wtN K (sp j)) (x + 1)) σ = foldX (fun x τ => gv K sp c m (updN o (c - (m + 1)) x) τ) (fun x => kW K x (sp (c - (m + 1)))) (x + 1) σ := foldX_skip _ q1 (fun y h1 h2 => by
            show kW K y (sp (c - (m + 1))) = false
            rw [hjc, ← wj y (by omega)]
            exact q3 y h1 h2)
          rw [← sk] at v3
          have rr : 6 ^ m * (6 - nxW (wtN K (sp j)) (x + 1)) + 6 ^ m ≤ 6 ^ m * r := by
            rw [← Nat.mul_succ]
            exact Nat.mul_le_mul_left _ (by omega)
          obtain ⟨V2, k2, u1, u2, u3⟩ := ihr (6 - nxW (wtN K (sp j)) (x + 1)) (by omega) (nxW (wtN K (sp j)) (x + 1)) k1 V1 (by omega) b1 b2 v3 (by omega)
          exact ⟨V2, k2, v1.trans u1, by omega, u3⟩
    have of : o j = nxW (wtN K (sp j)) 0 := hf j (Nat.le_refl _) (by omega)
    have s0 : foldX (fun x τ => gv K sp c m (updN o (c - (m + 1)) x) τ) (fun x => kW K x (sp (c - (m + 1)))) (nxW (wtN K (sp j)) 0) σ = σ := foldX_skip (a := 0) _ (by omega) (fun y h1 h2 => by
      show kW K y (sp (c - (m + 1))) = false
      rw [hjc, ← wj y (by omega)]
      exact a3 y h1 h2)
    have p6 : 6 ^ (m + 1) = 6 ^ m * 6 := Nat.pow_succ 6 m
    have le6 : 6 ^ m * (6 - nxW (wtN K (sp j)) 0) ≤ 6 ^ m * 6 := Nat.mul_le_mul_left _ (by omega)
    obtain ⟨V', k', v1, v2, v3⟩ := main (6 - nxW (wtN K (sp j)) 0) (nxW (wtN K (sp j)) 0) k V (by omega) f0 (bm_bit (a4 (by omega))).2 (by rw [updN_self of, s0]; exact hs) (by omega)
    exact ⟨V', k', v1, by omega, v3⟩
theorem c_work {d : Nat} {V : Mem} {K : SKY} (h : CS V 0 K) (ok : okK K) (hx0 : 0 < kNX K) : ∃ W, clV (d + 6) m_Sharing_work [.inr (.inr (10, 0)), .inr (.inr (1, 0)), .inr (.inr (8, 0)), .inr (.inr (5, 18))] V = some W ∧ W.1 10 0 2 = nI (spS K (kNP K)).1 ∧ (∀ j, j < (spS K (kNP K)).1 → W.1 11 0 j = nI ((spS K (kNP K)).2 j)) ∧ GC W (gv K (spS K (kNP K)).2 (spS K (kNP K)).1 (spS K (kNP K)).1 (fun j => nxW (wtN K ((spS K (kNP K)).2 j)) 0) none) (spS K (kNP K)).1 ∧ Fr pW V W := by
  have hP := ok.1
  have hX := ok.2.1
  have c5 : (spS K (kNP K)).1 ≤ 5 := by rw [spS_c]; omega
  obtain ⟨sq1, sq2⟩ := spS_p K (kNP K)
  obtain ⟨V1, v1, v2, v3⟩ := c_findPoints (d := d) h ok
  generalize (spS K (kNP K)).1 = c at *
  generalize (spS K (kNP K)).2 = sp at *
  have s12 : ∀ j, j < c → sp j < 12 := fun j hj => by have := (sq1 j hj).1; omega
  obtain ⟨V2, ⟨u1, u2, u3⟩, u4⟩ := loopI (kNX K) (fun n U => SHm K c sp (fun j => nxW (wtN K (sp j)) 0) U ∧ (∀ p, p < n → ∀ keep, keep < 2 ^ c → mkP K sp c p keep → U.1 16 0 (32 * p + keep) = nI (wC K sp c p keep)) ∧ Fr pW V U) (fun n U => sem (d + 5) 22 8 [some (.inr (.inr (10, 0))), some (.inr (.inr (1, 0))), some (.inr (.inr (8, 0))), some (.inr (.inr (5, 18))), some (.inl (nI n)), none, none] [] U) (fun n U hn hU => by
    obtain ⟨w1, w2, w3⟩ := hU
    have cs : CS U 0 K := h.fr ok w3 (by unfold pW; omega)
    have lc : 2 ^ c ≤ 2 ^ 5 := Nat.pow_le_pow_right (by omega) c5
    obtain ⟨U', x1, x2, x3, x4⟩ := c_findWorths (d := d + 1) c5 cs ok hn s12 w1
    have st := e_Sharing_work_8 (d + 5) 0 18 (nI n) U
    rw [cs.1.2.1, if_pos (nI_lt hn (by omega)), x1, bind_some', nI_1] at st
    refine ⟨U', ⟨w1.fr x4 (by unfold pF; omega), fun p hp keep hk mk => ?_, w3.trans (x4.mono (by unfold pF pW; omega))⟩, st⟩
    by_cases e : p = n
    · subst e; exact x2 keep hk mk
    · rw [x3 _ (by omega)]
      exact w2 p (by omega) keep hk mk) V1 ⟨v2, fun p hp => by omega, v3⟩
  have cs2 : CS V2 0 K := h.fr ok u3 (by unfold pW; omega)
  have s0 : ST K c sp V (fun j => nxW (wtN K (sp j)) 0) none (mset V2.1 10 0 3 (-1), V2.2) := ⟨⟨by simp (disch := omega) only [mset_n]; exact u1.1, fun j hj => ⟨by simp (disch := omega) only [mset_n]; exact (u1.2.1 j hj).1, by simp (disch := omega) only [mset_n]; exact (u1.2.1 j hj).2.1, by simp (disch := omega) only [mset_n]; exact (u1.2.1 j hj).2.2⟩, fun p hp => by simp (disch := omega) only [mset_n]; exact u1.2.2 p hp⟩, fun p hp keep hk mk => by simp (disch := omega) only [mset_n]; exact u2 p hp keep hk mk, by show (mset V2.1 10 0 3 (-1)) 10 0 3 = -1; simp (disch := omega) only [mset_h], fun g b e => (by cases e), u3.set (by unfold pW; omega)⟩
  have le : 6 ^ c ≤ 6 ^ 5 := Nat.pow_le_pow_right (by omega) c5
  obtain ⟨W, k', w1, w2, w3⟩ := wloop (d := d + 1) c5 ok hx0 (fun j hj => (fo_ok ok (sq1 j hj).2).1) h c 0 (fun j => nxW (wtN K (sp j)) 0) none 0 (mset V2.1 10 0 3 (-1), V2.2) (by omega) (fun j hj => fo_ok ok (sq1 j hj).2) (fun q _ _ => rfl) s0 (by have : 6 ^ 5 = 7776 := rfl; omega)
  obtain ⟨x1, x2, x3, x4, x5⟩ := w3
  refine ⟨W, clV_of ((e_Sharing_work_0 (d + 5) 0 18 V).trans ?_), x1.1, fun j hj => (x1.2.1 j hj).1, x3, x5⟩
  rw [v1, bind_some']
  refine Eq.trans u4 ?_
  show sem _ _ _ _ _ _ = _
  rw [e_Sharing_work_8, cs2.1.2.1, if_neg (nI_nlt (Nat.le_refl _) (by omega))]
  refine Eq.trans w1 ?_
  rw [e_Sharing_work_43]
  show (if nI k' < 7776 then if bI (false = true) = 0 then some (none, W) else _ else some (none, W)) = _
  rw [if_pos (show bI (false = true) = 0 from rfl)]
  split <;> rfl
theorem updS_ne (σ : Option (Nat × (Nat → Nat))) (v : Nat) (o : Nat → Nat) : updS σ v o ≠ none := by
  cases σ with
  | none => exact fun h => by cases h
  | some gb =>
    obtain ⟨g, b⟩ := gb
    show (if g < v then some (v, o) else some (g, b)) ≠ none
    split <;> simp
theorem gv_ne {K : SKY} {sp : Nat → Nat} {c : Nat} (hw : ∀ j, j < c → ∃ x, x < kNX K ∧ kW K x (sp j) = true) : ∀ m o σ, m ≤ c → gv K sp c m o σ ≠ none := by
  intro m
  induction m with
  | zero => intro o σ _; exact updS_ne _ _ _
  | succ m ih =>
    intro o σ hm
    obtain ⟨x, hx, hk⟩ := hw (c - (m + 1)) (by omega)
    have keep : ∀ n, x < n → foldX (fun x τ => gv K sp c m (updN o (c - (m + 1)) x) τ) (fun x => kW K x (sp (c - (m + 1)))) n σ ≠ none := by
      intro n
      induction n with
      | zero => intro h; omega
      | succ n ih2 =>
        intro h
        show (if kW K n (sp (c - (m + 1))) = true then gv K sp c m (updN o (c - (m + 1)) n) _ else foldX _ _ n σ) ≠ none
        by_cases e : kW K n (sp (c - (m + 1))) = true
        · rw [if_pos e]; exact ih _ _ (by omega)
        · rw [if_neg e]
          refine ih2 ?_
          by_cases q : x = n
          · subst q; exact absurd hk e
          · omega
    exact keep (kNX K) hx
theorem pm_share (SL : Nat) (xs : Nat → Int32) (a1 : Int32) : PMI SL xs m_C_share m_M_share [.inl a1] := by
  intro V h
  obtain ⟨K, k1, k2, k3, k4⟩ := h.1
  have hX := k1.2.1
  have hP := k1.1
  have c5 : (spS K (kNP K)).1 = min 5 (shC K (kNP K)) := spS_c K (kNP K)
  obtain ⟨sq1, sq2⟩ := spS_p K (kNP K)
  have gne := gv_ne (K := K) (sp := (spS K (kNP K)).2) (c := (spS K (kNP K)).1) (fun j hj => ⟨_, fo_ok k1 (sq1 j hj).2⟩) (spS K (kNP K)).1 (fun j => nxW (wtN K ((spS K (kNP K)).2 j)) 0) none (Nat.le_refl _)
  have eI : ∀ V' : Mem, V'.1 30 0 15 = nI (spS K (kNP K)).1 → clI 29 128 [.inr (.inl (Int32.toInt64 a1)), .inr (.inl ((-1))), .inr (.inl (Int32.toInt64 (V'.1 30 0 15 - 1)))] V' = some (bI (a1 = -1 ∨ inR (spS K (kNP K)).1 a1), V') := fun V' hc => by
    have := c_M_isInL (d := 28) a1.toInt64 (-1) (Int32.toInt64 (V'.1 30 0 15 - 1)) V'
    rw [bI_same (q := a1 = -1 ∨ inR (spS K (kNP K)).1 a1)] at this
    · exact this
    · have hh : (Int32.toInt64 (V'.1 30 0 15 - 1)).toInt = ((spS K (kNP K)).1 : Int) - 1 := by
        rw [Int32.toInt_toInt64, hc]
        cases hq : (spS K (kNP K)).1 with
        | zero => decide
        | succ n => rw [nI_pred, nI_toInt (by omega)]; omega
      have e1 : (-1 : Int64).toInt = -1 := by decide
      have e2 : (-1 : Int32).toInt = -1 := by decide
      have e0 : (0 : Int32).toInt = 0 := by decide
      have ei : a1 = -1 ↔ a1.toInt = -1 := ⟨fun w => by rw [w, e2], fun w => Int32.toInt_inj.mp (by rw [w, e2])⟩
      unfold inR
      rw [Int64.lt_iff_toInt_lt, Int64.lt_iff_toInt_lt, hh, e1, Int32.toInt_toInt64, ei, lt_toInt, lt_toInt, nI_toInt (by omega), e0]
      omega
  have ref : ∀ (k : Nat) (x : Int32), k < 5 → clI 30 m_C_share [.inr (.inr (0, 0)), .inl a1] V = some (x, CRf V k) → (∀ W, Fr pSh (CRf V k) W → MS W 32 0 K → W.1 30 0 15 = nI (spS K (kNP K)).1 → (clI 29 128 [.inr (.inl (Int32.toInt64 a1)), .inr (.inl ((-1))), .inr (.inl (Int32.toInt64 (W.1 30 0 15 - 1)))] W).bind (fun W2 => if W2.1 = 0 then (clI 29 129 [.inr (.inr (30, 0)), .inl (-2)] W2.2).bind fun W3 => some (some (.inl W3.1), W3.2) else if a1 = (-1) then if W2.2.1 32 0 (175) = 0 then (clI 29 129 [.inr (.inr (30, 0)), .inl (-5)] W2.2).bind fun W4 => some (some (.inl W4.1), W4.2) else some (some (.inl (W2.2.1 30 0 16)), W2.2) else if a1 < 0 ∨ 5 ≤ Int32.toNatClampNeg a1 then none else some (some (.inl (W2.2.1 39 0 (Int32.toNatClampNeg a1))), W2.2)) = (some (some (.inl x), MRf W k) : RR)) → ∃ (r : Int32) (V1 V2 : Mem), clI 30 m_C_share [.inr (.inr (0, 0)), .inl a1] V = some (r, V1) ∧ Vok SL xs V1 ∧ clI 30 m_M_share [.inr (.inr (30, 0)), .inl a1] V1 = some (r, V2) ∧ Inv SL xs V2 := fun k x hk hcl hml => by
    obtain ⟨W, w1, w2, w3, w4, w5, w6⟩ := c_M_makeShare (d := 17) (k3.crf k) k1 (fun _ => 0)
    have f : Fr pSh (MRf (CRf V k) k) (MRf W k) := w6.mrf (by unfold pSh; omega) k
    have ir := h.ref (k := k) hk
    have mr : ∀ (U : Mem) t i q, ¬ t = 31 → (MRf U k).1 t i q = U.1 t i q := fun U t i q ht => by
      show mset U.1 31 0 (k + 2) _ t i q = _
      rw [mset_n (by omega)]
    have cr : ∀ t i q, ¬ t = 25 → (CRf V k).1 t i q = V.1 t i q := fun t i q ht => CRf_n ht
    refine ⟨x, CRf V k, MRf W k, hcl, h.vok.crf k, clI_of ((e_M_share_0 29 a1 _).trans ?_), ir.gen (K := K) (K' := K) (P := pSh) (fun s hs => ?_) (Nat.le_refl _) k1 f (by unfold pSh dpS dp2 dp3 dp4 dp5 dp6 dp7 dp8; omega) (k2.frame k1.2.1 (fun t i q w => ?_)) (w5.same (funext fun q => mr W 32 0 q (by omega)))⟩
    · rw [w1, bind_some']
      exact hml W w6 w5 w2
    · rw [mr _ 23 s 1 (by omega), mr _ 42 0 s (by omega), cr 23 s 1 (by omega), cr 42 0 s (by omega)]
      exact k4 s hs
    · rw [mr W t i q (by omega), w6.1 t i q (by unfold pSh; omega), cr t i q (by omega)]
  by_cases am : a1 = -1
  · subst am
    by_cases nx : kNX K = 0
    · refine ref 3 (-5) (by omega) (clI_of ((e_C_share_0 29 _ V).trans ?_)) (fun W f m c => ?_)
      · rw [if_pos rfl, k2.1.2.1, if_pos (by rw [nx]; rfl), c_C_ref5, bind_some']
      · rw [eI W c, bind_some', bI_t (Or.inl rfl), if_neg one_ne, if_pos rfl]
        dsimp only
        rw [m.nx, if_pos (by rw [nx]; rfl), c_M_ref5, bind_some']
    · obtain ⟨V1, v1, v2, v3, v4, v5⟩ := c_work (d := 23) k2 k1 (by omega)
      have m1 : MS V1 32 0 K := k3.fr v5 (by unfold pW; omega)
      obtain ⟨W, w1, w2, w3, w4, w5, w6⟩ := c_M_makeShare (d := 17) m1 k1 (fun j => nxW (wtN K ((spS K (kNP K)).2 j)) 0)
      have eq : V1.1 10 0 3 = W.1 30 0 16 := by
        cases hσ : gv K (spS K (kNP K)).2 (spS K (kNP K)).1 (spS K (kNP K)).1 (fun j => nxW (wtN K ((spS K (kNP K)).2 j)) 0) none with
        | none => exact absurd hσ gne
        | some gb =>
          obtain ⟨g, b⟩ := gb
          rw [hσ] at v4 w4
          exact v4.1.trans w4.1.symm
      refine ⟨V1.1 10 0 3, V1, W, clI_of ((e_C_share_0 29 _ V).trans ?_), h.vok.fr v5 (by unfold pW dp8; omega), clI_of ((e_M_share_0 29 _ _).trans ?_), h.gen (K := K) (K' := K) (P := fun t i k => pW t i k ∨ pSh t i k) k4 (Nat.le_refl _) k1 ((v5.mono (fun t i k w => Or.inl w)).trans (w6.mono (fun t i k w => Or.inr w))) (by unfold pW pSh dpS dp2 dp3 dp4 dp5 dp6 dp7 dp8; omega) ((k2.fr k1 v5 (by unfold pW; omega)).fr k1 w6 (by unfold pSh; omega)) w5⟩
      · rw [if_pos rfl, k2.1.2.1, if_neg (nI_ne0 (by omega) (by omega)), v1, bind_some']
      · rw [w1, bind_some', eI W w2, bind_some', bI_t (Or.inl rfl), if_neg one_ne, if_pos rfl]
        dsimp only
        rw [w5.nx, if_neg (nI_ne0 (by omega) (by omega)), eq]
  · by_cases B : inR (spS K (kNP K)).1 a1
    · obtain ⟨j, hj, rfl⟩ := (ix_or a1 (n := (spS K (kNP K)).1) (by omega)).resolve_left (fun w => w B)
      obtain ⟨V1, v1, v2, v3, v4, v5⟩ := c_work (d := 23) k2 k1 (by have := (fo_ok k1 (sq1 j hj).2).1; omega)
      have m1 : MS V1 32 0 K := k3.fr v5 (by unfold pW; omega)
      obtain ⟨W, w1, w2, w3, w4, w5, w6⟩ := c_M_makeShare (d := 17) m1 k1 (fun j => nxW (wtN K ((spS K (kNP K)).2 j)) 0)
      have eq : V1.1 12 0 j = W.1 39 0 j := by
        cases hσ : gv K (spS K (kNP K)).2 (spS K (kNP K)).1 (spS K (kNP K)).1 (fun j => nxW (wtN K ((spS K (kNP K)).2 j)) 0) none with
        | none => exact absurd hσ gne
        | some gb =>
          obtain ⟨g, b⟩ := gb
          rw [hσ] at v4 w4
          exact (v4.2 j hj).trans (w4.2 j hj).symm
      have sl : shC K (kNP K) ≤ 12 := by
        have : ∀ n, shC K n ≤ n := by
          intro n
          induction n with
          | zero => exact Nat.le_refl _
          | succ n ih => show shC K n + _ ≤ _; split <;> omega
        have := this (kNP K)
        omega
      refine ⟨V1.1 12 0 j, V1, W, clI_of ((e_C_share_0 29 _ V).trans ?_), h.vok.fr v5 (by unfold pW dp8; omega), clI_of ((e_M_share_0 29 _ _).trans ?_), h.gen (K := K) (K' := K) (P := fun t i k => pW t i k ∨ pSh t i k) k4 (Nat.le_refl _) k1 ((v5.mono (fun t i k w => Or.inl w)).trans (w6.mono (fun t i k w => Or.inr w))) (by unfold pW pSh dpS dp2 dp3 dp4 dp5 dp6 dp7 dp8; omega) ((k2.fr k1 v5 (by unfold pW; omega)).fr k1 w6 (by unfold pSh; omega)) w5⟩
      · rw [if_neg am, if_neg (nI_pos (by omega)), if_pos (show nI j < 5 from nI_lt (b := 5) (by omega) (by omega)), c_sharedPoints k2 k1, bind_some', if_pos (nI_lt (by omega) (by omega)), v1, bind_some', if_neg (nI_in (N := 5) (by omega) (by omega)), nI_clamp (by omega)]
      · rw [w1, bind_some', eI W w2, bind_some', bI_t (Or.inr B), if_neg one_ne, if_neg am, if_neg (nI_in (N := 5) (by omega) (by omega)), nI_clamp (by omega), eq]
    · refine ref 0 (-2) (by omega) (clI_of ((e_C_share_0 29 _ V).trans ?_)) (fun W f m c => ?_)
      · have sl : shC K (kNP K) ≤ 12 := by
          have : ∀ n, shC K n ≤ n := by
            intro n
            induction n with
            | zero => exact Nat.le_refl _
            | succ n ih => show shC K n + _ ≤ _; split <;> omega
          have := this (kNP K)
          omega
        rw [if_neg am, e_C_share_69, c_C_ref2, bind_some']
        by_cases b0 : a1 < 0
        · rw [if_pos b0]
        · rw [if_neg b0]
          by_cases b5 : a1 < 5
          · rw [if_pos b5, c_sharedPoints k2 k1, bind_some']
            have nl : ¬ a1 < nI (shC K (kNP K)) := fun w => B ⟨b0, by
              rw [lt_toInt] at b5 w ⊢
              rw [nI_toInt (by omega)] at w ⊢
              have : (5 : Int32).toInt = 5 := by decide
              omega⟩
            rw [if_neg nl, e_C_share_69, c_C_ref2, bind_some']
          · rw [if_neg b5]
      · rw [eI W c, bind_some', bI_f (fun w => w.elim am B), if_pos rfl, c_M_ref2, bind_some']
