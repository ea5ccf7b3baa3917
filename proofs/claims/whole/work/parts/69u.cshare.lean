/-! SHARING: the class -/
def nxF (w : Nat) : Nat → Nat → Nat
  | 0, p => p
  | f + 1, p => if w.testBit p = true then p else nxF w f (p + 1)
def nxW (w p : Nat) : Nat := nxF w (6 - p) p
theorem nxF_p (w : Nat) : ∀ f p, p ≤ nxF w f p ∧ nxF w f p ≤ p + f ∧ (∀ j, p ≤ j → j < nxF w f p → w.testBit j = false) ∧ (nxF w f p < p + f → w.testBit (nxF w f p) = true) := by
  intro f
  induction f with
  | zero => intro p; exact ⟨Nat.le_refl _, Nat.le_refl _, fun j h1 h2 => by unfold nxF at h2; omega, fun h => by unfold nxF at h; omega⟩
  | succ f ih =>
    intro p
    unfold nxF
    by_cases e : w.testBit p = true
    · rw [if_pos e]
      exact ⟨Nat.le_refl _, by omega, fun j h1 h2 => by omega, fun _ => e⟩
    · rw [if_neg e]
      obtain ⟨h1, h2, h3, h4⟩ := ih (p + 1)
      refine ⟨by omega, by omega, fun j g1 g2 => ?_, fun g => h4 (by omega)⟩
      by_cases q : j = p
      · subst q; simpa using e
      · exact h3 j (by omega) g2
theorem nxW_p (w : Nat) {p : Nat} (hp : p ≤ 6) : p ≤ nxW w p ∧ nxW w p ≤ 6 ∧ (∀ j, p ≤ j → j < nxW w p → w.testBit j = false) ∧ (nxW w p < 6 → w.testBit (nxW w p) = true) := by
  obtain ⟨h1, h2, h3, h4⟩ := nxF_p w (6 - p) p
  exact ⟨h1, by show nxF w (6 - p) p ≤ 6; omega, h3, fun g => h4 (by have : nxF w (6 - p) p < 6 := g; omega)⟩
theorem c_nextWanter {d j w p : Nat} (hj : j < 5) (hw : w < 64) (hp : p ≤ 6) {V : Mem} (h : V.1 13 0 j = nI w) : clI (d + 1) m_Sharing_nextWanter [.inr (.inr (10, 0)), .inl (nI j), .inl (nI p)] V = some (nI (nxW w p), V) := by
  have main : ∀ f q, q + f = 6 → sem d 30 2 [some (.inr (.inr (10, 0))), some (.inl (nI j)), some (.inl (nI p)), some (.inl (nI q))] [] V = some (some (.inl (nI (nxF w f q))), V) := by
    intro f
    induction f with
    | zero =>
      intro q hq
      obtain rfl : q = 6 := by omega
      rw [e_Sharing_nextWanter_2, if_neg (by decide)]
      rfl
    | succ f ih =>
      intro q hq
      rw [e_Sharing_nextWanter_2, if_pos (show nI q < 6 from nI_lt (b := 6) (by omega) (by omega)), if_neg (nI_in (N := 5) (by omega) (by omega)), nI_clamp (by omega), h, bitAt6 (by omega) (by omega)]
      by_cases e : w.testBit q = true
      · rw [bI_t e, if_neg one_ne, show nxF w (f + 1) q = q from if_pos e]
      · rw [bI_f e, if_pos rfl, nI_1, ih (q + 1) (by omega), show nxF w (f + 1) q = nxF w f (q + 1) from if_neg e]
  exact clI_of ((e_Sharing_nextWanter_0 d _ _ V).trans (main (6 - p) p (by omega)))
theorem c_turn {d j x m : Nat} (hj : j < 5) (hx : x < 6) {V : Mem} (h : V.1 14 0 j = nI x) (h2 : V.1 15 0 x = nI m) : clV (d + 1) m_Sharing_turnKeep [.inr (.inr (10, 0)), .inl (nI j)] V = some (mset V.1 15 0 x (nI (m ^^^ 2 ^ j)), V.2) := by
  refine clV_of ((e_Sharing_turnKeep_0 d _ V).trans ?_)
  rw [if_neg (nI_in (N := 5) (by omega) (by omega)), if_neg (nI_in (N := 5) (by omega) (by omega)), nI_clamp (n := j) (by omega), h, if_pos (show nI x < 6 from nI_lt (b := 6) hx (by omega)), if_neg (nI_in (N := 6) (by omega) (by omega)), if_neg (nI_in (N := 6) (by omega) (by omega)), nI_clamp (by omega), h2, shl12 (by omega), nI_xor]
def wtN (K : SKY) (p : Nat) : Nat := bm (kNX K) (fun y => kW K y p)
theorem wtN_lt {K : SKY} (ok : okK K) (p : Nat) : wtN K p < 64 := bmx_lt ok p
def kp (o : Nat → Nat) (c p : Nat) : Nat := bm c (fun j => Nat.beq (o j) p)
theorem kp_lt {o : Nat → Nat} {c : Nat} (hc : c ≤ 5) (p : Nat) : kp o c p < 32 := by
  have l := bm_lt c (fun j => Nat.beq (o j) p)
  have l2 : 2 ^ c ≤ 2 ^ 5 := Nat.pow_le_pow_right (by omega) hc
  unfold kp
  omega
theorem kp_test (o : Nat → Nat) (c p j : Nat) : (kp o c p).testBit j = true ↔ j < c ∧ o j = p := by
  unfold kp
  rw [bm_test, Bool.and_eq_true, decide_eq_true_iff, Nat.beq_eq]
theorem kp_ext {m : Nat} {o : Nat → Nat} {c p : Nat} (h : ∀ j, m.testBit j = true ↔ j < c ∧ o j = p) : m = kp o c p := by
  apply Nat.eq_of_testBit_eq
  intro j
  rw [Bool.eq_iff_iff, h j, kp_test]
theorem xor_test (m j k : Nat) : (m ^^^ 2 ^ j).testBit k = true ↔ (m.testBit k = true ↔ ¬ j = k) := by
  rw [Nat.testBit_xor, Nat.testBit_two_pow]
  by_cases e : j = k
  · cases m.testBit k <;> simp [e]
  · cases m.testBit k <;> simp [e]
def SHm (K : SKY) (c : Nat) (sp o : Nat → Nat) (V : Mem) : Prop := V.1 10 0 2 = nI c ∧ (∀ j, j < c → V.1 11 0 j = nI (sp j) ∧ V.1 13 0 j = nI (wtN K (sp j)) ∧ V.1 14 0 j = nI (o j)) ∧ ∀ p, p < 6 → V.1 15 0 p = nI (kp o c p)
def pW (t i _k : Nat) : Prop := t = 8 ∨ t = 9 ∨ ((t = 5 ∨ t = 6 ∨ t = 7) ∧ i = 18) ∨ (10 ≤ t ∧ t ≤ 16)
theorem fo_ok {K : SKY} (ok : okK K) {p : Nat} (h : shB K p) : nxW (wtN K p) 0 < kNX K ∧ kW K (nxW (wtN K p) 0) p = true := by
  have hX := ok.2.1
  obtain ⟨h1, h2, h3, h4⟩ := nxW_p (wtN K p) (p := 0) (by omega)
  have lt : nxW (wtN K p) 0 < 6 := Nat.lt_of_le_of_ne h2 (fun e => by
    have z : onesN (wtN K p) 12 = 0 := onesN_zero (fun k hk => by
      by_cases q : k < 6
      · exact h3 k (by omega) (by omega)
      · exact Nat.testBit_lt_two_pow (Nat.lt_of_lt_of_le (wtN_lt ok p) (show 2 ^ 6 ≤ 2 ^ k from Nat.pow_le_pow_right (by omega) (by omega))))
    have h' : 2 ≤ onesN (wtN K p) 12 := h
    omega)
  exact bm_bit (h4 lt)
theorem c_findPoints {d : Nat} {V : Mem} {K : SKY} (h : CS V 0 K) (ok : okK K) : ∃ W, clV (d + 5) m_Sharing_findPoints [.inr (.inr (10, 0)), .inr (.inr (1, 0))] V = some W ∧ SHm K (spS K (kNP K)).1 (spS K (kNP K)).2 (fun j => nxW (wtN K ((spS K (kNP K)).2 j)) 0) W ∧ Fr pW V W := by
  have hP := ok.1
  have hX := ok.2.1
  have c5 : ∀ n, (spS K n).1 ≤ 5 := fun n => by rw [spS_c]; omega
  have csf : ∀ W, Fr pW V W → CS W 0 K := fun W f => h.fr ok f (by unfold pW; omega)
  obtain ⟨V0, ⟨v1, v2, v3⟩, v4⟩ := loopI 6 (fun n W => (∀ p, p < n → W.1 15 0 p = 0) ∧ W.1 10 0 2 = 0 ∧ Fr pW V W) (fun n W => sem (d + 3) 226 5 [some (.inr (.inr (15, 0))), some (.inl 0), some (.inl (nI n)), some (.inl (nI 6))] [] W) (fun n W hn hW => by
    obtain ⟨w1, w2, w3⟩ := hW
    have st := e_Arrays_fill_AIIV_t15_5 (d + 3) 0 (nI n) (nI 6) W
    rw [if_pos (nI_lt hn (by omega)), if_neg (nI_in (N := 6) (by omega) (by omega)), nI_clamp (by omega), nI_1] at st
    refine ⟨(mset W.1 15 0 n 0, W.2), ⟨fun p hp => ?_, by simp (disch := omega) only [mset_n]; exact w2, w3.set (by unfold pW; omega)⟩, st⟩
    by_cases e : p = n
    · subst e; simp (disch := omega) only [mset_h]
    · simp (disch := omega) only [mset_n]; exact w1 p (by omega)) (mset V.1 10 0 2 0, V.2) ⟨fun p hp => by omega, by simp (disch := omega) only [mset_h], Fr.rfl.set (by unfold pW; omega)⟩
  have fl : clV (d + 4) 226 [.inr (.inr (15, 0)), .inl 0] (mset V.1 10 0 2 0, V.2) = some V0 := by
    refine clV_of ((e_Arrays_fill_AIIV_t15_0 (d + 3) 0 _).trans (Eq.trans v4 ?_))
    show sem _ _ _ _ _ _ = _
    rw [e_Arrays_fill_AIIV_t15_5, if_neg (nI_nlt (Nat.le_refl _) (by omega))]
  have main : ∀ m p (W : Mem), p + m = kNP K → SHm K (spS K p).1 (spS K p).2 (fun j => nxW (wtN K ((spS K p).2 j)) 0) W → Fr pW V W → ∃ W', sem (d + 4) 23 15 [some (.inr (.inr (10, 0))), some (.inr (.inr (1, 0))), some (.inl (nI p))] [] W = some (none, W') ∧ SHm K (spS K (kNP K)).1 (spS K (kNP K)).2 (fun j => nxW (wtN K ((spS K (kNP K)).2 j)) 0) W' ∧ Fr pW V W' := by
    intro m
    induction m with
    | zero =>
      intro p W hp hs hf
      obtain rfl : p = kNP K := by omega
      refine ⟨W, ?_, hs, hf⟩
      rw [e_Sharing_findPoints_15, (csf W hf).1.1, if_neg (nI_nlt (Nat.le_refl _) (by omega))]
    | succ m ih =>
      intro p W hp hs hf
      have cs := csf W hf
      have cp := c5 p
      obtain ⟨s1, s2, s3⟩ := id hs
      have st := e_Sharing_findPoints_15 (d + 4) 0 (nI p) W
      rw [cs.1.1, if_pos (nI_lt (by omega) (by omega)), s1] at st
      by_cases a : (spS K p).1 < 5
      · rw [if_pos (show nI (spS K p).1 < 5 from nI_lt (b := 5) a (by omega)), c_isShared cs ok (by omega), bind_some'] at st
        by_cases b : shB K p
        · have q : spS K (p + 1) = ((spS K p).1 + 1, updN (spS K p).2 (spS K p).1 p) := if_pos ⟨a, b⟩
          have sp1 := (spS_p K (p + 1)).1
          have lf := fo_ok ok b
          generalize hc : (spS K p).1 = c at *
          generalize (spS K p).2 = sp at *
          rw [bI_t b, if_neg one_ne] at st
          dsimp only at st
          rw [s1, if_neg (nI_in (N := 5) (by omega) (by omega)), nI_clamp (by omega)] at st
          have csA : CS (mset W.1 11 0 c (nI p), W.2) 0 K := csf _ (hf.set (by unfold pW; omega))
          rw [c_wantersOf csA ok (by omega), bind_some'] at st
          simp (disch := omega) only [mset_n, s1, nI_clamp] at st
          rw [if_neg (nI_in' (N := 5) (by omega) (by omega))] at st
          have nw := c_nextWanter (d := d + 3) (j := c) (w := wtN K p) (p := 0) a (wtN_lt ok p) (by omega) (V := (mset (mset W.1 11 0 c (nI p)) 13 0 c (nI (wtN K p)), W.2)) (by simp (disch := omega) only [mset_h])
          have nw' : clI (d + 4) 30 [.inr (.inr (10, 0)), .inl (nI c), .inl 0] (mset (mset W.1 11 0 c (nI p)) 13 0 c (nI (bm (kNX K) (fun y => kW K y p))), W.2) = some (nI (nxW (wtN K p) 0), (mset (mset W.1 11 0 c (nI p)) 13 0 c (nI (wtN K p)), W.2)) := nw
          rw [nw', bind_some'] at st
          simp (disch := omega) only [mset_n, s1, nI_clamp] at st
          rw [if_neg (nI_in' (N := 5) (by omega) (by omega))] at st
          have tn := c_turn (d := d + 3) (j := c) (x := nxW (wtN K p) 0) (m := kp (fun j => nxW (wtN K (sp j)) 0) c (nxW (wtN K p) 0)) a (by omega) (V := (mset (mset (mset W.1 11 0 c (nI p)) 13 0 c (nI (wtN K p))) 14 0 c (nI (nxW (wtN K p) 0)), W.2)) (by simp (disch := omega) only [mset_h]) (by simp (disch := omega) only [mset_n]; exact s3 _ (by omega))
          rw [tn, bind_some'] at st
          simp (disch := omega) only [mset_n, s1, nI_1] at st
          rw [e_Sharing_findPoints_99, nI_1] at st
          obtain ⟨W', w1, w2, w3⟩ := ih (p + 1) (mset (mset (mset (mset (mset W.1 11 0 c (nI p)) 13 0 c (nI (wtN K p))) 14 0 c (nI (nxW (wtN K p) 0))) 15 0 (nxW (wtN K p) 0) (nI (kp (fun j => nxW (wtN K (sp j)) 0) c (nxW (wtN K p) 0) ^^^ 2 ^ c))) 10 0 2 (nI (c + 1)), W.2) (by omega) (by
            rw [q]
            refine ⟨by simp (disch := omega) only [mset_h], fun j hj => ?_, fun x hx => ?_⟩
            · have hj' : j < c + 1 := hj
              show _ = nI (updN sp c p j) ∧ _ = nI (wtN K (updN sp c p j)) ∧ _ = nI (nxW (wtN K (updN sp c p j)) 0)
              unfold updN
              by_cases e : j = c
              · subst e
                rw [if_pos rfl]
                simp (disch := omega) only [mset_n, mset_h, and_self]
              · rw [if_neg e]
                simp (disch := omega) only [mset_n]
                exact s2 j (by omega)
            · show _ = nI (kp (fun j => nxW (wtN K (updN sp c p j)) 0) (c + 1) x)
              have oo : ∀ j, j < c → nxW (wtN K (updN sp c p j)) 0 = nxW (wtN K (sp j)) 0 := fun j hj => by rw [show updN sp c p j = sp j from if_neg (by omega)]
              have on : nxW (wtN K (updN sp c p c)) 0 = nxW (wtN K p) 0 := by rw [show updN sp c p c = p from if_pos rfl]
              by_cases e : x = nxW (wtN K p) 0
              · subst e
                simp (disch := omega) only [mset_n, mset_h]
                refine congrArg nI (kp_ext (fun j => ?_))
                rw [xor_test, kp_test]
                by_cases ej : j = c
                · subst ej
                  rw [on]
                  omega
                · by_cases lj : j < c
                  · rw [oo j lj]
                    omega
                  · omega
              · simp (disch := omega) only [mset_n]
                rw [s3 x hx]
                refine congrArg nI (kp_ext (fun j => ?_))
                rw [kp_test]
                by_cases ej : j = c
                · subst ej
                  rw [on]
                  omega
                · by_cases lj : j < c
                  · rw [oo j lj]
                    omega
                  · omega) (((((hf.set (by unfold pW; omega)).set (by unfold pW; omega)).set (by unfold pW; omega)).set (by unfold pW; omega)).set (by unfold pW; omega))
          exact ⟨W', st.trans w1, w2, w3⟩
        · have q : spS K (p + 1) = spS K p := if_neg (fun w => b w.2)
          rw [bI_f b, if_pos rfl, e_Sharing_findPoints_99, nI_1] at st
          obtain ⟨W', w1, w2, w3⟩ := ih (p + 1) W (by omega) (by rw [q]; exact hs) hf
          exact ⟨W', st.trans w1, w2, w3⟩
      · have q := spS_full a (kNP K) (by omega)
        rw [if_neg (show ¬ nI (spS K p).1 < 5 from nI_nlt (b := 5) (by omega) (by omega))] at st
        exact ⟨W, st, by rw [q]; exact hs, hf⟩
  obtain ⟨W, w1, w2, w3⟩ := main (kNP K) 0 V0 (by omega) ⟨v2, fun j hj => absurd hj (Nat.not_lt_zero _), fun p hp => by rw [v1 p hp]; rfl⟩ v3
  refine ⟨W, clV_of ((e_Sharing_findPoints_0 (d + 4) 0 V).trans ?_), w2, w3⟩
  rw [fl, bind_some']
  exact w1
