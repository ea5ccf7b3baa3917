/-! THE LOT -/
def nxS (v : Int32) : Int32 := v * 1103515245 + 12345
def lotE (v n : Int32) : Int32 := ((Int32.toUInt32 v >>> (Int32.toUInt32 16 &&& Int32.toUInt32 31)).toInt32) - ((Int32.toUInt32 v >>> (Int32.toUInt32 16 &&& Int32.toUInt32 31)).toInt32) / n * n
def setSd (K : SKY) (v : Int32) : SKY := ((kNP K, kNX K, kCl K, v), K.2)
theorem setSd_ok {K : SKY} (h : okK K) (v : Int32) : okK (setSd K v) := h
theorem CS.sd {s : Nat} {V : Mem} {K : SKY} (h : CS V s K) (v : Int32) : CS (mset V.1 1 s 6 v, V.2) s (setSd K v) := by
  obtain ⟨⟨h1, h2, h3, h4⟩, h5, h6⟩ := h
  refine ⟨⟨?_, ?_, ?_, ?_⟩, fun p hp => ?_, fun x hx => ?_⟩
  · simp (disch := omega) only [mset_n]; exact h1
  · simp (disch := omega) only [mset_n]; exact h2
  · simp (disch := omega) only [mset_n]; exact h3
  · simp (disch := omega) only [mset_h]; rfl
  · simp (disch := omega) only [mset_n]; exact h5 p hp
  · obtain ⟨g1, g2, g3, g4, g5⟩ := h6 x hx
    refine ⟨?_, ?_, ?_, ?_, fun i hi => ⟨?_, ?_⟩⟩
    · simp (disch := omega) only [mset_n]; exact g1
    · simp (disch := omega) only [mset_n]; exact g2
    · simp (disch := omega) only [mset_n]; exact g3
    · simp (disch := omega) only [mset_n]; exact g4
    · simp (disch := omega) only [mset_n]; exact (g5 i hi).1
    · simp (disch := omega) only [mset_n]; exact (g5 i hi).2
theorem MS.sd {V : Mem} {K : SKY} (h : MS V 32 0 K) (ok : okL K) (v : Int32) : MS (mset V.1 32 0 177 v, V.2) 32 0 (setSd K v) := by
  have hP := ok.1
  have hX := ok.2.1
  obtain ⟨⟨h1, h2, h3, h4⟩, h5, h6⟩ := h
  refine ⟨⟨?_, ?_, ?_, ?_⟩, fun p hp => ?_, fun x hx => ?_⟩
  · simp (disch := omega) only [mset_n]; exact h1
  · simp (disch := omega) only [mset_n]; exact h2
  · simp (disch := omega) only [mset_n]; exact h3
  · simp (disch := omega) only [mset_h]; rfl
  · have hp' : p < kNP K := hp
    obtain ⟨g1, g2, g3⟩ := h5 p hp
    refine ⟨?_, ?_, ?_⟩
    · simp (disch := omega) only [mset_n]; exact g1
    · simp (disch := omega) only [mset_n]; exact g2
    · simp (disch := omega) only [mset_n]; exact g3
  · have hx' : x < kNX K := hx
    have hl := ok.2.2 x hx'
    obtain ⟨⟨g1, g2, g3⟩, g4⟩ := h6 x hx
    refine ⟨⟨?_, ?_, ?_⟩, fun i hi => ?_⟩
    · simp (disch := omega) only [mset_n]; exact g1
    · simp (disch := omega) only [mset_n]; exact g2
    · simp (disch := omega) only [mset_n]; exact g3
    · have hi' : i < kLn K x := hi
      refine ⟨?_, ?_⟩
      · simp (disch := omega) only [mset_n]; exact (g4 i hi).1
      · simp (disch := omega) only [mset_n]; exact (g4 i hi).2
theorem c_lot {d s n : Nat} (hn : 0 < n) (hn2 : n < 2 ^ 31) {V : Mem} {K : SKY} (h : CS V s K) : clI (d + 1) m_Sky_lot [.inr (.inr (1, s)), .inl (nI n)] V = some (lotE (nxS (kSd K)) (nI n), (mset V.1 1 s 6 (nxS (kSd K)), V.2)) := by
  refine clI_of ((e_Sky_lot_0 d s (nI n) V).trans ?_)
  have e : V.1 1 s 6 * 1103515245 + 12345 = nxS (kSd K) := by rw [h.1.2.2.2]; rfl
  rw [if_pos (show 0 < nI n from nI_lt (a := 0) hn hn2), if_neg (nI_ne0 hn hn2), e, mset_e]
  rfl
theorem c_M_drawBelow {d n : Nat} (hn : 0 < n) (hn2 : n < 2 ^ 31) {V : Mem} {K : SKY} (h : MS V 32 0 K) : clI (d + 1) m_M_drawBelow [.inr (.inr (30, 0)), .inl (nI n)] V = some (lotE (nxS (kSd K)) (nI n), (mset V.1 32 0 177 (nxS (kSd K)), V.2)) := by
  refine clI_of ((e_M_drawBelow_0 d (nI n) V).trans ?_)
  have h4 := h.1.2.2.2
  rw [Nat.zero_add] at h4
  have e : V.1 32 0 177 * 1103515245 + 12345 = nxS (kSd K) := by rw [h4]; rfl
  rw [if_neg (nI_ne0 hn hn2), e, mset_e]
  rfl
