/-! THE LAW'S LOOP -/
theorem gd_ok {i k SL : Nat} (h : i + k < SL) (hs : SL < 2 ^ 31) : ¬ (nI i + nI k < 0 ∨ ¬ nI i + nI k < nI SL) := by
  rw [nI_add]
  rintro (h1 | h1)
  · exact nI_pos (by omega) h1
  · exact h1 (nI_lt h hs)
theorem lg_same (x : Int64) : lg_cmp x x = 0 := by
  unfold lg_cmp
  rw [if_neg (fun h => Int64.lt_irrefl h), if_pos rfl]
section Law
variable {SL : Nat} {xs : Nat → Int32} {i : Nat}
set_option maxHeartbeats 1000000 in
theorem lc_row (hs : SL < 2 ^ 31) (hi : i + 6 ≤ SL) (V : Mem) (hI : Inv SL xs V) (hn : ∀ V2, Inv SL xs V2 → ∃ V3, sem 30 227 18 [some (.inr (.inr (50, 0))), some (.inr (.inr (0, 0))), some (.inr (.inr (30, 0))), some (.inl (nI i + 6))] [] V2 = some (some (.inl 1), V3)) : ∃ V3, sem 30 227 188 [some (.inr (.inr (50, 0))), some (.inr (.inr (0, 0))), some (.inr (.inr (30, 0))), some (.inl (nI i))] [] V = some (some (.inl 1), V3) := by
  have hV : Vok SL xs V := hI.2.2.2.2.2.2.2
  have g1 : ¬ (nI i + 1 < 0 ∨ ¬ nI i + 1 < nI SL) := gd_ok (k := 1) (by omega) hs
  have g2 : ¬ (nI i + 2 < 0 ∨ ¬ nI i + 2 < nI SL) := gd_ok (k := 2) (by omega) hs
  have g3 : ¬ (nI i + 3 < 0 ∨ ¬ nI i + 3 < nI SL) := gd_ok (k := 3) (by omega) hs
  obtain ⟨r, V1, V2, h1, hV1, h2, hI2⟩ := pm_row SL xs (xs (Int32.toNatClampNeg (nI i + 1))) (xs (Int32.toNatClampNeg (nI i + 2))) (xs (Int32.toNatClampNeg (nI i + 3))) V hI
  rw [e_W_law_188, hV.1, hV.2, if_neg g1, if_neg g2, if_neg g3, h1, bind_some', hV1.1, hV1.2, if_neg g1, if_neg g2, if_neg g3, h2, bind_some', if_pos rfl, e_W_law_1250]
  exact hn V2 hI2
set_option maxHeartbeats 1000000 in
theorem lc_set (hs : SL < 2 ^ 31) (hi : i + 6 ≤ SL) (V : Mem) (hI : Inv SL xs V) (hn : ∀ V2, Inv SL xs V2 → ∃ V3, sem 30 227 18 [some (.inr (.inr (50, 0))), some (.inr (.inr (0, 0))), some (.inr (.inr (30, 0))), some (.inl (nI i + 6))] [] V2 = some (some (.inl 1), V3)) : ∃ V3, sem 30 227 231 [some (.inr (.inr (50, 0))), some (.inr (.inr (0, 0))), some (.inr (.inr (30, 0))), some (.inl (nI i))] [] V = some (some (.inl 1), V3) := by
  have hV : Vok SL xs V := hI.2.2.2.2.2.2.2
  have g1 : ¬ (nI i + 1 < 0 ∨ ¬ nI i + 1 < nI SL) := gd_ok (k := 1) (by omega) hs
  have g2 : ¬ (nI i + 2 < 0 ∨ ¬ nI i + 2 < nI SL) := gd_ok (k := 2) (by omega) hs
  have g3 : ¬ (nI i + 3 < 0 ∨ ¬ nI i + 3 < nI SL) := gd_ok (k := 3) (by omega) hs
  have g4 : ¬ (nI i + 4 < 0 ∨ ¬ nI i + 4 < nI SL) := gd_ok (k := 4) (by omega) hs
  obtain ⟨r, V1, V2, h1, hV1, h2, hI2⟩ := pm_set SL xs (xs (Int32.toNatClampNeg (nI i + 1))) (xs (Int32.toNatClampNeg (nI i + 2))) (((Int32.toInt64 (xs (Int32.toNatClampNeg (nI i + 3)))) <<< (Int32.toInt64 32 &&& 63)) ||| ((Int32.toInt64 (xs (Int32.toNatClampNeg (nI i + 4)))) &&& 4294967295)) V hI
  rw [e_W_law_231, hV.1, hV.2, if_neg g1, if_neg g2, if_neg g3, if_neg g4, h1, bind_some', hV1.1, hV1.2, if_neg g1, if_neg g2, if_neg g3, if_neg g4, h2, bind_some', if_pos rfl, e_W_law_1250]
  exact hn V2 hI2
set_option maxHeartbeats 1000000 in
theorem lc_copy (hs : SL < 2 ^ 31) (hi : i + 6 ≤ SL) (V : Mem) (hI : Inv SL xs V) (hn : ∀ V2, Inv SL xs V2 → ∃ V3, sem 30 227 18 [some (.inr (.inr (50, 0))), some (.inr (.inr (0, 0))), some (.inr (.inr (30, 0))), some (.inl (nI i + 6))] [] V2 = some (some (.inl 1), V3)) : ∃ V3, sem 30 227 304 [some (.inr (.inr (50, 0))), some (.inr (.inr (0, 0))), some (.inr (.inr (30, 0))), some (.inl (nI i))] [] V = some (some (.inl 1), V3) := by
  have hV : Vok SL xs V := hI.2.2.2.2.2.2.2
  have g1 : ¬ (nI i + 1 < 0 ∨ ¬ nI i + 1 < nI SL) := gd_ok (k := 1) (by omega) hs
  have g2 : ¬ (nI i + 2 < 0 ∨ ¬ nI i + 2 < nI SL) := gd_ok (k := 2) (by omega) hs
  have g3 : ¬ (nI i + 3 < 0 ∨ ¬ nI i + 3 < nI SL) := gd_ok (k := 3) (by omega) hs
  have g4 : ¬ (nI i + 4 < 0 ∨ ¬ nI i + 4 < nI SL) := gd_ok (k := 4) (by omega) hs
  have g5 : ¬ (nI i + 5 < 0 ∨ ¬ nI i + 5 < nI SL) := gd_ok (k := 5) (by omega) hs
  obtain ⟨r, V1, V2, h1, hV1, h2, hI2⟩ := pm_copy SL xs (xs (Int32.toNatClampNeg (nI i + 1))) (xs (Int32.toNatClampNeg (nI i + 2))) (xs (Int32.toNatClampNeg (nI i + 3))) (xs (Int32.toNatClampNeg (nI i + 4))) (xs (Int32.toNatClampNeg (nI i + 5))) V hI
  rw [e_W_law_304, hV.1, hV.2, if_neg g1, if_neg g2, if_neg g3, if_neg g4, if_neg g5, h1, bind_some', hV1.1, hV1.2, if_neg g1, if_neg g2, if_neg g3, if_neg g4, if_neg g5, h2, bind_some', if_pos rfl, e_W_law_1250]
  exact hn V2 hI2
set_option maxHeartbeats 1000000 in
theorem lc_element (hs : SL < 2 ^ 31) (hi : i + 6 ≤ SL) (V : Mem) (hI : Inv SL xs V) (hn : ∀ V2, Inv SL xs V2 → ∃ V3, sem 30 227 18 [some (.inr (.inr (50, 0))), some (.inr (.inr (0, 0))), some (.inr (.inr (30, 0))), some (.inl (nI i + 6))] [] V2 = some (some (.inl 1), V3)) : ∃ V3, sem 30 227 367 [some (.inr (.inr (50, 0))), some (.inr (.inr (0, 0))), some (.inr (.inr (30, 0))), some (.inl (nI i))] [] V = some (some (.inl 1), V3) := by
  have hV : Vok SL xs V := hI.2.2.2.2.2.2.2
  have g1 : ¬ (nI i + 1 < 0 ∨ ¬ nI i + 1 < nI SL) := gd_ok (k := 1) (by omega) hs
  have g2 : ¬ (nI i + 2 < 0 ∨ ¬ nI i + 2 < nI SL) := gd_ok (k := 2) (by omega) hs
  obtain ⟨r, V1, V2, h1, hV1, h2, hI2⟩ := pm_element SL xs (xs (Int32.toNatClampNeg (nI i + 1))) (xs (Int32.toNatClampNeg (nI i + 2))) V hI
  rw [e_W_law_367, hV.1, hV.2, if_neg g1, if_neg g2, h1, bind_some', hV1.1, hV1.2, if_neg g1, if_neg g2, h2, bind_some', lg_same, if_pos rfl, e_W_law_1250]
  exact hn V2 hI2
set_option maxHeartbeats 1000000 in
theorem lc_holds (hs : SL < 2 ^ 31) (hi : i + 6 ≤ SL) (V : Mem) (hI : Inv SL xs V) (hn : ∀ V2, Inv SL xs V2 → ∃ V3, sem 30 227 18 [some (.inr (.inr (50, 0))), some (.inr (.inr (0, 0))), some (.inr (.inr (30, 0))), some (.inl (nI i + 6))] [] V2 = some (some (.inl 1), V3)) : ∃ V3, sem 30 227 401 [some (.inr (.inr (50, 0))), some (.inr (.inr (0, 0))), some (.inr (.inr (30, 0))), some (.inl (nI i))] [] V = some (some (.inl 1), V3) := by
  have hV : Vok SL xs V := hI.2.2.2.2.2.2.2
  have g1 : ¬ (nI i + 1 < 0 ∨ ¬ nI i + 1 < nI SL) := gd_ok (k := 1) (by omega) hs
  obtain ⟨r, V1, V2, h1, hV1, h2, hI2⟩ := pm_holds SL xs (xs (Int32.toNatClampNeg (nI i + 1))) V hI
  rw [e_W_law_401, hV.1, hV.2, if_neg g1, h1, bind_some', hV1.1, hV1.2, if_neg g1, h2, bind_some', if_pos rfl, e_W_law_1250]
  exact hn V2 hI2
set_option maxHeartbeats 1000000 in
theorem lc_show (hs : SL < 2 ^ 31) (hi : i + 6 ≤ SL) (V : Mem) (hI : Inv SL xs V) (hn : ∀ V2, Inv SL xs V2 → ∃ V3, sem 30 227 18 [some (.inr (.inr (50, 0))), some (.inr (.inr (0, 0))), some (.inr (.inr (30, 0))), some (.inl (nI i + 6))] [] V2 = some (some (.inl 1), V3)) : ∃ V3, sem 30 227 424 [some (.inr (.inr (50, 0))), some (.inr (.inr (0, 0))), some (.inr (.inr (30, 0))), some (.inl (nI i))] [] V = some (some (.inl 1), V3) := by
  have hV : Vok SL xs V := hI.2.2.2.2.2.2.2
  have g1 : ¬ (nI i + 1 < 0 ∨ ¬ nI i + 1 < nI SL) := gd_ok (k := 1) (by omega) hs
  have g2 : ¬ (nI i + 2 < 0 ∨ ¬ nI i + 2 < nI SL) := gd_ok (k := 2) (by omega) hs
  obtain ⟨r, V1, V2, h1, hV1, h2, hI2⟩ := pm_show SL xs (xs (Int32.toNatClampNeg (nI i + 1))) (xs (Int32.toNatClampNeg (nI i + 2))) V hI
  rw [e_W_law_424, hV.1, hV.2, if_neg g1, if_neg g2, h1, bind_some', hV1.1, hV1.2, if_neg g1, if_neg g2, h2, bind_some', if_pos rfl, e_W_law_1250]
  exact hn V2 hI2
set_option maxHeartbeats 1000000 in
theorem lc_says (hs : SL < 2 ^ 31) (hi : i + 6 ≤ SL) (V : Mem) (hI : Inv SL xs V) (hn : ∀ V2, Inv SL xs V2 → ∃ V3, sem 30 227 18 [some (.inr (.inr (50, 0))), some (.inr (.inr (0, 0))), some (.inr (.inr (30, 0))), some (.inl (nI i + 6))] [] V2 = some (some (.inl 1), V3)) : ∃ V3, sem 30 227 457 [some (.inr (.inr (50, 0))), some (.inr (.inr (0, 0))), some (.inr (.inr (30, 0))), some (.inl (nI i))] [] V = some (some (.inl 1), V3) := by
  have hV : Vok SL xs V := hI.2.2.2.2.2.2.2
  have g1 : ¬ (nI i + 1 < 0 ∨ ¬ nI i + 1 < nI SL) := gd_ok (k := 1) (by omega) hs
  have g2 : ¬ (nI i + 2 < 0 ∨ ¬ nI i + 2 < nI SL) := gd_ok (k := 2) (by omega) hs
  obtain ⟨r, V1, V2, h1, hV1, h2, hI2⟩ := pm_says SL xs (xs (Int32.toNatClampNeg (nI i + 1))) (xs (Int32.toNatClampNeg (nI i + 2))) V hI
  rw [e_W_law_457, hV.1, hV.2, if_neg g1, if_neg g2, h1, bind_some', hV1.1, hV1.2, if_neg g1, if_neg g2, h2, bind_some', if_pos rfl, e_W_law_1250]
  exact hn V2 hI2
set_option maxHeartbeats 1000000 in
theorem lc_point (hs : SL < 2 ^ 31) (hi : i + 6 ≤ SL) (V : Mem) (hI : Inv SL xs V) (hn : ∀ V2, Inv SL xs V2 → ∃ V3, sem 30 227 18 [some (.inr (.inr (50, 0))), some (.inr (.inr (0, 0))), some (.inr (.inr (30, 0))), some (.inl (nI i + 6))] [] V2 = some (some (.inl 1), V3)) : ∃ V3, sem 30 227 490 [some (.inr (.inr (50, 0))), some (.inr (.inr (0, 0))), some (.inr (.inr (30, 0))), some (.inl (nI i))] [] V = some (some (.inl 1), V3) := by
  have hV : Vok SL xs V := hI.2.2.2.2.2.2.2
  have g1 : ¬ (nI i + 1 < 0 ∨ ¬ nI i + 1 < nI SL) := gd_ok (k := 1) (by omega) hs
  have g2 : ¬ (nI i + 2 < 0 ∨ ¬ nI i + 2 < nI SL) := gd_ok (k := 2) (by omega) hs
  obtain ⟨r, V1, V2, h1, hV1, h2, hI2⟩ := pm_point SL xs (xs (Int32.toNatClampNeg (nI i + 1))) (xs (Int32.toNatClampNeg (nI i + 2))) V hI
  rw [e_W_law_490, hV.1, hV.2, if_neg g1, if_neg g2, h1, bind_some', hV1.1, hV1.2, if_neg g1, if_neg g2, h2, bind_some', if_pos rfl, e_W_law_1250]
  exact hn V2 hI2
set_option maxHeartbeats 1000000 in
theorem lc_parish (hs : SL < 2 ^ 31) (hi : i + 6 ≤ SL) (V : Mem) (hI : Inv SL xs V) (hn : ∀ V2, Inv SL xs V2 → ∃ V3, sem 30 227 18 [some (.inr (.inr (50, 0))), some (.inr (.inr (0, 0))), some (.inr (.inr (30, 0))), some (.inl (nI i + 6))] [] V2 = some (some (.inl 1), V3)) : ∃ V3, sem 30 227 523 [some (.inr (.inr (50, 0))), some (.inr (.inr (0, 0))), some (.inr (.inr (30, 0))), some (.inl (nI i))] [] V = some (some (.inl 1), V3) := by
  have hV : Vok SL xs V := hI.2.2.2.2.2.2.2
  have g1 : ¬ (nI i + 1 < 0 ∨ ¬ nI i + 1 < nI SL) := gd_ok (k := 1) (by omega) hs
  have g2 : ¬ (nI i + 2 < 0 ∨ ¬ nI i + 2 < nI SL) := gd_ok (k := 2) (by omega) hs
  obtain ⟨r, V1, V2, h1, hV1, h2, hI2⟩ := pm_parish SL xs (xs (Int32.toNatClampNeg (nI i + 1))) (xs (Int32.toNatClampNeg (nI i + 2))) V hI
  rw [e_W_law_523, hV.1, hV.2, if_neg g1, if_neg g2, h1, bind_some', hV1.1, hV1.2, if_neg g1, if_neg g2, h2, bind_some', if_pos rfl, e_W_law_1250]
  exact hn V2 hI2
set_option maxHeartbeats 1000000 in
theorem lc_wants (hs : SL < 2 ^ 31) (hi : i + 6 ≤ SL) (V : Mem) (hI : Inv SL xs V) (hn : ∀ V2, Inv SL xs V2 → ∃ V3, sem 30 227 18 [some (.inr (.inr (50, 0))), some (.inr (.inr (0, 0))), some (.inr (.inr (30, 0))), some (.inl (nI i + 6))] [] V2 = some (some (.inl 1), V3)) : ∃ V3, sem 30 227 556 [some (.inr (.inr (50, 0))), some (.inr (.inr (0, 0))), some (.inr (.inr (30, 0))), some (.inl (nI i))] [] V = some (some (.inl 1), V3) := by
  have hV : Vok SL xs V := hI.2.2.2.2.2.2.2
  have g1 : ¬ (nI i + 1 < 0 ∨ ¬ nI i + 1 < nI SL) := gd_ok (k := 1) (by omega) hs
  have g2 : ¬ (nI i + 2 < 0 ∨ ¬ nI i + 2 < nI SL) := gd_ok (k := 2) (by omega) hs
  have g3 : ¬ (nI i + 3 < 0 ∨ ¬ nI i + 3 < nI SL) := gd_ok (k := 3) (by omega) hs
  rw [e_W_law_556, hV.1, hV.2, if_neg g1, if_neg g2, if_neg g3]
  have main : ∀ z : Int32, (z = 0 ∨ z = 1) → (z = if xs (Int32.toNatClampNeg (nI i + 3)) = 0 then 0 else 1) → ∃ V3, sem 30 227 580 [some (.inr (.inr (50, 0))), some (.inr (.inr (0, 0))), some (.inr (.inr (30, 0))), some (.inl (nI i))] [.inl z, .inl (xs (Int32.toNatClampNeg (nI i + 2))), .inl (xs (Int32.toNatClampNeg (nI i + 1))), .inr (.inr (0, 0))] V = some (some (.inl 1), V3) := by
    intro z hz hz2
    obtain ⟨r, V1, V2, h1, hV1, h2, hI2⟩ := pm_wants SL xs (xs (Int32.toNatClampNeg (nI i + 1))) (xs (Int32.toNatClampNeg (nI i + 2))) z hz V hI
    rw [e_W_law_580, h1, bind_some', hV1.1, hV1.2, if_neg g1, if_neg g2, if_neg g3]
    obtain ⟨V3, h3⟩ := hn V2 hI2
    refine ⟨V3, ?_⟩
    by_cases hq : xs (Int32.toNatClampNeg (nI i + 3)) = 0
    · rw [if_pos hq] at hz2 ⊢
      rw [hz2] at h2
      rw [e_W_law_607, h2, bind_some', if_pos rfl, e_W_law_1250]
      exact h3
    · rw [if_neg hq] at hz2 ⊢
      rw [hz2] at h2
      rw [e_W_law_607, h2, bind_some', if_pos rfl, e_W_law_1250]
      exact h3
  by_cases hq : xs (Int32.toNatClampNeg (nI i + 3)) = 0
  · rw [if_pos hq]
    exact main 0 (Or.inl rfl) (by rw [if_pos hq])
  · rw [if_neg hq]
    exact main 1 (Or.inr rfl) (by rw [if_neg hq])
set_option maxHeartbeats 1000000 in
theorem lc_line (hs : SL < 2 ^ 31) (hi : i + 6 ≤ SL) (V : Mem) (hI : Inv SL xs V) (hn : ∀ V2, Inv SL xs V2 → ∃ V3, sem 30 227 18 [some (.inr (.inr (50, 0))), some (.inr (.inr (0, 0))), some (.inr (.inr (30, 0))), some (.inl (nI i + 6))] [] V2 = some (some (.inl 1), V3)) : ∃ V3, sem 30 227 615 [some (.inr (.inr (50, 0))), some (.inr (.inr (0, 0))), some (.inr (.inr (30, 0))), some (.inl (nI i))] [] V = some (some (.inl 1), V3) := by
  have hV : Vok SL xs V := hI.2.2.2.2.2.2.2
  have g1 : ¬ (nI i + 1 < 0 ∨ ¬ nI i + 1 < nI SL) := gd_ok (k := 1) (by omega) hs
  have g2 : ¬ (nI i + 2 < 0 ∨ ¬ nI i + 2 < nI SL) := gd_ok (k := 2) (by omega) hs
  have g3 : ¬ (nI i + 3 < 0 ∨ ¬ nI i + 3 < nI SL) := gd_ok (k := 3) (by omega) hs
  obtain ⟨r, V1, V2, h1, hV1, h2, hI2⟩ := pm_line SL xs (xs (Int32.toNatClampNeg (nI i + 1))) (xs (Int32.toNatClampNeg (nI i + 2))) (xs (Int32.toNatClampNeg (nI i + 3))) V hI
  rw [e_W_law_615, hV.1, hV.2, if_neg g1, if_neg g2, if_neg g3, h1, bind_some', hV1.1, hV1.2, if_neg g1, if_neg g2, if_neg g3, h2, bind_some', if_pos rfl, e_W_law_1250]
  exact hn V2 hI2
set_option maxHeartbeats 1000000 in
theorem lc_drop (hs : SL < 2 ^ 31) (hi : i + 6 ≤ SL) (V : Mem) (hI : Inv SL xs V) (hn : ∀ V2, Inv SL xs V2 → ∃ V3, sem 30 227 18 [some (.inr (.inr (50, 0))), some (.inr (.inr (0, 0))), some (.inr (.inr (30, 0))), some (.inl (nI i + 6))] [] V2 = some (some (.inl 1), V3)) : ∃ V3, sem 30 227 658 [some (.inr (.inr (50, 0))), some (.inr (.inr (0, 0))), some (.inr (.inr (30, 0))), some (.inl (nI i))] [] V = some (some (.inl 1), V3) := by
  have hV : Vok SL xs V := hI.2.2.2.2.2.2.2
  have g1 : ¬ (nI i + 1 < 0 ∨ ¬ nI i + 1 < nI SL) := gd_ok (k := 1) (by omega) hs
  have g2 : ¬ (nI i + 2 < 0 ∨ ¬ nI i + 2 < nI SL) := gd_ok (k := 2) (by omega) hs
  have g3 : ¬ (nI i + 3 < 0 ∨ ¬ nI i + 3 < nI SL) := gd_ok (k := 3) (by omega) hs
  obtain ⟨r, V1, V2, h1, hV1, h2, hI2⟩ := pm_drop SL xs (xs (Int32.toNatClampNeg (nI i + 1))) (xs (Int32.toNatClampNeg (nI i + 2))) (xs (Int32.toNatClampNeg (nI i + 3))) V hI
  rw [e_W_law_658, hV.1, hV.2, if_neg g1, if_neg g2, if_neg g3, h1, bind_some', hV1.1, hV1.2, if_neg g1, if_neg g2, if_neg g3, h2, bind_some', if_pos rfl, e_W_law_1250]
  exact hn V2 hI2
set_option maxHeartbeats 1000000 in
theorem lc_cloud (hs : SL < 2 ^ 31) (hi : i + 6 ≤ SL) (V : Mem) (hI : Inv SL xs V) (hn : ∀ V2, Inv SL xs V2 → ∃ V3, sem 30 227 18 [some (.inr (.inr (50, 0))), some (.inr (.inr (0, 0))), some (.inr (.inr (30, 0))), some (.inl (nI i + 6))] [] V2 = some (some (.inl 1), V3)) : ∃ V3, sem 30 227 701 [some (.inr (.inr (50, 0))), some (.inr (.inr (0, 0))), some (.inr (.inr (30, 0))), some (.inl (nI i))] [] V = some (some (.inl 1), V3) := by
  have hV : Vok SL xs V := hI.2.2.2.2.2.2.2
  have g1 : ¬ (nI i + 1 < 0 ∨ ¬ nI i + 1 < nI SL) := gd_ok (k := 1) (by omega) hs
  obtain ⟨r, V1, V2, h1, hV1, h2, hI2⟩ := pm_cloud SL xs (xs (Int32.toNatClampNeg (nI i + 1))) V hI
  rw [e_W_law_701, hV.1, hV.2, if_neg g1, h1, bind_some', hV1.1, hV1.2, if_neg g1, h2, bind_some', if_pos rfl, e_W_law_1250]
  exact hn V2 hI2
set_option maxHeartbeats 1000000 in
theorem lc_feed (hs : SL < 2 ^ 31) (hi : i + 6 ≤ SL) (V : Mem) (hI : Inv SL xs V) (hn : ∀ V2, Inv SL xs V2 → ∃ V3, sem 30 227 18 [some (.inr (.inr (50, 0))), some (.inr (.inr (0, 0))), some (.inr (.inr (30, 0))), some (.inl (nI i + 6))] [] V2 = some (some (.inl 1), V3)) : ∃ V3, sem 30 227 724 [some (.inr (.inr (50, 0))), some (.inr (.inr (0, 0))), some (.inr (.inr (30, 0))), some (.inl (nI i))] [] V = some (some (.inl 1), V3) := by
  have hV : Vok SL xs V := hI.2.2.2.2.2.2.2
  have g1 : ¬ (nI i + 1 < 0 ∨ ¬ nI i + 1 < nI SL) := gd_ok (k := 1) (by omega) hs
  obtain ⟨r, V1, V2, h1, hV1, h2, hI2⟩ := pm_feed SL xs (xs (Int32.toNatClampNeg (nI i + 1))) V hI
  rw [e_W_law_724, hV.1, hV.2, if_neg g1, h1, bind_some', hV1.1, hV1.2, if_neg g1, h2, bind_some', if_pos rfl, e_W_law_1250]
  exact hn V2 hI2
set_option maxHeartbeats 1000000 in
theorem lc_wipe (hs : SL < 2 ^ 31) (hi : i + 6 ≤ SL) (V : Mem) (hI : Inv SL xs V) (hn : ∀ V2, Inv SL xs V2 → ∃ V3, sem 30 227 18 [some (.inr (.inr (50, 0))), some (.inr (.inr (0, 0))), some (.inr (.inr (30, 0))), some (.inl (nI i + 6))] [] V2 = some (some (.inl 1), V3)) : ∃ V3, sem 30 227 747 [some (.inr (.inr (50, 0))), some (.inr (.inr (0, 0))), some (.inr (.inr (30, 0))), some (.inl (nI i))] [] V = some (some (.inl 1), V3) := by
  have hV : Vok SL xs V := hI.2.2.2.2.2.2.2
  obtain ⟨r, V1, V2, h1, hV1, h2, hI2⟩ := pm_wipe SL xs  V hI
  rw [e_W_law_747, h1, bind_some', h2, bind_some', if_pos rfl, e_W_law_1250]
  exact hn V2 hI2
set_option maxHeartbeats 1000000 in
theorem lc_sky (hs : SL < 2 ^ 31) (hi : i + 6 ≤ SL) (V : Mem) (hI : Inv SL xs V) (hn : ∀ V2, Inv SL xs V2 → ∃ V3, sem 30 227 18 [some (.inr (.inr (50, 0))), some (.inr (.inr (0, 0))), some (.inr (.inr (30, 0))), some (.inl (nI i + 6))] [] V2 = some (some (.inl 1), V3)) : ∃ V3, sem 30 227 760 [some (.inr (.inr (50, 0))), some (.inr (.inr (0, 0))), some (.inr (.inr (30, 0))), some (.inl (nI i))] [] V = some (some (.inl 1), V3) := by
  have hV : Vok SL xs V := hI.2.2.2.2.2.2.2
  obtain ⟨r, V1, V2, h1, hV1, h2, hI2⟩ := pm_sky SL xs  V hI
  rw [e_W_law_760, h1, bind_some', h2, bind_some', if_pos rfl, e_W_law_1250]
  exact hn V2 hI2
set_option maxHeartbeats 1000000 in
theorem lc_pointOf (hs : SL < 2 ^ 31) (hi : i + 6 ≤ SL) (V : Mem) (hI : Inv SL xs V) (hn : ∀ V2, Inv SL xs V2 → ∃ V3, sem 30 227 18 [some (.inr (.inr (50, 0))), some (.inr (.inr (0, 0))), some (.inr (.inr (30, 0))), some (.inl (nI i + 6))] [] V2 = some (some (.inl 1), V3)) : ∃ V3, sem 30 227 773 [some (.inr (.inr (50, 0))), some (.inr (.inr (0, 0))), some (.inr (.inr (30, 0))), some (.inl (nI i))] [] V = some (some (.inl 1), V3) := by
  have hV : Vok SL xs V := hI.2.2.2.2.2.2.2
  have g1 : ¬ (nI i + 1 < 0 ∨ ¬ nI i + 1 < nI SL) := gd_ok (k := 1) (by omega) hs
  have g2 : ¬ (nI i + 2 < 0 ∨ ¬ nI i + 2 < nI SL) := gd_ok (k := 2) (by omega) hs
  obtain ⟨r, V1, V2, h1, hV1, h2, hI2⟩ := pm_pointOf SL xs (xs (Int32.toNatClampNeg (nI i + 1))) (xs (Int32.toNatClampNeg (nI i + 2))) V hI
  rw [e_W_law_773, hV.1, hV.2, if_neg g1, if_neg g2, h1, bind_some', hV1.1, hV1.2, if_neg g1, if_neg g2, h2, bind_some', if_pos rfl, e_W_law_1250]
  exact hn V2 hI2
set_option maxHeartbeats 1000000 in
theorem lc_parishOf (hs : SL < 2 ^ 31) (hi : i + 6 ≤ SL) (V : Mem) (hI : Inv SL xs V) (hn : ∀ V2, Inv SL xs V2 → ∃ V3, sem 30 227 18 [some (.inr (.inr (50, 0))), some (.inr (.inr (0, 0))), some (.inr (.inr (30, 0))), some (.inl (nI i + 6))] [] V2 = some (some (.inl 1), V3)) : ∃ V3, sem 30 227 806 [some (.inr (.inr (50, 0))), some (.inr (.inr (0, 0))), some (.inr (.inr (30, 0))), some (.inl (nI i))] [] V = some (some (.inl 1), V3) := by
  have hV : Vok SL xs V := hI.2.2.2.2.2.2.2
  have g1 : ¬ (nI i + 1 < 0 ∨ ¬ nI i + 1 < nI SL) := gd_ok (k := 1) (by omega) hs
  have g2 : ¬ (nI i + 2 < 0 ∨ ¬ nI i + 2 < nI SL) := gd_ok (k := 2) (by omega) hs
  obtain ⟨r, V1, V2, h1, hV1, h2, hI2⟩ := pm_parishOf SL xs (xs (Int32.toNatClampNeg (nI i + 1))) (xs (Int32.toNatClampNeg (nI i + 2))) V hI
  rw [e_W_law_806, hV.1, hV.2, if_neg g1, if_neg g2, h1, bind_some', hV1.1, hV1.2, if_neg g1, if_neg g2, h2, bind_some', if_pos rfl, e_W_law_1250]
  exact hn V2 hI2
set_option maxHeartbeats 1000000 in
theorem lc_crowd (hs : SL < 2 ^ 31) (hi : i + 6 ≤ SL) (V : Mem) (hI : Inv SL xs V) (hn : ∀ V2, Inv SL xs V2 → ∃ V3, sem 30 227 18 [some (.inr (.inr (50, 0))), some (.inr (.inr (0, 0))), some (.inr (.inr (30, 0))), some (.inl (nI i + 6))] [] V2 = some (some (.inl 1), V3)) : ∃ V3, sem 30 227 839 [some (.inr (.inr (50, 0))), some (.inr (.inr (0, 0))), some (.inr (.inr (30, 0))), some (.inl (nI i))] [] V = some (some (.inl 1), V3) := by
  have hV : Vok SL xs V := hI.2.2.2.2.2.2.2
  obtain ⟨r, V1, V2, h1, hV1, h2, hI2⟩ := pm_crowd SL xs  V hI
  rw [e_W_law_839, h1, bind_some', h2, bind_some', if_pos rfl, e_W_law_1250]
  exact hn V2 hI2
set_option maxHeartbeats 1000000 in
theorem lc_lineOf (hs : SL < 2 ^ 31) (hi : i + 6 ≤ SL) (V : Mem) (hI : Inv SL xs V) (hn : ∀ V2, Inv SL xs V2 → ∃ V3, sem 30 227 18 [some (.inr (.inr (50, 0))), some (.inr (.inr (0, 0))), some (.inr (.inr (30, 0))), some (.inl (nI i + 6))] [] V2 = some (some (.inl 1), V3)) : ∃ V3, sem 30 227 852 [some (.inr (.inr (50, 0))), some (.inr (.inr (0, 0))), some (.inr (.inr (30, 0))), some (.inl (nI i))] [] V = some (some (.inl 1), V3) := by
  have hV : Vok SL xs V := hI.2.2.2.2.2.2.2
  have g1 : ¬ (nI i + 1 < 0 ∨ ¬ nI i + 1 < nI SL) := gd_ok (k := 1) (by omega) hs
  have g2 : ¬ (nI i + 2 < 0 ∨ ¬ nI i + 2 < nI SL) := gd_ok (k := 2) (by omega) hs
  obtain ⟨r, V1, V2, h1, hV1, h2, hI2⟩ := pm_lineOf SL xs (xs (Int32.toNatClampNeg (nI i + 1))) (xs (Int32.toNatClampNeg (nI i + 2))) V hI
  rw [e_W_law_852, hV.1, hV.2, if_neg g1, if_neg g2, h1, bind_some', hV1.1, hV1.2, if_neg g1, if_neg g2, h2, bind_some', if_pos rfl, e_W_law_1250]
  exact hn V2 hI2
set_option maxHeartbeats 1000000 in
theorem lc_shift (hs : SL < 2 ^ 31) (hi : i + 6 ≤ SL) (V : Mem) (hI : Inv SL xs V) (hn : ∀ V2, Inv SL xs V2 → ∃ V3, sem 30 227 18 [some (.inr (.inr (50, 0))), some (.inr (.inr (0, 0))), some (.inr (.inr (30, 0))), some (.inl (nI i + 6))] [] V2 = some (some (.inl 1), V3)) : ∃ V3, sem 30 227 885 [some (.inr (.inr (50, 0))), some (.inr (.inr (0, 0))), some (.inr (.inr (30, 0))), some (.inl (nI i))] [] V = some (some (.inl 1), V3) := by
  have hV : Vok SL xs V := hI.2.2.2.2.2.2.2
  have g1 : ¬ (nI i + 1 < 0 ∨ ¬ nI i + 1 < nI SL) := gd_ok (k := 1) (by omega) hs
  have g2 : ¬ (nI i + 2 < 0 ∨ ¬ nI i + 2 < nI SL) := gd_ok (k := 2) (by omega) hs
  obtain ⟨r, V1, V2, h1, hV1, h2, hI2⟩ := pm_shift SL xs (xs (Int32.toNatClampNeg (nI i + 1))) (xs (Int32.toNatClampNeg (nI i + 2))) V hI
  rw [e_W_law_885, hV.1, hV.2, if_neg g1, if_neg g2, h1, bind_some', hV1.1, hV1.2, if_neg g1, if_neg g2, h2, bind_some', if_pos rfl, e_W_law_1250]
  exact hn V2 hI2
set_option maxHeartbeats 1000000 in
theorem lc_better (hs : SL < 2 ^ 31) (hi : i + 6 ≤ SL) (V : Mem) (hI : Inv SL xs V) (hn : ∀ V2, Inv SL xs V2 → ∃ V3, sem 30 227 18 [some (.inr (.inr (50, 0))), some (.inr (.inr (0, 0))), some (.inr (.inr (30, 0))), some (.inl (nI i + 6))] [] V2 = some (some (.inl 1), V3)) : ∃ V3, sem 30 227 918 [some (.inr (.inr (50, 0))), some (.inr (.inr (0, 0))), some (.inr (.inr (30, 0))), some (.inl (nI i))] [] V = some (some (.inl 1), V3) := by
  have hV : Vok SL xs V := hI.2.2.2.2.2.2.2
  have g1 : ¬ (nI i + 1 < 0 ∨ ¬ nI i + 1 < nI SL) := gd_ok (k := 1) (by omega) hs
  have g2 : ¬ (nI i + 2 < 0 ∨ ¬ nI i + 2 < nI SL) := gd_ok (k := 2) (by omega) hs
  obtain ⟨r, V1, V2, h1, hV1, h2, hI2⟩ := pm_better SL xs (xs (Int32.toNatClampNeg (nI i + 1))) (xs (Int32.toNatClampNeg (nI i + 2))) V hI
  rw [e_W_law_918, hV.1, hV.2, if_neg g1, if_neg g2, h1, bind_some', hV1.1, hV1.2, if_neg g1, if_neg g2, h2, bind_some', if_pos rfl, e_W_law_1250]
  exact hn V2 hI2
set_option maxHeartbeats 1000000 in
theorem lc_share (hs : SL < 2 ^ 31) (hi : i + 6 ≤ SL) (V : Mem) (hI : Inv SL xs V) (hn : ∀ V2, Inv SL xs V2 → ∃ V3, sem 30 227 18 [some (.inr (.inr (50, 0))), some (.inr (.inr (0, 0))), some (.inr (.inr (30, 0))), some (.inl (nI i + 6))] [] V2 = some (some (.inl 1), V3)) : ∃ V3, sem 30 227 951 [some (.inr (.inr (50, 0))), some (.inr (.inr (0, 0))), some (.inr (.inr (30, 0))), some (.inl (nI i))] [] V = some (some (.inl 1), V3) := by
  have hV : Vok SL xs V := hI.2.2.2.2.2.2.2
  have g1 : ¬ (nI i + 1 < 0 ∨ ¬ nI i + 1 < nI SL) := gd_ok (k := 1) (by omega) hs
  obtain ⟨r, V1, V2, h1, hV1, h2, hI2⟩ := pm_share SL xs (xs (Int32.toNatClampNeg (nI i + 1))) V hI
  rw [e_W_law_951, hV.1, hV.2, if_neg g1, h1, bind_some', hV1.1, hV1.2, if_neg g1, h2, bind_some', if_pos rfl, e_W_law_1250]
  exact hn V2 hI2
set_option maxHeartbeats 1000000 in
theorem lc_colours (hs : SL < 2 ^ 31) (hi : i + 6 ≤ SL) (V : Mem) (hI : Inv SL xs V) (hn : ∀ V2, Inv SL xs V2 → ∃ V3, sem 30 227 18 [some (.inr (.inr (50, 0))), some (.inr (.inr (0, 0))), some (.inr (.inr (30, 0))), some (.inl (nI i + 6))] [] V2 = some (some (.inl 1), V3)) : ∃ V3, sem 30 227 974 [some (.inr (.inr (50, 0))), some (.inr (.inr (0, 0))), some (.inr (.inr (30, 0))), some (.inl (nI i))] [] V = some (some (.inl 1), V3) := by
  have hV : Vok SL xs V := hI.2.2.2.2.2.2.2
  obtain ⟨r, V1, V2, h1, hV1, h2, hI2⟩ := pm_colours SL xs  V hI
  rw [e_W_law_974, h1, bind_some', h2, bind_some', if_pos rfl, e_W_law_1250]
  exact hn V2 hI2
set_option maxHeartbeats 1000000 in
theorem lc_way (hs : SL < 2 ^ 31) (hi : i + 6 ≤ SL) (V : Mem) (hI : Inv SL xs V) (hn : ∀ V2, Inv SL xs V2 → ∃ V3, sem 30 227 18 [some (.inr (.inr (50, 0))), some (.inr (.inr (0, 0))), some (.inr (.inr (30, 0))), some (.inl (nI i + 6))] [] V2 = some (some (.inl 1), V3)) : ∃ V3, sem 30 227 987 [some (.inr (.inr (50, 0))), some (.inr (.inr (0, 0))), some (.inr (.inr (30, 0))), some (.inl (nI i))] [] V = some (some (.inl 1), V3) := by
  have hV : Vok SL xs V := hI.2.2.2.2.2.2.2
  have g1 : ¬ (nI i + 1 < 0 ∨ ¬ nI i + 1 < nI SL) := gd_ok (k := 1) (by omega) hs
  have g2 : ¬ (nI i + 2 < 0 ∨ ¬ nI i + 2 < nI SL) := gd_ok (k := 2) (by omega) hs
  obtain ⟨r, V1, V2, h1, hV1, h2, hI2⟩ := pm_way SL xs (xs (Int32.toNatClampNeg (nI i + 1))) (xs (Int32.toNatClampNeg (nI i + 2))) V hI
  rw [e_W_law_987, hV.1, hV.2, if_neg g1, if_neg g2, h1, bind_some', hV1.1, hV1.2, if_neg g1, if_neg g2, h2, bind_some', if_pos rfl, e_W_law_1250]
  exact hn V2 hI2
set_option maxHeartbeats 1000000 in
theorem lc_pick (hs : SL < 2 ^ 31) (hi : i + 6 ≤ SL) (V : Mem) (hI : Inv SL xs V) (hn : ∀ V2, Inv SL xs V2 → ∃ V3, sem 30 227 18 [some (.inr (.inr (50, 0))), some (.inr (.inr (0, 0))), some (.inr (.inr (30, 0))), some (.inl (nI i + 6))] [] V2 = some (some (.inl 1), V3)) : ∃ V3, sem 30 227 1020 [some (.inr (.inr (50, 0))), some (.inr (.inr (0, 0))), some (.inr (.inr (30, 0))), some (.inl (nI i))] [] V = some (some (.inl 1), V3) := by
  have hV : Vok SL xs V := hI.2.2.2.2.2.2.2
  have g1 : ¬ (nI i + 1 < 0 ∨ ¬ nI i + 1 < nI SL) := gd_ok (k := 1) (by omega) hs
  obtain ⟨r, V1, V2, h1, hV1, h2, hI2⟩ := pm_pick SL xs (xs (Int32.toNatClampNeg (nI i + 1))) V hI
  rw [e_W_law_1020, hV.1, hV.2, if_neg g1, h1, bind_some', hV1.1, hV1.2, if_neg g1, h2, bind_some', if_pos rfl, e_W_law_1250]
  exact hn V2 hI2
set_option maxHeartbeats 1000000 in
theorem lc_laws (hs : SL < 2 ^ 31) (hi : i + 6 ≤ SL) (V : Mem) (hI : Inv SL xs V) (hn : ∀ V2, Inv SL xs V2 → ∃ V3, sem 30 227 18 [some (.inr (.inr (50, 0))), some (.inr (.inr (0, 0))), some (.inr (.inr (30, 0))), some (.inl (nI i + 6))] [] V2 = some (some (.inl 1), V3)) : ∃ V3, sem 30 227 1043 [some (.inr (.inr (50, 0))), some (.inr (.inr (0, 0))), some (.inr (.inr (30, 0))), some (.inl (nI i))] [] V = some (some (.inl 1), V3) := by
  have hV : Vok SL xs V := hI.2.2.2.2.2.2.2
  have g1 : ¬ (nI i + 1 < 0 ∨ ¬ nI i + 1 < nI SL) := gd_ok (k := 1) (by omega) hs
  obtain ⟨r, V1, V2, h1, hV1, h2, hI2⟩ := pm_laws SL xs (xs (Int32.toNatClampNeg (nI i + 1))) V hI
  rw [e_W_law_1043, hV.1, hV.2, if_neg g1, h1, bind_some', hV1.1, hV1.2, if_neg g1, h2, bind_some', if_pos rfl, e_W_law_1250]
  exact hn V2 hI2
set_option maxHeartbeats 1000000 in
theorem lc_whose (hs : SL < 2 ^ 31) (hi : i + 6 ≤ SL) (V : Mem) (hI : Inv SL xs V) (hn : ∀ V2, Inv SL xs V2 → ∃ V3, sem 30 227 18 [some (.inr (.inr (50, 0))), some (.inr (.inr (0, 0))), some (.inr (.inr (30, 0))), some (.inl (nI i + 6))] [] V2 = some (some (.inl 1), V3)) : ∃ V3, sem 30 227 1066 [some (.inr (.inr (50, 0))), some (.inr (.inr (0, 0))), some (.inr (.inr (30, 0))), some (.inl (nI i))] [] V = some (some (.inl 1), V3) := by
  have hV : Vok SL xs V := hI.2.2.2.2.2.2.2
  have g1 : ¬ (nI i + 1 < 0 ∨ ¬ nI i + 1 < nI SL) := gd_ok (k := 1) (by omega) hs
  have g2 : ¬ (nI i + 2 < 0 ∨ ¬ nI i + 2 < nI SL) := gd_ok (k := 2) (by omega) hs
  have g3 : ¬ (nI i + 3 < 0 ∨ ¬ nI i + 3 < nI SL) := gd_ok (k := 3) (by omega) hs
  obtain ⟨r, V1, V2, h1, hV1, h2, hI2⟩ := pm_whose SL xs (xs (Int32.toNatClampNeg (nI i + 1))) (xs (Int32.toNatClampNeg (nI i + 2))) (xs (Int32.toNatClampNeg (nI i + 3))) V hI
  rw [e_W_law_1066, hV.1, hV.2, if_neg g1, if_neg g2, if_neg g3, h1, bind_some', hV1.1, hV1.2, if_neg g1, if_neg g2, if_neg g3, h2, bind_some', if_pos rfl, e_W_law_1250]
  exact hn V2 hI2
set_option maxHeartbeats 1000000 in
theorem lc_seen (hs : SL < 2 ^ 31) (hi : i + 6 ≤ SL) (V : Mem) (hI : Inv SL xs V) (hn : ∀ V2, Inv SL xs V2 → ∃ V3, sem 30 227 18 [some (.inr (.inr (50, 0))), some (.inr (.inr (0, 0))), some (.inr (.inr (30, 0))), some (.inl (nI i + 6))] [] V2 = some (some (.inl 1), V3)) : ∃ V3, sem 30 227 1109 [some (.inr (.inr (50, 0))), some (.inr (.inr (0, 0))), some (.inr (.inr (30, 0))), some (.inl (nI i))] [] V = some (some (.inl 1), V3) := by
  have hV : Vok SL xs V := hI.2.2.2.2.2.2.2
  have g1 : ¬ (nI i + 1 < 0 ∨ ¬ nI i + 1 < nI SL) := gd_ok (k := 1) (by omega) hs
  have g2 : ¬ (nI i + 2 < 0 ∨ ¬ nI i + 2 < nI SL) := gd_ok (k := 2) (by omega) hs
  obtain ⟨r, V1, V2, h1, hV1, h2, hI2⟩ := pm_seen SL xs (xs (Int32.toNatClampNeg (nI i + 1))) (xs (Int32.toNatClampNeg (nI i + 2))) V hI
  rw [e_W_law_1109, hV.1, hV.2, if_neg g1, if_neg g2, h1, bind_some', hV1.1, hV1.2, if_neg g1, if_neg g2, h2, bind_some', if_pos rfl, e_W_law_1250]
  exact hn V2 hI2
set_option maxHeartbeats 1000000 in
theorem lc_nights (hs : SL < 2 ^ 31) (hi : i + 6 ≤ SL) (V : Mem) (hI : Inv SL xs V) (hn : ∀ V2, Inv SL xs V2 → ∃ V3, sem 30 227 18 [some (.inr (.inr (50, 0))), some (.inr (.inr (0, 0))), some (.inr (.inr (30, 0))), some (.inl (nI i + 6))] [] V2 = some (some (.inl 1), V3)) : ∃ V3, sem 30 227 1142 [some (.inr (.inr (50, 0))), some (.inr (.inr (0, 0))), some (.inr (.inr (30, 0))), some (.inl (nI i))] [] V = some (some (.inl 1), V3) := by
  have hV : Vok SL xs V := hI.2.2.2.2.2.2.2
  have g1 : ¬ (nI i + 1 < 0 ∨ ¬ nI i + 1 < nI SL) := gd_ok (k := 1) (by omega) hs
  obtain ⟨r, V1, V2, h1, hV1, h2, hI2⟩ := pm_nights SL xs (xs (Int32.toNatClampNeg (nI i + 1))) V hI
  rw [e_W_law_1142, hV.1, hV.2, if_neg g1, h1, bind_some', hV1.1, hV1.2, if_neg g1, h2, bind_some', if_pos rfl, e_W_law_1250]
  exact hn V2 hI2
set_option maxHeartbeats 1000000 in
theorem lc_give (hs : SL < 2 ^ 31) (hi : i + 6 ≤ SL) (V : Mem) (hI : Inv SL xs V) (hn : ∀ V2, Inv SL xs V2 → ∃ V3, sem 30 227 18 [some (.inr (.inr (50, 0))), some (.inr (.inr (0, 0))), some (.inr (.inr (30, 0))), some (.inl (nI i + 6))] [] V2 = some (some (.inl 1), V3)) : ∃ V3, sem 30 227 1165 [some (.inr (.inr (50, 0))), some (.inr (.inr (0, 0))), some (.inr (.inr (30, 0))), some (.inl (nI i))] [] V = some (some (.inl 1), V3) := by
  have hV : Vok SL xs V := hI.2.2.2.2.2.2.2
  obtain ⟨r, V1, V2, h1, hV1, h2, hI2⟩ := pm_give SL xs  V hI
  rw [e_W_law_1165, h1, bind_some', h2, bind_some', if_pos rfl, e_W_law_1250]
  exact hn V2 hI2
set_option maxHeartbeats 1000000 in
theorem lc_seed (hs : SL < 2 ^ 31) (hi : i + 6 ≤ SL) (V : Mem) (hI : Inv SL xs V) (hn : ∀ V2, Inv SL xs V2 → ∃ V3, sem 30 227 18 [some (.inr (.inr (50, 0))), some (.inr (.inr (0, 0))), some (.inr (.inr (30, 0))), some (.inl (nI i + 6))] [] V2 = some (some (.inl 1), V3)) : ∃ V3, sem 30 227 1178 [some (.inr (.inr (50, 0))), some (.inr (.inr (0, 0))), some (.inr (.inr (30, 0))), some (.inl (nI i))] [] V = some (some (.inl 1), V3) := by
  have hV : Vok SL xs V := hI.2.2.2.2.2.2.2
  have g1 : ¬ (nI i + 1 < 0 ∨ ¬ nI i + 1 < nI SL) := gd_ok (k := 1) (by omega) hs
  obtain ⟨r, V1, V2, h1, hV1, h2, hI2⟩ := pm_seed SL xs (xs (Int32.toNatClampNeg (nI i + 1))) V hI
  rw [e_W_law_1178, hV.1, hV.2, if_neg g1, h1, bind_some', hV1.1, hV1.2, if_neg g1, h2, bind_some', if_pos rfl, e_W_law_1250]
  exact hn V2 hI2
set_option maxHeartbeats 1000000 in
theorem lc_image (hs : SL < 2 ^ 31) (hi : i + 6 ≤ SL) (V : Mem) (hI : Inv SL xs V) (hn : ∀ V2, Inv SL xs V2 → ∃ V3, sem 30 227 18 [some (.inr (.inr (50, 0))), some (.inr (.inr (0, 0))), some (.inr (.inr (30, 0))), some (.inl (nI i + 6))] [] V2 = some (some (.inl 1), V3)) : ∃ V3, sem 30 227 1201 [some (.inr (.inr (50, 0))), some (.inr (.inr (0, 0))), some (.inr (.inr (30, 0))), some (.inl (nI i))] [] V = some (some (.inl 1), V3) := by
  have hV : Vok SL xs V := hI.2.2.2.2.2.2.2
  obtain ⟨r, V1, V2, h1, hV1, h2, hI2⟩ := pm_image SL xs  V hI
  rw [e_W_law_1201, h1, bind_some', h2, bind_some', if_pos rfl, e_W_law_1250]
  exact hn V2 hI2
set_option maxHeartbeats 1000000 in
theorem lc_back (hs : SL < 2 ^ 31) (hi : i + 6 ≤ SL) (V : Mem) (hI : Inv SL xs V) (hn : ∀ V2, Inv SL xs V2 → ∃ V3, sem 30 227 18 [some (.inr (.inr (50, 0))), some (.inr (.inr (0, 0))), some (.inr (.inr (30, 0))), some (.inl (nI i + 6))] [] V2 = some (some (.inl 1), V3)) : ∃ V3, sem 30 227 1214 [some (.inr (.inr (50, 0))), some (.inr (.inr (0, 0))), some (.inr (.inr (30, 0))), some (.inl (nI i))] [] V = some (some (.inl 1), V3) := by
  have hV : Vok SL xs V := hI.2.2.2.2.2.2.2
  obtain ⟨r, V1, V2, h1, hV1, h2, hI2⟩ := pm_back SL xs  V hI
  rw [e_W_law_1214, h1, bind_some', h2, bind_some', if_pos rfl, e_W_law_1250]
  exact hn V2 hI2
set_option maxHeartbeats 1000000 in
theorem lc_status (hs : SL < 2 ^ 31) (hi : i + 6 ≤ SL) (V : Mem) (hI : Inv SL xs V) (hn : ∀ V2, Inv SL xs V2 → ∃ V3, sem 30 227 18 [some (.inr (.inr (50, 0))), some (.inr (.inr (0, 0))), some (.inr (.inr (30, 0))), some (.inl (nI i + 6))] [] V2 = some (some (.inl 1), V3)) : ∃ V3, sem 30 227 1227 [some (.inr (.inr (50, 0))), some (.inr (.inr (0, 0))), some (.inr (.inr (30, 0))), some (.inl (nI i))] [] V = some (some (.inl 1), V3) := by
  have hV : Vok SL xs V := hI.2.2.2.2.2.2.2
  have g1 : ¬ (nI i + 1 < 0 ∨ ¬ nI i + 1 < nI SL) := gd_ok (k := 1) (by omega) hs
  obtain ⟨r, V1, V2, h1, hV1, h2, hI2⟩ := pm_status SL xs (xs (Int32.toNatClampNeg (nI i + 1))) V hI
  rw [e_W_law_1227, hV.1, hV.2, if_neg g1, h1, bind_some', hV1.1, hV1.2, if_neg g1, h2, bind_some', if_pos rfl, e_W_law_1250]
  exact hn V2 hI2
theorem law_loop (hs : SL < 2 ^ 30) : ∀ (n i : Nat) (V : Mem), SL < i + n → i ≤ SL + 6 → Inv SL xs V → ∃ V3, sem 30 227 18 [some (.inr (.inr (50, 0))), some (.inr (.inr (0, 0))), some (.inr (.inr (30, 0))), some (.inl (nI i))] [] V = some (some (.inl 1), V3) := by
  intro n
  induction n with
  | zero =>
    intro i V h1 h2 hI
    have hV : Vok SL xs V := hI.2.2.2.2.2.2.2
    refine ⟨V, ?_⟩
    rw [e_W_law_18, hV.2, if_pos]
    show nI SL - nI 6 < nI i
    rw [Int32.lt_iff_toInt_lt, pk_sub_toInt (by omega) (by omega), nI_toInt (by omega)]
    omega
  | succ n ih =>
    intro i V h1 h2 hI
    have hV : Vok SL xs V := hI.2.2.2.2.2.2.2
    by_cases hi : i + 6 ≤ SL
    · have hc : ¬ nI SL - 6 < nI i := by
        show ¬ nI SL - nI 6 < nI i
        rw [Int32.lt_iff_toInt_lt, pk_sub_toInt (by omega) (by omega), nI_toInt (by omega)]
        omega
      have g0 : ¬ (nI i < 0 ∨ ¬ nI i < nI SL) := by
        rintro (h | h)
        · exact nI_pos (by omega) h
        · exact h (nI_lt (by omega) (by omega))
      have hn : ∀ V2, Inv SL xs V2 → ∃ V3, sem 30 227 18 [some (.inr (.inr (50, 0))), some (.inr (.inr (0, 0))), some (.inr (.inr (30, 0))), some (.inl (nI i + 6))] [] V2 = some (some (.inl 1), V3) := by
        intro V2 h9
        show ∃ V3, sem 30 227 18 [some (.inr (.inr (50, 0))), some (.inr (.inr (0, 0))), some (.inr (.inr (30, 0))), some (.inl (nI i + nI 6))] [] V2 = some (some (.inl 1), V3)
        rw [nI_add]
        exact ih (i + 6) V2 (by omega) (by omega) h9
      rw [e_W_law_18, hV.1, hV.2, if_neg hc, if_neg g0]
      generalize xs (Int32.toNatClampNeg (nI i)) &&& 63 = o
      by_cases q0 : o = 0
      · rw [if_pos q0]
        exact lc_row (by omega) hi V hI hn
      rw [if_neg q0]
      by_cases q1 : o = 1
      · rw [if_pos q1]
        exact lc_set (by omega) hi V hI hn
      rw [if_neg q1]
      by_cases q2 : o = 2
      · rw [if_pos q2]
        exact lc_copy (by omega) hi V hI hn
      rw [if_neg q2]
      by_cases q3 : o = 3
      · rw [if_pos q3]
        exact lc_element (by omega) hi V hI hn
      rw [if_neg q3]
      by_cases q4 : o = 4
      · rw [if_pos q4]
        exact lc_holds (by omega) hi V hI hn
      rw [if_neg q4]
      by_cases q5 : o = 5
      · rw [if_pos q5]
        exact lc_show (by omega) hi V hI hn
      rw [if_neg q5]
      by_cases q6 : o = 6
      · rw [if_pos q6]
        exact lc_says (by omega) hi V hI hn
      rw [if_neg q6]
      by_cases q7 : o = 7
      · rw [if_pos q7]
        exact lc_point (by omega) hi V hI hn
      rw [if_neg q7]
      by_cases q8 : o = 8
      · rw [if_pos q8]
        exact lc_parish (by omega) hi V hI hn
      rw [if_neg q8]
      by_cases q9 : o = 9
      · rw [if_pos q9]
        exact lc_wants (by omega) hi V hI hn
      rw [if_neg q9]
      by_cases q10 : o = 10
      · rw [if_pos q10]
        exact lc_line (by omega) hi V hI hn
      rw [if_neg q10]
      by_cases q11 : o = 11
      · rw [if_pos q11]
        exact lc_drop (by omega) hi V hI hn
      rw [if_neg q11]
      by_cases q12 : o = 12
      · rw [if_pos q12]
        exact lc_cloud (by omega) hi V hI hn
      rw [if_neg q12]
      by_cases q13 : o = 13
      · rw [if_pos q13]
        exact lc_feed (by omega) hi V hI hn
      rw [if_neg q13]
      by_cases q14 : o = 14
      · rw [if_pos q14]
        exact lc_wipe (by omega) hi V hI hn
      rw [if_neg q14]
      by_cases q15 : o = 15
      · rw [if_pos q15]
        exact lc_sky (by omega) hi V hI hn
      rw [if_neg q15]
      by_cases q16 : o = 16
      · rw [if_pos q16]
        exact lc_pointOf (by omega) hi V hI hn
      rw [if_neg q16]
      by_cases q17 : o = 17
      · rw [if_pos q17]
        exact lc_parishOf (by omega) hi V hI hn
      rw [if_neg q17]
      by_cases q18 : o = 18
      · rw [if_pos q18]
        exact lc_crowd (by omega) hi V hI hn
      rw [if_neg q18]
      by_cases q19 : o = 19
      · rw [if_pos q19]
        exact lc_lineOf (by omega) hi V hI hn
      rw [if_neg q19]
      by_cases q20 : o = 20
      · rw [if_pos q20]
        exact lc_shift (by omega) hi V hI hn
      rw [if_neg q20]
      by_cases q21 : o = 21
      · rw [if_pos q21]
        exact lc_better (by omega) hi V hI hn
      rw [if_neg q21]
      by_cases q22 : o = 22
      · rw [if_pos q22]
        exact lc_share (by omega) hi V hI hn
      rw [if_neg q22]
      by_cases q23 : o = 23
      · rw [if_pos q23]
        exact lc_colours (by omega) hi V hI hn
      rw [if_neg q23]
      by_cases q24 : o = 24
      · rw [if_pos q24]
        exact lc_way (by omega) hi V hI hn
      rw [if_neg q24]
      by_cases q25 : o = 25
      · rw [if_pos q25]
        exact lc_pick (by omega) hi V hI hn
      rw [if_neg q25]
      by_cases q26 : o = 26
      · rw [if_pos q26]
        exact lc_laws (by omega) hi V hI hn
      rw [if_neg q26]
      by_cases q27 : o = 27
      · rw [if_pos q27]
        exact lc_whose (by omega) hi V hI hn
      rw [if_neg q27]
      by_cases q28 : o = 28
      · rw [if_pos q28]
        exact lc_seen (by omega) hi V hI hn
      rw [if_neg q28]
      by_cases q29 : o = 29
      · rw [if_pos q29]
        exact lc_nights (by omega) hi V hI hn
      rw [if_neg q29]
      by_cases q30 : o = 30
      · rw [if_pos q30]
        exact lc_give (by omega) hi V hI hn
      rw [if_neg q30]
      by_cases q31 : o = 31
      · rw [if_pos q31]
        exact lc_seed (by omega) hi V hI hn
      rw [if_neg q31]
      by_cases q32 : o = 32
      · rw [if_pos q32]
        exact lc_image (by omega) hi V hI hn
      rw [if_neg q32]
      by_cases q33 : o = 33
      · rw [if_pos q33]
        exact lc_back (by omega) hi V hI hn
      rw [if_neg q33]
      by_cases q34 : o = 34
      · rw [if_pos q34]
        exact lc_status (by omega) hi V hI hn
      rw [if_neg q34]
      rw [e_W_law_1250]
      exact hn V hI
    · refine ⟨V, ?_⟩
      rw [e_W_law_18, hV.2, if_pos]
      show nI SL - nI 6 < nI i
      rw [Int32.lt_iff_toInt_lt, pk_sub_toInt (by omega) (by omega), nI_toInt (by omega)]
      omega
theorem law_all (hs : SL < 2 ^ 30) (V : Mem) (hI : Inv SL xs V) : ∃ V3, sem 30 227 16 [some (.inr (.inr (50, 0))), some (.inr (.inr (0, 0))), some (.inr (.inr (30, 0))), none] [] V = some (some (.inl 1), V3) := by
  rw [e_W_law_16]
  exact law_loop hs (SL + 1) 0 V (by omega) (by omega) hI
end Law
