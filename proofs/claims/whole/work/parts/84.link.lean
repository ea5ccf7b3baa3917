/-! FROM THE CONSTRUCTORS' CELLS TO THE SMALL MACHINE'S MEMORY -/
theorem arrV_congr {cA : ClassId} {n : Nat} {f f' : Nat → Value} (h : ∀ j, j < n → f j = f' j) : arrV cA n f = arrV cA n f' := by
  unfold arrV
  congr 1
  congr 1
  funext j
  exact h j.1 j.2
theorem b0n_num {t i k : Nat} {c : List Int32} (hq : (t, i) ∈ allP) (h : cell0 t i = .inr (.inl (k, c))) : b0n t i = fun j => c.getD j 0 := by
  funext j
  unfold b0n
  rw [nth0 (t, i) hq, h]
theorem at_of {D : va_G} {cy : Nat → ClassId} {g adK : Nat → Nat} {b SL : Nat} {xs : Nat → Int32} {H : Heap} {t i : Nat} (hq : (t, i) ∈ allP) {x : Nat} (h : va_at D vwCl (x, toE cy g (cell0 t i)) H) : va_at D vwCl (x, cellE cy (ad0 b adK g) t i (V0 SL xs)) H := by
  have hk := okE0 (t, i) hq
  have ht : t < 48 := by
    obtain ⟨t', h1, h2⟩ := List.mem_flatMap.mp hq
    obtain ⟨i', h3, h4⟩ := List.mem_map.mp h2
    cases h4
    exact List.mem_range.mp h1
  have hn0 := nth0 (t, i) hq
  dsimp only at hk hn0
  unfold okE at hk
  match hc : cell0 t i with
  | .inl (ci, fs) =>
    rw [hc] at hk h hn0
    simp only [Bool.and_eq_true, decide_eq_true_eq] at hk
    obtain ⟨⟨h1, rfl, h3⟩, h4⟩ := hk
    have h5 : ∀ k ∈ List.range fs.length, _ = true := List.all_eq_true.mp h4
    rw [cellE_obj h1]
    have e : fs.map (bvv g) = fds (ad0 b adK g) t i (V0 SL xs) := by
      apply List.ext_getElem?
      intro k
      by_cases hl : k < fs.length
      · have h6 := h5 k (List.mem_range.mpr hl)
        have hl2 : k < (frl t).length := by omega
        rw [List.getElem?_map]
        have g1 : ∃ x, nth (frl t) k = some x := nth_some_of_get hl2
        have g2 : ∃ x, nth fs k = some x := nth_some_of_get hl
        obtain ⟨x1, g1⟩ := g1
        obtain ⟨x2, g2⟩ := g2
        rw [g1, g2] at h6
        rw [← nth_get, g2]
        match x1, x2, h6 with
        | none, some (.inl z), h6 =>
          have h6 : z = b0n t i k := of_decide_eq_true h6
          rw [fds_at (w := .inl z) (by unfold fldv; rw [g1]; show some (Sum.inl ((V0 SL xs).1 t i k)) = _; rw [V0_n ht, h6])]
          rfl
        | some (t', none), some (.inr (.inr (0, j))), h6 =>
          have h6 := of_decide_eq_true h6
          rw [fds_at (w := .inr (.inr (t', i))) (by unfold fldv; rw [g1])]
          show some (Value.ref (g j)) = some (Value.ref (ad0 b adK g t' i))
          unfold ad0
          rw [if_neg (by omega), if_neg (by omega), h6.1]
        | some (t', some c'), some (.inr (.inr (0, j))), h6 =>
          have h6 := of_decide_eq_true h6
          rw [fds_at (w := .inr (.inr (t', c'))) (by unfold fldv; rw [g1])]
          show some (Value.ref (g j)) = some (Value.ref (ad0 b adK g t' c'))
          unfold ad0
          rw [if_neg (by omega), if_neg (by omega), h6.1]
      · rw [List.getElem?_eq_none (by rw [List.length_map]; omega), List.getElem?_eq_none (by rw [fds_len]; omega)]
    rw [← e]
    exact h
  | .inr (.inl (k, c)) =>
    rw [hc] at hk h
    simp only [decide_eq_true_eq] at hk
    obtain ⟨h1, h2, h3, h4⟩ := hk
    by_cases hk2 : k = 2
    · subst hk2
      rw [cellE_lng h1, ← h4]
      exact h
    · have hak : ak t = 1 ∨ ak t = 3 ∨ ak t = 4 := by omega
      rw [cellE_num hak, V0_f ht, b0n_num hq hc, ← h4, h1]
      have e : toE cy g (.inr (.inl (k, c))) = .inl (cy k, c.length, .inl (fun j => c.getD j 0)) := by
        show (if k = 2 then _ else _) = _
        rw [if_neg hk2]
      rw [e] at h
      exact h
  | .inr (.inr (k, c)) =>
    rw [hc] at hk h
    simp only [Bool.and_eq_true, Bool.or_eq_true, decide_eq_true_eq] at hk
    obtain ⟨⟨h1, h2⟩, h3⟩ := hk
    have h : H[x]? = some (vp_cell (cy k) (c.length, .inr (.inr (.inr (.inr (fun j => (c.getD j none).map g)))))) := h
    rcases h3 with ⟨rfl, h3⟩ | ⟨rfl, h3⟩
    · have h5 : ∀ j ∈ List.range c.length, _ = true := List.all_eq_true.mp h3
      have e : cellE cy (ad0 b adK g) t i (V0 SL xs) = .inl (cy 5, alen t, .inr (.inr (.inr (.inr (fun j => some (ad0 b adK g 5 (j + 6 * i))))))) := by
        unfold cellE
        rw [h1]
        rfl
      rw [e]
      show H[x]? = some (vp_cell (cy 5) (alen t, .inr (.inr (.inr (.inr (fun j => some (ad0 b adK g 5 (j + 6 * i))))))))
      rw [h, vp_cell_q, vp_cell_q, ← h2]
      congr 1
      apply arrV_congr
      intro j hj
      have h6 := of_decide_eq_true (h5 j (List.mem_range.mpr hj))
      rw [h6]
      rfl
    · have h5 : ∀ j ∈ List.range c.length, _ = true := List.all_eq_true.mp h3
      have e : cellE cy (ad0 b adK g) t i (V0 SL xs) = .inl (cy 6, alen t, .inr (.inr (.inr (.inr (fun j => some (ad0 b adK g 23 j)))))) := by
        unfold cellE
        rw [h1]
        rfl
      rw [e]
      show H[x]? = some (vp_cell (cy 6) (alen t, .inr (.inr (.inr (.inr (fun j => some (ad0 b adK g 23 j)))))))
      rw [h, vp_cell_q, vp_cell_q, ← h2]
      congr 1
      apply arrV_congr
      intro j hj
      have h6 := of_decide_eq_true (h5 j (List.mem_range.mpr hj))
      rw [h6]
      rfl
theorem ad0_lt {b : Nat} {adK g : Nat → Nat} {q : Nat × Nat} (hq : q ∈ allP) : ad0 b adK g q.1 q.2 = g (bix q.1 q.2) := by
  have ht : q.1 < 48 := by
    obtain ⟨t', h1, h2⟩ := List.mem_flatMap.mp hq
    obtain ⟨i', h3, h4⟩ := List.mem_map.mp h2
    cases h4
    exact List.mem_range.mp h1
  unfold ad0
  rw [if_neg (by omega), if_neg (by omega)]
theorem link_P {D : va_G} {cy : Nat → ClassId} {g adK : Nat → Nat} {b SL : Nat} {xs : Nat → Int32} {H : Heap} (hP : va_P D vwCl (bws cy g hp0) H) : va_P D vwCl (allC cy (ad0 b adK g) (V0 SL xs)) H := by
  intro k q hk
  unfold allC at hk
  rw [List.getElem?_map] at hk
  cases hp : allP[k]? with
  | none => rw [hp] at hk; cases hk
  | some z =>
    rw [hp] at hk
    cases hk
    have hm := List.mem_of_getElem? hp
    show va_at D vwCl (ad0 b adK g z.1 z.2, cellE cy (ad0 b adK g) z.1 z.2 (V0 SL xs)) H
    rw [ad0_lt hm]
    exact at_of hm (hP _ _ (bws_at (nth0 z hm)))
theorem link_D {cy : Nat → ClassId} {g adK : Nat → Nat} {b base : Nat} (hD : va_D (fun q => base ≤ q) (bws cy g hp0)) (V : Mem) : va_D (fun q => base ≤ q) (allC cy (ad0 b adK g) V) := by
  have key : ∀ (k : Nat) (q : Nat × va_E), (allC cy (ad0 b adK g) V)[k]? = some q → ∃ z : Nat × Nat, allP[k]? = some z ∧ q.1 = g (bix z.1 z.2) ∧ ∃ e, (bws cy g hp0)[bix z.1 z.2]? = some (g (bix z.1 z.2), e) := by
    intro k q hk
    unfold allC at hk
    rw [List.getElem?_map] at hk
    cases hp : allP[k]? with
    | none => rw [hp] at hk; cases hk
    | some z =>
      rw [hp] at hk
      cases hk
      have hm := List.mem_of_getElem? hp
      exact ⟨z, rfl, ad0_lt hm, _, bws_at (nth0 z hm)⟩
  refine ⟨fun i j x y hi hj hxy => ?_, fun k q hk => ?_⟩
  · obtain ⟨z1, a1, a2, e1, a3⟩ := key i x hi
    obtain ⟨z2, c1, c2, e2, c3⟩ := key j y hj
    have h9 : bix z1.1 z1.2 = bix z2.1 z2.2 := hD.1 _ _ _ _ a3 c3 (by rw [← a2, ← c2]; exact hxy)
    exact va_nd_inj _ nd0 i j (bix z1.1 z1.2) (by rw [List.getElem?_map, a1]; rfl) (by rw [List.getElem?_map, c1, h9]; rfl)
  · obtain ⟨z1, a1, a2, e1, a3⟩ := key k q hk
    rw [a2]
    exact hD.2 _ _ a3
def K0 : SKY := ((0, 0, 3, 1), fun _ => (0, 0), fun _ => (0, 0, 0), fun _ _ => false, fun _ _ => (0, 0))
theorem inv0a : b0n 1 0 3 = nI 0 ∧ b0n 1 0 4 = nI 0 ∧ b0n 1 0 5 = nI 3 ∧ b0n 1 0 6 = 1 ∧ b0n 32 0 174 = nI 0 ∧ b0n 32 0 175 = nI 0 ∧ b0n 32 0 176 = nI 3 ∧ b0n 32 0 177 = 1 ∧ b0n 30 0 4 = 0 ∧ b0n 0 0 11 = 0 ∧ b0n 20 0 0 = nI 0 ∧ b0n 30 0 6 = nI 0 := by decide +kernel
theorem inv0b : ∀ s, s < 8 → b0n 23 s 1 = -1 ∧ b0n 42 0 s = b0n 23 s 1 ∧ b0n 23 s 2 = nI 0 ∧ b0n 43 0 s = nI 0 := by decide +kernel
theorem inv0c : ∀ k, k < 5 → b0n 31 0 (k + 2) = b0n 25 0 k := by decide +kernel
theorem inv0d : ∀ k, k < 30 → b0n 36 0 k = nI (wordsL.getD k 0) := by decide +kernel
theorem inv0e : b0n 46 0 0 = -1 ∧ b0n 46 0 1 = 0 ∧ b0n 46 0 2 = 0 ∧ b0n 46 0 3 = 1 ∧ b0n 46 0 4 = 2 ∧ b0n 46 0 5 = 0 := by decide +kernel
theorem inv0 {SL : Nat} {xs : Nat → Int32} : Inv SL xs (V0 SL xs) := by
  have e : ∀ t i k, t < 48 → (V0 SL xs).1 t i k = b0n t i k := fun t i k h => V0_n h
  have hx : kNX K0 = 0 := rfl
  have hp : kNP K0 = 0 := rfl
  refine ⟨⟨K0, ⟨by decide, by decide, by decide, fun p h => absurd h (Nat.not_lt_zero p), fun x h => absurd h (Nat.not_lt_zero x)⟩, ⟨⟨?_, ?_, ?_, ?_⟩, fun p h => absurd h (Nat.not_lt_zero p), fun x h => absurd h (Nat.not_lt_zero x)⟩, ⟨⟨?_, ?_, ?_, ?_⟩, fun p h => absurd h (Nat.not_lt_zero p), fun x h => absurd h (Nat.not_lt_zero x)⟩, fun s hs => ⟨?_, ?_⟩⟩, ⟨?_, Or.inl ?_⟩, ⟨0, by decide, ?_, ?_, fun k h => absurd h (Nat.not_lt_zero k)⟩, fun s hs => ⟨⟨0, by decide, ?_, ?_⟩, fun k _ => rfl⟩, fun k hk => ?_, fun k hk => ?_, ⟨?_, ?_, ?_, ?_, ?_, ?_⟩, ⟨?_, ?_⟩⟩
  · rw [e 1 0 3 (by omega)]; exact inv0a.1
  · rw [e 1 0 4 (by omega)]; exact inv0a.2.1
  · rw [e 1 0 5 (by omega)]; exact inv0a.2.2.1
  · rw [e 1 0 6 (by omega)]; exact inv0a.2.2.2.1
  · rw [e 32 0 _ (by omega)]; exact inv0a.2.2.2.2.1
  · rw [e 32 0 _ (by omega)]; exact inv0a.2.2.2.2.2.1
  · rw [e 32 0 _ (by omega)]; exact inv0a.2.2.2.2.2.2.1
  · rw [e 32 0 _ (by omega)]; exact inv0a.2.2.2.2.2.2.2.1
  · rw [e 23 s 1 (by omega), (inv0b s hs).1]; exact Or.inl rfl
  · rw [e 23 s 1 (by omega), e 42 0 s (by omega)]; exact (inv0b s hs).2.1
  · rw [e 30 0 4 (by omega), e 0 0 11 (by omega), inv0a.2.2.2.2.2.2.2.2.1, inv0a.2.2.2.2.2.2.2.2.2.1]
  · rw [e 0 0 11 (by omega)]; exact inv0a.2.2.2.2.2.2.2.2.2.1
  · rw [e 20 0 0 (by omega)]; exact inv0a.2.2.2.2.2.2.2.2.2.2.1
  · rw [e 30 0 6 (by omega)]; exact inv0a.2.2.2.2.2.2.2.2.2.2.2
  · rw [e 23 s 2 (by omega)]; exact (inv0b s hs).2.2.1
  · rw [e 43 0 s (by omega)]; exact (inv0b s hs).2.2.2
  · rw [e 31 0 _ (by omega), e 25 0 _ (by omega)]; exact inv0c k hk
  · rw [e 36 0 _ (by omega)]; exact inv0d k hk
  · rw [e 46 0 _ (by omega)]; exact inv0e.1
  · rw [e 46 0 _ (by omega)]; exact inv0e.2.1
  · rw [e 46 0 _ (by omega)]; exact inv0e.2.2.1
  · rw [e 46 0 _ (by omega)]; exact inv0e.2.2.2.1
  · rw [e 46 0 _ (by omega)]; exact inv0e.2.2.2.2.1
  · rw [e 46 0 _ (by omega)]; exact inv0e.2.2.2.2.2
  · rfl
  · rfl
