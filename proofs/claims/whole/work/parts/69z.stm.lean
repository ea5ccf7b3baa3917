/-! THE TAPE: statements -/
theorem words_at : ∀ k, k < 5 → ∀ j, j < 6 → wordsL.getD (6 * k + j) 0 = (if j < slen k then chW k j else 0) ∧ (j < slen k → 97 ≤ chW k j) := by decide +kernel
theorem word_un : ∀ j, j < 5 → ∀ k, k < 5 → slen j = slen k → chW j 0 = chW k 0 → j = k := by decide +kernel
theorem isW_un {T : Nat → Nat} {j k s e : Nat} (hj : j < 5) (hk : k < 5) (h1 : isW T j s e) (h2 : isW T k s e) : j = k := by
  have l1 := (slen_le j hj).2
  have l2 := (slen_le k hk).2
  refine word_un j hj k hk (h1.1.symm.trans h2.1) ?_
  rw [← h1.2.2 0 (by omega), ← h2.2.2 0 (by omega)]
theorem wmatch {T : Nat → Nat} {k s e : Nat} (hk : k < 5) (hse : s ≤ e) (hl : ∀ q, s ≤ q → q < e → isLt (T q) = true) : (e - s ≤ 6 ∧ ∀ j, j < 6 → (if s + j < e then T (s + j) else 0) = wordsL.getD (6 * k + j) 0) ↔ isW T k s e := by
  obtain ⟨sl, sl4⟩ := slen_le k hk
  have lt : ∀ q, s ≤ q → q < e → 97 ≤ T q := fun q h1 h2 => (of_decide_eq_true (hl q h1 h2)).1
  constructor
  · rintro ⟨h1, h2⟩
    have lo : slen k ≤ e - s := Nat.le_of_not_lt (fun w => by
      have := h2 (e - s) (by omega)
      obtain ⟨w1, w2⟩ := words_at k hk (e - s) (by omega)
      rw [if_neg (by omega), w1, if_pos (by omega)] at this
      have := w2 (by omega)
      omega)
    have hi : e - s ≤ slen k := Nat.le_of_not_lt (fun w => by
      have := h2 (slen k) (by omega)
      obtain ⟨w1, w2⟩ := words_at k hk (slen k) (by omega)
      rw [if_pos (by omega), w1, if_neg (by omega)] at this
      have := lt (s + slen k) (by omega) (by omega)
      omega)
    refine ⟨by omega, hse, fun j hj => ?_⟩
    have := h2 j (by omega)
    rw [if_pos (by omega), (words_at k hk j (by omega)).1, if_pos hj] at this
    exact this
  · rintro ⟨h1, h2, h3⟩
    refine ⟨by omega, fun j hj => ?_⟩
    rw [(words_at k hk j hj).1]
    by_cases q : j < slen k
    · rw [if_pos (by omega), if_pos q]; exact h3 j q
    · rw [if_neg (by omega), if_neg q]
theorem mwordIn {d n k s e S : Nat} (x1 : Int32) {T : Nat → Nat} (hk : k < 5) (hn : n ≤ 250) (hT : ∀ k, k < n → T k < 256) (hS : S < 10) (hse : s ≤ e) (hen : e ≤ n + 1) (hS1 : S = 1 → e ≤ n ∧ ∀ q, s ≤ q → q < e → isLt (T q) = true) {V : Mem} (ht : TPm T n V) (h7 : V.1 30 0 7 = nI e) (h8 : V.1 30 0 8 = nI s) (h9 : V.1 30 0 9 = nI S) : ∃ b : Bool, (b = true ↔ S = 1 ∧ isW T k s e) ∧ sem d 158 4 [some (.inr (.inr (30, 0))), some (.inl x1), some (.inl (nI k)), none, none] [] V = sem d 158 4 [some (.inr (.inr (30, 0))), some (.inl (if b = true then nI k else x1)), some (.inl (nI (k + 1))), none, none] [] V := by
  have st := e_M_word_4 d x1 (nI k) V
  rw [if_pos (show nI k < 5 from nI_lt (b := 5) hk (by omega)), h9, h7, h8, pk_sub hse] at st
  have out : ∀ (b : Bool) (x4 : Int32), sem d 158 108 [some (.inr (.inr (30, 0))), some (.inl x1), some (.inl (nI k)), some (.inl (bI (b = true))), some (.inl x4)] [] V = sem d 158 4 [some (.inr (.inr (30, 0))), some (.inl (if b = true then nI k else x1)), some (.inl (nI (k + 1))), none, none] [] V := fun b x4 => by
    rw [e_M_word_108]
    cases b with
    | true => rw [bI_t rfl, if_neg one_ne, e_M_word_117, nI_1]; rfl
    | false => rw [bI_f (by simp), if_pos rfl, e_M_word_117, nI_1]; rfl
  have no : sem d 158 35 [some (.inr (.inr (30, 0))), some (.inl x1), some (.inl (nI k)), none, none] [] V = sem d 158 4 [some (.inr (.inr (30, 0))), some (.inl (if false = true then nI k else x1)), some (.inl (nI (k + 1))), none, none] [] V := by
    rw [e_M_word_35, e_M_word_36, e_M_word_40, if_pos (by decide), if_pos rfl]
    exact out false 0
  by_cases s1 : S = 1
  · obtain ⟨en, hl⟩ := hS1 s1
    rw [if_pos (by rw [s1]; rfl)] at st
    by_cases l6 : 6 < e - s
    · rw [if_pos (show 6 < nI (e - s) from nI_lt (a := 6) l6 (by omega))] at st
      exact ⟨false, ⟨fun w => absurd w (by simp), fun w => by have := w.2.1; have := (slen_le k hk).1; omega⟩, st.trans no⟩
    · rw [if_neg (show ¬ 6 < nI (e - s) from nI_nlt (a := 6) (by omega) (by omega)), e_M_word_36] at st
      have main : ∀ m j, j + m = 6 → (∀ q, q < j → (if s + q < e then T (s + q) else 0) = wordsL.getD (6 * k + q) 0) → ∃ b : Bool, (b = true ↔ ∀ q, q < 6 → (if s + q < e then T (s + q) else 0) = wordsL.getD (6 * k + q) 0) ∧ sem d 158 40 [some (.inr (.inr (30, 0))), some (.inl x1), some (.inl (nI k)), some (.inl 1), some (.inl (nI j))] [] V = sem d 158 4 [some (.inr (.inr (30, 0))), some (.inl (if b = true then nI k else x1)), some (.inl (nI (k + 1))), none, none] [] V := by
        intro m
        induction m with
        | zero =>
          intro j hj hq
          obtain rfl : j = 6 := by omega
          refine ⟨true, ⟨fun _ => hq, fun _ => rfl⟩, ?_⟩
          rw [e_M_word_40, if_neg (by decide)]
          exact out true _
        | succ m ih =>
          intro j hj hq
          have ix : (6 * nI k + nI j : Int32) = nI (6 * k + j) := by simp only [fa_lit, pk_mul, nI_add]
          have wb := words_at k hk j (by omega)
          have wl : wordsL.getD (6 * k + j) 0 < 256 := by
            rw [wb.1]
            split
            · exact (schr_nat k hk j (by omega)).2
            · omega
          have tl : (if s + j < e then T (s + j) else 0) < 256 := by
            split
            · exact hT _ (by omega)
            · omega
          have sq := e_M_word_40 d x1 (nI k) 1 (nI j) V
          rw [if_pos (show nI j < 6 from nI_lt (b := 6) (by omega) (by omega)), if_neg one_ne, h8, h7, nI_add] at sq
          have s81 : sem d 158 40 [some (.inr (.inr (30, 0))), some (.inl x1), some (.inl (nI k)), some (.inl 1), some (.inl (nI j))] [] V = sem d 158 81 [some (.inr (.inr (30, 0))), some (.inl x1), some (.inl (nI k)), some (.inl 1), some (.inl (nI j))] [.inl (nI (if s + j < e then T (s + j) else 0))] V := by
            rw [sq]
            by_cases l : s + j < e
            · rw [if_pos (nI_lt l (by omega)), if_neg (nI_in (N := 250) (by omega) (by omega)), nI_clamp (by omega), ht.2.1 _ (by omega), if_pos l]
            · rw [if_neg (nI_nlt (by omega) (by omega)), if_neg l]; rfl
          have i6 := ht.2.2 (6 * k + j) (by omega)
          have e81 := e_M_word_81 d x1 (nI k) 1 (nI j) (nI (if s + j < e then T (s + j) else 0)) V
          rw [ix, if_neg (nI_in (N := 30) (by omega) (by omega)), nI_clamp (by omega), i6] at e81
          by_cases m1 : (if s + j < e then T (s + j) else 0) = wordsL.getD (6 * k + j) 0
          · rw [if_pos (show nI (if s + j < e then T (s + j) else 0) = nI (wordsL.getD (6 * k + j) 0) by rw [m1]), e_M_word_101, nI_1] at e81
            obtain ⟨b, b1, b2⟩ := ih (j + 1) (by omega) (fun q h => by
              by_cases z : q = j
              · subst z; exact m1
              · exact hq q (by omega))
            exact ⟨b, b1, s81.trans (e81.trans b2)⟩
          · rw [if_neg (fun w => m1 ((nI_eq (by omega) (by omega)).mp w)), e_M_word_101, nI_1] at e81
            refine ⟨false, ⟨fun w => absurd w (by simp), fun w => absurd (w j (by omega)) m1⟩, s81.trans (e81.trans ?_)⟩
            rw [e_M_word_40, if_pos rfl]
            by_cases z : nI (j + 1) < 6
            · rw [if_pos z]; exact out false _
            · rw [if_neg z]; exact out false _
      obtain ⟨b, b1, b2⟩ := main 6 0 (by omega) (fun q h => by omega)
      refine ⟨b, b1.trans ?_, st.trans b2⟩
      rw [← wmatch hk hse hl]
      exact ⟨fun w => ⟨s1, by omega, w⟩, fun w => w.2.2⟩
  · rw [if_neg (show ¬ nI S = 1 from fun w => s1 ((nI_eq (b := 1) (by omega) (by omega)).mp w))] at st
    exact ⟨false, ⟨fun w => absurd w (by simp), fun w => absurd w.1 s1⟩, st.trans no⟩
/-- which word it is; 5 for none -/
def kw (T : Nat → Nat) (n s k0 : Nat) : Prop := k0 ≤ 5 ∧ ∀ k, k < 5 → (k = k0 ↔ isW T k s (sc isLt T n s))
theorem kw_ex (T : Nat → Nat) (n s : Nat) : ∃ k0, kw T n s k0 := by
  by_cases h : ∃ k, k < 5 ∧ isW T k s (sc isLt T n s)
  · obtain ⟨k, h1, h2⟩ := h
    exact ⟨k, by omega, fun j hj => ⟨fun e => e ▸ h2, fun w => isW_un hj h1 w h2⟩⟩
  · exact ⟨5, Nat.le_refl _, fun j hj => ⟨fun e => by omega, fun w => absurd ⟨j, hj, w⟩ h⟩⟩
theorem kw_lt {T : Nat → Nat} {n s k0 : Nat} (h : kw T n s k0) (hk : k0 < 5) (hs : s ≤ n) : srt T n s = 1 ∧ s < sc isLt T n s := by
  have w := (h.2 k0 hk).mp rfl
  have l := (slen_le k0 hk).2
  obtain ⟨h1, h2, h3, h4⟩ := sc_p (P := isLt) (T := T) (n := n) (n - s) s rfl hs
  have lt : s < sc isLt T n s := by have := w.1; omega
  exact ⟨srt_1.mpr ⟨by omega, h3 s (Nat.le_refl _) lt⟩, lt⟩
theorem c_M_word {d n s k0 : Nat} {T : Nat → Nat} (hn : n ≤ 250) (hT : ∀ k, k < n → T k < 256) (hs : s ≤ n) (hk : kw T n s k0) {V : Mem} (ht : TPm T n V) (h7 : V.1 30 0 7 = nI (tE T n s)) (h8 : V.1 30 0 8 = nI s) (h9 : V.1 30 0 9 = nI (srt T n s)) : clI (d + 1) m_M_word [.inr (.inr (30, 0))] V = some (if k0 = 5 then -1 else nI k0, V) := by
  have sl := srt_le T n s
  obtain ⟨q1, q2, q3, q4⟩ := sc_p (P := isLt) (T := T) (n := n) (n - s) s rfl hs
  obtain ⟨r1, r2, r3, r4⟩ := sc_p (P := isDg) (T := T) (n := n) (n - s) s rfl hs
  have te : s ≤ tE T n s ∧ tE T n s ≤ n + 1 := by
    unfold tE
    refine ⟨?_, ?_⟩
    · repeat' split
      all_goals omega
    · repeat' split
      all_goals omega
  have te1 : srt T n s = 1 → tE T n s = sc isLt T n s := fun w => by unfold tE; rw [if_neg (by omega), if_pos w]
  have main : ∀ m k (x : Int32), k + m = 5 → x = (if k0 < k then nI k0 else -1) → sem d 158 4 [some (.inr (.inr (30, 0))), some (.inl x), some (.inl (nI k)), none, none] [] V = some (some (.inl (if k0 = 5 then -1 else nI k0)), V) := by
    intro m
    induction m with
    | zero =>
      intro k x hk2 hx
      obtain rfl : k = 5 := by omega
      rw [e_M_word_4, if_neg (by decide), hx]
      have := hk.1
      by_cases e : k0 = 5
      · rw [if_pos e, if_neg (by omega)]
      · rw [if_neg e, if_pos (by omega)]
    | succ m ih =>
      intro k x hk2 hx
      obtain ⟨b, b1, b2⟩ := mwordIn (d := d) (k := k) (s := s) (e := tE T n s) (S := srt T n s) x (by omega) hn hT (by omega) te.1 te.2 (fun w => by rw [te1 w]; exact ⟨q2, q3⟩) ht h7 h8 h9
      rw [b2]
      refine ih (k + 1) _ (by omega) ?_
      have bk : b = true ↔ k = k0 := b1.trans ⟨fun w => by
        have w2 := w.2
        rw [te1 w.1] at w2
        exact (hk.2 k (by omega)).mpr w2, fun w => by
        have ls := kw_lt hk (by omega) hs
        exact ⟨ls.1, by rw [te1 ls.1]; exact (hk.2 k (by omega)).mp w⟩⟩
      by_cases e : b = true
      · have := bk.mp e
        rw [if_pos e, if_pos (by omega), this]
      · rw [if_neg e, hx]
        have : ¬ k = k0 := fun w => e (bk.mpr w)
        by_cases l : k0 < k
        · rw [if_pos l, if_pos (by omega)]
        · rw [if_neg l, if_neg (by omega)]
  refine clI_of ((e_M_word_0 d V).trans (main 5 0 (-1) (by omega) ?_))
  rw [if_neg (by omega)]
def setCl (K : SKY) (v : Nat) : SKY := ((kNP K, kNX K, v, kSd K), K.2)
theorem setCl_ok {K : SKY} (h : okK K) {v : Nat} (hv : v ≤ 12) : okK (setCl K v) := ⟨h.1, h.2.1, hv, h.2.2.2⟩
theorem CS.cl {s : Nat} {V : Mem} {K : SKY} (h : CS V s K) (v : Nat) : CS (mset V.1 1 s 5 (nI v), V.2) s (setCl K v) := by
  obtain ⟨⟨h1, h2, h3, h4⟩, h5, h6⟩ := h
  refine ⟨⟨?_, ?_, ?_, ?_⟩, fun p hp => ?_, fun x hx => ?_⟩
  · simp (disch := omega) only [mset_n]; exact h1
  · simp (disch := omega) only [mset_n]; exact h2
  · simp (disch := omega) only [mset_h]; rfl
  · simp (disch := omega) only [mset_n]; exact h4
  · simp (disch := omega) only [mset_n]; exact h5 p hp
  · obtain ⟨g1, g2, g3, g4, g5⟩ := h6 x hx
    refine ⟨?_, ?_, ?_, ?_, fun i hi => ⟨?_, ?_⟩⟩
    · simp (disch := omega) only [mset_n]; exact g1
    · simp (disch := omega) only [mset_n]; exact g2
    · simp (disch := omega) only [mset_n]; exact g3
    · simp (disch := omega) only [mset_n]; exact g4
    · simp (disch := omega) only [mset_n]; exact (g5 i hi).1
    · simp (disch := omega) only [mset_n]; exact (g5 i hi).2
theorem MS.setCl {V : Mem} {K : SKY} (h : MS V 32 0 K) (ok : okL K) (v : Nat) : MS (mset V.1 32 0 176 (nI v), V.2) 32 0 (setCl K v) := by
  have hP := ok.1
  have hX := ok.2.1
  obtain ⟨⟨h1, h2, h3, h4⟩, h5, h6⟩ := h
  refine ⟨⟨?_, ?_, ?_, ?_⟩, fun p hp => ?_, fun x hx => ?_⟩
  · simp (disch := omega) only [mset_n]; exact h1
  · simp (disch := omega) only [mset_n]; exact h2
  · simp (disch := omega) only [mset_h]; rfl
  · simp (disch := omega) only [mset_n]; exact h4
  · have hp' : p < kNP K := hp
    obtain ⟨g1, g2, g3⟩ := h5 p hp
    refine ⟨?_, ?_, ?_⟩
    · simp (disch := omega) only [mset_n]; exact g1
    · simp (disch := omega) only [mset_n]; exact g2
    · simp (disch := omega) only [mset_n]; exact g3
  · have hx' : x < kNX K := hx
    have hl := ok.2.2 x hx'
    obtain ⟨⟨g1, g2, g3⟩, g4⟩ := h6 x hx
    refine ⟨⟨?_, ?_, ?_⟩, fun i hi => ?_⟩
    · simp (disch := omega) only [mset_n]; exact g1
    · simp (disch := omega) only [mset_n]; exact g2
    · simp (disch := omega) only [mset_n]; exact g3
    · have hi' : i < kLn K x := hi
      refine ⟨?_, ?_⟩
      · simp (disch := omega) only [mset_n]; exact (g4 i hi).1
      · simp (disch := omega) only [mset_n]; exact (g4 i hi).2
theorem rng {v : Int32} {l h : Nat} (hh : h < 2 ^ 30) (hl : l < 2 ^ 30) (h1 : ¬ v < nI l) (h2 : ¬ nI h < v) : ∃ x, l ≤ x ∧ x ≤ h ∧ v = nI x := by
  rw [lt_toInt, nI_toInt (by omega)] at h1 h2
  rcases ix_or v (n := h + 1) (by omega) with w | ⟨x, hx, rfl⟩
  · exact absurd (show inR (h + 1) v from ⟨fun z => by rw [lt_toInt] at z; have : (0 : Int32).toInt = 0 := by decide
                                                       omega, by rw [lt_toInt, nI_toInt (by omega)]; omega⟩) w
  · rw [nI_toInt (by omega)] at h1
    exact ⟨x, by omega, by omega, rfl⟩
theorem rngM {v : Int32} {m : Nat} (hm : m < 2 ^ 30) (h1 : ¬ v < 0) (h2 : ¬ nI m - 1 < v) : ∃ x, x < m ∧ v = nI x := by
  cases m with
  | zero =>
    rw [lt_toInt] at h1 h2
    have e1 : (nI 0 - 1 : Int32).toInt = -1 := by decide
    have e0 : (0 : Int32).toInt = 0 := by decide
    omega
  | succ m =>
    rw [nI_pred] at h2
    obtain ⟨x, _, x2, x3⟩ := rng (l := 0) (h := m) (by omega) (by omega) h1 h2
    exact ⟨x, by omega, x3⟩
