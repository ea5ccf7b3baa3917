/-! shift -/
theorem CS.p0 {V : Mem} {K : SKY} (h : CS V 0 K) {x : Nat} (hx : x < kNX K) : CPar V x (kKi K x) (kA K x) (bm (kNP K) (kW K x)) (kLn K x) (kF K x) (kG K x) := by
  have := h.2.2 x hx
  rw [show x + 6 * 0 = x by omega] at this
  exact this
abbrev fal (K : SKY) (a b a' b' p q : Nat) : Prop := kCe K p / 10 + a = kCe K q / 10 + b ∧ kCe K p % 10 + a' = kCe K q % 10 + b'
theorem sh_eq {p q a b : Nat} (hp : p < 1000) (hq : q < 1000) (ha : a < 1000) (hb : b < 1000) : (nI p + (nI a - nI b) = nI q) ↔ p + a = q + b := by
  have e : nI p + (nI a - nI b) = nI (p + a) - nI b := by
    rw [← nI_add, Int32.sub_eq_add_neg, Int32.sub_eq_add_neg, Int32.add_assoc]
  rw [e]
  have t := pk_sub_toInt (a := p + a) (b := b) (by omega) (by omega)
  constructor
  · intro w
    have := congrArg Int32.toInt w
    rw [t, nI_toInt (by omega)] at this
    omega
  · intro w
    apply Int32.toInt_inj.mp
    rw [t, nI_toInt (by omega)]
    omega
theorem c_falls {d a b a' b' p q : Nat} (ha : a < 100) (hb : b < 100) (ha' : a' < 100) (hb' : b' < 100) {V : Mem} {K : SKY} (h : CS V 0 K) (ok : okK K) (hp : p < kNP K) (hq : q < kNP K) : clI (d + 2) m_Shift_falls [.inr (.inr (1, 0)), .inl (nI p), .inl (nI q), .inl (nI a - nI b), .inl (nI a' - nI b')] V = some (bI (fal K a b a' b' p q), V) := by
  have c1 := (ok.2.2.2.1 p hp).1
  have c2 := (ok.2.2.2.1 q hq).1
  refine clI_of ((e_Shift_falls_0 (d + 1) 0 _ _ _ _ V).trans ?_)
  rw [c_rowOf h ok hp, bind_some', c_rowOf h ok hq, bind_some']
  by_cases e1 : kCe K p / 10 + a = kCe K q / 10 + b
  · rw [if_pos ((sh_eq (by omega) (by omega) (by omega) (by omega)).mpr e1), c_columnOf h ok hp, bind_some', c_columnOf h ok hq, bind_some']
    by_cases e2 : kCe K p % 10 + a' = kCe K q % 10 + b'
    · rw [if_pos ((sh_eq (by omega) (by omega) (by omega) (by omega)).mpr e2), bI_t ⟨e1, e2⟩]
    · rw [if_neg (fun w => e2 ((sh_eq (by omega) (by omega) (by omega) (by omega)).mp w)), bI_f (fun w => e2 w.2)]
  · rw [if_neg (fun w => e1 ((sh_eq (by omega) (by omega) (by omega) (by omega)).mp w)), bI_f (fun w => e1 w.1)]
theorem c_M_cellK {d p : Nat} {V : Mem} {K : SKY} (h : MS V 32 0 K) (ok : okK K) (hp : p < kNP K) : clI (d + 1) m_M_cell [.inr (.inr (30, 0)), .inl (nI p)] V = some (nI (kCe K p), V) := by
  have hP := ok.1
  have a1 := (h.2.1 p hp).1
  rw [Nat.zero_add] at a1
  rw [c_M_cell d (by omega), a1]
theorem c_M_isShifted {d a b a' b' p q : Nat} (ha : a < 100) (hb : b < 100) (ha' : a' < 100) (hb' : b' < 100) {V : Mem} {K : SKY} (h : MS V 32 0 K) (ok : okK K) (hp : p < kNP K) (hq : q < kNP K) : clI (d + 2) m_M_isShifted [.inr (.inr (30, 0)), .inl (nI p), .inl (nI a - nI b), .inl (nI a' - nI b'), .inl (nI q)] V = some (bI (fal K a b a' b' p q), V) := by
  have c1 := (ok.2.2.2.1 p hp).1
  have c2 := (ok.2.2.2.1 q hq).1
  refine clI_of ((e_M_isShifted_0 (d + 1) _ _ _ _ V).trans ?_)
  rw [c_M_cellK h ok hp, bind_some', c_M_cellK h ok hq, bind_some', show (10 : Int32) = nI 10 from rfl, pk_div (by omega) (by omega) (by omega), pk_div (by omega) (by omega) (by omega)]
  by_cases e1 : kCe K p / 10 + a = kCe K q / 10 + b
  · rw [if_pos ((sh_eq (by omega) (by omega) (by omega) (by omega)).mpr e1), c_M_cellK h ok hp, bind_some', c_M_cellK h ok hq, bind_some', pk_rem (by omega) (by omega) (by omega), pk_rem (by omega) (by omega) (by omega)]
    by_cases e2 : kCe K p % 10 + a' = kCe K q % 10 + b'
    · rw [if_pos ((sh_eq (by omega) (by omega) (by omega) (by omega)).mpr e2), bI_t ⟨e1, e2⟩]
    · rw [if_neg (fun w => e2 ((sh_eq (by omega) (by omega) (by omega) (by omega)).mp w)), bI_f (fun w => e2 w.2)]
  · rw [if_neg (fun w => e1 ((sh_eq (by omega) (by omega) (by omega) (by omega)).mp w)), bI_f (fun w => e1 w.1)]
abbrev hit (K : SKY) (a b a' b' x y j k : Nat) : Prop := (fal K a b a' b' (kF K x j) (kF K y k) ∧ fal K a b a' b' (kG K x j) (kG K y k)) ∨ (fal K a b a' b' (kF K x j) (kG K y k) ∧ fal K a b a' b' (kG K x j) (kF K y k))
def fbB (K : SKY) (a b a' b' x y j : Nat) : Nat → Bool
  | 0 => false
  | k + 1 => fbB K a b a' b' x y j k || decide (hit K a b a' b' x y j k)
def abB (K : SKY) (a b a' b' x y : Nat) : Nat → Bool
  | 0 => true
  | j + 1 => abB K a b a' b' x y j && fbB K a b a' b' x y j (kLn K y)
theorem fbB_mono {K : SKY} {a b a' b' x y j k n : Nat} (h : fbB K a b a' b' x y j k = true) (hn : k ≤ n) : fbB K a b a' b' x y j n = true := by
  induction n with
  | zero => rw [show k = 0 by omega] at h; exact h
  | succ n ih =>
    by_cases e : k = n + 1
    · rw [← e]; exact h
    · show (fbB K a b a' b' x y j n || _) = true
      rw [ih (by omega)]; rfl
theorem abB_mono {K : SKY} {a b a' b' x y j n : Nat} (h : abB K a b a' b' x y n = true) (hn : j ≤ n) : abB K a b a' b' x y j = true := by
  induction n with
  | zero => rw [show j = 0 by omega]; rfl
  | succ n ih =>
    have h' : (abB K a b a' b' x y n && fbB K a b a' b' x y n (kLn K y)) = true := h
    rw [Bool.and_eq_true] at h'
    by_cases e : j = n + 1
    · rw [e]; exact h
    · exact ih h'.1 (by omega)
theorem fbB_ex {K : SKY} {a b a' b' x y j : Nat} : ∀ n, fbB K a b a' b' x y j n = true → ∃ k, k < n ∧ hit K a b a' b' x y j k := by
  intro n
  induction n with
  | zero => intro h; exact absurd h (by simp [fbB])
  | succ n ih =>
    intro h
    have h' : (fbB K a b a' b' x y j n || decide (hit K a b a' b' x y j n)) = true := h
    rw [Bool.or_eq_true] at h'
    rcases h' with h' | h'
    · obtain ⟨k, h1, h2⟩ := ih h'; exact ⟨k, by omega, h2⟩
    · exact ⟨n, by omega, of_decide_eq_true h'⟩
theorem abB_all {K : SKY} {a b a' b' x y : Nat} : ∀ n, abB K a b a' b' x y n = true → ∀ j, j < n → ∃ k, k < kLn K y ∧ hit K a b a' b' x y j k := by
  intro n
  induction n with
  | zero => intro _ j hj; omega
  | succ n ih =>
    intro h j hj
    have h' : (abB K a b a' b' x y n && fbB K a b a' b' x y n (kLn K y)) = true := h
    rw [Bool.and_eq_true] at h'
    by_cases e : j = n
    · subst e; exact fbB_ex _ h'.2
    · exact ih h'.1 j (by omega)
theorem c_isWithin {d a b a' b' x y : Nat} (ha : a < 100) (hb : b < 100) (ha' : a' < 100) (hb' : b' < 100) {V : Mem} {K : SKY} (h : CS V 0 K) (ok : okK K) (hx : x < kNX K) (hy : y < kNX K) : clI (d + 3) m_Shift_isWithin [.inr (.inr (1, 0)), .inr (.inr (5, x)), .inr (.inr (5, y)), .inl (nI a - nI b), .inl (nI a' - nI b')] V = some (bI (abB K a b a' b' x y (kLn K x) = true), V) := by
  have px := h.p0 hx
  have py := h.p0 hy
  have lx := ok.toL.2.2 x hx
  have ly := ok.toL.2.2 y hy
  have inner : ∀ j, j < kLn K x → ∀ m k, k + m = kLn K y → sem (d + 2) 40 36 [some (.inr (.inr (1, 0))), some (.inr (.inr (5, x))), some (.inr (.inr (5, y))), some (.inl (nI a - nI b)), some (.inl (nI a' - nI b')), some (.inl (nI j)), some (.inl (nI (kF K x j))), some (.inl (nI (kG K x j))), some (.inl (bI (fbB K a b a' b' x y j k = true))), some (.inl (nI k)), none, none] [] V = if fbB K a b a' b' x y j (kLn K y) = true then sem (d + 2) 40 3 [some (.inr (.inr (1, 0))), some (.inr (.inr (5, x))), some (.inr (.inr (5, y))), some (.inl (nI a - nI b)), some (.inl (nI a' - nI b')), some (.inl (nI (j + 1))), none, none, none, none, none, none] [] V else some (some (.inl 0), V) := by
    intro j hj m
    obtain ⟨jf, jg⟩ := ok.fn hx j hj
    induction m with
    | zero =>
      intro k hk
      obtain rfl : k = kLn K y := by omega
      rw [e_Shift_isWithin_36, py.2.2.2.1, if_neg (nI_nlt (Nat.le_refl _) (by omega)), e_Shift_isWithin_137, nI_1]
      by_cases e : fbB K a b a' b' x y j (kLn K y) = true
      · rw [bI_t e, if_neg one_ne, if_pos e]
      · rw [bI_f e, if_pos rfl, if_neg e]
    | succ m ih =>
      intro k hk
      obtain ⟨kf, kg⟩ := ok.fn hy k (by omega)
      rw [e_Shift_isWithin_36, py.2.2.2.1, if_pos (nI_lt (by omega) (by omega))]
      by_cases e : fbB K a b a' b' x y j k = true
      · rw [bI_t e, if_neg one_ne, e_Shift_isWithin_137, if_neg one_ne, nI_1, if_pos (fbB_mono e (by omega))]
      · have nx : fbB K a b a' b' x y j (k + 1) = decide (hit K a b a' b' x y j k) := by
          show (fbB K a b a' b' x y j k || _) = _
          rw [show fbB K a b a' b' x y j k = false by simpa using e]; rfl
        have ih' := ih (k + 1) (by omega)
        rw [nx] at ih'
        rw [bI_f e, if_pos rfl, if_neg (nI_in (N := 10) (by omega) (by omega)), if_neg (nI_in (N := 10) (by omega) (by omega)), nI_clamp (by omega), (py.2.2.2.2 k (by omega)).1, (py.2.2.2.2 k (by omega)).2, c_falls ha hb ha' hb' h ok jf kf, bind_some']
        have f96 : ¬ (fal K a b a' b' (kF K x j) (kF K y k) ∧ fal K a b a' b' (kG K x j) (kG K y k)) → ∀ V', V' = V → sem (d + 2) 40 96 [some (.inr (.inr (1, 0))), some (.inr (.inr (5, x))), some (.inr (.inr (5, y))), some (.inl (nI a - nI b)), some (.inl (nI a' - nI b')), some (.inl (nI j)), some (.inl (nI (kF K x j))), some (.inl (nI (kG K x j))), some (.inl 0), some (.inl (nI k)), some (.inl (nI (kF K y k))), some (.inl (nI (kG K y k)))] [] V' = if fbB K a b a' b' x y j (kLn K y) = true then sem (d + 2) 40 3 [some (.inr (.inr (1, 0))), some (.inr (.inr (5, x))), some (.inr (.inr (5, y))), some (.inl (nI a - nI b)), some (.inl (nI a' - nI b')), some (.inl (nI (j + 1))), none, none, none, none, none, none] [] V else some (some (.inl 0), V) := by
          rintro n1 V' rfl
          rw [e_Shift_isWithin_96, c_falls ha hb ha' hb' h ok jf kg, bind_some']
          by_cases e3 : fal K a b a' b' (kF K x j) (kG K y k)
          · rw [bI_t e3, if_neg one_ne, c_falls ha hb ha' hb' h ok jg kf, bind_some']
            by_cases e4 : fal K a b a' b' (kG K x j) (kF K y k)
            · rw [bI_t e4, if_neg one_ne, e_Shift_isWithin_124, e_Shift_isWithin_129, nI_1]
              rw [decide_eq_true (show hit K a b a' b' x y j k from Or.inr ⟨e3, e4⟩), bI_t rfl] at ih'
              exact ih'
            · rw [bI_f e4, if_pos rfl, e_Shift_isWithin_128, e_Shift_isWithin_129, nI_1]
              rw [decide_eq_false (show ¬ hit K a b a' b' x y j k from fun w => w.elim n1 (fun w => e4 w.2)), bI_f (by simp)] at ih'
              exact ih'
          · rw [bI_f e3, if_pos rfl, e_Shift_isWithin_128, e_Shift_isWithin_129, nI_1]
            rw [decide_eq_false (show ¬ hit K a b a' b' x y j k from fun w => w.elim n1 (fun w => e3 w.1)), bI_f (by simp)] at ih'
            exact ih'
        by_cases e1 : fal K a b a' b' (kF K x j) (kF K y k)
        · rw [bI_t e1, if_neg one_ne, c_falls ha hb ha' hb' h ok jg kg, bind_some']
          by_cases e2 : fal K a b a' b' (kG K x j) (kG K y k)
          · rw [bI_t e2, if_neg one_ne, e_Shift_isWithin_124, e_Shift_isWithin_129, nI_1]
            rw [decide_eq_true (show hit K a b a' b' x y j k from Or.inl ⟨e1, e2⟩), bI_t rfl] at ih'
            exact ih'
          · rw [bI_f e2, if_pos rfl]
            exact f96 (fun w => e2 w.2) _ rfl
        · rw [bI_f e1, if_pos rfl]
          exact f96 (fun w => e1 w.1) _ rfl
  have outer : ∀ m j, j + m = kLn K x → abB K a b a' b' x y j = true → sem (d + 2) 40 3 [some (.inr (.inr (1, 0))), some (.inr (.inr (5, x))), some (.inr (.inr (5, y))), some (.inl (nI a - nI b)), some (.inl (nI a' - nI b')), some (.inl (nI j)), none, none, none, none, none, none] [] V = some (some (.inl (bI (abB K a b a' b' x y (kLn K x) = true))), V) := by
    intro m
    induction m with
    | zero =>
      intro j hj ha
      obtain rfl : j = kLn K x := by omega
      rw [e_Shift_isWithin_3, px.2.2.2.1, if_neg (nI_nlt (Nat.le_refl _) (by omega)), bI_t ha]
    | succ m ih =>
      intro j hj ha
      rw [e_Shift_isWithin_3, px.2.2.2.1, if_pos (nI_lt (by omega) (by omega)), if_neg (nI_in (N := 10) (by omega) (by omega)), if_neg (nI_in (N := 10) (by omega) (by omega)), nI_clamp (by omega), (px.2.2.2.2 j (by omega)).1, (px.2.2.2.2 j (by omega)).2]
      refine Eq.trans (inner j (by omega) (kLn K y) 0 (by omega)) ?_
      by_cases e : fbB K a b a' b' x y j (kLn K y) = true
      · rw [if_pos e]
        exact ih (j + 1) (by omega) (show (abB K a b a' b' x y j && fbB K a b a' b' x y j (kLn K y)) = true by rw [ha, e]; rfl)
      · rw [if_neg e, bI_f]
        intro w
        have w2 : (abB K a b a' b' x y j && fbB K a b a' b' x y j (kLn K y)) = true := abB_mono (j := j + 1) w (by omega)
        rw [Bool.and_eq_true] at w2
        exact e w2.2
  exact clI_of ((e_Shift_isWithin_0 (d + 2) 0 x y _ _ V).trans (outer (kLn K x) 0 (by omega) rfl))
theorem c_M_isAmong {d a b a' b' x y : Nat} (ha : a < 100) (hb : b < 100) (ha' : a' < 100) (hb' : b' < 100) {V : Mem} {K : SKY} (h : MS V 32 0 K) (ok : okK K) (hx : x < kNX K) (hy : y < kNX K) : clI (d + 3) m_M_isAmong [.inr (.inr (30, 0)), .inl (nI x), .inl (nI a - nI b), .inl (nI a' - nI b'), .inl (nI y)] V = some (bI (abB K a b a' b' x y (kLn K x) = true), V) := by
  have lx := ok.toL.2.2 x hx
  have ly := ok.toL.2.2 y hy
  have turn : ∀ j, j < kLn K x → ∀ k, k < kLn K y → ∀ (z : Int32) (f : Bool), sem (d + 2) 181 36 [some (.inr (.inr (30, 0))), some (.inl (nI x)), some (.inl (nI a - nI b)), some (.inl (nI a' - nI b')), some (.inl (nI y)), some (.inl z), some (.inl (nI j)), some (.inl (bI (f = true))), some (.inl (nI k)), some (.inl 0)] [] V = sem (d + 2) 181 22 [some (.inr (.inr (30, 0))), some (.inl (nI x)), some (.inl (nI a - nI b)), some (.inl (nI a' - nI b')), some (.inl (nI y)), some (.inl z), some (.inl (nI j)), some (.inl (bI ((f || decide (hit K a b a' b' x y j k)) = true))), some (.inl (nI (k + 1))), none] [] V := by
    intro j hj k hk z f
    obtain ⟨jf, jg⟩ := ok.fn hx j hj
    obtain ⟨kf, kg⟩ := ok.fn hy k hk
    have t0 : sem (d + 2) 181 36 [some (.inr (.inr (30, 0))), some (.inl (nI x)), some (.inl (nI a - nI b)), some (.inl (nI a' - nI b')), some (.inl (nI y)), some (.inl z), some (.inl (nI j)), some (.inl (bI (f = true))), some (.inl (nI k)), some (.inl 0)] [] V = sem (d + 2) 181 36 [some (.inr (.inr (30, 0))), some (.inl (nI x)), some (.inl (nI a - nI b)), some (.inl (nI a' - nI b')), some (.inl (nI y)), some (.inl z), some (.inl (nI j)), some (.inl (bI ((f || decide (fal K a b a' b' (kF K x j) (kF K y k) ∧ fal K a b a' b' (kG K x j) (kG K y k))) = true))), some (.inl (nI k)), some (.inl 1)] [] V := by
      rw [e_M_isAmong_36, if_pos (by decide), show (1 : Int32) - 0 = 1 by decide]
      cases f with
      | true => rw [bI_t rfl, if_neg one_ne, e_M_isAmong_103, e_M_isAmong_108]; rfl
      | false =>
        rw [bI_f (by simp), if_pos rfl, c_M_end0 h ok.toL hx hj, bind_some', c_M_end0 h ok.toL hy hk, bind_some', c_M_isShifted ha hb ha' hb' h ok jf kf, bind_some', Bool.false_or]
        by_cases e1 : fal K a b a' b' (kF K x j) (kF K y k)
        · rw [bI_t e1, if_neg one_ne, c_M_end1 h ok.toL hx hj, bind_some', c_M_end1 h ok.toL hy hk, bind_some', c_M_isShifted ha hb ha' hb' h ok jg kg, bind_some']
          by_cases e2 : fal K a b a' b' (kG K x j) (kG K y k)
          · rw [bI_t e2, if_neg one_ne, e_M_isAmong_103, e_M_isAmong_108, decide_eq_true ⟨e1, e2⟩]; rfl
          · rw [bI_f e2, if_pos rfl, e_M_isAmong_107, e_M_isAmong_108, decide_eq_false (fun w => e2 w.2)]; rfl
        · rw [bI_f e1, if_pos rfl, e_M_isAmong_107, e_M_isAmong_108, decide_eq_false (fun w => e1 w.1)]; rfl
    have t1 : ∀ g : Bool, sem (d + 2) 181 36 [some (.inr (.inr (30, 0))), some (.inl (nI x)), some (.inl (nI a - nI b)), some (.inl (nI a' - nI b')), some (.inl (nI y)), some (.inl z), some (.inl (nI j)), some (.inl (bI (g = true))), some (.inl (nI k)), some (.inl 1)] [] V = sem (d + 2) 181 36 [some (.inr (.inr (30, 0))), some (.inl (nI x)), some (.inl (nI a - nI b)), some (.inl (nI a' - nI b')), some (.inl (nI y)), some (.inl z), some (.inl (nI j)), some (.inl (bI ((g || decide (fal K a b a' b' (kF K x j) (kG K y k) ∧ fal K a b a' b' (kG K x j) (kF K y k))) = true))), some (.inl (nI k)), some (.inl 2)] [] V := by
      intro g
      rw [e_M_isAmong_36, if_pos (by decide), show (1 : Int32) - 1 = 0 by decide]
      cases g with
      | true => rw [bI_t rfl, if_neg one_ne, e_M_isAmong_103, e_M_isAmong_108]; rfl
      | false =>
        rw [bI_f (by simp), if_pos rfl, c_M_end0 h ok.toL hx hj, bind_some', c_M_end1 h ok.toL hy hk, bind_some', c_M_isShifted ha hb ha' hb' h ok jf kg, bind_some', Bool.false_or]
        by_cases e1 : fal K a b a' b' (kF K x j) (kG K y k)
        · rw [bI_t e1, if_neg one_ne, c_M_end1 h ok.toL hx hj, bind_some', c_M_end0 h ok.toL hy hk, bind_some', c_M_isShifted ha hb ha' hb' h ok jg kf, bind_some']
          by_cases e2 : fal K a b a' b' (kG K x j) (kF K y k)
          · rw [bI_t e2, if_neg one_ne, e_M_isAmong_103, e_M_isAmong_108, decide_eq_true ⟨e1, e2⟩]; rfl
          · rw [bI_f e2, if_pos rfl, e_M_isAmong_107, e_M_isAmong_108, decide_eq_false (fun w => e2 w.2)]; rfl
        · rw [bI_f e1, if_pos rfl, e_M_isAmong_107, e_M_isAmong_108, decide_eq_false (fun w => e1 w.1)]; rfl
    rw [t0, t1, e_M_isAmong_36, if_neg (by decide), nI_1]
    have : (f || decide (fal K a b a' b' (kF K x j) (kF K y k) ∧ fal K a b a' b' (kG K x j) (kG K y k)) || decide (fal K a b a' b' (kF K x j) (kG K y k) ∧ fal K a b a' b' (kG K x j) (kF K y k))) = (f || decide (hit K a b a' b' x y j k)) := by
      rw [Bool.or_assoc, ← Bool.decide_or]
    rw [this]
  have mid : ∀ j, j < kLn K x → ∀ z : Bool, sem (d + 2) 181 22 [some (.inr (.inr (30, 0))), some (.inl (nI x)), some (.inl (nI a - nI b)), some (.inl (nI a' - nI b')), some (.inl (nI y)), some (.inl (bI (z = true))), some (.inl (nI j)), some (.inl 0), some (.inl 0), none] [] V = sem (d + 2) 181 6 [some (.inr (.inr (30, 0))), some (.inl (nI x)), some (.inl (nI a - nI b)), some (.inl (nI a' - nI b')), some (.inl (nI y)), some (.inl (bI ((z && fbB K a b a' b' x y j (kLn K y)) = true))), some (.inl (nI (j + 1))), none, none, none] [] V := by
    intro j hj z
    refine loopN (kLn K y) (fun k => sem (d + 2) 181 22 [some (.inr (.inr (30, 0))), some (.inl (nI x)), some (.inl (nI a - nI b)), some (.inl (nI a' - nI b')), some (.inl (nI y)), some (.inl (bI (z = true))), some (.inl (nI j)), some (.inl (bI (fbB K a b a' b' x y j k = true))), some (.inl (nI k)), none] [] V) _ (fun k hk => ?_) ?_
    · show sem _ _ _ _ _ _ = sem _ _ _ _ _ _
      rw [e_M_isAmong_22, c_M_ln h ok.toL hy, bind_some', if_pos (nI_lt hk (by omega))]
      exact turn j hj k hk _ _
    · show sem _ _ _ _ _ _ = _
      rw [e_M_isAmong_22, c_M_ln h ok.toL hy, bind_some', if_neg (nI_nlt (Nat.le_refl _) (by omega))]
      cases z with
      | false => rw [bI_f (by simp), if_pos rfl, e_M_isAmong_136, e_M_isAmong_137, nI_1, Bool.false_and]; rfl
      | true =>
        rw [bI_t rfl, if_neg one_ne, Bool.true_and]
        by_cases e : fbB K a b a' b' x y j (kLn K y) = true
        · rw [bI_t e, if_neg one_ne, e_M_isAmong_137, nI_1]
        · rw [bI_f e, if_pos rfl, e_M_isAmong_136, e_M_isAmong_137, nI_1]
  refine clI_of ((e_M_isAmong_0 (d + 2) _ _ _ _ V).trans ?_)
  refine loopN (kLn K x) (fun j => sem (d + 2) 181 6 [some (.inr (.inr (30, 0))), some (.inl (nI x)), some (.inl (nI a - nI b)), some (.inl (nI a' - nI b')), some (.inl (nI y)), some (.inl (bI (abB K a b a' b' x y j = true))), some (.inl (nI j)), none, none, none] [] V) _ (fun j hj => ?_) ?_
  · show sem _ _ _ _ _ _ = sem _ _ _ _ _ _
    rw [e_M_isAmong_6, c_M_ln h ok.toL hx, bind_some', if_pos (nI_lt hj (by omega))]
    exact mid j hj _
  · show sem _ _ _ _ _ _ = _
    rw [e_M_isAmong_6, c_M_ln h ok.toL hx, bind_some', if_neg (nI_nlt (Nat.le_refl _) (by omega)), if_pos (bI_01 _)]
def lst (ρ f g : Nat → Nat) : Nat → Nat
  | 0 => 10
  | n + 1 => min (min (lst ρ f g n) (ρ (f n))) (ρ (g n))
theorem lst_le {ρ f g : Nat → Nat} : ∀ n i, i < n → lst ρ f g n ≤ ρ (f i) ∧ lst ρ f g n ≤ ρ (g i) := by
  intro n
  induction n with
  | zero => intro i hi; omega
  | succ n ih =>
    intro i hi
    have e : lst ρ f g (n + 1) = min (min (lst ρ f g n) (ρ (f n))) (ρ (g n)) := rfl
    by_cases w : i = n
    · subst w; omega
    · have := ih i (by omega); omega
theorem lst_at {ρ f g : Nat → Nat} : ∀ n, (∀ i, i < n → ρ (f i) < 10) → 0 < n → ∃ i, i < n ∧ (lst ρ f g n = ρ (f i) ∨ lst ρ f g n = ρ (g i)) := by
  intro n
  induction n with
  | zero => intro _ h; omega
  | succ n ih =>
    intro hb _
    have e : lst ρ f g (n + 1) = min (min (lst ρ f g n) (ρ (f n))) (ρ (g n)) := rfl
    by_cases z : n = 0
    · subst z
      have : lst ρ f g 0 = 10 := rfl
      have := hb 0 (by omega)
      exact ⟨0, by omega, by omega⟩
    · obtain ⟨i, h1, h2⟩ := ih (fun i hi => hb i (by omega)) (by omega)
      by_cases q : lst ρ f g (n + 1) = lst ρ f g n
      · exact ⟨i, by omega, by omega⟩
      · exact ⟨n, by omega, by omega⟩
theorem lst_10 {ρ f g : Nat → Nat} : ∀ n, lst ρ f g n ≤ 10 := by
  intro n
  induction n with
  | zero => exact Nat.le_refl _
  | succ n ih =>
    have e : lst ρ f g (n + 1) = min (min (lst ρ f g n) (ρ (f n))) (ρ (g n)) := rfl
    omega
theorem lst_shift {ρ f g f' g' : Nat → Nat} {n m a b : Nat} (hb : ∀ i, i < n → ρ (f i) < 10) (h0 : 0 < n) (h : ∀ i, i < n → ∃ k, k < m ∧ ((ρ (f i) + a = ρ (f' k) + b ∧ ρ (g i) + a = ρ (g' k) + b) ∨ (ρ (f i) + a = ρ (g' k) + b ∧ ρ (g i) + a = ρ (f' k) + b))) : lst ρ f' g' m + b ≤ lst ρ f g n + a := by
  obtain ⟨i, h1, h2⟩ := lst_at (g := g) n hb h0
  obtain ⟨k, h3, h4⟩ := h i h1
  have := lst_le (ρ := ρ) (f := f') (g := g') m k h3
  omega
theorem c_leastRow {d x : Nat} {V : Mem} {K : SKY} (h : CS V 0 K) (ok : okK K) (hx : x < kNX K) : clI (d + 2) m_Shift_leastRow [.inr (.inr (1, 0)), .inr (.inr (5, x))] V = some (nI (lst (fun p => kCe K p / 10) (kF K x) (kG K x) (kLn K x)), V) := by
  have px := h.p0 hx
  have lx := ok.toL.2.2 x hx
  refine clI_of ((e_Shift_leastRow_0 (d + 1) 0 x V).trans ?_)
  refine loopN (kLn K x) (fun k => sem (d + 1) 38 5 [some (.inr (.inr (1, 0))), some (.inr (.inr (5, x))), some (.inl (nI (lst (fun p => kCe K p / 10) (kF K x) (kG K x) k))), some (.inl (nI k))] [] V) _ (fun k hk => ?_) ?_
  · obtain ⟨kf, kg⟩ := ok.fn hx k hk
    obtain ⟨c1, c2⟩ := ok.fc hx k hk
    have l := lst_10 (ρ := fun p => kCe K p / 10) (f := kF K x) (g := kG K x) k
    show sem _ _ _ _ _ _ = sem _ _ _ _ _ _
    rw [e_Shift_leastRow_5, px.2.2.2.1, if_pos (nI_lt hk (by omega)), if_neg (nI_in (N := 10) (by omega) (by omega)), nI_clamp (by omega), (px.2.2.2.2 k hk).1, c_rowOf h ok kf, bind_some', if_neg (nI_in' (N := 10) (by omega) (by omega)), (px.2.2.2.2 k hk).2, c_rowOf h ok kg, bind_some', imin_nat (by omega) (by omega), imin_nat (by omega) (by omega), nI_1]
    rfl
  · show sem _ _ _ _ _ _ = _
    rw [e_Shift_leastRow_5, px.2.2.2.1, if_neg (nI_nlt (Nat.le_refl _) (by omega))]
theorem c_leastColumn {d x : Nat} {V : Mem} {K : SKY} (h : CS V 0 K) (ok : okK K) (hx : x < kNX K) : clI (d + 2) m_Shift_leastColumn [.inr (.inr (1, 0)), .inr (.inr (5, x))] V = some (nI (lst (fun p => kCe K p % 10) (kF K x) (kG K x) (kLn K x)), V) := by
  have px := h.p0 hx
  have lx := ok.toL.2.2 x hx
  refine clI_of ((e_Shift_leastColumn_0 (d + 1) 0 x V).trans ?_)
  refine loopN (kLn K x) (fun k => sem (d + 1) 39 5 [some (.inr (.inr (1, 0))), some (.inr (.inr (5, x))), some (.inl (nI (lst (fun p => kCe K p % 10) (kF K x) (kG K x) k))), some (.inl (nI k))] [] V) _ (fun k hk => ?_) ?_
  · obtain ⟨kf, kg⟩ := ok.fn hx k hk
    obtain ⟨c1, c2⟩ := ok.fc hx k hk
    have l := lst_10 (ρ := fun p => kCe K p % 10) (f := kF K x) (g := kG K x) k
    show sem _ _ _ _ _ _ = sem _ _ _ _ _ _
    rw [e_Shift_leastColumn_5, px.2.2.2.1, if_pos (nI_lt hk (by omega)), if_neg (nI_in (N := 10) (by omega) (by omega)), nI_clamp (by omega), (px.2.2.2.2 k hk).1, c_columnOf h ok kf, bind_some', if_neg (nI_in' (N := 10) (by omega) (by omega)), (px.2.2.2.2 k hk).2, c_columnOf h ok kg, bind_some', imin_nat (by omega) (by omega), imin_nat (by omega) (by omega), nI_1]
    rfl
  · show sem _ _ _ _ _ _ = _
    rw [e_Shift_leastColumn_5, px.2.2.2.1, if_neg (nI_nlt (Nat.le_refl _) (by omega))]
/-- by how much, nine more -/
def shR (ρ : Nat → Nat) (K : SKY) (x y : Nat) : Nat := lst ρ (kF K y) (kG K y) (kLn K y) + 9 - lst ρ (kF K x) (kG K x) (kLn K x)
def shOK (K : SKY) (x y k l : Nat) : Bool := abB K k 9 l 9 x y (kLn K x) && abB K 9 k 9 l y x (kLn K y)
theorem shOK_un {K : SKY} (ok : okK K) {x y k l : Nat} (hx : x < kNX K) (hy : y < kNX K) (h0 : 0 < kLn K x) (h1 : 0 < kLn K y) (h : shOK K x y k l = true) : k = shR (fun p => kCe K p / 10) K x y ∧ l = shR (fun p => kCe K p % 10) K x y := by
  unfold shOK at h
  rw [Bool.and_eq_true] at h
  have A := abB_all _ h.1
  have B := abB_all _ h.2
  have bx := ok.fc hx
  have b_y := ok.fc hy
  have rx := lst_shift (ρ := fun p => kCe K p / 10) (f := kF K x) (g := kG K x) (f' := kF K y) (g' := kG K y) (n := kLn K x) (m := kLn K y) (a := k) (b := 9) (fun i hi => by have := bx i hi; show kCe K (kF K x i) / 10 < 10; omega) h0 (fun i hi => by
    obtain ⟨j, j1, j2⟩ := A i hi
    exact ⟨j, j1, j2.elim (fun w => Or.inl ⟨w.1.1, w.2.1⟩) (fun w => Or.inr ⟨w.1.1, w.2.1⟩)⟩)
  have ry := lst_shift (ρ := fun p => kCe K p / 10) (f := kF K y) (g := kG K y) (f' := kF K x) (g' := kG K x) (n := kLn K y) (m := kLn K x) (a := 9) (b := k) (fun i hi => by have := b_y i hi; show kCe K (kF K y i) / 10 < 10; omega) h1 (fun i hi => by
    obtain ⟨j, j1, j2⟩ := B i hi
    exact ⟨j, j1, j2.elim (fun w => Or.inl ⟨w.1.1, w.2.1⟩) (fun w => Or.inr ⟨w.1.1, w.2.1⟩)⟩)
  have cx := lst_shift (ρ := fun p => kCe K p % 10) (f := kF K x) (g := kG K x) (f' := kF K y) (g' := kG K y) (n := kLn K x) (m := kLn K y) (a := l) (b := 9) (fun i hi => by have := bx i hi; show kCe K (kF K x i) % 10 < 10; omega) h0 (fun i hi => by
    obtain ⟨j, j1, j2⟩ := A i hi
    exact ⟨j, j1, j2.elim (fun w => Or.inl ⟨w.1.2, w.2.2⟩) (fun w => Or.inr ⟨w.1.2, w.2.2⟩)⟩)
  have cy := lst_shift (ρ := fun p => kCe K p % 10) (f := kF K y) (g := kG K y) (f' := kF K x) (g' := kG K x) (n := kLn K y) (m := kLn K x) (a := 9) (b := l) (fun i hi => by have := b_y i hi; show kCe K (kF K y i) % 10 < 10; omega) h1 (fun i hi => by
    obtain ⟨j, j1, j2⟩ := B i hi
    exact ⟨j, j1, j2.elim (fun w => Or.inl ⟨w.1.2, w.2.2⟩) (fun w => Or.inr ⟨w.1.2, w.2.2⟩)⟩)
  unfold shR
  omega
theorem lst_9 {K : SKY} (ok : okK K) {x : Nat} (hx : x < kNX K) (h0 : 0 < kLn K x) : lst (fun p => kCe K p / 10) (kF K x) (kG K x) (kLn K x) ≤ 9 ∧ lst (fun p => kCe K p % 10) (kF K x) (kG K x) (kLn K x) ≤ 9 := by
  have bx := ok.fc hx 0 h0
  have l1 := lst_le (ρ := fun p => kCe K p / 10) (f := kF K x) (g := kG K x) (kLn K x) 0 h0
  have l2 := lst_le (ρ := fun p => kCe K p % 10) (f := kF K x) (g := kG K x) (kLn K x) 0 h0
  have e1 : (fun p => kCe K p / 10) (kF K x 0) = kCe K (kF K x 0) / 10 := rfl
  have e2 : (fun p => kCe K p % 10) (kF K x 0) = kCe K (kF K x 0) % 10 := rfl
  omega
def shV (k l : Nat) : Int32 := 100 * (nI k - nI 9 + 50) + (nI l - nI 9) + 50
theorem sub9 {a b : Nat} (ha : a ≤ 9) (hb : b ≤ 9) : nI a - nI b = nI (a + 9 - b) - nI 9 := by
  apply Int32.toInt_inj.mp
  rw [pk_sub_toInt (by omega) (by omega), pk_sub_toInt (by omega) (by omega)]
  omega
theorem c_between {d x y : Nat} {V : Mem} {K : SKY} (h : CS V 0 K) (ok : okK K) (hx : x < kNX K) (hy : y < kNX K) : clI (d + 4) m_Shift_between [.inr (.inr (1, 0)), .inr (.inr (5, x)), .inr (.inr (5, y))] V = some (if 0 < kLn K x ∧ 0 < kLn K y ∧ shOK K x y (shR (fun p => kCe K p / 10) K x y) (shR (fun p => kCe K p % 10) K x y) = true then shV (shR (fun p => kCe K p / 10) K x y) (shR (fun p => kCe K p % 10) K x y) else -1, V) := by
  have px := h.p0 hx
  have py := h.p0 hy
  have lx := ok.toL.2.2 x hx
  have ly := ok.toL.2.2 y hy
  refine clI_of ((e_Shift_between_0 (d + 3) 0 x y V).trans ?_)
  rw [px.2.2.2.1, py.2.2.2.1]
  by_cases z1 : kLn K x = 0
  · rw [if_pos (by rw [z1]; rfl), if_neg (fun w => by omega)]
  · rw [if_neg (nI_ne0 (by omega) (by omega))]
    by_cases z2 : kLn K y = 0
    · rw [if_pos (by rw [z2]; rfl), if_neg (fun w => by omega)]
    · obtain ⟨a1, a2⟩ := lst_9 ok hx (by omega)
      obtain ⟨b1, b2⟩ := lst_9 ok hy (by omega)
      rw [if_neg (nI_ne0 (by omega) (by omega)), c_leastRow h ok hy, bind_some', c_leastRow h ok hx, bind_some', c_leastColumn h ok hy, bind_some', c_leastColumn h ok hx, bind_some', sub9 b1 a1, sub9 b2 a2]
      have e1 : lst (fun p => kCe K p / 10) (kF K y) (kG K y) (kLn K y) + 9 - lst (fun p => kCe K p / 10) (kF K x) (kG K x) (kLn K x) = shR (fun p => kCe K p / 10) K x y := rfl
      have e2 : lst (fun p => kCe K p % 10) (kF K y) (kG K y) (kLn K y) + 9 - lst (fun p => kCe K p % 10) (kF K x) (kG K x) (kLn K x) = shR (fun p => kCe K p % 10) K x y := rfl
      rw [e1, e2]
      have r1 : shR (fun p => kCe K p / 10) K x y ≤ 18 := by rw [← e1]; omega
      have r2 : shR (fun p => kCe K p % 10) K x y ≤ 18 := by rw [← e2]; omega
      generalize shR (fun p => kCe K p / 10) K x y = k at *
      generalize shR (fun p => kCe K p % 10) K x y = l at *
      rw [c_isWithin (by omega) (by omega) (by omega) (by omega) h ok hx hy, bind_some']
      by_cases s1 : abB K k 9 l 9 x y (kLn K x) = true
      · rw [bI_t s1, if_neg one_ne, Int32.neg_sub, Int32.neg_sub, c_isWithin (by omega) (by omega) (by omega) (by omega) h ok hy hx, bind_some']
        by_cases s2 : abB K 9 k 9 l y x (kLn K y) = true
        · rw [bI_t s2, if_neg one_ne, e_Shift_between_72, if_neg one_ne, if_pos ⟨by omega, by omega, by unfold shOK; rw [s1, s2]; rfl⟩]
          rfl
        · rw [bI_f s2, if_pos rfl, e_Shift_between_71, e_Shift_between_72, if_pos rfl, if_neg (fun w => by have w3 := w.2.2; unfold shOK at w3; rw [Bool.and_eq_true] at w3; exact s2 w3.2)]
      · rw [bI_f s1, if_pos rfl, e_Shift_between_71, e_Shift_between_72, if_pos rfl, if_neg (fun w => by have w3 := w.2.2; unfold shOK at w3; rw [Bool.and_eq_true] at w3; exact s1 w3.1)]
theorem r9_inc (k : Nat) : nI k - nI 9 + 1 = nI (k + 1) - nI 9 := by
  generalize nI 9 = z
  rw [nI_succ, Int32.sub_eq_add_neg, Int32.sub_eq_add_neg, Int32.add_assoc, Int32.add_assoc, Int32.add_comm (-z) 1]
theorem r9_lt {k : Nat} (hk : k < 1000) : (nI k - nI 9 < 10) ↔ k < 19 := by
  rw [lt_toInt, pk_sub_toInt (by omega) (by omega), show (10 : Int32).toInt = 10 by decide]
  omega
theorem c_M_shift {d x y : Nat} {V : Mem} {K : SKY} (h : MS V 32 0 K) (ok : okK K) (hx : x < kNX K) (hy : y < kNX K) : sem (d + 3) 183 34 [some (.inr (.inr (30, 0))), some (.inl (nI x)), some (.inl (nI y)), some (.inl (-1)), some (.inl (-9)), none] [] V = some (some (.inl (if 0 < kLn K x ∧ 0 < kLn K y ∧ shOK K x y (shR (fun p => kCe K p / 10) K x y) (shR (fun p => kCe K p % 10) K x y) = true then shV (shR (fun p => kCe K p / 10) K x y) (shR (fun p => kCe K p % 10) K x y) else -1)), V) := by
  have lx := ok.toL.2.2 x hx
  have ly := ok.toL.2.2 y hy
  rw [show (-9 : Int32) = nI 0 - nI 9 by decide]
  by_cases z1 : kLn K x = 0
  · rw [e_M_shift_34, if_pos (by decide), c_M_ln h ok.toL hx, bind_some', if_neg (show ¬ 0 < nI (kLn K x) by rw [z1]; decide), if_neg (fun w => by omega)]
  · by_cases z2 : kLn K y = 0
    · rw [e_M_shift_34, if_pos (by decide), c_M_ln h ok.toL hx, bind_some', if_pos (show 0 < nI (kLn K x) from nI_lt (a := 0) (by omega) (by omega)), c_M_ln h ok.toL hy, bind_some', if_neg (show ¬ 0 < nI (kLn K y) by rw [z2]; decide), if_neg (fun w => by omega)]
    · obtain ⟨a1, a2⟩ := lst_9 ok hx (by omega)
      obtain ⟨b1, b2⟩ := lst_9 ok hy (by omega)
      have un := fun k l => shOK_un (k := k) (l := l) ok hx hy (by omega) (by omega)
      have r1 : shR (fun p => kCe K p / 10) K x y ≤ 18 := by unfold shR; omega
      have r2 : shR (fun p => kCe K p % 10) K x y ≤ 18 := by unfold shR; omega
      generalize shR (fun p => kCe K p / 10) K x y = k0 at *
      generalize shR (fun p => kCe K p % 10) K x y = l0 at *
      have cell : ∀ k l (f : Int32), k < 19 → l < 19 → sem (d + 3) 183 61 [some (.inr (.inr (30, 0))), some (.inl (nI x)), some (.inl (nI y)), some (.inl f), some (.inl (nI k - nI 9)), some (.inl (nI l - nI 9))] [] V = sem (d + 3) 183 61 [some (.inr (.inr (30, 0))), some (.inl (nI x)), some (.inl (nI y)), some (.inl (if shOK K x y k l = true then shV k l else f)), some (.inl (nI k - nI 9)), some (.inl (nI (l + 1) - nI 9))] [] V := by
        intro k l f hk hl
        rw [e_M_shift_61, if_pos ((r9_lt (by omega)).mpr hl), c_M_isAmong (by omega) (by omega) (by omega) (by omega) h ok hx hy, bind_some', ← r9_inc l]
        by_cases s1 : abB K k 9 l 9 x y (kLn K x) = true
        · rw [bI_t s1, if_neg one_ne, Int32.neg_sub, Int32.neg_sub, c_M_isAmong (by omega) (by omega) (by omega) (by omega) h ok hy hx, bind_some']
          by_cases s2 : abB K 9 k 9 l y x (kLn K y) = true
          · rw [bI_t s2, if_neg one_ne, e_M_shift_111, if_pos (by unfold shOK; rw [s1, s2]; rfl)]
            rfl
          · rw [bI_f s2, if_pos rfl, e_M_shift_111, if_neg (fun w => by unfold shOK at w; rw [Bool.and_eq_true] at w; exact s2 w.2)]
        · rw [bI_f s1, if_pos rfl, e_M_shift_111, if_neg (fun w => by unfold shOK at w; rw [Bool.and_eq_true] at w; exact s1 w.1)]
      have fstep : ∀ k l, (if shOK K x y k l = true then shV k l else (if shOK K x y k0 l0 = true ∧ (k0 < k ∨ (k0 = k ∧ l0 < l)) then shV k0 l0 else -1)) = (if shOK K x y k0 l0 = true ∧ (k0 < k ∨ (k0 = k ∧ l0 < l + 1)) then shV k0 l0 else -1) := by
        intro k l
        by_cases s : shOK K x y k l = true
        · obtain ⟨rfl, rfl⟩ := un k l s
          rw [if_pos s, if_pos ⟨s, Or.inr ⟨rfl, by omega⟩⟩]
        · rw [if_neg s]
          by_cases s0 : shOK K x y k0 l0 = true
          · have ne : ¬ (k = k0 ∧ l = l0) := fun w => s (by rw [w.1, w.2]; exact s0)
            by_cases q : k0 < k ∨ (k0 = k ∧ l0 < l)
            · rw [if_pos ⟨s0, q⟩, if_pos ⟨s0, by omega⟩]
            · rw [if_neg (fun w => q w.2), if_neg (fun w => by have := w.2; omega)]
          · rw [if_neg (fun w => s0 w.1), if_neg (fun w => s0 w.1)]
      have row : ∀ k, k < 19 → sem (d + 3) 183 61 [some (.inr (.inr (30, 0))), some (.inl (nI x)), some (.inl (nI y)), some (.inl (if shOK K x y k0 l0 = true ∧ (k0 < k ∨ (k0 = k ∧ l0 < 0)) then shV k0 l0 else -1)), some (.inl (nI k - nI 9)), some (.inl (nI 0 - nI 9))] [] V = sem (d + 3) 183 34 [some (.inr (.inr (30, 0))), some (.inl (nI x)), some (.inl (nI y)), some (.inl (if shOK K x y k0 l0 = true ∧ (k0 < k + 1 ∨ (k0 = k + 1 ∧ l0 < 0)) then shV k0 l0 else -1)), some (.inl (nI (k + 1) - nI 9)), none] [] V := by
        intro k hk
        refine loopN 19 (fun l => sem (d + 3) 183 61 [some (.inr (.inr (30, 0))), some (.inl (nI x)), some (.inl (nI y)), some (.inl (if shOK K x y k0 l0 = true ∧ (k0 < k ∨ (k0 = k ∧ l0 < l)) then shV k0 l0 else -1)), some (.inl (nI k - nI 9)), some (.inl (nI l - nI 9))] [] V) _ (fun l hl => ?_) ?_
        · show sem _ _ _ _ _ _ = sem _ _ _ _ _ _
          rw [cell k l _ hk hl, fstep]
        · show sem _ _ _ _ _ _ = _
          rw [e_M_shift_61, if_neg (fun w => by have := (r9_lt (by omega)).mp w; omega), r9_inc]
          have : (shOK K x y k0 l0 = true ∧ (k0 < k ∨ (k0 = k ∧ l0 < 19))) ↔ (shOK K x y k0 l0 = true ∧ (k0 < k + 1 ∨ (k0 = k + 1 ∧ l0 < 0))) := ⟨fun w => ⟨w.1, by have := w.2; omega⟩, fun w => ⟨w.1, by have := w.2; omega⟩⟩
          simp only [this]
      have start : (-1 : Int32) = (if shOK K x y k0 l0 = true ∧ (k0 < 0 ∨ (k0 = 0 ∧ l0 < 0)) then shV k0 l0 else -1) := by rw [if_neg (fun w => by have := w.2; omega)]
      rw [start]
      refine loopN 19 (fun k => sem (d + 3) 183 34 [some (.inr (.inr (30, 0))), some (.inl (nI x)), some (.inl (nI y)), some (.inl (if shOK K x y k0 l0 = true ∧ (k0 < k ∨ (k0 = k ∧ l0 < 0)) then shV k0 l0 else -1)), some (.inl (nI k - nI 9)), none] [] V) _ (fun k hk => ?_) ?_
      · show sem _ _ _ _ _ _ = sem _ _ _ _ _ _
        rw [e_M_shift_34, if_pos ((r9_lt (by omega)).mpr hk), c_M_ln h ok.toL hx, bind_some', if_pos (show 0 < nI (kLn K x) from nI_lt (a := 0) (by omega) (by omega)), c_M_ln h ok.toL hy, bind_some', if_pos (show 0 < nI (kLn K y) from nI_lt (a := 0) (by omega) (by omega)), show (-9 : Int32) = nI 0 - nI 9 by decide]
        exact row k hk
      · show sem _ _ _ _ _ _ = _
        rw [e_M_shift_34, if_neg (by decide), ← start]
        by_cases s0 : shOK K x y k0 l0 = true
        · rw [if_pos ⟨s0, by omega⟩, if_pos ⟨by omega, by omega, s0⟩]
        · rw [if_neg (fun w => s0 w.1), if_neg (fun w => s0 w.2.2)]
theorem pm_shift (SL : Nat) (xs : Nat → Int32) (a1 : Int32) (a2 : Int32) : PMI SL xs m_C_shift m_M_shift [.inl a1, .inl a2] := by
  intro V h
  obtain ⟨K, k1, k2, k3, k4⟩ := h.1
  have hX := k1.2.1
  by_cases B : inR (kNX K) a1 ∧ inR (kNX K) a2 ∧ ¬ a1 = a2
  · obtain ⟨x, hx, rfl⟩ := (ix_or a1 (n := kNX K) (by omega)).resolve_left (fun w => w B.1)
    obtain ⟨y, hy, rfl⟩ := (ix_or a2 (n := kNX K) (by omega)).resolve_left (fun w => w B.2.1)
    refine PM_cor h (V1 := V) (V2 := V) (r := if 0 < kLn K x ∧ 0 < kLn K y ∧ shOK K x y (shR (fun p => kCe K p / 10) K x y) (shR (fun p => kCe K p % 10) K x y) = true then shV (shR (fun p => kCe K p / 10) K x y) (shR (fun p => kCe K p % 10) K x y) else -1) (clI_of ((e_C_shift_0 29 _ _ V).trans ?_)) Cor.rfl (clI_of ((e_M_shift_0 29 _ _ _).trans ?_)) Cor.rfl
    · rw [c_C_isParish, bind_some', k2.1.2.1, bI_t B.1, if_neg one_ne, c_C_isParish, bind_some', k2.1.2.1, bI_t B.2.1, if_neg one_ne, if_neg B.2.2, if_neg (nI_in (N := 6) (by omega) (by omega)), if_neg (nI_in (N := 6) (by omega) (by omega)), nI_clamp (by omega), nI_clamp (by omega), c_between k2 k1 hx hy, bind_some']
    · rw [c_M_isParish (by omega) _ k3.nx, bind_some', bI_t B.1, if_neg one_ne, c_M_isParish (by omega) _ k3.nx, bind_some', bI_t B.2.1, if_neg one_ne, if_neg B.2.2]
      exact c_M_shift (d := 26) k3 k1 hx hy
  · refine ⟨-2, CRf V 0, MRf (CRf V 0) 0, clI_of ((e_C_shift_0 29 a1 a2 V).trans ?_), h.vok.crf 0, clI_of ((e_M_shift_0 29 a1 a2 _).trans ?_), h.ref (by omega)⟩
    · rw [c_C_isParish, bind_some', k2.1.2.1]
      by_cases b1 : inR (kNX K) a1
      · rw [bI_t b1, if_neg one_ne, c_C_isParish, bind_some', k2.1.2.1]
        by_cases b2 : inR (kNX K) a2
        · rw [bI_t b2, if_neg one_ne, if_pos (Classical.not_not.mp (fun w => B ⟨b1, b2, w⟩)), e_C_shift_21, c_C_ref2, bind_some']
        · rw [bI_f b2, if_pos rfl, e_C_shift_21, c_C_ref2, bind_some']
      · rw [bI_f b1, if_pos rfl, e_C_shift_21, c_C_ref2, bind_some']
    · rw [c_M_isParish (by omega) _ (k3.crf 0).nx, bind_some']
      by_cases b1 : inR (kNX K) a1
      · rw [bI_t b1, if_neg one_ne, c_M_isParish (by omega) _ (k3.crf 0).nx, bind_some']
        by_cases b2 : inR (kNX K) a2
        · rw [bI_t b2, if_neg one_ne, if_pos (Classical.not_not.mp (fun w => B ⟨b1, b2, w⟩)), e_M_shift_21, c_M_ref2, bind_some']
        · rw [bI_f b2, if_pos rfl, e_M_shift_21, c_M_ref2, bind_some']
      · rw [bI_f b1, if_pos rfl, e_M_shift_21, c_M_ref2, bind_some']
