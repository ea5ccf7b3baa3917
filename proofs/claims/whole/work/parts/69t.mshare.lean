/-! SHARING: the reference -/
def spS (K : SKY) : Nat → Nat × (Nat → Nat)
  | 0 => (0, fun _ => 0)
  | p + 1 => if (spS K p).1 < 5 ∧ shB K p then ((spS K p).1 + 1, updN (spS K p).2 (spS K p).1 p) else spS K p
theorem spS_c (K : SKY) : ∀ n, (spS K n).1 = min 5 (shC K n) := by
  intro n
  induction n with
  | zero => rfl
  | succ n ih =>
    have e : shC K (n + 1) = shC K n + (if shB K n then 1 else 0) := rfl
    unfold spS
    by_cases b : shB K n
    · rw [if_pos b] at e
      by_cases a : (spS K n).1 < 5
      · rw [if_pos ⟨a, b⟩]
        show (spS K n).1 + 1 = _
        omega
      · rw [if_neg (fun w => a w.1)]
        omega
    · rw [if_neg b] at e
      rw [if_neg (fun w => b w.2)]
      omega
theorem spS_p (K : SKY) : ∀ n, (∀ i, i < (spS K n).1 → (spS K n).2 i < n ∧ shB K ((spS K n).2 i)) ∧ ∀ i j, i < j → j < (spS K n).1 → (spS K n).2 i < (spS K n).2 j := by
  intro n
  induction n with
  | zero => exact ⟨fun i hi => absurd hi (Nat.not_lt_zero _), fun i j _ hj => absurd hj (Nat.not_lt_zero _)⟩
  | succ n ih =>
    obtain ⟨h1, h2⟩ := ih
    unfold spS
    by_cases a : (spS K n).1 < 5 ∧ shB K n
    · rw [if_pos a]
      have old : ∀ i, i < (spS K n).1 → updN (spS K n).2 (spS K n).1 n i = (spS K n).2 i := fun i hi => if_neg (by omega)
      have new : updN (spS K n).2 (spS K n).1 n (spS K n).1 = n := if_pos rfl
      refine ⟨fun i hi => ?_, fun i j hij hj => ?_⟩
      · have hi' : i < (spS K n).1 + 1 := hi
        show updN (spS K n).2 (spS K n).1 n i < n + 1 ∧ shB K (updN (spS K n).2 (spS K n).1 n i)
        by_cases e : i = (spS K n).1
        · rw [e, new]; exact ⟨by omega, a.2⟩
        · rw [old i (by omega)]
          have := h1 i (by omega)
          exact ⟨by omega, this.2⟩
      · have hj' : j < (spS K n).1 + 1 := hj
        show updN (spS K n).2 (spS K n).1 n i < updN (spS K n).2 (spS K n).1 n j
        rw [old i (by omega)]
        by_cases e : j = (spS K n).1
        · rw [e, new]; exact (h1 i (by omega)).1
        · rw [old j (by omega)]; exact h2 i j hij (by omega)
    · rw [if_neg a]
      exact ⟨fun i hi => ⟨by have := (h1 i hi).1; omega, (h1 i hi).2⟩, h2⟩
theorem spS_full {K : SKY} {p : Nat} (h : ¬ (spS K p).1 < 5) : ∀ n, p ≤ n → spS K n = spS K p := by
  intro n
  induction n with
  | zero => intro hn; rw [show p = 0 by omega]
  | succ n ih =>
    intro hn
    by_cases e : p = n + 1
    · rw [e]
    · have := ih (by omega)
      show (if (spS K n).1 < 5 ∧ shB K n then _ else spS K n) = _
      rw [this, if_neg (fun w => h w.1)]
def okl (sp o : Nat → Nat) (x : Nat) : Nat → Nat × Nat → Bool
  | 0, _ => true
  | i + 1, l => okl sp o x i l && (Nat.beq x (o i) || untP (sp i) l)
theorem okl_congr {sp o o' : Nat → Nat} {x : Nat} : ∀ i, (∀ j, j < i → o j = o' j) → ∀ l, okl sp o x i l = okl sp o' x i l := by
  intro i
  induction i with
  | zero => intro _ l; rfl
  | succ i ih =>
    intro h l
    show (okl sp o x i l && _) = (okl sp o' x i l && _)
    rw [ih (fun j hj => h j (by omega)), h i (by omega)]
/-- what is left when the first i are given -/
def RK (K : SKY) (sp o : Nat → Nat) (j : Nat) (Kj : SKY) : Prop := okK Kj ∧ Kj.1 = K.1 ∧ Kj.2.1 = K.2.1 ∧ (∀ y, kKi Kj y = kKi K y ∧ kA Kj y = kA K y) ∧ Kj.2.2.2.1 = K.2.2.2.1 ∧ ∀ x, LLx Kj x = (LLx K x).filter (fun l => !(Nat.blt x (kNX K)) || okl sp o x j l)
def gtF (p a : Nat) (K : SKY) : Nat → SKY
  | 0 => K
  | x + 1 => if x = a then gtF p a K x else lessK x p (kLn (gtF p a K x) x) (gtF p a K x)
def gnF (p a : Nat) (K : SKY) : Nat → Nat
  | 0 => 0
  | x + 1 => if x = a then gnF p a K x else gnF p a K x + (kLn (gtF p a K x) x - kLn (lessK x p (kLn (gtF p a K x) x) (gtF p a K x)) x)
theorem nx_of {K K' : SKY} (h : K'.1 = K.1) : kNX K' = kNX K := by unfold kNX; rw [h]
theorem np_of {K K' : SKY} (h : K'.1 = K.1) : kNP K' = kNP K := by unfold kNP; rw [h]
theorem gtF_p {K : SKY} (ok : okK K) (p a : Nat) : ∀ n, n ≤ kNX K → okK (gtF p a K n) ∧ (gtF p a K n).1 = K.1 ∧ (gtF p a K n).2.1 = K.2.1 ∧ (∀ y, kKi (gtF p a K n) y = kKi K y ∧ kA (gtF p a K n) y = kA K y) ∧ (gtF p a K n).2.2.2.1 = K.2.2.2.1 ∧ ∀ y, LLx (gtF p a K n) y = if y < n ∧ ¬ y = a then (LLx K y).filter (untP p) else LLx K y := by
  intro n
  induction n with
  | zero => intro _; exact ⟨ok, rfl, rfl, fun y => ⟨rfl, rfl⟩, rfl, fun y => by rw [if_neg (by omega)]; rfl⟩
  | succ n ih =>
    intro hn
    obtain ⟨h1, h2, h3, h4, h5, h6⟩ := ih (by omega)
    by_cases e : n = a
    · have q : gtF p a K (n + 1) = gtF p a K n := if_pos e
      rw [q]
      refine ⟨h1, h2, h3, h4, h5, fun y => ?_⟩
      rw [h6 y]
      by_cases w : y < n ∧ ¬ y = a
      · rw [if_pos w, if_pos ⟨by omega, w.2⟩]
      · rw [if_neg w, if_neg (by omega)]
    · have q : gtF p a K (n + 1) = lessK n p (kLn (gtF p a K n) n) (gtF p a K n) := if_neg e
      obtain ⟨l1, l2, l3, l4, l5⟩ := lessK_fix n p (kLn (gtF p a K n) n) (gtF p a K n)
      rw [q]
      refine ⟨lessK_ok2 h1 (by rw [nx_of h2]; omega), l1.trans h2, l2.trans h3, fun y => ⟨(l3 y).1.trans (h4 y).1, (l3 y).2.trans (h4 y).2⟩, l4.trans h5, fun y => ?_⟩
      by_cases w : y = n
      · subst w
        rw [lessK_fil, h6 y, if_neg (by omega), if_pos ⟨by omega, e⟩]
      · rw [LLx_other (l5 y w).1 (l5 y w).2, h6 y]
        by_cases v : y < n ∧ ¬ y = a
        · rw [if_pos v, if_pos ⟨by omega, v.2⟩]
        · rw [if_neg v, if_neg (by omega)]
theorem RK_step {K Kj : SKY} {sp o : Nat → Nat} {j a : Nat} (h : RK K sp o j Kj) : RK K sp (updN o j a) (j + 1) (gtF (sp j) a Kj (kNX Kj)) := by
  obtain ⟨h1, h2, h3, h4, h5, h6⟩ := h
  obtain ⟨g1, g2, g3, g4, g5, g6⟩ := gtF_p h1 (sp j) a (kNX Kj) (Nat.le_refl _)
  refine ⟨g1, g2.trans h2, g3.trans h3, fun y => ⟨(g4 y).1.trans (h4 y).1, (g4 y).2.trans (h4 y).2⟩, g5.trans h5, fun x => ?_⟩
  have ok' : ∀ l, okl sp (updN o j a) x (j + 1) l = (okl sp o x j l && (Nat.beq x a || untP (sp j) l)) := fun l => by
    show (okl sp (updN o j a) x j l && (Nat.beq x (updN o j a j) || untP (sp j) l)) = _
    rw [okl_congr j (fun i hi => show updN o j a i = o i from if_neg (by omega)) l, show updN o j a j = a from if_pos rfl]
  rw [g6 x, h6 x, nx_of h2]
  by_cases c : x < kNX K
  · have cb : Nat.blt x (kNX K) = true := by rw [Nat.blt_eq]; exact c
    by_cases e : x = a
    · have eb : Nat.beq x a = true := by rw [Nat.beq_eq]; exact e
      rw [if_neg (fun w => w.2 e)]
      refine List.filter_congr (fun l _ => ?_)
      rw [ok', cb, eb]
      simp
    · have eb : Nat.beq x a = false := by rw [Bool.eq_false_iff]; intro w; rw [Nat.beq_eq] at w; exact e w
      rw [if_pos ⟨c, e⟩, List.filter_filter]
      refine List.filter_congr (fun l _ => ?_)
      rw [ok', cb, eb]
      simp [Bool.and_comm]
  · have cb : Nat.blt x (kNX K) = false := by rw [Bool.eq_false_iff]; intro w; rw [Nat.blt_eq] at w; exact c w
    rw [if_neg (fun w => c w.1)]
    refine List.filter_congr (fun l _ => ?_)
    rw [cb]
    rfl
theorem RK_0 {K : SKY} (ok : okK K) (sp o : Nat → Nat) : RK K sp o 0 K := ⟨ok, rfl, rfl, fun y => ⟨rfl, rfl⟩, rfl, fun x => by
  have : (fun l => !(Nat.blt x (kNX K)) || okl sp o x 0 l) = (fun _ : Nat × Nat => true) := funext fun l => Bool.or_true _
  rw [this]
  exact (List.filter_eq_self.mpr (fun _ _ => rfl)).symm⟩
/-- worth of x when all are given -/
def wS (K : SKY) (sp o : Nat → Nat) (c x : Nat) : Nat := wL (kCe K) (kBr K) (kNP K) (kKi K x) (kA K x) ((LLx K x).filter (okl sp o x c))
theorem RK_w {K Kj : SKY} {sp o : Nat → Nat} {c x : Nat} (h : RK K sp o c Kj) (hx : x < kNX K) : wK Kj x = wS K sp o c x := by
  obtain ⟨h1, h2, h3, h4, h5, h6⟩ := h
  have cb : Nat.blt x (kNX K) = true := by rw [Nat.blt_eq]; exact hx
  have e : LLx Kj x = (LLx K x).filter (okl sp o x c) := by
    rw [h6 x]
    refine List.filter_congr (fun l _ => ?_)
    rw [cb]
    rfl
  have c1 : kCe Kj = kCe K := by funext p; unfold kCe; rw [h3]
  have c2 : kBr Kj = kBr K := by funext p; unfold kBr; rw [h3]
  unfold wK
  rw [wrt_wL, c1, c2, np_of h2, (h4 x).1, (h4 x).2]
  show wL _ _ _ _ _ (LLx Kj x) = _
  rw [e]
  rfl
theorem wS_le {K Kj : SKY} {sp o : Nat → Nat} {c x : Nat} (h : RK K sp o c Kj) (hx : x < kNX K) : wS K sp o c x ≤ 400 := by
  rw [← RK_w h hx]
  exact wK_le h.1 (by rw [nx_of h.2.1]; exact hx)
def lfP (K : SKY) (sp o : Nat → Nat) (c : Nat) : Nat → Nat
  | 0 => 2147483647
  | x + 1 => min (lfP K sp o c x) (wS K sp o c x)
theorem lfP_le (K : SKY) (sp o : Nat → Nat) (c : Nat) : ∀ n, lfP K sp o c n ≤ 2147483647 := by
  intro n
  induction n with
  | zero => exact Nat.le_refl _
  | succ n ih => show min _ _ ≤ _; omega
def updS (σ : Option (Nat × (Nat → Nat))) (v : Nat) (o : Nat → Nat) : Option (Nat × (Nat → Nat)) := match σ with
  | none => some (v, o)
  | some (g, b) => if g < v then some (v, o) else some (g, b)
def foldX (body : Nat → Option (Nat × (Nat → Nat)) → Option (Nat × (Nat → Nat))) (want : Nat → Bool) : Nat → Option (Nat × (Nat → Nat)) → Option (Nat × (Nat → Nat))
  | 0, σ => σ
  | x + 1, σ => if want x = true then body x (foldX body want x σ) else foldX body want x σ
def gv (K : SKY) (sp : Nat → Nat) (c : Nat) : Nat → (Nat → Nat) → Option (Nat × (Nat → Nat)) → Option (Nat × (Nat → Nat))
  | 0, o, σ => updS σ (lfP K sp o c (kNX K)) o
  | m + 1, o, σ => foldX (fun x τ => gv K sp c m (updN o (c - (m + 1)) x) τ) (fun x => kW K x (sp (c - (m + 1)))) (kNX K) σ
def bGd (σ : Option (Nat × (Nat → Nat))) : Prop := ∀ g b, σ = some (g, b) → g ≤ 2147483647
def GM (W : Mem) (σ : Option (Nat × (Nat → Nat))) (c : Nat) : Prop := match σ with
  | none => W.1 30 0 16 = -1
  | some (g, b) => W.1 30 0 16 = nI g ∧ ∀ j, j < c → W.1 39 0 j = nI (b j)
theorem GM.same {W W' : Mem} {σ : Option (Nat × (Nat → Nat))} {c : Nat} (h : GM W σ c) (h1 : W'.1 30 0 16 = W.1 30 0 16) (h2 : ∀ j, W'.1 39 0 j = W.1 39 0 j) : GM W' σ c := by
  cases σ with
  | none => exact h1.trans h
  | some gb =>
    obtain ⟨g, b⟩ := gb
    exact ⟨h1.trans h.1, fun j hj => (h2 j).trans (h.2 j hj)⟩
theorem c_M_giveTo {d p a : Nat} (hp : p < 12) (ha : a < 100) {V : Mem} {K : SKY} (h : MS V 32 0 K) (ok : okK K) : ∃ V', clI (d + 4) m_M_giveTo [.inr (.inr (30, 0)), .inl (nI p), .inl (nI a)] V = some (nI (gnF p a K (kNX K)), V') ∧ MS V' 32 0 (gtF p a K (kNX K)) ∧ FrM V V' := by
  have hX := ok.2.1
  obtain ⟨V', ⟨v1, v2⟩, v3⟩ := loopI (kNX K) (fun n W => MS W 32 0 (gtF p a K n) ∧ FrM V W) (fun n W => sem (d + 3) 189 5 [some (.inr (.inr (30, 0))), some (.inl (nI p)), some (.inl (nI a)), some (.inl (nI (gnF p a K n))), some (.inl (nI n))] [] W) (fun n W hn hW => by
    obtain ⟨w1, w2⟩ := hW
    obtain ⟨g1, g2, g3, g4, g5, g6⟩ := gtF_p ok p a n (by omega)
    have nx := w1.nx
    rw [nx_of g2] at nx
    have st := e_M_giveTo_5 (d + 3) (nI p) (nI a) (nI (gnF p a K n)) (nI n) W
    rw [nx, if_pos (nI_lt hn (by omega))] at st
    by_cases e : n = a
    · have q : gtF p a K (n + 1) = gtF p a K n := if_pos e
      have qn : gnF p a K (n + 1) = gnF p a K n := if_pos e
      rw [if_pos (by rw [e]), e_M_giveTo_36, Int32.add_zero, nI_1] at st
      exact ⟨W, ⟨by rw [q]; exact w1, w2⟩, by rw [qn]; exact st⟩
    · have q : gtF p a K (n + 1) = lessK n p (kLn (gtF p a K n) n) (gtF p a K n) := if_neg e
      have qn : gnF p a K (n + 1) = gnF p a K n + (kLn (gtF p a K n) n - kLn (lessK n p (kLn (gtF p a K n) n) (gtF p a K n)) n) := if_neg e
      have hn2 : n < kNX (gtF p a K n) := by rw [nx_of g2]; exact hn
      obtain ⟨W', u1, u2, u3⟩ := c_M_eraseIn (d := d) w1 g1.toL hn2 (g1.bd n hn2) hp
      rw [if_neg (fun w => e ((nI_eq (by omega) (by omega)).mp w)), u1, bind_some', e_M_giveTo_36, nI_add, nI_1] at st
      exact ⟨W', ⟨by rw [q]; exact u2, w2.trans u3⟩, by rw [qn]; exact st⟩) V ⟨h, FrM.rfl⟩
  refine ⟨V', clI_of ((e_M_giveTo_0 (d + 3) _ _ V).trans (Eq.trans v3 ?_)), v1, v2⟩
  have nx := v1.nx
  rw [nx_of (gtF_p ok p a (kNX K) (Nat.le_refl _)).2.1] at nx
  show sem _ _ _ _ _ _ = _
  rw [e_M_giveTo_5, nx, if_neg (nI_nlt (Nat.le_refl _) (by omega))]
theorem MS.part {V V' : Mem} {t o : Nat} {K : SKY} (h : MS V t o K) (ok : okL K) (c : ∀ k, o ≤ k → k < o + 178 → V'.1 t 0 k = V.1 t 0 k) : MS V' t o K := by
  have hP := ok.1
  have hX := ok.2.1
  obtain ⟨⟨h1, h2, h3, h4⟩, h5, h6⟩ := h
  refine ⟨⟨?_, ?_, ?_, ?_⟩, fun p hp => ?_, fun x hx => ?_⟩
  · rw [c _ (by omega) (by omega)]; exact h1
  · rw [c _ (by omega) (by omega)]; exact h2
  · rw [c _ (by omega) (by omega)]; exact h3
  · rw [c _ (by omega) (by omega)]; exact h4
  · rw [c _ (by omega) (by omega), c _ (by omega) (by omega), c _ (by omega) (by omega)]; exact h5 p hp
  · have hl := ok.2.2 x hx
    refine ⟨?_, fun i hi => ?_⟩
    · rw [c _ (by omega) (by omega), c _ (by omega) (by omega), c _ (by omega) (by omega)]; exact (h6 x hx).1
    · rw [c _ (by omega) (by omega), c _ (by omega) (by omega)]; exact (h6 x hx).2 i hi
def pG (j t _i k : Nat) : Prop := t = 32 ∨ (t = 40 ∧ 178 * j ≤ k) ∨ (t = 38 ∧ j ≤ k) ∨ t = 39 ∨ (t = 30 ∧ k = 16)
theorem mleaf {d c : Nat} (hc : c ≤ 5) (x1 : Int32) {K Kj : SKY} {sp o : Nat → Nat} (hK : kNX K ≤ 6) (hr : RK K sp o c Kj) {W : Mem} (h : MS W 32 0 Kj) (h15 : W.1 30 0 15 = nI c) (h38 : ∀ j, j < c → W.1 38 0 j = nI (o j)) {σ : Option (Nat × (Nat → Nat))} (hg : GM W σ c) (hb : bGd σ) : ∃ W', sem (d + 5) 188 14 [some (.inr (.inr (30, 0))), some (.inl x1), some (.inl 2147483647), some (.inl 0)] [] W = some (none, W') ∧ GM W' (updS σ (lfP K sp o c (kNX K)) o) c ∧ (∀ t i k, ¬ (t = 39 ∨ (t = 30 ∧ k = 16)) → W'.1 t i k = W.1 t i k) ∧ W'.2 = W.2 := by
  have nx := h.nx
  rw [nx_of hr.2.1] at nx
  have lp : sem (d + 5) 188 14 [some (.inr (.inr (30, 0))), some (.inl x1), some (.inl 2147483647), some (.inl 0)] [] W = sem (d + 5) 188 14 [some (.inr (.inr (30, 0))), some (.inl x1), some (.inl (nI (lfP K sp o c (kNX K)))), some (.inl (nI (kNX K)))] [] W := by
    refine loopN (kNX K) (fun x => sem (d + 5) 188 14 [some (.inr (.inr (30, 0))), some (.inl x1), some (.inl (nI (lfP K sp o c x))), some (.inl (nI x))] [] W) _ (fun x hx => ?_) rfl
    have hx2 : x < kNX Kj := by rw [nx_of hr.2.1]; exact hx
    have w4 := wS_le hr hx
    have l4 := lfP_le K sp o c x
    show sem _ _ _ _ _ _ = sem _ _ _ _ _ _
    rw [e_M_give_IV_14, nx, if_pos (nI_lt hx (by omega)), c_M_worth h hr.1 hx2, bind_some', RK_w hr hx, imin_nat (by omega) (by omega), nI_1]
    rfl
  have l4 := lfP_le K sp o c (kNX K)
  rw [lp, e_M_give_IV_14, nx, if_neg (nI_nlt (Nat.le_refl _) (by omega))]
  have take : W.1 30 0 16 < nI (lfP K sp o c (kNX K)) → ∃ W', (if W.1 30 0 16 < nI (lfP K sp o c (kNX K)) then sem (d + 5) 188 57 [some (.inr (.inr (30, 0))), some (.inl x1), some (.inl (nI (lfP K sp o c (kNX K)))), some (.inl 0)] [] (mset W.1 30 0 16 (nI (lfP K sp o c (kNX K))), W.2) else some (none, W)) = some (none, W') ∧ GM W' (some (lfP K sp o c (kNX K), o)) c ∧ (∀ t i k, ¬ (t = 39 ∨ (t = 30 ∧ k = 16)) → W'.1 t i k = W.1 t i k) ∧ W'.2 = W.2 := by
    intro lt
    rw [if_pos lt]
    obtain ⟨W', ⟨w1, w2, w3, w4⟩, w5⟩ := loopI c (fun n U => U.1 30 0 16 = nI (lfP K sp o c (kNX K)) ∧ (∀ j, j < n → U.1 39 0 j = nI (o j)) ∧ (∀ t i k, ¬ (t = 39 ∨ (t = 30 ∧ k = 16)) → U.1 t i k = W.1 t i k) ∧ U.2 = W.2) (fun n U => sem (d + 5) 188 57 [some (.inr (.inr (30, 0))), some (.inl x1), some (.inl (nI (lfP K sp o c (kNX K)))), some (.inl (nI n))] [] U) (fun n U hn hU => by
      obtain ⟨u1, u2, u3, u4⟩ := hU
      have st := e_M_give_IV_57 (d + 5) x1 (nI (lfP K sp o c (kNX K))) (nI n) U
      rw [u3 30 0 15 (by omega), h15, if_pos (nI_lt hn (by omega)), if_neg (nI_in (N := 5) (by omega) (by omega)), if_neg (nI_in (N := 5) (by omega) (by omega)), nI_clamp (by omega), u3 38 0 n (by omega), h38 n hn, nI_1] at st
      refine ⟨(mset U.1 39 0 n (nI (o n)), U.2), ⟨?_, fun j hj => ?_, fun t i k q => ?_, u4⟩, st⟩
      · simp (disch := omega) only [mset_n]; exact u1
      · by_cases e : j = n
        · subst e; simp (disch := omega) only [mset_h]
        · simp (disch := omega) only [mset_n]; exact u2 j (by omega)
      · simp (disch := omega) only [mset_n]; exact u3 t i k q) (mset W.1 30 0 16 (nI (lfP K sp o c (kNX K))), W.2) ⟨by simp (disch := omega) only [mset_h], fun j hj => by omega, fun t i k q => by simp (disch := omega) only [mset_n], rfl⟩
    refine ⟨W', Eq.trans w5 ?_, ⟨w1, w2⟩, w3, w4⟩
    show sem _ _ _ _ _ _ = _
    rw [e_M_give_IV_57, w3 30 0 15 (by omega), h15, if_neg (nI_nlt (Nat.le_refl _) (by omega))]
  cases σ with
  | none =>
    have h16 : W.1 30 0 16 = -1 := hg
    exact take (by
      rw [h16, lt_toInt, nI_toInt (by omega)]
      have : (-1 : Int32).toInt = -1 := by decide
      omega)
  | some gb =>
    obtain ⟨g, b⟩ := gb
    have hg2 := hb g b rfl
    have h16 : W.1 30 0 16 = nI g := hg.1
    by_cases q : g < lfP K sp o c (kNX K)
    · have := take (by rw [h16]; exact nI_lt q (by omega))
      rw [show updS (some (g, b)) (lfP K sp o c (kNX K)) o = some (lfP K sp o c (kNX K), o) from if_pos q]
      exact this
    · refine ⟨W, if_neg (by rw [h16]; exact nI_nlt (by omega) (by omega)), ?_, fun _ _ _ _ => rfl, rfl⟩
      rw [show updS (some (g, b)) (lfP K sp o c (kNX K)) o = some (g, b) from if_neg q]
      exact hg
theorem updS_gd {σ : Option (Nat × (Nat → Nat))} {v : Nat} {o : Nat → Nat} (h : bGd σ) (hv : v ≤ 2147483647) : bGd (updS σ v o) := by
  cases σ with
  | none =>
    intro g b e
    have e' : some (v, o) = some (g, b) := e
    simp only [Option.some.injEq, Prod.mk.injEq] at e'
    omega
  | some gb =>
    obtain ⟨g0, b0⟩ := gb
    have h0 := h g0 b0 rfl
    intro g b e
    have e' : (if g0 < v then some (v, o) else some (g0, b0)) = some (g, b) := e
    by_cases q : g0 < v
    · rw [if_pos q] at e'
      simp only [Option.some.injEq, Prod.mk.injEq] at e'
      omega
    · rw [if_neg q] at e'
      simp only [Option.some.injEq, Prod.mk.injEq] at e'
      omega
theorem foldX_gd {body : Nat → Option (Nat × (Nat → Nat)) → Option (Nat × (Nat → Nat))} {want : Nat → Bool} (hb : ∀ x τ, bGd τ → bGd (body x τ)) : ∀ n σ, bGd σ → bGd (foldX body want n σ) := by
  intro n
  induction n with
  | zero => intro σ h; exact h
  | succ n ih =>
    intro σ h
    unfold foldX
    split
    · exact hb _ _ (ih σ h)
    · exact ih σ h
theorem gv_gd (K : SKY) (sp : Nat → Nat) (c : Nat) : ∀ m o σ, bGd σ → bGd (gv K sp c m o σ) := by
  intro m
  induction m with
  | zero => intro o σ h; exact updS_gd h (lfP_le K sp o c (kNX K))
  | succ m ih => intro o σ h; exact foldX_gd (fun x τ ht => ih _ τ ht) _ σ h
theorem c_M_giveIV {d c : Nat} (hc : c ≤ 5) {K : SKY} (okK' : okK K) {sp : Nat → Nat} (hsp : ∀ j, j < c → sp j < kNP K) : ∀ m j (o : Nat → Nat) (σ : Option (Nat × (Nat → Nat))) (Kj : SKY) (W : Mem), j + m = c → RK K sp o j Kj → MS W 32 0 Kj → W.1 30 0 15 = nI c → (∀ i, i < c → W.1 37 0 i = nI (sp i)) → (∀ i, i < j → W.1 38 0 i = nI (o i)) → GM W σ c → bGd σ → ∃ W', clV (d + 6 + m) m_M_give_IV [.inr (.inr (30, 0)), .inl (nI j)] W = some W' ∧ GM W' (gv K sp c m o σ) c ∧ MS W' 32 0 Kj ∧ Fr (pG j) W W' := by
  have hX := okK'.2.1
  have hP := okK'.1
  intro m
  induction m with
  | zero =>
    intro j o σ Kj W hj hr hm h15 h37 h38 hg hb
    obtain rfl : j = c := by omega
    obtain ⟨W', w1, w2, w3, w4⟩ := mleaf (d := d) hc (nI j) hX hr hm h15 h38 hg hb
    refine ⟨W', clV_of ((e_M_give_IV_0 (d + 5) _ W).trans ?_), w2, hm.same (funext fun k => w3 32 0 k (by omega)), fun t i k q => w3 t i k (fun w => q (by unfold pG; omega)), w4⟩
    rw [h15, if_pos rfl]
    exact w1
  | succ m ih =>
    intro j o σ Kj W hj hr hm h15 h37 h38 hg hb
    have nxj := nx_of hr.2.1
    have mv : clV (d + 6 + m) 130 [.inr (.inr (32, 0)), .inl 0, .inr (.inr (40, 0)), .inl (178 * nI j)] W = some (mcpy W.1 32 0 0 40 0 (178 * j) 178, W.2) := by
      have := c_mv32_40 (d := d + 5 + m) (o := 0) (u := 178 * j) (by omega) (by omega) W
      rw [show d + 5 + m + 1 = d + 6 + m by omega] at this
      have e : (178 * nI j : Int32) = nI (178 * j) := by simp only [fa_lit, pk_mul]
      rw [e]
      exact this
    have f0 : Fr (pG j) W (mcpy W.1 32 0 0 40 0 (178 * j) 178, W.2) := ⟨fun t i k q => by
      show mcpy W.1 32 0 0 40 0 (178 * j) 178 t i k = _
      rw [mcpy_out (fun w => q (by unfold pG; omega))], rfl⟩
    have hcj : c - (m + 1) = j := by omega
    obtain ⟨⟨τ, U⟩, ⟨i1, i2, i3, i4, i5, i6, i7⟩, st⟩ := loopI (σ := Option (Nat × (Nat → Nat)) × Mem) (kNX K) (fun n s => s.1 = foldX (fun x τ => gv K sp c m (updN o (c - (m + 1)) x) τ) (fun x => kW K x (sp (c - (m + 1)))) n σ ∧ GM s.2 s.1 c ∧ bGd s.1 ∧ MS s.2 32 0 Kj ∧ MS s.2 40 (178 * j) Kj ∧ Fr (pG j) W s.2 ∧ (∀ i, i < j → s.2.1 38 0 i = nI (o i))) (fun n s => sem (d + 6 + m) 188 103 [some (.inr (.inr (30, 0))), some (.inl (nI j)), some (.inl (nI n)), none] [] s.2) (fun n s hn hI => by
      obtain ⟨τ, U⟩ := s
      obtain ⟨i1, i2, i3, i4, i5, i6, i7⟩ := hI
      dsimp only at i1 i2 i3 i4 i5 i6 i7
      have nx : U.1 32 0 175 = nI (kNX K) := by rw [← nxj]; exact i4.nx
      have u37 : ∀ i, i < c → U.1 37 0 i = nI (sp i) := fun i hi => (i6.1 37 0 i (by unfold pG; omega)).trans (h37 i hi)
      have spj := hsp j (by omega)
      have iw : clI (d + 6 + m) 136 [.inr (.inr (30, 0)), .inl (nI (sp j)), .inl (nI n)] U = some (bI (kW K n (sp j) = true), U) := by
        have := c_M_isWanted (d := d + 4 + m) i4 hr.1 (x := n) (p := sp j) (by rw [nxj]; exact hn) (by rw [np_of hr.2.1]; exact spj)
        rw [show d + 4 + m + 2 = d + 6 + m by omega] at this
        have e : kW Kj n (sp j) = kW K n (sp j) := by unfold kW; rw [hr.2.2.2.2.1]
        rw [e] at this
        exact this
      have st := e_M_give_IV_103 (d + 6 + m) (nI j) (nI n) U
      rw [nx, if_pos (nI_lt hn (by omega)), if_neg (nI_in (N := 5) (by omega) (by omega)), nI_clamp (by omega), u37 j (by omega), iw, bind_some'] at st
      have fx : foldX (fun x τ => gv K sp c m (updN o (c - (m + 1)) x) τ) (fun x => kW K x (sp (c - (m + 1)))) (n + 1) σ = if kW K n (sp j) = true then gv K sp c m (updN o j n) τ else τ := by
        show (if kW K n (sp (c - (m + 1))) = true then gv K sp c m (updN o (c - (m + 1)) n) (foldX _ _ n σ) else foldX _ _ n σ) = _
        rw [← i1, hcj]
      by_cases e : kW K n (sp j) = true
      · have u1e : (mset U.1 38 0 j (nI n)) 37 0 j = nI (sp j) := by rw [mset_n (by omega)]; exact u37 j (by omega)
        obtain ⟨U1, a1, a2, a3⟩ := c_M_giveTo (d := d + 2 + m) (p := sp j) (a := n) (by omega) (by omega) (V := (mset U.1 38 0 j (nI n), U.2)) (i4.same (funext fun k => by simp (disch := omega) only [mset_n])) hr.1
        rw [show d + 2 + m + 4 = d + 6 + m by omega] at a1
        have gf1 : Fr (pG j) U (mset U.1 38 0 j (nI n), U.2) := Fr.rfl.set (by unfold pG; omega)
        have gf2 : Fr (pG j) (mset U.1 38 0 j (nI n), U.2) U1 := a3.fr (by unfold pG; omega)
        obtain ⟨U2, b1, b2, b3, b4⟩ := ih (j + 1) (updN o j n) τ _ U1 (by omega) (RK_step hr) a2 ((a3.1 30 0 15 (by omega)).trans (by simp (disch := omega) only [mset_n]; exact (i6.1 30 0 15 (by unfold pG; omega)).trans h15)) (fun i hi => (a3.1 37 0 i (by omega)).trans (by simp (disch := omega) only [mset_n]; exact u37 i hi)) (fun i hi => (a3.1 38 0 i (by omega)).trans (by
          unfold updN
          by_cases q : i = j
          · subst q; rw [if_pos rfl]; simp (disch := omega) only [mset_h]
          · rw [if_neg q]; simp (disch := omega) only [mset_n]; exact i7 i (by omega))) (i2.same ((a3.1 30 0 16 (by omega)).trans (by simp (disch := omega) only [mset_n])) (fun k => (a3.1 39 0 k (by omega)).trans (by simp (disch := omega) only [mset_n]))) i3
        have m40 : MS U2 40 (178 * j) Kj := i5.part hr.1.toL (fun k h1 h2 => (b4.1 40 0 k (by unfold pG; omega)).trans ((a3.1 40 0 k (by omega)).trans (by simp (disch := omega) only [mset_n])))
        have mv2 : clV (d + 6 + m) 130 [.inr (.inr (40, 0)), .inl (178 * nI j), .inr (.inr (32, 0)), .inl 0] U2 = some (mcpy U2.1 40 0 (178 * j) 32 0 0 178, U2.2) := by
          have := c_mv40_32 (d := d + 5 + m) (o := 178 * j) (u := 0) (by omega) (by omega) U2
          rw [show d + 5 + m + 1 = d + 6 + m by omega] at this
          have e : (178 * nI j : Int32) = nI (178 * j) := by simp only [fa_lit, pk_mul]
          rw [e]
          exact this
        have a1' : clI (d + 6 + m) 189 [.inr (.inr (30, 0)), .inl (nI (sp j)), .inl (nI n)] (mset U.1 38 0 j (nI n), U.2) = some (nI (gnF (sp j) n Kj (kNX Kj)), U1) := a1
        have b1' : clV (d + 6 + m) 188 [.inr (.inr (30, 0)), .inl (nI j + 1)] U1 = some U2 := by rw [nI_1]; exact b1
        rw [bI_t e, if_neg one_ne, if_neg (nI_in' (N := 5) (by omega) (by omega)), if_neg (nI_in' (N := 5) (by omega) (by omega)), u1e, a1', bind_some', b1', bind_some', mv2, bind_some', e_M_give_IV_172, nI_1] at st
        have gf3 : Fr (pG j) U1 U2 := b4.mono (by unfold pG; omega)
        have gf4 : Fr (pG j) U2 (mcpy U2.1 40 0 (178 * j) 32 0 0 178, U2.2) := ⟨fun t i k q => by
          show mcpy U2.1 40 0 (178 * j) 32 0 0 178 t i k = _
          rw [mcpy_out (fun w => q (by unfold pG; omega))], rfl⟩
        refine ⟨(gv K sp c m (updN o j n) τ, (mcpy U2.1 40 0 (178 * j) 32 0 0 178, U2.2)), ⟨?_, b2.same (by show mcpy U2.1 40 0 (178 * j) 32 0 0 178 30 0 16 = _; rw [mcpy_out (by omega)]) (fun k => by show mcpy U2.1 40 0 (178 * j) 32 0 0 178 39 0 k = _; rw [mcpy_out (by omega)]), gv_gd K sp c m _ τ i3, m40.moved hr.1, m40.same (funext fun k => by simp (disch := omega) only [mcpy_out]), i6.trans (gf1.trans (gf2.trans (gf3.trans gf4))), fun i hi => ?_⟩, st⟩
        · show gv K sp c m (updN o j n) τ = _
          rw [fx, if_pos e]
        · show mcpy U2.1 40 0 (178 * j) 32 0 0 178 38 0 i = _
          rw [mcpy_out (by omega), b4.1 38 0 i (by unfold pG; omega), a3.1 38 0 i (by omega)]
          simp (disch := omega) only [mset_n]
          exact i7 i hi
      · rw [bI_f e, if_pos rfl, e_M_give_IV_172, nI_1] at st
        refine ⟨(τ, U), ⟨?_, i2, i3, i4, i5, i6, i7⟩, st⟩
        show τ = _
        rw [fx, if_neg e]) (σ, (mcpy W.1 32 0 0 40 0 (178 * j) 178, W.2)) ⟨rfl, hg.same (by show mcpy W.1 32 0 0 40 0 (178 * j) 178 30 0 16 = _; rw [mcpy_out (by omega)]) (fun k => by show mcpy W.1 32 0 0 40 0 (178 * j) 178 39 0 k = _; rw [mcpy_out (by omega)]), hb, hm.same (funext fun k => by simp (disch := omega) only [mcpy_out]), hm.moved hr.1, f0, fun i hi => by show mcpy W.1 32 0 0 40 0 (178 * j) 178 38 0 i = _; rw [mcpy_out (by omega)]; exact h38 i hi⟩
    dsimp only at i1 i2 i3 i4 i5 i6 i7
    refine ⟨U, clV_of ((e_M_give_IV_0 (d + 6 + m) _ W).trans ?_), ?_, i4, i6⟩
    · rw [h15, if_neg (fun w => by have := (nI_eq (by omega) (by omega)).mp w; omega), mv, bind_some']
      refine Eq.trans st ?_
      have nx : U.1 32 0 175 = nI (kNX K) := by rw [← nxj]; exact i4.nx
      show sem _ _ _ _ _ _ = _
      rw [e_M_give_IV_103, nx, if_neg (nI_nlt (Nat.le_refl _) (by omega))]
    · rw [i1] at i2
      exact i2
def pSh (t _i k : Nat) : Prop := t = 32 ∨ t = 40 ∨ t = 38 ∨ t = 39 ∨ t = 37 ∨ (t = 30 ∧ (k = 15 ∨ k = 16))
theorem c_M_makeShare {d : Nat} {V : Mem} {K : SKY} (h : MS V 32 0 K) (ok : okK K) (o : Nat → Nat) : ∃ W, clV (d + 12) m_M_makeShare [.inr (.inr (30, 0))] V = some W ∧ W.1 30 0 15 = nI (spS K (kNP K)).1 ∧ (∀ i, i < (spS K (kNP K)).1 → W.1 37 0 i = nI ((spS K (kNP K)).2 i)) ∧ GM W (gv K (spS K (kNP K)).2 (spS K (kNP K)).1 (spS K (kNP K)).1 o none) (spS K (kNP K)).1 ∧ MS W 32 0 K ∧ Fr pSh V W := by
  have hP := ok.1
  have c5 : ∀ n, (spS K n).1 ≤ 5 := fun n => by rw [spS_c]; omega
  have main : ∀ m p (W : Mem), p + m = kNP K → W.1 30 0 15 = nI (spS K p).1 → (∀ i, i < (spS K p).1 → W.1 37 0 i = nI ((spS K p).2 i)) → MS W 32 0 K → Fr pSh V W → ∃ (W' : Mem) (x1 : Int32), sem (d + 11) 191 7 [some (.inr (.inr (30, 0))), some (.inl (nI p))] [] W = sem (d + 11) 191 65 [some (.inr (.inr (30, 0))), some (.inl x1)] [] W' ∧ W'.1 30 0 15 = nI (spS K (kNP K)).1 ∧ (∀ i, i < (spS K (kNP K)).1 → W'.1 37 0 i = nI ((spS K (kNP K)).2 i)) ∧ MS W' 32 0 K ∧ Fr pSh V W' := by
    intro m
    induction m with
    | zero =>
      intro p W hp h1 h2 h3 h4
      obtain rfl : p = kNP K := by omega
      exact ⟨W, nI (kNP K), by rw [e_M_makeShare_7, h3.np, if_neg (nI_nlt (Nat.le_refl _) (by omega))], h1, h2, h3, h4⟩
    | succ m ih =>
      intro p W hp h1 h2 h3 h4
      have lb := bmx_lt ok p
      have lo := onesN_le (bm (kNX K) (fun y => kW K y p)) 12
      have cp := c5 p
      have st := e_M_makeShare_7 (d + 11) (nI p) W
      rw [h3.np, if_pos (nI_lt (by omega) (by omega)), h1] at st
      by_cases a : (spS K p).1 < 5
      · rw [if_pos (show nI (spS K p).1 < 5 from nI_lt (b := 5) a (by omega)), c_M_wanted h3 ok (by omega), bind_some', c_M_ones (by omega), bind_some'] at st
        by_cases b : shB K p
        · have q : spS K (p + 1) = ((spS K p).1 + 1, updN (spS K p).2 (spS K p).1 p) := if_pos ⟨a, b⟩
          rw [if_pos (show 1 < nI _ from nI_lt (a := 1) (by have b' : 2 ≤ onesN (bm (kNX K) (fun y => kW K y p)) 12 := b; omega) (by omega))] at st
          dsimp only at st
          rw [h1, if_neg (nI_in (N := 5) (by omega) (by omega)), nI_clamp (by omega)] at st
          simp (disch := omega) only [mset_n, h1, nI_1] at st
          rw [e_M_makeShare_59, nI_1] at st
          obtain ⟨W', x1, w1, w2⟩ := ih (p + 1) (mset (mset W.1 37 0 (spS K p).1 (nI p)) 30 0 15 (nI ((spS K p).1 + 1)), W.2) (by omega) (by rw [q]; simp (disch := omega) only [mset_h]) (fun i hi => by
            rw [q] at hi ⊢
            have hi' : i < (spS K p).1 + 1 := hi
            show (mset (mset W.1 37 0 (spS K p).1 (nI p)) 30 0 15 (nI ((spS K p).1 + 1))) 37 0 i = nI (updN (spS K p).2 (spS K p).1 p i)
            unfold updN
            by_cases e : i = (spS K p).1
            · subst e; rw [if_pos rfl]; simp (disch := omega) only [mset_n, mset_h]
            · rw [if_neg e]; simp (disch := omega) only [mset_n]; exact h2 i (by omega)) (h3.same (funext fun k => by simp (disch := omega) only [mset_n])) ((h4.set (by unfold pSh; omega)).set (by unfold pSh; omega))
          exact ⟨W', x1, st.trans w1, w2⟩
        · have q : spS K (p + 1) = spS K p := if_neg (fun w => b w.2)
          rw [if_neg (show ¬ 1 < nI _ from nI_nlt (a := 1) (by have b' : ¬ 2 ≤ onesN (bm (kNX K) (fun y => kW K y p)) 12 := b; omega) (by omega)), e_M_makeShare_59, nI_1] at st
          obtain ⟨W', x1, w1, w2⟩ := ih (p + 1) W (by omega) (by rw [q]; exact h1) (by rw [q]; exact h2) h3 h4
          exact ⟨W', x1, st.trans w1, w2⟩
      · have q := spS_full a (kNP K) (by omega)
        rw [if_neg (show ¬ nI (spS K p).1 < 5 from nI_nlt (b := 5) (by omega) (by omega))] at st
        exact ⟨W, nI p, st, by rw [q]; exact h1, by rw [q]; exact h2, h3, h4⟩
  obtain ⟨W, x1, w1, w2, w3, w4, w5⟩ := main (kNP K) 0 (mset V.1 30 0 15 0, V.2) (by omega) (by simp (disch := omega) only [mset_h]; rfl) (fun i hi => absurd hi (Nat.not_lt_zero _)) (h.same (funext fun k => by simp (disch := omega) only [mset_n])) (Fr.rfl.set (by unfold pSh; omega))
  have cc := c5 (kNP K)
  have sl := fun j hj => ((spS_p K (kNP K)).1 j hj).1
  generalize hC : (spS K (kNP K)).1 = c at *
  generalize (spS K (kNP K)).2 = sp at *
  obtain ⟨W', u1, u2, u3, u4⟩ := c_M_giveIV (d := d + 5 - c) (c := c) cc ok sl c 0 o none K (mset W.1 30 0 16 (-1), W.2) (by omega) (RK_0 ok sp o) (w4.same (funext fun k => by simp (disch := omega) only [mset_n])) (by simp (disch := omega) only [mset_n]; exact w2) (fun i hi => by simp (disch := omega) only [mset_n]; exact w3 i hi) (fun i hi => by omega) (by show (mset W.1 30 0 16 (-1)) 30 0 16 = -1; simp (disch := omega) only [mset_h]) (fun g b e => by cases e)
  rw [show d + 5 - c + 6 + c = d + 11 by omega] at u1
  have f2 : Fr pSh (mset W.1 30 0 16 (-1), W.2) W' := u4.mono (by unfold pG pSh; omega)
  refine ⟨W', clV_of ((e_M_makeShare_0 (d + 11) V).trans (w1.trans ?_)), (u4.1 30 0 15 (by unfold pG; omega)).trans (by simp (disch := omega) only [mset_n]; exact w2), fun i hi => (u4.1 37 0 i (by unfold pG; omega)).trans (by simp (disch := omega) only [mset_n]; exact w3 i hi), u2, u3, w5.trans ((Fr.rfl.set (by unfold pSh; omega)).trans f2)⟩
  have u1' : clV (d + 11) 188 [.inr (.inr (30, 0)), .inl 0] (mset W.1 30 0 16 (-1), W.2) = some W' := u1
  rw [e_M_makeShare_65, u1', bind_some']
