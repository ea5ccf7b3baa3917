/-! give -/
def rW (K : SKY) (w : Nat → Nat → Bool) : SKY := (K.1, K.2.1, K.2.2.1, w, K.2.2.2.2)
theorem lessK_rW (x p : Nat) (w : Nat → Nat → Bool) : ∀ n (K : SKY), lessK x p n (rW K w) = rW (lessK x p n K) w := by
  intro n
  induction n with
  | zero => intro K; rfl
  | succ n ih =>
    intro K
    show lessK x p n (if kF K x n = p ∨ kG K x n = p then eraseK (rW K w) x n else rW K w) = rW (lessK x p n (if kF K x n = p ∨ kG K x n = p then eraseK K x n else K)) w
    by_cases e : kF K x n = p ∨ kG K x n = p
    · rw [if_pos e, if_pos e]
      exact ih (eraseK K x n)
    · rw [if_neg e, if_neg e]
      exact ih K
theorem lose_ok {K : SKY} (ok : okK K) {x p : Nat} (hx : x < kNX K) : okK (lessK x p (kLn K x) (setW K x p false)) := lessK_ok x p (kLn K x) (setW K x p false) (by
  have : setW (setW K x p false) x p true = setW K x p true := by
    have e : (fun y z => if y = x ∧ z = p then true else if y = x ∧ z = p then false else kW K y z) = (fun y z => if y = x ∧ z = p then true else kW K y z) := by
      funext y z
      by_cases q : y = x ∧ z = p
      · rw [if_pos q, if_pos q]
      · rw [if_neg q, if_neg q, if_neg q]
    show (K.1, K.2.1, K.2.2.1, (fun y z => if y = x ∧ z = p then true else if y = x ∧ z = p then false else kW K y z), K.2.2.2.2) = _
    rw [e]
    rfl
  rw [this]
  exact setW_on ok x p) hx (Nat.le_refl _) (fun i w1 w2 => absurd w2 (Nat.not_lt.mpr w1))
def gl1 (p a : Nat) (K : SKY) : Nat → SKY
  | 0 => K
  | x + 1 => if x = a then gl1 p a K x else lessK x p (kLn (gl1 p a K x) x) (setW (gl1 p a K x) x p false)
def swW (p a n : Nat) (K : SKY) : Nat → Nat → Bool := fun y z => if z = p ∧ y < n ∧ ¬ y = a then false else kW K y z
theorem gl1_eq (p a : Nat) (K : SKY) : ∀ n, gl1 p a K n = rW (gtF p a K n) (swW p a n K) := by
  intro n
  induction n with
  | zero =>
    have : swW p a 0 K = K.2.2.2.1 := by
      funext y z
      show (if z = p ∧ y < 0 ∧ ¬ y = a then false else kW K y z) = _
      rw [if_neg (by omega)]
      rfl
    show K = rW K (swW p a 0 K)
    rw [this]
    rfl
  | succ n ih =>
    by_cases e : n = a
    · have q1 : gl1 p a K (n + 1) = gl1 p a K n := if_pos e
      have q2 : gtF p a K (n + 1) = gtF p a K n := if_pos e
      rw [q1, q2, ih]
      have : swW p a n K = swW p a (n + 1) K := by
        funext y z
        unfold swW
        by_cases w : z = p ∧ y < n ∧ ¬ y = a
        · rw [if_pos w, if_pos ⟨w.1, by omega, w.2.2⟩]
        · rw [if_neg w, if_neg (by omega)]
      rw [this]
    · have q1 : gl1 p a K (n + 1) = lessK n p (kLn (gl1 p a K n) n) (setW (gl1 p a K n) n p false) := if_neg e
      have q2 : gtF p a K (n + 1) = lessK n p (kLn (gtF p a K n) n) (gtF p a K n) := if_neg e
      rw [q1, q2, ih]
      have : setW (rW (gtF p a K n) (swW p a n K)) n p false = rW (gtF p a K n) (swW p a (n + 1) K) := by
        show rW (gtF p a K n) (fun y z => if y = n ∧ z = p then false else swW p a n K y z) = _
        congr 1
        funext y z
        unfold swW
        by_cases w : y = n ∧ z = p
        · rw [if_pos w, if_pos ⟨w.2, by omega, by omega⟩]
        · rw [if_neg w]
          by_cases v : z = p ∧ y < n ∧ ¬ y = a
          · rw [if_pos v, if_pos ⟨v.1, by omega, v.2.2⟩]
          · rw [if_neg v, if_neg (by omega)]
      rw [this]
      exact lessK_rW n p _ _ _
theorem gl1_p {K : SKY} (ok : okK K) (p a : Nat) : ∀ n, n ≤ kNX K → okK (gl1 p a K n) ∧ (gl1 p a K n).1 = K.1 := by
  intro n
  induction n with
  | zero => intro _; exact ⟨ok, rfl⟩
  | succ n ih =>
    intro hn
    obtain ⟨h1, h2⟩ := ih (by omega)
    by_cases e : n = a
    · have q1 : gl1 p a K (n + 1) = gl1 p a K n := if_pos e
      rw [q1]
      exact ⟨h1, h2⟩
    · have q1 : gl1 p a K (n + 1) = lessK n p (kLn (gl1 p a K n) n) (setW (gl1 p a K n) n p false) := if_neg e
      rw [q1]
      exact ⟨lose_ok h1 (by rw [nx_of h2]; omega), (lessK_fix n p _ _).1.trans h2⟩
theorem cgiveIn {d j p a s : Nat} (hj : j < 5) (ha : a < 100) {V : Mem} {K : SKY} (h : CS V 0 K) (ok : okK K) (hp : p < kNP K) (h12 : V.1 12 0 j = nI a) (h11 : V.1 11 0 j = nI p) : ∃ W, sem (d + 3) 104 53 [some (.inr (.inr (0, 0))), some (.inl (nI s)), some (.inl (nI j)), some (.inl 0)] [] V = sem (d + 3) 104 40 [some (.inr (.inr (0, 0))), some (.inl (nI (s + gnF p a K (kNX K)))), some (.inl (nI (j + 1))), none] [] W ∧ CS W 0 (gl1 p a K (kNX K)) ∧ FrC 0 V W := by
  have hX := ok.2.1
  have hP := ok.1
  obtain ⟨W, ⟨w1, w2⟩, w3⟩ := loopI (kNX K) (fun n U => CS U 0 (gl1 p a K n) ∧ FrC 0 V U) (fun n U => sem (d + 3) 104 53 [some (.inr (.inr (0, 0))), some (.inl (nI (s + gnF p a K n))), some (.inl (nI j)), some (.inl (nI n))] [] U) (fun n U hn hU => by
    obtain ⟨u1, u2⟩ := hU
    obtain ⟨g1, g2⟩ := gl1_p ok p a n (by omega)
    have nx := u1.1.2.1
    rw [nx_of g2] at nx
    have e12 : U.1 12 0 j = nI a := (u2.1 12 0 j (by omega) (by omega)).trans h12
    have e11 : U.1 11 0 j = nI p := (u2.1 11 0 j (by omega) (by omega)).trans h11
    have st := e_C_give_53 (d + 3) (nI (s + gnF p a K n)) (nI j) (nI n) U
    rw [nx, if_pos (nI_lt hn (by omega)), if_neg (nI_in (N := 5) (by omega) (by omega)), nI_clamp (n := j) (by omega), e12] at st
    by_cases e : n = a
    · have q1 : gl1 p a K (n + 1) = gl1 p a K n := if_pos e
      have qn : gnF p a K (n + 1) = gnF p a K n := if_pos e
      rw [if_pos (by rw [e]), e_C_give_103, nI_1] at st
      exact ⟨U, ⟨by rw [q1]; exact u1, u2⟩, by rw [qn]; exact st⟩
    · have q1 : gl1 p a K (n + 1) = lessK n p (kLn (gl1 p a K n) n) (setW (gl1 p a K n) n p false) := if_neg e
      have qn : gnF p a K (n + 1) = gnF p a K n + (kLn (gtF p a K n) n - kLn (lessK n p (kLn (gtF p a K n) n) (gtF p a K n)) n) := if_neg e
      have hn2 : n < kNX (gl1 p a K n) := by rw [nx_of g2]; exact hn
      obtain ⟨U', v1, v2, v3⟩ := c_lose (d := d) u1 g1 hn2 (show p < kNP (gl1 p a K n) by rw [np_of g2]; exact hp)
      rw [show n + 6 * 0 = n by omega] at v1
      have le := lessK_le n p (kLn (gl1 p a K n) n) (setW (gl1 p a K n) n p false)
      have lw : kLn (setW (gl1 p a K n) n p false) n = kLn (gl1 p a K n) n := rfl
      have l1 : kLn (gl1 p a K n) n = kLn (gtF p a K n) n := by rw [gl1_eq]; rfl
      have l2 : kLn (lessK n p (kLn (gl1 p a K n) n) (setW (gl1 p a K n) n p false)) n = kLn (lessK n p (kLn (gtF p a K n) n) (gtF p a K n)) n := by
        rw [l1, gl1_eq]
        show kLn (lessK n p (kLn (gtF p a K n) n) (rW (gtF p a K n) (fun y z => if y = n ∧ z = p then false else swW p a n K y z))) n = _
        rw [lessK_rW]
        rfl
      rw [if_neg (fun w => e ((nI_eq (by omega) (by omega)).mp w)), if_neg (nI_in (N := 6) (by omega) (by omega)), if_neg (nI_in' (N := 5) (by omega) (by omega)), nI_clamp (by omega), e11, shl12 (by omega), v1, bind_some', pk_sub (by omega), nI_add, l2, l1, Nat.add_assoc, e_C_give_103, nI_1] at st
      exact ⟨U', ⟨by rw [q1]; exact v2, u2.trans v3⟩, by rw [qn]; exact st⟩) V ⟨h, FrC.rfl⟩
  refine ⟨W, Eq.trans w3 ?_, w1, w2⟩
  have nx := w1.1.2.1
  rw [nx_of (gl1_p ok p a (kNX K) (Nat.le_refl _)).2] at nx
  show sem _ _ _ _ _ _ = _
  rw [e_C_give_53, nx, if_neg (nI_nlt (Nat.le_refl _) (by omega)), nI_1]
theorem MS.rW {V : Mem} {p : Nat} {K : SKY} (h : MS V 32 0 K) (ok : okK K) (hp : p < kNP K) {w : Nat → Nat → Bool} (hw : ∀ y z, ¬ z = p → w y z = kW K y z) {v : Int32} (hv : v = nI (bm (kNX K) (fun y => w y p))) : MS (mset V.1 32 0 (3 * p + 2) v, V.2) 32 0 (rW K w) := by
  have hP := ok.1
  have hX := ok.2.1
  obtain ⟨⟨h1, h2, h3, h4⟩, h5, h6⟩ := h
  refine ⟨⟨?_, ?_, ?_, ?_⟩, fun q hq => ?_, fun y hy => ?_⟩
  · simp (disch := omega) only [mset_n]; exact h1
  · simp (disch := omega) only [mset_n]; exact h2
  · simp (disch := omega) only [mset_n]; exact h3
  · simp (disch := omega) only [mset_n]; exact h4
  · have hq' : q < kNP K := hq
    obtain ⟨g1, g2, g3⟩ := h5 q hq
    refine ⟨?_, ?_, ?_⟩
    · simp (disch := omega) only [mset_n]; exact g1
    · simp (disch := omega) only [mset_n]; exact g2
    · by_cases e : q = p
      · subst e
        simp (disch := omega) only [mset_h]
        rw [hv]
        rfl
      · simp (disch := omega) only [mset_n]
        rw [g3]
        show nI (bm (kNX K) _) = nI (bm (kNX K) _)
        congr 1
        apply bm_ext
        intro z hz
        exact (hw z q e).symm
  · have hy' : y < kNX K := hy
    have hl := (ok.2.2.2.2 y hy').1.2.2
    obtain ⟨⟨g1, g2, g3⟩, g4⟩ := h6 y hy
    refine ⟨⟨?_, ?_, ?_⟩, fun i hi => ⟨?_, ?_⟩⟩
    · simp (disch := omega) only [mset_n]; exact g1
    · simp (disch := omega) only [mset_n]; exact g2
    · simp (disch := omega) only [mset_n]; exact g3
    · simp (disch := omega) only [mset_n]; exact (g4 i hi).1
    · simp (disch := omega) only [mset_n]; exact (g4 i hi).2
def giv (K : SKY) (sp b : Nat → Nat) : Nat → SKY
  | 0 => K
  | k + 1 => gl1 (sp k) (b k) (giv K sp b k) (kNX K)
def gvn (K : SKY) (sp b : Nat → Nat) : Nat → Nat
  | 0 => 0
  | k + 1 => gvn K sp b k + gnF (sp k) (b k) (giv K sp b k) (kNX K)
theorem giv_p {K : SKY} (ok : okK K) {sp b : Nat → Nat} {c : Nat} (hinj : ∀ i j, i < j → j < c → sp i < sp j) (hb : rowOK K sp c b) : ∀ k, k ≤ c → okK (giv K sp b k) ∧ (giv K sp b k).1 = K.1 ∧ ∀ j, k ≤ j → j < c → kW (giv K sp b k) (b j) (sp j) = true := by
  intro k
  induction k with
  | zero => intro _; exact ⟨ok, rfl, fun j _ hj => (hb j hj).2⟩
  | succ k ih =>
    intro hk
    obtain ⟨h1, h2, h3⟩ := ih (by omega)
    obtain ⟨g1, g2⟩ := gl1_p h1 (sp k) (b k) (kNX K) (by rw [nx_of h2]; exact Nat.le_refl _)
    refine ⟨g1, g2.trans h2, fun j hj hc => ?_⟩
    have lt := hinj k j (by omega) hc
    show kW (gl1 (sp k) (b k) (giv K sp b k) (kNX K)) (b j) (sp j) = true
    rw [gl1_eq]
    show (if sp j = sp k ∧ b j < kNX K ∧ ¬ b j = b k then false else kW (giv K sp b k) (b j) (sp j)) = true
    rw [if_neg (by omega)]
    exact h3 j (by omega) hc
theorem cgive {d c : Nat} (hc : c ≤ 5) {V : Mem} {K : SKY} (h : CS V 0 K) (ok : okK K) {sp b : Nat → Nat} (hsp : ∀ j, j < c → sp j < kNP K) (hinj : ∀ i j, i < j → j < c → sp i < sp j) (hb : rowOK K sp c b) (h10 : V.1 10 0 2 = nI c) (h11 : ∀ j, j < c → V.1 11 0 j = nI (sp j)) (h12 : ∀ j, j < c → V.1 12 0 j = nI (b j)) : ∃ W, sem (d + 3) 104 40 [some (.inr (.inr (0, 0))), some (.inl 0), some (.inl 0), none] [] V = some (some (.inl (nI (gvn K sp b c))), W) ∧ CS W 0 (giv K sp b c) ∧ FrC 0 V W := by
  have hX := ok.2.1
  obtain ⟨W, ⟨w1, w2⟩, w3⟩ := loopI c (fun n U => CS U 0 (giv K sp b n) ∧ FrC 0 V U) (fun n U => sem (d + 3) 104 40 [some (.inr (.inr (0, 0))), some (.inl (nI (gvn K sp b n))), some (.inl (nI n)), none] [] U) (fun n U hn hU => by
    obtain ⟨u1, u2⟩ := hU
    obtain ⟨g1, g2, g3⟩ := giv_p ok hinj hb n (by omega)
    have bn := (hb n hn).1
    obtain ⟨U', v1, v2, v3⟩ := cgiveIn (d := d) (j := n) (p := sp n) (a := b n) (s := gvn K sp b n) (by omega) (by omega) u1 g1 (by rw [np_of g2]; exact hsp n hn) ((u2.1 12 0 n (by omega) (by omega)).trans (h12 n hn)) ((u2.1 11 0 n (by omega) (by omega)).trans (h11 n hn))
    rw [nx_of g2] at v1 v2
    have st := e_C_give_40 (d + 3) (nI (gvn K sp b n)) (nI n) U
    rw [u2.1 10 0 2 (by omega) (by omega), h10, if_pos (nI_lt hn (by omega))] at st
    exact ⟨U', ⟨v2, u2.trans v3⟩, st.trans v1⟩) V ⟨h, FrC.rfl⟩
  refine ⟨W, Eq.trans w3 ?_, w1, w2⟩
  show sem _ _ _ _ _ _ = _
  rw [e_C_give_40, w2.1 10 0 2 (by omega) (by omega), h10, if_neg (nI_nlt (Nat.le_refl _) (by omega))]
theorem mgive {d c : Nat} (hc : c ≤ 5) {V : Mem} {K : SKY} (h : MS V 32 0 K) (ok : okK K) {sp b : Nat → Nat} (hsp : ∀ j, j < c → sp j < kNP K) (hinj : ∀ i j, i < j → j < c → sp i < sp j) (hb : rowOK K sp c b) (h15 : V.1 30 0 15 = nI c) (h37 : ∀ j, j < c → V.1 37 0 j = nI (sp j)) (h39 : ∀ j, j < c → V.1 39 0 j = nI (b j)) : ∃ W, sem (d + 4) 193 26 [some (.inr (.inr (30, 0))), some (.inl 0), some (.inl 0)] [] V = some (some (.inl (nI (gvn K sp b c))), W) ∧ MS W 32 0 (giv K sp b c) ∧ FrM V W := by
  have hX := ok.2.1
  have hP := ok.1
  obtain ⟨W, ⟨w1, w2⟩, w3⟩ := loopI c (fun n U => MS U 32 0 (giv K sp b n) ∧ FrM V U) (fun n U => sem (d + 4) 193 26 [some (.inr (.inr (30, 0))), some (.inl (nI (gvn K sp b n))), some (.inl (nI n))] [] U) (fun n U hn hU => by
    obtain ⟨u1, u2⟩ := hU
    obtain ⟨g1, g2, g3⟩ := giv_p ok hinj hb n (by omega)
    obtain ⟨bn, bw⟩ := hb n hn
    have sn := hsp n hn
    obtain ⟨U', v1, v2, v3⟩ := c_M_giveTo (d := d) (p := sp n) (a := b n) (by omega) (by omega) u1 g1
    rw [nx_of g2] at v1 v2
    have st := e_M_give_I_26 (d + 4) (nI (gvn K sp b n)) (nI n) U
    rw [u2.1 30 0 15 (by omega), h15, if_pos (nI_lt hn (by omega)), if_neg (nI_in (N := 5) (by omega) (by omega)), if_neg (nI_in (N := 5) (by omega) (by omega)), nI_clamp (by omega), u2.1 37 0 n (by omega), h37 n hn, u2.1 39 0 n (by omega), h39 n hn, v1, bind_some', if_neg (nI_in' (N := 5) (by omega) (by omega)), if_neg (nI_in' (N := 5) (by omega) (by omega))] at st
    dsimp only at st
    have e37 : U'.1 37 0 n = nI (sp n) := (v3.1 37 0 n (by omega)).trans ((u2.1 37 0 n (by omega)).trans (h37 n hn))
    have e39 : U'.1 39 0 n = nI (b n) := (v3.1 39 0 n (by omega)).trans ((u2.1 39 0 n (by omega)).trans (h39 n hn))
    have ix : (3 * nI (sp n) + 2 : Int32) = nI (3 * sp n + 2) := by simp only [fa_lit, pk_mul, nI_add]
    rw [e37, e39, ix, if_neg (nI_in (N := 178) (by omega) (by omega)), nI_clamp (by omega), shl12 (by omega), nI_add, nI_1] at st
    obtain ⟨t1, t2, t3, t4, t5, t6⟩ := gtF_p g1 (sp n) (b n) (kNX K) (by rw [nx_of g2]; exact Nat.le_refl _)
    have tw : ∀ y z, kW (gtF (sp n) (b n) (giv K sp b n) (kNX K)) y z = kW (giv K sp b n) y z := fun y z => by unfold kW; rw [t5]
    refine ⟨(mset U'.1 32 0 (3 * sp n + 2) (nI (2 ^ b n)), U'.2), ⟨?_, u2.trans (v3.trans ⟨fun t i k q => by simp (disch := omega) only [mset_n], rfl⟩)⟩, st⟩
    show MS _ 32 0 (gl1 (sp n) (b n) (giv K sp b n) (kNX K))
    rw [gl1_eq]
    refine v2.rW t1 (by rw [np_of t2, np_of g2]; exact sn) (fun y z hz => ?_) ?_
    · rw [tw]
      exact if_neg (fun w => hz w.1)
    · congr 1
      rw [nx_of t2, nx_of g2]
      apply Nat.eq_of_testBit_eq
      intro k
      rw [Nat.testBit_two_pow, bm_test]
      have gb := g3 n (Nat.le_refl _) hn
      unfold swW
      by_cases e : k = b n
      · subst e
        rw [if_neg (by omega), gb]
        simp [bn]
      · have e' : ¬ b n = k := fun w => e w.symm
        by_cases l : k < kNX K
        · rw [if_pos ⟨rfl, l, e⟩]
          simp [e']
        · simp [l, e']) V ⟨h, FrM.rfl⟩
  refine ⟨W, Eq.trans w3 ?_, w1, w2⟩
  show sem _ _ _ _ _ _ = _
  rw [e_M_give_I_26, w2.1 30 0 15 (by omega), h15, if_neg (nI_nlt (Nat.le_refl _) (by omega))]
theorem foldX_ind {body : Nat → Option (Nat × (Nat → Nat)) → Option (Nat × (Nat → Nat))} {want : Nat → Bool} (P : Option (Nat × (Nat → Nat)) → Prop) : ∀ n, (∀ x τ, x < n → want x = true → P τ → P (body x τ)) → ∀ σ, P σ → P (foldX body want n σ) := by
  intro n
  induction n with
  | zero => intro _ σ h; exact h
  | succ n ih =>
    intro hb σ h
    have r := ih (fun x τ hx => hb x τ (by omega)) σ h
    show P (if want n = true then _ else _)
    by_cases e : want n = true
    · rw [if_pos e]; exact hb n _ (by omega) e r
    · rw [if_neg e]; exact r
theorem gv_row {K : SKY} {sp : Nat → Nat} {c : Nat} : ∀ m o σ, m ≤ c → (∀ j, j < c - m → o j < kNX K ∧ kW K (o j) (sp j) = true) → (∀ g b, σ = some (g, b) → rowOK K sp c b) → ∀ g b, gv K sp c m o σ = some (g, b) → rowOK K sp c b := by
  intro m
  induction m with
  | zero =>
    intro o σ _ ho hs g b h
    have h' : updS σ (lfP K sp o c (kNX K)) o = some (g, b) := h
    cases σ with
    | none =>
      have e : some (lfP K sp o c (kNX K), o) = some (g, b) := h'
      simp only [Option.some.injEq, Prod.mk.injEq] at e
      rw [← e.2]
      exact fun j hj => ho j (by omega)
    | some gb =>
      obtain ⟨g0, b0⟩ := gb
      have e : (if g0 < lfP K sp o c (kNX K) then some (lfP K sp o c (kNX K), o) else some (g0, b0)) = some (g, b) := h'
      by_cases q : g0 < lfP K sp o c (kNX K)
      · rw [if_pos q] at e
        simp only [Option.some.injEq, Prod.mk.injEq] at e
        rw [← e.2]
        exact fun j hj => ho j (by omega)
      · rw [if_neg q] at e
        exact hs g b e
  | succ m ih =>
    intro o σ hm ho hs
    refine foldX_ind (P := fun τ => ∀ g b, τ = some (g, b) → rowOK K sp c b) (kNX K) (fun x τ hx hw ht => ih (updN o (c - (m + 1)) x) τ (by omega) (fun j hj => ?_) ht) σ hs
    unfold updN
    by_cases e : j = c - (m + 1)
    · rw [if_pos e, e]; exact ⟨hx, hw⟩
    · rw [if_neg e]; exact ho j (by omega)
theorem pm_give (SL : Nat) (xs : Nat → Int32) : PMI SL xs m_C_give m_M_give_I [] := by
  intro V h
  obtain ⟨K, k1, k2, k3, k4⟩ := h.1
  have hX := k1.2.1
  have hP := k1.1
  by_cases nx : kNX K = 0
  · refine ⟨-5, CRf V 3, MRf (CRf V 3) 3, clI_of ((e_C_give_0 29 V).trans ?_), h.vok.crf 3, clI_of ((e_M_give_I_0 29 _).trans ?_), h.ref (by omega)⟩
    · rw [k2.1.2.1, if_pos (by rw [nx]; rfl), c_C_ref5, bind_some']
    · rw [(k3.crf 3).nx, if_pos (by rw [nx]; rfl), c_M_ref5, bind_some']
  · have c5 : (spS K (kNP K)).1 ≤ 5 := by rw [spS_c]; omega
    obtain ⟨sq1, sq2⟩ := spS_p K (kNP K)
    have gne := gv_ne (K := K) (sp := (spS K (kNP K)).2) (c := (spS K (kNP K)).1) (fun j hj => ⟨_, fo_ok k1 (sq1 j hj).2⟩) (spS K (kNP K)).1 (fun j => nxW (wtN K ((spS K (kNP K)).2 j)) 0) none (Nat.le_refl _)
    have grow := gv_row (K := K) (sp := (spS K (kNP K)).2) (c := (spS K (kNP K)).1) (spS K (kNP K)).1 (fun j => nxW (wtN K ((spS K (kNP K)).2 j)) 0) none (Nat.le_refl _) (fun j hj => by omega) (fun g b e => by cases e)
    obtain ⟨V1, v1, v2, v3, v4, v5⟩ := c_work (d := 23) k2 k1 (by omega)
    cases hσ : gv K (spS K (kNP K)).2 (spS K (kNP K)).1 (spS K (kNP K)).1 (fun j => nxW (wtN K ((spS K (kNP K)).2 j)) 0) none with
    | none => exact absurd hσ gne
    | some gb =>
      obtain ⟨g, b⟩ := gb
      rw [hσ] at v4
      have hb := grow g b hσ
      obtain ⟨V2, u1, u2, u3⟩ := cgive (d := 26) c5 (k2.fr k1 v5 (by unfold pW; omega)) k1 (fun j hj => (sq1 j hj).1) sq2 hb v2 v3 v4.2
      have m2 : MS V2 32 0 K := (k3.fr v5 (by unfold pW; omega)).frc u3
      obtain ⟨W, w1, w2, w3, w4, w5, w6⟩ := c_M_makeShare (d := 17) m2 k1 (fun j => nxW (wtN K ((spS K (kNP K)).2 j)) 0)
      rw [hσ] at w4
      obtain ⟨W2, y1, y2, y3⟩ := mgive (d := 25) c5 w5 k1 (fun j hj => (sq1 j hj).1) sq2 hb w2 w3 w4.2
      obtain ⟨g1, g2, g3⟩ := giv_p k1 sq2 hb (spS K (kNP K)).1 (Nat.le_refl _)
      have fC : Fr (fun t i k => pW t i k ∨ pSh t i k ∨ ((t = 1 ∨ t = 2 ∨ t = 3) ∧ i = 0) ∨ ((t = 5 ∨ t = 6 ∨ t = 7) ∧ i < 6)) V1 V2 := ⟨fun t i k q => u3.1 t i k (fun w => q (Or.inr (Or.inr (Or.inl w)))) (fun w => q (Or.inr (Or.inr (Or.inr ⟨w.1, by omega⟩)))), u3.2⟩
      have fA : Fr (fun t i k => pW t i k ∨ pSh t i k ∨ ((t = 1 ∨ t = 2 ∨ t = 3) ∧ i = 0) ∨ ((t = 5 ∨ t = 6 ∨ t = 7) ∧ i < 6)) V V2 := (v5.mono (fun t i k w => Or.inl w)).trans fC
      have fM : Fr (fun t i k => pW t i k ∨ pSh t i k ∨ ((t = 1 ∨ t = 2 ∨ t = 3) ∧ i = 0) ∨ ((t = 5 ∨ t = 6 ∨ t = 7) ∧ i < 6)) V2 W2 := (w6.mono (fun t i k w => Or.inr (Or.inl w))).trans (y3.fr (fun i k => Or.inr (Or.inl (Or.inl rfl))))
      refine ⟨nI (gvn K (spS K (kNP K)).2 b (spS K (kNP K)).1), V2, W2, clI_of ((e_C_give_0 29 V).trans ?_), h.vok.fr fA (by unfold pW pSh dp8; omega), clI_of ((e_M_give_I_0 29 _).trans ?_), h.gen (K := K) (K' := giv K (spS K (kNP K)).2 b (spS K (kNP K)).1) k4 (by rw [nx_of g2]; exact Nat.le_refl _) g1 (fA.trans fM) (by unfold pW pSh dpS dp2 dp3 dp4 dp5 dp6 dp7 dp8; omega) (u2.frame (by rw [nx_of g2]; exact hX) (fun t i k q => ?_)) y2⟩
      · rw [k2.1.2.1, if_neg (nI_ne0 (by omega) (by omega)), v1, bind_some']
        exact u1
      · rw [m2.nx, if_neg (nI_ne0 (by omega) (by omega)), w1, bind_some']
        exact y1
      · exact (y3.1 t i k (by omega)).trans (w6.1 t i k (by unfold pSh; omega))
