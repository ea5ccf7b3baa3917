/-! SHARING: the class, worths and rows -/
def mkP (K : SKY) (sp : Nat → Nat) (c p keep : Nat) : Prop := ∀ j, j < c → keep.testBit j = true → (wtN K (sp j)).testBit p = true
theorem c_mayKeep {d c p keep : Nat} (hc : c ≤ 5) (hp : p < 6) (hk : keep < 32) {V : Mem} {K : SKY} (ok : okK K) {sp o : Nat → Nat} (h : SHm K c sp o V) : ∃ b : Bool, clI (d + 1) m_Sharing_mayKeep [.inr (.inr (10, 0)), .inl (nI p), .inl (nI keep)] V = some (bI (b = true), V) ∧ (b = true ↔ mkP K sp c p keep) := by
  obtain ⟨s1, s2, s3⟩ := h
  have main : ∀ m j, j + m = c → ∃ b : Bool, sem d 25 2 [some (.inr (.inr (10, 0))), some (.inl (nI p)), some (.inl (nI keep)), some (.inl (nI j))] [] V = some (some (.inl (bI (b = true))), V) ∧ (b = true ↔ ∀ q, j ≤ q → q < c → keep.testBit q = true → (wtN K (sp q)).testBit p = true) := by
    intro m
    induction m with
    | zero =>
      intro j hj
      refine ⟨true, ?_, fun _ q h1 h2 => by omega, fun _ => rfl⟩
      rw [e_Sharing_mayKeep_2, s1, if_neg (nI_nlt (by omega) (by omega))]
      rfl
    | succ m ih =>
      intro j hj
      obtain ⟨b, b1, b2⟩ := ih (j + 1) (by omega)
      have wl := wtN_lt ok (sp j)
      have st := e_Sharing_mayKeep_2 d (nI p) (nI keep) (nI j) V
      rw [s1, if_pos (nI_lt (by omega) (by omega)), bitAt6 (by omega) (by omega), e_Sharing_mayKeep_33, nI_1] at st
      by_cases e : keep.testBit j = true
      · rw [bI_t e, if_neg one_ne, if_neg (nI_in (N := 5) (by omega) (by omega)), nI_clamp (by omega), (s2 j (by omega)).2.1, bitAt6 (by omega) (by omega)] at st
        by_cases a : (wtN K (sp j)).testBit p = true
        · rw [bI_t a, if_neg one_ne] at st
          refine ⟨b, st.trans b1, b2.trans ⟨fun w q h1 h2 h3 => ?_, fun w q h1 h2 h3 => w q (by omega) h2 h3⟩⟩
          by_cases e2 : q = j
          · subst e2; exact a
          · exact w q (by omega) h2 h3
        · rw [bI_f a, if_pos rfl] at st
          refine ⟨false, st.trans ?_, fun w => absurd w (by simp), fun w => absurd (w j (by omega) (by omega) e) a⟩
          rfl
      · rw [bI_f e, if_pos rfl] at st
        refine ⟨b, st.trans b1, b2.trans ⟨fun w q h1 h2 h3 => ?_, fun w q h1 h2 h3 => w q (by omega) h2 h3⟩⟩
        by_cases e2 : q = j
        · subst e2; exact absurd h3 e
        · exact w q (by omega) h2 h3
  obtain ⟨b, b1, b2⟩ := main c 0 (by omega)
  exact ⟨b, clI_of ((e_Sharing_mayKeep_0 d _ _ V).trans b1), b2.trans ⟨fun w j h1 h2 => w j (by omega) h1 h2, fun w j _ h1 h2 => w j h1 h2⟩⟩
def pbN (sp : Nat → Nat) (keep : Nat) : Nat → Nat
  | 0 => 0
  | j + 1 => if keep.testBit j = true then pbN sp keep j else pbN sp keep j ||| 2 ^ sp j
theorem pbN_lt {sp : Nat → Nat} {keep : Nat} : ∀ n, (∀ j, j < n → sp j < 12) → pbN sp keep n < 4096 := by
  intro n
  induction n with
  | zero => intro _; show 0 < 4096; omega
  | succ n ih =>
    intro h
    have := ih (fun j hj => h j (by omega))
    unfold pbN
    split
    · exact this
    · exact Nat.or_lt_two_pow (n := 12) this (pw_lt (h n (by omega)))
theorem pbN_keep {sp : Nat → Nat} {keep : Nat} {l : Nat × Nat} : ∀ n, keepB (pbN sp keep n) l = true ↔ ∀ j, j < n → keep.testBit j = true ∨ untP (sp j) l = true := by
  intro n
  induction n with
  | zero =>
    refine ⟨fun _ j hj => by omega, fun _ => ?_⟩
    show Nat.beq ((2 ^ l.1 ||| 2 ^ l.2) &&& 0) 0 = true
    rw [Nat.and_zero]; rfl
  | succ n ih =>
    unfold pbN
    by_cases e : keep.testBit n = true
    · rw [if_pos e, ih]
      refine ⟨fun w j hj => ?_, fun w j hj => w j (by omega)⟩
      by_cases q : j = n
      · subst q; exact Or.inl e
      · exact w j (by omega)
    · rw [if_neg e]
      have : keepB (pbN sp keep n ||| 2 ^ sp n) l = true ↔ keepB (pbN sp keep n) l = true ∧ untP (sp n) l = true := by
        unfold keepB
        rw [Nat.beq_eq, Nat.beq_eq, untP_t, ← bit_and, Nat.and_or_distrib_left]
        constructor
        · intro w
          have z : ∀ a b : Nat, a ||| b = 0 → a = 0 ∧ b = 0 := fun a b h => by
            constructor
            · apply Nat.eq_of_testBit_eq
              intro k
              have := congrArg (fun z => z.testBit k) h
              simp only [Nat.testBit_or, Nat.zero_testBit, Bool.or_eq_false_iff] at this
              rw [this.1, Nat.zero_testBit]
            · apply Nat.eq_of_testBit_eq
              intro k
              have := congrArg (fun z => z.testBit k) h
              simp only [Nat.testBit_or, Nat.zero_testBit, Bool.or_eq_false_iff] at this
              rw [this.2, Nat.zero_testBit]
          exact z _ _ w
        · rintro ⟨w1, w2⟩
          rw [w1, w2]; rfl
      rw [this, ih]
      refine ⟨fun w j hj => ?_, fun w => ⟨fun j hj => w j (by omega), (w n (by omega)).resolve_left e⟩⟩
      by_cases q : j = n
      · subst q; exact Or.inr w.2
      · exact w.1 j (by omega)
theorem c_pointsBut {d c keep : Nat} (hc : c ≤ 5) (hk : keep < 32) {V : Mem} {K : SKY} {sp o : Nat → Nat} (hsp : ∀ j, j < c → sp j < 12) (h : SHm K c sp o V) : clI (d + 1) m_Sharing_pointsBut [.inr (.inr (10, 0)), .inl (nI keep)] V = some (nI (pbN sp keep c), V) := by
  obtain ⟨s1, s2, s3⟩ := h
  refine clI_of ((e_Sharing_pointsBut_0 d _ V).trans ?_)
  refine loopN c (fun j => sem d 26 4 [some (.inr (.inr (10, 0))), some (.inl (nI keep)), some (.inl (nI (pbN sp keep j))), some (.inl (nI j))] [] V) _ (fun j hj => ?_) ?_
  · have sj := hsp j hj
    show sem _ _ _ _ _ _ = sem d 26 4 [some (.inr (.inr (10, 0))), some (.inl (nI keep)), some (.inl (nI (if keep.testBit j = true then pbN sp keep j else pbN sp keep j ||| 2 ^ sp j))), some (.inl (nI (j + 1)))] [] V
    rw [e_Sharing_pointsBut_4, s1, if_pos (nI_lt hj (by omega)), bitAt6 (by omega) (by omega)]
    by_cases e : keep.testBit j = true
    · rw [bI_t e, if_neg one_ne, e_Sharing_pointsBut_31, nI_1, if_pos e]
    · rw [bI_f e, if_pos rfl, if_neg (nI_in (N := 5) (by omega) (by omega)), nI_clamp (by omega), (s2 j hj).1, shl12 (by omega), nI_or, e_Sharing_pointsBut_31, nI_1, if_neg e]
  · show sem _ _ _ _ _ _ = _
    rw [e_Sharing_pointsBut_4, s1, if_neg (nI_nlt (Nat.le_refl _) (by omega))]
def wC (K : SKY) (sp : Nat → Nat) (c p keep : Nat) : Nat := wL (kCe K) (kBr K) (kNP K) (kKi K p) (kA K p) ((LLx K p).filter (keepB (pbN sp keep c)))
theorem wC_wS {K : SKY} {sp o : Nat → Nat} {c p : Nat} : wC K sp c p (kp o c p) = wS K sp o c p := by
  unfold wC wS
  congr 1
  refine List.filter_congr (fun l _ => ?_)
  rw [Bool.eq_iff_iff, pbN_keep]
  have : ∀ n, okl sp o p n l = true ↔ ∀ j, j < n → p = o j ∨ untP (sp j) l = true := by
    intro n
    induction n with
    | zero => exact ⟨fun _ j hj => by omega, fun _ => rfl⟩
    | succ n ih =>
      show (okl sp o p n l && (Nat.beq p (o n) || untP (sp n) l)) = true ↔ _
      rw [Bool.and_eq_true, Bool.or_eq_true, Nat.beq_eq, ih]
      refine ⟨fun w j hj => ?_, fun w => ⟨fun j hj => w j (by omega), w n (by omega)⟩⟩
      by_cases q : j = n
      · subst q; exact w.2
      · exact w.1 j (by omega)
  rw [this]
  refine ⟨fun w j hj => ?_, fun w j hj => ?_⟩
  · rcases w j hj with q | q
    · exact Or.inl ((kp_test o c p j).mp q).2.symm
    · exact Or.inr q
  · rcases w j hj with q | q
    · exact Or.inl ((kp_test o c p j).mpr ⟨hj, q.symm⟩)
    · exact Or.inr q
theorem fil_lines {K : SKY} (ok : okK K) {x : Nat} (hx : x < kNX K) {q : Nat × Nat → Bool} {f g : Nat → Nat} {n : Nat} (h : LL f g n = (LLx K x).filter q) : ∀ i, i < n → f i < kNP K ∧ g i < kNP K ∧ f i ≠ g i := by
  intro i hi
  have m : (f i, g i) ∈ LL f g n := List.mem_of_getElem? (i := i) (by rw [LL_get, if_pos hi])
  rw [h, List.mem_filter] at m
  obtain ⟨k, hk⟩ := List.getElem?_of_mem m.1
  unfold LLx at hk
  rw [LL_get] at hk
  by_cases e : k < kLn K x
  · rw [if_pos e, Option.some.injEq, Prod.mk.injEq] at hk
    have := ok.fn3 hx k e
    rw [hk.1, hk.2] at this
    exact this
  · rw [if_neg e] at hk
    cases hk
theorem SHm.fr {P : Nat → Nat → Nat → Prop} {K : SKY} {c : Nat} {sp o : Nat → Nat} {V W : Mem} (h : SHm K c sp o V) (f : Fr P V W) (hp : ∀ t i k, P t i k → ¬ (t = 10 ∧ k = 2) ∧ ¬ t = 11 ∧ ¬ t = 13 ∧ ¬ t = 14 ∧ ¬ t = 15) : SHm K c sp o W := by
  obtain ⟨s1, s2, s3⟩ := h
  refine ⟨(f.1 10 0 2 (fun w => (hp _ _ _ w).1 ⟨rfl, rfl⟩)).trans s1, fun j hj => ⟨(f.1 11 0 j (fun w => (hp _ _ _ w).2.1 rfl)).trans (s2 j hj).1, (f.1 13 0 j (fun w => (hp _ _ _ w).2.2.1 rfl)).trans (s2 j hj).2.1, (f.1 14 0 j (fun w => (hp _ _ _ w).2.2.2.1 rfl)).trans (s2 j hj).2.2⟩, fun p hp2 => (f.1 15 0 p (fun w => (hp _ _ _ w).2.2.2.2 rfl)).trans (s3 p hp2)⟩
abbrev pF (t i _k : Nat) : Prop := t = 8 ∨ t = 9 ∨ ((t = 5 ∨ t = 6 ∨ t = 7) ∧ i = 18) ∨ t = 16
theorem c_findWorths {d c p : Nat} (hc : c ≤ 5) {V : Mem} {K : SKY} (h : CS V 0 K) (ok : okK K) (hp : p < kNX K) {sp o : Nat → Nat} (hsp : ∀ j, j < c → sp j < 12) (hs : SHm K c sp o V) : ∃ W, clV (d + 4) m_Sharing_findWorths [.inr (.inr (10, 0)), .inr (.inr (1, 0)), .inl (nI p), .inr (.inr (8, 0)), .inr (.inr (5, 18))] V = some W ∧ (∀ keep, keep < 2 ^ c → mkP K sp c p keep → W.1 16 0 (32 * p + keep) = nI (wC K sp c p keep)) ∧ (∀ k, ¬ (32 * p ≤ k ∧ k < 32 * p + 32) → W.1 16 0 k = V.1 16 0 k) ∧ Fr pF V W := by
  have hX := ok.2.1
  have hP := ok.1
  have hl := ok.toL.2.2 p hp
  have lc : 2 ^ c ≤ 2 ^ 5 := Nat.pow_le_pow_right (by omega) hc
  obtain ⟨W, ⟨w1, w2, w3⟩, w4⟩ := loopI (2 ^ c) (fun n U => (∀ keep, keep < n → mkP K sp c p keep → U.1 16 0 (32 * p + keep) = nI (wC K sp c p keep)) ∧ (∀ k, ¬ (32 * p ≤ k ∧ k < 32 * p + 32) → U.1 16 0 k = V.1 16 0 k) ∧ Fr pF V U) (fun n U => sem (d + 3) 24 11 [some (.inr (.inr (10, 0))), some (.inr (.inr (1, 0))), some (.inl (nI p)), some (.inr (.inr (8, 0))), some (.inr (.inr (5, 18))), some (.inr (.inr (5, p))), some (.inl (nI n))] [] U) (fun n U hn hU => by
    obtain ⟨u1, u2, u3⟩ := hU
    have cs : CS U 0 K := h.fr ok u3 (by unfold pF; omega)
    have su := hs.fr u3 (by unfold pF; omega)
    obtain ⟨b, b1, b2⟩ := c_mayKeep (d := d + 2) hc (show p < 6 by omega) (show n < 32 by omega) ok su
    have st := e_Sharing_findWorths_11 (d + 3) 0 (nI p) 18 p (nI n) U
    rw [su.1, shl12 (by omega), if_pos (nI_lt hn (by omega)), b1, bind_some'] at st
    by_cases e : b = true
    · have px := cs.p0 hp
      obtain ⟨U1, a1, a2, a3, a4⟩ := c_parBecome (d := d + 2) (j := 18) (u := p) (by omega) U
      have f1 : Fr pF U U1 := ⟨fun t i k q => a3 t i k (fun w => q (Or.inr (Or.inr (Or.inl w)))), a4⟩
      have p1 := a2 _ _ _ _ _ _ hl px
      have pb := c_pointsBut (d := d + 2) hc (show n < 32 by omega) hsp (su.fr f1 (by unfold pF; omega))
      obtain ⟨U2, ln', f', g', z, c1, c2, c3, c4, c5, c6⟩ := c_eraseAtG (d := d + 1) (B := pbN sp n c) (pbN_lt c hsp) p1 hl (fun i hi => ⟨(ok.fg hp i hi).1, (ok.fg hp i hi).2.1⟩)
      have f2 : Fr pF U1 U2 := ⟨fun t i k q => c5 t i k (fun w => q (Or.inr (Or.inr (Or.inl w)))), c6⟩
      have cs2 : CS U2 0 K := (cs.fr ok f1 (by unfold pF; omega)).fr ok f2 (by unfold pF; omega)
      have c3' : LL f' g' ln' = (LLx K p).filter (keepB (pbN sp n c)) := c3
      have fl := fil_lines ok hp c3'
      obtain ⟨U3, m1, m2, m3⟩ := c_measure (d := d) cs2 ok c2 (by omega) fl
      have f3 : Fr pF U2 U3 := m3.fr (by unfold pF; omega)
      have px3 := (cs2.frf ok m3).p0 hp
      have wt := c_worthTo (d := d + 1) (ki := kKi K p) (a := kA K p) m2 hP (by omega) (fun i hi => ⟨(fl i hi).1, (fl i hi).2.1⟩) (fun i hi => ⟨(ok.2.2.2.1 _ (fl i hi).1).1, (ok.2.2.2.1 _ (fl i hi).2.1).1⟩) ok.br (ok.2.2.2.2 p hp).1.1
      rw [wrt_wL, c3'] at wt
      have wt' : clI (d + 3) 9 [.inr (.inr (8, 0)), .inl (nI (kKi K p)), .inl (nI (kA K p))] U3 = some (nI (wC K sp c p n), U3) := wt
      have ix : (nI p * 32 + nI n : Int32) = nI (32 * p + n) := by
        rw [show (32 : Int32) = nI 32 from rfl, pk_mul, nI_add, Nat.mul_comm]
      rw [bI_t e, if_neg one_ne, a1, bind_some', pb, bind_some', c1, bind_some', m1, bind_some', px3.1, px3.2.1, wt', bind_some', ix, if_neg (nI_in (N := 192) (by omega) (by omega)), nI_clamp (by omega), e_Sharing_findWorths_84, nI_1] at st
      have fa : Fr pF V U3 := u3.trans (f1.trans (f2.trans f3))
      have e16 : ∀ k, U3.1 16 0 k = U.1 16 0 k := fun k => (m3.1 16 0 k (by omega)).trans ((c5 16 0 k (by omega)).trans (a3 16 0 k (by omega)))
      refine ⟨(mset U3.1 16 0 (32 * p + n) (nI (wC K sp c p n)), U3.2), ⟨fun keep hk mk => ?_, fun k hk => ?_, fa.set (by unfold pF; omega)⟩, st⟩
      · by_cases q : keep = n
        · subst q; simp (disch := omega) only [mset_h]
        · simp (disch := omega) only [mset_n]
          rw [e16]
          exact u1 keep (by omega) mk
      · simp (disch := omega) only [mset_n]
        rw [e16]
        exact u2 k hk
    · rw [bI_f e, if_pos rfl, e_Sharing_findWorths_84, nI_1] at st
      refine ⟨U, ⟨fun keep hk mk => ?_, u2, u3⟩, st⟩
      by_cases q : keep = n
      · subst q; exact absurd (b2.mpr mk) e
      · exact u1 keep (by omega) mk) V ⟨fun k hk => by omega, fun _ _ => rfl, Fr.rfl⟩
  refine ⟨W, clV_of ((e_Sharing_findWorths_0 (d + 3) 0 _ 18 V).trans ?_), w1, w2, w3⟩
  rw [if_neg (nI_in (N := 6) (by omega) (by omega)), nI_clamp (by omega)]
  refine Eq.trans w4 ?_
  show sem _ _ _ _ _ _ = _
  rw [e_Sharing_findWorths_11, (hs.fr w3 (by unfold pF; omega)).1, shl12 (by omega), if_neg (nI_nlt (Nat.le_refl _) (by omega))]
theorem lfP_mono (K : SKY) (sp o : Nat → Nat) (c : Nat) : ∀ n k, k ≤ n → lfP K sp o c n ≤ lfP K sp o c k := by
  intro n
  induction n with
  | zero => intro k hk; rw [show k = 0 by omega]; exact Nat.le_refl _
  | succ n ih =>
    intro k hk
    by_cases e : k = n + 1
    · rw [e]; exact Nat.le_refl _
    · have := ih k (by omega)
      show min (lfP K sp o c n) _ ≤ _
      omega
def WOR (K : SKY) (sp : Nat → Nat) (c : Nat) (V : Mem) : Prop := ∀ p, p < kNX K → ∀ keep, keep < 2 ^ c → mkP K sp c p keep → V.1 16 0 (32 * p + keep) = nI (wC K sp c p keep)
def rowOK (K : SKY) (sp : Nat → Nat) (c : Nat) (o : Nat → Nat) : Prop := ∀ j, j < c → o j < kNX K ∧ kW K (o j) (sp j) = true
theorem row_mk {K : SKY} {sp : Nat → Nat} {c : Nat} {o : Nat → Nat} (h : rowOK K sp c o) (p : Nat) : mkP K sp c p (kp o c p) := fun j hj w => by
  have := ((kp_test o c p j).mp w).2
  obtain ⟨h1, h2⟩ := h j hj
  rw [this] at h1 h2
  unfold wtN
  rw [bm_test]
  simp [h1, h2]
theorem row_le {K : SKY} (ok : okK K) (sp o : Nat → Nat) : ∀ c, ∃ Kc, RK K sp o c Kc := by
  intro c
  induction c with
  | zero => exact ⟨K, RK_0 ok sp o⟩
  | succ c ih =>
    obtain ⟨Kc, h⟩ := ih
    have := RK_step (a := o c) h
    have e : updN o c (o c) = o := funext fun k => by unfold updN; by_cases q : k = c; rw [if_pos q, q]; rw [if_neg q]
    rw [e] at this
    exact ⟨_, this⟩
theorem c_least {d c : Nat} (hc : c ≤ 5) {V : Mem} {K : SKY} (ok : okK K) (hx0 : 0 < kNX K) {sp o : Nat → Nat} (hs : SHm K c sp o V) (hw : WOR K sp c V) (hr : rowOK K sp c o) : ∃ z, clI (d + 1) m_Sharing_leastWorth [.inr (.inr (10, 0)), .inl (nI (kNX K))] V = some (z, V) ∧ (V.1 10 0 3 < z ↔ V.1 10 0 3 < nI (lfP K sp o c (kNX K))) ∧ (V.1 10 0 3 < z → z = nI (lfP K sp o c (kNX K))) := by
  have hX := ok.2.1
  obtain ⟨Kc, hk⟩ := row_le ok sp o c
  have l0 := lfP_le K sp o c (kNX K)
  have step : ∀ p l, p < kNX K → l ≤ 2147483647 → V.1 10 0 3 < nI l → sem d 27 5 [some (.inr (.inr (10, 0))), some (.inl (nI (kNX K))), some (.inl (nI l)), some (.inl (nI p))] [] V = sem d 27 5 [some (.inr (.inr (10, 0))), some (.inl (nI (kNX K))), some (.inl (nI (min l (wS K sp o c p)))), some (.inl (nI (p + 1)))] [] V := by
    intro p l hp hl e
    have st := e_Sharing_leastWorth_5 d (nI (kNX K)) (nI l) (nI p) V
    have kl := kp_lt (o := o) hc p
    have k2 : kp o c p < 2 ^ c := bm_lt c _
    have ix : (nI p * 32 + nI (kp o c p) : Int32) = nI (32 * p + kp o c p) := by
      rw [show (32 : Int32) = nI 32 from rfl, pk_mul, nI_add, Nat.mul_comm]
    have w4 := wS_le hk hp
    rw [if_pos (nI_lt (by omega) (by omega)), if_pos e, if_neg (nI_in (N := 6) (by omega) (by omega)), nI_clamp (by omega), hs.2.2 p (by omega), ix, if_neg (nI_in (N := 192) (by omega) (by omega)), nI_clamp (by omega), hw p (by omega) _ k2 (row_mk hr p), wC_wS, imin_nat (by omega) (by omega), nI_1] at st
    exact st
  have main : ∀ m p, p + m = kNX K → ∃ z, sem d 27 5 [some (.inr (.inr (10, 0))), some (.inl (nI (kNX K))), some (.inl (nI (lfP K sp o c p))), some (.inl (nI p))] [] V = some (some (.inl z), V) ∧ (V.1 10 0 3 < z ↔ V.1 10 0 3 < nI (lfP K sp o c (kNX K))) ∧ (V.1 10 0 3 < z → z = nI (lfP K sp o c (kNX K))) := by
    intro m
    induction m with
    | zero =>
      intro p hp
      obtain rfl : p = kNX K := by omega
      exact ⟨_, by rw [e_Sharing_leastWorth_5, if_neg (nI_nlt (Nat.le_refl _) (by omega))], Iff.rfl, fun _ => rfl⟩
    | succ m ih =>
      intro p hp
      have lp := lfP_le K sp o c p
      have mo := lfP_mono K sp o c (kNX K) p (by omega)
      by_cases e : V.1 10 0 3 < nI (lfP K sp o c p)
      · obtain ⟨z, z1, z2⟩ := ih (p + 1) (by omega)
        exact ⟨z, (step p _ (by omega) lp e).trans z1, z2⟩
      · have st := e_Sharing_leastWorth_5 d (nI (kNX K)) (nI (lfP K sp o c p)) (nI p) V
        rw [if_pos (nI_lt (by omega) (by omega)), if_neg e] at st
        refine ⟨_, st, ⟨fun w => absurd w e, fun w => absurd ?_ e⟩, fun w => absurd w e⟩
        rw [lt_toInt, nI_toInt (by omega)] at w ⊢
        omega
  have w0 := wS_le hk hx0
  have f1 : lfP K sp o c 1 = min 2147483647 (wS K sp o c 0) := rfl
  have m1 := lfP_mono K sp o c (kNX K) 1 (by omega)
  by_cases e : V.1 10 0 3 < nI 1000000
  · obtain ⟨z, z1, z2⟩ := main (kNX K - 1) 1 (by omega)
    have st := step 0 1000000 hx0 (by omega) e
    rw [show min 1000000 (wS K sp o c 0) = lfP K sp o c 1 by omega] at st
    exact ⟨z, clI_of ((e_Sharing_leastWorth_0 d _ V).trans (Eq.trans st z1)), z2⟩
  · have st := e_Sharing_leastWorth_5 d (nI (kNX K)) (nI 1000000) (nI 0) V
    rw [if_pos (nI_lt (by omega) (by omega)), if_neg e] at st
    refine ⟨_, clI_of ((e_Sharing_leastWorth_0 d _ V).trans st), ⟨fun w => absurd w e, fun w => absurd ?_ e⟩, fun w => absurd w e⟩
    rw [lt_toInt, nI_toInt (by omega)] at w ⊢
    omega
/-- the next row of owners -/
def crF (w : Nat → Nat) : Nat → (Nat → Nat) → (Nat → Nat) × Bool
  | 0, o => (o, false)
  | j + 1, o => if nxW (w j) (o j + 1) = 6 then crF w j (updN o j (nxW (w j) 0)) else (updN o j (nxW (w j) (o j + 1)), true)
abbrev pR (t _i _k : Nat) : Prop := t = 14 ∨ t = 15
theorem SHm_turn {d c j x : Nat} (hc : c ≤ 5) (hj : j < c) {K : SKY} (ok : okK K) {sp o : Nat → Nat} {V W : Mem} (h : SHm K c sp o V) (ho : o j < 6) (hx : x < 6) (h1 : clV (d + 1) m_Sharing_turnKeep [.inr (.inr (10, 0)), .inl (nI j)] V = some W) : ∃ W', clV (d + 1) m_Sharing_turnKeep [.inr (.inr (10, 0)), .inl (nI j)] (mset W.1 14 0 j (nI x), W.2) = some W' ∧ SHm K c sp (updN o j x) W' ∧ Fr pR V W' ∧ W.1 14 0 j = nI (o j) ∧ W.1 13 0 j = nI (wtN K (sp j)) := by
  obtain ⟨s1, s2, s3⟩ := h
  have t1 := c_turn (d := d) (j := j) (x := o j) (m := kp o c (o j)) (by omega) ho (s2 j hj).2.2 (s3 (o j) ho)
  rw [t1] at h1
  have eW := Option.some.inj h1
  subst eW
  have r15 : ∀ p, p < 6 → ∃ m, (mset (mset V.1 15 0 (o j) (nI (kp o c (o j) ^^^ 2 ^ j))) 14 0 j (nI x)) 15 0 p = nI m ∧ ∀ k, m.testBit k = true ↔ (k < c ∧ o k = p ∧ ¬ k = j) := fun p hp => by
    by_cases e : p = o j
    · subst e
      refine ⟨kp o c (o j) ^^^ 2 ^ j, by simp (disch := omega) only [mset_n, mset_h], fun k => ?_⟩
      rw [xor_test, kp_test]
      by_cases q : k = j
      · subst q; omega
      · omega
    · refine ⟨kp o c p, by simp (disch := omega) only [mset_n]; exact s3 p hp, fun k => ?_⟩
      rw [kp_test]
      by_cases q : k = j
      · subst q; omega
      · omega
  obtain ⟨mx, mx1, mx2⟩ := r15 x hx
  have t2 := c_turn (d := d) (j := j) (x := x) (m := mx) (by omega) hx (V := (mset (mset V.1 15 0 (o j) (nI (kp o c (o j) ^^^ 2 ^ j))) 14 0 j (nI x), V.2)) (by simp (disch := omega) only [mset_h]) mx1
  refine ⟨_, t2, ⟨?_, fun k hk => ?_, fun p hp => ?_⟩, ((Fr.rfl.set (Or.inr rfl)).set (Or.inl rfl)).set (Or.inr rfl), by simp (disch := omega) only [mset_n]; exact (s2 j hj).2.2, by simp (disch := omega) only [mset_n]; exact (s2 j hj).2.1⟩
  · simp (disch := omega) only [mset_n]; exact s1
  · refine ⟨by simp (disch := omega) only [mset_n]; exact (s2 k hk).1, by simp (disch := omega) only [mset_n]; exact (s2 k hk).2.1, ?_⟩
    unfold updN
    by_cases e : k = j
    · subst e; rw [if_pos rfl]; simp (disch := omega) only [mset_n, mset_h]
    · rw [if_neg e]; simp (disch := omega) only [mset_n]; exact (s2 k hk).2.2
  · have un : updN o j x j = x := if_pos rfl
    have uo : ∀ k, ¬ k = j → updN o j x k = o k := fun k hk => if_neg hk
    by_cases e : p = x
    · subst e
      simp (disch := omega) only [mset_h]
      refine congrArg nI (kp_ext (fun k => ?_))
      rw [xor_test, mx2]
      by_cases q : k = j
      · subst q; rw [un]; omega
      · rw [uo k q]; omega
    · obtain ⟨mp, mp1, mp2⟩ := r15 p hp
      show mset (mset (mset V.1 15 0 (o j) (nI (kp o c (o j) ^^^ 2 ^ j))) 14 0 j (nI x)) 15 0 x (nI (mx ^^^ 2 ^ j)) 15 0 p = _
      rw [mset_n (by omega), mp1]
      refine congrArg nI (kp_ext (fun k => ?_))
      rw [mp2]
      by_cases q : k = j
      · subst q; rw [un]; omega
      · rw [uo k q]; omega
theorem c_nextRow {d c : Nat} (hc : c ≤ 5) {K : SKY} (ok : okK K) {sp : Nat → Nat} (hfo : ∀ j, j < c → nxW (wtN K (sp j)) 0 < 6) : ∀ n (o : Nat → Nat) (V : Mem), n ≤ c → (∀ j, j < c → o j < 6) → SHm K c sp o V → ∃ V', sem (d + 1) 28 7 [some (.inr (.inr (10, 0))), some (.inl (nI n + -1)), none, none] [] V = some (some (.inl (bI ((crF (fun j => wtN K (sp j)) n o).2 = true))), V') ∧ SHm K c sp (crF (fun j => wtN K (sp j)) n o).1 V' ∧ Fr pR V V' := by
  intro n
  induction n with
  | zero =>
    intro o V hn ho hs
    refine ⟨V, ?_, hs, Fr.rfl⟩
    rw [e_Sharing_nextRow_7, if_pos (by decide)]
    rfl
  | succ n ih =>
    intro o V hn ho hs
    have on := ho n (by omega)
    have wl := wtN_lt ok (sp n)
    obtain ⟨q1, q2, q3, q4⟩ := nxW_p (wtN K (sp n)) (p := o n + 1) (by omega)
    have f0 := hfo n (by omega)
    have t1 := c_turn (d := d) (j := n) (x := o n) (m := kp o c (o n)) (by omega) on (hs.2.1 n (by omega)).2.2 (hs.2.2 (o n) on)
    have st := e_Sharing_nextRow_7 (d + 1) (nI (n + 1) + -1) V
    rw [sub_self1, if_neg (nI_pos (by omega)), t1, bind_some', if_neg (nI_in (N := 5) (by omega) (by omega)), nI_clamp (by omega)] at st
    have r14 : (mset V.1 15 0 (o n) (nI (kp o c (o n) ^^^ 2 ^ n))) 14 0 n = nI (o n) := by rw [mset_n (by omega)]; exact (hs.2.1 n (by omega)).2.2
    have nw := fun (p : Nat) (hp : p ≤ 6) => c_nextWanter (d := d) (j := n) (w := wtN K (sp n)) (p := p) (by omega) wl hp (V := (mset V.1 15 0 (o n) (nI (kp o c (o n) ^^^ 2 ^ n)), V.2)) (by simp (disch := omega) only [mset_n]; exact (hs.2.1 n (by omega)).2.1)
    dsimp only at st
    rw [r14, nI_1, nw (o n + 1) (by omega), bind_some'] at st
    rw [sub_self1]
    by_cases e : nxW (wtN K (sp n)) (o n + 1) = 6
    · have nw0 : clI (d + 1) 30 [.inr (.inr (10, 0)), .inl (nI n), .inl 0] (mset V.1 15 0 (o n) (nI (kp o c (o n) ^^^ 2 ^ n)), V.2) = some (nI (nxW (wtN K (sp n)) 0), (mset V.1 15 0 (o n) (nI (kp o c (o n) ^^^ 2 ^ n)), V.2)) := nw 0 (by omega)
      obtain ⟨W', u1, u2, u3, _, _⟩ := SHm_turn (d := d) (x := nxW (wtN K (sp n)) 0) hc (show n < c by omega) ok hs on f0 t1
      rw [if_pos (show nI (nxW (wtN K (sp n)) (o n + 1)) = 6 by rw [e]; rfl), e_Sharing_nextRow_41, if_neg one_ne, nw0, bind_some', e_Sharing_nextRow_61, if_neg (nI_in (N := 5) (by omega) (by omega)), nI_clamp (by omega), u1, bind_some', if_neg one_ne] at st
      obtain ⟨V', v1, v2, v3⟩ := ih (updN o n (nxW (wtN K (sp n)) 0)) W' (by omega) (fun j hj => by
        unfold updN
        by_cases q : j = n
        · rw [if_pos q]; exact f0
        · rw [if_neg q]; exact ho j hj) u2
      have ce : crF (fun j => wtN K (sp j)) (n + 1) o = crF (fun j => wtN K (sp j)) n (updN o n (nxW (wtN K (sp n)) 0)) := if_pos e
      rw [ce]
      exact ⟨V', st.trans v1, v2, u3.trans v3⟩
    · have ce : crF (fun j => wtN K (sp j)) (n + 1) o = (updN o n (nxW (wtN K (sp n)) (o n + 1)), true) := if_neg e
      obtain ⟨W', u1, u2, u3, _, _⟩ := SHm_turn (d := d) (x := nxW (wtN K (sp n)) (o n + 1)) hc (show n < c by omega) ok hs on (by omega) t1
      rw [if_neg (show ¬ nI (nxW (wtN K (sp n)) (o n + 1)) = 6 from fun w => e ((nI_eq (b := 6) (by omega) (by omega)).mp w)), e_Sharing_nextRow_41, if_pos rfl, e_Sharing_nextRow_61, if_neg (nI_in (N := 5) (by omega) (by omega)), nI_clamp (by omega), u1, bind_some', if_pos rfl] at st
      rw [ce]
      exact ⟨W', st, u2, u3⟩
