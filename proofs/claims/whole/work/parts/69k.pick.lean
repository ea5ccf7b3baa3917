/-! pick, laws -/
def mrt (K : SKY) (l x : Nat) : Int32 := if l = 0 then nI (wK K x) else if l = 1 then nI (litN (kBr K) (usdN (kF K x) (kG K x) (kLn K x)) (kNP K)) else if l = 2 then nI (kLn K x) else if l = 3 then nI (maxLen (kCe K) (kF K x) (kG K x) (kLn K x)) else if l = 4 then (if kLn K x = 0 then -1000 else -nI (pcN (kF K x) (kG K x) (kLn K x) (kNP K)).2) else nI (onesN (usdN (kF K x) (kG K x) (kLn K x)) 12)
theorem wK_le {K : SKY} (ok : okK K) {x : Nat} (hx : x < kNX K) : wK K x ≤ 400 := by
  have hP := ok.1
  have b1 := litN_le (m := usdN (kF K x) (kG K x) (kLn K x)) (kNP K) ok.br
  have b2 := maxLen_le (kLn K x) (ok.fc hx)
  have := (ok.2.2.2.2 x hx).1
  exact worN_le (by omega) (by omega) (by omega) b2
theorem nI_1000 {n : Nat} (h : n < 2 ^ 31) : ¬ nI n < -1000 ∧ ¬ nI n = -1000 := by
  have e : (-1000 : Int32).toInt = -1000 := by decide
  refine ⟨fun w => ?_, fun w => ?_⟩
  · rw [lt_toInt, nI_toInt h, e] at w
    omega
  · have := congrArg Int32.toInt w
    rw [nI_toInt h, e] at this
    omega
theorem neg_1000 {n : Nat} (h : n < 1000) : ¬ -nI n < -1000 ∧ ¬ -nI n = -1000 := by
  have e : (-1000 : Int32).toInt = -1000 := by decide
  have q := pk_sub_toInt (a := 0) (b := n) (by omega) (by omega)
  have z : nI 0 - nI n = -nI n := Int32.zero_sub _
  rw [z] at q
  refine ⟨fun w => ?_, fun w => ?_⟩
  · rw [lt_toInt, q, e] at w
    omega
  · have := congrArg Int32.toInt w
    rw [q, e] at this
    omega
theorem mrt_ge {K : SKY} (ok : okK K) (l : Nat) {x : Nat} (hx : x < kNX K) : ¬ mrt K l x < -1000 ∧ (mrt K l x = -1000 ↔ ¬ (l ≠ 4 ∨ 0 < kLn K x)) := by
  have hP := ok.1
  have b1 := litN_le (m := usdN (kF K x) (kG K x) (kLn K x)) (kNP K) ok.br
  have b2 := maxLen_le (kLn K x) (ok.fc hx)
  have b3 := (ok.2.2.2.2 x hx).1.2.2
  have b4 := wK_le ok hx
  have b5 := onesN_le (usdN (kF K x) (kG K x) (kLn K x)) 12
  have b6 := (pcN_le (kF K x) (kG K x) (kLn K x) (kNP K)).2
  have nat : ∀ n, n < 1000 → l ≠ 4 → mrt K l x = nI n → ¬ mrt K l x < -1000 ∧ (mrt K l x = -1000 ↔ ¬ (l ≠ 4 ∨ 0 < kLn K x)) := fun n hn hl e => by
    rw [e]
    obtain ⟨q1, q2⟩ := nI_1000 (n := n) (by omega)
    exact ⟨q1, fun w => absurd w q2, fun w => absurd (Or.inl hl) w⟩
  by_cases l0 : l = 0
  · exact nat (wK K x) (by omega) (by omega) (if_pos l0)
  by_cases l1 : l = 1
  · exact nat _ (by omega) (by omega) ((if_neg l0).trans (if_pos l1))
  by_cases l2 : l = 2
  · exact nat _ (by omega) (by omega) ((if_neg l0).trans ((if_neg l1).trans (if_pos l2)))
  by_cases l3 : l = 3
  · exact nat _ (by omega) (by omega) ((if_neg l0).trans ((if_neg l1).trans ((if_neg l2).trans (if_pos l3))))
  by_cases l4 : l = 4
  · have e : mrt K l x = if kLn K x = 0 then -1000 else -nI (pcN (kF K x) (kG K x) (kLn K x) (kNP K)).2 := (if_neg l0).trans ((if_neg l1).trans ((if_neg l2).trans ((if_neg l3).trans (if_pos l4))))
    rw [e]
    by_cases z : kLn K x = 0
    · rw [if_pos z]
      exact ⟨by decide, fun _ w => by omega, fun _ => rfl⟩
    · rw [if_neg z]
      obtain ⟨q1, q2⟩ := neg_1000 (n := (pcN (kF K x) (kG K x) (kLn K x) (kNP K)).2) (by omega)
      exact ⟨q1, fun w => absurd w q2, fun w => absurd (Or.inr (by omega)) w⟩
  · exact nat _ (by omega) l4 ((if_neg l0).trans ((if_neg l1).trans ((if_neg l2).trans ((if_neg l3).trans (if_neg l4)))))
theorem c_M_byLaw {d l x : Nat} (hl : l < 6) {V : Mem} {K : SKY} (h : MS V 32 0 K) (ok : okK K) (hx : x < kNX K) : clI (d + 6) m_M_byLaw [.inr (.inr (30, 0)), .inl (nI l), .inl (nI x)] V = some (mrt K l x, V) := by
  have hl10 := ok.toL.2.2 x hx
  have lu := usd12 ok hx
  have PP : clI (d + 5) 172 [.inr (.inr (30, 0)), .inl (nI x), .inl 1] V = some (nI (pcN (kF K x) (kG K x) (kLn K x) (kNP K)).2, V) := c_M_pieces (d := d + 2) true h ok hx
  refine clI_of ((e_M_byLaw_0 (d + 5) _ _ V).trans ?_)
  have c : l = 0 ∨ l = 1 ∨ l = 2 ∨ l = 3 ∨ l = 4 ∨ l = 5 := by omega
  rcases c with rfl | rfl | rfl | rfl | rfl | rfl
  · rw [if_pos (by decide), c_M_worth h ok hx, bind_some']
    rfl
  · rw [if_neg (by decide), if_pos (by decide), c_M_light h ok hx, bind_some']
    rfl
  · rw [if_neg (by decide), if_neg (by decide), if_pos (by decide), c_M_ln h ok.toL hx, bind_some']
    rfl
  · rw [if_neg (by decide), if_neg (by decide), if_neg (by decide), if_pos (by decide), c_M_longest h ok hx, bind_some']
    rfl
  · rw [if_neg (by decide), if_neg (by decide), if_neg (by decide), if_neg (by decide), if_pos (by decide), c_M_ln h ok.toL hx, bind_some', show mrt K 4 x = if kLn K x = 0 then -1000 else -nI (pcN (kF K x) (kG K x) (kLn K x) (kNP K)).2 from rfl]
    by_cases z : kLn K x = 0
    · rw [if_pos (by rw [z]; rfl), if_pos z]
    · rw [if_neg (nI_ne0 (by omega) (by omega)), if_neg z, PP, bind_some']
  · rw [if_neg (by decide), if_neg (by decide), if_neg (by decide), if_neg (by decide), if_neg (by decide), c_M_used h ok hx, bind_some', c_M_ones (by omega), bind_some']
    rfl
theorem c_merit {d l x : Nat} (hl : l < 6) {V : Mem} {K : SKY} (ok : okK K) (hx : x < kNX K) (hf : FIG V (kCe K) (kBr K) (kF K x) (kG K x) (kNP K) (kLn K x)) (hp : CPar V x (kKi K x) (kA K x) (bm (kNP K) (kW K x)) (kLn K x) (kF K x) (kG K x)) : ∃ m, clI (d + 3) m_Figure_meritBy [.inr (.inr (8, 0)), .inl (nI l), .inr (.inr (5, x))] V = some (m, V) ∧ ((l ≠ 4 ∨ 0 < kLn K x) → m = mrt K l x) := by
  have lu := usd12 ok hx
  have c : l = 0 ∨ l = 1 ∨ l = 2 ∨ l = 3 ∨ l = 4 ∨ l = 5 := by omega
  have st := e_Figure_meritBy_0 (d + 2) (nI l) x V
  rcases c with rfl | rfl | rfl | rfl | rfl | rfl
  · refine ⟨nI (wK K x), clI_of (st.trans ?_), fun _ => rfl⟩
    rw [if_pos (by decide), hp.1, hp.2.1, c_wor ok hx hf, bind_some']
  · refine ⟨nI (litN (kBr K) (usdN (kF K x) (kG K x) (kLn K x)) (kNP K)), clI_of (st.trans ?_), fun _ => rfl⟩
    rw [if_neg (by decide), if_pos (by decide), hf.2.2.2.1]
  · refine ⟨nI (kLn K x), clI_of (st.trans ?_), fun _ => rfl⟩
    rw [if_neg (by decide), if_neg (by decide), if_pos (by decide), hf.1]
  · refine ⟨nI (maxLen (kCe K) (kF K x) (kG K x) (kLn K x)), clI_of (st.trans ?_), fun _ => rfl⟩
    rw [if_neg (by decide), if_neg (by decide), if_neg (by decide), if_pos (by decide), hf.2.2.2.2.2.1]
  · refine ⟨-nI (pcN (kF K x) (kG K x) (kLn K x) (kNP K)).2, clI_of (st.trans ?_), fun w => ?_⟩
    · rw [if_neg (by decide), if_neg (by decide), if_neg (by decide), if_neg (by decide), if_pos (by decide), hf.2.2.2.2.2.2.2]
    · rw [show mrt K 4 x = if kLn K x = 0 then -1000 else -nI (pcN (kF K x) (kG K x) (kLn K x) (kNP K)).2 from rfl, if_neg (by omega)]
  · refine ⟨nI (onesN (usdN (kF K x) (kG K x) (kLn K x)) 12), clI_of (st.trans ?_), fun _ => rfl⟩
    rw [if_neg (by decide), if_neg (by decide), if_neg (by decide), if_neg (by decide), if_neg (by decide), hf.2.1, c_bitCount, bind_some', bc12 lu]
def bst (b : Nat → Int32) : Nat → Nat
  | 0 => 0
  | k + 1 => if b (bst b k) < b (k + 1) then k + 1 else bst b k
theorem bst_le (b : Nat → Int32) : ∀ k, bst b k ≤ k := by
  intro k
  induction k with
  | zero => exact Nat.le_refl _
  | succ k ih => unfold bst; split <;> omega
def pkI (K : SKY) (l : Nat) : Int32 := if kNX K = 0 then -1 else if mrt K l (bst (mrt K l) (kNX K - 1)) = -1000 then -1 else nI (bst (mrt K l) (kNX K - 1))
theorem c_M_picked {d l : Nat} (hl : l < 6) {V : Mem} {K : SKY} (h : MS V 32 0 K) (ok : okK K) : clI (d + 7) m_M_picked [.inr (.inr (30, 0)), .inl (nI l)] V = some (pkI K l, V) := by
  have hX := ok.2.1
  refine clI_of ((e_M_picked_0 (d + 6) _ V).trans ?_)
  by_cases z : kNX K = 0
  · rw [e_M_picked_4, h.nx, z, if_neg (show ¬ (0 : Int32) < nI 0 by decide), if_pos rfl, pkI, if_pos z]
  · have main : ∀ m k, k + 1 + m = kNX K → sem (d + 6) 199 4 [some (.inr (.inr (30, 0))), some (.inl (nI l)), some (.inl (nI (bst (mrt K l) k))), some (.inl (nI (k + 1)))] [] V = some (some (.inl (pkI K l)), V) := by
      intro m
      induction m with
      | zero =>
        intro k hk
        have := bst_le (mrt K l) k
        rw [e_M_picked_4, h.nx, if_neg (nI_nlt (by omega) (by omega)), if_neg (neg1_nI (by omega)), c_M_byLaw hl h ok (by omega), bind_some', pkI, if_neg z, show kNX K - 1 = k by omega]
        by_cases e : mrt K l (bst (mrt K l) k) = -1000
        · rw [if_pos e, if_pos e]
        · rw [if_neg e, if_neg e]
      | succ m ih =>
        intro k hk
        have := bst_le (mrt K l) k
        rw [e_M_picked_4, h.nx, if_pos (nI_lt (by omega) (by omega)), if_neg (neg1_nI (by omega)), c_M_byLaw hl h ok (by omega), bind_some', c_M_byLaw hl h ok (by omega), bind_some']
        refine Eq.trans ?_ (ih (k + 1) (by omega))
        by_cases e : mrt K l (bst (mrt K l) k) < mrt K l (k + 1)
        · rw [if_pos e, e_M_picked_36, e_M_picked_41, nI_1, show bst (mrt K l) (k + 1) = k + 1 from if_pos e]
        · rw [if_neg e, e_M_picked_41, nI_1, show bst (mrt K l) (k + 1) = bst (mrt K l) k from if_neg e]
    rw [e_M_picked_4, h.nx, if_pos (show (0 : Int32) < nI (kNX K) from nI_lt (a := 0) (by omega) (by omega)), if_pos rfl, e_M_picked_36, e_M_picked_41]
    exact main (kNX K - 1) 0 (by omega)
theorem pickStep {d l : Nat} (hl : l < 6) {V W : Mem} {K : SKY} (h : CS V 0 K) (ok : okK K) (hW : FrF V W) (x2 x3 : Int32) {j : Nat} (hj : j < kNX K) : ∃ W', FrF V W' ∧ ((l ≠ 4 ∨ 0 < kLn K j) → (x2 = -1 ∨ x3 < mrt K l j) → sem (d + 3) 121 7 [some (.inr (.inr (0, 0))), some (.inl (nI l)), some (.inl x2), some (.inl x3), some (.inl (nI j)), none, none, none] [] W = sem (d + 3) 121 7 [some (.inr (.inr (0, 0))), some (.inl (nI l)), some (.inl (nI j)), some (.inl (mrt K l j)), some (.inl (nI (j + 1))), none, none, none] [] W') ∧ (¬ ((l ≠ 4 ∨ 0 < kLn K j) ∧ (x2 = -1 ∨ x3 < mrt K l j)) → sem (d + 3) 121 7 [some (.inr (.inr (0, 0))), some (.inl (nI l)), some (.inl x2), some (.inl x3), some (.inl (nI j)), none, none, none] [] W = sem (d + 3) 121 7 [some (.inr (.inr (0, 0))), some (.inl (nI l)), some (.inl x2), some (.inl x3), some (.inl (nI (j + 1))), none, none, none] [] W') := by
  have hX := ok.2.1
  have hl10 := ok.toL.2.2 j hj
  obtain ⟨W', v1, v2, v3, v4, v5⟩ := c_meas (d := d) (h.frf ok hW) ok hj
  obtain ⟨m, m1, m2⟩ := c_merit (d := d) hl ok hj v2 v5
  have st := e_C_pickedBy_7 (d + 3) (nI l) x2 x3 (nI j) W
  rw [(h.frf ok hW).1.2.1, if_pos (nI_lt hj (by omega)), if_neg (nI_in (N := 6) (by omega) (by omega)), nI_clamp (by omega), v1, bind_some', v5.2.2.2.1] at st
  have f62 : ∀ z : Int32, sem (d + 3) 121 62 [some (.inr (.inr (0, 0))), some (.inl (nI l)), some (.inl x2), some (.inl x3), some (.inl (nI j)), some (.inr (.inr (5, j))), none, none] [.inl z] W' = if ¬ z = 0 ∧ (x2 = -1 ∨ x3 < m) then sem (d + 3) 121 7 [some (.inr (.inr (0, 0))), some (.inl (nI l)), some (.inl (nI j)), some (.inl m), some (.inl (nI (j + 1))), none, none, none] [] W' else sem (d + 3) 121 7 [some (.inr (.inr (0, 0))), some (.inl (nI l)), some (.inl x2), some (.inl x3), some (.inl (nI (j + 1))), none, none, none] [] W' := by
    intro z
    rw [e_C_pickedBy_62, m1, bind_some']
    simp only [e_C_pickedBy_92, e_C_pickedBy_98, nI_1]
    by_cases a : z = 0
    · rw [if_pos a, if_neg (fun w => w.1 a)]
    · rw [if_neg a]
      by_cases b : x2 = -1
      · rw [if_pos b, if_pos ⟨a, Or.inl b⟩]
      · rw [if_neg b]
        by_cases c : x3 < m
        · rw [if_pos c, if_pos ⟨a, Or.inr c⟩]
        · rw [if_neg c, if_neg (fun w => w.2.elim b c)]
  have key : sem (d + 3) 121 7 [some (.inr (.inr (0, 0))), some (.inl (nI l)), some (.inl x2), some (.inl x3), some (.inl (nI j)), none, none, none] [] W = sem (d + 3) 121 62 [some (.inr (.inr (0, 0))), some (.inl (nI l)), some (.inl x2), some (.inl x3), some (.inl (nI j)), some (.inr (.inr (5, j))), none, none] [.inl (bI (l ≠ 4 ∨ 0 < kLn K j))] W' := by
    rw [st]
    simp only [e_C_pickedBy_57]
    by_cases a : l = 4
    · rw [if_pos (by rw [a]; rfl)]
      by_cases b : 0 < kLn K j
      · rw [if_pos (show 0 < nI (kLn K j) from nI_lt (a := 0) b (by omega)), bI_t (Or.inr b)]
      · rw [if_neg (show ¬ 0 < nI (kLn K j) from nI_nlt (a := 0) (by omega) (by omega)), bI_f (fun w => w.elim (fun w => w a) b)]
    · rw [if_neg (show ¬ nI l = 4 from fun w => a ((nI_eq (b := 4) (by omega) (by omega)).mp w)), bI_t (Or.inl a)]
  refine ⟨W', hW.trans v3, fun p q => ?_, fun p => ?_⟩
  · rw [key, f62, bI_t p, m2 p, if_pos ⟨one_ne, q⟩]
  · rw [key, f62]
    by_cases a : l ≠ 4 ∨ 0 < kLn K j
    · rw [bI_t a, m2 a, if_neg (fun w => p ⟨a, w.2⟩)]
    · rw [bI_f a, if_neg (fun w => w.1 rfl)]
theorem c_pickedBy {d l : Nat} (hl : l < 6) {V : Mem} {K : SKY} (h : CS V 0 K) (ok : okK K) : ∃ V', clI (d + 4) m_C_pickedBy [.inr (.inr (0, 0)), .inl (nI l)] V = some (pkI K l, V') ∧ FrF V V' := by
  have hX := ok.2.1
  by_cases z : kNX K = 0
  · refine ⟨V, clI_of ((e_C_pickedBy_0 (d + 3) _ V).trans ?_), FrF.rfl⟩
    rw [e_C_pickedBy_7, h.1.2.1, z, if_neg (show ¬ (0 : Int32) < nI 0 by decide), pkI, if_pos z]
  · have main : ∀ m k W (y : Int32), k + 1 + m = kNX K → FrF V W → (¬ mrt K l (bst (mrt K l) k) = -1000 → y = mrt K l (bst (mrt K l) k)) → ∃ W', sem (d + 3) 121 7 [some (.inr (.inr (0, 0))), some (.inl (nI l)), some (.inl (if mrt K l (bst (mrt K l) k) = -1000 then -1 else nI (bst (mrt K l) k))), some (.inl y), some (.inl (nI (k + 1))), none, none, none] [] W = some (some (.inl (pkI K l)), W') ∧ FrF V W' := by
      intro m
      induction m with
      | zero =>
        intro k W y hk hW hy
        refine ⟨W, ?_, hW⟩
        rw [e_C_pickedBy_7, (h.frf ok hW).1.2.1, if_neg (nI_nlt (by omega) (by omega)), pkI, if_neg z, show kNX K - 1 = k by omega]
      | succ m ih =>
        intro k W y hk hW hy
        have bl := bst_le (mrt K l) k
        obtain ⟨g1, g2⟩ := mrt_ge ok l (show k + 1 < kNX K by omega)
        obtain ⟨g3, g4⟩ := mrt_ge ok l (show bst (mrt K l) k < kNX K by omega)
        obtain ⟨W', w1, w2, w3⟩ := pickStep (d := d) hl h ok hW (if mrt K l (bst (mrt K l) k) = -1000 then -1 else nI (bst (mrt K l) k)) y (show k + 1 < kNX K by omega)
        by_cases e : mrt K l (bst (mrt K l) k) < mrt K l (k + 1)
        · have be : bst (mrt K l) (k + 1) = k + 1 := if_pos e
          have may : l ≠ 4 ∨ 0 < kLn K (k + 1) := Classical.byContradiction (fun w => by
            rw [g2.mpr w] at e
            exact g3 e)
          have nm : ¬ mrt K l (k + 1) = -1000 := fun w => g2.mp w may
          have st := w2 may (by
            by_cases q : mrt K l (bst (mrt K l) k) = -1000
            · exact Or.inl (if_pos q)
            · exact Or.inr (by rw [hy q]; exact e))
          obtain ⟨W2, u1, u2⟩ := ih (k + 1) W' (mrt K l (k + 1)) (by omega) w1 (fun _ => by rw [be])
          refine ⟨W2, ?_, u2⟩
          rw [be, if_neg nm] at u1
          exact st.trans u1
        · have be : bst (mrt K l) (k + 1) = bst (mrt K l) k := if_neg e
          have st := w3 (fun w => by
            obtain ⟨wm, w⟩ := w
            have nm : ¬ mrt K l (k + 1) = -1000 := fun q => g2.mp q wm
            by_cases q : mrt K l (bst (mrt K l) k) = -1000
            · rw [q] at e
              rw [lt_toInt] at e g1
              have : mrt K l (k + 1) = -1000 := Int32.toInt_inj.mp (by omega)
              exact nm this
            · rw [if_neg q, hy q] at w
              exact w.elim (fun w => neg1_nI (by omega) w) e)
          obtain ⟨W2, u1, u2⟩ := ih (k + 1) W' y (by omega) w1 (fun q => by rw [be] at q ⊢; exact hy q)
          refine ⟨W2, ?_, u2⟩
          rw [be] at u1
          exact st.trans u1
    obtain ⟨g1, g2⟩ := mrt_ge ok l (show 0 < kNX K by omega)
    obtain ⟨W', w1, w2, w3⟩ := pickStep (d := d) hl h ok FrF.rfl (-1) 0 (show 0 < kNX K by omega)
    by_cases may : l ≠ 4 ∨ 0 < kLn K 0
    · have nm : ¬ mrt K l 0 = -1000 := fun w => g2.mp w may
      obtain ⟨W2, u1, u2⟩ := main (kNX K - 1) 0 W' (mrt K l 0) (by omega) w1 (fun _ => rfl)
      refine ⟨W2, clI_of ((e_C_pickedBy_0 (d + 3) _ V).trans ((w2 may (Or.inl rfl)).trans ?_)), u2⟩
      rw [show bst (mrt K l) 0 = 0 from rfl, if_neg nm] at u1
      exact u1
    · obtain ⟨W2, u1, u2⟩ := main (kNX K - 1) 0 W' 0 (by omega) w1 (fun q => absurd (g2.mpr may) q)
      refine ⟨W2, clI_of ((e_C_pickedBy_0 (d + 3) _ V).trans ((w3 (fun w => may w.1)).trans ?_)), u2⟩
      rw [show bst (mrt K l) 0 = 0 from rfl, if_pos (g2.mpr may)] at u1
      exact u1
theorem pm_pick (SL : Nat) (xs : Nat → Int32) (a1 : Int32) : PMI SL xs m_C_pick m_M_pick [.inl a1] := by
  intro V h
  obtain ⟨K, k1, k2, k3, k4⟩ := h.1
  rcases ix_or a1 (n := 6) (by omega) with hN | ⟨l, hl, rfl⟩
  · refine ⟨-2, CRf V 0, MRf (CRf V 0) 0, clI_of ((e_C_pick_0 29 a1 V).trans ?_), h.vok.crf 0, clI_of ((e_M_pick_0 29 a1 _).trans ?_), h.ref (by omega)⟩
    · rw [e_C_pick_10, c_C_ref2, bind_some']
      by_cases b : a1 < 0
      · rw [if_pos b]
      · rw [if_neg b, if_neg (show ¬ a1 < 6 from fun w => hN ⟨b, w⟩)]
    · rw [c_in0_5, bind_some', bI_f hN, if_pos rfl, c_M_ref2, bind_some']
  · obtain ⟨V1, w1, w2⟩ := c_pickedBy (d := 25) hl k2 k1
    refine PM_cor h (V1 := V1) (V2 := V1) (r := pkI K l) (clI_of ((e_C_pick_0 29 _ V).trans ?_)) w2.cor (clI_of ((e_M_pick_0 29 _ _).trans ?_)) Cor.rfl
    · rw [if_neg (nI_pos (by omega)), if_pos (show nI l < 6 from nI_lt (b := 6) hl (by omega)), w1, bind_some']
    · rw [c_in0_5, bind_some', bI_t (ix_in hl (by omega)), if_neg one_ne, c_M_picked hl (k3.frf w2 (by omega)) k1, bind_some']
def lwI (K : SKY) (a : Int32) : Nat → Int32
  | 0 => 0
  | k + 1 => lwI K a k ||| (if pkI K k = a then 1 <<< (nI k &&& 31) else 0)
theorem pm_laws (SL : Nat) (xs : Nat → Int32) (a1 : Int32) : PMI SL xs m_C_laws m_M_laws [.inl a1] := by
  intro V h
  obtain ⟨K, k1, k2, k3, k4⟩ := h.1
  have hX := k1.2.1
  by_cases hN : inR (kNX K) a1
  · obtain ⟨V1, v1, v2⟩ := loopI 6 (fun _ W => FrF V W) (fun k W => sem 29 100 19 [some (.inr (.inr (0, 0))), some (.inl a1), some (.inl (lwI K a1 k)), some (.inl (nI k))] [] W) (fun k W hk hW => by
      obtain ⟨W2, w1, w2⟩ := c_pickedBy (d := 25) hk (k2.frf k1 hW) k1
      refine ⟨W2, hW.trans w2, ?_⟩
      show sem _ _ _ _ _ _ = sem 29 100 19 [some (.inr (.inr (0, 0))), some (.inl a1), some (.inl (lwI K a1 k ||| (if pkI K k = a1 then 1 <<< (nI k &&& 31) else 0))), some (.inl (nI (k + 1)))] [] W2
      rw [e_C_laws_19, if_pos (show nI k < 6 from nI_lt (b := 6) hk (by omega)), w1, bind_some']
      by_cases e : pkI K k = a1
      · rw [if_pos e, if_pos e, e_C_laws_40, nI_1]
      · rw [if_neg e, if_neg e, e_C_laws_40, nI_1, Int32.or_zero]) V FrF.rfl
    have m1 : MS V1 32 0 K := k3.frf v1 (by omega)
    refine PM_cor h (V1 := V1) (V2 := V1) (r := lwI K a1 6) (clI_of ((e_C_laws_0 29 _ V).trans ?_)) v1.cor (clI_of ((e_M_laws_0 29 _ _).trans ?_)) Cor.rfl
    · rw [c_C_isParish, bind_some', k2.1.2.1, bI_t hN, if_neg one_ne]
      refine Eq.trans v2 ?_
      show sem _ _ _ _ _ _ = _
      rw [e_C_laws_19, if_neg (by decide)]
    · rw [c_M_isParish (by omega) a1 m1.nx, bind_some', bI_t hN, if_neg one_ne]
      refine loopN 6 (fun k => sem 29 201 19 [some (.inr (.inr (30, 0))), some (.inl a1), some (.inl (lwI K a1 k)), some (.inl (nI k))] [] V1) _ (fun k hk => ?_) ?_
      · show sem _ _ _ _ _ _ = sem 29 201 19 [some (.inr (.inr (30, 0))), some (.inl a1), some (.inl (lwI K a1 k ||| (if pkI K k = a1 then 1 <<< (nI k &&& 31) else 0))), some (.inl (nI (k + 1)))] [] V1
        rw [e_M_laws_19, if_pos (show nI k < 6 from nI_lt (b := 6) hk (by omega)), c_M_picked hk m1 k1, bind_some']
        by_cases e : pkI K k = a1
        · rw [if_pos e, if_pos e, e_M_laws_42, nI_1]
        · rw [if_neg e, if_neg e, e_M_laws_42, nI_1]
      · show sem _ _ _ _ _ _ = _
        rw [e_M_laws_19, if_neg (by decide)]
  · refine ⟨-2, CRf V 0, MRf (CRf V 0) 0, clI_of ((e_C_laws_0 29 a1 V).trans ?_), h.vok.crf 0, clI_of ((e_M_laws_0 29 a1 _).trans ?_), h.ref (by omega)⟩
    · rw [c_C_isParish, bind_some', k2.1.2.1, bI_f hN, if_pos rfl, c_C_ref2, bind_some']
    · rw [c_M_isParish (by omega) a1 (k3.crf 0).nx, bind_some', bI_f hN, if_pos rfl, c_M_ref2, bind_some']
