/-! LINES AS A LIST; what is left of them -/
def LL (f g : Nat → Nat) (n : Nat) : List (Nat × Nat) := (List.range n).map (fun i => (f i, g i))
theorem LL_len (f g : Nat → Nat) (n : Nat) : (LL f g n).length = n := by unfold LL; rw [List.length_map, List.length_range]
theorem LL_get (f g : Nat → Nat) (n i : Nat) : (LL f g n)[i]? = if i < n then some (f i, g i) else none := by
  unfold LL
  rw [List.getElem?_map]
  by_cases h : i < n
  · rw [List.getElem?_range h, if_pos h]; rfl
  · rw [List.getElem?_eq_none (by rw [List.length_range]; omega), if_neg h]; rfl
theorem LL_inj {f g f' g' : Nat → Nat} {n n' : Nat} (h : LL f g n = LL f' g' n') : n = n' ∧ ∀ i, i < n → f i = f' i ∧ g i = g' i := by
  have e : n = n' := by have := congrArg List.length h; rwa [LL_len, LL_len] at this
  subst e
  refine ⟨rfl, fun i hi => ?_⟩
  have := congrArg (fun l => l[i]?) h
  simp only [LL_get, if_pos hi, Option.some.injEq, Prod.mk.injEq] at this
  exact this
theorem sumLen_congr {ce f g f' g' : Nat → Nat} : ∀ n, (∀ i, i < n → f i = f' i ∧ g i = g' i) → sumLen ce f g n = sumLen ce f' g' n := by
  intro n
  induction n with
  | zero => intro _; rfl
  | succ n ih =>
    intro h
    show sumLen ce f g n + _ = sumLen ce f' g' n + _
    rw [ih (fun i hi => h i (by omega)), (h n (by omega)).1, (h n (by omega)).2]
theorem maxLen_congr {ce f g f' g' : Nat → Nat} : ∀ n, (∀ i, i < n → f i = f' i ∧ g i = g' i) → maxLen ce f g n = maxLen ce f' g' n := by
  intro n
  induction n with
  | zero => intro _; rfl
  | succ n ih =>
    intro h
    show max (maxLen ce f g n) _ = max (maxLen ce f' g' n) _
    rw [ih (fun i hi => h i (by omega)), (h n (by omega)).1, (h n (by omega)).2]
theorem endB_congr {f g f' g' : Nat → Nat} {i : Nat} (h : f i = f' i ∧ g i = g' i) : endB f g i = endB f' g' i := by unfold endB; rw [h.1, h.2]
theorem usdN_congr {f g f' g' : Nat → Nat} : ∀ n, (∀ i, i < n → f i = f' i ∧ g i = g' i) → usdN f g n = usdN f' g' n := by
  intro n
  induction n with
  | zero => intro _; rfl
  | succ n ih =>
    intro h
    show usdN f g n ||| _ = usdN f' g' n ||| _
    rw [ih (fun i hi => h i (by omega)), endB_congr (h n (by omega))]
theorem oddN_congr {f g f' g' : Nat → Nat} : ∀ n, (∀ i, i < n → f i = f' i ∧ g i = g' i) → oddN f g n = oddN f' g' n := by
  intro n
  induction n with
  | zero => intro _; rfl
  | succ n ih =>
    intro h
    show oddN f g n ^^^ _ = oddN f' g' n ^^^ _
    rw [ih (fun i hi => h i (by omega)), endB_congr (h n (by omega))]
theorem swp_congr {f g f' g' : Nat → Nat} (b : Nat) : ∀ n, (∀ i, i < n → f i = f' i ∧ g i = g' i) → swp f g n b = swp f' g' n b := by
  intro n
  induction n with
  | zero => intro _; rfl
  | succ n ih =>
    intro h
    unfold swp
    rw [ih (fun i hi => h i (by omega)), endB_congr (h n (by omega))]
theorem itr_congr {f g f' g' : Nat → Nat} {ln : Nat} (h : ∀ i, i < ln → f i = f' i ∧ g i = g' i) : ∀ k b, itr f g ln k b = itr f' g' ln k b := by
  intro k
  induction k with
  | zero => intro b; rfl
  | succ k ih =>
    intro b
    show itr f g ln k (swp f g ln b) = itr f' g' ln k (swp f' g' ln b)
    rw [ih, swp_congr b ln h]
theorem cpN_congr {f g f' g' : Nat → Nat} {ln od : Nat} (h : ∀ i, i < ln → f i = f' i ∧ g i = g' i) : ∀ m p l r, cpN f g ln od m p l r = cpN f' g' ln od m p l r := by
  intro m
  induction m with
  | zero => intro p l r; rfl
  | succ m ih =>
    intro p l r
    unfold cpN
    rw [ih, ih, itr_congr h]
theorem wrt_congr {ce br f g f' g' : Nat → Nat} {np ki a ln : Nat} (h : ∀ i, i < ln → f i = f' i ∧ g i = g' i) : wrt ce br f g np ki a ln = wrt ce br f' g' np ki a ln := by
  unfold wrt pcN
  rw [usdN_congr ln h, oddN_congr ln h, maxLen_congr ln h, sumLen_congr ln h, cpN_congr h]
def wL (ce br : Nat → Nat) (np ki a : Nat) (l : List (Nat × Nat)) : Nat := wrt ce br (fun i => (l.getD i (0, 0)).1) (fun i => (l.getD i (0, 0)).2) np ki a l.length
theorem wrt_wL (ce br f g : Nat → Nat) (np ki a ln : Nat) : wrt ce br f g np ki a ln = wL ce br np ki a (LL f g ln) := by
  unfold wL
  rw [LL_len]
  refine wrt_congr (fun i hi => ?_)
  have : (LL f g ln).getD i (0, 0) = (f i, g i) := by
    rw [List.getD_eq_getElem?_getD, LL_get, if_pos hi]; rfl
  rw [this]
  exact ⟨rfl, rfl⟩
theorem LL_del {f g : Nat → Nat} {m n : Nat} (hn : n < m) : LL (delN f n) (delN g n) (m - 1) = (LL f g m).eraseIdx n := by
  apply List.ext_getElem?
  intro i
  rw [LL_get, List.getElem?_eraseIdx]
  unfold delN
  by_cases e : i < n
  · rw [if_pos e, if_pos e, if_pos e, LL_get, if_pos (by omega), if_pos (by omega)]
  · rw [if_neg e, if_neg e, if_neg e, LL_get]
    by_cases e2 : i < m - 1
    · rw [if_pos e2, if_pos (by omega)]
    · rw [if_neg e2, if_neg (by omega)]
/-- from the n-th down, those that are not to stay go -/
def td (keep : Nat × Nat → Bool) : Nat → List (Nat × Nat) → List (Nat × Nat)
  | 0, Q => Q
  | n + 1, Q => td keep n (match Q[n]? with
    | some l => if keep l = true then Q else Q.eraseIdx n
    | none => Q)
theorem td_eq (keep : Nat × Nat → Bool) : ∀ n Q, n ≤ Q.length → td keep n Q = (Q.take n).filter keep ++ Q.drop n := by
  intro n
  induction n with
  | zero => intro Q _; simp [td]
  | succ n ih =>
    intro Q hn
    have hg : Q[n]? = some Q[n] := List.getElem?_eq_getElem (by omega)
    unfold td
    rw [hg]
    have tk : Q.take (n + 1) = Q.take n ++ [Q[n]] := (List.take_append_getElem (by omega)).symm
    have dr : Q.drop n = Q[n] :: Q.drop (n + 1) := List.drop_eq_getElem_cons (by omega)
    simp only
    by_cases e : keep Q[n] = true
    · rw [if_pos e, ih Q (by omega), tk, List.filter_append, dr]
      simp [e]
    · have er : Q.eraseIdx n = Q.take n ++ Q.drop (n + 1) := List.eraseIdx_eq_take_drop_succ Q n
      have lt : (Q.take n).length = n := by rw [List.length_take]; omega
      rw [if_neg e, er, ih _ (by rw [List.length_append, lt]; omega), tk, List.filter_append, List.take_append_of_le_length (by omega), List.take_of_length_le (by omega), List.drop_append_of_le_length (by omega), List.drop_of_length_le (by omega)]
      simp [e]
theorem td_all (keep : Nat × Nat → Bool) (Q : List (Nat × Nat)) : td keep Q.length Q = Q.filter keep := by
  rw [td_eq keep Q.length Q (Nat.le_refl _), List.take_length, List.drop_length, List.append_nil]
def LLx (K : SKY) (x : Nat) : List (Nat × Nat) := LL (kF K x) (kG K x) (kLn K x)
def untP (p : Nat) (l : Nat × Nat) : Bool := !(Nat.beq l.1 p) && !(Nat.beq l.2 p)
theorem untP_t {p : Nat} {l : Nat × Nat} : untP p l = true ↔ ¬ (l.1 = p ∨ l.2 = p) := by
  have b : ∀ a : Nat, Nat.beq a p = true ↔ a = p := fun a => by rw [Nat.beq_eq]
  unfold untP
  rw [Bool.and_eq_true, Bool.not_eq_true', Bool.not_eq_true', ← Bool.not_eq_true, ← Bool.not_eq_true, b, b]
  omega
theorem eraseK_LLx (K : SKY) (x n : Nat) (hn : n < kLn K x) : LLx (eraseK K x n) x = (LLx K x).eraseIdx n := by
  unfold LLx
  rw [eraseK_F, eraseK_G, eraseK_Ln, LL_del hn]
theorem lessK_LLx (x p : Nat) : ∀ n (K : SKY), n ≤ kLn K x → LLx (lessK x p n K) x = td (untP p) n (LLx K x) := by
  intro n
  induction n with
  | zero => intro K _; rfl
  | succ n ih =>
    intro K hn
    have g : (LLx K x)[n]? = some (kF K x n, kG K x n) := by unfold LLx; rw [LL_get, if_pos (by omega)]
    show LLx (lessK x p n (if kF K x n = p ∨ kG K x n = p then eraseK K x n else K)) x = td (untP p) n (match (LLx K x)[n]? with
      | some l => if untP p l = true then LLx K x else (LLx K x).eraseIdx n
      | none => LLx K x)
    rw [g]
    simp only
    by_cases e : kF K x n = p ∨ kG K x n = p
    · have nu : ¬ untP p (kF K x n, kG K x n) = true := fun w => untP_t.mp w e
      rw [if_pos e, if_neg nu, ih _ (by rw [eraseK_Ln]; omega), eraseK_LLx K x n (by omega)]
    · have nu : untP p (kF K x n, kG K x n) = true := untP_t.mpr e
      rw [if_neg e, if_pos nu, ih K (by omega)]
theorem lessK_fil (x p : Nat) (K : SKY) : LLx (lessK x p (kLn K x) K) x = (LLx K x).filter (untP p) := by
  rw [lessK_LLx x p _ K (Nat.le_refl _)]
  have : kLn K x = (LLx K x).length := (LL_len _ _ _).symm
  rw [this]
  exact td_all _ _
theorem lessK_fix (x p : Nat) : ∀ n (K : SKY), (lessK x p n K).1 = K.1 ∧ (lessK x p n K).2.1 = K.2.1 ∧ (∀ y, kKi (lessK x p n K) y = kKi K y ∧ kA (lessK x p n K) y = kA K y) ∧ (lessK x p n K).2.2.2.1 = K.2.2.2.1 ∧ ∀ y, y ≠ x → (lessK x p n K).2.2.1 y = K.2.2.1 y ∧ (lessK x p n K).2.2.2.2 y = K.2.2.2.2 y := by
  intro n
  induction n with
  | zero => intro K; exact ⟨rfl, rfl, fun y => ⟨rfl, rfl⟩, rfl, fun y _ => ⟨rfl, rfl⟩⟩
  | succ n ih =>
    intro K
    show (lessK x p n (if kF K x n = p ∨ kG K x n = p then eraseK K x n else K)).1 = K.1 ∧ _
    by_cases e : kF K x n = p ∨ kG K x n = p
    · obtain ⟨h1, h2, h3, h4, h5⟩ := ih (eraseK K x n)
      have q : lessK x p (n + 1) K = lessK x p n (eraseK K x n) := by show lessK x p n (if kF K x n = p ∨ kG K x n = p then eraseK K x n else K) = _; rw [if_pos e]
      rw [q, if_pos e]
      refine ⟨h1, h2, fun y => ?_, h4, fun y hy => ?_⟩
      · rw [(h3 y).1, (h3 y).2]
        by_cases w : y = x
        · subst w; exact ⟨eraseK_Ki K y n, eraseK_A K y n⟩
        · unfold kKi kA eraseK
          simp only [w, if_false, and_self]
      · rw [(h5 y hy).1, (h5 y hy).2]
        refine ⟨?_, funext fun i => ?_⟩
        · show (if y = x then _ else K.2.2.1 y) = _
          rw [if_neg hy]
        · show (if y = x then _ else K.2.2.2.2 y i) = _
          rw [if_neg hy]
    · have q : lessK x p (n + 1) K = lessK x p n K := by show lessK x p n (if kF K x n = p ∨ kG K x n = p then eraseK K x n else K) = _; rw [if_neg e]
      rw [q, if_neg e]
      exact ih K
theorem lessK_ok2 {K : SKY} (ok : okK K) {x p : Nat} (hx : x < kNX K) : okK (lessK x p (kLn K x) K) := lessK_ok x p (kLn K x) K (setW_on ok x p) hx (Nat.le_refl _) (fun i h1 h2 => by omega)
theorem LLx_other {K K' : SKY} {y : Nat} (h1 : K'.2.2.1 y = K.2.2.1 y) (h2 : K'.2.2.2.2 y = K.2.2.2.2 y) : LLx K' y = LLx K y := by
  unfold LLx kF kG kLn
  rw [h1, h2]
/-! erasing in the class, of any parish -/
def keepB (B : Nat) (l : Nat × Nat) : Bool := Nat.beq ((2 ^ l.1 ||| 2 ^ l.2) &&& B) 0
theorem eraseAtG (d j B : Nat) (hB : B < 4096) {ki a wm : Nat} (y : Int32) : ∀ n ln (f g : Nat → Nat) (V : Mem), CPar V j ki a wm ln f g → ln ≤ 10 → (∀ i, i < ln → f i < 12 ∧ g i < 12) → n ≤ ln → ∃ (V' : Mem) (ln' : Nat) (f' g' : Nat → Nat), sem (d + 1) 20 9 [some (.inr (.inr (5, j))), some (.inl (nI B)), some (.inl y), some (.inl (nI n + -1))] [] V = some (some (.inl (y - nI ln')), V') ∧ CPar V' j ki a wm ln' f' g' ∧ LL f' g' ln' = td (keepB B) n (LL f g ln) ∧ ln' ≤ ln ∧ (∀ t i k, ¬ ((t = 5 ∨ t = 6 ∨ t = 7) ∧ i = j) → V'.1 t i k = V.1 t i k) ∧ V'.2 = V.2 := by
  intro n
  induction n with
  | zero =>
    intro ln f g V h hl hb hn
    refine ⟨V, ln, f, g, ?_, h, rfl, Nat.le_refl _, fun _ _ _ _ => rfl, rfl⟩
    rw [e_Parish_eraseAt_9, if_pos (by decide), h.2.2.2.1]
  | succ n ih =>
    intro ln f g V h hl hb hn
    obtain ⟨b1, b2⟩ := hb n (by omega)
    have lt1 := por_lt b1 b2
    have lt3 : (2 ^ f n ||| 2 ^ g n) &&& B ≤ B := Nat.and_le_right
    have gt : (LL f g ln)[n]? = some (f n, g n) := by rw [LL_get, if_pos (by omega)]
    have st := e_Parish_eraseAt_9 (d + 1) j (nI B) y (nI (n + 1) + -1) V
    rw [sub_self1, if_neg (nI_pos (by omega)), c_ends h hl (by omega) b1 b2, bind_some', nI_and] at st
    by_cases e : (2 ^ f n ||| 2 ^ g n) &&& B = 0
    · have kt : keepB B (f n, g n) = true := by unfold keepB; rw [Nat.beq_eq]; exact e
      rw [if_pos (show nI ((2 ^ f n ||| 2 ^ g n) &&& B) = 0 by rw [e]; rfl), e_Parish_eraseAt_28] at st
      obtain ⟨V', ln', f', g', w1, w2, w3, w4, w5, w6⟩ := ih ln f g V h hl hb (by omega)
      refine ⟨V', ln', f', g', ?_, w2, ?_, w4, w5, w6⟩
      · rw [sub_self1]; exact st.trans w1
      · rw [w3]
        show _ = td (keepB B) n (match (LL f g ln)[n]? with
          | some l => if keepB B l = true then LL f g ln else (LL f g ln).eraseIdx n
          | none => LL f g ln)
        rw [gt]
        simp only
        rw [if_pos kt]
    · have kt : ¬ keepB B (f n, g n) = true := by unfold keepB; rw [Nat.beq_eq]; exact e
      obtain ⟨V1, v1, v2, v3, v4⟩ := c_erase (d := d) h hl (show n < ln by omega)
      rw [if_neg (nI_ne0 (by omega) (by omega)), v1, bind_some', e_Parish_eraseAt_28] at st
      obtain ⟨V', ln', f', g', w1, w2, w3, w4, w5, w6⟩ := ih (ln - 1) (delN f n) (delN g n) V1 v2 (by omega) (fun i hi => by
        unfold delN
        by_cases q : i < n
        · rw [if_pos q, if_pos q]; exact hb i (by omega)
        · rw [if_neg q, if_neg q]; exact hb (i + 1) (by omega)) (by omega)
      refine ⟨V', ln', f', g', ?_, w2, ?_, by omega, fun t i k q => (w5 t i k q).trans (v3 t i k q), w6.trans v4⟩
      · rw [sub_self1]; exact st.trans w1
      · rw [w3, LL_del (by omega)]
        show _ = td (keepB B) n (match (LL f g ln)[n]? with
          | some l => if keepB B l = true then LL f g ln else (LL f g ln).eraseIdx n
          | none => LL f g ln)
        rw [gt]
        simp only
        rw [if_neg kt]
theorem c_eraseAtG {d j B : Nat} (hB : B < 4096) {ki a wm ln : Nat} {f g : Nat → Nat} {V : Mem} (h : CPar V j ki a wm ln f g) (hl : ln ≤ 10) (hb : ∀ i, i < ln → f i < 12 ∧ g i < 12) : ∃ (V' : Mem) (ln' : Nat) (f' g' : Nat → Nat) (z : Int32), clI (d + 2) m_Parish_eraseAt [.inr (.inr (5, j)), .inl (nI B)] V = some (z, V') ∧ CPar V' j ki a wm ln' f' g' ∧ LL f' g' ln' = (LL f g ln).filter (keepB B) ∧ ln' ≤ ln ∧ (∀ t i k, ¬ ((t = 5 ∨ t = 6 ∨ t = 7) ∧ i = j) → V'.1 t i k = V.1 t i k) ∧ V'.2 = V.2 := by
  obtain ⟨V', ln', f', g', w1, w2, w3, w4, w5, w6⟩ := eraseAtG d j B hB (nI ln) ln ln f g V h hl hb (Nat.le_refl _)
  refine ⟨V', ln', f', g', nI ln - nI ln', clI_of ((e_Parish_eraseAt_0 (d + 1) j _ V).trans ?_), w2, ?_, w4, w5, w6⟩
  · rw [h.2.2.2.1, Int32.sub_eq_add_neg (nI ln) 1]
    exact w1
  · rw [w3]
    have := td_all (keepB B) (LL f g ln)
    rw [LL_len] at this
    exact this
