/-! THE SMALL MACHINE: runs, and what a run comes to -/
abbrev FR : Type := Option ((Nat × AL × AS × Mem) ⊕ (Option AV × Mem) ⊕ (Nat × Nat × List AV × Mem × Nat × AL × AS))
def fold {ρ : Type} (K : Nat → AL → AS → Mem → ρ) (fl : ρ) (rt : Option AV → Mem → ρ) (cv ci cl : Nat → List AV → Mem → Nat → AL → AS → ρ) : FR → ρ
  | none => fl
  | some (.inl (pc, L, S, V)) => K pc L S V
  | some (.inr (.inl (r, V))) => rt r V
  | some (.inr (.inr (0, b, as, V, nx, L, R))) => cv b as V nx L R
  | some (.inr (.inr (1, b, as, V, nx, L, R))) => ci b as V nx L R
  | some (.inr (.inr (_ + 2, b, as, V, nx, L, R))) => cl b as V nx L R
def fK : Nat → AL → AS → Mem → FR := fun pc L S V => some (.inl (pc, L, S, V))
def fR : Option AV → Mem → FR := fun r V => some (.inr (.inl (r, V)))
def fC (n : Nat) : Nat → List AV → Mem → Nat → AL → AS → FR := fun b as V nx L R => some (.inr (.inr (n, b, as, V, nx, L, R)))
def nxt (m pc : Nat) (L : AL) (S : AS) (V : Mem) : FR := stp fK none fR (fC 0) (fC 1) (fC 2) m pc L S V
theorem swG_map {ρ σ : Type} (f : ρ → σ) (K : Nat → ρ) (x : Int32) (d : Nat) : ∀ l : List (Int32 × Nat), f (swG K x d l) = swG (fun t => f (K t)) x d l
  | [] => rfl
  | (k, t) :: r => by
    unfold swG
    by_cases h : x = k
    · rw [if_pos h, if_pos h]
    · rw [if_neg h, if_neg h, swG_map f K x d r]
theorem cond_eq_ite {α : Type} (c : Bool) (x y : α) : (bif c then x else y) = if c = true then x else y := by cases c <;> rfl
section Free
variable {ρ : Type} (K : Nat → AL → AS → Mem → ρ) (fl : ρ) (rt : Option AV → Mem → ρ) (cv ci cl : Nat → List AV → Mem → Nat → AL → AS → ρ)
theorem fr_o_load (a b nx : Nat) (L : AL) (S : AS) (V : Mem) : o_load K fl a b nx L S V = fold K fl rt cv ci cl (o_load fK none a b nx L S V) := by
  unfold o_load fK
  try simp only [cond_eq_ite]
  repeat' (first | rfl | contradiction | split)
theorem fr_o_get (a b nx : Nat) (L : AL) (S : AS) (V : Mem) : o_get K fl a b nx L S V = fold K fl rt cv ci cl (o_get fK none a b nx L S V) := by
  unfold o_get fK
  try simp only [cond_eq_ite]
  repeat' (first | rfl | contradiction | split)
theorem fr_o_xald (a nx : Nat) (L : AL) (S : AS) (V : Mem) : o_xald K fl a nx L S V = fold K fl rt cv ci cl (o_xald fK none a nx L S V) := by
  unfold o_xald fK
  try simp only [cond_eq_ite]
  repeat' (first | rfl | contradiction | split)
theorem fr_o_sto1 (a b nx : Nat) (L : AL) (S : AS) (V : Mem) : o_sto1 K fl a b nx L S V = fold K fl rt cv ci cl (o_sto1 fK none a b nx L S V) := by
  unfold o_sto1 fK
  try simp only [cond_eq_ite]
  repeat' (first | rfl | contradiction | split)
theorem fr_o_ibin (a nx : Nat) (L : AL) (S : AS) (V : Mem) : o_ibin K fl a nx L S V = fold K fl rt cv ci cl (o_ibin fK none a nx L S V) := by
  unfold o_ibin fK
  try simp only [cond_eq_ite]
  repeat' (first | rfl | contradiction | split)
theorem fr_o_icmp (a b nx : Nat) (L : AL) (S : AS) (V : Mem) : o_icmp K fl a b nx L S V = fold K fl rt cv ci cl (o_icmp fK none a b nx L S V) := by
  unfold o_icmp fK
  try simp only [cond_eq_ite]
  repeat' (first | rfl | contradiction | split)
theorem fr_o_ifz (a b nx : Nat) (L : AL) (S : AS) (V : Mem) : o_ifz K fl a b nx L S V = fold K fl rt cv ci cl (o_ifz fK none a b nx L S V) := by
  unfold o_ifz fK
  try simp only [cond_eq_ite]
  repeat' (first | rfl | contradiction | split)
theorem fr_o_put (a b nx : Nat) (L : AL) (S : AS) (V : Mem) : o_put K fl a b nx L S V = fold K fl rt cv ci cl (o_put fK none a b nx L S V) := by
  unfold o_put fK
  try simp only [cond_eq_ite]
  repeat' (first | rfl | contradiction | split)
theorem fr_o_dup (nx : Nat) (L : AL) (S : AS) (V : Mem) : o_dup K fl nx L S V = fold K fl rt cv ci cl (o_dup fK none nx L S V) := by
  unfold o_dup fK
  try simp only [cond_eq_ite]
  repeat' (first | rfl | contradiction | split)
theorem fr_o_iast (a nx : Nat) (L : AL) (S : AS) (V : Mem) : o_iast K fl a nx L S V = fold K fl rt cv ci cl (o_iast fK none a nx L S V) := by
  unfold o_iast fK
  try simp only [cond_eq_ite]
  repeat' (first | rfl | contradiction | split)
theorem fr_o_unry (a nx : Nat) (L : AL) (S : AS) (V : Mem) : o_unry K fl a nx L S V = fold K fl rt cv ci cl (o_unry fK none a nx L S V) := by
  unfold o_unry fK
  try simp only [cond_eq_ite]
  repeat' (first | rfl | contradiction | split)
theorem fr_o_aald (nx : Nat) (L : AL) (S : AS) (V : Mem) : o_aald K fl nx L S V = fold K fl rt cv ci cl (o_aald fK none nx L S V) := by
  unfold o_aald fK
  try simp only [cond_eq_ite]
  repeat' (first | rfl | contradiction | split)
theorem fr_o_lbin (a nx : Nat) (L : AL) (S : AS) (V : Mem) : o_lbin K fl a nx L S V = fold K fl rt cv ci cl (o_lbin fK none a nx L S V) := by
  unfold o_lbin fK
  try simp only [cond_eq_ite]
  repeat' (first | rfl | contradiction | split)
theorem fr_o_lcmp (nx : Nat) (L : AL) (S : AS) (V : Mem) : o_lcmp K fl nx L S V = fold K fl rt cv ci cl (o_lcmp fK none nx L S V) := by
  unfold o_lcmp fK
  try simp only [cond_eq_ite]
  repeat' (first | rfl | contradiction | split)
theorem fr_o_idiv (a nx : Nat) (L : AL) (S : AS) (V : Mem) : o_idiv K fl a nx L S V = fold K fl rt cv ci cl (o_idiv fK none a nx L S V) := by
  unfold o_idiv fK
  try simp only [cond_eq_ite]
  repeat' (first | rfl | contradiction | split)
theorem fr_o_ldiv (nx : Nat) (L : AL) (S : AS) (V : Mem) : o_ldiv K fl nx L S V = fold K fl rt cv ci cl (o_ldiv fK none nx L S V) := by
  unfold o_ldiv fK
  try simp only [cond_eq_ite]
  repeat' (first | rfl | contradiction | split)
theorem fr_o_lald (nx : Nat) (L : AL) (S : AS) (V : Mem) : o_lald K fl nx L S V = fold K fl rt cv ci cl (o_lald fK none nx L S V) := by
  unfold o_lald fK
  try simp only [cond_eq_ite]
  repeat' (first | rfl | contradiction | split)
theorem fr_o_last (nx : Nat) (L : AL) (S : AS) (V : Mem) : o_last K fl nx L S V = fold K fl rt cv ci cl (o_last fK none nx L S V) := by
  unfold o_last fK
  try simp only [cond_eq_ite]
  repeat' (first | rfl | contradiction | split)
theorem fr_o_sto2 (a nx : Nat) (L : AL) (S : AS) (V : Mem) : o_sto2 K fl a nx L S V = fold K fl rt cv ci cl (o_sto2 fK none a nx L S V) := by
  unfold o_sto2 fK
  try simp only [cond_eq_ite]
  repeat' (first | rfl | contradiction | split)
theorem fr_o_stoA (a b nx : Nat) (L : AL) (S : AS) (V : Mem) : o_stoA K fl a b nx L S V = fold K fl rt cv ci cl (o_stoA fK none a b nx L S V) := by
  unfold o_stoA fK
  try simp only [cond_eq_ite]
  repeat' (first | rfl | contradiction | split)
theorem fr_o_mat2 (a nx : Nat) (L : AL) (S : AS) (V : Mem) : o_mat2 K fl a nx L S V = fold K fl rt cv ci cl (o_mat2 fK none a nx L S V) := by
  unfold o_mat2 fK
  try simp only [cond_eq_ite]
  repeat' (first | rfl | contradiction | split)
theorem fr_o_mabs (nx : Nat) (L : AL) (S : AS) (V : Mem) : o_mabs K fl nx L S V = fold K fl rt cv ci cl (o_mabs fK none nx L S V) := by
  unfold o_mabs fK
  try simp only [cond_eq_ite]
  repeat' (first | rfl | contradiction | split)
theorem fr_o_matJ (a nx : Nat) (L : AL) (S : AS) (V : Mem) : o_matJ K fl a nx L S V = fold K fl rt cv ci cl (o_matJ fK none a nx L S V) := by
  unfold o_matJ fK
  try simp only [cond_eq_ite]
  repeat' (first | rfl | contradiction | split)
theorem fr_o_dup2 (nx : Nat) (L : AL) (S : AS) (V : Mem) : o_dup2 K fl nx L S V = fold K fl rt cv ci cl (o_dup2 fK none nx L S V) := by
  unfold o_dup2 fK
  try simp only [cond_eq_ite]
  repeat' (first | rfl | contradiction | split)
theorem fr_o_pop (nx : Nat) (L : AL) (S : AS) (V : Mem) : o_pop K fl nx L S V = fold K fl rt cv ci cl (o_pop fK none nx L S V) := by
  unfold o_pop fK
  try simp only [cond_eq_ite]
  repeat' (first | rfl | contradiction | split)
theorem fr_o_alen (nx : Nat) (L : AL) (S : AS) (V : Mem) : o_alen K fl nx L S V = fold K fl rt cv ci cl (o_alen fK none nx L S V) := by
  unfold o_alen fK
  try simp only [cond_eq_ite]
  repeat' (first | rfl | contradiction | split)
theorem fr_o_lshl (nx : Nat) (L : AL) (S : AS) (V : Mem) : o_lshl K fl nx L S V = fold K fl rt cv ci cl (o_lshl fK none nx L S V) := by
  unfold o_lshl fK
  try simp only [cond_eq_ite]
  repeat' (first | rfl | contradiction | split)
theorem fr_o_acpy (a nx : Nat) (L : AL) (S : AS) (V : Mem) : o_acpy K fl a nx L S V = fold K fl rt cv ci cl (o_acpy fK none a nx L S V) := by
  unfold o_acpy fK
  try simp only [cond_eq_ite]
  repeat' (first | rfl | contradiction | split)
theorem fr_o_slen (nx : Nat) (L : AL) (S : AS) (V : Mem) : o_slen K fl nx L S V = fold K fl rt cv ci cl (o_slen fK none nx L S V) := by
  unfold o_slen fK
  try simp only [cond_eq_ite]
  repeat' (first | rfl | contradiction | split)
theorem fr_o_schr (nx : Nat) (L : AL) (S : AS) (V : Mem) : o_schr K fl nx L S V = fold K fl rt cv ci cl (o_schr fK none nx L S V) := by
  unfold o_schr fK
  try simp only [cond_eq_ite]
  repeat' (first | rfl | contradiction | split)
theorem fr_o_iinc (a : Nat) (v : AV) (nx : Nat) (L : AL) (S : AS) (V : Mem) : o_iinc K fl a v nx L S V = fold K fl rt cv ci cl (o_iinc fK none a v nx L S V) := by
  unfold o_iinc fK
  split <;> rfl
theorem fr_o_ret (a : Nat) (S : AS) (V : Mem) : o_ret fl rt a S V = fold K fl rt cv ci cl (o_ret none fR a S V) := by
  unfold o_ret fR
  repeat' (first | rfl | split)
theorem fr_o_call (a b nx : Nat) (L : AL) (S : AS) (V : Mem) : o_call fl cv ci cl a b nx L S V = fold K fl rt cv ci cl (o_call none (fC 0) (fC 1) (fC 2) a b nx L S V) := by
  unfold o_call fC
  try simp only [cond_eq_ite]
  repeat' (first | rfl | contradiction | split)
theorem fr_o_swit (m pc b : Nat) (L : AL) (S : AS) (V : Mem) : o_swit K fl m pc b L S V = fold K fl rt cv ci cl (o_swit fK none m pc b L S V) := by
  unfold o_swit
  split
  · rw [swG_map (fold K fl rt cv ci cl)]; rfl
  · rfl
theorem stp_free (m pc : Nat) (L : AL) (S : AS) (V : Mem) : stp K fl rt cv ci cl m pc L S V = fold K fl rt cv ci cl (nxt m pc L S V) := by
  unfold nxt stp
  generalize ins m pc = e
  obtain ⟨op, a, b, v, nx⟩ := e
  dsimp only
  by_cases h0 : op = 0
  · rw [if_pos h0, if_pos h0]
    apply fr_o_load
  rw [if_neg h0, if_neg h0]
  by_cases h1 : op = 1
  · rw [if_pos h1, if_pos h1]
    rfl
  rw [if_neg h1, if_neg h1]
  by_cases h2 : op = 2
  · rw [if_pos h2, if_pos h2]
    apply fr_o_get
  rw [if_neg h2, if_neg h2]
  by_cases h3 : op = 3
  · rw [if_pos h3, if_pos h3]
    apply fr_o_call
  rw [if_neg h3, if_neg h3]
  by_cases h4 : op = 4
  · rw [if_pos h4, if_pos h4]
    apply fr_o_ret
  rw [if_neg h4, if_neg h4]
  by_cases h5 : op = 5
  · rw [if_pos h5, if_pos h5]
    apply fr_o_xald
  rw [if_neg h5, if_neg h5]
  by_cases h6 : op = 6
  · rw [if_pos h6, if_pos h6]
    rfl
  rw [if_neg h6, if_neg h6]
  by_cases h7 : op = 7
  · rw [if_pos h7, if_pos h7]
    apply fr_o_sto1
  rw [if_neg h7, if_neg h7]
  by_cases h8 : op = 8
  · rw [if_pos h8, if_pos h8]
    apply fr_o_ibin
  rw [if_neg h8, if_neg h8]
  by_cases h9 : op = 9
  · rw [if_pos h9, if_pos h9]
    apply fr_o_icmp
  rw [if_neg h9, if_neg h9]
  by_cases h10 : op = 10
  · rw [if_pos h10, if_pos h10]
    apply fr_o_ifz
  rw [if_neg h10, if_neg h10]
  by_cases h11 : op = 11
  · rw [if_pos h11, if_pos h11]
    apply fr_o_put
  rw [if_neg h11, if_neg h11]
  by_cases h12 : op = 12
  · rw [if_pos h12, if_pos h12]
    apply fr_o_iinc
  rw [if_neg h12, if_neg h12]
  by_cases h13 : op = 13
  · rw [if_pos h13, if_pos h13]
    apply fr_o_dup
  rw [if_neg h13, if_neg h13]
  by_cases h14 : op = 14
  · rw [if_pos h14, if_pos h14]
    apply fr_o_iast
  rw [if_neg h14, if_neg h14]
  by_cases h15 : op = 15
  · rw [if_pos h15, if_pos h15]
    apply fr_o_unry
  rw [if_neg h15, if_neg h15]
  by_cases h16 : op = 16
  · rw [if_pos h16, if_pos h16]
    apply fr_o_aald
  rw [if_neg h16, if_neg h16]
  by_cases h17 : op = 17
  · rw [if_pos h17, if_pos h17]
    apply fr_o_lbin
  rw [if_neg h17, if_neg h17]
  by_cases h18 : op = 18
  · rw [if_pos h18, if_pos h18]
    apply fr_o_lcmp
  rw [if_neg h18, if_neg h18]
  by_cases h19 : op = 19
  · rw [if_pos h19, if_pos h19]
    apply fr_o_idiv
  rw [if_neg h19, if_neg h19]
  by_cases h20 : op = 20
  · rw [if_pos h20, if_pos h20]
    apply fr_o_ldiv
  rw [if_neg h20, if_neg h20]
  by_cases h21 : op = 21
  · rw [if_pos h21, if_pos h21]
    apply fr_o_lald
  rw [if_neg h21, if_neg h21]
  by_cases h22 : op = 22
  · rw [if_pos h22, if_pos h22]
    apply fr_o_last
  rw [if_neg h22, if_neg h22]
  by_cases h23 : op = 23
  · rw [if_pos h23, if_pos h23]
    apply fr_o_sto2
  rw [if_neg h23, if_neg h23]
  by_cases h24 : op = 24
  · rw [if_pos h24, if_pos h24]
    apply fr_o_dup2
  rw [if_neg h24, if_neg h24]
  by_cases h25 : op = 25
  · rw [if_pos h25, if_pos h25]
    apply fr_o_pop
  rw [if_neg h25, if_neg h25]
  by_cases h26 : op = 26
  · rw [if_pos h26, if_pos h26]
    apply fr_o_alen
  rw [if_neg h26, if_neg h26]
  by_cases h27 : op = 27
  · rw [if_pos h27, if_pos h27]
    apply fr_o_lshl
  rw [if_neg h27, if_neg h27]
  by_cases h28 : op = 28
  · rw [if_pos h28, if_pos h28]
    apply fr_o_swit
  rw [if_neg h28, if_neg h28]
  by_cases h29 : op = 29
  · rw [if_pos h29, if_pos h29]
    apply fr_o_acpy
  rw [if_neg h29, if_neg h29]
  by_cases h30 : op = 30
  · rw [if_pos h30, if_pos h30]
    apply fr_o_slen
  rw [if_neg h30, if_neg h30]
  by_cases h31 : op = 31
  · rw [if_pos h31, if_pos h31]
    apply fr_o_schr
  rw [if_neg h31, if_neg h31]
  by_cases h32 : op = 32
  · rw [if_pos h32, if_pos h32]
    apply fr_o_stoA
  rw [if_neg h32, if_neg h32]
  by_cases h33 : op = 33
  · rw [if_pos h33, if_pos h33]
    apply fr_o_mat2
  rw [if_neg h33, if_neg h33]
  by_cases h34 : op = 34
  · rw [if_pos h34, if_pos h34]
    apply fr_o_mabs
  rw [if_neg h34, if_neg h34]
  by_cases h35 : op = 35
  · rw [if_pos h35, if_pos h35]
    apply fr_o_matJ
  rw [if_neg h35, if_neg h35]
  rfl
end Free
def toV : RR → Option Mem
  | some (none, V) => some V
  | _ => none
def toI : RR → Option (Int32 × Mem)
  | some (some (.inl x), V) => some (x, V)
  | _ => none
def toJ : RR → Option (Int64 × Mem)
  | some (some (.inr (.inl x)), V) => some (x, V)
  | _ => none
def cal (g : Nat → Nat → Nat → AL → AS → Mem → RR) (d b : Nat) (as : List AV) (V : Mem) : RR := match d with
  | 0 => none
  | d' + 1 => g d' b 0 (padL (nLo b) (entL as)) [] V
/-- one step over g, which says what comes of every other place -/
def stG (g : Nat → Nat → Nat → AL → AS → Mem → RR) (d m pc : Nat) (L : AL) (S : AS) (V : Mem) : RR :=
  stp (g d m) none (fun r V => some (r, V)) (fun b as V nx L R => (toV (cal g d b as V)).bind fun V' => g d m nx L R V')
    (fun b as V nx L R => (toI (cal g d b as V)).bind fun x => g d m nx L (.inl x.1 :: R) x.2)
    (fun b as V nx L R => (toJ (cal g d b as V)).bind fun x => g d m nx L (.inr (.inl x.1) :: R) x.2) m pc L S V
def go : Nat → Nat → Nat → Nat → AL → AS → Mem → RR
  | 0 => fun _ _ _ _ _ _ => none
  | f + 1 => stG (go f)
/-- what is said by g is said by h -/
def gle (g h : Nat → Nat → Nat → AL → AS → Mem → RR) : Prop := ∀ d m pc L S V X, g d m pc L S V = some X → h d m pc L S V = some X
theorem cal_mono {g h : Nat → Nat → Nat → AL → AS → Mem → RR} (H : gle g h) {d b : Nat} {as : List AV} {V : Mem} {X : Option AV × Mem} (e : cal g d b as V = some X) : cal h d b as V = some X := by
  cases d with
  | zero => cases e
  | succ d => exact H _ _ _ _ _ _ _ e
theorem toV_some {r : RR} {V : Mem} (h : toV r = some V) : r = some (none, V) := by
  unfold toV at h; split at h
  · cases h; rfl
  · cases h
theorem toI_some {r : RR} {x : Int32 × Mem} (h : toI r = some x) : r = some (some (.inl x.1), x.2) := by
  unfold toI at h; split at h
  · cases h; rfl
  · cases h
theorem toJ_some {r : RR} {x : Int64 × Mem} (h : toJ r = some x) : r = some (some (.inr (.inl x.1)), x.2) := by
  unfold toJ at h; split at h
  · cases h; rfl
  · cases h
theorem stG_mono {g h : Nat → Nat → Nat → AL → AS → Mem → RR} (H : gle g h) : gle (stG g) (stG h) := by
  intro d m pc L S V X e
  unfold stG at e ⊢
  rw [stp_free] at e ⊢
  generalize nxt m pc L S V = n at e ⊢
  match n, e with
  | some (.inl (pc, L, S, V)), e => exact H _ _ _ _ _ _ _ e
  | some (.inr (.inl (r, V))), e => exact e
  | some (.inr (.inr (0, b, as, V, nx, L, R))), e =>
    obtain ⟨V', h1, h2⟩ := Option.bind_eq_some_iff.mp e
    exact Option.bind_eq_some_iff.mpr ⟨V', by rw [cal_mono H (toV_some h1)]; rfl, H _ _ _ _ _ _ _ h2⟩
  | some (.inr (.inr (1, b, as, V, nx, L, R))), e =>
    obtain ⟨V', h1, h2⟩ := Option.bind_eq_some_iff.mp e
    exact Option.bind_eq_some_iff.mpr ⟨V', by rw [cal_mono H (toI_some h1)]; rfl, H _ _ _ _ _ _ _ h2⟩
  | some (.inr (.inr (k + 2, b, as, V, nx, L, R))), e =>
    obtain ⟨V', h1, h2⟩ := Option.bind_eq_some_iff.mp e
    exact Option.bind_eq_some_iff.mpr ⟨V', by rw [cal_mono H (toJ_some h1)]; rfl, H _ _ _ _ _ _ _ h2⟩
theorem go_mono1 : ∀ f, gle (go f) (go (f + 1))
  | 0 => fun _ _ _ _ _ _ _ h => by cases h
  | f + 1 => stG_mono (go_mono1 f)
theorem go_mono {f k : Nat} : gle (go f) (go (f + k)) := by
  induction k with
  | zero => exact fun _ _ _ _ _ _ _ h => h
  | succ k ih => exact fun d m pc L S V X h => go_mono1 (f + k) _ _ _ _ _ _ _ (ih _ _ _ _ _ _ _ h)
theorem go_le {f k : Nat} (h : f ≤ k) : gle (go f) (go k) := by
  have e : k = f + (k - f) := by omega
  rw [e]; exact go_mono
noncomputable def sem (d m pc : Nat) (L : AL) (S : AS) (V : Mem) : RR :=
  @dite _ (∃ X f, go f d m pc L S V = some X) (Classical.propDecidable _) (fun h => some h.choose) (fun _ => none)
theorem sem_iff {d m pc : Nat} {L : AL} {S : AS} {V : Mem} {X : Option AV × Mem} : sem d m pc L S V = some X ↔ ∃ f, go f d m pc L S V = some X := by
  unfold sem
  by_cases h : ∃ X f, go f d m pc L S V = some X
  · rw [dif_pos h]
    obtain ⟨f, hf⟩ := h.choose_spec
    constructor
    · intro e; cases e; exact ⟨f, hf⟩
    · rintro ⟨f2, h2⟩
      have a := go_le (Nat.le_max_left f f2) _ _ _ _ _ _ _ hf
      have b := go_le (Nat.le_max_right f f2) _ _ _ _ _ _ _ h2
      rw [a] at b; exact b
  · rw [dif_neg h]
    constructor
    · intro e; cases e
    · rintro ⟨f2, h2⟩; exact absurd ⟨X, f2, h2⟩ h
theorem gle_sem (f : Nat) : gle (go f) sem := fun _ _ _ _ _ _ _ h => sem_iff.mpr ⟨f, h⟩
theorem cal_sem {d b : Nat} {as : List AV} {V : Mem} {X : Option AV × Mem} (h : cal sem d b as V = some X) : ∃ f, cal (go f) d b as V = some X := by
  cases d with
  | zero => cases h
  | succ d => exact sem_iff.mp h
theorem sem_step (d m pc : Nat) (L : AL) (S : AS) (V : Mem) : sem d m pc L S V = stG sem d m pc L S V := by
  refine Option.ext fun X => ?_
  constructor
  · intro h
    obtain ⟨f, hf⟩ := sem_iff.mp h
    cases f with
    | zero => cases hf
    | succ f => exact stG_mono (gle_sem f) _ _ _ _ _ _ _ hf
  · intro h
    unfold stG at h
    rw [stp_free] at h
    have key : ∀ f, stG (go f) d m pc L S V = some X → sem d m pc L S V = some X := fun f hf => sem_iff.mpr ⟨f + 1, hf⟩
    unfold stG at key
    simp only [stp_free] at key
    generalize nxt m pc L S V = n at h key
    match n, h, key with
    | some (.inl (pc, L, S, V)), h, key =>
      obtain ⟨f, hf⟩ := sem_iff.mp h
      exact key f hf
    | some (.inr (.inl (r, V))), h, key => exact key 0 h
    | some (.inr (.inr (0, b, as, V, nx, L, R))), h, key =>
      obtain ⟨V', h1, h2⟩ := Option.bind_eq_some_iff.mp h
      obtain ⟨f1, hf1⟩ := cal_sem (toV_some h1)
      obtain ⟨f2, hf2⟩ := sem_iff.mp h2
      refine key (max f1 f2) (Option.bind_eq_some_iff.mpr ⟨V', ?_, go_le (Nat.le_max_right f1 f2) _ _ _ _ _ _ _ hf2⟩)
      rw [cal_mono (go_le (Nat.le_max_left f1 f2)) hf1]; rfl
    | some (.inr (.inr (1, b, as, V, nx, L, R))), h, key =>
      obtain ⟨V', h1, h2⟩ := Option.bind_eq_some_iff.mp h
      obtain ⟨f1, hf1⟩ := cal_sem (toI_some h1)
      obtain ⟨f2, hf2⟩ := sem_iff.mp h2
      refine key (max f1 f2) (Option.bind_eq_some_iff.mpr ⟨V', ?_, go_le (Nat.le_max_right f1 f2) _ _ _ _ _ _ _ hf2⟩)
      rw [cal_mono (go_le (Nat.le_max_left f1 f2)) hf1]; rfl
    | some (.inr (.inr (k + 2, b, as, V, nx, L, R))), h, key =>
      obtain ⟨V', h1, h2⟩ := Option.bind_eq_some_iff.mp h
      obtain ⟨f1, hf1⟩ := cal_sem (toJ_some h1)
      obtain ⟨f2, hf2⟩ := sem_iff.mp h2
      refine key (max f1 f2) (Option.bind_eq_some_iff.mpr ⟨V', ?_, go_le (Nat.le_max_right f1 f2) _ _ _ _ _ _ _ hf2⟩)
      rw [cal_mono (go_le (Nat.le_max_left f1 f2)) hf1]; rfl
/-- calls, by what they answer -/
noncomputable def clV (d b : Nat) (as : List AV) (V : Mem) : Option Mem := toV (cal sem d b as V)
noncomputable def clI (d b : Nat) (as : List AV) (V : Mem) : Option (Int32 × Mem) := toI (cal sem d b as V)
noncomputable def clJ (d b : Nat) (as : List AV) (V : Mem) : Option (Int64 × Mem) := toJ (cal sem d b as V)
def hasN : List Nat → Nat → Bool
  | [], _ => false
  | a :: l, n => bif Nat.beq a n then true else hasN l n
/-- many steps, up to the places in st -/
noncomputable def uSt (d m : Nat) (st : List Nat) : Nat → Nat → AL → AS → Mem → RR
  | 0 => fun pc L S V => sem d m pc L S V
  | n + 1 => fun pc L S V => bif hasN st pc then sem d m pc L S V else
    stp (uSt d m st n) none (fun r V => some (r, V)) (fun b as V nx L R => (clV d b as V).bind fun V' => uSt d m st n nx L R V')
      (fun b as V nx L R => (clI d b as V).bind fun x => uSt d m st n nx L (.inl x.1 :: R) x.2)
      (fun b as V nx L R => (clJ d b as V).bind fun x => uSt d m st n nx L (.inr (.inl x.1) :: R) x.2) m pc L S V
theorem uSt_sem (d m : Nat) (st : List Nat) : ∀ n, uSt d m st n = fun pc L S V => sem d m pc L S V
  | 0 => rfl
  | n + 1 => by
    funext pc L S V
    unfold uSt
    rw [uSt_sem d m st n]
    cases hasN st pc with
    | true => rfl
    | false => exact (sem_step d m pc L S V).symm
/-- the first step is made in any case -/
noncomputable def u1 (d m : Nat) (st : List Nat) (n pc : Nat) (L : AL) (S : AS) (V : Mem) : RR :=
  stp (uSt d m st n) none (fun r V => some (r, V)) (fun b as V nx L R => (clV d b as V).bind fun V' => uSt d m st n nx L R V')
      (fun b as V nx L R => (clI d b as V).bind fun x => uSt d m st n nx L (.inl x.1 :: R) x.2)
      (fun b as V nx L R => (clJ d b as V).bind fun x => uSt d m st n nx L (.inr (.inl x.1) :: R) x.2) m pc L S V
theorem sem_u1 (d m : Nat) (st : List Nat) (n pc : Nat) (L : AL) (S : AS) (V : Mem) : sem d m pc L S V = u1 d m st n pc L S V := by
  unfold u1
  rw [uSt_sem]
  exact sem_step d m pc L S V
theorem clV_eq (d b : Nat) (as : List AV) (V : Mem) : clV (d + 1) b as V = toV (sem d b 0 (padL (nLo b) (entL as)) [] V) := rfl
theorem clI_eq (d b : Nat) (as : List AV) (V : Mem) : clI (d + 1) b as V = toI (sem d b 0 (padL (nLo b) (entL as)) [] V) := rfl
theorem clJ_eq (d b : Nat) (as : List AV) (V : Mem) : clJ (d + 1) b as V = toJ (sem d b 0 (padL (nLo b) (entL as)) [] V) := rfl
