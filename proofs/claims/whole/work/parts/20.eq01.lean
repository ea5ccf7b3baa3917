/-! Sky_addParish -/
set_option maxRecDepth 100000 in
theorem e_Sky_addParish_0 (d : Nat) (x0 : Nat) (x1 : Int32) (x2 : Int32) (V : Mem) : sem d 46 0 [some (.inr (.inr (1, x0))), some (.inl x1), some (.inl x2)] [] V = (clI d 45 [.inr (.inr (1, x0))] V).bind fun W1 => if W1.1 = 0 then some (none, W1.2) else if W1.2.1 1 x0 4 < 0 ∨ 6 ≤ Int32.toNatClampNeg (W1.2.1 1 x0 4) then none else (clV d 12 [.inr (.inr (5, Int32.toNatClampNeg (W1.2.1 1 x0 4) + 6 * x0)), .inl x1, .inl x2] W1.2).bind fun W2 => some (none, (mset W2.1 1 x0 4 ((W2.1 1 x0 4) + 1), W2.2)) :=
  (sem_u1 d 46 [] 19 0 _ _ _).trans rfl
/-! Sky_rowOf -/
set_option maxRecDepth 100000 in
theorem e_Sky_rowOf_0 (d : Nat) (x0 : Nat) (x1 : Int32) (V : Mem) : sem d 47 0 [some (.inr (.inr (1, x0))), some (.inl x1)] [] V = if x1 < 0 ∨ 12 ≤ Int32.toNatClampNeg x1 then none else some (some (.inl ((V.1 2 x0 (Int32.toNatClampNeg x1)) / 10)), V) :=
  (sem_u1 d 47 [] 8 0 _ _ _).trans rfl
/-! Sky_columnOf -/
set_option maxRecDepth 100000 in
theorem e_Sky_columnOf_0 (d : Nat) (x0 : Nat) (x1 : Int32) (V : Mem) : sem d 48 0 [some (.inr (.inr (1, x0))), some (.inl x1)] [] V = if x1 < 0 ∨ 12 ≤ Int32.toNatClampNeg x1 then none else some (some (.inl ((V.1 2 x0 (Int32.toNatClampNeg x1)) - (V.1 2 x0 (Int32.toNatClampNeg x1)) / 10 * 10)), V) :=
  (sem_u1 d 48 [] 8 0 _ _ _).trans rfl
/-! Sky_length -/
set_option maxRecDepth 100000 in
theorem e_Sky_length_0 (d : Nat) (x0 : Nat) (x1 : Int32) (x2 : Int32) (V : Mem) : sem d 49 0 [some (.inr (.inr (1, x0))), some (.inl x1), some (.inl x2)] [] V = (clI d 47 [.inr (.inr (1, x0)), .inl x1] V).bind fun W1 => (clI d 47 [.inr (.inr (1, x0)), .inl x2] W1.2).bind fun W2 => (clI d 48 [.inr (.inr (1, x0)), .inl x1] W2.2).bind fun W3 => (clI d 48 [.inr (.inr (1, x0)), .inl x2] W3.2).bind fun W4 => some (some (.inl ((iabs (W1.1 - W2.1)) + (iabs (W3.1 - W4.1)))), W4.2) :=
  (sem_u1 d 49 [] 19 0 _ _ _).trans rfl
/-! Sky_lightOf -/
set_option maxRecDepth 100000 in
theorem e_Sky_lightOf_0 (d : Nat) (x0 : Nat) (x1 : Int32) (V : Mem) : sem d 50 0 [some (.inr (.inr (1, x0))), some (.inl x1), none, none] [] V = sem d 50 4 [some (.inr (.inr (1, x0))), some (.inl x1), some (.inl 0), some (.inl 0)] [] V :=
  (sem_u1 d 50 [4, 29] 6 0 _ _ _).trans rfl
set_option maxRecDepth 100000 in
theorem e_Sky_lightOf_4 (d : Nat) (x0 : Nat) (x1 : Int32) (x2 : Int32) (x3 : Int32) (V : Mem) : sem d 50 4 [some (.inr (.inr (1, x0))), some (.inl x1), some (.inl x2), some (.inl x3)] [] V = if x3 < V.1 1 x0 3 then if (x1 >>> (x3 &&& 31)) &&& 1 = 0 then sem d 50 29 [some (.inr (.inr (1, x0))), some (.inl x1), some (.inl x2), some (.inl x3)] [] V else if x3 < 0 ∨ 12 ≤ Int32.toNatClampNeg x3 then none else sem d 50 29 [some (.inr (.inr (1, x0))), some (.inl x1), some (.inl (x2 + (V.1 3 x0 (Int32.toNatClampNeg x3)))), some (.inl x3)] [] V else some (some (.inl x2), V) :=
  (sem_u1 d 50 [4, 29] 19 4 _ _ _).trans rfl
set_option maxRecDepth 100000 in
theorem e_Sky_lightOf_29 (d : Nat) (x0 : Nat) (x1 : Int32) (x2 : Int32) (x3 : Int32) (V : Mem) : sem d 50 29 [some (.inr (.inr (1, x0))), some (.inl x1), some (.inl x2), some (.inl x3)] [] V = sem d 50 4 [some (.inr (.inr (1, x0))), some (.inl x1), some (.inl x2), some (.inl (x3 + 1))] [] V :=
  (sem_u1 d 50 [4, 29] 4 29 _ _ _).trans rfl
/-! Sky_wantersOf -/
set_option maxRecDepth 100000 in
theorem e_Sky_wantersOf_0 (d : Nat) (x0 : Nat) (x1 : Int32) (V : Mem) : sem d 51 0 [some (.inr (.inr (1, x0))), some (.inl x1), none, none] [] V = sem d 51 4 [some (.inr (.inr (1, x0))), some (.inl x1), some (.inl 0), some (.inl 0)] [] V :=
  (sem_u1 d 51 [4, 33] 6 0 _ _ _).trans rfl
set_option maxRecDepth 100000 in
theorem e_Sky_wantersOf_4 (d : Nat) (x0 : Nat) (x1 : Int32) (x2 : Int32) (x3 : Int32) (V : Mem) : sem d 51 4 [some (.inr (.inr (1, x0))), some (.inl x1), some (.inl x2), some (.inl x3)] [] V = if x3 < V.1 1 x0 4 then if x3 < 0 ∨ 6 ≤ Int32.toNatClampNeg x3 then none else (clI d 14 [.inr (.inr (5, Int32.toNatClampNeg x3 + 6 * x0)), .inl (1 <<< (x1 &&& 31))] V).bind fun W1 => if W1.1 = 0 then sem d 51 33 [some (.inr (.inr (1, x0))), some (.inl x1), some (.inl x2), some (.inl x3)] [] W1.2 else sem d 51 33 [some (.inr (.inr (1, x0))), some (.inl x1), some (.inl (x2 ||| (1 <<< (x3 &&& 31)))), some (.inl x3)] [] W1.2 else some (some (.inl x2), V) :=
  (sem_u1 d 51 [4, 33] 21 4 _ _ _).trans rfl
set_option maxRecDepth 100000 in
theorem e_Sky_wantersOf_33 (d : Nat) (x0 : Nat) (x1 : Int32) (x2 : Int32) (x3 : Int32) (V : Mem) : sem d 51 33 [some (.inr (.inr (1, x0))), some (.inl x1), some (.inl x2), some (.inl x3)] [] V = sem d 51 4 [some (.inr (.inr (1, x0))), some (.inl x1), some (.inl x2), some (.inl (x3 + 1))] [] V :=
  (sem_u1 d 51 [4, 33] 4 33 _ _ _).trans rfl
/-! Sky_isShared -/
set_option maxRecDepth 100000 in
theorem e_Sky_isShared_0 (d : Nat) (x0 : Nat) (x1 : Int32) (V : Mem) : sem d 52 0 [some (.inr (.inr (1, x0))), some (.inl x1)] [] V = (clI d 51 [.inr (.inr (1, x0)), .inl x1] V).bind fun W1 => (clI d 224 [.inl W1.1] W1.2).bind fun W2 => if W2.1 < 2 then some (some (.inl 0), W2.2) else some (some (.inl 1), W2.2) :=
  (sem_u1 d 52 [] 10 0 _ _ _).trans rfl
/-! Sky_sharedPoints -/
set_option maxRecDepth 100000 in
theorem e_Sky_sharedPoints_0 (d : Nat) (x0 : Nat) (V : Mem) : sem d 53 0 [some (.inr (.inr (1, x0))), none, none] [] V = sem d 53 4 [some (.inr (.inr (1, x0))), some (.inl 0), some (.inl 0)] [] V :=
  (sem_u1 d 53 [4, 23] 6 0 _ _ _).trans rfl
set_option maxRecDepth 100000 in
theorem e_Sky_sharedPoints_4 (d : Nat) (x0 : Nat) (x1 : Int32) (x2 : Int32) (V : Mem) : sem d 53 4 [some (.inr (.inr (1, x0))), some (.inl x1), some (.inl x2)] [] V = if x2 < V.1 1 x0 3 then (clI d 52 [.inr (.inr (1, x0)), .inl x2] V).bind fun W1 => if W1.1 = 0 then sem d 53 23 [some (.inr (.inr (1, x0))), some (.inl x1), some (.inl x2)] [] W1.2 else sem d 53 23 [some (.inr (.inr (1, x0))), some (.inl (x1 + 1)), some (.inl x2)] [] W1.2 else some (some (.inl x1), V) :=
  (sem_u1 d 53 [4, 23] 11 4 _ _ _).trans rfl
set_option maxRecDepth 100000 in
theorem e_Sky_sharedPoints_23 (d : Nat) (x0 : Nat) (x1 : Int32) (x2 : Int32) (V : Mem) : sem d 53 23 [some (.inr (.inr (1, x0))), some (.inl x1), some (.inl x2)] [] V = sem d 53 4 [some (.inr (.inr (1, x0))), some (.inl x1), some (.inl (x2 + 1))] [] V :=
  (sem_u1 d 53 [4, 23] 4 23 _ _ _).trans rfl
/-! Sky_linesAt -/
set_option maxRecDepth 100000 in
theorem e_Sky_linesAt_0 (d : Nat) (x0 : Nat) (x1 : Int32) (V : Mem) : sem d 54 0 [some (.inr (.inr (1, x0))), some (.inl x1), none, none, none, none] [] V = sem d 54 4 [some (.inr (.inr (1, x0))), some (.inl x1), some (.inl 0), some (.inl 0), none, none] [] V :=
  (sem_u1 d 54 [4, 23] 6 0 _ _ _).trans rfl
set_option maxRecDepth 100000 in
theorem e_Sky_linesAt_4 (d : Nat) (x0 : Nat) (x1 : Int32) (x2 : Int32) (x3 : Int32) (V : Mem) : sem d 54 4 [some (.inr (.inr (1, x0))), some (.inl x1), some (.inl x2), some (.inl x3), none, none] [] V = if x3 < V.1 1 x0 4 then if x3 < 0 ∨ 6 ≤ Int32.toNatClampNeg x3 then none else sem d 54 23 [some (.inr (.inr (1, x0))), some (.inl x1), some (.inl x2), some (.inl x3), some (.inr (.inr (5, Int32.toNatClampNeg x3 + 6 * x0))), some (.inl 0)] [] V else some (some (.inl x2), V) :=
  (sem_u1 d 54 [4, 23] 13 4 _ _ _).trans rfl
set_option maxRecDepth 100000 in
theorem e_Sky_linesAt_23 (d : Nat) (x0 : Nat) (x1 : Int32) (x2 : Int32) (x3 : Int32) (x4 : Nat) (x5 : Int32) (V : Mem) : sem d 54 23 [some (.inr (.inr (1, x0))), some (.inl x1), some (.inl x2), some (.inl x3), some (.inr (.inr (5, x4))), some (.inl x5)] [] V = if x5 < V.1 5 x4 5 then (clI d 16 [.inr (.inr (5, x4)), .inl x5] V).bind fun W1 => sem d 54 23 [some (.inr (.inr (1, x0))), some (.inl x1), some (.inl (x2 + ((W1.1 >>> (x1 &&& 31)) &&& 1))), some (.inl x3), some (.inr (.inr (5, x4))), some (.inl (x5 + 1))] [] W1.2 else sem d 54 4 [some (.inr (.inr (1, x0))), some (.inl x1), some (.inl x2), some (.inl (x3 + 1)), none, none] [] V :=
  (sem_u1 d 54 [4, 23] 18 23 _ _ _).trans rfl
/-! Sky_allLines -/
set_option maxRecDepth 100000 in
theorem e_Sky_allLines_0 (d : Nat) (x0 : Nat) (V : Mem) : sem d 55 0 [some (.inr (.inr (1, x0))), none, none] [] V = sem d 55 4 [some (.inr (.inr (1, x0))), some (.inl 0), some (.inl 0)] [] V :=
  (sem_u1 d 55 [4] 6 0 _ _ _).trans rfl
set_option maxRecDepth 100000 in
theorem e_Sky_allLines_4 (d : Nat) (x0 : Nat) (x1 : Int32) (x2 : Int32) (V : Mem) : sem d 55 4 [some (.inr (.inr (1, x0))), some (.inl x1), some (.inl x2)] [] V = if x2 < V.1 1 x0 4 then if x2 < 0 ∨ 6 ≤ Int32.toNatClampNeg x2 then none else sem d 55 4 [some (.inr (.inr (1, x0))), some (.inl (x1 + (V.1 5 (Int32.toNatClampNeg x2 + 6 * x0) 5))), some (.inl (x2 + 1))] [] V else some (some (.inl x1), V) :=
  (sem_u1 d 55 [4] 16 4 _ _ _).trans rfl
/-! Sky_joined -/
set_option maxRecDepth 100000 in
theorem e_Sky_joined_0 (d : Nat) (x0 : Nat) (x1 : Int32) (V : Mem) : sem d 56 0 [some (.inr (.inr (1, x0))), some (.inl x1), none, none, none, none, none, none, none, none] [] V = sem d 56 10 [some (.inr (.inr (1, x0))), some (.inl x1), some (.inl (x1 &&& (-x1))), some (.inl 0), some (.inl 0), none, none, none, none, none] [] V :=
  (sem_u1 d 56 [10, 32, 59, 78, 95] 11 0 _ _ _).trans rfl
set_option maxRecDepth 100000 in
theorem e_Sky_joined_10 (d : Nat) (x0 : Nat) (x1 : Int32) (x2 : Int32) (x3 : Int32) (x4 : Int32) (V : Mem) : sem d 56 10 [some (.inr (.inr (1, x0))), some (.inl x1), some (.inl x2), some (.inl x3), some (.inl x4), none, none, none, none, none] [] V = if x4 < 12 then if x2 = x1 then some (some (.inl x3), V) else sem d 56 32 [some (.inr (.inr (1, x0))), some (.inl x1), some (.inl x2), some (.inl x3), some (.inl x4), some (.inl 0), some (.inl 1000000), some (.inl 0), none, none] [] V else some (some (.inl x3), V) :=
  (sem_u1 d 56 [10, 32, 59, 78, 95] 14 10 _ _ _).trans rfl
set_option maxRecDepth 100000 in
theorem e_Sky_joined_32 (d : Nat) (x0 : Nat) (x1 : Int32) (x2 : Int32) (x3 : Int32) (x4 : Int32) (x5 : Int32) (x6 : Int32) (x7 : Int32) (V : Mem) : sem d 56 32 [some (.inr (.inr (1, x0))), some (.inl x1), some (.inl x2), some (.inl x3), some (.inl x4), some (.inl x5), some (.inl x6), some (.inl x7), none, none] [] V = if x7 < V.1 1 x0 3 then if ((x1 &&& (x2 ^^^ (-1))) >>> (x7 &&& 31)) &&& 1 = 0 then sem d 56 59 [some (.inr (.inr (1, x0))), some (.inl x1), some (.inl x2), some (.inl x3), some (.inl x4), some (.inl x5), some (.inl x6), some (.inl x7), none, none] [.inl 0] V else sem d 56 59 [some (.inr (.inr (1, x0))), some (.inl x1), some (.inl x2), some (.inl x3), some (.inl x4), some (.inl x5), some (.inl x6), some (.inl x7), none, none] [.inl 1] V else sem d 56 10 [some (.inr (.inr (1, x0))), some (.inl x1), some (.inl (x2 ||| (1 <<< (x5 &&& 31)))), some (.inl (x3 + x6)), some (.inl (x4 + 1)), none, none, none, none, none] [] V :=
  (sem_u1 d 56 [10, 32, 59, 78, 95] 18 32 _ _ _).trans rfl
set_option maxRecDepth 100000 in
theorem e_Sky_joined_59 (d : Nat) (x0 : Nat) (x1 : Int32) (x2 : Int32) (x3 : Int32) (x4 : Int32) (x5 : Int32) (x6 : Int32) (x7 : Int32) (z0 : Int32) (V : Mem) : sem d 56 59 [some (.inr (.inr (1, x0))), some (.inl x1), some (.inl x2), some (.inl x3), some (.inl x4), some (.inl x5), some (.inl x6), some (.inl x7), none, none] [.inl z0] V = if z0 = 0 then sem d 56 78 [some (.inr (.inr (1, x0))), some (.inl x1), some (.inl x2), some (.inl x3), some (.inl x4), some (.inl x5), some (.inl x6), some (.inl x7), some (.inl z0), none] [.inl 1000000] V else (clI d 57 [.inr (.inr (1, x0)), .inl x7, .inl x2] V).bind fun W1 => sem d 56 78 [some (.inr (.inr (1, x0))), some (.inl x1), some (.inl x2), some (.inl x3), some (.inl x4), some (.inl x5), some (.inl x6), some (.inl x7), some (.inl z0), none] [.inl W1.1] W1.2 :=
  (sem_u1 d 56 [10, 32, 59, 78, 95] 10 59 _ _ _).trans rfl
set_option maxRecDepth 100000 in
theorem e_Sky_joined_78 (d : Nat) (x0 : Nat) (x1 : Int32) (x2 : Int32) (x3 : Int32) (x4 : Int32) (x5 : Int32) (x6 : Int32) (x7 : Int32) (x8 : Int32) (z0 : Int32) (V : Mem) : sem d 56 78 [some (.inr (.inr (1, x0))), some (.inl x1), some (.inl x2), some (.inl x3), some (.inl x4), some (.inl x5), some (.inl x6), some (.inl x7), some (.inl x8), none] [.inl z0] V = if z0 < x6 then sem d 56 95 [some (.inr (.inr (1, x0))), some (.inl x1), some (.inl x2), some (.inl x3), some (.inl x4), some (.inl x7), some (.inl z0), some (.inl x7), some (.inl x8), some (.inl z0)] [] V else sem d 56 95 [some (.inr (.inr (1, x0))), some (.inl x1), some (.inl x2), some (.inl x3), some (.inl x4), some (.inl x5), some (.inl x6), some (.inl x7), some (.inl x8), some (.inl z0)] [] V :=
  (sem_u1 d 56 [10, 32, 59, 78, 95] 10 78 _ _ _).trans rfl
set_option maxRecDepth 100000 in
theorem e_Sky_joined_95 (d : Nat) (x0 : Nat) (x1 : Int32) (x2 : Int32) (x3 : Int32) (x4 : Int32) (x5 : Int32) (x6 : Int32) (x7 : Int32) (x8 : Int32) (x9 : Int32) (V : Mem) : sem d 56 95 [some (.inr (.inr (1, x0))), some (.inl x1), some (.inl x2), some (.inl x3), some (.inl x4), some (.inl x5), some (.inl x6), some (.inl x7), some (.inl x8), some (.inl x9)] [] V = sem d 56 32 [some (.inr (.inr (1, x0))), some (.inl x1), some (.inl x2), some (.inl x3), some (.inl x4), some (.inl x5), some (.inl x6), some (.inl (x7 + 1)), none, none] [] V :=
  (sem_u1 d 56 [10, 32, 59, 78, 95] 4 95 _ _ _).trans rfl
/-! Sky_lengthTo -/
set_option maxRecDepth 100000 in
theorem e_Sky_lengthTo_0 (d : Nat) (x0 : Nat) (x1 : Int32) (x2 : Int32) (V : Mem) : sem d 57 0 [some (.inr (.inr (1, x0))), some (.inl x1), some (.inl x2), none, none] [] V = sem d 57 6 [some (.inr (.inr (1, x0))), some (.inl x1), some (.inl x2), some (.inl 1000000), some (.inl 0)] [] V :=
  (sem_u1 d 57 [6, 36] 6 0 _ _ _).trans rfl
set_option maxRecDepth 100000 in
theorem e_Sky_lengthTo_6 (d : Nat) (x0 : Nat) (x1 : Int32) (x2 : Int32) (x3 : Int32) (x4 : Int32) (V : Mem) : sem d 57 6 [some (.inr (.inr (1, x0))), some (.inl x1), some (.inl x2), some (.inl x3), some (.inl x4)] [] V = if x4 < V.1 1 x0 3 then if (x2 >>> (x4 &&& 31)) &&& 1 = 0 then sem d 57 36 [some (.inr (.inr (1, x0))), some (.inl x1), some (.inl x2), some (.inl x3), some (.inl x4)] [] V else (clI d 49 [.inr (.inr (1, x0)), .inl x1, .inl x4] V).bind fun W1 => sem d 57 36 [some (.inr (.inr (1, x0))), some (.inl x1), some (.inl x2), some (.inl (imin x3 W1.1)), some (.inl x4)] [] W1.2 else some (some (.inl x3), V) :=
  (sem_u1 d 57 [6, 36] 19 6 _ _ _).trans rfl
set_option maxRecDepth 100000 in
theorem e_Sky_lengthTo_36 (d : Nat) (x0 : Nat) (x1 : Int32) (x2 : Int32) (x3 : Int32) (x4 : Int32) (V : Mem) : sem d 57 36 [some (.inr (.inr (1, x0))), some (.inl x1), some (.inl x2), some (.inl x3), some (.inl x4)] [] V = sem d 57 6 [some (.inr (.inr (1, x0))), some (.inl x1), some (.inl x2), some (.inl x3), some (.inl (x4 + 1))] [] V :=
  (sem_u1 d 57 [6, 36] 4 36 _ _ _).trans rfl
/-! Sky_drawByLot -/
set_option maxRecDepth 100000 in
theorem e_Sky_drawByLot_0 (d : Nat) (x0 : Nat) (x1 : Nat) (V : Mem) : sem d 58 0 [some (.inr (.inr (1, x0))), some (.inr (.inr (5, x1))), none, none, none, none] [] V = (clI d 224 [.inl (V.1 5 x1 4)] V).bind fun W1 => if W1.1 < 2 then some (none, W1.2) else (clI d 59 [.inr (.inr (1, x0)), .inl W1.1] W1.2).bind fun W2 => (clI d 60 [.inl (W1.2.1 5 x1 4), .inl W2.1] W2.2).bind fun W3 => (clI d 59 [.inr (.inr (1, x0)), .inl W1.1] W3.2).bind fun W4 => (clI d 60 [.inl (W3.2.1 5 x1 4), .inl W4.1] W4.2).bind fun W5 => if W3.1 = W5.1 then some (none, W5.2) else (clI d 17 [.inr (.inr (5, x1)), .inl ((1 <<< (W3.1 &&& 31)) ||| (1 <<< (W5.1 &&& 31)))] W5.2).bind fun W6 => if W6.1 = (-1) then (clV d 18 [.inr (.inr (5, x1)), .inl W3.1, .inl W5.1] W6.2).bind fun W7 => some (none, W7) else (clV d 19 [.inr (.inr (5, x1)), .inl W6.1] W6.2).bind fun W8 => some (none, W8) :=
  (sem_u1 d 58 [] 44 0 _ _ _).trans rfl
/-! Sky_lot -/
set_option maxRecDepth 100000 in
theorem e_Sky_lot_0 (d : Nat) (x0 : Nat) (x1 : Int32) (V : Mem) : sem d 59 0 [some (.inr (.inr (1, x0))), some (.inl x1)] [] V = if 0 < x1 then if x1 = 0 then none else some (some (.inl (((Int32.toUInt32 ((mset V.1 1 x0 6 (((V.1 1 x0 6) * 1103515245) + 12345)) 1 x0 6) >>> (Int32.toUInt32 16 &&& Int32.toUInt32 31)).toInt32) - ((Int32.toUInt32 ((mset V.1 1 x0 6 (((V.1 1 x0 6) * 1103515245) + 12345)) 1 x0 6) >>> (Int32.toUInt32 16 &&& Int32.toUInt32 31)).toInt32) / x1 * x1)), (mset V.1 1 x0 6 (((V.1 1 x0 6) * 1103515245) + 12345), V.2)) else some (some (.inl 0), (mset V.1 1 x0 6 (((V.1 1 x0 6) * 1103515245) + 12345), V.2)) :=
  (sem_u1 d 59 [] 19 0 _ _ _).trans rfl
/-! Sky_wantedPoint -/
set_option maxRecDepth 100000 in
theorem e_Sky_wantedPoint_0 (d : Nat) (x0 : Int32) (x1 : Int32) (V : Mem) : sem d 60 0 [some (.inl x0), some (.inl x1), none, none] [] V = sem d 60 4 [some (.inl x0), some (.inl x1), some (.inl x0), some (.inl 0)] [] V :=
  (sem_u1 d 60 [4] 6 0 _ _ _).trans rfl
set_option maxRecDepth 100000 in
theorem e_Sky_wantedPoint_4 (d : Nat) (x0 : Int32) (x1 : Int32) (x2 : Int32) (x3 : Int32) (V : Mem) : sem d 60 4 [some (.inl x0), some (.inl x1), some (.inl x2), some (.inl x3)] [] V = if x3 < x1 then sem d 60 4 [some (.inl x0), some (.inl x1), some (.inl (x2 &&& (x2 - 1))), some (.inl (x3 + 1))] [] V else (clI d 223 [.inl x2] V).bind fun W1 => some (some (.inl W1.1), W1.2) :=
  (sem_u1 d 60 [4] 13 4 _ _ _).trans rfl
/-! Tape_append -/
set_option maxRecDepth 100000 in
theorem e_Tape_append_0 (d : Nat) (x1 : Int32) (V : Mem) : sem d 61 0 [some (.inr (.inr (20, 0))), some (.inl x1)] [] V = if V.1 20 0 0 < 250 then if V.1 20 0 0 < 0 ∨ 250 ≤ Int32.toNatClampNeg (V.1 20 0 0) then none else some (none, (mset (mset V.1 21 0 (Int32.toNatClampNeg (V.1 20 0 0)) x1) 20 0 0 (((mset V.1 21 0 (Int32.toNatClampNeg (V.1 20 0 0)) x1) 20 0 0) + 1), V.2)) else some (none, V) :=
  (sem_u1 d 61 [] 18 0 _ _ _).trans rfl
/-! Tape_readInto -/
set_option maxRecDepth 100000 in
theorem e_Tape_readInto_0 (d : Nat) (x1 : Nat) (V : Mem) : sem d 62 0 [some (.inr (.inr (20, 0))), some (.inr (.inr (1, x1))), none, none] [] V = sem d 62 14 [some (.inr (.inr (20, 0))), some (.inr (.inr (1, x1))), some (.inl 0), some (.inl 1)] [] (mset (mset V.1 20 0 3 0) 20 0 1 (-1), V.2) :=
  (sem_u1 d 62 [14, 52, 53, 57] 12 0 _ _ _).trans rfl
set_option maxRecDepth 100000 in
theorem e_Tape_readInto_14 (d : Nat) (x1 : Nat) (x2 : Int32) (x3 : Int32) (V : Mem) : sem d 62 14 [some (.inr (.inr (20, 0))), some (.inr (.inr (1, x1))), some (.inl x2), some (.inl x3)] [] V = if x3 = 0 then sem d 62 57 [some (.inr (.inr (20, 0))), some (.inr (.inr (1, x1))), some (.inl x2), some (.inl x3)] [] V else if x2 < 250 then (clV d 65 [.inr (.inr (20, 0)), .inr (.inr (1, x1))] V).bind fun W1 => if W1.1 20 0 1 = (-1) then (clI d 64 [.inr (.inr (20, 0))] W1).bind fun W2 => if W2.1 = 0 then sem d 62 52 [some (.inr (.inr (20, 0))), some (.inr (.inr (1, x1))), some (.inl (x2 + 1)), some (.inl x3)] [] W2.2 else sem d 62 53 [some (.inr (.inr (20, 0))), some (.inr (.inr (1, x1))), some (.inl (x2 + 1)), some (.inl x3)] [.inl 1] W2.2 else sem d 62 52 [some (.inr (.inr (20, 0))), some (.inr (.inr (1, x1))), some (.inl (x2 + 1)), some (.inl x3)] [] W1 else sem d 62 57 [some (.inr (.inr (20, 0))), some (.inr (.inr (1, x1))), some (.inl x2), some (.inl x3)] [] V :=
  (sem_u1 d 62 [14, 52, 53, 57] 20 14 _ _ _).trans rfl
set_option maxRecDepth 100000 in
theorem e_Tape_readInto_53 (d : Nat) (x1 : Nat) (x2 : Int32) (x3 : Int32) (z0 : Int32) (V : Mem) : sem d 62 53 [some (.inr (.inr (20, 0))), some (.inr (.inr (1, x1))), some (.inl x2), some (.inl x3)] [.inl z0] V = sem d 62 14 [some (.inr (.inr (20, 0))), some (.inr (.inr (1, x1))), some (.inl x2), some (.inl z0)] [] V :=
  (sem_u1 d 62 [14, 52, 53, 57] 4 53 _ _ _).trans rfl
set_option maxRecDepth 100000 in
theorem e_Tape_readInto_52 (d : Nat) (x1 : Nat) (x2 : Int32) (x3 : Int32) (V : Mem) : sem d 62 52 [some (.inr (.inr (20, 0))), some (.inr (.inr (1, x1))), some (.inl x2), some (.inl x3)] [] V = sem d 62 53 [some (.inr (.inr (20, 0))), some (.inr (.inr (1, x1))), some (.inl x2), some (.inl x3)] [.inl 0] V :=
  (sem_u1 d 62 [14, 52, 53, 57] 3 52 _ _ _).trans rfl
set_option maxRecDepth 100000 in
theorem e_Tape_readInto_57 (d : Nat) (x1 : Nat) (x2 : Int32) (x3 : Int32) (V : Mem) : sem d 62 57 [some (.inr (.inr (20, 0))), some (.inr (.inr (1, x1))), some (.inl x2), some (.inl x3)] [] V = if V.1 20 0 1 = (-1) then some (some (.inl x2), V) else some (some (.inl (-1)), V) :=
  (sem_u1 d 62 [14, 52, 53, 57] 8 57 _ _ _).trans rfl
/-! Tape_skipBlanks -/
set_option maxRecDepth 100000 in
theorem e_Tape_skipBlanks_0 (d : Nat) (V : Mem) : sem d 63 0 [some (.inr (.inr (20, 0)))] [] V = if V.1 20 0 3 < V.1 20 0 0 then if V.1 20 0 3 < 0 ∨ 250 ≤ Int32.toNatClampNeg (V.1 20 0 3) then none else if V.1 21 0 (Int32.toNatClampNeg (V.1 20 0 3)) = 32 then sem d 63 0 [some (.inr (.inr (20, 0)))] [] (mset V.1 20 0 3 ((V.1 20 0 3) + 1), V.2) else some (none, (mset V.1 20 0 4 (V.1 20 0 3), V.2)) else some (none, (mset V.1 20 0 4 (V.1 20 0 3), V.2)) :=
  (sem_u1 d 63 [0] 21 0 _ _ _).trans rfl
/-! Tape_readSemicolon -/
set_option maxRecDepth 100000 in
theorem e_Tape_readSemicolon_0 (d : Nat) (V : Mem) : sem d 64 0 [some (.inr (.inr (20, 0)))] [] V = (clV d 63 [.inr (.inr (20, 0))] V).bind fun W1 => if W1.1 20 0 3 < W1.1 20 0 0 then if W1.1 20 0 3 < 0 ∨ 250 ≤ Int32.toNatClampNeg (W1.1 20 0 3) then none else if W1.1 21 0 (Int32.toNatClampNeg (W1.1 20 0 3)) = 59 then some (some (.inl 1), (mset W1.1 20 0 3 ((W1.1 20 0 3) + 1), W1.2)) else some (some (.inl 0), (mset W1.1 20 0 1 (W1.1 20 0 3), W1.2)) else some (some (.inl 0), W1) :=
  (sem_u1 d 64 [] 23 0 _ _ _).trans rfl
/-! Tape_readStatement -/
set_option maxRecDepth 100000 in
theorem e_Tape_readStatement_0 (d : Nat) (x1 : Nat) (V : Mem) : sem d 65 0 [some (.inr (.inr (20, 0))), some (.inr (.inr (1, x1)))] [] V = (clV d 63 [.inr (.inr (20, 0))] V).bind fun W1 => sem d 65 4 [some (.inr (.inr (20, 0))), some (.inr (.inr (1, x1)))] [] W1 :=
  (sem_u1 d 65 [4, 56, 80, 104] 4 0 _ _ _).trans rfl
set_option maxRecDepth 100000 in
theorem e_Tape_readStatement_4 (d : Nat) (x1 : Nat) (V : Mem) : sem d 65 4 [some (.inr (.inr (20, 0))), some (.inr (.inr (1, x1)))] [] V = if V.1 20 0 3 < V.1 20 0 0 then if V.1 20 0 3 < 0 ∨ 250 ≤ Int32.toNatClampNeg (V.1 20 0 3) then none else if V.1 21 0 (Int32.toNatClampNeg (V.1 20 0 3)) < 97 then sem d 65 56 [some (.inr (.inr (20, 0))), some (.inr (.inr (1, x1)))] [] V else if V.1 20 0 3 < 0 ∨ 250 ≤ Int32.toNatClampNeg (V.1 20 0 3) then none else if 122 < V.1 21 0 (Int32.toNatClampNeg (V.1 20 0 3)) then sem d 65 56 [some (.inr (.inr (20, 0))), some (.inr (.inr (1, x1)))] [] V else sem d 65 4 [some (.inr (.inr (20, 0))), some (.inr (.inr (1, x1)))] [] (mset V.1 20 0 3 ((V.1 20 0 3) + 1), V.2) else sem d 65 56 [some (.inr (.inr (20, 0))), some (.inr (.inr (1, x1)))] [] V :=
  (sem_u1 d 65 [4, 56, 80, 104] 28 4 _ _ _).trans rfl
set_option maxRecDepth 100000 in
theorem e_Tape_readStatement_56 (d : Nat) (x1 : Nat) (V : Mem) : sem d 65 56 [some (.inr (.inr (20, 0))), some (.inr (.inr (1, x1)))] [] V = (clI d 66 [.inr (.inr (20, 0)), .inr (.inr (52, 0))] V).bind fun W1 => if W1.1 = 0 then sem d 65 80 [some (.inr (.inr (20, 0))), some (.inr (.inr (1, x1)))] [] W1.2 else (clI d 43 [.inr (.inr (1, x1))] W1.2).bind fun W2 => if W2.1 = 0 then sem d 65 80 [some (.inr (.inr (20, 0))), some (.inr (.inr (1, x1)))] [] W2.2 else (clV d 68 [.inr (.inr (20, 0)), .inr (.inr (1, x1))] W2.2).bind fun W3 => some (none, W3) :=
  (sem_u1 d 65 [4, 56, 80, 104] 13 56 _ _ _).trans rfl
set_option maxRecDepth 100000 in
theorem e_Tape_readStatement_80 (d : Nat) (x1 : Nat) (V : Mem) : sem d 65 80 [some (.inr (.inr (20, 0))), some (.inr (.inr (1, x1)))] [] V = (clI d 66 [.inr (.inr (20, 0)), .inr (.inr (52, 1))] V).bind fun W1 => if W1.1 = 0 then sem d 65 104 [some (.inr (.inr (20, 0))), some (.inr (.inr (1, x1)))] [] W1.2 else (clI d 45 [.inr (.inr (1, x1))] W1.2).bind fun W2 => if W2.1 = 0 then sem d 65 104 [some (.inr (.inr (20, 0))), some (.inr (.inr (1, x1)))] [] W2.2 else (clV d 69 [.inr (.inr (20, 0)), .inr (.inr (1, x1))] W2.2).bind fun W3 => some (none, W3) :=
  (sem_u1 d 65 [4, 56, 80, 104] 13 80 _ _ _).trans rfl
set_option maxRecDepth 100000 in
theorem e_Tape_readStatement_104 (d : Nat) (x1 : Nat) (V : Mem) : sem d 65 104 [some (.inr (.inr (20, 0))), some (.inr (.inr (1, x1)))] [] V = (clI d 66 [.inr (.inr (20, 0)), .inr (.inr (52, 2))] V).bind fun W1 => if W1.1 = 0 then (clI d 66 [.inr (.inr (20, 0)), .inr (.inr (52, 3))] W1.2).bind fun W3 => if W3.1 = 0 then (clI d 66 [.inr (.inr (20, 0)), .inr (.inr (52, 4))] W3.2).bind fun W5 => if W5.1 = 0 then some (none, (mset W5.2.1 20 0 1 (W5.2.1 20 0 4), W5.2.2)) else (clV d 73 [.inr (.inr (20, 0)), .inr (.inr (1, x1))] W5.2).bind fun W6 => some (none, W6) else (clV d 71 [.inr (.inr (20, 0)), .inr (.inr (1, x1))] W3.2).bind fun W4 => some (none, W4) else (clV d 70 [.inr (.inr (20, 0)), .inr (.inr (1, x1))] W1.2).bind fun W2 => some (none, W2) :=
  (sem_u1 d 65 [4, 56, 80, 104] 18 104 _ _ _).trans rfl
/-! Tape_isWord -/
set_option maxRecDepth 100000 in
theorem e_Tape_isWord_0 (d : Nat) (x1 : Nat) (V : Mem) : sem d 66 0 [some (.inr (.inr (20, 0))), some (.inr (.inr (52, x1))), none] [] V = if (V.1 20 0 3) - (V.1 20 0 4) = nI (slen x1) then sem d 66 20 [some (.inr (.inr (20, 0))), some (.inr (.inr (52, x1))), some (.inl 0)] [] V else some (some (.inl 0), V) :=
  (sem_u1 d 66 [20] 12 0 _ _ _).trans rfl
set_option maxRecDepth 100000 in
theorem e_Tape_isWord_20 (d : Nat) (x1 : Nat) (x2 : Int32) (V : Mem) : sem d 66 20 [some (.inr (.inr (20, 0))), some (.inr (.inr (52, x1))), some (.inl x2)] [] V = if x2 < nI (slen x1) then if (V.1 20 0 4) + x2 < 0 ∨ 250 ≤ Int32.toNatClampNeg ((V.1 20 0 4) + x2) then none else if x2 < 0 ∨ slen x1 ≤ Int32.toNatClampNeg x2 then none else if V.1 21 0 (Int32.toNatClampNeg ((V.1 20 0 4) + x2)) = schr x1 (Int32.toNatClampNeg x2) then sem d 66 20 [some (.inr (.inr (20, 0))), some (.inr (.inr (52, x1))), some (.inl (x2 + 1))] [] V else some (some (.inl 0), V) else some (some (.inl 1), V) :=
  (sem_u1 d 66 [20] 19 20 _ _ _).trans rfl
/-! Tape_readNumber -/
set_option maxRecDepth 100000 in
theorem e_Tape_readNumber_0 (d : Nat) (x1 : Int32) (x2 : Int32) (V : Mem) : sem d 67 0 [some (.inr (.inr (20, 0))), some (.inl x1), some (.inl x2), none, none] [] V = if V.1 20 0 1 = (-1) then (clV d 63 [.inr (.inr (20, 0))] V).bind fun W1 => sem d 67 16 [some (.inr (.inr (20, 0))), some (.inl x1), some (.inl x2), some (.inl 0), none] [] W1 else some (some (.inl (-1)), V) :=
  (sem_u1 d 67 [16, 86] 10 0 _ _ _).trans rfl
set_option maxRecDepth 100000 in
theorem e_Tape_readNumber_16 (d : Nat) (x1 : Int32) (x2 : Int32) (x3 : Int32) (V : Mem) : sem d 67 16 [some (.inr (.inr (20, 0))), some (.inl x1), some (.inl x2), some (.inl x3), none] [] V = if V.1 20 0 3 < V.1 20 0 0 then if V.1 20 0 3 < 0 ∨ 250 ≤ Int32.toNatClampNeg (V.1 20 0 3) then none else if V.1 21 0 (Int32.toNatClampNeg (V.1 20 0 3)) < 48 then sem d 67 86 [some (.inr (.inr (20, 0))), some (.inl x1), some (.inl x2), some (.inl x3), none] [] V else if V.1 20 0 3 < 0 ∨ 250 ≤ Int32.toNatClampNeg (V.1 20 0 3) then none else if 57 < V.1 21 0 (Int32.toNatClampNeg (V.1 20 0 3)) then sem d 67 86 [some (.inr (.inr (20, 0))), some (.inl x1), some (.inl x2), some (.inl x3), none] [] V else if V.1 20 0 3 < 0 ∨ 250 ≤ Int32.toNatClampNeg (V.1 20 0 3) then none else sem d 67 16 [some (.inr (.inr (20, 0))), some (.inl x1), some (.inl x2), some (.inl (((x3 * 10) + (V.1 21 0 (Int32.toNatClampNeg (V.1 20 0 3)))) - 48)), none] [] (mset V.1 20 0 3 ((V.1 20 0 3) + 1), V.2) else sem d 67 86 [some (.inr (.inr (20, 0))), some (.inl x1), some (.inl x2), some (.inl x3), none] [] V :=
  (sem_u1 d 67 [16, 86] 40 16 _ _ _).trans rfl
set_option maxRecDepth 100000 in
theorem e_Tape_readNumber_86 (d : Nat) (x1 : Int32) (x2 : Int32) (x3 : Int32) (V : Mem) : sem d 67 86 [some (.inr (.inr (20, 0))), some (.inl x1), some (.inl x2), some (.inl x3), none] [] V = if (V.1 20 0 3) - (V.1 20 0 4) < 1 then some (some (.inl x3), (mset V.1 20 0 1 (V.1 20 0 4), V.2)) else if 2 < (V.1 20 0 3) - (V.1 20 0 4) then some (some (.inl x3), (mset V.1 20 0 1 (V.1 20 0 4), V.2)) else if x3 < x1 then some (some (.inl x3), (mset V.1 20 0 1 (V.1 20 0 4), V.2)) else if x2 < x3 then some (some (.inl x3), (mset V.1 20 0 1 (V.1 20 0 4), V.2)) else some (some (.inl x3), V) :=
  (sem_u1 d 67 [16, 86] 25 86 _ _ _).trans rfl
/-! Tape_readPoint -/
set_option maxRecDepth 100000 in
theorem e_Tape_readPoint_0 (d : Nat) (x1 : Nat) (V : Mem) : sem d 68 0 [some (.inr (.inr (20, 0))), some (.inr (.inr (1, x1))), none, none] [] V = (clI d 67 [.inr (.inr (20, 0)), .inl 0, .inl 99] V).bind fun W1 => (clI d 67 [.inr (.inr (20, 0)), .inl 1, .inl 9] W1.2).bind fun W2 => if W2.2.1 20 0 1 = (-1) then (clV d 44 [.inr (.inr (1, x1)), .inl W1.1, .inl W2.1] W2.2).bind fun W3 => some (none, W3) else some (none, W2.2) :=
  (sem_u1 d 68 [] 20 0 _ _ _).trans rfl
/-! Tape_readParish -/
set_option maxRecDepth 100000 in
theorem e_Tape_readParish_0 (d : Nat) (x1 : Nat) (V : Mem) : sem d 69 0 [some (.inr (.inr (20, 0))), some (.inr (.inr (1, x1))), none, none] [] V = (clI d 67 [.inr (.inr (20, 0)), .inl 0, .inl 5] V).bind fun W1 => (clI d 67 [.inr (.inr (20, 0)), .inl 0, .inl 9] W1.2).bind fun W2 => if W2.2.1 20 0 1 = (-1) then (clV d 46 [.inr (.inr (1, x1)), .inl W1.1, .inl W2.1] W2.2).bind fun W3 => some (none, W3) else some (none, W2.2) :=
  (sem_u1 d 69 [] 20 0 _ _ _).trans rfl
/-! Tape_readWants -/
set_option maxRecDepth 100000 in
theorem e_Tape_readWants_0 (d : Nat) (x1 : Nat) (V : Mem) : sem d 70 0 [some (.inr (.inr (20, 0))), some (.inr (.inr (1, x1))), none, none] [] V = (clI d 67 [.inr (.inr (20, 0)), .inl 0, .inl ((V.1 1 x1 4) - 1)] V).bind fun W1 => (clI d 67 [.inr (.inr (20, 0)), .inl 0, .inl ((W1.2.1 1 x1 3) - 1)] W1.2).bind fun W2 => if W2.2.1 20 0 1 = (-1) then if W1.1 < 0 ∨ 6 ≤ Int32.toNatClampNeg W1.1 then none else some (none, (mset W2.2.1 5 (Int32.toNatClampNeg W1.1 + 6 * x1) 4 ((W2.2.1 5 (Int32.toNatClampNeg W1.1 + 6 * x1) 4) ||| (1 <<< (W2.1 &&& 31))), W2.2.2)) else some (none, W2.2) :=
  (sem_u1 d 70 [] 33 0 _ _ _).trans rfl
/-! Tape_readLine -/
set_option maxRecDepth 100000 in
theorem e_Tape_readLine_0 (d : Nat) (x1 : Nat) (V : Mem) : sem d 71 0 [some (.inr (.inr (20, 0))), some (.inr (.inr (1, x1))), none, none, none, none, none] [] V = (clI d 67 [.inr (.inr (20, 0)), .inl 0, .inl ((V.1 1 x1 4) - 1)] V).bind fun W1 => if W1.2.1 20 0 1 = (-1) then if W1.1 < 0 ∨ 6 ≤ Int32.toNatClampNeg W1.1 then none else (clI d 15 [.inr (.inr (5, Int32.toNatClampNeg W1.1 + 6 * x1))] W1.2).bind fun W2 => (clV d 72 [.inr (.inr (20, 0)), .inl W2.1] W2.2).bind fun W3 => (clI d 67 [.inr (.inr (20, 0)), .inl 0, .inl ((W3.1 1 x1 3) - 1)] W3).bind fun W4 => if W4.2.1 20 0 1 = (-1) then (clI d 14 [.inr (.inr (5, Int32.toNatClampNeg W1.1 + 6 * x1)), .inl (1 <<< (W4.1 &&& 31))] W4.2).bind fun W5 => if W5.1 = 0 then sem d 71 74 [some (.inr (.inr (20, 0))), some (.inr (.inr (1, x1))), some (.inl W1.1), some (.inr (.inr (5, Int32.toNatClampNeg W1.1 + 6 * x1))), some (.inl W4.1), none, none] [.inl 0, .inr (.inr (20, 0))] W5.2 else sem d 71 69 [some (.inr (.inr (20, 0))), some (.inr (.inr (1, x1))), some (.inl W1.1), some (.inr (.inr (5, Int32.toNatClampNeg W1.1 + 6 * x1))), some (.inl W4.1), none, none] [.inr (.inr (20, 0))] W5.2 else sem d 71 69 [some (.inr (.inr (20, 0))), some (.inr (.inr (1, x1))), some (.inl W1.1), some (.inr (.inr (5, Int32.toNatClampNeg W1.1 + 6 * x1))), some (.inl W4.1), none, none] [.inr (.inr (20, 0))] W4.2 else some (none, W1.2) :=
  (sem_u1 d 71 [69, 74, 141, 142] 43 0 _ _ _).trans rfl
set_option maxRecDepth 100000 in
theorem e_Tape_readLine_69 (d : Nat) (x1 : Nat) (x2 : Int32) (x3 : Nat) (x4 : Int32) (V : Mem) : sem d 71 69 [some (.inr (.inr (20, 0))), some (.inr (.inr (1, x1))), some (.inl x2), some (.inr (.inr (5, x3))), some (.inl x4), none, none] [.inr (.inr (20, 0))] V = sem d 71 74 [some (.inr (.inr (20, 0))), some (.inr (.inr (1, x1))), some (.inl x2), some (.inr (.inr (5, x3))), some (.inl x4), none, none] [.inl 1, .inr (.inr (20, 0))] V :=
  (sem_u1 d 71 [69, 74, 141, 142] 4 69 _ _ _).trans rfl
set_option maxRecDepth 100000 in
theorem e_Tape_readLine_74 (d : Nat) (x1 : Nat) (x2 : Int32) (x3 : Nat) (x4 : Int32) (z0 : Int32) (V : Mem) : sem d 71 74 [some (.inr (.inr (20, 0))), some (.inr (.inr (1, x1))), some (.inl x2), some (.inr (.inr (5, x3))), some (.inl x4), none, none] [.inl z0, .inr (.inr (20, 0))] V = (clV d 72 [.inr (.inr (20, 0)), .inl z0] V).bind fun W1 => (clI d 67 [.inr (.inr (20, 0)), .inl 0, .inl ((W1.1 1 x1 3) - 1)] W1).bind fun W2 => if W2.2.1 20 0 1 = (-1) then if x4 = W2.1 then sem d 71 141 [some (.inr (.inr (20, 0))), some (.inr (.inr (1, x1))), some (.inl x2), some (.inr (.inr (5, x3))), some (.inl x4), some (.inl W2.1), some (.inl ((1 <<< (x4 &&& 31)) ||| (1 <<< (W2.1 &&& 31))))] [.inr (.inr (20, 0))] W2.2 else (clI d 14 [.inr (.inr (5, x3)), .inl ((1 <<< (x4 &&& 31)) ||| (1 <<< (W2.1 &&& 31)))] W2.2).bind fun W3 => if W3.1 = 0 then sem d 71 141 [some (.inr (.inr (20, 0))), some (.inr (.inr (1, x1))), some (.inl x2), some (.inr (.inr (5, x3))), some (.inl x4), some (.inl W2.1), some (.inl ((1 <<< (x4 &&& 31)) ||| (1 <<< (W2.1 &&& 31))))] [.inr (.inr (20, 0))] W3.2 else (clI d 17 [.inr (.inr (5, x3)), .inl ((1 <<< (x4 &&& 31)) ||| (1 <<< (W2.1 &&& 31)))] W3.2).bind fun W4 => if W4.1 = (-1) then sem d 71 142 [some (.inr (.inr (20, 0))), some (.inr (.inr (1, x1))), some (.inl x2), some (.inr (.inr (5, x3))), some (.inl x4), some (.inl W2.1), some (.inl ((1 <<< (x4 &&& 31)) ||| (1 <<< (W2.1 &&& 31))))] [.inl 1, .inr (.inr (20, 0))] W4.2 else sem d 71 141 [some (.inr (.inr (20, 0))), some (.inr (.inr (1, x1))), some (.inl x2), some (.inr (.inr (5, x3))), some (.inl x4), some (.inl W2.1), some (.inl ((1 <<< (x4 &&& 31)) ||| (1 <<< (W2.1 &&& 31))))] [.inr (.inr (20, 0))] W4.2 else some (none, W2.2) :=
  (sem_u1 d 71 [69, 74, 141, 142] 38 74 _ _ _).trans rfl
set_option maxRecDepth 100000 in
theorem e_Tape_readLine_142 (d : Nat) (x1 : Nat) (x2 : Int32) (x3 : Nat) (x4 : Int32) (x5 : Int32) (x6 : Int32) (z0 : Int32) (V : Mem) : sem d 71 142 [some (.inr (.inr (20, 0))), some (.inr (.inr (1, x1))), some (.inl x2), some (.inr (.inr (5, x3))), some (.inl x4), some (.inl x5), some (.inl x6)] [.inl z0, .inr (.inr (20, 0))] V = (clV d 72 [.inr (.inr (20, 0)), .inl z0] V).bind fun W1 => if W1.1 20 0 1 = (-1) then (clV d 18 [.inr (.inr (5, x3)), .inl x4, .inl x5] W1).bind fun W2 => some (none, W2) else some (none, W1) :=
  (sem_u1 d 71 [69, 74, 141, 142] 11 142 _ _ _).trans rfl
set_option maxRecDepth 100000 in
theorem e_Tape_readLine_141 (d : Nat) (x1 : Nat) (x2 : Int32) (x3 : Nat) (x4 : Int32) (x5 : Int32) (x6 : Int32) (V : Mem) : sem d 71 141 [some (.inr (.inr (20, 0))), some (.inr (.inr (1, x1))), some (.inl x2), some (.inr (.inr (5, x3))), some (.inl x4), some (.inl x5), some (.inl x6)] [.inr (.inr (20, 0))] V = sem d 71 142 [some (.inr (.inr (20, 0))), some (.inr (.inr (1, x1))), some (.inl x2), some (.inr (.inr (5, x3))), some (.inl x4), some (.inl x5), some (.inl x6)] [.inl 0, .inr (.inr (20, 0))] V :=
  (sem_u1 d 71 [69, 74, 141, 142] 3 141 _ _ _).trans rfl
/-! Tape_allow -/
set_option maxRecDepth 100000 in
theorem e_Tape_allow_0 (d : Nat) (x1 : Int32) (V : Mem) : sem d 72 0 [some (.inr (.inr (20, 0))), some (.inl x1)] [] V = if x1 = 0 then some (none, (mset V.1 20 0 1 (V.1 20 0 4), V.2)) else some (none, V) :=
  (sem_u1 d 72 [] 8 0 _ _ _).trans rfl
/-! Tape_readCloud -/
set_option maxRecDepth 100000 in
theorem e_Tape_readCloud_0 (d : Nat) (x1 : Nat) (V : Mem) : sem d 73 0 [some (.inr (.inr (20, 0))), some (.inr (.inr (1, x1))), none] [] V = (clI d 67 [.inr (.inr (20, 0)), .inl 0, .inl 12] V).bind fun W1 => if W1.2.1 20 0 1 = (-1) then some (none, (mset W1.2.1 1 x1 5 W1.1, W1.2.2)) else some (none, W1.2) :=
  (sem_u1 d 73 [] 14 0 _ _ _).trans rfl
/-! C_row -/
set_option maxRecDepth 100000 in
theorem e_C_row_0 (d : Nat) (x1 : Int32) (x2 : Int32) (x3 : Int32) (V : Mem) : sem d 74 0 [some (.inr (.inr (0, 0))), some (.inl x1), some (.inl x2), some (.inl x3), none] [] V = if x2 < 0 then sem d 74 23 [some (.inr (.inr (0, 0))), some (.inl x1), some (.inl x2), some (.inl x3), none] [] V else if x2 < 5 then if x3 < 0 then sem d 74 23 [some (.inr (.inr (0, 0))), some (.inl x1), some (.inl x2), some (.inl x3), none] [] V else if 40 < x3 then sem d 74 23 [some (.inr (.inr (0, 0))), some (.inl x1), some (.inl x2), some (.inl x3), none] [] V else sem d 74 24 [some (.inr (.inr (0, 0))), some (.inl x1), some (.inl x2), some (.inl x3), none] [.inl 1] V else sem d 74 23 [some (.inr (.inr (0, 0))), some (.inl x1), some (.inl x2), some (.inl x3), none] [] V :=
  (sem_u1 d 74 [23, 24, 39] 14 0 _ _ _).trans rfl
set_option maxRecDepth 100000 in
theorem e_C_row_24 (d : Nat) (x1 : Int32) (x2 : Int32) (x3 : Int32) (z0 : Int32) (V : Mem) : sem d 74 24 [some (.inr (.inr (0, 0))), some (.inl x1), some (.inl x2), some (.inl x3), none] [.inl z0] V = (clI d 110 [.inr (.inr (0, 0)), .inl x1] V).bind fun W1 => if W1.1 = 0 then sem d 74 39 [some (.inr (.inr (0, 0))), some (.inl x1), some (.inl x2), some (.inl x3), some (.inl z0)] [] W1.2 else if z0 = 0 then sem d 74 39 [some (.inr (.inr (0, 0))), some (.inl x1), some (.inl x2), some (.inl x3), some (.inl z0)] [] W1.2 else if x1 < 0 ∨ 8 ≤ Int32.toNatClampNeg x1 then none else (clV d 31 [.inr (.inr (23, Int32.toNatClampNeg x1)), .inl x2, .inl x3] W1.2).bind fun W2 => some (some (.inl 1), W2) :=
  (sem_u1 d 74 [23, 24, 39] 17 24 _ _ _).trans rfl
set_option maxRecDepth 100000 in
theorem e_C_row_23 (d : Nat) (x1 : Int32) (x2 : Int32) (x3 : Int32) (V : Mem) : sem d 74 23 [some (.inr (.inr (0, 0))), some (.inl x1), some (.inl x2), some (.inl x3), none] [] V = sem d 74 24 [some (.inr (.inr (0, 0))), some (.inl x1), some (.inl x2), some (.inl x3), none] [.inl 0] V :=
  (sem_u1 d 74 [23, 24, 39] 3 23 _ _ _).trans rfl
set_option maxRecDepth 100000 in
theorem e_C_row_39 (d : Nat) (x1 : Int32) (x2 : Int32) (x3 : Int32) (x4 : Int32) (V : Mem) : sem d 74 39 [some (.inr (.inr (0, 0))), some (.inl x1), some (.inl x2), some (.inl x3), some (.inl x4)] [] V = (clI d 109 [.inr (.inr (0, 0)), .inl (-2)] V).bind fun W1 => some (some (.inl W1.1), W1.2) :=
  (sem_u1 d 74 [23, 24, 39] 5 39 _ _ _).trans rfl
/-! C_set -/
set_option maxRecDepth 100000 in
theorem e_C_set_0 (d : Nat) (x1 : Int32) (x2 : Int32) (x3 : Int64) (V : Mem) : sem d 75 0 [some (.inr (.inr (0, 0))), some (.inl x1), some (.inl x2), some (.inr (.inl x3)), none, none, none] [] V = (clI d 110 [.inr (.inr (0, 0)), .inl x1] V).bind fun W1 => if W1.1 = 0 then (clI d 109 [.inr (.inr (0, 0)), .inl (-2)] W1.2).bind fun W2 => some (some (.inl W2.1), W2.2) else if x1 < 0 ∨ 8 ≤ Int32.toNatClampNeg x1 then none else (clI d 33 [.inr (.inr (23, Int32.toNatClampNeg x1))] W1.2).bind fun W3 => if W3.1 = 0 then (clI d 34 [.inr (.inr (23, Int32.toNatClampNeg x1)), .inl x2] W3.2).bind fun W5 => if W5.1 = 0 then (clI d 109 [.inr (.inr (0, 0)), .inl (-2)] W5.2).bind fun W6 => some (some (.inl W6.1), W6.2) else (clV d 36 [.inr (.inr (23, Int32.toNatClampNeg x1)), .inl x2, .inr (.inl x3)] W5.2).bind fun W7 => some (some (.inl 1), W7) else (clI d 109 [.inr (.inr (0, 0)), .inl W3.1] W3.2).bind fun W4 => some (some (.inl W4.1), W4.2) :=
  (sem_u1 d 75 [] 25 0 _ _ _).trans rfl
/-! C_copy -/
set_option maxRecDepth 100000 in
theorem e_C_copy_0 (d : Nat) (x1 : Int32) (x2 : Int32) (x3 : Int32) (x4 : Int32) (x5 : Int32) (V : Mem) : sem d 76 0 [some (.inr (.inr (0, 0))), some (.inl x1), some (.inl x2), some (.inl x3), some (.inl x4), some (.inl x5), none, none, none, none] [] V = (clI d 110 [.inr (.inr (0, 0)), .inl x1] V).bind fun W1 => if W1.1 = 0 then sem d 76 16 [some (.inr (.inr (0, 0))), some (.inl x1), some (.inl x2), some (.inl x3), some (.inl x4), some (.inl x5), none, none, none, none] [] W1.2 else (clI d 110 [.inr (.inr (0, 0)), .inl x2] W1.2).bind fun W2 => if W2.1 = 0 then sem d 76 16 [some (.inr (.inr (0, 0))), some (.inl x1), some (.inl x2), some (.inl x3), some (.inl x4), some (.inl x5), none, none, none, none] [] W2.2 else if x1 < 0 ∨ 8 ≤ Int32.toNatClampNeg x1 then none else if x2 < 0 ∨ 8 ≤ Int32.toNatClampNeg x2 then none else if W2.2.1 23 (Int32.toNatClampNeg x1) 1 = (-1) then sem d 76 57 [some (.inr (.inr (0, 0))), some (.inl x1), some (.inl x2), some (.inl x3), some (.inl x4), some (.inl x5), some (.inr (.inr (23, Int32.toNatClampNeg x1))), some (.inr (.inr (23, Int32.toNatClampNeg x2))), none, none] [] W2.2 else if W2.2.1 23 (Int32.toNatClampNeg x2) 1 = (-1) then sem d 76 57 [some (.inr (.inr (0, 0))), some (.inl x1), some (.inl x2), some (.inl x3), some (.inl x4), some (.inl x5), some (.inr (.inr (23, Int32.toNatClampNeg x1))), some (.inr (.inr (23, Int32.toNatClampNeg x2))), none, none] [] W2.2 else sem d 76 62 [some (.inr (.inr (0, 0))), some (.inl x1), some (.inl x2), some (.inl x3), some (.inl x4), some (.inl x5), some (.inr (.inr (23, Int32.toNatClampNeg x1))), some (.inr (.inr (23, Int32.toNatClampNeg x2))), none, none] [.inl 0] W2.2 :=
  (sem_u1 d 76 [16, 57, 62, 86, 87, 110, 152] 29 0 _ _ _).trans rfl
set_option maxRecDepth 100000 in
theorem e_C_copy_16 (d : Nat) (x1 : Int32) (x2 : Int32) (x3 : Int32) (x4 : Int32) (x5 : Int32) (V : Mem) : sem d 76 16 [some (.inr (.inr (0, 0))), some (.inl x1), some (.inl x2), some (.inl x3), some (.inl x4), some (.inl x5), none, none, none, none] [] V = (clI d 109 [.inr (.inr (0, 0)), .inl (-2)] V).bind fun W1 => some (some (.inl W1.1), W1.2) :=
  (sem_u1 d 76 [16, 57, 62, 86, 87, 110, 152] 5 16 _ _ _).trans rfl
set_option maxRecDepth 100000 in
theorem e_C_copy_57 (d : Nat) (x1 : Int32) (x2 : Int32) (x3 : Int32) (x4 : Int32) (x5 : Int32) (x6 : Nat) (x7 : Nat) (V : Mem) : sem d 76 57 [some (.inr (.inr (0, 0))), some (.inl x1), some (.inl x2), some (.inl x3), some (.inl x4), some (.inl x5), some (.inr (.inr (23, x6))), some (.inr (.inr (23, x7))), none, none] [] V = sem d 76 62 [some (.inr (.inr (0, 0))), some (.inl x1), some (.inl x2), some (.inl x3), some (.inl x4), some (.inl x5), some (.inr (.inr (23, x6))), some (.inr (.inr (23, x7))), none, none] [.inl 1] V :=
  (sem_u1 d 76 [16, 57, 62, 86, 87, 110, 152] 4 57 _ _ _).trans rfl
set_option maxRecDepth 100000 in
theorem e_C_copy_62 (d : Nat) (x1 : Int32) (x2 : Int32) (x3 : Int32) (x4 : Int32) (x5 : Int32) (x6 : Nat) (x7 : Nat) (z0 : Int32) (V : Mem) : sem d 76 62 [some (.inr (.inr (0, 0))), some (.inl x1), some (.inl x2), some (.inl x3), some (.inl x4), some (.inl x5), some (.inr (.inr (23, x6))), some (.inr (.inr (23, x7))), none, none] [.inl z0] V = if z0 = 0 then if V.1 23 x6 1 = V.1 23 x7 1 then sem d 76 86 [some (.inr (.inr (0, 0))), some (.inl x1), some (.inl x2), some (.inl x3), some (.inl x4), some (.inl x5), some (.inr (.inr (23, x6))), some (.inr (.inr (23, x7))), some (.inl z0), none] [] V else sem d 76 87 [some (.inr (.inr (0, 0))), some (.inl x1), some (.inl x2), some (.inl x3), some (.inl x4), some (.inl x5), some (.inr (.inr (23, x6))), some (.inr (.inr (23, x7))), some (.inl z0), none] [.inl 1] V else sem d 76 86 [some (.inr (.inr (0, 0))), some (.inl x1), some (.inl x2), some (.inl x3), some (.inl x4), some (.inl x5), some (.inr (.inr (23, x6))), some (.inr (.inr (23, x7))), some (.inl z0), none] [] V :=
  (sem_u1 d 76 [16, 57, 62, 86, 87, 110, 152] 12 62 _ _ _).trans rfl
set_option maxRecDepth 100000 in
theorem e_C_copy_87 (d : Nat) (x1 : Int32) (x2 : Int32) (x3 : Int32) (x4 : Int32) (x5 : Int32) (x6 : Nat) (x7 : Nat) (x8 : Int32) (z0 : Int32) (V : Mem) : sem d 76 87 [some (.inr (.inr (0, 0))), some (.inl x1), some (.inl x2), some (.inl x3), some (.inl x4), some (.inl x5), some (.inr (.inr (23, x6))), some (.inr (.inr (23, x7))), some (.inl x8), none] [.inl z0] V = (clI d 32 [.inr (.inr (23, x6))] V).bind fun W1 => if W1.1 = 0 then (clI d 32 [.inr (.inr (23, x7))] W1.2).bind fun W2 => if W2.1 = 0 then if z0 = 0 then if x8 = 0 then (clI d 35 [.inr (.inr (23, x6)), .inl x3, .inl x5] W2.2).bind fun W4 => if W4.1 = 0 then sem d 76 152 [some (.inr (.inr (0, 0))), some (.inl x1), some (.inl x2), some (.inl x3), some (.inl x4), some (.inl x5), some (.inr (.inr (23, x6))), some (.inr (.inr (23, x7))), some (.inl x8), some (.inl z0)] [] W4.2 else (clI d 35 [.inr (.inr (23, x7)), .inl x4, .inl x5] W4.2).bind fun W5 => if W5.1 = 0 then sem d 76 152 [some (.inr (.inr (0, 0))), some (.inl x1), some (.inl x2), some (.inl x3), some (.inl x4), some (.inl x5), some (.inr (.inr (23, x6))), some (.inr (.inr (23, x7))), some (.inl x8), some (.inl z0)] [] W5.2 else if x3 < 0 ∨ x4 < 0 ∨ x5 < 0 ∨ 40 < Int32.toNatClampNeg x3 + Int32.toNatClampNeg x5 ∨ 40 < Int32.toNatClampNeg x4 + Int32.toNatClampNeg x5 then none else some (some (.inl x5), (W5.2.1, mcpy W5.2.2 24 x6 (Int32.toNatClampNeg x3) 24 x7 (Int32.toNatClampNeg x4) (Int32.toNatClampNeg x5))) else (clI d 109 [.inr (.inr (0, 0)), .inl (-4)] W2.2).bind fun W3 => some (some (.inl W3.1), W3.2) else sem d 76 110 [some (.inr (.inr (0, 0))), some (.inl x1), some (.inl x2), some (.inl x3), some (.inl x4), some (.inl x5), some (.inr (.inr (23, x6))), some (.inr (.inr (23, x7))), some (.inl x8), some (.inl z0)] [] W2.2 else sem d 76 110 [some (.inr (.inr (0, 0))), some (.inl x1), some (.inl x2), some (.inl x3), some (.inl x4), some (.inl x5), some (.inr (.inr (23, x6))), some (.inr (.inr (23, x7))), some (.inl x8), some (.inl z0)] [] W2.2 else sem d 76 110 [some (.inr (.inr (0, 0))), some (.inl x1), some (.inl x2), some (.inl x3), some (.inl x4), some (.inl x5), some (.inr (.inr (23, x6))), some (.inr (.inr (23, x7))), some (.inl x8), some (.inl z0)] [] W1.2 :=
  (sem_u1 d 76 [16, 57, 62, 86, 87, 110, 152] 32 87 _ _ _).trans rfl
set_option maxRecDepth 100000 in
theorem e_C_copy_86 (d : Nat) (x1 : Int32) (x2 : Int32) (x3 : Int32) (x4 : Int32) (x5 : Int32) (x6 : Nat) (x7 : Nat) (x8 : Int32) (V : Mem) : sem d 76 86 [some (.inr (.inr (0, 0))), some (.inl x1), some (.inl x2), some (.inl x3), some (.inl x4), some (.inl x5), some (.inr (.inr (23, x6))), some (.inr (.inr (23, x7))), some (.inl x8), none] [] V = sem d 76 87 [some (.inr (.inr (0, 0))), some (.inl x1), some (.inl x2), some (.inl x3), some (.inl x4), some (.inl x5), some (.inr (.inr (23, x6))), some (.inr (.inr (23, x7))), some (.inl x8), none] [.inl 0] V :=
  (sem_u1 d 76 [16, 57, 62, 86, 87, 110, 152] 3 86 _ _ _).trans rfl
set_option maxRecDepth 100000 in
theorem e_C_copy_110 (d : Nat) (x1 : Int32) (x2 : Int32) (x3 : Int32) (x4 : Int32) (x5 : Int32) (x6 : Nat) (x7 : Nat) (x8 : Int32) (x9 : Int32) (V : Mem) : sem d 76 110 [some (.inr (.inr (0, 0))), some (.inl x1), some (.inl x2), some (.inl x3), some (.inl x4), some (.inl x5), some (.inr (.inr (23, x6))), some (.inr (.inr (23, x7))), some (.inl x8), some (.inl x9)] [] V = (clI d 109 [.inr (.inr (0, 0)), .inl (-3)] V).bind fun W1 => some (some (.inl W1.1), W1.2) :=
  (sem_u1 d 76 [16, 57, 62, 86, 87, 110, 152] 5 110 _ _ _).trans rfl
set_option maxRecDepth 100000 in
theorem e_C_copy_152 (d : Nat) (x1 : Int32) (x2 : Int32) (x3 : Int32) (x4 : Int32) (x5 : Int32) (x6 : Nat) (x7 : Nat) (x8 : Int32) (x9 : Int32) (V : Mem) : sem d 76 152 [some (.inr (.inr (0, 0))), some (.inl x1), some (.inl x2), some (.inl x3), some (.inl x4), some (.inl x5), some (.inr (.inr (23, x6))), some (.inr (.inr (23, x7))), some (.inl x8), some (.inl x9)] [] V = (clI d 109 [.inr (.inr (0, 0)), .inl (-2)] V).bind fun W1 => some (some (.inl W1.1), W1.2) :=
  (sem_u1 d 76 [16, 57, 62, 86, 87, 110, 152] 5 152 _ _ _).trans rfl
/-! C_element -/
set_option maxRecDepth 100000 in
theorem e_C_element_0 (d : Nat) (x1 : Int32) (x2 : Int32) (V : Mem) : sem d 77 0 [some (.inr (.inr (0, 0))), some (.inl x1), some (.inl x2)] [] V = (clI d 110 [.inr (.inr (0, 0)), .inl x1] V).bind fun W1 => if W1.1 = 0 then some (some (.inr (.inl 0)), W1.2) else if x1 < 0 ∨ 8 ≤ Int32.toNatClampNeg x1 then none else (clI d 34 [.inr (.inr (23, Int32.toNatClampNeg x1)), .inl x2] W1.2).bind fun W2 => if W2.1 = 0 then some (some (.inr (.inl 0)), W2.2) else if x1 < 0 ∨ 8 ≤ Int32.toNatClampNeg x1 then none else if x2 < 0 ∨ 40 ≤ Int32.toNatClampNeg x2 then none else some (some (.inr (.inl (W2.2.2 24 (Int32.toNatClampNeg x1) (Int32.toNatClampNeg x2)))), W2.2) :=
  (sem_u1 d 77 [] 20 0 _ _ _).trans rfl
/-! C_holds -/
set_option maxRecDepth 100000 in
theorem e_C_holds_0 (d : Nat) (x1 : Int32) (V : Mem) : sem d 78 0 [some (.inr (.inr (0, 0))), some (.inl x1)] [] V = (clI d 110 [.inr (.inr (0, 0)), .inl x1] V).bind fun W1 => if W1.1 = 0 then some (some (.inl (-1)), W1.2) else if x1 < 0 ∨ 8 ≤ Int32.toNatClampNeg x1 then none else some (some (.inl (W1.2.1 23 (Int32.toNatClampNeg x1) 1)), W1.2) :=
  (sem_u1 d 78 [] 12 0 _ _ _).trans rfl
/-! C_show -/
set_option maxRecDepth 100000 in
theorem e_C_show_0 (d : Nat) (x1 : Int32) (x2 : Int32) (V : Mem) : sem d 79 0 [some (.inr (.inr (0, 0))), some (.inl x1), some (.inl x2)] [] V = (clI d 110 [.inr (.inr (0, 0)), .inl x1] V).bind fun W1 => if W1.1 = 0 then sem d 79 21 [some (.inr (.inr (0, 0))), some (.inl x1), some (.inl x2)] [] W1.2 else if x2 = (-1) then sem d 79 28 [some (.inr (.inr (0, 0))), some (.inl x1), some (.inl x2)] [] W1.2 else (clI d 112 [.inr (.inr (0, 0)), .inl x2] W1.2).bind fun W2 => if W2.1 = 0 then sem d 79 21 [some (.inr (.inr (0, 0))), some (.inl x1), some (.inl x2)] [] W2.2 else sem d 79 28 [some (.inr (.inr (0, 0))), some (.inl x1), some (.inl x2)] [] W2.2 :=
  (sem_u1 d 79 [21, 28] 13 0 _ _ _).trans rfl
set_option maxRecDepth 100000 in
theorem e_C_show_21 (d : Nat) (x1 : Int32) (x2 : Int32) (V : Mem) : sem d 79 21 [some (.inr (.inr (0, 0))), some (.inl x1), some (.inl x2)] [] V = (clI d 109 [.inr (.inr (0, 0)), .inl (-2)] V).bind fun W1 => some (some (.inl W1.1), W1.2) :=
  (sem_u1 d 79 [21, 28] 5 21 _ _ _).trans rfl
set_option maxRecDepth 100000 in
theorem e_C_show_28 (d : Nat) (x1 : Int32) (x2 : Int32) (V : Mem) : sem d 79 28 [some (.inr (.inr (0, 0))), some (.inl x1), some (.inl x2)] [] V = if x1 < 0 ∨ 8 ≤ Int32.toNatClampNeg x1 then none else if x2 = (-1) then some (some (.inl 1), (mset V.1 23 (Int32.toNatClampNeg x1) 1 (-1), V.2)) else some (some (.inl 1), (mset V.1 23 (Int32.toNatClampNeg x1) 1 (10 + x2), V.2)) :=
  (sem_u1 d 79 [21, 28] 14 28 _ _ _).trans rfl
/-! C_says -/
set_option maxRecDepth 100000 in
theorem e_C_says_0 (d : Nat) (x1 : Int32) (x2 : Int32) (V : Mem) : sem d 80 0 [some (.inr (.inr (0, 0))), some (.inl x1), some (.inl x2), none, none] [] V = (clI d 110 [.inr (.inr (0, 0)), .inl x1] V).bind fun W1 => if W1.1 = 0 then sem d 80 18 [some (.inr (.inr (0, 0))), some (.inl x1), some (.inl x2), none, none] [] W1.2 else if x2 < 0 then sem d 80 18 [some (.inr (.inr (0, 0))), some (.inl x1), some (.inl x2), none, none] [] W1.2 else if x2 < 6 then if x1 < 0 ∨ 8 ≤ Int32.toNatClampNeg x1 then none else if W1.2.1 23 (Int32.toNatClampNeg x1) 1 = (-1) then (clI d 109 [.inr (.inr (0, 0)), .inl (-4)] W1.2).bind fun W2 => some (some (.inl W2.1), W2.2) else (clI d 112 [.inr (.inr (0, 0)), .inl ((W1.2.1 23 (Int32.toNatClampNeg x1) 1) - 10)] W1.2).bind fun W3 => if W3.1 = 0 then sem d 80 85 [some (.inr (.inr (0, 0))), some (.inl x1), some (.inl x2), some (.inr (.inr (23, Int32.toNatClampNeg x1))), some (.inl ((W1.2.1 23 (Int32.toNatClampNeg x1) 1) - 10))] [] W3.2 else if (W1.2.1 23 (Int32.toNatClampNeg x1) 1) - 10 < 0 ∨ 6 ≤ Int32.toNatClampNeg ((W1.2.1 23 (Int32.toNatClampNeg x1) 1) - 10) then none else (clI d 114 [.inl (W3.2.1 5 (Int32.toNatClampNeg ((W1.2.1 23 (Int32.toNatClampNeg x1) 1) - 10)) 2), .inl x2] W3.2).bind fun W4 => if W4.1 = 0 then sem d 80 85 [some (.inr (.inr (0, 0))), some (.inl x1), some (.inl x2), some (.inr (.inr (23, Int32.toNatClampNeg x1))), some (.inl ((W1.2.1 23 (Int32.toNatClampNeg x1) 1) - 10))] [] W4.2 else if x2 = 0 then if (W1.2.1 23 (Int32.toNatClampNeg x1) 1) - 10 < 0 ∨ 6 ≤ Int32.toNatClampNeg ((W1.2.1 23 (Int32.toNatClampNeg x1) 1) - 10) then none else some (some (.inl (W4.2.1 5 (Int32.toNatClampNeg ((W1.2.1 23 (Int32.toNatClampNeg x1) 1) - 10)) 3)), W4.2) else (clI d 115 [.inr (.inr (0, 0)), .inl ((W1.2.1 23 (Int32.toNatClampNeg x1) 1) - 10)] W4.2).bind fun W5 => some (some (.inl W5.1), W5.2) else sem d 80 18 [some (.inr (.inr (0, 0))), some (.inl x1), some (.inl x2), none, none] [] W1.2 :=
  (sem_u1 d 80 [18, 85] 47 0 _ _ _).trans rfl
set_option maxRecDepth 100000 in
theorem e_C_says_18 (d : Nat) (x1 : Int32) (x2 : Int32) (V : Mem) : sem d 80 18 [some (.inr (.inr (0, 0))), some (.inl x1), some (.inl x2), none, none] [] V = (clI d 109 [.inr (.inr (0, 0)), .inl (-2)] V).bind fun W1 => some (some (.inl W1.1), W1.2) :=
  (sem_u1 d 80 [18, 85] 5 18 _ _ _).trans rfl
set_option maxRecDepth 100000 in
theorem e_C_says_85 (d : Nat) (x1 : Int32) (x2 : Int32) (x3 : Nat) (x4 : Int32) (V : Mem) : sem d 80 85 [some (.inr (.inr (0, 0))), some (.inl x1), some (.inl x2), some (.inr (.inr (23, x3))), some (.inl x4)] [] V = (clI d 109 [.inr (.inr (0, 0)), .inl (-3)] V).bind fun W1 => some (some (.inl W1.1), W1.2) :=
  (sem_u1 d 80 [18, 85] 5 85 _ _ _).trans rfl
/-! C_point -/
set_option maxRecDepth 100000 in
theorem e_C_point_0 (d : Nat) (x1 : Int32) (x2 : Int32) (V : Mem) : sem d 81 0 [some (.inr (.inr (0, 0))), some (.inl x1), some (.inl x2)] [] V = if x1 < 0 then sem d 81 21 [some (.inr (.inr (0, 0))), some (.inl x1), some (.inl x2)] [] V else if x1 < 100 then if x2 < 1 then sem d 81 21 [some (.inr (.inr (0, 0))), some (.inl x1), some (.inl x2)] [] V else if 9 < x2 then sem d 81 21 [some (.inr (.inr (0, 0))), some (.inl x1), some (.inl x2)] [] V else (clI d 43 [.inr (.inr (1, 0))] V).bind fun W1 => if W1.1 = 0 then (clI d 109 [.inr (.inr (0, 0)), .inl (-6)] W1.2).bind fun W2 => some (some (.inl W2.1), W2.2) else (clV d 44 [.inr (.inr (1, 0)), .inl x1, .inl x2] W1.2).bind fun W3 => some (some (.inl ((W3.1 1 0 3) - 1)), W3) else sem d 81 21 [some (.inr (.inr (0, 0))), some (.inl x1), some (.inl x2)] [] V :=
  (sem_u1 d 81 [21] 27 0 _ _ _).trans rfl
set_option maxRecDepth 100000 in
theorem e_C_point_21 (d : Nat) (x1 : Int32) (x2 : Int32) (V : Mem) : sem d 81 21 [some (.inr (.inr (0, 0))), some (.inl x1), some (.inl x2)] [] V = (clI d 109 [.inr (.inr (0, 0)), .inl (-2)] V).bind fun W1 => some (some (.inl W1.1), W1.2) :=
  (sem_u1 d 81 [21] 5 21 _ _ _).trans rfl
/-! C_parish -/
set_option maxRecDepth 100000 in
theorem e_C_parish_0 (d : Nat) (x1 : Int32) (x2 : Int32) (V : Mem) : sem d 82 0 [some (.inr (.inr (0, 0))), some (.inl x1), some (.inl x2)] [] V = if x1 < 0 then sem d 82 20 [some (.inr (.inr (0, 0))), some (.inl x1), some (.inl x2)] [] V else if x1 < 6 then if x2 < 0 then sem d 82 20 [some (.inr (.inr (0, 0))), some (.inl x1), some (.inl x2)] [] V else if 9 < x2 then sem d 82 20 [some (.inr (.inr (0, 0))), some (.inl x1), some (.inl x2)] [] V else (clI d 45 [.inr (.inr (1, 0))] V).bind fun W1 => if W1.1 = 0 then (clI d 109 [.inr (.inr (0, 0)), .inl (-6)] W1.2).bind fun W2 => some (some (.inl W2.1), W2.2) else (clV d 46 [.inr (.inr (1, 0)), .inl x1, .inl x2] W1.2).bind fun W3 => some (some (.inl ((W3.1 1 0 4) - 1)), W3) else sem d 82 20 [some (.inr (.inr (0, 0))), some (.inl x1), some (.inl x2)] [] V :=
  (sem_u1 d 82 [20] 26 0 _ _ _).trans rfl
set_option maxRecDepth 100000 in
theorem e_C_parish_20 (d : Nat) (x1 : Int32) (x2 : Int32) (V : Mem) : sem d 82 20 [some (.inr (.inr (0, 0))), some (.inl x1), some (.inl x2)] [] V = (clI d 109 [.inr (.inr (0, 0)), .inl (-2)] V).bind fun W1 => some (some (.inl W1.1), W1.2) :=
  (sem_u1 d 82 [20] 5 20 _ _ _).trans rfl
/-! C_wants -/
set_option maxRecDepth 100000 in
theorem e_C_wants_0 (d : Nat) (x1 : Int32) (x2 : Int32) (x3 : Int32) (V : Mem) : sem d 83 0 [some (.inr (.inr (0, 0))), some (.inl x1), some (.inl x2), some (.inl x3), none, none, none] [] V = (clI d 112 [.inr (.inr (0, 0)), .inl x1] V).bind fun W1 => if W1.1 = 0 then sem d 83 16 [some (.inr (.inr (0, 0))), some (.inl x1), some (.inl x2), some (.inl x3), none, none, none] [] W1.2 else (clI d 111 [.inr (.inr (0, 0)), .inl x2] W1.2).bind fun W2 => if W2.1 = 0 then sem d 83 16 [some (.inr (.inr (0, 0))), some (.inl x1), some (.inl x2), some (.inl x3), none, none, none] [] W2.2 else if x1 < 0 ∨ 6 ≤ Int32.toNatClampNeg x1 then none else (clI d 14 [.inr (.inr (5, Int32.toNatClampNeg x1)), .inl (1 <<< (x2 &&& 31))] W2.2).bind fun W3 => if W3.1 = 0 then sem d 83 54 [some (.inr (.inr (0, 0))), some (.inl x1), some (.inl x2), some (.inl x3), some (.inr (.inr (5, Int32.toNatClampNeg x1))), some (.inl (1 <<< (x2 &&& 31))), none] [.inl 0] W3.2 else sem d 83 54 [some (.inr (.inr (0, 0))), some (.inl x1), some (.inl x2), some (.inl x3), some (.inr (.inr (5, Int32.toNatClampNeg x1))), some (.inl (1 <<< (x2 &&& 31))), none] [.inl 1] W3.2 :=
  (sem_u1 d 83 [16, 54] 26 0 _ _ _).trans rfl
set_option maxRecDepth 100000 in
theorem e_C_wants_16 (d : Nat) (x1 : Int32) (x2 : Int32) (x3 : Int32) (V : Mem) : sem d 83 16 [some (.inr (.inr (0, 0))), some (.inl x1), some (.inl x2), some (.inl x3), none, none, none] [] V = (clI d 109 [.inr (.inr (0, 0)), .inl (-2)] V).bind fun W1 => some (some (.inl W1.1), W1.2) :=
  (sem_u1 d 83 [16, 54] 5 16 _ _ _).trans rfl
set_option maxRecDepth 100000 in
theorem e_C_wants_54 (d : Nat) (x1 : Int32) (x2 : Int32) (x3 : Int32) (x4 : Nat) (x5 : Int32) (z0 : Int32) (V : Mem) : sem d 83 54 [some (.inr (.inr (0, 0))), some (.inl x1), some (.inl x2), some (.inl x3), some (.inr (.inr (5, x4))), some (.inl x5), none] [.inl z0] V = if x3 = 0 then (clI d 21 [.inr (.inr (5, x4)), .inl x5] V).bind fun W1 => some (some (.inl z0), W1.2) else some (some (.inl z0), (mset V.1 5 x4 4 ((V.1 5 x4 4) ||| x5), V.2)) :=
  (sem_u1 d 83 [16, 54] 13 54 _ _ _).trans rfl
/-! C_line -/
set_option maxRecDepth 100000 in
theorem e_C_line_0 (d : Nat) (x1 : Int32) (x2 : Int32) (x3 : Int32) (V : Mem) : sem d 84 0 [some (.inr (.inr (0, 0))), some (.inl x1), some (.inl x2), some (.inl x3), none, none] [] V = (clI d 112 [.inr (.inr (0, 0)), .inl x1] V).bind fun W1 => if W1.1 = 0 then sem d 84 17 [some (.inr (.inr (0, 0))), some (.inl x1), some (.inl x2), some (.inl x3), none, none] [] W1.2 else (clI d 113 [.inr (.inr (0, 0)), .inl x2, .inl x3] W1.2).bind fun W2 => if W2.1 = 0 then sem d 84 17 [some (.inr (.inr (0, 0))), some (.inl x1), some (.inl x2), some (.inl x3), none, none] [] W2.2 else if x1 < 0 ∨ 6 ≤ Int32.toNatClampNeg x1 then none else (clI d 14 [.inr (.inr (5, Int32.toNatClampNeg x1)), .inl ((1 <<< (x2 &&& 31)) ||| (1 <<< (x3 &&& 31)))] W2.2).bind fun W3 => if W3.1 = 0 then sem d 84 65 [some (.inr (.inr (0, 0))), some (.inl x1), some (.inl x2), some (.inl x3), some (.inr (.inr (5, Int32.toNatClampNeg x1))), some (.inl ((1 <<< (x2 &&& 31)) ||| (1 <<< (x3 &&& 31))))] [] W3.2 else (clI d 17 [.inr (.inr (5, Int32.toNatClampNeg x1)), .inl ((1 <<< (x2 &&& 31)) ||| (1 <<< (x3 &&& 31)))] W3.2).bind fun W4 => if W4.1 = (-1) then (clI d 15 [.inr (.inr (5, Int32.toNatClampNeg x1))] W4.2).bind fun W5 => if W5.1 = 0 then (clI d 109 [.inr (.inr (0, 0)), .inl (-6)] W5.2).bind fun W6 => some (some (.inl W6.1), W6.2) else (clV d 18 [.inr (.inr (5, Int32.toNatClampNeg x1)), .inl x2, .inl x3] W5.2).bind fun W7 => some (some (.inl (W7.1 5 (Int32.toNatClampNeg x1) 5)), W7) else sem d 84 65 [some (.inr (.inr (0, 0))), some (.inl x1), some (.inl x2), some (.inl x3), some (.inr (.inr (5, Int32.toNatClampNeg x1))), some (.inl ((1 <<< (x2 &&& 31)) ||| (1 <<< (x3 &&& 31))))] [] W4.2 :=
  (sem_u1 d 84 [17, 65] 43 0 _ _ _).trans rfl
set_option maxRecDepth 100000 in
theorem e_C_line_17 (d : Nat) (x1 : Int32) (x2 : Int32) (x3 : Int32) (V : Mem) : sem d 84 17 [some (.inr (.inr (0, 0))), some (.inl x1), some (.inl x2), some (.inl x3), none, none] [] V = (clI d 109 [.inr (.inr (0, 0)), .inl (-2)] V).bind fun W1 => some (some (.inl W1.1), W1.2) :=
  (sem_u1 d 84 [17, 65] 5 17 _ _ _).trans rfl
set_option maxRecDepth 100000 in
theorem e_C_line_65 (d : Nat) (x1 : Int32) (x2 : Int32) (x3 : Int32) (x4 : Nat) (x5 : Int32) (V : Mem) : sem d 84 65 [some (.inr (.inr (0, 0))), some (.inl x1), some (.inl x2), some (.inl x3), some (.inr (.inr (5, x4))), some (.inl x5)] [] V = (clI d 109 [.inr (.inr (0, 0)), .inl (-5)] V).bind fun W1 => some (some (.inl W1.1), W1.2) :=
  (sem_u1 d 84 [17, 65] 5 65 _ _ _).trans rfl
/-! C_drop -/
set_option maxRecDepth 100000 in
theorem e_C_drop_0 (d : Nat) (x1 : Int32) (x2 : Int32) (x3 : Int32) (V : Mem) : sem d 85 0 [some (.inr (.inr (0, 0))), some (.inl x1), some (.inl x2), some (.inl x3), none, none] [] V = (clI d 112 [.inr (.inr (0, 0)), .inl x1] V).bind fun W1 => if W1.1 = 0 then sem d 85 17 [some (.inr (.inr (0, 0))), some (.inl x1), some (.inl x2), some (.inl x3), none, none] [] W1.2 else (clI d 113 [.inr (.inr (0, 0)), .inl x2, .inl x3] W1.2).bind fun W2 => if W2.1 = 0 then sem d 85 17 [some (.inr (.inr (0, 0))), some (.inl x1), some (.inl x2), some (.inl x3), none, none] [] W2.2 else if x1 < 0 ∨ 6 ≤ Int32.toNatClampNeg x1 then none else (clI d 17 [.inr (.inr (5, Int32.toNatClampNeg x1)), .inl ((1 <<< (x2 &&& 31)) ||| (1 <<< (x3 &&& 31)))] W2.2).bind fun W3 => if W3.1 = (-1) then (clI d 109 [.inr (.inr (0, 0)), .inl (-5)] W3.2).bind fun W4 => some (some (.inl W4.1), W4.2) else (clV d 19 [.inr (.inr (5, Int32.toNatClampNeg x1)), .inl W3.1] W3.2).bind fun W5 => some (some (.inl (W5.1 5 (Int32.toNatClampNeg x1) 5)), W5) :=
  (sem_u1 d 85 [17] 35 0 _ _ _).trans rfl
set_option maxRecDepth 100000 in
theorem e_C_drop_17 (d : Nat) (x1 : Int32) (x2 : Int32) (x3 : Int32) (V : Mem) : sem d 85 17 [some (.inr (.inr (0, 0))), some (.inl x1), some (.inl x2), some (.inl x3), none, none] [] V = (clI d 109 [.inr (.inr (0, 0)), .inl (-2)] V).bind fun W1 => some (some (.inl W1.1), W1.2) :=
  (sem_u1 d 85 [17] 5 17 _ _ _).trans rfl
/-! C_cloud -/
set_option maxRecDepth 100000 in
theorem e_C_cloud_0 (d : Nat) (x1 : Int32) (V : Mem) : sem d 86 0 [some (.inr (.inr (0, 0))), some (.inl x1), none] [] V = if x1 < 0 then sem d 86 10 [some (.inr (.inr (0, 0))), some (.inl x1), none] [] V else if 12 < x1 then sem d 86 10 [some (.inr (.inr (0, 0))), some (.inl x1), none] [] V else some (some (.inl (V.1 1 0 5)), (mset V.1 1 0 5 x1, V.2)) :=
  (sem_u1 d 86 [10] 16 0 _ _ _).trans rfl
set_option maxRecDepth 100000 in
theorem e_C_cloud_10 (d : Nat) (x1 : Int32) (V : Mem) : sem d 86 10 [some (.inr (.inr (0, 0))), some (.inl x1), none] [] V = (clI d 109 [.inr (.inr (0, 0)), .inl (-2)] V).bind fun W1 => some (some (.inl W1.1), W1.2) :=
  (sem_u1 d 86 [10] 5 10 _ _ _).trans rfl
/-! C_feed -/
set_option maxRecDepth 100000 in
theorem e_C_feed_0 (d : Nat) (x1 : Int32) (V : Mem) : sem d 87 0 [some (.inr (.inr (0, 0))), some (.inl x1)] [] V = if x1 < 0 then sem d 87 11 [some (.inr (.inr (0, 0))), some (.inl x1)] [] V else if 255 < x1 then sem d 87 11 [some (.inr (.inr (0, 0))), some (.inl x1)] [] V else if V.1 20 0 0 < 250 then (clV d 61 [.inr (.inr (20, 0)), .inl x1] V).bind fun W2 => some (some (.inl (W2.1 20 0 0)), W2) else (clI d 109 [.inr (.inr (0, 0)), .inl (-6)] V).bind fun W1 => some (some (.inl W1.1), W1.2) :=
  (sem_u1 d 87 [11] 19 0 _ _ _).trans rfl
set_option maxRecDepth 100000 in
theorem e_C_feed_11 (d : Nat) (x1 : Int32) (V : Mem) : sem d 87 11 [some (.inr (.inr (0, 0))), some (.inl x1)] [] V = (clI d 109 [.inr (.inr (0, 0)), .inl (-2)] V).bind fun W1 => some (some (.inl W1.1), W1.2) :=
  (sem_u1 d 87 [11] 5 11 _ _ _).trans rfl
/-! C_wipe -/
set_option maxRecDepth 100000 in
theorem e_C_wipe_0 (d : Nat) (V : Mem) : sem d 88 0 [some (.inr (.inr (0, 0))), none] [] V = some (some (.inl (V.1 20 0 0)), (mset V.1 20 0 0 0, V.2)) :=
  (sem_u1 d 88 [] 11 0 _ _ _).trans rfl
/-! C_sky -/
set_option maxRecDepth 100000 in
theorem e_C_sky_0 (d : Nat) (V : Mem) : sem d 89 0 [some (.inr (.inr (0, 0))), none] [] V = (clV d 42 [.inr (.inr (1, 2)), .inr (.inr (1, 0))] V).bind fun W1 => (clI d 62 [.inr (.inr (20, 0)), .inr (.inr (1, 2))] W1).bind fun W2 => if W2.1 = (-1) then (clI d 109 [.inr (.inr (0, 0)), .inl (-2)] (mset W2.2.1 20 0 0 0, W2.2.2)).bind fun W3 => some (some (.inl ((-20) - (W3.2.1 20 0 1))), W3.2) else (clV d 42 [.inr (.inr (1, 0)), .inr (.inr (1, 2))] (mset W2.2.1 20 0 0 0, W2.2.2)).bind fun W4 => some (some (.inl W2.1), W4) :=
  (sem_u1 d 89 [] 29 0 _ _ _).trans rfl
