/-! Bonds_find -/
set_option maxRecDepth 100000 in
theorem e_Bonds_find_0 (d : Nat) (x1 : Nat) (V : Mem) : sem d 0 0 [some (.inr (.inr (17, 0))), some (.inr (.inr (1, x1))), none, none, none] [] V = sem d 0 2 [some (.inr (.inr (17, 0))), some (.inr (.inr (1, x1))), some (.inl 0), none, none] [] V :=
  (sem_u1 d 0 [2, 19, 54, 78] 4 0 _ _ _).trans rfl
set_option maxRecDepth 100000 in
theorem e_Bonds_find_2 (d : Nat) (x1 : Nat) (x2 : Int32) (V : Mem) : sem d 0 2 [some (.inr (.inr (17, 0))), some (.inr (.inr (1, x1))), some (.inl x2), none, none] [] V = if x2 < V.1 1 x1 4 then if x2 < 0 ∨ 6 ≤ Int32.toNatClampNeg x2 then none else sem d 0 19 [some (.inr (.inr (17, 0))), some (.inr (.inr (1, x1))), some (.inl x2), some (.inl 0), none] [] (mset V.1 18 0 (Int32.toNatClampNeg x2) 0, V.2) else some (none, V) :=
  (sem_u1 d 0 [2, 19, 54, 78] 13 2 _ _ _).trans rfl
set_option maxRecDepth 100000 in
theorem e_Bonds_find_19 (d : Nat) (x1 : Nat) (x2 : Int32) (x3 : Int32) (V : Mem) : sem d 0 19 [some (.inr (.inr (17, 0))), some (.inr (.inr (1, x1))), some (.inl x2), some (.inl x3), none] [] V = if x3 < V.1 1 x1 4 then if x2 < 0 ∨ 6 ≤ Int32.toNatClampNeg x2 then none else if x3 < 0 ∨ 6 ≤ Int32.toNatClampNeg x3 then none else if (V.1 5 (Int32.toNatClampNeg x2 + 6 * x1) 4) &&& (V.1 5 (Int32.toNatClampNeg x3 + 6 * x1) 4) = 0 then sem d 0 54 [some (.inr (.inr (17, 0))), some (.inr (.inr (1, x1))), some (.inl x2), some (.inl x3), none] [.inl 0] V else sem d 0 54 [some (.inr (.inr (17, 0))), some (.inr (.inr (1, x1))), some (.inl x2), some (.inl x3), none] [.inl 1] V else sem d 0 2 [some (.inr (.inr (17, 0))), some (.inr (.inr (1, x1))), some (.inl (x2 + 1)), none, none] [] V :=
  (sem_u1 d 0 [2, 19, 54, 78] 20 19 _ _ _).trans rfl
set_option maxRecDepth 100000 in
theorem e_Bonds_find_54 (d : Nat) (x1 : Nat) (x2 : Int32) (x3 : Int32) (z0 : Int32) (V : Mem) : sem d 0 54 [some (.inr (.inr (17, 0))), some (.inr (.inr (1, x1))), some (.inl x2), some (.inl x3), none] [.inl z0] V = if x2 = x3 then sem d 0 78 [some (.inr (.inr (17, 0))), some (.inr (.inr (1, x1))), some (.inl x2), some (.inl x3), some (.inl z0)] [] V else if z0 = 0 then sem d 0 78 [some (.inr (.inr (17, 0))), some (.inr (.inr (1, x1))), some (.inl x2), some (.inl x3), some (.inl z0)] [] V else if x2 < 0 ∨ 6 ≤ Int32.toNatClampNeg x2 then none else if x2 < 0 ∨ 6 ≤ Int32.toNatClampNeg x2 then none else sem d 0 78 [some (.inr (.inr (17, 0))), some (.inr (.inr (1, x1))), some (.inl x2), some (.inl x3), some (.inl z0)] [] (mset V.1 18 0 (Int32.toNatClampNeg x2) ((V.1 18 0 (Int32.toNatClampNeg x2)) ||| (1 <<< (x3 &&& 31))), V.2) :=
  (sem_u1 d 0 [2, 19, 54, 78] 18 54 _ _ _).trans rfl
set_option maxRecDepth 100000 in
theorem e_Bonds_find_78 (d : Nat) (x1 : Nat) (x2 : Int32) (x3 : Int32) (x4 : Int32) (V : Mem) : sem d 0 78 [some (.inr (.inr (17, 0))), some (.inr (.inr (1, x1))), some (.inl x2), some (.inl x3), some (.inl x4)] [] V = sem d 0 19 [some (.inr (.inr (17, 0))), some (.inr (.inr (1, x1))), some (.inl x2), some (.inl (x3 + 1)), none] [] V :=
  (sem_u1 d 0 [2, 19, 54, 78] 4 78 _ _ _).trans rfl
/-! Bonds_fewestColours -/
set_option maxRecDepth 100000 in
theorem e_Bonds_fewestColours_0 (d : Nat) (x1 : Nat) (V : Mem) : sem d 1 0 [some (.inr (.inr (17, 0))), some (.inr (.inr (1, x1))), none, none, none] [] V = (clV d 0 [.inr (.inr (17, 0)), .inr (.inr (1, x1))] V).bind fun W1 => sem d 1 23 [some (.inr (.inr (17, 0))), some (.inr (.inr (1, x1))), some (.inl ((1 <<< ((W1.1 1 x1 4) &&& 31)) - 1)), some (.inl 1), none] [] (mset W1.1 19 0 (0) 0, W1.2) :=
  (sem_u1 d 1 [23, 39, 91] 19 0 _ _ _).trans rfl
set_option maxRecDepth 100000 in
theorem e_Bonds_fewestColours_23 (d : Nat) (x1 : Nat) (x2 : Int32) (x3 : Int32) (V : Mem) : sem d 1 23 [some (.inr (.inr (17, 0))), some (.inr (.inr (1, x1))), some (.inl x2), some (.inl x3), none] [] V = if x2 < x3 then if x2 < 0 ∨ 64 ≤ Int32.toNatClampNeg x2 then none else some (some (.inl (V.1 19 0 (Int32.toNatClampNeg x2))), V) else if x3 < 0 ∨ 64 ≤ Int32.toNatClampNeg x3 then none else sem d 1 39 [some (.inr (.inr (17, 0))), some (.inr (.inr (1, x1))), some (.inl x2), some (.inl x3), some (.inl 1)] [] (mset V.1 19 0 (Int32.toNatClampNeg x3) 6, V.2) :=
  (sem_u1 d 1 [23, 39, 91] 12 23 _ _ _).trans rfl
set_option maxRecDepth 100000 in
theorem e_Bonds_fewestColours_39 (d : Nat) (x1 : Nat) (x2 : Int32) (x3 : Int32) (x4 : Int32) (V : Mem) : sem d 1 39 [some (.inr (.inr (17, 0))), some (.inr (.inr (1, x1))), some (.inl x2), some (.inl x3), some (.inl x4)] [] V = if x3 < x4 then sem d 1 23 [some (.inr (.inr (17, 0))), some (.inr (.inr (1, x1))), some (.inl x2), some (.inl (x3 + 1)), none] [] V else if x4 &&& (x3 ^^^ (-1)) = 0 then (clI d 2 [.inr (.inr (17, 0)), .inl x4] V).bind fun W1 => if W1.1 = 0 then sem d 1 91 [some (.inr (.inr (17, 0))), some (.inr (.inr (1, x1))), some (.inl x2), some (.inl x3), some (.inl x4)] [] W1.2 else if x3 < 0 ∨ 64 ≤ Int32.toNatClampNeg x3 then none else if x3 &&& (x4 ^^^ (-1)) < 0 ∨ 64 ≤ Int32.toNatClampNeg (x3 &&& (x4 ^^^ (-1))) then none else if x3 < 0 ∨ 64 ≤ Int32.toNatClampNeg x3 then none else sem d 1 91 [some (.inr (.inr (17, 0))), some (.inr (.inr (1, x1))), some (.inl x2), some (.inl x3), some (.inl x4)] [] (mset W1.2.1 19 0 (Int32.toNatClampNeg x3) (imin (W1.2.1 19 0 (Int32.toNatClampNeg x3)) ((W1.2.1 19 0 (Int32.toNatClampNeg (x3 &&& (x4 ^^^ (-1))))) + 1)), W1.2.2) else sem d 1 91 [some (.inr (.inr (17, 0))), some (.inr (.inr (1, x1))), some (.inl x2), some (.inl x3), some (.inl x4)] [] V :=
  (sem_u1 d 1 [23, 39, 91] 34 39 _ _ _).trans rfl
set_option maxRecDepth 100000 in
theorem e_Bonds_fewestColours_91 (d : Nat) (x1 : Nat) (x2 : Int32) (x3 : Int32) (x4 : Int32) (V : Mem) : sem d 1 91 [some (.inr (.inr (17, 0))), some (.inr (.inr (1, x1))), some (.inl x2), some (.inl x3), some (.inl x4)] [] V = sem d 1 39 [some (.inr (.inr (17, 0))), some (.inr (.inr (1, x1))), some (.inl x2), some (.inl x3), some (.inl (x4 + 1))] [] V :=
  (sem_u1 d 1 [23, 39, 91] 4 91 _ _ _).trans rfl
/-! Bonds_hasNoBonds -/
set_option maxRecDepth 100000 in
theorem e_Bonds_hasNoBonds_0 (d : Nat) (x1 : Int32) (V : Mem) : sem d 2 0 [some (.inr (.inr (17, 0))), some (.inl x1), none] [] V = sem d 2 2 [some (.inr (.inr (17, 0))), some (.inl x1), some (.inl 0)] [] V :=
  (sem_u1 d 2 [2, 29] 4 0 _ _ _).trans rfl
set_option maxRecDepth 100000 in
theorem e_Bonds_hasNoBonds_2 (d : Nat) (x1 : Int32) (x2 : Int32) (V : Mem) : sem d 2 2 [some (.inr (.inr (17, 0))), some (.inl x1), some (.inl x2)] [] V = if x2 < 6 then if (x1 >>> (x2 &&& 31)) &&& 1 = 0 then sem d 2 29 [some (.inr (.inr (17, 0))), some (.inl x1), some (.inl x2)] [] V else if x2 < 0 ∨ 6 ≤ Int32.toNatClampNeg x2 then none else if (V.1 18 0 (Int32.toNatClampNeg x2)) &&& x1 = 0 then sem d 2 29 [some (.inr (.inr (17, 0))), some (.inl x1), some (.inl x2)] [] V else some (some (.inl 0), V) else some (some (.inl 1), V) :=
  (sem_u1 d 2 [2, 29] 19 2 _ _ _).trans rfl
set_option maxRecDepth 100000 in
theorem e_Bonds_hasNoBonds_29 (d : Nat) (x1 : Int32) (x2 : Int32) (V : Mem) : sem d 2 29 [some (.inr (.inr (17, 0))), some (.inl x1), some (.inl x2)] [] V = sem d 2 2 [some (.inr (.inr (17, 0))), some (.inl x1), some (.inl (x2 + 1))] [] V :=
  (sem_u1 d 2 [2, 29] 4 29 _ _ _).trans rfl
/-! Bonds_steps -/
set_option maxRecDepth 100000 in
theorem e_Bonds_steps_0 (d : Nat) (x1 : Nat) (x2 : Int32) (x3 : Int32) (V : Mem) : sem d 3 0 [some (.inr (.inr (17, 0))), some (.inr (.inr (1, x1))), some (.inl x2), some (.inl x3), none, none] [] V = (clV d 0 [.inr (.inr (17, 0)), .inr (.inr (1, x1))] V).bind fun W1 => sem d 3 13 [some (.inr (.inr (17, 0))), some (.inr (.inr (1, x1))), some (.inl x2), some (.inl x3), some (.inl (1 <<< (x2 &&& 31))), some (.inl 0)] [] W1 :=
  (sem_u1 d 3 [13] 11 0 _ _ _).trans rfl
set_option maxRecDepth 100000 in
theorem e_Bonds_steps_13 (d : Nat) (x1 : Nat) (x2 : Int32) (x3 : Int32) (x4 : Int32) (x5 : Int32) (V : Mem) : sem d 3 13 [some (.inr (.inr (17, 0))), some (.inr (.inr (1, x1))), some (.inl x2), some (.inl x3), some (.inl x4), some (.inl x5)] [] V = if x5 < 6 then if (x4 >>> (x3 &&& 31)) &&& 1 = 0 then (clI d 4 [.inr (.inr (17, 0)), .inl x4] V).bind fun W1 => sem d 3 13 [some (.inr (.inr (17, 0))), some (.inr (.inr (1, x1))), some (.inl x2), some (.inl x3), some (.inl (x4 ||| W1.1)), some (.inl (x5 + 1))] [] W1.2 else some (some (.inl x5), V) else some (some (.inl (-1)), V) :=
  (sem_u1 d 3 [13] 19 13 _ _ _).trans rfl
/-! Bonds_around -/
set_option maxRecDepth 100000 in
theorem e_Bonds_around_0 (d : Nat) (x1 : Int32) (V : Mem) : sem d 4 0 [some (.inr (.inr (17, 0))), some (.inl x1), none, none] [] V = sem d 4 4 [some (.inr (.inr (17, 0))), some (.inl x1), some (.inl 0), some (.inl 0)] [] V :=
  (sem_u1 d 4 [4, 27] 6 0 _ _ _).trans rfl
set_option maxRecDepth 100000 in
theorem e_Bonds_around_4 (d : Nat) (x1 : Int32) (x2 : Int32) (x3 : Int32) (V : Mem) : sem d 4 4 [some (.inr (.inr (17, 0))), some (.inl x1), some (.inl x2), some (.inl x3)] [] V = if x3 < 6 then if (x1 >>> (x3 &&& 31)) &&& 1 = 0 then sem d 4 27 [some (.inr (.inr (17, 0))), some (.inl x1), some (.inl x2), some (.inl x3)] [] V else if x3 < 0 ∨ 6 ≤ Int32.toNatClampNeg x3 then none else sem d 4 27 [some (.inr (.inr (17, 0))), some (.inl x1), some (.inl (x2 ||| (V.1 18 0 (Int32.toNatClampNeg x3)))), some (.inl x3)] [] V else some (some (.inl x2), V) :=
  (sem_u1 d 4 [4, 27] 18 4 _ _ _).trans rfl
set_option maxRecDepth 100000 in
theorem e_Bonds_around_27 (d : Nat) (x1 : Int32) (x2 : Int32) (x3 : Int32) (V : Mem) : sem d 4 27 [some (.inr (.inr (17, 0))), some (.inl x1), some (.inl x2), some (.inl x3)] [] V = sem d 4 4 [some (.inr (.inr (17, 0))), some (.inl x1), some (.inl x2), some (.inl (x3 + 1))] [] V :=
  (sem_u1 d 4 [4, 27] 4 27 _ _ _).trans rfl
/-! Figure_measure -/
set_option maxRecDepth 100000 in
theorem e_Figure_measure_0 (d : Nat) (x1 : Nat) (x2 : Nat) (V : Mem) : sem d 5 0 [some (.inr (.inr (8, 0))), some (.inr (.inr (1, x1))), some (.inr (.inr (5, x2))), none, none] [] V = sem d 5 30 [some (.inr (.inr (8, 0))), some (.inr (.inr (1, x1))), some (.inr (.inr (5, x2))), some (.inl 0), none] [] (mset (mset (mset (mset (mset V.1 8 0 1 (V.1 5 x2 5)) 8 0 2 0) 8 0 3 0) 8 0 5 0) 8 0 6 0, V.2) :=
  (sem_u1 d 5 [30] 20 0 _ _ _).trans rfl
set_option maxRecDepth 100000 in
theorem e_Figure_measure_30 (d : Nat) (x1 : Nat) (x2 : Nat) (x3 : Int32) (V : Mem) : sem d 5 30 [some (.inr (.inr (8, 0))), some (.inr (.inr (1, x1))), some (.inr (.inr (5, x2))), some (.inl x3), none] [] V = if x3 < V.1 8 0 1 then if x3 < 0 ∨ 10 ≤ Int32.toNatClampNeg x3 then none else if x3 < 0 ∨ 10 ≤ Int32.toNatClampNeg x3 then none else (clI d 49 [.inr (.inr (1, x1)), .inl (V.1 6 x2 (Int32.toNatClampNeg x3)), .inl (V.1 7 x2 (Int32.toNatClampNeg x3))] V).bind fun W1 => (clI d 16 [.inr (.inr (5, x2)), .inl x3] W1.2).bind fun W2 => if x3 < 0 ∨ 10 ≤ Int32.toNatClampNeg x3 then none else if x3 < 0 ∨ 10 ≤ Int32.toNatClampNeg x3 then none else if x3 < 0 ∨ 10 ≤ Int32.toNatClampNeg x3 then none else sem d 5 30 [some (.inr (.inr (8, 0))), some (.inr (.inr (1, x1))), some (.inr (.inr (5, x2))), some (.inl (x3 + 1)), none] [] (mset (mset (mset (mset (mset W2.2.1 9 0 (Int32.toNatClampNeg x3) W2.1) 8 0 2 (((mset W2.2.1 9 0 (Int32.toNatClampNeg x3) W2.1) 8 0 2) ||| ((mset W2.2.1 9 0 (Int32.toNatClampNeg x3) W2.1) 9 0 (Int32.toNatClampNeg x3)))) 8 0 3 (((mset (mset W2.2.1 9 0 (Int32.toNatClampNeg x3) W2.1) 8 0 2 (((mset W2.2.1 9 0 (Int32.toNatClampNeg x3) W2.1) 8 0 2) ||| ((mset W2.2.1 9 0 (Int32.toNatClampNeg x3) W2.1) 9 0 (Int32.toNatClampNeg x3)))) 8 0 3) ^^^ ((mset (mset W2.2.1 9 0 (Int32.toNatClampNeg x3) W2.1) 8 0 2 (((mset W2.2.1 9 0 (Int32.toNatClampNeg x3) W2.1) 8 0 2) ||| ((mset W2.2.1 9 0 (Int32.toNatClampNeg x3) W2.1) 9 0 (Int32.toNatClampNeg x3)))) 9 0 (Int32.toNatClampNeg x3)))) 8 0 5 (((mset (mset (mset W2.2.1 9 0 (Int32.toNatClampNeg x3) W2.1) 8 0 2 (((mset W2.2.1 9 0 (Int32.toNatClampNeg x3) W2.1) 8 0 2) ||| ((mset W2.2.1 9 0 (Int32.toNatClampNeg x3) W2.1) 9 0 (Int32.toNatClampNeg x3)))) 8 0 3 (((mset (mset W2.2.1 9 0 (Int32.toNatClampNeg x3) W2.1) 8 0 2 (((mset W2.2.1 9 0 (Int32.toNatClampNeg x3) W2.1) 8 0 2) ||| ((mset W2.2.1 9 0 (Int32.toNatClampNeg x3) W2.1) 9 0 (Int32.toNatClampNeg x3)))) 8 0 3) ^^^ ((mset (mset W2.2.1 9 0 (Int32.toNatClampNeg x3) W2.1) 8 0 2 (((mset W2.2.1 9 0 (Int32.toNatClampNeg x3) W2.1) 8 0 2) ||| ((mset W2.2.1 9 0 (Int32.toNatClampNeg x3) W2.1) 9 0 (Int32.toNatClampNeg x3)))) 9 0 (Int32.toNatClampNeg x3)))) 8 0 5) + W1.1)) 8 0 6 (imax ((mset (mset (mset (mset W2.2.1 9 0 (Int32.toNatClampNeg x3) W2.1) 8 0 2 (((mset W2.2.1 9 0 (Int32.toNatClampNeg x3) W2.1) 8 0 2) ||| ((mset W2.2.1 9 0 (Int32.toNatClampNeg x3) W2.1) 9 0 (Int32.toNatClampNeg x3)))) 8 0 3 (((mset (mset W2.2.1 9 0 (Int32.toNatClampNeg x3) W2.1) 8 0 2 (((mset W2.2.1 9 0 (Int32.toNatClampNeg x3) W2.1) 8 0 2) ||| ((mset W2.2.1 9 0 (Int32.toNatClampNeg x3) W2.1) 9 0 (Int32.toNatClampNeg x3)))) 8 0 3) ^^^ ((mset (mset W2.2.1 9 0 (Int32.toNatClampNeg x3) W2.1) 8 0 2 (((mset W2.2.1 9 0 (Int32.toNatClampNeg x3) W2.1) 8 0 2) ||| ((mset W2.2.1 9 0 (Int32.toNatClampNeg x3) W2.1) 9 0 (Int32.toNatClampNeg x3)))) 9 0 (Int32.toNatClampNeg x3)))) 8 0 5 (((mset (mset (mset W2.2.1 9 0 (Int32.toNatClampNeg x3) W2.1) 8 0 2 (((mset W2.2.1 9 0 (Int32.toNatClampNeg x3) W2.1) 8 0 2) ||| ((mset W2.2.1 9 0 (Int32.toNatClampNeg x3) W2.1) 9 0 (Int32.toNatClampNeg x3)))) 8 0 3 (((mset (mset W2.2.1 9 0 (Int32.toNatClampNeg x3) W2.1) 8 0 2 (((mset W2.2.1 9 0 (Int32.toNatClampNeg x3) W2.1) 8 0 2) ||| ((mset W2.2.1 9 0 (Int32.toNatClampNeg x3) W2.1) 9 0 (Int32.toNatClampNeg x3)))) 8 0 3) ^^^ ((mset (mset W2.2.1 9 0 (Int32.toNatClampNeg x3) W2.1) 8 0 2 (((mset W2.2.1 9 0 (Int32.toNatClampNeg x3) W2.1) 8 0 2) ||| ((mset W2.2.1 9 0 (Int32.toNatClampNeg x3) W2.1) 9 0 (Int32.toNatClampNeg x3)))) 9 0 (Int32.toNatClampNeg x3)))) 8 0 5) + W1.1)) 8 0 6) W1.1), W2.2.2) else (clI d 50 [.inr (.inr (1, x1)), .inl (V.1 8 0 2)] V).bind fun W3 => (clV d 6 [.inr (.inr (8, 0))] (mset W3.2.1 8 0 4 W3.1, W3.2.2)).bind fun W4 => some (none, W4) :=
  (sem_u1 d 5 [30] 56 30 _ _ _).trans rfl
/-! Figure_countPieces -/
set_option maxRecDepth 100000 in
theorem e_Figure_countPieces_0 (d : Nat) (V : Mem) : sem d 6 0 [some (.inr (.inr (8, 0))), none, none, none] [] V = sem d 6 17 [some (.inr (.inr (8, 0))), some (.inl (V.1 8 0 2)), some (.inl 0), none] [] (mset (mset V.1 8 0 7 0) 8 0 8 0, V.2) :=
  (sem_u1 d 6 [17] 13 0 _ _ _).trans rfl
set_option maxRecDepth 100000 in
theorem e_Figure_countPieces_17 (d : Nat) (x1 : Int32) (x2 : Int32) (V : Mem) : sem d 6 17 [some (.inr (.inr (8, 0))), some (.inl x1), some (.inl x2), none] [] V = if x2 < 12 then if x1 = 0 then some (none, V) else (clI d 7 [.inr (.inr (8, 0)), .inl (x1 &&& (-x1))] V).bind fun W1 => (clI d 224 [.inl (((mset W1.2.1 8 0 7 ((W1.2.1 8 0 7) + 1)) 8 0 3) &&& W1.1)] (mset W1.2.1 8 0 7 ((W1.2.1 8 0 7) + 1), W1.2.2)).bind fun W2 => sem d 6 17 [some (.inr (.inr (8, 0))), some (.inl (x1 &&& (W1.1 ^^^ (-1)))), some (.inl (x2 + 1)), none] [] (mset W2.2.1 8 0 8 (((mset W1.2.1 8 0 7 ((W1.2.1 8 0 7) + 1)) 8 0 8) + (imax 1 (W2.1 / 2))), W2.2.2) else some (none, V) :=
  (sem_u1 d 6 [17] 42 17 _ _ _).trans rfl
/-! Figure_pieceAround -/
set_option maxRecDepth 100000 in
theorem e_Figure_pieceAround_0 (d : Nat) (x1 : Int32) (V : Mem) : sem d 7 0 [some (.inr (.inr (8, 0))), some (.inl x1), none, none, none, none] [] V = sem d 7 7 [some (.inr (.inr (8, 0))), some (.inl x1), some (.inl x1), some (.inl 0), some (.inl 0), none] [] V :=
  (sem_u1 d 7 [7, 24, 55] 8 0 _ _ _).trans rfl
set_option maxRecDepth 100000 in
theorem e_Figure_pieceAround_7 (d : Nat) (x1 : Int32) (x2 : Int32) (x3 : Int32) (x4 : Int32) (V : Mem) : sem d 7 7 [some (.inr (.inr (8, 0))), some (.inl x1), some (.inl x2), some (.inl x3), some (.inl x4), none] [] V = if x4 < 12 then if x2 = x3 then some (some (.inl x2), V) else sem d 7 24 [some (.inr (.inr (8, 0))), some (.inl x1), some (.inl x2), some (.inl x2), some (.inl x4), some (.inl 0)] [] V else some (some (.inl x2), V) :=
  (sem_u1 d 7 [7, 24, 55] 12 7 _ _ _).trans rfl
set_option maxRecDepth 100000 in
theorem e_Figure_pieceAround_24 (d : Nat) (x1 : Int32) (x2 : Int32) (x3 : Int32) (x4 : Int32) (x5 : Int32) (V : Mem) : sem d 7 24 [some (.inr (.inr (8, 0))), some (.inl x1), some (.inl x2), some (.inl x3), some (.inl x4), some (.inl x5)] [] V = if x5 < V.1 8 0 1 then if x5 < 0 ∨ 10 ≤ Int32.toNatClampNeg x5 then none else if (V.1 9 0 (Int32.toNatClampNeg x5)) &&& x2 = 0 then sem d 7 55 [some (.inr (.inr (8, 0))), some (.inl x1), some (.inl x2), some (.inl x3), some (.inl x4), some (.inl x5)] [] V else if x5 < 0 ∨ 10 ≤ Int32.toNatClampNeg x5 then none else sem d 7 55 [some (.inr (.inr (8, 0))), some (.inl x1), some (.inl (x2 ||| (V.1 9 0 (Int32.toNatClampNeg x5)))), some (.inl x3), some (.inl x4), some (.inl x5)] [] V else sem d 7 7 [some (.inr (.inr (8, 0))), some (.inl x1), some (.inl x2), some (.inl x3), some (.inl (x4 + 1)), none] [] V :=
  (sem_u1 d 7 [7, 24, 55] 20 24 _ _ _).trans rfl
set_option maxRecDepth 100000 in
theorem e_Figure_pieceAround_55 (d : Nat) (x1 : Int32) (x2 : Int32) (x3 : Int32) (x4 : Int32) (x5 : Int32) (V : Mem) : sem d 7 55 [some (.inr (.inr (8, 0))), some (.inl x1), some (.inl x2), some (.inl x3), some (.inl x4), some (.inl x5)] [] V = sem d 7 24 [some (.inr (.inr (8, 0))), some (.inl x1), some (.inl x2), some (.inl x3), some (.inl x4), some (.inl (x5 + 1))] [] V :=
  (sem_u1 d 7 [7, 24, 55] 4 55 _ _ _).trans rfl
/-! Figure_isClosed -/
set_option maxRecDepth 100000 in
theorem e_Figure_isClosed_0 (d : Nat) (V : Mem) : sem d 8 0 [some (.inr (.inr (8, 0)))] [] V = if 0 < V.1 8 0 1 then if V.1 8 0 3 = 0 then some (some (.inl 1), V) else some (some (.inl 0), V) else some (some (.inl 0), V) :=
  (sem_u1 d 8 [] 10 0 _ _ _).trans rfl
/-! Figure_worthTo -/
set_option maxRecDepth 100000 in
theorem e_Figure_worthTo_0 (d : Nat) (x1 : Int32) (x2 : Int32) (V : Mem) : sem d 9 0 [some (.inr (.inr (8, 0))), some (.inl x1), some (.inl x2), none] [] V = if x1 = 1 then some (some (.inl (((V.1 8 0 4) + (V.1 8 0 1)) + (3 * (V.1 8 0 6)))), V) else if x1 = 2 then (clI d 10 [.inr (.inr (8, 0)), .inl ((V.1 8 0 4) + (V.1 8 0 1))] V).bind fun W3 => some (some (.inl W3.1), W3.2) else if x1 = 3 then some (some (.inl (2 * (((V.1 8 0 4) + (V.1 8 0 1)) + (3 * (V.1 8 0 6))))), V) else if x1 = 4 then (clI d 10 [.inr (.inr (8, 0)), .inl ((V.1 8 0 4) + (V.1 8 0 1))] V).bind fun W2 => some (some (.inl (imax 0 (W2.1 - (W2.2.1 8 0 5)))), W2.2) else if x1 = 5 then (clI d 8 [.inr (.inr (8, 0))] V).bind fun W1 => if W1.1 = 0 then some (some (.inl ((V.1 8 0 4) + (V.1 8 0 1))), W1.2) else some (some (.inl (((V.1 8 0 4) + (V.1 8 0 1)) + x2)), W1.2) else some (some (.inl ((V.1 8 0 4) + (V.1 8 0 1))), V) :=
  (sem_u1 d 9 [] 18 0 _ _ _).trans rfl
/-! Figure_lessStrokes -/
set_option maxRecDepth 100000 in
theorem e_Figure_lessStrokes_0 (d : Nat) (x1 : Int32) (V : Mem) : sem d 10 0 [some (.inr (.inr (8, 0))), some (.inl x1)] [] V = some (some (.inl (imax 0 (x1 - (2 * (V.1 8 0 8))))), V) :=
  (sem_u1 d 10 [] 10 0 _ _ _).trans rfl
/-! Figure_meritBy -/
set_option maxRecDepth 100000 in
theorem e_Figure_meritBy_0 (d : Nat) (x1 : Int32) (x2 : Nat) (V : Mem) : sem d 11 0 [some (.inr (.inr (8, 0))), some (.inl x1), some (.inr (.inr (5, x2)))] [] V = if x1 = 0 then (clI d 9 [.inr (.inr (8, 0)), .inl (V.1 5 x2 2), .inl (V.1 5 x2 3)] V).bind fun W2 => some (some (.inl W2.1), W2.2) else if x1 = 1 then some (some (.inl (V.1 8 0 4)), V) else if x1 = 2 then some (some (.inl (V.1 8 0 1)), V) else if x1 = 3 then some (some (.inl (V.1 8 0 6)), V) else if x1 = 4 then some (some (.inl (-(V.1 8 0 8))), V) else (clI d 224 [.inl (V.1 8 0 2)] V).bind fun W1 => some (some (.inl W1.1), W1.2) :=
  (sem_u1 d 11 [] 10 0 _ _ _).trans rfl
/-! Parish_begin -/
set_option maxRecDepth 100000 in
theorem e_Parish_begin_0 (d : Nat) (x0 : Nat) (x1 : Int32) (x2 : Int32) (V : Mem) : sem d 12 0 [some (.inr (.inr (5, x0))), some (.inl x1), some (.inl x2)] [] V = some (none, (mset (mset (mset (mset V.1 5 x0 2 x1) 5 x0 3 x2) 5 x0 4 0) 5 x0 5 0, V.2)) :=
  (sem_u1 d 12 [] 14 0 _ _ _).trans rfl
/-! Parish_become -/
set_option maxRecDepth 100000 in
theorem e_Parish_become_0 (d : Nat) (x0 : Nat) (x1 : Nat) (V : Mem) : sem d 13 0 [some (.inr (.inr (5, x0))), some (.inr (.inr (5, x1)))] [] V = some (none, (mcpy (mcpy (mset (mset (mset (mset V.1 5 x0 2 (V.1 5 x1 2)) 5 x0 3 ((mset V.1 5 x0 2 (V.1 5 x1 2)) 5 x1 3)) 5 x0 4 ((mset (mset V.1 5 x0 2 (V.1 5 x1 2)) 5 x0 3 ((mset V.1 5 x0 2 (V.1 5 x1 2)) 5 x1 3)) 5 x1 4)) 5 x0 5 ((mset (mset (mset V.1 5 x0 2 (V.1 5 x1 2)) 5 x0 3 ((mset V.1 5 x0 2 (V.1 5 x1 2)) 5 x1 3)) 5 x0 4 ((mset (mset V.1 5 x0 2 (V.1 5 x1 2)) 5 x0 3 ((mset V.1 5 x0 2 (V.1 5 x1 2)) 5 x1 3)) 5 x1 4)) 5 x1 5)) 6 x1 (0) 6 x0 (0) (10)) 7 x1 (0) 7 x0 (0) (10), V.2)) :=
  (sem_u1 d 13 [] 34 0 _ _ _).trans rfl
/-! Parish_wantsAll -/
set_option maxRecDepth 100000 in
theorem e_Parish_wantsAll_0 (d : Nat) (x0 : Nat) (x1 : Int32) (V : Mem) : sem d 14 0 [some (.inr (.inr (5, x0))), some (.inl x1)] [] V = if (V.1 5 x0 4) &&& x1 = x1 then some (some (.inl 1), V) else some (some (.inl 0), V) :=
  (sem_u1 d 14 [] 10 0 _ _ _).trans rfl
/-! Parish_hasRoom -/
set_option maxRecDepth 100000 in
theorem e_Parish_hasRoom_0 (d : Nat) (x0 : Nat) (V : Mem) : sem d 15 0 [some (.inr (.inr (5, x0)))] [] V = if V.1 5 x0 5 < 10 then some (some (.inl 1), V) else some (some (.inl 0), V) :=
  (sem_u1 d 15 [] 8 0 _ _ _).trans rfl
/-! Parish_ends -/
set_option maxRecDepth 100000 in
theorem e_Parish_ends_0 (d : Nat) (x0 : Nat) (x1 : Int32) (V : Mem) : sem d 16 0 [some (.inr (.inr (5, x0))), some (.inl x1)] [] V = if x1 < 0 ∨ 10 ≤ Int32.toNatClampNeg x1 then none else if x1 < 0 ∨ 10 ≤ Int32.toNatClampNeg x1 then none else some (some (.inl ((1 <<< ((V.1 6 x0 (Int32.toNatClampNeg x1)) &&& 31)) ||| (1 <<< ((V.1 7 x0 (Int32.toNatClampNeg x1)) &&& 31)))), V) :=
  (sem_u1 d 16 [] 15 0 _ _ _).trans rfl
/-! Parish_find -/
set_option maxRecDepth 100000 in
theorem e_Parish_find_0 (d : Nat) (x0 : Nat) (x1 : Int32) (V : Mem) : sem d 17 0 [some (.inr (.inr (5, x0))), some (.inl x1), none] [] V = sem d 17 2 [some (.inr (.inr (5, x0))), some (.inl x1), some (.inl 0)] [] V :=
  (sem_u1 d 17 [2] 4 0 _ _ _).trans rfl
set_option maxRecDepth 100000 in
theorem e_Parish_find_2 (d : Nat) (x0 : Nat) (x1 : Int32) (x2 : Int32) (V : Mem) : sem d 17 2 [some (.inr (.inr (5, x0))), some (.inl x1), some (.inl x2)] [] V = if x2 < V.1 5 x0 5 then (clI d 16 [.inr (.inr (5, x0)), .inl x2] V).bind fun W1 => if W1.1 = x1 then some (some (.inl x2), W1.2) else sem d 17 2 [some (.inr (.inr (5, x0))), some (.inl x1), some (.inl (x2 + 1))] [] W1.2 else some (some (.inl (-1)), V) :=
  (sem_u1 d 17 [2] 13 2 _ _ _).trans rfl
/-! Parish_draw -/
set_option maxRecDepth 100000 in
theorem e_Parish_draw_0 (d : Nat) (x0 : Nat) (x1 : Int32) (x2 : Int32) (V : Mem) : sem d 18 0 [some (.inr (.inr (5, x0))), some (.inl x1), some (.inl x2)] [] V = (clI d 15 [.inr (.inr (5, x0))] V).bind fun W1 => if W1.1 = 0 then some (none, W1.2) else if W1.2.1 5 x0 5 < 0 ∨ 10 ≤ Int32.toNatClampNeg (W1.2.1 5 x0 5) then none else if (mset W1.2.1 6 x0 (Int32.toNatClampNeg (W1.2.1 5 x0 5)) x1) 5 x0 5 < 0 ∨ 10 ≤ Int32.toNatClampNeg ((mset W1.2.1 6 x0 (Int32.toNatClampNeg (W1.2.1 5 x0 5)) x1) 5 x0 5) then none else some (none, (mset (mset (mset W1.2.1 6 x0 (Int32.toNatClampNeg (W1.2.1 5 x0 5)) x1) 7 x0 (Int32.toNatClampNeg ((mset W1.2.1 6 x0 (Int32.toNatClampNeg (W1.2.1 5 x0 5)) x1) 5 x0 5)) x2) 5 x0 5 (((mset (mset W1.2.1 6 x0 (Int32.toNatClampNeg (W1.2.1 5 x0 5)) x1) 7 x0 (Int32.toNatClampNeg ((mset W1.2.1 6 x0 (Int32.toNatClampNeg (W1.2.1 5 x0 5)) x1) 5 x0 5)) x2) 5 x0 5) + 1), W1.2.2)) :=
  (sem_u1 d 18 [] 23 0 _ _ _).trans rfl
/-! Parish_erase -/
set_option maxRecDepth 100000 in
theorem e_Parish_erase_0 (d : Nat) (x0 : Nat) (x1 : Int32) (V : Mem) : sem d 19 0 [some (.inr (.inr (5, x0))), some (.inl x1), none] [] V = if x1 < 0 then some (none, V) else if x1 < V.1 5 x0 5 then if x1 + 1 < 0 ∨ x1 < 0 ∨ ((V.1 5 x0 5) - x1) - 1 < 0 ∨ 10 < Int32.toNatClampNeg (x1 + 1) + Int32.toNatClampNeg (((V.1 5 x0 5) - x1) - 1) ∨ 10 < Int32.toNatClampNeg x1 + Int32.toNatClampNeg (((V.1 5 x0 5) - x1) - 1) then none else if x1 + 1 < 0 ∨ x1 < 0 ∨ ((V.1 5 x0 5) - x1) - 1 < 0 ∨ 10 < Int32.toNatClampNeg (x1 + 1) + Int32.toNatClampNeg (((V.1 5 x0 5) - x1) - 1) ∨ 10 < Int32.toNatClampNeg x1 + Int32.toNatClampNeg (((V.1 5 x0 5) - x1) - 1) then none else some (none, (mset (mcpy (mcpy V.1 6 x0 (Int32.toNatClampNeg (x1 + 1)) 6 x0 (Int32.toNatClampNeg x1) (Int32.toNatClampNeg (((V.1 5 x0 5) - x1) - 1))) 7 x0 (Int32.toNatClampNeg (x1 + 1)) 7 x0 (Int32.toNatClampNeg x1) (Int32.toNatClampNeg (((V.1 5 x0 5) - x1) - 1))) 5 x0 5 (((mcpy (mcpy V.1 6 x0 (Int32.toNatClampNeg (x1 + 1)) 6 x0 (Int32.toNatClampNeg x1) (Int32.toNatClampNeg (((V.1 5 x0 5) - x1) - 1))) 7 x0 (Int32.toNatClampNeg (x1 + 1)) 7 x0 (Int32.toNatClampNeg x1) (Int32.toNatClampNeg (((V.1 5 x0 5) - x1) - 1))) 5 x0 5) - 1), V.2)) else some (none, V) :=
  (sem_u1 d 19 [] 41 0 _ _ _).trans rfl
/-! Parish_eraseAt -/
set_option maxRecDepth 100000 in
theorem e_Parish_eraseAt_0 (d : Nat) (x0 : Nat) (x1 : Int32) (V : Mem) : sem d 20 0 [some (.inr (.inr (5, x0))), some (.inl x1), none, none] [] V = sem d 20 9 [some (.inr (.inr (5, x0))), some (.inl x1), some (.inl (V.1 5 x0 5)), some (.inl ((V.1 5 x0 5) - 1))] [] V :=
  (sem_u1 d 20 [9, 28] 9 0 _ _ _).trans rfl
set_option maxRecDepth 100000 in
theorem e_Parish_eraseAt_9 (d : Nat) (x0 : Nat) (x1 : Int32) (x2 : Int32) (x3 : Int32) (V : Mem) : sem d 20 9 [some (.inr (.inr (5, x0))), some (.inl x1), some (.inl x2), some (.inl x3)] [] V = if x3 < 0 then some (some (.inl (x2 - (V.1 5 x0 5))), V) else (clI d 16 [.inr (.inr (5, x0)), .inl x3] V).bind fun W1 => if W1.1 &&& x1 = 0 then sem d 20 28 [some (.inr (.inr (5, x0))), some (.inl x1), some (.inl x2), some (.inl x3)] [] W1.2 else (clV d 19 [.inr (.inr (5, x0)), .inl x3] W1.2).bind fun W2 => sem d 20 28 [some (.inr (.inr (5, x0))), some (.inl x1), some (.inl x2), some (.inl x3)] [] W2 :=
  (sem_u1 d 20 [9, 28] 13 9 _ _ _).trans rfl
set_option maxRecDepth 100000 in
theorem e_Parish_eraseAt_28 (d : Nat) (x0 : Nat) (x1 : Int32) (x2 : Int32) (x3 : Int32) (V : Mem) : sem d 20 28 [some (.inr (.inr (5, x0))), some (.inl x1), some (.inl x2), some (.inl x3)] [] V = sem d 20 9 [some (.inr (.inr (5, x0))), some (.inl x1), some (.inl x2), some (.inl (x3 + (-1)))] [] V :=
  (sem_u1 d 20 [9, 28] 4 28 _ _ _).trans rfl
/-! Parish_lose -/
set_option maxRecDepth 100000 in
theorem e_Parish_lose_0 (d : Nat) (x0 : Nat) (x1 : Int32) (V : Mem) : sem d 21 0 [some (.inr (.inr (5, x0))), some (.inl x1)] [] V = (clI d 20 [.inr (.inr (5, x0)), .inl x1] (mset V.1 5 x0 4 ((V.1 5 x0 4) &&& (x1 ^^^ (-1))), V.2)).bind fun W1 => some (some (.inl W1.1), W1.2) :=
  (sem_u1 d 21 [] 13 0 _ _ _).trans rfl
/-! Sharing_work -/
set_option maxRecDepth 100000 in
theorem e_Sharing_work_0 (d : Nat) (x1 : Nat) (x3 : Nat) (V : Mem) : sem d 22 0 [some (.inr (.inr (10, 0))), some (.inr (.inr (1, x1))), some (.inr (.inr (8, 0))), some (.inr (.inr (5, x3))), none, none, none] [] V = (clV d 23 [.inr (.inr (10, 0)), .inr (.inr (1, x1))] V).bind fun W1 => sem d 22 8 [some (.inr (.inr (10, 0))), some (.inr (.inr (1, x1))), some (.inr (.inr (8, 0))), some (.inr (.inr (5, x3))), some (.inl 0), none, none] [] W1 :=
  (sem_u1 d 22 [8, 43, 98] 7 0 _ _ _).trans rfl
set_option maxRecDepth 100000 in
theorem e_Sharing_work_8 (d : Nat) (x1 : Nat) (x3 : Nat) (x4 : Int32) (V : Mem) : sem d 22 8 [some (.inr (.inr (10, 0))), some (.inr (.inr (1, x1))), some (.inr (.inr (8, 0))), some (.inr (.inr (5, x3))), some (.inl x4), none, none] [] V = if x4 < V.1 1 x1 4 then (clV d 24 [.inr (.inr (10, 0)), .inr (.inr (1, x1)), .inl x4, .inr (.inr (8, 0)), .inr (.inr (5, x3))] V).bind fun W1 => sem d 22 8 [some (.inr (.inr (10, 0))), some (.inr (.inr (1, x1))), some (.inr (.inr (8, 0))), some (.inr (.inr (5, x3))), some (.inl (x4 + 1)), none, none] [] W1 else sem d 22 43 [some (.inr (.inr (10, 0))), some (.inr (.inr (1, x1))), some (.inr (.inr (8, 0))), some (.inr (.inr (5, x3))), some (.inl 1), some (.inl 0), none] [] (mset V.1 10 0 3 (-1), V.2) :=
  (sem_u1 d 22 [8, 43, 98] 14 8 _ _ _).trans rfl
set_option maxRecDepth 100000 in
theorem e_Sharing_work_43 (d : Nat) (x1 : Nat) (x3 : Nat) (x4 : Int32) (x5 : Int32) (V : Mem) : sem d 22 43 [some (.inr (.inr (10, 0))), some (.inr (.inr (1, x1))), some (.inr (.inr (8, 0))), some (.inr (.inr (5, x3))), some (.inl x4), some (.inl x5), none] [] V = if x5 < 7776 then if x4 = 0 then some (none, V) else (clI d 27 [.inr (.inr (10, 0)), .inl (V.1 1 x1 4)] V).bind fun W1 => if W1.2.1 10 0 3 < W1.1 then if (0 : Int32) < 0 ∨ (0 : Int32) < 0 ∨ (mset W1.2.1 10 0 3 W1.1) 10 0 2 < 0 ∨ 5 < 0 + Int32.toNatClampNeg ((mset W1.2.1 10 0 3 W1.1) 10 0 2) ∨ 5 < 0 + Int32.toNatClampNeg ((mset W1.2.1 10 0 3 W1.1) 10 0 2) then none else sem d 22 98 [some (.inr (.inr (10, 0))), some (.inr (.inr (1, x1))), some (.inr (.inr (8, 0))), some (.inr (.inr (5, x3))), some (.inl x4), some (.inl x5), some (.inl W1.1)] [] (mcpy (mset W1.2.1 10 0 3 W1.1) 14 0 (0) 12 0 (0) (Int32.toNatClampNeg ((mset W1.2.1 10 0 3 W1.1) 10 0 2)), W1.2.2) else sem d 22 98 [some (.inr (.inr (10, 0))), some (.inr (.inr (1, x1))), some (.inr (.inr (8, 0))), some (.inr (.inr (5, x3))), some (.inl x4), some (.inl x5), some (.inl W1.1)] [] W1.2 else some (none, V) :=
  (sem_u1 d 22 [8, 43, 98] 28 43 _ _ _).trans rfl
set_option maxRecDepth 100000 in
theorem e_Sharing_work_98 (d : Nat) (x1 : Nat) (x3 : Nat) (x4 : Int32) (x5 : Int32) (x6 : Int32) (V : Mem) : sem d 22 98 [some (.inr (.inr (10, 0))), some (.inr (.inr (1, x1))), some (.inr (.inr (8, 0))), some (.inr (.inr (5, x3))), some (.inl x4), some (.inl x5), some (.inl x6)] [] V = (clI d 28 [.inr (.inr (10, 0))] V).bind fun W1 => sem d 22 43 [some (.inr (.inr (10, 0))), some (.inr (.inr (1, x1))), some (.inr (.inr (8, 0))), some (.inr (.inr (5, x3))), some (.inl W1.1), some (.inl (x5 + 1)), none] [] W1.2 :=
  (sem_u1 d 22 [8, 43, 98] 7 98 _ _ _).trans rfl
/-! Sharing_findPoints -/
set_option maxRecDepth 100000 in
theorem e_Sharing_findPoints_0 (d : Nat) (x1 : Nat) (V : Mem) : sem d 23 0 [some (.inr (.inr (10, 0))), some (.inr (.inr (1, x1))), none] [] V = (clV d 226 [.inr (.inr (15, 0)), .inl 0] (mset V.1 10 0 2 0, V.2)).bind fun W1 => sem d 23 15 [some (.inr (.inr (10, 0))), some (.inr (.inr (1, x1))), some (.inl 0)] [] W1 :=
  (sem_u1 d 23 [15, 99] 11 0 _ _ _).trans rfl
set_option maxRecDepth 100000 in
theorem e_Sharing_findPoints_15 (d : Nat) (x1 : Nat) (x2 : Int32) (V : Mem) : sem d 23 15 [some (.inr (.inr (10, 0))), some (.inr (.inr (1, x1))), some (.inl x2)] [] V = if x2 < V.1 1 x1 3 then if V.1 10 0 2 < 5 then (clI d 52 [.inr (.inr (1, x1)), .inl x2] V).bind fun W1 => if W1.1 = 0 then sem d 23 99 [some (.inr (.inr (10, 0))), some (.inr (.inr (1, x1))), some (.inl x2)] [] W1.2 else if W1.2.1 10 0 2 < 0 ∨ 5 ≤ Int32.toNatClampNeg (W1.2.1 10 0 2) then none else (clI d 51 [.inr (.inr (1, x1)), .inl x2] (mset W1.2.1 11 0 (Int32.toNatClampNeg (W1.2.1 10 0 2)) x2, W1.2.2)).bind fun W2 => if (mset W1.2.1 11 0 (Int32.toNatClampNeg (W1.2.1 10 0 2)) x2) 10 0 2 < 0 ∨ 5 ≤ Int32.toNatClampNeg ((mset W1.2.1 11 0 (Int32.toNatClampNeg (W1.2.1 10 0 2)) x2) 10 0 2) then none else (clI d 30 [.inr (.inr (10, 0)), .inl ((mset W2.2.1 13 0 (Int32.toNatClampNeg ((mset W1.2.1 11 0 (Int32.toNatClampNeg (W1.2.1 10 0 2)) x2) 10 0 2)) W2.1) 10 0 2), .inl 0] (mset W2.2.1 13 0 (Int32.toNatClampNeg ((mset W1.2.1 11 0 (Int32.toNatClampNeg (W1.2.1 10 0 2)) x2) 10 0 2)) W2.1, W2.2.2)).bind fun W3 => if (mset W2.2.1 13 0 (Int32.toNatClampNeg ((mset W1.2.1 11 0 (Int32.toNatClampNeg (W1.2.1 10 0 2)) x2) 10 0 2)) W2.1) 10 0 2 < 0 ∨ 5 ≤ Int32.toNatClampNeg ((mset W2.2.1 13 0 (Int32.toNatClampNeg ((mset W1.2.1 11 0 (Int32.toNatClampNeg (W1.2.1 10 0 2)) x2) 10 0 2)) W2.1) 10 0 2) then none else (clV d 29 [.inr (.inr (10, 0)), .inl ((mset W3.2.1 14 0 (Int32.toNatClampNeg ((mset W2.2.1 13 0 (Int32.toNatClampNeg ((mset W1.2.1 11 0 (Int32.toNatClampNeg (W1.2.1 10 0 2)) x2) 10 0 2)) W2.1) 10 0 2)) W3.1) 10 0 2)] (mset W3.2.1 14 0 (Int32.toNatClampNeg ((mset W2.2.1 13 0 (Int32.toNatClampNeg ((mset W1.2.1 11 0 (Int32.toNatClampNeg (W1.2.1 10 0 2)) x2) 10 0 2)) W2.1) 10 0 2)) W3.1, W3.2.2)).bind fun W4 => sem d 23 99 [some (.inr (.inr (10, 0))), some (.inr (.inr (1, x1))), some (.inl x2)] [] (mset W4.1 10 0 2 ((W4.1 10 0 2) + 1), W4.2) else some (none, V) else some (none, V) :=
  (sem_u1 d 23 [15, 99] 48 15 _ _ _).trans rfl
set_option maxRecDepth 100000 in
theorem e_Sharing_findPoints_99 (d : Nat) (x1 : Nat) (x2 : Int32) (V : Mem) : sem d 23 99 [some (.inr (.inr (10, 0))), some (.inr (.inr (1, x1))), some (.inl x2)] [] V = sem d 23 15 [some (.inr (.inr (10, 0))), some (.inr (.inr (1, x1))), some (.inl (x2 + 1))] [] V :=
  (sem_u1 d 23 [15, 99] 4 99 _ _ _).trans rfl
/-! Sharing_findWorths -/
set_option maxRecDepth 100000 in
theorem e_Sharing_findWorths_0 (d : Nat) (x1 : Nat) (x2 : Int32) (x4 : Nat) (V : Mem) : sem d 24 0 [some (.inr (.inr (10, 0))), some (.inr (.inr (1, x1))), some (.inl x2), some (.inr (.inr (8, 0))), some (.inr (.inr (5, x4))), none, none] [] V = if x2 < 0 ∨ 6 ≤ Int32.toNatClampNeg x2 then none else sem d 24 11 [some (.inr (.inr (10, 0))), some (.inr (.inr (1, x1))), some (.inl x2), some (.inr (.inr (8, 0))), some (.inr (.inr (5, x4))), some (.inr (.inr (5, Int32.toNatClampNeg x2 + 6 * x1))), some (.inl 0)] [] V :=
  (sem_u1 d 24 [11, 84] 9 0 _ _ _).trans rfl
set_option maxRecDepth 100000 in
theorem e_Sharing_findWorths_11 (d : Nat) (x1 : Nat) (x2 : Int32) (x4 : Nat) (x5 : Nat) (x6 : Int32) (V : Mem) : sem d 24 11 [some (.inr (.inr (10, 0))), some (.inr (.inr (1, x1))), some (.inl x2), some (.inr (.inr (8, 0))), some (.inr (.inr (5, x4))), some (.inr (.inr (5, x5))), some (.inl x6)] [] V = if x6 < 1 <<< ((V.1 10 0 2) &&& 31) then (clI d 25 [.inr (.inr (10, 0)), .inl x2, .inl x6] V).bind fun W1 => if W1.1 = 0 then sem d 24 84 [some (.inr (.inr (10, 0))), some (.inr (.inr (1, x1))), some (.inl x2), some (.inr (.inr (8, 0))), some (.inr (.inr (5, x4))), some (.inr (.inr (5, x5))), some (.inl x6)] [] W1.2 else (clV d 13 [.inr (.inr (5, x4)), .inr (.inr (5, x5))] W1.2).bind fun W2 => (clI d 26 [.inr (.inr (10, 0)), .inl x6] W2).bind fun W3 => (clI d 20 [.inr (.inr (5, x4)), .inl W3.1] W3.2).bind fun W4 => (clV d 5 [.inr (.inr (8, 0)), .inr (.inr (1, x1)), .inr (.inr (5, x4))] W4.2).bind fun W5 => (clI d 9 [.inr (.inr (8, 0)), .inl (W5.1 5 x5 2), .inl (W5.1 5 x5 3)] W5).bind fun W6 => if (x2 * 32) + x6 < 0 ∨ 192 ≤ Int32.toNatClampNeg ((x2 * 32) + x6) then none else sem d 24 84 [some (.inr (.inr (10, 0))), some (.inr (.inr (1, x1))), some (.inl x2), some (.inr (.inr (8, 0))), some (.inr (.inr (5, x4))), some (.inr (.inr (5, x5))), some (.inl x6)] [] (mset W6.2.1 16 0 (Int32.toNatClampNeg ((x2 * 32) + x6)) W6.1, W6.2.2) else some (none, V) :=
  (sem_u1 d 24 [11, 84] 40 11 _ _ _).trans rfl
set_option maxRecDepth 100000 in
theorem e_Sharing_findWorths_84 (d : Nat) (x1 : Nat) (x2 : Int32) (x4 : Nat) (x5 : Nat) (x6 : Int32) (V : Mem) : sem d 24 84 [some (.inr (.inr (10, 0))), some (.inr (.inr (1, x1))), some (.inl x2), some (.inr (.inr (8, 0))), some (.inr (.inr (5, x4))), some (.inr (.inr (5, x5))), some (.inl x6)] [] V = sem d 24 11 [some (.inr (.inr (10, 0))), some (.inr (.inr (1, x1))), some (.inl x2), some (.inr (.inr (8, 0))), some (.inr (.inr (5, x4))), some (.inr (.inr (5, x5))), some (.inl (x6 + 1))] [] V :=
  (sem_u1 d 24 [11, 84] 4 84 _ _ _).trans rfl
/-! Sharing_mayKeep -/
set_option maxRecDepth 100000 in
theorem e_Sharing_mayKeep_0 (d : Nat) (x1 : Int32) (x2 : Int32) (V : Mem) : sem d 25 0 [some (.inr (.inr (10, 0))), some (.inl x1), some (.inl x2), none] [] V = sem d 25 2 [some (.inr (.inr (10, 0))), some (.inl x1), some (.inl x2), some (.inl 0)] [] V :=
  (sem_u1 d 25 [2, 33] 4 0 _ _ _).trans rfl
set_option maxRecDepth 100000 in
theorem e_Sharing_mayKeep_2 (d : Nat) (x1 : Int32) (x2 : Int32) (x3 : Int32) (V : Mem) : sem d 25 2 [some (.inr (.inr (10, 0))), some (.inl x1), some (.inl x2), some (.inl x3)] [] V = if x3 < V.1 10 0 2 then if (x2 >>> (x3 &&& 31)) &&& 1 = 0 then sem d 25 33 [some (.inr (.inr (10, 0))), some (.inl x1), some (.inl x2), some (.inl x3)] [] V else if x3 < 0 ∨ 5 ≤ Int32.toNatClampNeg x3 then none else if ((V.1 13 0 (Int32.toNatClampNeg x3)) >>> (x1 &&& 31)) &&& 1 = 0 then some (some (.inl 0), V) else sem d 25 33 [some (.inr (.inr (10, 0))), some (.inl x1), some (.inl x2), some (.inl x3)] [] V else some (some (.inl 1), V) :=
  (sem_u1 d 25 [2, 33] 22 2 _ _ _).trans rfl
set_option maxRecDepth 100000 in
theorem e_Sharing_mayKeep_33 (d : Nat) (x1 : Int32) (x2 : Int32) (x3 : Int32) (V : Mem) : sem d 25 33 [some (.inr (.inr (10, 0))), some (.inl x1), some (.inl x2), some (.inl x3)] [] V = sem d 25 2 [some (.inr (.inr (10, 0))), some (.inl x1), some (.inl x2), some (.inl (x3 + 1))] [] V :=
  (sem_u1 d 25 [2, 33] 4 33 _ _ _).trans rfl
/-! Sharing_pointsBut -/
set_option maxRecDepth 100000 in
theorem e_Sharing_pointsBut_0 (d : Nat) (x1 : Int32) (V : Mem) : sem d 26 0 [some (.inr (.inr (10, 0))), some (.inl x1), none, none] [] V = sem d 26 4 [some (.inr (.inr (10, 0))), some (.inl x1), some (.inl 0), some (.inl 0)] [] V :=
  (sem_u1 d 26 [4, 31] 6 0 _ _ _).trans rfl
set_option maxRecDepth 100000 in
theorem e_Sharing_pointsBut_4 (d : Nat) (x1 : Int32) (x2 : Int32) (x3 : Int32) (V : Mem) : sem d 26 4 [some (.inr (.inr (10, 0))), some (.inl x1), some (.inl x2), some (.inl x3)] [] V = if x3 < V.1 10 0 2 then if (x1 >>> (x3 &&& 31)) &&& 1 = 0 then if x3 < 0 ∨ 5 ≤ Int32.toNatClampNeg x3 then none else sem d 26 31 [some (.inr (.inr (10, 0))), some (.inl x1), some (.inl (x2 ||| (1 <<< ((V.1 11 0 (Int32.toNatClampNeg x3)) &&& 31)))), some (.inl x3)] [] V else sem d 26 31 [some (.inr (.inr (10, 0))), some (.inl x1), some (.inl x2), some (.inl x3)] [] V else some (some (.inl x2), V) :=
  (sem_u1 d 26 [4, 31] 21 4 _ _ _).trans rfl
set_option maxRecDepth 100000 in
theorem e_Sharing_pointsBut_31 (d : Nat) (x1 : Int32) (x2 : Int32) (x3 : Int32) (V : Mem) : sem d 26 31 [some (.inr (.inr (10, 0))), some (.inl x1), some (.inl x2), some (.inl x3)] [] V = sem d 26 4 [some (.inr (.inr (10, 0))), some (.inl x1), some (.inl x2), some (.inl (x3 + 1))] [] V :=
  (sem_u1 d 26 [4, 31] 4 31 _ _ _).trans rfl
/-! Sharing_leastWorth -/
set_option maxRecDepth 100000 in
theorem e_Sharing_leastWorth_0 (d : Nat) (x1 : Int32) (V : Mem) : sem d 27 0 [some (.inr (.inr (10, 0))), some (.inl x1), none, none] [] V = sem d 27 5 [some (.inr (.inr (10, 0))), some (.inl x1), some (.inl 1000000), some (.inl 0)] [] V :=
  (sem_u1 d 27 [5] 6 0 _ _ _).trans rfl
set_option maxRecDepth 100000 in
theorem e_Sharing_leastWorth_5 (d : Nat) (x1 : Int32) (x2 : Int32) (x3 : Int32) (V : Mem) : sem d 27 5 [some (.inr (.inr (10, 0))), some (.inl x1), some (.inl x2), some (.inl x3)] [] V = if x3 < x1 then if V.1 10 0 3 < x2 then if x3 < 0 ∨ 6 ≤ Int32.toNatClampNeg x3 then none else if (x3 * 32) + (V.1 15 0 (Int32.toNatClampNeg x3)) < 0 ∨ 192 ≤ Int32.toNatClampNeg ((x3 * 32) + (V.1 15 0 (Int32.toNatClampNeg x3))) then none else sem d 27 5 [some (.inr (.inr (10, 0))), some (.inl x1), some (.inl (imin x2 (V.1 16 0 (Int32.toNatClampNeg ((x3 * 32) + (V.1 15 0 (Int32.toNatClampNeg x3))))))), some (.inl (x3 + 1))] [] V else some (some (.inl x2), V) else some (some (.inl x2), V) :=
  (sem_u1 d 27 [5] 25 5 _ _ _).trans rfl
/-! Sharing_nextRow -/
set_option maxRecDepth 100000 in
theorem e_Sharing_nextRow_0 (d : Nat) (V : Mem) : sem d 28 0 [some (.inr (.inr (10, 0))), none, none, none] [] V = sem d 28 7 [some (.inr (.inr (10, 0))), some (.inl ((V.1 10 0 2) - 1)), none, none] [] V :=
  (sem_u1 d 28 [7, 41, 61] 7 0 _ _ _).trans rfl
set_option maxRecDepth 100000 in
theorem e_Sharing_nextRow_7 (d : Nat) (x1 : Int32) (V : Mem) : sem d 28 7 [some (.inr (.inr (10, 0))), some (.inl x1), none, none] [] V = if x1 < 0 then some (some (.inl 0), V) else (clV d 29 [.inr (.inr (10, 0)), .inl x1] V).bind fun W1 => if x1 < 0 ∨ 5 ≤ Int32.toNatClampNeg x1 then none else (clI d 30 [.inr (.inr (10, 0)), .inl x1, .inl ((W1.1 14 0 (Int32.toNatClampNeg x1)) + 1)] W1).bind fun W2 => if W2.1 = 6 then sem d 28 41 [some (.inr (.inr (10, 0))), some (.inl x1), some (.inl W2.1), none] [.inl 1] W2.2 else sem d 28 41 [some (.inr (.inr (10, 0))), some (.inl x1), some (.inl W2.1), none] [.inl 0] W2.2 :=
  (sem_u1 d 28 [7, 41, 61] 22 7 _ _ _).trans rfl
set_option maxRecDepth 100000 in
theorem e_Sharing_nextRow_41 (d : Nat) (x1 : Int32) (x2 : Int32) (z0 : Int32) (V : Mem) : sem d 28 41 [some (.inr (.inr (10, 0))), some (.inl x1), some (.inl x2), none] [.inl z0] V = if z0 = 0 then sem d 28 61 [some (.inr (.inr (10, 0))), some (.inl x1), some (.inl x2), some (.inl z0)] [.inl x2, .inl x1, .inr (.inr (14, 0))] V else (clI d 30 [.inr (.inr (10, 0)), .inl x1, .inl 0] V).bind fun W1 => sem d 28 61 [some (.inr (.inr (10, 0))), some (.inl x1), some (.inl x2), some (.inl z0)] [.inl W1.1, .inl x1, .inr (.inr (14, 0))] W1.2 :=
  (sem_u1 d 28 [7, 41, 61] 13 41 _ _ _).trans rfl
set_option maxRecDepth 100000 in
theorem e_Sharing_nextRow_61 (d : Nat) (x1 : Int32) (x2 : Int32) (x3 : Int32) (z0 : Int32) (z1 : Int32) (V : Mem) : sem d 28 61 [some (.inr (.inr (10, 0))), some (.inl x1), some (.inl x2), some (.inl x3)] [.inl z0, .inl z1, .inr (.inr (14, 0))] V = if z1 < 0 ∨ 5 ≤ Int32.toNatClampNeg z1 then none else (clV d 29 [.inr (.inr (10, 0)), .inl x1] (mset V.1 14 0 (Int32.toNatClampNeg z1) z0, V.2)).bind fun W1 => if x3 = 0 then some (some (.inl 1), W1) else sem d 28 7 [some (.inr (.inr (10, 0))), some (.inl (x1 + (-1))), none, none] [] W1 :=
  (sem_u1 d 28 [7, 41, 61] 10 61 _ _ _).trans rfl
/-! Sharing_turnKeep -/
set_option maxRecDepth 100000 in
theorem e_Sharing_turnKeep_0 (d : Nat) (x1 : Int32) (V : Mem) : sem d 29 0 [some (.inr (.inr (10, 0))), some (.inl x1)] [] V = if x1 < 0 ∨ 5 ≤ Int32.toNatClampNeg x1 then none else if V.1 14 0 (Int32.toNatClampNeg x1) < 6 then if x1 < 0 ∨ 5 ≤ Int32.toNatClampNeg x1 then none else if V.1 14 0 (Int32.toNatClampNeg x1) < 0 ∨ 6 ≤ Int32.toNatClampNeg (V.1 14 0 (Int32.toNatClampNeg x1)) then none else if V.1 14 0 (Int32.toNatClampNeg x1) < 0 ∨ 6 ≤ Int32.toNatClampNeg (V.1 14 0 (Int32.toNatClampNeg x1)) then none else some (none, (mset V.1 15 0 (Int32.toNatClampNeg (V.1 14 0 (Int32.toNatClampNeg x1))) ((V.1 15 0 (Int32.toNatClampNeg (V.1 14 0 (Int32.toNatClampNeg x1)))) ^^^ (1 <<< (x1 &&& 31))), V.2)) else some (none, V) :=
  (sem_u1 d 29 [] 21 0 _ _ _).trans rfl
/-! Sharing_nextWanter -/
set_option maxRecDepth 100000 in
theorem e_Sharing_nextWanter_0 (d : Nat) (x1 : Int32) (x2 : Int32) (V : Mem) : sem d 30 0 [some (.inr (.inr (10, 0))), some (.inl x1), some (.inl x2), none] [] V = sem d 30 2 [some (.inr (.inr (10, 0))), some (.inl x1), some (.inl x2), some (.inl x2)] [] V :=
  (sem_u1 d 30 [2] 4 0 _ _ _).trans rfl
set_option maxRecDepth 100000 in
theorem e_Sharing_nextWanter_2 (d : Nat) (x1 : Int32) (x2 : Int32) (x3 : Int32) (V : Mem) : sem d 30 2 [some (.inr (.inr (10, 0))), some (.inl x1), some (.inl x2), some (.inl x3)] [] V = if x3 < 6 then if x1 < 0 ∨ 5 ≤ Int32.toNatClampNeg x1 then none else if ((V.1 13 0 (Int32.toNatClampNeg x1)) >>> (x3 &&& 31)) &&& 1 = 0 then sem d 30 2 [some (.inr (.inr (10, 0))), some (.inl x1), some (.inl x2), some (.inl (x3 + 1))] [] V else some (some (.inl x3), V) else some (some (.inl x3), V) :=
  (sem_u1 d 30 [2] 16 2 _ _ _).trans rfl
/-! Shelf_takeRow -/
set_option maxRecDepth 100000 in
theorem e_Shelf_takeRow_0 (d : Nat) (x0 : Nat) (x1 : Int32) (x2 : Int32) (V : Mem) : sem d 31 0 [some (.inr (.inr (23, x0))), some (.inl x1), some (.inl x2)] [] V = (clV d 225 [.inr (.inr (24, x0)), .inr (.inl 0)] V).bind fun W1 => some (none, (mset (mset W1.1 23 x0 1 x1) 23 x0 2 x2, W1.2)) :=
  (sem_u1 d 31 [] 12 0 _ _ _).trans rfl
/-! Shelf_holdsParish -/
set_option maxRecDepth 100000 in
theorem e_Shelf_holdsParish_0 (d : Nat) (x0 : Nat) (V : Mem) : sem d 32 0 [some (.inr (.inr (23, x0)))] [] V = if V.1 23 x0 1 < 10 then some (some (.inl 0), V) else some (some (.inl 1), V) :=
  (sem_u1 d 32 [] 8 0 _ _ _).trans rfl
/-! Shelf_refusalAsRow -/
set_option maxRecDepth 100000 in
theorem e_Shelf_refusalAsRow_0 (d : Nat) (x0 : Nat) (V : Mem) : sem d 33 0 [some (.inr (.inr (23, x0)))] [] V = (clI d 32 [.inr (.inr (23, x0))] V).bind fun W1 => if W1.1 = 0 then if W1.2.1 23 x0 1 = (-1) then some (some (.inl (-4)), W1.2) else some (some (.inl 0), W1.2) else some (some (.inl (-3)), W1.2) :=
  (sem_u1 d 33 [] 11 0 _ _ _).trans rfl
/-! Shelf_hasElement -/
set_option maxRecDepth 100000 in
theorem e_Shelf_hasElement_0 (d : Nat) (x0 : Nat) (x1 : Int32) (V : Mem) : sem d 34 0 [some (.inr (.inr (23, x0))), some (.inl x1)] [] V = (clI d 33 [.inr (.inr (23, x0))] V).bind fun W1 => if W1.1 = 0 then if x1 < 0 then some (some (.inl 0), W1.2) else if x1 < W1.2.1 23 x0 2 then some (some (.inl 1), W1.2) else some (some (.inl 0), W1.2) else some (some (.inl 0), W1.2) :=
  (sem_u1 d 34 [] 13 0 _ _ _).trans rfl
/-! Shelf_hasSpan -/
set_option maxRecDepth 100000 in
theorem e_Shelf_hasSpan_0 (d : Nat) (x0 : Nat) (x1 : Int32) (x2 : Int32) (V : Mem) : sem d 35 0 [some (.inr (.inr (23, x0))), some (.inl x1), some (.inl x2)] [] V = if x1 < 0 then some (some (.inl 0), V) else if x2 < 0 then some (some (.inl 0), V) else if (V.1 23 x0 2) - x2 < x1 then some (some (.inl 0), V) else some (some (.inl 1), V) :=
  (sem_u1 d 35 [] 14 0 _ _ _).trans rfl
/-! Shelf_put -/
set_option maxRecDepth 100000 in
theorem e_Shelf_put_0 (d : Nat) (x0 : Nat) (x1 : Int32) (x2 : Int64) (V : Mem) : sem d 36 0 [some (.inr (.inr (23, x0))), some (.inl x1), some (.inr (.inl x2)), none] [] V = if V.1 23 x0 1 = 0 then if x1 < 0 ∨ 40 ≤ Int32.toNatClampNeg x1 then none else some (none, (V.1, mset V.2 24 x0 (Int32.toNatClampNeg x1) (Int32.toInt64 ((Int32.toInt8 (Int64.toInt32 x2)).toInt32)))) else if V.1 23 x0 1 = 1 then if x1 < 0 ∨ 40 ≤ Int32.toNatClampNeg x1 then none else some (none, (V.1, mset V.2 24 x0 (Int32.toNatClampNeg x1) (Int32.toInt64 ((Int32.toInt16 (Int64.toInt32 x2)).toInt32)))) else if V.1 23 x0 1 = 2 then if x1 < 0 ∨ 40 ≤ Int32.toNatClampNeg x1 then none else some (none, (V.1, mset V.2 24 x0 (Int32.toNatClampNeg x1) (Int32.toInt64 (Int64.toInt32 x2)))) else if V.1 23 x0 1 = 3 then if x1 < 0 ∨ 40 ≤ Int32.toNatClampNeg x1 then none else some (none, (V.1, mset V.2 24 x0 (Int32.toNatClampNeg x1) x2)) else if lg_cmp x2 0 = 0 then if x1 < 0 ∨ 40 ≤ Int32.toNatClampNeg x1 then none else some (none, (V.1, mset V.2 24 x0 (Int32.toNatClampNeg x1) 0)) else if x1 < 0 ∨ 40 ≤ Int32.toNatClampNeg x1 then none else some (none, (V.1, mset V.2 24 x0 (Int32.toNatClampNeg x1) 1)) :=
  (sem_u1 d 36 [] 15 0 _ _ _).trans rfl
/-! Shift_between -/
set_option maxRecDepth 100000 in
theorem e_Shift_between_0 (d : Nat) (x0 : Nat) (x1 : Nat) (x2 : Nat) (V : Mem) : sem d 37 0 [some (.inr (.inr (1, x0))), some (.inr (.inr (5, x1))), some (.inr (.inr (5, x2))), none, none, none] [] V = if V.1 5 x1 5 = 0 then some (some (.inl (-1)), V) else if V.1 5 x2 5 = 0 then some (some (.inl (-1)), V) else (clI d 38 [.inr (.inr (1, x0)), .inr (.inr (5, x2))] V).bind fun W1 => (clI d 38 [.inr (.inr (1, x0)), .inr (.inr (5, x1))] W1.2).bind fun W2 => (clI d 39 [.inr (.inr (1, x0)), .inr (.inr (5, x2))] W2.2).bind fun W3 => (clI d 39 [.inr (.inr (1, x0)), .inr (.inr (5, x1))] W3.2).bind fun W4 => (clI d 40 [.inr (.inr (1, x0)), .inr (.inr (5, x1)), .inr (.inr (5, x2)), .inl (W1.1 - W2.1), .inl (W3.1 - W4.1)] W4.2).bind fun W5 => if W5.1 = 0 then sem d 37 71 [some (.inr (.inr (1, x0))), some (.inr (.inr (5, x1))), some (.inr (.inr (5, x2))), some (.inl (W1.1 - W2.1)), some (.inl (W3.1 - W4.1)), none] [] W5.2 else (clI d 40 [.inr (.inr (1, x0)), .inr (.inr (5, x2)), .inr (.inr (5, x1)), .inl (-(W1.1 - W2.1)), .inl (-(W3.1 - W4.1))] W5.2).bind fun W6 => if W6.1 = 0 then sem d 37 71 [some (.inr (.inr (1, x0))), some (.inr (.inr (5, x1))), some (.inr (.inr (5, x2))), some (.inl (W1.1 - W2.1)), some (.inl (W3.1 - W4.1)), none] [] W6.2 else sem d 37 72 [some (.inr (.inr (1, x0))), some (.inr (.inr (5, x1))), some (.inr (.inr (5, x2))), some (.inl (W1.1 - W2.1)), some (.inl (W3.1 - W4.1)), none] [.inl 1] W6.2 :=
  (sem_u1 d 37 [71, 72] 42 0 _ _ _).trans rfl
set_option maxRecDepth 100000 in
theorem e_Shift_between_72 (d : Nat) (x0 : Nat) (x1 : Nat) (x2 : Nat) (x3 : Int32) (x4 : Int32) (z0 : Int32) (V : Mem) : sem d 37 72 [some (.inr (.inr (1, x0))), some (.inr (.inr (5, x1))), some (.inr (.inr (5, x2))), some (.inl x3), some (.inl x4), none] [.inl z0] V = if z0 = 0 then some (some (.inl (-1)), V) else some (some (.inl (((100 * (x3 + 50)) + x4) + 50)), V) :=
  (sem_u1 d 37 [71, 72] 15 72 _ _ _).trans rfl
set_option maxRecDepth 100000 in
theorem e_Shift_between_71 (d : Nat) (x0 : Nat) (x1 : Nat) (x2 : Nat) (x3 : Int32) (x4 : Int32) (V : Mem) : sem d 37 71 [some (.inr (.inr (1, x0))), some (.inr (.inr (5, x1))), some (.inr (.inr (5, x2))), some (.inl x3), some (.inl x4), none] [] V = sem d 37 72 [some (.inr (.inr (1, x0))), some (.inr (.inr (5, x1))), some (.inr (.inr (5, x2))), some (.inl x3), some (.inl x4), none] [.inl 0] V :=
  (sem_u1 d 37 [71, 72] 3 71 _ _ _).trans rfl
/-! Shift_leastRow -/
set_option maxRecDepth 100000 in
theorem e_Shift_leastRow_0 (d : Nat) (x0 : Nat) (x1 : Nat) (V : Mem) : sem d 38 0 [some (.inr (.inr (1, x0))), some (.inr (.inr (5, x1))), none, none] [] V = sem d 38 5 [some (.inr (.inr (1, x0))), some (.inr (.inr (5, x1))), some (.inl 10), some (.inl 0)] [] V :=
  (sem_u1 d 38 [5] 6 0 _ _ _).trans rfl
set_option maxRecDepth 100000 in
theorem e_Shift_leastRow_5 (d : Nat) (x0 : Nat) (x1 : Nat) (x2 : Int32) (x3 : Int32) (V : Mem) : sem d 38 5 [some (.inr (.inr (1, x0))), some (.inr (.inr (5, x1))), some (.inl x2), some (.inl x3)] [] V = if x3 < V.1 5 x1 5 then if x3 < 0 ∨ 10 ≤ Int32.toNatClampNeg x3 then none else (clI d 47 [.inr (.inr (1, x0)), .inl (V.1 6 x1 (Int32.toNatClampNeg x3))] V).bind fun W1 => if x3 < 0 ∨ 10 ≤ Int32.toNatClampNeg x3 then none else (clI d 47 [.inr (.inr (1, x0)), .inl (W1.2.1 7 x1 (Int32.toNatClampNeg x3))] W1.2).bind fun W2 => sem d 38 5 [some (.inr (.inr (1, x0))), some (.inr (.inr (5, x1))), some (.inl (imin (imin x2 W1.1) W2.1)), some (.inl (x3 + 1))] [] W2.2 else some (some (.inl x2), V) :=
  (sem_u1 d 38 [5] 26 5 _ _ _).trans rfl
/-! Shift_leastColumn -/
set_option maxRecDepth 100000 in
theorem e_Shift_leastColumn_0 (d : Nat) (x0 : Nat) (x1 : Nat) (V : Mem) : sem d 39 0 [some (.inr (.inr (1, x0))), some (.inr (.inr (5, x1))), none, none] [] V = sem d 39 5 [some (.inr (.inr (1, x0))), some (.inr (.inr (5, x1))), some (.inl 10), some (.inl 0)] [] V :=
  (sem_u1 d 39 [5] 6 0 _ _ _).trans rfl
set_option maxRecDepth 100000 in
theorem e_Shift_leastColumn_5 (d : Nat) (x0 : Nat) (x1 : Nat) (x2 : Int32) (x3 : Int32) (V : Mem) : sem d 39 5 [some (.inr (.inr (1, x0))), some (.inr (.inr (5, x1))), some (.inl x2), some (.inl x3)] [] V = if x3 < V.1 5 x1 5 then if x3 < 0 ∨ 10 ≤ Int32.toNatClampNeg x3 then none else (clI d 48 [.inr (.inr (1, x0)), .inl (V.1 6 x1 (Int32.toNatClampNeg x3))] V).bind fun W1 => if x3 < 0 ∨ 10 ≤ Int32.toNatClampNeg x3 then none else (clI d 48 [.inr (.inr (1, x0)), .inl (W1.2.1 7 x1 (Int32.toNatClampNeg x3))] W1.2).bind fun W2 => sem d 39 5 [some (.inr (.inr (1, x0))), some (.inr (.inr (5, x1))), some (.inl (imin (imin x2 W1.1) W2.1)), some (.inl (x3 + 1))] [] W2.2 else some (some (.inl x2), V) :=
  (sem_u1 d 39 [5] 26 5 _ _ _).trans rfl
/-! Shift_isWithin -/
set_option maxRecDepth 100000 in
theorem e_Shift_isWithin_0 (d : Nat) (x0 : Nat) (x1 : Nat) (x2 : Nat) (x3 : Int32) (x4 : Int32) (V : Mem) : sem d 40 0 [some (.inr (.inr (1, x0))), some (.inr (.inr (5, x1))), some (.inr (.inr (5, x2))), some (.inl x3), some (.inl x4), none, none, none, none, none, none, none] [] V = sem d 40 3 [some (.inr (.inr (1, x0))), some (.inr (.inr (5, x1))), some (.inr (.inr (5, x2))), some (.inl x3), some (.inl x4), some (.inl 0), none, none, none, none, none, none] [] V :=
  (sem_u1 d 40 [3, 36, 96, 124, 128, 129, 137] 4 0 _ _ _).trans rfl
set_option maxRecDepth 100000 in
theorem e_Shift_isWithin_3 (d : Nat) (x0 : Nat) (x1 : Nat) (x2 : Nat) (x3 : Int32) (x4 : Int32) (x5 : Int32) (V : Mem) : sem d 40 3 [some (.inr (.inr (1, x0))), some (.inr (.inr (5, x1))), some (.inr (.inr (5, x2))), some (.inl x3), some (.inl x4), some (.inl x5), none, none, none, none, none, none] [] V = if x5 < V.1 5 x1 5 then if x5 < 0 ∨ 10 ≤ Int32.toNatClampNeg x5 then none else if x5 < 0 ∨ 10 ≤ Int32.toNatClampNeg x5 then none else sem d 40 36 [some (.inr (.inr (1, x0))), some (.inr (.inr (5, x1))), some (.inr (.inr (5, x2))), some (.inl x3), some (.inl x4), some (.inl x5), some (.inl (V.1 6 x1 (Int32.toNatClampNeg x5))), some (.inl (V.1 7 x1 (Int32.toNatClampNeg x5))), some (.inl 0), some (.inl 0), none, none] [] V else some (some (.inl 1), V) :=
  (sem_u1 d 40 [3, 36, 96, 124, 128, 129, 137] 20 3 _ _ _).trans rfl
set_option maxRecDepth 100000 in
theorem e_Shift_isWithin_36 (d : Nat) (x0 : Nat) (x1 : Nat) (x2 : Nat) (x3 : Int32) (x4 : Int32) (x5 : Int32) (x6 : Int32) (x7 : Int32) (x8 : Int32) (x9 : Int32) (V : Mem) : sem d 40 36 [some (.inr (.inr (1, x0))), some (.inr (.inr (5, x1))), some (.inr (.inr (5, x2))), some (.inl x3), some (.inl x4), some (.inl x5), some (.inl x6), some (.inl x7), some (.inl x8), some (.inl x9), none, none] [] V = if x9 < V.1 5 x2 5 then if x8 = 0 then if x9 < 0 ∨ 10 ≤ Int32.toNatClampNeg x9 then none else if x9 < 0 ∨ 10 ≤ Int32.toNatClampNeg x9 then none else (clI d 41 [.inr (.inr (1, x0)), .inl x6, .inl (V.1 6 x2 (Int32.toNatClampNeg x9)), .inl x3, .inl x4] V).bind fun W1 => if W1.1 = 0 then sem d 40 96 [some (.inr (.inr (1, x0))), some (.inr (.inr (5, x1))), some (.inr (.inr (5, x2))), some (.inl x3), some (.inl x4), some (.inl x5), some (.inl x6), some (.inl x7), some (.inl x8), some (.inl x9), some (.inl (V.1 6 x2 (Int32.toNatClampNeg x9))), some (.inl (V.1 7 x2 (Int32.toNatClampNeg x9)))] [] W1.2 else (clI d 41 [.inr (.inr (1, x0)), .inl x7, .inl (V.1 7 x2 (Int32.toNatClampNeg x9)), .inl x3, .inl x4] W1.2).bind fun W2 => if W2.1 = 0 then sem d 40 96 [some (.inr (.inr (1, x0))), some (.inr (.inr (5, x1))), some (.inr (.inr (5, x2))), some (.inl x3), some (.inl x4), some (.inl x5), some (.inl x6), some (.inl x7), some (.inl x8), some (.inl x9), some (.inl (V.1 6 x2 (Int32.toNatClampNeg x9))), some (.inl (V.1 7 x2 (Int32.toNatClampNeg x9)))] [] W2.2 else sem d 40 124 [some (.inr (.inr (1, x0))), some (.inr (.inr (5, x1))), some (.inr (.inr (5, x2))), some (.inl x3), some (.inl x4), some (.inl x5), some (.inl x6), some (.inl x7), some (.inl x8), some (.inl x9), some (.inl (V.1 6 x2 (Int32.toNatClampNeg x9))), some (.inl (V.1 7 x2 (Int32.toNatClampNeg x9)))] [] W2.2 else sem d 40 137 [some (.inr (.inr (1, x0))), some (.inr (.inr (5, x1))), some (.inr (.inr (5, x2))), some (.inl x3), some (.inl x4), some (.inl x5), some (.inl x6), some (.inl x7), some (.inl x8), some (.inl x9), none, none] [] V else sem d 40 137 [some (.inr (.inr (1, x0))), some (.inr (.inr (5, x1))), some (.inr (.inr (5, x2))), some (.inl x3), some (.inl x4), some (.inl x5), some (.inl x6), some (.inl x7), some (.inl x8), some (.inl x9), none, none] [] V :=
  (sem_u1 d 40 [3, 36, 96, 124, 128, 129, 137] 32 36 _ _ _).trans rfl
set_option maxRecDepth 100000 in
theorem e_Shift_isWithin_96 (d : Nat) (x0 : Nat) (x1 : Nat) (x2 : Nat) (x3 : Int32) (x4 : Int32) (x5 : Int32) (x6 : Int32) (x7 : Int32) (x8 : Int32) (x9 : Int32) (x10 : Int32) (x11 : Int32) (V : Mem) : sem d 40 96 [some (.inr (.inr (1, x0))), some (.inr (.inr (5, x1))), some (.inr (.inr (5, x2))), some (.inl x3), some (.inl x4), some (.inl x5), some (.inl x6), some (.inl x7), some (.inl x8), some (.inl x9), some (.inl x10), some (.inl x11)] [] V = (clI d 41 [.inr (.inr (1, x0)), .inl x6, .inl x11, .inl x3, .inl x4] V).bind fun W1 => if W1.1 = 0 then sem d 40 128 [some (.inr (.inr (1, x0))), some (.inr (.inr (5, x1))), some (.inr (.inr (5, x2))), some (.inl x3), some (.inl x4), some (.inl x5), some (.inl x6), some (.inl x7), some (.inl x8), some (.inl x9), some (.inl x10), some (.inl x11)] [] W1.2 else (clI d 41 [.inr (.inr (1, x0)), .inl x7, .inl x10, .inl x3, .inl x4] W1.2).bind fun W2 => if W2.1 = 0 then sem d 40 128 [some (.inr (.inr (1, x0))), some (.inr (.inr (5, x1))), some (.inr (.inr (5, x2))), some (.inl x3), some (.inl x4), some (.inl x5), some (.inl x6), some (.inl x7), some (.inl x8), some (.inl x9), some (.inl x10), some (.inl x11)] [] W2.2 else sem d 40 124 [some (.inr (.inr (1, x0))), some (.inr (.inr (5, x1))), some (.inr (.inr (5, x2))), some (.inl x3), some (.inl x4), some (.inl x5), some (.inl x6), some (.inl x7), some (.inl x8), some (.inl x9), some (.inl x10), some (.inl x11)] [] W2.2 :=
  (sem_u1 d 40 [3, 36, 96, 124, 128, 129, 137] 16 96 _ _ _).trans rfl
set_option maxRecDepth 100000 in
theorem e_Shift_isWithin_124 (d : Nat) (x0 : Nat) (x1 : Nat) (x2 : Nat) (x3 : Int32) (x4 : Int32) (x5 : Int32) (x6 : Int32) (x7 : Int32) (x8 : Int32) (x9 : Int32) (x10 : Int32) (x11 : Int32) (V : Mem) : sem d 40 124 [some (.inr (.inr (1, x0))), some (.inr (.inr (5, x1))), some (.inr (.inr (5, x2))), some (.inl x3), some (.inl x4), some (.inl x5), some (.inl x6), some (.inl x7), some (.inl x8), some (.inl x9), some (.inl x10), some (.inl x11)] [] V = sem d 40 129 [some (.inr (.inr (1, x0))), some (.inr (.inr (5, x1))), some (.inr (.inr (5, x2))), some (.inl x3), some (.inl x4), some (.inl x5), some (.inl x6), some (.inl x7), some (.inl x8), some (.inl x9), some (.inl x10), some (.inl x11)] [.inl 1] V :=
  (sem_u1 d 40 [3, 36, 96, 124, 128, 129, 137] 4 124 _ _ _).trans rfl
set_option maxRecDepth 100000 in
theorem e_Shift_isWithin_137 (d : Nat) (x0 : Nat) (x1 : Nat) (x2 : Nat) (x3 : Int32) (x4 : Int32) (x5 : Int32) (x6 : Int32) (x7 : Int32) (x8 : Int32) (x9 : Int32) (V : Mem) : sem d 40 137 [some (.inr (.inr (1, x0))), some (.inr (.inr (5, x1))), some (.inr (.inr (5, x2))), some (.inl x3), some (.inl x4), some (.inl x5), some (.inl x6), some (.inl x7), some (.inl x8), some (.inl x9), none, none] [] V = if x8 = 0 then some (some (.inl 0), V) else sem d 40 3 [some (.inr (.inr (1, x0))), some (.inr (.inr (5, x1))), some (.inr (.inr (5, x2))), some (.inl x3), some (.inl x4), some (.inl (x5 + 1)), none, none, none, none, none, none] [] V :=
  (sem_u1 d 40 [3, 36, 96, 124, 128, 129, 137] 6 137 _ _ _).trans rfl
set_option maxRecDepth 100000 in
theorem e_Shift_isWithin_128 (d : Nat) (x0 : Nat) (x1 : Nat) (x2 : Nat) (x3 : Int32) (x4 : Int32) (x5 : Int32) (x6 : Int32) (x7 : Int32) (x8 : Int32) (x9 : Int32) (x10 : Int32) (x11 : Int32) (V : Mem) : sem d 40 128 [some (.inr (.inr (1, x0))), some (.inr (.inr (5, x1))), some (.inr (.inr (5, x2))), some (.inl x3), some (.inl x4), some (.inl x5), some (.inl x6), some (.inl x7), some (.inl x8), some (.inl x9), some (.inl x10), some (.inl x11)] [] V = sem d 40 129 [some (.inr (.inr (1, x0))), some (.inr (.inr (5, x1))), some (.inr (.inr (5, x2))), some (.inl x3), some (.inl x4), some (.inl x5), some (.inl x6), some (.inl x7), some (.inl x8), some (.inl x9), some (.inl x10), some (.inl x11)] [.inl 0] V :=
  (sem_u1 d 40 [3, 36, 96, 124, 128, 129, 137] 3 128 _ _ _).trans rfl
set_option maxRecDepth 100000 in
theorem e_Shift_isWithin_129 (d : Nat) (x0 : Nat) (x1 : Nat) (x2 : Nat) (x3 : Int32) (x4 : Int32) (x5 : Int32) (x6 : Int32) (x7 : Int32) (x8 : Int32) (x9 : Int32) (x10 : Int32) (x11 : Int32) (z0 : Int32) (V : Mem) : sem d 40 129 [some (.inr (.inr (1, x0))), some (.inr (.inr (5, x1))), some (.inr (.inr (5, x2))), some (.inl x3), some (.inl x4), some (.inl x5), some (.inl x6), some (.inl x7), some (.inl x8), some (.inl x9), some (.inl x10), some (.inl x11)] [.inl z0] V = sem d 40 36 [some (.inr (.inr (1, x0))), some (.inr (.inr (5, x1))), some (.inr (.inr (5, x2))), some (.inl x3), some (.inl x4), some (.inl x5), some (.inl x6), some (.inl x7), some (.inl z0), some (.inl (x9 + 1)), none, none] [] V :=
  (sem_u1 d 40 [3, 36, 96, 124, 128, 129, 137] 5 129 _ _ _).trans rfl
/-! Shift_falls -/
set_option maxRecDepth 100000 in
theorem e_Shift_falls_0 (d : Nat) (x0 : Nat) (x1 : Int32) (x2 : Int32) (x3 : Int32) (x4 : Int32) (V : Mem) : sem d 41 0 [some (.inr (.inr (1, x0))), some (.inl x1), some (.inl x2), some (.inl x3), some (.inl x4)] [] V = (clI d 47 [.inr (.inr (1, x0)), .inl x1] V).bind fun W1 => (clI d 47 [.inr (.inr (1, x0)), .inl x2] W1.2).bind fun W2 => if W1.1 + x3 = W2.1 then (clI d 48 [.inr (.inr (1, x0)), .inl x1] W2.2).bind fun W3 => (clI d 48 [.inr (.inr (1, x0)), .inl x2] W3.2).bind fun W4 => if W3.1 + x4 = W4.1 then some (some (.inl 1), W4.2) else some (some (.inl 0), W4.2) else some (some (.inl 0), W2.2) :=
  (sem_u1 d 41 [] 22 0 _ _ _).trans rfl
/-! Sky_become -/
set_option maxRecDepth 100000 in
theorem e_Sky_become_0 (d : Nat) (x0 : Nat) (x1 : Nat) (V : Mem) : sem d 42 0 [some (.inr (.inr (1, x0))), some (.inr (.inr (1, x1))), none] [] V = sem d 42 64 [some (.inr (.inr (1, x0))), some (.inr (.inr (1, x1))), some (.inl 0)] [] (mcpy (mcpy (mset (mset (mset (mset V.1 1 x0 3 (V.1 1 x1 3)) 1 x0 4 ((mset V.1 1 x0 3 (V.1 1 x1 3)) 1 x1 4)) 1 x0 5 ((mset (mset V.1 1 x0 3 (V.1 1 x1 3)) 1 x0 4 ((mset V.1 1 x0 3 (V.1 1 x1 3)) 1 x1 4)) 1 x1 5)) 1 x0 6 ((mset (mset (mset V.1 1 x0 3 (V.1 1 x1 3)) 1 x0 4 ((mset V.1 1 x0 3 (V.1 1 x1 3)) 1 x1 4)) 1 x0 5 ((mset (mset V.1 1 x0 3 (V.1 1 x1 3)) 1 x0 4 ((mset V.1 1 x0 3 (V.1 1 x1 3)) 1 x1 4)) 1 x1 5)) 1 x1 6)) 2 x1 (0) 2 x0 (0) (12)) 3 x1 (0) 3 x0 (0) (12), V.2) :=
  (sem_u1 d 42 [64] 36 0 _ _ _).trans rfl
set_option maxRecDepth 100000 in
theorem e_Sky_become_64 (d : Nat) (x0 : Nat) (x1 : Nat) (x2 : Int32) (V : Mem) : sem d 42 64 [some (.inr (.inr (1, x0))), some (.inr (.inr (1, x1))), some (.inl x2)] [] V = if x2 < V.1 1 x0 4 then if x2 < 0 ∨ 6 ≤ Int32.toNatClampNeg x2 then none else if x2 < 0 ∨ 6 ≤ Int32.toNatClampNeg x2 then none else (clV d 13 [.inr (.inr (5, Int32.toNatClampNeg x2 + 6 * x0)), .inr (.inr (5, Int32.toNatClampNeg x2 + 6 * x1))] V).bind fun W1 => sem d 42 64 [some (.inr (.inr (1, x0))), some (.inr (.inr (1, x1))), some (.inl (x2 + 1))] [] W1 else some (none, V) :=
  (sem_u1 d 42 [64] 17 64 _ _ _).trans rfl
/-! Sky_hasRoomForPoint -/
set_option maxRecDepth 100000 in
theorem e_Sky_hasRoomForPoint_0 (d : Nat) (x0 : Nat) (V : Mem) : sem d 43 0 [some (.inr (.inr (1, x0)))] [] V = if V.1 1 x0 3 < 12 then some (some (.inl 1), V) else some (some (.inl 0), V) :=
  (sem_u1 d 43 [] 8 0 _ _ _).trans rfl
/-! Sky_addPoint -/
set_option maxRecDepth 100000 in
theorem e_Sky_addPoint_0 (d : Nat) (x0 : Nat) (x1 : Int32) (x2 : Int32) (V : Mem) : sem d 44 0 [some (.inr (.inr (1, x0))), some (.inl x1), some (.inl x2)] [] V = (clI d 43 [.inr (.inr (1, x0))] V).bind fun W1 => if W1.1 = 0 then some (none, W1.2) else if W1.2.1 1 x0 3 < 0 ∨ 12 ≤ Int32.toNatClampNeg (W1.2.1 1 x0 3) then none else if (mset W1.2.1 2 x0 (Int32.toNatClampNeg (W1.2.1 1 x0 3)) x1) 1 x0 3 < 0 ∨ 12 ≤ Int32.toNatClampNeg ((mset W1.2.1 2 x0 (Int32.toNatClampNeg (W1.2.1 1 x0 3)) x1) 1 x0 3) then none else some (none, (mset (mset (mset W1.2.1 2 x0 (Int32.toNatClampNeg (W1.2.1 1 x0 3)) x1) 3 x0 (Int32.toNatClampNeg ((mset W1.2.1 2 x0 (Int32.toNatClampNeg (W1.2.1 1 x0 3)) x1) 1 x0 3)) x2) 1 x0 3 (((mset (mset W1.2.1 2 x0 (Int32.toNatClampNeg (W1.2.1 1 x0 3)) x1) 3 x0 (Int32.toNatClampNeg ((mset W1.2.1 2 x0 (Int32.toNatClampNeg (W1.2.1 1 x0 3)) x1) 1 x0 3)) x2) 1 x0 3) + 1), W1.2.2)) :=
  (sem_u1 d 44 [] 23 0 _ _ _).trans rfl
/-! Sky_hasRoomForParish -/
set_option maxRecDepth 100000 in
theorem e_Sky_hasRoomForParish_0 (d : Nat) (x0 : Nat) (V : Mem) : sem d 45 0 [some (.inr (.inr (1, x0)))] [] V = if V.1 1 x0 4 < 6 then some (some (.inl 1), V) else some (some (.inl 0), V) :=
  (sem_u1 d 45 [] 8 0 _ _ _).trans rfl
