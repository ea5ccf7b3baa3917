/-! C_pointOf -/
set_option maxRecDepth 100000 in
theorem e_C_pointOf_0 (d : Nat) (x1 : Int32) (x2 : Int32) (V : Mem) : sem d 90 0 [some (.inr (.inr (0, 0))), some (.inl x1), some (.inl x2)] [] V = (clI d 111 [.inr (.inr (0, 0)), .inl x1] V).bind fun W1 => if W1.1 = 0 then (clI d 109 [.inr (.inr (0, 0)), .inl (-2)] W1.2).bind fun W2 => some (some (.inl W2.1), W2.2) else if x2 = 0 then if x1 < 0 ∨ 12 ≤ Int32.toNatClampNeg x1 then none else some (some (.inl (W1.2.1 2 0 (Int32.toNatClampNeg x1))), W1.2) else if x2 = 1 then if x1 < 0 ∨ 12 ≤ Int32.toNatClampNeg x1 then none else some (some (.inl (W1.2.1 3 0 (Int32.toNatClampNeg x1))), W1.2) else if x2 = 2 then (clI d 51 [.inr (.inr (1, 0)), .inl x1] W1.2).bind fun W5 => some (some (.inl W5.1), W5.2) else if x2 = 3 then (clI d 54 [.inr (.inr (1, 0)), .inl x1] W1.2).bind fun W4 => some (some (.inl W4.1), W4.2) else (clI d 109 [.inr (.inr (0, 0)), .inl (-2)] W1.2).bind fun W3 => some (some (.inl W3.1), W3.2) :=
  (sem_u1 d 90 [] 13 0 _ _ _).trans rfl
/-! C_parishOf -/
set_option maxRecDepth 100000 in
theorem e_C_parishOf_0 (d : Nat) (x1 : Int32) (x2 : Int32) (V : Mem) : sem d 91 0 [some (.inr (.inr (0, 0))), some (.inl x1), some (.inl x2), none] [] V = (clI d 112 [.inr (.inr (0, 0)), .inl x1] V).bind fun W1 => if W1.1 = 0 then (clI d 109 [.inr (.inr (0, 0)), .inl (-2)] W1.2).bind fun W2 => some (some (.inl W2.1), W2.2) else if x1 < 0 ∨ 6 ≤ Int32.toNatClampNeg x1 then none else (clV d 5 [.inr (.inr (8, 0)), .inr (.inr (1, 0)), .inr (.inr (5, Int32.toNatClampNeg x1))] W1.2).bind fun W3 => if x2 = 0 then some (some (.inl (W3.1 5 (Int32.toNatClampNeg x1) 2)), W3) else if x2 = 1 then some (some (.inl (W3.1 5 (Int32.toNatClampNeg x1) 3)), W3) else if x2 = 2 then some (some (.inl (W3.1 5 (Int32.toNatClampNeg x1) 5)), W3) else if x2 = 3 then some (some (.inl (W3.1 8 0 2)), W3) else if x2 = 4 then some (some (.inl (W3.1 8 0 4)), W3) else if x2 = 5 then some (some (.inl (W3.1 8 0 7)), W3) else if x2 = 6 then some (some (.inl (W3.1 8 0 3)), W3) else if x2 = 7 then some (some (.inl (W3.1 8 0 8)), W3) else if x2 = 8 then (clI d 8 [.inr (.inr (8, 0))] W3).bind fun W6 => if W6.1 = 0 then some (some (.inl 0), W6.2) else some (some (.inl 1), W6.2) else if x2 = 9 then (clI d 9 [.inr (.inr (8, 0)), .inl (W3.1 5 (Int32.toNatClampNeg x1) 2), .inl (W3.1 5 (Int32.toNatClampNeg x1) 3)] W3).bind fun W5 => some (some (.inl W5.1), W5.2) else if x2 = 10 then some (some (.inl (W3.1 5 (Int32.toNatClampNeg x1) 4)), W3) else if x2 = 11 then some (some (.inl (W3.1 8 0 5)), W3) else (clI d 109 [.inr (.inr (0, 0)), .inl (-2)] W3).bind fun W4 => some (some (.inl W4.1), W4.2) :=
  (sem_u1 d 91 [] 27 0 _ _ _).trans rfl
/-! C_crowd -/
set_option maxRecDepth 100000 in
theorem e_C_crowd_0 (d : Nat) (V : Mem) : sem d 92 0 [some (.inr (.inr (0, 0))), none, none, none, none] [] V = if V.1 1 0 3 = 0 then (clI d 109 [.inr (.inr (0, 0)), .inl (-5)] V).bind fun W1 => some (some (.inl W1.1), W1.2) else (clI d 54 [.inr (.inr (1, 0)), .inl 0] V).bind fun W2 => sem d 92 30 [some (.inr (.inr (0, 0))), some (.inl 0), some (.inl W2.1), some (.inl 1), none] [] W2.2 :=
  (sem_u1 d 92 [30, 62] 15 0 _ _ _).trans rfl
set_option maxRecDepth 100000 in
theorem e_C_crowd_30 (d : Nat) (x1 : Int32) (x2 : Int32) (x3 : Int32) (V : Mem) : sem d 92 30 [some (.inr (.inr (0, 0))), some (.inl x1), some (.inl x2), some (.inl x3), none] [] V = if x3 < V.1 1 0 3 then (clI d 54 [.inr (.inr (1, 0)), .inl x3] V).bind fun W1 => if x2 < W1.1 then sem d 92 62 [some (.inr (.inr (0, 0))), some (.inl x3), some (.inl W1.1), some (.inl x3), some (.inl W1.1)] [] W1.2 else sem d 92 62 [some (.inr (.inr (0, 0))), some (.inl x1), some (.inl x2), some (.inl x3), some (.inl W1.1)] [] W1.2 else some (some (.inl x1), V) :=
  (sem_u1 d 92 [30, 62] 19 30 _ _ _).trans rfl
set_option maxRecDepth 100000 in
theorem e_C_crowd_62 (d : Nat) (x1 : Int32) (x2 : Int32) (x3 : Int32) (x4 : Int32) (V : Mem) : sem d 92 62 [some (.inr (.inr (0, 0))), some (.inl x1), some (.inl x2), some (.inl x3), some (.inl x4)] [] V = sem d 92 30 [some (.inr (.inr (0, 0))), some (.inl x1), some (.inl x2), some (.inl (x3 + 1)), none] [] V :=
  (sem_u1 d 92 [30, 62] 4 62 _ _ _).trans rfl
/-! C_lineOf -/
set_option maxRecDepth 100000 in
theorem e_C_lineOf_0 (d : Nat) (x1 : Int32) (x2 : Int32) (V : Mem) : sem d 93 0 [some (.inr (.inr (0, 0))), some (.inl x1), some (.inl x2), none] [] V = (clI d 112 [.inr (.inr (0, 0)), .inl x1] V).bind fun W1 => if W1.1 = 0 then (clI d 109 [.inr (.inr (0, 0)), .inl (-2)] W1.2).bind fun W2 => some (some (.inl W2.1), W2.2) else if x1 < 0 ∨ 6 ≤ Int32.toNatClampNeg x1 then none else if x2 < 0 then sem d 93 37 [some (.inr (.inr (0, 0))), some (.inl x1), some (.inl x2), some (.inr (.inr (5, Int32.toNatClampNeg x1)))] [] W1.2 else if x2 < W1.2.1 5 (Int32.toNatClampNeg x1) 5 then if x2 < 0 ∨ 10 ≤ Int32.toNatClampNeg x2 then none else if x2 < 0 ∨ 10 ≤ Int32.toNatClampNeg x2 then none else some (some (.inl ((100 * (W1.2.1 6 (Int32.toNatClampNeg x1) (Int32.toNatClampNeg x2))) + (W1.2.1 7 (Int32.toNatClampNeg x1) (Int32.toNatClampNeg x2)))), W1.2) else sem d 93 37 [some (.inr (.inr (0, 0))), some (.inl x1), some (.inl x2), some (.inr (.inr (5, Int32.toNatClampNeg x1)))] [] W1.2 :=
  (sem_u1 d 93 [37] 29 0 _ _ _).trans rfl
set_option maxRecDepth 100000 in
theorem e_C_lineOf_37 (d : Nat) (x1 : Int32) (x2 : Int32) (x3 : Nat) (V : Mem) : sem d 93 37 [some (.inr (.inr (0, 0))), some (.inl x1), some (.inl x2), some (.inr (.inr (5, x3)))] [] V = (clI d 109 [.inr (.inr (0, 0)), .inl (-2)] V).bind fun W1 => some (some (.inl W1.1), W1.2) :=
  (sem_u1 d 93 [37] 5 37 _ _ _).trans rfl
/-! C_shift -/
set_option maxRecDepth 100000 in
theorem e_C_shift_0 (d : Nat) (x1 : Int32) (x2 : Int32) (V : Mem) : sem d 94 0 [some (.inr (.inr (0, 0))), some (.inl x1), some (.inl x2)] [] V = (clI d 112 [.inr (.inr (0, 0)), .inl x1] V).bind fun W1 => if W1.1 = 0 then sem d 94 21 [some (.inr (.inr (0, 0))), some (.inl x1), some (.inl x2)] [] W1.2 else (clI d 112 [.inr (.inr (0, 0)), .inl x2] W1.2).bind fun W2 => if W2.1 = 0 then sem d 94 21 [some (.inr (.inr (0, 0))), some (.inl x1), some (.inl x2)] [] W2.2 else if x1 = x2 then sem d 94 21 [some (.inr (.inr (0, 0))), some (.inl x1), some (.inl x2)] [] W2.2 else if x1 < 0 ∨ 6 ≤ Int32.toNatClampNeg x1 then none else if x2 < 0 ∨ 6 ≤ Int32.toNatClampNeg x2 then none else (clI d 37 [.inr (.inr (1, 0)), .inr (.inr (5, Int32.toNatClampNeg x1)), .inr (.inr (5, Int32.toNatClampNeg x2))] W2.2).bind fun W3 => some (some (.inl W3.1), W3.2) :=
  (sem_u1 d 94 [21] 26 0 _ _ _).trans rfl
set_option maxRecDepth 100000 in
theorem e_C_shift_21 (d : Nat) (x1 : Int32) (x2 : Int32) (V : Mem) : sem d 94 21 [some (.inr (.inr (0, 0))), some (.inl x1), some (.inl x2)] [] V = (clI d 109 [.inr (.inr (0, 0)), .inl (-2)] V).bind fun W1 => some (some (.inl W1.1), W1.2) :=
  (sem_u1 d 94 [21] 5 21 _ _ _).trans rfl
/-! C_better -/
set_option maxRecDepth 100000 in
theorem e_C_better_0 (d : Nat) (x1 : Int32) (x2 : Int32) (V : Mem) : sem d 95 0 [some (.inr (.inr (0, 0))), some (.inl x1), some (.inl x2)] [] V = (clI d 112 [.inr (.inr (0, 0)), .inl x1] V).bind fun W1 => if W1.1 = 0 then (clI d 109 [.inr (.inr (0, 0)), .inl (-2)] W1.2).bind fun W2 => some (some (.inl W2.1), W2.2) else if x2 = 0 then if x1 < 0 ∨ 6 ≤ Int32.toNatClampNeg x1 then none else (clI d 56 [.inr (.inr (1, 0)), .inl (W1.2.1 5 (Int32.toNatClampNeg x1) 4)] W1.2).bind fun W6 => some (some (.inl W6.1), W6.2) else if x2 = 1 then if x1 < 0 ∨ 6 ≤ Int32.toNatClampNeg x1 then none else (clI d 119 [.inr (.inr (0, 0)), .inr (.inr (5, Int32.toNatClampNeg x1))] W1.2).bind fun W5 => some (some (.inl W5.1), W5.2) else if x2 = 2 then if x1 < 0 ∨ 6 ≤ Int32.toNatClampNeg x1 then none else (clI d 120 [.inr (.inr (0, 0)), .inr (.inr (5, Int32.toNatClampNeg x1))] W1.2).bind fun W4 => some (some (.inl W4.1), W4.2) else (clI d 109 [.inr (.inr (0, 0)), .inl (-2)] W1.2).bind fun W3 => some (some (.inl W3.1), W3.2) :=
  (sem_u1 d 95 [] 17 0 _ _ _).trans rfl
/-! C_share -/
set_option maxRecDepth 100000 in
theorem e_C_share_0 (d : Nat) (x1 : Int32) (V : Mem) : sem d 96 0 [some (.inr (.inr (0, 0))), some (.inl x1)] [] V = if x1 = (-1) then if V.1 1 0 4 = 0 then (clI d 109 [.inr (.inr (0, 0)), .inl (-5)] V).bind fun W1 => some (some (.inl W1.1), W1.2) else (clV d 22 [.inr (.inr (10, 0)), .inr (.inr (1, 0)), .inr (.inr (8, 0)), .inr (.inr (5, 18))] V).bind fun W2 => some (some (.inl (W2.1 10 0 3)), W2) else if x1 < 0 then sem d 96 69 [some (.inr (.inr (0, 0))), some (.inl x1)] [] V else if x1 < 5 then (clI d 53 [.inr (.inr (1, 0))] V).bind fun W3 => if x1 < W3.1 then (clV d 22 [.inr (.inr (10, 0)), .inr (.inr (1, 0)), .inr (.inr (8, 0)), .inr (.inr (5, 18))] W3.2).bind fun W4 => if x1 < 0 ∨ 5 ≤ Int32.toNatClampNeg x1 then none else some (some (.inl (W4.1 12 0 (Int32.toNatClampNeg x1))), W4) else sem d 96 69 [some (.inr (.inr (0, 0))), some (.inl x1)] [] W3.2 else sem d 96 69 [some (.inr (.inr (0, 0))), some (.inl x1)] [] V :=
  (sem_u1 d 96 [69] 29 0 _ _ _).trans rfl
set_option maxRecDepth 100000 in
theorem e_C_share_69 (d : Nat) (x1 : Int32) (V : Mem) : sem d 96 69 [some (.inr (.inr (0, 0))), some (.inl x1)] [] V = (clI d 109 [.inr (.inr (0, 0)), .inl (-2)] V).bind fun W1 => some (some (.inl W1.1), W1.2) :=
  (sem_u1 d 96 [69] 5 69 _ _ _).trans rfl
/-! C_colours -/
set_option maxRecDepth 100000 in
theorem e_C_colours_0 (d : Nat) (V : Mem) : sem d 97 0 [some (.inr (.inr (0, 0)))] [] V = (clI d 1 [.inr (.inr (17, 0)), .inr (.inr (1, 0))] V).bind fun W1 => some (some (.inl W1.1), W1.2) :=
  (sem_u1 d 97 [] 7 0 _ _ _).trans rfl
/-! C_way -/
set_option maxRecDepth 100000 in
theorem e_C_way_0 (d : Nat) (x1 : Int32) (x2 : Int32) (V : Mem) : sem d 98 0 [some (.inr (.inr (0, 0))), some (.inl x1), some (.inl x2)] [] V = (clI d 112 [.inr (.inr (0, 0)), .inl x1] V).bind fun W1 => if W1.1 = 0 then sem d 98 16 [some (.inr (.inr (0, 0))), some (.inl x1), some (.inl x2)] [] W1.2 else (clI d 112 [.inr (.inr (0, 0)), .inl x2] W1.2).bind fun W2 => if W2.1 = 0 then sem d 98 16 [some (.inr (.inr (0, 0))), some (.inl x1), some (.inl x2)] [] W2.2 else (clI d 3 [.inr (.inr (17, 0)), .inr (.inr (1, 0)), .inl x1, .inl x2] W2.2).bind fun W3 => some (some (.inl W3.1), W3.2) :=
  (sem_u1 d 98 [16] 17 0 _ _ _).trans rfl
set_option maxRecDepth 100000 in
theorem e_C_way_16 (d : Nat) (x1 : Int32) (x2 : Int32) (V : Mem) : sem d 98 16 [some (.inr (.inr (0, 0))), some (.inl x1), some (.inl x2)] [] V = (clI d 109 [.inr (.inr (0, 0)), .inl (-2)] V).bind fun W1 => some (some (.inl W1.1), W1.2) :=
  (sem_u1 d 98 [16] 5 16 _ _ _).trans rfl
/-! C_pick -/
set_option maxRecDepth 100000 in
theorem e_C_pick_0 (d : Nat) (x1 : Int32) (V : Mem) : sem d 99 0 [some (.inr (.inr (0, 0))), some (.inl x1)] [] V = if x1 < 0 then sem d 99 10 [some (.inr (.inr (0, 0))), some (.inl x1)] [] V else if x1 < 6 then (clI d 121 [.inr (.inr (0, 0)), .inl x1] V).bind fun W1 => some (some (.inl W1.1), W1.2) else sem d 99 10 [some (.inr (.inr (0, 0))), some (.inl x1)] [] V :=
  (sem_u1 d 99 [10] 10 0 _ _ _).trans rfl
set_option maxRecDepth 100000 in
theorem e_C_pick_10 (d : Nat) (x1 : Int32) (V : Mem) : sem d 99 10 [some (.inr (.inr (0, 0))), some (.inl x1)] [] V = (clI d 109 [.inr (.inr (0, 0)), .inl (-2)] V).bind fun W1 => some (some (.inl W1.1), W1.2) :=
  (sem_u1 d 99 [10] 5 10 _ _ _).trans rfl
/-! C_laws -/
set_option maxRecDepth 100000 in
theorem e_C_laws_0 (d : Nat) (x1 : Int32) (V : Mem) : sem d 100 0 [some (.inr (.inr (0, 0))), some (.inl x1), none, none] [] V = (clI d 112 [.inr (.inr (0, 0)), .inl x1] V).bind fun W1 => if W1.1 = 0 then (clI d 109 [.inr (.inr (0, 0)), .inl (-2)] W1.2).bind fun W2 => some (some (.inl W2.1), W2.2) else sem d 100 19 [some (.inr (.inr (0, 0))), some (.inl x1), some (.inl 0), some (.inl 0)] [] W1.2 :=
  (sem_u1 d 100 [19, 40] 10 0 _ _ _).trans rfl
set_option maxRecDepth 100000 in
theorem e_C_laws_19 (d : Nat) (x1 : Int32) (x2 : Int32) (x3 : Int32) (V : Mem) : sem d 100 19 [some (.inr (.inr (0, 0))), some (.inl x1), some (.inl x2), some (.inl x3)] [] V = if x3 < 6 then (clI d 121 [.inr (.inr (0, 0)), .inl x3] V).bind fun W1 => if W1.1 = x1 then sem d 100 40 [some (.inr (.inr (0, 0))), some (.inl x1), some (.inl (x2 ||| (1 <<< (x3 &&& 31)))), some (.inl x3)] [] W1.2 else sem d 100 40 [some (.inr (.inr (0, 0))), some (.inl x1), some (.inl x2), some (.inl x3)] [] W1.2 else some (some (.inl x2), V) :=
  (sem_u1 d 100 [19, 40] 16 19 _ _ _).trans rfl
set_option maxRecDepth 100000 in
theorem e_C_laws_40 (d : Nat) (x1 : Int32) (x2 : Int32) (x3 : Int32) (V : Mem) : sem d 100 40 [some (.inr (.inr (0, 0))), some (.inl x1), some (.inl x2), some (.inl x3)] [] V = sem d 100 19 [some (.inr (.inr (0, 0))), some (.inl x1), some (.inl x2), some (.inl (x3 + 1))] [] V :=
  (sem_u1 d 100 [19, 40] 4 40 _ _ _).trans rfl
/-! C_whose -/
set_option maxRecDepth 100000 in
theorem e_C_whose_0 (d : Nat) (x1 : Int32) (x2 : Int32) (x3 : Int32) (V : Mem) : sem d 101 0 [some (.inr (.inr (0, 0))), some (.inl x1), some (.inl x2), some (.inl x3), none, none, none, none] [] V = (clI d 110 [.inr (.inr (0, 0)), .inl x1] V).bind fun W1 => if W1.1 = 0 then sem d 101 27 [some (.inr (.inr (0, 0))), some (.inl x1), some (.inl x2), some (.inl x3), none, none, none, none] [] W1.2 else if x2 < 0 then sem d 101 27 [some (.inr (.inr (0, 0))), some (.inl x1), some (.inl x2), some (.inl x3), none, none, none, none] [] W1.2 else if 20 < x2 then sem d 101 27 [some (.inr (.inr (0, 0))), some (.inl x1), some (.inl x2), some (.inl x3), none, none, none, none] [] W1.2 else if x3 < 0 then sem d 101 27 [some (.inr (.inr (0, 0))), some (.inl x1), some (.inl x2), some (.inl x3), none, none, none, none] [] W1.2 else if 1 < x3 then sem d 101 27 [some (.inr (.inr (0, 0))), some (.inl x1), some (.inl x2), some (.inl x3), none, none, none, none] [] W1.2 else if x1 < 0 ∨ 8 ≤ Int32.toNatClampNeg x1 then none else (clI d 33 [.inr (.inr (23, Int32.toNatClampNeg x1))] W1.2).bind fun W2 => if W2.1 = 0 then if W2.2.1 23 (Int32.toNatClampNeg x1) 2 < 2 * x2 then (clI d 109 [.inr (.inr (0, 0)), .inl (-2)] W2.2).bind fun W4 => some (some (.inl W4.1), W4.2) else if W2.2.1 1 0 4 = 0 then sem d 101 99 [some (.inr (.inr (0, 0))), some (.inl x1), some (.inl x2), some (.inl x3), some (.inr (.inr (23, Int32.toNatClampNeg x1))), some (.inl W2.1), none, none] [] W2.2 else (clI d 122 [.inr (.inr (0, 0)), .inr (.inr (23, Int32.toNatClampNeg x1)), .inl x2] W2.2).bind fun W5 => if W5.1 = 0 then sem d 101 99 [some (.inr (.inr (0, 0))), some (.inl x1), some (.inl x2), some (.inl x3), some (.inr (.inr (23, Int32.toNatClampNeg x1))), some (.inl W2.1), none, none] [] W5.2 else (clI d 123 [.inr (.inr (0, 0)), .inr (.inr (23, Int32.toNatClampNeg x1)), .inl x2] W5.2).bind fun W6 => (clI d 125 [.inr (.inr (0, 0)), .inl W6.1] W6.2).bind fun W7 => if x3 = 0 then some (some (.inl W7.1), W7.2) else if W7.1 < 0 ∨ 6 ≤ Int32.toNatClampNeg W7.1 then none else (clI d 126 [.inr (.inr (0, 0)), .inr (.inr (5, Int32.toNatClampNeg W7.1)), .inl W6.1] W7.2).bind fun W8 => some (some (.inl W8.1), W8.2) else (clI d 109 [.inr (.inr (0, 0)), .inl W2.1] W2.2).bind fun W3 => some (some (.inl W3.1), W3.2) :=
  (sem_u1 d 101 [27, 99] 60 0 _ _ _).trans rfl
set_option maxRecDepth 100000 in
theorem e_C_whose_27 (d : Nat) (x1 : Int32) (x2 : Int32) (x3 : Int32) (V : Mem) : sem d 101 27 [some (.inr (.inr (0, 0))), some (.inl x1), some (.inl x2), some (.inl x3), none, none, none, none] [] V = (clI d 109 [.inr (.inr (0, 0)), .inl (-2)] V).bind fun W1 => some (some (.inl W1.1), W1.2) :=
  (sem_u1 d 101 [27, 99] 5 27 _ _ _).trans rfl
set_option maxRecDepth 100000 in
theorem e_C_whose_99 (d : Nat) (x1 : Int32) (x2 : Int32) (x3 : Int32) (x4 : Nat) (x5 : Int32) (V : Mem) : sem d 101 99 [some (.inr (.inr (0, 0))), some (.inl x1), some (.inl x2), some (.inl x3), some (.inr (.inr (23, x4))), some (.inl x5), none, none] [] V = (clI d 109 [.inr (.inr (0, 0)), .inl (-5)] V).bind fun W1 => some (some (.inl W1.1), W1.2) :=
  (sem_u1 d 101 [27, 99] 5 99 _ _ _).trans rfl
/-! C_seen -/
set_option maxRecDepth 100000 in
theorem e_C_seen_0 (d : Nat) (x1 : Int32) (x2 : Int32) (V : Mem) : sem d 102 0 [some (.inr (.inr (0, 0))), some (.inl x1), some (.inl x2), none] [] V = (clI d 112 [.inr (.inr (0, 0)), .inl x1] V).bind fun W1 => if W1.1 = 0 then (clI d 109 [.inr (.inr (0, 0)), .inl (-2)] W1.2).bind fun W2 => some (some (.inl W2.1), W2.2) else if x1 < 0 ∨ 6 ≤ Int32.toNatClampNeg x1 then none else (clV d 5 [.inr (.inr (8, 0)), .inr (.inr (1, 0)), .inr (.inr (5, Int32.toNatClampNeg x1))] W1.2).bind fun W3 => if x2 = 0 then (clI d 224 [.inl (W3.1 8 0 2)] W3).bind fun W5 => (clI d 127 [.inl W5.1, .inl (12 - (W3.1 1 0 5))] W5.2).bind fun W6 => some (some (.inl W6.1), W6.2) else if x2 = 1 then some (some (.inl ((((1000 * (W3.1 8 0 1)) * (12 - (W3.1 1 0 5))) * (12 - (W3.1 1 0 5))) / 144)), W3) else (clI d 109 [.inr (.inr (0, 0)), .inl (-2)] W3).bind fun W4 => some (some (.inl W4.1), W4.2) :=
  (sem_u1 d 102 [] 35 0 _ _ _).trans rfl
/-! C_nights -/
set_option maxRecDepth 100000 in
theorem e_C_nights_0 (d : Nat) (x1 : Int32) (V : Mem) : sem d 103 0 [some (.inr (.inr (0, 0))), some (.inl x1), none, none] [] V = if x1 < 1 then sem d 103 11 [some (.inr (.inr (0, 0))), some (.inl x1), none, none] [] V else if 40 < x1 then sem d 103 11 [some (.inr (.inr (0, 0))), some (.inl x1), none, none] [] V else sem d 103 20 [some (.inr (.inr (0, 0))), some (.inl x1), some (.inl 0), none] [] V :=
  (sem_u1 d 103 [11, 20, 27] 10 0 _ _ _).trans rfl
set_option maxRecDepth 100000 in
theorem e_C_nights_11 (d : Nat) (x1 : Int32) (V : Mem) : sem d 103 11 [some (.inr (.inr (0, 0))), some (.inl x1), none, none] [] V = (clI d 109 [.inr (.inr (0, 0)), .inl (-2)] V).bind fun W1 => some (some (.inl W1.1), W1.2) :=
  (sem_u1 d 103 [11, 20, 27] 5 11 _ _ _).trans rfl
set_option maxRecDepth 100000 in
theorem e_C_nights_20 (d : Nat) (x1 : Int32) (x2 : Int32) (V : Mem) : sem d 103 20 [some (.inr (.inr (0, 0))), some (.inl x1), some (.inl x2), none] [] V = if x2 < x1 then sem d 103 27 [some (.inr (.inr (0, 0))), some (.inl x1), some (.inl x2), some (.inl 0)] [] V else (clI d 55 [.inr (.inr (1, 0))] V).bind fun W1 => some (some (.inl W1.1), W1.2) :=
  (sem_u1 d 103 [11, 20, 27] 8 20 _ _ _).trans rfl
set_option maxRecDepth 100000 in
theorem e_C_nights_27 (d : Nat) (x1 : Int32) (x2 : Int32) (x3 : Int32) (V : Mem) : sem d 103 27 [some (.inr (.inr (0, 0))), some (.inl x1), some (.inl x2), some (.inl x3)] [] V = if x3 < V.1 1 0 4 then if x3 < 0 ∨ 6 ≤ Int32.toNatClampNeg x3 then none else (clV d 58 [.inr (.inr (1, 0)), .inr (.inr (5, Int32.toNatClampNeg x3))] V).bind fun W1 => sem d 103 27 [some (.inr (.inr (0, 0))), some (.inl x1), some (.inl x2), some (.inl (x3 + 1))] [] W1 else sem d 103 20 [some (.inr (.inr (0, 0))), some (.inl x1), some (.inl (x2 + 1)), none] [] V :=
  (sem_u1 d 103 [11, 20, 27] 17 27 _ _ _).trans rfl
/-! C_give -/
set_option maxRecDepth 100000 in
theorem e_C_give_0 (d : Nat) (V : Mem) : sem d 104 0 [some (.inr (.inr (0, 0))), none, none, none] [] V = if V.1 1 0 4 = 0 then (clI d 109 [.inr (.inr (0, 0)), .inl (-5)] V).bind fun W1 => some (some (.inl W1.1), W1.2) else (clV d 22 [.inr (.inr (10, 0)), .inr (.inr (1, 0)), .inr (.inr (8, 0)), .inr (.inr (5, 18))] V).bind fun W2 => sem d 104 40 [some (.inr (.inr (0, 0))), some (.inl 0), some (.inl 0), none] [] W2 :=
  (sem_u1 d 104 [40, 53, 103] 19 0 _ _ _).trans rfl
set_option maxRecDepth 100000 in
theorem e_C_give_40 (d : Nat) (x1 : Int32) (x2 : Int32) (V : Mem) : sem d 104 40 [some (.inr (.inr (0, 0))), some (.inl x1), some (.inl x2), none] [] V = if x2 < V.1 10 0 2 then sem d 104 53 [some (.inr (.inr (0, 0))), some (.inl x1), some (.inl x2), some (.inl 0)] [] V else some (some (.inl x1), V) :=
  (sem_u1 d 104 [40, 53, 103] 9 40 _ _ _).trans rfl
set_option maxRecDepth 100000 in
theorem e_C_give_53 (d : Nat) (x1 : Int32) (x2 : Int32) (x3 : Int32) (V : Mem) : sem d 104 53 [some (.inr (.inr (0, 0))), some (.inl x1), some (.inl x2), some (.inl x3)] [] V = if x3 < V.1 1 0 4 then if x2 < 0 ∨ 5 ≤ Int32.toNatClampNeg x2 then none else if x3 = V.1 12 0 (Int32.toNatClampNeg x2) then sem d 104 103 [some (.inr (.inr (0, 0))), some (.inl x1), some (.inl x2), some (.inl x3)] [] V else if x3 < 0 ∨ 6 ≤ Int32.toNatClampNeg x3 then none else if x2 < 0 ∨ 5 ≤ Int32.toNatClampNeg x2 then none else (clI d 21 [.inr (.inr (5, Int32.toNatClampNeg x3)), .inl (1 <<< ((V.1 11 0 (Int32.toNatClampNeg x2)) &&& 31))] V).bind fun W1 => sem d 104 103 [some (.inr (.inr (0, 0))), some (.inl (x1 + W1.1)), some (.inl x2), some (.inl x3)] [] W1.2 else sem d 104 40 [some (.inr (.inr (0, 0))), some (.inl x1), some (.inl (x2 + 1)), none] [] V :=
  (sem_u1 d 104 [40, 53, 103] 30 53 _ _ _).trans rfl
set_option maxRecDepth 100000 in
theorem e_C_give_103 (d : Nat) (x1 : Int32) (x2 : Int32) (x3 : Int32) (V : Mem) : sem d 104 103 [some (.inr (.inr (0, 0))), some (.inl x1), some (.inl x2), some (.inl x3)] [] V = sem d 104 53 [some (.inr (.inr (0, 0))), some (.inl x1), some (.inl x2), some (.inl (x3 + 1))] [] V :=
  (sem_u1 d 104 [40, 53, 103] 4 103 _ _ _).trans rfl
/-! C_seed -/
set_option maxRecDepth 100000 in
theorem e_C_seed_0 (d : Nat) (x1 : Int32) (V : Mem) : sem d 105 0 [some (.inr (.inr (0, 0))), some (.inl x1), none] [] V = some (some (.inl (V.1 1 0 6)), (mset V.1 1 0 6 x1, V.2)) :=
  (sem_u1 d 105 [] 11 0 _ _ _).trans rfl
/-! C_image -/
set_option maxRecDepth 100000 in
theorem e_C_image_0 (d : Nat) (V : Mem) : sem d 106 0 [some (.inr (.inr (0, 0)))] [] V = (clV d 42 [.inr (.inr (1, 1)), .inr (.inr (1, 0))] V).bind fun W1 => some (some (.inl 1), (mset W1.1 0 0 11 1, W1.2)) :=
  (sem_u1 d 106 [] 11 0 _ _ _).trans rfl
/-! C_back -/
set_option maxRecDepth 100000 in
theorem e_C_back_0 (d : Nat) (V : Mem) : sem d 107 0 [some (.inr (.inr (0, 0))), none, none] [] V = if V.1 0 0 11 = 0 then (clI d 109 [.inr (.inr (0, 0)), .inl (-5)] V).bind fun W1 => some (some (.inl W1.1), W1.2) else (clV d 42 [.inr (.inr (1, 0)), .inr (.inr (1, 1))] V).bind fun W2 => sem d 107 27 [some (.inr (.inr (0, 0))), some (.inl 0), none] [] W2 :=
  (sem_u1 d 107 [27, 66] 12 0 _ _ _).trans rfl
set_option maxRecDepth 100000 in
theorem e_C_back_27 (d : Nat) (x1 : Int32) (V : Mem) : sem d 107 27 [some (.inr (.inr (0, 0))), some (.inl x1), none] [] V = if x1 < 8 then if x1 < 0 ∨ 8 ≤ Int32.toNatClampNeg x1 then none else (clI d 32 [.inr (.inr (23, Int32.toNatClampNeg x1))] V).bind fun W1 => if W1.1 = 0 then sem d 107 66 [some (.inr (.inr (0, 0))), some (.inl x1), some (.inr (.inr (23, Int32.toNatClampNeg x1)))] [] W1.2 else (clI d 112 [.inr (.inr (0, 0)), .inl ((W1.2.1 23 (Int32.toNatClampNeg x1) 1) - 10)] W1.2).bind fun W2 => if W2.1 = 0 then sem d 107 66 [some (.inr (.inr (0, 0))), some (.inl x1), some (.inr (.inr (23, Int32.toNatClampNeg x1)))] [] (mset W2.2.1 23 (Int32.toNatClampNeg x1) 1 (-1), W2.2.2) else sem d 107 66 [some (.inr (.inr (0, 0))), some (.inl x1), some (.inr (.inr (23, Int32.toNatClampNeg x1)))] [] W2.2 else some (some (.inl 1), V) :=
  (sem_u1 d 107 [27, 66] 23 27 _ _ _).trans rfl
set_option maxRecDepth 100000 in
theorem e_C_back_66 (d : Nat) (x1 : Int32) (x2 : Nat) (V : Mem) : sem d 107 66 [some (.inr (.inr (0, 0))), some (.inl x1), some (.inr (.inr (23, x2)))] [] V = sem d 107 27 [some (.inr (.inr (0, 0))), some (.inl (x1 + 1)), none] [] V :=
  (sem_u1 d 107 [27, 66] 4 66 _ _ _).trans rfl
/-! C_status -/
set_option maxRecDepth 100000 in
theorem e_C_status_0 (d : Nat) (x1 : Int32) (V : Mem) : sem d 108 0 [some (.inr (.inr (0, 0))), some (.inl x1)] [] V = if x1 = 0 then some (some (.inl (V.1 1 0 3)), V) else if x1 = 1 then some (some (.inl (V.1 1 0 4)), V) else if x1 = 2 then some (some (.inl (V.1 1 0 5)), V) else if x1 = 3 then (clI d 55 [.inr (.inr (1, 0))] V).bind fun W4 => some (some (.inl W4.1), W4.2) else if x1 = 4 then (clI d 117 [.inr (.inr (0, 0))] V).bind fun W3 => some (some (.inl W3.1), W3.2) else if x1 = 5 then (clI d 53 [.inr (.inr (1, 0))] V).bind fun W2 => some (some (.inl W2.1), W2.2) else if x1 = 6 then some (some (.inl (V.1 20 0 0)), V) else if x1 = 7 then some (some (.inl (V.1 1 0 6)), V) else if x1 = 8 then (clI d 118 [.inr (.inr (0, 0))] V).bind fun W1 => some (some (.inl W1.1), W1.2) else if x1 = 9 then some (some (.inl (-1)), V) else if x1 = 10 then some (some (.inl (-1)), V) else if x1 = 11 then some (some (.inl (-1)), V) else if x1 = 12 then some (some (.inl (V.1 25 0 (0))), V) else if x1 = 13 then some (some (.inl (V.1 25 0 (1))), V) else if x1 = 14 then some (some (.inl (V.1 25 0 (2))), V) else if x1 = 15 then some (some (.inl (V.1 25 0 (3))), V) else if x1 = 16 then some (some (.inl (V.1 25 0 (4))), V) else some (some (.inl (-1)), V) :=
  (sem_u1 d 108 [] 8 0 _ _ _).trans rfl
/-! C_refuse -/
set_option maxRecDepth 100000 in
theorem e_C_refuse_0 (d : Nat) (x1 : Int32) (V : Mem) : sem d 109 0 [some (.inr (.inr (0, 0))), some (.inl x1), none] [] V = sem d 109 5 [some (.inr (.inr (0, 0))), some (.inl x1), some (.inl ((-2) - x1))] [] V :=
  (sem_u1 d 109 [5] 6 0 _ _ _).trans rfl
set_option maxRecDepth 100000 in
theorem e_C_refuse_5 (d : Nat) (x1 : Int32) (x2 : Int32) (V : Mem) : sem d 109 5 [some (.inr (.inr (0, 0))), some (.inl x1), some (.inl x2)] [] V = if x2 < 0 then some (some (.inl x1), V) else if x2 < 5 then if x2 < 0 ∨ 5 ≤ Int32.toNatClampNeg x2 then none else if x2 < 0 ∨ 5 ≤ Int32.toNatClampNeg x2 then none else some (some (.inl x1), (mset V.1 25 0 (Int32.toNatClampNeg x2) ((V.1 25 0 (Int32.toNatClampNeg x2)) + 1), V.2)) else some (some (.inl x1), V) :=
  (sem_u1 d 109 [5] 16 5 _ _ _).trans rfl
/-! C_isShelf -/
set_option maxRecDepth 100000 in
theorem e_C_isShelf_0 (d : Nat) (x1 : Int32) (V : Mem) : sem d 110 0 [some (.inr (.inr (0, 0))), some (.inl x1)] [] V = if x1 < 0 then some (some (.inl 0), V) else if x1 < 8 then some (some (.inl 1), V) else some (some (.inl 0), V) :=
  (sem_u1 d 110 [] 9 0 _ _ _).trans rfl
/-! C_isPoint -/
set_option maxRecDepth 100000 in
theorem e_C_isPoint_0 (d : Nat) (x1 : Int32) (V : Mem) : sem d 111 0 [some (.inr (.inr (0, 0))), some (.inl x1)] [] V = if x1 < 0 then some (some (.inl 0), V) else if x1 < V.1 1 0 3 then some (some (.inl 1), V) else some (some (.inl 0), V) :=
  (sem_u1 d 111 [] 11 0 _ _ _).trans rfl
/-! C_isParish -/
set_option maxRecDepth 100000 in
theorem e_C_isParish_0 (d : Nat) (x1 : Int32) (V : Mem) : sem d 112 0 [some (.inr (.inr (0, 0))), some (.inl x1)] [] V = if x1 < 0 then some (some (.inl 0), V) else if x1 < V.1 1 0 4 then some (some (.inl 1), V) else some (some (.inl 0), V) :=
  (sem_u1 d 112 [] 11 0 _ _ _).trans rfl
/-! C_isPair -/
set_option maxRecDepth 100000 in
theorem e_C_isPair_0 (d : Nat) (x1 : Int32) (x2 : Int32) (V : Mem) : sem d 113 0 [some (.inr (.inr (0, 0))), some (.inl x1), some (.inl x2)] [] V = (clI d 111 [.inr (.inr (0, 0)), .inl x1] V).bind fun W1 => if W1.1 = 0 then some (some (.inl 0), W1.2) else (clI d 111 [.inr (.inr (0, 0)), .inl x2] W1.2).bind fun W2 => if W2.1 = 0 then some (some (.inl 0), W2.2) else if x1 = x2 then some (some (.inl 0), W2.2) else some (some (.inl 1), W2.2) :=
  (sem_u1 d 113 [] 15 0 _ _ _).trans rfl
/-! C_isUnder -/
set_option maxRecDepth 100000 in
theorem e_C_isUnder_0 (d : Nat) (x0 : Int32) (x1 : Int32) (V : Mem) : sem d 114 0 [some (.inl x0), some (.inl x1), none] [] V = if x0 = 3 then if x1 = 1 then sem d 114 20 [some (.inl x0), some (.inl x1), none] [] V else sem d 114 10 [some (.inl x0), some (.inl x1), none] [] V else sem d 114 10 [some (.inl x0), some (.inl x1), none] [] V :=
  (sem_u1 d 114 [10, 20, 24, 25] 8 0 _ _ _).trans rfl
set_option maxRecDepth 100000 in
theorem e_C_isUnder_10 (d : Nat) (x0 : Int32) (x1 : Int32) (V : Mem) : sem d 114 10 [some (.inl x0), some (.inl x1), none] [] V = if x0 = 4 then if x1 = 2 then sem d 114 20 [some (.inl x0), some (.inl x1), none] [] V else sem d 114 24 [some (.inl x0), some (.inl x1), none] [] V else sem d 114 24 [some (.inl x0), some (.inl x1), none] [] V :=
  (sem_u1 d 114 [10, 20, 24, 25] 8 10 _ _ _).trans rfl
set_option maxRecDepth 100000 in
theorem e_C_isUnder_20 (d : Nat) (x0 : Int32) (x1 : Int32) (V : Mem) : sem d 114 20 [some (.inl x0), some (.inl x1), none] [] V = sem d 114 25 [some (.inl x0), some (.inl x1), none] [.inl 1] V :=
  (sem_u1 d 114 [10, 20, 24, 25] 4 20 _ _ _).trans rfl
set_option maxRecDepth 100000 in
theorem e_C_isUnder_24 (d : Nat) (x0 : Int32) (x1 : Int32) (V : Mem) : sem d 114 24 [some (.inl x0), some (.inl x1), none] [] V = sem d 114 25 [some (.inl x0), some (.inl x1), none] [.inl 0] V :=
  (sem_u1 d 114 [10, 20, 24, 25] 3 24 _ _ _).trans rfl
set_option maxRecDepth 100000 in
theorem e_C_isUnder_25 (d : Nat) (x0 : Int32) (x1 : Int32) (z0 : Int32) (V : Mem) : sem d 114 25 [some (.inl x0), some (.inl x1), none] [.inl z0] V = if x1 = 0 then some (some (.inl 1), V) else if x0 = x1 then some (some (.inl 1), V) else if z0 = 0 then some (some (.inl 0), V) else some (some (.inl 1), V) :=
  (sem_u1 d 114 [10, 20, 24, 25] 12 25 _ _ _).trans rfl
/-! C_worthOf -/
set_option maxRecDepth 100000 in
theorem e_C_worthOf_0 (d : Nat) (x1 : Int32) (V : Mem) : sem d 115 0 [some (.inr (.inr (0, 0))), some (.inl x1), none] [] V = if x1 < 0 ∨ 6 ≤ Int32.toNatClampNeg x1 then none else (clV d 5 [.inr (.inr (8, 0)), .inr (.inr (1, 0)), .inr (.inr (5, Int32.toNatClampNeg x1))] V).bind fun W1 => (clI d 9 [.inr (.inr (8, 0)), .inl (W1.1 5 (Int32.toNatClampNeg x1) 2), .inl (W1.1 5 (Int32.toNatClampNeg x1) 3)] W1).bind fun W2 => some (some (.inl W2.1), W2.2) :=
  (sem_u1 d 115 [] 21 0 _ _ _).trans rfl
/-! C_spareWorth -/
set_option maxRecDepth 100000 in
theorem e_C_spareWorth_0 (d : Nat) (V : Mem) : sem d 116 0 [some (.inr (.inr (0, 0)))] [] V = (clV d 5 [.inr (.inr (8, 0)), .inr (.inr (1, 0)), .inr (.inr (5, 18))] V).bind fun W1 => (clI d 9 [.inr (.inr (8, 0)), .inl (W1.1 5 18 2), .inl (W1.1 5 18 3)] W1).bind fun W2 => some (some (.inl W2.1), W2.2) :=
  (sem_u1 d 116 [] 18 0 _ _ _).trans rfl
/-! C_allWorth -/
set_option maxRecDepth 100000 in
theorem e_C_allWorth_0 (d : Nat) (V : Mem) : sem d 117 0 [some (.inr (.inr (0, 0))), none, none] [] V = sem d 117 4 [some (.inr (.inr (0, 0))), some (.inl 0), some (.inl 0)] [] V :=
  (sem_u1 d 117 [4] 6 0 _ _ _).trans rfl
set_option maxRecDepth 100000 in
theorem e_C_allWorth_4 (d : Nat) (x1 : Int32) (x2 : Int32) (V : Mem) : sem d 117 4 [some (.inr (.inr (0, 0))), some (.inl x1), some (.inl x2)] [] V = if x2 < V.1 1 0 4 then (clI d 115 [.inr (.inr (0, 0)), .inl x2] V).bind fun W1 => sem d 117 4 [some (.inr (.inr (0, 0))), some (.inl (x1 + W1.1)), some (.inl (x2 + 1))] [] W1.2 else some (some (.inl x1), V) :=
  (sem_u1 d 117 [4] 15 4 _ _ _).trans rfl
/-! C_shelvesInUse -/
set_option maxRecDepth 100000 in
theorem e_C_shelvesInUse_0 (d : Nat) (V : Mem) : sem d 118 0 [some (.inr (.inr (0, 0))), none, none] [] V = sem d 118 4 [some (.inr (.inr (0, 0))), some (.inl 0), some (.inl 0)] [] V :=
  (sem_u1 d 118 [4, 26] 6 0 _ _ _).trans rfl
set_option maxRecDepth 100000 in
theorem e_C_shelvesInUse_4 (d : Nat) (x1 : Int32) (x2 : Int32) (V : Mem) : sem d 118 4 [some (.inr (.inr (0, 0))), some (.inl x1), some (.inl x2)] [] V = if x2 < 8 then if x2 < 0 ∨ 8 ≤ Int32.toNatClampNeg x2 then none else if V.1 23 (Int32.toNatClampNeg x2) 1 = (-1) then sem d 118 26 [some (.inr (.inr (0, 0))), some (.inl x1), some (.inl x2)] [] V else sem d 118 26 [some (.inr (.inr (0, 0))), some (.inl (x1 + 1)), some (.inl x2)] [] V else some (some (.inl x1), V) :=
  (sem_u1 d 118 [4, 26] 13 4 _ _ _).trans rfl
set_option maxRecDepth 100000 in
theorem e_C_shelvesInUse_26 (d : Nat) (x1 : Int32) (x2 : Int32) (V : Mem) : sem d 118 26 [some (.inr (.inr (0, 0))), some (.inl x1), some (.inl x2)] [] V = sem d 118 4 [some (.inr (.inr (0, 0))), some (.inl x1), some (.inl (x2 + 1))] [] V :=
  (sem_u1 d 118 [4, 26] 4 26 _ _ _).trans rfl
/-! C_bestNewLine -/
set_option maxRecDepth 100000 in
theorem e_C_bestNewLine_0 (d : Nat) (x1 : Nat) (V : Mem) : sem d 119 0 [some (.inr (.inr (0, 0))), some (.inr (.inr (5, x1))), none, none, none, none, none, none] [] V = (clI d 15 [.inr (.inr (5, x1))] V).bind fun W1 => if W1.1 = 0 then some (some (.inl (-1)), W1.2) else sem d 119 16 [some (.inr (.inr (0, 0))), some (.inr (.inr (5, x1))), some (.inl (-1)), some (.inl (-1)), some (.inl 0), none, none, none] [] W1.2 :=
  (sem_u1 d 119 [16, 34, 119] 11 0 _ _ _).trans rfl
set_option maxRecDepth 100000 in
theorem e_C_bestNewLine_16 (d : Nat) (x1 : Nat) (x2 : Int32) (x3 : Int32) (x4 : Int32) (V : Mem) : sem d 119 16 [some (.inr (.inr (0, 0))), some (.inr (.inr (5, x1))), some (.inl x2), some (.inl x3), some (.inl x4), none, none, none] [] V = if x4 < V.1 1 0 3 then sem d 119 34 [some (.inr (.inr (0, 0))), some (.inr (.inr (5, x1))), some (.inl x2), some (.inl x3), some (.inl x4), some (.inl (x4 + 1)), none, none] [] V else some (some (.inl x2), V) :=
  (sem_u1 d 119 [16, 34, 119] 11 16 _ _ _).trans rfl
set_option maxRecDepth 100000 in
theorem e_C_bestNewLine_34 (d : Nat) (x1 : Nat) (x2 : Int32) (x3 : Int32) (x4 : Int32) (x5 : Int32) (V : Mem) : sem d 119 34 [some (.inr (.inr (0, 0))), some (.inr (.inr (5, x1))), some (.inl x2), some (.inl x3), some (.inl x4), some (.inl x5), none, none] [] V = if x5 < V.1 1 0 3 then (clI d 14 [.inr (.inr (5, x1)), .inl ((1 <<< (x4 &&& 31)) ||| (1 <<< (x5 &&& 31)))] V).bind fun W1 => if W1.1 = 0 then sem d 119 119 [some (.inr (.inr (0, 0))), some (.inr (.inr (5, x1))), some (.inl x2), some (.inl x3), some (.inl x4), some (.inl x5), some (.inl ((1 <<< (x4 &&& 31)) ||| (1 <<< (x5 &&& 31)))), none] [] W1.2 else (clI d 17 [.inr (.inr (5, x1)), .inl ((1 <<< (x4 &&& 31)) ||| (1 <<< (x5 &&& 31)))] W1.2).bind fun W2 => if W2.1 = (-1) then (clV d 13 [.inr (.inr (5, 18)), .inr (.inr (5, x1))] W2.2).bind fun W3 => (clV d 18 [.inr (.inr (5, 18)), .inl x4, .inl x5] W3).bind fun W4 => (clI d 116 [.inr (.inr (0, 0))] W4).bind fun W5 => if x3 < W5.1 then sem d 119 119 [some (.inr (.inr (0, 0))), some (.inr (.inr (5, x1))), some (.inl ((100 * x4) + x5)), some (.inl W5.1), some (.inl x4), some (.inl x5), some (.inl ((1 <<< (x4 &&& 31)) ||| (1 <<< (x5 &&& 31)))), some (.inl W5.1)] [] W5.2 else sem d 119 119 [some (.inr (.inr (0, 0))), some (.inr (.inr (5, x1))), some (.inl x2), some (.inl x3), some (.inl x4), some (.inl x5), some (.inl ((1 <<< (x4 &&& 31)) ||| (1 <<< (x5 &&& 31)))), some (.inl W5.1)] [] W5.2 else sem d 119 119 [some (.inr (.inr (0, 0))), some (.inr (.inr (5, x1))), some (.inl x2), some (.inl x3), some (.inl x4), some (.inl x5), some (.inl ((1 <<< (x4 &&& 31)) ||| (1 <<< (x5 &&& 31)))), none] [] W2.2 else sem d 119 16 [some (.inr (.inr (0, 0))), some (.inr (.inr (5, x1))), some (.inl x2), some (.inl x3), some (.inl (x4 + 1)), none, none, none] [] V :=
  (sem_u1 d 119 [16, 34, 119] 47 34 _ _ _).trans rfl
set_option maxRecDepth 100000 in
theorem e_C_bestNewLine_119 (d : Nat) (x1 : Nat) (x2 : Int32) (x3 : Int32) (x4 : Int32) (x5 : Int32) (x6 : Int32) (x7 : Int32) (V : Mem) : sem d 119 119 [some (.inr (.inr (0, 0))), some (.inr (.inr (5, x1))), some (.inl x2), some (.inl x3), some (.inl x4), some (.inl x5), some (.inl x6), some (.inl x7)] [] V = sem d 119 34 [some (.inr (.inr (0, 0))), some (.inr (.inr (5, x1))), some (.inl x2), some (.inl x3), some (.inl x4), some (.inl (x5 + 1)), none, none] [] V :=
  (sem_u1 d 119 [16, 34, 119] 4 119 _ _ _).trans rfl
set_option maxRecDepth 100000 in
theorem e_C_bestNewLine_119v2 (d : Nat) (x1 : Nat) (x2 : Int32) (x3 : Int32) (x4 : Int32) (x5 : Int32) (x6 : Int32) (V : Mem) : sem d 119 119 [some (.inr (.inr (0, 0))), some (.inr (.inr (5, x1))), some (.inl x2), some (.inl x3), some (.inl x4), some (.inl x5), some (.inl x6), none] [] V = sem d 119 34 [some (.inr (.inr (0, 0))), some (.inr (.inr (5, x1))), some (.inl x2), some (.inl x3), some (.inl x4), some (.inl (x5 + 1)), none, none] [] V :=
  (sem_u1 d 119 [16, 34, 119] 4 119 _ _ _).trans rfl
/-! C_worstLine -/
set_option maxRecDepth 100000 in
theorem e_C_worstLine_0 (d : Nat) (x1 : Nat) (V : Mem) : sem d 120 0 [some (.inr (.inr (0, 0))), some (.inr (.inr (5, x1))), none, none, none, none] [] V = sem d 120 7 [some (.inr (.inr (0, 0))), some (.inr (.inr (5, x1))), some (.inl (-1)), some (.inl (-1)), some (.inl 0), none] [] V :=
  (sem_u1 d 120 [7, 51] 8 0 _ _ _).trans rfl
set_option maxRecDepth 100000 in
theorem e_C_worstLine_7 (d : Nat) (x1 : Nat) (x2 : Int32) (x3 : Int32) (x4 : Int32) (V : Mem) : sem d 120 7 [some (.inr (.inr (0, 0))), some (.inr (.inr (5, x1))), some (.inl x2), some (.inl x3), some (.inl x4), none] [] V = if x4 < V.1 5 x1 5 then (clV d 13 [.inr (.inr (5, 18)), .inr (.inr (5, x1))] V).bind fun W1 => (clV d 19 [.inr (.inr (5, 18)), .inl x4] W1).bind fun W2 => (clI d 116 [.inr (.inr (0, 0))] W2).bind fun W3 => if x3 < W3.1 then sem d 120 51 [some (.inr (.inr (0, 0))), some (.inr (.inr (5, x1))), some (.inl x4), some (.inl W3.1), some (.inl x4), some (.inl W3.1)] [] W3.2 else sem d 120 51 [some (.inr (.inr (0, 0))), some (.inr (.inr (5, x1))), some (.inl x2), some (.inl x3), some (.inl x4), some (.inl W3.1)] [] W3.2 else some (some (.inl x2), V) :=
  (sem_u1 d 120 [7, 51] 24 7 _ _ _).trans rfl
set_option maxRecDepth 100000 in
theorem e_C_worstLine_51 (d : Nat) (x1 : Nat) (x2 : Int32) (x3 : Int32) (x4 : Int32) (x5 : Int32) (V : Mem) : sem d 120 51 [some (.inr (.inr (0, 0))), some (.inr (.inr (5, x1))), some (.inl x2), some (.inl x3), some (.inl x4), some (.inl x5)] [] V = sem d 120 7 [some (.inr (.inr (0, 0))), some (.inr (.inr (5, x1))), some (.inl x2), some (.inl x3), some (.inl (x4 + 1)), none] [] V :=
  (sem_u1 d 120 [7, 51] 4 51 _ _ _).trans rfl
/-! C_pickedBy -/
set_option maxRecDepth 100000 in
theorem e_C_pickedBy_0 (d : Nat) (x1 : Int32) (V : Mem) : sem d 121 0 [some (.inr (.inr (0, 0))), some (.inl x1), none, none, none, none, none, none] [] V = sem d 121 7 [some (.inr (.inr (0, 0))), some (.inl x1), some (.inl (-1)), some (.inl 0), some (.inl 0), none, none, none] [] V :=
  (sem_u1 d 121 [7, 57, 62, 92, 98] 8 0 _ _ _).trans rfl
set_option maxRecDepth 100000 in
theorem e_C_pickedBy_7 (d : Nat) (x1 : Int32) (x2 : Int32) (x3 : Int32) (x4 : Int32) (V : Mem) : sem d 121 7 [some (.inr (.inr (0, 0))), some (.inl x1), some (.inl x2), some (.inl x3), some (.inl x4), none, none, none] [] V = if x4 < V.1 1 0 4 then if x4 < 0 ∨ 6 ≤ Int32.toNatClampNeg x4 then none else (clV d 5 [.inr (.inr (8, 0)), .inr (.inr (1, 0)), .inr (.inr (5, Int32.toNatClampNeg x4))] V).bind fun W1 => if x1 = 4 then if 0 < W1.1 5 (Int32.toNatClampNeg x4) 5 then sem d 121 57 [some (.inr (.inr (0, 0))), some (.inl x1), some (.inl x2), some (.inl x3), some (.inl x4), some (.inr (.inr (5, Int32.toNatClampNeg x4))), none, none] [] W1 else sem d 121 62 [some (.inr (.inr (0, 0))), some (.inl x1), some (.inl x2), some (.inl x3), some (.inl x4), some (.inr (.inr (5, Int32.toNatClampNeg x4))), none, none] [.inl 0] W1 else sem d 121 57 [some (.inr (.inr (0, 0))), some (.inl x1), some (.inl x2), some (.inl x3), some (.inl x4), some (.inr (.inr (5, Int32.toNatClampNeg x4))), none, none] [] W1 else some (some (.inl x2), V) :=
  (sem_u1 d 121 [7, 57, 62, 92, 98] 26 7 _ _ _).trans rfl
set_option maxRecDepth 100000 in
theorem e_C_pickedBy_57 (d : Nat) (x1 : Int32) (x2 : Int32) (x3 : Int32) (x4 : Int32) (x5 : Nat) (V : Mem) : sem d 121 57 [some (.inr (.inr (0, 0))), some (.inl x1), some (.inl x2), some (.inl x3), some (.inl x4), some (.inr (.inr (5, x5))), none, none] [] V = sem d 121 62 [some (.inr (.inr (0, 0))), some (.inl x1), some (.inl x2), some (.inl x3), some (.inl x4), some (.inr (.inr (5, x5))), none, none] [.inl 1] V :=
  (sem_u1 d 121 [7, 57, 62, 92, 98] 4 57 _ _ _).trans rfl
set_option maxRecDepth 100000 in
theorem e_C_pickedBy_62 (d : Nat) (x1 : Int32) (x2 : Int32) (x3 : Int32) (x4 : Int32) (x5 : Nat) (z0 : Int32) (V : Mem) : sem d 121 62 [some (.inr (.inr (0, 0))), some (.inl x1), some (.inl x2), some (.inl x3), some (.inl x4), some (.inr (.inr (5, x5))), none, none] [.inl z0] V = (clI d 11 [.inr (.inr (8, 0)), .inl x1, .inr (.inr (5, x5))] V).bind fun W1 => if z0 = 0 then sem d 121 98 [some (.inr (.inr (0, 0))), some (.inl x1), some (.inl x2), some (.inl x3), some (.inl x4), some (.inr (.inr (5, x5))), some (.inl z0), some (.inl W1.1)] [] W1.2 else if x2 = (-1) then sem d 121 92 [some (.inr (.inr (0, 0))), some (.inl x1), some (.inl x2), some (.inl x3), some (.inl x4), some (.inr (.inr (5, x5))), some (.inl z0), some (.inl W1.1)] [] W1.2 else if x3 < W1.1 then sem d 121 92 [some (.inr (.inr (0, 0))), some (.inl x1), some (.inl x2), some (.inl x3), some (.inl x4), some (.inr (.inr (5, x5))), some (.inl z0), some (.inl W1.1)] [] W1.2 else sem d 121 98 [some (.inr (.inr (0, 0))), some (.inl x1), some (.inl x2), some (.inl x3), some (.inl x4), some (.inr (.inr (5, x5))), some (.inl z0), some (.inl W1.1)] [] W1.2 :=
  (sem_u1 d 121 [7, 57, 62, 92, 98] 17 62 _ _ _).trans rfl
set_option maxRecDepth 100000 in
theorem e_C_pickedBy_92 (d : Nat) (x1 : Int32) (x2 : Int32) (x3 : Int32) (x4 : Int32) (x5 : Nat) (x6 : Int32) (x7 : Int32) (V : Mem) : sem d 121 92 [some (.inr (.inr (0, 0))), some (.inl x1), some (.inl x2), some (.inl x3), some (.inl x4), some (.inr (.inr (5, x5))), some (.inl x6), some (.inl x7)] [] V = sem d 121 98 [some (.inr (.inr (0, 0))), some (.inl x1), some (.inl x4), some (.inl x7), some (.inl x4), some (.inr (.inr (5, x5))), some (.inl x6), some (.inl x7)] [] V :=
  (sem_u1 d 121 [7, 57, 62, 92, 98] 6 92 _ _ _).trans rfl
set_option maxRecDepth 100000 in
theorem e_C_pickedBy_98 (d : Nat) (x1 : Int32) (x2 : Int32) (x3 : Int32) (x4 : Int32) (x5 : Nat) (x6 : Int32) (x7 : Int32) (V : Mem) : sem d 121 98 [some (.inr (.inr (0, 0))), some (.inl x1), some (.inl x2), some (.inl x3), some (.inl x4), some (.inr (.inr (5, x5))), some (.inl x6), some (.inl x7)] [] V = sem d 121 7 [some (.inr (.inr (0, 0))), some (.inl x1), some (.inl x2), some (.inl x3), some (.inl (x4 + 1)), none, none, none] [] V :=
  (sem_u1 d 121 [7, 57, 62, 92, 98] 4 98 _ _ _).trans rfl
/-! C_arePairs -/
set_option maxRecDepth 100000 in
theorem e_C_arePairs_0 (d : Nat) (x1 : Nat) (x2 : Int32) (V : Mem) : sem d 122 0 [some (.inr (.inr (0, 0))), some (.inr (.inr (23, x1))), some (.inl x2), none, none, none, none, none, none] [] V = sem d 122 2 [some (.inr (.inr (0, 0))), some (.inr (.inr (23, x1))), some (.inl x2), some (.inl 0), none, none, none, none, none] [] V :=
  (sem_u1 d 122 [2, 75, 76] 4 0 _ _ _).trans rfl
set_option maxRecDepth 100000 in
theorem e_C_arePairs_2 (d : Nat) (x1 : Nat) (x2 : Int32) (x3 : Int32) (V : Mem) : sem d 122 2 [some (.inr (.inr (0, 0))), some (.inr (.inr (23, x1))), some (.inl x2), some (.inl x3), none, none, none, none, none] [] V = if x3 < x2 then if 2 * x3 < 0 ∨ 40 ≤ Int32.toNatClampNeg (2 * x3) then none else if (2 * x3) + 1 < 0 ∨ 40 ≤ Int32.toNatClampNeg ((2 * x3) + 1) then none else if lg_cmp (V.2 24 x1 (Int32.toNatClampNeg (2 * x3))) 0 < 0 then sem d 122 75 [some (.inr (.inr (0, 0))), some (.inr (.inr (23, x1))), some (.inl x2), some (.inl x3), some (.inr (.inl (V.2 24 x1 (Int32.toNatClampNeg (2 * x3))))), none, some (.inr (.inl (V.2 24 x1 (Int32.toNatClampNeg ((2 * x3) + 1))))), none, none] [] V else if lg_cmp (V.2 24 x1 (Int32.toNatClampNeg (2 * x3))) (Int32.toInt64 (V.1 1 0 3)) < 0 then if lg_cmp (V.2 24 x1 (Int32.toNatClampNeg ((2 * x3) + 1))) 0 < 0 then sem d 122 75 [some (.inr (.inr (0, 0))), some (.inr (.inr (23, x1))), some (.inl x2), some (.inl x3), some (.inr (.inl (V.2 24 x1 (Int32.toNatClampNeg (2 * x3))))), none, some (.inr (.inl (V.2 24 x1 (Int32.toNatClampNeg ((2 * x3) + 1))))), none, none] [] V else if lg_cmp (V.2 24 x1 (Int32.toNatClampNeg ((2 * x3) + 1))) (Int32.toInt64 (V.1 1 0 3)) < 0 then sem d 122 76 [some (.inr (.inr (0, 0))), some (.inr (.inr (23, x1))), some (.inl x2), some (.inl x3), some (.inr (.inl (V.2 24 x1 (Int32.toNatClampNeg (2 * x3))))), none, some (.inr (.inl (V.2 24 x1 (Int32.toNatClampNeg ((2 * x3) + 1))))), none, none] [.inl 1] V else sem d 122 75 [some (.inr (.inr (0, 0))), some (.inr (.inr (23, x1))), some (.inl x2), some (.inl x3), some (.inr (.inl (V.2 24 x1 (Int32.toNatClampNeg (2 * x3))))), none, some (.inr (.inl (V.2 24 x1 (Int32.toNatClampNeg ((2 * x3) + 1))))), none, none] [] V else sem d 122 75 [some (.inr (.inr (0, 0))), some (.inr (.inr (23, x1))), some (.inl x2), some (.inl x3), some (.inr (.inl (V.2 24 x1 (Int32.toNatClampNeg (2 * x3))))), none, some (.inr (.inl (V.2 24 x1 (Int32.toNatClampNeg ((2 * x3) + 1))))), none, none] [] V else some (some (.inl 1), V) :=
  (sem_u1 d 122 [2, 75, 76] 45 2 _ _ _).trans rfl
set_option maxRecDepth 100000 in
theorem e_C_arePairs_76 (d : Nat) (x1 : Nat) (x2 : Int32) (x3 : Int32) (x4 : Int64) (x6 : Int64) (z0 : Int32) (V : Mem) : sem d 122 76 [some (.inr (.inr (0, 0))), some (.inr (.inr (23, x1))), some (.inl x2), some (.inl x3), some (.inr (.inl x4)), none, some (.inr (.inl x6)), none, none] [.inl z0] V = if z0 = 0 then some (some (.inl 0), V) else if lg_cmp x4 x6 = 0 then some (some (.inl 0), V) else sem d 122 2 [some (.inr (.inr (0, 0))), some (.inr (.inr (23, x1))), some (.inl x2), some (.inl (x3 + 1)), none, none, none, none, none] [] V :=
  (sem_u1 d 122 [2, 75, 76] 11 76 _ _ _).trans rfl
set_option maxRecDepth 100000 in
theorem e_C_arePairs_75 (d : Nat) (x1 : Nat) (x2 : Int32) (x3 : Int32) (x4 : Int64) (x6 : Int64) (V : Mem) : sem d 122 75 [some (.inr (.inr (0, 0))), some (.inr (.inr (23, x1))), some (.inl x2), some (.inl x3), some (.inr (.inl x4)), none, some (.inr (.inl x6)), none, none] [] V = sem d 122 76 [some (.inr (.inr (0, 0))), some (.inr (.inr (23, x1))), some (.inl x2), some (.inl x3), some (.inr (.inl x4)), none, some (.inr (.inl x6)), none, none] [.inl 0] V :=
  (sem_u1 d 122 [2, 75, 76] 3 75 _ _ _).trans rfl
/-! C_takeTold -/
set_option maxRecDepth 100000 in
theorem e_C_takeTold_0 (d : Nat) (x1 : Nat) (x2 : Int32) (V : Mem) : sem d 123 0 [some (.inr (.inr (0, 0))), some (.inr (.inr (23, x1))), some (.inl x2), none, none, none] [] V = sem d 123 5 [some (.inr (.inr (0, 0))), some (.inr (.inr (23, x1))), some (.inl x2), some (.inl 0), some (.inl 0), none] [] V :=
  (sem_u1 d 123 [5, 61] 6 0 _ _ _).trans rfl
set_option maxRecDepth 100000 in
theorem e_C_takeTold_5 (d : Nat) (x1 : Nat) (x2 : Int32) (x3 : Int32) (x4 : Int32) (V : Mem) : sem d 123 5 [some (.inr (.inr (0, 0))), some (.inr (.inr (23, x1))), some (.inl x2), some (.inl x3), some (.inl x4), none] [] V = if x4 < x2 then if 2 * x4 < 0 ∨ 40 ≤ Int32.toNatClampNeg (2 * x4) then none else if (2 * x4) + 1 < 0 ∨ 40 ≤ Int32.toNatClampNeg ((2 * x4) + 1) then none else (clI d 124 [.inr (.inr (0, 0)), .inl ((1 <<< ((Int64.toInt32 (V.2 24 x1 (Int32.toNatClampNeg (2 * x4)))) &&& 31)) ||| (1 <<< ((Int64.toInt32 (V.2 24 x1 (Int32.toNatClampNeg ((2 * x4) + 1)))) &&& 31))), .inl x3] V).bind fun W1 => if W1.1 = 0 then if x3 < 0 ∨ 20 ≤ Int32.toNatClampNeg x3 then none else sem d 123 61 [some (.inr (.inr (0, 0))), some (.inr (.inr (23, x1))), some (.inl x2), some (.inl (x3 + 1)), some (.inl x4), some (.inl ((1 <<< ((Int64.toInt32 (V.2 24 x1 (Int32.toNatClampNeg (2 * x4)))) &&& 31)) ||| (1 <<< ((Int64.toInt32 (V.2 24 x1 (Int32.toNatClampNeg ((2 * x4) + 1)))) &&& 31))))] [] (mset W1.2.1 26 0 (Int32.toNatClampNeg x3) ((1 <<< ((Int64.toInt32 (V.2 24 x1 (Int32.toNatClampNeg (2 * x4)))) &&& 31)) ||| (1 <<< ((Int64.toInt32 (V.2 24 x1 (Int32.toNatClampNeg ((2 * x4) + 1)))) &&& 31))), W1.2.2) else sem d 123 61 [some (.inr (.inr (0, 0))), some (.inr (.inr (23, x1))), some (.inl x2), some (.inl x3), some (.inl x4), some (.inl ((1 <<< ((Int64.toInt32 (V.2 24 x1 (Int32.toNatClampNeg (2 * x4)))) &&& 31)) ||| (1 <<< ((Int64.toInt32 (V.2 24 x1 (Int32.toNatClampNeg ((2 * x4) + 1)))) &&& 31))))] [] W1.2 else some (some (.inl x3), V) :=
  (sem_u1 d 123 [5, 61] 38 5 _ _ _).trans rfl
set_option maxRecDepth 100000 in
theorem e_C_takeTold_61 (d : Nat) (x1 : Nat) (x2 : Int32) (x3 : Int32) (x4 : Int32) (x5 : Int32) (V : Mem) : sem d 123 61 [some (.inr (.inr (0, 0))), some (.inr (.inr (23, x1))), some (.inl x2), some (.inl x3), some (.inl x4), some (.inl x5)] [] V = sem d 123 5 [some (.inr (.inr (0, 0))), some (.inr (.inr (23, x1))), some (.inl x2), some (.inl x3), some (.inl (x4 + 1)), none] [] V :=
  (sem_u1 d 123 [5, 61] 4 61 _ _ _).trans rfl
/-! C_isTold -/
set_option maxRecDepth 100000 in
theorem e_C_isTold_0 (d : Nat) (x1 : Int32) (x2 : Int32) (V : Mem) : sem d 124 0 [some (.inr (.inr (0, 0))), some (.inl x1), some (.inl x2), none] [] V = sem d 124 2 [some (.inr (.inr (0, 0))), some (.inl x1), some (.inl x2), some (.inl 0)] [] V :=
  (sem_u1 d 124 [2] 4 0 _ _ _).trans rfl
set_option maxRecDepth 100000 in
theorem e_C_isTold_2 (d : Nat) (x1 : Int32) (x2 : Int32) (x3 : Int32) (V : Mem) : sem d 124 2 [some (.inr (.inr (0, 0))), some (.inl x1), some (.inl x2), some (.inl x3)] [] V = if x3 < x2 then if x3 < 0 ∨ 20 ≤ Int32.toNatClampNeg x3 then none else if V.1 26 0 (Int32.toNatClampNeg x3) = x1 then some (some (.inl 1), V) else sem d 124 2 [some (.inr (.inr (0, 0))), some (.inl x1), some (.inl x2), some (.inl (x3 + 1))] [] V else some (some (.inl 0), V) :=
  (sem_u1 d 124 [2] 13 2 _ _ _).trans rfl
/-! C_nearestToTold -/
set_option maxRecDepth 100000 in
theorem e_C_nearestToTold_0 (d : Nat) (x1 : Int32) (V : Mem) : sem d 125 0 [some (.inr (.inr (0, 0))), some (.inl x1), none, none, none, none] [] V = (clI d 126 [.inr (.inr (0, 0)), .inr (.inr (5, 0)), .inl x1] V).bind fun W1 => sem d 125 20 [some (.inr (.inr (0, 0))), some (.inl x1), some (.inl 0), some (.inl W1.1), some (.inl 1), none] [] W1.2 :=
  (sem_u1 d 125 [20, 61] 15 0 _ _ _).trans rfl
set_option maxRecDepth 100000 in
theorem e_C_nearestToTold_20 (d : Nat) (x1 : Int32) (x2 : Int32) (x3 : Int32) (x4 : Int32) (V : Mem) : sem d 125 20 [some (.inr (.inr (0, 0))), some (.inl x1), some (.inl x2), some (.inl x3), some (.inl x4), none] [] V = if x4 < V.1 1 0 4 then if x4 < 0 ∨ 6 ≤ Int32.toNatClampNeg x4 then none else (clI d 126 [.inr (.inr (0, 0)), .inr (.inr (5, Int32.toNatClampNeg x4)), .inl x1] V).bind fun W1 => if W1.1 < x3 then sem d 125 61 [some (.inr (.inr (0, 0))), some (.inl x1), some (.inl x4), some (.inl W1.1), some (.inl x4), some (.inl W1.1)] [] W1.2 else sem d 125 61 [some (.inr (.inr (0, 0))), some (.inl x1), some (.inl x2), some (.inl x3), some (.inl x4), some (.inl W1.1)] [] W1.2 else some (some (.inl x2), V) :=
  (sem_u1 d 125 [20, 61] 23 20 _ _ _).trans rfl
set_option maxRecDepth 100000 in
theorem e_C_nearestToTold_61 (d : Nat) (x1 : Int32) (x2 : Int32) (x3 : Int32) (x4 : Int32) (x5 : Int32) (V : Mem) : sem d 125 61 [some (.inr (.inr (0, 0))), some (.inl x1), some (.inl x2), some (.inl x3), some (.inl x4), some (.inl x5)] [] V = sem d 125 20 [some (.inr (.inr (0, 0))), some (.inl x1), some (.inl x2), some (.inl x3), some (.inl (x4 + 1)), none] [] V :=
  (sem_u1 d 125 [20, 61] 4 61 _ _ _).trans rfl
/-! C_differenceFromTold -/
set_option maxRecDepth 100000 in
theorem e_C_differenceFromTold_0 (d : Nat) (x1 : Nat) (x2 : Int32) (V : Mem) : sem d 126 0 [some (.inr (.inr (0, 0))), some (.inr (.inr (5, x1))), some (.inl x2), none, none] [] V = sem d 126 5 [some (.inr (.inr (0, 0))), some (.inr (.inr (5, x1))), some (.inl x2), some (.inl 0), some (.inl 0)] [] V :=
  (sem_u1 d 126 [5, 31] 6 0 _ _ _).trans rfl
set_option maxRecDepth 100000 in
theorem e_C_differenceFromTold_5 (d : Nat) (x1 : Nat) (x2 : Int32) (x3 : Int32) (x4 : Int32) (V : Mem) : sem d 126 5 [some (.inr (.inr (0, 0))), some (.inr (.inr (5, x1))), some (.inl x2), some (.inl x3), some (.inl x4)] [] V = if x4 < V.1 5 x1 5 then (clI d 16 [.inr (.inr (5, x1)), .inl x4] V).bind fun W1 => (clI d 124 [.inr (.inr (0, 0)), .inl W1.1, .inl x2] W1.2).bind fun W2 => if W2.1 = 0 then sem d 126 31 [some (.inr (.inr (0, 0))), some (.inr (.inr (5, x1))), some (.inl x2), some (.inl x3), some (.inl x4)] [] W2.2 else sem d 126 31 [some (.inr (.inr (0, 0))), some (.inr (.inr (5, x1))), some (.inl x2), some (.inl (x3 + 1)), some (.inl x4)] [] W2.2 else some (some (.inl (((x2 - x3) + (V.1 5 x1 5)) - x3)), V) :=
  (sem_u1 d 126 [5, 31] 14 5 _ _ _).trans rfl
set_option maxRecDepth 100000 in
theorem e_C_differenceFromTold_31 (d : Nat) (x1 : Nat) (x2 : Int32) (x3 : Int32) (x4 : Int32) (V : Mem) : sem d 126 31 [some (.inr (.inr (0, 0))), some (.inr (.inr (5, x1))), some (.inl x2), some (.inl x3), some (.inl x4)] [] V = sem d 126 5 [some (.inr (.inr (0, 0))), some (.inr (.inr (5, x1))), some (.inl x2), some (.inl x3), some (.inl (x4 + 1))] [] V :=
  (sem_u1 d 126 [5, 31] 4 31 _ _ _).trans rfl
/-! C_likelyAllSeen -/
set_option maxRecDepth 100000 in
theorem e_C_likelyAllSeen_0 (d : Nat) (x0 : Int32) (x1 : Int32) (V : Mem) : sem d 127 0 [some (.inl x0), some (.inl x1), none, none, none, none, none] [] V = sem d 127 10 [some (.inl x0), some (.inl x1), some (.inr (.inl 1000000)), none, some (.inr (.inl 1)), none, some (.inl 0)] [] V :=
  (sem_u1 d 127 [10] 8 0 _ _ _).trans rfl
set_option maxRecDepth 100000 in
theorem e_C_likelyAllSeen_10 (d : Nat) (x0 : Int32) (x1 : Int32) (x2 : Int64) (x4 : Int64) (x6 : Int32) (V : Mem) : sem d 127 10 [some (.inl x0), some (.inl x1), some (.inr (.inl x2)), none, some (.inr (.inl x4)), none, some (.inl x6)] [] V = if x6 < x0 then sem d 127 10 [some (.inl x0), some (.inl x1), some (.inr (.inl (x2 * (Int32.toInt64 x1)))), none, some (.inr (.inl (x4 * 12))), none, some (.inl (x6 + 1))] [] V else if 0 < lg_cmp x4 0 then if x4 = 0 then none else some (some (.inl (Int64.toInt32 (x2 / x4))), V) else some (some (.inl 0), V) :=
  (sem_u1 d 127 [10] 16 10 _ _ _).trans rfl
/-! M_isIn -/
set_option maxRecDepth 100000 in
theorem e_M_isIn_0 (d : Nat) (x0 : Int64) (x2 : Int64) (x4 : Int64) (V : Mem) : sem d 128 0 [some (.inr (.inl x0)), none, some (.inr (.inl x2)), none, some (.inr (.inl x4)), none] [] V = if lg_cmp x0 x2 < 0 then some (some (.inl 0), V) else if 0 < lg_cmp x0 x4 then some (some (.inl 0), V) else some (some (.inl 1), V) :=
  (sem_u1 d 128 [] 12 0 _ _ _).trans rfl
/-! M_refuse -/
set_option maxRecDepth 100000 in
theorem e_M_refuse_0 (d : Nat) (x1 : Int32) (V : Mem) : sem d 129 0 [some (.inr (.inr (30, 0))), some (.inl x1)] [] V = if -x1 < 0 ∨ 7 ≤ Int32.toNatClampNeg (-x1) then none else if -x1 < 0 ∨ 7 ≤ Int32.toNatClampNeg (-x1) then none else some (some (.inl x1), (mset V.1 31 0 (Int32.toNatClampNeg (-x1)) ((V.1 31 0 (Int32.toNatClampNeg (-x1))) + 1), V.2)) :=
  (sem_u1 d 129 [] 12 0 _ _ _).trans rfl
/-! M_move -/
set_option maxRecDepth 100000 in
theorem e_M_move_t32_34_0 (d : Nat) (x1 : Int32) (x3 : Int32) (V : Mem) : sem d 130 0 [some (.inr (.inr (32, 0))), some (.inl x1), some (.inr (.inr (34, 0))), some (.inl x3), none] [] V = sem d 130 3 [some (.inr (.inr (32, 0))), some (.inl x1), some (.inr (.inr (34, 0))), some (.inl x3), some (.inl 0)] [] V :=
  (sem_u1 d 130 [3] 4 0 _ _ _).trans rfl
set_option maxRecDepth 100000 in
theorem e_M_move_t32_34_3 (d : Nat) (x1 : Int32) (x3 : Int32) (x4 : Int32) (V : Mem) : sem d 130 3 [some (.inr (.inr (32, 0))), some (.inl x1), some (.inr (.inr (34, 0))), some (.inl x3), some (.inl x4)] [] V = if x4 < 178 then if x1 + x4 < 0 ∨ 178 ≤ Int32.toNatClampNeg (x1 + x4) then none else if x3 + x4 < 0 ∨ 178 ≤ Int32.toNatClampNeg (x3 + x4) then none else sem d 130 3 [some (.inr (.inr (32, 0))), some (.inl x1), some (.inr (.inr (34, 0))), some (.inl x3), some (.inl (x4 + 1))] [] (mset V.1 34 0 (Int32.toNatClampNeg (x3 + x4)) (V.1 32 0 (Int32.toNatClampNeg (x1 + x4))), V.2) else some (none, V) :=
  (sem_u1 d 130 [3] 17 3 _ _ _).trans rfl
set_option maxRecDepth 100000 in
theorem e_M_move_t34_32_0 (d : Nat) (x1 : Int32) (x3 : Int32) (V : Mem) : sem d 130 0 [some (.inr (.inr (34, 0))), some (.inl x1), some (.inr (.inr (32, 0))), some (.inl x3), none] [] V = sem d 130 3 [some (.inr (.inr (34, 0))), some (.inl x1), some (.inr (.inr (32, 0))), some (.inl x3), some (.inl 0)] [] V :=
  (sem_u1 d 130 [3] 4 0 _ _ _).trans rfl
set_option maxRecDepth 100000 in
theorem e_M_move_t34_32_3 (d : Nat) (x1 : Int32) (x3 : Int32) (x4 : Int32) (V : Mem) : sem d 130 3 [some (.inr (.inr (34, 0))), some (.inl x1), some (.inr (.inr (32, 0))), some (.inl x3), some (.inl x4)] [] V = if x4 < 178 then if x1 + x4 < 0 ∨ 178 ≤ Int32.toNatClampNeg (x1 + x4) then none else if x3 + x4 < 0 ∨ 178 ≤ Int32.toNatClampNeg (x3 + x4) then none else sem d 130 3 [some (.inr (.inr (34, 0))), some (.inl x1), some (.inr (.inr (32, 0))), some (.inl x3), some (.inl (x4 + 1))] [] (mset V.1 32 0 (Int32.toNatClampNeg (x3 + x4)) (V.1 34 0 (Int32.toNatClampNeg (x1 + x4))), V.2) else some (none, V) :=
  (sem_u1 d 130 [3] 17 3 _ _ _).trans rfl
set_option maxRecDepth 100000 in
theorem e_M_move_t32_33_0 (d : Nat) (x1 : Int32) (x3 : Int32) (V : Mem) : sem d 130 0 [some (.inr (.inr (32, 0))), some (.inl x1), some (.inr (.inr (33, 0))), some (.inl x3), none] [] V = sem d 130 3 [some (.inr (.inr (32, 0))), some (.inl x1), some (.inr (.inr (33, 0))), some (.inl x3), some (.inl 0)] [] V :=
  (sem_u1 d 130 [3] 4 0 _ _ _).trans rfl
set_option maxRecDepth 100000 in
theorem e_M_move_t32_33_3 (d : Nat) (x1 : Int32) (x3 : Int32) (x4 : Int32) (V : Mem) : sem d 130 3 [some (.inr (.inr (32, 0))), some (.inl x1), some (.inr (.inr (33, 0))), some (.inl x3), some (.inl x4)] [] V = if x4 < 178 then if x1 + x4 < 0 ∨ 178 ≤ Int32.toNatClampNeg (x1 + x4) then none else if x3 + x4 < 0 ∨ 178 ≤ Int32.toNatClampNeg (x3 + x4) then none else sem d 130 3 [some (.inr (.inr (32, 0))), some (.inl x1), some (.inr (.inr (33, 0))), some (.inl x3), some (.inl (x4 + 1))] [] (mset V.1 33 0 (Int32.toNatClampNeg (x3 + x4)) (V.1 32 0 (Int32.toNatClampNeg (x1 + x4))), V.2) else some (none, V) :=
  (sem_u1 d 130 [3] 17 3 _ _ _).trans rfl
set_option maxRecDepth 100000 in
theorem e_M_move_t33_32_0 (d : Nat) (x1 : Int32) (x3 : Int32) (V : Mem) : sem d 130 0 [some (.inr (.inr (33, 0))), some (.inl x1), some (.inr (.inr (32, 0))), some (.inl x3), none] [] V = sem d 130 3 [some (.inr (.inr (33, 0))), some (.inl x1), some (.inr (.inr (32, 0))), some (.inl x3), some (.inl 0)] [] V :=
  (sem_u1 d 130 [3] 4 0 _ _ _).trans rfl
set_option maxRecDepth 100000 in
theorem e_M_move_t33_32_3 (d : Nat) (x1 : Int32) (x3 : Int32) (x4 : Int32) (V : Mem) : sem d 130 3 [some (.inr (.inr (33, 0))), some (.inl x1), some (.inr (.inr (32, 0))), some (.inl x3), some (.inl x4)] [] V = if x4 < 178 then if x1 + x4 < 0 ∨ 178 ≤ Int32.toNatClampNeg (x1 + x4) then none else if x3 + x4 < 0 ∨ 178 ≤ Int32.toNatClampNeg (x3 + x4) then none else sem d 130 3 [some (.inr (.inr (33, 0))), some (.inl x1), some (.inr (.inr (32, 0))), some (.inl x3), some (.inl (x4 + 1))] [] (mset V.1 32 0 (Int32.toNatClampNeg (x3 + x4)) (V.1 33 0 (Int32.toNatClampNeg (x1 + x4))), V.2) else some (none, V) :=
  (sem_u1 d 130 [3] 17 3 _ _ _).trans rfl
set_option maxRecDepth 100000 in
theorem e_M_move_t32_40_0 (d : Nat) (x1 : Int32) (x3 : Int32) (V : Mem) : sem d 130 0 [some (.inr (.inr (32, 0))), some (.inl x1), some (.inr (.inr (40, 0))), some (.inl x3), none] [] V = sem d 130 3 [some (.inr (.inr (32, 0))), some (.inl x1), some (.inr (.inr (40, 0))), some (.inl x3), some (.inl 0)] [] V :=
  (sem_u1 d 130 [3] 4 0 _ _ _).trans rfl
set_option maxRecDepth 100000 in
theorem e_M_move_t32_40_3 (d : Nat) (x1 : Int32) (x3 : Int32) (x4 : Int32) (V : Mem) : sem d 130 3 [some (.inr (.inr (32, 0))), some (.inl x1), some (.inr (.inr (40, 0))), some (.inl x3), some (.inl x4)] [] V = if x4 < 178 then if x1 + x4 < 0 ∨ 178 ≤ Int32.toNatClampNeg (x1 + x4) then none else if x3 + x4 < 0 ∨ 890 ≤ Int32.toNatClampNeg (x3 + x4) then none else sem d 130 3 [some (.inr (.inr (32, 0))), some (.inl x1), some (.inr (.inr (40, 0))), some (.inl x3), some (.inl (x4 + 1))] [] (mset V.1 40 0 (Int32.toNatClampNeg (x3 + x4)) (V.1 32 0 (Int32.toNatClampNeg (x1 + x4))), V.2) else some (none, V) :=
  (sem_u1 d 130 [3] 17 3 _ _ _).trans rfl
set_option maxRecDepth 100000 in
theorem e_M_move_t40_32_0 (d : Nat) (x1 : Int32) (x3 : Int32) (V : Mem) : sem d 130 0 [some (.inr (.inr (40, 0))), some (.inl x1), some (.inr (.inr (32, 0))), some (.inl x3), none] [] V = sem d 130 3 [some (.inr (.inr (40, 0))), some (.inl x1), some (.inr (.inr (32, 0))), some (.inl x3), some (.inl 0)] [] V :=
  (sem_u1 d 130 [3] 4 0 _ _ _).trans rfl
set_option maxRecDepth 100000 in
theorem e_M_move_t40_32_3 (d : Nat) (x1 : Int32) (x3 : Int32) (x4 : Int32) (V : Mem) : sem d 130 3 [some (.inr (.inr (40, 0))), some (.inl x1), some (.inr (.inr (32, 0))), some (.inl x3), some (.inl x4)] [] V = if x4 < 178 then if x1 + x4 < 0 ∨ 890 ≤ Int32.toNatClampNeg (x1 + x4) then none else if x3 + x4 < 0 ∨ 178 ≤ Int32.toNatClampNeg (x3 + x4) then none else sem d 130 3 [some (.inr (.inr (40, 0))), some (.inl x1), some (.inr (.inr (32, 0))), some (.inl x3), some (.inl (x4 + 1))] [] (mset V.1 32 0 (Int32.toNatClampNeg (x3 + x4)) (V.1 40 0 (Int32.toNatClampNeg (x1 + x4))), V.2) else some (none, V) :=
  (sem_u1 d 130 [3] 17 3 _ _ _).trans rfl
/-! M_isPoint -/
set_option maxRecDepth 100000 in
theorem e_M_isPoint_0 (d : Nat) (x1 : Int64) (V : Mem) : sem d 131 0 [some (.inr (.inr (30, 0))), some (.inr (.inl x1)), none] [] V = (clI d 128 [.inr (.inl x1), .inr (.inl 0), .inr (.inl (Int32.toInt64 ((V.1 32 0 (174)) - 1)))] V).bind fun W1 => if W1.1 = 0 ∨ W1.1 = 1 then some (some (.inl W1.1), W1.2) else none :=
  (sem_u1 d 131 [] 12 0 _ _ _).trans rfl
/-! M_isParish -/
set_option maxRecDepth 100000 in
theorem e_M_isParish_0 (d : Nat) (x1 : Int32) (V : Mem) : sem d 132 0 [some (.inr (.inr (30, 0))), some (.inl x1)] [] V = (clI d 128 [.inr (.inl (Int32.toInt64 x1)), .inr (.inl 0), .inr (.inl (Int32.toInt64 ((V.1 32 0 (175)) - 1)))] V).bind fun W1 => if W1.1 = 0 ∨ W1.1 = 1 then some (some (.inl W1.1), W1.2) else none :=
  (sem_u1 d 132 [] 13 0 _ _ _).trans rfl
/-! M_cell -/
set_option maxRecDepth 100000 in
theorem e_M_cell_0 (d : Nat) (x1 : Int32) (V : Mem) : sem d 133 0 [some (.inr (.inr (30, 0))), some (.inl x1)] [] V = if 3 * x1 < 0 ∨ 178 ≤ Int32.toNatClampNeg (3 * x1) then none else some (some (.inl (V.1 32 0 (Int32.toNatClampNeg (3 * x1)))), V) :=
  (sem_u1 d 133 [] 8 0 _ _ _).trans rfl
/-! M_bright -/
set_option maxRecDepth 100000 in
theorem e_M_bright_0 (d : Nat) (x1 : Int32) (V : Mem) : sem d 134 0 [some (.inr (.inr (30, 0))), some (.inl x1)] [] V = if (3 * x1) + 1 < 0 ∨ 178 ≤ Int32.toNatClampNeg ((3 * x1) + 1) then none else some (some (.inl (V.1 32 0 (Int32.toNatClampNeg ((3 * x1) + 1)))), V) :=
  (sem_u1 d 134 [] 10 0 _ _ _).trans rfl
/-! M_wanted -/
set_option maxRecDepth 100000 in
theorem e_M_wanted_0 (d : Nat) (x1 : Int32) (V : Mem) : sem d 135 0 [some (.inr (.inr (30, 0))), some (.inl x1)] [] V = if (3 * x1) + 2 < 0 ∨ 178 ≤ Int32.toNatClampNeg ((3 * x1) + 2) then none else some (some (.inl (V.1 32 0 (Int32.toNatClampNeg ((3 * x1) + 2)))), V) :=
  (sem_u1 d 135 [] 10 0 _ _ _).trans rfl
/-! M_isWanted -/
set_option maxRecDepth 100000 in
theorem e_M_isWanted_0 (d : Nat) (x1 : Int32) (x2 : Int32) (V : Mem) : sem d 136 0 [some (.inr (.inr (30, 0))), some (.inl x1), some (.inl x2)] [] V = (clI d 135 [.inr (.inr (30, 0)), .inl x1] V).bind fun W1 => if (W1.1 >>> (x2 &&& 31)) &&& 1 = 1 then some (some (.inl 1), W1.2) else some (some (.inl 0), W1.2) :=
  (sem_u1 d 136 [] 13 0 _ _ _).trans rfl
/-! M_kind -/
set_option maxRecDepth 100000 in
theorem e_M_kind_0 (d : Nat) (x1 : Int32) (V : Mem) : sem d 137 0 [some (.inr (.inr (30, 0))), some (.inl x1)] [] V = if 36 + (23 * x1) < 0 ∨ 178 ≤ Int32.toNatClampNeg (36 + (23 * x1)) then none else some (some (.inl (V.1 32 0 (Int32.toNatClampNeg (36 + (23 * x1))))), V) :=
  (sem_u1 d 137 [] 10 0 _ _ _).trans rfl
/-! M_a -/
set_option maxRecDepth 100000 in
theorem e_M_a_0 (d : Nat) (x1 : Int32) (V : Mem) : sem d 138 0 [some (.inr (.inr (30, 0))), some (.inl x1)] [] V = if (36 + (23 * x1)) + 1 < 0 ∨ 178 ≤ Int32.toNatClampNeg ((36 + (23 * x1)) + 1) then none else some (some (.inl (V.1 32 0 (Int32.toNatClampNeg ((36 + (23 * x1)) + 1)))), V) :=
  (sem_u1 d 138 [] 12 0 _ _ _).trans rfl
/-! M_lines -/
set_option maxRecDepth 100000 in
theorem e_M_lines_0 (d : Nat) (x1 : Int32) (V : Mem) : sem d 139 0 [some (.inr (.inr (30, 0))), some (.inl x1)] [] V = if (36 + (23 * x1)) + 2 < 0 ∨ 178 ≤ Int32.toNatClampNeg ((36 + (23 * x1)) + 2) then none else some (some (.inl (V.1 32 0 (Int32.toNatClampNeg ((36 + (23 * x1)) + 2)))), V) :=
  (sem_u1 d 139 [] 12 0 _ _ _).trans rfl
