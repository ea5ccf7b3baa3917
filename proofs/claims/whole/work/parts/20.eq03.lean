/-! M_end -/
set_option maxRecDepth 100000 in
theorem e_M_end_0 (d : Nat) (x1 : Int32) (x2 : Int32) (x3 : Int32) (V : Mem) : sem d 140 0 [some (.inr (.inr (30, 0))), some (.inl x1), some (.inl x2), some (.inl x3)] [] V = if (((36 + (23 * x1)) + 3) + (2 * x2)) + x3 < 0 ∨ 178 ≤ Int32.toNatClampNeg ((((36 + (23 * x1)) + 3) + (2 * x2)) + x3) then none else some (some (.inl (V.1 32 0 (Int32.toNatClampNeg ((((36 + (23 * x1)) + 3) + (2 * x2)) + x3)))), V) :=
  (sem_u1 d 140 [] 18 0 _ _ _).trans rfl
/-! M_addPoint -/
set_option maxRecDepth 100000 in
theorem e_M_addPoint_0 (d : Nat) (x1 : Int32) (x2 : Int32) (V : Mem) : sem d 141 0 [some (.inr (.inr (30, 0))), some (.inl x1), some (.inl x2), none] [] V = if 3 * (V.1 32 0 (174)) < 0 ∨ 178 ≤ Int32.toNatClampNeg (3 * (V.1 32 0 (174))) then none else if (3 * (V.1 32 0 (174))) + 1 < 0 ∨ 178 ≤ Int32.toNatClampNeg ((3 * (V.1 32 0 (174))) + 1) then none else if (3 * (V.1 32 0 (174))) + 2 < 0 ∨ 178 ≤ Int32.toNatClampNeg ((3 * (V.1 32 0 (174))) + 2) then none else some (some (.inl (V.1 32 0 (174))), (mset (mset (mset (mset V.1 32 0 (Int32.toNatClampNeg (3 * (V.1 32 0 (174)))) x1) 32 0 (Int32.toNatClampNeg ((3 * (V.1 32 0 (174))) + 1)) x2) 32 0 (Int32.toNatClampNeg ((3 * (V.1 32 0 (174))) + 2)) 0) 32 0 (174) (((mset (mset (mset V.1 32 0 (Int32.toNatClampNeg (3 * (V.1 32 0 (174)))) x1) 32 0 (Int32.toNatClampNeg ((3 * (V.1 32 0 (174))) + 1)) x2) 32 0 (Int32.toNatClampNeg ((3 * (V.1 32 0 (174))) + 2)) 0) 32 0 (174)) + 1), V.2)) :=
  (sem_u1 d 141 [] 41 0 _ _ _).trans rfl
/-! M_addParish -/
set_option maxRecDepth 100000 in
theorem e_M_addParish_0 (d : Nat) (x1 : Int32) (x2 : Int32) (V : Mem) : sem d 142 0 [some (.inr (.inr (30, 0))), some (.inl x1), some (.inl x2), none] [] V = if 36 + (23 * (V.1 32 0 (175))) < 0 ∨ 178 ≤ Int32.toNatClampNeg (36 + (23 * (V.1 32 0 (175)))) then none else if (36 + (23 * (V.1 32 0 (175)))) + 1 < 0 ∨ 178 ≤ Int32.toNatClampNeg ((36 + (23 * (V.1 32 0 (175)))) + 1) then none else if (36 + (23 * (V.1 32 0 (175)))) + 2 < 0 ∨ 178 ≤ Int32.toNatClampNeg ((36 + (23 * (V.1 32 0 (175)))) + 2) then none else some (some (.inl (V.1 32 0 (175))), (mset (mset (mset (mset V.1 32 0 (Int32.toNatClampNeg (36 + (23 * (V.1 32 0 (175))))) x1) 32 0 (Int32.toNatClampNeg ((36 + (23 * (V.1 32 0 (175)))) + 1)) x2) 32 0 (Int32.toNatClampNeg ((36 + (23 * (V.1 32 0 (175)))) + 2)) 0) 32 0 (175) (((mset (mset (mset V.1 32 0 (Int32.toNatClampNeg (36 + (23 * (V.1 32 0 (175))))) x1) 32 0 (Int32.toNatClampNeg ((36 + (23 * (V.1 32 0 (175)))) + 1)) x2) 32 0 (Int32.toNatClampNeg ((36 + (23 * (V.1 32 0 (175)))) + 2)) 0) 32 0 (175)) + 1), V.2)) :=
  (sem_u1 d 142 [] 47 0 _ _ _).trans rfl
/-! M_drawn -/
set_option maxRecDepth 100000 in
theorem e_M_drawn_0 (d : Nat) (x1 : Int32) (x2 : Int32) (x3 : Int32) (V : Mem) : sem d 143 0 [some (.inr (.inr (30, 0))), some (.inl x1), some (.inl x2), some (.inl x3), none, none, none] [] V = sem d 143 6 [some (.inr (.inr (30, 0))), some (.inl x1), some (.inl x2), some (.inl x3), some (.inl (-1)), some (.inl 0), none] [] V :=
  (sem_u1 d 143 [6, 40, 64, 68, 69, 83] 6 0 _ _ _).trans rfl
set_option maxRecDepth 100000 in
theorem e_M_drawn_6 (d : Nat) (x1 : Int32) (x2 : Int32) (x3 : Int32) (x4 : Int32) (x5 : Int32) (V : Mem) : sem d 143 6 [some (.inr (.inr (30, 0))), some (.inl x1), some (.inl x2), some (.inl x3), some (.inl x4), some (.inl x5), none] [] V = (clI d 139 [.inr (.inr (30, 0)), .inl x1] V).bind fun W1 => if x5 < W1.1 then (clI d 140 [.inr (.inr (30, 0)), .inl x1, .inl x5, .inl 0] W1.2).bind fun W2 => if W2.1 = x2 then (clI d 140 [.inr (.inr (30, 0)), .inl x1, .inl x5, .inl 1] W2.2).bind fun W3 => if W3.1 = x3 then sem d 143 64 [some (.inr (.inr (30, 0))), some (.inl x1), some (.inl x2), some (.inl x3), some (.inl x4), some (.inl x5), none] [] W3.2 else sem d 143 40 [some (.inr (.inr (30, 0))), some (.inl x1), some (.inl x2), some (.inl x3), some (.inl x4), some (.inl x5), none] [] W3.2 else sem d 143 40 [some (.inr (.inr (30, 0))), some (.inl x1), some (.inl x2), some (.inl x3), some (.inl x4), some (.inl x5), none] [] W2.2 else some (some (.inl x4), W1.2) :=
  (sem_u1 d 143 [6, 40, 64, 68, 69, 83] 21 6 _ _ _).trans rfl
set_option maxRecDepth 100000 in
theorem e_M_drawn_40 (d : Nat) (x1 : Int32) (x2 : Int32) (x3 : Int32) (x4 : Int32) (x5 : Int32) (V : Mem) : sem d 143 40 [some (.inr (.inr (30, 0))), some (.inl x1), some (.inl x2), some (.inl x3), some (.inl x4), some (.inl x5), none] [] V = (clI d 140 [.inr (.inr (30, 0)), .inl x1, .inl x5, .inl 0] V).bind fun W1 => if W1.1 = x3 then (clI d 140 [.inr (.inr (30, 0)), .inl x1, .inl x5, .inl 1] W1.2).bind fun W2 => if W2.1 = x2 then sem d 143 64 [some (.inr (.inr (30, 0))), some (.inl x1), some (.inl x2), some (.inl x3), some (.inl x4), some (.inl x5), none] [] W2.2 else sem d 143 68 [some (.inr (.inr (30, 0))), some (.inl x1), some (.inl x2), some (.inl x3), some (.inl x4), some (.inl x5), none] [] W2.2 else sem d 143 68 [some (.inr (.inr (30, 0))), some (.inl x1), some (.inl x2), some (.inl x3), some (.inl x4), some (.inl x5), none] [] W1.2 :=
  (sem_u1 d 143 [6, 40, 64, 68, 69, 83] 16 40 _ _ _).trans rfl
set_option maxRecDepth 100000 in
theorem e_M_drawn_64 (d : Nat) (x1 : Int32) (x2 : Int32) (x3 : Int32) (x4 : Int32) (x5 : Int32) (V : Mem) : sem d 143 64 [some (.inr (.inr (30, 0))), some (.inl x1), some (.inl x2), some (.inl x3), some (.inl x4), some (.inl x5), none] [] V = sem d 143 69 [some (.inr (.inr (30, 0))), some (.inl x1), some (.inl x2), some (.inl x3), some (.inl x4), some (.inl x5), none] [.inl 1] V :=
  (sem_u1 d 143 [6, 40, 64, 68, 69, 83] 4 64 _ _ _).trans rfl
set_option maxRecDepth 100000 in
theorem e_M_drawn_68 (d : Nat) (x1 : Int32) (x2 : Int32) (x3 : Int32) (x4 : Int32) (x5 : Int32) (V : Mem) : sem d 143 68 [some (.inr (.inr (30, 0))), some (.inl x1), some (.inl x2), some (.inl x3), some (.inl x4), some (.inl x5), none] [] V = sem d 143 69 [some (.inr (.inr (30, 0))), some (.inl x1), some (.inl x2), some (.inl x3), some (.inl x4), some (.inl x5), none] [.inl 0] V :=
  (sem_u1 d 143 [6, 40, 64, 68, 69, 83] 3 68 _ _ _).trans rfl
set_option maxRecDepth 100000 in
theorem e_M_drawn_69 (d : Nat) (x1 : Int32) (x2 : Int32) (x3 : Int32) (x4 : Int32) (x5 : Int32) (z0 : Int32) (V : Mem) : sem d 143 69 [some (.inr (.inr (30, 0))), some (.inl x1), some (.inl x2), some (.inl x3), some (.inl x4), some (.inl x5), none] [.inl z0] V = if z0 = 0 then sem d 143 83 [some (.inr (.inr (30, 0))), some (.inl x1), some (.inl x2), some (.inl x3), some (.inl x4), some (.inl x5), some (.inl z0)] [.inl x4] V else sem d 143 83 [some (.inr (.inr (30, 0))), some (.inl x1), some (.inl x2), some (.inl x3), some (.inl x4), some (.inl x5), some (.inl z0)] [.inl x5] V :=
  (sem_u1 d 143 [6, 40, 64, 68, 69, 83] 7 69 _ _ _).trans rfl
set_option maxRecDepth 100000 in
theorem e_M_drawn_83 (d : Nat) (x1 : Int32) (x2 : Int32) (x3 : Int32) (x4 : Int32) (x5 : Int32) (x6 : Int32) (z0 : Int32) (V : Mem) : sem d 143 83 [some (.inr (.inr (30, 0))), some (.inl x1), some (.inl x2), some (.inl x3), some (.inl x4), some (.inl x5), some (.inl x6)] [.inl z0] V = sem d 143 6 [some (.inr (.inr (30, 0))), some (.inl x1), some (.inl x2), some (.inl x3), some (.inl z0), some (.inl (x5 + 1)), none] [] V :=
  (sem_u1 d 143 [6, 40, 64, 68, 69, 83] 5 83 _ _ _).trans rfl
/-! M_draw -/
set_option maxRecDepth 100000 in
theorem e_M_draw_0 (d : Nat) (x1 : Int32) (x2 : Int32) (x3 : Int32) (V : Mem) : sem d 144 0 [some (.inr (.inr (30, 0))), some (.inl x1), some (.inl x2), some (.inl x3), none] [] V = (clI d 139 [.inr (.inr (30, 0)), .inl x1] V).bind fun W1 => if ((36 + (23 * x1)) + 3) + (2 * W1.1) < 0 ∨ 178 ≤ Int32.toNatClampNeg (((36 + (23 * x1)) + 3) + (2 * W1.1)) then none else if ((36 + (23 * x1)) + 4) + (2 * W1.1) < 0 ∨ 178 ≤ Int32.toNatClampNeg (((36 + (23 * x1)) + 4) + (2 * W1.1)) then none else if (36 + (23 * x1)) + 2 < 0 ∨ 178 ≤ Int32.toNatClampNeg ((36 + (23 * x1)) + 2) then none else if (36 + (23 * x1)) + 2 < 0 ∨ 178 ≤ Int32.toNatClampNeg ((36 + (23 * x1)) + 2) then none else some (some (.inl (W1.1 + 1)), (mset (mset (mset W1.2.1 32 0 (Int32.toNatClampNeg (((36 + (23 * x1)) + 3) + (2 * W1.1))) x2) 32 0 (Int32.toNatClampNeg (((36 + (23 * x1)) + 4) + (2 * W1.1))) x3) 32 0 (Int32.toNatClampNeg ((36 + (23 * x1)) + 2)) (((mset (mset W1.2.1 32 0 (Int32.toNatClampNeg (((36 + (23 * x1)) + 3) + (2 * W1.1))) x2) 32 0 (Int32.toNatClampNeg (((36 + (23 * x1)) + 4) + (2 * W1.1))) x3) 32 0 (Int32.toNatClampNeg ((36 + (23 * x1)) + 2))) + 1), W1.2.2)) :=
  (sem_u1 d 144 [] 53 0 _ _ _).trans rfl
/-! M_erase -/
set_option maxRecDepth 100000 in
theorem e_M_erase_0 (d : Nat) (x1 : Int32) (x2 : Int32) (V : Mem) : sem d 145 0 [some (.inr (.inr (30, 0))), some (.inl x1), some (.inl x2), none] [] V = sem d 145 14 [some (.inr (.inr (30, 0))), some (.inl x1), some (.inl x2), some (.inl (((36 + (23 * x1)) + 3) + (2 * x2)))] [] V :=
  (sem_u1 d 145 [14] 14 0 _ _ _).trans rfl
set_option maxRecDepth 100000 in
theorem e_M_erase_14 (d : Nat) (x1 : Int32) (x2 : Int32) (x3 : Int32) (V : Mem) : sem d 145 14 [some (.inr (.inr (30, 0))), some (.inl x1), some (.inl x2), some (.inl x3)] [] V = (clI d 139 [.inr (.inr (30, 0)), .inl x1] V).bind fun W1 => if x3 < ((36 + (23 * x1)) + 1) + (2 * W1.1) then if x3 + 2 < 0 ∨ 178 ≤ Int32.toNatClampNeg (x3 + 2) then none else if x3 < 0 ∨ 178 ≤ Int32.toNatClampNeg x3 then none else sem d 145 14 [some (.inr (.inr (30, 0))), some (.inl x1), some (.inl x2), some (.inl (x3 + 1))] [] (mset W1.2.1 32 0 (Int32.toNatClampNeg x3) (W1.2.1 32 0 (Int32.toNatClampNeg (x3 + 2))), W1.2.2) else if (36 + (23 * x1)) + 2 < 0 ∨ 178 ≤ Int32.toNatClampNeg ((36 + (23 * x1)) + 2) then none else if (36 + (23 * x1)) + 2 < 0 ∨ 178 ≤ Int32.toNatClampNeg ((36 + (23 * x1)) + 2) then none else (clI d 139 [.inr (.inr (30, 0)), .inl x1] (mset W1.2.1 32 0 (Int32.toNatClampNeg ((36 + (23 * x1)) + 2)) ((W1.2.1 32 0 (Int32.toNatClampNeg ((36 + (23 * x1)) + 2))) - 1), W1.2.2)).bind fun W2 => some (some (.inl W2.1), W2.2) :=
  (sem_u1 d 145 [14] 34 14 _ _ _).trans rfl
/-! M_eraseIn -/
set_option maxRecDepth 100000 in
theorem e_M_eraseIn_0 (d : Nat) (x1 : Int32) (x2 : Int32) (V : Mem) : sem d 146 0 [some (.inr (.inr (30, 0))), some (.inl x1), some (.inl x2), none, none] [] V = (clI d 139 [.inr (.inr (30, 0)), .inl x1] V).bind fun W1 => sem d 146 11 [some (.inr (.inr (30, 0))), some (.inl x1), some (.inl x2), some (.inl 0), some (.inl (W1.1 - 1))] [] W1.2 :=
  (sem_u1 d 146 [11, 40, 51] 10 0 _ _ _).trans rfl
set_option maxRecDepth 100000 in
theorem e_M_eraseIn_11 (d : Nat) (x1 : Int32) (x2 : Int32) (x3 : Int32) (x4 : Int32) (V : Mem) : sem d 146 11 [some (.inr (.inr (30, 0))), some (.inl x1), some (.inl x2), some (.inl x3), some (.inl x4)] [] V = if x4 < 0 then some (some (.inl x3), V) else (clI d 140 [.inr (.inr (30, 0)), .inl x1, .inl x4, .inl 0] V).bind fun W1 => if W1.1 = x2 then sem d 146 40 [some (.inr (.inr (30, 0))), some (.inl x1), some (.inl x2), some (.inl x3), some (.inl x4)] [] W1.2 else (clI d 140 [.inr (.inr (30, 0)), .inl x1, .inl x4, .inl 1] W1.2).bind fun W2 => if W2.1 = x2 then sem d 146 40 [some (.inr (.inr (30, 0))), some (.inl x1), some (.inl x2), some (.inl x3), some (.inl x4)] [] W2.2 else sem d 146 51 [some (.inr (.inr (30, 0))), some (.inl x1), some (.inl x2), some (.inl x3), some (.inl x4)] [] W2.2 :=
  (sem_u1 d 146 [11, 40, 51] 18 11 _ _ _).trans rfl
set_option maxRecDepth 100000 in
theorem e_M_eraseIn_40 (d : Nat) (x1 : Int32) (x2 : Int32) (x3 : Int32) (x4 : Int32) (V : Mem) : sem d 146 40 [some (.inr (.inr (30, 0))), some (.inl x1), some (.inl x2), some (.inl x3), some (.inl x4)] [] V = (clI d 145 [.inr (.inr (30, 0)), .inl x1, .inl x4] V).bind fun W1 => sem d 146 51 [some (.inr (.inr (30, 0))), some (.inl x1), some (.inl x2), some (.inl (x3 + 1)), some (.inl x4)] [] W1.2 :=
  (sem_u1 d 146 [11, 40, 51] 8 40 _ _ _).trans rfl
set_option maxRecDepth 100000 in
theorem e_M_eraseIn_51 (d : Nat) (x1 : Int32) (x2 : Int32) (x3 : Int32) (x4 : Int32) (V : Mem) : sem d 146 51 [some (.inr (.inr (30, 0))), some (.inl x1), some (.inl x2), some (.inl x3), some (.inl x4)] [] V = sem d 146 11 [some (.inr (.inr (30, 0))), some (.inl x1), some (.inl x2), some (.inl x3), some (.inl (x4 + (-1)))] [] V :=
  (sem_u1 d 146 [11, 40, 51] 4 51 _ _ _).trans rfl
/-! M_point -/
set_option maxRecDepth 100000 in
theorem e_M_point_0 (d : Nat) (x1 : Int32) (x2 : Int32) (V : Mem) : sem d 147 0 [some (.inr (.inr (30, 0))), some (.inl x1), some (.inl x2)] [] V = (clI d 128 [.inr (.inl (Int32.toInt64 x1)), .inr (.inl 0), .inr (.inl 99)] V).bind fun W1 => if W1.1 = 0 then sem d 147 24 [some (.inr (.inr (30, 0))), some (.inl x1), some (.inl x2)] [] W1.2 else (clI d 128 [.inr (.inl (Int32.toInt64 x2)), .inr (.inl 1), .inr (.inl 9)] W1.2).bind fun W2 => if W2.1 = 0 then sem d 147 24 [some (.inr (.inr (30, 0))), some (.inl x1), some (.inl x2)] [] W2.2 else if W2.2.1 32 0 (174) = 12 then (clI d 129 [.inr (.inr (30, 0)), .inl (-6)] W2.2).bind fun W3 => some (some (.inl W3.1), W3.2) else (clI d 141 [.inr (.inr (30, 0)), .inl x1, .inl x2] W2.2).bind fun W4 => some (some (.inl W4.1), W4.2) :=
  (sem_u1 d 147 [24] 24 0 _ _ _).trans rfl
set_option maxRecDepth 100000 in
theorem e_M_point_24 (d : Nat) (x1 : Int32) (x2 : Int32) (V : Mem) : sem d 147 24 [some (.inr (.inr (30, 0))), some (.inl x1), some (.inl x2)] [] V = (clI d 129 [.inr (.inr (30, 0)), .inl (-2)] V).bind fun W1 => some (some (.inl W1.1), W1.2) :=
  (sem_u1 d 147 [24] 5 24 _ _ _).trans rfl
/-! M_parish -/
set_option maxRecDepth 100000 in
theorem e_M_parish_0 (d : Nat) (x1 : Int32) (x2 : Int32) (V : Mem) : sem d 148 0 [some (.inr (.inr (30, 0))), some (.inl x1), some (.inl x2)] [] V = (clI d 128 [.inr (.inl (Int32.toInt64 x1)), .inr (.inl 0), .inr (.inl 5)] V).bind fun W1 => if W1.1 = 0 then sem d 148 24 [some (.inr (.inr (30, 0))), some (.inl x1), some (.inl x2)] [] W1.2 else (clI d 128 [.inr (.inl (Int32.toInt64 x2)), .inr (.inl 0), .inr (.inl 9)] W1.2).bind fun W2 => if W2.1 = 0 then sem d 148 24 [some (.inr (.inr (30, 0))), some (.inl x1), some (.inl x2)] [] W2.2 else if W2.2.1 32 0 (175) = 6 then (clI d 129 [.inr (.inr (30, 0)), .inl (-6)] W2.2).bind fun W3 => some (some (.inl W3.1), W3.2) else (clI d 142 [.inr (.inr (30, 0)), .inl x1, .inl x2] W2.2).bind fun W4 => some (some (.inl W4.1), W4.2) :=
  (sem_u1 d 148 [24] 24 0 _ _ _).trans rfl
set_option maxRecDepth 100000 in
theorem e_M_parish_24 (d : Nat) (x1 : Int32) (x2 : Int32) (V : Mem) : sem d 148 24 [some (.inr (.inr (30, 0))), some (.inl x1), some (.inl x2)] [] V = (clI d 129 [.inr (.inr (30, 0)), .inl (-2)] V).bind fun W1 => some (some (.inl W1.1), W1.2) :=
  (sem_u1 d 148 [24] 5 24 _ _ _).trans rfl
/-! M_wants -/
set_option maxRecDepth 100000 in
theorem e_M_wants_0 (d : Nat) (x1 : Int32) (x2 : Int32) (x3 : Int32) (V : Mem) : sem d 149 0 [some (.inr (.inr (30, 0))), some (.inl x1), some (.inl x2), some (.inl x3), none] [] V = (clI d 132 [.inr (.inr (30, 0)), .inl x1] V).bind fun W1 => if W1.1 = 0 then sem d 149 17 [some (.inr (.inr (30, 0))), some (.inl x1), some (.inl x2), some (.inl x3), none] [] W1.2 else (clI d 131 [.inr (.inr (30, 0)), .inr (.inl (Int32.toInt64 x2))] W1.2).bind fun W2 => if W2.1 = 0 then sem d 149 17 [some (.inr (.inr (30, 0))), some (.inl x1), some (.inl x2), some (.inl x3), none] [] W2.2 else (clI d 136 [.inr (.inr (30, 0)), .inl x2, .inl x1] W2.2).bind fun W3 => if W3.1 = x3 then sem d 149 54 [some (.inr (.inr (30, 0))), some (.inl x1), some (.inl x2), some (.inl x3), some (.inl W3.1)] [] W3.2 else if (3 * x2) + 2 < 0 ∨ 178 ≤ Int32.toNatClampNeg ((3 * x2) + 2) then none else if (3 * x2) + 2 < 0 ∨ 178 ≤ Int32.toNatClampNeg ((3 * x2) + 2) then none else sem d 149 54 [some (.inr (.inr (30, 0))), some (.inl x1), some (.inl x2), some (.inl x3), some (.inl W3.1)] [] (mset W3.2.1 32 0 (Int32.toNatClampNeg ((3 * x2) + 2)) ((W3.2.1 32 0 (Int32.toNatClampNeg ((3 * x2) + 2))) ^^^ (1 <<< (x1 &&& 31))), W3.2.2) :=
  (sem_u1 d 149 [17, 54, 65] 33 0 _ _ _).trans rfl
set_option maxRecDepth 100000 in
theorem e_M_wants_17 (d : Nat) (x1 : Int32) (x2 : Int32) (x3 : Int32) (V : Mem) : sem d 149 17 [some (.inr (.inr (30, 0))), some (.inl x1), some (.inl x2), some (.inl x3), none] [] V = (clI d 129 [.inr (.inr (30, 0)), .inl (-2)] V).bind fun W1 => some (some (.inl W1.1), W1.2) :=
  (sem_u1 d 149 [17, 54, 65] 5 17 _ _ _).trans rfl
set_option maxRecDepth 100000 in
theorem e_M_wants_54 (d : Nat) (x1 : Int32) (x2 : Int32) (x3 : Int32) (x4 : Int32) (V : Mem) : sem d 149 54 [some (.inr (.inr (30, 0))), some (.inl x1), some (.inl x2), some (.inl x3), some (.inl x4)] [] V = if x3 = 0 then (clI d 146 [.inr (.inr (30, 0)), .inl x1, .inl x2] V).bind fun W1 => sem d 149 65 [some (.inr (.inr (30, 0))), some (.inl x1), some (.inl x2), some (.inl x3), some (.inl x4)] [] W1.2 else sem d 149 65 [some (.inr (.inr (30, 0))), some (.inl x1), some (.inl x2), some (.inl x3), some (.inl x4)] [] V :=
  (sem_u1 d 149 [17, 54, 65] 9 54 _ _ _).trans rfl
set_option maxRecDepth 100000 in
theorem e_M_wants_65 (d : Nat) (x1 : Int32) (x2 : Int32) (x3 : Int32) (x4 : Int32) (V : Mem) : sem d 149 65 [some (.inr (.inr (30, 0))), some (.inl x1), some (.inl x2), some (.inl x3), some (.inl x4)] [] V = if x4 = 0 then some (some (.inl 0), V) else some (some (.inl 1), V) :=
  (sem_u1 d 149 [17, 54, 65] 6 65 _ _ _).trans rfl
/-! M_isPair -/
set_option maxRecDepth 100000 in
theorem e_M_isPair_0 (d : Nat) (x1 : Int32) (x2 : Int32) (x3 : Int32) (V : Mem) : sem d 150 0 [some (.inr (.inr (30, 0))), some (.inl x1), some (.inl x2), some (.inl x3)] [] V = (clI d 132 [.inr (.inr (30, 0)), .inl x1] V).bind fun W1 => if W1.1 = 0 then some (some (.inl 0), W1.2) else (clI d 131 [.inr (.inr (30, 0)), .inr (.inl (Int32.toInt64 x2))] W1.2).bind fun W2 => if W2.1 = 0 then some (some (.inl 0), W2.2) else (clI d 131 [.inr (.inr (30, 0)), .inr (.inl (Int32.toInt64 x3))] W2.2).bind fun W3 => if W3.1 = 0 then some (some (.inl 0), W3.2) else if x2 = x3 then some (some (.inl 0), W3.2) else some (some (.inl 1), W3.2) :=
  (sem_u1 d 150 [] 21 0 _ _ _).trans rfl
/-! M_line -/
set_option maxRecDepth 100000 in
theorem e_M_line_0 (d : Nat) (x1 : Int32) (x2 : Int32) (x3 : Int32) (V : Mem) : sem d 151 0 [some (.inr (.inr (30, 0))), some (.inl x1), some (.inl x2), some (.inl x3)] [] V = (clI d 150 [.inr (.inr (30, 0)), .inl x1, .inl x2, .inl x3] V).bind fun W1 => if W1.1 = 0 then (clI d 129 [.inr (.inr (30, 0)), .inl (-2)] W1.2).bind fun W2 => some (some (.inl W2.1), W2.2) else (clI d 136 [.inr (.inr (30, 0)), .inl x2, .inl x1] W1.2).bind fun W3 => if W3.1 = 0 then sem d 151 46 [some (.inr (.inr (30, 0))), some (.inl x1), some (.inl x2), some (.inl x3)] [] W3.2 else (clI d 136 [.inr (.inr (30, 0)), .inl x3, .inl x1] W3.2).bind fun W4 => if W4.1 = 0 then sem d 151 46 [some (.inr (.inr (30, 0))), some (.inl x1), some (.inl x2), some (.inl x3)] [] W4.2 else (clI d 143 [.inr (.inr (30, 0)), .inl x1, .inl x2, .inl x3] W4.2).bind fun W5 => if W5.1 = (-1) then (clI d 139 [.inr (.inr (30, 0)), .inl x1] W5.2).bind fun W6 => if W6.1 = 10 then (clI d 129 [.inr (.inr (30, 0)), .inl (-6)] W6.2).bind fun W7 => some (some (.inl W7.1), W7.2) else (clI d 144 [.inr (.inr (30, 0)), .inl x1, .inl x2, .inl x3] W6.2).bind fun W8 => some (some (.inl W8.1), W8.2) else sem d 151 46 [some (.inr (.inr (30, 0))), some (.inl x1), some (.inl x2), some (.inl x3)] [] W5.2 :=
  (sem_u1 d 151 [46] 35 0 _ _ _).trans rfl
set_option maxRecDepth 100000 in
theorem e_M_line_46 (d : Nat) (x1 : Int32) (x2 : Int32) (x3 : Int32) (V : Mem) : sem d 151 46 [some (.inr (.inr (30, 0))), some (.inl x1), some (.inl x2), some (.inl x3)] [] V = (clI d 129 [.inr (.inr (30, 0)), .inl (-5)] V).bind fun W1 => some (some (.inl W1.1), W1.2) :=
  (sem_u1 d 151 [46] 5 46 _ _ _).trans rfl
/-! M_drop -/
set_option maxRecDepth 100000 in
theorem e_M_drop_0 (d : Nat) (x1 : Int32) (x2 : Int32) (x3 : Int32) (V : Mem) : sem d 152 0 [some (.inr (.inr (30, 0))), some (.inl x1), some (.inl x2), some (.inl x3), none] [] V = (clI d 150 [.inr (.inr (30, 0)), .inl x1, .inl x2, .inl x3] V).bind fun W1 => if W1.1 = 0 then (clI d 129 [.inr (.inr (30, 0)), .inl (-2)] W1.2).bind fun W2 => some (some (.inl W2.1), W2.2) else (clI d 143 [.inr (.inr (30, 0)), .inl x1, .inl x2, .inl x3] W1.2).bind fun W3 => if W3.1 = (-1) then (clI d 129 [.inr (.inr (30, 0)), .inl (-5)] W3.2).bind fun W4 => some (some (.inl W4.1), W4.2) else (clI d 145 [.inr (.inr (30, 0)), .inl x1, .inl W3.1] W3.2).bind fun W5 => some (some (.inl W5.1), W5.2) :=
  (sem_u1 d 152 [] 21 0 _ _ _).trans rfl
/-! M_cloud -/
set_option maxRecDepth 100000 in
theorem e_M_cloud_0 (d : Nat) (x1 : Int32) (V : Mem) : sem d 153 0 [some (.inr (.inr (30, 0))), some (.inl x1), none] [] V = (clI d 128 [.inr (.inl (Int32.toInt64 x1)), .inr (.inl 0), .inr (.inl 12)] V).bind fun W1 => if W1.1 = 0 then (clI d 129 [.inr (.inr (30, 0)), .inl (-2)] W1.2).bind fun W2 => some (some (.inl W2.1), W2.2) else some (some (.inl (W1.2.1 32 0 (176))), (mset W1.2.1 32 0 (176) x1, W1.2.2)) :=
  (sem_u1 d 153 [] 19 0 _ _ _).trans rfl
/-! M_feed -/
set_option maxRecDepth 100000 in
theorem e_M_feed_0 (d : Nat) (x1 : Int32) (V : Mem) : sem d 154 0 [some (.inr (.inr (30, 0))), some (.inl x1)] [] V = (clI d 128 [.inr (.inl (Int32.toInt64 x1)), .inr (.inl 0), .inr (.inl 255)] V).bind fun W1 => if W1.1 = 0 then (clI d 129 [.inr (.inr (30, 0)), .inl (-2)] W1.2).bind fun W2 => some (some (.inl W2.1), W2.2) else if W1.2.1 30 0 6 = 250 then (clI d 129 [.inr (.inr (30, 0)), .inl (-6)] W1.2).bind fun W3 => some (some (.inl W3.1), W3.2) else if W1.2.1 30 0 6 < 0 ∨ 250 ≤ Int32.toNatClampNeg (W1.2.1 30 0 6) then none else some (some (.inl ((mset (mset W1.2.1 35 0 (Int32.toNatClampNeg (W1.2.1 30 0 6)) x1) 30 0 6 (((mset W1.2.1 35 0 (Int32.toNatClampNeg (W1.2.1 30 0 6)) x1) 30 0 6) + 1)) 30 0 6)), (mset (mset W1.2.1 35 0 (Int32.toNatClampNeg (W1.2.1 30 0 6)) x1) 30 0 6 (((mset W1.2.1 35 0 (Int32.toNatClampNeg (W1.2.1 30 0 6)) x1) 30 0 6) + 1), W1.2.2)) :=
  (sem_u1 d 154 [] 26 0 _ _ _).trans rfl
/-! M_wipe -/
set_option maxRecDepth 100000 in
theorem e_M_wipe_0 (d : Nat) (V : Mem) : sem d 155 0 [some (.inr (.inr (30, 0))), none] [] V = some (some (.inl (V.1 30 0 6)), (mset V.1 30 0 6 0, V.2)) :=
  (sem_u1 d 155 [] 9 0 _ _ _).trans rfl
/-! M_sortAt -/
set_option maxRecDepth 100000 in
theorem e_M_sortAt_0 (d : Nat) (x1 : Int32) (V : Mem) : sem d 156 0 [some (.inr (.inr (30, 0))), some (.inl x1)] [] V = if x1 < V.1 30 0 6 then if x1 < 0 ∨ 250 ≤ Int32.toNatClampNeg x1 then none else (clI d 128 [.inr (.inl (Int32.toInt64 (V.1 35 0 (Int32.toNatClampNeg x1)))), .inr (.inl 97), .inr (.inl 122)] V).bind fun W1 => if W1.1 = 0 then if x1 < 0 ∨ 250 ≤ Int32.toNatClampNeg x1 then none else (clI d 128 [.inr (.inl (Int32.toInt64 (W1.2.1 35 0 (Int32.toNatClampNeg x1)))), .inr (.inl 48), .inr (.inl 57)] W1.2).bind fun W2 => if W2.1 = 0 then if x1 < 0 ∨ 250 ≤ Int32.toNatClampNeg x1 then none else if W2.2.1 35 0 (Int32.toNatClampNeg x1) = 59 then some (some (.inl 3), W2.2) else some (some (.inl 4), W2.2) else some (some (.inl 2), W2.2) else some (some (.inl 1), W1.2) else some (some (.inl 0), V) :=
  (sem_u1 d 156 [] 32 0 _ _ _).trans rfl
/-! M_next -/
set_option maxRecDepth 100000 in
theorem e_M_next_0 (d : Nat) (V : Mem) : sem d 157 0 [some (.inr (.inr (30, 0)))] [] V = if V.1 30 0 7 < V.1 30 0 6 then if V.1 30 0 7 < 0 ∨ 250 ≤ Int32.toNatClampNeg (V.1 30 0 7) then none else if V.1 35 0 (Int32.toNatClampNeg (V.1 30 0 7)) = 32 then sem d 157 0 [some (.inr (.inr (30, 0)))] [] (mset V.1 30 0 7 ((V.1 30 0 7) + 1), V.2) else sem d 157 38 [some (.inr (.inr (30, 0)))] [] V else sem d 157 38 [some (.inr (.inr (30, 0)))] [] V :=
  (sem_u1 d 157 [0, 38, 75] 21 0 _ _ _).trans rfl
set_option maxRecDepth 100000 in
theorem e_M_next_38 (d : Nat) (V : Mem) : sem d 157 38 [some (.inr (.inr (30, 0)))] [] V = (clI d 156 [.inr (.inr (30, 0)), .inl ((mset V.1 30 0 8 (V.1 30 0 7)) 30 0 7)] (mset V.1 30 0 8 (V.1 30 0 7), V.2)).bind fun W1 => if 0 < (mset W1.2.1 30 0 9 W1.1) 30 0 9 then sem d 157 75 [some (.inr (.inr (30, 0)))] [] (mset (mset W1.2.1 30 0 9 W1.1) 30 0 7 (((mset W1.2.1 30 0 9 W1.1) 30 0 7) + 1), W1.2.2) else some (none, (mset W1.2.1 30 0 9 W1.1, W1.2.2)) :=
  (sem_u1 d 157 [0, 38, 75] 21 38 _ _ _).trans rfl
set_option maxRecDepth 100000 in
theorem e_M_next_75 (d : Nat) (V : Mem) : sem d 157 75 [some (.inr (.inr (30, 0)))] [] V = if V.1 30 0 9 < 3 then (clI d 156 [.inr (.inr (30, 0)), .inl (V.1 30 0 7)] V).bind fun W1 => if W1.1 = W1.2.1 30 0 9 then sem d 157 75 [some (.inr (.inr (30, 0)))] [] (mset W1.2.1 30 0 7 ((W1.2.1 30 0 7) + 1), W1.2.2) else some (none, W1.2) else some (none, V) :=
  (sem_u1 d 157 [0, 38, 75] 20 75 _ _ _).trans rfl
/-! M_word -/
set_option maxRecDepth 100000 in
theorem e_M_word_0 (d : Nat) (V : Mem) : sem d 158 0 [some (.inr (.inr (30, 0))), none, none, none, none] [] V = sem d 158 4 [some (.inr (.inr (30, 0))), some (.inl (-1)), some (.inl 0), none, none] [] V :=
  (sem_u1 d 158 [4, 35, 36, 40, 81, 101, 108, 117] 6 0 _ _ _).trans rfl
set_option maxRecDepth 100000 in
theorem e_M_word_4 (d : Nat) (x1 : Int32) (x2 : Int32) (V : Mem) : sem d 158 4 [some (.inr (.inr (30, 0))), some (.inl x1), some (.inl x2), none, none] [] V = if x2 < 5 then if V.1 30 0 9 = 1 then if 6 < (V.1 30 0 7) - (V.1 30 0 8) then sem d 158 35 [some (.inr (.inr (30, 0))), some (.inl x1), some (.inl x2), none, none] [] V else sem d 158 36 [some (.inr (.inr (30, 0))), some (.inl x1), some (.inl x2), none, none] [.inl 1] V else sem d 158 35 [some (.inr (.inr (30, 0))), some (.inl x1), some (.inl x2), none, none] [] V else some (some (.inl x1), V) :=
  (sem_u1 d 158 [4, 35, 36, 40, 81, 101, 108, 117] 18 4 _ _ _).trans rfl
set_option maxRecDepth 100000 in
theorem e_M_word_36 (d : Nat) (x1 : Int32) (x2 : Int32) (z0 : Int32) (V : Mem) : sem d 158 36 [some (.inr (.inr (30, 0))), some (.inl x1), some (.inl x2), none, none] [.inl z0] V = sem d 158 40 [some (.inr (.inr (30, 0))), some (.inl x1), some (.inl x2), some (.inl z0), some (.inl 0)] [] V :=
  (sem_u1 d 158 [4, 35, 36, 40, 81, 101, 108, 117] 5 36 _ _ _).trans rfl
set_option maxRecDepth 100000 in
theorem e_M_word_35 (d : Nat) (x1 : Int32) (x2 : Int32) (V : Mem) : sem d 158 35 [some (.inr (.inr (30, 0))), some (.inl x1), some (.inl x2), none, none] [] V = sem d 158 36 [some (.inr (.inr (30, 0))), some (.inl x1), some (.inl x2), none, none] [.inl 0] V :=
  (sem_u1 d 158 [4, 35, 36, 40, 81, 101, 108, 117] 3 35 _ _ _).trans rfl
set_option maxRecDepth 100000 in
theorem e_M_word_40 (d : Nat) (x1 : Int32) (x2 : Int32) (x3 : Int32) (x4 : Int32) (V : Mem) : sem d 158 40 [some (.inr (.inr (30, 0))), some (.inl x1), some (.inl x2), some (.inl x3), some (.inl x4)] [] V = if x4 < 6 then if x3 = 0 then sem d 158 108 [some (.inr (.inr (30, 0))), some (.inl x1), some (.inl x2), some (.inl x3), some (.inl x4)] [] V else if (V.1 30 0 8) + x4 < V.1 30 0 7 then if (V.1 30 0 8) + x4 < 0 ∨ 250 ≤ Int32.toNatClampNeg ((V.1 30 0 8) + x4) then none else sem d 158 81 [some (.inr (.inr (30, 0))), some (.inl x1), some (.inl x2), some (.inl x3), some (.inl x4)] [.inl (V.1 35 0 (Int32.toNatClampNeg ((V.1 30 0 8) + x4)))] V else sem d 158 81 [some (.inr (.inr (30, 0))), some (.inl x1), some (.inl x2), some (.inl x3), some (.inl x4)] [.inl 0] V else sem d 158 108 [some (.inr (.inr (30, 0))), some (.inl x1), some (.inl x2), some (.inl x3), some (.inl x4)] [] V :=
  (sem_u1 d 158 [4, 35, 36, 40, 81, 101, 108, 117] 22 40 _ _ _).trans rfl
set_option maxRecDepth 100000 in
theorem e_M_word_81 (d : Nat) (x1 : Int32) (x2 : Int32) (x3 : Int32) (x4 : Int32) (z0 : Int32) (V : Mem) : sem d 158 81 [some (.inr (.inr (30, 0))), some (.inl x1), some (.inl x2), some (.inl x3), some (.inl x4)] [.inl z0] V = if (6 * x2) + x4 < 0 ∨ 30 ≤ Int32.toNatClampNeg ((6 * x2) + x4) then none else if z0 = V.1 36 0 (Int32.toNatClampNeg ((6 * x2) + x4)) then sem d 158 101 [some (.inr (.inr (30, 0))), some (.inl x1), some (.inl x2), some (.inl x3), some (.inl x4)] [.inl 1] V else sem d 158 101 [some (.inr (.inr (30, 0))), some (.inl x1), some (.inl x2), some (.inl x3), some (.inl x4)] [.inl 0] V :=
  (sem_u1 d 158 [4, 35, 36, 40, 81, 101, 108, 117] 13 81 _ _ _).trans rfl
set_option maxRecDepth 100000 in
theorem e_M_word_108 (d : Nat) (x1 : Int32) (x2 : Int32) (x3 : Int32) (x4 : Int32) (V : Mem) : sem d 158 108 [some (.inr (.inr (30, 0))), some (.inl x1), some (.inl x2), some (.inl x3), some (.inl x4)] [] V = if x3 = 0 then sem d 158 117 [some (.inr (.inr (30, 0))), some (.inl x1), some (.inl x2), some (.inl x3), some (.inl x4)] [.inl x1] V else sem d 158 117 [some (.inr (.inr (30, 0))), some (.inl x1), some (.inl x2), some (.inl x3), some (.inl x4)] [.inl x2] V :=
  (sem_u1 d 158 [4, 35, 36, 40, 81, 101, 108, 117] 6 108 _ _ _).trans rfl
set_option maxRecDepth 100000 in
theorem e_M_word_101 (d : Nat) (x1 : Int32) (x2 : Int32) (x3 : Int32) (x4 : Int32) (z0 : Int32) (V : Mem) : sem d 158 101 [some (.inr (.inr (30, 0))), some (.inl x1), some (.inl x2), some (.inl x3), some (.inl x4)] [.inl z0] V = sem d 158 40 [some (.inr (.inr (30, 0))), some (.inl x1), some (.inl x2), some (.inl z0), some (.inl (x4 + 1))] [] V :=
  (sem_u1 d 158 [4, 35, 36, 40, 81, 101, 108, 117] 5 101 _ _ _).trans rfl
set_option maxRecDepth 100000 in
theorem e_M_word_117 (d : Nat) (x1 : Int32) (x2 : Int32) (x3 : Int32) (x4 : Int32) (z0 : Int32) (V : Mem) : sem d 158 117 [some (.inr (.inr (30, 0))), some (.inl x1), some (.inl x2), some (.inl x3), some (.inl x4)] [.inl z0] V = sem d 158 4 [some (.inr (.inr (30, 0))), some (.inl z0), some (.inl (x2 + 1)), none, none] [] V :=
  (sem_u1 d 158 [4, 35, 36, 40, 81, 101, 108, 117] 5 117 _ _ _).trans rfl
/-! M_number -/
set_option maxRecDepth 100000 in
theorem e_M_number_0 (d : Nat) (x1 : Int32) (x2 : Int32) (V : Mem) : sem d 159 0 [some (.inr (.inr (30, 0))), some (.inl x1), some (.inl x2), none, none] [] V = (clV d 157 [.inr (.inr (30, 0))] V).bind fun W1 => if W1.1 30 0 9 = 2 then if 2 < (W1.1 30 0 7) - (W1.1 30 0 8) then some (some (.inl (-1)), W1) else sem d 159 35 [some (.inr (.inr (30, 0))), some (.inl x1), some (.inl x2), some (.inl 0), some (.inl (W1.1 30 0 8))] [] W1 else some (some (.inl (-1)), W1) :=
  (sem_u1 d 159 [35] 20 0 _ _ _).trans rfl
set_option maxRecDepth 100000 in
theorem e_M_number_35 (d : Nat) (x1 : Int32) (x2 : Int32) (x3 : Int32) (x4 : Int32) (V : Mem) : sem d 159 35 [some (.inr (.inr (30, 0))), some (.inl x1), some (.inl x2), some (.inl x3), some (.inl x4)] [] V = if x4 < V.1 30 0 7 then if x4 < 0 ∨ 250 ≤ Int32.toNatClampNeg x4 then none else sem d 159 35 [some (.inr (.inr (30, 0))), some (.inl x1), some (.inl x2), some (.inl (((10 * x3) + (V.1 35 0 (Int32.toNatClampNeg x4))) - 48)), some (.inl (x4 + 1))] [] V else (clI d 128 [.inr (.inl (Int32.toInt64 x3)), .inr (.inl (Int32.toInt64 x1)), .inr (.inl (Int32.toInt64 x2))] V).bind fun W1 => if W1.1 = 0 then some (some (.inl (-1)), W1.2) else some (some (.inl x3), W1.2) :=
  (sem_u1 d 159 [35] 19 35 _ _ _).trans rfl
/-! M_isLine -/
set_option maxRecDepth 100000 in
theorem e_M_isLine_0 (d : Nat) (V : Mem) : sem d 160 0 [some (.inr (.inr (30, 0))), none, none, none] [] V = (clI d 159 [.inr (.inr (30, 0)), .inl 0, .inl ((V.1 32 0 (175)) - 1)] V).bind fun W1 => if W1.1 = (-1) then some (some (.inl 0), W1.2) else (clI d 139 [.inr (.inr (30, 0)), .inl W1.1] W1.2).bind fun W2 => if W2.1 = 10 then some (some (.inl 0), W2.2) else (clI d 159 [.inr (.inr (30, 0)), .inl 0, .inl ((W2.2.1 32 0 (174)) - 1)] W2.2).bind fun W3 => if W3.1 = (-1) then some (some (.inl 0), W3.2) else (clI d 136 [.inr (.inr (30, 0)), .inl W3.1, .inl W1.1] W3.2).bind fun W4 => if W4.1 = 0 then some (some (.inl 0), W4.2) else (clI d 159 [.inr (.inr (30, 0)), .inl 0, .inl ((W4.2.1 32 0 (174)) - 1)] W4.2).bind fun W5 => if W5.1 = (-1) then some (some (.inl 0), W5.2) else (clI d 136 [.inr (.inr (30, 0)), .inl W5.1, .inl W1.1] W5.2).bind fun W6 => if W6.1 = 0 then some (some (.inl 0), W6.2) else if W5.1 = W3.1 then some (some (.inl 0), W6.2) else (clI d 143 [.inr (.inr (30, 0)), .inl W1.1, .inl W3.1, .inl W5.1] W6.2).bind fun W7 => if W7.1 = (-1) then (clI d 144 [.inr (.inr (30, 0)), .inl W1.1, .inl W3.1, .inl W5.1] W7.2).bind fun W8 => some (some (.inl 1), W8.2) else some (some (.inl 0), W7.2) :=
  (sem_u1 d 160 [] 73 0 _ _ _).trans rfl
/-! M_isStatement -/
set_option maxRecDepth 100000 in
theorem e_M_isStatement_0 (d : Nat) (V : Mem) : sem d 161 0 [some (.inr (.inr (30, 0))), none, none, none] [] V = (clV d 157 [.inr (.inr (30, 0))] V).bind fun W1 => (clI d 158 [.inr (.inr (30, 0))] W1).bind fun W2 => if W2.1 = (-1) then some (some (.inl 0), W2.2) else if W2.1 = 0 then if W2.2.1 32 0 (174) = 12 then some (some (.inl 0), W2.2) else sem d 161 31 [some (.inr (.inr (30, 0))), some (.inl W2.1), none, none] [] W2.2 else sem d 161 31 [some (.inr (.inr (30, 0))), some (.inl W2.1), none, none] [] W2.2 :=
  (sem_u1 d 161 [31, 51, 101, 133, 153, 156] 19 0 _ _ _).trans rfl
set_option maxRecDepth 100000 in
theorem e_M_isStatement_31 (d : Nat) (x1 : Int32) (V : Mem) : sem d 161 31 [some (.inr (.inr (30, 0))), some (.inl x1), none, none] [] V = if x1 = 1 then if V.1 32 0 (175) = 6 then some (some (.inl 0), V) else sem d 161 51 [some (.inr (.inr (30, 0))), some (.inl x1), none, none] [] V else sem d 161 51 [some (.inr (.inr (30, 0))), some (.inl x1), none, none] [] V :=
  (sem_u1 d 161 [31, 51, 101, 133, 153, 156] 12 31 _ _ _).trans rfl
set_option maxRecDepth 100000 in
theorem e_M_isStatement_51 (d : Nat) (x1 : Int32) (V : Mem) : sem d 161 51 [some (.inr (.inr (30, 0))), some (.inl x1), none, none] [] V = if x1 = 3 then (clI d 160 [.inr (.inr (30, 0))] V).bind fun W1 => if W1.1 = 0 ∨ W1.1 = 1 then some (some (.inl W1.1), W1.2) else none else if x1 = 0 then sem d 161 101 [some (.inr (.inr (30, 0))), some (.inl x1), none, none] [.inl 99, .inl 0, .inr (.inr (30, 0))] V else if x1 = 1 then sem d 161 101 [some (.inr (.inr (30, 0))), some (.inl x1), none, none] [.inl 5, .inl 0, .inr (.inr (30, 0))] V else if x1 = 2 then sem d 161 101 [some (.inr (.inr (30, 0))), some (.inl x1), none, none] [.inl ((V.1 32 0 (175)) - 1), .inl 0, .inr (.inr (30, 0))] V else sem d 161 101 [some (.inr (.inr (30, 0))), some (.inl x1), none, none] [.inl 12, .inl 0, .inr (.inr (30, 0))] V :=
  (sem_u1 d 161 [31, 51, 101, 133, 153, 156] 22 51 _ _ _).trans rfl
set_option maxRecDepth 100000 in
theorem e_M_isStatement_101 (d : Nat) (x1 : Int32) (z0 : Int32) (z1 : Int32) (V : Mem) : sem d 161 101 [some (.inr (.inr (30, 0))), some (.inl x1), none, none] [.inl z0, .inl z1, .inr (.inr (30, 0))] V = (clI d 159 [.inr (.inr (30, 0)), .inl z1, .inl z0] V).bind fun W1 => if W1.1 = (-1) then sem d 161 156 [some (.inr (.inr (30, 0))), some (.inl x1), some (.inl W1.1), none] [.inl (-1)] W1.2 else if x1 = 4 then sem d 161 156 [some (.inr (.inr (30, 0))), some (.inl x1), some (.inl W1.1), none] [.inl W1.1] W1.2 else if x1 = 0 then sem d 161 133 [some (.inr (.inr (30, 0))), some (.inl x1), some (.inl W1.1), none] [.inl 1, .inr (.inr (30, 0))] W1.2 else sem d 161 133 [some (.inr (.inr (30, 0))), some (.inl x1), some (.inl W1.1), none] [.inl 0, .inr (.inr (30, 0))] W1.2 :=
  (sem_u1 d 161 [31, 51, 101, 133, 153, 156] 15 101 _ _ _).trans rfl
set_option maxRecDepth 100000 in
theorem e_M_isStatement_156 (d : Nat) (x1 : Int32) (x2 : Int32) (z0 : Int32) (V : Mem) : sem d 161 156 [some (.inr (.inr (30, 0))), some (.inl x1), some (.inl x2), none] [.inl z0] V = if z0 = (-1) then some (some (.inl 0), V) else if x1 = 0 then (clI d 141 [.inr (.inr (30, 0)), .inl x2, .inl z0] V).bind fun W1 => some (some (.inl 1), W1.2) else if x1 = 1 then (clI d 142 [.inr (.inr (30, 0)), .inl x2, .inl z0] V).bind fun W2 => some (some (.inl 1), W2.2) else if x1 = 2 then if (3 * z0) + 2 < 0 ∨ 178 ≤ Int32.toNatClampNeg ((3 * z0) + 2) then none else if (3 * z0) + 2 < 0 ∨ 178 ≤ Int32.toNatClampNeg ((3 * z0) + 2) then none else some (some (.inl 1), (mset V.1 32 0 (Int32.toNatClampNeg ((3 * z0) + 2)) ((V.1 32 0 (Int32.toNatClampNeg ((3 * z0) + 2))) ||| (1 <<< (x2 &&& 31))), V.2)) else some (some (.inl 1), (mset V.1 32 0 (176) x2, V.2)) :=
  (sem_u1 d 161 [31, 51, 101, 133, 153, 156] 30 156 _ _ _).trans rfl
set_option maxRecDepth 100000 in
theorem e_M_isStatement_133 (d : Nat) (x1 : Int32) (x2 : Int32) (z0 : Int32) (V : Mem) : sem d 161 133 [some (.inr (.inr (30, 0))), some (.inl x1), some (.inl x2), none] [.inl z0, .inr (.inr (30, 0))] V = if x1 = 2 then sem d 161 153 [some (.inr (.inr (30, 0))), some (.inl x1), some (.inl x2), none] [.inl ((V.1 32 0 (174)) - 1), .inl z0, .inr (.inr (30, 0))] V else sem d 161 153 [some (.inr (.inr (30, 0))), some (.inl x1), some (.inl x2), none] [.inl 9, .inl z0, .inr (.inr (30, 0))] V :=
  (sem_u1 d 161 [31, 51, 101, 133, 153, 156] 12 133 _ _ _).trans rfl
set_option maxRecDepth 100000 in
theorem e_M_isStatement_153 (d : Nat) (x1 : Int32) (x2 : Int32) (z0 : Int32) (z1 : Int32) (V : Mem) : sem d 161 153 [some (.inr (.inr (30, 0))), some (.inl x1), some (.inl x2), none] [.inl z0, .inl z1, .inr (.inr (30, 0))] V = (clI d 159 [.inr (.inr (30, 0)), .inl z1, .inl z0] V).bind fun W1 => sem d 161 156 [some (.inr (.inr (30, 0))), some (.inl x1), some (.inl x2), none] [.inl W1.1] W1.2 :=
  (sem_u1 d 161 [31, 51, 101, 133, 153, 156] 3 153 _ _ _).trans rfl
/-! M_sky -/
set_option maxRecDepth 100000 in
theorem e_M_sky_0 (d : Nat) (V : Mem) : sem d 162 0 [some (.inr (.inr (30, 0))), none, none] [] V = (clV d 130 [.inr (.inr (32, 0)), .inl 0, .inr (.inr (34, 0)), .inl 0] V).bind fun W1 => (clI d 161 [.inr (.inr (30, 0))] (mset W1.1 30 0 7 0, W1.2)).bind fun W2 => sem d 162 25 [some (.inr (.inr (30, 0))), some (.inl 0), some (.inl W2.1)] [] W2.2 :=
  (sem_u1 d 162 [25, 69, 70] 17 0 _ _ _).trans rfl
set_option maxRecDepth 100000 in
theorem e_M_sky_25 (d : Nat) (x1 : Int32) (x2 : Int32) (V : Mem) : sem d 162 25 [some (.inr (.inr (30, 0))), some (.inl x1), some (.inl x2)] [] V = if x2 = 0 then (clV d 130 [.inr (.inr (34, 0)), .inl 0, .inr (.inr (32, 0)), .inl 0] V).bind fun W3 => (clI d 129 [.inr (.inr (30, 0)), .inl (-2)] (mset W3.1 30 0 6 0, W3.2)).bind fun W4 => some (some (.inl ((-20) - (W4.2.1 30 0 8))), W4.2) else (clV d 157 [.inr (.inr (30, 0))] V).bind fun W1 => if W1.1 30 0 9 = 0 then some (some (.inl (x1 + 1)), (mset W1.1 30 0 6 0, W1.2)) else if W1.1 30 0 9 = 3 then (clI d 161 [.inr (.inr (30, 0))] W1).bind fun W2 => if W2.1 = 0 then sem d 162 69 [some (.inr (.inr (30, 0))), some (.inl (x1 + 1)), some (.inl x2)] [] W2.2 else sem d 162 70 [some (.inr (.inr (30, 0))), some (.inl (x1 + 1)), some (.inl x2)] [.inl 1] W2.2 else sem d 162 69 [some (.inr (.inr (30, 0))), some (.inl (x1 + 1)), some (.inl x2)] [] W1 :=
  (sem_u1 d 162 [25, 69, 70] 22 25 _ _ _).trans rfl
set_option maxRecDepth 100000 in
theorem e_M_sky_70 (d : Nat) (x1 : Int32) (x2 : Int32) (z0 : Int32) (V : Mem) : sem d 162 70 [some (.inr (.inr (30, 0))), some (.inl x1), some (.inl x2)] [.inl z0] V = sem d 162 25 [some (.inr (.inr (30, 0))), some (.inl x1), some (.inl z0)] [] V :=
  (sem_u1 d 162 [25, 69, 70] 4 70 _ _ _).trans rfl
set_option maxRecDepth 100000 in
theorem e_M_sky_69 (d : Nat) (x1 : Int32) (x2 : Int32) (V : Mem) : sem d 162 69 [some (.inr (.inr (30, 0))), some (.inl x1), some (.inl x2)] [] V = sem d 162 70 [some (.inr (.inr (30, 0))), some (.inl x1), some (.inl x2)] [.inl 0] V :=
  (sem_u1 d 162 [25, 69, 70] 3 69 _ _ _).trans rfl
/-! M_length -/
set_option maxRecDepth 100000 in
theorem e_M_length_0 (d : Nat) (x1 : Int32) (x2 : Int32) (V : Mem) : sem d 163 0 [some (.inr (.inr (30, 0))), some (.inl x1), some (.inl x2)] [] V = (clI d 133 [.inr (.inr (30, 0)), .inl x1] V).bind fun W1 => (clI d 133 [.inr (.inr (30, 0)), .inl x2] W1.2).bind fun W2 => (clI d 133 [.inr (.inr (30, 0)), .inl x1] W2.2).bind fun W3 => (clI d 133 [.inr (.inr (30, 0)), .inl x2] W3.2).bind fun W4 => some (some (.inl ((iabs ((W1.1 / 10) - (W2.1 / 10))) + (iabs ((W3.1 - W3.1 / 10 * 10) - (W4.1 - W4.1 / 10 * 10))))), W4.2) :=
  (sem_u1 d 163 [] 27 0 _ _ _).trans rfl
/-! M_lengthOf -/
set_option maxRecDepth 100000 in
theorem e_M_lengthOf_0 (d : Nat) (x1 : Int32) (x2 : Int32) (V : Mem) : sem d 164 0 [some (.inr (.inr (30, 0))), some (.inl x1), some (.inl x2)] [] V = (clI d 140 [.inr (.inr (30, 0)), .inl x1, .inl x2, .inl 0] V).bind fun W1 => (clI d 140 [.inr (.inr (30, 0)), .inl x1, .inl x2, .inl 1] W1.2).bind fun W2 => (clI d 163 [.inr (.inr (30, 0)), .inl W1.1, .inl W2.1] W2.2).bind fun W3 => some (some (.inl W3.1), W3.2) :=
  (sem_u1 d 164 [] 14 0 _ _ _).trans rfl
/-! M_lengths -/
set_option maxRecDepth 100000 in
theorem e_M_lengths_0 (d : Nat) (x1 : Int32) (V : Mem) : sem d 165 0 [some (.inr (.inr (30, 0))), some (.inl x1), none, none] [] V = sem d 165 4 [some (.inr (.inr (30, 0))), some (.inl x1), some (.inl 0), some (.inl 0)] [] V :=
  (sem_u1 d 165 [4] 6 0 _ _ _).trans rfl
set_option maxRecDepth 100000 in
theorem e_M_lengths_4 (d : Nat) (x1 : Int32) (x2 : Int32) (x3 : Int32) (V : Mem) : sem d 165 4 [some (.inr (.inr (30, 0))), some (.inl x1), some (.inl x2), some (.inl x3)] [] V = (clI d 139 [.inr (.inr (30, 0)), .inl x1] V).bind fun W1 => if x3 < W1.1 then (clI d 164 [.inr (.inr (30, 0)), .inl x1, .inl x3] W1.2).bind fun W2 => sem d 165 4 [some (.inr (.inr (30, 0))), some (.inl x1), some (.inl (x2 + W2.1)), some (.inl (x3 + 1))] [] W2.2 else some (some (.inl x2), W1.2) :=
  (sem_u1 d 165 [4] 16 4 _ _ _).trans rfl
/-! M_longest -/
set_option maxRecDepth 100000 in
theorem e_M_longest_0 (d : Nat) (x1 : Int32) (V : Mem) : sem d 166 0 [some (.inr (.inr (30, 0))), some (.inl x1), none, none] [] V = sem d 166 4 [some (.inr (.inr (30, 0))), some (.inl x1), some (.inl 0), some (.inl 0)] [] V :=
  (sem_u1 d 166 [4] 6 0 _ _ _).trans rfl
set_option maxRecDepth 100000 in
theorem e_M_longest_4 (d : Nat) (x1 : Int32) (x2 : Int32) (x3 : Int32) (V : Mem) : sem d 166 4 [some (.inr (.inr (30, 0))), some (.inl x1), some (.inl x2), some (.inl x3)] [] V = (clI d 139 [.inr (.inr (30, 0)), .inl x1] V).bind fun W1 => if x3 < W1.1 then (clI d 164 [.inr (.inr (30, 0)), .inl x1, .inl x3] W1.2).bind fun W2 => sem d 166 4 [some (.inr (.inr (30, 0))), some (.inl x1), some (.inl (imax x2 W2.1)), some (.inl (x3 + 1))] [] W2.2 else some (some (.inl x2), W1.2) :=
  (sem_u1 d 166 [4] 16 4 _ _ _).trans rfl
/-! M_ones -/
set_option maxRecDepth 100000 in
theorem e_M_ones_0 (d : Nat) (x0 : Int32) (V : Mem) : sem d 167 0 [some (.inl x0), none, none] [] V = sem d 167 4 [some (.inl x0), some (.inl 0), some (.inl 0)] [] V :=
  (sem_u1 d 167 [4] 6 0 _ _ _).trans rfl
set_option maxRecDepth 100000 in
theorem e_M_ones_4 (d : Nat) (x0 : Int32) (x1 : Int32) (x2 : Int32) (V : Mem) : sem d 167 4 [some (.inl x0), some (.inl x1), some (.inl x2)] [] V = if x2 < 12 then sem d 167 4 [some (.inl x0), some (.inl (x1 + ((x0 >>> (x2 &&& 31)) &&& 1))), some (.inl (x2 + 1))] [] V else some (some (.inl x1), V) :=
  (sem_u1 d 167 [4] 15 4 _ _ _).trans rfl
/-! M_used -/
set_option maxRecDepth 100000 in
theorem e_M_used_0 (d : Nat) (x1 : Int32) (V : Mem) : sem d 168 0 [some (.inr (.inr (30, 0))), some (.inl x1), none, none] [] V = sem d 168 4 [some (.inr (.inr (30, 0))), some (.inl x1), some (.inl 0), some (.inl 0)] [] V :=
  (sem_u1 d 168 [4] 6 0 _ _ _).trans rfl
set_option maxRecDepth 100000 in
theorem e_M_used_4 (d : Nat) (x1 : Int32) (x2 : Int32) (x3 : Int32) (V : Mem) : sem d 168 4 [some (.inr (.inr (30, 0))), some (.inl x1), some (.inl x2), some (.inl x3)] [] V = (clI d 139 [.inr (.inr (30, 0)), .inl x1] V).bind fun W1 => if x3 < W1.1 then (clI d 140 [.inr (.inr (30, 0)), .inl x1, .inl x3, .inl 0] W1.2).bind fun W2 => (clI d 140 [.inr (.inr (30, 0)), .inl x1, .inl x3, .inl 1] W2.2).bind fun W3 => sem d 168 4 [some (.inr (.inr (30, 0))), some (.inl x1), some (.inl (x2 ||| ((1 <<< (W2.1 &&& 31)) ||| (1 <<< (W3.1 &&& 31))))), some (.inl (x3 + 1))] [] W3.2 else some (some (.inl x2), W1.2) :=
  (sem_u1 d 168 [4] 27 4 _ _ _).trans rfl
/-! M_odd -/
set_option maxRecDepth 100000 in
theorem e_M_odd_0 (d : Nat) (x1 : Int32) (V : Mem) : sem d 169 0 [some (.inr (.inr (30, 0))), some (.inl x1), none, none] [] V = sem d 169 4 [some (.inr (.inr (30, 0))), some (.inl x1), some (.inl 0), some (.inl 0)] [] V :=
  (sem_u1 d 169 [4] 6 0 _ _ _).trans rfl
set_option maxRecDepth 100000 in
theorem e_M_odd_4 (d : Nat) (x1 : Int32) (x2 : Int32) (x3 : Int32) (V : Mem) : sem d 169 4 [some (.inr (.inr (30, 0))), some (.inl x1), some (.inl x2), some (.inl x3)] [] V = (clI d 139 [.inr (.inr (30, 0)), .inl x1] V).bind fun W1 => if x3 < W1.1 then (clI d 140 [.inr (.inr (30, 0)), .inl x1, .inl x3, .inl 0] W1.2).bind fun W2 => (clI d 140 [.inr (.inr (30, 0)), .inl x1, .inl x3, .inl 1] W2.2).bind fun W3 => sem d 169 4 [some (.inr (.inr (30, 0))), some (.inl x1), some (.inl (x2 ^^^ ((1 <<< (W2.1 &&& 31)) ^^^ (1 <<< (W3.1 &&& 31))))), some (.inl (x3 + 1))] [] W3.2 else some (some (.inl x2), W1.2) :=
  (sem_u1 d 169 [4] 27 4 _ _ _).trans rfl
/-! M_light -/
set_option maxRecDepth 100000 in
theorem e_M_light_0 (d : Nat) (x1 : Int32) (V : Mem) : sem d 170 0 [some (.inr (.inr (30, 0))), some (.inl x1), none, none] [] V = sem d 170 4 [some (.inr (.inr (30, 0))), some (.inl x1), some (.inl 0), some (.inl 0)] [] V :=
  (sem_u1 d 170 [4] 6 0 _ _ _).trans rfl
set_option maxRecDepth 100000 in
theorem e_M_light_4 (d : Nat) (x1 : Int32) (x2 : Int32) (x3 : Int32) (V : Mem) : sem d 170 4 [some (.inr (.inr (30, 0))), some (.inl x1), some (.inl x2), some (.inl x3)] [] V = if x3 < V.1 32 0 (174) then (clI d 168 [.inr (.inr (30, 0)), .inl x1] V).bind fun W1 => (clI d 134 [.inr (.inr (30, 0)), .inl x3] W1.2).bind fun W2 => sem d 170 4 [some (.inr (.inr (30, 0))), some (.inl x1), some (.inl (x2 + (((W1.1 >>> (x3 &&& 31)) &&& 1) * W2.1))), some (.inl (x3 + 1))] [] W2.2 else some (some (.inl x2), V) :=
  (sem_u1 d 170 [4] 24 4 _ _ _).trans rfl
/-! M_piece -/
set_option maxRecDepth 100000 in
theorem e_M_piece_0 (d : Nat) (x1 : Int32) (x2 : Int32) (V : Mem) : sem d 171 0 [some (.inr (.inr (30, 0))), some (.inl x1), some (.inl x2), none, none, none, none] [] V = sem d 171 7 [some (.inr (.inr (30, 0))), some (.inl x1), some (.inl x2), some (.inl (1 <<< (x2 &&& 31))), some (.inl 0), none, none] [] V :=
  (sem_u1 d 171 [7, 17, 64] 8 0 _ _ _).trans rfl
set_option maxRecDepth 100000 in
theorem e_M_piece_7 (d : Nat) (x1 : Int32) (x2 : Int32) (x3 : Int32) (x4 : Int32) (V : Mem) : sem d 171 7 [some (.inr (.inr (30, 0))), some (.inl x1), some (.inl x2), some (.inl x3), some (.inl x4), none, none] [] V = if x4 < 12 then sem d 171 17 [some (.inr (.inr (30, 0))), some (.inl x1), some (.inl x2), some (.inl x3), some (.inl x4), some (.inl 0), none] [] V else some (some (.inl x3), V) :=
  (sem_u1 d 171 [7, 17, 64] 7 7 _ _ _).trans rfl
set_option maxRecDepth 100000 in
theorem e_M_piece_17 (d : Nat) (x1 : Int32) (x2 : Int32) (x3 : Int32) (x4 : Int32) (x5 : Int32) (V : Mem) : sem d 171 17 [some (.inr (.inr (30, 0))), some (.inl x1), some (.inl x2), some (.inl x3), some (.inl x4), some (.inl x5), none] [] V = (clI d 139 [.inr (.inr (30, 0)), .inl x1] V).bind fun W1 => if x5 < W1.1 then (clI d 140 [.inr (.inr (30, 0)), .inl x1, .inl x5, .inl 0] W1.2).bind fun W2 => (clI d 140 [.inr (.inr (30, 0)), .inl x1, .inl x5, .inl 1] W2.2).bind fun W3 => if x3 &&& ((1 <<< (W2.1 &&& 31)) ||| (1 <<< (W3.1 &&& 31))) = 0 then sem d 171 64 [some (.inr (.inr (30, 0))), some (.inl x1), some (.inl x2), some (.inl x3), some (.inl x4), some (.inl x5), some (.inl ((1 <<< (W2.1 &&& 31)) ||| (1 <<< (W3.1 &&& 31))))] [.inl 0, .inl x3] W3.2 else sem d 171 64 [some (.inr (.inr (30, 0))), some (.inl x1), some (.inl x2), some (.inl x3), some (.inl x4), some (.inl x5), some (.inl ((1 <<< (W2.1 &&& 31)) ||| (1 <<< (W3.1 &&& 31))))] [.inl ((1 <<< (W2.1 &&& 31)) ||| (1 <<< (W3.1 &&& 31))), .inl x3] W3.2 else sem d 171 7 [some (.inr (.inr (30, 0))), some (.inl x1), some (.inl x2), some (.inl x3), some (.inl (x4 + 1)), none, none] [] W1.2 :=
  (sem_u1 d 171 [7, 17, 64] 30 17 _ _ _).trans rfl
set_option maxRecDepth 100000 in
theorem e_M_piece_64 (d : Nat) (x1 : Int32) (x2 : Int32) (x3 : Int32) (x4 : Int32) (x5 : Int32) (x6 : Int32) (z0 : Int32) (z1 : Int32) (V : Mem) : sem d 171 64 [some (.inr (.inr (30, 0))), some (.inl x1), some (.inl x2), some (.inl x3), some (.inl x4), some (.inl x5), some (.inl x6)] [.inl z0, .inl z1] V = sem d 171 17 [some (.inr (.inr (30, 0))), some (.inl x1), some (.inl x2), some (.inl (z1 ||| z0)), some (.inl x4), some (.inl (x5 + 1)), none] [] V :=
  (sem_u1 d 171 [7, 17, 64] 6 64 _ _ _).trans rfl
/-! M_pieces -/
set_option maxRecDepth 100000 in
theorem e_M_pieces_0 (d : Nat) (x1 : Int32) (x2 : Int32) (V : Mem) : sem d 172 0 [some (.inr (.inr (30, 0))), some (.inl x1), some (.inl x2), none, none, none, none] [] V = (clI d 168 [.inr (.inr (30, 0)), .inl x1] V).bind fun W1 => sem d 172 12 [some (.inr (.inr (30, 0))), some (.inl x1), some (.inl x2), some (.inl W1.1), some (.inl 0), some (.inl 0), none] [] W1.2 :=
  (sem_u1 d 172 [12, 78, 81] 10 0 _ _ _).trans rfl
set_option maxRecDepth 100000 in
theorem e_M_pieces_12 (d : Nat) (x1 : Int32) (x2 : Int32) (x3 : Int32) (x4 : Int32) (x5 : Int32) (V : Mem) : sem d 172 12 [some (.inr (.inr (30, 0))), some (.inl x1), some (.inl x2), some (.inl x3), some (.inl x4), some (.inl x5), none] [] V = if x5 < V.1 32 0 (174) then if (x3 >>> (x5 &&& 31)) &&& 1 = 1 then (clI d 171 [.inr (.inr (30, 0)), .inl x1, .inl x5] V).bind fun W1 => if x2 = 0 then sem d 172 78 [some (.inr (.inr (30, 0))), some (.inl x1), some (.inl x2), some (.inl (x3 &&& (W1.1 ^^^ (-1)))), some (.inl x4), some (.inl x5), some (.inl W1.1)] [.inl 1, .inl x4] W1.2 else (clI d 169 [.inr (.inr (30, 0)), .inl x1] W1.2).bind fun W2 => (clI d 167 [.inl (W1.1 &&& W2.1)] W2.2).bind fun W3 => sem d 172 78 [some (.inr (.inr (30, 0))), some (.inl x1), some (.inl x2), some (.inl (x3 &&& (W1.1 ^^^ (-1)))), some (.inl x4), some (.inl x5), some (.inl W1.1)] [.inl (imax 1 (W3.1 / 2)), .inl x4] W3.2 else sem d 172 81 [some (.inr (.inr (30, 0))), some (.inl x1), some (.inl x2), some (.inl x3), some (.inl x4), some (.inl x5), none] [] V else some (some (.inl x4), V) :=
  (sem_u1 d 172 [12, 78, 81] 40 12 _ _ _).trans rfl
set_option maxRecDepth 100000 in
theorem e_M_pieces_78 (d : Nat) (x1 : Int32) (x2 : Int32) (x3 : Int32) (x4 : Int32) (x5 : Int32) (x6 : Int32) (z0 : Int32) (z1 : Int32) (V : Mem) : sem d 172 78 [some (.inr (.inr (30, 0))), some (.inl x1), some (.inl x2), some (.inl x3), some (.inl x4), some (.inl x5), some (.inl x6)] [.inl z0, .inl z1] V = sem d 172 81 [some (.inr (.inr (30, 0))), some (.inl x1), some (.inl x2), some (.inl x3), some (.inl (z1 + z0)), some (.inl x5), some (.inl x6)] [] V :=
  (sem_u1 d 172 [12, 78, 81] 4 78 _ _ _).trans rfl
set_option maxRecDepth 100000 in
theorem e_M_pieces_81 (d : Nat) (x1 : Int32) (x2 : Int32) (x3 : Int32) (x4 : Int32) (x5 : Int32) (V : Mem) : sem d 172 81 [some (.inr (.inr (30, 0))), some (.inl x1), some (.inl x2), some (.inl x3), some (.inl x4), some (.inl x5), none] [] V = sem d 172 12 [some (.inr (.inr (30, 0))), some (.inl x1), some (.inl x2), some (.inl x3), some (.inl x4), some (.inl (x5 + 1)), none] [] V :=
  (sem_u1 d 172 [12, 78, 81] 4 81 _ _ _).trans rfl
set_option maxRecDepth 100000 in
theorem e_M_pieces_81v2 (d : Nat) (x1 : Int32) (x2 : Int32) (x3 : Int32) (x4 : Int32) (x5 : Int32) (x6 : Int32) (V : Mem) : sem d 172 81 [some (.inr (.inr (30, 0))), some (.inl x1), some (.inl x2), some (.inl x3), some (.inl x4), some (.inl x5), some (.inl x6)] [] V = sem d 172 12 [some (.inr (.inr (30, 0))), some (.inl x1), some (.inl x2), some (.inl x3), some (.inl x4), some (.inl (x5 + 1)), none] [] V :=
  (sem_u1 d 172 [12, 78, 81] 4 81 _ _ _).trans rfl
/-! M_isClosed -/
set_option maxRecDepth 100000 in
theorem e_M_isClosed_0 (d : Nat) (x1 : Int32) (V : Mem) : sem d 173 0 [some (.inr (.inr (30, 0))), some (.inl x1)] [] V = (clI d 139 [.inr (.inr (30, 0)), .inl x1] V).bind fun W1 => if 0 < W1.1 then (clI d 169 [.inr (.inr (30, 0)), .inl x1] W1.2).bind fun W2 => if W2.1 = 0 then some (some (.inl 1), W2.2) else some (some (.inl 0), W2.2) else some (some (.inl 0), W1.2) :=
  (sem_u1 d 173 [] 12 0 _ _ _).trans rfl
/-! M_worth -/
set_option maxRecDepth 100000 in
theorem e_M_worth_0 (d : Nat) (x1 : Int32) (V : Mem) : sem d 174 0 [some (.inr (.inr (30, 0))), some (.inl x1), none, none, none] [] V = (clI d 170 [.inr (.inr (30, 0)), .inl x1] V).bind fun W1 => (clI d 139 [.inr (.inr (30, 0)), .inl x1] W1.2).bind fun W2 => (clI d 137 [.inr (.inr (30, 0)), .inl x1] W2.2).bind fun W3 => if W3.1 = 1 then sem d 174 28 [some (.inr (.inr (30, 0))), some (.inl x1), some (.inl (W1.1 + W2.1)), some (.inl W3.1), none] [] W3.2 else if W3.1 = 3 then sem d 174 28 [some (.inr (.inr (30, 0))), some (.inl x1), some (.inl (W1.1 + W2.1)), some (.inl W3.1), none] [] W3.2 else if W3.1 = 2 then sem d 174 64 [some (.inr (.inr (30, 0))), some (.inl x1), some (.inl (W1.1 + W2.1)), some (.inl W3.1), none] [] W3.2 else if W3.1 = 4 then sem d 174 64 [some (.inr (.inr (30, 0))), some (.inl x1), some (.inl (W1.1 + W2.1)), some (.inl W3.1), none] [] W3.2 else if W3.1 = 5 then (clI d 173 [.inr (.inr (30, 0)), .inl x1] W3.2).bind fun W4 => if W4.1 = 0 then some (some (.inl (W1.1 + W2.1)), W4.2) else (clI d 138 [.inr (.inr (30, 0)), .inl x1] W4.2).bind fun W5 => some (some (.inl ((W1.1 + W2.1) + W5.1)), W5.2) else some (some (.inl (W1.1 + W2.1)), W3.2) :=
  (sem_u1 d 174 [28, 64] 39 0 _ _ _).trans rfl
set_option maxRecDepth 100000 in
theorem e_M_worth_28 (d : Nat) (x1 : Int32) (x2 : Int32) (x3 : Int32) (V : Mem) : sem d 174 28 [some (.inr (.inr (30, 0))), some (.inl x1), some (.inl x2), some (.inl x3), none] [] V = (clI d 166 [.inr (.inr (30, 0)), .inl x1] V).bind fun W1 => if x3 = 3 then some (some (.inl (2 * (x2 + (3 * W1.1)))), W1.2) else some (some (.inl (x2 + (3 * W1.1))), W1.2) :=
  (sem_u1 d 174 [28, 64] 17 28 _ _ _).trans rfl
set_option maxRecDepth 100000 in
theorem e_M_worth_64 (d : Nat) (x1 : Int32) (x2 : Int32) (x3 : Int32) (V : Mem) : sem d 174 64 [some (.inr (.inr (30, 0))), some (.inl x1), some (.inl x2), some (.inl x3), none] [] V = (clI d 172 [.inr (.inr (30, 0)), .inl x1, .inl 1] V).bind fun W1 => if x3 = 4 then (clI d 165 [.inr (.inr (30, 0)), .inl x1] W1.2).bind fun W2 => some (some (.inl (imax 0 ((imax 0 (x2 - (2 * W1.1))) - W2.1))), W2.2) else some (some (.inl (imax 0 (x2 - (2 * W1.1)))), W1.2) :=
  (sem_u1 d 174 [28, 64] 24 64 _ _ _).trans rfl
