/-! THE WORLD AT THE LAW'S LOOP
-/
def hp0 : List BC := [.inl (7, [some (.inr (.inr (0, 1))), some (.inr (.inr (0, 23))), some (.inr (.inr (0, 45))), some (.inr (.inr (0, 67))), some (.inr (.inr (0, 70))), some (.inr (.inr (0, 72))), some (.inr (.inr (0, 79))), some (.inr (.inr (0, 82))), some (.inr (.inr (0, 84))), some (.inr (.inr (0, 85))), some (.inr (.inr (0, 86))), some (.inl 0)]),
  .inl (5, [some (.inr (.inr (0, 2))), some (.inr (.inr (0, 3))), some (.inr (.inr (0, 4))), some (.inl 0), some (.inl 0), some (.inl 3), some (.inl 1)]),
  .inr (.inl (1, List.replicate 12 0)),
  .inr (.inl (1, List.replicate 12 0)),
  .inr (.inr (5, [some 5, some 8, some 11, some 14, some 17, some 20])),
  .inl (2, [some (.inr (.inr (0, 6))), some (.inr (.inr (0, 7))), some (.inl 0), some (.inl 0), some (.inl 0), some (.inl 0)]),
  .inr (.inl (1, List.replicate 10 0)),
  .inr (.inl (1, List.replicate 10 0)),
  .inl (2, [some (.inr (.inr (0, 9))), some (.inr (.inr (0, 10))), some (.inl 0), some (.inl 0), some (.inl 0), some (.inl 0)]),
  .inr (.inl (1, List.replicate 10 0)),
  .inr (.inl (1, List.replicate 10 0)),
  .inl (2, [some (.inr (.inr (0, 12))), some (.inr (.inr (0, 13))), some (.inl 0), some (.inl 0), some (.inl 0), some (.inl 0)]),
  .inr (.inl (1, List.replicate 10 0)),
  .inr (.inl (1, List.replicate 10 0)),
  .inl (2, [some (.inr (.inr (0, 15))), some (.inr (.inr (0, 16))), some (.inl 0), some (.inl 0), some (.inl 0), some (.inl 0)]),
  .inr (.inl (1, List.replicate 10 0)),
  .inr (.inl (1, List.replicate 10 0)),
  .inl (2, [some (.inr (.inr (0, 18))), some (.inr (.inr (0, 19))), some (.inl 0), some (.inl 0), some (.inl 0), some (.inl 0)]),
  .inr (.inl (1, List.replicate 10 0)),
  .inr (.inl (1, List.replicate 10 0)),
  .inl (2, [some (.inr (.inr (0, 21))), some (.inr (.inr (0, 22))), some (.inl 0), some (.inl 0), some (.inl 0), some (.inl 0)]),
  .inr (.inl (1, List.replicate 10 0)),
  .inr (.inl (1, List.replicate 10 0)),
  .inl (5, [some (.inr (.inr (0, 24))), some (.inr (.inr (0, 25))), some (.inr (.inr (0, 26))), some (.inl 0), some (.inl 0), some (.inl 3), some (.inl 1)]),
  .inr (.inl (1, List.replicate 12 0)),
  .inr (.inl (1, List.replicate 12 0)),
  .inr (.inr (5, [some 27, some 30, some 33, some 36, some 39, some 42])),
  .inl (2, [some (.inr (.inr (0, 28))), some (.inr (.inr (0, 29))), some (.inl 0), some (.inl 0), some (.inl 0), some (.inl 0)]),
  .inr (.inl (1, List.replicate 10 0)),
  .inr (.inl (1, List.replicate 10 0)),
  .inl (2, [some (.inr (.inr (0, 31))), some (.inr (.inr (0, 32))), some (.inl 0), some (.inl 0), some (.inl 0), some (.inl 0)]),
  .inr (.inl (1, List.replicate 10 0)),
  .inr (.inl (1, List.replicate 10 0)),
  .inl (2, [some (.inr (.inr (0, 34))), some (.inr (.inr (0, 35))), some (.inl 0), some (.inl 0), some (.inl 0), some (.inl 0)]),
  .inr (.inl (1, List.replicate 10 0)),
  .inr (.inl (1, List.replicate 10 0)),
  .inl (2, [some (.inr (.inr (0, 37))), some (.inr (.inr (0, 38))), some (.inl 0), some (.inl 0), some (.inl 0), some (.inl 0)]),
  .inr (.inl (1, List.replicate 10 0)),
  .inr (.inl (1, List.replicate 10 0)),
  .inl (2, [some (.inr (.inr (0, 40))), some (.inr (.inr (0, 41))), some (.inl 0), some (.inl 0), some (.inl 0), some (.inl 0)]),
  .inr (.inl (1, List.replicate 10 0)),
  .inr (.inl (1, List.replicate 10 0)),
  .inl (2, [some (.inr (.inr (0, 43))), some (.inr (.inr (0, 44))), some (.inl 0), some (.inl 0), some (.inl 0), some (.inl 0)]),
  .inr (.inl (1, List.replicate 10 0)),
  .inr (.inl (1, List.replicate 10 0)),
  .inl (5, [some (.inr (.inr (0, 46))), some (.inr (.inr (0, 47))), some (.inr (.inr (0, 48))), some (.inl 0), some (.inl 0), some (.inl 3), some (.inl 1)]),
  .inr (.inl (1, List.replicate 12 0)),
  .inr (.inl (1, List.replicate 12 0)),
  .inr (.inr (5, [some 49, some 52, some 55, some 58, some 61, some 64])),
  .inl (2, [some (.inr (.inr (0, 50))), some (.inr (.inr (0, 51))), some (.inl 0), some (.inl 0), some (.inl 0), some (.inl 0)]),
  .inr (.inl (1, List.replicate 10 0)),
  .inr (.inl (1, List.replicate 10 0)),
  .inl (2, [some (.inr (.inr (0, 53))), some (.inr (.inr (0, 54))), some (.inl 0), some (.inl 0), some (.inl 0), some (.inl 0)]),
  .inr (.inl (1, List.replicate 10 0)),
  .inr (.inl (1, List.replicate 10 0)),
  .inl (2, [some (.inr (.inr (0, 56))), some (.inr (.inr (0, 57))), some (.inl 0), some (.inl 0), some (.inl 0), some (.inl 0)]),
  .inr (.inl (1, List.replicate 10 0)),
  .inr (.inl (1, List.replicate 10 0)),
  .inl (2, [some (.inr (.inr (0, 59))), some (.inr (.inr (0, 60))), some (.inl 0), some (.inl 0), some (.inl 0), some (.inl 0)]),
  .inr (.inl (1, List.replicate 10 0)),
  .inr (.inl (1, List.replicate 10 0)),
  .inl (2, [some (.inr (.inr (0, 62))), some (.inr (.inr (0, 63))), some (.inl 0), some (.inl 0), some (.inl 0), some (.inl 0)]),
  .inr (.inl (1, List.replicate 10 0)),
  .inr (.inl (1, List.replicate 10 0)),
  .inl (2, [some (.inr (.inr (0, 65))), some (.inr (.inr (0, 66))), some (.inl 0), some (.inl 0), some (.inl 0), some (.inl 0)]),
  .inr (.inl (1, List.replicate 10 0)),
  .inr (.inl (1, List.replicate 10 0)),
  .inl (2, [some (.inr (.inr (0, 68))), some (.inr (.inr (0, 69))), some (.inl 0), some (.inl 0), some (.inl 0), some (.inl 0)]),
  .inr (.inl (1, List.replicate 10 0)),
  .inr (.inl (1, List.replicate 10 0)),
  .inl (1, [some (.inr (.inr (0, 71))), some (.inl 0), some (.inl 0), some (.inl 0), some (.inl 0), some (.inl 0), some (.inl 0), some (.inl 0), some (.inl 0)]),
  .inr (.inl (1, List.replicate 10 0)),
  .inl (3, [some (.inr (.inr (0, 73))), some (.inr (.inr (0, 74))), some (.inl 0), some (.inl 0), some (.inr (.inr (0, 75))), some (.inr (.inr (0, 76))), some (.inr (.inr (0, 77))), some (.inr (.inr (0, 78)))]),
  .inr (.inl (1, List.replicate 5 0)),
  .inr (.inl (1, List.replicate 5 0)),
  .inr (.inl (1, List.replicate 5 0)),
  .inr (.inl (1, List.replicate 5 0)),
  .inr (.inl (1, List.replicate 6 0)),
  .inr (.inl (1, List.replicate 192 0)),
  .inl (0, [some (.inr (.inr (0, 80))), some (.inr (.inr (0, 81)))]),
  .inr (.inl (1, List.replicate 6 0)),
  .inr (.inl (1, List.replicate 64 0)),
  .inl (6, [some (.inl 0), some (.inl (-1)), some (.inr (.inr (0, 83))), some (.inl 0), some (.inl 0)]),
  .inr (.inl (1, List.replicate 250 0)),
  .inr (.inr (6, [some 87, some 89, some 91, some 93, some 95, some 97, some 99, some 101])),
  .inr (.inl (1, List.replicate 5 0)),
  .inr (.inl (1, List.replicate 20 0)),
  .inl (4, [some (.inr (.inr (0, 88))), some (.inl (-1)), some (.inl 0)]),
  .inr (.inl (2, List.replicate 40 0)),
  .inl (4, [some (.inr (.inr (0, 90))), some (.inl (-1)), some (.inl 0)]),
  .inr (.inl (2, List.replicate 40 0)),
  .inl (4, [some (.inr (.inr (0, 92))), some (.inl (-1)), some (.inl 0)]),
  .inr (.inl (2, List.replicate 40 0)),
  .inl (4, [some (.inr (.inr (0, 94))), some (.inl (-1)), some (.inl 0)]),
  .inr (.inl (2, List.replicate 40 0)),
  .inl (4, [some (.inr (.inr (0, 96))), some (.inl (-1)), some (.inl 0)]),
  .inr (.inl (2, List.replicate 40 0)),
  .inl (4, [some (.inr (.inr (0, 98))), some (.inl (-1)), some (.inl 0)]),
  .inr (.inl (2, List.replicate 40 0)),
  .inl (4, [some (.inr (.inr (0, 100))), some (.inl (-1)), some (.inl 0)]),
  .inr (.inl (2, List.replicate 40 0)),
  .inl (4, [some (.inr (.inr (0, 102))), some (.inl (-1)), some (.inl 0)]),
  .inr (.inl (2, List.replicate 40 0)),
  .inl (8, [some (.inr (.inr (0, 104))), some (.inr (.inr (0, 105))), some (.inr (.inr (0, 106))), some (.inr (.inr (0, 107))), some (.inl 0), some (.inr (.inr (0, 108))), some (.inl 0), some (.inl 0), some (.inl 0), some (.inl 0), some (.inr (.inr (0, 109))), some (.inr (.inr (0, 110))), some (.inr (.inr (0, 111))), some (.inr (.inr (0, 112))), some (.inr (.inr (0, 113))), some (.inl 0), some (.inl 0), some (.inr (.inr (0, 114))), some (.inr (.inr (0, 115))), some (.inr (.inr (0, 116))), some (.inr (.inr (0, 117))), some (.inr (.inr (0, 118))), some (.inr (.inr (0, 119))), some (.inr (.inr (0, 120)))]),
  .inr (.inl (1, List.replicate 7 0)),
  .inr (.inl (1, ((List.replicate 178 0).set 176 3).set 177 1)),
  .inr (.inl (1, List.replicate 178 0)),
  .inr (.inl (1, List.replicate 178 0)),
  .inr (.inl (1, List.replicate 250 0)),
  .inr (.inl (4, [112, 111, 105, 110, 116, 0, 112, 97, 114, 105, 115, 104, 119, 97, 110, 116, 115, 0, 108, 105, 110, 101, 0, 0, 99, 108, 111, 117, 100, 0])),
  .inr (.inl (1, List.replicate 5 0)),
  .inr (.inl (1, List.replicate 5 0)),
  .inr (.inl (1, List.replicate 5 0)),
  .inr (.inl (1, List.replicate 890 0)),
  .inr (.inl (1, List.replicate 6 0)),
  .inr (.inl (1, [(-1), (-1), (-1), (-1), (-1), (-1), (-1), (-1)])),
  .inr (.inl (1, List.replicate 8 0)),
  .inr (.inl (2, List.replicate 320 0)),
  .inr (.inl (2, List.replicate 40 0)),
  .inr (.inl (1, [(-1), 0, 0, 1, 2, 0])),
  .inr (.inl (3, List.replicate 144 0))]
def dLO : DecidableEq (List (Option AV)) := inferInstance
def dBC : DecidableEq BC := @instDecidableEqSum _ _ (@instDecidableEqProd _ _ _ dLO) inferInstance
def dLB : DecidableEq (List BC) := @instDecidableEqList _ dBC
def dOV : DecidableEq (Option AV) := inferInstance
def dRY : DecidableEq (Option AV × List BC × AL × Nat × Nat) := @instDecidableEqProd _ _ dOV (@instDecidableEqProd _ _ dLB (@instDecidableEqProd _ _ dLO inferInstance))
theorem some_of {α : Type} {o : Option α} {x : α} (h : o.isSome = true) (h2 : ∀ y, o = some y → y = x) : o = some x := by
  cases o with
  | none => cases h
  | some y => rw [h2 y rfl]
def bres : Option AV × List BC × AL × Nat × Nat := (bgo 2000 4 10 0 bL0 [] [] 0 0).getD (none, [], [], 0, 0)
set_option maxRecDepth 100000 in
theorem born0 : bgo 2000 4 10 0 bL0 [] [] 0 0 = some (none, hp0, [some (.inr (.inr (9, 0))), some (.inr (.inr (0, 0))), some (.inr (.inr (0, 103))), none], 121, 5590) := some_of born (fun y hy => (show bres = y by unfold bres; rw [hy]; rfl) ▸ @of_decide_eq_true _ (dRY _ _) (by decide +kernel))
def bixL : List (List Nat) := [[0], [1, 23, 45], [2, 24, 46], [3, 25, 47], [4, 26, 48], [5, 8, 11, 14, 17, 20, 27, 30, 33, 36, 39, 42, 49, 52, 55, 58, 61, 64, 67], [6, 9, 12, 15, 18, 21, 28, 31, 34, 37, 40, 43, 50, 53, 56, 59, 62, 65, 68], [7, 10, 13, 16, 19, 22, 29, 32, 35, 38, 41, 44, 51, 54, 57, 60, 63, 66, 69], [70], [71], [72], [73], [74], [75], [76], [77], [78], [79], [80], [81], [82], [83], [84], [87, 89, 91, 93, 95, 97, 99, 101], [88, 90, 92, 94, 96, 98, 100, 102], [85], [86], [], [], [], [103], [104], [105], [106], [107], [108], [109], [110], [111], [112], [113], [114], [115], [116], [117], [118], [119], [120]]
def bix (t i : Nat) : Nat := (nth ((nth bixL t).getD []) i).getD 999
def b0n (t i k : Nat) : Int32 := match nth hp0 (bix t i) with
  | some (.inl (_, fs)) => (match nth fs k with
    | some (some (.inl x)) => x
    | _ => 0)
  | some (.inr (.inl (_, c))) => c.getD k 0
  | _ => 0
def V0 (SL : Nat) (xs : Nat → Int32) : Mem := (fun t i k => if t = 50 then (if i = 0 then xs k else 0) else if t = 51 then nI SL else b0n t i k, fun _ _ _ => 0)
theorem V0_n {SL : Nat} {xs : Nat → Int32} {t i k : Nat} (h : t < 48) : (V0 SL xs).1 t i k = b0n t i k := by
  show (if t = 50 then _ else if t = 51 then _ else _) = _
  rw [if_neg (by omega), if_neg (by omega)]
def ad0 (b : Nat) (adK g : Nat → Nat) (t i : Nat) : Nat := if t = 50 then b else if t = 52 then adK i else g (bix t i)
theorem V0_f {SL : Nat} {xs : Nat → Int32} {t i : Nat} (h : t < 48) : (V0 SL xs).1 t i = b0n t i := funext fun _ => V0_n h
def cell0 (t i : Nat) : BC := (nth hp0 (bix t i)).getD (.inl (0, []))
theorem nth0b : ∀ q ∈ allP, (nth hp0 (bix q.1 q.2)).isSome = true := by decide +kernel
theorem nth0 : ∀ q ∈ allP, nth hp0 (bix q.1 q.2) = some (cell0 q.1 q.2) := by
  intro q hq
  have h := nth0b q hq
  unfold cell0
  cases h2 : nth hp0 (bix q.1 q.2) with
  | none => rw [h2] at h; cases h
  | some c => rfl
theorem nd0 : va_nd (allP.map fun q => bix q.1 q.2) = true := by decide +kernel
/-- how the cells are, in closed words -/
def okE (t i : Nat) : Bool := match cell0 t i with
  | .inl (ci, fs) => decide (ak t = 0 ∧ ci = clsOf t ∧ fs.length = (frl t).length) && (List.range fs.length).all (fun k => match nth (frl t) k, nth fs k with
    | some none, some (some (.inl x)) => decide (x = b0n t i k)
    | some (some (t', none)), some (some (.inr (.inr (0, j)))) => decide (j = bix t' i ∧ t' < 48)
    | some (some (t', some c)), some (some (.inr (.inr (0, j)))) => decide (j = bix t' c ∧ t' < 48)
    | _, _ => false)
  | .inr (.inl (k, c)) => decide (ak t = k ∧ k ≠ 0 ∧ k < 5 ∧ c.length = alen t)
  | .inr (.inr (k, c)) => decide (ak t = k ∧ c.length = alen t) && (decide (k = 5) && (List.range c.length).all (fun j => decide (c.getD j none = some (bix 5 (j + 6 * i)))) || decide (k = 6) && (List.range c.length).all (fun j => decide (c.getD j none = some (bix 23 j))))
theorem okE0 : ∀ q ∈ allP, okE q.1 q.2 = true := by decide +kernel
theorem alen_f : ∀ t, t < 48 → (ak t = 5 → alen t = 6 ∧ t = 4) ∧ (ak t = 6 → alen t = 8 ∧ t = 22) := by decide +kernel
theorem bix_out : ∀ j, bix 5 (j + 6 * 0) = bix 5 j := fun j => rfl
