/-! THE SMALL MACHINE: one step, in any answer type -/
def ibin (a : Nat) (x y : Int32) : Int32 :=
  if a = 0 then x + y else if a = 1 then x - y else if a = 2 then x * y else if a = 3 then x &&& y else if a = 4 then x ||| y else if a = 5 then x ^^^ y
  else if a = 6 then x <<< (y &&& 31) else if a = 7 then x >>> (y &&& 31) else (x.toUInt32 >>> (y.toUInt32 &&& Int32.toUInt32 31)).toInt32
def lbin (a : Nat) (x y : Int64) : Int64 :=
  if a = 0 then x + y else if a = 1 then x * y else if a = 2 then x &&& y else x ||| y
def unry (a : Nat) (v : AV) : Option AV := match v with
  | .inl x => if a = 0 then some (.inl (-x)) else if a = 1 then some (.inr (.inl x.toInt64)) else if a = 3 then some (.inl x.toInt8.toInt32) else if a = 4 then some (.inl x.toInt16.toInt32) else none
  | .inr (.inl x) => if a = 2 then some (.inl x.toInt32) else none
  | _ => none
def swG {ρ : Type} (K : Nat → ρ) (x : Int32) (d : Nat) : List (Int32 × Nat) → ρ
  | [] => K d
  | (k, t) :: r => if x = k then K t else swG K x d r
def fldv (t k i : Nat) (V : Mem) : Option AV := match nth (frl t) k with
  | none => none
  | some none => some (.inl (V.1 t i k))
  | some (some (t', none)) => some (.inr (.inr (t', i)))
  | some (some (t', some c)) => some (.inr (.inr (t', c)))
def rcv (b : Nat) (as : List AV) : Bool := bif Nat.beq (mcl b) 99 then true else match as with
  | .inr (.inr (t, _)) :: _ => Nat.beq (clsOf t) (mcl b)
  | _ => false
def imax (x y : Int32) : Int32 := if x < y then y else x
def imin (x y : Int32) : Int32 := if y < x then y else x
def iabs (x : Int32) : Int32 := if 0 ≤ x then x else 0 - x
def lmax (x y : Int64) : Int64 := if y < x then x else y
def lmin (x y : Int64) : Int64 := if y < x then y else x
section Step
variable {ρ : Type} (K : Nat → AL → AS → Mem → ρ) (fl : ρ) (rt : Option AV → Mem → ρ) (cv ci cl : Nat → List AV → Mem → Nat → AL → AS → ρ)
def o_load (a b nx : Nat) (L : AL) (S : AS) (V : Mem) : ρ := match lget L a with
  | some w => bif Nat.beq (kd w) b then K nx L (w :: S) V else fl
  | none => fl
def o_get (a b nx : Nat) (L : AL) (S : AS) (V : Mem) : ρ := match S with
  | .inr (.inr (t, i)) :: R => if clsOf t = a then (match fldv t b i V with
    | some w => K nx L (w :: R) V
    | none => fl) else fl
  | _ => fl
def o_call (a b nx : Nat) (L : AL) (S : AS) (V : Mem) : ρ := match takA a S [] with
  | some (as, R) => bif rcv b as && (Nat.ble (csum R) 8 && Nat.ble (csum as) (nLo b)) then (if rk b = 0 then cv b as V nx L R else if rk b = 2 then cl b as V nx L R else ci b as V nx L R) else fl
  | none => fl
def o_ret (a : Nat) (S : AS) (V : Mem) : ρ :=
  if a = 0 then (match S with
    | [] => rt none V
    | _ => fl)
  else if a = 1 then (match S with
    | [.inl x] => rt (some (.inl x)) V
    | _ => fl)
  else if a = 2 then (match S with
    | [.inr (.inl x)] => rt (some (.inr (.inl x))) V
    | _ => fl)
  else (match S with
    | [.inl x] => if x = 0 ∨ x = 1 then rt (some (.inl x)) V else fl
    | _ => fl)
def o_xald (a nx : Nat) (L : AL) (S : AS) (V : Mem) : ρ := match S with
  | .inl j :: .inr (.inr (t, i)) :: R => if t = 50 then (if a = 1 then (if j < 0 ∨ ¬ j < V.1 51 0 0 then fl else K nx L (.inl (V.1 50 0 j.toNatClampNeg) :: R) V) else fl)
    else if ak t = a then (if j < 0 ∨ alen t ≤ j.toNatClampNeg then fl else K nx L (.inl (V.1 t i j.toNatClampNeg) :: R) V) else fl
  | _ => fl
def o_ibin (a nx : Nat) (L : AL) (S : AS) (V : Mem) : ρ := match S with
  | .inl y :: .inl x :: R => K nx L (.inl (ibin a x y) :: R) V
  | _ => fl
def o_icmp (a b nx : Nat) (L : AL) (S : AS) (V : Mem) : ρ := match S with
  | .inl y :: .inl x :: R =>
    if a = 0 then (if x = y then K b L R V else K nx L R V)
    else if a = 1 then (if x = y then K nx L R V else K b L R V)
    else if a = 2 then (if x < y then K b L R V else K nx L R V)
    else if a = 3 then (if x < y then K nx L R V else K b L R V)
    else if a = 4 then (if y < x then K b L R V else K nx L R V)
    else (if y < x then K nx L R V else K b L R V)
  | _ => fl
def o_ifz (a b nx : Nat) (L : AL) (S : AS) (V : Mem) : ρ := match S with
  | .inl x :: R =>
    if a = 0 then (if x = 0 then K b L R V else K nx L R V)
    else if a = 1 then (if x = 0 then K nx L R V else K b L R V)
    else if a = 2 then (if x < 0 then K b L R V else K nx L R V)
    else if a = 3 then (if x < 0 then K nx L R V else K b L R V)
    else if a = 4 then (if 0 < x then K b L R V else K nx L R V)
    else (if 0 < x then K nx L R V else K b L R V)
  | _ => fl
def o_put (a b nx : Nat) (L : AL) (S : AS) (V : Mem) : ρ := match S with
  | .inl x :: .inr (.inr (t, i)) :: R => if clsOf t = a then (match nth (frl t) b with
    | some none => bif fz t b then (if x = 0 ∨ x = 1 then K nx L R (mset V.1 t i b x, V.2) else fl) else K nx L R (mset V.1 t i b x, V.2)
    | _ => fl) else fl
  | _ => fl
def o_iinc (a : Nat) (v : AV) (nx : Nat) (L : AL) (S : AS) (V : Mem) : ρ := match lget L a, v with
  | some (.inl x), .inl c => K nx (sto1 L a (.inl (x + c))) S V
  | _, _ => fl
def o_dup (nx : Nat) (L : AL) (S : AS) (V : Mem) : ρ := match S with
  | v :: R => bif Nat.beq (ctg v) 1 then K nx L (v :: v :: R) V else fl
  | _ => fl
def o_iast (a nx : Nat) (L : AL) (S : AS) (V : Mem) : ρ := match S with
  | .inl x :: .inl j :: .inr (.inr (t, i)) :: R => if ak t = a then (if j < 0 ∨ alen t ≤ j.toNatClampNeg then fl else
      if a = 1 then K nx L R (mset V.1 t i j.toNatClampNeg x, V.2)
      else if a = 3 then (if x = 0 ∨ x = 1 then K nx L R (mset V.1 t i j.toNatClampNeg x, V.2) else fl) else fl) else fl
  | _ => fl
def o_unry (a nx : Nat) (L : AL) (S : AS) (V : Mem) : ρ := match S with
  | v :: R => (match unry a v with
    | some w => K nx L (w :: R) V
    | none => fl)
  | _ => fl
def o_aald (nx : Nat) (L : AL) (S : AS) (V : Mem) : ρ := match S with
  | .inl j :: .inr (.inr (t, i)) :: R =>
    if t = 4 then (if j < 0 ∨ 6 ≤ j.toNatClampNeg then fl else K nx L (.inr (.inr (5, j.toNatClampNeg + 6 * i)) :: R) V)
    else if t = 22 then (if j < 0 ∨ 8 ≤ j.toNatClampNeg then fl else K nx L (.inr (.inr (23, j.toNatClampNeg)) :: R) V)
    else fl
  | _ => fl
def o_lbin (a nx : Nat) (L : AL) (S : AS) (V : Mem) : ρ := match S with
  | .inr (.inl y) :: .inr (.inl x) :: R => K nx L (.inr (.inl (lbin a x y)) :: R) V
  | _ => fl
def o_lcmp (nx : Nat) (L : AL) (S : AS) (V : Mem) : ρ := match S with
  | .inr (.inl y) :: .inr (.inl x) :: R => K nx L (.inl (lg_cmp x y) :: R) V
  | _ => fl
def o_idiv (a nx : Nat) (L : AL) (S : AS) (V : Mem) : ρ := match S with
  | .inl y :: .inl x :: R => if y = 0 then fl else if a = 0 then K nx L (.inl (x / y) :: R) V else K nx L (.inl (x - x / y * y) :: R) V
  | _ => fl
def o_ldiv (nx : Nat) (L : AL) (S : AS) (V : Mem) : ρ := match S with
  | .inr (.inl y) :: .inr (.inl x) :: R => if y = 0 then fl else K nx L (.inr (.inl (x / y)) :: R) V
  | _ => fl
def o_lald (nx : Nat) (L : AL) (S : AS) (V : Mem) : ρ := match S with
  | .inl j :: .inr (.inr (t, i)) :: R => if ak t = 2 then (if j < 0 ∨ alen t ≤ j.toNatClampNeg then fl else K nx L (.inr (.inl (V.2 t i j.toNatClampNeg)) :: R) V) else fl
  | _ => fl
def o_last (nx : Nat) (L : AL) (S : AS) (V : Mem) : ρ := match S with
  | .inr (.inl x) :: .inl j :: .inr (.inr (t, i)) :: R => if ak t = 2 then (if j < 0 ∨ alen t ≤ j.toNatClampNeg then fl else K nx L R (V.1, mset V.2 t i j.toNatClampNeg x)) else fl
  | _ => fl
def o_sto1 (a b nx : Nat) (L : AL) (S : AS) (V : Mem) : ρ := match S with
  | .inl x :: R => K nx (trk b (sto1 L a (.inl x))) R V
  | _ => fl
def o_mat2 (a nx : Nat) (L : AL) (S : AS) (V : Mem) : ρ := match S with
  | .inl y :: .inl x :: R => bif Nat.ble (csum R) 8 then (if a = 0 then K nx L (.inl (imax x y) :: R) V else K nx L (.inl (imin x y) :: R) V) else fl
  | _ => fl
def o_mabs (nx : Nat) (L : AL) (S : AS) (V : Mem) : ρ := match S with
  | .inl x :: R => bif Nat.ble (csum R) 8 then K nx L (.inl (iabs x) :: R) V else fl
  | _ => fl
def o_matJ (a nx : Nat) (L : AL) (S : AS) (V : Mem) : ρ := match S with
  | .inr (.inl y) :: .inr (.inl x) :: R => bif Nat.ble (csum R) 8 then (if a = 0 then K nx L (.inr (.inl (lmax x y)) :: R) V else K nx L (.inr (.inl (lmin x y)) :: R) V) else fl
  | _ => fl
def o_stoA (a b nx : Nat) (L : AL) (S : AS) (V : Mem) : ρ := match S with
  | .inr (.inr q) :: R => K nx (trk b (sto1 L a (.inr (.inr q)))) R V
  | _ => fl
def o_sto2 (a nx : Nat) (L : AL) (S : AS) (V : Mem) : ρ := match S with
  | .inr (.inl x) :: R => K nx (sto2 L a (.inr (.inl x))) R V
  | _ => fl
def o_dup2 (nx : Nat) (L : AL) (S : AS) (V : Mem) : ρ := match S with
  | v :: w :: R => bif Nat.beq (ctg v) 1 && Nat.beq (ctg w) 1 then K nx L (v :: w :: v :: w :: R) V else fl
  | _ => fl
def o_pop (nx : Nat) (L : AL) (S : AS) (V : Mem) : ρ := match S with
  | v :: R => bif Nat.beq (ctg v) 1 then K nx L R V else fl
  | _ => fl
def o_alen (nx : Nat) (L : AL) (S : AS) (V : Mem) : ρ := match S with
  | .inr (.inr (t, _)) :: R => if t = 50 then K nx L (.inl (V.1 51 0 0) :: R) V else if ak t = 1 ∨ ak t = 2 then K nx L (.inl (nI (alen t)) :: R) V else fl
  | _ => fl
def o_lshl (nx : Nat) (L : AL) (S : AS) (V : Mem) : ρ := match S with
  | .inl y :: .inr (.inl x) :: R => K nx L (.inr (.inl (x <<< (y.toInt64 &&& 63))) :: R) V
  | _ => fl
def o_swit (m pc b : Nat) (L : AL) (S : AS) (V : Mem) : ρ := match S with
  | .inl x :: R => swG (fun t => K t L R V) x b (swt m pc)
  | _ => fl
def o_acpy (a nx : Nat) (L : AL) (S : AS) (V : Mem) : ρ := match S with
  | .inl n :: .inl dp :: .inr (.inr (t2, i2)) :: .inl sp :: .inr (.inr (t, i)) :: R =>
    if ak t = a ∧ ak t2 = a ∧ csum R ≤ 8 then (if sp < 0 ∨ dp < 0 ∨ n < 0 ∨ alen t < sp.toNatClampNeg + n.toNatClampNeg ∨ alen t2 < dp.toNatClampNeg + n.toNatClampNeg then fl
      else if a = 1 then K nx L R (mcpy V.1 t i sp.toNatClampNeg t2 i2 dp.toNatClampNeg n.toNatClampNeg, V.2) else if a = 2 then K nx L R (V.1, mcpy V.2 t i sp.toNatClampNeg t2 i2 dp.toNatClampNeg n.toNatClampNeg) else fl) else fl
  | _ => fl
def o_slen (nx : Nat) (L : AL) (S : AS) (V : Mem) : ρ := match S with
  | .inr (.inr (t, i)) :: R => if t = 52 ∧ csum R ≤ 8 then K nx L (.inl (nI (slen i)) :: R) V else fl
  | _ => fl
def o_schr (nx : Nat) (L : AL) (S : AS) (V : Mem) : ρ := match S with
  | .inl j :: .inr (.inr (t, i)) :: R => if t = 52 ∧ csum R ≤ 8 then (if j < 0 ∨ slen i ≤ j.toNatClampNeg then fl else K nx L (.inl (schr i j.toNatClampNeg) :: R) V) else fl
  | _ => fl
def stp (m pc : Nat) (L : AL) (S : AS) (V : Mem) : ρ := match ins m pc with
  | (op, a, b, v, nx) =>
    if op = 0 then o_load K fl a b nx L S V
    else if op = 1 then K nx L (v :: S) V
    else if op = 2 then o_get K fl a b nx L S V
    else if op = 3 then o_call fl cv ci cl a b nx L S V
    else if op = 4 then o_ret fl rt a S V
    else if op = 5 then o_xald K fl a nx L S V
    else if op = 6 then K b (trk a L) S V
    else if op = 7 then o_sto1 K fl a b nx L S V
    else if op = 8 then o_ibin K fl a nx L S V
    else if op = 9 then o_icmp K fl a b nx L S V
    else if op = 10 then o_ifz K fl a b nx L S V
    else if op = 11 then o_put K fl a b nx L S V
    else if op = 12 then o_iinc K fl a v nx L S V
    else if op = 13 then o_dup K fl nx L S V
    else if op = 14 then o_iast K fl a nx L S V
    else if op = 15 then o_unry K fl a nx L S V
    else if op = 16 then o_aald K fl nx L S V
    else if op = 17 then o_lbin K fl a nx L S V
    else if op = 18 then o_lcmp K fl nx L S V
    else if op = 19 then o_idiv K fl a nx L S V
    else if op = 20 then o_ldiv K fl nx L S V
    else if op = 21 then o_lald K fl nx L S V
    else if op = 22 then o_last K fl nx L S V
    else if op = 23 then o_sto2 K fl a nx L S V
    else if op = 24 then o_dup2 K fl nx L S V
    else if op = 25 then o_pop K fl nx L S V
    else if op = 26 then o_alen K fl nx L S V
    else if op = 27 then o_lshl K fl nx L S V
    else if op = 28 then o_swit K fl m pc b L S V
    else if op = 29 then o_acpy K fl a nx L S V
    else if op = 30 then o_slen K fl nx L S V
    else if op = 31 then o_schr K fl nx L S V
    else if op = 32 then o_stoA K fl a b nx L S V
    else if op = 33 then o_mat2 K fl a nx L S V
    else if op = 34 then o_mabs K fl nx L S V
    else if op = 35 then o_matJ K fl a nx L S V
    else fl
end Step
