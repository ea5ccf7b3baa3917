/-! THE SMALL MACHINE: values, locals, memory. A reference is a pair (kind of cell, number among its kind); the memory holds numbers alone. -/
abbrev AV : Type := Int32 ⊕ Int64 ⊕ (Nat × Nat)
abbrev AL : Type := List (Option AV)
abbrev AS : Type := List AV
abbrev Mem : Type := (Nat → Nat → Nat → Int32) × (Nat → Nat → Nat → Int64)
abbrev IN : Type := Nat × Nat × Nat × AV × Nat
abbrev RR : Type := Option (Option AV × Mem)
abbrev vi (x : Int32) : AV := Sum.inl x
abbrev vl (x : Int64) : AV := Sum.inr (Sum.inl x)
abbrev vr (t i : Nat) : AV := Sum.inr (Sum.inr (t, i))
def mset {α : Type} (f : Nat → Nat → Nat → α) (t i k : Nat) (x : α) : Nat → Nat → Nat → α := fun t' i' k' => if t' = t ∧ i' = i ∧ k' = k then x else f t' i' k'
def mcpy {α : Type} (f : Nat → Nat → Nat → α) (t i sp t2 i2 dp n : Nat) : Nat → Nat → Nat → α := fun t' i' k' => if t' = t2 ∧ i' = i2 ∧ dp ≤ k' ∧ k' < dp + n then f t i (sp + (k' - dp)) else f t' i' k'
def lget : AL → Nat → Option AV
  | [], _ => none
  | a :: _, 0 => a
  | _ :: l, n + 1 => lget l n
def lset : AL → Nat → Option AV → AL
  | [], _, _ => []
  | _ :: l, 0, x => x :: l
  | a :: l, n + 1, x => a :: lset l n x
def isL : Option AV → Bool
  | some (.inr (.inl _)) => true
  | _ => false
/-- a long whose second half is about to be overwritten is gone -/
def kil (L : AL) : Nat → AL
  | 0 => L
  | n + 1 => bif isL (lget L n) then lset L n none else L
def sto1 (L : AL) (a : Nat) (v : AV) : AL := lset (kil L a) a (some v)
def sto2 (L : AL) (a : Nat) (v : AV) : AL := lset (lset (kil L a) a (some v)) (a + 1) none
def takA : Nat → AS → List AV → Option (List AV × AS)
  | 0, S, acc => some (acc, S)
  | _ + 1, [], _ => none
  | n + 1, v :: S, acc => takA n S (v :: acc)
def ctg : AV → Nat
  | .inr (.inl _) => 2
  | _ => 1
def csum : AS → Nat
  | [] => 0
  | v :: S => ctg v + csum S
def entL : List AV → AL
  | [] => []
  | .inr (.inl x) :: r => some (.inr (.inl x)) :: none :: entL r
  | .inl x :: r => some (.inl x) :: entL r
  | .inr (.inr x) :: r => some (.inr (.inr x)) :: entL r
def padL : Nat → AL → AL
  | 0, l => l
  | n + 1, [] => none :: padL n []
  | n + 1, a :: l => a :: padL n l
def nth {α : Type} : List α → Nat → Option α
  | [], _ => none
  | a :: _, 0 => some a
  | _ :: l, n + 1 => nth l n
def lkp : List (Nat × IN) → Nat → Option IN
  | [], _ => none
  | (k, e) :: l, n => bif Nat.beq k n then some e else lkp l n
/-- the first k locals alone -/
def trn : Nat → AL → AL
  | _, [] => []
  | 0, _ :: l => none :: trn 0 l
  | n + 1, a :: l => a :: trn n l
def trk : Nat → AL → AL
  | 0, L => L
  | k + 1, L => trn k L
def kd : AV → Nat
  | .inl _ => 0
  | .inr (.inl _) => 2
  | .inr (.inr _) => 1
