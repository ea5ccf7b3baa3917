/-! THE BYTES ARE THE SMALL MACHINE'S CODE: each row of the tables against what decode says -/
def jlk : List (Nat × Nat × Nat × Nat) := [(1, 41, 2, 903), (2, 58, 1, 492), (4, 124, 2, 876), (6, 38, 2, 784), (7, 63, 0, 481), (7, 100, 2, 811), (10, 179, 0, 1308), (10, 190, 1, 1279), (10, 267, 2, 1371), (10, 311, 4, 1456), (10, 314, 3, 1459)]
def jnm (k : Nat) : MethodName := (nth [Lib.Math.abs.name, Lib.Math.max.name, Lib.Math.min.name, Lib.MathLoose.max_long.x, Lib.MathLoose.min_long.x] k).getD Lib.Math.abs.name
set_option maxRecDepth 100000 in
theorem jlk_ok : ∀ q ∈ jlk, lw_tbl[q.2.2.2]? = some (.methodLink (owS q.1) q.2.1 (jnm q.2.2.1)) := by decide +kernel
def k_load (pc a b nx : Nat) : Instr → Nat → Bool
  | .iload_n k, n => decide (k.val = a ∧ b = 0 ∧ n = 1 ∧ nx = pc + 1)
  | .iload k, n => decide (k = a ∧ b = 0 ∧ n = 2 ∧ nx = pc + 2)
  | .aload_n k, n => decide (k.val = a ∧ b = 1 ∧ n = 1 ∧ nx = pc + 1)
  | .aload k, n => decide (k = a ∧ b = 1 ∧ n = 2 ∧ nx = pc + 2)
  | .lload_n k, n => decide (k.val = a ∧ b = 2 ∧ n = 1 ∧ nx = pc + 1)
  | .lload k, n => decide (k = a ∧ b = 2 ∧ n = 2 ∧ nx = pc + 2)
  | _, _ => false
def k_push (oc pc : Nat) (v : AV) (nx : Nat) : Instr → Nat → Bool
  | .iconst x, n => decide (v = .inl (Int32.ofInt x) ∧ n = 1 ∧ nx = pc + 1)
  | .bipush x, n => decide (v = .inl (Int8.ofInt x).toInt32 ∧ n = 2 ∧ nx = pc + 2)
  | .sipush x, n => decide (v = .inl (Int16.ofInt x).toInt32 ∧ n = 3 ∧ nx = pc + 3)
  | .lconst k, n => decide (v = .inr (.inl (Int64.ofNat k.val)) ∧ n = 1 ∧ nx = pc + 1)
  | .ldc ix, n => decide (n = 2 ∧ nx = pc + 2) && (clk.any (fun q => decide (q.1 = oc ∧ q.2.1 = ix ∧ v = .inl q.2.2.1)) || decide (oc = 8) && (List.range 5).any (fun k => decide (sidx k = ix ∧ v = .inr (.inr (52, k)))))
  | .ldc_w ix, n => decide (n = 3 ∧ nx = pc + 3) && clk.any (fun q => decide (q.1 = oc ∧ q.2.1 = ix ∧ v = .inl q.2.2.1))
  | .ldc2_w ix, n => decide (n = 3 ∧ nx = pc + 3) && llk.any (fun q => decide (q.1 = oc ∧ q.2.1 = ix ∧ v = .inr (.inl q.2.2.1)))
  | _, _ => false
def k_get (oc pc a b nx : Nat) : Instr → Nat → Bool
  | .getfield ix, n => decide (n = 3 ∧ nx = pc + 3) && flk.any (fun q => decide (q.1 = oc ∧ q.2.1 = ix ∧ q.2.2.1 = a ∧ q.2.2.2.1 = b))
  | _, _ => false
def k_put (oc pc a b nx : Nat) : Instr → Nat → Bool
  | .putfield ix, n => decide (n = 3 ∧ nx = pc + 3 ∧ (TTc a b).2.2.2 = false) && flk.any (fun q => decide (q.1 = oc ∧ q.2.1 = ix ∧ q.2.2.1 = a ∧ q.2.2.2.1 = b))
  | _, _ => false
def k_call (oc pc a b nx : Nat) : Instr → Nat → Bool
  | .invokevirtual ix, n => decide (n = 3 ∧ nx = pc + 3 ∧ mcl b ≠ 99 ∧ a = npr b + 1) && mlk.any (fun q => decide (q.1 = oc ∧ q.2.1 = ix ∧ q.2.2.1 = b))
  | .invokestatic ix, n => decide (n = 3 ∧ nx = pc + 3 ∧ mcl b = 99 ∧ a = npr b) && mlk.any (fun q => decide (q.1 = oc ∧ q.2.1 = ix ∧ q.2.2.1 = b))
  | _, _ => false
def k_ret (rt : Option FieldType) (a : Nat) : Instr → Nat → Bool
  | .return_, n => decide (n = 1 ∧ a = 0 ∧ rt = none)
  | .ireturn, n => decide (n = 1 ∧ (a = 1 ∧ rt = some .int ∨ a = 3 ∧ rt = some .boolean))
  | .lreturn, n => decide (n = 1 ∧ a = 2 ∧ rt = some .long)
  | _, _ => false
def k_xald (pc a nx : Nat) : Instr → Nat → Bool
  | .iaload, n => decide (n = 1 ∧ nx = pc + 1 ∧ a = 1)
  | .baload, n => decide (n = 1 ∧ nx = pc + 1 ∧ a = 3)
  | .caload, n => decide (n = 1 ∧ nx = pc + 1 ∧ a = 4)
  | _, _ => false
def k_goto (pc b : Nat) : Instr → Nat → Bool
  | .goto off, n => decide (n = 3 ∧ (pc : Int) + off = (b : Int))
  | _, _ => false
def k_sto1 (pc a nx : Nat) : Instr → Nat → Bool
  | .istore_n k, n => decide (k.val = a ∧ n = 1 ∧ nx = pc + 1)
  | .istore k, n => decide (k = a ∧ n = 2 ∧ nx = pc + 2)
  | _, _ => false
def k_stoA (pc a nx : Nat) : Instr → Nat → Bool
  | .astore_n k, n => decide (k.val = a ∧ n = 1 ∧ nx = pc + 1)
  | .astore k, n => decide (k = a ∧ n = 2 ∧ nx = pc + 2)
  | _, _ => false
def k_sto2 (pc a nx : Nat) : Instr → Nat → Bool
  | .lstore_n k, n => decide (k.val = a ∧ n = 1 ∧ nx = pc + 1)
  | .lstore k, n => decide (k = a ∧ n = 2 ∧ nx = pc + 2)
  | _, _ => false
def k_ibin (pc a nx : Nat) : Instr → Nat → Bool
  | .iadd, n => decide (a = 0 ∧ n = 1 ∧ nx = pc + 1)
  | .isub, n => decide (a = 1 ∧ n = 1 ∧ nx = pc + 1)
  | .imul, n => decide (a = 2 ∧ n = 1 ∧ nx = pc + 1)
  | .iand, n => decide (a = 3 ∧ n = 1 ∧ nx = pc + 1)
  | .ior, n => decide (a = 4 ∧ n = 1 ∧ nx = pc + 1)
  | .ixor, n => decide (a = 5 ∧ n = 1 ∧ nx = pc + 1)
  | .ishl, n => decide (a = 6 ∧ n = 1 ∧ nx = pc + 1)
  | .ishr, n => decide (a = 7 ∧ n = 1 ∧ nx = pc + 1)
  | .iushr, n => decide (a = 8 ∧ n = 1 ∧ nx = pc + 1)
  | _, _ => false
def cnd : ClassFile.Cond → Nat
  | .eq => 0 | .ne => 1 | .lt => 2 | .ge => 3 | .gt => 4 | .le => 5
def k_icmp (pc a b nx : Nat) : Instr → Nat → Bool
  | .if_icmp c off, n => decide (n = 3 ∧ nx = pc + 3 ∧ (pc : Int) + off = (b : Int) ∧ cnd c = a)
  | _, _ => false
def k_ifz (pc a b nx : Nat) : Instr → Nat → Bool
  | .ifCond c off, n => decide (n = 3 ∧ nx = pc + 3 ∧ (pc : Int) + off = (b : Int) ∧ cnd c = a)
  | _, _ => false
def k_iinc (pc a : Nat) (v : AV) (nx : Nat) : Instr → Nat → Bool
  | .iinc k x, n => decide (k = a ∧ n = 3 ∧ nx = pc + 3 ∧ v = .inl (Int32.ofInt x))
  | _, _ => false
def k_iast (pc a nx : Nat) : Instr → Nat → Bool
  | .iastore, n => decide (n = 1 ∧ nx = pc + 1 ∧ a = 1)
  | .bastore, n => decide (n = 1 ∧ nx = pc + 1 ∧ a = 3)
  | _, _ => false
def k_unry (pc a nx : Nat) : Instr → Nat → Bool
  | .ineg, n => decide (a = 0 ∧ n = 1 ∧ nx = pc + 1)
  | .i2l, n => decide (a = 1 ∧ n = 1 ∧ nx = pc + 1)
  | .l2i, n => decide (a = 2 ∧ n = 1 ∧ nx = pc + 1)
  | .i2b, n => decide (a = 3 ∧ n = 1 ∧ nx = pc + 1)
  | .i2s, n => decide (a = 4 ∧ n = 1 ∧ nx = pc + 1)
  | _, _ => false
def k_lbin (pc a nx : Nat) : Instr → Nat → Bool
  | .ladd, n => decide (a = 0 ∧ n = 1 ∧ nx = pc + 1)
  | .lmul, n => decide (a = 1 ∧ n = 1 ∧ nx = pc + 1)
  | .land, n => decide (a = 2 ∧ n = 1 ∧ nx = pc + 1)
  | .lor, n => decide (a = 3 ∧ n = 1 ∧ nx = pc + 1)
  | _, _ => false
def k_idiv (pc a nx : Nat) : Instr → Nat → Bool
  | .idiv, n => decide (a = 0 ∧ n = 1 ∧ nx = pc + 1)
  | .irem, n => decide (a = 1 ∧ n = 1 ∧ nx = pc + 1)
  | _, _ => false
def k_dup (pc nx : Nat) : Instr → Nat → Bool
  | .dup, n => decide (n = 1 ∧ nx = pc + 1)
  | _, _ => false
def k_aald (pc nx : Nat) : Instr → Nat → Bool
  | .aaload, n => decide (n = 1 ∧ nx = pc + 1)
  | _, _ => false
def k_lcmp (pc nx : Nat) : Instr → Nat → Bool
  | .lcmp, n => decide (n = 1 ∧ nx = pc + 1)
  | _, _ => false
def k_ldiv (pc nx : Nat) : Instr → Nat → Bool
  | .ldiv, n => decide (n = 1 ∧ nx = pc + 1)
  | _, _ => false
def k_lald (pc nx : Nat) : Instr → Nat → Bool
  | .laload, n => decide (n = 1 ∧ nx = pc + 1)
  | _, _ => false
def k_last (pc nx : Nat) : Instr → Nat → Bool
  | .lastore, n => decide (n = 1 ∧ nx = pc + 1)
  | _, _ => false
def k_dup2 (pc nx : Nat) : Instr → Nat → Bool
  | .dup2, n => decide (n = 1 ∧ nx = pc + 1)
  | _, _ => false
def k_pop (pc nx : Nat) : Instr → Nat → Bool
  | .pop, n => decide (n = 1 ∧ nx = pc + 1)
  | _, _ => false
def k_alen (pc nx : Nat) : Instr → Nat → Bool
  | .arraylength, n => decide (n = 1 ∧ nx = pc + 1)
  | _, _ => false
def k_lshl (pc nx : Nat) : Instr → Nat → Bool
  | .lshl, n => decide (n = 1 ∧ nx = pc + 1)
  | _, _ => false
def tabL (pc : Nat) : Int → List Int → List (Int32 × Nat)
  | _, [] => []
  | lo, x :: r => (Int32.ofInt lo, ((pc : Int) + x).toNat) :: tabL pc (lo + 1) r
def k_swit (pc b : Nat) (sw : List (Int32 × Nat)) : Instr → Nat → Bool
  | .tableswitch df lo hi offs, _ => decide ((pc : Int) + df = (b : Int) ∧ -1000 ≤ lo ∧ hi < 1000 ∧ hi = lo + offs.size - 1 ∧ sw = tabL pc lo offs.toList ∧ ∀ x ∈ offs.toList, 0 ≤ (pc : Int) + x)
  | .lookupswitch df ps, _ => decide ((pc : Int) + df = (b : Int) ∧ (ps.toList.zip (ps.toList.drop 1)).all (fun (a, next) => a.1 < next.1) = true ∧ sw = ps.toList.map (fun q => (Int32.ofInt q.1, ((pc : Int) + q.2).toNat)) ∧ ∀ q ∈ ps.toList, 0 ≤ (pc : Int) + q.2 ∧ -1000 ≤ q.1 ∧ q.1 < 1000)
  | _, _ => false
def k_acpy (oc pc a nx : Nat) : Instr → Nat → Bool
  | .invokestatic ix, n => decide (n = 3 ∧ nx = pc + 3 ∧ (a = 1 ∨ a = 2)) && alk.any (fun q => decide (q.1 = oc ∧ q.2.1 = ix))
  | _, _ => false
def k_str (oc pc w nx : Nat) : Instr → Nat → Bool
  | .invokevirtual ix, n => decide (n = 3 ∧ nx = pc + 3) && slk.any (fun q => decide (q.1 = oc ∧ q.2.1 = ix ∧ q.2.2.1 = w))
  | _, _ => false
def k_math (oc pc w nx : Nat) : Instr → Nat → Bool
  | .invokestatic ix, n => decide (n = 3 ∧ nx = pc + 3) && jlk.any (fun q => decide (q.1 = oc ∧ q.2.1 = ix ∧ q.2.2.1 = w))
  | _, _ => false
def chI (m pc : Nat) (i : Instr) (n : Nat) : IN → Bool
  | (op, a, b, v, nx) =>
    if op = 0 then k_load pc a b nx i n
    else if op = 1 then k_push (ow m) pc v nx i n
    else if op = 2 then k_get (ow m) pc a b nx i n
    else if op = 3 then k_call (ow m) pc a b nx i n
    else if op = 4 then k_ret (retT m) a i n
    else if op = 5 then k_xald pc a nx i n
    else if op = 6 then k_goto pc b i n
    else if op = 7 then k_sto1 pc a nx i n
    else if op = 8 then k_ibin pc a nx i n
    else if op = 9 then k_icmp pc a b nx i n
    else if op = 10 then k_ifz pc a b nx i n
    else if op = 11 then k_put (ow m) pc a b nx i n
    else if op = 12 then k_iinc pc a v nx i n
    else if op = 13 then k_dup pc nx i n
    else if op = 14 then k_iast pc a nx i n
    else if op = 15 then k_unry pc a nx i n
    else if op = 16 then k_aald pc nx i n
    else if op = 17 then k_lbin pc a nx i n
    else if op = 18 then k_lcmp pc nx i n
    else if op = 19 then k_idiv pc a nx i n
    else if op = 20 then k_ldiv pc nx i n
    else if op = 21 then k_lald pc nx i n
    else if op = 22 then k_last pc nx i n
    else if op = 23 then k_sto2 pc a nx i n
    else if op = 24 then k_dup2 pc nx i n
    else if op = 25 then k_pop pc nx i n
    else if op = 26 then k_alen pc nx i n
    else if op = 27 then k_lshl pc nx i n
    else if op = 28 then k_swit pc b (swt m pc) i n
    else if op = 29 then k_acpy (ow m) pc a nx i n
    else if op = 30 then k_str (ow m) pc 0 nx i n
    else if op = 31 then k_str (ow m) pc 1 nx i n
    else if op = 32 then k_stoA pc a nx i n
    else if op = 33 then k_math (ow m) pc (if a = 0 then 1 else 2) nx i n
    else if op = 34 then k_math (ow m) pc 0 nx i n
    else if op = 35 then k_math (ow m) pc (if a = 0 then 3 else 4) nx i n
    else false
def chk (m pc : Nat) (e : IN) : Bool := match decode (byt m) pc with
  | .ok (i, n) => chI m pc i n e
  | .error _ => false
def okM (m : Nat) : Bool := (icode m).all fun c => c.all fun q => chk m q.1 q.2
theorem lkp_mem : ∀ {l : List (Nat × IN)} {n : Nat} {e : IN}, lkp l n = some e → (n, e) ∈ l
  | [], _, _, h => by cases h
  | (k, x) :: l, n, e, h => by
    unfold lkp at h
    cases hb : Nat.beq k n with
    | true =>
      rw [hb] at h
      cases h
      have := Nat.eq_of_beq_eq_true hb
      subst this
      exact List.mem_cons_self
    | false =>
      rw [hb] at h
      exact List.mem_cons_of_mem _ (lkp_mem h)
theorem ins_cases (m pc : Nat) : (ins m pc).1 = 99 ∨ ∃ c ∈ icode m, (pc, ins m pc) ∈ c := by
  unfold ins
  cases h : nth (icode m) (pc / 32) with
  | none => exact Or.inl rfl
  | some c =>
    cases h2 : lkp c pc with
    | none => simp only [h2]; exact Or.inl trivial
    | some e => simp only [h2]; exact Or.inr ⟨c, nth_mem h, lkp_mem h2⟩
theorem ins_ok {m pc : Nat} (hm : okM m = true) (h : (ins m pc).1 ≠ 99) : chk m pc (ins m pc) = true := by
  rcases ins_cases m pc with h1 | ⟨c, hc, hm2⟩
  · exact absurd h1 h
  · have h2 : ∀ c ∈ icode m, (c.all fun q => chk m q.1 q.2) = true := List.all_eq_true.mp hm
    have h3 : ∀ q ∈ c, chk m q.1 q.2 = true := List.all_eq_true.mp (h2 c hc)
    exact h3 (pc, ins m pc) hm2
