def nplL : List (Nat × Nat × Nat) := [(5, 37, 135), (7, 24, 218), (7, 31, 221), (7, 38, 262), (7, 45, 297), (7, 52, 310), (7, 74, 335)]
def npl (q : Nat × Nat × Nat) : Nat := ((nplL.find? fun z => Nat.beq z.1 q.1 && Nat.beq z.2.1 q.2.1).map fun z => z.2.2).getD 0
set_option maxRecDepth 100000 in
theorem nst_ok : ∀ q ∈ bnst, lw_tbl[npl q]? = some (.methodLinkNest (bow q.1) q.2.1 (byM q.2.2) RX8) := by decide +kernel
set_option maxRecDepth 100000 in
theorem ao_ok : Cond.arrayOver (.object RX2) ∈ lw_tbl ∧ Cond.arrayOver (.object RX4) ∈ lw_tbl := ⟨mem_tbl (i := 133) (by decide +kernel), mem_tbl (i := 333) (by decide +kernel)⟩
def spl (k : Nat) : Nat := (nth [648, 711, 718, 723, 736] k).getD 0
set_option maxRecDepth 100000 in
theorem str_p : ∀ k, k < 5 → lw_tbl[spl k]? = some (.stringRef RX7 (sidx k) (stx k)) := by decide +kernel
theorem str_ok (k : Nat) (h : k < 5) : Cond.stringRef RX7 (sidx k) (stx k) ∈ lw_tbl := mem_tbl (str_p k h)
set_option maxRecDepth 100000 in
theorem st_ok : Cond.laysStatic "java/lang/String" "COMPACT_STRINGS" "Z" ∈ lw_tbl ∧ Cond.initialized "java/lang/String" ∈ lw_tbl ∧ Cond.laysStatic "jdk/internal/util/Preconditions" "SIOOBE_FORMATTER" "Ljava/util/function/BiFunction;" ∈ lw_tbl ∧ Cond.initialized "jdk/internal/util/Preconditions" ∈ lw_tbl :=
  ⟨mem_tbl (i := 662) (by decide +kernel), mem_tbl (i := 113) (by decide +kernel), mem_tbl (i := 678) (by decide +kernel), mem_tbl (i := 115) (by decide +kernel)⟩
-- ===== end of PART A; then your names; then what follows =====
/-! THE CLAIM OUT OF ONE WALK OF THE LAW'S BODY. Your part is whole_start (and what it stands on); all else here is the same for every law, but numbers. -/
def R_law : String := "ConstellationsByLotLaw"
def lw_P (b : Addr) (xs : List Int32) (args : Array Value) (s : State) : Prop := args = #[.ref b] ∧ s.IntsAt b xs ∧ xs.length ≤ 3072 ∧ (Jvm.Cond.and given_1 narrow_1).before args s = true
def lw_Q (_ : Array Value) (s : State) (o : Outcome) (t : State) : Prop := o = .returned (some (.int 1)) ∧ Framed s o t [] 600000 7302250
def lw_Z (below : List Frame) (a : Array Value) (s : State) : State → Prop := fun t => ∃ o, t.status = .running ∧ Ended t below o ∧ lw_Q a s o t
/-- the law's own end, with 1 on the stack, nothing written that was there before, its room as the claim has it -/
theorem lw_ret {p : Program} {l : Launch} {e : Env} {s : State} {m : MethodId} {below : List Frame} {meth : Method} {c : Code} {b : Nat} (hx : p.tables.exec = Jvm.exec) (hb : c.code = code) (hr : meth.sig.returnType = ret) (hlocks : meth.locks = false) {pc : Nat} {H : Heap} {ls : Array Slot} (hdg : decode code pc = .ok (.ireturn, 1)) : W p l e room_1 s m #[Value.ref b] below meth c H [] 600000 7302250 (lw_Z below #[Value.ref b] s) (F0 m pc ls [.int 1]) := by
  intro T hT X
  obtain ⟨fs, hret, hrun, hended, hW, hframe⟩ := X.leave (v := some (.int 1)) (hlocks := hlocks) (fun h => by rw [hr] at h; cases h)
  have hmeth' : T.vm.method? m = some meth := X.method'
  refine ⟨T.setFrames fs, ?_, .returned (some (.int 1)), hrun, hended, rfl, ⟨_, rfl⟩, hW, hframe⟩
  jvm_step X.here [X.here.top, hx, hb, hdg, hmeth', hr, ret, narrow_b1]
  (try refine ⟨rfl, ?_⟩); (try refine ⟨rfl, ?_⟩)
  first | (intro acts; rw [hret _ acts rfl rfl rfl]) | rw [hret _ _ rfl rfl rfl]
  exact Steps.refl _
/-- what holds at the law's entry: the machine, the code, the tables' words (any of lw_tbl by 'hts w (by decide +kernel)'), the script of L ints xs at the cell b, what the Statement gives of the start (any of its parts by flat_of_before) -/
def lw_At (p : Program) (s : State) (m : MethodId) (meth : Method) (c : Code) (b L : Nat) (xs : Nat → Int32) : Prop :=
  p.tables.exec = Jvm.exec ∧ c.code = code ∧ meth.sig.returnType = ret ∧ c.maxLocals = 4 ∧ s.vm.findClass R_law = some m.cls ∧ (∀ w ∈ lw_tbl, w.before #[Value.ref b] s = true) ∧ va_X b L xs s s.heap ∧ b < s.heap.size ∧ meth.locks = false ∧ (Jvm.Cond.and given_1 narrow_1).before #[Value.ref b] s = true
/-- the classes and their fields' slots, out of the tables -/
theorem start_K {s : State} {args : Array Value} (hts : ∀ w ∈ lw_tbl, w.before args s = true) : ∃ (D : va_G) (cy : Nat → ClassId), va_K D vwCl (tysL cy) s := by
  have htg : ∀ w ∈ TBG, w.before args s = true := fun w hw => hts w (List.mem_filter.mp hw).1
  have h1 : ∀ ci : Nat, ∃ r : ClassId × (Nat → Nat), ∀ q, vwCl[ci]? = some q → u_Kn s q.1 q.2.1 q.2.2 r.1 r.2 := by
    intro ci
    cases hcl : vwCl[ci]? with
    | none => exact ⟨(0, fun _ => 0), fun q h => by cases h⟩
    | some q =>
      have hl : ci < 9 := (List.getElem?_eq_some_iff.mp hcl).1
      have hi := inst_p ci hl
      unfold cnm at hi
      rw [nth_get, hcl] at hi
      obtain ⟨cC, iS, h⟩ := u_known (n := q.2.2) htg (cls_f hcl).1 (hts _ (List.mem_of_getElem? hi.1))
      exact ⟨(cC, iS), fun q' h' => by cases h'; exact h⟩
  obtain ⟨r, hr⟩ := Classical.axiomOfChoice h1
  have prim : ∀ ty : FieldType, (Cond.arrayClass ty).before args s = true → refKind ty = false → ∃ cA, ArrOfT s cA ty ∧ va_RA s cA ty := by
    intro ty h hp
    obtain ⟨cA, kA, comp, h1, h2, h3⟩ := Cond.arrayClass_spec h
    refine ⟨cA, fun n z => ⟨fun k h => (by cases h), kA, h2, comp, h3⟩, ?_⟩
    cases ty <;> first | exact h1 | cases hp
  have refa : ∀ C : String, (Cond.arrayOver (.object C)).before args s = true → ∃ cA, ArrOfT s cA (.object C) ∧ va_RA s cA (.object C) := by
    intro C h
    obtain ⟨comp, cA, kA, h1, h2, h3, h4, h5⟩ := Cond.arrayOver_spec h
    exact ⟨cA, fun n z => ⟨fun k h => (by cases h), kA, h3, comp, h4⟩, kA, comp, h3, h4, h1, h5⟩
  obtain ⟨c1, a1⟩ := prim .int (hts _ (List.mem_of_getElem? arr_ok.1)) rfl
  obtain ⟨c2, a2⟩ := prim .long (hts _ (List.mem_of_getElem? arr_ok.2.1)) rfl
  obtain ⟨c3, a3⟩ := prim .boolean (hts _ (List.mem_of_getElem? arr_ok.2.2.1)) rfl
  obtain ⟨c4, a4⟩ := prim .char (hts _ (List.mem_of_getElem? arr_ok.2.2.2)) rfl
  obtain ⟨c5, a5⟩ := refa RX2 (hts _ ao_ok.1)
  obtain ⟨c6, a6⟩ := refa RX4 (hts _ ao_ok.2)
  refine ⟨(fun ci => (r ci).1, fun ci => (r ci).2), fun k => if k = 1 then c1 else if k = 2 then c2 else if k = 3 then c3 else if k = 4 then c4 else if k = 5 then c5 else c6, fun ci q hq => hr ci q hq, fun k q hk => ?_⟩
  have hm := List.mem_of_getElem? hk
  simp only [tysL, List.mem_cons, List.not_mem_nil, or_false] at hm
  rcases hm with rfl | rfl | rfl | rfl | rfl | rfl
  · exact a1
  · exact a2
  · exact a3
  · exact a4
  · exact a5
  · exact a6
def tmS (k : Nat) : Term := .string RX7 (sidx k)
/-- the string constants, and the statics that String reads -/
theorem start_S {s : State} {b : Nat} {A : Nat → Prop} (hts : ∀ w ∈ lw_tbl, w.before #[Value.ref b] s = true) (hgv : (Jvm.Cond.and given_1 narrow_1).before #[Value.ref b] s = true) (hA : ∀ a : Nat, a < s.heap.size → ¬ A a) :
    ∃ adK adV : Nat → Nat, vk_S 5 slnL sbyL adK adV A s s.heap ∧ (∀ k : Nat, k < 5 → vk_R RX7 (sidx k) (stx k) (adK k) s) ∧ stZ A s s.heap := by
  have hs := flat_of_before _ hgv
  have w1 : ∀ i : Nat, i < 5 → Cond.exactly (tmS i) "java/lang/String" ∈ flatC (Jvm.Cond.and given_1 narrow_1) ∧ Cond.eq (.field (tmS i) "java/lang/String" "coder" "B") (.int 0) ∈ flatC (Jvm.Cond.and given_1 narrow_1) ∧ Cond.arrayOf (.field (tmS i) "java/lang/String" "value" "[B") .byte ∈ flatC (Jvm.Cond.and given_1 narrow_1) ∧ Cond.eq (.length (.field (tmS i) "java/lang/String" "value" "[B")) (.int (Int32.ofNat (slnL.getD i 0))) ∈ flatC (Jvm.Cond.and given_1 narrow_1) := by decide +kernel
  have w2 : ∀ i : Nat, i < 5 → ∀ j : Nat, j < slnL.getD i 0 → Cond.eq (.elem (.field (tmS i) "java/lang/String" "value" "[B") (.int (Int32.ofNat j))) (.int ((sbyL.getD i []).getD j 0)) ∈ flatC (Jvm.Cond.and given_1 narrow_1) := by decide +kernel
  have w3 : ∀ i : Nat, i < 5 → ∀ j : Nat, j < 5 → i ≠ j → Cond.not (Cond.eq (tmS i) (tmS j)) ∈ flatC (Jvm.Cond.and given_1 narrow_1) ∨ Cond.not (Cond.eq (tmS j) (tmS i)) ∈ flatC (Jvm.Cond.and given_1 narrow_1) := by decide +kernel
  obtain ⟨adK, adV, h1, h2⟩ := vk_Sof (args := #[Value.ref b]) (s := s) (N := 5) (tm := tmS) (len := slnL) (byt := sbyL) (A := A) (by decide) (fun i hi => hs _ (w1 i hi).1) (fun i hi => hs _ (w1 i hi).2.1) (fun i hi => hs _ (w1 i hi).2.2.1) (fun i hi => hs _ (w1 i hi).2.2.2) (fun i hi j hj => hs _ (w2 i hi j hj)) (fun i j hi hj hne => (w3 i hi j hj hne).imp (fun h => hs _ h) (fun h => hs _ h)) hA
  refine ⟨adK, adV, h1, fun k hk => vk_R.of (hts _ (str_ok k hk)) (h2 k hk), ?_, ?_⟩
  · exact va_Zof (hts _ st_ok.1) (hts _ st_ok.2.1) (va_eqi (hs _ (by decide +kernel))) hA
  · exact va_Zqof (hts _ st_ok.2.2.1) (hts _ st_ok.2.2.2) (hs _ (by decide +kernel)) hA
set_option maxHeartbeats 4000000 in
/-- from the entry, for every script of at most 3072 ints, the law comes to its end with true -/
theorem whole_start {p : Program} {e : Env} {s : State} {m : MethodId} {below : List Frame} {meth : Method} {c : Code} (l : Launch) {b L : Nat} {xs : Nat → Int32} (hL : L ≤ 3072) (C0 : lw_At p s m meth c b L xs) : W p l e room_1 s m #[Value.ref b] below meth c s.heap [] 0 0 (lw_Z below #[Value.ref b] s) (entryFrame m ([Value.ref b] : List Value).toArray 4) := by
  obtain ⟨hx, hb, hr, hml, hown, hts, hX, hbl, hlocks, hgv⟩ := C0
  have htg : ∀ w ∈ TBG, w.before #[Value.ref b] s = true := fun w hw => hts w (List.mem_filter.mp hw).1
  obtain ⟨D, cy, hK⟩ := start_K hts
  obtain ⟨adK, adV, hS1, hS2, hS3⟩ := start_S (A := fun q => s.heap.size ≤ q) hts hgv (fun a h => by omega)
  have hBX : BX D cy s.heap.size 4 10 p room_1 s m #[Value.ref b] meth c := ⟨⟨hx, hb, hml, hown, htg⟩, hK, ⟨by decide, by decide, by decide, by decide⟩, ⟨va_AO.of (hts _ ao_ok.1), va_AO.of (hts _ ao_ok.2), fun q hq => va_Nw.of rfl (hts _ (List.mem_of_getElem? (nst_ok q hq)))⟩, Nat.le_refl _, fun h => absurd h (by decide)⟩
  rw [lg_entry_eq]
  have hLR := LR.entry (ad := bad (fun _ => 0) b) (as := [.inr (.inr (9, 0))]) (n := 4) (by decide)
  refine bsnd (b0 := b) 2000 4 10 0 bL0 [] [] 0 0 _ (by decide) born0 (fun _ => 0) 0 p e room_1 s m #[Value.ref b] below meth c (lw_Z below #[Value.ref b] s) hBX (fun g H locs ls pc' hg hP hD hS hl hrt => ?_) (fun _ => 0) s.heap [] _ ⟨Nat.le_refl _, fun i h => absurd h (Nat.not_lt_zero i)⟩ (fun k q hk => (by cases hk)) ⟨fun i j p q hi => (by cases hi), fun k q hk => (by cases hk)⟩ va_S.rf hLR
  have hpc : pc' = 16 := by
    rcases hrt with h | h | h
    · exact h.2.1
    · exact absurd h.1 (by decide)
    · exact absurd h.1 (by decide)
  subst hpc
  obtain ⟨V3, hV3⟩ := law_all (SL := L) (xs := xs) (by omega) (V0 L xs) inv0
  obtain ⟨f, hf⟩ := sem_iff.mp hV3
  have hb50 : ¬ s.heap.size ≤ ad0 b adK g 50 0 := by
    show ¬ s.heap.size ≤ b
    omega
  have hCX : CX D cy (ad0 b adK g) adV (fun q => s.heap.size ≤ q) L xs 30 227 p room_1 s m #[Value.ref b] c := ⟨⟨hx, hb, hml, hown, htg⟩, hK, ⟨by decide, by decide⟩, ⟨hS1, hS2, hS3⟩, hX, hbl⟩
  refine snd (l := l) (D := D) (cy := cy) (ad := ad0 b adK g) (adV := adV) (A := fun q => s.heap.size ≤ q) (SL := L) (xs := xs) ⟨fun V => link_D hD V, hb50, by omega⟩ f 30 227 16 _ [] (V0 L xs) _ (by decide) hf p e room_1 s m #[Value.ref b] below meth c _ _ (lw_Z below #[Value.ref b] s) hCX (by decide) (by decide) (fun H' locs' pc' ls' hP' hS' hV' hri => ?_) H locs ls (link_P hP) hS ?_ ?_ (fun v hv => by cases hv) ⟨rfl, rfl⟩
  · refine va_forget (fun q hq => hS'.2.2 q hq) (W.widen (k := 600000) (n := 7302250) (by decide) (by decide) ?_)
    exact lw_ret hx hb hr hlocks hri.1
  · refine ⟨hl.1, hl.2.1, rfl, fun i v hi => ?_⟩
    match i, hi with
    | 0, hi => cases hi; exact hl.2.2.2 0 _ rfl
    | 1, hi => cases hi; exact hl.2.2.2 1 _ rfl
    | 2, hi => cases hi; exact hl.2.2.2 2 _ rfl
    | 3, hi => cases hi
    | i + 4, hi => rw [show lget _ (i + 4) = lget [] i from rfl, lget_nil] at hi; cases hi
  · intro i v hi
    match i, hi with
    | 0, hi => cases hi; exact (by decide : 0 < cnt 50)
    | 1, hi => cases hi; exact (by decide : 0 < cnt 0)
    | 2, hi => cases hi; exact (by decide : 0 < cnt 30)
    | 3, hi => cases hi
    | i + 4, hi => rw [show lget _ (i + 4) = lget [] i from rfl, lget_nil] at hi; cases hi
-- ===== YOUR PART ENDS =====
set_option maxHeartbeats 4000000 in
theorem lw_walk (l : Launch) (b : Addr) (xs : List Int32) : MetFree l x (headSpec (Jvm.Cond.code x code maxLocals ret :: tables_1) room_1) (lw_P b xs) (fun _ _ _ _ _ => True) lw_Q := by
  refine MetFree.of_bodyS (code := code) (maxLocals := maxLocals) (ret := ret) (by decide) ?_ ?_
  · intro args s m h hn
    obtain ⟨meth, c, h1, h2, h3, h4, h5, h6, -, -⟩ := Cond.code_spec hn (atoms_spec (ws := Jvm.Cond.code x code maxLocals ret :: tables_1) h _ List.mem_cons_self)
    exact ⟨meth, c, h1, h2, h3, h4, h5, h6⟩
  · intro p e s m args below meth c s₁ B hml0 hP _
    obtain ⟨rfl, hx, hbd, hgv⟩ := hP
    obtain ⟨scr, harrAt, hlist, hof, hsmall⟩ := hx
    obtain ⟨hcb, hkn, -, -⟩ := State.arrayAt?_spec harrAt
    have hown : s.vm.findClass R_law = some m.cls := findClass_of_methodNamed B.named
    have hts0 : ∀ c ∈ (Jvm.Cond.code x code maxLocals ret :: tables_1), c.before #[Value.ref b] s = true := atoms_spec (ws := Jvm.Cond.code x code maxLocals ret :: tables_1) B.pre
    have hts : ∀ w ∈ lw_tbl, w.before #[Value.ref b] s = true := k2_hts_sels lw_privs (fun w hw => hts0 w (List.mem_cons_of_mem _ hw)) lw_privs_ok
    have hml : c.maxLocals = 4 := B.maxLocals_eq (hts0 _ List.mem_cons_self)
    have X₀ : Stand p l e room_1 s m #[Value.ref b] below meth c s₁ [] 0 0 := Stand.of_body B
    have hh0 : s₁.heap = s.heap := by rw [B.state]; rfl
    have hsz : scr.slots.size = xs.length := by rw [← Array.length_toList, hlist, List.length_map]
    have hval : ∀ j : Nat, j < xs.length → scr.slots[j]? = some (.int (xs.getD j 0)) := fun j hj => by
      rw [← Array.getElem?_toList, hlist]
      simp [hj]
    have hbl : b < s.heap.size := (Array.getElem?_eq_some_iff.mp hcb).1
    have hX : va_X b xs.length (fun j => xs.getD j 0) s s.heap := ⟨scr, hcb, hof, hkn, hsz, hval⟩
    have K : W p l e room_1 s m #[Value.ref b] below meth c s₁.heap [] 0 0 (lw_Z below #[Value.ref b] s) (entryFrame m ([Value.ref b] : List Value).toArray 4) := by
      rw [hh0]
      exact whole_start l hbd ⟨B.exec, B.bytes, B.returns, hml, hown, hts, hX, hbl, B.notSynchronized, hgv⟩
    obtain ⟨t, a1, o, b1, b2, b3⟩ := K s₁ rfl X₀
    exact ⟨t, o, a1, b1, b2, b3⟩
theorem lw_pre_spec {args : Array Value} {s : State} (h : (Jvm.Cond.and given_1 narrow_1).before args s = true) (hr : rest_1_c.before args s = true) : ∃ (b : Addr) (xs : List Int32), lw_P b xs args s := by
  have hs := flat_of_before _ h
  have hq := flat_of_before _ hr
  have hc : (Cond.count 1).before args s = true := hs _ (by decide +kernel)
  have harr : (Cond.arrayOf (.arg 0) .int).before args s = true := hs _ (by decide +kernel)
  have hle : (Cond.le (.length (.arg 0)) (.int 3072)).before args s = true := hs _ (by decide +kernel)
  have hlen : (Cond.isInt (.length (.arg 0))).before args s = true := hq _ (by decide +kernel)
  have hall : (Cond.all (.arg 0) (.isInt (.elem (.arg 0) (.index 0)))).before args s = true := hq _ (by decide +kernel)
  obtain ⟨b, xs, hb, hx⟩ := State.ints_of_pre rfl harr hlen hall
  have hsm : xs.length < 2 ^ 31 := hx.choose_spec.2.2.2
  have hev : (Term.length (.arg 0)).eval args s none [] s = some (.int xs.length.toInt32) := hx.length_eval hb
  have hv := Cond.le_ints hev (show (Term.int 3072).eval args s none [] s = some (.int 3072) from rfl)
  have hd : xs.length.toInt32 ≤ 3072 := by
    simpa [Cond.before, Cond.holds, hv] using hle
  have hN : xs.length ≤ 3072 := (Int32.ofNat_le_ofNat hsm (by decide)).mp (show Int32.ofNat xs.length ≤ Int32.ofNat 3072 from hd)
  exact ⟨b, xs, Cond.one_arg hc (show args[0]? = some (.ref b) from hb), hx, hN, h⟩
theorem lw_comes (l : Launch) : Comes l x (Jvm.Cond.code x code maxLocals ret :: tables_1) room_1 (fun tb e args s => Calls_1 tb e args s ∧ rest_1 tb e args s ∧ Pre_1 tb e args s)
    (fun _ _ args s o t => lw_Q args s o t) := by
  intro p e ha hc hk s m args below hf hfit hheap happ hpre
  obtain ⟨b, xs, hP⟩ := lw_pre_spec hpre.2.2 hpre.2.1
  obtain ⟨k, o, h1, h2, h3, hQ⟩ := lw_walk l b xs p e ha hc hk s m args below hf ((Spec.applies_iff_loose hf).mp happ).1 hP trivial
  exact ⟨k, o, h1, h2, h3, hQ⟩
theorem lw_frame {s t : State} {o : Outcome} {args : Array Value} (h : Framed s o t [] 600000 7302250) :
    Framed s o t (fieldLocs frame_1_writes args s ++ arrayLocs frame_1_arrays args s ++ staticLocs frame_1_statics s) 600000 7302250 := h
theorem lw_limb (L : Cond) (hL : ∀ (args : Array Value) (s t : State), L.after args s (.returned (some (.int 1))) t = true) :
    ArmFor flags0 classFile x code maxLocals ret World_1 tables_1 room_1 Calls_1 rest_1 Pre_1
      (fun tb e a s o t => postC L tb e a s o t ∧ Framed s o t (fieldLocs frame_1_writes a s ++ arrayLocs frame_1_arrays a s ++ staticLocs frame_1_statics s) 600000 7302250) := by
  intro l _ _ _ p e ha hc hk s m args below hf hfit hheap happ hpre
  obtain ⟨k, o, h1, h2, h3, rfl, hF⟩ := lw_comes l p e ha hc hk s m args below hf hfit hheap happ hpre
  exact ⟨k, _, h1, h2, h3, hL args s _, lw_frame hF⟩
theorem i_vc : Claimed_1_1 ∧ Claimed_1_2 := ⟨lw_limb limb_1_1 (fun args s t => by simp [limb_1_1, Cond.after, Cond.holds, Cond.value]), lw_limb limb_1_2 (fun args s t => Cond.after_iff.mpr (by
  first | (rw [show limb_1_2 = Cond.eq .result (.int 1) from rfl, Cond.eq_ints (x := 1) (y := 1) rfl rfl]; simp; done) | (simp [limb_1_2, Cond.value, Term.eval]; done)))⟩
