/-! THE STRINGS' OWN METHODS, as the law's words have them -/
set_option maxRecDepth 100000 in
theorem jw_li_coder : (Cond.methodLink RJ0 335 yJ0_coder_7d493) ∈ TBG := mem_tbg (i := 657) rfl rfl
set_option maxRecDepth 100000 in
theorem jw_in_coder : (Cond.instanceMethod yJ0_coder_7d493) ∈ TBG := mem_tbg (i := 658) rfl rfl
set_option maxRecDepth 100000 in
theorem jw_se_coder : (Cond.selects RJ0 yJ0_coder_7d493 yJ0_coder_7d493) ∈ TBG := mem_tbg (i := 659) rfl rfl
set_option maxRecDepth 100000 in
theorem jw_co_coder : (Cond.code yJ0_coder_7d493 cJ0_coder_7d493 1 (some .byte)) ∈ TBG := mem_tbg (i := 660) rfl rfl
set_option maxRecDepth 100000 in
theorem jw_fl_comp : (Cond.fieldLink RJ0 38 "java/lang/String" "COMPACT_STRINGS" "Z") ∈ TBG := mem_tbg (i := 661) rfl rfl
set_option maxRecDepth 100000 in
theorem jw_fl_value : (Cond.fieldLink RJ0 9 "java/lang/String" "value" "[B") ∈ TBG := mem_tbg (i := 1513) rfl rfl
set_option maxRecDepth 100000 in
theorem jw_fl_coder : (Cond.fieldLink RJ0 15 "java/lang/String" "coder" "B") ∈ TBG := mem_tbg (i := 1514) rfl rfl
set_option maxRecDepth 100000 in
theorem jw_li_length : (Cond.methodLink RX7 76 yJ0_length_8abf5) ∈ TBG := mem_tbg (i := 653) rfl rfl
set_option maxRecDepth 100000 in
theorem jw_in_length : (Cond.instanceMethod yJ0_length_8abf5) ∈ TBG := mem_tbg (i := 654) rfl rfl
set_option maxRecDepth 100000 in
theorem jw_se_length : (Cond.selects RJ0 yJ0_length_8abf5 yJ0_length_8abf5) ∈ TBG := mem_tbg (i := 655) rfl rfl
set_option maxRecDepth 100000 in
theorem jw_co_length : (Cond.code yJ0_length_8abf5 cJ0_length_8abf5 1 (some .int)) ∈ TBG := mem_tbg (i := 656) rfl rfl
set_option maxRecDepth 100000 in
theorem jw_li_charAt : (Cond.methodLink RX7 82 yJ0_charAt_5068e) ∈ TBG := mem_tbg (i := 663) rfl rfl
set_option maxRecDepth 100000 in
theorem jw_in_charAt : (Cond.instanceMethod yJ0_charAt_5068e) ∈ TBG := mem_tbg (i := 664) rfl rfl
set_option maxRecDepth 100000 in
theorem jw_se_charAt : (Cond.selects RJ0 yJ0_charAt_5068e yJ0_charAt_5068e) ∈ TBG := mem_tbg (i := 665) rfl rfl
set_option maxRecDepth 100000 in
theorem jw_co_charAt : (Cond.code yJ0_charAt_5068e cJ0_charAt_5068e 2 (some .char)) ∈ TBG := mem_tbg (i := 666) rfl rfl
set_option maxRecDepth 100000 in
theorem jw_li_isL : (Cond.methodLink RJ0 492 yJ0_isLatin1_aae02) ∈ TBG := mem_tbg (i := 667) rfl rfl
set_option maxRecDepth 100000 in
theorem jw_in_isL : (Cond.instanceMethod yJ0_isLatin1_aae02) ∈ TBG := mem_tbg (i := 668) rfl rfl
set_option maxRecDepth 100000 in
theorem jw_se_isL : (Cond.selects RJ0 yJ0_isLatin1_aae02 yJ0_isLatin1_aae02) ∈ TBG := mem_tbg (i := 669) rfl rfl
set_option maxRecDepth 100000 in
theorem jw_co_isL : (Cond.code yJ0_isLatin1_aae02 cJ0_isLatin1_aae02 1 (some .boolean)) ∈ TBG := mem_tbg (i := 670) rfl rfl
set_option maxRecDepth 100000 in
theorem jw_li_lat : (Cond.methodLink RJ0 495 yJ1_charAt_3b067) ∈ TBG := mem_tbg (i := 671) rfl rfl
set_option maxRecDepth 100000 in
theorem jw_st_lat : (Cond.static yJ1_charAt_3b067) ∈ TBG := mem_tbg (i := 672) rfl rfl
set_option maxRecDepth 100000 in
theorem jw_co_lat : (Cond.code yJ1_charAt_3b067 cJ1_charAt_3b067 2 (some .char)) ∈ TBG := mem_tbg (i := 673) rfl rfl
set_option maxRecDepth 100000 in
theorem jw_li_chk : (Cond.methodLink RJ1 9 yJ0_checkIndex_df160) ∈ TBG := mem_tbg (i := 674) rfl rfl
set_option maxRecDepth 100000 in
theorem jw_st_chk : (Cond.static yJ0_checkIndex_df160) ∈ TBG := mem_tbg (i := 675) rfl rfl
set_option maxRecDepth 100000 in
theorem jw_co_chk : (Cond.code yJ0_checkIndex_df160 cJ0_checkIndex_df160 2 none) ∈ TBG := mem_tbg (i := 676) rfl rfl
set_option maxRecDepth 100000 in
theorem jw_fl_fmt : (Cond.fieldLink RJ0 1053 "jdk/internal/util/Preconditions" "SIOOBE_FORMATTER" "Ljava/util/function/BiFunction;") ∈ TBG := mem_tbg (i := 677) rfl rfl
set_option maxRecDepth 100000 in
theorem jw_li_pre : (Cond.methodLink RJ0 1059 yJ3_checkIndex_8e157) ∈ TBG := mem_tbg (i := 679) rfl rfl
set_option maxRecDepth 100000 in
theorem jw_st_pre : (Cond.static yJ3_checkIndex_8e157) ∈ TBG := mem_tbg (i := 680) rfl rfl
set_option maxRecDepth 100000 in
theorem jw_co_pre : (Cond.code yJ3_checkIndex_8e157 cJ3_checkIndex_8e157 3 (some .int)) ∈ TBG := mem_tbg (i := 681) rfl rfl
set_option maxRecDepth 100000 in
theorem jw_ini_0 : (Cond.initialized RJ0) ∈ TBG := mem_tbg (i := 113) rfl rfl
set_option maxRecDepth 100000 in
theorem jw_ini_1 : (Cond.initialized RJ1) ∈ TBG := mem_tbg (i := 114) rfl rfl
set_option maxRecDepth 100000 in
theorem jw_ini_3 : (Cond.initialized RJ3) ∈ TBG := mem_tbg (i := 115) rfl rfl
theorem jJ0_length_8abf5_0 : decode cJ0_length_8abf5 0 = .ok (.aload_n 0, 1) := by decide +kernel
theorem jJ0_length_8abf5_1 : decode cJ0_length_8abf5 1 = .ok (.getfield 9, 3) := by decide +kernel
theorem jJ0_length_8abf5_4 : decode cJ0_length_8abf5 4 = .ok (.arraylength, 1) := by decide +kernel
theorem jJ0_length_8abf5_5 : decode cJ0_length_8abf5 5 = .ok (.aload_n 0, 1) := by decide +kernel
theorem jJ0_length_8abf5_6 : decode cJ0_length_8abf5 6 = .ok (.invokevirtual 335, 3) := by decide +kernel
theorem jJ0_length_8abf5_9 : decode cJ0_length_8abf5 9 = .ok (.ishr, 1) := by decide +kernel
theorem jJ0_length_8abf5_10 : decode cJ0_length_8abf5 10 = .ok (.ireturn, 1) := by decide +kernel
theorem jJ0_coder_7d493_0 : decode cJ0_coder_7d493 0 = .ok (.getstatic 38, 3) := by decide +kernel
theorem jJ0_coder_7d493_3 : decode cJ0_coder_7d493 3 = .ok (.ifCond .eq 10, 3) := by decide +kernel
theorem jJ0_coder_7d493_6 : decode cJ0_coder_7d493 6 = .ok (.aload_n 0, 1) := by decide +kernel
theorem jJ0_coder_7d493_7 : decode cJ0_coder_7d493 7 = .ok (.getfield 15, 3) := by decide +kernel
theorem jJ0_coder_7d493_10 : decode cJ0_coder_7d493 10 = .ok (.goto 4, 3) := by decide +kernel
theorem jJ0_coder_7d493_14 : decode cJ0_coder_7d493 14 = .ok (.ireturn, 1) := by decide +kernel
theorem jJ0_isLatin1_aae02_0 : decode cJ0_isLatin1_aae02 0 = .ok (.getstatic 38, 3) := by decide +kernel
theorem jJ0_isLatin1_aae02_3 : decode cJ0_isLatin1_aae02 3 = .ok (.ifCond .eq 14, 3) := by decide +kernel
theorem jJ0_isLatin1_aae02_6 : decode cJ0_isLatin1_aae02 6 = .ok (.aload_n 0, 1) := by decide +kernel
theorem jJ0_isLatin1_aae02_7 : decode cJ0_isLatin1_aae02 7 = .ok (.getfield 15, 3) := by decide +kernel
theorem jJ0_isLatin1_aae02_10 : decode cJ0_isLatin1_aae02 10 = .ok (.ifCond .ne 7, 3) := by decide +kernel
theorem jJ0_isLatin1_aae02_13 : decode cJ0_isLatin1_aae02 13 = .ok (.iconst 1, 1) := by decide +kernel
theorem jJ0_isLatin1_aae02_14 : decode cJ0_isLatin1_aae02 14 = .ok (.goto 4, 3) := by decide +kernel
theorem jJ0_isLatin1_aae02_18 : decode cJ0_isLatin1_aae02 18 = .ok (.ireturn, 1) := by decide +kernel
theorem jJ0_checkIndex_df160_0 : decode cJ0_checkIndex_df160 0 = .ok (.iload_n 0, 1) := by decide +kernel
theorem jJ0_checkIndex_df160_1 : decode cJ0_checkIndex_df160 1 = .ok (.iload_n 1, 1) := by decide +kernel
theorem jJ0_checkIndex_df160_2 : decode cJ0_checkIndex_df160 2 = .ok (.getstatic 1053, 3) := by decide +kernel
theorem jJ0_checkIndex_df160_5 : decode cJ0_checkIndex_df160 5 = .ok (.invokestatic 1059, 3) := by decide +kernel
theorem jJ0_checkIndex_df160_8 : decode cJ0_checkIndex_df160 8 = .ok (.pop, 1) := by decide +kernel
theorem jJ0_checkIndex_df160_9 : decode cJ0_checkIndex_df160 9 = .ok (.return_, 1) := by decide +kernel
theorem jJ1_charAt_3b067_0 : decode cJ1_charAt_3b067 0 = .ok (.iload_n 1, 1) := by decide +kernel
theorem jJ1_charAt_3b067_1 : decode cJ1_charAt_3b067 1 = .ok (.aload_n 0, 1) := by decide +kernel
theorem jJ1_charAt_3b067_2 : decode cJ1_charAt_3b067 2 = .ok (.arraylength, 1) := by decide +kernel
theorem jJ1_charAt_3b067_3 : decode cJ1_charAt_3b067 3 = .ok (.invokestatic 9, 3) := by decide +kernel
theorem jJ1_charAt_3b067_6 : decode cJ1_charAt_3b067 6 = .ok (.aload_n 0, 1) := by decide +kernel
theorem jJ1_charAt_3b067_7 : decode cJ1_charAt_3b067 7 = .ok (.iload_n 1, 1) := by decide +kernel
theorem jJ1_charAt_3b067_8 : decode cJ1_charAt_3b067 8 = .ok (.baload, 1) := by decide +kernel
theorem jJ1_charAt_3b067_9 : decode cJ1_charAt_3b067 9 = .ok (.sipush 255, 3) := by decide +kernel
theorem jJ1_charAt_3b067_12 : decode cJ1_charAt_3b067 12 = .ok (.iand, 1) := by decide +kernel
theorem jJ1_charAt_3b067_13 : decode cJ1_charAt_3b067 13 = .ok (.i2c, 1) := by decide +kernel
theorem jJ1_charAt_3b067_14 : decode cJ1_charAt_3b067 14 = .ok (.ireturn, 1) := by decide +kernel
theorem jJ0_charAt_5068e_0 : decode cJ0_charAt_5068e 0 = .ok (.aload_n 0, 1) := by decide +kernel
theorem jJ0_charAt_5068e_1 : decode cJ0_charAt_5068e 1 = .ok (.invokevirtual 492, 3) := by decide +kernel
theorem jJ0_charAt_5068e_4 : decode cJ0_charAt_5068e 4 = .ok (.ifCond .eq 12, 3) := by decide +kernel
theorem jJ0_charAt_5068e_7 : decode cJ0_charAt_5068e 7 = .ok (.aload_n 0, 1) := by decide +kernel
theorem jJ0_charAt_5068e_8 : decode cJ0_charAt_5068e 8 = .ok (.getfield 9, 3) := by decide +kernel
theorem jJ0_charAt_5068e_11 : decode cJ0_charAt_5068e 11 = .ok (.iload_n 1, 1) := by decide +kernel
theorem jJ0_charAt_5068e_12 : decode cJ0_charAt_5068e 12 = .ok (.invokestatic 495, 3) := by decide +kernel
theorem jJ0_charAt_5068e_15 : decode cJ0_charAt_5068e 15 = .ok (.ireturn, 1) := by decide +kernel
theorem jJ3_checkIndex_8e157_0 : decode cJ3_checkIndex_8e157 0 = .ok (.iload_n 0, 1) := by decide +kernel
theorem jJ3_checkIndex_8e157_1 : decode cJ3_checkIndex_8e157 1 = .ok (.ifCond .lt 8, 3) := by decide +kernel
theorem jJ3_checkIndex_8e157_4 : decode cJ3_checkIndex_8e157 4 = .ok (.iload_n 0, 1) := by decide +kernel
theorem jJ3_checkIndex_8e157_5 : decode cJ3_checkIndex_8e157 5 = .ok (.iload_n 1, 1) := by decide +kernel
theorem jJ3_checkIndex_8e157_6 : decode cJ3_checkIndex_8e157 6 = .ok (.if_icmp .lt 10, 3) := by decide +kernel
theorem jJ3_checkIndex_8e157_16 : decode cJ3_checkIndex_8e157 16 = .ok (.iload_n 0, 1) := by decide +kernel
theorem jJ3_checkIndex_8e157_17 : decode cJ3_checkIndex_8e157 17 = .ok (.ireturn, 1) := by decide +kernel
def wsK (y : MethodName) (cc : ByteArray) (n : Nat) (r : Option FieldType) : List Cond := Cond.code y cc n r :: TBG
def rmK (k : Nat) : Room := { frames := k, cells := 0, slots := 0, locals := 64 * k }
theorem wsK_good {y : MethodName} {cc : ByteArray} {n : Nat} {r : Option FieldType} (h : Cond.code y cc n r ∈ TBG) : GoodIn TBG (wsK y cc n r) := by
  intro w hw
  have hin : w ∈ TBG := by
    rcases List.mem_cons.mp hw with rfl | h2
    · exact h
    · exact h2
  exact ⟨hin, good_of_word (tbg_all hin)⟩
/-- what holds in a frame of such a method -/
def JX (D : va_G) (cy : Nat → ClassId) (ad : Nat → Nat → Nat) (adV : Nat → Nat) (A : Nat → Prop) (SL : Nat) (xs : Nat → Int32) (own : String) (cc : ByteArray) (nl k : Nat) (p : Program) (R : Room) (s : State) (mid : MethodId) (args : Array Value) (c : Code) : Prop :=
  (p.tables.exec = Jvm.exec ∧ c.code = cc ∧ c.maxLocals = nl ∧ s.vm.findClass own = some mid.cls ∧ ∀ w ∈ TBG, w.before args s = true) ∧ va_K D vwCl (tysL cy) s ∧ (k ≤ R.frames ∧ 64 * k ≤ R.locals) ∧
  (vk_S 5 slnL sbyL (fun k => ad 52 k) adV A s s.heap ∧ (∀ k : Nat, k < 5 → vk_R RX7 (sidx k) (stx k) (ad 52 k) s) ∧ stZ A s s.heap) ∧ va_X (ad 50 0) SL xs s s.heap ∧ ad 50 0 < s.heap.size
section Sound
variable {l : Launch} {D : va_G} {cy : Nat → ClassId} {ad : Nat → Nat → Nat} {adV : Nat → Nat} {A : Nat → Prop} {SL : Nat} {xs : Nat → Int32}
variable {p : Program} {e : Env} {R : Room} {s : State} {mid : MethodId} {args : Array Value} {below : List Frame} {meth : Method} {c : Code} {cells slots : Nat} {Q : State → Prop}
variable {d m pc : Nat} {L : AL} {S : AS} {V : Mem} {a b nx n : Nat} {i : Instr}
variable {own : String} {cc bytes : ByteArray} {nl k maxL : Nat} {y : MethodName} {ret : Option FieldType} {index : Nat} {H : Heap} {locs : List Loc} {ls : Array Slot} {As rest : List Value} {j : Nat} {r : Int32}
theorem wf_ofJ (hC : JX D cy ad adV A SL xs own cc nl k p R s mid args c) (hP : va_P D vwCl (allC cy ad V) H) (hS : va_S A s.heap H locs) (G : GW cy ad A SL) {U : State} (hU : U.heap = H) (hW : s.WarmedH U.vm) : WF D cy ad adV A SL xs V U := by
  refine ⟨by rw [hU]; exact hP, va_K.moved hW.alike hC.2.1, ⟨?_, fun k hk => vk_R.warm hW (hC.2.2.2.1.2.1 k hk), ?_⟩, ?_, ?_⟩
  · rw [hU]
    exact vk_S.moved hW.alike (hC.2.2.2.1.1.kept hS.2.1)
  · rw [hU]
    exact ⟨va_Z.moved hW.alike (hC.2.2.2.1.2.2.1.kept hS.2.1), va_Zq.moved hW.alike (hC.2.2.2.1.2.2.2.kept hS.2.1)⟩
  · rw [hU]
    exact va_X.moved hW.alike (hC.2.2.2.2.1.kept (hS.2.1 _ hC.2.2.2.2.2 G.2.1))
  · rw [hU]
    exact Nat.lt_of_lt_of_le hC.2.2.2.2.2 hS.1
/-- a contract with an answer, one without -/
def MJ (l : Launch) (D : va_G) (cy : Nat → ClassId) (ad : Nat → Nat → Nat) (adV : Nat → Nat) (A : Nat → Prop) (SL : Nat) (xs : Nat → Int32) (V : Mem) (y : MethodName) (bytes : ByteArray) (maxL : Nat) (ret : Option FieldType) (k : Nat) (as : List Value) (r : Int32) : Prop :=
  Met l y (wsK y bytes maxL ret) (rmK k) (va_Pc as (WF D cy ad adV A SL xs V)) (va_Qi (fun r' (_ : Unit) => r' = r) (fun _ t => va_P D vwCl (allC cy ad V) t.heap) A) 0 0 A
def MJv (l : Launch) (D : va_G) (cy : Nat → ClassId) (ad : Nat → Nat → Nat) (adV : Nat → Nat) (A : Nat → Prop) (SL : Nat) (xs : Nat → Int32) (V : Mem) (y : MethodName) (bytes : ByteArray) (maxL : Nat) (k : Nat) (as : List Value) : Prop :=
  Met l y (wsK y bytes maxL none) (rmK k) (va_Pc as (WF D cy ad adV A SL xs V)) (va_Qv (fun _ : Unit => True) (fun _ t => va_P D vwCl (allC cy ad V) t.heap) A) 0 0 A
theorem j_callV (G : GW cy ad A SL) (hC : JX D cy ad adV A SL xs own cc nl (k + 1) p R s mid args c) (hM : MJ l D cy ad adV A SL xs V y bytes maxL ret k (.ref (ad 52 j) :: As) r) (hj : j < 5) (hy : y.cls = "java/lang/String") (hco : Cond.code y bytes maxL ret ∈ TBG) (hin : Cond.instanceMethod y ∈ TBG) (hse : Cond.selects y.cls y y ∈ TBG) (hli : Cond.methodLink own index y ∈ TBG)
    (hn : (parseMethodDescriptor y.desc).map (fun d => d.parameters.length) = some As.length) (hmax : maxL ≤ 40) (hls : ls.size = nl) (hrest : (rest.map fun v => v.category).sum ≤ 8) (hcl : cells ≤ R.cells) (hsl : slots ≤ R.slots) (hP : va_P D vwCl (allC cy ad V) H) (hS : va_S A s.heap H locs) {st : List Value} (hst : st = As.reverse ++ .ref (ad 52 j) :: rest) (hd : decode cc pc = .ok (.invokevirtual index, 3))
    (kk : ∀ (H1 : Heap) (locs1 : List Loc), va_P D vwCl (allC cy ad V) H1 → va_S A s.heap H1 locs1 → W p l e R s mid args below meth c H1 locs1 cells slots Q (F0 mid (pc + 3) ls (.int r :: rest))) : W p l e R s mid args below meth c H locs cells slots Q (F0 mid pc ls st) := by
  have hfr := hC.2.2.1
  subst hst
  have hrec : ∃ cell : Cell, H[ad 52 j]? = some cell ∧ cell.vm.isStatics = false ∧ s.vm.findClass y.cls = some cell.cls := by rw [hy]; exact vk_recv hC.2.2.2.1.1 hj hS
  have hini : Cond.initialized y.cls ∈ TBG := by rw [hy]; exact jw_ini_0
  have hrun := va_runV (below := below) (e := e) (locs := locs) (cells := cells) (slots := slots) (meth := meth) (g := F0 mid pc ls (As.reverse ++ .ref (ad 52 j) :: rest)) (As := As) (rest := rest) (b := ad 52 j) hC.1 hM ⟨callB_of As.length hC.1.2.2.2.2 (wsK_good hco) rfl rfl rfl (hC.1.2.2.2.2 _ hini) (hC.1.2.2.2.2 _ hli) ⟨by rw [hy]; decide, by rw [hy]; decide, hn⟩ ⟨by show k + 1 ≤ _; omega, by show 8 + (maxL + 11) + 64 * k ≤ _; omega⟩, hC.1.2.2.2.2 _ hin, hC.1.2.2.2.2 _ hse⟩
      ⟨wf_blind, hrec, fun U hU hW => ⟨rfl, wf_ofJ hC hP hS G hU hW⟩⟩ rfl rfl hls rfl (lv_room hrest) hd ⟨hcl, hsl⟩
  exact va_calli hrun hS (fun q _ h => h) (fun q h => h) (fun r' u t H1 locs1 ht hvm hr' hB1 _ _ hS1 => by
    subst hr'
    exact kk H1 locs1 (by rw [← ht]; exact hB1) hS1)
theorem j_callS (G : GW cy ad A SL) (hC : JX D cy ad adV A SL xs own cc nl (k + 1) p R s mid args c) (hM : MJ l D cy ad adV A SL xs V y bytes maxL ret k As r) (hini : Cond.initialized y.cls ∈ TBG) (hy : y.cls ≠ "java/lang/invoke/MethodHandle" ∧ y.cls ≠ "java/lang/invoke/VarHandle") (hco : Cond.code y bytes maxL ret ∈ TBG) (hstt : Cond.static y ∈ TBG) (hli : Cond.methodLink own index y ∈ TBG)
    (hn : (parseMethodDescriptor y.desc).map (fun d => d.parameters.length) = some As.length) (hmax : maxL ≤ 40) (hls : ls.size = nl) (hrest : (rest.map fun v => v.category).sum ≤ 8) (hcl : cells ≤ R.cells) (hsl : slots ≤ R.slots) (hP : va_P D vwCl (allC cy ad V) H) (hS : va_S A s.heap H locs) {st : List Value} (hst : st = As.reverse ++ rest) (hd : decode cc pc = .ok (.invokestatic index, 3))
    (kk : ∀ (H1 : Heap) (locs1 : List Loc), va_P D vwCl (allC cy ad V) H1 → va_S A s.heap H1 locs1 → W p l e R s mid args below meth c H1 locs1 cells slots Q (F0 mid (pc + 3) ls (.int r :: rest))) : W p l e R s mid args below meth c H locs cells slots Q (F0 mid pc ls st) := by
  have hfr := hC.2.2.1
  subst hst
  have hrun := va_runS (below := below) (e := e) (locs := locs) (cells := cells) (slots := slots) (meth := meth) (g := F0 mid pc ls (As.reverse ++ rest)) (As := As) (rest := rest) hC.1 hM ⟨callB_of As.length hC.1.2.2.2.2 (wsK_good hco) rfl rfl rfl (hC.1.2.2.2.2 _ hini) (hC.1.2.2.2.2 _ hli) ⟨hy.1, hy.2, hn⟩ ⟨by show k + 1 ≤ _; omega, by show 8 + (maxL + 11) + 64 * k ≤ _; omega⟩, hC.1.2.2.2.2 _ hstt⟩
      ⟨wf_blind, fun U hU hW => ⟨rfl, wf_ofJ hC hP hS G hU hW⟩⟩ rfl rfl hls rfl (lv_room hrest) hd ⟨hcl, hsl⟩
  exact va_calli hrun hS (fun q _ h => h) (fun q h => h) (fun r' u t H1 locs1 ht hvm hr' hB1 _ _ hS1 => by
    subst hr'
    exact kk H1 locs1 (by rw [← ht]; exact hB1) hS1)
theorem j_callW (G : GW cy ad A SL) (hC : JX D cy ad adV A SL xs own cc nl (k + 1) p R s mid args c) (hM : MJv l D cy ad adV A SL xs V y bytes maxL k As) (hini : Cond.initialized y.cls ∈ TBG) (hy : y.cls ≠ "java/lang/invoke/MethodHandle" ∧ y.cls ≠ "java/lang/invoke/VarHandle") (hco : Cond.code y bytes maxL none ∈ TBG) (hstt : Cond.static y ∈ TBG) (hli : Cond.methodLink own index y ∈ TBG)
    (hn : (parseMethodDescriptor y.desc).map (fun d => d.parameters.length) = some As.length) (hmax : maxL ≤ 40) (hls : ls.size = nl) (hrest : (rest.map fun v => v.category).sum ≤ 8) (hcl : cells ≤ R.cells) (hsl : slots ≤ R.slots) (hP : va_P D vwCl (allC cy ad V) H) (hS : va_S A s.heap H locs) {st : List Value} (hst : st = As.reverse ++ rest) (hd : decode cc pc = .ok (.invokestatic index, 3))
    (kk : ∀ (H1 : Heap) (locs1 : List Loc), va_P D vwCl (allC cy ad V) H1 → va_S A s.heap H1 locs1 → W p l e R s mid args below meth c H1 locs1 cells slots Q (F0 mid (pc + 3) ls rest)) : W p l e R s mid args below meth c H locs cells slots Q (F0 mid pc ls st) := by
  have hfr := hC.2.2.1
  subst hst
  have hrun := va_runS (below := below) (e := e) (locs := locs) (cells := cells) (slots := slots) (meth := meth) (g := F0 mid pc ls (As.reverse ++ rest)) (As := As) (rest := rest) hC.1 hM ⟨callB_of As.length hC.1.2.2.2.2 (wsK_good hco) rfl rfl rfl (hC.1.2.2.2.2 _ hini) (hC.1.2.2.2.2 _ hli) ⟨hy.1, hy.2, hn⟩ ⟨by show k + 1 ≤ _; omega, by show 8 + (maxL + 11) + 64 * k ≤ _; omega⟩, hC.1.2.2.2.2 _ hstt⟩
      ⟨wf_blind, fun U hU hW => ⟨rfl, wf_ofJ hC hP hS G hU hW⟩⟩ rfl rfl hls rfl (lv_room hrest) hd ⟨hcl, hsl⟩
  exact va_callv hrun hS (fun q _ h => h) (fun q h => h) (fun u t H1 locs1 ht hvm _ hB1 _ _ hS1 => kk H1 locs1 (by rw [← ht]; exact hB1) hS1)
theorem j_body {ty : FieldType} {as : List Value} (hp : plainName y.cls = true) (hnar : narrow ty (.int r) = .int r)
    (body : ∀ (p : Program) (e : Env) (R : Room) (s : State) (mid : MethodId) (args : Array Value) (below : List Frame) (meth : Method) (c : Code) (Q : State → Prop), JX D cy ad adV A SL xs y.cls bytes maxL k p R s mid args c → va_P D vwCl (allC cy ad V) s.heap →
      (∀ (H : Heap) (locs : List Loc) (pc' : Nat) (ls : Array Slot), va_P D vwCl (allC cy ad V) H → va_S A s.heap H locs → decode bytes pc' = .ok (.ireturn, 1) → W p l e R s mid args below meth c H locs 0 0 Q (F0 mid pc' ls [.int r])) →
      W p l e R s mid args below meth c s.heap [] 0 0 Q (F0 mid 0 ((lg_sl as ++ List.replicate (maxL - (lg_sl as).length) Slot.unset).toArray) [])) : MJ l D cy ad adV A SL xs V y bytes maxL (some ty) k as r := by
  refine Met.ofW (cc := bytes) (maxL := maxL) (ret := some ty) hp rfl ?_
  intro p e s m args below meth c s₁ B hml hv
  obtain ⟨rfl, hP, hK, hStr, hX, hb50⟩ := hv
  have hts := atoms_spec (ws := wsK y bytes maxL (some ty)) B.pre
  have hown : s.vm.findClass y.cls = some m.cls := findClass_of_methodNamed B.named
  have hlocks := B.notSynchronized
  rw [lg_entry_eq]
  exact body p e _ s m _ below meth c _ ⟨⟨B.exec, B.bytes, hml, hown, fun w hw => hts w (List.mem_cons_of_mem _ hw)⟩, hK, ⟨Nat.le_refl _, Nat.le_refl _⟩, hStr, hX, hb50⟩ hP (fun H locs pc' ls hP' hS' hr => W.zret (ty := ty) B.exec B.bytes B.returns hnar (fun t ht hW => ⟨⟨r, (), rfl, rfl, by show va_P D vwCl (allC cy ad V) t.heap; rw [ht]; exact hP'⟩, hS'.F ht⟩) hS'.2.2 hr)
theorem j_bodyv {as : List Value} (hp : plainName y.cls = true)
    (body : ∀ (p : Program) (e : Env) (R : Room) (s : State) (mid : MethodId) (args : Array Value) (below : List Frame) (meth : Method) (c : Code) (Q : State → Prop), JX D cy ad adV A SL xs y.cls bytes maxL k p R s mid args c → va_P D vwCl (allC cy ad V) s.heap →
      (∀ (H : Heap) (locs : List Loc) (pc' : Nat) (ls : Array Slot), va_P D vwCl (allC cy ad V) H → va_S A s.heap H locs → decode bytes pc' = .ok (.return_, 1) → W p l e R s mid args below meth c H locs 0 0 Q (F0 mid pc' ls [])) →
      W p l e R s mid args below meth c s.heap [] 0 0 Q (F0 mid 0 ((lg_sl as ++ List.replicate (maxL - (lg_sl as).length) Slot.unset).toArray) [])) : MJv l D cy ad adV A SL xs V y bytes maxL k as := by
  refine Met.ofW (cc := bytes) (maxL := maxL) (ret := none) hp rfl ?_
  intro p e s m args below meth c s₁ B hml hv
  obtain ⟨rfl, hP, hK, hStr, hX, hb50⟩ := hv
  have hts := atoms_spec (ws := wsK y bytes maxL none) B.pre
  have hown : s.vm.findClass y.cls = some m.cls := findClass_of_methodNamed B.named
  have hlocks := B.notSynchronized
  rw [lg_entry_eq]
  exact body p e _ s m _ below meth c _ ⟨⟨B.exec, B.bytes, hml, hown, fun w hw => hts w (List.mem_cons_of_mem _ hw)⟩, hK, ⟨Nat.le_refl _, Nat.le_refl _⟩, hStr, hX, hb50⟩ hP (fun H locs pc' ls hP' hS' hr => W.vret B.exec B.bytes B.returns (fun t ht hW => ⟨⟨(), rfl, trivial, by show va_P D vwCl (allC cy ad V) t.heap; rw [ht]; exact hP'⟩, hS'.F ht⟩) hS'.2.2 hr)
theorem m_coder (hj : j < 5) : MJ l D cy ad adV A SL xs V yJ0_coder_7d493 cJ0_coder_7d493 1 (some .byte) k [.ref (ad 52 j)] 0 := by
  refine j_body (by decide) (by decide) ?_
  intro p e R s mid args below meth c Q hC hP hret
  have hx := hC.1.1
  have hb := hC.1.2.1
  have hS : va_S A s.heap s.heap [] := va_S.rf
  refine va_gets hx hb hC.2.2.2.1.2.2.1 hS hC.1.2.2.2.1 (hC.1.2.2.2.2 _ jw_fl_comp) (fun _ h => h) jJ0_coder_7d493_0 ?_
  refine lv_if_eq hx hb jJ0_coder_7d493_3 (tgt := 13) rfl (fun q => absurd q (by decide)) (fun _ => ?_)
  refine lv_aload_n hx hb jJ0_coder_7d493_6 rfl rfl ?_
  refine vk_getf hx hb (hC.2.2.2.1.1.1 j hj).2.1 hS hC.1.2.2.2.1 (hC.1.2.2.2.2 _ jw_fl_coder) (fun _ h => h) jJ0_coder_7d493_7 ?_
  refine lv_goto hx hb jJ0_coder_7d493_10 (tgt := 14) rfl ?_
  exact hret _ _ _ _ hP hS jJ0_coder_7d493_14
theorem m_isLatin (hj : j < 5) : MJ l D cy ad adV A SL xs V yJ0_isLatin1_aae02 cJ0_isLatin1_aae02 1 (some .boolean) k [.ref (ad 52 j)] 1 := by
  refine j_body (by decide) (by decide) ?_
  intro p e R s mid args below meth c Q hC hP hret
  have hx := hC.1.1
  have hb := hC.1.2.1
  have hS : va_S A s.heap s.heap [] := va_S.rf
  refine va_gets hx hb hC.2.2.2.1.2.2.1 hS hC.1.2.2.2.1 (hC.1.2.2.2.2 _ jw_fl_comp) (fun _ h => h) jJ0_isLatin1_aae02_0 ?_
  refine lv_if_eq hx hb jJ0_isLatin1_aae02_3 (tgt := 17) rfl (fun q => absurd q (by decide)) (fun _ => ?_)
  refine lv_aload_n hx hb jJ0_isLatin1_aae02_6 rfl rfl ?_
  refine vk_getf hx hb (hC.2.2.2.1.1.1 j hj).2.1 hS hC.1.2.2.2.1 (hC.1.2.2.2.2 _ jw_fl_coder) (fun _ h => h) jJ0_isLatin1_aae02_7 ?_
  refine lv_if_ne hx hb jJ0_isLatin1_aae02_10 (tgt := 17) rfl (fun q => absurd rfl q) (fun _ => ?_)
  refine lv_iconst hx hb jJ0_isLatin1_aae02_13 (v := 1) (by decide) ?_
  refine lv_goto hx hb jJ0_isLatin1_aae02_14 (tgt := 18) rfl ?_
  exact hret _ _ _ _ hP hS jJ0_isLatin1_aae02_18
theorem len_val : ∀ j, j < 5 → Int32.ofNat (slnL.getD j 0) >>> ((0 : Int32) &&& 31) = nI (slen j) := by decide +kernel
theorem m_length (G : GW cy ad A SL) (hj : j < 5) : MJ l D cy ad adV A SL xs V yJ0_length_8abf5 cJ0_length_8abf5 1 (some .int) (k + 1) [.ref (ad 52 j)] (nI (slen j)) := by
  refine j_body (by decide) rfl ?_
  intro p e R s mid args below meth c Q hC hP hret
  have hx := hC.1.1
  have hb := hC.1.2.1
  have hS : va_S A s.heap s.heap [] := va_S.rf
  refine lv_aload_n hx hb jJ0_length_8abf5_0 rfl rfl ?_
  refine vk_getf hx hb (hC.2.2.2.1.1.1 j hj).2.2.1 hS hC.1.2.2.2.1 (hC.1.2.2.2.2 _ jw_fl_value) (fun _ h => h) jJ0_length_8abf5_1 ?_
  refine va_tlen hx hb (hC.2.2.2.1.1.1 j hj).2.2.2 hS rfl jJ0_length_8abf5_4 ?_
  refine lv_aload_n hx hb jJ0_length_8abf5_5 rfl rfl ?_
  refine j_callV (As := []) G hC (m_coder hj) hj rfl jw_co_coder jw_in_coder jw_se_coder jw_li_coder (by show (parseMethodDescriptor _).map _ = some 0; decide) (by decide) rfl (by show 1 + 0 ≤ 8; decide) (Nat.zero_le _) (Nat.zero_le _) hP hS rfl jJ0_length_8abf5_6 (fun H1 locs1 hP1 hS1 => ?_)
  refine lv_ishr hx hb jJ0_length_8abf5_9 ?_
  rw [len_val j hj]
  exact hret _ _ _ _ hP1 hS1 jJ0_length_8abf5_10
theorem m_pre {x z : Int32} {v : Value} (hv : v = .null ∨ ∃ t, v = .ref t) (h0 : ¬ x < 0) (h1 : x < z) : MJ l D cy ad adV A SL xs V yJ3_checkIndex_8e157 cJ3_checkIndex_8e157 3 (some .int) k [.int x, .int z, v] x := by
  refine j_body (by decide) rfl ?_
  intro p e R s mid args below meth c Q hC hP hret
  have hx := hC.1.1
  have hb := hC.1.2.1
  have hS : va_S A s.heap s.heap [] := va_S.rf
  refine lv_iload_n (x := x) hx hb jJ3_checkIndex_8e157_0 rfl rfl ?_
  refine lv_if_lt hx hb jJ3_checkIndex_8e157_1 (tgt := 9) rfl (fun q => absurd q h0) (fun _ => ?_)
  refine lv_iload_n (x := x) hx hb jJ3_checkIndex_8e157_4 rfl rfl ?_
  refine lv_iload_n (x := z) hx hb jJ3_checkIndex_8e157_5 rfl rfl ?_
  refine lv_icmp_lt hx hb jJ3_checkIndex_8e157_6 (tgt := 16) rfl (fun _ => ?_) (fun q => absurd h1 q)
  refine lv_iload_n (x := x) hx hb jJ3_checkIndex_8e157_16 rfl rfl ?_
  exact hret _ _ _ _ hP hS jJ3_checkIndex_8e157_17
theorem m_chk (G : GW cy ad A SL) {x z : Int32} (h0 : ¬ x < 0) (h1 : x < z) : MJv l D cy ad adV A SL xs V yJ0_checkIndex_df160 cJ0_checkIndex_df160 2 (k + 1) [.int x, .int z] := by
  refine j_bodyv (by decide) ?_
  intro p e R s mid args below meth c Q hC hP hret
  have hx := hC.1.1
  have hb := hC.1.2.1
  have hS : va_S A s.heap s.heap [] := va_S.rf
  refine lv_iload_n (x := x) hx hb jJ0_checkIndex_df160_0 rfl rfl ?_
  refine lv_iload_n (x := z) hx hb jJ0_checkIndex_df160_1 rfl rfl ?_
  have fin : ∀ v : Value, (v = .null ∨ ∃ t, v = .ref t) → W p l e R s mid args below meth c s.heap [] 0 0 Q (F0 mid 5 ((lg_sl [Value.int x, .int z] ++ List.replicate (2 - (lg_sl [Value.int x, .int z]).length) Slot.unset).toArray) [v, .int z, .int x]) := fun v hv => by
    refine j_callS (As := [.int x, .int z, v]) (rest := []) G hC (m_pre hv h0 h1) jw_ini_3 (by decide) jw_co_pre jw_st_pre jw_li_pre (by show (parseMethodDescriptor _).map _ = some 3; decide) (by decide) rfl (by show 0 ≤ 8; decide) (Nat.zero_le _) (Nat.zero_le _) hP hS rfl jJ0_checkIndex_df160_5 (fun H1 locs1 hP1 hS1 => ?_)
    refine lv_pop hx hb jJ0_checkIndex_df160_8 rfl ?_
    exact hret _ _ _ _ hP1 hS1 jJ0_checkIndex_df160_9
  rcases hC.2.2.2.1.2.2.2 with hz | ⟨t, hz⟩
  · exact va_gets hx hb hz hS hC.1.2.2.2.1 (hC.1.2.2.2.2 _ jw_fl_fmt) (fun _ h => h) jJ0_checkIndex_df160_2 (fin _ (Or.inl rfl))
  · exact va_gets hx hb hz hS hC.1.2.2.2.1 (hC.1.2.2.2.2 _ jw_fl_fmt) (fun _ h => h) jJ0_checkIndex_df160_2 (fin _ (Or.inr ⟨t, rfl⟩))
theorem chr_val : ∀ j, j < 5 → ∀ k, k < 6 → k < slen j → ((((sbyL.getD j []).getD k 0 &&& 255) : Int32).toUInt32 % 65536).toInt32 = schr j k ∧ narrow .char (.int (schr j k)) = .int (schr j k) := by decide +kernel
theorem len6 : ∀ j, j < 5 → slnL.getD j 0 = slen j ∧ slen j ≤ 6 := by decide +kernel
theorem m_lat (G : GW cy ad A SL) {x : Int32} (hj : j < 5) (hin : ¬ (x < 0 ∨ slen j ≤ x.toNatClampNeg)) : MJ l D cy ad adV A SL xs V yJ1_charAt_3b067 cJ1_charAt_3b067 2 (some .char) (k + 2) [.ref (adV j), .int x] (schr j x.toNatClampNeg) := by
  obtain ⟨l1, l2⟩ := len6 j hj
  have hlt : x.toNatClampNeg < slen j := Nat.not_le.mp (fun q => hin (Or.inr q))
  obtain ⟨v1, v2⟩ := chr_val j hj x.toNatClampNeg (by omega) hlt
  have xe : x = nI x.toNatClampNeg := by
    obtain ⟨n, hn, e⟩ := nI_of (fun q => hin (Or.inl q))
    rw [e, nI_clamp hn]
  have h1 : x < nI (slen j) := by
    rw [xe]
    exact nI_lt hlt (by omega)
  refine j_body (by decide) v2 ?_
  intro p e R s mid args below meth c Q hC hP hret
  have hx := hC.1.1
  have hb := hC.1.2.1
  have hS : va_S A s.heap s.heap [] := va_S.rf
  refine lv_iload_n (x := x) hx hb jJ1_charAt_3b067_0 rfl rfl ?_
  refine lv_aload_n hx hb jJ1_charAt_3b067_1 rfl rfl ?_
  refine va_tlen (v := nI (slen j)) hx hb (hC.2.2.2.1.1.1 j hj).2.2.2 hS (by rw [l1]; rfl) jJ1_charAt_3b067_2 ?_
  refine j_callW (As := [.int x, .int (nI (slen j))]) (rest := []) G hC (m_chk G (fun q => hin (Or.inl q)) h1) jw_ini_0 (by decide) jw_co_chk jw_st_chk jw_li_chk (by show (parseMethodDescriptor _).map _ = some 2; decide) (by decide) rfl (by show 0 ≤ 8; decide) (Nat.zero_le _) (Nat.zero_le _) hP hS rfl jJ1_charAt_3b067_3 (fun H1 locs1 hP1 hS1 => ?_)
  refine lv_aload_n hx hb jJ1_charAt_3b067_6 rfl rfl ?_
  refine lv_iload_n (x := x) hx hb jJ1_charAt_3b067_7 rfl rfl ?_
  refine va_tb hx hb (hC.2.2.2.1.1.1 j hj).2.2.2 hS1 (by rw [l1]; exact hin) rfl jJ1_charAt_3b067_8 ?_
  refine lv_sipush hx hb jJ1_charAt_3b067_9 (v := 255) (by decide) ?_
  refine lv_iand hx hb jJ1_charAt_3b067_12 ?_
  refine lv_i2c hx hb jJ1_charAt_3b067_13 v1 ?_
  exact hret _ _ _ _ hP1 hS1 jJ1_charAt_3b067_14
theorem m_charAt (G : GW cy ad A SL) {x : Int32} (hj : j < 5) (hin : ¬ (x < 0 ∨ slen j ≤ x.toNatClampNeg)) : MJ l D cy ad adV A SL xs V yJ0_charAt_5068e cJ0_charAt_5068e 2 (some .char) (k + 3) [.ref (ad 52 j), .int x] (schr j x.toNatClampNeg) := by
  obtain ⟨l1, l2⟩ := len6 j hj
  have hlt : x.toNatClampNeg < slen j := Nat.not_le.mp (fun q => hin (Or.inr q))
  obtain ⟨v1, v2⟩ := chr_val j hj x.toNatClampNeg (by omega) hlt
  refine j_body (by decide) v2 ?_
  intro p e R s mid args below meth c Q hC hP hret
  have hx := hC.1.1
  have hb := hC.1.2.1
  have hS : va_S A s.heap s.heap [] := va_S.rf
  refine lv_aload_n hx hb jJ0_charAt_5068e_0 rfl rfl ?_
  refine j_callV (As := []) G hC (m_isLatin hj) hj rfl jw_co_isL jw_in_isL jw_se_isL jw_li_isL (by show (parseMethodDescriptor _).map _ = some 0; decide) (by decide) rfl (by show 0 ≤ 8; decide) (Nat.zero_le _) (Nat.zero_le _) hP hS rfl jJ0_charAt_5068e_1 (fun H1 locs1 hP1 hS1 => ?_)
  refine lv_if_eq hx hb jJ0_charAt_5068e_4 (tgt := 16) rfl (fun q => absurd q (by decide)) (fun _ => ?_)
  refine lv_aload_n hx hb jJ0_charAt_5068e_7 rfl rfl ?_
  refine vk_getf hx hb (hC.2.2.2.1.1.1 j hj).2.2.1 hS1 hC.1.2.2.2.1 (hC.1.2.2.2.2 _ jw_fl_value) (fun _ h => h) jJ0_charAt_5068e_8 ?_
  refine lv_iload_n (x := x) hx hb jJ0_charAt_5068e_11 rfl rfl ?_
  refine j_callS (As := [.ref (adV j), .int x]) (rest := []) G hC (m_lat G hj hin) jw_ini_1 (by decide) jw_co_lat jw_st_lat jw_li_lat (by show (parseMethodDescriptor _).map _ = some 2; decide) (by decide) rfl (by show 0 ≤ 8; decide) (Nat.zero_le _) (Nat.zero_le _) hP1 hS1 rfl jJ0_charAt_5068e_12 (fun H2 locs2 hP2 hS2 => ?_)
  exact hret _ _ _ _ hP2 hS2 jJ0_charAt_5068e_15
theorem slk_in : ∀ q ∈ slk, q.1 = 8 ∧ ((q.2.2.1 = 0 ∧ q.2.1 = 76) ∨ (q.2.2.1 = 1 ∧ q.2.1 = 82)) := by decide +kernel
theorem ow8 : owS 8 = RX7 := by decide
theorem s_slen (G : GW cy ad A SL) (hC : CX D cy ad adV A SL xs d m p R s mid args c) (hd : decode (byt m) pc = .ok (i, n)) (hi : k_str (ow m) pc 0 nx i n = true) {t j : Nat} (ht : t = 52) (hcs : csum S ≤ 8) (hcl : cells ≤ R.cells) (hsl : slots ≤ R.slots) (k : PS l D cy ad A SL xs p e R s mid args below meth c cells slots Q m nx L (.inl (nI (slen j)) :: S) V) : PS l D cy ad A SL xs p e R s mid args below meth c cells slots Q m pc L (.inr (.inr (t, j)) :: S) V := by
  intro H locs ls hP hS hl hA hB hV
  subst ht
  have hj : j < 5 := hB.head
  have K := fun H1 locs1 hP1 hS1 => k H1 locs1 ls hP1 hS1 hl hA (hB.tail.cons trivial) hV
  unfold k_str at hi
  split at hi <;> first | exact absurd hi (by decide) | simp only [decide_eq_true_eq, Bool.and_eq_true] at hi
  obtain ⟨⟨rfl, rfl⟩, hi⟩ := hi
  obtain ⟨q, hq, hq2⟩ := any_ex hi
  simp only [decide_eq_true_eq] at hq2
  obtain ⟨h1, rfl, h3⟩ := hq2
  obtain ⟨g1, g2⟩ := slk_in q hq
  have hC' : JX D cy ad adV A SL xs (owS (ow m)) (byt m) (nLo m) (d + 6 + 1 + 1) p R s mid args c := hC
  rw [show ow m = 8 from h1.symm.trans g1, ow8] at hC'
  rcases g2 with ⟨g2, g3⟩ | ⟨g2, g3⟩
  · rw [g3] at hd
    exact j_callV (As := []) G hC' (m_length G hj) hj rfl jw_co_length jw_in_length jw_se_length jw_li_length (by show (parseMethodDescriptor _).map _ = some 0; decide) (by decide) hl.1 (by rw [csum_real]; exact hcs) hcl hsl hP hS rfl hd K
  · omega
theorem s_schr (G : GW cy ad A SL) (hC : CX D cy ad adV A SL xs d m p R s mid args c) (hd : decode (byt m) pc = .ok (i, n)) (hi : k_str (ow m) pc 1 nx i n = true) {t j : Nat} {x : Int32} (ht : t = 52) (hcs : csum S ≤ 8) (hin : ¬ (x < 0 ∨ slen j ≤ x.toNatClampNeg)) (hcl : cells ≤ R.cells) (hsl : slots ≤ R.slots) (k : PS l D cy ad A SL xs p e R s mid args below meth c cells slots Q m nx L (.inl (schr j x.toNatClampNeg) :: S) V) : PS l D cy ad A SL xs p e R s mid args below meth c cells slots Q m pc L (.inl x :: .inr (.inr (t, j)) :: S) V := by
  intro H locs ls hP hS hl hA hB hV
  subst ht
  have hj : j < 5 := hB.tail.head
  have K := fun H1 locs1 hP1 hS1 => k H1 locs1 ls hP1 hS1 hl hA (hB.tail.tail.cons trivial) hV
  unfold k_str at hi
  split at hi <;> first | exact absurd hi (by decide) | simp only [decide_eq_true_eq, Bool.and_eq_true] at hi
  obtain ⟨⟨rfl, rfl⟩, hi⟩ := hi
  obtain ⟨q, hq, hq2⟩ := any_ex hi
  simp only [decide_eq_true_eq] at hq2
  obtain ⟨h1, rfl, h3⟩ := hq2
  obtain ⟨g1, g2⟩ := slk_in q hq
  have hC' : JX D cy ad adV A SL xs (owS (ow m)) (byt m) (nLo m) (d + 4 + 3 + 1) p R s mid args c := hC
  rw [show ow m = 8 from h1.symm.trans g1, ow8] at hC'
  rcases g2 with ⟨g2, g3⟩ | ⟨g2, g3⟩
  · omega
  · rw [g3] at hd
    exact j_callV (As := [.int x]) G hC' (m_charAt G hj hin) hj rfl jw_co_charAt jw_in_charAt jw_se_charAt jw_li_charAt (by show (parseMethodDescriptor _).map _ = some 1; decide) (by decide) hl.1 (by rw [csum_real]; exact hcs) hcl hsl hP hS rfl hd K
end Sound
