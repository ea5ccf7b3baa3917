def stoB (m : Nat) : Bool := (icode m).all fun c => c.all fun q => (bif Nat.beq q.2.1 7 || Nat.beq q.2.1 32 then Nat.blt q.2.2.1 (nLo m) else true) && (bif Nat.beq q.2.1 23 then Nat.blt (q.2.2.1 + 1) (nLo m) else true)
theorem sto_ok : ∀ m, m < NM → stoB m = true := by decide +kernel
theorem cal_ok : ∀ m, m < NM → ((icode m).all fun c => c.all fun q => bif Nat.beq q.2.1 3 then Nat.blt q.2.2.2.1 227 else true) = true := by decide +kernel
theorem sto_at {m pc : Nat} (hm : m < NM) {op a b nx : Nat} {v : AV} (h : ins m pc = (op, a, b, v, nx)) (h99 : op ≠ 99) : (op = 7 ∨ op = 32 → a < nLo m) ∧ (op = 23 → a + 1 < nLo m) ∧ (op = 3 → b < 227) := by
  rcases ins_cases m pc with h1 | ⟨c, hc, hq⟩
  · rw [h] at h1; exact absurd h1 h99
  · have h2 : ∀ c ∈ icode m, (c.all fun q => (bif Nat.beq q.2.1 7 || Nat.beq q.2.1 32 then Nat.blt q.2.2.1 (nLo m) else true) && (bif Nat.beq q.2.1 23 then Nat.blt (q.2.2.1 + 1) (nLo m) else true)) = true := List.all_eq_true.mp (sto_ok m hm)
    have h3 := List.all_eq_true.mp (h2 c hc) _ hq
    have h4 : ∀ c ∈ icode m, (c.all fun q => bif Nat.beq q.2.1 3 then Nat.blt q.2.2.2.1 227 else true) = true := List.all_eq_true.mp (cal_ok m hm)
    have h5 := List.all_eq_true.mp (h4 c hc) _ hq
    rw [h] at h3 h5
    dsimp only at h3 h5
    rw [Bool.and_eq_true] at h3
    refine ⟨fun q => ?_, fun q => ?_, fun q => ?_⟩
    · rcases q with rfl | rfl
      · exact Nat.le_of_ble_eq_true h3.1
      · exact Nat.le_of_ble_eq_true h3.1
    · subst q
      exact Nat.le_of_ble_eq_true h3.2
    · subst q
      exact Nat.le_of_ble_eq_true h5
theorem fold_mono {K : Nat → AL → AS → Mem → RR} {P : Nat → AL → AS → Mem → Prop} {X : Option AV × Mem} (hK : ∀ pc L S V, K pc L S V = some X → P pc L S V) (n : FR)
    (h : fold K none (fun _ _ => none) (fun _ _ _ _ _ _ => none) (fun _ _ _ _ _ _ => none) (fun _ _ _ _ _ _ => none) n = some X) : fold P False (fun _ _ => False) (fun _ _ _ _ _ _ => False) (fun _ _ _ _ _ _ => False) (fun _ _ _ _ _ _ => False) n := by
  match n, h with
  | some (.inl (pc, L, S, V)), h => exact hK _ _ _ _ h
  | some (.inr (.inr (0, _, _, _, _, _, _))), h => cases h
  | some (.inr (.inr (1, _, _, _, _, _, _))), h => cases h
  | some (.inr (.inr (_ + 2, _, _, _, _, _, _))), h => cases h
section Sound
variable {l : Launch} {D : va_G} {cy : Nat → ClassId} {ad : Nat → Nat → Nat} {adV : Nat → Nat} {A : Nat → Prop} {SL : Nat} {xs : Nat → Int32}
variable {p : Program} {e : Env} {R : Room} {s : State} {mid : MethodId} {args : Array Value} {below : List Frame} {meth : Method} {c : Code} {cells slots : Nat} {Q : State → Prop}
variable {d m pc : Nat} {L : AL} {S : AS} {V : Mem} {a b nx n : Nat} {i : Instr}

/-- a callee's contract out of the small machine's run -/
theorem met_of (G : GW cy ad A SL) {X : Option AV × Mem} {as : List AV} {d b : Nat} (hb : b < 227) (hok : okB as) (hcs : csum as ≤ nLo b) (hV : Vok SL xs V)
    (ih : ∀ (p : Program) (e : Env) (R : Room) (s : State) (mid : MethodId) (args : Array Value) (below : List Frame) (meth : Method) (c : Code) (cells slots : Nat) (Q : State → Prop), CX D cy ad adV A SL xs d b p R s mid args c → cells ≤ R.cells → slots ≤ R.slots →
      (∀ (H : Heap) (locs : List Loc) (pc' : Nat) (ls : Array Slot), va_P D vwCl (allC cy ad X.2) H → va_S A s.heap H locs → Vok SL xs X.2 → rtI b pc' X.1 → W p l e R s mid args below meth c H locs cells slots Q (F0 mid pc' ls (X.1.toList.map (rv ad)))) →
      PS l D cy ad A SL xs p e R s mid args below meth c cells slots Q b 0 (padL (nLo b) (entL as)) [] V)
    {Qc : Array Value → State → Outcome → State → Prop} (hQ : ∀ (args : Array Value) (s t : State) (H : Heap) (locs : List Loc), t.heap = H → va_P D vwCl (allC cy ad X.2) H → va_S A s.heap H locs → Vok SL xs X.2 → Qc args s (.returned (X.1.map (rv ad))) t) :
    Met l (yM b) (wsM b) (rmD d) (va_Pc (as.map (rv ad)) (WF D cy ad adV A SL xs V)) Qc 0 0 A := by
  have hbok := mok_all b hb
  refine Met.ofW (cc := byt b) (maxL := nLo b) (ret := retT b) hbok.2.2.2.2.2.1 rfl ?_
  intro p e s m args below meth c s₁ B hml hv
  obtain ⟨rfl, hP, hK, hStr, hX, hb50⟩ := hv
  have hts := atoms_spec (ws := wsM b) B.pre
  have hown : s.vm.findClass (yM b).cls = some m.cls := findClass_of_methodNamed B.named
  rw [yM_own b (by show b < 228; omega)] at hown
  have hC : CX D cy ad adV A SL xs d b p (headSpec (wsM b) (rmD d)).room s m (as.map (rv ad)).toArray c := ⟨⟨B.exec, B.bytes, hml, hown, fun w hw => hts w (List.mem_cons_of_mem _ hw)⟩, hK, ⟨Nat.le_refl _, Nat.le_refl _⟩, hStr, hX, hb50⟩
  rw [lg_entry_eq]
  have hlocks := B.notSynchronized
  refine ih p e _ s m _ below meth c 0 0 _ hC (Nat.le_refl _) (Nat.le_refl _) (fun H locs pc' ls hP' hS' hV' hr => ?_) s.heap [] _ hP va_S.rf (LR.entry hcs) (okA.entry hok) (fun v hv => by cases hv) hV
  obtain ⟨r, V'⟩ := X
  match r, hr, hQ with
  | none, hr, hQ => exact W.vret B.exec B.bytes (B.returns.trans hr.2) (fun t ht hW => hQ _ s t H locs ht hP' hS' hV') hS'.2.2 hr.1
  | some (.inl x), hr, hQ =>
    rcases hr.2 with h1 | ⟨h1, h2⟩
    · exact W.iret B.exec B.bytes (B.returns.trans h1) (fun t ht hW => hQ _ s t H locs ht hP' hS' hV') hS'.2.2 hr.1
    · exact W.zret (ty := .boolean) B.exec B.bytes (B.returns.trans h1) (by rcases h2 with rfl | rfl <;> rfl) (fun t ht hW => hQ _ s t H locs ht hP' hS' hV') hS'.2.2 hr.1
  | some (.inr (.inl x)), hr, hQ => exact W.lret B.exec B.bytes (B.returns.trans hr.2) (fun t ht hW => hQ _ s t H locs ht hP' hS' hV') hS'.2.2 hr.1
def SND (l : Launch) (D : va_G) (cy : Nat → ClassId) (ad : Nat → Nat → Nat) (adV : Nat → Nat) (A : Nat → Prop) (SL : Nat) (xs : Nat → Int32) (f : Nat) : Prop :=
  ∀ (d m pc : Nat) (L : AL) (S : AS) (V : Mem) (X : Option AV × Mem), m < NM → go f d m pc L S V = some X → ∀ (p : Program) (e : Env) (R : Room) (s : State) (mid : MethodId) (args : Array Value) (below : List Frame) (meth : Method) (c : Code) (cells slots : Nat) (Q : State → Prop), CX D cy ad adV A SL xs d m p R s mid args c → cells ≤ R.cells → slots ≤ R.slots →
      (∀ (H : Heap) (locs : List Loc) (pc' : Nat) (ls : Array Slot), va_P D vwCl (allC cy ad X.2) H → va_S A s.heap H locs → Vok SL xs X.2 → rtI m pc' X.1 → W p l e R s mid args below meth c H locs cells slots Q (F0 mid pc' ls (X.1.toList.map (rv ad)))) →
      PS l D cy ad A SL xs p e R s mid args below meth c cells slots Q m pc L S V
theorem okB_tak {a : Nat} {as R' : List AV} (hT : takA a S [] = some (as, R')) (hB : okB S) : okB as ∧ okB R' := by
  obtain ⟨t, h1, h2, -⟩ := takA_split (fun _ _ => 0) a S [] as R' hT
  rw [List.append_nil] at h1
  subst h1
  subst h2
  exact ⟨fun v hv => hB v (List.mem_append_left _ (List.mem_reverse.mp hv)), fun v hv => hB v (List.mem_append_right _ hv)⟩
theorem s_call (G : GW cy ad A SL) {f : Nat} (ih : SND l D cy ad adV A SL xs f) {X : Option AV × Mem} (hC : CX D cy ad adV A SL xs d m p R s mid args c) (hd : decode (byt m) pc = .ok (i, n)) (hi : k_call (ow m) pc a b nx i n = true) (hb : b < 227) (hm : m < NM) (hcl : cells ≤ R.cells) (hsl : slots ≤ R.slots)
    (key : ∀ pc' L' S' V', go f d m pc' L' S' V' = some X → PS l D cy ad A SL xs p e R s mid args below meth c cells slots Q m pc' L' S' V')
    (h : o_call none (fun b as V nx L R => (toV (cal (go f) d b as V)).bind fun V' => go f d m nx L R V') (fun b as V nx L R => (toI (cal (go f) d b as V)).bind fun x => go f d m nx L (.inl x.1 :: R) x.2) (fun b as V nx L R => (toJ (cal (go f) d b as V)).bind fun x => go f d m nx L (.inr (.inl x.1) :: R) x.2) a b nx L S V = some X) : PS l D cy ad A SL xs p e R s mid args below meth c cells slots Q m pc L S V := by
  have hbNM : b < NM := by show b < 228; omega
  have hbok := mok_all b hb
  unfold o_call at h
  cases hT : takA a S [] with
  | none => rw [hT] at h; cases h
  | some q =>
    obtain ⟨as, R'⟩ := q
    rw [hT] at h
    dsimp only at h
    cases hg : (rcv b as && (Nat.ble (csum R') 8 && Nat.ble (csum as) (nLo b))) with
    | false => rw [hg] at h; cases h
    | true =>
      rw [hg] at h
      rw [Bool.and_eq_true, Bool.and_eq_true] at hg
      obtain ⟨hr, hc8, hca⟩ := hg
      have hc8 := Nat.le_of_ble_eq_true hc8
      have hca := Nat.le_of_ble_eq_true hca
      have h : (if rk b = 0 then (toV (cal (go f) d b as V)).bind fun V' => go f d m nx L R' V' else if rk b = 2 then (toJ (cal (go f) d b as V)).bind fun x => go f d m nx L (.inr (.inl x.1) :: R') x.2 else (toI (cal (go f) d b as V)).bind fun x => go f d m nx L (.inl x.1 :: R') x.2) = some X := h
      intro H locs ls hP hS hl hA hB hV
      obtain ⟨hokas, hokR⟩ := okB_tak hT hB
      cases d with
      | zero =>
        exfalso
        have e0 : cal (go f) 0 b as V = none := rfl
        rw [e0] at h
        split at h
        · cases h
        · split at h
          · cases h
          · cases h
      | succ d =>
        have ih2 : ∀ X', cal (go f) (d + 1) b as V = some X' → _ := fun X' e1 => ih d b 0 (padL (nLo b) (entL as)) [] V X' hbNM e1
        by_cases hk0 : rk b = 0
        · rw [if_pos hk0] at h
          obtain ⟨V', h1, h2⟩ := Option.bind_eq_some_iff.mp h
          have hM := met_of (V := V) (Qc := va_Qv (fun _ : Unit => True) (fun _ t => va_P D vwCl (allC cy ad V') t.heap ∧ Vok SL xs V') A) G hb hokas hca hV (ih2 _ (toV_some h1)) (fun args s t H locs ht h3 h4 h5 => ⟨⟨(), rfl, trivial, by rw [ht]; exact h3, h5⟩, h4.F ht⟩)
          obtain ⟨rfl, av, hrun⟩ := s_run (e := e) (below := below) (meth := meth) G hC hd hi hT hr hc8 hbNM hbok hM hcl hsl hP hS hl hB
          exact va_callv hrun hS (fun q _ h => h) (fun q h => h) (fun u t H1 locs1 ht hvm _ hB1 _ _ hS1 => key _ _ _ _ h2 H1 locs1 ls (by rw [← ht]; exact hB1.1) hS1 hl hA hokR hB1.2)
        · rw [if_neg hk0] at h
          by_cases hk2 : rk b = 2
          · rw [if_pos hk2] at h
            obtain ⟨⟨r, V'⟩, h1, h2⟩ := Option.bind_eq_some_iff.mp h
            have hM := met_of (V := V) (Qc := va_Ql (fun r' (_ : Unit) => r' = r) (fun _ t => va_P D vwCl (allC cy ad V') t.heap ∧ Vok SL xs V') A) G hb hokas hca hV (ih2 _ (toJ_some h1)) (fun args s t H locs ht h3 h4 h5 => ⟨⟨r, (), rfl, rfl, by rw [ht]; exact h3, h5⟩, h4.F ht⟩)
            obtain ⟨rfl, av, hrun⟩ := s_run (e := e) (below := below) (meth := meth) G hC hd hi hT hr hc8 hbNM hbok hM hcl hsl hP hS hl hB
            exact va_calll hrun hS (fun q _ h => h) (fun q h => h) (fun r' u t H1 locs1 ht hvm hr' hB1 _ _ hS1 => by
              subst hr'
              exact key _ _ _ _ h2 H1 locs1 ls (by rw [← ht]; exact hB1.1) hS1 hl hA (hokR.cons trivial) hB1.2)
          · rw [if_neg hk2] at h
            obtain ⟨⟨r, V'⟩, h1, h2⟩ := Option.bind_eq_some_iff.mp h
            have hM := met_of (V := V) (Qc := va_Qi (fun r' (_ : Unit) => r' = r) (fun _ t => va_P D vwCl (allC cy ad V') t.heap ∧ Vok SL xs V') A) G hb hokas hca hV (ih2 _ (toI_some h1)) (fun args s t H locs ht h3 h4 h5 => ⟨⟨r, (), rfl, rfl, by rw [ht]; exact h3, h5⟩, h4.F ht⟩)
            obtain ⟨rfl, av, hrun⟩ := s_run (e := e) (below := below) (meth := meth) G hC hd hi hT hr hc8 hbNM hbok hM hcl hsl hP hS hl hB
            exact va_calli hrun hS (fun q _ h => h) (fun q h => h) (fun r' u t H1 locs1 ht hvm hr' hB1 _ _ hS1 => by
              subst hr'
              exact key _ _ _ _ h2 H1 locs1 ls (by rw [← ht]; exact hB1.1) hS1 hl hA (hokR.cons trivial) hB1.2)
theorem s_ret {X : Option AV × Mem} (hd : decode (byt m) pc = .ok (i, n)) (hi : k_ret (retT m) a i n = true) (hret : ∀ (H : Heap) (locs : List Loc) (pc' : Nat) (ls : Array Slot), va_P D vwCl (allC cy ad X.2) H → va_S A s.heap H locs → Vok SL xs X.2 → rtI m pc' X.1 → W p l e R s mid args below meth c H locs cells slots Q (F0 mid pc' ls (X.1.toList.map (rv ad))))
    (h : o_ret none (fun r V => some (r, V)) a S V = some X) : PS l D cy ad A SL xs p e R s mid args below meth c cells slots Q m pc L S V := by
  intro H locs ls hP hS hl hA hB hV
  have hk : (a = 0 → decode (byt m) pc = .ok (.return_, 1) ∧ retT m = none) ∧ (a = 1 → decode (byt m) pc = .ok (.ireturn, 1) ∧ retT m = some .int) ∧ (a = 2 → decode (byt m) pc = .ok (.lreturn, 1) ∧ retT m = some .long) ∧ (a = 3 → decode (byt m) pc = .ok (.ireturn, 1) ∧ retT m = some .boolean) ∧ a ≤ 3 := by
    unfold k_ret at hi
    split at hi <;> first | exact absurd hi (by decide) | simp only [decide_eq_true_eq] at hi
    · obtain ⟨rfl, rfl, h3⟩ := hi
      exact ⟨fun _ => ⟨hd, h3⟩, fun q => absurd q (by decide), fun q => absurd q (by decide), fun q => absurd q (by decide), by decide⟩
    · obtain ⟨rfl, ⟨rfl, h3⟩ | ⟨rfl, h3⟩⟩ := hi
      · exact ⟨fun q => absurd q (by decide), fun _ => ⟨hd, h3⟩, fun q => absurd q (by decide), fun q => absurd q (by decide), by decide⟩
      · exact ⟨fun q => absurd q (by decide), fun q => absurd q (by decide), fun q => absurd q (by decide), fun _ => ⟨hd, h3⟩, by decide⟩
    · obtain ⟨rfl, rfl, h3⟩ := hi
      exact ⟨fun q => absurd q (by decide), fun q => absurd q (by decide), fun _ => ⟨hd, h3⟩, fun q => absurd q (by decide), by decide⟩
  unfold o_ret at h
  split at h
  · rename_i h0
    split at h
    · cases h
      exact hret H locs pc ls hP hS hV (hk.1 h0)
    · cases h
  · split at h
    · rename_i h0
      split at h
      · cases h
        exact hret H locs pc ls hP hS hV ⟨(hk.2.1 h0).1, Or.inl (hk.2.1 h0).2⟩
      · cases h
    · split at h
      · rename_i h0
        split at h
        · cases h
          exact hret H locs pc ls hP hS hV (hk.2.2.1 h0)
        · cases h
      · rename_i n0 n1 n2
        have h0 : a = 3 := by
          have := hk.2.2.2.2
          omega
        split at h
        · split at h
          · rename_i hx
            cases h
            exact hret H locs pc ls hP hS hV ⟨(hk.2.2.2.1 h0).1, Or.inr ⟨(hk.2.2.2.1 h0).2, hx⟩⟩
          · cases h
        · cases h
end Sound
