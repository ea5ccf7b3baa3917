/-! BIRTH: calls, and the whole -/
def BWF (D : va_G) (cy : Nat → ClassId) (base : Nat) (g : Nat → Nat) (hp : List BC) (U : State) : Prop :=
  va_P D vwCl (bws cy g hp) U.heap ∧ va_D (fun q => base ≤ q) (bws cy g hp) ∧ va_K D vwCl (tysL cy) U ∧ (va_AO RX2 U ∧ va_AO RX4 U ∧ ∀ q ∈ bnst, va_Nw (.methodLinkNest (bow q.1) q.2.1 (byM q.2.2) RX8) U) ∧ base ≤ U.heap.size
def wsB (b : Nat) (rt : Option FieldType) : List Cond := Cond.code (byM b) (bbyt b) (bnl b) rt :: TBG
def rmB (d b : Nat) : Room := { frames := d + 8, cells := bmc b, slots := bms b, locals := 64 * (d + 8) }
theorem wsB_good {b : Nat} {rt : Option FieldType} (h : BOK b rt) : GoodIn TBG (wsB b rt) := by
  intro w hw
  have hin : w ∈ TBG := by
    rcases List.mem_cons.mp hw with rfl | h2
    · exact tbg h.1 rfl
    · exact h2
  exact ⟨hin, good_of_word (tbg_all hin)⟩
abbrev BRX : Type := Option AV × List BC × AL × Nat × Nat
def brt (m pc : Nat) (X : BRX) : Prop := (m = 10 ∧ pc = 16 ∧ X.1 = none) ∨ (m < 9 ∧ decode (bbyt m) pc = .ok (.return_, 1) ∧ X.1 = none ∧ X.2.2.2.1 ≤ bmc m ∧ X.2.2.2.2 ≤ bms m) ∨ (m = 9 ∧ decode (bbyt m) pc = .ok (.areturn, 1) ∧ (∃ q, X.1 = some (.inr (.inr q))) ∧ X.2.2.2.1 ≤ bmc m ∧ X.2.2.2.2 ≤ bms m)
/-- what a frame's end must do -/
def BRT (l : Launch) (D : va_G) (cy : Nat → ClassId) (base b0 : Nat) (g0 : Nat → Nat) (n0 : Nat) (p : Program) (e : Env) (R : Room) (s : State) (mid : MethodId) (args : Array Value) (below : List Frame) (meth : Method) (c : Code) (Q : State → Prop) (m : Nat) (X : BRX) : Prop :=
  ∀ (g : Nat → Nat) (H : Heap) (locs : List Loc) (ls : Array Slot) (pc' : Nat), (n0 ≤ X.2.1.length ∧ ∀ i, i < n0 → g i = g0 i) → va_P D vwCl (bws cy g X.2.1) H → va_D (fun q => base ≤ q) (bws cy g X.2.1) → va_S (fun q => base ≤ q) s.heap H locs → LR (bad g b0) ls (bnl m) X.2.2.1 → brt m pc' X → W p l e R s mid args below meth c H locs X.2.2.2.1 X.2.2.2.2 Q (F0 mid pc' ls (X.1.toList.map (rv (bad g b0))))
def BSND (l : Launch) (D : va_G) (cy : Nat → ClassId) (base b0 : Nat) (f : Nat) : Prop :=
  ∀ (d m pc : Nat) (L : AL) (S : AS) (hp : List BC) (uc us : Nat) (X : BRX), m < 11 → bgo f d m pc L S hp uc us = some X → ∀ (g0 : Nat → Nat) (n0 : Nat) (p : Program) (e : Env) (R : Room) (s : State) (mid : MethodId) (args : Array Value) (below : List Frame) (meth : Method) (c : Code) (Q : State → Prop), BX D cy base d m p R s mid args meth c →
    BRT l D cy base b0 g0 n0 p e R s mid args below meth c Q m X → BPS l D cy base b0 g0 n0 p e R s mid args below meth c Q m pc L S hp uc us
section Birth
variable {l : Launch} {D : va_G} {cy : Nat → ClassId} {base b0 n0 : Nat} {g0 : Nat → Nat}
variable {p : Program} {e : Env} {R : Room} {s : State} {mid : MethodId} {args : Array Value} {below : List Frame} {meth : Method} {c : Code} {Q : State → Prop}
variable {d m pc : Nat} {L : AL} {S : AS} {hp : List BC} {uc us : Nat} {a b nx n : Nat} {i : Instr}
theorem bwf_of (hC : BX D cy base d m p R s mid args meth c) {g : Nat → Nat} {H : Heap} {locs : List Loc} (hP : va_P D vwCl (bws cy g hp) H) (hD : va_D (fun q => base ≤ q) (bws cy g hp)) (hS : va_S (fun q => base ≤ q) s.heap H locs) {U : State} (hU : U.heap = H) (hW : s.WarmedH U.vm) : BWF D cy base g hp U :=
  ⟨by rw [hU]; exact hP, hD, va_K.moved hW.alike hC.2.1, ⟨va_AO.moved hW.alike hC.2.2.2.1.1, va_AO.moved hW.alike hC.2.2.2.1.2.1, fun q hq => va_Nw.warmM hW (hC.2.2.2.1.2.2 q hq)⟩, by rw [hU]; exact Nat.le_trans hC.2.2.2.2.1 hS.1⟩
theorem bwf_blind {av : List Value} {g : Nat → Nat} : FrameBlind (va_Pc av (BWF D cy base g hp)) := by
  intro a U gg mk h
  obtain ⟨h0, h1, h2, h3, ⟨h4, h5, h6⟩, h7⟩ := h
  exact ⟨h0, h1, h2, va_K.moved (u := U) (U := U.calling gg mk a) (Vm.Alike.refl U.vm) h3, ⟨va_AO.moved (u := U) (U := U.calling gg mk a) (Vm.Alike.refl U.vm) h4, va_AO.moved (u := U) (U := U.calling gg mk a) (Vm.Alike.refl U.vm) h5, fun q hq => va_Nw.same (u := U) rfl rfl (h6 q hq)⟩, h7⟩
/-- a constructor's contract -/
theorem bmet_i {f : Nat} (ih : BSND l D cy base b0 f) {j : Nat} {X : BRX} (hb : b < 9) (hX : X.1 = none) (hgo : bgo f d b 0 (padL (bnl b) [some (.inr (.inr (0, j)))]) [] hp 0 0 = some X) (g : Nat → Nat) :
    Met l (byM b) (wsB b none) (rmB d b) (va_Pc [.ref (g j)] (BWF D cy base g hp)) (va_Qv (fun g' : Nat → Nat => hp.length ≤ X.2.1.length ∧ ∀ i, i < hp.length → g' i = g i) (fun g' t => va_P D vwCl (bws cy g' X.2.1) t.heap ∧ va_D (fun q => base ≤ q) (bws cy g' X.2.1)) (fun q => base ≤ q)) (bmc b) (bms b) (fun q => base ≤ q) := by
  obtain ⟨hbok, hbi⟩ := bk_all b hb
  refine Met.ofW (cc := bbyt b) (maxL := bnl b) (ret := none) hbok.2.2.2.1 rfl ?_
  intro p e s m args below meth c s₁ B hml hv
  obtain ⟨rfl, hP, hD, hK, hA, hbs⟩ := hv
  have hts := atoms_spec (ws := wsB b none) B.pre
  have hown : s.vm.findClass (byM b).cls = some m.cls := findClass_of_methodNamed B.named
  rw [hbok.2.2.2.2.2] at hown
  have hin : meth.name = "<init>" := (name_of_methodNamed B.named B.method).1.trans hbi.2
  have hC : BX D cy base d b p (headSpec (wsB b none) (rmB d b)).room s m ([.ref (g j)] : List Value).toArray meth c := ⟨⟨B.exec, B.bytes, hml, hown, fun w hw => hts w (List.mem_cons_of_mem _ hw)⟩, hK, ⟨Nat.le_refl _, Nat.le_refl _, Nat.le_refl _, Nat.le_refl _⟩, hA, hbs, fun _ => hin⟩
  rw [lg_entry_eq]
  have hlocks := B.notSynchronized
  have hle : csum [(.inr (.inr (0, j)) : AV)] ≤ bnl b := bnl_1 b hb
  have hLR := LR.entry (ad := bad g b0) (as := [.inr (.inr (0, j))]) hle
  refine ih d b 0 _ [] hp 0 0 X (by omega) hgo g hp.length p e _ s m _ below meth c _ hC (fun g' H locs ls pc' hg' hP' hD' hS' hl' hr => ?_) g s.heap [] _ ⟨Nat.le_refl _, fun _ _ => rfl⟩ hP hD va_S.rf hLR
  rcases hr with ⟨h1, -, -⟩ | ⟨-, h2, h3, h4, h5⟩ | ⟨h1, -⟩
  · omega
  · rw [hX]
    refine W.widen (k := bmc b) (n := bms b) h4 h5 ?_
    exact W.vret B.exec B.bytes B.returns (fun t ht hW => ⟨⟨g', rfl, hg', by rw [ht]; exact hP', hD'⟩, hS'.F ht⟩) hS'.2.2 h2
  · omega
theorem bmet_f {f : Nat} (ih : BSND l D cy base b0 f) {j : Nat} {X : BRX} (hX : X.1 = some (.inr (.inr (0, j)))) (hgo : bgo f d 9 0 (padL (bnl 9) []) [] hp 0 0 = some X) (g : Nat → Nat) :
    Met l (byM 9) (wsB 9 (some (.array .int))) (rmB d 9) (va_Pc [] (BWF D cy base g hp)) (va_Qr (fun g' : Nat → Nat => hp.length ≤ X.2.1.length ∧ ∀ i, i < hp.length → g' i = g i) (fun g' a t => a = g' j ∧ va_P D vwCl (bws cy g' X.2.1) t.heap ∧ va_D (fun q => base ≤ q) (bws cy g' X.2.1)) (fun q => base ≤ q)) (bmc 9) (bms 9) (fun q => base ≤ q) := by
  have hbok := bk_9
  refine Met.ofW (cc := bbyt 9) (maxL := bnl 9) (ret := some (.array .int)) hbok.2.2.2.1 rfl ?_
  intro p e s m args below meth c s₁ B hml hv
  obtain ⟨rfl, hP, hD, hK, hA, hbs⟩ := hv
  have hts := atoms_spec (ws := wsB 9 (some (.array .int))) B.pre
  have hown : s.vm.findClass (byM 9).cls = some m.cls := findClass_of_methodNamed B.named
  rw [hbok.2.2.2.2.2] at hown
  have hC : BX D cy base d 9 p (headSpec (wsB 9 (some (.array .int))) (rmB d 9)).room s m ([] : List Value).toArray meth c := ⟨⟨B.exec, B.bytes, hml, hown, fun w hw => hts w (List.mem_cons_of_mem _ hw)⟩, hK, ⟨Nat.le_refl _, Nat.le_refl _, Nat.le_refl _, Nat.le_refl _⟩, hA, hbs, fun h => absurd h (by decide)⟩
  rw [lg_entry_eq]
  have hlocks := B.notSynchronized
  have hLR := LR.entry (ad := bad g b0) (as := []) (n := bnl 9) (Nat.zero_le _)
  refine ih d 9 0 _ [] hp 0 0 X (by decide) hgo g hp.length p e _ s m _ below meth c _ hC (fun g' H locs ls pc' hg' hP' hD' hS' hl' hr => ?_) g s.heap [] _ ⟨Nat.le_refl _, fun _ _ => rfl⟩ hP hD va_S.rf hLR
  rcases hr with ⟨h1, -, -⟩ | ⟨h1, -⟩ | ⟨-, h2, h3, h4, h5⟩
  · omega
  · omega
  · rw [hX]
    refine W.widen (k := bmc 9) (n := bms 9) h4 h5 ?_
    exact W.aret (v := .ref (g' j)) (rt := .array .int) B.exec B.bytes B.returns (Or.inr ⟨_, rfl⟩) (Or.inr ⟨_, rfl⟩) (fun t ht hW => ⟨⟨g', g' j, rfl, hg', rfl, by rw [ht]; exact hP', hD'⟩, hS'.F ht⟩) hS'.2.2 h2
theorem b_ini {f : Nat} (ih : BSND l D cy base b0 f) (hC : BX D cy base (d + 1) m p R s mid args meth c) (hd : decode (bbyt m) pc = .ok (i, n)) (hi : kb_ini m pc a b nx i n = true) {j : Nat} {X : BRX} (hb : b < 9) (hX : X.1 = none) (hgo : bgo f d b 0 (padL (bnl b) [some (.inr (.inr (0, j)))]) [] hp 0 0 = some X) (hwf : wfB hp.length L S hp = true) (hcs : csum S ≤ 8) (huc : uc + bmc b ≤ bmc m) (hus : us + bms b ≤ bms m)
    (k : BPS l D cy base b0 g0 n0 p e R s mid args below meth c Q m nx L S X.2.1 (uc + bmc b) (us + bms b)) : BPS l D cy base b0 g0 n0 p e R s mid args below meth c Q m pc L (.inr (.inr (0, j)) :: S) hp uc us := by
  intro g H locs ls hg hP hD hS hl
  obtain ⟨hbok, hbi⟩ := bk_all b hb
  obtain ⟨w1, w2, w3⟩ := wfB_s hwf
  have hM := bmet_i (l := l) (D := D) (cy := cy) (base := base) (b0 := b0) ih hb hX hgo g
  have hsum := csum_real (bad g b0) S
  have hfr := hC.2.2.1
  have hn40 := hbok.2.2.2.2.1
  have fin : ∀ {av : Array Value}, va_Run p l e R s mid args below meth c H locs uc us (bmc b) (bms b) (F0 mid pc ls (.ref (g j) :: S.map (rv (bad g b0)))) (S.map (rv (bad g b0))) (va_Qv (fun g' : Nat → Nat => hp.length ≤ X.2.1.length ∧ ∀ i, i < hp.length → g' i = g i) (fun g' t => va_P D vwCl (bws cy g' X.2.1) t.heap ∧ va_D (fun q => base ≤ q) (bws cy g' X.2.1)) (fun q => base ≤ q) av) (fun q => base ≤ q) → nx = pc + 3 → W p l e R s mid args below meth c H locs uc us Q (F0 mid pc ls (.ref (g j) :: S.map (rv (bad g b0)))) := by
    intro av hrun hnx
    subst hnx
    refine va_callv hrun hS (fun q _ h => h) (fun q h => h) (fun g' t H1 locs1 ht hvm hp' hB1 _ _ hS1 => ?_)
    have K := k g' H1 locs1 ls ⟨Nat.le_trans hg.1 hp'.1, fun i hi => (hp'.2 i (Nat.lt_of_lt_of_le hi hg.1)).trans (hg.2 i hi)⟩ (by rw [← ht]; exact hB1.1) hB1.2 hS1 (LR_ext w1 hp'.2 hl)
    rw [S_ext w2 hp'.2] at K
    exact K
  show W p l e R s mid args below meth c H locs uc us Q (F0 mid pc ls (.ref (g j) :: S.map (rv (bad g b0))))
  unfold kb_ini at hi
  split at hi <;> first | exact absurd hi (by decide) | simp only [decide_eq_true_eq, Bool.and_eq_true] at hi
  obtain ⟨⟨rfl, rfl⟩, hi⟩ := hi
  have hroom : (rmB d b).frames + 1 ≤ R.frames ∧ 8 + (bnl b + 11) + (rmB d b).locals ≤ R.locals := ⟨by show d + 8 + 1 ≤ _; omega, by show 8 + (bnl b + 11) + 64 * (d + 8) ≤ _; omega⟩
  have hpre : PreS s H (va_Pc [.ref (g j)] (BWF D cy base g hp)) [.ref (g j)] := ⟨bwf_blind, fun U hU hW => ⟨rfl, bwf_of hC hP hD hS hU hW⟩⟩
  have hroom2 : uc + bmc b ≤ R.cells ∧ us + bms b ≤ R.slots := ⟨Nat.le_trans huc hfr.2.2.1, Nat.le_trans hus hfr.2.2.2⟩
  rw [cond_eq_ite] at hi
  split at hi
  · obtain ⟨z, hz, hz2⟩ := any_ex hi
    simp only [decide_eq_true_eq] at hz2
    obtain ⟨h1, rfl, h3⟩ := hz2
    have hw := hC.1.2.2.2.2 _ (mem_tbg (bml_ok z hz) rfl)
    rw [h1, h3] at hw
    exact fin (va_runI (As := []) (rest := S.map (rv (bad g b0))) (b := g j) hC.1 hM ⟨callB_of 0 hC.1.2.2.2.2 (wsB_good hbok) rfl rfl rfl (hC.1.2.2.2.2 _ (tbg hbok.2.1 rfl)) hw hbok.2.2.1 hroom, hbi.2, hC.1.2.2.2.2 _ (tbg hbi.1 rfl)⟩ hpre rfl rfl hl.1 rfl (lv_room (by rw [hsum]; exact hcs)) hd hroom2) rfl
  · obtain ⟨z, hz, hz2⟩ := any_ex hi
    simp only [decide_eq_true_eq] at hz2
    obtain ⟨h1, rfl, h3⟩ := hz2
    have hw := hC.2.2.2.1.2.2 z hz
    rw [h1, h3] at hw
    exact fin (va_runIN (As := []) (rest := S.map (rv (bad g b0))) (b := g j) hC.1 hM ⟨va_cnB 0 hC.1.2.2.2.2 (wsB_good hbok) rfl rfl rfl hw (hC.1.2.2.2.2 _ (tbg hbok.2.1 rfl)) hbok.2.2.1 hroom, hbi.2, hC.1.2.2.2.2 _ (tbg hbi.1 rfl)⟩ hpre rfl rfl hl.1 rfl (lv_room (by rw [hsum]; exact hcs)) hd hroom2) rfl
theorem b_fre {f : Nat} (ih : BSND l D cy base b0 f) (hC : BX D cy base (d + 1) m p R s mid args meth c) (hd : decode (bbyt m) pc = .ok (i, n)) (hi : kb_fre m pc b nx i n = true) {j : Nat} {X : BRX} (hX : X.1 = some (.inr (.inr (0, j)))) (hgo : bgo f d 9 0 (padL (bnl 9) []) [] hp 0 0 = some X) (hwf : wfB hp.length L S hp = true) (hcs : csum S ≤ 8) (huc : uc + bmc 9 ≤ bmc m) (hus : us + bms 9 ≤ bms m)
    (k : BPS l D cy base b0 g0 n0 p e R s mid args below meth c Q m nx L (.inr (.inr (0, j)) :: S) X.2.1 (uc + bmc 9) (us + bms 9)) : BPS l D cy base b0 g0 n0 p e R s mid args below meth c Q m pc L S hp uc us := by
  intro g H locs ls hg hP hD hS hl
  have hbok := bk_9
  obtain ⟨w1, w2, w3⟩ := wfB_s hwf
  have hM := bmet_f (l := l) (D := D) (cy := cy) (base := base) (b0 := b0) ih hX hgo g
  have hsum := csum_real (bad g b0) S
  have hfr := hC.2.2.1
  have hn40 := hbok.2.2.2.2.1
  unfold kb_fre at hi
  split at hi <;> first | exact absurd hi (by decide) | simp only [decide_eq_true_eq, Bool.and_eq_true] at hi
  obtain ⟨⟨rfl, rfl, rfl⟩, hi⟩ := hi
  obtain ⟨z, hz, hz2⟩ := any_ex hi
  simp only [decide_eq_true_eq] at hz2
  obtain ⟨h1, rfl, h3⟩ := hz2
  have hw := hC.1.2.2.2.2 _ (mem_tbg (bml_ok z hz) rfl)
  rw [h1, h3] at hw
  have hroom : (rmB d 9).frames + 1 ≤ R.frames ∧ 8 + (bnl 9 + 11) + (rmB d 9).locals ≤ R.locals := ⟨by show d + 8 + 1 ≤ _; omega, by show 8 + (bnl 9 + 11) + 64 * (d + 8) ≤ _; omega⟩
  have hpre : PreS s H (va_Pc [] (BWF D cy base g hp)) [] := ⟨bwf_blind, fun U hU hW => ⟨rfl, bwf_of hC hP hD hS hU hW⟩⟩
  refine va_callr (va_runS (As := []) (rest := S.map (rv (bad g b0))) hC.1 hM ⟨callB_of 0 hC.1.2.2.2.2 (wsB_good hbok) rfl rfl rfl (hC.1.2.2.2.2 _ (tbg hbok.2.1 rfl)) hw hbok.2.2.1 hroom, hC.1.2.2.2.2 _ (tbg bs_9 rfl)⟩ hpre rfl rfl hl.1 rfl (lv_room (by rw [hsum]; exact hcs)) hd ⟨Nat.le_trans huc hfr.2.2.1, Nat.le_trans hus hfr.2.2.2⟩) hS (fun q _ h => h) (fun q h => h) (fun g' ra t H1 locs1 ht hvm hp' hB1 _ _ hS1 => ?_)
  have K := k g' H1 locs1 ls ⟨Nat.le_trans hg.1 hp'.1, fun i hi => (hp'.2 i (Nat.lt_of_lt_of_le hi hg.1)).trans (hg.2 i hi)⟩ (by rw [← ht]; exact hB1.2.1) hB1.2.2 hS1 (LR_ext w1 hp'.2 hl)
  rw [List.map_cons, S_ext w2 hp'.2] at K
  rw [hB1.1]
  exact K
theorem t0_of {w : AV} (h : isT0 w = true) : ∀ t i, w = .inr (.inr (t, i)) → t = 0 := by
  intro t i e
  subst e
  exact Nat.eq_of_beq_eq_true h
set_option maxHeartbeats 4000000 in
theorem bsnd : ∀ f, BSND l D cy base b0 f := by
  intro f
  induction f with
  | zero => intro d m pc L S hp uc us X hm h; cases h
  | succ f ih =>
    intro d m pc L S hp uc us X hm h g0 n0 p e R s mid args below meth c Q hC hret
    have key : ∀ pc' L' S' hp' uc' us', bgo f d m pc' L' S' hp' uc' us' = some X → BPS l D cy base b0 g0 n0 p e R s mid args below meth c Q m pc' L' S' hp' uc' us' := fun pc' L' S' hp' uc' us' h9 => ih d m pc' L' S' hp' uc' us' X hm h9 g0 n0 p e R s mid args below meth c Q hC hret
    unfold bgo at h
    by_cases hst : m = 10 ∧ pc = 16
    · rw [if_pos hst] at h
      split at h
      · cases h
        intro g H locs ls hg hP hD hS hl
        rw [hst.2]
        exact hret g H locs ls 16 hg hP hD hS hl (Or.inl ⟨hst.1, rfl, rfl⟩)
      · cases h
    rw [if_neg hst] at h
    have hchk := bins_ok (m := m) (pc := pc) (bok_all m hm)
    generalize bins m pc = en at h hchk
    obtain ⟨op, a, b, v, nx⟩ := en
    dsimp only at h hchk
    have hdd : op ≠ 99 → ∃ (i : Instr) (n : Nat), decode (bbyt m) pc = .ok (i, n) ∧ bchI m pc i n (op, a, b, v, nx) = true := by
      intro h99
      have h1 := hchk h99
      unfold bchk at h1
      split at h1
      · rename_i i n hd
        exact ⟨i, n, hd, h1⟩
      · cases h1
    by_cases h0 : op = 0
    · rw [if_pos h0] at h
      subst h0
      obtain ⟨i, n, hd, hi⟩ := hdd (by decide)
      split at h
      · rename_i w hw
        split at h
        · rename_i hk
          exact b_load hC hd hi hw hk.1 (key _ _ _ _ _ _ h)
        · cases h
      · cases h
    rw [if_neg h0] at h
    by_cases h1 : op = 1
    · rw [if_pos h1] at h
      subst h1
      obtain ⟨i, n, hd, hi⟩ := hdd (by decide)
      split at h
      · exact b_push hC hd hi (key _ _ _ _ _ _ h)
      · cases h
    rw [if_neg h1] at h
    by_cases h2 : op = 2
    · rw [if_pos h2] at h
      subst h2
      obtain ⟨i, n, hd, hi⟩ := hdd (by decide)
      split at h
      · split at h
        · rename_i hk
          exact b_newa hC hd hi hk.1 hk.2.1 hk.2.2.1 hk.2.2.2.1 hk.2.2.2.2 (key _ _ _ _ _ _ h)
        · cases h
      · cases h
    rw [if_neg h2] at h
    by_cases h3 : op = 3
    · rw [if_pos h3] at h
      subst h3
      obtain ⟨i, n, hd, hi⟩ := hdd (by decide)
      split at h
      · split at h
        · rename_i hk
          exact b_anew hC hd hi hk.1 hk.2.1 hk.2.2.1 hk.2.2.2.1 hk.2.2.2.2 (key _ _ _ _ _ _ h)
        · cases h
      · cases h
    rw [if_neg h3] at h
    by_cases h4 : op = 4
    · rw [if_pos h4] at h
      subst h4
      obtain ⟨i, n, hd, hi⟩ := hdd (by decide)
      split at h
      · rename_i hk
        exact b_new hC hd hi hk.1 hk.2.1 hk.2.2 (key _ _ _ _ _ _ h)
      · cases h
    rw [if_neg h4] at h
    by_cases h5 : op = 5
    · rw [if_pos h5] at h
      subst h5
      obtain ⟨i, n, hd, hi⟩ := hdd (by decide)
      split at h
      · split at h
        · rename_i hk
          exact b_dup hC hd hi hk (key _ _ _ _ _ _ h)
        · cases h
      · cases h
    rw [if_neg h5] at h
    by_cases h6 : op = 6
    · rw [if_pos h6] at h
      subst h6
      obtain ⟨i, n, hd, hi⟩ := hdd (by decide)
      split at h
      · split at h
        · rename_i hj
          split at h
          · rename_i hk
            obtain ⟨rfl, h2, h3⟩ := hk
            exact b_put hC hd hi hj h2 h3 (key _ _ _ _ _ _ h)
          · cases h
        · cases h
      · cases h
    rw [if_neg h6] at h
    by_cases h7 : op = 7
    · rw [if_pos h7] at h
      subst h7
      obtain ⟨i, n, hd, hi⟩ := hdd (by decide)
      split at h
      · split at h
        · rename_i hj
          split at h
          · rename_i hk
            subst hk
            split at h
            · rename_i w hw
              split at h
              · rename_i h0
                exact b_get hC hd hi hj hw (fun t i e => t0_of h0 t i e) (key _ _ _ _ _ _ h)
              · cases h
            · cases h
          · cases h
        · cases h
      · cases h
    rw [if_neg h7] at h
    by_cases h8 : op = 8
    · rw [if_pos h8] at h
      subst h8
      obtain ⟨i, n, hd, hi⟩ := hdd (by decide)
      split at h
      · split at h
        · rename_i hj
          split at h
          · rename_i hk
            obtain ⟨rfl, h2, h3⟩ := hk
            exact b_xast hC hd hi hj h2 h3 (key _ _ _ _ _ _ h)
          · cases h
        · cases h
      · cases h
    rw [if_neg h8] at h
    by_cases h9 : op = 9
    · rw [if_pos h9] at h
      subst h9
      obtain ⟨i, n, hd, hi⟩ := hdd (by decide)
      split at h
      · split at h
        · rename_i hj hw
          split at h
          · rename_i hk
            exact b_aast hC hd hi hj hw hk.1 hk.2 (key _ _ _ _ _ _ h)
          · cases h
        · cases h
      · cases h
    rw [if_neg h9] at h
    by_cases h10 : op = 10
    · rw [if_pos h10] at h
      subst h10
      obtain ⟨i, n, hd, hi⟩ := hdd (by decide)
      split at h
      · split at h
        · rename_i hk
          exact b_sto1 hC hd hi hk (key _ _ _ _ _ _ h)
        · cases h
      · cases h
    rw [if_neg h10] at h
    by_cases h11 : op = 11
    · rw [if_pos h11] at h
      subst h11
      obtain ⟨i, n, hd, hi⟩ := hdd (by decide)
      split at h
      · split at h
        · rename_i hk
          exact b_stoA hC hd hi hk (key _ _ _ _ _ _ h)
        · cases h
      · cases h
    rw [if_neg h11] at h
    by_cases h12 : op = 12
    · rw [if_pos h12] at h
      subst h12
      obtain ⟨i, n, hd, hi⟩ := hdd (by decide)
      split at h
      · rename_i hx
        exact b_iinc hC hd hi hx rfl (key _ _ _ _ _ _ h)
      · cases h
    rw [if_neg h12] at h
    by_cases h13 : op = 13
    · rw [if_pos h13] at h
      subst h13
      obtain ⟨i, n, hd, hi⟩ := hdd (by decide)
      split at h
      · refine b_ge hC hd hi (fun hq => key _ _ _ _ _ _ ?_) (fun hq => key _ _ _ _ _ _ ?_)
        · rw [if_pos hq] at h
          exact h
        · rw [if_neg hq] at h
          exact h
      · cases h
    rw [if_neg h13] at h
    by_cases h14 : op = 14
    · rw [if_pos h14] at h
      subst h14
      obtain ⟨i, n, hd, hi⟩ := hdd (by decide)
      exact b_goto hC hd hi (key _ _ _ _ _ _ h)
    rw [if_neg h14] at h
    by_cases h15 : op = 15
    · rw [if_pos h15] at h
      subst h15
      obtain ⟨i, n, hd, hi⟩ := hdd (by decide)
      split at h
      · rename_i hu
        intro g H locs ls hg hP hD hS hl
        have hk : (a = 0 → m < 9 ∧ decode (bbyt m) pc = .ok (.return_, 1)) ∧ (a ≠ 0 → m = 9 ∧ decode (bbyt m) pc = .ok (.areturn, 1)) := by
          replace hi : kb_ret m a i n = true := hi
          unfold kb_ret at hi
          split at hi <;> first | exact absurd hi (by decide) | simp only [decide_eq_true_eq] at hi
          · obtain ⟨rfl, rfl, h3⟩ := hi
            exact ⟨fun _ => ⟨h3, hd⟩, fun q => absurd rfl q⟩
          · obtain ⟨rfl, rfl, h3⟩ := hi
            exact ⟨fun q => absurd q (by decide), fun _ => ⟨h3, hd⟩⟩
        split at h
        · rename_i h0
          split at h
          · cases h
            exact hret g H locs ls pc hg hP hD hS hl (Or.inr (Or.inl ⟨(hk.1 h0).1, (hk.1 h0).2, rfl, hu.1, hu.2⟩))
          · cases h
        · rename_i h0
          split at h
          · cases h
            exact hret g H locs ls pc hg hP hD hS hl (Or.inr (Or.inr ⟨(hk.2 h0).1, (hk.2 h0).2, ⟨_, rfl⟩, hu.1, hu.2⟩))
          · cases h
      · cases h
    rw [if_neg h15] at h
    by_cases h16 : op = 16
    · rw [if_pos h16] at h
      subst h16
      obtain ⟨i, n, hd, hi⟩ := hdd (by decide)
      split at h
      · split at h
        · rename_i hk
          exact b_obj hC hd hi hk (key _ _ _ _ _ _ h)
        · cases h
      · cases h
    rw [if_neg h16] at h
    by_cases h17 : op = 17
    · rw [if_pos h17] at h
      subst h17
      obtain ⟨i, n, hd, hi⟩ := hdd (by decide)
      split at h
      · split at h
        · rename_i hgo
          split at h
          · rename_i hk
            exact b_ini ih hC hd hi hk.1 rfl hgo hk.2.1 hk.2.2.1 hk.2.2.2.1 hk.2.2.2.2 (key _ _ _ _ _ _ h)
          · cases h
        · cases h
      · cases h
    rw [if_neg h17] at h
    by_cases h18 : op = 18
    · rw [if_pos h18] at h
      subst h18
      obtain ⟨i, n, hd, hi⟩ := hdd (by decide)
      split at h
      · split at h
        · rename_i hgo
          split at h
          · rename_i hk
            obtain ⟨rfl, h2, h3, h4, h5⟩ := hk
            exact b_fre ih hC hd hi rfl hgo h2 h3 h4 h5 (key _ _ _ _ _ _ h)
          · cases h
        · cases h
      · cases h
    rw [if_neg h18] at h
    cases h
end Birth
