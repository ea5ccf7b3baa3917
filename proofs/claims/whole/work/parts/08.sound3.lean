theorem yM_own : ∀ b, b < NM → (yM b).cls = owS (ow b) := by decide +kernel
theorem rk_f : ∀ b, b < NM → (rk b = 0 → retT b = none) ∧ (rk b = 2 → retT b = some .long) ∧ (rk b ≠ 0 → rk b ≠ 2 → retT b = some .int ∨ retT b = some .boolean) := by decide +kernel
theorem mcl_f : ∀ b, b < NM → mcl b ≤ 8 ∨ mcl b = 99 := by decide +kernel
def wsM (b : Nat) : List Cond := Cond.code (yM b) (byt b) (nLo b) (retT b) :: TBG
def rmD (d : Nat) : Room := { frames := d + 8, cells := 0, slots := 0, locals := 64 * (d + 8) }
theorem tbg_all {w : Cond} (h : w ∈ TBG) : goodWord w = true := (List.mem_filter.mp h).2
theorem wsM_good {b : Nat} (h : MOK b) : GoodIn TBG (wsM b) := by
  intro w hw
  have hin : w ∈ TBG := by
    rcases List.mem_cons.mp hw with rfl | h2
    · exact List.mem_filter.mpr ⟨h.1, rfl⟩
    · exact h2
  exact ⟨hin, good_of_word (tbg_all hin)⟩
theorem tbg {w : Cond} (h : w ∈ lw_tbl) (hg : goodWord w = true) : w ∈ TBG := List.mem_filter.mpr ⟨h, hg⟩
/-- the world at a state -/
def WF (D : va_G) (cy : Nat → ClassId) (ad : Nat → Nat → Nat) (adV : Nat → Nat) (A : Nat → Prop) (SL : Nat) (xs : Nat → Int32) (V : Mem) (U : State) : Prop :=
  va_P D vwCl (allC cy ad V) U.heap ∧ va_K D vwCl (tysL cy) U ∧ (vk_S 5 slnL sbyL (fun k => ad 52 k) adV A U U.heap ∧ (∀ k : Nat, k < 5 → vk_R RX7 (sidx k) (stx k) (ad 52 k) U) ∧ stZ A U U.heap) ∧ va_X (ad 50 0) SL xs U U.heap ∧ ad 50 0 < U.heap.size
/-- a return stands at pc, fit for r -/
def rtI (m pc : Nat) : Option AV → Prop
  | none => decode (byt m) pc = .ok (.return_, 1) ∧ retT m = none
  | some (.inl x) => decode (byt m) pc = .ok (.ireturn, 1) ∧ (retT m = some .int ∨ retT m = some .boolean ∧ (x = 0 ∨ x = 1))
  | some (.inr (.inl _)) => decode (byt m) pc = .ok (.lreturn, 1) ∧ retT m = some .long
  | some (.inr (.inr _)) => False
section Sound
variable {l : Launch} {D : va_G} {cy : Nat → ClassId} {ad : Nat → Nat → Nat} {adV : Nat → Nat} {A : Nat → Prop} {SL : Nat} {xs : Nat → Int32}
variable {p : Program} {e : Env} {R : Room} {s : State} {mid : MethodId} {args : Array Value} {below : List Frame} {meth : Method} {c : Code} {cells slots : Nat} {Q : State → Prop}
variable {d m pc : Nat} {L : AL} {S : AS} {V : Mem} {a b nx n : Nat} {i : Instr}
theorem i32_of {z : Int} (h1 : -2000 ≤ z) (h2 : z < 2000) : (Int32.ofInt z).toInt = z := by
  rw [Int32.toInt_ofInt]
  have h3 : z.bmod (2 ^ 32) = z := by rw [Int.bmod_eq_of_le (by omega) (by omega)]
  exact h3
theorem tab_in {K : Nat → Prop} {x : Int32} {b : Nat} : ∀ (o : List Int) (lo : Int), -1000 ≤ lo → lo + o.length < 2000 → swG K x b (tabL pc lo o) →
    ((x.toInt < lo ∨ lo + o.length ≤ x.toInt) → K b) ∧ ∀ (j : Nat) (z : Int), o[j]? = some z → x.toInt = lo + j → K ((pc : Int) + z).toNat
  | [], lo, _, _, h => ⟨fun _ => h, fun j z h1 _ => by cases h1⟩
  | z0 :: r, lo, h1, h2, h => by
    unfold tabL swG at h
    rw [List.length_cons] at h2 ⊢
    by_cases hx : x = Int32.ofInt lo
    · rw [if_pos hx] at h
      have hlo : x.toInt = lo := by rw [hx]; exact i32_of (by omega) (by omega)
      refine ⟨fun q => ?_, fun j z hj hq => ?_⟩
      · exfalso; omega
      · have : j = 0 := by omega
        subst this
        cases hj
        exact h
    · rw [if_neg hx] at h
      have hne : ¬ x.toInt = lo := fun q => hx (Int32.toInt_inj.mp (by rw [i32_of (by omega) (by omega)]; exact q))
      obtain ⟨g1, g2⟩ := tab_in r (lo + 1) (by omega) (by omega) h
      refine ⟨fun q => g1 (by omega), fun j z hj hq => ?_⟩
      cases j with
      | zero => exfalso; omega
      | succ j => exact g2 j z hj (by omega)
theorem look_in {K : Nat → Prop} {x : Int32} {b : Nat} {df : Int} (hdf : (pc : Int) + df = (b : Int)) : ∀ (o : List (Int × Int)), (∀ q ∈ o, 0 ≤ (pc : Int) + q.2 ∧ -1000 ≤ q.1 ∧ q.1 < 1000) → swG K x b (o.map (fun q => (Int32.ofInt q.1, ((pc : Int) + q.2).toNat))) →
    ∃ tgt : Nat, (pc : Int) + Op.lookupswitch.offset o df x.toInt = (tgt : Int) ∧ K tgt
  | [], _, h => ⟨b, hdf, h⟩
  | q0 :: r, hq, h => by
    obtain ⟨k0, z0⟩ := q0
    have h0 := hq (k0, z0) List.mem_cons_self
    unfold List.map swG at h
    by_cases hx : x = Int32.ofInt k0
    · rw [if_pos hx] at h
      have hlo : x.toInt = k0 := by rw [hx]; exact i32_of (by omega) (by omega)
      refine ⟨((pc : Int) + z0).toNat, ?_, h⟩
      have : Op.lookupswitch.offset ((k0, z0) :: r) df x.toInt = z0 := by
        rw [hlo]
        simp [Op.lookupswitch.offset]
      rw [this]
      omega
    · rw [if_neg hx] at h
      rw [lv_osw hx (i32_of (by omega) (by omega))]
      exact look_in hdf r (fun q h9 => hq q (List.mem_cons_of_mem _ h9)) h
theorem swit_inv {sw : List (Int32 × Nat)} (h : k_swit pc b sw i n = true) :
    (∃ (df lo hi : Int) (offs : Array Int), i = .tableswitch df lo hi offs ∧ (pc : Int) + df = (b : Int) ∧ -1000 ≤ lo ∧ hi < 1000 ∧ hi = lo + offs.size - 1 ∧ sw = tabL pc lo offs.toList ∧ ∀ x ∈ offs.toList, 0 ≤ (pc : Int) + x) ∨
    ∃ (df : Int) (ps : Array (Int × Int)), i = .lookupswitch df ps ∧ (pc : Int) + df = (b : Int) ∧ (ps.toList.zip (ps.toList.drop 1)).all (fun (a, next) => a.1 < next.1) = true ∧ sw = ps.toList.map (fun q => (Int32.ofInt q.1, ((pc : Int) + q.2).toNat)) ∧ ∀ q ∈ ps.toList, 0 ≤ (pc : Int) + q.2 ∧ -1000 ≤ q.1 ∧ q.1 < 1000 := by
  unfold k_swit at h
  split at h
  · exact Or.inl ⟨_, _, _, _, rfl, of_decide_eq_true h⟩
  · exact Or.inr ⟨_, _, rfl, of_decide_eq_true h⟩
  · cases h
theorem s_swit (hC : CX D cy ad adV A SL xs d m p R s mid args c) (hd : decode (byt m) pc = .ok (i, n)) (hi : k_swit pc b (swt m pc) i n = true) {x : Int32} (k : swG (fun t => PS l D cy ad A SL xs p e R s mid args below meth c cells slots Q m t L S V) x b (swt m pc)) : PS l D cy ad A SL xs p e R s mid args below meth c cells slots Q m pc L (.inl x :: S) V := by
  intro H locs ls hP hS hl hA hB hV
  have U : ∀ {q : Nat}, PS l D cy ad A SL xs p e R s mid args below meth c cells slots Q m q L S V → W p l e R s mid args below meth c H locs cells slots Q (F0 mid q ls (S.map (rv ad))) := fun h => h H locs ls hP hS hl hA hB.tail hV
  rcases swit_inv hi with ⟨df, lo, hh, offs, rfl, h1, h2, h3, h4, h5, h6⟩ | ⟨df, ps, rfl, h1, h2, h3, h4⟩
  · rw [h5] at k
    have hsz : (offs.toList.length : Int) = (offs.size : Int) := by simp
    obtain ⟨g1, g2⟩ := tab_in (pc := pc) offs.toList lo h2 (by rw [hsz]; omega) k
    rw [hsz] at g1
    by_cases ho : x.toInt < lo ∨ hh < x.toInt
    · exact lv_tableOut hC.1.1 hC.1.2.1 hd ho h1 (U (g1 (by omega)))
    · simp only [not_or] at ho
      have hj : (x.toInt - lo).toNat < offs.size := by omega
      have he : offs[(x.toInt - lo).toNat]? = some offs[(x.toInt - lo).toNat] := Array.getElem?_eq_getElem hj
      have he2 : offs.toList[(x.toInt - lo).toNat]? = some offs[(x.toInt - lo).toNat] := by rw [Array.getElem?_toList]; exact he
      have hge := h6 _ (List.mem_of_getElem? he2)
      have K := g2 _ _ he2 (by omega)
      exact lv_tableIn hC.1.1 hC.1.2.1 hd ho.1 ho.2 he (Int.toNat_of_nonneg hge).symm (U K)
  · rw [h3] at k
    obtain ⟨tgt, g1, g2⟩ := look_in h1 _ h4 k
    exact lv_lookup hC.1.1 hC.1.2.1 hd h2 rfl g1 (U g2)
theorem wf_of (hC : CX D cy ad adV A SL xs d m p R s mid args c) {H : Heap} {locs : List Loc} (hP : va_P D vwCl (allC cy ad V) H) (hS : va_S A s.heap H locs) (G : GW cy ad A SL) {U : State} (hU : U.heap = H) (hW : s.WarmedH U.vm) : WF D cy ad adV A SL xs V U := by
  refine ⟨by rw [hU]; exact hP, va_K.moved hW.alike hC.2.1, ⟨?_, fun k hk => vk_R.warm hW (hC.2.2.2.1.2.1 k hk), ?_⟩, ?_, ?_⟩
  · rw [hU]
    exact vk_S.moved hW.alike (hC.2.2.2.1.1.kept hS.2.1)
  · rw [hU]
    exact ⟨va_Z.moved hW.alike (hC.2.2.2.1.2.2.1.kept hS.2.1), va_Zq.moved hW.alike (hC.2.2.2.1.2.2.2.kept hS.2.1)⟩
  · rw [hU]
    exact va_X.moved hW.alike (hC.2.2.2.2.1.kept (hS.2.1 _ hC.2.2.2.2.2 G.2.1))
  · rw [hU]
    exact Nat.lt_of_lt_of_le hC.2.2.2.2.2 hS.1
theorem wf_blind {av : List Value} : FrameBlind (va_Pc av (WF D cy ad adV A SL xs V)) := by
  intro a U g mk h
  obtain ⟨h0, h1, h2, ⟨h3, h4, h8, h9⟩, h5, h6⟩ := h
  exact ⟨h0, h1, va_K.moved (u := U) (U := U.calling g mk a) (Vm.Alike.refl U.vm) h2, ⟨vk_S.moved (u := U) (U := U.calling g mk a) (Vm.Alike.refl U.vm) h3, fun k hk => vk_R.same (u := U) rfl (h4 k hk), va_Z.moved (u := U) (U := U.calling g mk a) (Vm.Alike.refl U.vm) h8, va_Zq.moved (u := U) (U := U.calling g mk a) (Vm.Alike.refl U.vm) h9⟩, va_X.moved (u := U) (U := U.calling g mk a) (Vm.Alike.refl U.vm) h5, h6⟩
/-- the run of a call, whatever it answers -/
theorem s_run (G : GW cy ad A SL) (hC : CX D cy ad adV A SL xs (d + 1) m p R s mid args c) (hd : decode (byt m) pc = .ok (i, n)) (hi : k_call (ow m) pc a b nx i n = true) {as R' : List AV} (hT : takA a S [] = some (as, R')) (hr : rcv b as = true) (hcs : csum R' ≤ 8) (hb : b < NM) (hbok : MOK b)
    {Qc : Array Value → State → Outcome → State → Prop} (hM : Met l (yM b) (wsM b) (rmD d) (va_Pc (as.map (rv ad)) (WF D cy ad adV A SL xs V)) Qc 0 0 A) (hcl : cells ≤ R.cells) (hsl : slots ≤ R.slots)
    {H : Heap} {locs : List Loc} {ls : Array Slot} (hP : va_P D vwCl (allC cy ad V) H) (hS : va_S A s.heap H locs) (hl : LR ad ls (nLo m) L) (hB : okB S) :
    nx = pc + 3 ∧ ∃ av : Array Value, va_Run p l e R s mid args below meth c H locs cells slots 0 0 (F0 mid pc ls (S.map (rv ad))) (R'.map (rv ad)) (Qc av) A := by
  obtain ⟨t, h1, h2, h3⟩ := takA_split ad a S [] as R' hT
  rw [List.append_nil] at h1
  subst h1
  subst h2
  have hfr := hC.2.2.1
  have hnl : nLo b ≤ 40 := hbok.2.2.2.2.2.2
  unfold k_call at hi
  split at hi <;> first | exact absurd hi (by decide) | simp only [decide_eq_true_eq, Bool.and_eq_true] at hi
  · obtain ⟨⟨rfl, rfl, hv, ha⟩, hi⟩ := hi
    obtain ⟨q, hq, hq2⟩ := any_ex hi
    simp only [decide_eq_true_eq] at hq2
    obtain ⟨e1, rfl, e3⟩ := hq2
    have hw := hC.1.2.2.2.2 _ (mem_tbg (mlk_ok q hq) rfl)
    rw [e1, e3] at hw
    refine ⟨rfl, ?_⟩
    obtain ⟨hin, hse, hcls⟩ := hbok.2.2.2.1 hv
    -- the receiver
    have hrev : ∃ (t0 j0 : Nat) (as' : List AV), t.reverse = .inr (.inr (t0, j0)) :: as' ∧ clsOf t0 = mcl b := by
      unfold rcv at hr
      have hne : Nat.beq (mcl b) 99 = false := by
        cases hh : Nat.beq (mcl b) 99 with
        | false => rfl
        | true => exact absurd (Nat.eq_of_beq_eq_true hh) hv
      rw [hne] at hr
      match hh : t.reverse, hr with
      | .inr (.inr (t0, j0)) :: as', hr => exact ⟨t0, j0, as', rfl, Nat.eq_of_beq_eq_true hr⟩
    obtain ⟨t0, j0, as', hrv, hct⟩ := hrev
    have ht : t = as'.reverse ++ [.inr (.inr (t0, j0))] := by
      have := congrArg List.reverse hrv
      rw [List.reverse_reverse] at this
      rw [this, List.reverse_cons]
    have hj : j0 < cnt t0 := hB (.inr (.inr (t0, j0))) (by rw [ht]; simp)
    have hle : clsOf t0 ≤ 8 := by
      rcases mcl_f b hb with h9 | h9
      · omega
      · exact absurd h9 hv
    obtain ⟨t48, hak, -⟩ := obj_f t0 (cnt_lt hj) hle
    obtain ⟨q0, hq0⟩ := allP_at t48 hj
    have hcell := allC_at (cy := cy) (ad := ad) (V := V) hq0
    rw [cellE_obj hak] at hcell
    have hcl2 : ∃ r : vw_C, vwCl[clsOf t0]? = some r ∧ r.1 = (yM b).cls := by
      rw [← hct, nth_get] at hcls
      cases hh : vwCl[clsOf t0]? with
      | none => rw [hh] at hcls; cases hcls
      | some r => rw [hh] at hcls; exact ⟨r, rfl, Option.some.inj hcls⟩
    obtain ⟨r, hr1, hr2⟩ := hcl2
    have hrec := va_recv hC.2.1 hP hr1 hcell
    rw [hr2] at hrec
    rw [hrv] at hM
    refine ⟨_, va_runV (As := as'.map (rv ad)) (rest := R'.map (rv ad)) (b := ad t0 j0) hC.1 hM ⟨callB_of (npr b) hC.1.2.2.2.2 (wsM_good hbok) rfl rfl rfl (hC.1.2.2.2.2 _ (tbg hbok.2.1 rfl)) hw hbok.2.2.2.2.1 ⟨by show d + 8 + 1 ≤ _; omega, by show 8 + (nLo b + 11) + 64 * (d + 8) ≤ _; omega⟩, hC.1.2.2.2.2 _ (tbg hin rfl), hC.1.2.2.2.2 _ (tbg hse rfl)⟩
      ⟨wf_blind, hrec, fun U hU hW => ⟨rfl, wf_of hC hP hS G hU hW⟩⟩ rfl ?_ hl.1 ?_ (lv_room (by rw [csum_real]; exact hcs)) hd ⟨hcl, hsl⟩⟩
    · have : t.length = as'.length + 1 := by rw [ht]; simp
      rw [List.length_map]
      omega
    · show (t ++ R').map (rv ad) = _
      rw [ht]
      simp [rv]
  · obtain ⟨⟨rfl, rfl, hv, ha⟩, hi⟩ := hi
    obtain ⟨q, hq, hq2⟩ := any_ex hi
    simp only [decide_eq_true_eq] at hq2
    obtain ⟨e1, rfl, e3⟩ := hq2
    have hw := hC.1.2.2.2.2 _ (mem_tbg (mlk_ok q hq) rfl)
    rw [e1, e3] at hw
    refine ⟨rfl, ?_⟩
    refine ⟨_, va_runS (As := t.reverse.map (rv ad)) (rest := R'.map (rv ad)) hC.1 hM ⟨callB_of (npr b) hC.1.2.2.2.2 (wsM_good hbok) rfl rfl rfl (hC.1.2.2.2.2 _ (tbg hbok.2.1 rfl)) hw hbok.2.2.2.2.1 ⟨by show d + 8 + 1 ≤ _; omega, by show 8 + (nLo b + 11) + 64 * (d + 8) ≤ _; omega⟩, hC.1.2.2.2.2 _ (tbg (hbok.2.2.1 hv) rfl)⟩
      ⟨wf_blind, fun U hU hW => ⟨rfl, wf_of hC hP hS G hU hW⟩⟩ rfl ?_ hl.1 ?_ (lv_room (by rw [csum_real]; exact hcs)) hd ⟨hcl, hsl⟩⟩
    · rw [List.length_map, List.length_reverse]
      omega
    · show (t ++ R').map (rv ad) = _
      simp
end Sound
