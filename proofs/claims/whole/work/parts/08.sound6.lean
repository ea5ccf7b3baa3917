section Sound
variable {l : Launch} {D : va_G} {cy : Nat → ClassId} {ad : Nat → Nat → Nat} {adV : Nat → Nat} {A : Nat → Prop} {SL : Nat} {xs : Nat → Int32}
variable {p : Program} {e : Env} {R : Room} {s : State} {mid : MethodId} {args : Array Value} {below : List Frame} {meth : Method} {c : Code} {cells slots : Nat} {Q : State → Prop}
variable {d m pc : Nat} {L : AL} {S : AS} {V : Mem} {a b nx n : Nat} {i : Instr}
set_option maxHeartbeats 4000000 in
theorem snd (G : GW cy ad A SL) : ∀ f, SND l D cy ad adV A SL xs f := by
  intro f
  induction f with
  | zero => intro d m pc L S V X hm h; cases h
  | succ f ih =>
    intro d m pc L S V X hm h p e R s mid args below meth c cells slots Q hC hcl hsl hret
    have key : ∀ pc' L' S' V', go f d m pc' L' S' V' = some X → PS l D cy ad A SL xs p e R s mid args below meth c cells slots Q m pc' L' S' V' := fun pc' L' S' V' h9 => ih d m pc' L' S' V' X hm h9 p e R s mid args below meth c cells slots Q hC hcl hsl hret
    replace h : stG (go f) d m pc L S V = some X := h
    unfold stG stp at h
    have hchk := ins_ok (m := m) (pc := pc) (ok_all m hm)
    have hsto := @sto_at m pc hm
    generalize ins m pc = en at h hchk hsto
    obtain ⟨op, a, b, v, nx⟩ := en
    dsimp only at h hchk
    have hdd : op ≠ 99 → ∃ (i : Instr) (n : Nat), decode (byt m) pc = .ok (i, n) ∧ chI m pc i n (op, a, b, v, nx) = true := by
      intro h99
      have h1 := hchk h99
      unfold chk at h1
      split at h1
      · rename_i i n hd
        exact ⟨i, n, hd, h1⟩
      · cases h1
    by_cases h0 : op = 0
    · rw [if_pos h0] at h
      subst h0
      obtain ⟨i, n, hd, hi⟩ := hdd (by decide)
      unfold o_load at h
      split at h
      · rename_i w hw
        cases hb : Nat.beq (kd w) b with
        | false => rw [hb] at h; cases h
        | true =>
          rw [hb] at h
          exact s_load hC hd hi hw (Nat.eq_of_beq_eq_true hb) (key _ _ _ _ h)
      · cases h
    rw [if_neg h0] at h
    by_cases h1 : op = 1
    · rw [if_pos h1] at h
      subst h1
      obtain ⟨i, n, hd, hi⟩ := hdd (by decide)
      exact s_push hC hd hi (key _ _ _ _ h)
    rw [if_neg h1] at h
    by_cases h2 : op = 2
    · rw [if_pos h2] at h
      subst h2
      obtain ⟨i, n, hd, hi⟩ := hdd (by decide)
      unfold o_get at h
      split at h
      · split at h
        · rename_i hc
          split at h
          · rename_i w hw
            exact s_get hC hd hi hc hw (key _ _ _ _ h)
          · cases h
        · cases h
      · cases h
    rw [if_neg h2] at h
    by_cases h3 : op = 3
    · rw [if_pos h3] at h
      subst h3
      obtain ⟨i, n, hd, hi⟩ := hdd (by decide)
      exact s_call G ih hC hd hi ((hsto rfl (by decide)).2.2 rfl) hm hcl hsl key h
    rw [if_neg h3] at h
    by_cases h4 : op = 4
    · rw [if_pos h4] at h
      subst h4
      obtain ⟨i, n, hd, hi⟩ := hdd (by decide)
      exact s_ret hd hi hret h
    rw [if_neg h4] at h
    by_cases h5 : op = 5
    · rw [if_pos h5] at h
      subst h5
      obtain ⟨i, n, hd, hi⟩ := hdd (by decide)
      unfold o_xald at h
      split at h
      · split at h
        · rename_i h50
          split at h
          · rename_i h1
            subst h50
            subst h1
            split at h
            · cases h
            · rename_i hin
              exact s_xscr G hC hd hi hin (key _ _ _ _ h)
          · cases h
        · split at h
          · rename_i hk
            split at h
            · cases h
            · rename_i hin
              exact s_xald hC hd hi hk hin (key _ _ _ _ h)
          · cases h
      · cases h
    rw [if_neg h5] at h
    by_cases h6 : op = 6
    · rw [if_pos h6] at h
      subst h6
      obtain ⟨i, n, hd, hi⟩ := hdd (by decide)
      exact s_goto hC hd hi (key _ _ _ _ h)
    rw [if_neg h6] at h
    by_cases h7 : op = 7
    · rw [if_pos h7] at h
      subst h7
      obtain ⟨i, n, hd, hi⟩ := hdd (by decide)
      unfold o_sto1 at h
      split at h
      · exact s_sto1 hC hd hi ((hsto rfl (by decide)).1 (Or.inl rfl)) (key _ _ _ _ h)
      · cases h
    rw [if_neg h7] at h
    by_cases h8 : op = 8
    · rw [if_pos h8] at h
      subst h8
      obtain ⟨i, n, hd, hi⟩ := hdd (by decide)
      unfold o_ibin at h
      split at h
      · exact s_ibin hC hd hi (key _ _ _ _ h)
      · cases h
    rw [if_neg h8] at h
    by_cases h9 : op = 9
    · rw [if_pos h9] at h
      subst h9
      obtain ⟨i, n, hd, hi⟩ := hdd (by decide)
      match S, h with
      | .inl y :: .inl x :: R', h =>
        refine s_icmp hC hd hi ?_
        rw [fr_o_icmp _ _ (fun _ _ => none) (fun _ _ _ _ _ _ => none) (fun _ _ _ _ _ _ => none) (fun _ _ _ _ _ _ => none)] at h
        rw [fr_o_icmp _ _ (fun _ _ => False) (fun _ _ _ _ _ _ => False) (fun _ _ _ _ _ _ => False) (fun _ _ _ _ _ _ => False)]
        exact fold_mono key _ h
    rw [if_neg h9] at h
    by_cases h10 : op = 10
    · rw [if_pos h10] at h
      subst h10
      obtain ⟨i, n, hd, hi⟩ := hdd (by decide)
      match S, h with
      | .inl x :: R', h =>
        refine s_ifz hC hd hi ?_
        rw [fr_o_ifz _ _ (fun _ _ => none) (fun _ _ _ _ _ _ => none) (fun _ _ _ _ _ _ => none) (fun _ _ _ _ _ _ => none)] at h
        rw [fr_o_ifz _ _ (fun _ _ => False) (fun _ _ _ _ _ _ => False) (fun _ _ _ _ _ _ => False) (fun _ _ _ _ _ _ => False)]
        exact fold_mono key _ h
    rw [if_neg h10] at h
    by_cases h11 : op = 11
    · rw [if_pos h11] at h
      subst h11
      obtain ⟨i, n, hd, hi⟩ := hdd (by decide)
      unfold o_put at h
      split at h
      · split at h
        · rename_i hc
          split at h
          · rename_i hn
            rename_i t j R'
            rw [cond_eq_ite] at h
            split at h
            · rename_i hz
              split at h
              · rename_i hx
                exact s_put G hC hd hi hc hn (fun _ => hx) (key _ _ _ _ h)
              · cases h
            · rename_i hz
              exact s_put G hC hd hi hc hn (fun q => absurd q hz) (key _ _ _ _ h)
          · cases h
        · cases h
      · cases h
    rw [if_neg h11] at h
    by_cases h12 : op = 12
    · rw [if_pos h12] at h
      subst h12
      obtain ⟨i, n, hd, hi⟩ := hdd (by decide)
      unfold o_iinc at h
      split at h
      · rename_i hx
        exact s_iinc hC hd hi hx rfl (key _ _ _ _ h)
      · cases h
    rw [if_neg h12] at h
    by_cases h13 : op = 13
    · rw [if_pos h13] at h
      subst h13
      obtain ⟨i, n, hd, hi⟩ := hdd (by decide)
      unfold o_dup at h
      split at h
      · rw [cond_eq_ite] at h
        split at h
        · rename_i hv
          exact s_dup hC hd hi (Nat.eq_of_beq_eq_true hv) (key _ _ _ _ h)
        · cases h
      · cases h
    rw [if_neg h13] at h
    by_cases h14 : op = 14
    · rw [if_pos h14] at h
      subst h14
      obtain ⟨i, n, hd, hi⟩ := hdd (by decide)
      unfold o_iast at h
      split at h
      · split at h
        · rename_i hk
          split at h
          · cases h
          · rename_i hin
            split at h
            · rename_i h1
              exact s_iast G hC hd hi hk hin (fun q => absurd (h1.symm.trans q) (by decide)) (key _ _ _ _ h)
            · split at h
              · split at h
                · rename_i hx
                  exact s_iast G hC hd hi hk hin (fun _ => hx) (key _ _ _ _ h)
                · cases h
              · cases h
        · cases h
      · cases h
    rw [if_neg h14] at h
    by_cases h15 : op = 15
    · rw [if_pos h15] at h
      subst h15
      obtain ⟨i, n, hd, hi⟩ := hdd (by decide)
      unfold o_unry at h
      split at h
      · split at h
        · rename_i hw
          exact s_unry hC hd hi hw (key _ _ _ _ h)
        · cases h
      · cases h
    rw [if_neg h15] at h
    by_cases h16 : op = 16
    · rw [if_pos h16] at h
      subst h16
      obtain ⟨i, n, hd, hi⟩ := hdd (by decide)
      unfold o_aald at h
      split at h
      · split at h
        · rename_i h4
          subst h4
          split at h
          · cases h
          · rename_i hin
            exact s_aald4 hC hd hi hin (key _ _ _ _ h)
        · split at h
          · rename_i h22
            subst h22
            split at h
            · cases h
            · rename_i hin
              exact s_aald22 hC hd hi hin (key _ _ _ _ h)
          · cases h
      · cases h
    rw [if_neg h16] at h
    by_cases h17 : op = 17
    · rw [if_pos h17] at h
      subst h17
      obtain ⟨i, n, hd, hi⟩ := hdd (by decide)
      unfold o_lbin at h
      split at h
      · exact s_lbin hC hd hi (key _ _ _ _ h)
      · cases h
    rw [if_neg h17] at h
    by_cases h18 : op = 18
    · rw [if_pos h18] at h
      subst h18
      obtain ⟨i, n, hd, hi⟩ := hdd (by decide)
      unfold o_lcmp at h
      split at h
      · exact s_lcmp hC hd hi (key _ _ _ _ h)
      · cases h
    rw [if_neg h18] at h
    by_cases h19 : op = 19
    · rw [if_pos h19] at h
      subst h19
      obtain ⟨i, n, hd, hi⟩ := hdd (by decide)
      unfold o_idiv at h
      split at h
      · split at h
        · cases h
        · rename_i hy
          refine s_idiv hC hd hi hy (key _ _ _ _ ?_)
          split at h
          · rename_i ha
            rw [if_pos ha]
            exact h
          · rename_i ha
            rw [if_neg ha]
            exact h
      · cases h
    rw [if_neg h19] at h
    by_cases h20 : op = 20
    · rw [if_pos h20] at h
      subst h20
      obtain ⟨i, n, hd, hi⟩ := hdd (by decide)
      unfold o_ldiv at h
      split at h
      · split at h
        · cases h
        · rename_i hy
          exact s_ldiv hC hd hi hy (key _ _ _ _ h)
      · cases h
    rw [if_neg h20] at h
    by_cases h21 : op = 21
    · rw [if_pos h21] at h
      subst h21
      obtain ⟨i, n, hd, hi⟩ := hdd (by decide)
      unfold o_lald at h
      split at h
      · split at h
        · rename_i hk
          split at h
          · cases h
          · rename_i hin
            exact s_lald hC hd hi hk hin (key _ _ _ _ h)
        · cases h
      · cases h
    rw [if_neg h21] at h
    by_cases h22 : op = 22
    · rw [if_pos h22] at h
      subst h22
      obtain ⟨i, n, hd, hi⟩ := hdd (by decide)
      unfold o_last at h
      split at h
      · split at h
        · rename_i hk
          split at h
          · cases h
          · rename_i hin
            exact s_last G hC hd hi hk hin (key _ _ _ _ h)
        · cases h
      · cases h
    rw [if_neg h22] at h
    by_cases h23 : op = 23
    · rw [if_pos h23] at h
      subst h23
      obtain ⟨i, n, hd, hi⟩ := hdd (by decide)
      unfold o_sto2 at h
      split at h
      · exact s_sto2 hC hd hi ((hsto rfl (by decide)).2.1 rfl) (key _ _ _ _ h)
      · cases h
    rw [if_neg h23] at h
    by_cases h24 : op = 24
    · rw [if_pos h24] at h
      subst h24
      obtain ⟨i, n, hd, hi⟩ := hdd (by decide)
      unfold o_dup2 at h
      split at h
      · rw [cond_eq_ite] at h
        split at h
        · rename_i hv
          rw [Bool.and_eq_true] at hv
          exact s_dup2 hC hd hi (Nat.eq_of_beq_eq_true hv.1) (Nat.eq_of_beq_eq_true hv.2) (key _ _ _ _ h)
        · cases h
      · cases h
    rw [if_neg h24] at h
    by_cases h25 : op = 25
    · rw [if_pos h25] at h
      subst h25
      obtain ⟨i, n, hd, hi⟩ := hdd (by decide)
      unfold o_pop at h
      split at h
      · rw [cond_eq_ite] at h
        split at h
        · rename_i hv
          exact s_pop hC hd hi (Nat.eq_of_beq_eq_true hv) (key _ _ _ _ h)
        · cases h
      · cases h
    rw [if_neg h25] at h
    by_cases h26 : op = 26
    · rw [if_pos h26] at h
      subst h26
      obtain ⟨i, n, hd, hi⟩ := hdd (by decide)
      unfold o_alen at h
      split at h
      · split at h
        · rename_i h50
          subst h50
          exact s_alens G hC hd hi (key _ _ _ _ h)
        · split at h
          · rename_i hk
            exact s_alen hC hd hi hk (key _ _ _ _ h)
          · cases h
      · cases h
    rw [if_neg h26] at h
    by_cases h27 : op = 27
    · rw [if_pos h27] at h
      subst h27
      obtain ⟨i, n, hd, hi⟩ := hdd (by decide)
      unfold o_lshl at h
      split at h
      · exact s_lshl hC hd hi (key _ _ _ _ h)
      · cases h
    rw [if_neg h27] at h
    by_cases h28 : op = 28
    · rw [if_pos h28] at h
      subst h28
      obtain ⟨i, n, hd, hi⟩ := hdd (by decide)
      match S, h with
      | .inl x :: R', h =>
        refine s_swit hC hd hi ?_
        show o_swit (fun pc' L' S' V' => PS l D cy ad A SL xs p e R s mid args below meth c cells slots Q m pc' L' S' V') False m pc b L (.inl x :: R') V
        rw [fr_o_swit _ _ (fun _ _ => none) (fun _ _ _ _ _ _ => none) (fun _ _ _ _ _ _ => none) (fun _ _ _ _ _ _ => none)] at h
        rw [fr_o_swit _ _ (fun _ _ => False) (fun _ _ _ _ _ _ => False) (fun _ _ _ _ _ _ => False) (fun _ _ _ _ _ _ => False)]
        exact fold_mono key _ h
    rw [if_neg h28] at h
    by_cases h29 : op = 29
    · rw [if_pos h29] at h
      subst h29
      obtain ⟨i, n, hd, hi⟩ := hdd (by decide)
      unfold o_acpy at h
      split at h
      · split at h
        · rename_i hk
          split at h
          · cases h
          · rename_i hg
            split at h
            · rename_i ha
              exact s_acpy1 G hC hd hi (hk.1.trans ha) (hk.2.1.trans ha) hk.2.2 hg (key _ _ _ _ h)
            · split at h
              · rename_i ha
                exact s_acpy2 G hC hd hi (hk.1.trans ha) (hk.2.1.trans ha) hk.2.2 hg (key _ _ _ _ h)
              · cases h
        · cases h
      · cases h
    rw [if_neg h29] at h
    by_cases h30 : op = 30
    · rw [if_pos h30] at h
      subst h30
      obtain ⟨i, n, hd, hi⟩ := hdd (by decide)
      unfold o_slen at h
      split at h
      · split at h
        · rename_i ht
          exact s_slen G hC hd hi ht.1 ht.2 hcl hsl (key _ _ _ _ h)
        · cases h
      · cases h
    rw [if_neg h30] at h
    by_cases h31 : op = 31
    · rw [if_pos h31] at h
      subst h31
      obtain ⟨i, n, hd, hi⟩ := hdd (by decide)
      unfold o_schr at h
      split at h
      · split at h
        · rename_i ht
          split at h
          · cases h
          · rename_i hin
            exact s_schr G hC hd hi ht.1 ht.2 hin hcl hsl (key _ _ _ _ h)
        · cases h
      · cases h
    rw [if_neg h31] at h
    by_cases h32 : op = 32
    · rw [if_pos h32] at h
      subst h32
      obtain ⟨i, n, hd, hi⟩ := hdd (by decide)
      unfold o_stoA at h
      split at h
      · exact s_stoA hC hd hi ((hsto rfl (by decide)).1 (Or.inr rfl)) (key _ _ _ _ h)
      · cases h
    rw [if_neg h32] at h
    by_cases h33 : op = 33
    · rw [if_pos h33] at h
      subst h33
      obtain ⟨i, n, hd, hi⟩ := hdd (by decide)
      unfold o_mat2 at h
      split at h
      · rw [cond_eq_ite] at h
        split at h
        · rename_i hv
          refine s_mat2 hC hd hi (Nat.le_of_ble_eq_true hv) hcl hsl (key _ _ _ _ ?_)
          split at h
          · rename_i ha
            rw [if_pos ha]
            exact h
          · rename_i ha
            rw [if_neg ha]
            exact h
        · cases h
      · cases h
    rw [if_neg h33] at h
    by_cases h34 : op = 34
    · rw [if_pos h34] at h
      subst h34
      obtain ⟨i, n, hd, hi⟩ := hdd (by decide)
      unfold o_mabs at h
      split at h
      · rw [cond_eq_ite] at h
        split at h
        · rename_i hv
          exact s_mabs hC hd hi (Nat.le_of_ble_eq_true hv) hcl hsl (key _ _ _ _ h)
        · cases h
      · cases h
    rw [if_neg h34] at h
    by_cases h35 : op = 35
    · rw [if_pos h35] at h
      subst h35
      obtain ⟨i, n, hd, hi⟩ := hdd (by decide)
      unfold o_matJ at h
      split at h
      · rw [cond_eq_ite] at h
        split at h
        · rename_i hv
          refine s_matJ hC hd hi (Nat.le_of_ble_eq_true hv) hcl hsl (key _ _ _ _ ?_)
          split at h
          · rename_i ha
            rw [if_pos ha]
            exact h
          · rename_i ha
            rw [if_neg ha]
            exact h
        · cases h
      · cases h
    rw [if_neg h35] at h
    cases h
end Sound
