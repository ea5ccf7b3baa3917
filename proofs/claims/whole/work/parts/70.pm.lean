/-! STUBS: what is still owed, method by method -/
theorem pm_says (SL : Nat) (xs : Nat → Int32) (a1 : Int32) (a2 : Int32) : PMI SL xs m_C_says m_M_says [.inl a1, .inl a2] := sorry
theorem pm_sky (SL : Nat) (xs : Nat → Int32)  : PMI SL xs m_C_sky m_M_sky [] := sorry
theorem pm_parishOf (SL : Nat) (xs : Nat → Int32) (a1 : Int32) (a2 : Int32) : PMI SL xs m_C_parishOf m_M_parishOf [.inl a1, .inl a2] := sorry
theorem pm_shift (SL : Nat) (xs : Nat → Int32) (a1 : Int32) (a2 : Int32) : PMI SL xs m_C_shift m_M_shift [.inl a1, .inl a2] := sorry
theorem pm_better (SL : Nat) (xs : Nat → Int32) (a1 : Int32) (a2 : Int32) : PMI SL xs m_C_better m_M_better [.inl a1, .inl a2] := sorry
theorem pm_share (SL : Nat) (xs : Nat → Int32) (a1 : Int32) : PMI SL xs m_C_share m_M_share [.inl a1] := sorry
theorem pm_colours (SL : Nat) (xs : Nat → Int32)  : PMI SL xs m_C_colours m_M_colours [] := sorry
theorem pm_way (SL : Nat) (xs : Nat → Int32) (a1 : Int32) (a2 : Int32) : PMI SL xs m_C_way m_M_way [.inl a1, .inl a2] := sorry
theorem pm_pick (SL : Nat) (xs : Nat → Int32) (a1 : Int32) : PMI SL xs m_C_pick m_M_pick [.inl a1] := sorry
theorem pm_laws (SL : Nat) (xs : Nat → Int32) (a1 : Int32) : PMI SL xs m_C_laws m_M_laws [.inl a1] := sorry
theorem pm_whose (SL : Nat) (xs : Nat → Int32) (a1 : Int32) (a2 : Int32) (a3 : Int32) : PMI SL xs m_C_whose m_M_whose [.inl a1, .inl a2, .inl a3] := sorry
theorem pm_seen (SL : Nat) (xs : Nat → Int32) (a1 : Int32) (a2 : Int32) : PMI SL xs m_C_seen m_M_seen [.inl a1, .inl a2] := sorry
theorem pm_nights (SL : Nat) (xs : Nat → Int32) (a1 : Int32) : PMI SL xs m_C_nights m_M_nights [.inl a1] := sorry
theorem pm_give (SL : Nat) (xs : Nat → Int32)  : PMI SL xs m_C_give m_M_give_I [] := sorry
theorem pm_status (SL : Nat) (xs : Nat → Int32) (a1 : Int32) : PMI SL xs m_C_status m_M_status [.inl a1] := sorry
