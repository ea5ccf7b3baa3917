/-! STUBS: what is still owed, method by method -/
