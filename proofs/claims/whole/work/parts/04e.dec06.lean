set_option maxRecDepth 100000 in
theorem ok_212_0 : (ic_212_0.all fun q => chk 212 q.1 q.2) = true := by decide +kernel
set_option maxRecDepth 100000 in
theorem ok_212_1 : (ic_212_1.all fun q => chk 212 q.1 q.2) = true := by decide +kernel
set_option maxRecDepth 100000 in
theorem ok_212_2 : (ic_212_2.all fun q => chk 212 q.1 q.2) = true := by decide +kernel
set_option maxRecDepth 100000 in
theorem ok_212_3 : (ic_212_3.all fun q => chk 212 q.1 q.2) = true := by decide +kernel
set_option maxRecDepth 100000 in
theorem ok_212_4 : (ic_212_4.all fun q => chk 212 q.1 q.2) = true := by decide +kernel
set_option maxRecDepth 100000 in
theorem ok_212_5 : (ic_212_5.all fun q => chk 212 q.1 q.2) = true := by decide +kernel
set_option maxRecDepth 100000 in
theorem ok_212_6 : (ic_212_6.all fun q => chk 212 q.1 q.2) = true := by decide +kernel
set_option maxRecDepth 100000 in
theorem ok_212_7 : (ic_212_7.all fun q => chk 212 q.1 q.2) = true := by decide +kernel
set_option maxRecDepth 100000 in
theorem ok_212_8 : (ic_212_8.all fun q => chk 212 q.1 q.2) = true := by decide +kernel
set_option maxRecDepth 100000 in
theorem ok_212_9 : (ic_212_9.all fun q => chk 212 q.1 q.2) = true := by decide +kernel
theorem ok_212 : okM 212 = true := by
  show (List.all [ic_212_0, ic_212_1, ic_212_2, ic_212_3, ic_212_4, ic_212_5, ic_212_6, ic_212_7, ic_212_8, ic_212_9] fun c => c.all fun q => chk 212 q.1 q.2) = true
  simp only [List.all_cons, List.all_nil, ok_212_0, ok_212_1, ok_212_2, ok_212_3, ok_212_4, ok_212_5, ok_212_6, ok_212_7, ok_212_8, ok_212_9, Bool.and_self]
