set_option maxRecDepth 100000 in
theorem ok_227_28 : (ic_227_28.all fun q => chk 227 q.1 q.2) = true := by decide +kernel
set_option maxRecDepth 100000 in
theorem ok_227_29 : (ic_227_29.all fun q => chk 227 q.1 q.2) = true := by decide +kernel
set_option maxRecDepth 100000 in
theorem ok_227_30 : (ic_227_30.all fun q => chk 227 q.1 q.2) = true := by decide +kernel
set_option maxRecDepth 100000 in
theorem ok_227_31 : (ic_227_31.all fun q => chk 227 q.1 q.2) = true := by decide +kernel
set_option maxRecDepth 100000 in
theorem ok_227_32 : (ic_227_32.all fun q => chk 227 q.1 q.2) = true := by decide +kernel
set_option maxRecDepth 100000 in
theorem ok_227_33 : (ic_227_33.all fun q => chk 227 q.1 q.2) = true := by decide +kernel
set_option maxRecDepth 100000 in
theorem ok_227_34 : (ic_227_34.all fun q => chk 227 q.1 q.2) = true := by decide +kernel
set_option maxRecDepth 100000 in
theorem ok_227_35 : (ic_227_35.all fun q => chk 227 q.1 q.2) = true := by decide +kernel
set_option maxRecDepth 100000 in
theorem ok_227_36 : (ic_227_36.all fun q => chk 227 q.1 q.2) = true := by decide +kernel
set_option maxRecDepth 100000 in
theorem ok_227_37 : (ic_227_37.all fun q => chk 227 q.1 q.2) = true := by decide +kernel
set_option maxRecDepth 100000 in
theorem ok_227_38 : (ic_227_38.all fun q => chk 227 q.1 q.2) = true := by decide +kernel
set_option maxRecDepth 100000 in
theorem ok_227_39 : (ic_227_39.all fun q => chk 227 q.1 q.2) = true := by decide +kernel
theorem ok_227 : okM 227 = true := by
  show (List.all [ic_227_0, ic_227_1, ic_227_2, ic_227_3, ic_227_4, ic_227_5, ic_227_6, ic_227_7, ic_227_8, ic_227_9, ic_227_10, ic_227_11, ic_227_12, ic_227_13, ic_227_14, ic_227_15, ic_227_16, ic_227_17, ic_227_18, ic_227_19, ic_227_20, ic_227_21, ic_227_22, ic_227_23, ic_227_24, ic_227_25, ic_227_26, ic_227_27, ic_227_28, ic_227_29, ic_227_30, ic_227_31, ic_227_32, ic_227_33, ic_227_34, ic_227_35, ic_227_36, ic_227_37, ic_227_38, ic_227_39] fun c => c.all fun q => chk 227 q.1 q.2) = true
  simp only [List.all_cons, List.all_nil, ok_227_0, ok_227_1, ok_227_2, ok_227_3, ok_227_4, ok_227_5, ok_227_6, ok_227_7, ok_227_8, ok_227_9, ok_227_10, ok_227_11, ok_227_12, ok_227_13, ok_227_14, ok_227_15, ok_227_16, ok_227_17, ok_227_18, ok_227_19, ok_227_20, ok_227_21, ok_227_22, ok_227_23, ok_227_24, ok_227_25, ok_227_26, ok_227_27, ok_227_28, ok_227_29, ok_227_30, ok_227_31, ok_227_32, ok_227_33, ok_227_34, ok_227_35, ok_227_36, ok_227_37, ok_227_38, ok_227_39, Bool.and_self]
