set_option maxRecDepth 100000 in
theorem ok_227_14 : (ic_227_14.all fun q => chk 227 q.1 q.2) = true := by decide +kernel
set_option maxRecDepth 100000 in
theorem ok_227_15 : (ic_227_15.all fun q => chk 227 q.1 q.2) = true := by decide +kernel
set_option maxRecDepth 100000 in
theorem ok_227_16 : (ic_227_16.all fun q => chk 227 q.1 q.2) = true := by decide +kernel
set_option maxRecDepth 100000 in
theorem ok_227_17 : (ic_227_17.all fun q => chk 227 q.1 q.2) = true := by decide +kernel
set_option maxRecDepth 100000 in
theorem ok_227_18 : (ic_227_18.all fun q => chk 227 q.1 q.2) = true := by decide +kernel
set_option maxRecDepth 100000 in
theorem ok_227_19 : (ic_227_19.all fun q => chk 227 q.1 q.2) = true := by decide +kernel
set_option maxRecDepth 100000 in
theorem ok_227_20 : (ic_227_20.all fun q => chk 227 q.1 q.2) = true := by decide +kernel
set_option maxRecDepth 100000 in
theorem ok_227_21 : (ic_227_21.all fun q => chk 227 q.1 q.2) = true := by decide +kernel
set_option maxRecDepth 100000 in
theorem ok_227_22 : (ic_227_22.all fun q => chk 227 q.1 q.2) = true := by decide +kernel
set_option maxRecDepth 100000 in
theorem ok_227_23 : (ic_227_23.all fun q => chk 227 q.1 q.2) = true := by decide +kernel
set_option maxRecDepth 100000 in
theorem ok_227_24 : (ic_227_24.all fun q => chk 227 q.1 q.2) = true := by decide +kernel
set_option maxRecDepth 100000 in
theorem ok_227_25 : (ic_227_25.all fun q => chk 227 q.1 q.2) = true := by decide +kernel
set_option maxRecDepth 100000 in
theorem ok_227_26 : (ic_227_26.all fun q => chk 227 q.1 q.2) = true := by decide +kernel
set_option maxRecDepth 100000 in
theorem ok_227_27 : (ic_227_27.all fun q => chk 227 q.1 q.2) = true := by decide +kernel
