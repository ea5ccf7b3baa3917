set_option maxRecDepth 100000 in
theorem ok_227_0 : (ic_227_0.all fun q => chk 227 q.1 q.2) = true := by decide +kernel
set_option maxRecDepth 100000 in
theorem ok_227_1 : (ic_227_1.all fun q => chk 227 q.1 q.2) = true := by decide +kernel
set_option maxRecDepth 100000 in
theorem ok_227_2 : (ic_227_2.all fun q => chk 227 q.1 q.2) = true := by decide +kernel
set_option maxRecDepth 100000 in
theorem ok_227_3 : (ic_227_3.all fun q => chk 227 q.1 q.2) = true := by decide +kernel
set_option maxRecDepth 100000 in
theorem ok_227_4 : (ic_227_4.all fun q => chk 227 q.1 q.2) = true := by decide +kernel
set_option maxRecDepth 100000 in
theorem ok_227_5 : (ic_227_5.all fun q => chk 227 q.1 q.2) = true := by decide +kernel
set_option maxRecDepth 100000 in
theorem ok_227_6 : (ic_227_6.all fun q => chk 227 q.1 q.2) = true := by decide +kernel
set_option maxRecDepth 100000 in
theorem ok_227_7 : (ic_227_7.all fun q => chk 227 q.1 q.2) = true := by decide +kernel
set_option maxRecDepth 100000 in
theorem ok_227_8 : (ic_227_8.all fun q => chk 227 q.1 q.2) = true := by decide +kernel
set_option maxRecDepth 100000 in
theorem ok_227_9 : (ic_227_9.all fun q => chk 227 q.1 q.2) = true := by decide +kernel
set_option maxRecDepth 100000 in
theorem ok_227_10 : (ic_227_10.all fun q => chk 227 q.1 q.2) = true := by decide +kernel
set_option maxRecDepth 100000 in
theorem ok_227_11 : (ic_227_11.all fun q => chk 227 q.1 q.2) = true := by decide +kernel
set_option maxRecDepth 100000 in
theorem ok_227_12 : (ic_227_12.all fun q => chk 227 q.1 q.2) = true := by decide +kernel
set_option maxRecDepth 100000 in
theorem ok_227_13 : (ic_227_13.all fun q => chk 227 q.1 q.2) = true := by decide +kernel
