/-! the checks of methods 214 to 227 -/
set_option maxRecDepth 100000 in
theorem ok_214 : okM 214 = true := by decide +kernel
set_option maxRecDepth 100000 in
theorem ok_215 : okM 215 = true := by decide +kernel
set_option maxRecDepth 100000 in
theorem ok_216 : okM 216 = true := by decide +kernel
set_option maxRecDepth 100000 in
theorem ok_217 : okM 217 = true := by decide +kernel
set_option maxRecDepth 100000 in
theorem ok_218 : okM 218 = true := by decide +kernel
set_option maxRecDepth 100000 in
theorem ok_219 : okM 219 = true := by decide +kernel
set_option maxRecDepth 100000 in
theorem ok_220 : okM 220 = true := by decide +kernel
set_option maxRecDepth 100000 in
theorem ok_221 : okM 221 = true := by decide +kernel
set_option maxRecDepth 100000 in
theorem ok_222 : okM 222 = true := by decide +kernel
set_option maxRecDepth 100000 in
theorem ok_223 : okM 223 = true := by decide +kernel
set_option maxRecDepth 100000 in
theorem ok_224 : okM 224 = true := by decide +kernel
set_option maxRecDepth 100000 in
theorem ok_225 : okM 225 = true := by decide +kernel
set_option maxRecDepth 100000 in
theorem ok_226 : okM 226 = true := by decide +kernel
