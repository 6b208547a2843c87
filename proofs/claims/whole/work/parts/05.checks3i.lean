set_option maxRecDepth 100000 in
theorem nk_ckL48 : nk_TL48.all (nk_chk 7 code) = true := by decide +kernel
set_option maxRecDepth 100000 in
theorem nk_ckL49 : nk_TL49.all (nk_chk 7 code) = true := by decide +kernel
set_option maxRecDepth 100000 in
theorem nk_ckL50 : nk_TL50.all (nk_chk 7 code) = true := by decide +kernel
set_option maxRecDepth 100000 in
theorem nk_ckL51 : nk_TL51.all (nk_chk 7 code) = true := by decide +kernel
set_option maxRecDepth 100000 in
theorem nk_ckL52 : nk_TL52.all (nk_chk 7 code) = true := by decide +kernel
set_option maxRecDepth 100000 in
theorem nk_ckL53 : nk_TL53.all (nk_chk 7 code) = true := by decide +kernel
