set_option maxRecDepth 100000 in
theorem nk_ckL0 : nk_TL0.all (nk_chk 7 code) = true := by decide +kernel
set_option maxRecDepth 100000 in
theorem nk_ckL1 : nk_TL1.all (nk_chk 7 code) = true := by decide +kernel
set_option maxRecDepth 100000 in
theorem nk_ckL2 : nk_TL2.all (nk_chk 7 code) = true := by decide +kernel
set_option maxRecDepth 100000 in
theorem nk_ckL3 : nk_TL3.all (nk_chk 7 code) = true := by decide +kernel
set_option maxRecDepth 100000 in
theorem nk_ckL4 : nk_TL4.all (nk_chk 7 code) = true := by decide +kernel
set_option maxRecDepth 100000 in
theorem nk_ckL5 : nk_TL5.all (nk_chk 7 code) = true := by decide +kernel
