set_option maxRecDepth 100000 in
theorem nk_ckL12 : nk_TL12.all (nk_chk 7 code) = true := by decide +kernel
set_option maxRecDepth 100000 in
theorem nk_ckL13 : nk_TL13.all (nk_chk 7 code) = true := by decide +kernel
set_option maxRecDepth 100000 in
theorem nk_ckL14 : nk_TL14.all (nk_chk 7 code) = true := by decide +kernel
set_option maxRecDepth 100000 in
theorem nk_ckL15 : nk_TL15.all (nk_chk 7 code) = true := by decide +kernel
set_option maxRecDepth 100000 in
theorem nk_ckL16 : nk_TL16.all (nk_chk 7 code) = true := by decide +kernel
set_option maxRecDepth 100000 in
theorem nk_ckL17 : nk_TL17.all (nk_chk 7 code) = true := by decide +kernel
