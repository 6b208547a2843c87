set_option maxRecDepth 100000 in
theorem nk_ckL6 : nk_TL6.all (nk_chk 7 code) = true := by decide +kernel
set_option maxRecDepth 100000 in
theorem nk_ckL7 : nk_TL7.all (nk_chk 7 code) = true := by decide +kernel
set_option maxRecDepth 100000 in
theorem nk_ckL8 : nk_TL8.all (nk_chk 7 code) = true := by decide +kernel
set_option maxRecDepth 100000 in
theorem nk_ckL9 : nk_TL9.all (nk_chk 7 code) = true := by decide +kernel
set_option maxRecDepth 100000 in
theorem nk_ckL10 : nk_TL10.all (nk_chk 7 code) = true := by decide +kernel
set_option maxRecDepth 100000 in
theorem nk_ckL11 : nk_TL11.all (nk_chk 7 code) = true := by decide +kernel
