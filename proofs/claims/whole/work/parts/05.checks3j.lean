set_option maxRecDepth 100000 in
theorem nk_ckL54 : nk_TL54.all (nk_chk 7 code) = true := by decide +kernel
set_option maxRecDepth 100000 in
theorem nk_ckL55 : nk_TL55.all (nk_chk 7 code) = true := by decide +kernel
theorem nk_ckL : nk_TL.all (nk_chk 7 code) = true := by
  simp only [nk_TL, List.all_append, Bool.and_eq_true]
  exact ⟨nk_ckL0, ⟨nk_ckL1, ⟨nk_ckL2, ⟨nk_ckL3, ⟨nk_ckL4, ⟨nk_ckL5, ⟨nk_ckL6, ⟨nk_ckL7, ⟨nk_ckL8, ⟨nk_ckL9, ⟨nk_ckL10, ⟨nk_ckL11, ⟨nk_ckL12, ⟨nk_ckL13, ⟨nk_ckL14, ⟨nk_ckL15, ⟨nk_ckL16, ⟨nk_ckL17, ⟨nk_ckL18, ⟨nk_ckL19, ⟨nk_ckL20, ⟨nk_ckL21, ⟨nk_ckL22, ⟨nk_ckL23, ⟨nk_ckL24, ⟨nk_ckL25, ⟨nk_ckL26, ⟨nk_ckL27, ⟨nk_ckL28, ⟨nk_ckL29, ⟨nk_ckL30, ⟨nk_ckL31, ⟨nk_ckL32, ⟨nk_ckL33, ⟨nk_ckL34, ⟨nk_ckL35, ⟨nk_ckL36, ⟨nk_ckL37, ⟨nk_ckL38, ⟨nk_ckL39, ⟨nk_ckL40, ⟨nk_ckL41, ⟨nk_ckL42, ⟨nk_ckL43, ⟨nk_ckL44, ⟨nk_ckL45, ⟨nk_ckL46, ⟨nk_ckL47, ⟨nk_ckL48, ⟨nk_ckL49, ⟨nk_ckL50, ⟨nk_ckL51, ⟨nk_ckL52, ⟨nk_ckL53, ⟨nk_ckL54, nk_ckL55⟩⟩⟩⟩⟩⟩⟩⟩⟩⟩⟩⟩⟩⟩⟩⟩⟩⟩⟩⟩⟩⟩⟩⟩⟩⟩⟩⟩⟩⟩⟩⟩⟩⟩⟩⟩⟩⟩⟩⟩⟩⟩⟩⟩⟩⟩⟩⟩⟩⟩⟩⟩⟩⟩⟩
