/-! ===== the law's loop ===== -/
theorem lw_and : ∀ y : Int32, ∃ k : Nat, k < 32 ∧ y &&& nI 31 = nI k := by
  intro y
  refine ⟨(y &&& nI 31).toBitVec.toNat, ?_, ?_⟩
  · have : (y &&& nI 31).toBitVec = y.toBitVec &&& 31#32 := rfl
    rw [this, BitVec.toNat_and]
    exact Nat.lt_of_le_of_lt Nat.and_le_right (by decide)
  · apply Int32.toBitVec_inj.mp
    show (y &&& nI 31).toBitVec = BitVec.ofNat 32 _
    rw [BitVec.ofNat_toNat, BitVec.setWidth_eq]
section LAW
variable {S : nk_Sc} {P : nk_P} {K : nk_K} {D : nk_D} {i : Nat}
set_option maxRecDepth 100000 in
theorem lw_0 (hK : ∀ pc loc stk D, nk_step S (nk_run S 40) nk_TL (some .boolean) P K pc loc stk D → K pc loc stk D) (hr : REL D) (hS : S.1 < 2 ^ 31) (hi : i + 4 ≤ S.1) (next : ∀ D2, REL D2 → K 850 [some (.ref 1002), some (.ref 0), some (.ref 52), some (.int (nI i))] [] D2) : K 152 [some (.ref 1002), some (.ref 0), some (.ref 52), some (.int (nI i))] [] D := by
  have hb : ∀ j, j < S.1 → j < (nk_oa S 1002).1 := fun j h => h
  refine hK _ _ _ _ (hK _ _ _ _ (hK _ _ _ _ (hK _ _ _ _ (hK _ _ _ _ (show K _ _ _ _ from ?_)))))
  rw [nk_add]
  refine hK _ _ _ _ (nk_AO rfl rfl rfl (hb _ (by omega)) (show K _ _ _ _ from ?_))
  refine hK _ _ _ _ (nk_stV rfl rfl rfl rfl ?_)
  refine op_write hr (fun v D1 th => ?_)
  show K 161 _ _ _
  refine hK _ _ _ _ (hK _ _ _ _ (hK _ _ _ _ (hK _ _ _ _ (hK _ _ _ _ (show K _ _ _ _ from ?_)))))
  rw [nk_add]
  refine hK _ _ _ _ (nk_AO rfl rfl rfl (hb _ (by omega)) (show K _ _ _ _ from ?_))
  refine hK _ _ _ _ (nk_stV rfl rfl rfl rfl ?_)
  refine nk_run_mono th (fun r D2 q => ?_)
  obtain ⟨rfl, hr2⟩ := q
  refine hK _ _ _ _ (nk_bt rfl ?_)
  exact next D2 hr2
set_option maxRecDepth 100000 in
theorem lw_1 (hK : ∀ pc loc stk D, nk_step S (nk_run S 40) nk_TL (some .boolean) P K pc loc stk D → K pc loc stk D) (hr : REL D) (hS : S.1 < 2 ^ 31) (hi : i + 4 ≤ S.1) (next : ∀ D2, REL D2 → K 850 [some (.ref 1002), some (.ref 0), some (.ref 52), some (.int (nI i))] [] D2) : K 175 [some (.ref 1002), some (.ref 0), some (.ref 52), some (.int (nI i))] [] D := by
  have hb : ∀ j, j < S.1 → j < (nk_oa S 1002).1 := fun j h => h
  refine hK _ _ _ _ (show K _ _ _ _ from ?_)
  refine hK _ _ _ _ (nk_stV rfl rfl rfl rfl ?_)
  refine op_erase hr (fun v D1 th => ?_)
  show K 179 _ _ _
  refine hK _ _ _ _ (show K _ _ _ _ from ?_)
  refine hK _ _ _ _ (nk_stV rfl rfl rfl rfl ?_)
  refine nk_run_mono th (fun r D2 q => ?_)
  obtain ⟨rfl, hr2⟩ := q
  refine hK _ _ _ _ (nk_bt rfl ?_)
  exact next D2 hr2
set_option maxRecDepth 100000 in
theorem lw_2 (hK : ∀ pc loc stk D, nk_step S (nk_run S 40) nk_TL (some .boolean) P K pc loc stk D → K pc loc stk D) (hr : REL D) (hS : S.1 < 2 ^ 31) (hi : i + 4 ≤ S.1) (next : ∀ D2, REL D2 → K 850 [some (.ref 1002), some (.ref 0), some (.ref 52), some (.int (nI i))] [] D2) : K 188 [some (.ref 1002), some (.ref 0), some (.ref 52), some (.int (nI i))] [] D := by
  have hb : ∀ j, j < S.1 → j < (nk_oa S 1002).1 := fun j h => h
  refine hK _ _ _ _ (show K _ _ _ _ from ?_)
  refine hK _ _ _ _ (nk_stV rfl rfl rfl rfl ?_)
  refine op_fault hr (fun v D1 th => ?_)
  show K 192 _ _ _
  refine hK _ _ _ _ (show K _ _ _ _ from ?_)
  refine hK _ _ _ _ (nk_stV rfl rfl rfl rfl ?_)
  refine nk_run_mono th (fun r D2 q => ?_)
  obtain ⟨rfl, hr2⟩ := q
  refine hK _ _ _ _ (nk_bt rfl ?_)
  exact next D2 hr2
set_option maxRecDepth 100000 in
theorem lw_3 (hK : ∀ pc loc stk D, nk_step S (nk_run S 40) nk_TL (some .boolean) P K pc loc stk D → K pc loc stk D) (hr : REL D) (hS : S.1 < 2 ^ 31) (hi : i + 4 ≤ S.1) (next : ∀ D2, REL D2 → K 850 [some (.ref 1002), some (.ref 0), some (.ref 52), some (.int (nI i))] [] D2) : K 201 [some (.ref 1002), some (.ref 0), some (.ref 52), some (.int (nI i))] [] D := by
  have hb : ∀ j, j < S.1 → j < (nk_oa S 1002).1 := fun j h => h
  refine hK _ _ _ _ (show K _ _ _ _ from ?_)
  refine hK _ _ _ _ (nk_stV rfl rfl rfl rfl ?_)
  refine op_season hr (fun v D1 th => ?_)
  show K 205 _ _ _
  refine hK _ _ _ _ (show K _ _ _ _ from ?_)
  refine hK _ _ _ _ (nk_stV rfl rfl rfl rfl ?_)
  refine nk_run_mono th (fun r D2 q => ?_)
  obtain ⟨rfl, hr2⟩ := q
  refine hK _ _ _ _ (nk_bt rfl ?_)
  exact next D2 hr2
set_option maxRecDepth 100000 in
theorem lw_4 (hK : ∀ pc loc stk D, nk_step S (nk_run S 40) nk_TL (some .boolean) P K pc loc stk D → K pc loc stk D) (hr : REL D) (hS : S.1 < 2 ^ 31) (hi : i + 4 ≤ S.1) (next : ∀ D2, REL D2 → K 850 [some (.ref 1002), some (.ref 0), some (.ref 52), some (.int (nI i))] [] D2) : K 214 [some (.ref 1002), some (.ref 0), some (.ref 52), some (.int (nI i))] [] D := by
  have hb : ∀ j, j < S.1 → j < (nk_oa S 1002).1 := fun j h => h
  refine hK _ _ _ _ (hK _ _ _ _ (hK _ _ _ _ (hK _ _ _ _ (hK _ _ _ _ (show K _ _ _ _ from ?_)))))
  rw [nk_add]
  refine hK _ _ _ _ (nk_AO rfl rfl rfl (hb _ (by omega)) (show K _ _ _ _ from ?_))
  refine hK _ _ _ _ (hK _ _ _ _ (hK _ _ _ _ (hK _ _ _ _ (show K _ _ _ _ from ?_))))
  rw [nk_add]
  refine hK _ _ _ _ (nk_AO rfl rfl rfl (hb _ (by omega)) (show K _ _ _ _ from ?_))
  refine hK _ _ _ _ (nk_stV rfl rfl rfl rfl ?_)
  refine op_person hr (fun v D1 th => ?_)
  show K 228 _ _ _
  refine hK _ _ _ _ (hK _ _ _ _ (hK _ _ _ _ (hK _ _ _ _ (hK _ _ _ _ (show K _ _ _ _ from ?_)))))
  rw [nk_add]
  refine hK _ _ _ _ (nk_AO rfl rfl rfl (hb _ (by omega)) (show K _ _ _ _ from ?_))
  refine hK _ _ _ _ (hK _ _ _ _ (hK _ _ _ _ (hK _ _ _ _ (show K _ _ _ _ from ?_))))
  rw [nk_add]
  refine hK _ _ _ _ (nk_AO rfl rfl rfl (hb _ (by omega)) (show K _ _ _ _ from ?_))
  refine hK _ _ _ _ (nk_stV rfl rfl rfl rfl ?_)
  refine nk_run_mono th (fun r D2 q => ?_)
  obtain ⟨rfl, hr2⟩ := q
  refine hK _ _ _ _ (nk_bt rfl ?_)
  exact next D2 hr2
set_option maxRecDepth 100000 in
theorem lw_5 (hK : ∀ pc loc stk D, nk_step S (nk_run S 40) nk_TL (some .boolean) P K pc loc stk D → K pc loc stk D) (hr : REL D) (hS : S.1 < 2 ^ 31) (hi : i + 4 ≤ S.1) (next : ∀ D2, REL D2 → K 850 [some (.ref 1002), some (.ref 0), some (.ref 52), some (.int (nI i))] [] D2) : K 247 [some (.ref 1002), some (.ref 0), some (.ref 52), some (.int (nI i))] [] D := by
  have hb : ∀ j, j < S.1 → j < (nk_oa S 1002).1 := fun j h => h
  refine hK _ _ _ _ (hK _ _ _ _ (hK _ _ _ _ (hK _ _ _ _ (hK _ _ _ _ (show K _ _ _ _ from ?_)))))
  rw [nk_add]
  refine hK _ _ _ _ (nk_AO rfl rfl rfl (hb _ (by omega)) (show K _ _ _ _ from ?_))
  refine hK _ _ _ _ (hK _ _ _ _ (hK _ _ _ _ (hK _ _ _ _ (show K _ _ _ _ from ?_))))
  rw [nk_add]
  refine hK _ _ _ _ (nk_AO rfl rfl rfl (hb _ (by omega)) (show K _ _ _ _ from ?_))
  refine hK _ _ _ _ (nk_stV rfl rfl rfl rfl ?_)
  refine op_to hr (fun v D1 th => ?_)
  show K 261 _ _ _
  refine hK _ _ _ _ (hK _ _ _ _ (hK _ _ _ _ (hK _ _ _ _ (hK _ _ _ _ (show K _ _ _ _ from ?_)))))
  rw [nk_add]
  refine hK _ _ _ _ (nk_AO rfl rfl rfl (hb _ (by omega)) (show K _ _ _ _ from ?_))
  refine hK _ _ _ _ (hK _ _ _ _ (hK _ _ _ _ (hK _ _ _ _ (show K _ _ _ _ from ?_))))
  rw [nk_add]
  refine hK _ _ _ _ (nk_AO rfl rfl rfl (hb _ (by omega)) (show K _ _ _ _ from ?_))
  refine hK _ _ _ _ (nk_stV rfl rfl rfl rfl ?_)
  refine nk_run_mono th (fun r D2 q => ?_)
  obtain ⟨rfl, hr2⟩ := q
  refine hK _ _ _ _ (nk_bt rfl ?_)
  exact next D2 hr2
set_option maxRecDepth 100000 in
theorem lw_6 (hK : ∀ pc loc stk D, nk_step S (nk_run S 40) nk_TL (some .boolean) P K pc loc stk D → K pc loc stk D) (hr : REL D) (hS : S.1 < 2 ^ 31) (hi : i + 4 ≤ S.1) (next : ∀ D2, REL D2 → K 850 [some (.ref 1002), some (.ref 0), some (.ref 52), some (.int (nI i))] [] D2) : K 280 [some (.ref 1002), some (.ref 0), some (.ref 52), some (.int (nI i))] [] D := by
  have hb : ∀ j, j < S.1 → j < (nk_oa S 1002).1 := fun j h => h
  refine hK _ _ _ _ (hK _ _ _ _ (hK _ _ _ _ (hK _ _ _ _ (hK _ _ _ _ (show K _ _ _ _ from ?_)))))
  rw [nk_add]
  refine hK _ _ _ _ (nk_AO rfl rfl rfl (hb _ (by omega)) (show K _ _ _ _ from ?_))
  refine hK _ _ _ _ (hK _ _ _ _ (hK _ _ _ _ (hK _ _ _ _ (show K _ _ _ _ from ?_))))
  rw [nk_add]
  refine hK _ _ _ _ (nk_AO rfl rfl rfl (hb _ (by omega)) (show K _ _ _ _ from ?_))
  refine hK _ _ _ _ (nk_stV rfl rfl rfl rfl ?_)
  refine op_as hr (fun v D1 th => ?_)
  show K 294 _ _ _
  refine hK _ _ _ _ (hK _ _ _ _ (hK _ _ _ _ (hK _ _ _ _ (hK _ _ _ _ (show K _ _ _ _ from ?_)))))
  rw [nk_add]
  refine hK _ _ _ _ (nk_AO rfl rfl rfl (hb _ (by omega)) (show K _ _ _ _ from ?_))
  refine hK _ _ _ _ (hK _ _ _ _ (hK _ _ _ _ (hK _ _ _ _ (show K _ _ _ _ from ?_))))
  rw [nk_add]
  refine hK _ _ _ _ (nk_AO rfl rfl rfl (hb _ (by omega)) (show K _ _ _ _ from ?_))
  refine hK _ _ _ _ (nk_stV rfl rfl rfl rfl ?_)
  refine nk_run_mono th (fun r D2 q => ?_)
  obtain ⟨rfl, hr2⟩ := q
  refine hK _ _ _ _ (nk_bt rfl ?_)
  exact next D2 hr2
set_option maxRecDepth 100000 in
theorem lw_7 (hK : ∀ pc loc stk D, nk_step S (nk_run S 40) nk_TL (some .boolean) P K pc loc stk D → K pc loc stk D) (hr : REL D) (hS : S.1 < 2 ^ 31) (hi : i + 4 ≤ S.1) (next : ∀ D2, REL D2 → K 850 [some (.ref 1002), some (.ref 0), some (.ref 52), some (.int (nI i))] [] D2) : K 313 [some (.ref 1002), some (.ref 0), some (.ref 52), some (.int (nI i))] [] D := by
  have hb : ∀ j, j < S.1 → j < (nk_oa S 1002).1 := fun j h => h
  refine hK _ _ _ _ (hK _ _ _ _ (hK _ _ _ _ (hK _ _ _ _ (hK _ _ _ _ (show K _ _ _ _ from ?_)))))
  rw [nk_add]
  refine hK _ _ _ _ (nk_AO rfl rfl rfl (hb _ (by omega)) (show K _ _ _ _ from ?_))
  refine hK _ _ _ _ (hK _ _ _ _ (hK _ _ _ _ (hK _ _ _ _ (show K _ _ _ _ from ?_))))
  rw [nk_add]
  refine hK _ _ _ _ (nk_AO rfl rfl rfl (hb _ (by omega)) (show K _ _ _ _ from ?_))
  refine hK _ _ _ _ (nk_stV rfl rfl rfl rfl ?_)
  refine op_comes hr (fun v D1 th => ?_)
  show K 327 _ _ _
  refine hK _ _ _ _ (hK _ _ _ _ (hK _ _ _ _ (hK _ _ _ _ (hK _ _ _ _ (show K _ _ _ _ from ?_)))))
  rw [nk_add]
  refine hK _ _ _ _ (nk_AO rfl rfl rfl (hb _ (by omega)) (show K _ _ _ _ from ?_))
  refine hK _ _ _ _ (hK _ _ _ _ (hK _ _ _ _ (hK _ _ _ _ (show K _ _ _ _ from ?_))))
  rw [nk_add]
  refine hK _ _ _ _ (nk_AO rfl rfl rfl (hb _ (by omega)) (show K _ _ _ _ from ?_))
  refine hK _ _ _ _ (nk_stV rfl rfl rfl rfl ?_)
  refine nk_run_mono th (fun r D2 q => ?_)
  obtain ⟨rfl, hr2⟩ := q
  refine hK _ _ _ _ (nk_bt rfl ?_)
  exact next D2 hr2
set_option maxRecDepth 100000 in
theorem lw_8 (hK : ∀ pc loc stk D, nk_step S (nk_run S 40) nk_TL (some .boolean) P K pc loc stk D → K pc loc stk D) (hr : REL D) (hS : S.1 < 2 ^ 31) (hi : i + 4 ≤ S.1) (next : ∀ D2, REL D2 → K 850 [some (.ref 1002), some (.ref 0), some (.ref 52), some (.int (nI i))] [] D2) : K 346 [some (.ref 1002), some (.ref 0), some (.ref 52), some (.int (nI i))] [] D := by
  have hb : ∀ j, j < S.1 → j < (nk_oa S 1002).1 := fun j h => h
  refine hK _ _ _ _ (hK _ _ _ _ (hK _ _ _ _ (hK _ _ _ _ (hK _ _ _ _ (show K _ _ _ _ from ?_)))))
  rw [nk_add]
  refine hK _ _ _ _ (nk_AO rfl rfl rfl (hb _ (by omega)) (show K _ _ _ _ from ?_))
  refine hK _ _ _ _ (hK _ _ _ _ (hK _ _ _ _ (hK _ _ _ _ (show K _ _ _ _ from ?_))))
  rw [nk_add]
  refine hK _ _ _ _ (nk_AO rfl rfl rfl (hb _ (by omega)) (show K _ _ _ _ from ?_))
  refine hK _ _ _ _ (hK _ _ _ _ (hK _ _ _ _ (hK _ _ _ _ (show K _ _ _ _ from ?_))))
  rw [nk_add]
  refine hK _ _ _ _ (nk_AO rfl rfl rfl (hb _ (by omega)) (show K _ _ _ _ from ?_))
  refine hK _ _ _ _ (nk_stV rfl rfl rfl rfl ?_)
  refine op_introduce hr (fun v D1 th => ?_)
  show K 365 _ _ _
  refine hK _ _ _ _ (hK _ _ _ _ (hK _ _ _ _ (hK _ _ _ _ (hK _ _ _ _ (show K _ _ _ _ from ?_)))))
  rw [nk_add]
  refine hK _ _ _ _ (nk_AO rfl rfl rfl (hb _ (by omega)) (show K _ _ _ _ from ?_))
  refine hK _ _ _ _ (hK _ _ _ _ (hK _ _ _ _ (hK _ _ _ _ (show K _ _ _ _ from ?_))))
  rw [nk_add]
  refine hK _ _ _ _ (nk_AO rfl rfl rfl (hb _ (by omega)) (show K _ _ _ _ from ?_))
  refine hK _ _ _ _ (hK _ _ _ _ (hK _ _ _ _ (hK _ _ _ _ (show K _ _ _ _ from ?_))))
  rw [nk_add]
  refine hK _ _ _ _ (nk_AO rfl rfl rfl (hb _ (by omega)) (show K _ _ _ _ from ?_))
  refine hK _ _ _ _ (nk_stV rfl rfl rfl rfl ?_)
  refine nk_run_mono th (fun r D2 q => ?_)
  obtain ⟨rfl, hr2⟩ := q
  refine hK _ _ _ _ (nk_bt rfl ?_)
  exact next D2 hr2
set_option maxRecDepth 100000 in
theorem lw_9 (hK : ∀ pc loc stk D, nk_step S (nk_run S 40) nk_TL (some .boolean) P K pc loc stk D → K pc loc stk D) (hr : REL D) (hS : S.1 < 2 ^ 31) (hi : i + 4 ≤ S.1) (next : ∀ D2, REL D2 → K 850 [some (.ref 1002), some (.ref 0), some (.ref 52), some (.int (nI i))] [] D2) : K 389 [some (.ref 1002), some (.ref 0), some (.ref 52), some (.int (nI i))] [] D := by
  have hb : ∀ j, j < S.1 → j < (nk_oa S 1002).1 := fun j h => h
  refine hK _ _ _ _ (hK _ _ _ _ (hK _ _ _ _ (hK _ _ _ _ (hK _ _ _ _ (show K _ _ _ _ from ?_)))))
  rw [nk_add]
  refine hK _ _ _ _ (nk_AO rfl rfl rfl (hb _ (by omega)) (show K _ _ _ _ from ?_))
  refine hK _ _ _ _ (hK _ _ _ _ (hK _ _ _ _ (hK _ _ _ _ (show K _ _ _ _ from ?_))))
  rw [nk_add]
  refine hK _ _ _ _ (nk_AO rfl rfl rfl (hb _ (by omega)) (show K _ _ _ _ from ?_))
  refine hK _ _ _ _ (nk_stV rfl rfl rfl rfl ?_)
  refine op_contradict hr (fun v D1 th => ?_)
  show K 403 _ _ _
  refine hK _ _ _ _ (hK _ _ _ _ (hK _ _ _ _ (hK _ _ _ _ (hK _ _ _ _ (show K _ _ _ _ from ?_)))))
  rw [nk_add]
  refine hK _ _ _ _ (nk_AO rfl rfl rfl (hb _ (by omega)) (show K _ _ _ _ from ?_))
  refine hK _ _ _ _ (hK _ _ _ _ (hK _ _ _ _ (hK _ _ _ _ (show K _ _ _ _ from ?_))))
  rw [nk_add]
  refine hK _ _ _ _ (nk_AO rfl rfl rfl (hb _ (by omega)) (show K _ _ _ _ from ?_))
  refine hK _ _ _ _ (nk_stV rfl rfl rfl rfl ?_)
  refine nk_run_mono th (fun r D2 q => ?_)
  obtain ⟨rfl, hr2⟩ := q
  refine hK _ _ _ _ (nk_bt rfl ?_)
  exact next D2 hr2
set_option maxRecDepth 100000 in
theorem lw_10 (hK : ∀ pc loc stk D, nk_step S (nk_run S 40) nk_TL (some .boolean) P K pc loc stk D → K pc loc stk D) (hr : REL D) (hS : S.1 < 2 ^ 31) (hi : i + 4 ≤ S.1) (next : ∀ D2, REL D2 → K 850 [some (.ref 1002), some (.ref 0), some (.ref 52), some (.int (nI i))] [] D2) : K 422 [some (.ref 1002), some (.ref 0), some (.ref 52), some (.int (nI i))] [] D := by
  have hb : ∀ j, j < S.1 → j < (nk_oa S 1002).1 := fun j h => h
  refine hK _ _ _ _ (show K _ _ _ _ from ?_)
  refine hK _ _ _ _ (nk_stV rfl rfl rfl rfl ?_)
  refine op_evening hr (fun v D1 th => ?_)
  show K 426 _ _ _
  refine hK _ _ _ _ (show K _ _ _ _ from ?_)
  refine hK _ _ _ _ (nk_stV rfl rfl rfl rfl ?_)
  refine nk_run_mono th (fun r D2 q => ?_)
  obtain ⟨rfl, hr2⟩ := q
  refine hK _ _ _ _ (nk_bt rfl ?_)
  exact next D2 hr2
set_option maxRecDepth 100000 in
theorem lw_11 (hK : ∀ pc loc stk D, nk_step S (nk_run S 40) nk_TL (some .boolean) P K pc loc stk D → K pc loc stk D) (hr : REL D) (hS : S.1 < 2 ^ 31) (hi : i + 4 ≤ S.1) (next : ∀ D2, REL D2 → K 850 [some (.ref 1002), some (.ref 0), some (.ref 52), some (.int (nI i))] [] D2) : K 435 [some (.ref 1002), some (.ref 0), some (.ref 52), some (.int (nI i))] [] D := by
  have hb : ∀ j, j < S.1 → j < (nk_oa S 1002).1 := fun j h => h
  refine hK _ _ _ _ (show K _ _ _ _ from ?_)
  refine hK _ _ _ _ (nk_stV rfl rfl rfl rfl ?_)
  refine op_undo hr (fun v D1 th => ?_)
  show K 439 _ _ _
  refine hK _ _ _ _ (show K _ _ _ _ from ?_)
  refine hK _ _ _ _ (nk_stV rfl rfl rfl rfl ?_)
  refine nk_run_mono th (fun r D2 q => ?_)
  obtain ⟨rfl, hr2⟩ := q
  refine hK _ _ _ _ (nk_bt rfl ?_)
  exact next D2 hr2
set_option maxRecDepth 100000 in
theorem lw_12 (hK : ∀ pc loc stk D, nk_step S (nk_run S 40) nk_TL (some .boolean) P K pc loc stk D → K pc loc stk D) (hr : REL D) (hS : S.1 < 2 ^ 31) (hi : i + 4 ≤ S.1) (next : ∀ D2, REL D2 → K 850 [some (.ref 1002), some (.ref 0), some (.ref 52), some (.int (nI i))] [] D2) : K 448 [some (.ref 1002), some (.ref 0), some (.ref 52), some (.int (nI i))] [] D := by
  have hb : ∀ j, j < S.1 → j < (nk_oa S 1002).1 := fun j h => h
  refine hK _ _ _ _ (hK _ _ _ _ (hK _ _ _ _ (hK _ _ _ _ (hK _ _ _ _ (show K _ _ _ _ from ?_)))))
  rw [nk_add]
  refine hK _ _ _ _ (nk_AO rfl rfl rfl (hb _ (by omega)) (show K _ _ _ _ from ?_))
  refine hK _ _ _ _ (nk_stV rfl rfl rfl rfl ?_)
  refine op_keep hr (fun v D1 th => ?_)
  show K 457 _ _ _
  refine hK _ _ _ _ (hK _ _ _ _ (hK _ _ _ _ (hK _ _ _ _ (hK _ _ _ _ (show K _ _ _ _ from ?_)))))
  rw [nk_add]
  refine hK _ _ _ _ (nk_AO rfl rfl rfl (hb _ (by omega)) (show K _ _ _ _ from ?_))
  refine hK _ _ _ _ (nk_stV rfl rfl rfl rfl ?_)
  refine nk_run_mono th (fun r D2 q => ?_)
  obtain ⟨rfl, hr2⟩ := q
  refine hK _ _ _ _ (nk_bt rfl ?_)
  exact next D2 hr2
set_option maxRecDepth 100000 in
theorem lw_13 (hK : ∀ pc loc stk D, nk_step S (nk_run S 40) nk_TL (some .boolean) P K pc loc stk D → K pc loc stk D) (hr : REL D) (hS : S.1 < 2 ^ 31) (hi : i + 4 ≤ S.1) (next : ∀ D2, REL D2 → K 850 [some (.ref 1002), some (.ref 0), some (.ref 52), some (.int (nI i))] [] D2) : K 471 [some (.ref 1002), some (.ref 0), some (.ref 52), some (.int (nI i))] [] D := by
  have hb : ∀ j, j < S.1 → j < (nk_oa S 1002).1 := fun j h => h
  refine hK _ _ _ _ (hK _ _ _ _ (hK _ _ _ _ (hK _ _ _ _ (hK _ _ _ _ (show K _ _ _ _ from ?_)))))
  rw [nk_add]
  refine hK _ _ _ _ (nk_AO rfl rfl rfl (hb _ (by omega)) (show K _ _ _ _ from ?_))
  refine hK _ _ _ _ (nk_stV rfl rfl rfl rfl ?_)
  refine op_back hr (fun v D1 th => ?_)
  show K 480 _ _ _
  refine hK _ _ _ _ (hK _ _ _ _ (hK _ _ _ _ (hK _ _ _ _ (hK _ _ _ _ (show K _ _ _ _ from ?_)))))
  rw [nk_add]
  refine hK _ _ _ _ (nk_AO rfl rfl rfl (hb _ (by omega)) (show K _ _ _ _ from ?_))
  refine hK _ _ _ _ (nk_stV rfl rfl rfl rfl ?_)
  refine nk_run_mono th (fun r D2 q => ?_)
  obtain ⟨rfl, hr2⟩ := q
  refine hK _ _ _ _ (nk_bt rfl ?_)
  exact next D2 hr2
set_option maxRecDepth 100000 in
theorem lw_14 (hK : ∀ pc loc stk D, nk_step S (nk_run S 40) nk_TL (some .boolean) P K pc loc stk D → K pc loc stk D) (hr : REL D) (hS : S.1 < 2 ^ 31) (hi : i + 4 ≤ S.1) (next : ∀ D2, REL D2 → K 850 [some (.ref 1002), some (.ref 0), some (.ref 52), some (.int (nI i))] [] D2) : K 494 [some (.ref 1002), some (.ref 0), some (.ref 52), some (.int (nI i))] [] D := by
  have hb : ∀ j, j < S.1 → j < (nk_oa S 1002).1 := fun j h => h
  refine hK _ _ _ _ (hK _ _ _ _ (hK _ _ _ _ (hK _ _ _ _ (hK _ _ _ _ (show K _ _ _ _ from ?_)))))
  rw [nk_add]
  refine hK _ _ _ _ (nk_AO rfl rfl rfl (hb _ (by omega)) (show K _ _ _ _ from ?_))
  refine hK _ _ _ _ (nk_stV rfl rfl rfl rfl ?_)
  refine op_clash hr (fun v D1 th => ?_)
  show K 503 _ _ _
  refine hK _ _ _ _ (hK _ _ _ _ (hK _ _ _ _ (hK _ _ _ _ (hK _ _ _ _ (show K _ _ _ _ from ?_)))))
  rw [nk_add]
  refine hK _ _ _ _ (nk_AO rfl rfl rfl (hb _ (by omega)) (show K _ _ _ _ from ?_))
  refine hK _ _ _ _ (nk_stV rfl rfl rfl rfl ?_)
  refine nk_run_mono th (fun r D2 q => ?_)
  obtain ⟨rfl, hr2⟩ := q
  refine hK _ _ _ _ (nk_bt rfl ?_)
  exact next D2 hr2
set_option maxRecDepth 100000 in
theorem lw_15 (hK : ∀ pc loc stk D, nk_step S (nk_run S 40) nk_TL (some .boolean) P K pc loc stk D → K pc loc stk D) (hr : REL D) (hS : S.1 < 2 ^ 31) (hi : i + 4 ≤ S.1) (next : ∀ D2, REL D2 → K 850 [some (.ref 1002), some (.ref 0), some (.ref 52), some (.int (nI i))] [] D2) : K 517 [some (.ref 1002), some (.ref 0), some (.ref 52), some (.int (nI i))] [] D := by
  have hb : ∀ j, j < S.1 → j < (nk_oa S 1002).1 := fun j h => h
  refine hK _ _ _ _ (hK _ _ _ _ (hK _ _ _ _ (hK _ _ _ _ (hK _ _ _ _ (show K _ _ _ _ from ?_)))))
  rw [nk_add]
  refine hK _ _ _ _ (nk_AO rfl rfl rfl (hb _ (by omega)) (show K _ _ _ _ from ?_))
  refine hK _ _ _ _ (hK _ _ _ _ (hK _ _ _ _ (hK _ _ _ _ (show K _ _ _ _ from ?_))))
  rw [nk_add]
  refine hK _ _ _ _ (nk_AO rfl rfl rfl (hb _ (by omega)) (show K _ _ _ _ from ?_))
  refine hK _ _ _ _ (nk_stV rfl rfl rfl rfl ?_)
  refine op_rooms hr (fun v D1 th => ?_)
  show K 531 _ _ _
  refine hK _ _ _ _ (hK _ _ _ _ (hK _ _ _ _ (hK _ _ _ _ (hK _ _ _ _ (show K _ _ _ _ from ?_)))))
  rw [nk_add]
  refine hK _ _ _ _ (nk_AO rfl rfl rfl (hb _ (by omega)) (show K _ _ _ _ from ?_))
  refine hK _ _ _ _ (hK _ _ _ _ (hK _ _ _ _ (hK _ _ _ _ (show K _ _ _ _ from ?_))))
  rw [nk_add]
  refine hK _ _ _ _ (nk_AO rfl rfl rfl (hb _ (by omega)) (show K _ _ _ _ from ?_))
  refine hK _ _ _ _ (nk_stV rfl rfl rfl rfl ?_)
  refine nk_run_mono th (fun r D2 q => ?_)
  obtain ⟨rfl, hr2⟩ := q
  refine hK _ _ _ _ (nk_bt rfl ?_)
  exact next D2 hr2
set_option maxRecDepth 100000 in
theorem lw_16 (hK : ∀ pc loc stk D, nk_step S (nk_run S 40) nk_TL (some .boolean) P K pc loc stk D → K pc loc stk D) (hr : REL D) (hS : S.1 < 2 ^ 31) (hi : i + 4 ≤ S.1) (next : ∀ D2, REL D2 → K 850 [some (.ref 1002), some (.ref 0), some (.ref 52), some (.int (nI i))] [] D2) : K 550 [some (.ref 1002), some (.ref 0), some (.ref 52), some (.int (nI i))] [] D := by
  have hb : ∀ j, j < S.1 → j < (nk_oa S 1002).1 := fun j h => h
  refine hK _ _ _ _ (hK _ _ _ _ (hK _ _ _ _ (hK _ _ _ _ (hK _ _ _ _ (show K _ _ _ _ from ?_)))))
  rw [nk_add]
  refine hK _ _ _ _ (nk_AO rfl rfl rfl (hb _ (by omega)) (show K _ _ _ _ from ?_))
  refine hK _ _ _ _ (nk_stV rfl rfl rfl rfl ?_)
  refine op_largest hr (fun v D1 th => ?_)
  show K 559 _ _ _
  refine hK _ _ _ _ (hK _ _ _ _ (hK _ _ _ _ (hK _ _ _ _ (hK _ _ _ _ (show K _ _ _ _ from ?_)))))
  rw [nk_add]
  refine hK _ _ _ _ (nk_AO rfl rfl rfl (hb _ (by omega)) (show K _ _ _ _ from ?_))
  refine hK _ _ _ _ (nk_stV rfl rfl rfl rfl ?_)
  refine nk_run_mono th (fun r D2 q => ?_)
  obtain ⟨rfl, hr2⟩ := q
  refine hK _ _ _ _ (nk_bt rfl ?_)
  exact next D2 hr2
set_option maxRecDepth 100000 in
theorem lw_17 (hK : ∀ pc loc stk D, nk_step S (nk_run S 40) nk_TL (some .boolean) P K pc loc stk D → K pc loc stk D) (hr : REL D) (hS : S.1 < 2 ^ 31) (hi : i + 4 ≤ S.1) (next : ∀ D2, REL D2 → K 850 [some (.ref 1002), some (.ref 0), some (.ref 52), some (.int (nI i))] [] D2) : K 573 [some (.ref 1002), some (.ref 0), some (.ref 52), some (.int (nI i))] [] D := by
  have hb : ∀ j, j < S.1 → j < (nk_oa S 1002).1 := fun j h => h
  refine hK _ _ _ _ (hK _ _ _ _ (hK _ _ _ _ (hK _ _ _ _ (hK _ _ _ _ (show K _ _ _ _ from ?_)))))
  rw [nk_add]
  refine hK _ _ _ _ (nk_AO rfl rfl rfl (hb _ (by omega)) (show K _ _ _ _ from ?_))
  refine hK _ _ _ _ (nk_stV rfl rfl rfl rfl ?_)
  refine op_smallest hr (fun v D1 th => ?_)
  show K 582 _ _ _
  refine hK _ _ _ _ (hK _ _ _ _ (hK _ _ _ _ (hK _ _ _ _ (hK _ _ _ _ (show K _ _ _ _ from ?_)))))
  rw [nk_add]
  refine hK _ _ _ _ (nk_AO rfl rfl rfl (hb _ (by omega)) (show K _ _ _ _ from ?_))
  refine hK _ _ _ _ (nk_stV rfl rfl rfl rfl ?_)
  refine nk_run_mono th (fun r D2 q => ?_)
  obtain ⟨rfl, hr2⟩ := q
  refine hK _ _ _ _ (nk_bt rfl ?_)
  exact next D2 hr2
set_option maxRecDepth 100000 in
theorem lw_18 (hK : ∀ pc loc stk D, nk_step S (nk_run S 40) nk_TL (some .boolean) P K pc loc stk D → K pc loc stk D) (hr : REL D) (hS : S.1 < 2 ^ 31) (hi : i + 4 ≤ S.1) (next : ∀ D2, REL D2 → K 850 [some (.ref 1002), some (.ref 0), some (.ref 52), some (.int (nI i))] [] D2) : K 596 [some (.ref 1002), some (.ref 0), some (.ref 52), some (.int (nI i))] [] D := by
  have hb : ∀ j, j < S.1 → j < (nk_oa S 1002).1 := fun j h => h
  refine hK _ _ _ _ (hK _ _ _ _ (hK _ _ _ _ (hK _ _ _ _ (hK _ _ _ _ (show K _ _ _ _ from ?_)))))
  rw [nk_add]
  refine hK _ _ _ _ (nk_AO rfl rfl rfl (hb _ (by omega)) (show K _ _ _ _ from ?_))
  refine hK _ _ _ _ (hK _ _ _ _ (hK _ _ _ _ (hK _ _ _ _ (show K _ _ _ _ from ?_))))
  rw [nk_add]
  refine hK _ _ _ _ (nk_AO rfl rfl rfl (hb _ (by omega)) (show K _ _ _ _ from ?_))
  refine hK _ _ _ _ (nk_stV rfl rfl rfl rfl ?_)
  refine op_may hr (fun v D1 th => ?_)
  show K 610 _ _ _
  refine hK _ _ _ _ (hK _ _ _ _ (hK _ _ _ _ (hK _ _ _ _ (hK _ _ _ _ (show K _ _ _ _ from ?_)))))
  rw [nk_add]
  refine hK _ _ _ _ (nk_AO rfl rfl rfl (hb _ (by omega)) (show K _ _ _ _ from ?_))
  refine hK _ _ _ _ (hK _ _ _ _ (hK _ _ _ _ (hK _ _ _ _ (show K _ _ _ _ from ?_))))
  rw [nk_add]
  refine hK _ _ _ _ (nk_AO rfl rfl rfl (hb _ (by omega)) (show K _ _ _ _ from ?_))
  refine hK _ _ _ _ (nk_stV rfl rfl rfl rfl ?_)
  refine nk_run_mono th (fun r D2 q => ?_)
  obtain ⟨rfl, hr2⟩ := q
  refine hK _ _ _ _ (nk_bt rfl ?_)
  exact next D2 hr2
set_option maxRecDepth 100000 in
theorem lw_19 (hK : ∀ pc loc stk D, nk_step S (nk_run S 40) nk_TL (some .boolean) P K pc loc stk D → K pc loc stk D) (hr : REL D) (hS : S.1 < 2 ^ 31) (hi : i + 4 ≤ S.1) (next : ∀ D2, REL D2 → K 850 [some (.ref 1002), some (.ref 0), some (.ref 52), some (.int (nI i))] [] D2) : K 629 [some (.ref 1002), some (.ref 0), some (.ref 52), some (.int (nI i))] [] D := by
  have hb : ∀ j, j < S.1 → j < (nk_oa S 1002).1 := fun j h => h
  refine hK _ _ _ _ (hK _ _ _ _ (hK _ _ _ _ (hK _ _ _ _ (hK _ _ _ _ (show K _ _ _ _ from ?_)))))
  rw [nk_add]
  refine hK _ _ _ _ (nk_AO rfl rfl rfl (hb _ (by omega)) (show K _ _ _ _ from ?_))
  refine hK _ _ _ _ (hK _ _ _ _ (hK _ _ _ _ (hK _ _ _ _ (show K _ _ _ _ from ?_))))
  rw [nk_add]
  refine hK _ _ _ _ (nk_AO rfl rfl rfl (hb _ (by omega)) (show K _ _ _ _ from ?_))
  refine hK _ _ _ _ (hK _ _ _ _ (hK _ _ _ _ (hK _ _ _ _ (show K _ _ _ _ from ?_))))
  rw [nk_add]
  refine hK _ _ _ _ (nk_AO rfl rfl rfl (hb _ (by omega)) (show K _ _ _ _ from ?_))
  refine hK _ _ _ _ (nk_stV rfl rfl rfl rfl ?_)
  refine op_learn hr (fun v D1 th => ?_)
  show K 648 _ _ _
  refine hK _ _ _ _ (hK _ _ _ _ (hK _ _ _ _ (hK _ _ _ _ (hK _ _ _ _ (show K _ _ _ _ from ?_)))))
  rw [nk_add]
  refine hK _ _ _ _ (nk_AO rfl rfl rfl (hb _ (by omega)) (show K _ _ _ _ from ?_))
  refine hK _ _ _ _ (hK _ _ _ _ (hK _ _ _ _ (hK _ _ _ _ (show K _ _ _ _ from ?_))))
  rw [nk_add]
  refine hK _ _ _ _ (nk_AO rfl rfl rfl (hb _ (by omega)) (show K _ _ _ _ from ?_))
  refine hK _ _ _ _ (hK _ _ _ _ (hK _ _ _ _ (hK _ _ _ _ (show K _ _ _ _ from ?_))))
  rw [nk_add]
  refine hK _ _ _ _ (nk_AO rfl rfl rfl (hb _ (by omega)) (show K _ _ _ _ from ?_))
  refine hK _ _ _ _ (nk_stV rfl rfl rfl rfl ?_)
  refine nk_run_mono th (fun r D2 q => ?_)
  obtain ⟨rfl, hr2⟩ := q
  refine hK _ _ _ _ (nk_bt rfl ?_)
  exact next D2 hr2
set_option maxRecDepth 100000 in
theorem lw_20 (hK : ∀ pc loc stk D, nk_step S (nk_run S 40) nk_TL (some .boolean) P K pc loc stk D → K pc loc stk D) (hr : REL D) (hS : S.1 < 2 ^ 31) (hi : i + 4 ≤ S.1) (next : ∀ D2, REL D2 → K 850 [some (.ref 1002), some (.ref 0), some (.ref 52), some (.int (nI i))] [] D2) : K 672 [some (.ref 1002), some (.ref 0), some (.ref 52), some (.int (nI i))] [] D := by
  have hb : ∀ j, j < S.1 → j < (nk_oa S 1002).1 := fun j h => h
  refine hK _ _ _ _ (hK _ _ _ _ (hK _ _ _ _ (hK _ _ _ _ (hK _ _ _ _ (show K _ _ _ _ from ?_)))))
  rw [nk_add]
  refine hK _ _ _ _ (nk_AO rfl rfl rfl (hb _ (by omega)) (show K _ _ _ _ from ?_))
  refine hK _ _ _ _ (nk_stV rfl rfl rfl rfl ?_)
  refine op_stays hr (fun v D1 th => ?_)
  show K 681 _ _ _
  refine hK _ _ _ _ (hK _ _ _ _ (hK _ _ _ _ (hK _ _ _ _ (hK _ _ _ _ (show K _ _ _ _ from ?_)))))
  rw [nk_add]
  refine hK _ _ _ _ (nk_AO rfl rfl rfl (hb _ (by omega)) (show K _ _ _ _ from ?_))
  refine hK _ _ _ _ (nk_stV rfl rfl rfl rfl ?_)
  refine nk_run_mono th (fun r D2 q => ?_)
  obtain ⟨rfl, hr2⟩ := q
  refine hK _ _ _ _ (nk_bt rfl ?_)
  exact next D2 hr2
set_option maxRecDepth 100000 in
theorem lw_21 (hK : ∀ pc loc stk D, nk_step S (nk_run S 40) nk_TL (some .boolean) P K pc loc stk D → K pc loc stk D) (hr : REL D) (hS : S.1 < 2 ^ 31) (hi : i + 4 ≤ S.1) (next : ∀ D2, REL D2 → K 850 [some (.ref 1002), some (.ref 0), some (.ref 52), some (.int (nI i))] [] D2) : K 695 [some (.ref 1002), some (.ref 0), some (.ref 52), some (.int (nI i))] [] D := by
  have hb : ∀ j, j < S.1 → j < (nk_oa S 1002).1 := fun j h => h
  refine hK _ _ _ _ (hK _ _ _ _ (hK _ _ _ _ (hK _ _ _ _ (hK _ _ _ _ (show K _ _ _ _ from ?_)))))
  rw [nk_add]
  refine hK _ _ _ _ (nk_AO rfl rfl rfl (hb _ (by omega)) (show K _ _ _ _ from ?_))
  refine hK _ _ _ _ (hK _ _ _ _ (hK _ _ _ _ (hK _ _ _ _ (show K _ _ _ _ from ?_))))
  rw [nk_add]
  refine hK _ _ _ _ (nk_AO rfl rfl rfl (hb _ (by omega)) (show K _ _ _ _ from ?_))
  refine hK _ _ _ _ (hK _ _ _ _ (hK _ _ _ _ (hK _ _ _ _ (show K _ _ _ _ from ?_))))
  rw [nk_add]
  refine hK _ _ _ _ (nk_AO rfl rfl rfl (hb _ (by omega)) (show K _ _ _ _ from ?_))
  refine hK _ _ _ _ (nk_stV rfl rfl rfl rfl ?_)
  refine op_seen hr (fun v D1 th => ?_)
  show K 714 _ _ _
  refine hK _ _ _ _ (hK _ _ _ _ (hK _ _ _ _ (hK _ _ _ _ (hK _ _ _ _ (show K _ _ _ _ from ?_)))))
  rw [nk_add]
  refine hK _ _ _ _ (nk_AO rfl rfl rfl (hb _ (by omega)) (show K _ _ _ _ from ?_))
  refine hK _ _ _ _ (hK _ _ _ _ (hK _ _ _ _ (hK _ _ _ _ (show K _ _ _ _ from ?_))))
  rw [nk_add]
  refine hK _ _ _ _ (nk_AO rfl rfl rfl (hb _ (by omega)) (show K _ _ _ _ from ?_))
  refine hK _ _ _ _ (hK _ _ _ _ (hK _ _ _ _ (hK _ _ _ _ (show K _ _ _ _ from ?_))))
  rw [nk_add]
  refine hK _ _ _ _ (nk_AO rfl rfl rfl (hb _ (by omega)) (show K _ _ _ _ from ?_))
  refine hK _ _ _ _ (nk_stV rfl rfl rfl rfl ?_)
  refine nk_run_mono th (fun r D2 q => ?_)
  obtain ⟨rfl, hr2⟩ := q
  refine hK _ _ _ _ (nk_bt rfl ?_)
  exact next D2 hr2
set_option maxRecDepth 100000 in
theorem lw_22 (hK : ∀ pc loc stk D, nk_step S (nk_run S 40) nk_TL (some .boolean) P K pc loc stk D → K pc loc stk D) (hr : REL D) (hS : S.1 < 2 ^ 31) (hi : i + 4 ≤ S.1) (next : ∀ D2, REL D2 → K 850 [some (.ref 1002), some (.ref 0), some (.ref 52), some (.int (nI i))] [] D2) : K 738 [some (.ref 1002), some (.ref 0), some (.ref 52), some (.int (nI i))] [] D := by
  have hb : ∀ j, j < S.1 → j < (nk_oa S 1002).1 := fun j h => h
  refine hK _ _ _ _ (show K _ _ _ _ from ?_)
  refine hK _ _ _ _ (nk_stV rfl rfl rfl rfl ?_)
  refine op_forget hr (fun v D1 th => ?_)
  show K 742 _ _ _
  refine hK _ _ _ _ (show K _ _ _ _ from ?_)
  refine hK _ _ _ _ (nk_stV rfl rfl rfl rfl ?_)
  refine nk_run_mono th (fun r D2 q => ?_)
  obtain ⟨rfl, hr2⟩ := q
  refine hK _ _ _ _ (nk_bt rfl ?_)
  exact next D2 hr2
set_option maxRecDepth 100000 in
theorem lw_23 (hK : ∀ pc loc stk D, nk_step S (nk_run S 40) nk_TL (some .boolean) P K pc loc stk D → K pc loc stk D) (hr : REL D) (hS : S.1 < 2 ^ 31) (hi : i + 4 ≤ S.1) (next : ∀ D2, REL D2 → K 850 [some (.ref 1002), some (.ref 0), some (.ref 52), some (.int (nI i))] [] D2) : K 751 [some (.ref 1002), some (.ref 0), some (.ref 52), some (.int (nI i))] [] D := by
  have hb : ∀ j, j < S.1 → j < (nk_oa S 1002).1 := fun j h => h
  refine hK _ _ _ _ (hK _ _ _ _ (hK _ _ _ _ (hK _ _ _ _ (hK _ _ _ _ (show K _ _ _ _ from ?_)))))
  rw [nk_add]
  refine hK _ _ _ _ (nk_AO rfl rfl rfl (hb _ (by omega)) (show K _ _ _ _ from ?_))
  refine hK _ _ _ _ (hK _ _ _ _ (hK _ _ _ _ (hK _ _ _ _ (show K _ _ _ _ from ?_))))
  rw [nk_add]
  refine hK _ _ _ _ (nk_AO rfl rfl rfl (hb _ (by omega)) (show K _ _ _ _ from ?_))
  refine hK _ _ _ _ (nk_stV rfl rfl rfl rfl ?_)
  refine op_was hr (fun v D1 th => ?_)
  show K 765 _ _ _
  refine hK _ _ _ _ (hK _ _ _ _ (hK _ _ _ _ (hK _ _ _ _ (hK _ _ _ _ (show K _ _ _ _ from ?_)))))
  rw [nk_add]
  refine hK _ _ _ _ (nk_AO rfl rfl rfl (hb _ (by omega)) (show K _ _ _ _ from ?_))
  refine hK _ _ _ _ (hK _ _ _ _ (hK _ _ _ _ (hK _ _ _ _ (show K _ _ _ _ from ?_))))
  rw [nk_add]
  refine hK _ _ _ _ (nk_AO rfl rfl rfl (hb _ (by omega)) (show K _ _ _ _ from ?_))
  refine hK _ _ _ _ (nk_stV rfl rfl rfl rfl ?_)
  refine nk_run_mono th (fun r D2 q => ?_)
  obtain ⟨rfl, hr2⟩ := q
  refine hK _ _ _ _ (nk_bt rfl ?_)
  exact next D2 hr2
set_option maxRecDepth 100000 in
theorem lw_24 (hK : ∀ pc loc stk D, nk_step S (nk_run S 40) nk_TL (some .boolean) P K pc loc stk D → K pc loc stk D) (hr : REL D) (hS : S.1 < 2 ^ 31) (hi : i + 4 ≤ S.1) (next : ∀ D2, REL D2 → K 850 [some (.ref 1002), some (.ref 0), some (.ref 52), some (.int (nI i))] [] D2) : K 784 [some (.ref 1002), some (.ref 0), some (.ref 52), some (.int (nI i))] [] D := by
  have hb : ∀ j, j < S.1 → j < (nk_oa S 1002).1 := fun j h => h
  refine hK _ _ _ _ (hK _ _ _ _ (hK _ _ _ _ (hK _ _ _ _ (hK _ _ _ _ (show K _ _ _ _ from ?_)))))
  rw [nk_add]
  refine hK _ _ _ _ (nk_AO rfl rfl rfl (hb _ (by omega)) (show K _ _ _ _ from ?_))
  refine hK _ _ _ _ (hK _ _ _ _ (hK _ _ _ _ (hK _ _ _ _ (show K _ _ _ _ from ?_))))
  rw [nk_add]
  refine hK _ _ _ _ (nk_AO rfl rfl rfl (hb _ (by omega)) (show K _ _ _ _ from ?_))
  refine hK _ _ _ _ (hK _ _ _ _ (hK _ _ _ _ (hK _ _ _ _ (show K _ _ _ _ from ?_))))
  rw [nk_add]
  refine hK _ _ _ _ (nk_AO rfl rfl rfl (hb _ (by omega)) (show K _ _ _ _ from ?_))
  refine hK _ _ _ _ (nk_stV rfl rfl rfl rfl ?_)
  refine op_chance hr (fun v D1 th => ?_)
  show K 803 _ _ _
  refine hK _ _ _ _ (hK _ _ _ _ (hK _ _ _ _ (hK _ _ _ _ (hK _ _ _ _ (show K _ _ _ _ from ?_)))))
  rw [nk_add]
  refine hK _ _ _ _ (nk_AO rfl rfl rfl (hb _ (by omega)) (show K _ _ _ _ from ?_))
  refine hK _ _ _ _ (hK _ _ _ _ (hK _ _ _ _ (hK _ _ _ _ (show K _ _ _ _ from ?_))))
  rw [nk_add]
  refine hK _ _ _ _ (nk_AO rfl rfl rfl (hb _ (by omega)) (show K _ _ _ _ from ?_))
  refine hK _ _ _ _ (hK _ _ _ _ (hK _ _ _ _ (hK _ _ _ _ (show K _ _ _ _ from ?_))))
  rw [nk_add]
  refine hK _ _ _ _ (nk_AO rfl rfl rfl (hb _ (by omega)) (show K _ _ _ _ from ?_))
  refine hK _ _ _ _ (nk_stV rfl rfl rfl rfl ?_)
  refine nk_run_mono th (fun r D2 q => ?_)
  obtain ⟨rfl, hr2⟩ := q
  refine hK _ _ _ _ (nk_bt rfl ?_)
  exact next D2 hr2
set_option maxRecDepth 100000 in
theorem lw_25 (hK : ∀ pc loc stk D, nk_step S (nk_run S 40) nk_TL (some .boolean) P K pc loc stk D → K pc loc stk D) (hr : REL D) (hS : S.1 < 2 ^ 31) (hi : i + 4 ≤ S.1) (next : ∀ D2, REL D2 → K 850 [some (.ref 1002), some (.ref 0), some (.ref 52), some (.int (nI i))] [] D2) : K 827 [some (.ref 1002), some (.ref 0), some (.ref 52), some (.int (nI i))] [] D := by
  have hb : ∀ j, j < S.1 → j < (nk_oa S 1002).1 := fun j h => h
  refine hK _ _ _ _ (hK _ _ _ _ (hK _ _ _ _ (hK _ _ _ _ (hK _ _ _ _ (show K _ _ _ _ from ?_)))))
  rw [nk_add]
  refine hK _ _ _ _ (nk_AO rfl rfl rfl (hb _ (by omega)) (show K _ _ _ _ from ?_))
  refine hK _ _ _ _ (nk_stV rfl rfl rfl rfl ?_)
  refine op_count hr (fun v D1 th => ?_)
  show K 836 _ _ _
  refine hK _ _ _ _ (hK _ _ _ _ (hK _ _ _ _ (hK _ _ _ _ (hK _ _ _ _ (show K _ _ _ _ from ?_)))))
  rw [nk_add]
  refine hK _ _ _ _ (nk_AO rfl rfl rfl (hb _ (by omega)) (show K _ _ _ _ from ?_))
  refine hK _ _ _ _ (nk_stV rfl rfl rfl rfl ?_)
  refine nk_run_mono th (fun r D2 q => ?_)
  obtain ⟨rfl, hr2⟩ := q
  refine hK _ _ _ _ (nk_bt rfl ?_)
  exact next D2 hr2
set_option maxRecDepth 100000 in
theorem lw_loop {x3 : Option Value} (hK : ∀ pc loc stk D, nk_step S (nk_run S 40) nk_TL (some .boolean) P K pc loc stk D → K pc loc stk D) (hr : REL D) (hS : S.1 < 2 ^ 31) (hP : ∀ D, P (some (.int (nI 1))) D) : K 16 [some (.ref 1002), some (.ref 0), some (.ref 52), x3] [] D := by
  have hb : ∀ j, j < S.1 → j < (nk_oa S 1002).1 := fun j h => h
  have hsub : ∀ i : Nat, i ≤ S.1 → (nI S.1 - nI 4 < nI i ↔ S.1 < i + 4) := by
    intro i hi
    have e : (nI S.1 - nI 4).toInt = (S.1 : Int) - 4 := by
      rw [Int32.toInt_sub, nI_toInt hS, show (nI 4).toInt = 4 by decide]
      have h1 : (-2147483648 : Int) ≤ (S.1 : Int) - 4 := by omega
      have h2 : (S.1 : Int) - 4 < 2147483648 := by omega
      exact Int.bmod_eq_of_le (by omega) (by omega)
    rw [Int32.lt_iff_toInt_lt, e, nI_toInt (by omega)]
    omega
  refine hK _ _ _ _ (hK _ _ _ _ (show K _ _ _ _ from ?_))
  have loop : ∀ m i D, i + m = S.1 → REL D → K 18 [some (.ref 1002), some (.ref 0), some (.ref 52), some (.int (nI i))] [] D := by
    intro m
    induction m using Nat.strongRecOn with
    | ind m ih =>
      intro i D hm hr
      refine hK _ _ _ _ (hK _ _ _ _ (show K _ _ _ _ from ?_))
      refine hK _ _ _ _ (nk_LO rfl rfl rfl (show K _ _ _ _ from ?_))
      refine hK _ _ _ _ (hK _ _ _ _ (show K _ _ _ _ from ?_))
      refine hK _ _ _ _ (And.intro (fun c => (show K _ _ _ _ from ?_)) (fun c => (show K _ _ _ _ from ?_)))
      · refine hK _ _ _ _ (show K _ _ _ _ from ?_)
        exact hK _ _ _ _ (And.intro rfl (hP D))
      · have hi : i + 4 ≤ S.1 := Nat.le_of_not_lt (fun w => c ((hsub i (by omega)).mpr w))
        have next : ∀ D2, REL D2 → K 850 [some (.ref 1002), some (.ref 0), some (.ref 52), some (.int (nI i))] [] D2 := by
          intro D2 hr2
          refine hK _ _ _ _ (hK _ _ _ _ (show K _ _ _ _ from ?_))
          rw [nk_add]
          exact ih (m - 4) (by omega) (i + 4) D2 (by omega) hr2
        refine hK _ _ _ _ (hK _ _ _ _ (show K _ _ _ _ from ?_))
        refine hK _ _ _ _ (nk_AO rfl rfl rfl (hb _ (by omega)) (show K _ _ _ _ from ?_))
        obtain ⟨k, hk, ek⟩ := lw_and ((nk_oa S 1002).2 i)
        refine hK _ _ _ _ (hK _ _ _ _ (show K _ _ _ _ from ?_))
        rw [ek]
        match k, hk with
        | 0, _ =>
          refine hK _ _ _ _ (nk_SW (q := 152) rfl (by decide) (by decide) rfl rfl (show K _ _ _ _ from ?_))
          exact lw_0 hK hr hS hi next
        | 1, _ =>
          refine hK _ _ _ _ (nk_SW (q := 175) rfl (by decide) (by decide) rfl rfl (show K _ _ _ _ from ?_))
          exact lw_1 hK hr hS hi next
        | 2, _ =>
          refine hK _ _ _ _ (nk_SW (q := 188) rfl (by decide) (by decide) rfl rfl (show K _ _ _ _ from ?_))
          exact lw_2 hK hr hS hi next
        | 3, _ =>
          refine hK _ _ _ _ (nk_SW (q := 201) rfl (by decide) (by decide) rfl rfl (show K _ _ _ _ from ?_))
          exact lw_3 hK hr hS hi next
        | 4, _ =>
          refine hK _ _ _ _ (nk_SW (q := 214) rfl (by decide) (by decide) rfl rfl (show K _ _ _ _ from ?_))
          exact lw_4 hK hr hS hi next
        | 5, _ =>
          refine hK _ _ _ _ (nk_SW (q := 247) rfl (by decide) (by decide) rfl rfl (show K _ _ _ _ from ?_))
          exact lw_5 hK hr hS hi next
        | 6, _ =>
          refine hK _ _ _ _ (nk_SW (q := 280) rfl (by decide) (by decide) rfl rfl (show K _ _ _ _ from ?_))
          exact lw_6 hK hr hS hi next
        | 7, _ =>
          refine hK _ _ _ _ (nk_SW (q := 313) rfl (by decide) (by decide) rfl rfl (show K _ _ _ _ from ?_))
          exact lw_7 hK hr hS hi next
        | 8, _ =>
          refine hK _ _ _ _ (nk_SW (q := 346) rfl (by decide) (by decide) rfl rfl (show K _ _ _ _ from ?_))
          exact lw_8 hK hr hS hi next
        | 9, _ =>
          refine hK _ _ _ _ (nk_SW (q := 389) rfl (by decide) (by decide) rfl rfl (show K _ _ _ _ from ?_))
          exact lw_9 hK hr hS hi next
        | 10, _ =>
          refine hK _ _ _ _ (nk_SW (q := 422) rfl (by decide) (by decide) rfl rfl (show K _ _ _ _ from ?_))
          exact lw_10 hK hr hS hi next
        | 11, _ =>
          refine hK _ _ _ _ (nk_SW (q := 435) rfl (by decide) (by decide) rfl rfl (show K _ _ _ _ from ?_))
          exact lw_11 hK hr hS hi next
        | 12, _ =>
          refine hK _ _ _ _ (nk_SW (q := 448) rfl (by decide) (by decide) rfl rfl (show K _ _ _ _ from ?_))
          exact lw_12 hK hr hS hi next
        | 13, _ =>
          refine hK _ _ _ _ (nk_SW (q := 471) rfl (by decide) (by decide) rfl rfl (show K _ _ _ _ from ?_))
          exact lw_13 hK hr hS hi next
        | 14, _ =>
          refine hK _ _ _ _ (nk_SW (q := 494) rfl (by decide) (by decide) rfl rfl (show K _ _ _ _ from ?_))
          exact lw_14 hK hr hS hi next
        | 15, _ =>
          refine hK _ _ _ _ (nk_SW (q := 517) rfl (by decide) (by decide) rfl rfl (show K _ _ _ _ from ?_))
          exact lw_15 hK hr hS hi next
        | 16, _ =>
          refine hK _ _ _ _ (nk_SW (q := 550) rfl (by decide) (by decide) rfl rfl (show K _ _ _ _ from ?_))
          exact lw_16 hK hr hS hi next
        | 17, _ =>
          refine hK _ _ _ _ (nk_SW (q := 573) rfl (by decide) (by decide) rfl rfl (show K _ _ _ _ from ?_))
          exact lw_17 hK hr hS hi next
        | 18, _ =>
          refine hK _ _ _ _ (nk_SW (q := 596) rfl (by decide) (by decide) rfl rfl (show K _ _ _ _ from ?_))
          exact lw_18 hK hr hS hi next
        | 19, _ =>
          refine hK _ _ _ _ (nk_SW (q := 629) rfl (by decide) (by decide) rfl rfl (show K _ _ _ _ from ?_))
          exact lw_19 hK hr hS hi next
        | 20, _ =>
          refine hK _ _ _ _ (nk_SW (q := 672) rfl (by decide) (by decide) rfl rfl (show K _ _ _ _ from ?_))
          exact lw_20 hK hr hS hi next
        | 21, _ =>
          refine hK _ _ _ _ (nk_SW (q := 695) rfl (by decide) (by decide) rfl rfl (show K _ _ _ _ from ?_))
          exact lw_21 hK hr hS hi next
        | 22, _ =>
          refine hK _ _ _ _ (nk_SW (q := 738) rfl (by decide) (by decide) rfl rfl (show K _ _ _ _ from ?_))
          exact lw_22 hK hr hS hi next
        | 23, _ =>
          refine hK _ _ _ _ (nk_SW (q := 751) rfl (by decide) (by decide) rfl rfl (show K _ _ _ _ from ?_))
          exact lw_23 hK hr hS hi next
        | 24, _ =>
          refine hK _ _ _ _ (nk_SW (q := 784) rfl (by decide) (by decide) rfl rfl (show K _ _ _ _ from ?_))
          exact lw_24 hK hr hS hi next
        | 25, _ =>
          refine hK _ _ _ _ (nk_SW (q := 827) rfl (by decide) (by decide) rfl rfl (show K _ _ _ _ from ?_))
          exact lw_25 hK hr hS hi next
        | 26, _ =>
          refine hK _ _ _ _ (nk_SD (q := 850) rfl (by decide) rfl (show K _ _ _ _ from ?_))
          exact next D hr
        | 27, _ =>
          refine hK _ _ _ _ (nk_SD (q := 850) rfl (by decide) rfl (show K _ _ _ _ from ?_))
          exact next D hr
        | 28, _ =>
          refine hK _ _ _ _ (nk_SD (q := 850) rfl (by decide) rfl (show K _ _ _ _ from ?_))
          exact next D hr
        | 29, _ =>
          refine hK _ _ _ _ (nk_SD (q := 850) rfl (by decide) rfl (show K _ _ _ _ from ?_))
          exact next D hr
        | 30, _ =>
          refine hK _ _ _ _ (nk_SD (q := 850) rfl (by decide) rfl (show K _ _ _ _ from ?_))
          exact next D hr
        | 31, _ =>
          refine hK _ _ _ _ (nk_SD (q := 850) rfl (by decide) rfl (show K _ _ _ _ from ?_))
          exact next D hr
        | k + 32, hk => exact absurd hk (by omega)
  exact loop S.1 0 D (by omega) hr
end LAW
