/-! ===== the constructors ===== -/
abbrev nk_z : Nat → Int32 := fun _ => 0
def nk_wX2 (cA : Nat → ClassId) (h0 : Nat) (u : Nat → Nat) : va_W := [(h0, .inr (2, [.ref (u 0), .ref (u 1), .int 0, .int 0, .int 0])), (u 0, .inl (cA 0, 6, .inl nk_z)), (u 1, .inl (cA 0, 36, .inl nk_z))]
set_option maxHeartbeats 4000000 in
set_option maxRecDepth 100000 in
theorem nk_iX2 (l : Launch) (DD : va_G) (cA : Nat → ClassId) (h0 sz : Nat) : Met l yX2_init (Cond.code yX2_init cX2_init 1 none :: nk_tb) ({ frames := 2, cells := 2, slots := 42, locals := 64 }) (va_Pc [.ref h0] (fun U => U.heap.size = sz ∧ va_P DD vwCl [(h0, .inr (2, [.null, .null, .int 0, .int 0, .int 0]))] U.heap ∧ va_K DD vwCl (nk_ty cA) U ∧ va_D (fun _ => True) [(h0, .inr (2, [.null, .null, .int 0, .int 0, .int 0]))])) (va_Qv (fun _ : Nat → Nat => True) (fun u t => va_P DD vwCl (nk_wX2 cA h0 u) t.heap ∧ va_D (va_A [(h0, .inr (2, [.null, .null, .int 0, .int 0, .int 0]))] sz) (nk_wX2 cA h0 u)) (va_A [(h0, .inr (2, [.null, .null, .int 0, .int 0, .int 0]))] sz)) 2 42 (va_A [(h0, .inr (2, [.null, .null, .int 0, .int 0, .int 0]))] sz) := by
  refine Met.ofW (cc := cX2_init) (maxL := 1) (ret := none) (by decide) rfl ?_
  intro p e s m args below meth c s₁ B hml hv
  obtain ⟨rfl, hsz, hP, hK, hD0⟩ := hv
  have hx := B.exec
  have hb := B.bytes
  have hr := B.returns
  have hts : ∀ w ∈ nk_tb, w.before #[Value.ref h0] s = true := fun w hw => atoms_spec (ws := Cond.code yX2_init cX2_init 1 none :: nk_tb) B.pre w (List.mem_cons_of_mem _ hw)
  have hown : s.vm.findClass RX2 = some m.cls := findClass_of_methodNamed B.named
  have hlocks := B.notSynchronized
  have hin : meth.name = "<init>" := (name_of_methodNamed B.named B.method).1
  subst hsz
  have hD := hD0.self (sz := s.heap.size)
  generalize hAe : va_A [(h0, .inr (2, [.null, .null, .int 0, .int 0, .int 0]))] s.heap.size = A at hD ⊢
  have hA : ∀ q : Nat, s.heap.size ≤ q → A q := fun q h => by rw [← hAe]; exact Or.inr h
  have hS : va_S A s.heap s.heap [] := va_S.rf
  have hP : va_P DD vwCl [(h0, .inr (2, [.null, .null, .int 0, .int 0, .int 0]))] s.heap := hP
  have hl := lv_entry ([.ref h0]) (n := 1) (Nat.le_of_ble_eq_true rfl)
  rw [lg_entry_eq]
  generalize (lg_sl ([.ref h0]) ++ List.replicate (1 - (lg_sl ([.ref h0])).length) Slot.unset).toArray = ls at hl ⊢
  have hl : lv_has ls 1 [(0, .ref h0)] := hl
  refine lv_aload_n hx hb (show decode cX2_init 0 = .ok (.aload_n 0, 1) by decide +kernel) rfl (lv_at hl 0 rfl) ?_
  refine W.objInit hx hb hown (hts (.methodLink RX2 3 objectInit) (nk_in 114 (by decide +kernel) (by decide +kernel))) (hts (.instanceMethod objectInit) (nk_in 82 (by decide +kernel) (by decide +kernel))) (hts _ (nk_in 83 (by decide +kernel) (by decide +kernel))) rfl (by rw [hml]; exact hl.1) rfl (show decode cX2_init 1 = .ok (.invokespecial 3, 3) by decide +kernel) (Nat.le_of_ble_eq_true rfl) (Nat.le_of_ble_eq_true rfl) ?_
  refine W.eq (g2 := F0 m 4 ls []) rfl ?_
  refine lv_aload_n hx hb (show decode cX2_init 4 = .ok (.aload_n 0, 1) by decide +kernel) rfl (lv_at hl 0 rfl) ?_
  refine lv_bipush (v := 6) hx hb (show decode cX2_init 5 = .ok (.bipush 6, 2) by decide +kernel) (by decide) ?_
  refine va_newa hx hb (hts _ (nk_in 108 (by decide +kernel) (by decide +kernel))) (ty := .int) rfl hK hP hD hS hA (a0 := (6, .inl nk_z)) (N' := 6) (fun _ => rfl) (by decide) (by decide) (by decide) (show 0 + 1 ≤ 2 by decide) (show 0 + 6 ≤ 42 by decide) (show decode cX2_init 7 = .ok (.newarray .int, 2) by decide +kernel) (fun q7 c7 H hK7 hP hD hS => ?_)
  obtain rfl : c7 = cA 0 := Option.some.inj ((hK7.2 3 _ rfl).2.symm.trans (hK.2 0 _ rfl).2)
  have hP : va_P DD vwCl [(h0, .inr (2, [.null, .null, .int 0, .int 0, .int 0])), (q7, .inl (cA 0, 6, .inl nk_z))] H := hP
  have hD : va_D A [(h0, .inr (2, [.null, .null, .int 0, .int 0, .int 0])), (q7, .inl (cA 0, 6, .inl nk_z))] := hD
  refine W.widen (k := 1) (n := 6) (by omega) (by omega) ?_
  refine va_putF (D := DD) (ci := 2) (v := .ref q7) (ty := .array .int) (C := RX2) (T := TX2) (N := 5) hx hb hts nk_wUX2 tyX2 tyX2_ok nmX2 hown hK hP hD hS 0 rfl rfl 0 (by decide) (hts _ (nk_in 115 (by decide +kernel) (by decide +kernel))) (fun _ h9 => h9) rfl hin rfl (by decide +kernel) rfl rfl (Nat.le_of_ble_eq_true rfl) (show decode cX2_init 9 = .ok (.putfield 9, 3) by decide +kernel) (fun H locs hP hD hS => ?_)
  have hP : va_P DD vwCl [(h0, .inr (2, [.ref q7, .null, .int 0, .int 0, .int 0])), (q7, .inl (cA 0, 6, .inl nk_z))] H := hP
  have hD : va_D A [(h0, .inr (2, [.ref q7, .null, .int 0, .int 0, .int 0])), (q7, .inl (cA 0, 6, .inl nk_z))] := hD
  refine lv_aload_n hx hb (show decode cX2_init 12 = .ok (.aload_n 0, 1) by decide +kernel) rfl (lv_at hl 0 rfl) ?_
  refine lv_bipush (v := 36) hx hb (show decode cX2_init 13 = .ok (.bipush 36, 2) by decide +kernel) (by decide) ?_
  refine va_newa hx hb (hts _ (nk_in 108 (by decide +kernel) (by decide +kernel))) (ty := .int) rfl hK hP hD hS hA (a0 := (36, .inl nk_z)) (N' := 36) (fun _ => rfl) (by decide) (by decide) (by decide) (show 1 + 1 ≤ 2 by decide) (show 6 + 36 ≤ 42 by decide) (show decode cX2_init 15 = .ok (.newarray .int, 2) by decide +kernel) (fun q15 c15 H hK15 hP hD hS => ?_)
  obtain rfl : c15 = cA 0 := Option.some.inj ((hK15.2 3 _ rfl).2.symm.trans (hK.2 0 _ rfl).2)
  have hP : va_P DD vwCl [(h0, .inr (2, [.ref q7, .null, .int 0, .int 0, .int 0])), (q7, .inl (cA 0, 6, .inl nk_z)), (q15, .inl (cA 0, 36, .inl nk_z))] H := hP
  have hD : va_D A [(h0, .inr (2, [.ref q7, .null, .int 0, .int 0, .int 0])), (q7, .inl (cA 0, 6, .inl nk_z)), (q15, .inl (cA 0, 36, .inl nk_z))] := hD
  refine W.widen (k := 2) (n := 42) (by omega) (by omega) ?_
  refine va_putF (D := DD) (ci := 2) (v := .ref q15) (ty := .array .int) (C := RX2) (T := TX2) (N := 5) hx hb hts nk_wUX2 tyX2 tyX2_ok nmX2 hown hK hP hD hS 0 rfl rfl 1 (by decide) (hts _ (nk_in 116 (by decide +kernel) (by decide +kernel))) (fun _ h9 => h9) rfl hin rfl (by decide +kernel) rfl rfl (Nat.le_of_ble_eq_true rfl) (show decode cX2_init 17 = .ok (.putfield 15, 3) by decide +kernel) (fun H locs hP hD hS => ?_)
  have hP : va_P DD vwCl [(h0, .inr (2, [.ref q7, .ref q15, .int 0, .int 0, .int 0])), (q7, .inl (cA 0, 6, .inl nk_z)), (q15, .inl (cA 0, 36, .inl nk_z))] H := hP
  have hD : va_D A [(h0, .inr (2, [.ref q7, .ref q15, .int 0, .int 0, .int 0])), (q7, .inl (cA 0, 6, .inl nk_z)), (q15, .inl (cA 0, 36, .inl nk_z))] := hD
  refine W.widen (k := 2) (n := 42) (by omega) (by omega) ?_
  exact W.vret hx hb hr (fun t ht hW => ⟨⟨(fun k => ([q7, q15] : List Nat).getD k 0), rfl, trivial, by rw [ht]; exact hP, hD⟩, hS.F ht⟩) hS.2.2 (show decode cX2_init 20 = .ok (.return_, 1) by decide +kernel) hlocks
def nk_wX4 (cA : Nat → ClassId) (h0 : Nat) (u : Nat → Nat) : va_W := [(h0, .inr (4, [.ref (u 0), .int 0, .int 0, .int 0, .int 0])), (u 0, .inl (cA 0, 160, .inl nk_z))]
set_option maxHeartbeats 4000000 in
set_option maxRecDepth 100000 in
theorem nk_iX4 (l : Launch) (DD : va_G) (cA : Nat → ClassId) (h0 sz : Nat) : Met l yX4_init (Cond.code yX4_init cX4_init 1 none :: nk_tb) ({ frames := 2, cells := 1, slots := 160, locals := 64 }) (va_Pc [.ref h0] (fun U => U.heap.size = sz ∧ va_P DD vwCl [(h0, .inr (4, [.null, .int 0, .int 0, .int 0, .int 0]))] U.heap ∧ va_K DD vwCl (nk_ty cA) U ∧ va_D (fun _ => True) [(h0, .inr (4, [.null, .int 0, .int 0, .int 0, .int 0]))])) (va_Qv (fun _ : Nat → Nat => True) (fun u t => va_P DD vwCl (nk_wX4 cA h0 u) t.heap ∧ va_D (va_A [(h0, .inr (4, [.null, .int 0, .int 0, .int 0, .int 0]))] sz) (nk_wX4 cA h0 u)) (va_A [(h0, .inr (4, [.null, .int 0, .int 0, .int 0, .int 0]))] sz)) 1 160 (va_A [(h0, .inr (4, [.null, .int 0, .int 0, .int 0, .int 0]))] sz) := by
  refine Met.ofW (cc := cX4_init) (maxL := 1) (ret := none) (by decide) rfl ?_
  intro p e s m args below meth c s₁ B hml hv
  obtain ⟨rfl, hsz, hP, hK, hD0⟩ := hv
  have hx := B.exec
  have hb := B.bytes
  have hr := B.returns
  have hts : ∀ w ∈ nk_tb, w.before #[Value.ref h0] s = true := fun w hw => atoms_spec (ws := Cond.code yX4_init cX4_init 1 none :: nk_tb) B.pre w (List.mem_cons_of_mem _ hw)
  have hown : s.vm.findClass RX4 = some m.cls := findClass_of_methodNamed B.named
  have hlocks := B.notSynchronized
  have hin : meth.name = "<init>" := (name_of_methodNamed B.named B.method).1
  subst hsz
  have hD := hD0.self (sz := s.heap.size)
  generalize hAe : va_A [(h0, .inr (4, [.null, .int 0, .int 0, .int 0, .int 0]))] s.heap.size = A at hD ⊢
  have hA : ∀ q : Nat, s.heap.size ≤ q → A q := fun q h => by rw [← hAe]; exact Or.inr h
  have hS : va_S A s.heap s.heap [] := va_S.rf
  have hP : va_P DD vwCl [(h0, .inr (4, [.null, .int 0, .int 0, .int 0, .int 0]))] s.heap := hP
  have hl := lv_entry ([.ref h0]) (n := 1) (Nat.le_of_ble_eq_true rfl)
  rw [lg_entry_eq]
  generalize (lg_sl ([.ref h0]) ++ List.replicate (1 - (lg_sl ([.ref h0])).length) Slot.unset).toArray = ls at hl ⊢
  have hl : lv_has ls 1 [(0, .ref h0)] := hl
  refine lv_aload_n hx hb (show decode cX4_init 0 = .ok (.aload_n 0, 1) by decide +kernel) rfl (lv_at hl 0 rfl) ?_
  refine W.objInit hx hb hown (hts (.methodLink RX4 3 objectInit) (nk_in 89 (by decide +kernel) (by decide +kernel))) (hts (.instanceMethod objectInit) (nk_in 82 (by decide +kernel) (by decide +kernel))) (hts _ (nk_in 83 (by decide +kernel) (by decide +kernel))) rfl (by rw [hml]; exact hl.1) rfl (show decode cX4_init 1 = .ok (.invokespecial 3, 3) by decide +kernel) (Nat.le_of_ble_eq_true rfl) (Nat.le_of_ble_eq_true rfl) ?_
  refine W.eq (g2 := F0 m 4 ls []) rfl ?_
  refine lv_aload_n hx hb (show decode cX4_init 4 = .ok (.aload_n 0, 1) by decide +kernel) rfl (lv_at hl 0 rfl) ?_
  refine lv_sipush (v := 160) hx hb (show decode cX4_init 5 = .ok (.sipush 160, 3) by decide +kernel) (by decide) ?_
  refine va_newa hx hb (hts _ (nk_in 108 (by decide +kernel) (by decide +kernel))) (ty := .int) rfl hK hP hD hS hA (a0 := (160, .inl nk_z)) (N' := 160) (fun _ => rfl) (by decide) (by decide) (by decide) (show 0 + 1 ≤ 1 by decide) (show 0 + 160 ≤ 160 by decide) (show decode cX4_init 8 = .ok (.newarray .int, 2) by decide +kernel) (fun q8 c8 H hK8 hP hD hS => ?_)
  obtain rfl : c8 = cA 0 := Option.some.inj ((hK8.2 3 _ rfl).2.symm.trans (hK.2 0 _ rfl).2)
  have hP : va_P DD vwCl [(h0, .inr (4, [.null, .int 0, .int 0, .int 0, .int 0])), (q8, .inl (cA 0, 160, .inl nk_z))] H := hP
  have hD : va_D A [(h0, .inr (4, [.null, .int 0, .int 0, .int 0, .int 0])), (q8, .inl (cA 0, 160, .inl nk_z))] := hD
  refine W.widen (k := 1) (n := 160) (by omega) (by omega) ?_
  refine va_putF (D := DD) (ci := 4) (v := .ref q8) (ty := .array .int) (C := RX4) (T := TX4) (N := 5) hx hb hts nk_wUX4 tyX4 tyX4_ok nmX4 hown hK hP hD hS 0 rfl rfl 0 (by decide) (hts _ (nk_in 90 (by decide +kernel) (by decide +kernel))) (fun _ h9 => h9) rfl hin rfl (by decide +kernel) rfl rfl (Nat.le_of_ble_eq_true rfl) (show decode cX4_init 10 = .ok (.putfield 9, 3) by decide +kernel) (fun H locs hP hD hS => ?_)
  have hP : va_P DD vwCl [(h0, .inr (4, [.ref q8, .int 0, .int 0, .int 0, .int 0])), (q8, .inl (cA 0, 160, .inl nk_z))] H := hP
  have hD : va_D A [(h0, .inr (4, [.ref q8, .int 0, .int 0, .int 0, .int 0])), (q8, .inl (cA 0, 160, .inl nk_z))] := hD
  refine W.widen (k := 1) (n := 160) (by omega) (by omega) ?_
  exact W.vret hx hb hr (fun t ht hW => ⟨⟨(fun k => ([q8] : List Nat).getD k 0), rfl, trivial, by rw [ht]; exact hP, hD⟩, hS.F ht⟩) hS.2.2 (show decode cX4_init 13 = .ok (.return_, 1) by decide +kernel) hlocks
def nk_wX3 (cA : Nat → ClassId) (h0 : Nat) (u : Nat → Nat) : va_W := [(h0, .inr (3, [.ref (u 0), .ref (u 1), .ref (u 2), .int 0])), (u 0, .inl (cA 0, 6, .inl nk_z)), (u 1, .inl (cA 0, 6, .inl nk_z)), (u 2, .inl (cA 0, 6, .inl nk_z))]
set_option maxHeartbeats 4000000 in
set_option maxRecDepth 100000 in
theorem nk_iX3 (l : Launch) (DD : va_G) (cA : Nat → ClassId) (h0 sz : Nat) : Met l yX3_init (Cond.code yX3_init cX3_init 1 none :: nk_tb) ({ frames := 2, cells := 3, slots := 18, locals := 64 }) (va_Pc [.ref h0] (fun U => U.heap.size = sz ∧ va_P DD vwCl [(h0, .inr (3, [.null, .null, .null, .int 0]))] U.heap ∧ va_K DD vwCl (nk_ty cA) U ∧ va_D (fun _ => True) [(h0, .inr (3, [.null, .null, .null, .int 0]))])) (va_Qv (fun _ : Nat → Nat => True) (fun u t => va_P DD vwCl (nk_wX3 cA h0 u) t.heap ∧ va_D (va_A [(h0, .inr (3, [.null, .null, .null, .int 0]))] sz) (nk_wX3 cA h0 u)) (va_A [(h0, .inr (3, [.null, .null, .null, .int 0]))] sz)) 3 18 (va_A [(h0, .inr (3, [.null, .null, .null, .int 0]))] sz) := by
  refine Met.ofW (cc := cX3_init) (maxL := 1) (ret := none) (by decide) rfl ?_
  intro p e s m args below meth c s₁ B hml hv
  obtain ⟨rfl, hsz, hP, hK, hD0⟩ := hv
  have hx := B.exec
  have hb := B.bytes
  have hr := B.returns
  have hts : ∀ w ∈ nk_tb, w.before #[Value.ref h0] s = true := fun w hw => atoms_spec (ws := Cond.code yX3_init cX3_init 1 none :: nk_tb) B.pre w (List.mem_cons_of_mem _ hw)
  have hown : s.vm.findClass RX3 = some m.cls := findClass_of_methodNamed B.named
  have hlocks := B.notSynchronized
  have hin : meth.name = "<init>" := (name_of_methodNamed B.named B.method).1
  subst hsz
  have hD := hD0.self (sz := s.heap.size)
  generalize hAe : va_A [(h0, .inr (3, [.null, .null, .null, .int 0]))] s.heap.size = A at hD ⊢
  have hA : ∀ q : Nat, s.heap.size ≤ q → A q := fun q h => by rw [← hAe]; exact Or.inr h
  have hS : va_S A s.heap s.heap [] := va_S.rf
  have hP : va_P DD vwCl [(h0, .inr (3, [.null, .null, .null, .int 0]))] s.heap := hP
  have hl := lv_entry ([.ref h0]) (n := 1) (Nat.le_of_ble_eq_true rfl)
  rw [lg_entry_eq]
  generalize (lg_sl ([.ref h0]) ++ List.replicate (1 - (lg_sl ([.ref h0])).length) Slot.unset).toArray = ls at hl ⊢
  have hl : lv_has ls 1 [(0, .ref h0)] := hl
  refine lv_aload_n hx hb (show decode cX3_init 0 = .ok (.aload_n 0, 1) by decide +kernel) rfl (lv_at hl 0 rfl) ?_
  refine W.objInit hx hb hown (hts (.methodLink RX3 3 objectInit) (nk_in 160 (by decide +kernel) (by decide +kernel))) (hts (.instanceMethod objectInit) (nk_in 82 (by decide +kernel) (by decide +kernel))) (hts _ (nk_in 83 (by decide +kernel) (by decide +kernel))) rfl (by rw [hml]; exact hl.1) rfl (show decode cX3_init 1 = .ok (.invokespecial 3, 3) by decide +kernel) (Nat.le_of_ble_eq_true rfl) (Nat.le_of_ble_eq_true rfl) ?_
  refine W.eq (g2 := F0 m 4 ls []) rfl ?_
  refine lv_aload_n hx hb (show decode cX3_init 4 = .ok (.aload_n 0, 1) by decide +kernel) rfl (lv_at hl 0 rfl) ?_
  refine lv_bipush (v := 6) hx hb (show decode cX3_init 5 = .ok (.bipush 6, 2) by decide +kernel) (by decide) ?_
  refine va_newa hx hb (hts _ (nk_in 108 (by decide +kernel) (by decide +kernel))) (ty := .int) rfl hK hP hD hS hA (a0 := (6, .inl nk_z)) (N' := 6) (fun _ => rfl) (by decide) (by decide) (by decide) (show 0 + 1 ≤ 3 by decide) (show 0 + 6 ≤ 18 by decide) (show decode cX3_init 7 = .ok (.newarray .int, 2) by decide +kernel) (fun q7 c7 H hK7 hP hD hS => ?_)
  obtain rfl : c7 = cA 0 := Option.some.inj ((hK7.2 3 _ rfl).2.symm.trans (hK.2 0 _ rfl).2)
  have hP : va_P DD vwCl [(h0, .inr (3, [.null, .null, .null, .int 0])), (q7, .inl (cA 0, 6, .inl nk_z))] H := hP
  have hD : va_D A [(h0, .inr (3, [.null, .null, .null, .int 0])), (q7, .inl (cA 0, 6, .inl nk_z))] := hD
  refine W.widen (k := 1) (n := 6) (by omega) (by omega) ?_
  refine va_putF (D := DD) (ci := 3) (v := .ref q7) (ty := .array .int) (C := RX3) (T := TX3) (N := 4) hx hb hts nk_wUX3 tyX3 tyX3_ok nmX3 hown hK hP hD hS 0 rfl rfl 0 (by decide) (hts _ (nk_in 161 (by decide +kernel) (by decide +kernel))) (fun _ h9 => h9) rfl hin rfl (by decide +kernel) rfl rfl (Nat.le_of_ble_eq_true rfl) (show decode cX3_init 9 = .ok (.putfield 9, 3) by decide +kernel) (fun H locs hP hD hS => ?_)
  have hP : va_P DD vwCl [(h0, .inr (3, [.ref q7, .null, .null, .int 0])), (q7, .inl (cA 0, 6, .inl nk_z))] H := hP
  have hD : va_D A [(h0, .inr (3, [.ref q7, .null, .null, .int 0])), (q7, .inl (cA 0, 6, .inl nk_z))] := hD
  refine lv_aload_n hx hb (show decode cX3_init 12 = .ok (.aload_n 0, 1) by decide +kernel) rfl (lv_at hl 0 rfl) ?_
  refine lv_bipush (v := 6) hx hb (show decode cX3_init 13 = .ok (.bipush 6, 2) by decide +kernel) (by decide) ?_
  refine va_newa hx hb (hts _ (nk_in 108 (by decide +kernel) (by decide +kernel))) (ty := .int) rfl hK hP hD hS hA (a0 := (6, .inl nk_z)) (N' := 6) (fun _ => rfl) (by decide) (by decide) (by decide) (show 1 + 1 ≤ 3 by decide) (show 6 + 6 ≤ 18 by decide) (show decode cX3_init 15 = .ok (.newarray .int, 2) by decide +kernel) (fun q15 c15 H hK15 hP hD hS => ?_)
  obtain rfl : c15 = cA 0 := Option.some.inj ((hK15.2 3 _ rfl).2.symm.trans (hK.2 0 _ rfl).2)
  have hP : va_P DD vwCl [(h0, .inr (3, [.ref q7, .null, .null, .int 0])), (q7, .inl (cA 0, 6, .inl nk_z)), (q15, .inl (cA 0, 6, .inl nk_z))] H := hP
  have hD : va_D A [(h0, .inr (3, [.ref q7, .null, .null, .int 0])), (q7, .inl (cA 0, 6, .inl nk_z)), (q15, .inl (cA 0, 6, .inl nk_z))] := hD
  refine W.widen (k := 2) (n := 12) (by omega) (by omega) ?_
  refine va_putF (D := DD) (ci := 3) (v := .ref q15) (ty := .array .int) (C := RX3) (T := TX3) (N := 4) hx hb hts nk_wUX3 tyX3 tyX3_ok nmX3 hown hK hP hD hS 0 rfl rfl 1 (by decide) (hts _ (nk_in 162 (by decide +kernel) (by decide +kernel))) (fun _ h9 => h9) rfl hin rfl (by decide +kernel) rfl rfl (Nat.le_of_ble_eq_true rfl) (show decode cX3_init 17 = .ok (.putfield 15, 3) by decide +kernel) (fun H locs hP hD hS => ?_)
  have hP : va_P DD vwCl [(h0, .inr (3, [.ref q7, .ref q15, .null, .int 0])), (q7, .inl (cA 0, 6, .inl nk_z)), (q15, .inl (cA 0, 6, .inl nk_z))] H := hP
  have hD : va_D A [(h0, .inr (3, [.ref q7, .ref q15, .null, .int 0])), (q7, .inl (cA 0, 6, .inl nk_z)), (q15, .inl (cA 0, 6, .inl nk_z))] := hD
  refine lv_aload_n hx hb (show decode cX3_init 20 = .ok (.aload_n 0, 1) by decide +kernel) rfl (lv_at hl 0 rfl) ?_
  refine lv_bipush (v := 6) hx hb (show decode cX3_init 21 = .ok (.bipush 6, 2) by decide +kernel) (by decide) ?_
  refine va_newa hx hb (hts _ (nk_in 108 (by decide +kernel) (by decide +kernel))) (ty := .int) rfl hK hP hD hS hA (a0 := (6, .inl nk_z)) (N' := 6) (fun _ => rfl) (by decide) (by decide) (by decide) (show 2 + 1 ≤ 3 by decide) (show 12 + 6 ≤ 18 by decide) (show decode cX3_init 23 = .ok (.newarray .int, 2) by decide +kernel) (fun q23 c23 H hK23 hP hD hS => ?_)
  obtain rfl : c23 = cA 0 := Option.some.inj ((hK23.2 3 _ rfl).2.symm.trans (hK.2 0 _ rfl).2)
  have hP : va_P DD vwCl [(h0, .inr (3, [.ref q7, .ref q15, .null, .int 0])), (q7, .inl (cA 0, 6, .inl nk_z)), (q15, .inl (cA 0, 6, .inl nk_z)), (q23, .inl (cA 0, 6, .inl nk_z))] H := hP
  have hD : va_D A [(h0, .inr (3, [.ref q7, .ref q15, .null, .int 0])), (q7, .inl (cA 0, 6, .inl nk_z)), (q15, .inl (cA 0, 6, .inl nk_z)), (q23, .inl (cA 0, 6, .inl nk_z))] := hD
  refine W.widen (k := 3) (n := 18) (by omega) (by omega) ?_
  refine va_putF (D := DD) (ci := 3) (v := .ref q23) (ty := .array .int) (C := RX3) (T := TX3) (N := 4) hx hb hts nk_wUX3 tyX3 tyX3_ok nmX3 hown hK hP hD hS 0 rfl rfl 2 (by decide) (hts _ (nk_in 163 (by decide +kernel) (by decide +kernel))) (fun _ h9 => h9) rfl hin rfl (by decide +kernel) rfl rfl (Nat.le_of_ble_eq_true rfl) (show decode cX3_init 25 = .ok (.putfield 18, 3) by decide +kernel) (fun H locs hP hD hS => ?_)
  have hP : va_P DD vwCl [(h0, .inr (3, [.ref q7, .ref q15, .ref q23, .int 0])), (q7, .inl (cA 0, 6, .inl nk_z)), (q15, .inl (cA 0, 6, .inl nk_z)), (q23, .inl (cA 0, 6, .inl nk_z))] H := hP
  have hD : va_D A [(h0, .inr (3, [.ref q7, .ref q15, .ref q23, .int 0])), (q7, .inl (cA 0, 6, .inl nk_z)), (q15, .inl (cA 0, 6, .inl nk_z)), (q23, .inl (cA 0, 6, .inl nk_z))] := hD
  refine W.widen (k := 3) (n := 18) (by omega) (by omega) ?_
  exact W.vret hx hb hr (fun t ht hW => ⟨⟨(fun k => ([q7, q15, q23] : List Nat).getD k 0), rfl, trivial, by rw [ht]; exact hP, hD⟩, hS.F ht⟩) hS.2.2 (show decode cX3_init 28 = .ok (.return_, 1) by decide +kernel) hlocks
def nk_wX1 (cA : Nat → ClassId) (h0 : Nat) (u : Nat → Nat) : va_W := [(h0, .inr (1, [.ref (u 0)])), (u 0, .inl (cA 0, 6, .inl nk_z))]
set_option maxHeartbeats 4000000 in
set_option maxRecDepth 100000 in
theorem nk_iX1 (l : Launch) (DD : va_G) (cA : Nat → ClassId) (h0 sz : Nat) : Met l yX1_init (Cond.code yX1_init cX1_init 1 none :: nk_tb) ({ frames := 2, cells := 1, slots := 6, locals := 64 }) (va_Pc [.ref h0] (fun U => U.heap.size = sz ∧ va_P DD vwCl [(h0, .inr (1, [.null]))] U.heap ∧ va_K DD vwCl (nk_ty cA) U ∧ va_D (fun _ => True) [(h0, .inr (1, [.null]))])) (va_Qv (fun _ : Nat → Nat => True) (fun u t => va_P DD vwCl (nk_wX1 cA h0 u) t.heap ∧ va_D (va_A [(h0, .inr (1, [.null]))] sz) (nk_wX1 cA h0 u)) (va_A [(h0, .inr (1, [.null]))] sz)) 1 6 (va_A [(h0, .inr (1, [.null]))] sz) := by
  refine Met.ofW (cc := cX1_init) (maxL := 1) (ret := none) (by decide) rfl ?_
  intro p e s m args below meth c s₁ B hml hv
  obtain ⟨rfl, hsz, hP, hK, hD0⟩ := hv
  have hx := B.exec
  have hb := B.bytes
  have hr := B.returns
  have hts : ∀ w ∈ nk_tb, w.before #[Value.ref h0] s = true := fun w hw => atoms_spec (ws := Cond.code yX1_init cX1_init 1 none :: nk_tb) B.pre w (List.mem_cons_of_mem _ hw)
  have hown : s.vm.findClass RX1 = some m.cls := findClass_of_methodNamed B.named
  have hlocks := B.notSynchronized
  have hin : meth.name = "<init>" := (name_of_methodNamed B.named B.method).1
  subst hsz
  have hD := hD0.self (sz := s.heap.size)
  generalize hAe : va_A [(h0, .inr (1, [.null]))] s.heap.size = A at hD ⊢
  have hA : ∀ q : Nat, s.heap.size ≤ q → A q := fun q h => by rw [← hAe]; exact Or.inr h
  have hS : va_S A s.heap s.heap [] := va_S.rf
  have hP : va_P DD vwCl [(h0, .inr (1, [.null]))] s.heap := hP
  have hl := lv_entry ([.ref h0]) (n := 1) (Nat.le_of_ble_eq_true rfl)
  rw [lg_entry_eq]
  generalize (lg_sl ([.ref h0]) ++ List.replicate (1 - (lg_sl ([.ref h0])).length) Slot.unset).toArray = ls at hl ⊢
  have hl : lv_has ls 1 [(0, .ref h0)] := hl
  refine lv_aload_n hx hb (show decode cX1_init 0 = .ok (.aload_n 0, 1) by decide +kernel) rfl (lv_at hl 0 rfl) ?_
  refine W.objInit hx hb hown (hts (.methodLink RX1 3 objectInit) (nk_in 181 (by decide +kernel) (by decide +kernel))) (hts (.instanceMethod objectInit) (nk_in 82 (by decide +kernel) (by decide +kernel))) (hts _ (nk_in 83 (by decide +kernel) (by decide +kernel))) rfl (by rw [hml]; exact hl.1) rfl (show decode cX1_init 1 = .ok (.invokespecial 3, 3) by decide +kernel) (Nat.le_of_ble_eq_true rfl) (Nat.le_of_ble_eq_true rfl) ?_
  refine W.eq (g2 := F0 m 4 ls []) rfl ?_
  refine lv_aload_n hx hb (show decode cX1_init 4 = .ok (.aload_n 0, 1) by decide +kernel) rfl (lv_at hl 0 rfl) ?_
  refine lv_bipush (v := 6) hx hb (show decode cX1_init 5 = .ok (.bipush 6, 2) by decide +kernel) (by decide) ?_
  refine va_newa hx hb (hts _ (nk_in 108 (by decide +kernel) (by decide +kernel))) (ty := .int) rfl hK hP hD hS hA (a0 := (6, .inl nk_z)) (N' := 6) (fun _ => rfl) (by decide) (by decide) (by decide) (show 0 + 1 ≤ 1 by decide) (show 0 + 6 ≤ 6 by decide) (show decode cX1_init 7 = .ok (.newarray .int, 2) by decide +kernel) (fun q7 c7 H hK7 hP hD hS => ?_)
  obtain rfl : c7 = cA 0 := Option.some.inj ((hK7.2 3 _ rfl).2.symm.trans (hK.2 0 _ rfl).2)
  have hP : va_P DD vwCl [(h0, .inr (1, [.null])), (q7, .inl (cA 0, 6, .inl nk_z))] H := hP
  have hD : va_D A [(h0, .inr (1, [.null])), (q7, .inl (cA 0, 6, .inl nk_z))] := hD
  refine W.widen (k := 1) (n := 6) (by omega) (by omega) ?_
  refine va_putF (D := DD) (ci := 1) (v := .ref q7) (ty := .array .int) (C := RX1) (T := TX1) (N := 1) hx hb hts nk_wUX1 tyX1 tyX1_ok nmX1 hown hK hP hD hS 0 rfl rfl 0 (by decide) (hts _ (nk_in 182 (by decide +kernel) (by decide +kernel))) (fun _ h9 => h9) rfl hin rfl (by decide +kernel) rfl rfl (Nat.le_of_ble_eq_true rfl) (show decode cX1_init 9 = .ok (.putfield 9, 3) by decide +kernel) (fun H locs hP hD hS => ?_)
  have hP : va_P DD vwCl [(h0, .inr (1, [.ref q7])), (q7, .inl (cA 0, 6, .inl nk_z))] H := hP
  have hD : va_D A [(h0, .inr (1, [.ref q7])), (q7, .inl (cA 0, 6, .inl nk_z))] := hD
  refine W.widen (k := 1) (n := 6) (by omega) (by omega) ?_
  exact W.vret hx hb hr (fun t ht hW => ⟨⟨(fun k => ([q7] : List Nat).getD k 0), rfl, trivial, by rw [ht]; exact hP, hD⟩, hS.F ht⟩) hS.2.2 (show decode cX1_init 12 = .ok (.return_, 1) by decide +kernel) hlocks
def nk_wX6 (cA : Nat → ClassId) (h0 : Nat) (u : Nat → Nat) : va_W := [(h0, .inr (6, [.ref (u 0), .ref (u 1), .ref (u 2), .int 0, .int 0, .int 0, .int 0, .int 0, .ref (u 3), .int 0, .ref (u 4), .int 0, .ref (u 5), .ref (u 6), .ref (u 7), .ref (u 8), .ref (u 9), .ref (u 10), .int 0])), (u 0, .inl (cA 0, 44, .inl nk_z)), (u 1, .inl (cA 0, 38, .inl nk_z)), (u 2, .inl (cA 0, 160, .inl nk_z)), (u 3, .inl (cA 0, 44, .inl nk_z)), (u 4, .inl (cA 0, 304, .inl nk_z)), (u 5, .inl (cA 0, 36, .inl nk_z)), (u 6, .inl (cA 1, 2, .inl nk_z)), (u 7, .inl (cA 0, 76, .inl nk_z)), (u 8, .inl (cA 0, 6, .inl nk_z)), (u 9, .inl (cA 0, 38, .inl nk_z)), (u 10, .inl (cA 0, 18, .inl nk_z))]
set_option maxHeartbeats 4000000 in
set_option maxRecDepth 100000 in
theorem nk_iX6 (l : Launch) (DD : va_G) (cA : Nat → ClassId) (h0 sz : Nat) : Met l yX6_init (Cond.code yX6_init cX6_init 1 none :: nk_tb) ({ frames := 2, cells := 11, slots := 766, locals := 64 }) (va_Pc [.ref h0] (fun U => U.heap.size = sz ∧ va_P DD vwCl [(h0, .inr (6, [.null, .null, .null, .int 0, .int 0, .int 0, .int 0, .int 0, .null, .int 0, .null, .int 0, .null, .null, .null, .null, .null, .null, .int 0]))] U.heap ∧ va_K DD vwCl (nk_ty cA) U ∧ va_D (fun _ => True) [(h0, .inr (6, [.null, .null, .null, .int 0, .int 0, .int 0, .int 0, .int 0, .null, .int 0, .null, .int 0, .null, .null, .null, .null, .null, .null, .int 0]))])) (va_Qv (fun _ : Nat → Nat => True) (fun u t => va_P DD vwCl (nk_wX6 cA h0 u) t.heap ∧ va_D (va_A [(h0, .inr (6, [.null, .null, .null, .int 0, .int 0, .int 0, .int 0, .int 0, .null, .int 0, .null, .int 0, .null, .null, .null, .null, .null, .null, .int 0]))] sz) (nk_wX6 cA h0 u)) (va_A [(h0, .inr (6, [.null, .null, .null, .int 0, .int 0, .int 0, .int 0, .int 0, .null, .int 0, .null, .int 0, .null, .null, .null, .null, .null, .null, .int 0]))] sz)) 11 766 (va_A [(h0, .inr (6, [.null, .null, .null, .int 0, .int 0, .int 0, .int 0, .int 0, .null, .int 0, .null, .int 0, .null, .null, .null, .null, .null, .null, .int 0]))] sz) := by
  refine Met.ofW (cc := cX6_init) (maxL := 1) (ret := none) (by decide) rfl ?_
  intro p e s m args below meth c s₁ B hml hv
  obtain ⟨rfl, hsz, hP, hK, hD0⟩ := hv
  have hx := B.exec
  have hb := B.bytes
  have hr := B.returns
  have hts : ∀ w ∈ nk_tb, w.before #[Value.ref h0] s = true := fun w hw => atoms_spec (ws := Cond.code yX6_init cX6_init 1 none :: nk_tb) B.pre w (List.mem_cons_of_mem _ hw)
  have hown : s.vm.findClass RX6 = some m.cls := findClass_of_methodNamed B.named
  have hlocks := B.notSynchronized
  have hin : meth.name = "<init>" := (name_of_methodNamed B.named B.method).1
  subst hsz
  have hD := hD0.self (sz := s.heap.size)
  generalize hAe : va_A [(h0, .inr (6, [.null, .null, .null, .int 0, .int 0, .int 0, .int 0, .int 0, .null, .int 0, .null, .int 0, .null, .null, .null, .null, .null, .null, .int 0]))] s.heap.size = A at hD ⊢
  have hA : ∀ q : Nat, s.heap.size ≤ q → A q := fun q h => by rw [← hAe]; exact Or.inr h
  have hS : va_S A s.heap s.heap [] := va_S.rf
  have hP : va_P DD vwCl [(h0, .inr (6, [.null, .null, .null, .int 0, .int 0, .int 0, .int 0, .int 0, .null, .int 0, .null, .int 0, .null, .null, .null, .null, .null, .null, .int 0]))] s.heap := hP
  have hl := lv_entry ([.ref h0]) (n := 1) (Nat.le_of_ble_eq_true rfl)
  rw [lg_entry_eq]
  generalize (lg_sl ([.ref h0]) ++ List.replicate (1 - (lg_sl ([.ref h0])).length) Slot.unset).toArray = ls at hl ⊢
  have hl : lv_has ls 1 [(0, .ref h0)] := hl
  refine lv_aload_n hx hb (show decode cX6_init 0 = .ok (.aload_n 0, 1) by decide +kernel) rfl (lv_at hl 0 rfl) ?_
  refine W.objInit hx hb hown (hts (.methodLink RX6 1 objectInit) (nk_in 592 (by decide +kernel) (by decide +kernel))) (hts (.instanceMethod objectInit) (nk_in 82 (by decide +kernel) (by decide +kernel))) (hts _ (nk_in 83 (by decide +kernel) (by decide +kernel))) rfl (by rw [hml]; exact hl.1) rfl (show decode cX6_init 1 = .ok (.invokespecial 1, 3) by decide +kernel) (Nat.le_of_ble_eq_true rfl) (Nat.le_of_ble_eq_true rfl) ?_
  refine W.eq (g2 := F0 m 4 ls []) rfl ?_
  refine lv_aload_n hx hb (show decode cX6_init 4 = .ok (.aload_n 0, 1) by decide +kernel) rfl (lv_at hl 0 rfl) ?_
  refine lv_bipush (v := 44) hx hb (show decode cX6_init 5 = .ok (.bipush 44, 2) by decide +kernel) (by decide) ?_
  refine va_newa hx hb (hts _ (nk_in 108 (by decide +kernel) (by decide +kernel))) (ty := .int) rfl hK hP hD hS hA (a0 := (44, .inl nk_z)) (N' := 44) (fun _ => rfl) (by decide) (by decide) (by decide) (show 0 + 1 ≤ 11 by decide) (show 0 + 44 ≤ 766 by decide) (show decode cX6_init 7 = .ok (.newarray .int, 2) by decide +kernel) (fun q7 c7 H hK7 hP hD hS => ?_)
  obtain rfl : c7 = cA 0 := Option.some.inj ((hK7.2 3 _ rfl).2.symm.trans (hK.2 0 _ rfl).2)
  have hP : va_P DD vwCl [(h0, .inr (6, [.null, .null, .null, .int 0, .int 0, .int 0, .int 0, .int 0, .null, .int 0, .null, .int 0, .null, .null, .null, .null, .null, .null, .int 0])), (q7, .inl (cA 0, 44, .inl nk_z))] H := hP
  have hD : va_D A [(h0, .inr (6, [.null, .null, .null, .int 0, .int 0, .int 0, .int 0, .int 0, .null, .int 0, .null, .int 0, .null, .null, .null, .null, .null, .null, .int 0])), (q7, .inl (cA 0, 44, .inl nk_z))] := hD
  refine W.widen (k := 1) (n := 44) (by omega) (by omega) ?_
  refine va_putF (D := DD) (ci := 6) (v := .ref q7) (ty := .array .int) (C := RX6) (T := TX6) (N := 19) hx hb hts nk_wUX6 tyX6 tyX6_ok nmX6 hown hK hP hD hS 0 rfl rfl 0 (by decide) (hts _ (nk_in 593 (by decide +kernel) (by decide +kernel))) (fun _ h9 => h9) rfl hin rfl (by decide +kernel) rfl rfl (Nat.le_of_ble_eq_true rfl) (show decode cX6_init 9 = .ok (.putfield 7, 3) by decide +kernel) (fun H locs hP hD hS => ?_)
  have hP : va_P DD vwCl [(h0, .inr (6, [.ref q7, .null, .null, .int 0, .int 0, .int 0, .int 0, .int 0, .null, .int 0, .null, .int 0, .null, .null, .null, .null, .null, .null, .int 0])), (q7, .inl (cA 0, 44, .inl nk_z))] H := hP
  have hD : va_D A [(h0, .inr (6, [.ref q7, .null, .null, .int 0, .int 0, .int 0, .int 0, .int 0, .null, .int 0, .null, .int 0, .null, .null, .null, .null, .null, .null, .int 0])), (q7, .inl (cA 0, 44, .inl nk_z))] := hD
  refine lv_aload_n hx hb (show decode cX6_init 12 = .ok (.aload_n 0, 1) by decide +kernel) rfl (lv_at hl 0 rfl) ?_
  refine lv_bipush (v := 38) hx hb (show decode cX6_init 13 = .ok (.bipush 38, 2) by decide +kernel) (by decide) ?_
  refine va_newa hx hb (hts _ (nk_in 108 (by decide +kernel) (by decide +kernel))) (ty := .int) rfl hK hP hD hS hA (a0 := (38, .inl nk_z)) (N' := 38) (fun _ => rfl) (by decide) (by decide) (by decide) (show 1 + 1 ≤ 11 by decide) (show 44 + 38 ≤ 766 by decide) (show decode cX6_init 15 = .ok (.newarray .int, 2) by decide +kernel) (fun q15 c15 H hK15 hP hD hS => ?_)
  obtain rfl : c15 = cA 0 := Option.some.inj ((hK15.2 3 _ rfl).2.symm.trans (hK.2 0 _ rfl).2)
  have hP : va_P DD vwCl [(h0, .inr (6, [.ref q7, .null, .null, .int 0, .int 0, .int 0, .int 0, .int 0, .null, .int 0, .null, .int 0, .null, .null, .null, .null, .null, .null, .int 0])), (q7, .inl (cA 0, 44, .inl nk_z)), (q15, .inl (cA 0, 38, .inl nk_z))] H := hP
  have hD : va_D A [(h0, .inr (6, [.ref q7, .null, .null, .int 0, .int 0, .int 0, .int 0, .int 0, .null, .int 0, .null, .int 0, .null, .null, .null, .null, .null, .null, .int 0])), (q7, .inl (cA 0, 44, .inl nk_z)), (q15, .inl (cA 0, 38, .inl nk_z))] := hD
  refine W.widen (k := 2) (n := 82) (by omega) (by omega) ?_
  refine va_putF (D := DD) (ci := 6) (v := .ref q15) (ty := .array .int) (C := RX6) (T := TX6) (N := 19) hx hb hts nk_wUX6 tyX6 tyX6_ok nmX6 hown hK hP hD hS 0 rfl rfl 1 (by decide) (hts _ (nk_in 594 (by decide +kernel) (by decide +kernel))) (fun _ h9 => h9) rfl hin rfl (by decide +kernel) rfl rfl (Nat.le_of_ble_eq_true rfl) (show decode cX6_init 17 = .ok (.putfield 13, 3) by decide +kernel) (fun H locs hP hD hS => ?_)
  have hP : va_P DD vwCl [(h0, .inr (6, [.ref q7, .ref q15, .null, .int 0, .int 0, .int 0, .int 0, .int 0, .null, .int 0, .null, .int 0, .null, .null, .null, .null, .null, .null, .int 0])), (q7, .inl (cA 0, 44, .inl nk_z)), (q15, .inl (cA 0, 38, .inl nk_z))] H := hP
  have hD : va_D A [(h0, .inr (6, [.ref q7, .ref q15, .null, .int 0, .int 0, .int 0, .int 0, .int 0, .null, .int 0, .null, .int 0, .null, .null, .null, .null, .null, .null, .int 0])), (q7, .inl (cA 0, 44, .inl nk_z)), (q15, .inl (cA 0, 38, .inl nk_z))] := hD
  refine lv_aload_n hx hb (show decode cX6_init 20 = .ok (.aload_n 0, 1) by decide +kernel) rfl (lv_at hl 0 rfl) ?_
  refine lv_sipush (v := 160) hx hb (show decode cX6_init 21 = .ok (.sipush 160, 3) by decide +kernel) (by decide) ?_
  refine va_newa hx hb (hts _ (nk_in 108 (by decide +kernel) (by decide +kernel))) (ty := .int) rfl hK hP hD hS hA (a0 := (160, .inl nk_z)) (N' := 160) (fun _ => rfl) (by decide) (by decide) (by decide) (show 2 + 1 ≤ 11 by decide) (show 82 + 160 ≤ 766 by decide) (show decode cX6_init 24 = .ok (.newarray .int, 2) by decide +kernel) (fun q24 c24 H hK24 hP hD hS => ?_)
  obtain rfl : c24 = cA 0 := Option.some.inj ((hK24.2 3 _ rfl).2.symm.trans (hK.2 0 _ rfl).2)
  have hP : va_P DD vwCl [(h0, .inr (6, [.ref q7, .ref q15, .null, .int 0, .int 0, .int 0, .int 0, .int 0, .null, .int 0, .null, .int 0, .null, .null, .null, .null, .null, .null, .int 0])), (q7, .inl (cA 0, 44, .inl nk_z)), (q15, .inl (cA 0, 38, .inl nk_z)), (q24, .inl (cA 0, 160, .inl nk_z))] H := hP
  have hD : va_D A [(h0, .inr (6, [.ref q7, .ref q15, .null, .int 0, .int 0, .int 0, .int 0, .int 0, .null, .int 0, .null, .int 0, .null, .null, .null, .null, .null, .null, .int 0])), (q7, .inl (cA 0, 44, .inl nk_z)), (q15, .inl (cA 0, 38, .inl nk_z)), (q24, .inl (cA 0, 160, .inl nk_z))] := hD
  refine W.widen (k := 3) (n := 242) (by omega) (by omega) ?_
  refine va_putF (D := DD) (ci := 6) (v := .ref q24) (ty := .array .int) (C := RX6) (T := TX6) (N := 19) hx hb hts nk_wUX6 tyX6 tyX6_ok nmX6 hown hK hP hD hS 0 rfl rfl 2 (by decide) (hts _ (nk_in 595 (by decide +kernel) (by decide +kernel))) (fun _ h9 => h9) rfl hin rfl (by decide +kernel) rfl rfl (Nat.le_of_ble_eq_true rfl) (show decode cX6_init 26 = .ok (.putfield 16, 3) by decide +kernel) (fun H locs hP hD hS => ?_)
  have hP : va_P DD vwCl [(h0, .inr (6, [.ref q7, .ref q15, .ref q24, .int 0, .int 0, .int 0, .int 0, .int 0, .null, .int 0, .null, .int 0, .null, .null, .null, .null, .null, .null, .int 0])), (q7, .inl (cA 0, 44, .inl nk_z)), (q15, .inl (cA 0, 38, .inl nk_z)), (q24, .inl (cA 0, 160, .inl nk_z))] H := hP
  have hD : va_D A [(h0, .inr (6, [.ref q7, .ref q15, .ref q24, .int 0, .int 0, .int 0, .int 0, .int 0, .null, .int 0, .null, .int 0, .null, .null, .null, .null, .null, .null, .int 0])), (q7, .inl (cA 0, 44, .inl nk_z)), (q15, .inl (cA 0, 38, .inl nk_z)), (q24, .inl (cA 0, 160, .inl nk_z))] := hD
  refine lv_aload_n hx hb (show decode cX6_init 29 = .ok (.aload_n 0, 1) by decide +kernel) rfl (lv_at hl 0 rfl) ?_
  refine lv_bipush (v := 44) hx hb (show decode cX6_init 30 = .ok (.bipush 44, 2) by decide +kernel) (by decide) ?_
  refine va_newa hx hb (hts _ (nk_in 108 (by decide +kernel) (by decide +kernel))) (ty := .int) rfl hK hP hD hS hA (a0 := (44, .inl nk_z)) (N' := 44) (fun _ => rfl) (by decide) (by decide) (by decide) (show 3 + 1 ≤ 11 by decide) (show 242 + 44 ≤ 766 by decide) (show decode cX6_init 32 = .ok (.newarray .int, 2) by decide +kernel) (fun q32 c32 H hK32 hP hD hS => ?_)
  obtain rfl : c32 = cA 0 := Option.some.inj ((hK32.2 3 _ rfl).2.symm.trans (hK.2 0 _ rfl).2)
  have hP : va_P DD vwCl [(h0, .inr (6, [.ref q7, .ref q15, .ref q24, .int 0, .int 0, .int 0, .int 0, .int 0, .null, .int 0, .null, .int 0, .null, .null, .null, .null, .null, .null, .int 0])), (q7, .inl (cA 0, 44, .inl nk_z)), (q15, .inl (cA 0, 38, .inl nk_z)), (q24, .inl (cA 0, 160, .inl nk_z)), (q32, .inl (cA 0, 44, .inl nk_z))] H := hP
  have hD : va_D A [(h0, .inr (6, [.ref q7, .ref q15, .ref q24, .int 0, .int 0, .int 0, .int 0, .int 0, .null, .int 0, .null, .int 0, .null, .null, .null, .null, .null, .null, .int 0])), (q7, .inl (cA 0, 44, .inl nk_z)), (q15, .inl (cA 0, 38, .inl nk_z)), (q24, .inl (cA 0, 160, .inl nk_z)), (q32, .inl (cA 0, 44, .inl nk_z))] := hD
  refine W.widen (k := 4) (n := 286) (by omega) (by omega) ?_
  refine va_putF (D := DD) (ci := 6) (v := .ref q32) (ty := .array .int) (C := RX6) (T := TX6) (N := 19) hx hb hts nk_wUX6 tyX6 tyX6_ok nmX6 hown hK hP hD hS 0 rfl rfl 8 (by decide) (hts _ (nk_in 601 (by decide +kernel) (by decide +kernel))) (fun _ h9 => h9) rfl hin rfl (by decide +kernel) rfl rfl (Nat.le_of_ble_eq_true rfl) (show decode cX6_init 34 = .ok (.putfield 19, 3) by decide +kernel) (fun H locs hP hD hS => ?_)
  have hP : va_P DD vwCl [(h0, .inr (6, [.ref q7, .ref q15, .ref q24, .int 0, .int 0, .int 0, .int 0, .int 0, .ref q32, .int 0, .null, .int 0, .null, .null, .null, .null, .null, .null, .int 0])), (q7, .inl (cA 0, 44, .inl nk_z)), (q15, .inl (cA 0, 38, .inl nk_z)), (q24, .inl (cA 0, 160, .inl nk_z)), (q32, .inl (cA 0, 44, .inl nk_z))] H := hP
  have hD : va_D A [(h0, .inr (6, [.ref q7, .ref q15, .ref q24, .int 0, .int 0, .int 0, .int 0, .int 0, .ref q32, .int 0, .null, .int 0, .null, .null, .null, .null, .null, .null, .int 0])), (q7, .inl (cA 0, 44, .inl nk_z)), (q15, .inl (cA 0, 38, .inl nk_z)), (q24, .inl (cA 0, 160, .inl nk_z)), (q32, .inl (cA 0, 44, .inl nk_z))] := hD
  refine lv_aload_n hx hb (show decode cX6_init 37 = .ok (.aload_n 0, 1) by decide +kernel) rfl (lv_at hl 0 rfl) ?_
  refine lv_sipush (v := 304) hx hb (show decode cX6_init 38 = .ok (.sipush 304, 3) by decide +kernel) (by decide) ?_
  refine va_newa hx hb (hts _ (nk_in 108 (by decide +kernel) (by decide +kernel))) (ty := .int) rfl hK hP hD hS hA (a0 := (304, .inl nk_z)) (N' := 304) (fun _ => rfl) (by decide) (by decide) (by decide) (show 4 + 1 ≤ 11 by decide) (show 286 + 304 ≤ 766 by decide) (show decode cX6_init 41 = .ok (.newarray .int, 2) by decide +kernel) (fun q41 c41 H hK41 hP hD hS => ?_)
  obtain rfl : c41 = cA 0 := Option.some.inj ((hK41.2 3 _ rfl).2.symm.trans (hK.2 0 _ rfl).2)
  have hP : va_P DD vwCl [(h0, .inr (6, [.ref q7, .ref q15, .ref q24, .int 0, .int 0, .int 0, .int 0, .int 0, .ref q32, .int 0, .null, .int 0, .null, .null, .null, .null, .null, .null, .int 0])), (q7, .inl (cA 0, 44, .inl nk_z)), (q15, .inl (cA 0, 38, .inl nk_z)), (q24, .inl (cA 0, 160, .inl nk_z)), (q32, .inl (cA 0, 44, .inl nk_z)), (q41, .inl (cA 0, 304, .inl nk_z))] H := hP
  have hD : va_D A [(h0, .inr (6, [.ref q7, .ref q15, .ref q24, .int 0, .int 0, .int 0, .int 0, .int 0, .ref q32, .int 0, .null, .int 0, .null, .null, .null, .null, .null, .null, .int 0])), (q7, .inl (cA 0, 44, .inl nk_z)), (q15, .inl (cA 0, 38, .inl nk_z)), (q24, .inl (cA 0, 160, .inl nk_z)), (q32, .inl (cA 0, 44, .inl nk_z)), (q41, .inl (cA 0, 304, .inl nk_z))] := hD
  refine W.widen (k := 5) (n := 590) (by omega) (by omega) ?_
  refine va_putF (D := DD) (ci := 6) (v := .ref q41) (ty := .array .int) (C := RX6) (T := TX6) (N := 19) hx hb hts nk_wUX6 tyX6 tyX6_ok nmX6 hown hK hP hD hS 0 rfl rfl 10 (by decide) (hts _ (nk_in 603 (by decide +kernel) (by decide +kernel))) (fun _ h9 => h9) rfl hin rfl (by decide +kernel) rfl rfl (Nat.le_of_ble_eq_true rfl) (show decode cX6_init 43 = .ok (.putfield 22, 3) by decide +kernel) (fun H locs hP hD hS => ?_)
  have hP : va_P DD vwCl [(h0, .inr (6, [.ref q7, .ref q15, .ref q24, .int 0, .int 0, .int 0, .int 0, .int 0, .ref q32, .int 0, .ref q41, .int 0, .null, .null, .null, .null, .null, .null, .int 0])), (q7, .inl (cA 0, 44, .inl nk_z)), (q15, .inl (cA 0, 38, .inl nk_z)), (q24, .inl (cA 0, 160, .inl nk_z)), (q32, .inl (cA 0, 44, .inl nk_z)), (q41, .inl (cA 0, 304, .inl nk_z))] H := hP
  have hD : va_D A [(h0, .inr (6, [.ref q7, .ref q15, .ref q24, .int 0, .int 0, .int 0, .int 0, .int 0, .ref q32, .int 0, .ref q41, .int 0, .null, .null, .null, .null, .null, .null, .int 0])), (q7, .inl (cA 0, 44, .inl nk_z)), (q15, .inl (cA 0, 38, .inl nk_z)), (q24, .inl (cA 0, 160, .inl nk_z)), (q32, .inl (cA 0, 44, .inl nk_z)), (q41, .inl (cA 0, 304, .inl nk_z))] := hD
  refine lv_aload_n hx hb (show decode cX6_init 46 = .ok (.aload_n 0, 1) by decide +kernel) rfl (lv_at hl 0 rfl) ?_
  refine lv_bipush (v := 36) hx hb (show decode cX6_init 47 = .ok (.bipush 36, 2) by decide +kernel) (by decide) ?_
  refine va_newa hx hb (hts _ (nk_in 108 (by decide +kernel) (by decide +kernel))) (ty := .int) rfl hK hP hD hS hA (a0 := (36, .inl nk_z)) (N' := 36) (fun _ => rfl) (by decide) (by decide) (by decide) (show 5 + 1 ≤ 11 by decide) (show 590 + 36 ≤ 766 by decide) (show decode cX6_init 49 = .ok (.newarray .int, 2) by decide +kernel) (fun q49 c49 H hK49 hP hD hS => ?_)
  obtain rfl : c49 = cA 0 := Option.some.inj ((hK49.2 3 _ rfl).2.symm.trans (hK.2 0 _ rfl).2)
  have hP : va_P DD vwCl [(h0, .inr (6, [.ref q7, .ref q15, .ref q24, .int 0, .int 0, .int 0, .int 0, .int 0, .ref q32, .int 0, .ref q41, .int 0, .null, .null, .null, .null, .null, .null, .int 0])), (q7, .inl (cA 0, 44, .inl nk_z)), (q15, .inl (cA 0, 38, .inl nk_z)), (q24, .inl (cA 0, 160, .inl nk_z)), (q32, .inl (cA 0, 44, .inl nk_z)), (q41, .inl (cA 0, 304, .inl nk_z)), (q49, .inl (cA 0, 36, .inl nk_z))] H := hP
  have hD : va_D A [(h0, .inr (6, [.ref q7, .ref q15, .ref q24, .int 0, .int 0, .int 0, .int 0, .int 0, .ref q32, .int 0, .ref q41, .int 0, .null, .null, .null, .null, .null, .null, .int 0])), (q7, .inl (cA 0, 44, .inl nk_z)), (q15, .inl (cA 0, 38, .inl nk_z)), (q24, .inl (cA 0, 160, .inl nk_z)), (q32, .inl (cA 0, 44, .inl nk_z)), (q41, .inl (cA 0, 304, .inl nk_z)), (q49, .inl (cA 0, 36, .inl nk_z))] := hD
  refine W.widen (k := 6) (n := 626) (by omega) (by omega) ?_
  refine va_putF (D := DD) (ci := 6) (v := .ref q49) (ty := .array .int) (C := RX6) (T := TX6) (N := 19) hx hb hts nk_wUX6 tyX6 tyX6_ok nmX6 hown hK hP hD hS 0 rfl rfl 12 (by decide) (hts _ (nk_in 605 (by decide +kernel) (by decide +kernel))) (fun _ h9 => h9) rfl hin rfl (by decide +kernel) rfl rfl (Nat.le_of_ble_eq_true rfl) (show decode cX6_init 51 = .ok (.putfield 25, 3) by decide +kernel) (fun H locs hP hD hS => ?_)
  have hP : va_P DD vwCl [(h0, .inr (6, [.ref q7, .ref q15, .ref q24, .int 0, .int 0, .int 0, .int 0, .int 0, .ref q32, .int 0, .ref q41, .int 0, .ref q49, .null, .null, .null, .null, .null, .int 0])), (q7, .inl (cA 0, 44, .inl nk_z)), (q15, .inl (cA 0, 38, .inl nk_z)), (q24, .inl (cA 0, 160, .inl nk_z)), (q32, .inl (cA 0, 44, .inl nk_z)), (q41, .inl (cA 0, 304, .inl nk_z)), (q49, .inl (cA 0, 36, .inl nk_z))] H := hP
  have hD : va_D A [(h0, .inr (6, [.ref q7, .ref q15, .ref q24, .int 0, .int 0, .int 0, .int 0, .int 0, .ref q32, .int 0, .ref q41, .int 0, .ref q49, .null, .null, .null, .null, .null, .int 0])), (q7, .inl (cA 0, 44, .inl nk_z)), (q15, .inl (cA 0, 38, .inl nk_z)), (q24, .inl (cA 0, 160, .inl nk_z)), (q32, .inl (cA 0, 44, .inl nk_z)), (q41, .inl (cA 0, 304, .inl nk_z)), (q49, .inl (cA 0, 36, .inl nk_z))] := hD
  refine lv_aload_n hx hb (show decode cX6_init 54 = .ok (.aload_n 0, 1) by decide +kernel) rfl (lv_at hl 0 rfl) ?_
  refine lv_iconst (v := 2) hx hb (show decode cX6_init 55 = .ok (.iconst 2, 1) by decide +kernel) (by decide) ?_
  refine va_newa hx hb (hts _ (nk_in 175 (by decide +kernel) (by decide +kernel))) (ty := .boolean) rfl hK hP hD hS hA (a0 := (2, .inl nk_z)) (N' := 2) (fun _ => rfl) (by decide) (by decide) (by decide) (show 6 + 1 ≤ 11 by decide) (show 626 + 2 ≤ 766 by decide) (show decode cX6_init 56 = .ok (.newarray .boolean, 2) by decide +kernel) (fun q56 c56 H hK56 hP hD hS => ?_)
  obtain rfl : c56 = cA 1 := Option.some.inj ((hK56.2 3 _ rfl).2.symm.trans (hK.2 1 _ rfl).2)
  have hP : va_P DD vwCl [(h0, .inr (6, [.ref q7, .ref q15, .ref q24, .int 0, .int 0, .int 0, .int 0, .int 0, .ref q32, .int 0, .ref q41, .int 0, .ref q49, .null, .null, .null, .null, .null, .int 0])), (q7, .inl (cA 0, 44, .inl nk_z)), (q15, .inl (cA 0, 38, .inl nk_z)), (q24, .inl (cA 0, 160, .inl nk_z)), (q32, .inl (cA 0, 44, .inl nk_z)), (q41, .inl (cA 0, 304, .inl nk_z)), (q49, .inl (cA 0, 36, .inl nk_z)), (q56, .inl (cA 1, 2, .inl nk_z))] H := hP
  have hD : va_D A [(h0, .inr (6, [.ref q7, .ref q15, .ref q24, .int 0, .int 0, .int 0, .int 0, .int 0, .ref q32, .int 0, .ref q41, .int 0, .ref q49, .null, .null, .null, .null, .null, .int 0])), (q7, .inl (cA 0, 44, .inl nk_z)), (q15, .inl (cA 0, 38, .inl nk_z)), (q24, .inl (cA 0, 160, .inl nk_z)), (q32, .inl (cA 0, 44, .inl nk_z)), (q41, .inl (cA 0, 304, .inl nk_z)), (q49, .inl (cA 0, 36, .inl nk_z)), (q56, .inl (cA 1, 2, .inl nk_z))] := hD
  refine W.widen (k := 7) (n := 628) (by omega) (by omega) ?_
  refine va_putF (D := DD) (ci := 6) (v := .ref q56) (ty := .array .boolean) (C := RX6) (T := TX6) (N := 19) hx hb hts nk_wUX6 tyX6 tyX6_ok nmX6 hown hK hP hD hS 0 rfl rfl 13 (by decide) (hts _ (nk_in 606 (by decide +kernel) (by decide +kernel))) (fun _ h9 => h9) rfl hin rfl (by decide +kernel) rfl rfl (Nat.le_of_ble_eq_true rfl) (show decode cX6_init 58 = .ok (.putfield 28, 3) by decide +kernel) (fun H locs hP hD hS => ?_)
  have hP : va_P DD vwCl [(h0, .inr (6, [.ref q7, .ref q15, .ref q24, .int 0, .int 0, .int 0, .int 0, .int 0, .ref q32, .int 0, .ref q41, .int 0, .ref q49, .ref q56, .null, .null, .null, .null, .int 0])), (q7, .inl (cA 0, 44, .inl nk_z)), (q15, .inl (cA 0, 38, .inl nk_z)), (q24, .inl (cA 0, 160, .inl nk_z)), (q32, .inl (cA 0, 44, .inl nk_z)), (q41, .inl (cA 0, 304, .inl nk_z)), (q49, .inl (cA 0, 36, .inl nk_z)), (q56, .inl (cA 1, 2, .inl nk_z))] H := hP
  have hD : va_D A [(h0, .inr (6, [.ref q7, .ref q15, .ref q24, .int 0, .int 0, .int 0, .int 0, .int 0, .ref q32, .int 0, .ref q41, .int 0, .ref q49, .ref q56, .null, .null, .null, .null, .int 0])), (q7, .inl (cA 0, 44, .inl nk_z)), (q15, .inl (cA 0, 38, .inl nk_z)), (q24, .inl (cA 0, 160, .inl nk_z)), (q32, .inl (cA 0, 44, .inl nk_z)), (q41, .inl (cA 0, 304, .inl nk_z)), (q49, .inl (cA 0, 36, .inl nk_z)), (q56, .inl (cA 1, 2, .inl nk_z))] := hD
  refine lv_aload_n hx hb (show decode cX6_init 61 = .ok (.aload_n 0, 1) by decide +kernel) rfl (lv_at hl 0 rfl) ?_
  refine lv_bipush (v := 76) hx hb (show decode cX6_init 62 = .ok (.bipush 76, 2) by decide +kernel) (by decide) ?_
  refine va_newa hx hb (hts _ (nk_in 108 (by decide +kernel) (by decide +kernel))) (ty := .int) rfl hK hP hD hS hA (a0 := (76, .inl nk_z)) (N' := 76) (fun _ => rfl) (by decide) (by decide) (by decide) (show 7 + 1 ≤ 11 by decide) (show 628 + 76 ≤ 766 by decide) (show decode cX6_init 64 = .ok (.newarray .int, 2) by decide +kernel) (fun q64 c64 H hK64 hP hD hS => ?_)
  obtain rfl : c64 = cA 0 := Option.some.inj ((hK64.2 3 _ rfl).2.symm.trans (hK.2 0 _ rfl).2)
  have hP : va_P DD vwCl [(h0, .inr (6, [.ref q7, .ref q15, .ref q24, .int 0, .int 0, .int 0, .int 0, .int 0, .ref q32, .int 0, .ref q41, .int 0, .ref q49, .ref q56, .null, .null, .null, .null, .int 0])), (q7, .inl (cA 0, 44, .inl nk_z)), (q15, .inl (cA 0, 38, .inl nk_z)), (q24, .inl (cA 0, 160, .inl nk_z)), (q32, .inl (cA 0, 44, .inl nk_z)), (q41, .inl (cA 0, 304, .inl nk_z)), (q49, .inl (cA 0, 36, .inl nk_z)), (q56, .inl (cA 1, 2, .inl nk_z)), (q64, .inl (cA 0, 76, .inl nk_z))] H := hP
  have hD : va_D A [(h0, .inr (6, [.ref q7, .ref q15, .ref q24, .int 0, .int 0, .int 0, .int 0, .int 0, .ref q32, .int 0, .ref q41, .int 0, .ref q49, .ref q56, .null, .null, .null, .null, .int 0])), (q7, .inl (cA 0, 44, .inl nk_z)), (q15, .inl (cA 0, 38, .inl nk_z)), (q24, .inl (cA 0, 160, .inl nk_z)), (q32, .inl (cA 0, 44, .inl nk_z)), (q41, .inl (cA 0, 304, .inl nk_z)), (q49, .inl (cA 0, 36, .inl nk_z)), (q56, .inl (cA 1, 2, .inl nk_z)), (q64, .inl (cA 0, 76, .inl nk_z))] := hD
  refine W.widen (k := 8) (n := 704) (by omega) (by omega) ?_
  refine va_putF (D := DD) (ci := 6) (v := .ref q64) (ty := .array .int) (C := RX6) (T := TX6) (N := 19) hx hb hts nk_wUX6 tyX6 tyX6_ok nmX6 hown hK hP hD hS 0 rfl rfl 14 (by decide) (hts _ (nk_in 607 (by decide +kernel) (by decide +kernel))) (fun _ h9 => h9) rfl hin rfl (by decide +kernel) rfl rfl (Nat.le_of_ble_eq_true rfl) (show decode cX6_init 66 = .ok (.putfield 32, 3) by decide +kernel) (fun H locs hP hD hS => ?_)
  have hP : va_P DD vwCl [(h0, .inr (6, [.ref q7, .ref q15, .ref q24, .int 0, .int 0, .int 0, .int 0, .int 0, .ref q32, .int 0, .ref q41, .int 0, .ref q49, .ref q56, .ref q64, .null, .null, .null, .int 0])), (q7, .inl (cA 0, 44, .inl nk_z)), (q15, .inl (cA 0, 38, .inl nk_z)), (q24, .inl (cA 0, 160, .inl nk_z)), (q32, .inl (cA 0, 44, .inl nk_z)), (q41, .inl (cA 0, 304, .inl nk_z)), (q49, .inl (cA 0, 36, .inl nk_z)), (q56, .inl (cA 1, 2, .inl nk_z)), (q64, .inl (cA 0, 76, .inl nk_z))] H := hP
  have hD : va_D A [(h0, .inr (6, [.ref q7, .ref q15, .ref q24, .int 0, .int 0, .int 0, .int 0, .int 0, .ref q32, .int 0, .ref q41, .int 0, .ref q49, .ref q56, .ref q64, .null, .null, .null, .int 0])), (q7, .inl (cA 0, 44, .inl nk_z)), (q15, .inl (cA 0, 38, .inl nk_z)), (q24, .inl (cA 0, 160, .inl nk_z)), (q32, .inl (cA 0, 44, .inl nk_z)), (q41, .inl (cA 0, 304, .inl nk_z)), (q49, .inl (cA 0, 36, .inl nk_z)), (q56, .inl (cA 1, 2, .inl nk_z)), (q64, .inl (cA 0, 76, .inl nk_z))] := hD
  refine lv_aload_n hx hb (show decode cX6_init 69 = .ok (.aload_n 0, 1) by decide +kernel) rfl (lv_at hl 0 rfl) ?_
  refine lv_bipush (v := 6) hx hb (show decode cX6_init 70 = .ok (.bipush 6, 2) by decide +kernel) (by decide) ?_
  refine va_newa hx hb (hts _ (nk_in 108 (by decide +kernel) (by decide +kernel))) (ty := .int) rfl hK hP hD hS hA (a0 := (6, .inl nk_z)) (N' := 6) (fun _ => rfl) (by decide) (by decide) (by decide) (show 8 + 1 ≤ 11 by decide) (show 704 + 6 ≤ 766 by decide) (show decode cX6_init 72 = .ok (.newarray .int, 2) by decide +kernel) (fun q72 c72 H hK72 hP hD hS => ?_)
  obtain rfl : c72 = cA 0 := Option.some.inj ((hK72.2 3 _ rfl).2.symm.trans (hK.2 0 _ rfl).2)
  have hP : va_P DD vwCl [(h0, .inr (6, [.ref q7, .ref q15, .ref q24, .int 0, .int 0, .int 0, .int 0, .int 0, .ref q32, .int 0, .ref q41, .int 0, .ref q49, .ref q56, .ref q64, .null, .null, .null, .int 0])), (q7, .inl (cA 0, 44, .inl nk_z)), (q15, .inl (cA 0, 38, .inl nk_z)), (q24, .inl (cA 0, 160, .inl nk_z)), (q32, .inl (cA 0, 44, .inl nk_z)), (q41, .inl (cA 0, 304, .inl nk_z)), (q49, .inl (cA 0, 36, .inl nk_z)), (q56, .inl (cA 1, 2, .inl nk_z)), (q64, .inl (cA 0, 76, .inl nk_z)), (q72, .inl (cA 0, 6, .inl nk_z))] H := hP
  have hD : va_D A [(h0, .inr (6, [.ref q7, .ref q15, .ref q24, .int 0, .int 0, .int 0, .int 0, .int 0, .ref q32, .int 0, .ref q41, .int 0, .ref q49, .ref q56, .ref q64, .null, .null, .null, .int 0])), (q7, .inl (cA 0, 44, .inl nk_z)), (q15, .inl (cA 0, 38, .inl nk_z)), (q24, .inl (cA 0, 160, .inl nk_z)), (q32, .inl (cA 0, 44, .inl nk_z)), (q41, .inl (cA 0, 304, .inl nk_z)), (q49, .inl (cA 0, 36, .inl nk_z)), (q56, .inl (cA 1, 2, .inl nk_z)), (q64, .inl (cA 0, 76, .inl nk_z)), (q72, .inl (cA 0, 6, .inl nk_z))] := hD
  refine W.widen (k := 9) (n := 710) (by omega) (by omega) ?_
  refine va_putF (D := DD) (ci := 6) (v := .ref q72) (ty := .array .int) (C := RX6) (T := TX6) (N := 19) hx hb hts nk_wUX6 tyX6 tyX6_ok nmX6 hown hK hP hD hS 0 rfl rfl 15 (by decide) (hts _ (nk_in 608 (by decide +kernel) (by decide +kernel))) (fun _ h9 => h9) rfl hin rfl (by decide +kernel) rfl rfl (Nat.le_of_ble_eq_true rfl) (show decode cX6_init 74 = .ok (.putfield 35, 3) by decide +kernel) (fun H locs hP hD hS => ?_)
  have hP : va_P DD vwCl [(h0, .inr (6, [.ref q7, .ref q15, .ref q24, .int 0, .int 0, .int 0, .int 0, .int 0, .ref q32, .int 0, .ref q41, .int 0, .ref q49, .ref q56, .ref q64, .ref q72, .null, .null, .int 0])), (q7, .inl (cA 0, 44, .inl nk_z)), (q15, .inl (cA 0, 38, .inl nk_z)), (q24, .inl (cA 0, 160, .inl nk_z)), (q32, .inl (cA 0, 44, .inl nk_z)), (q41, .inl (cA 0, 304, .inl nk_z)), (q49, .inl (cA 0, 36, .inl nk_z)), (q56, .inl (cA 1, 2, .inl nk_z)), (q64, .inl (cA 0, 76, .inl nk_z)), (q72, .inl (cA 0, 6, .inl nk_z))] H := hP
  have hD : va_D A [(h0, .inr (6, [.ref q7, .ref q15, .ref q24, .int 0, .int 0, .int 0, .int 0, .int 0, .ref q32, .int 0, .ref q41, .int 0, .ref q49, .ref q56, .ref q64, .ref q72, .null, .null, .int 0])), (q7, .inl (cA 0, 44, .inl nk_z)), (q15, .inl (cA 0, 38, .inl nk_z)), (q24, .inl (cA 0, 160, .inl nk_z)), (q32, .inl (cA 0, 44, .inl nk_z)), (q41, .inl (cA 0, 304, .inl nk_z)), (q49, .inl (cA 0, 36, .inl nk_z)), (q56, .inl (cA 1, 2, .inl nk_z)), (q64, .inl (cA 0, 76, .inl nk_z)), (q72, .inl (cA 0, 6, .inl nk_z))] := hD
  refine lv_aload_n hx hb (show decode cX6_init 77 = .ok (.aload_n 0, 1) by decide +kernel) rfl (lv_at hl 0 rfl) ?_
  refine lv_bipush (v := 38) hx hb (show decode cX6_init 78 = .ok (.bipush 38, 2) by decide +kernel) (by decide) ?_
  refine va_newa hx hb (hts _ (nk_in 108 (by decide +kernel) (by decide +kernel))) (ty := .int) rfl hK hP hD hS hA (a0 := (38, .inl nk_z)) (N' := 38) (fun _ => rfl) (by decide) (by decide) (by decide) (show 9 + 1 ≤ 11 by decide) (show 710 + 38 ≤ 766 by decide) (show decode cX6_init 80 = .ok (.newarray .int, 2) by decide +kernel) (fun q80 c80 H hK80 hP hD hS => ?_)
  obtain rfl : c80 = cA 0 := Option.some.inj ((hK80.2 3 _ rfl).2.symm.trans (hK.2 0 _ rfl).2)
  have hP : va_P DD vwCl [(h0, .inr (6, [.ref q7, .ref q15, .ref q24, .int 0, .int 0, .int 0, .int 0, .int 0, .ref q32, .int 0, .ref q41, .int 0, .ref q49, .ref q56, .ref q64, .ref q72, .null, .null, .int 0])), (q7, .inl (cA 0, 44, .inl nk_z)), (q15, .inl (cA 0, 38, .inl nk_z)), (q24, .inl (cA 0, 160, .inl nk_z)), (q32, .inl (cA 0, 44, .inl nk_z)), (q41, .inl (cA 0, 304, .inl nk_z)), (q49, .inl (cA 0, 36, .inl nk_z)), (q56, .inl (cA 1, 2, .inl nk_z)), (q64, .inl (cA 0, 76, .inl nk_z)), (q72, .inl (cA 0, 6, .inl nk_z)), (q80, .inl (cA 0, 38, .inl nk_z))] H := hP
  have hD : va_D A [(h0, .inr (6, [.ref q7, .ref q15, .ref q24, .int 0, .int 0, .int 0, .int 0, .int 0, .ref q32, .int 0, .ref q41, .int 0, .ref q49, .ref q56, .ref q64, .ref q72, .null, .null, .int 0])), (q7, .inl (cA 0, 44, .inl nk_z)), (q15, .inl (cA 0, 38, .inl nk_z)), (q24, .inl (cA 0, 160, .inl nk_z)), (q32, .inl (cA 0, 44, .inl nk_z)), (q41, .inl (cA 0, 304, .inl nk_z)), (q49, .inl (cA 0, 36, .inl nk_z)), (q56, .inl (cA 1, 2, .inl nk_z)), (q64, .inl (cA 0, 76, .inl nk_z)), (q72, .inl (cA 0, 6, .inl nk_z)), (q80, .inl (cA 0, 38, .inl nk_z))] := hD
  refine W.widen (k := 10) (n := 748) (by omega) (by omega) ?_
  refine va_putF (D := DD) (ci := 6) (v := .ref q80) (ty := .array .int) (C := RX6) (T := TX6) (N := 19) hx hb hts nk_wUX6 tyX6 tyX6_ok nmX6 hown hK hP hD hS 0 rfl rfl 16 (by decide) (hts _ (nk_in 609 (by decide +kernel) (by decide +kernel))) (fun _ h9 => h9) rfl hin rfl (by decide +kernel) rfl rfl (Nat.le_of_ble_eq_true rfl) (show decode cX6_init 82 = .ok (.putfield 38, 3) by decide +kernel) (fun H locs hP hD hS => ?_)
  have hP : va_P DD vwCl [(h0, .inr (6, [.ref q7, .ref q15, .ref q24, .int 0, .int 0, .int 0, .int 0, .int 0, .ref q32, .int 0, .ref q41, .int 0, .ref q49, .ref q56, .ref q64, .ref q72, .ref q80, .null, .int 0])), (q7, .inl (cA 0, 44, .inl nk_z)), (q15, .inl (cA 0, 38, .inl nk_z)), (q24, .inl (cA 0, 160, .inl nk_z)), (q32, .inl (cA 0, 44, .inl nk_z)), (q41, .inl (cA 0, 304, .inl nk_z)), (q49, .inl (cA 0, 36, .inl nk_z)), (q56, .inl (cA 1, 2, .inl nk_z)), (q64, .inl (cA 0, 76, .inl nk_z)), (q72, .inl (cA 0, 6, .inl nk_z)), (q80, .inl (cA 0, 38, .inl nk_z))] H := hP
  have hD : va_D A [(h0, .inr (6, [.ref q7, .ref q15, .ref q24, .int 0, .int 0, .int 0, .int 0, .int 0, .ref q32, .int 0, .ref q41, .int 0, .ref q49, .ref q56, .ref q64, .ref q72, .ref q80, .null, .int 0])), (q7, .inl (cA 0, 44, .inl nk_z)), (q15, .inl (cA 0, 38, .inl nk_z)), (q24, .inl (cA 0, 160, .inl nk_z)), (q32, .inl (cA 0, 44, .inl nk_z)), (q41, .inl (cA 0, 304, .inl nk_z)), (q49, .inl (cA 0, 36, .inl nk_z)), (q56, .inl (cA 1, 2, .inl nk_z)), (q64, .inl (cA 0, 76, .inl nk_z)), (q72, .inl (cA 0, 6, .inl nk_z)), (q80, .inl (cA 0, 38, .inl nk_z))] := hD
  refine lv_aload_n hx hb (show decode cX6_init 85 = .ok (.aload_n 0, 1) by decide +kernel) rfl (lv_at hl 0 rfl) ?_
  refine lv_bipush (v := 18) hx hb (show decode cX6_init 86 = .ok (.bipush 18, 2) by decide +kernel) (by decide) ?_
  refine va_newa hx hb (hts _ (nk_in 108 (by decide +kernel) (by decide +kernel))) (ty := .int) rfl hK hP hD hS hA (a0 := (18, .inl nk_z)) (N' := 18) (fun _ => rfl) (by decide) (by decide) (by decide) (show 10 + 1 ≤ 11 by decide) (show 748 + 18 ≤ 766 by decide) (show decode cX6_init 88 = .ok (.newarray .int, 2) by decide +kernel) (fun q88 c88 H hK88 hP hD hS => ?_)
  obtain rfl : c88 = cA 0 := Option.some.inj ((hK88.2 3 _ rfl).2.symm.trans (hK.2 0 _ rfl).2)
  have hP : va_P DD vwCl [(h0, .inr (6, [.ref q7, .ref q15, .ref q24, .int 0, .int 0, .int 0, .int 0, .int 0, .ref q32, .int 0, .ref q41, .int 0, .ref q49, .ref q56, .ref q64, .ref q72, .ref q80, .null, .int 0])), (q7, .inl (cA 0, 44, .inl nk_z)), (q15, .inl (cA 0, 38, .inl nk_z)), (q24, .inl (cA 0, 160, .inl nk_z)), (q32, .inl (cA 0, 44, .inl nk_z)), (q41, .inl (cA 0, 304, .inl nk_z)), (q49, .inl (cA 0, 36, .inl nk_z)), (q56, .inl (cA 1, 2, .inl nk_z)), (q64, .inl (cA 0, 76, .inl nk_z)), (q72, .inl (cA 0, 6, .inl nk_z)), (q80, .inl (cA 0, 38, .inl nk_z)), (q88, .inl (cA 0, 18, .inl nk_z))] H := hP
  have hD : va_D A [(h0, .inr (6, [.ref q7, .ref q15, .ref q24, .int 0, .int 0, .int 0, .int 0, .int 0, .ref q32, .int 0, .ref q41, .int 0, .ref q49, .ref q56, .ref q64, .ref q72, .ref q80, .null, .int 0])), (q7, .inl (cA 0, 44, .inl nk_z)), (q15, .inl (cA 0, 38, .inl nk_z)), (q24, .inl (cA 0, 160, .inl nk_z)), (q32, .inl (cA 0, 44, .inl nk_z)), (q41, .inl (cA 0, 304, .inl nk_z)), (q49, .inl (cA 0, 36, .inl nk_z)), (q56, .inl (cA 1, 2, .inl nk_z)), (q64, .inl (cA 0, 76, .inl nk_z)), (q72, .inl (cA 0, 6, .inl nk_z)), (q80, .inl (cA 0, 38, .inl nk_z)), (q88, .inl (cA 0, 18, .inl nk_z))] := hD
  refine W.widen (k := 11) (n := 766) (by omega) (by omega) ?_
  refine va_putF (D := DD) (ci := 6) (v := .ref q88) (ty := .array .int) (C := RX6) (T := TX6) (N := 19) hx hb hts nk_wUX6 tyX6 tyX6_ok nmX6 hown hK hP hD hS 0 rfl rfl 17 (by decide) (hts _ (nk_in 610 (by decide +kernel) (by decide +kernel))) (fun _ h9 => h9) rfl hin rfl (by decide +kernel) rfl rfl (Nat.le_of_ble_eq_true rfl) (show decode cX6_init 90 = .ok (.putfield 41, 3) by decide +kernel) (fun H locs hP hD hS => ?_)
  have hP : va_P DD vwCl [(h0, .inr (6, [.ref q7, .ref q15, .ref q24, .int 0, .int 0, .int 0, .int 0, .int 0, .ref q32, .int 0, .ref q41, .int 0, .ref q49, .ref q56, .ref q64, .ref q72, .ref q80, .ref q88, .int 0])), (q7, .inl (cA 0, 44, .inl nk_z)), (q15, .inl (cA 0, 38, .inl nk_z)), (q24, .inl (cA 0, 160, .inl nk_z)), (q32, .inl (cA 0, 44, .inl nk_z)), (q41, .inl (cA 0, 304, .inl nk_z)), (q49, .inl (cA 0, 36, .inl nk_z)), (q56, .inl (cA 1, 2, .inl nk_z)), (q64, .inl (cA 0, 76, .inl nk_z)), (q72, .inl (cA 0, 6, .inl nk_z)), (q80, .inl (cA 0, 38, .inl nk_z)), (q88, .inl (cA 0, 18, .inl nk_z))] H := hP
  have hD : va_D A [(h0, .inr (6, [.ref q7, .ref q15, .ref q24, .int 0, .int 0, .int 0, .int 0, .int 0, .ref q32, .int 0, .ref q41, .int 0, .ref q49, .ref q56, .ref q64, .ref q72, .ref q80, .ref q88, .int 0])), (q7, .inl (cA 0, 44, .inl nk_z)), (q15, .inl (cA 0, 38, .inl nk_z)), (q24, .inl (cA 0, 160, .inl nk_z)), (q32, .inl (cA 0, 44, .inl nk_z)), (q41, .inl (cA 0, 304, .inl nk_z)), (q49, .inl (cA 0, 36, .inl nk_z)), (q56, .inl (cA 1, 2, .inl nk_z)), (q64, .inl (cA 0, 76, .inl nk_z)), (q72, .inl (cA 0, 6, .inl nk_z)), (q80, .inl (cA 0, 38, .inl nk_z)), (q88, .inl (cA 0, 18, .inl nk_z))] := hD
  refine W.widen (k := 11) (n := 766) (by omega) (by omega) ?_
  exact W.vret hx hb hr (fun t ht hW => ⟨⟨(fun k => ([q7, q15, q24, q32, q41, q49, q56, q64, q72, q80, q88] : List Nat).getD k 0), rfl, trivial, by rw [ht]; exact hP, hD⟩, hS.F ht⟩) hS.2.2 (show decode cX6_init 93 = .ok (.return_, 1) by decide +kernel) hlocks
