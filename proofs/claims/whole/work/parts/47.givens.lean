/-! THE CLAIM OUT OF ONE WALK OF THE LAW'S BODY. Your part is whole_start (and what it stands on); all else here is the same for every law, but numbers. -/
def R_law : String := "NearlyKnownLaw"
def lw_P (b : Addr) (xs : List Int32) (args : Array Value) (s : State) : Prop := args = #[.ref b] ∧ s.IntsAt b xs ∧ xs.length ≤ 256 ∧ (Jvm.Cond.and given_1 narrow_1).before args s = true
def lw_Q (_ : Array Value) (s : State) (o : Outcome) (t : State) : Prop := o = .returned (some (.int 1)) ∧ Framed s o t [] 600000 7302250
def lw_Z (below : List Frame) (a : Array Value) (s : State) : State → Prop := fun t => ∃ o, t.status = .running ∧ Ended t below o ∧ lw_Q a s o t
/-- the law's own end, with 1 on the stack, nothing written that was there before, its room as the claim has it -/
theorem lw_ret {p : Program} {l : Launch} {e : Env} {s : State} {m : MethodId} {below : List Frame} {meth : Method} {c : Code} {b : Nat} (hx : p.tables.exec = Jvm.exec) (hb : c.code = code) (hr : meth.sig.returnType = ret) (hlocks : meth.locks = false) {pc : Nat} {H : Heap} {ls : Array Slot} (hdg : decode code pc = .ok (.ireturn, 1)) : W p l e room_1 s m #[Value.ref b] below meth c H [] 600000 7302250 (lw_Z below #[Value.ref b] s) (F0 m pc ls [.int 1]) := by
  intro T hT X
  obtain ⟨fs, hret, hrun, hended, hW, hframe⟩ := X.leave (v := some (.int 1)) (hlocks := hlocks) (fun h => by rw [hr] at h; cases h)
  have hmeth' : T.vm.method? m = some meth := X.method'
  refine ⟨T.setFrames fs, ?_, .returned (some (.int 1)), hrun, hended, rfl, ⟨_, rfl⟩, hW, hframe⟩
  jvm_step X.here [X.here.top, hx, hb, hdg, hmeth', hr, ret, narrow_b1]
  (try refine ⟨rfl, ?_⟩); (try refine ⟨rfl, ?_⟩)
  first | (intro acts; rw [hret _ acts rfl rfl rfl]) | rw [hret _ _ rfl rfl rfl]
  exact Steps.refl _
/-- what holds at the law's entry: the machine, the code, the tables' words (any of lw_tbl by 'hts w (by decide +kernel)'), the script of L ints xs at the cell b, what the Statement gives of the start (any of its parts by flat_of_before) -/
def lw_At (p : Program) (s : State) (m : MethodId) (meth : Method) (c : Code) (b L : Nat) (xs : Nat → Int32) : Prop :=
  p.tables.exec = Jvm.exec ∧ c.code = code ∧ meth.sig.returnType = ret ∧ c.maxLocals = 4 ∧ s.vm.findClass R_law = some m.cls ∧ (∀ w ∈ lw_tbl, w.before #[Value.ref b] s = true) ∧ va_X b L xs s s.heap ∧ b < s.heap.size ∧ meth.locks = false ∧ (Jvm.Cond.and given_1 narrow_1).before #[Value.ref b] s = true
/-! ===== what the Statement gives of the start ===== -/
theorem nk_fB : ∀ j, j < 4 → (Cond.eq (.elem (.static "NearlyKnown" "BEARS" "[I") (.int (Int32.ofNat j))) (.int (nk_bears.getD j 0))) ∈ flatC (Jvm.Cond.and given_1 narrow_1) := by decide +kernel
theorem nk_fO : ∀ j, j < 5 → (Cond.eq (.elem (.static "NearlyKnown" "OVER" "[I") (.int (Int32.ofNat j))) (.int (nk_over.getD j 0))) ∈ flatC (Jvm.Cond.and given_1 narrow_1) := by decide +kernel
theorem nk_fS1 : ∀ i, i < 7 → (Cond.exactly (.string RX4 (nk_sx i)) "java/lang/String") ∈ flatC (Jvm.Cond.and given_1 narrow_1) := by decide +kernel
theorem nk_fS2 : ∀ i, i < 7 → (Cond.eq (.field (.string RX4 (nk_sx i)) "java/lang/String" "coder" "B") (.int 0)) ∈ flatC (Jvm.Cond.and given_1 narrow_1) := by decide +kernel
theorem nk_fS3 : ∀ i, i < 7 → (Cond.arrayOf (.field (.string RX4 (nk_sx i)) "java/lang/String" "value" "[B") .byte) ∈ flatC (Jvm.Cond.and given_1 narrow_1) := by decide +kernel
theorem nk_fS4 : ∀ i, i < 7 → (Cond.eq (.length (.field (.string RX4 (nk_sx i)) "java/lang/String" "value" "[B")) (.int (Int32.ofNat (nk_slen.getD i 0)))) ∈ flatC (Jvm.Cond.and given_1 narrow_1) := by decide +kernel
theorem nk_fS5 : ∀ i, i < 7 → ∀ j, j < nk_slen.getD i 0 → (Cond.eq (.elem (.field (.string RX4 (nk_sx i)) "java/lang/String" "value" "[B") (.int (Int32.ofNat j))) (.int ((nk_sbyt.getD i []).getD j 0))) ∈ flatC (Jvm.Cond.and given_1 narrow_1) := by decide +kernel
theorem nk_fS6 : ∀ i, i < 7 → ∀ j, j < 7 → i ≠ j → (Cond.not (Cond.eq (.string RX4 (nk_sx i)) (.string RX4 (nk_sx j)))) ∈ flatC (Jvm.Cond.and given_1 narrow_1) ∨ (Cond.not (Cond.eq (.string RX4 (nk_sx j)) (.string RX4 (nk_sx i)))) ∈ flatC (Jvm.Cond.and given_1 narrow_1) := by decide +kernel
theorem nk_fS7 : ∀ i, i < 7 → lw_tbl[([257, 335, 344, 353, 354, 355, 356] : List Nat).getD i 0]? = some (Cond.stringRef RX4 (nk_sx i) (nk_tx i)) := by decide +kernel
theorem nk_fS8 : ∀ i, i < 7 → nk_slen.getD i 0 < 2 ^ 31 := by decide +kernel
theorem nk_vkS {N : Nat} {len : List Nat} {byt : List (List Int32)} {adK adV aK aV : Nat → Nat} {A : Nat → Prop} {U : State} {H : Heap} (h : vk_S N len byt adK adV A U H) (h1 : ∀ i, i < N → aK i = adK i) (h2 : ∀ i, i < N → aV i = adV i) : vk_S N len byt aK aV A U H := by
  refine ⟨fun i hi => ?_, fun i j hi hj e => h.2 i j hi hj (by rw [← h1 i hi, ← h1 j hj]; exact e)⟩
  rw [h1 i hi, h2 i hi]
  exact h.1 i hi
set_option maxRecDepth 100000 in
theorem nk_gO {p : Program} {s : State} {m : MethodId} {meth : Method} {c : Code} {b L : Nat} {xs : Nat → Int32} (C0 : lw_At p s m meth c b L xs) : ∃ (aB aO : Nat) (adK adV : Nat → Nat) (sv : Value), nk_sv sv ∧ ∀ ad : Nat → Nat, ad 1000 = aB → ad 1001 = aO → ad 1002 = b → (∀ i, i < 7 → ad (1010 + i) = adK i) → (∀ i, i < 7 → ad (1020 + i) = adV i) → nk_O ad sv (fun q : Nat => s.heap.size ≤ q) (L, xs) s s.heap := by
  obtain ⟨hx, hb, hr, hml, hown, hts, hX, hbl, hlocks, hgv⟩ := C0
  have hs := flat_of_before _ hgv
  have hA : ∀ a : Nat, a < s.heap.size → ¬ (fun q : Nat => s.heap.size ≤ q) a := fun a h => Nat.not_le.mpr h
  have ht : ∀ (i : Nat) (w : Cond), lw_tbl[i]? = some w → w.before #[Value.ref b] s = true := fun i w h => hts w (List.mem_of_getElem? h)
  obtain ⟨aB, eB, tB⟩ := va_Tof (tm := .static "NearlyKnown" "BEARS" "[I") (ty := .int) (N := 4) (f := fun j => .int (nk_bears.getD j 0)) (A := fun q : Nat => s.heap.size ≤ q) (by decide) (hs _ (by decide +kernel)) (va_eqt (hs _ (by decide +kernel))) (fun j hj => va_eqt (hs _ (nk_fB j hj))) hA
  obtain ⟨aO, eO, tO⟩ := va_Tof (tm := .static "NearlyKnown" "OVER" "[I") (ty := .int) (N := 5) (f := fun j => .int (nk_over.getD j 0)) (A := fun q : Nat => s.heap.size ≤ q) (by decide) (hs _ (by decide +kernel)) (va_eqt (hs _ (by decide +kernel))) (fun j hj => va_eqt (hs _ (nk_fO j hj))) hA
  have z1 := va_Zof (ht 404 (.laysStatic "NearlyKnown" "BEARS" "[I") (by decide +kernel)) (ht 62 (.initialized "NearlyKnown") (by decide +kernel)) eB hA
  have z2 := va_Zof (ht 423 (.laysStatic "NearlyKnown" "OVER" "[I") (by decide +kernel)) (ht 62 (.initialized "NearlyKnown") (by decide +kernel)) eO hA
  have z3 := va_Zof (ht 271 (.laysStatic "java/lang/String" "COMPACT_STRINGS" "Z") (by decide +kernel)) (ht 70 (.initialized "java/lang/String") (by decide +kernel)) (va_eqi (z := 1) (hs _ (by decide +kernel))) hA
  obtain ⟨sv, hsv, z4⟩ : ∃ sv : Value, nk_sv sv ∧ va_Z "jdk/internal/util/Preconditions" "SIOOBE_FORMATTER" "Ljava/util/function/BiFunction;" sv (fun q : Nat => s.heap.size ≤ q) s s.heap := by
    rcases va_Zqof (ht 287 (.laysStatic "jdk/internal/util/Preconditions" "SIOOBE_FORMATTER" "Ljava/util/function/BiFunction;") (by decide +kernel)) (ht 72 (.initialized "jdk/internal/util/Preconditions") (by decide +kernel)) (hs _ (by decide +kernel)) hA with h | ⟨t, h⟩
    · exact ⟨.null, rfl, h⟩
    · exact ⟨.ref t, rfl, h⟩
  obtain ⟨adK, adV, hSS, hSe⟩ := vk_Sof (args := #[Value.ref b]) (s := s) (N := 7) (tm := fun i => .string RX4 (nk_sx i)) (len := nk_slen) (byt := nk_sbyt) (A := fun q : Nat => s.heap.size ≤ q) nk_fS8 (fun i hi => hs _ (nk_fS1 i hi)) (fun i hi => hs _ (nk_fS2 i hi)) (fun i hi => hs _ (nk_fS3 i hi)) (fun i hi => hs _ (nk_fS4 i hi)) (fun i hi j hj => hs _ (nk_fS5 i hi j hj)) (fun i j hi hj hne => (nk_fS6 i hi j hj hne).imp (fun h => hs _ h) (fun h => hs _ h)) hA
  refine ⟨aB, aO, adK, adV, sv, hsv, fun ad e1 e2 e3 e4 e5 => ?_⟩
  subst e1; subst e2; subst e3
  exact ⟨⟨z1, z2, z3, z4⟩, ⟨tB, tO⟩, ⟨hX, hbl, Nat.not_le.mpr hbl⟩, nk_vkS hSS e4 e5, fun i hi => by rw [e4 i hi]; exact vk_R.of (ht _ _ (nk_fS7 i hi)) (hSe i hi)⟩
theorem nk_gK {p : Program} {s : State} {m : MethodId} {meth : Method} {c : Code} {b L : Nat} {xs : Nat → Int32} (C0 : lw_At p s m meth c b L xs) : ∃ (DD : va_G) (cA : Nat → ClassId), va_K DD vwCl (nk_ty cA) s ∧ va_AO RX2 s := by
  obtain ⟨hx, hb, hr, hml, hown, hts0, hX, hbl, hlocks, hgv⟩ := C0
  have ht : ∀ (i : Nat) (w : Cond), lw_tbl[i]? = some w → w.before #[Value.ref b] s = true := fun i w h => hts0 w (List.mem_of_getElem? h)
  have hts : ∀ w ∈ nk_tb, w.before #[Value.ref b] s = true := fun w hw => hts0 w (List.mem_filter.mp hw).1
  obtain ⟨c0, i0, k0⟩ := u_known (C := RX0) (T := TX0) (N := 3) (n := 3) hts nk_wUX0 (ht 136 (.instantiable RX0 3) (by decide +kernel))
  obtain ⟨c1, i1, k1⟩ := u_known (C := RX1) (T := TX1) (N := 1) (n := 1) hts nk_wUX1 (ht 177 (.instantiable RX1 1) (by decide +kernel))
  obtain ⟨c2, i2, k2⟩ := u_known (C := RX2) (T := TX2) (N := 5) (n := 5) hts nk_wUX2 (ht 110 (.instantiable RX2 5) (by decide +kernel))
  obtain ⟨c3, i3, k3⟩ := u_known (C := RX3) (T := TX3) (N := 4) (n := 4) hts nk_wUX3 (ht 156 (.instantiable RX3 4) (by decide +kernel))
  obtain ⟨c4, i4, k4⟩ := u_known (C := RX4) (T := TX4) (N := 5) (n := 5) hts nk_wUX4 (ht 85 (.instantiable RX4 5) (by decide +kernel))
  obtain ⟨c5, i5, k5⟩ := u_known (C := RX5) (T := TX5) (N := 9) (n := 9) hts nk_wUX5 (ht 77 (.instantiable RX5 9) (by decide +kernel))
  obtain ⟨c6, i6, k6⟩ := u_known (C := RX6) (T := TX6) (N := 19) (n := 19) hts nk_wUX6 (ht 588 (.instantiable RX6 19) (by decide +kernel))
  obtain ⟨a0, ka0, m0, f0, g0, e0⟩ := Cond.arrayClass_spec (args := #[Value.ref b]) (first := s) (o := none) (s := s) (idx := []) (ht 108 (.arrayClass .int) (by decide +kernel))
  obtain ⟨a1, ka1, m1, f1, g1, e1⟩ := Cond.arrayClass_spec (args := #[Value.ref b]) (first := s) (o := none) (s := s) (idx := []) (ht 175 (.arrayClass .boolean) (by decide +kernel))
  have hov : (Cond.arrayOver (.object RX2)).before #[Value.ref b] s = true := ht 142 (.arrayOver (.object RX2)) (by decide +kernel)
  obtain ⟨m2, a2, ka2, d2, -, g2, e2, f2⟩ := Cond.arrayOver_spec (args := #[Value.ref b]) (first := s) (o := none) (s := s) (idx := []) hov
  refine ⟨(fun k => ([c0, c1, c2, c3, c4, c5, c6] : List ClassId).getD k c0, fun k => ([i0, i1, i2, i3, i4, i5, i6] : List (Nat → Nat)).getD k i0), fun k => ([a0, a1, a2] : List ClassId).getD k a0, ⟨?_, ?_⟩, va_AO.of hov⟩
  · intro k q hq
    match k, hq with
    | 0, hq => cases hq; exact k0
    | 1, hq => cases hq; exact k1
    | 2, hq => cases hq; exact k2
    | 3, hq => cases hq; exact k3
    | 4, hq => cases hq; exact k4
    | 5, hq => cases hq; exact k5
    | 6, hq => cases hq; exact k6
    | k + 7, hq => simp [vwCl] at hq
  · intro k q hq
    match k, hq with
    | 0, hq =>
      cases hq
      exact ⟨fun N z => ⟨(fun k h => by cases h), ka0, g0, m0, e0⟩, f0⟩
    | 1, hq =>
      cases hq
      exact ⟨fun N z => ⟨(fun k h => by cases h), ka1, g1, m1, e1⟩, f1⟩
    | 2, hq =>
      cases hq
      exact ⟨fun N z => ⟨(fun k h => by cases h), ka2, g2, m2, e2⟩, ka2, m2, g2, e2, d2, f2⟩
    | k + 3, hq => simp [nk_ty] at hq
