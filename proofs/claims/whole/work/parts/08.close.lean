/-! ===== closed under the step: the machine itself ===== -/
def nk_ty (cA : Nat → ClassId) : List (ClassId × FieldType) := [(cA 0, .int), (cA 1, .boolean), (cA 2, .object "NearlyKnown$Scene")]
/-- what lies outside the world and stays -/
def nk_O (ad : Nat → Nat) (sv : Value) (A : Nat → Prop) (S : nk_Sc) (U : State) (H : Heap) : Prop :=
  (va_Z "NearlyKnown" "BEARS" "[I" (.ref (ad 1000)) A U H ∧ va_Z "NearlyKnown" "OVER" "[I" (.ref (ad 1001)) A U H ∧ va_Z "java/lang/String" "COMPACT_STRINGS" "Z" (.int 1) A U H ∧ va_Z "jdk/internal/util/Preconditions" "SIOOBE_FORMATTER" "Ljava/util/function/BiFunction;" sv A U H) ∧
  (va_T .int (ad 1000) 4 (fun j => .int (nk_bears.getD j 0)) A U H ∧ va_T .int (ad 1001) 5 (fun j => .int (nk_over.getD j 0)) A U H) ∧
  (va_X (ad 1002) S.1 S.2 U H ∧ ad 1002 < H.size ∧ ¬ A (ad 1002)) ∧
  vk_S 7 nk_slen nk_sbyt (fun i => ad (1010 + i)) (fun i => ad (1020 + i)) A U H ∧
  ∀ i, i < 7 → vk_R RX4 (nk_sx i) (nk_tx i) (ad (1010 + i)) U
theorem nk_O_go {ad : Nat → Nat} {sv : Value} {A : Nat → Prop} {S : nk_Sc} {u U : State} {H : Heap} {locs : List Loc} (h : nk_O ad sv A S u u.heap) (hW : u.WarmedH U.vm) (hS : va_S A u.heap H locs) : nk_O ad sv A S U H := by
  obtain ⟨⟨z1, z2, z3, z4⟩, ⟨t1, t2⟩, ⟨x1, x2, x3⟩, s1, s2⟩ := h
  have ha := hW.alike
  refine ⟨⟨(z1.moved ha).kept hS.2.1, (z2.moved ha).kept hS.2.1, (z3.moved ha).kept hS.2.1, (z4.moved ha).kept hS.2.1⟩, ⟨(t1.moved ha).kept hS.2.1, (t2.moved ha).kept hS.2.1⟩, ⟨(x1.moved ha).kept (hS.2.1 _ x2 x3), Nat.lt_of_lt_of_le x2 hS.1, x3⟩, (s1.moved ha).kept hS.2.1, fun i hi => (s2 i hi).warm hW⟩
theorem nk_O_same {ad : Nat → Nat} {sv : Value} {A : Nat → Prop} {S : nk_Sc} {u U : State} {H : Heap} (h : nk_O ad sv A S u H) (hv : U.vm = u.vm) : nk_O ad sv A S U H := by
  obtain ⟨⟨z1, z2, z3, z4⟩, ⟨t1, t2⟩, ⟨x1, x2, x3⟩, s1, s2⟩ := h
  have ha : u.vm.Alike U.vm := by rw [hv]; exact Vm.Alike.refl u.vm
  exact ⟨⟨z1.moved ha, z2.moved ha, z3.moved ha, z4.moved ha⟩, ⟨t1.moved ha, t2.moved ha⟩, ⟨x1.moved ha, x2, x3⟩, s1.moved ha, fun i hi => (s2 i hi).same hv⟩
theorem nk_N_go {u U : State} (hW : u.WarmedH U.vm) (h : ∀ w ∈ nk_nb, w.before #[] u = true) : ∀ w ∈ nk_nb, w.before #[] U = true := by
  intro w hw
  have h1 := h w hw
  have h2 := (List.mem_filter.mp hw).2
  cases w <;> first | (simp [nk_isN] at h2; done) | exact va_Nw.warmF hW h1 | exact va_Nw.warmM hW h1
theorem nk_N_same {u U : State} (hv : U.vm = u.vm) (h : ∀ w ∈ nk_nb, w.before #[] u = true) : ∀ w ∈ nk_nb, w.before #[] U = true := by
  intro w hw
  have h1 := h w hw
  have h2 := (List.mem_filter.mp hw).2
  cases w <;> first | (simp [nk_isN] at h2; done) | exact va_Nw.same rfl hv.symm h1
def nk_sv (sv : Value) : Prop := sv.category = 1
theorem nk_av_cat {ad : Nat → Nat} {sv : Value} (h : nk_sv sv) (x : Value) : (nk_av ad sv x).category = x.category := by
  cases x <;> first | rfl | exact h
/-- a method's world: what stands at its start -/
def nk_Iv (DD : va_G) (ad : Nat → Nat) (cA : Nat → ClassId) (A : Nat → Prop) (sv : Value) (S : nk_Sc) (D : nk_D) (U : State) : Prop :=
  va_P DD vwCl (nk_cw ad cA D) U.heap ∧ va_K DD vwCl (nk_ty cA) U ∧ (∀ w ∈ nk_nb, w.before #[] U = true) ∧ nk_O ad sv A S U U.heap
def nk_Qc (DD : va_G) (ad : Nat → Nat) (cA : Nat → ClassId) (A : Nat → Prop) (sv : Value) (P : nk_P) : Array Value → State → Outcome → State → Prop := fun _ st oc t =>
  (∃ (r : Option Value) (D : nk_D), oc = .returned (r.map (nk_av ad sv)) ∧ P r D ∧ va_P DD vwCl (nk_cw ad cA D) t.heap) ∧ va_F A st t
def nk_ws (M : nk_M) : List Cond := Cond.code M.2.1 M.2.2.1 M.2.2.2.1 M.2.2.2.2.1 :: nk_tb
def nk_rm (d : Nat) : Room := { frames := d, cells := 0, slots := 0, locals := 64 * d }
def nk_Met (l : Launch) (DD : va_G) (ad : Nat → Nat) (cA : Nat → ClassId) (A : Nat → Prop) (sv : Value) (S : nk_Sc) (rm : Room) (M : nk_M) (vs : List Value) (D : nk_D) (P : nk_P) : Prop :=
  Met l M.2.1 (nk_ws M) rm (va_Pc (vs.map (nk_av ad sv)) (nk_Iv DD ad cA A sv S D)) (nk_Qc DD ad cA A sv P) 0 0 A
def nk_na (M : nk_M) : Nat := match M.2.2.2.2.2.1 with
  | true => M.2.2.2.2.2.2.1
  | false => M.2.2.2.2.2.2.1 + 1
theorem nk_tb_good : ∀ w ∈ nk_tb, goodWord w = true := fun w hw => (List.mem_filter.mp hw).2
theorem nk_GoodIn {M : nk_M} (h : nk_okM M) : GoodIn nk_tb (nk_ws M) := by
  intro w hw
  rcases List.mem_cons.mp hw with e | e
  · subst e
    exact ⟨h.1, good_of_word (nk_tb_good _ h.1)⟩
  · exact ⟨e, good_of_word (nk_tb_good _ e)⟩
section NKC
variable {p : Program} {l : Launch} {e : Env} {R : Room} {s : State} {m : MethodId} {args : Array Value} {below : List Frame} {meth : Method} {c : Code} {cells slots : Nat} {Z : State → Prop} {A : Nat → Prop} {ad : Nat → Nat} {cA : Nat → ClassId} {DD : va_G} {sv : Value} {S : nk_Sc} {nL : Nat} {cc : ByteArray} {o : Nat}
/-- what a walk stands on -/
def nk_C (p : Program) (R : Room) (s : State) (m : MethodId) (args : Array Value) (c : Code) (cells slots : Nat) (A : Nat → Prop) (ad : Nat → Nat) (cA : Nat → ClassId) (DD : va_G) (sv : Value) (S : nk_Sc) (nL : Nat) (cc : ByteArray) (o : Nat) : Prop :=
  p.tables.exec = Jvm.exec ∧ c.code = cc ∧ c.maxLocals = nL ∧ s.vm.findClass (nk_on o) = some m.cls ∧ (∀ w ∈ nk_tb, w.before args s = true) ∧ (∀ w ∈ nk_nb, w.before #[] s = true) ∧ va_K DD vwCl (nk_ty cA) s ∧ (∀ D, va_D A (nk_cw ad cA D)) ∧ nk_O ad sv A S s s.heap ∧ nk_sv sv ∧ (1 ≤ R.frames ∧ 64 ≤ R.locals ∧ cells ≤ R.cells ∧ slots ≤ R.slots)
def nk_WK (p : Program) (l : Launch) (e : Env) (R : Room) (s : State) (m : MethodId) (args : Array Value) (below : List Frame) (meth : Method) (c : Code) (cells slots : Nat) (Z : State → Prop) (A : Nat → Prop) (ad : Nat → Nat) (cA : Nat → ClassId) (DD : va_G) (sv : Value) (nL : Nat) : nk_K := fun pc loc stk D =>
  loc.length = nL → ∀ (H : Heap) (locs : List Loc) (ls : Array Slot), lv_has ls nL (nk_lp (nk_av ad sv) 0 loc) → va_P DD vwCl (nk_cw ad cA D) H → va_S A s.heap H locs → W p l e R s m args below meth c H locs cells slots Z (F0 m pc ls (stk.map (nk_av ad sv)))
/-- behind a call -/
theorem nk_callK {H : Heap} {locs : List Loc} {Q : State → Prop} {pc : Nat} {ls : Array Slot} {st0 rest : List Value} {a : Array Value} {P : nk_P} (hr : va_Run p l e R s m args below meth c H locs cells slots 0 0 (F0 m pc ls st0) rest (nk_Qc DD ad cA A sv P a) A) (hS : va_S A s.heap H locs)
    (kk : ∀ (r : Option Value) (D : nk_D) (H1 : Heap) (locs1 : List Loc), P r D → va_P DD vwCl (nk_cw ad cA D) H1 → va_S A s.heap H1 locs1 → W p l e R s m args below meth c H1 locs1 cells slots Q (F0 m (pc + 3) ls ((r.map (nk_av ad sv)).toList ++ rest))) : W p l e R s m args below meth c H locs cells slots Q (F0 m pc ls st0) := by
  intro T hT X
  obtain ⟨v, st₀, t, T', L, h0, X', hL, e1, e2, ⟨⟨r, D, hv, hp, hb⟩, hz, hk⟩, st⟩ := hr T hT X
  cases hv
  rw [h0] at hz hk
  obtain ⟨t2, a1, b1⟩ := kk r D T'.heap (locs ++ L) hp (by rw [e1]; exact hb)
    ⟨Nat.le_trans hS.1 (by rw [e1]; exact hz), fun q h1 h2 => by rw [e1, hk q (Nat.lt_of_lt_of_le h1 hS.1) h2]; exact hS.2.1 q h1 h2, fun q hq => by
      rcases List.mem_append.mp hq with h | h
      · exact hS.2.2 q h
      · exact hL q h⟩ T' rfl X'
  exact ⟨t2, st t2 a1, b1⟩
theorem nk_pre (C : nk_C p R s m args c cells slots A ad cA DD sv S nL cc o) {D : nk_D} {H : Heap} {locs : List Loc} (hP : va_P DD vwCl (nk_cw ad cA D) H) (hS : va_S A s.heap H locs) (U : State) (hU : U.heap = H) (hW : s.WarmedH U.vm) : nk_Iv DD ad cA A sv S D U := by
  obtain ⟨-, -, -, -, -, hn, hK, -, hO, -⟩ := C
  refine ⟨by rw [hU]; exact hP, va_K.moved hW.alike hK, nk_N_go hW hn, ?_⟩
  rw [hU]
  exact nk_O_go hO hW hS
theorem nk_blind (vs : List Value) (D : nk_D) : FrameBlind (va_Pc vs (nk_Iv DD ad cA A sv S D)) := by
  intro a U g mk q
  obtain ⟨q0, qP, qK, qN, qO⟩ := q
  exact ⟨q0, qP, va_K.moved (u := U) (U := U.calling g mk a) (Vm.Alike.refl U.vm) qK, nk_N_same (u := U) (U := U.calling g mk a) rfl qN, nk_O_same (u := U) (U := U.calling g mk a) qO rfl⟩
theorem nk_catsum {ad : Nat → Nat} {sv : Value} (h : nk_sv sv) (rest : List Value) (hl : rest.length ≤ 4) : ((rest.map (nk_av ad sv)).map fun v => v.category).sum ≤ 8 := by
  have key : ∀ l : List Value, ((l.map (nk_av ad sv)).map fun v => v.category).sum ≤ 2 * l.length := by
    intro l
    induction l with
    | nil => simp
    | cons a t ih =>
      have h2 : (nk_av ad sv a).category ≤ 2 := by
        rcases lv_cat (nk_av ad sv a) with q | q <;> omega
      simp only [List.map_cons, List.sum_cons, List.length_cons]
      omega
  have := key rest
  omega
end NKC
