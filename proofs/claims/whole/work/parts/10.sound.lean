/-! ===== the abstract machine is sound ===== -/
theorem nk_pop_spec : ∀ (n : Nat) (acc st r t : List Value), nk_pop n acc st = some (r, t) → r.reverse ++ t = acc.reverse ++ st
  | 0, acc, st, r, t, h => by
    simp only [nk_pop, Option.some.injEq, Prod.mk.injEq] at h
    rw [h.1, h.2]
  | n + 1, acc, [], r, t, h => by simp [nk_pop] at h
  | n + 1, acc, v :: st, r, t, h => by
    rw [nk_pop] at h
    rw [nk_pop_spec n (v :: acc) st r t h]
    simp
section NKS
variable {p : Program} {l : Launch} {e : Env} {R : Room} {s : State} {m : MethodId} {args : Array Value} {below : List Frame} {meth : Method} {c : Code} {cells slots : Nat} {Z : State → Prop} {A : Nat → Prop} {ad : Nat → Nat} {cA : Nat → ClassId} {DD : va_G} {sv : Value} {S : nk_Sc} {nL : Nat} {cc : ByteArray} {o : Nat}
def nk_CallOk (l : Launch) (DD : va_G) (ad : Nat → Nat) (cA : Nat → ClassId) (A : Nat → Prop) (sv : Value) (S : nk_Sc) (R : Room) (call : Nat → List Value → nk_D → nk_P → Prop) : Prop :=
  ∀ (mu : Nat) (vs : List Value) (D : nk_D) (P : nk_P), call mu vs D P → ∃ (M : nk_M) (rm : Room), nk_ms[mu]? = some M ∧ vs.length = nk_na M ∧ rm.cells = 0 ∧ rm.slots = 0 ∧ rm.frames + 1 ≤ R.frames ∧ 8 + (20 + 11) + rm.locals ≤ R.locals ∧ nk_Met l DD ad cA A sv S rm M vs D P
def nk_RetOk (p : Program) (l : Launch) (e : Env) (R : Room) (s : State) (m : MethodId) (args : Array Value) (below : List Frame) (meth : Method) (c : Code) (cells slots : Nat) (Z : State → Prop) (A : Nat → Prop) (ad : Nat → Nat) (cA : Nat → ClassId) (DD : va_G) (sv : Value) (cc : ByteArray) (r : Option FieldType) (P : nk_P) : Prop :=
  (∀ (pc : Nat) (ls : Array Slot) (H : Heap) (locs : List Loc) (D : nk_D) (x : Int32) (ty : FieldType), decode cc pc = .ok (.ireturn, 1) → r = some ty → narrow ty (.int x) = .int x → P (some (.int x)) D → va_P DD vwCl (nk_cw ad cA D) H → va_S A s.heap H locs → W p l e R s m args below meth c H locs cells slots Z (F0 m pc ls [.int x])) ∧
  (∀ (pc : Nat) (ls : Array Slot) (H : Heap) (locs : List Loc) (D : nk_D) (x : Int64), decode cc pc = .ok (.lreturn, 1) → r = some .long → P (some (.long x)) D → va_P DD vwCl (nk_cw ad cA D) H → va_S A s.heap H locs → W p l e R s m args below meth c H locs cells slots Z (F0 m pc ls [.long x])) ∧
  (∀ (pc : Nat) (ls : Array Slot) (H : Heap) (locs : List Loc) (D : nk_D), decode cc pc = .ok (.return_, 1) → r = none → P none D → va_P DD vwCl (nk_cw ad cA D) H → va_S A s.heap H locs → W p l e R s m args below meth c H locs cells slots Z (F0 m pc ls []))
theorem nk_rv_recv (C : nk_C p R s m args c cells slots A ad cA DD sv S nL cc o) {k ci : Nat} {M : nk_M} {mu : Nat} (hM : nk_ms[mu]? = some M) (hv : nk_vir mu ci = true) (hr : nk_rv k ci = true) {D : nk_D} {H : Heap} {locs : List Loc} (hP : va_P DD vwCl (nk_cw ad cA D) H) (hS : va_S A s.heap H locs) : M.2.2.2.2.2.1 = false ∧ ∃ cellB : Cell, H[ad k]? = some cellB ∧ cellB.vm.isStatics = false ∧ s.vm.findClass M.2.1.cls = some cellB.cls := by
  obtain ⟨hx, hb, hml, hown, hts, hnb, hK, hDD, hO, hsv, hroom⟩ := id C
  unfold nk_vir at hv
  rw [hM] at hv
  simp only [Bool.and_eq_true, Bool.not_eq_true'] at hv
  obtain ⟨h1, h2⟩ := hv
  refine ⟨h1, ?_⟩
  unfold nk_rv at hr
  split at hr
  · next c0 fl hsk =>
    have e0 : c0 = ci := Nat.eq_of_beq_eq_true hr
    subst e0
    have hskl := nk_sk_in hsk rfl
    have hsm := nk_small _ (List.mem_of_getElem? hskl)
    simp only [nk_smb, Bool.and_eq_true, decide_eq_true_eq] at hsm
    have hat := nk_cw_at (ad := ad) (cA := cA) (D := D) hskl
    cases hc : vwCl[c0]? with
    | none => rw [hc] at hsm; simp at hsm
    | some q =>
      rw [hc] at h2
      have h3 : q.1 = M.2.1.cls := by simpa using h2
      rw [← h3]
      exact va_recv hK hP hc hat
  · next o' hsk =>
    have ho : o' = k := nk_sk_out hsk
    subst ho
    simp only [Bool.and_eq_true] at hr
    obtain ⟨⟨q1, q2⟩, q3⟩ := hr
    have e1 : ci = 100 := Nat.eq_of_beq_eq_true q1
    have e2 : 1010 ≤ o' := Nat.le_of_ble_eq_true q2
    have e3 : o' < 1017 := Nat.lt_of_lt_of_le (Nat.lt_succ_self _) (Nat.le_of_ble_eq_true q3)
    subst e1
    have hc : vwCl[100]? = none := rfl
    rw [hc] at h2
    have h3 : M.2.1.cls = "java/lang/String" := by simpa using h2
    obtain ⟨i, rfl⟩ : ∃ i, o' = 1010 + i := ⟨o' - 1010, by omega⟩
    rw [h3]
    exact vk_recv (i := i) (adK := fun i => ad (1010 + i)) hO.2.2.2.1 (by omega) hS
  · cases hr
theorem nk_invV (C : nk_C p R s m args c cells slots A ad cA DD sv S nL cc o) {call : Nat → List Value → nk_D → nk_P → Prop} (hcall : nk_CallOk l DD ad cA A sv S R call) {pc idx a ci k : Nat} {loc : nk_L} {stk vs t : List Value} {D : nk_D} (hd : decode cc pc = .ok (.invokevirtual idx, 3)) (hl : (o, idx, a) ∈ nk_LC) (hv : nk_vir a ci = true) (hr : nk_rv k ci = true) (hst : (Value.ref k :: vs).reverse ++ t = stk)
    (h : nk_call call a (.ref k :: vs) t D (fun st D' => nk_WK p l e R s m args below meth c cells slots Z A ad cA DD sv nL (pc + 3) loc st D')) : nk_WK p l e R s m args below meth c cells slots Z A ad cA DD sv nL pc loc stk D := by
  obtain ⟨hx, hb, hml, hown, hts, hnb, hK, hDD, hO, hsv, hroom⟩ := id C
  intro hlen H locs ls hls hP hS
  unfold nk_call at h
  split at h
  · next ht =>
    have ht : t.length ≤ 4 := Nat.le_of_ble_eq_true ht
    obtain ⟨M, rm, hM, hn, r1, r2, r3, r4, hmet⟩ := hcall _ _ _ _ h
    obtain ⟨hvirt, hrecv⟩ := nk_rv_recv C hM hv hr hP hS
    have hok : nk_okM M := nk_okMs M (List.mem_of_getElem? hM)
    obtain ⟨k1, k2, k3, k4, k5, k6, k7, k8⟩ := id hok
    have hinst : Cond.instanceMethod M.2.1 ∈ nk_tb ∧ Cond.selects M.2.1.cls M.2.1 M.2.1 ∈ nk_tb := by
      rcases k8 with q | q
      · rw [hvirt] at q; cases q.1
      · exact q.2
    have hlen2 : (vs.map (nk_av ad sv)).length = M.2.2.2.2.2.2.1 := by
      simp only [nk_na, hvirt, List.length_cons] at hn
      rw [List.length_map]
      omega
    have hstack : stk.map (nk_av ad sv) = (vs.map (nk_av ad sv)).reverse ++ .ref (ad k) :: t.map (nk_av ad sv) := by
      rw [← hst]
      simp [nk_av]
    have hpre : PreV s H M.2.1.cls (ad k) (va_Pc ((Value.ref k :: vs).map (nk_av ad sv)) (nk_Iv DD ad cA A sv S D)) (vs.map (nk_av ad sv)) := ⟨nk_blind _ _, hrecv, fun U hU hW => ⟨rfl, nk_pre C hP hS U hU hW⟩⟩
    have hR : rm.frames + 1 ≤ R.frames ∧ 8 + (M.2.2.2.1 + 11) + rm.locals ≤ R.locals := ⟨r3, by omega⟩
    have hlk := nk_okCs _ hl
    have fin : ∀ (rr : Option Value) (D' : nk_D) (H1 : Heap) (locs1 : List Loc), nk_WK p l e R s m args below meth c cells slots Z A ad cA DD sv nL (pc + 3) loc (rr.toList ++ t) D' → va_P DD vwCl (nk_cw ad cA D') H1 → va_S A s.heap H1 locs1 → W p l e R s m args below meth c H1 locs1 cells slots Z (F0 m (pc + 3) ls ((rr.map (nk_av ad sv)).toList ++ t.map (nk_av ad sv))) := by
      intro rr D' H1 locs1 hp hP1 hS1
      have := hp hlen H1 locs1 ls hls hP1 hS1
      cases rr <;> exact this
    rw [hstack]
    have hM999 : a ≠ 997 ∧ a ≠ 998 ∧ a ≠ 999 := by
      have hlt := (List.getElem?_eq_some_iff.mp hM).1
      have : nk_ms.length < 900 := by decide +kernel
      omega
    rcases hlk with q | q | q | ⟨M2, q1, q2⟩
    · exact absurd q.1 hM999.1
    · exact absurd q.1 hM999.2.1
    · exact absurd q.1 hM999.2.2
    · have : M2 = M := Option.some.inj (q1.symm.trans hM)
      subst this
      rcases q2 with q2 | ⟨host, q2⟩
      · refine nk_callK (va_runV (bytes := M2.2.2.1) (maxL := M2.2.2.2.1) (ret := M2.2.2.2.2.1) (C := M2.2.1.cls) (n := M2.2.2.2.2.2.2.1) ⟨hx, hb, hml, hown, hts⟩ hmet ⟨callB_of _ hts (nk_GoodIn hok) rfl r1 r2 (hts _ k2) (hts _ q2) k4 hR, hts _ hinst.1, hts _ hinst.2⟩ hpre rfl hlen2 hls.1 rfl (lv_room (nk_catsum hsv t ht)) hd ⟨hroom.2.2.1, hroom.2.2.2⟩) hS fin
      · refine nk_callK (va_runVN (bytes := M2.2.2.1) (maxL := M2.2.2.2.1) (ret := M2.2.2.2.2.1) (C := M2.2.1.cls) (n := M2.2.2.2.2.2.2.1) (host := host) ⟨hx, hb, hml, hown, hts⟩ hmet ⟨va_cnB _ hts (nk_GoodIn hok) rfl r1 r2 (hnb _ q2) (hts _ k2) k4 hR, hts _ hinst.1, hts _ hinst.2⟩ hpre rfl hlen2 hls.1 rfl (lv_room (nk_catsum hsv t ht)) hd ⟨hroom.2.2.1, hroom.2.2.2⟩) hS fin
  · exact h.elim
theorem nk_invS (C : nk_C p R s m args c cells slots A ad cA DD sv S nL cc o) {call : Nat → List Value → nk_D → nk_P → Prop} (hcall : nk_CallOk l DD ad cA A sv S R call) {pc idx a : Nat} {loc : nk_L} {stk vs t : List Value} {D : nk_D} (hd : decode cc pc = .ok (.invokestatic idx, 3)) (hl : (o, idx, a) ∈ nk_LC) (hv : nk_sta a = true) (ha : Nat.ble 997 a = false) (hst : vs.reverse ++ t = stk)
    (h : nk_call call a vs t D (fun st D' => nk_WK p l e R s m args below meth c cells slots Z A ad cA DD sv nL (pc + 3) loc st D')) : nk_WK p l e R s m args below meth c cells slots Z A ad cA DD sv nL pc loc stk D := by
  obtain ⟨hx, hb, hml, hown, hts, hnb, hK, hDD, hO, hsv, hroom⟩ := id C
  intro hlen H locs ls hls hP hS
  unfold nk_call at h
  split at h
  · next ht =>
    have ht : t.length ≤ 4 := Nat.le_of_ble_eq_true ht
    obtain ⟨M, rm, hM, hn, r1, r2, r3, r4, hmet⟩ := hcall _ _ _ _ h
    have hsta : M.2.2.2.2.2.1 = true := by
      unfold nk_sta at hv
      rw [ha, hM] at hv
      simpa using hv
    have hok : nk_okM M := nk_okMs M (List.mem_of_getElem? hM)
    obtain ⟨k1, k2, k3, k4, k5, k6, k7, k8⟩ := id hok
    have hst2 : Cond.static M.2.1 ∈ nk_tb := by
      rcases k8 with q | q
      · exact q.2
      · rw [hsta] at q; cases q.1
    have hlen2 : (vs.map (nk_av ad sv)).length = M.2.2.2.2.2.2.1 := by
      simp only [nk_na, hsta] at hn
      rw [List.length_map]
      exact hn
    have hstack : stk.map (nk_av ad sv) = (vs.map (nk_av ad sv)).reverse ++ t.map (nk_av ad sv) := by
      rw [← hst]
      simp
    have hpre : PreS s H (va_Pc (vs.map (nk_av ad sv)) (nk_Iv DD ad cA A sv S D)) (vs.map (nk_av ad sv)) := ⟨nk_blind _ _, fun U hU hW => ⟨rfl, nk_pre C hP hS U hU hW⟩⟩
    have hR : rm.frames + 1 ≤ R.frames ∧ 8 + (M.2.2.2.1 + 11) + rm.locals ≤ R.locals := ⟨r3, by omega⟩
    have hlk := nk_okCs _ hl
    have fin : ∀ (rr : Option Value) (D' : nk_D) (H1 : Heap) (locs1 : List Loc), nk_WK p l e R s m args below meth c cells slots Z A ad cA DD sv nL (pc + 3) loc (rr.toList ++ t) D' → va_P DD vwCl (nk_cw ad cA D') H1 → va_S A s.heap H1 locs1 → W p l e R s m args below meth c H1 locs1 cells slots Z (F0 m (pc + 3) ls ((rr.map (nk_av ad sv)).toList ++ t.map (nk_av ad sv))) := by
      intro rr D' H1 locs1 hp hP1 hS1
      have := hp hlen H1 locs1 ls hls hP1 hS1
      cases rr <;> exact this
    rw [hstack]
    have hM999 : a ≠ 997 ∧ a ≠ 998 ∧ a ≠ 999 := by
      have hlt := (List.getElem?_eq_some_iff.mp hM).1
      have : nk_ms.length < 900 := by decide +kernel
      omega
    rcases hlk with q | q | q | ⟨M2, q1, q2⟩
    · exact absurd q.1 hM999.1
    · exact absurd q.1 hM999.2.1
    · exact absurd q.1 hM999.2.2
    · have : M2 = M := Option.some.inj (q1.symm.trans hM)
      subst this
      rcases q2 with q2 | ⟨host, q2⟩
      · refine nk_callK (va_runS (bytes := M2.2.2.1) (maxL := M2.2.2.2.1) (ret := M2.2.2.2.2.1) (n := M2.2.2.2.2.2.2.1) ⟨hx, hb, hml, hown, hts⟩ hmet ⟨callB_of _ hts (nk_GoodIn hok) rfl r1 r2 (hts _ k2) (hts _ q2) k4 hR, hts _ hst2⟩ hpre rfl hlen2 hls.1 rfl (lv_room (nk_catsum hsv t ht)) hd ⟨hroom.2.2.1, hroom.2.2.2⟩) hS fin
      · refine nk_callK (va_runSN (bytes := M2.2.2.1) (maxL := M2.2.2.2.1) (ret := M2.2.2.2.2.1) (n := M2.2.2.2.2.2.2.1) (host := host) ⟨hx, hb, hml, hown, hts⟩ hmet ⟨va_cnB _ hts (nk_GoodIn hok) rfl r1 r2 (hnb _ q2) (hts _ k2) k4 hR, hts _ hst2, trivial⟩ hpre rfl hlen2 hls.1 rfl (lv_room (nk_catsum hsv t ht)) hd ⟨hroom.2.2.1, hroom.2.2.2⟩) hS fin
  · exact h.elim
theorem nk_natS (C : nk_C p R s m args c cells slots A ad cA DD sv S nL cc o) {pc idx a : Nat} {loc : nk_L} {stk : List Value} {D : nk_D} (hd : decode cc pc = .ok (.invokestatic idx, 3)) (hl : (o, idx, a) ∈ nk_LC) (ha : Nat.ble 997 a = true)
    (h : nk_nat a stk D (fun st D' => nk_WK p l e R s m args below meth c cells slots Z A ad cA DD sv nL (pc + 3) loc st D')) : nk_WK p l e R s m args below meth c cells slots Z A ad cA DD sv nL pc loc stk D := by
  obtain ⟨hx, hb, hml, hown, hts, hnb, hK, hDD, hO, hsv, hroom⟩ := id C
  have ha : 997 ≤ a := Nat.le_of_ble_eq_true ha
  have hlk := nk_okCs _ hl
  have noM : ∀ M2, nk_ms[a]? = some M2 → False := by
    intro M2 q
    have hlt := (List.getElem?_eq_some_iff.mp q).1
    have : nk_ms.length < 900 := by decide +kernel
    omega
  unfold nk_nat at h
  split at h
  · next h9 =>
    have h9 : a = 999 := Nat.eq_of_beq_eq_true h9
    subst h9
    split at h
    · split at h
      · next ht =>
        rcases hlk with q | q | q | ⟨M2, q1, q2⟩
        · exact absurd q.1 (by simp)
        · exact absurd q.1 (by simp)
        · exact nk_arraycopy C hd q.2 (Nat.le_of_ble_eq_true ht) h
        · exact (noM _ q1).elim
      · exact h.elim
    · exact h.elim
  · split at h
    · next y x t =>
      split at h
      · next ht =>
        have hcs := nk_catsum (ad := ad) hsv t (Nat.le_of_ble_eq_true ht)
        split at h
        · next h7 =>
          have h7 : a = 997 := Nat.eq_of_beq_eq_true h7
          subst h7
          intro hlen H locs ls hls hP hS
          rcases hlk with q | q | q | ⟨M2, q1, q2⟩
          · exact va_mmax hx hb (by rw [hml]; exact hls.1.symm) hown (hts _ q.2.1) (hts _ q.2.2.1) (hts _ q.2.2.2.1) (hts _ q.2.2.2.2) hroom.1 (by omega) hroom.2.2.1 hroom.2.2.2 hd (h hlen H locs ls hls hP hS)
          · exact absurd q.1 (by simp)
          · exact absurd q.1 (by simp)
          · exact (noM _ q1).elim
        · split at h
          · next h8 =>
            have h8 : a = 998 := Nat.eq_of_beq_eq_true h8
            subst h8
            intro hlen H locs ls hls hP hS
            rcases hlk with q | q | q | ⟨M2, q1, q2⟩
            · exact absurd q.1 (by simp)
            · exact va_mmin hx hb (by rw [hml]; exact hls.1.symm) hown (hts _ q.2.1) (hts _ q.2.2.1) (hts _ q.2.2.2.1) (hts _ q.2.2.2.2) hroom.1 (by omega) hroom.2.2.1 hroom.2.2.2 hd (h hlen H locs ls hls hP hS)
            · exact absurd q.1 (by simp)
            · exact (noM _ q1).elim
          · exact h.elim
      · exact h.elim
    · exact h.elim
end NKS
