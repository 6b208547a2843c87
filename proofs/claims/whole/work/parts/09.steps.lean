/-! ===== each instruction, one by one ===== -/
section NKI
variable {p : Program} {l : Launch} {e : Env} {R : Room} {s : State} {m : MethodId} {args : Array Value} {below : List Frame} {meth : Method} {c : Code} {cells slots : Nat} {Z : State → Prop} {A : Nat → Prop} {ad : Nat → Nat} {cA : Nat → ClassId} {DD : va_G} {sv : Value} {S : nk_Sc} {nL : Nat} {cc : ByteArray} {o : Nat}
abbrev nk_w (p : Program) (l : Launch) (e : Env) (R : Room) (s : State) (m : MethodId) (args : Array Value) (below : List Frame) (meth : Method) (c : Code) (cells slots : Nat) (Z : State → Prop) (A : Nat → Prop) (ad : Nat → Nat) (cA : Nat → ClassId) (DD : va_G) (sv : Value) (nL : Nat) : nk_K := nk_WK p l e R s m args below meth c cells slots Z A ad cA DD sv nL
theorem nk_cl_in {i : Int32} {j n : Nat} (hi : i = nI j) (hj : j < n) (hn : n < 2 ^ 31) : vp_in i n ∧ i.toNatClampNeg = j := by
  subst hi
  exact ⟨vp_in_nI hj hn, nI_clamp (by omega)⟩
def nk_smb : nk_S → Bool
  | .inl (t, n) => decide (n < 1000 ∧ (t = 0 ∨ t = 1))
  | .inr (.inl rs) => decide (rs.length < 1000)
  | .inr (.inr (.inl (ci, fl))) => decide (ci < 7) && (match vwCl[ci]? with
    | some (_, T, _) => (List.range fl.length).all (fun b => match fl[b]? with
      | some none => decide ((T b).2.2.2 = false ∧ parseFieldDescriptor (T b).2.2.1 = some .int)
      | _ => true)
    | none => false)
  | _ => false
theorem nk_small : ∀ c ∈ nk_skl, nk_smb c = true := by decide +kernel
theorem nk_small1 {k t n : Nat} (h : nk_sk k = .inl (t, n)) : n < 2 ^ 31 := by
  have := nk_small _ (List.mem_of_getElem? (nk_sk_in h rfl))
  simp only [nk_smb, decide_eq_true_eq] at this
  omega
theorem nk_small2 {k : Nat} {rs : List Nat} (h : nk_sk k = .inr (.inl rs)) : rs.length < 2 ^ 31 := by
  have := nk_small _ (List.mem_of_getElem? (nk_sk_in h rfl))
  simp only [nk_smb, decide_eq_true_eq] at this
  omega
theorem nk_getfield (C : nk_C p R s m args c cells slots A ad cA DD sv S nL cc o) {pc idx a b k : Nat} {loc : nk_L} {t : List Value} {D : nk_D} (hd : decode cc pc = .ok (.getfield idx, 3)) (hl : (o, idx, a, b) ∈ nk_LF ∨ (o, idx, a, b) ∈ nk_LFs)
    (h : nk_gf k a b D (fun x => nk_WK p l e R s m args below meth c cells slots Z A ad cA DD sv nL (pc + 3) loc (x :: t) D)) : nk_WK p l e R s m args below meth c cells slots Z A ad cA DD sv nL pc loc (.ref k :: t) D := by
  obtain ⟨hx, hb, hml, hown, hts, hnb, hK, hDD, hO, hsv, hroom⟩ := id C
  intro hlen H locs ls hls hP hS
  unfold nk_gf at h
  split at h
  · next ci fl hsk =>
    split at h
    · next hci =>
      have hci' : ci = a := Nat.eq_of_beq_eq_true hci
      subst hci'
      have hat := nk_cw_at (ad := ad) (cA := cA) (D := D) (nk_sk_in hsk rfl)
      rcases hl with hl | hl
      · obtain ⟨C0, T0, N0, g1, g2, g3⟩ := nk_okFs _ hl
        obtain ⟨q1, ty0, q2, q3⟩ := nk_cls g1
        have main : ∀ v : Value, (nk_fv ad (D k) 0 fl)[b]? = some v → W p l e R s m args below meth c H locs cells slots Z (F0 m (pc + 3) ls (v :: t.map (nk_av ad sv))) → W p l e R s m args below meth c H locs cells slots Z (F0 m pc ls (.ref (ad k) :: t.map (nk_av ad sv))) := by
          intro v hv kk
          rcases g3 with g3 | ⟨host, g3⟩
          · exact va_get hx hb hts q1 hown hK hP k hat g1 b g2 (hts _ g3) (fun _ h9 => h9) hv hd kk
          · exact va_getN hx hb hts q1 hown hK hP k hat g1 b g2 (va_Nw.use rfl (hnb _ g3)) (fun _ h9 => h9) hv hd kk
        split at h
        · next r hr => exact main (.ref (ad r)) (by rw [nk_fv_get, hr]; rfl) (h hlen H locs ls hls hP hS)
        · next hr => exact main (.int (D k b)) (by rw [nk_fv_get, hr]; simp) (h hlen H locs ls hls hP hS)
        · exact h.elim
      · obtain ⟨g1, -⟩ := nk_okFSs _ hl
        exfalso
        have g1 : ci = 100 := g1
        subst g1
        have hm := nk_small _ (List.mem_of_getElem? (nk_sk_in hsk rfl))
        simp [nk_smb] at hm
    · exact h.elim
  · next o' hsk =>
    have ho : o' = k := nk_sk_out hsk
    subst ho
    split at h
    · next hc =>
      simp only [Bool.and_eq_true] at hc
      obtain ⟨⟨hc1, hc2⟩, hc3⟩ := hc
      have e1 : a = 100 := Nat.eq_of_beq_eq_true hc1
      have e2 : 1010 ≤ o' := Nat.le_of_ble_eq_true hc2
      have e3 : o' < 1017 := Nat.lt_of_lt_of_le (Nat.lt_succ_self _) (Nat.le_of_ble_eq_true hc3)
      subst e1
      obtain ⟨i, rfl⟩ : ∃ i, o' = 1010 + i := ⟨o' - 1010, by omega⟩
      have hi : i < 7 := by omega
      obtain ⟨o1, o2, o3, o4⟩ := hO.2.2.2.1.1 i hi
      rcases hl with hl | hl
      · exfalso
        obtain ⟨C0, T0, N0, g1, -⟩ := nk_okFs _ hl
        simp [vwCl] at g1
      · obtain ⟨-, ⟨g1, g2⟩ | ⟨g1, g2⟩⟩ := nk_okFSs _ hl
        · have g1 : b = 0 := g1
          subst g1
          have h : nk_WK p l e R s m args below meth c cells slots Z A ad cA DD sv nL (pc + 3) loc (.ref (1010 + i + 10) :: t) D := h
          have h := h hlen H locs ls hls hP hS
          have e5 : (1010 + i + 10) = 1020 + i := by omega
          rw [e5] at h
          exact vk_getf hx hb o3 hS hown (hts _ g2) (fun _ h9 => h9) hd h
        · have g1 : b = 1 := g1
          subst g1
          exact vk_getf hx hb o2 hS hown (hts _ g2) (fun _ h9 => h9) hd (h hlen H locs ls hls hP hS)
    · exact h.elim
  · exact h.elim
theorem nk_putfield (C : nk_C p R s m args c cells slots A ad cA DD sv S nL cc o) {pc idx a b k : Nat} {loc : nk_L} {t : List Value} {D : nk_D} {x : Int32} (hd : decode cc pc = .ok (.putfield idx, 3)) (hl : (o, idx, a, b) ∈ nk_LF)
    (h : nk_pf k a b (nk_WK p l e R s m args below meth c cells slots Z A ad cA DD sv nL (pc + 3) loc t (nk_up D k b x))) : nk_WK p l e R s m args below meth c cells slots Z A ad cA DD sv nL pc loc (.int x :: .ref k :: t) D := by
  obtain ⟨hx, hb, hml, hown, hts, hnb, hK, hDD, hO, hsv, hroom⟩ := id C
  intro hlen H locs ls hls hP hS
  unfold nk_pf at h
  split at h
  · next ci fl hsk =>
    split at h
    · next hci =>
      have hci' : ci = a := Nat.eq_of_beq_eq_true hci
      subst hci'
      have hskl := nk_sk_in hsk rfl
      have hat := nk_cw_at (ad := ad) (cA := cA) (D := D) hskl
      obtain ⟨C0, T0, N0, g1, g2, g3⟩ := nk_okFs _ hl
      obtain ⟨q1, ty0, q2, q3⟩ := nk_cls g1
      split at h
      · next hr =>
        have hset : (nk_cw ad cA D).set k (ad k, .inr (ci, (nk_fv ad (D k) 0 fl).set b (.int x))) = nk_cw ad cA (nk_up D k b x) := nk_cw_set hskl nk_up_ne (by rw [nk_up_at, nk_fv_set hr]; rfl)
        have hfint : (T0 b).2.2.2 = false ∧ parseFieldDescriptor (T0 b).2.2.1 = some .int := by
          have h1 := nk_small _ (List.mem_of_getElem? hskl)
          simp only [nk_smb, g1, Bool.and_eq_true] at h1
          have h2 := List.all_eq_true.mp h1.2 b (List.mem_range.mpr (List.getElem?_eq_some_iff.mp hr).1)
          simp only [hr, decide_eq_true_eq] at h2
          exact h2
        have kk : ∀ (H1 : Heap) (locs1 : List Loc), va_P DD vwCl ((nk_cw ad cA D).set k (ad k, .inr (ci, (nk_fv ad (D k) 0 fl).set b (.int x)))) H1 → va_D A ((nk_cw ad cA D).set k (ad k, .inr (ci, (nk_fv ad (D k) 0 fl).set b (.int x)))) → va_S A s.heap H1 locs1 → W p l e R s m args below meth c H1 locs1 cells slots Z (F0 m (pc + 3) ls (t.map (nk_av ad sv))) := by
          intro H1 locs1 hP1 hD1 hS1
          rw [hset] at hP1
          exact h hlen H1 locs1 ls hls hP1 hS1
        have hfl : b < (nk_fv ad (D k) 0 fl).length := by rw [nk_fv_len]; exact (List.getElem?_eq_some_iff.mp hr).1
        rcases g3 with g3 | ⟨host, g3⟩
        · exact va_put hx hb hts q1 ty0 q2 q3 hown hK hP (hDD D) hS k hat g1 b g2 (hts _ g3) (fun _ h9 => h9) hfint.1 (ty := .int) hfint.2 rfl rfl hfl hd kk
        · exact va_putN hx hb hts q1 ty0 q2 q3 hown hK hP (hDD D) hS k hat g1 b g2 (va_Nw.use rfl (hnb _ g3)) (fun _ h9 => h9) hfint.1 (ty := .int) hfint.2 rfl rfl hfl hd kk
      · exact h.elim
    · exact h.elim
  · exact h.elim
theorem nk_arraylength (C : nk_C p R s m args c cells slots A ad cA DD sv S nL cc o) {pc k : Nat} {loc : nk_L} {t : List Value} {D : nk_D} (hd : decode cc pc = .ok (.arraylength, 1))
    (h : nk_ln S k (fun x => nk_WK p l e R s m args below meth c cells slots Z A ad cA DD sv nL (pc + 1) loc (.int x :: t) D)) : nk_WK p l e R s m args below meth c cells slots Z A ad cA DD sv nL pc loc (.ref k :: t) D := by
  obtain ⟨hx, hb, hml, hown, hts, hnb, hK, hDD, hO, hsv, hroom⟩ := id C
  intro hlen H locs ls hls hP hS
  unfold nk_ln at h
  split at h
  · next t0 n hsk =>
    have hskl := nk_sk_in hsk rfl
    have hat := nk_cw_at (ad := ad) (cA := cA) (D := D) hskl
    have hsm := nk_small _ (List.mem_of_getElem? hskl)
    simp only [nk_smb, decide_eq_true_eq] at hsm
    have h := h hlen H locs ls hls hP hS
    rcases hsm.2 with e0 | e0 <;> subst e0
    · exact va_alen hx hb hK hP k 0 hat rfl rfl hd h
    · exact va_alen hx hb hK hP k 1 hat rfl rfl hd h
  · next o' hsk =>
    have ho : o' = k := nk_sk_out hsk
    subst ho
    split at h
    · next n hn =>
      have h := h hlen H locs ls hls hP hS
      unfold nk_ol at hn
      split at hn
      · next e0 => subst e0; cases hn; exact va_tlen hx hb hO.2.1.1 hS rfl hd h
      · split at hn
        · next e0 => subst e0; cases hn; exact va_tlen hx hb hO.2.1.2 hS rfl hd h
        · split at hn
          · next e0 => subst e0; cases hn; exact va_slen hx hb hO.2.2.1.1 hO.2.2.1.2.1 hO.2.2.1.2.2 hS hd h
          · split at hn
            · next e0 =>
              obtain ⟨i, rfl⟩ : ∃ i, o' = 1020 + i := ⟨o' - 1020, by omega⟩
              have hi : i < 7 := by omega
              have hn := Option.some.inj hn
              subst hn
              rw [Nat.add_sub_cancel_left] at h
              exact va_tlen hx hb (hO.2.2.2.1.1 i hi).2.2.2 hS rfl hd h
            · cases hn
    · exact h.elim
  · exact h.elim
theorem nk_iaload (C : nk_C p R s m args c cells slots A ad cA DD sv S nL cc o) (hSn : S.1 < 2 ^ 31) {pc k : Nat} {i : Int32} {loc : nk_L} {t : List Value} {D : nk_D} (hd : decode cc pc = .ok (.iaload, 1))
    (h : nk_ai S k i D (fun x => nk_WK p l e R s m args below meth c cells slots Z A ad cA DD sv nL (pc + 1) loc (.int x :: t) D)) : nk_WK p l e R s m args below meth c cells slots Z A ad cA DD sv nL pc loc (.int i :: .ref k :: t) D := by
  obtain ⟨hx, hb, hml, hown, hts, hnb, hK, hDD, hO, hsv, hroom⟩ := id C
  intro hlen H locs ls hls hP hS
  unfold nk_ai at h
  split at h
  · next t0 n hsk =>
    obtain ⟨rfl, j, hi, hj, h⟩ := h
    have hat := nk_cw_at (ad := ad) (cA := cA) (D := D) (nk_sk_in hsk rfl)
    obtain ⟨v1, v2⟩ := nk_cl_in hi hj (nk_small1 hsk)
    have h := h hlen H locs ls hls hP hS
    rw [← v2] at h
    exact va_iald hx hb hK hP k 0 hat rfl v1 hd h
  · next o' hsk =>
    have ho : o' = k := nk_sk_out hsk
    subst ho
    obtain ⟨j, hi, hj, h⟩ := h
    have h := h hlen H locs ls hls hP hS
    unfold nk_oa at hj h
    split at hj
    · next e0 =>
      subst e0
      simp only [if_pos] at h
      obtain ⟨v1, v2⟩ := nk_cl_in hi hj (by decide)
      exact va_ti hx hb hO.2.1.1 hS v1 (by rw [v2]; rfl) hd h
    · next e0 =>
      rw [if_neg e0] at h
      split at hj
      · next e1 =>
        subst e1
        simp only [if_pos] at h
        obtain ⟨v1, v2⟩ := nk_cl_in hi hj (by decide)
        exact va_ti hx hb hO.2.1.2 hS v1 (by rw [v2]; rfl) hd h
      · next e1 =>
        rw [if_neg e1] at h
        split at hj
        · next e2 =>
          subst e2
          simp only [if_pos] at h
          obtain ⟨v1, v2⟩ := nk_cl_in hi hj hSn
          rw [← v2] at h
          exact va_sld hx hb hO.2.2.1.1 hO.2.2.1.2.1 hO.2.2.1.2.2 hS v1 hd h
        · simp at hj
  · exact h.elim
theorem nk_iastore (C : nk_C p R s m args c cells slots A ad cA DD sv S nL cc o) {pc k : Nat} {i x : Int32} {loc : nk_L} {t : List Value} {D : nk_D} (hd : decode cc pc = .ok (.iastore, 1))
    (h : nk_si k 0 i (fun j => nk_WK p l e R s m args below meth c cells slots Z A ad cA DD sv nL (pc + 1) loc t (nk_up D k j x))) : nk_WK p l e R s m args below meth c cells slots Z A ad cA DD sv nL pc loc (.int x :: .int i :: .ref k :: t) D := by
  obtain ⟨hx, hb, hml, hown, hts, hnb, hK, hDD, hO, hsv, hroom⟩ := id C
  intro hlen H locs ls hls hP hS
  unfold nk_si at h
  split at h
  · next t0 n hsk =>
    obtain ⟨rfl, j, hi, hj, h⟩ := h
    have hskl := nk_sk_in hsk rfl
    have hat := nk_cw_at (ad := ad) (cA := cA) (D := D) hskl
    obtain ⟨v1, v2⟩ := nk_cl_in hi hj (nk_small1 hsk)
    refine va_iast hx hb hK hP (hDD D) hS k 0 hat rfl v1 hd (fun H1 locs1 hP1 hD1 hS1 => ?_)
    rw [v2, nk_cw_set (D' := nk_up D k j x) hskl nk_up_ne (by rw [nk_up_at]; rfl)] at hP1
    exact h hlen H1 locs1 ls hls hP1 hS1
  · exact h.elim
theorem nk_bastore (C : nk_C p R s m args c cells slots A ad cA DD sv S nL cc o) {pc k : Nat} {i x : Int32} {loc : nk_L} {t : List Value} {D : nk_D} (hd : decode cc pc = .ok (.bastore, 1))
    (h : nk_si k 1 i (fun j => nk_WK p l e R s m args below meth c cells slots Z A ad cA DD sv nL (pc + 1) loc t (nk_up D k j (x &&& 1)))) : nk_WK p l e R s m args below meth c cells slots Z A ad cA DD sv nL pc loc (.int x :: .int i :: .ref k :: t) D := by
  obtain ⟨hx, hb, hml, hown, hts, hnb, hK, hDD, hO, hsv, hroom⟩ := id C
  intro hlen H locs ls hls hP hS
  unfold nk_si at h
  split at h
  · next t0 n hsk =>
    obtain ⟨rfl, j, hi, hj, h⟩ := h
    have hskl := nk_sk_in hsk rfl
    have hat := nk_cw_at (ad := ad) (cA := cA) (D := D) hskl
    obtain ⟨v1, v2⟩ := nk_cl_in hi hj (nk_small1 hsk)
    refine va_zast hx hb hK hP (hDD D) hS k 1 hat rfl v1 hd (fun H1 locs1 hP1 hD1 hS1 => ?_)
    rw [v2, nk_cw_set (D' := nk_up D k j (x &&& 1)) hskl nk_up_ne (by rw [nk_up_at]; rfl)] at hP1
    exact h hlen H1 locs1 ls hls hP1 hS1
  · exact h.elim
theorem nk_baload (C : nk_C p R s m args c cells slots A ad cA DD sv S nL cc o) {pc k : Nat} {i : Int32} {loc : nk_L} {t : List Value} {D : nk_D} (hd : decode cc pc = .ok (.baload, 1))
    (h : nk_ab k i D (fun x => nk_WK p l e R s m args below meth c cells slots Z A ad cA DD sv nL (pc + 1) loc (.int x :: t) D)) : nk_WK p l e R s m args below meth c cells slots Z A ad cA DD sv nL pc loc (.int i :: .ref k :: t) D := by
  obtain ⟨hx, hb, hml, hown, hts, hnb, hK, hDD, hO, hsv, hroom⟩ := id C
  intro hlen H locs ls hls hP hS
  unfold nk_ab at h
  split at h
  · next t0 n hsk =>
    obtain ⟨rfl, j, hi, hj, h⟩ := h
    have hat := nk_cw_at (ad := ad) (cA := cA) (D := D) (nk_sk_in hsk rfl)
    obtain ⟨v1, v2⟩ := nk_cl_in hi hj (nk_small1 hsk)
    have h := h hlen H locs ls hls hP hS
    rw [← v2] at h
    exact va_zald hx hb hK hP k 1 hat rfl v1 hd h
  · next o' hsk =>
    have ho : o' = k := nk_sk_out hsk
    subst ho
    obtain ⟨hr, j, hi, hj, h⟩ := h
    have h := h hlen H locs ls hls hP hS
    obtain ⟨i', rfl⟩ : ∃ i, o' = 1020 + i := ⟨o' - 1020, by omega⟩
    have hi' : i' < 7 := by omega
    rw [Nat.add_sub_cancel_left] at hj h
    have hb7 : ∀ q, q < 7 → nk_slen.getD q 0 < 2 ^ 31 := by decide
    obtain ⟨v1, v2⟩ := nk_cl_in hi hj (hb7 i' hi')
    exact va_tb hx hb (hO.2.2.2.1.1 i' hi').2.2.2 hS v1 (by rw [v2]; rfl) hd h
  · exact h.elim
theorem nk_aaload (C : nk_C p R s m args c cells slots A ad cA DD sv S nL cc o) {pc k : Nat} {i : Int32} {loc : nk_L} {t : List Value} {D : nk_D} (hd : decode cc pc = .ok (.aaload, 1))
    (h : nk_aa k i (fun x => nk_WK p l e R s m args below meth c cells slots Z A ad cA DD sv nL (pc + 1) loc (x :: t) D)) : nk_WK p l e R s m args below meth c cells slots Z A ad cA DD sv nL pc loc (.int i :: .ref k :: t) D := by
  obtain ⟨hx, hb, hml, hown, hts, hnb, hK, hDD, hO, hsv, hroom⟩ := id C
  intro hlen H locs ls hls hP hS
  unfold nk_aa at h
  split at h
  · next rs hsk =>
    obtain ⟨j, r, hi, hj, h⟩ := h
    have hat := nk_cw_at (ad := ad) (cA := cA) (D := D) (nk_sk_in hsk rfl)
    have hjl : j < rs.length := (List.getElem?_eq_some_iff.mp hj).1
    obtain ⟨v1, v2⟩ := nk_cl_in hi hjl (nk_small2 hsk)
    have h := h hlen H locs ls hls hP hS
    refine va_aldq hx hb hK hP k 2 hat rfl v1 hd ?_
    rw [v2]
    simp only [hj]
    exact h
  · exact h.elim
theorem nk_arraycopy (C : nk_C p R s m args c cells slots A ad cA DD sv S nL cc o) {pc idx k0 k1 : Nat} {sp dp n : Int32} {loc : nk_L} {t : List Value} {D : nk_D} (hd : decode cc pc = .ok (.invokestatic idx, 3)) (hlk : Cond.methodLink (nk_on o) idx arraycopyName ∈ nk_tb ∧ Cond.native arraycopyName ∈ nk_tb ∧ Cond.static arraycopyName ∈ nk_tb ∧ Cond.initialized "java/lang/System" ∈ nk_tb) (ht : t.length ≤ 4)
    (h : nk_ac k0 sp k1 dp n (fun a b q => nk_WK p l e R s m args below meth c cells slots Z A ad cA DD sv nL (pc + 3) loc t (nk_cp D k0 a k1 b q))) : nk_WK p l e R s m args below meth c cells slots Z A ad cA DD sv nL pc loc (.int n :: .int dp :: .ref k1 :: .int sp :: .ref k0 :: t) D := by
  obtain ⟨hx, hb, hml, hown, hts, hnb, hK, hDD, hO, hsv, hroom⟩ := id C
  intro hlen H locs ls hls hP hS
  unfold nk_ac at h
  split at h
  · next t0 n0 t1 n1 hsk0 hsk1 =>
    obtain ⟨rfl, rfl, a, b, q, e1, e2, e3, l1, l2, l3, l4, h⟩ := h
    have hskl0 := nk_sk_in hsk0 rfl
    have hskl1 := nk_sk_in hsk1 rfl
    have hat0 := nk_cw_at (ad := ad) (cA := cA) (D := D) hskl0
    have hat1 := nk_cw_at (ad := ad) (cA := cA) (D := D) hskl1
    subst e1; subst e2; subst e3
    have v1 : (nI a).toNatClampNeg = a := nI_clamp (by omega)
    have v2 : (nI b).toNatClampNeg = b := nI_clamp (by omega)
    have v3 : (nI q).toNatClampNeg = q := nI_clamp (by omega)
    have hcs := nk_catsum (ad := ad) hsv t ht
    refine va_copyi hx hb (by rw [hml]; exact hls.1.symm) hown (hts _ hlk.1) (hts _ hlk.2.1) (hts _ hlk.2.2.1) (hts _ hlk.2.2.2) hK hP (hDD D) hS k0 k1 0 0 hat0 hat1 rfl rfl (ty := .int) rfl (nI_pos (by omega)) (nI_pos (by omega)) (nI_pos (by omega)) (by rw [v1, v3]; exact l1) (by rw [v2, v3]; exact l2) (fun _ _ => rfl) hroom.1 ?_ hd (fun H1 locs1 hP1 hD1 hS1 => ?_)
    · have : nativeFrameWords "java/lang/System" "arraycopy" 5 + 11 ≤ 56 := by decide +kernel
      omega
    · rw [v1, v2, v3, nk_cw_set (D' := nk_cp D k0 a k1 b q) hskl1 nk_cp_ne (by rw [nk_cp_at]; rfl)] at hP1
      exact h hlen H1 locs1 ls hls hP1 hS1
  · exact h.elim
end NKI
