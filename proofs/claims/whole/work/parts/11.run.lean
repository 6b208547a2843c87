/-! ===== closed under every step; a run is a contract ===== -/
section NKZ
variable {p : Program} {l : Launch} {e : Env} {R : Room} {s : State} {m : MethodId} {args : Array Value} {below : List Frame} {meth : Method} {c : Code} {cells slots : Nat} {Z : State → Prop} {A : Nat → Prop} {ad : Nat → Nat} {cA : Nat → ClassId} {DD : va_G} {sv : Value} {S : nk_Sc} {nL : Nat} {cc : ByteArray} {o : Nat}
theorem nk_cnd_if (C : nk_C p R s m args c cells slots A ad cA DD sv S nL cc o) {pc a : Nat} {k : Jvm.ClassFile.Cond} {off : Int} {x : Int32} {loc : nk_L} {t : List Value} {D : nk_D} (hd : decode cc pc = .ok (.ifCond k off, 3)) (ht : (pc : Int) + off = (a : Int))
    (h : nk_cnd k x (nI 0) (nk_WK p l e R s m args below meth c cells slots Z A ad cA DD sv nL a loc t D) (nk_WK p l e R s m args below meth c cells slots Z A ad cA DD sv nL (pc + 3) loc t D)) : nk_WK p l e R s m args below meth c cells slots Z A ad cA DD sv nL pc loc (.int x :: t) D := by
  obtain ⟨hx, hb, hml, hown, hts, hnb, hK, hDD, hO, hsv, hroom⟩ := id C
  intro hlen H locs ls hls hP hS
  cases k with
  | eq => exact lv_if_eq hx hb hd ht (fun q => h.1 q hlen H locs ls hls hP hS) (fun q => h.2 q hlen H locs ls hls hP hS)
  | ne => exact lv_if_ne hx hb hd ht (fun q => h.1 q hlen H locs ls hls hP hS) (fun q => h.2 q hlen H locs ls hls hP hS)
  | lt => exact lv_if_lt hx hb hd ht (fun q => h.1 q hlen H locs ls hls hP hS) (fun q => h.2 q hlen H locs ls hls hP hS)
  | ge => exact lv_if_ge hx hb hd ht (fun q => h.1 q hlen H locs ls hls hP hS) (fun q => h.2 q hlen H locs ls hls hP hS)
  | gt => exact lv_if_gt hx hb hd ht (fun q => h.1 q hlen H locs ls hls hP hS) (fun q => h.2 q hlen H locs ls hls hP hS)
  | le => exact lv_if_le hx hb hd ht (fun q => h.1 q hlen H locs ls hls hP hS) (fun q => h.2 q hlen H locs ls hls hP hS)
theorem nk_cnd_icmp (C : nk_C p R s m args c cells slots A ad cA DD sv S nL cc o) {pc a : Nat} {k : Jvm.ClassFile.Cond} {off : Int} {x y : Int32} {loc : nk_L} {t : List Value} {D : nk_D} (hd : decode cc pc = .ok (.if_icmp k off, 3)) (ht : (pc : Int) + off = (a : Int))
    (h : nk_cnd k x y (nk_WK p l e R s m args below meth c cells slots Z A ad cA DD sv nL a loc t D) (nk_WK p l e R s m args below meth c cells slots Z A ad cA DD sv nL (pc + 3) loc t D)) : nk_WK p l e R s m args below meth c cells slots Z A ad cA DD sv nL pc loc (.int y :: .int x :: t) D := by
  obtain ⟨hx, hb, hml, hown, hts, hnb, hK, hDD, hO, hsv, hroom⟩ := id C
  intro hlen H locs ls hls hP hS
  cases k with
  | eq => exact lv_icmp_eq hx hb hd ht (fun q => h.1 q hlen H locs ls hls hP hS) (fun q => h.2 q hlen H locs ls hls hP hS)
  | ne => exact lv_icmp_ne hx hb hd ht (fun q => h.1 q hlen H locs ls hls hP hS) (fun q => h.2 q hlen H locs ls hls hP hS)
  | lt => exact lv_icmp_lt hx hb hd ht (fun q => h.1 q hlen H locs ls hls hP hS) (fun q => h.2 q hlen H locs ls hls hP hS)
  | ge => exact lv_icmp_ge hx hb hd ht (fun q => h.1 q hlen H locs ls hls hP hS) (fun q => h.2 q hlen H locs ls hls hP hS)
  | gt => exact lv_icmp_gt hx hb hd ht (fun q => h.1 q hlen H locs ls hls hP hS) (fun q => h.2 q hlen H locs ls hls hP hS)
  | le => exact lv_icmp_le hx hb hd ht (fun q => h.1 q hlen H locs ls hls hP hS) (fun q => h.2 q hlen H locs ls hls hP hS)
theorem nk_switch (C : nk_C p R s m args c cells slots A ad cA DD sv S nL cc o) {pc n : Nat} {df lo hi : Int} {offs : Array Int} {x : Int32} {loc : nk_L} {t : List Value} {D : nk_D} (hd : decode cc pc = .ok (.tableswitch df lo hi offs, n))
    (h : nk_sw pc df lo hi offs x (fun q => nk_WK p l e R s m args below meth c cells slots Z A ad cA DD sv nL q loc t D)) : nk_WK p l e R s m args below meth c cells slots Z A ad cA DD sv nL pc loc (.int x :: t) D := by
  obtain ⟨hx, hb, hml, hown, hts, hnb, hK, hDD, hO, hsv, hroom⟩ := id C
  intro hlen H locs ls hls hP hS
  by_cases hc : x.toInt < lo ∨ hi < x.toInt
  · obtain ⟨q, e1, h1⟩ := h.1 hc
    exact lv_tableOut hx hb hd hc e1 (h1 hlen H locs ls hls hP hS)
  · have c1 : ¬ x.toInt < lo := fun z => hc (Or.inl z)
    have c2 : ¬ hi < x.toInt := fun z => hc (Or.inr z)
    obtain ⟨o', q, e1, e2, h1⟩ := h.2 c1 c2
    exact lv_tableIn hx hb hd c1 c2 e1 e2 (h1 hlen H locs ls hls hP hS)
theorem nk_statics (C : nk_C p R s m args c cells slots A ad cA DD sv S nL cc o) {pc idx a : Nat} {loc : nk_L} {t : List Value} {D : nk_D} (hd : decode cc pc = .ok (.getstatic idx, 3)) (hl : (o, idx, a) ∈ nk_LG)
    (h : nk_WK p l e R s m args below meth c cells slots Z A ad cA DD sv nL (pc + 3) loc (nk_gsv a :: t) D) : nk_WK p l e R s m args below meth c cells slots Z A ad cA DD sv nL pc loc t D := by
  obtain ⟨hx, hb, hml, hown, hts, hnb, hK, hDD, hO, hsv, hroom⟩ := id C
  intro hlen H locs ls hls hP hS
  have h := h hlen H locs ls hls hP hS
  obtain ⟨g1, g2⟩ := nk_okGs _ hl
  have g1 : a < 4 := g1
  have main : ∀ v : Value, va_Z (nk_sC a).1 (nk_sC a).2.1 (nk_sC a).2.2 v A s s.heap → v = nk_av ad sv (nk_gsv a) → W p l e R s m args below meth c H locs cells slots Z (F0 m pc ls (t.map (nk_av ad sv))) := by
    intro v hz hv
    subst hv
    rcases g2 with g2 | ⟨host, g2⟩
    · exact va_gets hx hb hz hS hown (hts _ g2) (fun _ h9 => h9) hd h
    · exact va_getsN hx hb hz hS hown (va_Nw.use rfl (hnb _ g2)) (fun _ h9 => h9) hd h
  match a, g1 with
  | 0, _ => exact main _ hO.1.1 rfl
  | 1, _ => exact main _ hO.1.2.1 rfl
  | 2, _ => exact main _ hO.1.2.2.1 rfl
  | 3, _ => exact main _ hO.1.2.2.2 rfl
theorem nk_texts (C : nk_C p R s m args c cells slots A ad cA DD sv S nL cc o) {pc idx a : Nat} {loc : nk_L} {t : List Value} {D : nk_D} (hd : decode cc pc = .ok (.ldc idx, 2)) (hl : (o, idx, a) ∈ nk_LS)
    (h : nk_WK p l e R s m args below meth c cells slots Z A ad cA DD sv nL (pc + 2) loc (.ref a :: t) D) : nk_WK p l e R s m args below meth c cells slots Z A ad cA DD sv nL pc loc t D := by
  obtain ⟨hx, hb, hml, hown, hts, hnb, hK, hDD, hO, hsv, hroom⟩ := id C
  intro hlen H locs ls hls hP hS
  have h := h hlen H locs ls hls hP hS
  obtain ⟨g1, i, g2, g3, g4⟩ := nk_okSs _ hl
  have g1 : o = 4 := g1
  have g3 : a = 1010 + i := g3
  have g4 : idx = nk_sx i := g4
  subst g1; subst g3; subst g4
  exact va_ldcS hx hb hown (hO.2.2.2.2 i g2) hd h
set_option maxHeartbeats 4000000 in
theorem nk_st_ok (C : nk_C p R s m args c cells slots A ad cA DD sv S nL cc o) (hSn : S.1 < 2 ^ 31) {call : Nat → List Value → nk_D → nk_P → Prop} (hcall : nk_CallOk l DD ad cA A sv S R call) {r : Option FieldType} {P : nk_P} (hret : nk_RetOk p l e R s m args below meth c cells slots Z A ad cA DD sv cc r P)
    {pc nx a b : Nat} {v : Int32} {u : Int64} {loc : nk_L} {stk : List Value} {D : nk_D} (i : Instr) (hk : nk_chk o cc (pc, i, nx, a, b, v, u) = true) (h : nk_st S call r P (nk_WK p l e R s m args below meth c cells slots Z A ad cA DD sv nL) pc i nx a b v u loc stk D) : nk_WK p l e R s m args below meth c cells slots Z A ad cA DD sv nL pc loc stk D := by
  obtain ⟨hx, hb, hml, hown, hts, hnb, hK, hDD, hO, hsv, hroom⟩ := id C
  have hg := nk_av_cat (ad := ad) hsv
  cases i with
  | iconst n =>
    simp only [nk_chk, decide_eq_true_eq] at hk
    obtain ⟨hd, rfl, hv⟩ := hk
    exact fun hlen H locs ls hls hP hS => lv_iconst hx hb hd hv (h hlen H locs ls hls hP hS)
  | bipush n =>
    simp only [nk_chk, decide_eq_true_eq] at hk
    obtain ⟨hd, rfl, hv⟩ := hk
    exact fun hlen H locs ls hls hP hS => lv_bipush hx hb hd hv (h hlen H locs ls hls hP hS)
  | sipush n =>
    simp only [nk_chk, decide_eq_true_eq] at hk
    obtain ⟨hd, rfl, hv⟩ := hk
    exact fun hlen H locs ls hls hP hS => lv_sipush hx hb hd hv (h hlen H locs ls hls hP hS)
  | lconst n =>
    simp only [nk_chk, decide_eq_true_eq] at hk
    obtain ⟨hd, rfl, hv⟩ := hk
    exact fun hlen H locs ls hls hP hS => lv_lconst hx hb hd hv (h hlen H locs ls hls hP hS)
  | ldc_w n =>
    simp only [nk_chk, decide_eq_true_eq] at hk
    obtain ⟨hd, rfl, hv⟩ := hk
    exact fun hlen H locs ls hls hP hS => lv_ldcw hx hb hown (hts _ (nk_okIs _ hv)) hd (h hlen H locs ls hls hP hS)
  | ldc2_w n =>
    simp only [nk_chk, decide_eq_true_eq] at hk
    obtain ⟨hd, rfl, hv⟩ := hk
    exact fun hlen H locs ls hls hP hS => lv_ldc2 hx hb hown (hts _ (nk_okLs _ hv)) hd (h hlen H locs ls hls hP hS)
  | ldc n =>
    simp only [nk_chk, decide_eq_true_eq] at hk
    obtain ⟨hd, rfl, hv⟩ := hk
    exact nk_texts C hd hv h
  | getstatic n =>
    simp only [nk_chk, decide_eq_true_eq] at hk
    obtain ⟨hd, rfl, hv⟩ := hk
    exact nk_statics C hd hv h
  | iload n =>
    simp only [nk_chk, decide_eq_true_eq] at hk
    obtain ⟨hd, rfl, rfl⟩ := hk
    simp only [nk_st] at h
    split at h
    · next hv => exact fun hlen H locs ls hls hP hS => lv_iload hx hb hd (nk_lv_at hls hv) (h hlen H locs ls hls hP hS)
    · exact h.elim
  | iload_n n =>
    simp only [nk_chk, decide_eq_true_eq] at hk
    obtain ⟨hd, rfl, rfl⟩ := hk
    simp only [nk_st] at h
    split at h
    · next hv => exact fun hlen H locs ls hls hP hS => lv_iload_n hx hb hd rfl (nk_lv_at hls hv) (h hlen H locs ls hls hP hS)
    · exact h.elim
  | lload n =>
    simp only [nk_chk, decide_eq_true_eq] at hk
    obtain ⟨hd, rfl, rfl⟩ := hk
    simp only [nk_st] at h
    split at h
    · next hv => exact fun hlen H locs ls hls hP hS => lv_lload hx hb hd (nk_lv_at hls hv) (h hlen H locs ls hls hP hS)
    · exact h.elim
  | lload_n n =>
    simp only [nk_chk, decide_eq_true_eq] at hk
    obtain ⟨hd, rfl, rfl⟩ := hk
    simp only [nk_st] at h
    split at h
    · next hv => exact fun hlen H locs ls hls hP hS => lv_lload_n hx hb hd rfl (nk_lv_at hls hv) (h hlen H locs ls hls hP hS)
    · exact h.elim
  | aload n =>
    simp only [nk_chk, decide_eq_true_eq] at hk
    obtain ⟨hd, rfl, rfl⟩ := hk
    simp only [nk_st] at h
    split at h
    · next hv => exact fun hlen H locs ls hls hP hS => lv_aload hx hb hd (nk_lv_at hls hv) (h hlen H locs ls hls hP hS)
    · exact h.elim
  | aload_n n =>
    simp only [nk_chk, decide_eq_true_eq] at hk
    obtain ⟨hd, rfl, rfl⟩ := hk
    simp only [nk_st] at h
    split at h
    · next hv => exact fun hlen H locs ls hls hP hS => lv_aload_n hx hb hd rfl (nk_lv_at hls hv) (h hlen H locs ls hls hP hS)
    · exact h.elim
  | istore n =>
    simp only [nk_chk, decide_eq_true_eq] at hk
    obtain ⟨hd, rfl, rfl⟩ := hk
    simp only [nk_st] at h
    split at h
    · split at h
      · next hlt =>
        refine fun hlen H locs ls hls hP hS => lv_istore hx hb hd hls (by rw [← hlen]; exact Nat.le_of_ble_eq_true hlt) rfl (fun ls' hls' => ?_)
        exact h (by rw [nk_s1_len]; exact hlen) H locs ls' (nk_has1 hg hls') hP hS
      · exact h.elim
    · exact h.elim
  | istore_n n =>
    simp only [nk_chk, decide_eq_true_eq] at hk
    obtain ⟨hd, rfl, rfl⟩ := hk
    simp only [nk_st] at h
    split at h
    · split at h
      · next hlt =>
        refine fun hlen H locs ls hls hP hS => lv_istore_n hx hb hd rfl hls (by rw [← hlen]; exact Nat.le_of_ble_eq_true hlt) rfl (fun ls' hls' => ?_)
        exact h (by rw [nk_s1_len]; exact hlen) H locs ls' (nk_has1 hg hls') hP hS
      · exact h.elim
    · exact h.elim
  | lstore n =>
    simp only [nk_chk, decide_eq_true_eq] at hk
    obtain ⟨hd, rfl, rfl⟩ := hk
    simp only [nk_st] at h
    split at h
    · split at h
      · next hlt =>
        refine fun hlen H locs ls hls hP hS => lv_lstore hx hb hd hls (by rw [← hlen]; exact Nat.le_of_ble_eq_true hlt) rfl (fun ls' hls' => ?_)
        exact h (by rw [nk_s2_len]; exact hlen) H locs ls' (nk_has2 hg hls') hP hS
      · exact h.elim
    · exact h.elim
  | lstore_n n =>
    simp only [nk_chk, decide_eq_true_eq] at hk
    obtain ⟨hd, rfl, rfl⟩ := hk
    simp only [nk_st] at h
    split at h
    · split at h
      · next hlt =>
        refine fun hlen H locs ls hls hP hS => lv_lstore_n hx hb hd rfl hls (by rw [← hlen]; exact Nat.le_of_ble_eq_true hlt) rfl (fun ls' hls' => ?_)
        exact h (by rw [nk_s2_len]; exact hlen) H locs ls' (nk_has2 hg hls') hP hS
      · exact h.elim
    · exact h.elim
  | iinc n k =>
    simp only [nk_chk, decide_eq_true_eq] at hk
    obtain ⟨hd, rfl, rfl, hv⟩ := hk
    simp only [nk_st] at h
    split at h
    · next x hlv =>
      split at h
      · next hlt =>
        obtain ⟨q, hq⟩ := nk_lv_ix (g := nk_av ad sv) hlv
        refine fun hlen H locs ls hls hP hS => lv_iinc (v := x + v) hx hb hd hls hq (by rw [hv]) (by rw [← hlen]; exact Nat.le_of_ble_eq_true hlt) rfl (fun ls' hls' => ?_)
        exact h (by rw [nk_s1_len]; exact hlen) H locs ls' (nk_has1 (v := .int (x + v)) hg hls') hP hS
      · exact h.elim
    · exact h.elim
  | iadd =>
    simp only [nk_chk, decide_eq_true_eq] at hk
    obtain ⟨hd, rfl⟩ := hk
    simp only [nk_st] at h
    split at h
    · exact fun hlen H locs ls hls hP hS => lv_iadd hx hb hd (h hlen H locs ls hls hP hS)
    · exact h.elim
  | isub =>
    simp only [nk_chk, decide_eq_true_eq] at hk
    obtain ⟨hd, rfl⟩ := hk
    simp only [nk_st] at h
    split at h
    · exact fun hlen H locs ls hls hP hS => lv_isub hx hb hd (h hlen H locs ls hls hP hS)
    · exact h.elim
  | imul =>
    simp only [nk_chk, decide_eq_true_eq] at hk
    obtain ⟨hd, rfl⟩ := hk
    simp only [nk_st] at h
    split at h
    · exact fun hlen H locs ls hls hP hS => lv_imul hx hb hd (h hlen H locs ls hls hP hS)
    · exact h.elim
  | iand =>
    simp only [nk_chk, decide_eq_true_eq] at hk
    obtain ⟨hd, rfl⟩ := hk
    simp only [nk_st] at h
    split at h
    · exact fun hlen H locs ls hls hP hS => lv_iand hx hb hd (h hlen H locs ls hls hP hS)
    · exact h.elim
  | ior =>
    simp only [nk_chk, decide_eq_true_eq] at hk
    obtain ⟨hd, rfl⟩ := hk
    simp only [nk_st] at h
    split at h
    · exact fun hlen H locs ls hls hP hS => lv_ior hx hb hd (h hlen H locs ls hls hP hS)
    · exact h.elim
  | ixor =>
    simp only [nk_chk, decide_eq_true_eq] at hk
    obtain ⟨hd, rfl⟩ := hk
    simp only [nk_st] at h
    split at h
    · exact fun hlen H locs ls hls hP hS => lv_ixor hx hb hd (h hlen H locs ls hls hP hS)
    · exact h.elim
  | ishl =>
    simp only [nk_chk, decide_eq_true_eq] at hk
    obtain ⟨hd, rfl⟩ := hk
    simp only [nk_st] at h
    split at h
    · exact fun hlen H locs ls hls hP hS => lv_ishl hx hb hd (h hlen H locs ls hls hP hS)
    · exact h.elim
  | ishr =>
    simp only [nk_chk, decide_eq_true_eq] at hk
    obtain ⟨hd, rfl⟩ := hk
    simp only [nk_st] at h
    split at h
    · exact fun hlen H locs ls hls hP hS => lv_ishr hx hb hd (h hlen H locs ls hls hP hS)
    · exact h.elim
  | ladd =>
    simp only [nk_chk, decide_eq_true_eq] at hk
    obtain ⟨hd, rfl⟩ := hk
    simp only [nk_st] at h
    split at h
    · exact fun hlen H locs ls hls hP hS => lv_ladd hx hb hd (h hlen H locs ls hls hP hS)
    · exact h.elim
  | lsub =>
    simp only [nk_chk, decide_eq_true_eq] at hk
    obtain ⟨hd, rfl⟩ := hk
    simp only [nk_st] at h
    split at h
    · exact fun hlen H locs ls hls hP hS => lv_lsub hx hb hd (h hlen H locs ls hls hP hS)
    · exact h.elim
  | lmul =>
    simp only [nk_chk, decide_eq_true_eq] at hk
    obtain ⟨hd, rfl⟩ := hk
    simp only [nk_st] at h
    split at h
    · exact fun hlen H locs ls hls hP hS => lv_lmul hx hb hd (h hlen H locs ls hls hP hS)
    · exact h.elim
  | idiv =>
    simp only [nk_chk, decide_eq_true_eq] at hk
    obtain ⟨hd, rfl⟩ := hk
    simp only [nk_st] at h
    split at h
    · exact fun hlen H locs ls hls hP hS => lv_idiv hx hb hd h.1 (h.2 hlen H locs ls hls hP hS)
    · exact h.elim
  | irem =>
    simp only [nk_chk, decide_eq_true_eq] at hk
    obtain ⟨hd, rfl⟩ := hk
    simp only [nk_st] at h
    split at h
    · exact fun hlen H locs ls hls hP hS => lv_irem hx hb hd h.1 (h.2 hlen H locs ls hls hP hS)
    · exact h.elim
  | iushr =>
    simp only [nk_chk, decide_eq_true_eq] at hk
    obtain ⟨hd, rfl⟩ := hk
    simp only [nk_st] at h
    split at h
    · exact fun hlen H locs ls hls hP hS => lv_iushr hx hb hd rfl (h hlen H locs ls hls hP hS)
    · exact h.elim
  | i2l =>
    simp only [nk_chk, decide_eq_true_eq] at hk
    obtain ⟨hd, rfl⟩ := hk
    simp only [nk_st] at h
    split at h
    · exact fun hlen H locs ls hls hP hS => lv_i2l hx hb hd rfl (h hlen H locs ls hls hP hS)
    · exact h.elim
  | i2c =>
    simp only [nk_chk, decide_eq_true_eq] at hk
    obtain ⟨hd, rfl⟩ := hk
    simp only [nk_st] at h
    split at h
    · exact fun hlen H locs ls hls hP hS => lv_i2c hx hb hd rfl (h hlen H locs ls hls hP hS)
    · exact h.elim
  | lcmp =>
    simp only [nk_chk, decide_eq_true_eq] at hk
    obtain ⟨hd, rfl⟩ := hk
    simp only [nk_st] at h
    split at h
    · exact fun hlen H locs ls hls hP hS => W.lcmp hx hb hd (h hlen H locs ls hls hP hS)
    · exact h.elim
  | ifCond k off =>
    simp only [nk_chk, decide_eq_true_eq] at hk
    obtain ⟨hd, rfl, ht⟩ := hk
    simp only [nk_st] at h
    split at h
    · exact nk_cnd_if C hd ht h
    · exact h.elim
  | if_icmp k off =>
    simp only [nk_chk, decide_eq_true_eq] at hk
    obtain ⟨hd, rfl, ht⟩ := hk
    simp only [nk_st] at h
    split at h
    · exact nk_cnd_icmp C hd ht h
    · exact h.elim
  | ifnonnull off =>
    simp only [nk_chk, decide_eq_true_eq] at hk
    obtain ⟨hd, rfl, ht⟩ := hk
    simp only [nk_st] at h
    split at h
    · exact fun hlen H locs ls hls hP hS => lv_ifnonnull hx hb hd ht (h hlen H locs ls hls hP hS)
    · exact h.elim
  | goto off =>
    simp only [nk_chk, decide_eq_true_eq] at hk
    obtain ⟨hd, rfl, ht⟩ := hk
    exact fun hlen H locs ls hls hP hS => lv_goto hx hb hd ht (h hlen H locs ls hls hP hS)
  | tableswitch df lo hi offs =>
    simp only [nk_chk, decide_eq_true_eq] at hk
    simp only [nk_st] at h
    split at h
    · exact nk_switch C hk h
    · exact h.elim
  | dup =>
    simp only [nk_chk, decide_eq_true_eq] at hk
    obtain ⟨hd, rfl⟩ := hk
    simp only [nk_st] at h
    split at h
    · exact fun hlen H locs ls hls hP hS => lv_dup hx hb hd rfl (h hlen H locs ls hls hP hS)
    · exact fun hlen H locs ls hls hP hS => lv_dup hx hb hd rfl (h hlen H locs ls hls hP hS)
    · exact h.elim
  | dup2 =>
    simp only [nk_chk, decide_eq_true_eq] at hk
    obtain ⟨hd, rfl⟩ := hk
    simp only [nk_st] at h
    split at h
    · exact fun hlen H locs ls hls hP hS => lv_dup2_11 hx hb hd rfl rfl (h hlen H locs ls hls hP hS)
    · exact h.elim
  | pop =>
    simp only [nk_chk, decide_eq_true_eq] at hk
    obtain ⟨hd, rfl⟩ := hk
    simp only [nk_st] at h
    split at h
    · exact fun hlen H locs ls hls hP hS => lv_pop hx hb hd rfl (h hlen H locs ls hls hP hS)
    · exact h.elim
  | getfield n =>
    simp only [nk_chk, decide_eq_true_eq] at hk
    obtain ⟨hd, rfl, hl⟩ := hk
    simp only [nk_st] at h
    split at h
    · exact nk_getfield C hd hl h
    · exact h.elim
  | putfield n =>
    simp only [nk_chk, decide_eq_true_eq] at hk
    obtain ⟨hd, rfl, hl⟩ := hk
    simp only [nk_st] at h
    split at h
    · exact nk_putfield C hd hl h
    · exact h.elim
  | arraylength =>
    simp only [nk_chk, decide_eq_true_eq] at hk
    obtain ⟨hd, rfl⟩ := hk
    simp only [nk_st] at h
    split at h
    · exact nk_arraylength C hd h
    · exact h.elim
  | iaload =>
    simp only [nk_chk, decide_eq_true_eq] at hk
    obtain ⟨hd, rfl⟩ := hk
    simp only [nk_st] at h
    split at h
    · exact nk_iaload C hSn hd h
    · exact h.elim
  | iastore =>
    simp only [nk_chk, decide_eq_true_eq] at hk
    obtain ⟨hd, rfl⟩ := hk
    simp only [nk_st] at h
    split at h
    · exact nk_iastore C hd h
    · exact h.elim
  | baload =>
    simp only [nk_chk, decide_eq_true_eq] at hk
    obtain ⟨hd, rfl⟩ := hk
    simp only [nk_st] at h
    split at h
    · exact nk_baload C hd h
    · exact h.elim
  | bastore =>
    simp only [nk_chk, decide_eq_true_eq] at hk
    obtain ⟨hd, rfl⟩ := hk
    simp only [nk_st] at h
    split at h
    · exact nk_bastore C hd h
    · exact h.elim
  | aaload =>
    simp only [nk_chk, decide_eq_true_eq] at hk
    obtain ⟨hd, rfl⟩ := hk
    simp only [nk_st] at h
    split at h
    · exact nk_aaload C hd h
    · exact h.elim
  | invokevirtual n =>
    simp only [nk_chk, decide_eq_true_eq] at hk
    obtain ⟨hd, rfl, hl, hv⟩ := hk
    simp only [nk_st] at h
    split at h
    · next hp =>
      split at h
      · next hr => exact nk_invV C hcall hd hl hv hr (nk_pop_spec _ _ _ _ _ hp) h
      · exact h.elim
    · exact h.elim
  | invokestatic n =>
    simp only [nk_chk, decide_eq_true_eq] at hk
    obtain ⟨hd, rfl, hl, hv⟩ := hk
    simp only [nk_st] at h
    split at h
    · next ha => exact nk_natS C hd hl ha h
    · next ha =>
      split at h
      · next hp => exact nk_invS C hcall hd hl hv ha (nk_pop_spec _ _ _ _ _ hp) h
      · exact h.elim
  | ireturn =>
    simp only [nk_chk, decide_eq_true_eq] at hk
    obtain ⟨hd, rfl⟩ := hk
    simp only [nk_st] at h
    split at h
    · split at h
      · exact fun hlen H locs ls hls hP hS => hret.1 _ ls H locs D _ _ hd rfl h.1 h.2 hP hS
      · exact h.elim
    · exact h.elim
  | lreturn =>
    simp only [nk_chk, decide_eq_true_eq] at hk
    obtain ⟨hd, rfl⟩ := hk
    simp only [nk_st] at h
    split at h
    · exact fun hlen H locs ls hls hP hS => hret.2.1 _ ls H locs D _ hd h.1 h.2 hP hS
    · exact h.elim
  | return_ =>
    simp only [nk_chk, decide_eq_true_eq] at hk
    obtain ⟨hd, rfl⟩ := hk
    simp only [nk_st] at h
    split at h
    · exact fun hlen H locs ls hls hP hS => hret.2.2 _ ls H locs D hd h.1 h.2 hP hS
    · exact h.elim
  | _ => exact False.elim h
theorem nk_close (C : nk_C p R s m args c cells slots A ad cA DD sv S nL cc o) (hSn : S.1 < 2 ^ 31) {call : Nat → List Value → nk_D → nk_P → Prop} (hcall : nk_CallOk l DD ad cA A sv S R call) {r : Option FieldType} {P : nk_P} (hret : nk_RetOk p l e R s m args below meth c cells slots Z A ad cA DD sv cc r P) {T : nk_T} (hT : T.all (nk_chk o cc) = true) :
    ∀ pc loc stk D, nk_step S call T r P (nk_WK p l e R s m args below meth c cells slots Z A ad cA DD sv nL) pc loc stk D → nk_WK p l e R s m args below meth c cells slots Z A ad cA DD sv nL pc loc stk D := by
  intro pc loc stk D h
  unfold nk_step at h
  split at h
  · next i nx a b v u he => exact nk_st_ok C hSn hcall hret i (nk_lk_ok hT he) h
  · exact h.elim
end NKZ
/-- a method's run at a depth -/
def nk_run (S : nk_Sc) : Nat → Nat → List Value → nk_D → nk_P → Prop
  | 0, _, _, _, _ => False
  | d + 1, mu, vs, D, P => match nk_ms[mu]? with
    | none => False
    | some M => (vs.length = nk_na M ∧ (nk_al vs).length ≤ M.2.2.2.1) ∧ nk_ex S (nk_run S d) M.2.2.2.2.2.2.2 M.2.2.2.2.1 P 0 (nk_pad M.2.2.2.1 (nk_al vs)) [] D
theorem nk_al_len (g : Value → Value) (hg : ∀ x, (g x).category = x.category) : ∀ vs : List Value, (lg_sl (vs.map g)).length = (nk_al vs).length
  | [] => rfl
  | v :: t => by
    have ih := nk_al_len g hg t
    have hc := hg v
    simp only [lg_sl, List.map_cons, List.flatMap_cons, List.length_append]
    rw [show (List.flatMap (fun v => if v.category = 2 then [Slot.val v, Slot.second] else [Slot.val v]) (List.map g t)).length = (nk_al t).length from ih]
    cases v <;> simp_all [nk_al, Value.category] <;> omega
theorem nk_al_mem (g : Value → Value) (hg : ∀ x, (g x).category = x.category) : ∀ (vs : List Value) (i : Nat) (q : Nat × Value), q ∈ nk_lp g i (nk_al vs) → q ∈ lv_args i (vs.map g)
  | [], i, q, h => by simp [nk_al, nk_lp] at h
  | v :: t, i, q, h => by
    have ih1 := nk_al_mem g hg t (i + 1) q
    have ih2 := nk_al_mem g hg t (i + 1 + 1) q
    have hc := hg v
    cases v <;> simp only [nk_al, nk_lp, List.mem_cons, List.map_cons, lv_args] at h ⊢ <;> rcases h with h | h <;> first | exact Or.inl h | (refine Or.inr ?_; rw [hc]; first | exact ih1 h | exact ih2 h)
theorem nk_pad_mem (g : Value → Value) : ∀ (l : nk_L) (n i : Nat) (q : Nat × Value), q ∈ nk_lp g i (l ++ List.replicate n none) → q ∈ nk_lp g i l
  | [], n, i, q, h => by
    exfalso
    obtain ⟨t, v, h1, -⟩ := (nk_lp_mem _ _ _).mp h
    simp [List.getElem?_replicate] at h1
  | none :: t, n, i, q, h => nk_pad_mem g t n (i + 1) q h
  | some v :: t, n, i, q, h => by
    simp only [List.cons_append, nk_lp, List.mem_cons] at h ⊢
    rcases h with h | h
    · exact Or.inl h
    · exact Or.inr (nk_pad_mem g t n (i + 1) q h)
/-- a run is a contract -/
theorem nk_met (l : Launch) (DD : va_G) (ad : Nat → Nat) (cA : Nat → ClassId) (A : Nat → Prop) (sv : Value) (S : nk_Sc) (hsv : nk_sv sv) (hSn : S.1 < 2 ^ 31) (hDD : ∀ D, va_D A (nk_cw ad cA D)) : ∀ (d mu : Nat) (vs : List Value) (D : nk_D) (P : nk_P), nk_run S d mu vs D P → ∃ M, nk_ms[mu]? = some M ∧ vs.length = nk_na M ∧ nk_Met l DD ad cA A sv S (nk_rm d) M vs D P := by
  intro d
  induction d with
  | zero => intro mu vs D P h; exact h.elim
  | succ d ih =>
    intro mu vs D P h
    rw [nk_run] at h
    split at h
    · exact h.elim
    · next M hM =>
      obtain ⟨⟨hn, hal⟩, hex⟩ := h
      refine ⟨M, hM, hn, ?_⟩
      have hok : nk_okM M := nk_okMs M (List.mem_of_getElem? hM)
      obtain ⟨k1, k2, k3, k4, k5, k6, k7, k8⟩ := id hok
      refine Met.ofW (cc := M.2.2.1) (maxL := M.2.2.2.1) (ret := M.2.2.2.2.1) (ws' := nk_tb) k3 rfl ?_
      intro p e s m args below meth c s₁ B hml hv
      obtain ⟨rfl, hP, hK, hN, hO⟩ := hv
      have hts : ∀ w ∈ nk_tb, w.before ((vs.map (nk_av ad sv)).toArray) s = true := fun w hw => atoms_spec (ws := nk_ws M) B.pre w (List.mem_cons_of_mem _ hw)
      have hown : s.vm.findClass (nk_on M.1) = some m.cls := by rw [k5]; exact findClass_of_methodNamed B.named
      have C : nk_C p (headSpec (nk_ws M) (nk_rm (d + 1))).room s m ((vs.map (nk_av ad sv)).toArray) c 0 0 A ad cA DD sv S M.2.2.2.1 M.2.2.1 M.1 :=
        ⟨B.exec, B.bytes, hml, hown, hts, hN, hK, hDD, hO, hsv, by show 1 ≤ d + 1; omega, by show 64 ≤ 64 * (d + 1); omega, Nat.zero_le _, Nat.zero_le _⟩
      have hcall : nk_CallOk l DD ad cA A sv S (headSpec (nk_ws M) (nk_rm (d + 1))).room (nk_run S d) := by
        intro mu' vs' D' P' h'
        obtain ⟨M', q1, q2, q3⟩ := ih mu' vs' D' P' h'
        exact ⟨M', nk_rm d, q1, q2, rfl, rfl, Nat.le_refl _, by show 8 + (20 + 11) + 64 * d ≤ 64 * (d + 1); omega, q3⟩
      have hret : nk_RetOk p l e (headSpec (nk_ws M) (nk_rm (d + 1))).room s m ((vs.map (nk_av ad sv)).toArray) below meth c 0 0 (MQ below (nk_Qc DD ad cA A sv P) ((vs.map (nk_av ad sv)).toArray) s 0 0 A) A ad cA DD sv M.2.2.1 M.2.2.2.2.1 P := by
        have hlocks := B.notSynchronized
        refine ⟨fun pc ls H locs D' x ty hd hr hn' hp hP1 hS1 => ?_, fun pc ls H locs D' x hd hr hp hP1 hS1 => ?_, fun pc ls H locs D' hd hr hp hP1 hS1 => ?_⟩
        · exact W.zret B.exec B.bytes (B.returns.trans hr) hn' (fun t ht hW => ⟨⟨some (.int x), D', rfl, hp, by rw [ht]; exact hP1⟩, hS1.F ht⟩) hS1.2.2 hd hlocks
        · exact W.lret B.exec B.bytes (B.returns.trans hr) (fun t ht hW => ⟨⟨some (.long x), D', rfl, hp, by rw [ht]; exact hP1⟩, hS1.F ht⟩) hS1.2.2 hd hlocks
        · exact W.vret B.exec B.bytes (B.returns.trans hr) (fun t ht hW => ⟨⟨none, D', rfl, hp, by rw [ht]; exact hP1⟩, hS1.F ht⟩) hS1.2.2 hd hlocks
      have hg := nk_av_cat (ad := ad) hsv
      have hll : (lg_sl (vs.map (nk_av ad sv))).length ≤ M.2.2.2.1 := by rw [nk_al_len _ hg]; exact hal
      have hl := lv_entry (vs.map (nk_av ad sv)) hll
      rw [lg_entry_eq]
      refine hex _ (nk_close C hSn hcall hret k7) ?_ s.heap [] _ ⟨hl.1, hl.2.1, fun q hq => hl.2.2 q (nk_al_mem _ hg _ _ _ (nk_pad_mem _ _ _ _ _ hq))⟩ hP va_S.rf
      simp only [nk_pad, List.length_append, List.length_replicate]
      omega
