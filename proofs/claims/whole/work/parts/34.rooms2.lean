/-! ===== rooms of the reference ===== -/
def rmv (co q i : Nat) : Int32 := if co.testBit i = true then nI (dgt co q i) else -1
theorem dgt_lt (co q i : Nat) : dgt co q i < 6 := Nat.mod_lt _ (by decide)
theorem m1_gt {a : Nat} (h : a < 2 ^ 31) : ¬ nI a < (-1 : Int32) := by
  rw [Int32.lt_iff_toInt_lt, nI_toInt h]
  have : (-1 : Int32).toInt = -1 := by decide
  omega
theorem m1_ne {a : Nat} (h : a < 2 ^ 31) : ¬ (-1 : Int32) = nI a := by
  intro e
  have := congrArg Int32.toInt e
  rw [nI_toInt h] at this
  have : (-1 : Int32).toInt = -1 := by decide
  omega
section NKO
variable {S : nk_Sc} {d : Nat} {D : nk_D} {P : nk_P}
theorem sm_roomsBy {n co q : Nat} {ka : Nat → Nat} {r : Nat → Nat → Nat} (hk : MK D n ka) (hm : MS D n r) (hco : co < 64) (hq : q < 2 ^ 31)
    (h : ∀ D', (∀ i, i < 6 → D' 61 i = rmv co q i) → (∀ a b, a ≠ 61 → D' a b = D a b) → P (some (.int (if pkR (tw n ka r) co q (cuN co q 6) = true then nI (cuN co q 6) else -1))) D') : nk_run S (d + 6) 111 [.ref 52, .int (nI q), .int (nI co)] D P := by
  have hn6 := hk.1
  refine nk_go (M := (6, yX6_roomsBy, cX6_roomsBy, 9, (some .int), false, 2, nk_T111)) rfl rfl (Nat.le_of_ble_eq_true rfl) (fun K hK => ?_)
  show K 0 [some (.ref 52), some (.int (nI q)), some (.int (nI co)), none, none, none, none, none, none] [] D
  refine hK _ _ _ _ (hK _ _ _ _ (hK _ _ _ _ (hK _ _ _ _ (hK _ _ _ _ (hK _ _ _ _ (hK _ _ _ _ (hK _ _ _ _ (show K _ _ _ _ from ?_))))))))
  -- the third stretch: the rooms, one by one
  have third : ∀ D1, (∀ i, i < 6 → D1 61 i = rmv co q i) → (∀ a b, a ≠ 61 → D1 a b = D a b) → ∀ x3 : Int32, ∀ m k, k + m = cuN co q 6 → ∀ x7 x8, K 130 [some (.ref 52), some (.int (nI q)), some (.int (nI co)), some (.int x3), some (.int (nI (cuN co q 6))), some (.int (bI (pkR (tw n ka r) co q k))), some (.int (nI k)), x7, x8] [] D1 := by
    intro D1 t1 t2 x3 m
    have hc6 := cuN_lej co q 6
    have hkD : MK D1 n ka := MK_of (fun b => t2 53 b (by omega)) hk
    have hmD : MS D1 n r := ⟨fun p z hp hz => by rw [t2 54 _ (by omega)]; exact hm.1 p z hp hz, hm.2⟩
    have out : ∀ b : Bool, pkR (tw n ka r) co q (cuN co q 6) = b → ∀ x6 x7 x8, K 208 [some (.ref 52), some (.int (nI q)), some (.int (nI co)), some (.int x3), some (.int (nI (cuN co q 6))), some (.int (bI b)), x6, x7, x8] [] D1 := by
      intro b hb x6 x7 x8
      have h := h D1 t1 t2
      rw [hb] at h
      refine hK _ _ _ _ (show K _ _ _ _ from ?_)
      refine hK _ _ _ _ (nk_beq (fun e => ?_) (fun e => ?_))
      · rw [if_neg (by rw [e]; decide)] at h
        refine hK _ _ _ _ (show K _ _ _ _ from ?_)
        exact hK _ _ _ _ (And.intro rfl (h))
      · rw [if_pos e] at h
        refine hK _ _ _ _ (hK _ _ _ _ (show K _ _ _ _ from ?_))
        exact hK _ _ _ _ (And.intro rfl (h))
    induction m with
    | zero =>
      intro k hk x7 x8
      have hk : k = cuN co q 6 := by omega
      subst hk
      refine hK _ _ _ _ (hK _ _ _ _ (show K _ _ _ _ from ?_))
      refine hK _ _ _ _ (nk_bt (nI_le (Nat.le_refl _) (by omega)) ?_)
      exact out _ rfl _ _ _
    | succ m ih =>
      intro k hk x7 x8
      refine hK _ _ _ _ (hK _ _ _ _ (show K _ _ _ _ from ?_))
      refine hK _ _ _ _ (nk_bf (nI_ge (by omega) (by omega)) ?_)
      refine hK _ _ _ _ (show K _ _ _ _ from ?_)
      refine hK _ _ _ _ (nk_beq (fun e => ?_) (fun e => ?_))
      · rw [e]
        refine out false ?_ _ _ _
        have := pkR_no k (m + 1) e
        rw [hk] at this
        exact this
      · refine hK _ _ _ _ (hK _ _ _ _ (hK _ _ _ _ (hK _ _ _ _ (show K _ _ _ _ from ?_))))
        have mask : ∀ m j, j + m = 6 → K 148 [some (.ref 52), some (.int (nI q)), some (.int (nI co)), some (.int x3), some (.int (nI (cuN co q 6))), some (.int (bI (pkR (tw n ka r) co q k))), some (.int (nI k)), some (.int (nI (mkR co q k j))), some (.int (nI j))] [] D1 := by
          intro m
          induction m with
          | zero =>
            intro j hj
            have hj : j = 6 := by omega
            subst hj
            refine hK _ _ _ _ (hK _ _ _ _ (show K _ _ _ _ from ?_))
            refine hK _ _ _ _ (nk_bt (nI_le (Nat.le_refl _) (by omega)) ?_)
            refine hK _ _ _ _ (hK _ _ _ _ (show K _ _ _ _ from ?_))
            refine hK _ _ _ _ (nk_stV rfl rfl rfl rfl ?_)
            refine sm_twoIn hkD hmD (mkR_lt co q k 6) ?_
            have htw := tw_lt (n := n) (ka := ka) (r := r) (c := mkR co q k 6) hn6
            have back := ih (k + 1) (by omega)
            rw [pkR, e, Bool.true_and] at back
            refine hK _ _ _ _ (nk_ne (by omega) (by omega) (fun e2 => ?_) (fun e2 => ?_))
            · rw [decide_eq_false e2] at back
              refine hK _ _ _ _ (hK _ _ _ _ (hK _ _ _ _ (hK _ _ _ _ (show K _ _ _ _ from ?_))))
              rw [nk_add]
              exact back _ _
            · rw [decide_eq_true e2] at back
              refine hK _ _ _ _ (hK _ _ _ _ (hK _ _ _ _ (hK _ _ _ _ (hK _ _ _ _ (show K _ _ _ _ from ?_)))))
              rw [nk_add]
              exact back _ _
          | succ m ih2 =>
            intro j hj
            have hd := dgt_lt co q j
            have back := ih2 (j + 1) (by omega)
            rw [mkR] at back
            refine hK _ _ _ _ (hK _ _ _ _ (show K _ _ _ _ from ?_))
            refine hK _ _ _ _ (nk_bf (nI_ge (by omega) (by omega)) ?_)
            refine hK _ _ _ _ (hK _ _ _ _ (hK _ _ _ _ (nk_GR rfl rfl rfl (hK _ _ _ _ (show K _ _ _ _ from ?_)))))
            refine hK _ _ _ _ (nk_AL rfl rfl (j := j) rfl (by omega) (show K _ _ _ _ from ?_))
            rw [t1 j (by omega)]
            refine hK _ _ _ _ (show K _ _ _ _ from ?_)
            have no : ¬ (co.testBit j = true ∧ dgt co q j = k) → K 176 [some (.ref 52), some (.int (nI q)), some (.int (nI co)), some (.int x3), some (.int (nI (cuN co q 6))), some (.int (bI (pkR (tw n ka r) co q k))), some (.int (nI k)), some (.int (nI (mkR co q k j))), some (.int (nI j))] [.int (nI (mkR co q k j))] D1 := by
              intro e3
              rw [if_neg e3] at back
              refine hK _ _ _ _ (hK _ _ _ _ (hK _ _ _ _ (hK _ _ _ _ (hK _ _ _ _ (show K _ _ _ _ from ?_)))))
              rw [nk_or, nk_add]
              exact back
            unfold rmv
            by_cases c1 : co.testBit j = true
            · rw [if_pos c1]
              refine hK _ _ _ _ (nk_ne (by omega) (by omega) (fun e2 => no (fun w => e2 w.2)) (fun e2 => ?_))
              rw [if_pos ⟨c1, e2⟩] at back
              refine hK _ _ _ _ (hK _ _ _ _ (hK _ _ _ _ (hK _ _ _ _ (hK _ _ _ _ (hK _ _ _ _ (hK _ _ _ _ (hK _ _ _ _ (show K _ _ _ _ from ?_))))))))
              rw [nk_one (by omega), nk_or, nk_add]
              exact back
            · rw [if_neg c1]
              refine hK _ _ _ _ (nk_nt (m1_ne (by omega)) (no (fun w => c1 w.1)))
        exact mask 6 0 (by omega)
  have second : ∀ D1, (∀ i, i < 6 → D1 61 i = rmv co q i) → (∀ a b, a ≠ 61 → D1 a b = D a b) → ∀ x3 : Int32, ∀ m j, j + m = 6 → ∀ x7 x8, K 67 [some (.ref 52), some (.int (nI q)), some (.int (nI co)), some (.int x3), some (.int (nI (cuN co q j))), some (.int (bI (cuB co q j))), some (.int (nI j)), x7, x8] [] D1 := by
    intro D1 t1 t2 x3 m
    induction m with
    | zero =>
      intro j hj x7 x8
      have hj : j = 6 := by omega
      subst hj
      refine hK _ _ _ _ (hK _ _ _ _ (show K _ _ _ _ from ?_))
      refine hK _ _ _ _ (nk_bt (nI_le (Nat.le_refl _) (by omega)) ?_)
      refine hK _ _ _ _ (hK _ _ _ _ (show K _ _ _ _ from ?_))
      exact third D1 t1 t2 x3 (cuN co q 6) 0 (by omega) _ _
    | succ m ih =>
      intro j hj x7 x8
      have hd := dgt_lt co q j
      have hcj := cuN_lej co q j
      have back := ih (j + 1) (by omega) x7 x8
      have fin : ∀ b : Bool, cuB co q (j + 1) = b → K 98 [some (.ref 52), some (.int (nI q)), some (.int (nI co)), some (.int x3), some (.int (nI (cuN co q j))), some (.int (bI b)), some (.int (nI j)), x7, x8] [] D1 := by
        intro b hb
        rw [hb] at back
        rw [cuN] at back
        have no : ¬ (co.testBit j = true ∧ dgt co q j = cuN co q j) → K 117 [some (.ref 52), some (.int (nI q)), some (.int (nI co)), some (.int x3), some (.int (nI (cuN co q j))), some (.int (bI b)), some (.int (nI j)), x7, x8] [] D1 := by
          intro e
          rw [if_neg e] at back
          refine hK _ _ _ _ (hK _ _ _ _ (hK _ _ _ _ (hK _ _ _ _ (show K _ _ _ _ from ?_))))
          rw [nk_add]
          exact back
        refine hK _ _ _ _ (hK _ _ _ _ (nk_GR rfl rfl rfl (hK _ _ _ _ (show K _ _ _ _ from ?_))))
        refine hK _ _ _ _ (nk_AL rfl rfl (j := j) rfl (by omega) (show K _ _ _ _ from ?_))
        rw [t1 j (by omega)]
        refine hK _ _ _ _ (show K _ _ _ _ from ?_)
        unfold rmv
        by_cases c1 : co.testBit j = true
        · rw [if_pos c1]
          refine hK _ _ _ _ (nk_ne (by omega) (by omega) (fun e2 => no (fun w => e2 w.2)) (fun e2 => ?_))
          rw [if_pos ⟨c1, e2⟩] at back
          refine hK _ _ _ _ (hK _ _ _ _ (hK _ _ _ _ (hK _ _ _ _ (hK _ _ _ _ (hK _ _ _ _ (hK _ _ _ _ (show K _ _ _ _ from ?_)))))))
          rw [nk_add, nk_add]
          exact back
        · rw [if_neg c1]
          refine hK _ _ _ _ (nk_nt (m1_ne (by omega)) (no (fun w => c1 w.1)))
      refine hK _ _ _ _ (hK _ _ _ _ (show K _ _ _ _ from ?_))
      refine hK _ _ _ _ (nk_bf (nI_ge (by omega) (by omega)) ?_)
      refine hK _ _ _ _ (show K _ _ _ _ from ?_)
      refine hK _ _ _ _ (nk_beq (fun e => ?_) (fun e => ?_))
      · refine hK _ _ _ _ (hK _ _ _ _ (show K _ _ _ _ from ?_))
        refine fin false ?_
        rw [cuB, e]
        rfl
      · refine hK _ _ _ _ (hK _ _ _ _ (nk_GR rfl rfl rfl (hK _ _ _ _ (show K _ _ _ _ from ?_))))
        refine hK _ _ _ _ (nk_AL rfl rfl (j := j) rfl (by omega) (show K _ _ _ _ from ?_))
        rw [t1 j (by omega)]
        refine hK _ _ _ _ (show K _ _ _ _ from ?_)
        unfold rmv
        by_cases c1 : co.testBit j = true
        · rw [if_pos c1]
          refine hK _ _ _ _ (nk_gt (by omega) (by omega) (fun e2 => ?_) (fun e2 => ?_))
          · refine hK _ _ _ _ (hK _ _ _ _ (show K _ _ _ _ from ?_))
            refine fin false ?_
            rw [cuB, e, c1, decide_eq_false (by omega)]
            rfl
          · refine hK _ _ _ _ (hK _ _ _ _ (hK _ _ _ _ (show K _ _ _ _ from ?_)))
            refine fin true ?_
            rw [cuB, e, c1, decide_eq_true e2]
            rfl
        · rw [if_neg c1]
          refine hK _ _ _ _ (nk_bf (m1_gt (by omega)) ?_)
          refine hK _ _ _ _ (hK _ _ _ _ (hK _ _ _ _ (show K _ _ _ _ from ?_)))
          refine fin true ?_
          rw [cuB, e, Bool.eq_false_iff.mpr c1]
          rfl
  have first : ∀ m D1, m ≤ 6 → (∀ i, i < 6 → m ≤ i → D1 61 i = rmv co q i) → (∀ a b, a ≠ 61 → D1 a b = D a b) → K 11 [some (.ref 52), some (.int (nI q)), some (.int (nI co)), some (.int (nI (q / 6 ^ rmn co (6 - m)))), some (.int (nI 0)), some (.int (nI 1)), some (.int (nI m + (-1))), none, none] [] D1 := by
    intro m
    induction m with
    | zero =>
      intro D1 h6 t1 t2
      refine hK _ _ _ _ (show K _ _ _ _ from ?_)
      refine hK _ _ _ _ (nk_bt (by decide) ?_)
      refine hK _ _ _ _ (hK _ _ _ _ (show K _ _ _ _ from ?_))
      exact second D1 (fun i hi => t1 i hi (by omega)) t2 _ 6 0 (by omega) _ _
    | succ m ih =>
      intro D1 h6 t1 t2
      have em : nI (m + 1) + (-1) = nI m := by
        rw [← nk_add, Int32.add_assoc]
        show nI m + (nI 1 + -1) = nI m
        rw [show nI 1 + (-1) = 0 by decide, Int32.add_zero]
      rw [em]
      have e5 : 6 - (m + 1) = 5 - m := by omega
      rw [e5]
      have hx : q / 6 ^ rmn co (5 - m) < 2 ^ 31 := Nat.lt_of_le_of_lt (Nat.div_le_self _ _) hq
      have e6 : 5 - (5 - m) = m := by omega
      have rm1 : rmn co (6 - m) = rmn co (5 - m) + (co.testBit m).toNat := by
        rw [show 6 - m = (5 - m) + 1 by omega, rmn, e6]
      refine hK _ _ _ _ (show K _ _ _ _ from ?_)
      refine hK _ _ _ _ (nk_bf (nI_pos (by omega)) ?_)
      refine hK _ _ _ _ (hK _ _ _ _ (nk_GR rfl rfl rfl (hK _ _ _ _ (hK _ _ _ _ (hK _ _ _ _ (show K _ _ _ _ from ?_))))))
      refine hK _ _ _ _ (nk_stS rfl rfl rfl rfl ?_)
      refine sm_has (by omega) (by omega) ?_
      have tail : ∀ D2, (∀ i, i < 6 → m ≤ i → D2 61 i = rmv co q i) → (∀ a b, a ≠ 61 → D2 a b = D a b) → K 40 [some (.ref 52), some (.int (nI q)), some (.int (nI co)), some (.int (nI (q / 6 ^ rmn co (5 - m)))), some (.int (nI 0)), some (.int (nI 1)), some (.int (nI m)), none, none] [] D2 := by
        intro D2 s1 s2
        have back := ih D2 (by omega) s1 s2
        refine hK _ _ _ _ (hK _ _ _ _ (show K _ _ _ _ from ?_))
        refine hK _ _ _ _ (nk_stS rfl rfl rfl rfl ?_)
        refine sm_has (by omega) (by omega) ?_
        refine hK _ _ _ _ (nk_beq (fun e => ?_) (fun e => ?_))
        · rw [rm1, e, Bool.toNat_false, Nat.add_zero] at back
          refine hK _ _ _ _ (hK _ _ _ _ (hK _ _ _ _ (hK _ _ _ _ (show K _ _ _ _ from ?_))))
          exact back
        · rw [rm1, e, Bool.toNat_true, Nat.pow_succ, ← Nat.div_div_eq_div_mul] at back
          refine hK _ _ _ _ (hK _ _ _ _ (show K _ _ _ _ from ?_))
          refine hK _ _ _ _ (And.intro (nI_ne0 (by omega) (by omega)) (show K _ _ _ _ from ?_))
          rw [pk_div hx (by omega) (by omega)]
          refine hK _ _ _ _ (hK _ _ _ _ (hK _ _ _ _ (hK _ _ _ _ (show K _ _ _ _ from ?_))))
          exact back
      have put : ∀ D2 v, v = rmv co q m → (∀ i, i < 6 → m + 1 ≤ i → D2 61 i = rmv co q i) → ∀ i, i < 6 → m ≤ i → nk_up D2 61 m v 61 i = rmv co q i := by
        intro D2 v hv s1 i hi hmi
        by_cases e : i = m
        · simp [nk_up, e, hv]
        · simp [nk_up, e, s1 i hi (by omega)]
      refine hK _ _ _ _ (nk_beq (fun e => ?_) (fun e => ?_))
      · refine hK _ _ _ _ (show K _ _ _ _ from ?_)
        refine hK _ _ _ _ (nk_AS rfl rfl (j := m) rfl (by omega) (show K _ _ _ _ from ?_))
        refine tail _ (put D1 _ (by unfold rmv; rw [if_neg (by rw [e]; decide)]) t1) (fun a b ha => by simp [nk_up, ha, t2 a b ha])
      · refine hK _ _ _ _ (hK _ _ _ _ (show K _ _ _ _ from ?_))
        refine hK _ _ _ _ (And.intro (nI_ne0 (by omega) (by omega)) (show K _ _ _ _ from ?_))
        rw [pk_rem hx (by omega) (by omega)]
        refine hK _ _ _ _ (show K _ _ _ _ from ?_)
        refine hK _ _ _ _ (nk_AS rfl rfl (j := m) rfl (by omega) (show K _ _ _ _ from ?_))
        refine tail _ (put D1 _ (by unfold rmv dgt; rw [if_pos e]) t1) (fun a b ha => by simp [nk_up, ha, t2 a b ha])
  have e0 : q / 6 ^ rmn co (6 - 6) = q := by rw [Nat.sub_self, rmn, Nat.pow_zero, Nat.div_one]
  have := first 6 D (by omega) (fun i hi h6 => absurd hi (by omega)) (fun _ _ _ => rfl)
  rw [e0] at this
  exact this
theorem op_rooms {x y : Int32} (hr : REL D) (h : ∀ v D1, TH S (d + 20) 112 [.ref 52, .int x, .int y] v D1 → P (some (.int v)) D1) : nk_run S (d + 20) 51 [.ref 0, .int x, .int y] D P := by
  have hr0 := hr
  obtain ⟨n, ka, s, t, L, tx, u, pa, kp, c, se, ok, xr, mr⟩ := hr
  have hw := ok.1
  have hx := xr.1
  have hxs := hx.1
  have hn6 := hxs.1
  have hn := hxs.2.1
  have h64 := p64 hn6
  have hmk := mr.1
  have hms := MS_now mr.2.1 hw
  have hR : D 6 3 = nI s.2.1 := hx.2.1
  have mR : D 54 36 = nI s.2.1 := mr.2.1.2.1
  have hR64 : s.2.1 < 64 := by have := hw.2.2.1; omega
  refine nk_go (M := (5, yX5_rooms, cX5_rooms, 4, (some .int), false, 2, nk_T51)) rfl rfl (Nat.le_of_ble_eq_true rfl) (fun K hK => ?_)
  show K 0 [some (.ref 0), some (.int x), some (.int y), none] [] D
  have no : (vld (2 ^ n) x = true → ¬ y = -1 ∧ vld n y = false) → K 27 [some (.ref 0), some (.int x), some (.int y), none] [] D := by
    intro e
    refine hK _ _ _ _ (show K _ _ _ _ from ?_)
    refine hK _ _ _ _ (And.intro rfl (h _ _ ?_))
    refine nk_go (M := (6, yX6_rooms, cX6_rooms, 8, (some .int), false, 2, nk_T112)) rfl rfl (Nat.le_of_ble_eq_true rfl) (fun K hK => ?_)
    show K 0 [some (.ref 52), some (.int x), some (.int y), none, none, none, none, none] [] D
    refine hK _ _ _ _ (hK _ _ _ _ (show K _ _ _ _ from ?_))
    refine hK _ _ _ _ (nk_stV rfl rfl rfl rfl ?_)
    refine sm_arePeople hmk.2.1 hn6 ?_
    refine hK _ _ _ _ (nk_beq (fun b => ?_) (fun b => ?_))
    · refine hK _ _ _ _ (show K _ _ _ _ from ?_)
      exact hK _ _ _ _ (And.intro rfl (⟨rfl, hr0⟩))
    · refine hK _ _ _ _ (hK _ _ _ _ (show K _ _ _ _ from ?_))
      refine hK _ _ _ _ (nk_bf (e b).1 ?_)
      refine hK _ _ _ _ (hK _ _ _ _ (show K _ _ _ _ from ?_))
      refine hK _ _ _ _ (nk_stV rfl rfl rfl rfl ?_)
      refine sm_isPerson hmk.2.1 hn6 ?_
      rw [(e b).2]
      refine hK _ _ _ _ (nk_bne (fun z => by cases z) (fun _ => ?_))
      refine hK _ _ _ _ (show K _ _ _ _ from ?_)
      exact hK _ _ _ _ (And.intro rfl (⟨rfl, hr0⟩))
  refine hK _ _ _ _ (hK _ _ _ _ (nk_GR rfl rfl rfl (hK _ _ _ _ (show K _ _ _ _ from ?_))))
  refine hK _ _ _ _ (nk_stV rfl rfl rfl rfl ?_)
  refine sx_hasAll isS6 hn hn6 ?_
  refine hK _ _ _ _ (nk_beq (fun b => no (fun w => by rw [b] at w; cases w)) (fun b => ?_))
  obtain ⟨co, hco, rfl⟩ := vld_of (by omega) b
  have hco64 : co < 64 := by omega
  have hc6 := pcn6 hco64
  have hT : ∀ p, p < 6 → co.testBit p = true → tw n ka s.1 (2 ^ p) = 0 := by
    intro p hp hb
    refine tw_one (hw.2.1 p ?_)
    rcases Nat.lt_or_ge p n with h1 | h1
    · exact h1
    · have : 2 ^ p ≤ co := Nat.ge_two_pow_of_testBit hb
      have : 2 ^ n ≤ 2 ^ p := Nat.pow_le_pow_right (by decide) h1
      omega
  have main : (y = -1 ∨ ∃ p, p < n ∧ y = nI p) → K 30 [some (.ref 0), some (.int (nI co)), some (.int y), none] [] D := by
    intro hy
    refine hK _ _ _ _ (hK _ _ _ _ (nk_GR rfl rfl rfl (hK _ _ _ _ (hK _ _ _ _ (nk_GR rfl rfl rfl (hK _ _ _ _ (show K _ _ _ _ from ?_)))))))
    refine hK _ _ _ _ (nk_stV rfl rfl rfl rfl ?_)
    refine sx_divide hco64 hxs hT (fun L q f' D1 h1 h2 h3 h4 h5 h6 h7 => ?_)
    have hmono : ∀ a b : Nat, (∀ i, a.testBit i = true → b.testBit i = true) → tw n ka s.1 b = 0 → tw n ka s.1 a = 0 := fun a b z1 z2 => tw_mono z1 z2
    have hpk := fin_pk hmono h2
    rw [h3] at hpk
    have hways : 6 ^ rmn co 6 ≤ 46656 := by
      rw [rmn6 hco64]
      exact Nat.le_trans (Nat.pow_le_pow_right (by decide) hc6) (by decide)
    have hq31 : q < 2 ^ 31 := by omega
    -- what both answer
    have fr : ∀ a b, a ≠ 51 → D1 a b = D a b := h7
    have hmk1 : MK D1 n ka := MK_of (fun b => fr 53 b (by omega)) hmk
    have hms1 : MS D1 n s.1 := ⟨fun p z hp hz => by rw [fr 54 _ (by omega)]; exact hms.1 p z hp hz, hms.2⟩
    have road : ∀ v, (∀ D2 : nk_D, (∀ i, i < 6 → D2 61 i = rmv co q i) → (y = -1 → v = nI L) ∧ (∀ p, p < n → y = nI p → v = rmv co q p)) → TH S (d + 20) 112 [.ref 52, .int (nI co), .int y] v D1 := by
      intro v hv
      unfold TH
      refine nk_go (M := (6, yX6_rooms, cX6_rooms, 8, (some .int), false, 2, nk_T112)) rfl rfl (Nat.le_of_ble_eq_true rfl) (fun K hK => ?_)
      show K 0 [some (.ref 52), some (.int (nI co)), some (.int y), none, none, none, none, none] [] D1
      refine hK _ _ _ _ (hK _ _ _ _ (show K _ _ _ _ from ?_))
      refine hK _ _ _ _ (nk_stV rfl rfl rfl rfl ?_)
      refine sm_arePeople hmk1.2.1 hn6 ?_
      rw [b]
      refine hK _ _ _ _ (nk_beq (fun z => by cases z) (fun _ => ?_))
      refine hK _ _ _ _ (hK _ _ _ _ (show K _ _ _ _ from ?_))
      have work : K 24 [some (.ref 52), some (.int (nI co)), some (.int y), none, none, none, none, none] [] D1 := by
        refine hK _ _ _ _ (hK _ _ _ _ (hK _ _ _ _ (hK _ _ _ _ (show K _ _ _ _ from ?_))))
        have pow : ∀ m j, j + m = pcn co → K 29 [some (.ref 52), some (.int (nI co)), some (.int y), some (.int (nI (6 ^ j))), some (.int (nI j)), none, none, none] [] D1 := by
          intro m
          induction m with
          | zero =>
            intro j hj
            have hj : j = pcn co := by omega
            subst hj
            refine hK _ _ _ _ (hK _ _ _ _ (show K _ _ _ _ from ?_))
            refine hK _ _ _ _ (nk_stS rfl rfl rfl rfl ?_)
            refine sm_ones (by omega) ?_
            refine hK _ _ _ _ (nk_bt (nI_le (Nat.le_refl _) (by omega)) ?_)
            refine hK _ _ _ _ (hK _ _ _ _ (hK _ _ _ _ (hK _ _ _ _ (hK _ _ _ _ (hK _ _ _ _ (show K _ _ _ _ from ?_))))))
            rw [← rmn6 hco64]
            have loop : ∀ m j best which D2, j + m = 6 ^ rmn co 6 → (j ≤ q → L < best ∧ best ≤ 7) → (q < j → best = L ∧ which = q) → which < 2 ^ 31 → (∀ a b, a ≠ 61 → D2 a b = D1 a b) → ∀ x7, K 59 [some (.ref 52), some (.int (nI co)), some (.int y), some (.int (nI (6 ^ rmn co 6))), some (.int (nI best)), some (.int (nI which)), some (.int (nI j)), x7] [] D2 := by
              intro m
              induction m with
              | zero =>
                intro j best which D2 hj g1 g2 gw g3 x7
                have hj : j = 6 ^ rmn co 6 := by omega
                subst hj
                obtain ⟨rfl, rfl⟩ := g2 h2
                refine hK _ _ _ _ (hK _ _ _ _ (show K _ _ _ _ from ?_))
                refine hK _ _ _ _ (nk_bt (nI_le (Nat.le_refl _) (by omega)) ?_)
                refine hK _ _ _ _ (hK _ _ _ _ (hK _ _ _ _ (show K _ _ _ _ from ?_)))
                refine hK _ _ _ _ (nk_stV rfl rfl rfl rfl ?_)
                refine sm_roomsBy (MK_of (fun b => g3 53 b (by omega)) hmk1) ⟨fun p z hp hz => by rw [g3 54 _ (by omega)]; exact hms1.1 p z hp hz, hms1.2⟩ hco64 gw (fun D3 t1 t2 => ?_)
                obtain ⟨v1, v2⟩ := hv D3 t1
                have rel3 : REL D3 := REL_g hr0 (fun a b z1 z2 z3 => by rw [t2 a b (by omega), g3 a b (by omega), fr a b (by omega)]) (fun a b z1 z2 z3 z4 z5 z6 z7 => by rw [t2 a b (by omega), g3 a b (by omega), fr a b (by omega)])
                show K 107 _ _ _
                refine hK _ _ _ _ (hK _ _ _ _ (show K _ _ _ _ from ?_))
                rcases hy with rfl | ⟨p, hp, rfl⟩
                · have v1 := v1 rfl
                  refine hK _ _ _ _ (nk_bf (by decide) ?_)
                  refine hK _ _ _ _ (hK _ _ _ _ (show K _ _ _ _ from ?_))
                  exact hK _ _ _ _ (And.intro rfl (⟨by rw [v1], rel3⟩))
                · have v2 := v2 p hp rfl
                  refine hK _ _ _ _ (nk_bt (nI_le (Nat.zero_le _) (by omega)) ?_)
                  refine hK _ _ _ _ (hK _ _ _ _ (nk_GR rfl rfl rfl (hK _ _ _ _ (show K _ _ _ _ from ?_))))
                  refine hK _ _ _ _ (nk_AL rfl rfl (j := p) rfl (by omega) (show K _ _ _ _ from ?_))
                  rw [t1 p (by omega)]
                  exact hK _ _ _ _ (And.intro rfl (⟨by rw [v2], rel3⟩))
              | succ m ih =>
                intro j best which D2 hj g1 g2 gw g3 x7
                have hbest : best ≤ 7 := by
                  rcases Nat.lt_or_ge q j with z | z
                  · have := (g2 z).1; omega
                  · exact (g1 z).2
                refine hK _ _ _ _ (hK _ _ _ _ (show K _ _ _ _ from ?_))
                refine hK _ _ _ _ (nk_bf (nI_ge (by omega) (by omega)) ?_)
                refine hK _ _ _ _ (hK _ _ _ _ (hK _ _ _ _ (show K _ _ _ _ from ?_)))
                refine hK _ _ _ _ (nk_stV rfl rfl rfl rfl ?_)
                refine sm_roomsBy (MK_of (fun b => g3 53 b (by omega)) hmk1) ⟨fun p z hp hz => by rw [g3 54 _ (by omega)]; exact hms1.1 p z hp hz, hms1.2⟩ hco64 (by omega) (fun D3 t1 t2 => ?_)
                have hj2 := fin_pk hmono (show j < 6 ^ rmn co 6 by omega)
                have hcj := cuN_lej co j 6
                have fr3 : ∀ a b, a ≠ 61 → D3 a b = D1 a b := fun a b ha => by rw [t2 a b ha, g3 a b ha]
                have same : (pkR (tw n ka s.1) co j (cuN co j 6) = true → best ≤ cuN co j 6) → ∀ x7, K 94 [some (.ref 52), some (.int (nI co)), some (.int y), some (.int (nI (6 ^ rmn co 6))), some (.int (nI best)), some (.int (nI which)), some (.int (nI j)), x7] [] D3 := by
                  intro hs x7
                  refine hK _ _ _ _ (hK _ _ _ _ (show K _ _ _ _ from ?_))
                  rw [nk_add]
                  refine ih (j + 1) best which D3 (by omega) (fun z => g1 (by omega)) (fun z => ?_) gw fr3 _
                  by_cases e : j = q
                  · subst e
                    exfalso
                    by_cases hp : pkR (tw n ka s.1) co j (cuN co j 6) = true
                    · rw [if_pos hp] at hpk
                      have := hs hp
                      have e1 : L = cuN co j 6 := by
                        have := Option.some.inj hpk
                        exact congrArg Prod.fst this
                      have := (g1 (Nat.le_refl _)).1
                      omega
                    · rw [if_neg hp] at hpk
                      cases hpk
                  · exact g2 (by omega)
                show K 72 _ _ _
                refine hK _ _ _ _ (hK _ _ _ _ (show K _ _ _ _ from ?_))
                by_cases hp : pkR (tw n ka s.1) co j (cuN co j 6) = true
                · rw [if_pos hp] at hj2 ⊢
                  refine hK _ _ _ _ (nk_bf (nI_pos (by omega)) ?_)
                  refine hK _ _ _ _ (hK _ _ _ _ (show K _ _ _ _ from ?_))
                  refine hK _ _ _ _ (nk_ge (by omega) (by omega) (fun e => same (fun _ => e) _) (fun e => ?_))
                  refine hK _ _ _ _ (hK _ _ _ _ (hK _ _ _ _ (hK _ _ _ _ (hK _ _ _ _ (hK _ _ _ _ (show K _ _ _ _ from ?_))))))
                  rw [nk_add]
                  have k1 := h5 j _ _ (by omega) hj2
                  refine ih (j + 1) (cuN co j 6) j D3 (by omega) (fun z => ⟨h4 j _ _ (by omega) hj2, by omega⟩) (fun z => ?_) (by omega) fr3 _
                  by_cases e2 : j = q
                  · subst e2
                    rw [if_pos hp] at hpk
                    exact ⟨(congrArg Prod.fst (Option.some.inj hpk)).symm, rfl⟩
                  · exfalso
                    have := (g2 (by omega)).1
                    omega
                · rw [if_neg hp]
                  refine hK _ _ _ _ (nk_bt (by decide) (same (fun w => absurd w hp) _))
            exact loop (6 ^ rmn co 6) 0 7 0 D1 (by omega) (fun _ => ⟨by omega, by omega⟩) (fun z => absurd z (by omega)) (by omega) (fun _ _ _ => rfl) _
          | succ m ih =>
            intro j hj
            refine hK _ _ _ _ (hK _ _ _ _ (show K _ _ _ _ from ?_))
            refine hK _ _ _ _ (nk_stS rfl rfl rfl rfl ?_)
            refine sm_ones (by omega) ?_
            refine hK _ _ _ _ (nk_bf (nI_ge (by omega) (by omega)) ?_)
            refine hK _ _ _ _ (hK _ _ _ _ (hK _ _ _ _ (hK _ _ _ _ (hK _ _ _ _ (hK _ _ _ _ (show K _ _ _ _ from ?_))))))
            rw [nk_mul, nk_add, ← Nat.pow_succ]
            exact ih (j + 1) (by omega)
        exact pow (pcn co) 0 (by omega)
      rcases hy with rfl | ⟨p, hp, rfl⟩
      · refine hK _ _ _ _ (nk_bt rfl work)
      · refine hK _ _ _ _ (nk_bf (fun w => m1_ne (by omega) w.symm) ?_)
        refine hK _ _ _ _ (hK _ _ _ _ (show K _ _ _ _ from ?_))
        refine hK _ _ _ _ (nk_stV rfl rfl rfl rfl ?_)
        refine sm_isPerson hmk1.2.1 hn6 ?_
        rw [vld_nI (by omega) hp]
        refine hK _ _ _ _ (nk_bne (fun _ => work) (fun z => by cases z))
    refine hK _ _ _ _ (hK _ _ _ _ (hK _ _ _ _ (show K _ _ _ _ from ?_)))
    rcases hy with rfl | ⟨p, hp, rfl⟩
    · refine hK _ _ _ _ (nk_nf rfl ?_)
      refine hK _ _ _ _ (hK _ _ _ _ (show K _ _ _ _ from ?_))
      exact hK _ _ _ _ (And.intro rfl (h _ _ (road _ (fun D2 _ => ⟨fun _ => rfl, fun p hp e => absurd e (m1_ne (by omega))⟩))))
    · refine hK _ _ _ _ (nk_nt (fun w => m1_ne (by omega) w.symm) ?_)
      refine hK _ _ _ _ (hK _ _ _ _ (nk_GR rfl rfl rfl (hK _ _ _ _ (show K _ _ _ _ from ?_))))
      refine hK _ _ _ _ (nk_stV rfl rfl rfl rfl ?_)
      by_cases hp2 : pkR (tw n ka s.1) co q (cuN co q 6) = true
      · rw [if_pos hp2] at hpk
        have e2 : f' = fun k => mkR co q k 6 := congrArg Prod.snd (Option.some.inj hpk)
        subst e2
        refine sx_roomOf (g := dgt co q p) (b := co.testBit p) (by omega) (dgt_lt _ _ _) h6 (fun k => mkR_lt co q k 6) (fun k => ?_) ?_
        · rw [mkR_bit, decide_eq_true (show p < 6 by omega), Bool.true_and]
        · exact hK _ _ _ _ (And.intro rfl (h _ _ (road _ (fun D2 _ => ⟨fun e => absurd e.symm (m1_ne (by omega)), fun p' hp' e => by rw [(nI_eq (by omega) (by omega)).mp e]; rfl⟩))))
      · rw [if_neg hp2] at hpk
        cases hpk
  refine hK _ _ _ _ (hK _ _ _ _ (show K _ _ _ _ from ?_))
  refine hK _ _ _ _ (And.intro (fun e => main (Or.inl e)) (fun e => (show K _ _ _ _ from ?_)))
  refine hK _ _ _ _ (hK _ _ _ _ (nk_GR rfl rfl rfl (hK _ _ _ _ (show K _ _ _ _ from ?_))))
  refine hK _ _ _ _ (nk_stV rfl rfl rfl rfl ?_)
  refine sx_has isS6 hn hn6 ?_
  refine hK _ _ _ _ (nk_bne (fun c1 => ?_) (fun c1 => no (fun _ => ⟨e, c1⟩)))
  obtain ⟨p, hp, rfl⟩ := vld_of (by omega) c1
  exact main (Or.inr ⟨p, hp, rfl⟩)
end NKO
