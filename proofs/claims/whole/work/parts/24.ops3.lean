/-! ===== person, count ===== -/
section NKO
variable {S : nk_Sc} {d : Nat} {D : nk_D} {P : nk_P}
theorem op_person {x y : Int32} (hr : REL D) (h : ∀ v D1, TH S (d + 20) 97 [.ref 52, .int x, .int y] v D1 → P (some (.int v)) D1) : nk_run S (d + 20) 40 [.ref 0, .int x, .int y] D P := by
  have hr0 := hr
  obtain ⟨n, ka, s, t, L, tx, u, pa, kp, c, se, ok, xr, mr⟩ := hr
  have hw := ok.1
  have hx := xr.1
  have hxs := hx.1
  have hn6 := hxs.1
  have hn := hxs.2.1
  have h64 := p64 hn6
  have hmk := mr.1
  have hms := MS_now mr.2.1 hw
  have hR : D 6 3 = nI s.2.1 := hx.2.1
  have mR : D 54 36 = nI s.2.1 := mr.2.1.2.1
  have hR64 : s.2.1 < 64 := by have := hw.2.2.1; omega
  refine nk_go (M := (5, yX5_person, cX5_person, 3, (some .int), false, 2, nk_T40)) rfl rfl (Nat.le_of_ble_eq_true rfl) (fun K hK => ?_)
  show K 0 [some (.ref 0), some (.int x), some (.int y)] [] D
  refine hK _ _ _ _ (hK _ _ _ _ (nk_GR rfl rfl rfl (hK _ _ _ _ (show K _ _ _ _ from ?_))))
  refine hK _ _ _ _ (nk_stV rfl rfl rfl rfl ?_)
  refine sx_has isS6 hn hn6 ?_
  refine hK _ _ _ _ (nk_bne (fun b => ?_) (fun b => ?_))
  · obtain ⟨p, hp, rfl⟩ := vld_of (by omega) b
    have hkp := hxs.2.2.1 p hp
    refine hK _ _ _ _ (show K _ _ _ _ from ?_)
    -- the reference up to its switch
    have mroad : ∀ v, (∀ (K : nk_K), (∀ pc loc stk D, nk_step S (nk_run S (d + 19)) nk_T97 (some .int) (fun r2 D2 => r2 = some (.int v) ∧ REL D2) K pc loc stk D → K pc loc stk D) → K 12 [some (.ref 52), some (.int (nI p)), some (.int y)] [.int y] D) → TH S (d + 20) 97 [.ref 52, .int (nI p), .int y] v D := by
      intro v hv
      unfold TH
      refine nk_go (M := (6, yX6_person, cX6_person, 3, (some .int), false, 2, nk_T97)) rfl rfl (Nat.le_of_ble_eq_true rfl) (fun K hK => ?_)
      show K 0 [some (.ref 52), some (.int (nI p)), some (.int y)] [] D
      refine hK _ _ _ _ (hK _ _ _ _ (show K _ _ _ _ from ?_))
      refine hK _ _ _ _ (nk_stV rfl rfl rfl rfl ?_)
      refine sm_isPerson hmk.2.1 hn6 ?_
      rw [b]
      refine hK _ _ _ _ (nk_bne (fun _ => ?_) (fun z => by cases z))
      refine hK _ _ _ _ (show K _ _ _ _ from ?_)
      exact hv K hK
    rcases rg (lo := 0) (hi := 4) (by decide) (by decide) y with ⟨j, -, hj, rfl, hd⟩ | ⟨hno, hd⟩
    · match j, hj with
      | 0, _ =>
        refine hK _ _ _ _ (nk_SW (q := 48) rfl (by decide) (by decide) rfl rfl (show K _ _ _ _ from ?_))
        refine hK _ _ _ _ (hK _ _ _ _ (nk_GR rfl rfl rfl (hK _ _ _ _ (show K _ _ _ _ from ?_))))
        refine hK _ _ _ _ (nk_stV rfl rfl rfl rfl ?_)
        refine sx_kindOf isS6 (by omega) ?_
        rw [hkp.1]
        refine hK _ _ _ _ (And.intro rfl (h _ _ (mroad _ (fun K hK => ?_))))
        refine hK _ _ _ _ (nk_SW (q := 48) rfl (by decide) (by decide) rfl rfl (show K _ _ _ _ from ?_))
        refine hK _ _ _ _ (hK _ _ _ _ (nk_GR rfl rfl rfl (hK _ _ _ _ (hK _ _ _ _ (hK _ _ _ _ (show K _ _ _ _ from ?_))))))
        rw [nk_add]
        refine hK _ _ _ _ (nk_AL rfl rfl rfl (show 1 + p < 44 by omega) (show K _ _ _ _ from ?_))
        rw [(hmk.2.2 p hp).1]
        exact hK _ _ _ _ (And.intro rfl (⟨rfl, hr0⟩))
      | 1, _ =>
        refine hK _ _ _ _ (nk_SW (q := 57) rfl (by decide) (by decide) rfl rfl (show K _ _ _ _ from ?_))
        refine hK _ _ _ _ (hK _ _ _ _ (nk_GR rfl rfl rfl (hK _ _ _ _ (nk_GI rfl rfl rfl (hK _ _ _ _ (show K _ _ _ _ from ?_))))))
        rw [hR]
        refine hK _ _ _ _ (nk_stS rfl rfl rfl rfl ?_)
        refine sx_isIn (by omega) (by omega) ?_
        have mr2 : TH S (d + 20) 97 [.ref 52, .int (nI p), .int (nI 1)] (bI (s.2.1.testBit p)) D := by
          refine mroad _ (fun K hK => ?_)
          refine hK _ _ _ _ (nk_SW (q := 57) rfl (by decide) (by decide) rfl rfl (show K _ _ _ _ from ?_))
          refine hK _ _ _ _ (hK _ _ _ _ (nk_GR rfl rfl rfl (hK _ _ _ _ (show K _ _ _ _ from ?_))))
          refine hK _ _ _ _ (nk_AL rfl rfl (j := 36) rfl (by decide) (show K _ _ _ _ from ?_))
          rw [mR]
          refine hK _ _ _ _ (show K _ _ _ _ from ?_)
          refine hK _ _ _ _ (nk_stS rfl rfl rfl rfl ?_)
          refine sm_has (by omega) (by omega) ?_
          refine hK _ _ _ _ (nk_beq (fun c1 => ?_) (fun c1 => ?_))
          · refine hK _ _ _ _ (show K _ _ _ _ from ?_)
            exact hK _ _ _ _ (And.intro rfl (⟨by rw [c1]; rfl, hr0⟩))
          · refine hK _ _ _ _ (hK _ _ _ _ (show K _ _ _ _ from ?_))
            exact hK _ _ _ _ (And.intro rfl (⟨by rw [c1]; rfl, hr0⟩))
        show K 68 _ _ _
        refine hK _ _ _ _ (nk_beq (fun c1 => ?_) (fun c1 => ?_))
        · rw [c1] at mr2
          refine hK _ _ _ _ (show K _ _ _ _ from ?_)
          exact hK _ _ _ _ (And.intro rfl (h _ _ mr2))
        · rw [c1] at mr2
          refine hK _ _ _ _ (hK _ _ _ _ (show K _ _ _ _ from ?_))
          exact hK _ _ _ _ (And.intro rfl (h _ _ mr2))
      | 2, _ =>
        refine hK _ _ _ _ (nk_SW (q := 77) rfl (by decide) (by decide) rfl rfl (show K _ _ _ _ from ?_))
        refine hK _ _ _ _ (hK _ _ _ _ (nk_GR rfl rfl rfl (hK _ _ _ _ (hK _ _ _ _ (nk_GR rfl rfl rfl (hK _ _ _ _ (nk_GI rfl rfl rfl (hK _ _ _ _ (show K _ _ _ _ from ?_)))))))))
        rw [hR]
        refine hK _ _ _ _ (nk_stV rfl rfl rfl rfl ?_)
        refine sx_mustBe isS6 hxs hR64 hp ?_
        refine hK _ _ _ _ (And.intro rfl (h _ _ (mroad _ (fun K hK => ?_))))
        refine hK _ _ _ _ (nk_SW (q := 77) rfl (by decide) (by decide) rfl rfl (show K _ _ _ _ from ?_))
        refine hK _ _ _ _ (hK _ _ _ _ (hK _ _ _ _ (hK _ _ _ _ (nk_GR rfl rfl rfl (hK _ _ _ _ (show K _ _ _ _ from ?_))))))
        refine hK _ _ _ _ (nk_AL rfl rfl (j := 36) rfl (by decide) (show K _ _ _ _ from ?_))
        rw [mR]
        refine hK _ _ _ _ (nk_stV rfl rfl rfl rfl ?_)
        refine sm_mustBe hmk hms hR64 hp ?_
        exact hK _ _ _ _ (And.intro rfl (⟨rfl, hr0⟩))
      | 3, _ =>
        refine hK _ _ _ _ (nk_SW (q := 93) rfl (by decide) (by decide) rfl rfl (show K _ _ _ _ from ?_))
        refine hK _ _ _ _ (hK _ _ _ _ (nk_GR rfl rfl rfl (hK _ _ _ _ (hK _ _ _ _ (nk_GR rfl rfl rfl (hK _ _ _ _ (nk_GI rfl rfl rfl (hK _ _ _ _ (show K _ _ _ _ from ?_)))))))))
        rw [hR]
        refine hK _ _ _ _ (nk_stV rfl rfl rfl rfl ?_)
        refine sx_mustBeTwo isS6 hxs hR64 hp ?_
        have mr2 : TH S (d + 20) 97 [.ref 52, .int (nI p), .int (nI 3)] (bI (two n ka s.1 s.2.1 p)) D := by
          refine mroad _ (fun K hK => ?_)
          refine hK _ _ _ _ (nk_SW (q := 90) rfl (by decide) (by decide) rfl rfl (show K _ _ _ _ from ?_))
          refine hK _ _ _ _ (hK _ _ _ _ (hK _ _ _ _ (hK _ _ _ _ (nk_GR rfl rfl rfl (hK _ _ _ _ (show K _ _ _ _ from ?_))))))
          refine hK _ _ _ _ (nk_AL rfl rfl (j := 36) rfl (by decide) (show K _ _ _ _ from ?_))
          rw [mR]
          refine hK _ _ _ _ (nk_stV rfl rfl rfl rfl ?_)
          refine sm_isTwo hmk hms hR64 hp ?_
          refine hK _ _ _ _ (nk_beq (fun c1 => ?_) (fun c1 => ?_))
          · refine hK _ _ _ _ (show K _ _ _ _ from ?_)
            exact hK _ _ _ _ (And.intro rfl (⟨by rw [c1]; rfl, hr0⟩))
          · refine hK _ _ _ _ (hK _ _ _ _ (show K _ _ _ _ from ?_))
            exact hK _ _ _ _ (And.intro rfl (⟨by rw [c1]; rfl, hr0⟩))
        show K 108 _ _ _
        refine hK _ _ _ _ (nk_beq (fun c1 => ?_) (fun c1 => ?_))
        · rw [c1] at mr2
          refine hK _ _ _ _ (show K _ _ _ _ from ?_)
          exact hK _ _ _ _ (And.intro rfl (h _ _ mr2))
        · rw [c1] at mr2
          refine hK _ _ _ _ (hK _ _ _ _ (show K _ _ _ _ from ?_))
          exact hK _ _ _ _ (And.intro rfl (h _ _ mr2))
      | 4, _ =>
        refine hK _ _ _ _ (nk_SW (q := 117) rfl (by decide) (by decide) rfl rfl (show K _ _ _ _ from ?_))
        refine hK _ _ _ _ (hK _ _ _ _ (nk_GR rfl rfl rfl (hK _ _ _ _ (show K _ _ _ _ from ?_))))
        refine hK _ _ _ _ (nk_stV rfl rfl rfl rfl ?_)
        refine sx_knownTo isS6 hxs hp ?_
        refine hK _ _ _ _ (And.intro rfl (h _ _ (mroad _ (fun K hK => ?_))))
        refine hK _ _ _ _ (nk_SW (q := 111) rfl (by decide) (by decide) rfl rfl (show K _ _ _ _ from ?_))
        refine hK _ _ _ _ (hK _ _ _ _ (show K _ _ _ _ from ?_))
        refine hK _ _ _ _ (nk_stV rfl rfl rfl rfl ?_)
        refine sm_knownMany hmk hms hp ?_
        exact hK _ _ _ _ (And.intro rfl (⟨rfl, hr0⟩))
    · have hd' := of_decide_eq_false hd
      refine hK _ _ _ _ (nk_SD (q := 126) rfl (by omega) rfl (show K _ _ _ _ from ?_))
      refine hK _ _ _ _ (show K _ _ _ _ from ?_)
      refine hK _ _ _ _ (And.intro rfl (h _ _ (mroad _ (fun K hK => ?_))))
      refine hK _ _ _ _ (nk_SD (q := 117) rfl (by omega) rfl (show K _ _ _ _ from ?_))
      refine hK _ _ _ _ (show K _ _ _ _ from ?_)
      exact hK _ _ _ _ (And.intro rfl (⟨rfl, hr0⟩))
  · refine hK _ _ _ _ (show K _ _ _ _ from ?_)
    refine hK _ _ _ _ (And.intro rfl (h _ _ ?_))
    refine nk_go (M := (6, yX6_person, cX6_person, 3, (some .int), false, 2, nk_T97)) rfl rfl (Nat.le_of_ble_eq_true rfl) (fun K hK => ?_)
    show K 0 [some (.ref 52), some (.int x), some (.int y)] [] D
    refine hK _ _ _ _ (hK _ _ _ _ (show K _ _ _ _ from ?_))
    refine hK _ _ _ _ (nk_stV rfl rfl rfl rfl ?_)
    refine sm_isPerson hmk.2.1 hn6 ?_
    rw [b]
    refine hK _ _ _ _ (nk_bne (fun z => by cases z) (fun _ => ?_))
    refine hK _ _ _ _ (show K _ _ _ _ from ?_)
    exact hK _ _ _ _ (And.intro rfl (⟨rfl, hr0⟩))
theorem op_count {y : Int32} (hr : REL D) (h : ∀ v D1, TH S (d + 20) 125 [.ref 52, .int y] v D1 → P (some (.int v)) D1) : nk_run S (d + 20) 61 [.ref 0, .int y] D P := by
  have hr0 := hr
  obtain ⟨n, ka, s, t, L, tx, u, pa, kp, c, se, ok, xr, mr⟩ := hr
  have hw := ok.1
  have hx := xr.1
  have hxs := hx.1
  have hn6 := hxs.1
  have hn := hxs.2.1
  have h64 := p64 hn6
  have hmk := mr.1
  have hms := MS_now mr.2.1 hw
  have hR : D 6 3 = nI s.2.1 := hx.2.1
  have mR : D 54 36 = nI s.2.1 := mr.2.1.2.1
  have hR64 : s.2.1 < 64 := by have := hw.2.2.1; omega
  refine nk_go (M := (5, yX5_count, cX5_count, 2, (some .int), false, 1, nk_T61)) rfl rfl (Nat.le_of_ble_eq_true rfl) (fun K hK => ?_)
  show K 0 [some (.ref 0), some (.int y)] [] D
  refine hK _ _ _ _ (show K _ _ _ _ from ?_)
  rcases rg (lo := 0) (hi := 7) (by decide) (by decide) y with ⟨j, -, hj, rfl, hd⟩ | ⟨hno, hd⟩
  · match j, hj with
    | 0, _ =>
      refine hK _ _ _ _ (nk_SW (q := 48) rfl (by decide) (by decide) rfl rfl (show K _ _ _ _ from ?_))
      refine hK _ _ _ _ (hK _ _ _ _ (nk_GR rfl rfl rfl (hK _ _ _ _ (nk_GI rfl rfl rfl (show K _ _ _ _ from ?_)))))
      rw [hn]
      refine hK _ _ _ _ (And.intro rfl (h _ _ ?_))
      refine nk_go (M := (6, yX6_count, cX6_count, 4, (some .int), false, 1, nk_T125)) rfl rfl (Nat.le_of_ble_eq_true rfl) (fun K hK => ?_)
      show K 0 [some (.ref 52), some (.int (nI 0)), none, none] [] D
      refine hK _ _ _ _ (show K _ _ _ _ from ?_)
      refine hK _ _ _ _ (nk_SW (q := 48) rfl (by decide) (by decide) rfl rfl (show K _ _ _ _ from ?_))
      refine hK _ _ _ _ (hK _ _ _ _ (nk_GR rfl rfl rfl (hK _ _ _ _ (show K _ _ _ _ from ?_))))
      refine hK _ _ _ _ (nk_AL rfl rfl (j := 0) rfl (by decide) (show K _ _ _ _ from ?_))
      rw [hmk.2.1]
      exact hK _ _ _ _ (And.intro rfl (⟨rfl, hr0⟩))
    | 1, _ =>
      refine hK _ _ _ _ (nk_SW (q := 56) rfl (by decide) (by decide) rfl rfl (show K _ _ _ _ from ?_))
      refine hK _ _ _ _ (hK _ _ _ _ (nk_GR rfl rfl rfl (hK _ _ _ _ (nk_GI rfl rfl rfl (show K _ _ _ _ from ?_)))))
      rw [hx.2.2]
      refine hK _ _ _ _ (And.intro rfl (h _ _ ?_))
      refine nk_go (M := (6, yX6_count, cX6_count, 4, (some .int), false, 1, nk_T125)) rfl rfl (Nat.le_of_ble_eq_true rfl) (fun K hK => ?_)
      show K 0 [some (.ref 52), some (.int (nI 1)), none, none] [] D
      refine hK _ _ _ _ (show K _ _ _ _ from ?_)
      refine hK _ _ _ _ (nk_SW (q := 55) rfl (by decide) (by decide) rfl rfl (show K _ _ _ _ from ?_))
      refine hK _ _ _ _ (hK _ _ _ _ (nk_GR rfl rfl rfl (hK _ _ _ _ (show K _ _ _ _ from ?_))))
      refine hK _ _ _ _ (nk_AL rfl rfl (j := 37) rfl (by decide) (show K _ _ _ _ from ?_))
      rw [show D 54 37 = nI s.2.2 from mr.2.1.2.2]
      exact hK _ _ _ _ (And.intro rfl (⟨rfl, hr0⟩))
    | 2, _ =>
      refine hK _ _ _ _ (nk_SW (q := 64) rfl (by decide) (by decide) rfl rfl (show K _ _ _ _ from ?_))
      refine hK _ _ _ _ (hK _ _ _ _ (nk_GR rfl rfl rfl (hK _ _ _ _ (nk_GI rfl rfl rfl (show K _ _ _ _ from ?_)))))
      rw [hR]
      refine hK _ _ _ _ (And.intro rfl (h _ _ ?_))
      refine nk_go (M := (6, yX6_count, cX6_count, 4, (some .int), false, 1, nk_T125)) rfl rfl (Nat.le_of_ble_eq_true rfl) (fun K hK => ?_)
      show K 0 [some (.ref 52), some (.int (nI 2)), none, none] [] D
      refine hK _ _ _ _ (show K _ _ _ _ from ?_)
      refine hK _ _ _ _ (nk_SW (q := 63) rfl (by decide) (by decide) rfl rfl (show K _ _ _ _ from ?_))
      refine hK _ _ _ _ (hK _ _ _ _ (nk_GR rfl rfl rfl (hK _ _ _ _ (show K _ _ _ _ from ?_))))
      refine hK _ _ _ _ (nk_AL rfl rfl (j := 36) rfl (by decide) (show K _ _ _ _ from ?_))
      rw [mR]
      exact hK _ _ _ _ (And.intro rfl (⟨rfl, hr0⟩))
    | 3, _ =>
      refine hK _ _ _ _ (nk_SW (q := 72) rfl (by decide) (by decide) rfl rfl (show K _ _ _ _ from ?_))
      refine hK _ _ _ _ (hK _ _ _ _ (nk_GR rfl rfl rfl (hK _ _ _ _ (hK _ _ _ _ (nk_GR rfl rfl rfl (hK _ _ _ _ (nk_GI rfl rfl rfl (show K _ _ _ _ from ?_))))))))
      rw [hR]
      refine hK _ _ _ _ (nk_stV rfl rfl rfl rfl ?_)
      refine sx_clashOf isS6 hxs hR64 ?_
      refine hK _ _ _ _ (And.intro rfl (h _ _ ?_))
      refine nk_go (M := (6, yX6_count, cX6_count, 4, (some .int), false, 1, nk_T125)) rfl rfl (Nat.le_of_ble_eq_true rfl) (fun K hK => ?_)
      show K 0 [some (.ref 52), some (.int (nI 3)), none, none] [] D
      refine hK _ _ _ _ (show K _ _ _ _ from ?_)
      refine hK _ _ _ _ (nk_SW (q := 71) rfl (by decide) (by decide) rfl rfl (show K _ _ _ _ from ?_))
      refine hK _ _ _ _ (hK _ _ _ _ (hK _ _ _ _ (nk_GR rfl rfl rfl (hK _ _ _ _ (show K _ _ _ _ from ?_)))))
      refine hK _ _ _ _ (nk_AL rfl rfl (j := 36) rfl (by decide) (show K _ _ _ _ from ?_))
      rw [mR]
      refine hK _ _ _ _ (nk_stV rfl rfl rfl rfl ?_)
      refine sm_twoIn hmk hms hR64 ?_
      exact hK _ _ _ _ (And.intro rfl (⟨rfl, hr0⟩))
    | 4, _ =>
      refine hK _ _ _ _ (nk_SW (q := 87) rfl (by decide) (by decide) rfl rfl (show K _ _ _ _ from ?_))
      refine hK _ _ _ _ (hK _ _ _ _ (nk_GR rfl rfl rfl (show K _ _ _ _ from ?_)))
      refine hK _ _ _ _ (nk_stV rfl rfl rfl rfl ?_)
      refine sx_introductions isS6 hxs ?_
      refine hK _ _ _ _ (And.intro rfl (h _ _ ?_))
      refine nk_go (M := (6, yX6_count, cX6_count, 4, (some .int), false, 1, nk_T125)) rfl rfl (Nat.le_of_ble_eq_true rfl) (fun K hK => ?_)
      show K 0 [some (.ref 52), some (.int (nI 4)), none, none] [] D
      refine hK _ _ _ _ (show K _ _ _ _ from ?_)
      refine hK _ _ _ _ (nk_SW (q := 83) rfl (by decide) (by decide) rfl rfl (show K _ _ _ _ from ?_))
      refine hK _ _ _ _ (hK _ _ _ _ (hK _ _ _ _ (hK _ _ _ _ (show K _ _ _ _ from ?_))))
      have loop : ∀ m j, j + m = n → K 87 [some (.ref 52), some (.int (nI 4)), some (.int (nI (kns n s.1 j))), some (.int (nI j))] [] D := by
        intro m
        induction m with
        | zero =>
          intro j hj
          have hj : j = n := by omega
          subst hj
          refine hK _ _ _ _ (hK _ _ _ _ (hK _ _ _ _ (nk_GR rfl rfl rfl (hK _ _ _ _ (show K _ _ _ _ from ?_)))))
          refine hK _ _ _ _ (nk_AL rfl rfl (j := 0) rfl (by decide) (show K _ _ _ _ from ?_))
          rw [hmk.2.1]
          refine hK _ _ _ _ (nk_bt (nI_le (Nat.le_refl _) (by omega)) ?_)
          refine hK _ _ _ _ (show K _ _ _ _ from ?_)
          exact hK _ _ _ _ (And.intro rfl (⟨rfl, hr0⟩))
        | succ m ih =>
          intro j hj
          refine hK _ _ _ _ (hK _ _ _ _ (hK _ _ _ _ (nk_GR rfl rfl rfl (hK _ _ _ _ (show K _ _ _ _ from ?_)))))
          refine hK _ _ _ _ (nk_AL rfl rfl (j := 0) rfl (by decide) (show K _ _ _ _ from ?_))
          rw [hmk.2.1]
          refine hK _ _ _ _ (nk_bf (nI_ge (by omega) (by omega)) ?_)
          refine hK _ _ _ _ (hK _ _ _ _ (hK _ _ _ _ (show K _ _ _ _ from ?_)))
          refine hK _ _ _ _ (nk_stV rfl rfl rfl rfl ?_)
          refine sm_knownMany hmk hms (by omega) ?_
          refine hK _ _ _ _ (hK _ _ _ _ (hK _ _ _ _ (hK _ _ _ _ (show K _ _ _ _ from ?_))))
          rw [nk_add, nk_add]
          exact ih (j + 1) (by omega)
      exact loop n 0 (by omega)
    | 5, _ =>
      refine hK _ _ _ _ (nk_SW (q := 95) rfl (by decide) (by decide) rfl rfl (show K _ _ _ _ from ?_))
      refine hK _ _ _ _ (hK _ _ _ _ (nk_GR rfl rfl rfl (hK _ _ _ _ (nk_GI rfl rfl rfl (show K _ _ _ _ from ?_)))))
      rw [xr.2.2.2.2.2.1]
      refine hK _ _ _ _ (And.intro rfl (h _ _ ?_))
      refine nk_go (M := (6, yX6_count, cX6_count, 4, (some .int), false, 1, nk_T125)) rfl rfl (Nat.le_of_ble_eq_true rfl) (fun K hK => ?_)
      show K 0 [some (.ref 52), some (.int (nI 5)), none, none] [] D
      refine hK _ _ _ _ (show K _ _ _ _ from ?_)
      refine hK _ _ _ _ (nk_SW (q := 113) rfl (by decide) (by decide) rfl rfl (show K _ _ _ _ from ?_))
      refine hK _ _ _ _ (hK _ _ _ _ (nk_GI rfl rfl rfl (show K _ _ _ _ from ?_)))
      rw [mr.2.2.2.2.2.2.1]
      exact hK _ _ _ _ (And.intro rfl (⟨rfl, hr0⟩))
    | 6, _ =>
      obtain ⟨z, -, -, hz, -⟩ := xr.2.2.2.1
      refine hK _ _ _ _ (nk_SW (q := 103) rfl (by decide) (by decide) rfl rfl (show K _ _ _ _ from ?_))
      refine hK _ _ _ _ (hK _ _ _ _ (nk_GR rfl rfl rfl (hK _ _ _ _ (nk_GI rfl rfl rfl (show K _ _ _ _ from ?_)))))
      rw [hz]
      refine hK _ _ _ _ (And.intro rfl (h _ _ ?_))
      refine nk_go (M := (6, yX6_count, cX6_count, 4, (some .int), false, 1, nk_T125)) rfl rfl (Nat.le_of_ble_eq_true rfl) (fun K hK => ?_)
      show K 0 [some (.ref 52), some (.int (nI 6)), none, none] [] D
      refine hK _ _ _ _ (show K _ _ _ _ from ?_)
      refine hK _ _ _ _ (nk_SW (q := 118) rfl (by decide) (by decide) rfl rfl (show K _ _ _ _ from ?_))
      refine hK _ _ _ _ (hK _ _ _ _ (nk_GI rfl rfl rfl (show K _ _ _ _ from ?_)))
      rw [mr.2.2.2.2.1.1]
      exact hK _ _ _ _ (And.intro rfl (⟨rfl, hr0⟩))
    | 7, _ =>
      refine hK _ _ _ _ (nk_SW (q := 111) rfl (by decide) (by decide) rfl rfl (show K _ _ _ _ from ?_))
      refine hK _ _ _ _ (hK _ _ _ _ (nk_GR rfl rfl rfl (hK _ _ _ _ (nk_GI rfl rfl rfl (show K _ _ _ _ from ?_)))))
      rw [xr.2.2.1.1]
      refine hK _ _ _ _ (And.intro rfl (h _ _ ?_))
      refine nk_go (M := (6, yX6_count, cX6_count, 4, (some .int), false, 1, nk_T125)) rfl rfl (Nat.le_of_ble_eq_true rfl) (fun K hK => ?_)
      show K 0 [some (.ref 52), some (.int (nI 7)), none, none] [] D
      refine hK _ _ _ _ (show K _ _ _ _ from ?_)
      refine hK _ _ _ _ (nk_SW (q := 123) rfl (by decide) (by decide) rfl rfl (show K _ _ _ _ from ?_))
      refine hK _ _ _ _ (hK _ _ _ _ (nk_GI rfl rfl rfl (show K _ _ _ _ from ?_)))
      rw [mr.2.2.2.1.1]
      exact hK _ _ _ _ (And.intro rfl (⟨rfl, hr0⟩))
  · have hd' := of_decide_eq_false hd
    refine hK _ _ _ _ (nk_SD (q := 119) rfl (by omega) rfl (show K _ _ _ _ from ?_))
    refine hK _ _ _ _ (show K _ _ _ _ from ?_)
    refine hK _ _ _ _ (And.intro rfl (h _ _ ?_))
    refine nk_go (M := (6, yX6_count, cX6_count, 4, (some .int), false, 1, nk_T125)) rfl rfl (Nat.le_of_ble_eq_true rfl) (fun K hK => ?_)
    show K 0 [some (.ref 52), some (.int y), none, none] [] D
    refine hK _ _ _ _ (show K _ _ _ _ from ?_)
    refine hK _ _ _ _ (nk_SD (q := 128) rfl (by omega) rfl (show K _ _ _ _ from ?_))
    refine hK _ _ _ _ (show K _ _ _ _ from ?_)
    exact hK _ _ _ _ (And.intro rfl (⟨rfl, hr0⟩))
end NKO
