/-! ===== the public calls that only read ===== -/
section NKO
variable {S : nk_Sc} {d : Nat} {D : nk_D} {P : nk_P}
def orN (a : Nat) : Int32 := if a = 0 then -1 else nI a
theorem sx_roleOrNone {a : Nat} (ha : a ≤ 7) (h : P (some (.int (orN a))) D) : nk_run S (d + 1) 67 [.int (nI a)] D P := by
  unfold orN at h
  refine nk_go (M := (5, yX5_roleOrNone, cX5_roleOrNone, 1, (some .int), true, 1, nk_T67)) rfl rfl (Nat.le_of_ble_eq_true rfl) (fun K hK => ?_)
  show K 0 [some (.int (nI a))] [] D
  refine hK _ _ _ _ (show K _ _ _ _ from ?_)
  refine hK _ _ _ _ (nk_ne (by omega) (by omega) (fun q => ?_) (fun q => ?_))
  · rw [if_neg q] at h
    refine hK _ _ _ _ (show K _ _ _ _ from ?_)
    exact hK _ _ _ _ (And.intro rfl (h))
  · rw [if_pos q] at h
    refine hK _ _ _ _ (hK _ _ _ _ (show K _ _ _ _ from ?_))
    exact hK _ _ _ _ (And.intro rfl (h))
theorem sm_orNone {a : Nat} (ha : a ≤ 7) (h : P (some (.int (orN a))) D) : nk_run S (d + 1) 98 [.int (nI a)] D P := by
  unfold orN at h
  refine nk_go (M := (6, yX6_orNone, cX6_orNone, 1, (some .int), true, 1, nk_T98)) rfl rfl (Nat.le_of_ble_eq_true rfl) (fun K hK => ?_)
  show K 0 [some (.int (nI a))] [] D
  refine hK _ _ _ _ (show K _ _ _ _ from ?_)
  refine hK _ _ _ _ (nk_ne (by omega) (by omega) (fun q => ?_) (fun q => ?_))
  · rw [if_neg q] at h
    refine hK _ _ _ _ (show K _ _ _ _ from ?_)
    exact hK _ _ _ _ (And.intro rfl (h))
  · rw [if_pos q] at h
    refine hK _ _ _ _ (hK _ _ _ _ (show K _ _ _ _ from ?_))
    exact hK _ _ _ _ (And.intro rfl (h))
/-- two numbers of the caller's that are two of the people -/
theorem pair_of {n : Nat} {x y : Int32} (hn : n ≤ 6) (h : (vld n x && vld n y && !decide (x = y)) = true) : ∃ p q, p < n ∧ q < n ∧ p ≠ q ∧ x = nI p ∧ y = nI q := by
  simp only [Bool.and_eq_true, Bool.not_eq_true', decide_eq_false_iff_not] at h
  obtain ⟨⟨b1, b2⟩, b3⟩ := h
  obtain ⟨p, hp, rfl⟩ := vld_of (by omega) b1
  obtain ⟨q, hq, rfl⟩ := vld_of (by omega) b2
  exact ⟨p, q, hp, hq, fun e => b3 (by rw [e]), rfl, rfl⟩
theorem op_to {x y : Int32} (hr : REL D) (h : ∀ v D1, TH S (d + 20) 99 [.ref 52, .int x, .int y] v D1 → P (some (.int v)) D1) : nk_run S (d + 20) 41 [.ref 0, .int x, .int y] D P := by
  have hr0 := hr
  obtain ⟨n, ka, s, t, L, tx, u, pa, kp, c, se, ok, xr, mr⟩ := hr
  have hw := ok.1
  have hx := xr.1
  have hxs := hx.1
  have hn6 := hxs.1
  have hn := hxs.2.1
  have h64 := p64 hn6
  have hmk := mr.1
  have hms := MS_now mr.2.1 hw
  have hR : D 6 3 = nI s.2.1 := hx.2.1
  have mR : D 54 36 = nI s.2.1 := mr.2.1.2.1
  have hR64 : s.2.1 < 64 := by have := hw.2.2.1; omega
  refine nk_go (M := (5, yX5_to, cX5_to, 3, (some .int), false, 2, nk_T41)) rfl rfl (Nat.le_of_ble_eq_true rfl) (fun K hK => ?_)
  show K 0 [some (.ref 0), some (.int x), some (.int y)] [] D
  refine hK _ _ _ _ (hK _ _ _ _ (nk_GR rfl rfl rfl (hK _ _ _ _ (hK _ _ _ _ (show K _ _ _ _ from ?_)))))
  refine hK _ _ _ _ (nk_stV rfl rfl rfl rfl ?_)
  refine sx_hasPair isS6 hn hn6 ?_
  refine hK _ _ _ _ (nk_beq (fun b => ?_) (fun b => ?_))
  · refine hK _ _ _ _ (show K _ _ _ _ from ?_)
    refine hK _ _ _ _ (And.intro rfl (h _ _ ?_))
    refine nk_go (M := (6, yX6_to, cX6_to, 3, (some .int), false, 2, nk_T99)) rfl rfl (Nat.le_of_ble_eq_true rfl) (fun K hK => ?_)
    show K 0 [some (.ref 52), some (.int x), some (.int y)] [] D
    refine hK _ _ _ _ (hK _ _ _ _ (hK _ _ _ _ (show K _ _ _ _ from ?_)))
    refine hK _ _ _ _ (nk_stV rfl rfl rfl rfl ?_)
    refine sm_areTwo hmk.2.1 hn6 ?_
    rw [b]
    refine hK _ _ _ _ (nk_beq (fun b => ?_) (fun b => by cases b))
    refine hK _ _ _ _ (show K _ _ _ _ from ?_)
    exact hK _ _ _ _ (And.intro rfl (⟨rfl, hr0⟩))
  · obtain ⟨p, q, hp, hq, hpq, rfl, rfl⟩ := pair_of hn6 b
    refine hK _ _ _ _ (hK _ _ _ _ (nk_GR rfl rfl rfl (hK _ _ _ _ (hK _ _ _ _ (show K _ _ _ _ from ?_)))))
    refine hK _ _ _ _ (nk_stV rfl rfl rfl rfl ?_)
    refine sx_roleTo isS6 (by omega) (by omega) ?_
    rw [(hxs.2.2.2 p q hp hq).1]
    refine hK _ _ _ _ (nk_stS rfl rfl rfl rfl ?_)
    refine sx_roleOrNone (hxs.2.2.2 p q hp hq).2 ?_
    refine hK _ _ _ _ (show K _ _ _ _ from ?_)
    refine hK _ _ _ _ (And.intro rfl (h _ _ ?_))
    refine nk_go (M := (6, yX6_to, cX6_to, 3, (some .int), false, 2, nk_T99)) rfl rfl (Nat.le_of_ble_eq_true rfl) (fun K hK => ?_)
    show K 0 [some (.ref 52), some (.int (nI p)), some (.int (nI q))] [] D
    refine hK _ _ _ _ (hK _ _ _ _ (hK _ _ _ _ (show K _ _ _ _ from ?_)))
    refine hK _ _ _ _ (nk_stV rfl rfl rfl rfl ?_)
    refine sm_areTwo hmk.2.1 hn6 ?_
    rw [b]
    refine hK _ _ _ _ (nk_beq (fun b => by cases b) (fun b => ?_))
    refine hK _ _ _ _ (hK _ _ _ _ (hK _ _ _ _ (show K _ _ _ _ from ?_)))
    refine hK _ _ _ _ (nk_stV rfl rfl rfl rfl ?_)
    refine sm_roleTo (by omega) (by omega) ?_
    rw [(hms.1 p q hp hq).1]
    refine hK _ _ _ _ (nk_stS rfl rfl rfl rfl ?_)
    refine sm_orNone (hms.1 p q hp hq).2 ?_
    refine hK _ _ _ _ (show K _ _ _ _ from ?_)
    exact hK _ _ _ _ (And.intro rfl (⟨rfl, hr0⟩))
theorem op_clash {x : Int32} (hr : REL D) (h : ∀ v D1, TH S (d + 20) 110 [.ref 52, .int x] v D1 → P (some (.int v)) D1) : nk_run S (d + 20) 50 [.ref 0, .int x] D P := by
  have hr0 := hr
  obtain ⟨n, ka, s, t, L, tx, u, pa, kp, c, se, ok, xr, mr⟩ := hr
  have hw := ok.1
  have hx := xr.1
  have hxs := hx.1
  have hn6 := hxs.1
  have hn := hxs.2.1
  have h64 := p64 hn6
  have hmk := mr.1
  have hms := MS_now mr.2.1 hw
  have hR : D 6 3 = nI s.2.1 := hx.2.1
  have mR : D 54 36 = nI s.2.1 := mr.2.1.2.1
  have hR64 : s.2.1 < 64 := by have := hw.2.2.1; omega
  refine nk_go (M := (5, yX5_clash, cX5_clash, 2, (some .int), false, 1, nk_T50)) rfl rfl (Nat.le_of_ble_eq_true rfl) (fun K hK => ?_)
  show K 0 [some (.ref 0), some (.int x)] [] D
  refine hK _ _ _ _ (hK _ _ _ _ (nk_GR rfl rfl rfl (hK _ _ _ _ (show K _ _ _ _ from ?_))))
  refine hK _ _ _ _ (nk_stV rfl rfl rfl rfl ?_)
  refine sx_hasAll isS6 hn hn6 ?_
  refine hK _ _ _ _ (nk_beq (fun b => ?_) (fun b => ?_))
  · refine hK _ _ _ _ (show K _ _ _ _ from ?_)
    refine hK _ _ _ _ (And.intro rfl (h _ _ ?_))
    refine nk_go (M := (6, yX6_clash, cX6_clash, 2, (some .int), false, 1, nk_T110)) rfl rfl (Nat.le_of_ble_eq_true rfl) (fun K hK => ?_)
    show K 0 [some (.ref 52), some (.int x)] [] D
    refine hK _ _ _ _ (hK _ _ _ _ (show K _ _ _ _ from ?_))
    refine hK _ _ _ _ (nk_stV rfl rfl rfl rfl ?_)
    refine sm_arePeople hmk.2.1 hn6 ?_
    rw [b]
    refine hK _ _ _ _ (nk_beq (fun b => ?_) (fun b => by cases b))
    refine hK _ _ _ _ (show K _ _ _ _ from ?_)
    exact hK _ _ _ _ (And.intro rfl (⟨rfl, hr0⟩))
  · obtain ⟨z, hz, rfl⟩ := vld_of (by omega) b
    refine hK _ _ _ _ (hK _ _ _ _ (nk_GR rfl rfl rfl (hK _ _ _ _ (show K _ _ _ _ from ?_))))
    refine hK _ _ _ _ (nk_stV rfl rfl rfl rfl ?_)
    refine sx_clashOf isS6 hxs (by omega) ?_
    refine hK _ _ _ _ (show K _ _ _ _ from ?_)
    refine hK _ _ _ _ (And.intro rfl (h _ _ ?_))
    refine nk_go (M := (6, yX6_clash, cX6_clash, 2, (some .int), false, 1, nk_T110)) rfl rfl (Nat.le_of_ble_eq_true rfl) (fun K hK => ?_)
    show K 0 [some (.ref 52), some (.int (nI z))] [] D
    refine hK _ _ _ _ (hK _ _ _ _ (show K _ _ _ _ from ?_))
    refine hK _ _ _ _ (nk_stV rfl rfl rfl rfl ?_)
    refine sm_arePeople hmk.2.1 hn6 ?_
    rw [b]
    refine hK _ _ _ _ (nk_beq (fun b => by cases b) (fun b => ?_))
    refine hK _ _ _ _ (hK _ _ _ _ (show K _ _ _ _ from ?_))
    refine hK _ _ _ _ (nk_stV rfl rfl rfl rfl ?_)
    refine sm_twoIn hmk hms (by omega) ?_
    refine hK _ _ _ _ (show K _ _ _ _ from ?_)
    exact hK _ _ _ _ (And.intro rfl (⟨rfl, hr0⟩))
theorem sx_isUnder {a b : Nat} (ha : a < 5) (hb : b < 5) (h : P (some (.int (bI (decide (b = 0 ∨ b = a ∨ (b = 1 ∧ (a = 2 ∨ a = 3))))))) D) : nk_run S (d + 1) 70 [.int (nI a), .int (nI b)] D P := by
  refine nk_go (M := (5, yX5_isUnder, cX5_isUnder, 4, (some .boolean), true, 2, nk_T70)) rfl rfl (Nat.le_of_ble_eq_true rfl) (fun K hK => ?_)
  show K 0 [some (.int (nI a)), some (.int (nI b)), none, none] [] D
  refine hK _ _ _ _ (hK _ _ _ _ (hK _ _ _ _ (hK _ _ _ _ (show K _ _ _ _ from ?_))))
  have out : ∀ (j w : Nat) (v2 : Value), j ≤ 5 → decide (b = 0 ∨ b = a ∨ (b = 1 ∧ (a = 2 ∨ a = 3))) = false → v2 = .int (-1) → K 4 [some (.int (nI a)), some (.int (nI b)), some v2, some (.int (nI j))] [] D := by
    intro j w v2 hj hf hv
    subst hv
    rw [hf] at h
    refine hK _ _ _ _ (hK _ _ _ _ (show K _ _ _ _ from ?_))
    refine hK _ _ _ _ (nk_LO rfl rfl rfl (show K _ _ _ _ from ?_))
    refine hK _ _ _ _ (nk_ge (by omega) (by omega) (fun q => ?_) (fun q => ?_))
    · refine hK _ _ _ _ (show K _ _ _ _ from ?_)
      exact hK _ _ _ _ (And.intro rfl (h))
    · refine hK _ _ _ _ (show K _ _ _ _ from ?_)
      refine hK _ _ _ _ (nk_bt (by decide) ?_)
      refine hK _ _ _ _ (show K _ _ _ _ from ?_)
      exact hK _ _ _ _ (And.intro rfl (h))
  have one : ∀ (j w : Nat), j ≤ 3 → w < 5 → (b = w → decide (b = 0 ∨ b = a ∨ (b = 1 ∧ (a = 2 ∨ a = 3))) = true) → (b ≠ w → ∀ v2, v2 = .int (nk_over.getD w 0) → K 4 [some (.int (nI a)), some (.int (nI b)), some v2, some (.int (nI (j + 1)))] [] D) → K 4 [some (.int (nI a)), some (.int (nI b)), some (.int (nI w)), some (.int (nI j))] [] D := by
    intro j w hj hw hy hn
    refine hK _ _ _ _ (hK _ _ _ _ (show K _ _ _ _ from ?_))
    refine hK _ _ _ _ (nk_LO rfl rfl rfl (show K _ _ _ _ from ?_))
    refine hK _ _ _ _ (nk_bf (nI_ge (show j < 5 by omega) (by omega)) ?_)
    refine hK _ _ _ _ (show K _ _ _ _ from ?_)
    refine hK _ _ _ _ (nk_bf (nI_pos (by omega)) ?_)
    refine hK _ _ _ _ (hK _ _ _ _ (show K _ _ _ _ from ?_))
    refine hK _ _ _ _ (nk_LO rfl rfl rfl (show K _ _ _ _ from ?_))
    refine hK _ _ _ _ (nk_bf (nI_ge hw (by omega)) ?_)
    refine hK _ _ _ _ (hK _ _ _ _ (show K _ _ _ _ from ?_))
    refine hK _ _ _ _ (nk_ne (by omega) (by omega) (fun q => ?_) (fun q => ?_))
    · refine hK _ _ _ _ (hK _ _ _ _ (show K _ _ _ _ from ?_))
      refine hK _ _ _ _ (nk_AO (o := 1001) rfl rfl rfl (show w < 5 from hw) (show K _ _ _ _ from ?_))
      refine hK _ _ _ _ (hK _ _ _ _ (hK _ _ _ _ (show K _ _ _ _ from ?_)))
      rw [nk_add]
      exact hn (fun e => q e.symm) _ rfl
    · refine hK _ _ _ _ (show K _ _ _ _ from ?_)
      rw [hy q.symm] at h
      exact hK _ _ _ _ (And.intro rfl (h))
  match a, ha with
  | 0, _ => exact one 0 0 (by omega) (by omega) (fun e => by simp [e]) (fun e v2 hv => out 1 0 v2 (by omega) (by simp; omega) hv)
  | 1, _ => exact one 0 1 (by omega) (by omega) (fun e => by simp [e]) (fun e v2 hv => by subst hv; exact one 1 0 (by omega) (by omega) (fun e => by simp [e]) (fun e2 v2 hv => out 2 0 v2 (by omega) (by simp; omega) hv))
  | 2, _ => exact one 0 2 (by omega) (by omega) (fun e => by simp [e]) (fun e v2 hv => by subst hv; exact one 1 1 (by omega) (by omega) (fun e => by simp [e]) (fun e2 v2 hv => by subst hv; exact one 2 0 (by omega) (by omega) (fun e => by simp [e]) (fun e3 v2 hv => out 3 0 v2 (by omega) (by simp; omega) hv)))
  | 3, _ => exact one 0 3 (by omega) (by omega) (fun e => by simp [e]) (fun e v2 hv => by subst hv; exact one 1 1 (by omega) (by omega) (fun e => by simp [e]) (fun e2 v2 hv => by subst hv; exact one 2 0 (by omega) (by omega) (fun e => by simp [e]) (fun e3 v2 hv => out 3 0 v2 (by omega) (by simp; omega) hv)))
  | 4, _ => exact one 0 4 (by omega) (by omega) (fun e => by simp [e]) (fun e v2 hv => by subst hv; exact one 1 0 (by omega) (by omega) (fun e => by simp [e]) (fun e2 v2 hv => out 2 0 v2 (by omega) (by simp; omega) hv))
theorem op_as {x y : Int32} (hr : REL D) (h : ∀ v D1, TH S (d + 20) 100 [.ref 52, .int x, .int y] v D1 → P (some (.int v)) D1) : nk_run S (d + 20) 42 [.ref 0, .int x, .int y] D P := by
  have hr0 := hr
  obtain ⟨n, ka, s, t, L, tx, u, pa, kp, c, se, ok, xr, mr⟩ := hr
  have hw := ok.1
  have hx := xr.1
  have hxs := hx.1
  have hn6 := hxs.1
  have hn := hxs.2.1
  have h64 := p64 hn6
  have hmk := mr.1
  have hms := MS_now mr.2.1 hw
  have hR : D 6 3 = nI s.2.1 := hx.2.1
  have mR : D 54 36 = nI s.2.1 := mr.2.1.2.1
  have hR64 : s.2.1 < 64 := by have := hw.2.2.1; omega
  refine nk_go (M := (5, yX5_as, cX5_as, 3, (some .int), false, 2, nk_T42)) rfl rfl (Nat.le_of_ble_eq_true rfl) (fun K hK => ?_)
  show K 0 [some (.ref 0), some (.int x), some (.int y)] [] D
  refine hK _ _ _ _ (hK _ _ _ _ (nk_GR rfl rfl rfl (hK _ _ _ _ (show K _ _ _ _ from ?_))))
  refine hK _ _ _ _ (nk_stV rfl rfl rfl rfl ?_)
  refine sx_has isS6 hn hn6 ?_
  refine hK _ _ _ _ (nk_bne (fun b => ?_) (fun b => ?_))
  · obtain ⟨p, hp, rfl⟩ := vld_of (by omega) b
    have hkp := hxs.2.2.1 p hp
    have mid : ∀ P2, nk_run S (d + 20) 100 [.ref 52, .int (nI p), .int y] D P2 ↔ nk_run S (d + 20) 100 [.ref 52, .int (nI p), .int y] D P2 := fun _ => Iff.rfl
    rcases rg (lo := 0) (hi := 4) (by decide) (by decide) y with ⟨j, -, hj, rfl, hd⟩ | ⟨hno, hd⟩
    · refine hK _ _ _ _ (show K _ _ _ _ from ?_)
      refine hK _ _ _ _ (nk_bf (nI_pos (by omega)) ?_)
      refine hK _ _ _ _ (hK _ _ _ _ (show K _ _ _ _ from ?_))
      refine hK _ _ _ _ (nk_LO rfl rfl rfl (show K _ _ _ _ from ?_))
      refine hK _ _ _ _ (nk_bt (nI_lt (show j < 5 by omega) (by omega)) ?_)
      refine hK _ _ _ _ (hK _ _ _ _ (nk_GR rfl rfl rfl (hK _ _ _ _ (show K _ _ _ _ from ?_))))
      refine hK _ _ _ _ (nk_stV rfl rfl rfl rfl ?_)
      refine sx_kindOf isS6 (by omega) ?_
      rw [hkp.1]
      have hk3 := hkp.2
      refine hK _ _ _ _ (hK _ _ _ _ (hK _ _ _ _ (show K _ _ _ _ from ?_)))
      rw [nk_add]
      refine hK _ _ _ _ (nk_stS rfl rfl rfl rfl ?_)
      refine sx_isUnder (by omega) (by omega) ?_
      -- the reference's road up to its own test
      have mroad : ∀ v, (decide (j = 0 ∨ j = ka p + 1 ∨ (j = 1 ∧ (ka p + 1 = 2 ∨ ka p + 1 = 3))) = true → v = nI (ber (ka p))) → (decide (j = 0 ∨ j = ka p + 1 ∨ (j = 1 ∧ (ka p + 1 = 2 ∨ ka p + 1 = 3))) = false → v = -4) → TH S (d + 20) 100 [.ref 52, .int (nI p), .int (nI j)] v D := by
        intro v hv1 hv2
        unfold TH
        refine nk_go (M := (6, yX6_as, cX6_as, 5, (some .int), false, 2, nk_T100)) rfl rfl (Nat.le_of_ble_eq_true rfl) (fun K hK => ?_)
        show K 0 [some (.ref 52), some (.int (nI p)), some (.int (nI j)), none, none] [] D
        refine hK _ _ _ _ (hK _ _ _ _ (show K _ _ _ _ from ?_))
        refine hK _ _ _ _ (nk_stV rfl rfl rfl rfl ?_)
        refine sm_isPerson hmk.2.1 hn6 ?_
        rw [b]
        refine hK _ _ _ _ (nk_bne (fun _ => ?_) (fun z => by cases z))
        refine hK _ _ _ _ (hK _ _ _ _ (hK _ _ _ _ (hK _ _ _ _ (show K _ _ _ _ from ?_))))
        refine hK _ _ _ _ (nk_stS rfl rfl rfl rfl ?_)
        refine sm_in2 (a := ((0 : Nat) : Int)) (b := ((4 : Nat) : Int)) rfl rfl ?_
        rw [hd]
        refine hK _ _ _ _ (nk_bne (fun _ => ?_) (fun z => by cases z))
        refine hK _ _ _ _ (hK _ _ _ _ (nk_GR rfl rfl rfl (hK _ _ _ _ (hK _ _ _ _ (hK _ _ _ _ (show K _ _ _ _ from ?_))))))
        rw [nk_add]
        refine hK _ _ _ _ (nk_AL rfl rfl rfl (show 1 + p < 44 by omega) (show K _ _ _ _ from ?_))
        rw [(hmk.2.2 p hp).1]
        have yes : decide (j = 0 ∨ j = ka p + 1 ∨ (j = 1 ∧ (ka p + 1 = 2 ∨ ka p + 1 = 3))) = true → K 61 [some (.ref 52), some (.int (nI p)), some (.int (nI j)), some (.int (nI (ka p))), none] [] D := by
          intro e
          refine hK _ _ _ _ (hK _ _ _ _ (hK _ _ _ _ (hK _ _ _ _ (show K _ _ _ _ from ?_))))
          refine hK _ _ _ _ (nk_bf (by decide) ?_)
          refine hK _ _ _ _ (hK _ _ _ _ (show K _ _ _ _ from ?_))
          refine hK _ _ _ _ (nk_stV rfl rfl rfl rfl ?_)
          refine sm_bears hmk hp ?_
          refine hK _ _ _ _ (show K _ _ _ _ from ?_)
          refine hK _ _ _ _ (And.intro rfl ⟨?_, hr0⟩)
          rw [hv1 e]
        have no : decide (j = 0 ∨ j = ka p + 1 ∨ (j = 1 ∧ (ka p + 1 = 2 ∨ ka p + 1 = 3))) = false → K 65 [some (.ref 52), some (.int (nI p)), some (.int (nI j)), some (.int (nI (ka p))), none] [] D := by
          intro e
          refine hK _ _ _ _ (hK _ _ _ _ (hK _ _ _ _ (show K _ _ _ _ from ?_)))
          refine hK _ _ _ _ (nk_bt (by decide) ?_)
          refine hK _ _ _ _ (show K _ _ _ _ from ?_)
          refine hK _ _ _ _ (And.intro rfl ⟨?_, hr0⟩)
          rw [hv2 e]
        refine hK _ _ _ _ (hK _ _ _ _ (show K _ _ _ _ from ?_))
        refine hK _ _ _ _ (nk_eq (by omega) (by omega) (fun c1 => ?_) (fun c1 => ?_))
        · exact yes (decide_eq_true (by omega))
        · refine hK _ _ _ _ (hK _ _ _ _ (show K _ _ _ _ from ?_))
          have tail : (j = 1 → ka p = 3) → K 49 [some (.ref 52), some (.int (nI p)), some (.int (nI j)), some (.int (nI (ka p))), none] [] D := by
            intro hjk
            refine hK _ _ _ _ (hK _ _ _ _ (show K _ _ _ _ from ?_))
            refine hK _ _ _ _ (nk_le (by omega) (by omega) (fun c2 => ?_) (fun c2 => ?_))
            · exact no (decide_eq_false (by omega))
            · refine hK _ _ _ _ (hK _ _ _ _ (hK _ _ _ _ (hK _ _ _ _ (show K _ _ _ _ from ?_))))
              rw [nk_sub (by omega)]
              refine hK _ _ _ _ (nk_ne (by omega) (by omega) (fun c3 => ?_) (fun c3 => ?_))
              · exact no (decide_eq_false (by omega))
              · exact yes (decide_eq_true (by omega))
          refine hK _ _ _ _ (nk_ne (by omega) (by omega) (fun c2 => ?_) (fun c2 => ?_))
          · exact tail (fun e => absurd e c2)
          · refine hK _ _ _ _ (hK _ _ _ _ (show K _ _ _ _ from ?_))
            refine hK _ _ _ _ (nk_lt (by omega) (by omega) (fun c3 => ?_) (fun c3 => ?_))
            · exact yes (decide_eq_true (by omega))
            · exact tail (fun _ => by omega)
      refine hK _ _ _ _ (nk_beq (fun c => ?_) (fun c => ?_))
      · refine hK _ _ _ _ (show K _ _ _ _ from ?_)
        exact hK _ _ _ _ (And.intro rfl (h _ _ (mroad _ (fun e => by rw [c] at e; cases e) (fun _ => rfl))))
      · refine hK _ _ _ _ (hK _ _ _ _ (nk_GR rfl rfl rfl (hK _ _ _ _ (show K _ _ _ _ from ?_))))
        refine hK _ _ _ _ (nk_stV rfl rfl rfl rfl ?_)
        refine sx_bearsOf isS6 (by omega) hkp.1 hkp.2 ?_
        refine hK _ _ _ _ (show K _ _ _ _ from ?_)
        exact hK _ _ _ _ (And.intro rfl (h _ _ (mroad _ (fun _ => rfl) (fun e => by rw [c] at e; cases e))))
    · have fin : K 26 [some (.ref 0), some (.int (nI p)), some (.int y)] [] D := by
        refine hK _ _ _ _ (show K _ _ _ _ from ?_)
        refine hK _ _ _ _ (And.intro rfl (h _ _ ?_))
        refine nk_go (M := (6, yX6_as, cX6_as, 5, (some .int), false, 2, nk_T100)) rfl rfl (Nat.le_of_ble_eq_true rfl) (fun K hK => ?_)
        show K 0 [some (.ref 52), some (.int (nI p)), some (.int y), none, none] [] D
        refine hK _ _ _ _ (hK _ _ _ _ (show K _ _ _ _ from ?_))
        refine hK _ _ _ _ (nk_stV rfl rfl rfl rfl ?_)
        refine sm_isPerson hmk.2.1 hn6 ?_
        rw [b]
        refine hK _ _ _ _ (nk_bne (fun _ => ?_) (fun z => by cases z))
        refine hK _ _ _ _ (hK _ _ _ _ (hK _ _ _ _ (hK _ _ _ _ (show K _ _ _ _ from ?_))))
        refine hK _ _ _ _ (nk_stS rfl rfl rfl rfl ?_)
        refine sm_in2 (a := ((0 : Nat) : Int)) (b := ((4 : Nat) : Int)) rfl rfl ?_
        rw [hd]
        refine hK _ _ _ _ (nk_bne (fun z => by cases z) (fun _ => ?_))
        refine hK _ _ _ _ (show K _ _ _ _ from ?_)
        exact hK _ _ _ _ (And.intro rfl (⟨rfl, hr0⟩))
      refine hK _ _ _ _ (show K _ _ _ _ from ?_)
      rcases hno with h1 | ⟨h1, h2⟩
      · refine hK _ _ _ _ (nk_bt h1 ?_)
        exact fin
      · refine hK _ _ _ _ (nk_bf h1 ?_)
        refine hK _ _ _ _ (hK _ _ _ _ (show K _ _ _ _ from ?_))
        refine hK _ _ _ _ (nk_LO rfl rfl rfl (show K _ _ _ _ from ?_))
        refine hK _ _ _ _ (nk_bf (fun z => absurd (Int32.lt_iff_toInt_lt.mp h2) (by have := Int32.lt_iff_toInt_lt.mp z; rw [nI_toInt (by decide)] at this ⊢; omega)) ?_)
        exact fin
  · refine hK _ _ _ _ (show K _ _ _ _ from ?_)
    refine hK _ _ _ _ (And.intro rfl (h _ _ ?_))
    refine nk_go (M := (6, yX6_as, cX6_as, 5, (some .int), false, 2, nk_T100)) rfl rfl (Nat.le_of_ble_eq_true rfl) (fun K hK => ?_)
    show K 0 [some (.ref 52), some (.int x), some (.int y), none, none] [] D
    refine hK _ _ _ _ (hK _ _ _ _ (show K _ _ _ _ from ?_))
    refine hK _ _ _ _ (nk_stV rfl rfl rfl rfl ?_)
    refine sm_isPerson hmk.2.1 hn6 ?_
    rw [b]
    refine hK _ _ _ _ (nk_bne (fun z => by cases z) (fun _ => ?_))
    refine hK _ _ _ _ (show K _ _ _ _ from ?_)
    exact hK _ _ _ _ (And.intro rfl (⟨rfl, hr0⟩))
end NKO
