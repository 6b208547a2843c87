/-! ===== contracts of leaves: numbers ===== -/
section NKL
variable {S : nk_Sc} {d : Nat} {D : nk_D} {P : nk_P}
theorem sx_isIn {c p : Nat} (hc : c < 2 ^ 31) (hp : p < 32) (h : P (some (.int (bI (c.testBit p)))) D) : nk_run S (d + 1) 68 [.int (nI c), .int (nI p)] D P := by
  refine nk_go (M := (5, yX5_isIn, cX5_isIn, 2, (some .boolean), true, 2, nk_T68)) rfl rfl (Nat.le_of_ble_eq_true rfl) (fun K hK => ?_)
  show K 0 [some (.int (nI c)), some (.int (nI p))] [] D
  refine hK _ _ _ _ (hK _ _ _ _ (hK _ _ _ _ (hK _ _ _ _ (hK _ _ _ _ (hK _ _ _ _ (show K _ _ _ _ from ?_))))))
  rw [nk_bit hc hp]
  cases hb : c.testBit p
  · rw [hb] at h
    refine hK _ _ _ _ (nk_nt (by decide) ?_)
    refine hK _ _ _ _ (show K _ _ _ _ from ?_)
    exact hK _ _ _ _ (And.intro rfl (h))
  · rw [hb] at h
    refine hK _ _ _ _ (nk_nf (by decide) ?_)
    refine hK _ _ _ _ (hK _ _ _ _ (show K _ _ _ _ from ?_))
    exact hK _ _ _ _ (And.intro rfl (h))
theorem sm_has {c p : Nat} (hc : c < 2 ^ 31) (hp : p < 32) (h : P (some (.int (bI (c.testBit p)))) D) : nk_run S (d + 1) 72 [.int (nI c), .int (nI p)] D P := by
  refine nk_go (M := (6, yX6_has, cX6_has, 2, (some .boolean), true, 2, nk_T72)) rfl rfl (Nat.le_of_ble_eq_true rfl) (fun K hK => ?_)
  show K 0 [some (.int (nI c)), some (.int (nI p))] [] D
  refine hK _ _ _ _ (hK _ _ _ _ (hK _ _ _ _ (hK _ _ _ _ (hK _ _ _ _ (hK _ _ _ _ (show K _ _ _ _ from ?_))))))
  rw [nk_bit hc hp]
  cases hb : c.testBit p
  · rw [hb] at h
    refine hK _ _ _ _ (nk_nt (by decide) ?_)
    refine hK _ _ _ _ (show K _ _ _ _ from ?_)
    exact hK _ _ _ _ (And.intro rfl (h))
  · rw [hb] at h
    refine hK _ _ _ _ (nk_nf (by decide) ?_)
    refine hK _ _ _ _ (hK _ _ _ _ (show K _ _ _ _ from ?_))
    exact hK _ _ _ _ (And.intro rfl (h))
theorem sj_bitCount {c : Nat} (hc : c < 256) (h : P (some (.int (nI (pcn c)))) D) : nk_run S (d + 1) 126 [.int (nI c)] D P := by
  have e := nk_bc256 ⟨c, hc⟩
  refine nk_go (M := (11, yJ6_bitCount_0f7a4, cJ6_bitCount_0f7a4, 1, (some .int), true, 1, nk_T126)) rfl rfl (Nat.le_of_ble_eq_true rfl) (fun K hK => ?_)
  show K 0 [some (.int (nI c))] [] D
  refine hK _ _ _ _ (hK _ _ _ _ (hK _ _ _ _ (hK _ _ _ _ (hK _ _ _ _ (hK _ _ _ _ (hK _ _ _ _ (hK _ _ _ _ (hK _ _ _ _ (hK _ _ _ _ (hK _ _ _ _ (hK _ _ _ _ (hK _ _ _ _ (hK _ _ _ _ (hK _ _ _ _ (hK _ _ _ _ (hK _ _ _ _ (hK _ _ _ _ (hK _ _ _ _ (hK _ _ _ _ (hK _ _ _ _ (hK _ _ _ _ (hK _ _ _ _ (hK _ _ _ _ (hK _ _ _ _ (hK _ _ _ _ (hK _ _ _ _ (hK _ _ _ _ (hK _ _ _ _ (hK _ _ _ _ (hK _ _ _ _ (hK _ _ _ _ (hK _ _ _ _ (hK _ _ _ _ (hK _ _ _ _ (hK _ _ _ _ (hK _ _ _ _ (hK _ _ _ _ (hK _ _ _ _ (hK _ _ _ _ (hK _ _ _ _ (show K _ _ _ _ from ?_)))))))))))))))))))))))))))))))))))))))))
  rw [← e] at h
  exact hK _ _ _ _ (And.intro rfl (h))
theorem sx_has {k n : Nat} {x : Int32} (hs : nk_isS k) (hn : D k 2 = nI n) (hn6 : n ≤ 6) (h : P (some (.int (bI (vld n x)))) D) : nk_run S (d + 1) 8 [.ref k, .int x] D P := by
  obtain ⟨hk, hk1, hk2⟩ := hs
  refine nk_go (M := (2, yX2_has, cX2_has, 2, (some .boolean), false, 1, nk_T8)) rfl rfl (Nat.le_of_ble_eq_true rfl) (fun K hK => ?_)
  show K 0 [some (.ref k), some (.int x)] [] D
  refine hK _ _ _ _ (show K _ _ _ _ from ?_)
  cases hv : vld n x
  · rw [hv] at h
    rcases vld_no (by omega) hv with h1 | ⟨h1, h2⟩
    · refine hK _ _ _ _ (nk_bt h1 ?_)
      refine hK _ _ _ _ (show K _ _ _ _ from ?_)
      exact hK _ _ _ _ (And.intro rfl (h))
    · refine hK _ _ _ _ (nk_bf h1 ?_)
      refine hK _ _ _ _ (hK _ _ _ _ (hK _ _ _ _ (nk_GI rfl hk rfl (show K _ _ _ _ from ?_))))
      rw [hn]
      refine hK _ _ _ _ (nk_bt h2 ?_)
      refine hK _ _ _ _ (show K _ _ _ _ from ?_)
      exact hK _ _ _ _ (And.intro rfl (h))
  · rw [hv] at h
    obtain ⟨j, hj, rfl⟩ := vld_of (by omega) hv
    refine hK _ _ _ _ (nk_bf (nI_pos (by omega)) ?_)
    refine hK _ _ _ _ (hK _ _ _ _ (hK _ _ _ _ (nk_GI rfl hk rfl (show K _ _ _ _ from ?_))))
    rw [hn]
    refine hK _ _ _ _ (nk_bf (nI_ge hj (by omega)) ?_)
    refine hK _ _ _ _ (hK _ _ _ _ (show K _ _ _ _ from ?_))
    exact hK _ _ _ _ (And.intro rfl (h))
theorem sx_hasPair {k n : Nat} {x y : Int32} (hs : nk_isS k) (hn : D k 2 = nI n) (hn6 : n ≤ 6) (h : P (some (.int (bI (vld n x && vld n y && !decide (x = y))))) D) : nk_run S (d + 2) 9 [.ref k, .int x, .int y] D P := by
  have hs' := hs
  obtain ⟨hk, hk1, hk2⟩ := hs
  refine nk_go (M := (2, yX2_hasPair, cX2_hasPair, 3, (some .boolean), false, 2, nk_T9)) rfl rfl (Nat.le_of_ble_eq_true rfl) (fun K hK => ?_)
  show K 0 [some (.ref k), some (.int x), some (.int y)] [] D
  refine hK _ _ _ _ (hK _ _ _ _ (show K _ _ _ _ from ?_))
  refine hK _ _ _ _ (nk_stV rfl rfl (nk_rvI hk) rfl ?_)
  refine sx_has hs' hn hn6 ?_
  refine hK _ _ _ _ (nk_beq (fun h1 => ?_) (fun h1 => ?_))
  · refine hK _ _ _ _ (show K _ _ _ _ from ?_)
    exact hK _ _ _ _ (And.intro rfl ((by rw [h1] at h; exact h)))
  · refine hK _ _ _ _ (hK _ _ _ _ (show K _ _ _ _ from ?_))
    refine hK _ _ _ _ (nk_stV rfl rfl (nk_rvI hk) rfl ?_)
    refine sx_has hs' hn hn6 ?_
    refine hK _ _ _ _ (nk_beq (fun h2 => ?_) (fun h2 => ?_))
    · refine hK _ _ _ _ (show K _ _ _ _ from ?_)
      exact hK _ _ _ _ (And.intro rfl ((by rw [h1, h2] at h; exact h)))
    · refine hK _ _ _ _ (hK _ _ _ _ (show K _ _ _ _ from ?_))
      by_cases h3 : x = y
      · refine hK _ _ _ _ (nk_bt h3 ?_)
        refine hK _ _ _ _ (show K _ _ _ _ from ?_)
        exact hK _ _ _ _ (And.intro rfl ((by rw [h1, h2, decide_eq_true h3] at h; exact h)))
      · refine hK _ _ _ _ (nk_bf h3 ?_)
        refine hK _ _ _ _ (hK _ _ _ _ (show K _ _ _ _ from ?_))
        exact hK _ _ _ _ (And.intro rfl ((by rw [h1, h2, decide_eq_false h3] at h; exact h)))
theorem sx_hasAll {k n : Nat} {x : Int32} (hs : nk_isS k) (hn : D k 2 = nI n) (hn6 : n ≤ 6) (h : P (some (.int (bI (vld (2 ^ n) x)))) D) : nk_run S (d + 1) 10 [.ref k, .int x] D P := by
  obtain ⟨hk, hk1, hk2⟩ := hs
  have h64 : 2 ^ n ≤ 2 ^ 6 := Nat.pow_le_pow_right (by decide) hn6
  refine nk_go (M := (2, yX2_hasAll, cX2_hasAll, 2, (some .boolean), false, 1, nk_T10)) rfl rfl (Nat.le_of_ble_eq_true rfl) (fun K hK => ?_)
  show K 0 [some (.ref k), some (.int x)] [] D
  refine hK _ _ _ _ (show K _ _ _ _ from ?_)
  cases hv : vld (2 ^ n) x
  · rw [hv] at h
    rcases vld_no (by omega) hv with h1 | ⟨h1, h2⟩
    · refine hK _ _ _ _ (nk_bt h1 ?_)
      refine hK _ _ _ _ (show K _ _ _ _ from ?_)
      exact hK _ _ _ _ (And.intro rfl (h))
    · refine hK _ _ _ _ (nk_bf h1 ?_)
      refine hK _ _ _ _ (hK _ _ _ _ (hK _ _ _ _ (hK _ _ _ _ (nk_GI rfl hk rfl (hK _ _ _ _ (show K _ _ _ _ from ?_))))))
      rw [hn, nk_one (by omega)]
      refine hK _ _ _ _ (nk_bt h2 ?_)
      refine hK _ _ _ _ (show K _ _ _ _ from ?_)
      exact hK _ _ _ _ (And.intro rfl (h))
  · rw [hv] at h
    obtain ⟨j, hj, rfl⟩ := vld_of (by omega) hv
    refine hK _ _ _ _ (nk_bf (nI_pos (by omega)) ?_)
    refine hK _ _ _ _ (hK _ _ _ _ (hK _ _ _ _ (hK _ _ _ _ (nk_GI rfl hk rfl (hK _ _ _ _ (show K _ _ _ _ from ?_))))))
    rw [hn, nk_one (by omega)]
    refine hK _ _ _ _ (nk_bf (nI_ge hj (by omega)) ?_)
    refine hK _ _ _ _ (hK _ _ _ _ (show K _ _ _ _ from ?_))
    exact hK _ _ _ _ (And.intro rfl (h))
theorem sx_kindOf {k p : Nat} (hs : nk_isS k) (hp : p < 6) (h : P (some (.int (D (k + 1) p))) D) : nk_run S (d + 1) 11 [.ref k, .int (nI p)] D P := by
  obtain ⟨hk, hk1, hk2⟩ := hs
  refine nk_go (M := (2, yX2_kindOf, cX2_kindOf, 2, (some .int), false, 1, nk_T11)) rfl rfl (Nat.le_of_ble_eq_true rfl) (fun K hK => ?_)
  show K 0 [some (.ref k), some (.int (nI p))] [] D
  refine hK _ _ _ _ (show K _ _ _ _ from ?_)
  refine hK _ _ _ _ (nk_bf (nI_pos (by omega)) ?_)
  refine hK _ _ _ _ (hK _ _ _ _ (show K _ _ _ _ from ?_))
  refine hK _ _ _ _ (nk_bf (nI_ge hp (by omega)) ?_)
  refine hK _ _ _ _ (hK _ _ _ _ (nk_GR rfl hk rfl (hK _ _ _ _ (show K _ _ _ _ from ?_))))
  refine hK _ _ _ _ (nk_AL rfl hk1 rfl hp (show K _ _ _ _ from ?_))
  refine hK _ _ _ _ (show K _ _ _ _ from ?_)
  exact hK _ _ _ _ (And.intro rfl (h))
theorem sx_bearsOf {k p q : Nat} (hs : nk_isS k) (hp : p < 6) (hq : D (k + 1) p = nI q) (hq3 : q ≤ 3) (h : P (some (.int (nI (ber q)))) D) : nk_run S (d + 2) 12 [.ref k, .int (nI p)] D P := by
  have hs' := hs
  obtain ⟨hk, hk1, hk2⟩ := hs
  refine nk_go (M := (2, yX2_bearsOf, cX2_bearsOf, 3, (some .int), false, 1, nk_T12)) rfl rfl (Nat.le_of_ble_eq_true rfl) (fun K hK => ?_)
  show K 0 [some (.ref k), some (.int (nI p)), none] [] D
  refine hK _ _ _ _ (hK _ _ _ _ (show K _ _ _ _ from ?_))
  refine hK _ _ _ _ (nk_stV rfl rfl (nk_rvI hk) rfl ?_)
  refine sx_kindOf hs' hp ?_
  rw [hq]
  refine hK _ _ _ _ (hK _ _ _ _ (show K _ _ _ _ from ?_))
  refine hK _ _ _ _ (nk_bf (nI_pos (by omega)) ?_)
  refine hK _ _ _ _ (hK _ _ _ _ (show K _ _ _ _ from ?_))
  refine hK _ _ _ _ (nk_LO rfl rfl rfl (show K _ _ _ _ from ?_))
  refine hK _ _ _ _ (nk_bf (nI_ge (show q < 4 by omega) (by omega)) ?_)
  refine hK _ _ _ _ (hK _ _ _ _ (show K _ _ _ _ from ?_))
  refine hK _ _ _ _ (nk_AO (o := 1000) rfl rfl rfl (show q < 4 by omega) (show K _ _ _ _ from ?_))
  refine hK _ _ _ _ (show K _ _ _ _ from ?_)
  have e : ∀ q, q ≤ 3 → nk_bears.getD q 0 = nI (ber q) := by decide
  rw [← e q hq3] at h
  exact hK _ _ _ _ (And.intro rfl (h))
theorem sx_roleTo {k p q : Nat} (hs : nk_isS k) (hp : p < 6) (hq : q < 6) (h : P (some (.int (D (k + 2) (p * 6 + q)))) D) : nk_run S (d + 1) 13 [.ref k, .int (nI p), .int (nI q)] D P := by
  obtain ⟨hk, hk1, hk2⟩ := hs
  refine nk_go (M := (2, yX2_roleTo, cX2_roleTo, 4, (some .int), false, 2, nk_T13)) rfl rfl (Nat.le_of_ble_eq_true rfl) (fun K hK => ?_)
  show K 0 [some (.ref k), some (.int (nI p)), some (.int (nI q)), none] [] D
  refine hK _ _ _ _ (hK _ _ _ _ (hK _ _ _ _ (hK _ _ _ _ (hK _ _ _ _ (hK _ _ _ _ (hK _ _ _ _ (show K _ _ _ _ from ?_)))))))
  rw [nk_ix]
  refine hK _ _ _ _ (nk_bf (nI_pos (by omega)) ?_)
  refine hK _ _ _ _ (hK _ _ _ _ (hK _ _ _ _ (nk_GR rfl hk rfl (show K _ _ _ _ from ?_))))
  refine hK _ _ _ _ (nk_LN rfl hk2 (show K _ _ _ _ from ?_))
  refine hK _ _ _ _ (nk_bf (nI_ge (show p * 6 + q < 36 by omega) (by omega)) ?_)
  refine hK _ _ _ _ (hK _ _ _ _ (nk_GR rfl hk rfl (hK _ _ _ _ (show K _ _ _ _ from ?_))))
  refine hK _ _ _ _ (nk_AL rfl hk2 rfl (by omega) (show K _ _ _ _ from ?_))
  refine hK _ _ _ _ (show K _ _ _ _ from ?_)
  exact hK _ _ _ _ (And.intro rfl (h))
end NKL
