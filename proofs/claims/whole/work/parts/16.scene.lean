/-! ===== the scene's reads ===== -/
section NKQ
variable {S : nk_Sc} {d : Nat} {D : nk_D} {P : nk_P}
theorem mbU_no {r : Nat → Nat → Nat} {c p j : Nat} (h : ¬ (c.testBit j = true ∧ r p j ≠ 0)) : mbU r c p (j + 1) = mbU r c p j := by
  rw [mbU, if_neg h, Nat.or_zero]
theorem mbU_yes {r : Nat → Nat → Nat} {c p j : Nat} (h : c.testBit j = true ∧ r p j ≠ 0) : mbU r c p (j + 1) = mbU r c p j ||| 2 ^ (r p j) := by
  rw [mbU, if_pos h]
theorem sx_mustBe {k n c p : Nat} {ka : Nat → Nat} {r : Nat → Nat → Nat} (hs : nk_isS k) (hx : XS D k n ka r) (hc : c < 64) (hp : p < n) (h : P (some (.int (nI (mb n r c p)))) D) : nk_run S (d + 2) 17 [.ref k, .int (nI c), .int (nI p)] D P := by
  have hs' := hs
  obtain ⟨hk, hk1, hk2⟩ := hs
  obtain ⟨hn6, hn, hka, hr⟩ := hx
  refine nk_go (M := (2, yX2_mustBe, cX2_mustBe, 6, (some .int), false, 2, nk_T17)) rfl rfl (Nat.le_of_ble_eq_true rfl) (fun K hK => ?_)
  show K 0 [some (.ref k), some (.int (nI c)), some (.int (nI p)), none, none, none] [] D
  refine hK _ _ _ _ (hK _ _ _ _ (show K _ _ _ _ from ?_))
  refine hK _ _ _ _ (nk_stS rfl rfl rfl rfl ?_)
  refine sx_isIn (by omega) (by omega) ?_
  refine hK _ _ _ _ (nk_bne (fun hb => ?_) (fun hb => ?_))
  · refine hK _ _ _ _ (hK _ _ _ _ (hK _ _ _ _ (hK _ _ _ _ (show K _ _ _ _ from ?_))))
    rw [mb, if_pos hb] at h
    have loop : ∀ m j, j + m = n → ∀ x5, K 15 [some (.ref k), some (.int (nI c)), some (.int (nI p)), some (.int (nI (mbU r c p j))), some (.int (nI j)), x5] [] D := by
      intro m
      induction m with
      | zero =>
        intro j hj x5
        have hj : j = n := by omega
        subst hj
        refine hK _ _ _ _ (hK _ _ _ _ (hK _ _ _ _ (nk_GI rfl hk rfl (show K _ _ _ _ from ?_))))
        rw [hn]
        refine hK _ _ _ _ (nk_bt (nI_le (Nat.le_refl _) (by omega)) ?_)
        refine hK _ _ _ _ (show K _ _ _ _ from ?_)
        exact hK _ _ _ _ (And.intro rfl (h))
      | succ m ih =>
        intro j hj x5
        refine hK _ _ _ _ (hK _ _ _ _ (hK _ _ _ _ (nk_GI rfl hk rfl (show K _ _ _ _ from ?_))))
        rw [hn]
        refine hK _ _ _ _ (nk_bf (nI_ge (by omega) (by omega)) ?_)
        refine hK _ _ _ _ (hK _ _ _ _ (hK _ _ _ _ (show K _ _ _ _ from ?_)))
        refine hK _ _ _ _ (nk_stV rfl rfl (nk_rvI hk) rfl ?_)
        refine sx_roleTo hs' (by omega) (by omega) ?_
        rw [(hr p j hp (by omega)).1]
        have hr7 := (hr p j hp (by omega)).2
        refine hK _ _ _ _ (hK _ _ _ _ (hK _ _ _ _ (show K _ _ _ _ from ?_)))
        refine hK _ _ _ _ (nk_stS rfl rfl rfl rfl ?_)
        refine sx_isIn (by omega) (by omega) ?_
        have back : K 54 [some (.ref k), some (.int (nI c)), some (.int (nI p)), some (.int (nI (mbU r c p (j + 1)))), some (.int (nI j)), some (.int (nI (r p j)))] [] D := by
          refine hK _ _ _ _ (hK _ _ _ _ (show K _ _ _ _ from ?_))
          rw [nk_add]
          exact ih (j + 1) (by omega) _
        refine hK _ _ _ _ (nk_beq (fun h1 => ?_) (fun h1 => ?_))
        · rw [mbU_no (by rw [h1]; simp)] at back
          exact back
        · refine hK _ _ _ _ (show K _ _ _ _ from ?_)
          refine hK _ _ _ _ (nk_eq (by omega) (by omega) (fun h2 => ?_) (fun h2 => ?_))
          · rw [mbU_no (by rw [h2]; simp)] at back
            exact back
          · rw [mbU_yes ⟨h1, h2⟩] at back
            refine hK _ _ _ _ (hK _ _ _ _ (hK _ _ _ _ (hK _ _ _ _ (hK _ _ _ _ (hK _ _ _ _ (show K _ _ _ _ from ?_))))))
            rw [nk_one (by omega), nk_or]
            exact back
    exact loop n 0 (by omega) none
  · refine hK _ _ _ _ (show K _ _ _ _ from ?_)
    rw [mb, if_neg (by rw [hb]; decide)] at h
    exact hK _ _ _ _ (And.intro rfl (h))
theorem sx_mustBeTwo {k n c p : Nat} {ka : Nat → Nat} {r : Nat → Nat → Nat} (hs : nk_isS k) (hx : XS D k n ka r) (hc : c < 64) (hp : p < n) (h : P (some (.int (bI (two n ka r c p)))) D) : nk_run S (d + 3) 18 [.ref k, .int (nI c), .int (nI p)] D P := by
  have hs' := hs
  obtain ⟨hk, hk1, hk2⟩ := hs
  have hx' := hx
  obtain ⟨hn6, hn, hka, hr⟩ := hx
  refine nk_go (M := (2, yX2_mustBeTwo, cX2_mustBeTwo, 3, (some .boolean), false, 2, nk_T18)) rfl rfl (Nat.le_of_ble_eq_true rfl) (fun K hK => ?_)
  show K 0 [some (.ref k), some (.int (nI c)), some (.int (nI p))] [] D
  refine hK _ _ _ _ (hK _ _ _ _ (hK _ _ _ _ (show K _ _ _ _ from ?_)))
  refine hK _ _ _ _ (nk_stV rfl rfl (nk_rvI hk) rfl ?_)
  refine sx_mustBe hs' hx' hc hp ?_
  have hlt := mb_lt (n := n) (r := r) (c := c) (p := p) (fun q hq => (hr p q hp hq).2)
  refine hK _ _ _ _ (nk_stS rfl rfl rfl rfl ?_)
  refine sj_bitCount hlt ?_
  refine hK _ _ _ _ (hK _ _ _ _ (show K _ _ _ _ from ?_))
  refine hK _ _ _ _ (nk_stV rfl rfl (nk_rvI hk) rfl ?_)
  refine sx_bearsOf hs' (by omega) (hka p hp).1 (hka p hp).2 ?_
  have hb : ber (ka p) ≤ 7 := by
    have : ∀ q, q ≤ 3 → ber q ≤ 7 := by decide
    exact this _ (hka p hp).2
  have hpc := pcn_le (mb n r c p)
  refine hK _ _ _ _ (nk_le (by omega) (by omega) (fun h1 => ?_) (fun h1 => ?_))
  · rw [two, decide_eq_false (by omega)] at h
    refine hK _ _ _ _ (show K _ _ _ _ from ?_)
    exact hK _ _ _ _ (And.intro rfl (h))
  · rw [two, decide_eq_true h1] at h
    refine hK _ _ _ _ (hK _ _ _ _ (show K _ _ _ _ from ?_))
    exact hK _ _ _ _ (And.intro rfl (h))
theorem sx_clashOf {k n c : Nat} {ka : Nat → Nat} {r : Nat → Nat → Nat} (hs : nk_isS k) (hx : XS D k n ka r) (hc : c < 64) (h : P (some (.int (nI (tw n ka r c)))) D) : nk_run S (d + 4) 19 [.ref k, .int (nI c)] D P := by
  have hs' := hs
  obtain ⟨hk, hk1, hk2⟩ := hs
  have hx' := hx
  obtain ⟨hn6, hn, hka, hr⟩ := hx
  refine nk_go (M := (2, yX2_clashOf, cX2_clashOf, 4, (some .int), false, 1, nk_T19)) rfl rfl (Nat.le_of_ble_eq_true rfl) (fun K hK => ?_)
  show K 0 [some (.ref k), some (.int (nI c)), none, none] [] D
  refine hK _ _ _ _ (hK _ _ _ _ (hK _ _ _ _ (hK _ _ _ _ (show K _ _ _ _ from ?_))))
  have loop : ∀ m j, j + m = n → K 4 [some (.ref k), some (.int (nI c)), some (.int (nI (twU n ka r c j))), some (.int (nI j))] [] D := by
    intro m
    induction m with
    | zero =>
      intro j hj
      have hj : j = n := by omega
      subst hj
      refine hK _ _ _ _ (hK _ _ _ _ (hK _ _ _ _ (nk_GI rfl hk rfl (show K _ _ _ _ from ?_))))
      rw [hn]
      refine hK _ _ _ _ (nk_bt (nI_le (Nat.le_refl _) (by omega)) ?_)
      refine hK _ _ _ _ (show K _ _ _ _ from ?_)
      exact hK _ _ _ _ (And.intro rfl (h))
    | succ m ih =>
      intro j hj
      refine hK _ _ _ _ (hK _ _ _ _ (hK _ _ _ _ (nk_GI rfl hk rfl (show K _ _ _ _ from ?_))))
      rw [hn]
      refine hK _ _ _ _ (nk_bf (nI_ge (by omega) (by omega)) ?_)
      refine hK _ _ _ _ (hK _ _ _ _ (hK _ _ _ _ (show K _ _ _ _ from ?_)))
      refine hK _ _ _ _ (nk_stV rfl rfl (nk_rvI hk) rfl ?_)
      refine sx_mustBeTwo hs' hx' hc (by omega) ?_
      have back : K 27 [some (.ref k), some (.int (nI c)), some (.int (nI (twU n ka r c (j + 1)))), some (.int (nI j))] [] D := by
        refine hK _ _ _ _ (hK _ _ _ _ (show K _ _ _ _ from ?_))
        rw [nk_add]
        exact ih (j + 1) (by omega)
      refine hK _ _ _ _ (nk_beq (fun h1 => ?_) (fun h1 => ?_))
      · rw [twU, if_neg (by rw [h1]; decide), Nat.or_zero] at back
        exact back
      · rw [twU, if_pos h1] at back
        refine hK _ _ _ _ (hK _ _ _ _ (hK _ _ _ _ (hK _ _ _ _ (hK _ _ _ _ (hK _ _ _ _ (show K _ _ _ _ from ?_))))))
        rw [nk_one (by omega), nk_or]
        exact back
  exact loop n 0 (by omega)
/-- to how many one is a role -/
def kn (r : Nat → Nat → Nat) (p : Nat) : Nat → Nat
  | 0 => 0
  | j + 1 => kn r p j + (if r p j ≠ 0 then 1 else 0)
theorem kn_le {r : Nat → Nat → Nat} {p : Nat} : ∀ j, kn r p j ≤ j
  | 0 => Nat.le_refl _
  | j + 1 => by
    have := kn_le (r := r) (p := p) j
    rw [kn]
    split <;> omega
def kns (n : Nat) (r : Nat → Nat → Nat) : Nat → Nat
  | 0 => 0
  | j + 1 => kns n r j + kn r j n
theorem kns_le {n : Nat} {r : Nat → Nat → Nat} : ∀ j, kns n r j ≤ j * n
  | 0 => by simp [kns]
  | j + 1 => by
    have := kns_le (n := n) (r := r) j
    have := kn_le (r := r) (p := j) n
    rw [kns, Nat.add_mul]
    omega
theorem sx_knownTo {k n p : Nat} {ka : Nat → Nat} {r : Nat → Nat → Nat} (hs : nk_isS k) (hx : XS D k n ka r) (hp : p < n) (h : P (some (.int (nI (kn r p n)))) D) : nk_run S (d + 2) 15 [.ref k, .int (nI p)] D P := by
  have hs' := hs
  obtain ⟨hk, hk1, hk2⟩ := hs
  obtain ⟨hn6, hn, hka, hr⟩ := hx
  refine nk_go (M := (2, yX2_knownTo, cX2_knownTo, 4, (some .int), false, 1, nk_T15)) rfl rfl (Nat.le_of_ble_eq_true rfl) (fun K hK => ?_)
  show K 0 [some (.ref k), some (.int (nI p)), none, none] [] D
  refine hK _ _ _ _ (hK _ _ _ _ (hK _ _ _ _ (hK _ _ _ _ (show K _ _ _ _ from ?_))))
  have loop : ∀ m j, j + m = n → K 4 [some (.ref k), some (.int (nI p)), some (.int (nI (kn r p j))), some (.int (nI j))] [] D := by
    intro m
    induction m with
    | zero =>
      intro j hj
      have hj : j = n := by omega
      subst hj
      refine hK _ _ _ _ (hK _ _ _ _ (hK _ _ _ _ (nk_GI rfl hk rfl (show K _ _ _ _ from ?_))))
      rw [hn]
      refine hK _ _ _ _ (nk_bt (nI_le (Nat.le_refl _) (by omega)) ?_)
      refine hK _ _ _ _ (show K _ _ _ _ from ?_)
      exact hK _ _ _ _ (And.intro rfl (h))
    | succ m ih =>
      intro j hj
      refine hK _ _ _ _ (hK _ _ _ _ (hK _ _ _ _ (nk_GI rfl hk rfl (show K _ _ _ _ from ?_))))
      rw [hn]
      refine hK _ _ _ _ (nk_bf (nI_ge (by omega) (by omega)) ?_)
      refine hK _ _ _ _ (hK _ _ _ _ (hK _ _ _ _ (show K _ _ _ _ from ?_)))
      refine hK _ _ _ _ (nk_stV rfl rfl (nk_rvI hk) rfl ?_)
      refine sx_roleTo hs' (by omega) (by omega) ?_
      rw [(hr p j hp (by omega)).1]
      have hr7 := (hr p j hp (by omega)).2
      have back : K 24 [some (.ref k), some (.int (nI p)), some (.int (nI (kn r p (j + 1)))), some (.int (nI j))] [] D := by
        refine hK _ _ _ _ (hK _ _ _ _ (show K _ _ _ _ from ?_))
        rw [nk_add]
        exact ih (j + 1) (by omega)
      refine hK _ _ _ _ (nk_eq (by omega) (by omega) (fun h1 => ?_) (fun h1 => ?_))
      · rw [kn, if_neg (by rw [h1]; simp), Nat.add_zero] at back
        exact back
      · rw [kn, if_pos h1] at back
        refine hK _ _ _ _ (show K _ _ _ _ from ?_)
        rw [nk_add]
        exact back
  exact loop n 0 (by omega)
theorem sx_introductions {k n : Nat} {ka : Nat → Nat} {r : Nat → Nat → Nat} (hs : nk_isS k) (hx : XS D k n ka r) (h : P (some (.int (nI (kns n r n)))) D) : nk_run S (d + 3) 16 [.ref k] D P := by
  have hs' := hs
  obtain ⟨hk, hk1, hk2⟩ := hs
  have hx' := hx
  obtain ⟨hn6, hn, hka, hr⟩ := hx
  refine nk_go (M := (2, yX2_introductions, cX2_introductions, 3, (some .int), false, 0, nk_T16)) rfl rfl (Nat.le_of_ble_eq_true rfl) (fun K hK => ?_)
  show K 0 [some (.ref k), none, none] [] D
  refine hK _ _ _ _ (hK _ _ _ _ (hK _ _ _ _ (hK _ _ _ _ (show K _ _ _ _ from ?_))))
  have loop : ∀ m j, j + m = n → K 4 [some (.ref k), some (.int (nI (kns n r j))), some (.int (nI j))] [] D := by
    intro m
    induction m with
    | zero =>
      intro j hj
      have hj : j = n := by omega
      subst hj
      refine hK _ _ _ _ (hK _ _ _ _ (hK _ _ _ _ (nk_GI rfl hk rfl (show K _ _ _ _ from ?_))))
      rw [hn]
      refine hK _ _ _ _ (nk_bt (nI_le (Nat.le_refl _) (by omega)) ?_)
      refine hK _ _ _ _ (show K _ _ _ _ from ?_)
      exact hK _ _ _ _ (And.intro rfl (h))
    | succ m ih =>
      intro j hj
      refine hK _ _ _ _ (hK _ _ _ _ (hK _ _ _ _ (nk_GI rfl hk rfl (show K _ _ _ _ from ?_))))
      rw [hn]
      refine hK _ _ _ _ (nk_bf (nI_ge (by omega) (by omega)) ?_)
      refine hK _ _ _ _ (hK _ _ _ _ (hK _ _ _ _ (show K _ _ _ _ from ?_)))
      refine hK _ _ _ _ (nk_stV rfl rfl (nk_rvI hk) rfl ?_)
      refine sx_knownTo hs' hx' (by omega) ?_
      refine hK _ _ _ _ (hK _ _ _ _ (hK _ _ _ _ (hK _ _ _ _ (show K _ _ _ _ from ?_))))
      rw [nk_add, nk_add]
      exact ih (j + 1) (by omega)
  exact loop n 0 (by omega)
end NKQ
