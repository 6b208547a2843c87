/-! ===== the reference's evenings and notes ===== -/
theorem twU_bit {n : Nat} {ka : Nat → Nat} {r : Nat → Nat → Nat} {c p : Nat} : ∀ j, (twU n ka r c j).testBit p = (decide (p < j) && two n ka r c p)
  | 0 => by simp [twU]
  | j + 1 => by
    rw [twU, Nat.testBit_or, twU_bit j]
    by_cases e : p = j
    · subst e
      cases h : two n ka r c p <;> simp [Nat.testBit_two_pow_self]
    · have e2 : (if two n ka r c j = true then 2 ^ j else 0 : Nat).testBit p = false := by
        split
        · exact Nat.testBit_two_pow_of_ne (Ne.symm e)
        · exact Nat.zero_testBit p
      rw [e2, Bool.or_false]
      congr 1
      exact decide_eq_decide.mpr (by omega)
theorem tw_bit {n : Nat} {ka : Nat → Nat} {r : Nat → Nat → Nat} {c p : Nat} (hp : p < n) : (tw n ka r c).testBit p = two n ka r c p := by
  rw [tw, twU_bit, decide_eq_true hp, Bool.true_and]
theorem tw_lt {n : Nat} {ka : Nat → Nat} {r : Nat → Nat → Nat} {c : Nat} (hn : n ≤ 6) : tw n ka r c < 64 := twU_lt n hn
theorem only_iff {b : Nat} (hb : b < 256) (he : b % 2 = 0) : pcn b = 1 ↔ only b ≠ 0 := by
  have key : ∀ b : Fin 256, b.val % 2 = 0 → (pcn b.val = 1 ↔ only b.val ≠ 0) := by decide +kernel
  exact key ⟨b, hb⟩ he
theorem only_eq {b : Nat} (h : pcn b = 1) : only b = pcn (b - 1) := by rw [only, if_pos h]
theorem MK_of {D D1 : nk_D} {n : Nat} {ka : Nat → Nat} (h : ∀ b, D1 53 b = D 53 b) (hk : MK D n ka) : MK D1 n ka := ⟨hk.1, by rw [h]; exact hk.2.1, fun p hp => by rw [h]; exact hk.2.2 p hp⟩
theorem MS_of {D D1 : nk_D} {n : Nat} {r : Nat → Nat → Nat} (h : ∀ b, D1 54 b = D 54 b) (hm : MS D n r) : MS D1 n r := ⟨fun p q hp hq => by rw [h]; exact hm.1 p q hp hq, hm.2⟩
theorem evR_le {n : Nat} {ka : Nat → Nat} {r : Nat → Nat → Nat} {R p q : Nat} (hr : ∀ q, q < n → r p q ≤ 7) (hq : q < n) : evR n ka r R p q ≤ 7 := by
  unfold evR
  split
  · exact only_le _ (mb_lt hr)
  · exact hr q hq
theorem evR_self {n : Nat} {ka : Nat → Nat} {r : Nat → Nat → Nat} {R p : Nat} (h : r p p = 0) : evR n ka r R p p = 0 := by
  unfold evR
  rw [if_neg (fun z => z.2.2.2.1 rfl), h]
theorem evRoom_lt {R L : Nat} (h : R < 64) : evRoom R L < 64 := Nat.lt_of_le_of_lt Nat.and_le_left h
section NKN
variable {S : nk_Sc} {d : Nat} {D : nk_D} {P : nk_P}
theorem sm_oneEvening {n R : Nat} {ka : Nat → Nat} {r : Nat → Nat → Nat} (hk : MK D n ka) (hm : MS D n r) (hR : D 54 36 = nI R) (hR64 : R < 64)
    (h : ∀ D', MS D' n (evR n ka r R) → D' 54 36 = nI (evRoom R (lvU n ka r R n)) → D' 54 37 = D 54 37 + nI 1 → (∀ a b, a ≠ 54 → a ≠ 58 → D' a b = D a b) → P (some (.int (nI (lvU n ka r R n)))) D') : nk_run S (d + 5) 105 [.ref 52] D P := by
  have hn6 := hk.1
  have hn := hk.2.1
  have hka := hk.2.2
  obtain ⟨hr, hrr⟩ := id hm
  refine nk_go (M := (6, yX6_oneEvening, cX6_oneEvening, 7, (some .int), false, 0, nk_T105)) rfl rfl (Nat.le_of_ble_eq_true rfl) (fun K hK => ?_)
  show K 0 [some (.ref 52), none, none, none, none, none, none] [] D
  refine hK _ _ _ _ (hK _ _ _ _ (nk_GR rfl rfl rfl (hK _ _ _ _ (show K _ _ _ _ from ?_))))
  refine hK _ _ _ _ (nk_AL rfl rfl (j := 36) rfl (by decide) (show K _ _ _ _ from ?_))
  rw [hR]
  refine hK _ _ _ _ (hK _ _ _ _ (hK _ _ _ _ (show K _ _ _ _ from ?_)))
  refine hK _ _ _ _ (nk_stV rfl rfl rfl rfl ?_)
  refine sm_twoIn hk hm hR64 ?_
  have ht64 := tw_lt (n := n) (ka := ka) (r := r) (c := R) hn6
  refine hK _ _ _ _ (hK _ _ _ _ (hK _ _ _ _ (show K _ _ _ _ from ?_)))
  -- the fourth stretch: what is then is taken over
  have fin : ∀ D1, (∀ p q, p < n → q < n → D1 58 (6 * p + q) = nI (evR n ka r R p q)) → (∀ a b, a ≠ 58 → D1 a b = D a b) → ∀ x5 x6 x4, K 194 [some (.ref 52), some (.int (nI R)), some (.int (nI (tw n ka r R))), some (.int (nI (lvU n ka r R n))), x4, x5, x6] [] D1 := by
    intro D1 g1 g2 x5 x6 x4
    refine hK _ _ _ _ (hK _ _ _ _ (show K _ _ _ _ from ?_))
    have loop : ∀ m j D2, j + m = 36 → (∀ i, i < j → D2 54 i = D1 58 i) → (∀ i, 36 ≤ i → D2 54 i = D1 54 i) → (∀ a b, a ≠ 54 → D2 a b = D1 a b) → K 197 [some (.ref 52), some (.int (nI R)), some (.int (nI (tw n ka r R))), some (.int (nI (lvU n ka r R n))), some (.int (nI j)), x5, x6] [] D2 := by
      intro m
      induction m with
      | zero =>
        intro j D2 hj h1 h2 h3
        have hj : j = 36 := by omega
        subst hj
        have hl := lvU_lt (n := n) (ka := ka) (r := r) (R := R) n hn6
        refine hK _ _ _ _ (hK _ _ _ _ (show K _ _ _ _ from ?_))
        refine hK _ _ _ _ (nk_bt (nI_le (Nat.le_refl _) (by omega)) ?_)
        refine hK _ _ _ _ (hK _ _ _ _ (nk_GR rfl rfl rfl (hK _ _ _ _ (hK _ _ _ _ (show K _ _ _ _ from ?_)))))
        refine hK _ _ _ _ (nk_AL rfl rfl (j := 36) rfl (by decide) (show K _ _ _ _ from ?_))
        rw [h2 36 (by omega), g2 54 36 (by omega), hR]
        refine hK _ _ _ _ (hK _ _ _ _ (hK _ _ _ _ (hK _ _ _ _ (show K _ _ _ _ from ?_))))
        rw [nk_andn hR64 hl]
        refine hK _ _ _ _ (nk_AS rfl rfl (j := 36) rfl (by decide) (show K _ _ _ _ from ?_))
        refine hK _ _ _ _ (hK _ _ _ _ (nk_GR rfl rfl rfl (hK _ _ _ _ (hK _ _ _ _ (show K _ _ _ _ from ?_)))))
        refine hK _ _ _ _ (nk_AL rfl rfl (j := 37) rfl (by decide) (show K _ _ _ _ from ?_))
        refine hK _ _ _ _ (hK _ _ _ _ (show K _ _ _ _ from ?_))
        refine hK _ _ _ _ (nk_AS rfl rfl (j := 37) rfl (by decide) (show K _ _ _ _ from ?_))
        refine hK _ _ _ _ (show K _ _ _ _ from ?_)
        refine hK _ _ _ _ (And.intro rfl (h _ ⟨fun p q hp hq => ⟨?_, ?_⟩, fun p hp => evR_self (hrr p hp)⟩ ?_ ?_ (fun a b ha hb => ?_)))
        · have e1 : ¬ 6 * p + q = 37 := by omega
          have e2 : ¬ 6 * p + q = 36 := by omega
          simp only [nk_up, e1, e2, and_false, if_false]
          rw [h1 _ (by omega)]
          exact g1 p q hp hq
        · exact evR_le (fun q hq => (hr p q hp hq).2) hq
        · simp [nk_up]
        · simp [nk_up, h2 37 (by omega), g2 54 37 (by omega)]
        · simp [nk_up, ha, h3 a b ha, g2 a b hb]
      | succ m ih =>
        intro j D2 hj h1 h2 h3
        refine hK _ _ _ _ (hK _ _ _ _ (show K _ _ _ _ from ?_))
        refine hK _ _ _ _ (nk_bf (nI_ge (by omega) (by omega)) ?_)
        refine hK _ _ _ _ (hK _ _ _ _ (nk_GR rfl rfl rfl (hK _ _ _ _ (hK _ _ _ _ (hK _ _ _ _ (nk_GR rfl rfl rfl (hK _ _ _ _ (show K _ _ _ _ from ?_))))))))
        refine hK _ _ _ _ (nk_AL rfl rfl (j := j) rfl (by omega) (show K _ _ _ _ from ?_))
        refine hK _ _ _ _ (nk_AS rfl rfl (j := j) rfl (by omega) (show K _ _ _ _ from ?_))
        refine hK _ _ _ _ (hK _ _ _ _ (show K _ _ _ _ from ?_))
        rw [nk_add]
        refine ih (j + 1) _ (by omega) (fun i hi => ?_) (fun i hi => ?_) (fun a b ha => ?_)
        · by_cases e : i = j
          · simp [nk_up, e, h3 58 j (by omega)]
          · simp [nk_up, e, h1 i (by omega)]
        · have e : ¬ i = j := by omega
          simp [nk_up, e, h2 i hi]
        · simp [nk_up, ha, h3 a b ha]
    exact loop 36 0 D1 (by omega) (fun i hi => by omega) (fun i _ => rfl) (fun a b _ => rfl)
  -- the second stretch: one by one
  have mid : ∀ m j D1, j + m = n → (∀ p q, p < n → q < n → D1 58 (6 * p + q) = nI (if p < j then evR n ka r R p q else r p q)) → (∀ a b, a ≠ 58 → D1 a b = D a b) → ∀ x5 x6, K 45 [some (.ref 52), some (.int (nI R)), some (.int (nI (tw n ka r R))), some (.int (nI (lvU n ka r R j))), some (.int (nI j)), x5, x6] [] D1 := by
    intro m
    induction m with
    | zero =>
      intro j D1 hj g1 g2 x5 x6
      have hj : j = n := by omega
      subst hj
      refine hK _ _ _ _ (hK _ _ _ _ (hK _ _ _ _ (nk_GR rfl rfl rfl (hK _ _ _ _ (show K _ _ _ _ from ?_)))))
      refine hK _ _ _ _ (nk_AL rfl rfl (j := 0) rfl (by decide) (show K _ _ _ _ from ?_))
      rw [g2 53 0 (by omega), hn]
      refine hK _ _ _ _ (nk_bt (nI_le (Nat.le_refl _) (by omega)) ?_)
      refine fin D1 (fun p q hp hq => ?_) g2 x5 x6 _
      rw [g1 p q hp hq, if_pos hp]
    | succ m ih =>
      intro j D1 hj g1 g2 x5 x6
      have hj' : j < n := by omega
      have hk1 := MK_of (D1 := D1) (fun b => g2 53 b (by omega)) hk
      have hm1 := MS_of (D1 := D1) (fun b => g2 54 b (by omega)) hm
      have hlt := mb_lt (n := n) (r := r) (c := R) (p := j) (fun q hq => (hr j q hj' hq).2)
      have hev := mb_even (n := n) (r := r) (c := R) (p := j)
      refine hK _ _ _ _ (hK _ _ _ _ (hK _ _ _ _ (nk_GR rfl rfl rfl (hK _ _ _ _ (show K _ _ _ _ from ?_)))))
      refine hK _ _ _ _ (nk_AL rfl rfl (j := 0) rfl (by decide) (show K _ _ _ _ from ?_))
      rw [g2 53 0 (by omega), hn]
      refine hK _ _ _ _ (nk_bf (nI_ge hj' (by omega)) ?_)
      refine hK _ _ _ _ (hK _ _ _ _ (hK _ _ _ _ (show K _ _ _ _ from ?_)))
      refine hK _ _ _ _ (nk_stV rfl rfl rfl rfl ?_)
      refine sm_mustBe hk1 hm1 hR64 hj' ?_
      -- the inner stretch
      have inner : K 98 [some (.ref 52), some (.int (nI R)), some (.int (nI (tw n ka r R))), some (.int (nI (lvU n ka r R (j + 1)))), some (.int (nI j)), some (.int (nI (mb n r R j))), x6] [] D1 := by
        refine hK _ _ _ _ (hK _ _ _ _ (show K _ _ _ _ from ?_))
        have out : ∀ D2, (∀ q, q < n → D2 58 (6 * j + q) = nI (evR n ka r R j q)) → (∀ a b, (a ≠ 58 ∨ ∀ q, q < n → b ≠ 6 * j + q) → D2 a b = D1 a b) → ∀ x, K 188 [some (.ref 52), some (.int (nI R)), some (.int (nI (tw n ka r R))), some (.int (nI (lvU n ka r R (j + 1)))), some (.int (nI j)), some (.int (nI (mb n r R j))), x] [] D2 := by
          intro D2 k1 k2 x
          refine hK _ _ _ _ (hK _ _ _ _ (show K _ _ _ _ from ?_))
          rw [nk_add]
          refine ih (j + 1) D2 (by omega) (fun p q hp hq => ?_) (fun a b ha => by rw [k2 a b (Or.inl ha)]; exact g2 a b ha) _ _
          by_cases e : p = j
          · subst e
            rw [k1 q hq, if_pos (by omega)]
          · rw [k2 _ _ (Or.inr (fun z hz => by omega)), g1 p q hp hq]
            by_cases e2 : p < j
            · rw [if_pos e2, if_pos (by omega)]
            · rw [if_neg e2, if_neg (by omega)]
        by_cases hdo : pcn (mb n r R j) = 1 ∧ two n ka r R j = false
        · have hw : only (mb n r R j) ≠ 0 := (only_iff hlt hev).mp hdo.1
          have lp : ∀ m2 i D2, i + m2 = n → (∀ q, q < n → D2 58 (6 * j + q) = nI (if q < i then evR n ka r R j q else r j q)) → (∀ a b, (a ≠ 58 ∨ ∀ q, q < n → b ≠ 6 * j + q) → D2 a b = D1 a b) → K 101 [some (.ref 52), some (.int (nI R)), some (.int (nI (tw n ka r R))), some (.int (nI (lvU n ka r R (j + 1)))), some (.int (nI j)), some (.int (nI (mb n r R j))), some (.int (nI i))] [] D2 := by
            intro m2
            induction m2 with
            | zero =>
              intro i D2 hi k1 k2
              have hi : i = n := by omega
              subst hi
              refine hK _ _ _ _ (hK _ _ _ _ (hK _ _ _ _ (nk_GR rfl rfl rfl (hK _ _ _ _ (show K _ _ _ _ from ?_)))))
              refine hK _ _ _ _ (nk_AL rfl rfl (j := 0) rfl (by decide) (show K _ _ _ _ from ?_))
              rw [k2 53 0 (Or.inl (by omega)), g2 53 0 (by omega), hn]
              refine hK _ _ _ _ (nk_bt (nI_le (Nat.le_refl _) (by omega)) ?_)
              exact out D2 (fun q hq => by rw [k1 q hq, if_pos hq]) k2 _
            | succ m2 ih2 =>
              intro i D2 hi k1 k2
              have hi' : i < n := by omega
              have hrji := (hr j i hj' hi').2
              refine hK _ _ _ _ (hK _ _ _ _ (hK _ _ _ _ (nk_GR rfl rfl rfl (hK _ _ _ _ (show K _ _ _ _ from ?_)))))
              refine hK _ _ _ _ (nk_AL rfl rfl (j := 0) rfl (by decide) (show K _ _ _ _ from ?_))
              rw [k2 53 0 (Or.inl (by omega)), g2 53 0 (by omega), hn]
              refine hK _ _ _ _ (nk_bf (nI_ge hi' (by omega)) ?_)
              refine hK _ _ _ _ (show K _ _ _ _ from ?_)
              refine hK _ _ _ _ (nk_stS rfl rfl rfl rfl ?_)
              refine sm_ones hlt ?_
              rw [hdo.1]
              refine hK _ _ _ _ (show K _ _ _ _ from ?_)
              refine hK _ _ _ _ (nk_nf rfl ?_)
              refine hK _ _ _ _ (hK _ _ _ _ (show K _ _ _ _ from ?_))
              refine hK _ _ _ _ (nk_stS rfl rfl rfl rfl ?_)
              refine sm_has (by omega) (by omega) ?_
              rw [tw_bit hj', hdo.2]
              refine hK _ _ _ _ (nk_nf rfl ?_)
              refine hK _ _ _ _ (hK _ _ _ _ (show K _ _ _ _ from ?_))
              have keep : evR n ka r R j i = r j i → K 182 [some (.ref 52), some (.int (nI R)), some (.int (nI (tw n ka r R))), some (.int (nI (lvU n ka r R (j + 1)))), some (.int (nI j)), some (.int (nI (mb n r R j))), some (.int (nI i))] [] D2 := by
                intro e
                refine hK _ _ _ _ (hK _ _ _ _ (show K _ _ _ _ from ?_))
                rw [nk_add]
                refine ih2 (i + 1) D2 (by omega) (fun q hq => ?_) k2
                rw [k1 q hq]
                by_cases e1 : q = i
                · subst e1
                  rw [if_neg (by omega), if_pos (by omega), e]
                · by_cases e2 : q < i
                  · rw [if_pos e2, if_pos (by omega)]
                  · rw [if_neg e2, if_neg (by omega)]
              refine hK _ _ _ _ (nk_stS rfl rfl rfl rfl ?_)
              refine sm_has (by omega) (by omega) ?_
              refine hK _ _ _ _ (nk_beq (fun b1 => ?_) (fun b1 => ?_))
              · refine keep ?_
                unfold evR
                rw [if_neg (fun z => by rw [b1] at z; exact absurd z.2.2.1 (by decide))]
              · refine hK _ _ _ _ (hK _ _ _ _ (show K _ _ _ _ from ?_))
                refine hK _ _ _ _ (nk_eq (by omega) (by omega) (fun b2 => ?_) (fun b2 => ?_))
                · refine keep ?_
                  unfold evR
                  rw [if_neg (fun z => z.2.2.2.1 b2)]
                · refine hK _ _ _ _ (hK _ _ _ _ (nk_GR rfl rfl rfl (hK _ _ _ _ (hK _ _ _ _ (hK _ _ _ _ (hK _ _ _ _ (hK _ _ _ _ (show K _ _ _ _ from ?_))))))))
                  rw [nk_ix]
                  refine hK _ _ _ _ (nk_AL rfl rfl rfl (show 6 * j + i < 36 by omega) (show K _ _ _ _ from ?_))
                  rw [k1 i hi', if_neg (Nat.lt_irrefl i)]
                  refine hK _ _ _ _ (nk_ne (by omega) (by omega) (fun b3 => ?_) (fun b3 => ?_))
                  · refine keep ?_
                    unfold evR
                    rw [if_neg (fun z => b3 z.2.2.2.2)]
                  · have hb1 : 1 ≤ mb n r R j := by
                      rcases Nat.eq_zero_or_pos (mb n r R j) with z | z
                      · rw [z] at hdo
                        exact absurd hdo.1 (by decide)
                      · exact z
                    refine hK _ _ _ _ (hK _ _ _ _ (nk_GR rfl rfl rfl (hK _ _ _ _ (hK _ _ _ _ (hK _ _ _ _ (hK _ _ _ _ (hK _ _ _ _ (hK _ _ _ _ (hK _ _ _ _ (hK _ _ _ _ (show K _ _ _ _ from ?_)))))))))))
                    rw [nk_sub hb1, nk_ix]
                    refine hK _ _ _ _ (nk_stS rfl rfl rfl rfl ?_)
                    refine sm_ones (by omega) ?_
                    rw [← only_eq hdo.1]
                    refine hK _ _ _ _ (nk_AS rfl rfl rfl (show 6 * j + i < 36 by omega) (show K _ _ _ _ from ?_))
                    refine hK _ _ _ _ (hK _ _ _ _ (show K _ _ _ _ from ?_))
                    rw [nk_add]
                    refine ih2 (i + 1) _ (by omega) (fun q hq => ?_) (fun a b hab => ?_)
                    · by_cases e1 : q = i
                      · subst e1
                        rw [if_pos (by omega)]
                        unfold evR
                        rw [if_pos ⟨hdo.2, hw, b1, b2, b3⟩]
                        simp [nk_up]
                      · have e3 : ¬ 6 * j + q = 6 * j + i := by omega
                        simp only [nk_up, e3, and_false, if_false]
                        rw [k1 q hq]
                        by_cases e2 : q < i
                        · rw [if_pos e2, if_pos (by omega)]
                        · rw [if_neg e2, if_neg (by omega)]
                    · have e3 : ¬ (a = 58 ∧ b = 6 * j + i) := by
                        rintro ⟨z1, z2⟩
                        rcases hab with z | z
                        · exact z z1
                        · exact z i hi' z2
                      simp only [nk_up, e3, if_false]
                      exact k2 a b hab
          refine lp n 0 D1 (by omega) (fun q hq => ?_) (fun a b _ => rfl)
          rw [g1 j q hj' hq, if_neg (Nat.lt_irrefl j), if_neg (Nat.not_lt_zero q)]
        · have same : ∀ q, q < n → D1 58 (6 * j + q) = nI (evR n ka r R j q) := by
            intro q hq
            rw [g1 j q hj' hq, if_neg (Nat.lt_irrefl j)]
            unfold evR
            rw [if_neg (fun z => hdo ⟨(only_iff hlt hev).mpr z.2.1, z.1⟩)]
          refine hK _ _ _ _ (hK _ _ _ _ (hK _ _ _ _ (nk_GR rfl rfl rfl (hK _ _ _ _ (show K _ _ _ _ from ?_)))))
          refine hK _ _ _ _ (nk_AL rfl rfl (j := 0) rfl (by decide) (show K _ _ _ _ from ?_))
          rw [g2 53 0 (by omega), hn]
          refine hK _ _ _ _ (nk_bf (nI_ge (show 0 < n by omega) (by omega)) ?_)
          refine hK _ _ _ _ (show K _ _ _ _ from ?_)
          refine hK _ _ _ _ (nk_stS rfl rfl rfl rfl ?_)
          refine sm_ones hlt ?_
          have hpc := pcn_le (mb n r R j)
          refine hK _ _ _ _ (show K _ _ _ _ from ?_)
          refine hK _ _ _ _ (nk_ne (by omega) (by omega) (fun b1 => ?_) (fun b1 => ?_))
          · exact out D1 same (fun a b _ => rfl) _
          · refine hK _ _ _ _ (hK _ _ _ _ (show K _ _ _ _ from ?_))
            refine hK _ _ _ _ (nk_stS rfl rfl rfl rfl ?_)
            refine sm_has (by omega) (by omega) ?_
            rw [tw_bit hj']
            refine hK _ _ _ _ (nk_bne (fun b2 => ?_) (fun b2 => ?_))
            · exact out D1 same (fun a b _ => rfl) _
            · exact absurd ⟨b1, b2⟩ hdo
      refine hK _ _ _ _ (hK _ _ _ _ (hK _ _ _ _ (hK _ _ _ _ (show K _ _ _ _ from ?_))))
      refine hK _ _ _ _ (nk_stS rfl rfl rfl rfl ?_)
      refine sm_has (by omega) (by omega) ?_
      rw [tw_bit hj']
      have hk3 := (hka j hj').2
      have no : ¬ (two n ka r R j = true ∧ ka j = 2) → K 95 [some (.ref 52), some (.int (nI R)), some (.int (nI (tw n ka r R))), some (.int (nI (lvU n ka r R j))), some (.int (nI j)), some (.int (nI (mb n r R j))), x6] [.int (nI (lvU n ka r R j))] D1 := by
        intro hno
        refine hK _ _ _ _ (hK _ _ _ _ (hK _ _ _ _ (show K _ _ _ _ from ?_)))
        rw [nk_or]
        rw [lvU, if_neg hno] at inner
        exact inner
      refine hK _ _ _ _ (nk_beq (fun b1 => ?_) (fun b1 => ?_))
      · exact no (fun z => by rw [b1] at z; exact absurd z.1 (by decide))
      · refine hK _ _ _ _ (hK _ _ _ _ (nk_GR rfl rfl rfl (hK _ _ _ _ (hK _ _ _ _ (hK _ _ _ _ (show K _ _ _ _ from ?_))))))
        rw [nk_add]
        refine hK _ _ _ _ (nk_AL rfl rfl rfl (show 1 + j < 44 by omega) (show K _ _ _ _ from ?_))
        rw [g2 53 _ (by omega), (hka j hj').1]
        refine hK _ _ _ _ (show K _ _ _ _ from ?_)
        refine hK _ _ _ _ (nk_ne (by omega) (by omega) (fun b2 => ?_) (fun b2 => ?_))
        · exact no (fun z => b2 z.2)
        · refine hK _ _ _ _ (hK _ _ _ _ (hK _ _ _ _ (hK _ _ _ _ (hK _ _ _ _ (hK _ _ _ _ (show K _ _ _ _ from ?_))))))
          rw [nk_one (by omega), nk_or]
          rw [lvU, if_pos ⟨b1, b2⟩] at inner
          exact inner
  -- the first stretch: a copy
  have first : ∀ m j D1, j + m = 36 → (∀ i, i < j → D1 58 i = D 54 i) → (∀ a b, a ≠ 58 → D1 a b = D a b) → K 16 [some (.ref 52), some (.int (nI R)), some (.int (nI (tw n ka r R))), some (.int (nI j)), none, none, none] [] D1 := by
    intro m
    induction m with
    | zero =>
      intro j D1 hj g1 g2
      have hj : j = 36 := by omega
      subst hj
      refine hK _ _ _ _ (hK _ _ _ _ (show K _ _ _ _ from ?_))
      refine hK _ _ _ _ (nk_bt (nI_le (Nat.le_refl _) (by omega)) ?_)
      refine hK _ _ _ _ (hK _ _ _ _ (hK _ _ _ _ (hK _ _ _ _ (show K _ _ _ _ from ?_))))
      refine mid n 0 D1 (by omega) (fun p q hp hq => ?_) g2 _ _
      rw [if_neg (Nat.not_lt_zero p), g1 _ (by omega)]
      exact (hr p q hp hq).1
    | succ m ih =>
      intro j D1 hj g1 g2
      refine hK _ _ _ _ (hK _ _ _ _ (show K _ _ _ _ from ?_))
      refine hK _ _ _ _ (nk_bf (nI_ge (by omega) (by omega)) ?_)
      refine hK _ _ _ _ (hK _ _ _ _ (nk_GR rfl rfl rfl (hK _ _ _ _ (hK _ _ _ _ (hK _ _ _ _ (nk_GR rfl rfl rfl (hK _ _ _ _ (show K _ _ _ _ from ?_))))))))
      refine hK _ _ _ _ (nk_AL rfl rfl (j := j) rfl (by omega) (show K _ _ _ _ from ?_))
      refine hK _ _ _ _ (nk_AS rfl rfl (j := j) rfl (by omega) (show K _ _ _ _ from ?_))
      refine hK _ _ _ _ (hK _ _ _ _ (show K _ _ _ _ from ?_))
      rw [nk_add]
      refine ih (j + 1) _ (by omega) (fun i hi => ?_) (fun a b ha => ?_)
      · by_cases e : i = j
        · simp [nk_up, e, g2 54 j (by omega)]
        · simp [nk_up, e, g1 i (by omega)]
      · simp [nk_up, ha, g2 a b ha]
  exact first 36 0 D (by omega) (fun i hi => by omega) (fun a b _ => rfl)
theorem sm_note {u : Nat} (hu : D 52 11 = nI u) (hu8 : u ≤ 8)
    (h : ∀ D' u', (u < 8 ∧ u' = u + 1 ∨ u = 8 ∧ u' = 8) → D' 52 11 = nI u' → (∀ i k, k < 38 → i < u' → D' 57 (38 * i + k) = if i + 1 = u' then D 54 k else D 57 (38 * (i + (u + 1 - u')) + k)) → (∀ b, b ≠ 11 → D' 52 b = D 52 b) → (∀ a b, a ≠ 52 → a ≠ 57 → D' a b = D a b) → P none D') : nk_run S (d + 1) 101 [.ref 52] D P := by
  refine nk_go (M := (6, yX6_note, cX6_note, 2, none, false, 0, nk_T101)) rfl rfl (Nat.le_of_ble_eq_true rfl) (fun K hK => ?_)
  show K 0 [some (.ref 52), none] [] D
  have write : ∀ (D1 : nk_D) (w : Nat) (x1 : Option Value), w < 8 → D1 52 11 = nI w → (∀ b, D1 54 b = D 54 b) → (∀ D', D' 52 11 = nI (w + 1) → (∀ k, k < 38 → D' 57 (38 * w + k) = D 54 k) → (∀ b, (b < 38 * w ∨ 38 * w + 38 ≤ b) → D' 57 b = D1 57 b) → (∀ b, b ≠ 11 → D' 52 b = D1 52 b) → (∀ a b, a ≠ 52 → a ≠ 57 → D' a b = D1 a b) → P none D') → K 49 [some (.ref 52), x1] [] D1 := by
    intro D1 w x1 hw hu1 h54 hfin
    refine hK _ _ _ _ (hK _ _ _ _ (show K _ _ _ _ from ?_))
    have loop : ∀ m j D2, j + m = 38 → (∀ i, i < j → D2 57 (38 * w + i) = D 54 i) → (∀ b, (b < 38 * w ∨ 38 * w + 38 ≤ b) → D2 57 b = D1 57 b) → (∀ a b, a ≠ 57 → D2 a b = D1 a b) → K 51 [some (.ref 52), some (.int (nI j))] [] D2 := by
      intro m
      induction m with
      | zero =>
        intro j D2 hj g1 g2 g3
        have hj : j = 38 := by omega
        subst hj
        refine hK _ _ _ _ (hK _ _ _ _ (show K _ _ _ _ from ?_))
        refine hK _ _ _ _ (nk_bt (nI_le (Nat.le_refl _) (by omega)) ?_)
        refine hK _ _ _ _ (hK _ _ _ _ (hK _ _ _ _ (nk_GI rfl rfl rfl (hK _ _ _ _ (hK _ _ _ _ (hK _ _ _ _ (nk_PI rfl rfl rfl (show K _ _ _ _ from ?_))))))))
        rw [g3 52 11 (by omega), hu1, nk_add]
        refine hK _ _ _ _ (And.intro rfl (hfin _ ?_ (fun k hk => ?_) (fun b hb => ?_) (fun b hb => ?_) (fun a b ha hb => ?_)))
        · simp [nk_up]
        · simp [nk_up, g1 k hk]
        · simp [nk_up, g2 b hb]
        · simp [nk_up, hb, g3 52 b (by omega)]
        · simp [nk_up, ha, g3 a b hb]
      | succ m ih =>
        intro j D2 hj g1 g2 g3
        refine hK _ _ _ _ (hK _ _ _ _ (show K _ _ _ _ from ?_))
        refine hK _ _ _ _ (nk_bf (nI_ge (by omega) (by omega)) ?_)
        refine hK _ _ _ _ (hK _ _ _ _ (nk_GR rfl rfl rfl (hK _ _ _ _ (hK _ _ _ _ (hK _ _ _ _ (nk_GI rfl rfl rfl (hK _ _ _ _ (hK _ _ _ _ (hK _ _ _ _ (hK _ _ _ _ (hK _ _ _ _ (nk_GR rfl rfl rfl (hK _ _ _ _ (show K _ _ _ _ from ?_))))))))))))))
        rw [g3 52 11 (by omega), hu1, nk_ix]
        refine hK _ _ _ _ (nk_AL rfl rfl (j := j) rfl (by omega) (show K _ _ _ _ from ?_))
        refine hK _ _ _ _ (nk_AS rfl rfl rfl (show 38 * w + j < 304 by omega) (show K _ _ _ _ from ?_))
        refine hK _ _ _ _ (hK _ _ _ _ (show K _ _ _ _ from ?_))
        rw [nk_add]
        refine ih (j + 1) _ (by omega) (fun i hi => ?_) (fun b hb => ?_) (fun a b ha => ?_)
        · by_cases e : i = j
          · simp [nk_up, e, g3 54 j (by omega), h54]
          · have e2 : ¬ 38 * w + i = 38 * w + j := by omega
            simp only [nk_up, e2, and_false, if_false]
            exact g1 i (by omega)
        · have e2 : ¬ b = 38 * w + j := by omega
          simp only [nk_up, e2, and_false, if_false]
          exact g2 b hb
        · simp [nk_up, ha, g3 a b ha]
    exact loop 38 0 D1 (by omega) (fun i hi => by omega) (fun b _ => rfl) (fun a b _ => rfl)
  refine hK _ _ _ _ (hK _ _ _ _ (nk_GI rfl rfl rfl (hK _ _ _ _ (show K _ _ _ _ from ?_))))
  rw [hu]
  refine hK _ _ _ _ (nk_ne (by omega) (by omega) (fun b1 => ?_) (fun b1 => ?_))
  · refine write D u none (by omega) hu (fun b => rfl) (fun D' k1 k2 k3 k4 k5 => h D' (u + 1) (Or.inl ⟨by omega, rfl⟩) k1 (fun i k hk hi => ?_) k4 k5)
    by_cases e : i = u
    · subst e
      rw [if_pos rfl]
      exact k2 k hk
    · rw [if_neg (by omega), k3 _ (Or.inl (by omega))]
      congr 1
      omega
  · subst b1
    refine hK _ _ _ _ (hK _ _ _ _ (show K _ _ _ _ from ?_))
    have shift : ∀ m j D1, j + m = 266 → (∀ b, b < j → D1 57 b = D 57 (b + 38)) → (∀ b, j ≤ b → D1 57 b = D 57 b) → (∀ a b, a ≠ 57 → D1 a b = D a b) → K 11 [some (.ref 52), some (.int (nI j))] [] D1 := by
      intro m
      induction m with
      | zero =>
        intro j D1 hj g1 g2 g3
        have hj : j = 266 := by omega
        subst hj
        refine hK _ _ _ _ (hK _ _ _ _ (show K _ _ _ _ from ?_))
        refine hK _ _ _ _ (nk_bt (nI_le (Nat.le_refl _) (by omega)) ?_)
        refine hK _ _ _ _ (hK _ _ _ _ (hK _ _ _ _ (nk_GI rfl rfl rfl (hK _ _ _ _ (hK _ _ _ _ (hK _ _ _ _ (nk_PI rfl rfl rfl (show K _ _ _ _ from ?_))))))))
        rw [g3 52 11 (by omega), hu, nk_sub (show 1 ≤ 8 by decide)]
        refine write _ 7 _ (by omega) (by simp [nk_up]) (fun b => by simp [nk_up, g3 54 b (by omega)]) (fun D' k1 k2 k3 k4 k5 => h D' 8 (Or.inr ⟨rfl, rfl⟩) k1 (fun i k hk hi => ?_) (fun b hb => ?_) (fun a b ha hb => ?_))
        · by_cases e : i = 7
          · subst e
            rw [if_pos rfl]
            exact k2 k hk
          · rw [if_neg (by omega), k3 _ (Or.inl (by omega))]
            simp only [nk_up, show ¬ (57 = 52) by decide, false_and, if_false]
            rw [g1 _ (by omega)]
            congr 1
            omega
        · rw [k4 b hb]
          simp [nk_up, hb, g3 52 b (by omega)]
        · rw [k5 a b ha hb]
          simp [nk_up, ha, g3 a b hb]
      | succ m ih =>
        intro j D1 hj g1 g2 g3
        refine hK _ _ _ _ (hK _ _ _ _ (show K _ _ _ _ from ?_))
        refine hK _ _ _ _ (nk_bf (nI_ge (by omega) (by omega)) ?_)
        refine hK _ _ _ _ (hK _ _ _ _ (nk_GR rfl rfl rfl (hK _ _ _ _ (hK _ _ _ _ (hK _ _ _ _ (nk_GR rfl rfl rfl (hK _ _ _ _ (hK _ _ _ _ (hK _ _ _ _ (show K _ _ _ _ from ?_))))))))))
        rw [nk_add]
        refine hK _ _ _ _ (nk_AL rfl rfl rfl (show j + 38 < 304 by omega) (show K _ _ _ _ from ?_))
        refine hK _ _ _ _ (nk_AS rfl rfl (j := j) rfl (by omega) (show K _ _ _ _ from ?_))
        refine hK _ _ _ _ (hK _ _ _ _ (show K _ _ _ _ from ?_))
        rw [nk_add]
        refine ih (j + 1) _ (by omega) (fun b hb => ?_) (fun b hb => ?_) (fun a b ha => ?_)
        · by_cases e : b = j
          · simp [nk_up, e, g2 (j + 38) (by omega)]
          · simp [nk_up, e, g1 b (by omega)]
        · have e : ¬ b = j := by omega
          simp [nk_up, e, g2 b (by omega)]
        · simp [nk_up, ha, g3 a b ha]
    exact shift 266 0 D (by omega) (fun b hb => by omega) (fun b _ => rfl) (fun a b _ => rfl)
end NKN
