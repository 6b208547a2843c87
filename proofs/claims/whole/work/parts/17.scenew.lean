/-! ===== the scene's writes ===== -/
def only (b : Nat) : Nat := if pcn b = 1 then pcn (b - 1) else 0
theorem only_le (b : Nat) (h : b < 256) : only b ≤ 7 := by
  have key : ∀ b : Fin 256, only b.val ≤ 7 := by decide +kernel
  exact key ⟨b, h⟩
theorem only_pow : ∀ j : Fin 7, only (2 ^ (j.val + 1)) = j.val + 1 := by decide +kernel
theorem only_none : ∀ b : Fin 256, b.val % 2 = 0 → (∀ j : Fin 7, b.val ≠ 2 ^ (j.val + 1)) → only b.val = 0 := by decide +kernel
theorem mbU_even {r : Nat → Nat → Nat} {c p : Nat} : ∀ j, mbU r c p j % 2 = 0
  | 0 => rfl
  | j + 1 => by
    have ih := mbU_even (r := r) (c := c) (p := p) j
    by_cases h : c.testBit j = true ∧ r p j ≠ 0
    · rw [mbU, if_pos h]
      have e : 2 ^ r p j % 2 = 0 := by
        obtain ⟨q, hq⟩ := Nat.exists_eq_succ_of_ne_zero h.2
        rw [hq, Nat.pow_succ]
        omega
      have h3 : ∀ a b : Nat, a % 2 = 0 → b % 2 = 0 → (a ||| b) % 2 = 0 := by
        intro a b ha hb
        rw [Nat.mod_two_eq_zero_iff_testBit_zero] at ha hb ⊢
        rw [Nat.testBit_or, ha, hb]
        rfl
      exact h3 _ _ ih e
    · rw [mbU, if_neg h, Nat.or_zero]
      exact ih
theorem mb_even {n : Nat} {r : Nat → Nat → Nat} {c p : Nat} : mb n r c p % 2 = 0 := by
  unfold mb
  split
  · exact mbU_even n
  · rfl
theorem mbU_congr {r r' : Nat → Nat → Nat} {c p : Nat} : ∀ j, (∀ q, q < j → r' p q = r p q) → mbU r' c p j = mbU r c p j
  | 0, _ => rfl
  | j + 1, h => by
    rw [mbU, mbU, mbU_congr j (fun q hq => h q (by omega)), h j (by omega)]
theorem mb_congr {n : Nat} {r r' : Nat → Nat → Nat} {c p : Nat} (h : ∀ q, q < n → r' p q = r p q) : mb n r' c p = mb n r c p := by
  unfold mb
  rw [mbU_congr n h]
theorem two_congr {n : Nat} {ka : Nat → Nat} {r r' : Nat → Nat → Nat} {c p : Nat} (h : ∀ q, q < n → r' p q = r p q) : two n ka r' c p = two n ka r c p := by
  unfold two
  rw [mb_congr h]
/-- an evening: what one is to another then, who leaves -/
def evR (n : Nat) (ka : Nat → Nat) (r : Nat → Nat → Nat) (R p q : Nat) : Nat := if two n ka r R p = false ∧ only (mb n r R p) ≠ 0 ∧ R.testBit q = true ∧ q ≠ p ∧ r p q = 0 then only (mb n r R p) else r p q
def lvU (n : Nat) (ka : Nat → Nat) (r : Nat → Nat → Nat) (R : Nat) : Nat → Nat
  | 0 => 0
  | j + 1 => lvU n ka r R j ||| (if two n ka r R j = true ∧ ka j = 2 then 2 ^ j else 0)
def evRoom (R L : Nat) : Nat := R &&& (63 ^^^ L)
theorem lvU_lt {n : Nat} {ka : Nat → Nat} {r : Nat → Nat → Nat} {R : Nat} : ∀ j, j ≤ 6 → lvU n ka r R j < 64
  | 0, _ => by simp [lvU]
  | j + 1, h => by
    rw [lvU]
    refine Nat.or_lt_two_pow (n := 6) (lvU_lt j (by omega)) ?_
    split
    · exact Nat.pow_lt_pow_right (by decide) (by omega)
    · decide
theorem nk_andn0 : ∀ a b : Fin 64, nI a.val &&& (nI b.val ^^^ (-1)) = nI (evRoom a.val b.val) := by decide +kernel
theorem nk_andn {a b : Nat} (ha : a < 64) (hb : b < 64) : nI a &&& (nI b ^^^ (-1)) = nI (evRoom a b) := nk_andn0 ⟨a, ha⟩ ⟨b, hb⟩
section NKV
variable {S : nk_Sc} {d : Nat} {D : nk_D} {P : nk_P}
theorem sx_onlyRole {b : Nat} (hb : b < 256) (he : b % 2 = 0) (h : P (some (.int (nI (only b)))) D) : nk_run S (d + 1) 22 [.int (nI b)] D P := by
  refine nk_go (M := (2, yX2_onlyRole, cX2_onlyRole, 2, (some .int), true, 1, nk_T22)) rfl rfl (Nat.le_of_ble_eq_true rfl) (fun K hK => ?_)
  show K 0 [some (.int (nI b)), none] [] D
  refine hK _ _ _ _ (hK _ _ _ _ (show K _ _ _ _ from ?_))
  have loop : ∀ m j, j + m = 7 → (∀ i : Nat, i < j → b ≠ 2 ^ (i + 1)) → K 2 [some (.int (nI b)), some (.int (nI (j + 1)))] [] D := by
    intro m
    induction m with
    | zero =>
      intro j hj hi
      have hj : j = 7 := by omega
      subst hj
      refine hK _ _ _ _ (hK _ _ _ _ (show K _ _ _ _ from ?_))
      refine hK _ _ _ _ (nk_bt (nI_lt (by omega) (by omega)) ?_)
      refine hK _ _ _ _ (show K _ _ _ _ from ?_)
      rw [only_none ⟨b, hb⟩ he (fun i => hi i.val i.isLt)] at h
      exact hK _ _ _ _ (And.intro rfl (h))
    | succ m ih =>
      intro j hj hi
      refine hK _ _ _ _ (hK _ _ _ _ (show K _ _ _ _ from ?_))
      refine hK _ _ _ _ (nk_bf (nI_nlt (by omega) (by omega)) ?_)
      have hp := nk_p256 (show j + 1 ≤ 7 by omega)
      refine hK _ _ _ _ (hK _ _ _ _ (hK _ _ _ _ (hK _ _ _ _ (show K _ _ _ _ from ?_))))
      rw [nk_one (by omega)]
      refine hK _ _ _ _ (nk_ne (by omega) (by omega) (fun h1 => ?_) (fun h1 => ?_))
      · refine hK _ _ _ _ (hK _ _ _ _ (show K _ _ _ _ from ?_))
        rw [nk_add]
        refine ih (j + 1) (by omega) (fun i hij => ?_)
        by_cases e : i = j
        · rw [e]; exact h1
        · exact hi i (by omega)
      · refine hK _ _ _ _ (show K _ _ _ _ from ?_)
        rw [h1, only_pow ⟨j, by omega⟩] at h
        exact hK _ _ _ _ (And.intro rfl (h))
  exact loop 7 0 (by omega) (fun i hi => by omega)
theorem sx_setRole {k n : Nat} {x y v : Int32} (hs : nk_isS k) (hn : D k 2 = nI n) (hn6 : n ≤ 6) (h0 : (vld n x && vld n y && !decide (x = y)) = false → P none D) (h1 : ∀ p q, p < n → q < n → p ≠ q → x = nI p → y = nI q → P none (nk_up D (k + 2) (p * 6 + q) v)) : nk_run S (d + 3) 14 [.ref k, .int x, .int y, .int v] D P := by
  have hs' := hs
  obtain ⟨hk, hk1, hk2⟩ := hs
  refine nk_go (M := (2, yX2_setRole, cX2_setRole, 4, none, false, 3, nk_T14)) rfl rfl (Nat.le_of_ble_eq_true rfl) (fun K hK => ?_)
  show K 0 [some (.ref k), some (.int x), some (.int y), some (.int v)] [] D
  refine hK _ _ _ _ (hK _ _ _ _ (hK _ _ _ _ (show K _ _ _ _ from ?_)))
  refine hK _ _ _ _ (nk_stV rfl rfl (nk_rvI hk) rfl ?_)
  refine sx_hasPair hs' hn hn6 ?_
  refine hK _ _ _ _ (nk_beq (fun hb => ?_) (fun hb => ?_))
  · exact hK _ _ _ _ (And.intro rfl (h0 hb))
  · simp only [Bool.and_eq_true, Bool.not_eq_true', decide_eq_false_iff_not] at hb
    obtain ⟨⟨b1, b2⟩, b3⟩ := hb
    obtain ⟨p, hp, rfl⟩ := vld_of (by omega) b1
    obtain ⟨q, hq, rfl⟩ := vld_of (by omega) b2
    refine hK _ _ _ _ (hK _ _ _ _ (nk_GR rfl hk rfl (hK _ _ _ _ (hK _ _ _ _ (hK _ _ _ _ (hK _ _ _ _ (hK _ _ _ _ (hK _ _ _ _ (show K _ _ _ _ from ?_)))))))))
    rw [nk_ix]
    refine hK _ _ _ _ (nk_AS rfl hk2 rfl (by omega) (show K _ _ _ _ from ?_))
    exact hK _ _ _ _ (And.intro rfl (h1 p q hp hq (fun e => b3 (by rw [e])) rfl rfl))
theorem sx_spread {k n c p : Nat} {ka : Nat → Nat} {r : Nat → Nat → Nat} (hs : nk_isS k) (hx : XS D k n ka r) (hrr : r p p = 0) (hc : c < 64) (hp : p < n)
    (h : ∀ D', (∀ q, q < n → D' (k + 2) (p * 6 + q) = nI (if only (mb n r c p) ≠ 0 ∧ c.testBit q = true ∧ q ≠ p ∧ r p q = 0 then only (mb n r c p) else r p q)) → (∀ a b, (a ≠ k + 2 ∨ ∀ q, q < n → b ≠ p * 6 + q) → D' a b = D a b) → P none D') : nk_run S (d + 4) 21 [.ref k, .int (nI c), .int (nI p)] D P := by
  have hs' := hs
  obtain ⟨hk, hk1, hk2⟩ := hs
  have hx' := hx
  obtain ⟨hn6, hn, hka, hr⟩ := hx
  refine nk_go (M := (2, yX2_spread, cX2_spread, 5, none, false, 2, nk_T21)) rfl rfl (Nat.le_of_ble_eq_true rfl) (fun K hK => ?_)
  show K 0 [some (.ref k), some (.int (nI c)), some (.int (nI p)), none, none] [] D
  refine hK _ _ _ _ (hK _ _ _ _ (hK _ _ _ _ (show K _ _ _ _ from ?_)))
  refine hK _ _ _ _ (nk_stV rfl rfl (nk_rvI hk) rfl ?_)
  refine sx_mustBe hs' hx' hc hp ?_
  have hlt := mb_lt (n := n) (r := r) (c := c) (p := p) (fun q hq => (hr p q hp hq).2)
  have ho7 := only_le _ hlt
  refine hK _ _ _ _ (nk_stS rfl rfl rfl rfl ?_)
  refine sx_onlyRole hlt mb_even ?_
  generalize hw : only (mb n r c p) = w at h ho7 ⊢
  refine hK _ _ _ _ (hK _ _ _ _ (show K _ _ _ _ from ?_))
  refine hK _ _ _ _ (nk_ne (by omega) (by omega) (fun hb => ?_) (fun hb => ?_))
  · refine hK _ _ _ _ (hK _ _ _ _ (show K _ _ _ _ from ?_))
    have loop : ∀ m j D1, j + m = n → (∀ q, q < j → D1 (k + 2) (p * 6 + q) = nI (if w ≠ 0 ∧ c.testBit q = true ∧ q ≠ p ∧ r p q = 0 then w else r p q)) → (∀ a b, (a ≠ k + 2 ∨ ∀ q, q < j → b ≠ p * 6 + q) → D1 a b = D a b) → K 18 [some (.ref k), some (.int (nI c)), some (.int (nI p)), some (.int (nI w)), some (.int (nI j))] [] D1 := by
      intro m
      induction m with
      | zero =>
        intro j D1 hj h1 h2
        have hj : j = n := by omega
        subst hj
        refine hK _ _ _ _ (hK _ _ _ _ (hK _ _ _ _ (nk_GI rfl hk rfl (show K _ _ _ _ from ?_))))
        rw [h2 k 2 (Or.inl (by omega)), hn]
        refine hK _ _ _ _ (nk_bt (nI_le (Nat.le_refl _) (by omega)) ?_)
        exact hK _ _ _ _ (And.intro rfl (h D1 h1 h2))
      | succ m ih =>
        intro j D1 hj h1 h2
        have hn1 : D1 k 2 = nI n := by rw [h2 k 2 (Or.inl (by omega)), hn]
        have hrj : D1 (k + 2) (p * 6 + j) = nI (r p j) := by rw [h2 _ _ (Or.inr (fun q hq => by omega))]; exact (hr p j hp (by omega)).1
        have hr7 := (hr p j hp (by omega)).2
        refine hK _ _ _ _ (hK _ _ _ _ (hK _ _ _ _ (nk_GI rfl hk rfl (show K _ _ _ _ from ?_))))
        rw [hn1]
        refine hK _ _ _ _ (nk_bf (nI_ge (by omega) (by omega)) ?_)
        have keep : ¬ (w ≠ 0 ∧ c.testBit j = true ∧ j ≠ p ∧ r p j = 0) → K 54 [some (.ref k), some (.int (nI c)), some (.int (nI p)), some (.int (nI w)), some (.int (nI j))] [] D1 := by
          intro hno
          refine hK _ _ _ _ (hK _ _ _ _ (show K _ _ _ _ from ?_))
          rw [nk_add]
          refine ih (j + 1) D1 (by omega) (fun q hq => ?_) (fun a b hab => h2 a b ?_)
          · by_cases e : q = j
            · subst e
              rw [hrj, if_neg hno]
            · exact h1 q (by omega)
          · rcases hab with q | q
            · exact Or.inl q
            · exact Or.inr (fun z hz => q z (by omega))
        refine hK _ _ _ _ (hK _ _ _ _ (show K _ _ _ _ from ?_))
        refine hK _ _ _ _ (nk_stS rfl rfl rfl rfl ?_)
        refine sx_isIn (by omega) (by omega) ?_
        refine hK _ _ _ _ (nk_beq (fun g1 => ?_) (fun g1 => ?_))
        · exact keep (fun z => by rw [g1] at z; exact absurd z.2.1 (by decide))
        · refine hK _ _ _ _ (hK _ _ _ _ (hK _ _ _ _ (show K _ _ _ _ from ?_)))
          refine hK _ _ _ _ (nk_stV rfl rfl (nk_rvI hk) rfl ?_)
          refine sx_roleTo hs' (by omega) (by omega) ?_
          rw [hrj]
          refine hK _ _ _ _ (nk_ne (by omega) (by omega) (fun g2 => ?_) (fun g2 => ?_))
          · exact keep (fun z => g2 z.2.2.2)
          · refine hK _ _ _ _ (hK _ _ _ _ (hK _ _ _ _ (hK _ _ _ _ (show K _ _ _ _ from ?_))))
            refine hK _ _ _ _ (nk_stV rfl rfl (nk_rvI hk) rfl ?_)
            refine sx_setRole hs' hn1 hn6 (fun z => ?_) (fun p' q' hp' hq' hne e1 e2 => ?_)
            · refine keep (fun y => ?_)
              rw [vld_nI (by omega) hp, vld_nI (by omega) (show j < n by omega)] at z
              simp only [Bool.true_and, Bool.not_eq_false', decide_eq_true_eq] at z
              exact y.2.2.1 ((nI_eq (by omega) (by omega)).mp z).symm
            · have e1 := (nI_eq (by omega) (by omega)).mp e1
              have e2 := (nI_eq (by omega) (by omega)).mp e2
              subst e1; subst e2
              show K 54 _ _ _
              refine hK _ _ _ _ (hK _ _ _ _ (show K _ _ _ _ from ?_))
              rw [nk_add]
              refine ih (j + 1) _ (by omega) (fun q hq => ?_) (fun a b hab => ?_)
              · by_cases e : q = j
                · subst e
                  rw [if_pos ⟨hb, g1, Ne.symm hne, g2⟩]
                  simp [nk_up]
                · have : ¬ (p * 6 + q = p * 6 + j) := by omega
                  simp only [nk_up, this, and_false, if_false]
                  exact h1 q (by omega)
              · have hab' : ¬ (a = k + 2 ∧ b = p * 6 + j) := by
                  rintro ⟨z1, z2⟩
                  rcases hab with q | q
                  · exact q z1
                  · exact q j (by omega) z2
                simp only [nk_up, hab', if_false]
                refine h2 a b ?_
                rcases hab with q | q
                · exact Or.inl q
                · exact Or.inr (fun z hz => q z (by omega))
    exact loop n 0 D (by omega) (fun q hq => by omega) (fun a b _ => rfl)
  · refine hK _ _ _ _ (And.intro rfl (h D (fun q hq => ?_) (fun a b _ => rfl)))
    rw [if_neg (fun z => z.1 hb)]
    exact (hr p q hp hq).1
theorem sx_passEvening {k n R : Nat} {ka : Nat → Nat} {r : Nat → Nat → Nat} (hs : nk_isS k) (hx : XS D k n ka r) (hrr : ∀ p, p < n → r p p = 0) (hR : D k 3 = nI R) (hR64 : R < 64)
    (h : ∀ D', XS D' k n ka (evR n ka r R) → D' k 3 = nI (evRoom R (lvU n ka r R n)) → D' k 4 = D k 4 + nI 1 → (∀ a b, a ≠ k → a ≠ k + 2 → D' a b = D a b) → P (some (.int (nI (lvU n ka r R n)))) D') : nk_run S (d + 5) 20 [.ref k] D P := by
  have hs' := hs
  obtain ⟨hk, hk1, hk2⟩ := hs
  have hx' := hx
  obtain ⟨hn6, hn, hka, hr⟩ := hx
  refine nk_go (M := (2, yX2_passEvening, cX2_passEvening, 4, (some .int), false, 0, nk_T20)) rfl rfl (Nat.le_of_ble_eq_true rfl) (fun K hK => ?_)
  show K 0 [some (.ref k), none, none, none] [] D
  refine hK _ _ _ _ (hK _ _ _ _ (nk_GI rfl hk rfl (hK _ _ _ _ (hK _ _ _ _ (hK _ _ _ _ (hK _ _ _ _ (hK _ _ _ _ (show K _ _ _ _ from ?_))))))))
  rw [hR]
  have loop : ∀ m j D1, j + m = n → (∀ p q, p < n → q < n → D1 (k + 2) (p * 6 + q) = nI (if p < j then evR n ka r R p q else r p q)) → (∀ a b, a ≠ k + 2 → D1 a b = D a b) → K 9 [some (.ref k), some (.int (nI R)), some (.int (nI (lvU n ka r R j))), some (.int (nI j))] [] D1 := by
    intro m
    induction m with
    | zero =>
      intro j D1 hj h1 h2
      have hj : j = n := by omega
      subst hj
      have hl := lvU_lt (n := j) (ka := ka) (r := r) (R := R) j hn6
      refine hK _ _ _ _ (hK _ _ _ _ (hK _ _ _ _ (nk_GI rfl hk rfl (show K _ _ _ _ from ?_))))
      rw [h2 k 2 (by omega), hn]
      refine hK _ _ _ _ (nk_bt (nI_le (Nat.le_refl _) (by omega)) ?_)
      refine hK _ _ _ _ (hK _ _ _ _ (hK _ _ _ _ (hK _ _ _ _ (hK _ _ _ _ (hK _ _ _ _ (hK _ _ _ _ (nk_PI rfl hk rfl (hK _ _ _ _ (hK _ _ _ _ (hK _ _ _ _ (nk_GI rfl hk rfl (hK _ _ _ _ (hK _ _ _ _ (hK _ _ _ _ (nk_PI rfl hk rfl (hK _ _ _ _ (show K _ _ _ _ from ?_)))))))))))))))))
      rw [nk_andn hR64 hl]
      refine hK _ _ _ _ (And.intro rfl (h _ ⟨hn6, ?_, fun p hp => ⟨?_, (hka p hp).2⟩, fun p q hp hq => ⟨?_, ?_⟩⟩ ?_ ?_ (fun a b ha hb => ?_)))
      · simp [nk_up, h2 k 2 (by omega), hn]
      · simp [nk_up, h2 (k + 1) p (by omega), (hka p hp).1]
      · have e := h1 p q hp hq
        rw [if_pos hp] at e
        simp [nk_up, e]
      · unfold evR
        split
        · exact only_le _ (mb_lt (fun q hq => (hr p q hp hq).2))
        · exact (hr p q hp hq).2
      · simp [nk_up]
      · simp [nk_up, h2 k 4 (by omega)]
      · simp [nk_up, ha, h2 a b hb]
    | succ m ih =>
      intro j D1 hj h1 h2
      have hj' : j < n := by omega
      have hx1 : XS D1 k n ka (fun p q => if p < j then evR n ka r R p q else r p q) := by
        refine ⟨hn6, by rw [h2 k 2 (by omega), hn], fun p hp => ⟨by rw [h2 (k + 1) p (by omega)]; exact (hka p hp).1, (hka p hp).2⟩, fun p q hp hq => ⟨h1 p q hp hq, ?_⟩⟩
        show (if p < j then evR n ka r R p q else r p q) ≤ 7
        split
        · unfold evR
          split
          · exact only_le _ (mb_lt (fun q hq => (hr p q hp hq).2))
          · exact (hr p q hp hq).2
        · exact (hr p q hp hq).2
      have hrow : ∀ q, q < n → (fun p q => if p < j then evR n ka r R p q else r p q) j q = r j q := fun q _ => if_neg (Nat.lt_irrefl j)
      refine hK _ _ _ _ (hK _ _ _ _ (hK _ _ _ _ (nk_GI rfl hk rfl (show K _ _ _ _ from ?_))))
      rw [h2 k 2 (by omega), hn]
      refine hK _ _ _ _ (nk_bf (nI_ge hj' (by omega)) ?_)
      refine hK _ _ _ _ (hK _ _ _ _ (hK _ _ _ _ (show K _ _ _ _ from ?_)))
      refine hK _ _ _ _ (nk_stV rfl rfl (nk_rvI hk) rfl ?_)
      refine sx_mustBeTwo hs' hx1 hR64 hj' ?_
      rw [two_congr hrow]
      have back : ∀ D2, (∀ p q, p < n → q < n → D2 (k + 2) (p * 6 + q) = nI (if p < j + 1 then evR n ka r R p q else r p q)) → (∀ a b, a ≠ k + 2 → D2 a b = D a b) → K 50 [some (.ref k), some (.int (nI R)), some (.int (nI (lvU n ka r R (j + 1)))), some (.int (nI j))] [] D2 := by
        intro D2 g1 g2
        refine hK _ _ _ _ (hK _ _ _ _ (show K _ _ _ _ from ?_))
        rw [nk_add]
        exact ih (j + 1) D2 (by omega) g1 g2
      refine hK _ _ _ _ (nk_bne (fun b1 => ?_) (fun b1 => ?_))
      · have same : ∀ p q, p < n → q < n → D1 (k + 2) (p * 6 + q) = nI (if p < j + 1 then evR n ka r R p q else r p q) := by
          intro p q hp hq
          rw [h1 p q hp hq]
          by_cases e : p = j
          · subst e
            rw [if_neg (Nat.lt_irrefl p), if_pos (Nat.lt_succ_self p)]
            unfold evR
            rw [if_neg (fun z => by rw [b1] at z; exact absurd z.1 (by decide))]
          · by_cases e2 : p < j
            · rw [if_pos e2, if_pos (by omega)]
            · rw [if_neg e2, if_neg (by omega)]
        refine hK _ _ _ _ (hK _ _ _ _ (show K _ _ _ _ from ?_))
        refine hK _ _ _ _ (nk_stV rfl rfl (nk_rvI hk) rfl ?_)
        refine sx_kindOf hs' (by omega) ?_
        rw [h2 (k + 1) j (by omega), (hka j hj').1]
        have hk3 := (hka j hj').2
        refine hK _ _ _ _ (show K _ _ _ _ from ?_)
        refine hK _ _ _ _ (nk_ne (by omega) (by omega) (fun g => ?_) (fun g => ?_))
        · have b := back D1 same h2
          rw [lvU, if_neg (fun z => g z.2), Nat.or_zero] at b
          exact b
        · have b := back D1 same h2
          rw [lvU, if_pos ⟨b1, g⟩] at b
          refine hK _ _ _ _ (hK _ _ _ _ (hK _ _ _ _ (hK _ _ _ _ (hK _ _ _ _ (hK _ _ _ _ (show K _ _ _ _ from ?_))))))
          rw [nk_one (by omega), nk_or]
          exact b
      · refine hK _ _ _ _ (hK _ _ _ _ (hK _ _ _ _ (show K _ _ _ _ from ?_)))
        refine hK _ _ _ _ (nk_stV rfl rfl (nk_rvI hk) rfl ?_)
        refine sx_spread hs' hx1 (by show (if j < j then _ else r j j) = 0; rw [if_neg (Nat.lt_irrefl j)]; exact hrr j hj') hR64 hj' (fun D2 g1 g2 => ?_)
        rw [mb_congr hrow] at g1
        have b := back D2 (fun p q hp hq => ?_) (fun a b hab => by rw [g2 a b (Or.inl hab)]; exact h2 a b hab)
        · rw [lvU, if_neg (fun z => by rw [b1] at z; exact absurd z.1 (by decide)), Nat.or_zero] at b
          show K 32 _ _ _
          refine hK _ _ _ _ (show K _ _ _ _ from ?_)
          exact b
        · by_cases e : p = j
          · subst e
            rw [g1 q hq, if_pos (Nat.lt_succ_self p)]
            simp only [if_neg (Nat.lt_irrefl p)]
            unfold evR
            simp only [b1, true_and]
          · rw [g2 _ _ (Or.inr (fun z hz => by omega)), h1 p q hp hq]
            by_cases e2 : p < j
            · rw [if_pos e2, if_pos (by omega)]
            · rw [if_neg e2, if_neg (by omega)]
  exact loop n 0 D (by omega) (fun p q hp hq => by rw [if_neg (Nat.not_lt_zero p)]; exact (hr p q hp hq).1) (fun a b _ => rfl)
end NKV
