/-! ===== the reference's reads ===== -/
def MK (D : nk_D) (n : Nat) (ka : Nat → Nat) : Prop := n ≤ 6 ∧ D 53 0 = nI n ∧ ∀ p, p < n → D 53 (1 + p) = nI (ka p) ∧ ka p ≤ 3
def MS (D : nk_D) (n : Nat) (r : Nat → Nat → Nat) : Prop := (∀ p q, p < n → q < n → D 54 (6 * p + q) = nI (r p q) ∧ r p q ≤ 7) ∧ ∀ p, p < n → r p p = 0
theorem lg_lt (x y : Int64) : lg_cmp x y < nI 0 ↔ x.toInt < y.toInt := by
  unfold lg_cmp
  by_cases h1 : x > y
  · have : y.toInt < x.toInt := Int64.lt_iff_toInt_lt.mp h1
    simp only [h1, if_true]
    constructor
    · intro h; exact absurd h (by decide)
    · intro h; omega
  · simp only [h1, if_false]
    by_cases h2 : x = y
    · subst h2
      simp only [if_true]
      constructor
      · intro h; exact absurd h (by decide)
      · intro h; omega
    · simp only [h2, if_false]
      have h3 : ¬ y.toInt < x.toInt := fun z => h1 (Int64.lt_iff_toInt_lt.mpr z)
      have h4 : x.toInt ≠ y.toInt := fun z => h2 (Int64.toInt_inj.mp z)
      constructor
      · intro _; omega
      · intro _; decide
theorem lg_gt (x y : Int64) : nI 0 < lg_cmp x y ↔ y.toInt < x.toInt := by
  unfold lg_cmp
  by_cases h1 : x > y
  · have : y.toInt < x.toInt := Int64.lt_iff_toInt_lt.mp h1
    simp only [h1, if_true]
    exact ⟨fun _ => this, fun _ => by decide⟩
  · have h3 : ¬ y.toInt < x.toInt := fun z => h1 (Int64.lt_iff_toInt_lt.mpr z)
    simp only [h1, if_false]
    by_cases h2 : x = y
    · simp only [h2, if_true]
      exact ⟨fun h => absurd h (by decide), fun h => by omega⟩
    · simp only [h2, if_false]
      exact ⟨fun h => absurd h (by decide), fun h => absurd h h3⟩
section NKM
variable {S : nk_Sc} {d : Nat} {D : nk_D} {P : nk_P}
theorem sm_in {x lo hi : Int64} (h : P (some (.int (bI (decide (lo.toInt ≤ x.toInt ∧ x.toInt ≤ hi.toInt))))) D) : nk_run S (d + 1) 71 [.long x, .long lo, .long hi] D P := by
  refine nk_go (M := (6, yX6_in, cX6_in, 6, (some .boolean), true, 3, nk_T71)) rfl rfl (Nat.le_of_ble_eq_true rfl) (fun K hK => ?_)
  show K 0 [some (.long x), none, some (.long lo), none, some (.long hi), none] [] D
  refine hK _ _ _ _ (hK _ _ _ _ (hK _ _ _ _ (show K _ _ _ _ from ?_)))
  by_cases h1 : x.toInt < lo.toInt
  · refine hK _ _ _ _ (nk_bt ((lg_lt _ _).mpr h1) ?_)
    refine hK _ _ _ _ (show K _ _ _ _ from ?_)
    rw [decide_eq_false (by omega)] at h
    exact hK _ _ _ _ (And.intro rfl (h))
  · refine hK _ _ _ _ (nk_bf (fun z => h1 ((lg_lt _ _).mp z)) ?_)
    refine hK _ _ _ _ (hK _ _ _ _ (hK _ _ _ _ (show K _ _ _ _ from ?_)))
    by_cases h2 : hi.toInt < x.toInt
    · refine hK _ _ _ _ (nk_bt ((lg_gt _ _).mpr h2) ?_)
      refine hK _ _ _ _ (show K _ _ _ _ from ?_)
      rw [decide_eq_false (by omega)] at h
      exact hK _ _ _ _ (And.intro rfl (h))
    · refine hK _ _ _ _ (nk_bf (fun z => h2 ((lg_gt _ _).mp z)) ?_)
      refine hK _ _ _ _ (hK _ _ _ _ (show K _ _ _ _ from ?_))
      rw [decide_eq_true (by omega)] at h
      exact hK _ _ _ _ (And.intro rfl (h))
theorem sm_in2 {x : Int32} {lo hi : Int64} {a b : Int} (e1 : lo.toInt = a) (e2 : hi.toInt = b) (h : P (some (.int (bI (decide (a ≤ x.toInt ∧ x.toInt ≤ b))))) D) : nk_run S (d + 1) 71 [.long x.toInt64, .long lo, .long hi] D P := by
  refine sm_in ?_
  rw [Int32.toInt_toInt64, e1, e2]
  exact h
theorem vld_le {n : Nat} {x : Int32} {b : Int} (hb : b = (n : Int) - 1) : decide (0 ≤ x.toInt ∧ x.toInt ≤ b) = vld n x := by
  unfold vld
  subst hb
  exact decide_eq_decide.mpr ⟨fun h => ⟨h.1, by omega⟩, fun h => ⟨h.1, by omega⟩⟩
theorem sm_ones {c : Nat} (hc : c < 256) (h : P (some (.int (nI (pcn c)))) D) : nk_run S (d + 1) 73 [.int (nI c)] D P := by
  have key : ∀ s : Fin 256, s.val ≠ 0 → nI s.val &&& (nI s.val - nI 1) = nI (s.val &&& (s.val - 1)) ∧ (s.val &&& (s.val - 1)) < s.val ∧ pcn (s.val &&& (s.val - 1)) + 1 = pcn s.val := by decide +kernel
  refine nk_go (M := (6, yX6_ones, cX6_ones, 3, (some .int), true, 1, nk_T73)) rfl rfl (Nat.le_of_ble_eq_true rfl) (fun K hK => ?_)
  show K 0 [some (.int (nI c)), none, none] [] D
  refine hK _ _ _ _ (hK _ _ _ _ (hK _ _ _ _ (hK _ _ _ _ (show K _ _ _ _ from ?_))))
  have loop : ∀ m s j, s < m → s < 256 → j + pcn s = pcn c → K 4 [some (.int (nI c)), some (.int (nI j)), some (.int (nI s))] [] D := by
    intro m
    induction m with
    | zero => intro s j h1; omega
    | succ m ih =>
      intro s j h1 h2 h3
      refine hK _ _ _ _ (show K _ _ _ _ from ?_)
      refine hK _ _ _ _ (nk_eq (by omega) (by omega) (fun g => ?_) (fun g => ?_))
      · subst g
        refine hK _ _ _ _ (show K _ _ _ _ from ?_)
        have : pcn 0 = 0 := rfl
        rw [show j = pcn c by omega]
        exact hK _ _ _ _ (And.intro rfl (h))
      · obtain ⟨k1, k2, k3⟩ : nI s &&& (nI s - nI 1) = nI (s &&& (s - 1)) ∧ (s &&& (s - 1)) < s ∧ pcn (s &&& (s - 1)) + 1 = pcn s := key ⟨s, h2⟩ g
        refine hK _ _ _ _ (hK _ _ _ _ (hK _ _ _ _ (hK _ _ _ _ (hK _ _ _ _ (hK _ _ _ _ (hK _ _ _ _ (hK _ _ _ _ (show K _ _ _ _ from ?_))))))))
        rw [k1, nk_add]
        exact ih _ (j + 1) (by omega) (by omega) (by omega)
  exact loop (c + 1) c 0 (by omega) hc (by omega)
theorem sm_isPerson {n : Nat} {x : Int32} (hn : D 53 0 = nI n) (hn6 : n ≤ 6) (h : P (some (.int (bI (vld n x)))) D) : nk_run S (d + 2) 74 [.ref 52, .int x] D P := by
  refine nk_go (M := (6, yX6_isPerson, cX6_isPerson, 2, (some .boolean), false, 1, nk_T74)) rfl rfl (Nat.le_of_ble_eq_true rfl) (fun K hK => ?_)
  show K 0 [some (.ref 52), some (.int x)] [] D
  refine hK _ _ _ _ (hK _ _ _ _ (hK _ _ _ _ (hK _ _ _ _ (hK _ _ _ _ (nk_GR rfl rfl rfl (hK _ _ _ _ (show K _ _ _ _ from ?_)))))))
  refine hK _ _ _ _ (nk_AL rfl rfl (j := 0) rfl (by decide) (show K _ _ _ _ from ?_))
  rw [hn]
  refine hK _ _ _ _ (hK _ _ _ _ (hK _ _ _ _ (show K _ _ _ _ from ?_)))
  refine hK _ _ _ _ (nk_stS rfl rfl rfl rfl ?_)
  refine sm_in2 (a := 0) (b := (n : Int) - 1) rfl (by rw [Int32.toInt_toInt64]; exact pk_sub_toInt (by omega) (by decide)) ?_
  rw [vld_le rfl]
  exact hK _ _ _ _ (And.intro (nk_narB _) (h))
theorem sm_arePeople {n : Nat} {x : Int32} (hn : D 53 0 = nI n) (hn6 : n ≤ 6) (h : P (some (.int (bI (vld (2 ^ n) x)))) D) : nk_run S (d + 2) 75 [.ref 52, .int x] D P := by
  have h64 : 2 ^ n ≤ 2 ^ 6 := Nat.pow_le_pow_right (by decide) hn6
  refine nk_go (M := (6, yX6_arePeople, cX6_arePeople, 2, (some .boolean), false, 1, nk_T75)) rfl rfl (Nat.le_of_ble_eq_true rfl) (fun K hK => ?_)
  show K 0 [some (.ref 52), some (.int x)] [] D
  refine hK _ _ _ _ (hK _ _ _ _ (hK _ _ _ _ (hK _ _ _ _ (hK _ _ _ _ (hK _ _ _ _ (nk_GR rfl rfl rfl (hK _ _ _ _ (show K _ _ _ _ from ?_))))))))
  refine hK _ _ _ _ (nk_AL rfl rfl (j := 0) rfl (by decide) (show K _ _ _ _ from ?_))
  rw [hn]
  refine hK _ _ _ _ (hK _ _ _ _ (hK _ _ _ _ (hK _ _ _ _ (show K _ _ _ _ from ?_))))
  rw [nk_one (by omega)]
  refine hK _ _ _ _ (nk_stS rfl rfl rfl rfl ?_)
  refine sm_in2 (a := 0) (b := ((2 ^ n : Nat) : Int) - 1) rfl (by rw [Int32.toInt_toInt64]; exact pk_sub_toInt (by omega) (by decide)) ?_
  rw [vld_le rfl]
  exact hK _ _ _ _ (And.intro (nk_narB _) (h))
theorem sm_areTwo {n : Nat} {x y : Int32} (hn : D 53 0 = nI n) (hn6 : n ≤ 6) (h : P (some (.int (bI (vld n x && vld n y && !decide (x = y))))) D) : nk_run S (d + 3) 76 [.ref 52, .int x, .int y] D P := by
  refine nk_go (M := (6, yX6_areTwo, cX6_areTwo, 3, (some .boolean), false, 2, nk_T76)) rfl rfl (Nat.le_of_ble_eq_true rfl) (fun K hK => ?_)
  show K 0 [some (.ref 52), some (.int x), some (.int y)] [] D
  refine hK _ _ _ _ (hK _ _ _ _ (show K _ _ _ _ from ?_))
  refine hK _ _ _ _ (nk_stV rfl rfl rfl rfl ?_)
  refine sm_isPerson hn hn6 ?_
  refine hK _ _ _ _ (nk_beq (fun h1 => ?_) (fun h1 => ?_))
  · refine hK _ _ _ _ (show K _ _ _ _ from ?_)
    exact hK _ _ _ _ (And.intro rfl ((by rw [h1] at h; exact h)))
  · refine hK _ _ _ _ (hK _ _ _ _ (show K _ _ _ _ from ?_))
    refine hK _ _ _ _ (nk_stV rfl rfl rfl rfl ?_)
    refine sm_isPerson hn hn6 ?_
    refine hK _ _ _ _ (nk_beq (fun h2 => ?_) (fun h2 => ?_))
    · refine hK _ _ _ _ (show K _ _ _ _ from ?_)
      exact hK _ _ _ _ (And.intro rfl ((by rw [h1, h2] at h; exact h)))
    · refine hK _ _ _ _ (hK _ _ _ _ (show K _ _ _ _ from ?_))
      by_cases h3 : x = y
      · refine hK _ _ _ _ (nk_bt h3 ?_)
        refine hK _ _ _ _ (show K _ _ _ _ from ?_)
        exact hK _ _ _ _ (And.intro rfl ((by rw [h1, h2, decide_eq_true h3] at h; exact h)))
      · refine hK _ _ _ _ (nk_bf h3 ?_)
        refine hK _ _ _ _ (hK _ _ _ _ (show K _ _ _ _ from ?_))
        exact hK _ _ _ _ (And.intro rfl ((by rw [h1, h2, decide_eq_false h3] at h; exact h)))
theorem sm_roleTo {p q : Nat} (hp : p < 6) (hq : q < 6) (h : P (some (.int (D 54 (6 * p + q)))) D) : nk_run S (d + 1) 91 [.ref 52, .int (nI p), .int (nI q)] D P := by
  refine nk_go (M := (6, yX6_roleTo, cX6_roleTo, 3, (some .int), false, 2, nk_T91)) rfl rfl (Nat.le_of_ble_eq_true rfl) (fun K hK => ?_)
  show K 0 [some (.ref 52), some (.int (nI p)), some (.int (nI q))] [] D
  refine hK _ _ _ _ (hK _ _ _ _ (nk_GR rfl rfl rfl (hK _ _ _ _ (hK _ _ _ _ (hK _ _ _ _ (hK _ _ _ _ (hK _ _ _ _ (show K _ _ _ _ from ?_))))))))
  rw [nk_ix]
  refine hK _ _ _ _ (nk_AL rfl rfl rfl (show 6 * p + q < 38 by omega) (show K _ _ _ _ from ?_))
  exact hK _ _ _ _ (And.intro rfl (h))
theorem sm_mustBe {n c p : Nat} {ka : Nat → Nat} {r : Nat → Nat → Nat} (hk : MK D n ka) (hm : MS D n r) (hc : c < 64) (hp : p < n) (h : P (some (.int (nI (mb n r c p)))) D) : nk_run S (d + 2) 92 [.ref 52, .int (nI p), .int (nI c)] D P := by
  obtain ⟨hn6, hn, -⟩ := hk
  obtain ⟨hr, hrr⟩ := hm
  refine nk_go (M := (6, yX6_mustBe, cX6_mustBe, 5, (some .int), false, 2, nk_T92)) rfl rfl (Nat.le_of_ble_eq_true rfl) (fun K hK => ?_)
  show K 0 [some (.ref 52), some (.int (nI p)), some (.int (nI c)), none, none] [] D
  refine hK _ _ _ _ (hK _ _ _ _ (hK _ _ _ _ (hK _ _ _ _ (show K _ _ _ _ from ?_))))
  by_cases hb : c.testBit p = true
  · rw [mb, if_pos hb] at h
    have loop : ∀ m j, j + m = n → K 5 [some (.ref 52), some (.int (nI p)), some (.int (nI c)), some (.int (nI (mbU r c p j))), some (.int (nI j))] [] D := by
      intro m
      induction m with
      | zero =>
        intro j hj
        have hj : j = n := by omega
        subst hj
        refine hK _ _ _ _ (hK _ _ _ _ (hK _ _ _ _ (nk_GR rfl rfl rfl (hK _ _ _ _ (show K _ _ _ _ from ?_)))))
        refine hK _ _ _ _ (nk_AL rfl rfl (j := 0) rfl (by decide) (show K _ _ _ _ from ?_))
        rw [hn]
        refine hK _ _ _ _ (nk_bt (nI_le (Nat.le_refl _) (by omega)) ?_)
        refine hK _ _ _ _ (show K _ _ _ _ from ?_)
        exact hK _ _ _ _ (And.intro rfl (h))
      | succ m ih =>
        intro j hj
        have hr7 := (hr p j hp (by omega)).2
        refine hK _ _ _ _ (hK _ _ _ _ (hK _ _ _ _ (nk_GR rfl rfl rfl (hK _ _ _ _ (show K _ _ _ _ from ?_)))))
        refine hK _ _ _ _ (nk_AL rfl rfl (j := 0) rfl (by decide) (show K _ _ _ _ from ?_))
        rw [hn]
        refine hK _ _ _ _ (nk_bf (nI_ge (by omega) (by omega)) ?_)
        refine hK _ _ _ _ (hK _ _ _ _ (show K _ _ _ _ from ?_))
        refine hK _ _ _ _ (nk_stS rfl rfl rfl rfl ?_)
        refine sm_has (by omega) (by omega) ?_
        rw [hb]
        refine hK _ _ _ _ (nk_bf (by decide) ?_)
        refine hK _ _ _ _ (hK _ _ _ _ (hK _ _ _ _ (show K _ _ _ _ from ?_)))
        refine hK _ _ _ _ (nk_stS rfl rfl rfl rfl ?_)
        refine sm_has (by omega) (by omega) ?_
        have back : ∀ x : Nat, mbU r c p j ||| x = mbU r c p (j + 1) → K 63 [some (.ref 52), some (.int (nI p)), some (.int (nI c)), some (.int (nI (mbU r c p j))), some (.int (nI j))] [.int (nI x), .int (nI (mbU r c p j))] D := by
          intro x hx
          refine hK _ _ _ _ (hK _ _ _ _ (hK _ _ _ _ (hK _ _ _ _ (show K _ _ _ _ from ?_))))
          rw [nk_or, nk_add, hx]
          exact ih (j + 1) (by omega)
        have no : mbU r c p (j + 1) = mbU r c p j → K 62 [some (.ref 52), some (.int (nI p)), some (.int (nI c)), some (.int (nI (mbU r c p j))), some (.int (nI j))] [.int (nI (mbU r c p j))] D := by
          intro e
          refine hK _ _ _ _ (show K _ _ _ _ from ?_)
          exact back 0 (by rw [Nat.or_zero, e])
        refine hK _ _ _ _ (nk_beq (fun h1 => ?_) (fun h1 => ?_))
        · exact no (mbU_no (by rw [h1]; simp))
        · refine hK _ _ _ _ (hK _ _ _ _ (show K _ _ _ _ from ?_))
          refine hK _ _ _ _ (nk_eq (by omega) (by omega) (fun h2 => ?_) (fun h2 => ?_))
          · exact no (mbU_no (by rw [h2, hrr p hp]; simp))
          · refine hK _ _ _ _ (hK _ _ _ _ (hK _ _ _ _ (show K _ _ _ _ from ?_)))
            refine hK _ _ _ _ (nk_stV rfl rfl rfl rfl ?_)
            refine sm_roleTo (by omega) (by omega) ?_
            rw [(hr p j hp (by omega)).1]
            refine hK _ _ _ _ (nk_le (by omega) (by omega) (fun h3 => ?_) (fun h3 => ?_))
            · exact no (mbU_no (by rw [show r p j = 0 by omega]; simp))
            · refine hK _ _ _ _ (hK _ _ _ _ (hK _ _ _ _ (hK _ _ _ _ (show K _ _ _ _ from ?_))))
              refine hK _ _ _ _ (nk_stV rfl rfl rfl rfl ?_)
              refine sm_roleTo (by omega) (by omega) ?_
              rw [(hr p j hp (by omega)).1]
              refine hK _ _ _ _ (hK _ _ _ _ (show K _ _ _ _ from ?_))
              rw [nk_one (by omega)]
              exact back _ (mbU_yes ⟨h1, by omega⟩).symm
    exact loop n 0 (by omega)
  · rw [mb, if_neg hb] at h
    refine hK _ _ _ _ (hK _ _ _ _ (hK _ _ _ _ (nk_GR rfl rfl rfl (hK _ _ _ _ (show K _ _ _ _ from ?_)))))
    refine hK _ _ _ _ (nk_AL rfl rfl (j := 0) rfl (by decide) (show K _ _ _ _ from ?_))
    rw [hn]
    refine hK _ _ _ _ (nk_bf (nI_ge (by omega) (by omega)) ?_)
    refine hK _ _ _ _ (hK _ _ _ _ (show K _ _ _ _ from ?_))
    refine hK _ _ _ _ (nk_stS rfl rfl rfl rfl ?_)
    refine sm_has (by omega) (by omega) ?_
    rw [Bool.eq_false_iff.mpr hb]
    refine hK _ _ _ _ (nk_bt rfl ?_)
    refine hK _ _ _ _ (show K _ _ _ _ from ?_)
    exact hK _ _ _ _ (And.intro rfl (h))
theorem sm_bears {n p : Nat} {ka : Nat → Nat} (hk : MK D n ka) (hp : p < n) (h : P (some (.int (nI (ber (ka p))))) D) : nk_run S (d + 1) 93 [.ref 52, .int (nI p)] D P := by
  obtain ⟨hn6, hn, hka⟩ := hk
  have h3 := (hka p hp).2
  refine nk_go (M := (6, yX6_bears, cX6_bears, 3, (some .int), false, 1, nk_T93)) rfl rfl (Nat.le_of_ble_eq_true rfl) (fun K hK => ?_)
  show K 0 [some (.ref 52), some (.int (nI p)), none] [] D
  refine hK _ _ _ _ (hK _ _ _ _ (nk_GR rfl rfl rfl (hK _ _ _ _ (hK _ _ _ _ (hK _ _ _ _ (show K _ _ _ _ from ?_))))))
  rw [nk_add]
  refine hK _ _ _ _ (nk_AL rfl rfl rfl (show 1 + p < 44 by omega) (show K _ _ _ _ from ?_))
  rw [(hka p hp).1]
  generalize ka p = q at h h3 ⊢
  refine hK _ _ _ _ (hK _ _ _ _ (hK _ _ _ _ (show K _ _ _ _ from ?_)))
  refine hK _ _ _ _ (nk_ne (by omega) (by omega) (fun g => ?_) (fun g => ?_))
  · refine hK _ _ _ _ (hK _ _ _ _ (show K _ _ _ _ from ?_))
    refine hK _ _ _ _ (nk_ne (by omega) (by omega) (fun g2 => ?_) (fun g2 => ?_))
    · refine hK _ _ _ _ (show K _ _ _ _ from ?_)
      have : q = 0 ∨ q = 2 := by omega
      rcases this with e | e <;> subst e
      · exact hK _ _ _ _ (And.intro rfl (h))
      · exact hK _ _ _ _ (And.intro rfl (h))
    · subst g2
      refine hK _ _ _ _ (hK _ _ _ _ (show K _ _ _ _ from ?_))
      exact hK _ _ _ _ (And.intro rfl (h))
  · subst g
    refine hK _ _ _ _ (hK _ _ _ _ (show K _ _ _ _ from ?_))
    exact hK _ _ _ _ (And.intro rfl (h))
theorem sm_isTwo {n c p : Nat} {ka : Nat → Nat} {r : Nat → Nat → Nat} (hk : MK D n ka) (hm : MS D n r) (hc : c < 64) (hp : p < n) (h : P (some (.int (bI (two n ka r c p)))) D) : nk_run S (d + 3) 94 [.ref 52, .int (nI p), .int (nI c)] D P := by
  have hlt := mb_lt (n := n) (r := r) (c := c) (p := p) (fun q hq => (hm.1 p q hp hq).2)
  refine nk_go (M := (6, yX6_isTwo, cX6_isTwo, 3, (some .boolean), false, 2, nk_T94)) rfl rfl (Nat.le_of_ble_eq_true rfl) (fun K hK => ?_)
  show K 0 [some (.ref 52), some (.int (nI p)), some (.int (nI c))] [] D
  refine hK _ _ _ _ (hK _ _ _ _ (hK _ _ _ _ (show K _ _ _ _ from ?_)))
  refine hK _ _ _ _ (nk_stV rfl rfl rfl rfl ?_)
  refine sm_mustBe hk hm hc hp ?_
  refine hK _ _ _ _ (nk_stS rfl rfl rfl rfl ?_)
  refine sm_ones hlt ?_
  refine hK _ _ _ _ (hK _ _ _ _ (show K _ _ _ _ from ?_))
  refine hK _ _ _ _ (nk_stV rfl rfl rfl rfl ?_)
  refine sm_bears hk hp ?_
  have hb : ber (ka p) ≤ 7 := by
    have : ∀ q, q ≤ 3 → ber q ≤ 7 := by decide
    exact this _ (hk.2.2 p hp).2
  have hpc := pcn_le (mb n r c p)
  refine hK _ _ _ _ (nk_le (by omega) (by omega) (fun h1 => ?_) (fun h1 => ?_))
  · rw [two, decide_eq_false (by omega)] at h
    refine hK _ _ _ _ (show K _ _ _ _ from ?_)
    exact hK _ _ _ _ (And.intro rfl (h))
  · rw [two, decide_eq_true h1] at h
    refine hK _ _ _ _ (hK _ _ _ _ (show K _ _ _ _ from ?_))
    exact hK _ _ _ _ (And.intro rfl (h))
theorem sm_twoIn {n c : Nat} {ka : Nat → Nat} {r : Nat → Nat → Nat} (hk : MK D n ka) (hm : MS D n r) (hc : c < 64) (h : P (some (.int (nI (tw n ka r c)))) D) : nk_run S (d + 4) 95 [.ref 52, .int (nI c)] D P := by
  have hk' := hk
  obtain ⟨hn6, hn, -⟩ := hk
  refine nk_go (M := (6, yX6_twoIn, cX6_twoIn, 4, (some .int), false, 1, nk_T95)) rfl rfl (Nat.le_of_ble_eq_true rfl) (fun K hK => ?_)
  show K 0 [some (.ref 52), some (.int (nI c)), none, none] [] D
  refine hK _ _ _ _ (hK _ _ _ _ (hK _ _ _ _ (hK _ _ _ _ (show K _ _ _ _ from ?_))))
  have loop : ∀ m j, j + m = n → K 4 [some (.ref 52), some (.int (nI c)), some (.int (nI (twU n ka r c j))), some (.int (nI j))] [] D := by
    intro m
    induction m with
    | zero =>
      intro j hj
      have hj : j = n := by omega
      subst hj
      refine hK _ _ _ _ (hK _ _ _ _ (hK _ _ _ _ (nk_GR rfl rfl rfl (hK _ _ _ _ (show K _ _ _ _ from ?_)))))
      refine hK _ _ _ _ (nk_AL rfl rfl (j := 0) rfl (by decide) (show K _ _ _ _ from ?_))
      rw [hn]
      refine hK _ _ _ _ (nk_bt (nI_le (Nat.le_refl _) (by omega)) ?_)
      refine hK _ _ _ _ (show K _ _ _ _ from ?_)
      exact hK _ _ _ _ (And.intro rfl (h))
    | succ m ih =>
      intro j hj
      refine hK _ _ _ _ (hK _ _ _ _ (hK _ _ _ _ (nk_GR rfl rfl rfl (hK _ _ _ _ (show K _ _ _ _ from ?_)))))
      refine hK _ _ _ _ (nk_AL rfl rfl (j := 0) rfl (by decide) (show K _ _ _ _ from ?_))
      rw [hn]
      refine hK _ _ _ _ (nk_bf (nI_ge (by omega) (by omega)) ?_)
      refine hK _ _ _ _ (hK _ _ _ _ (hK _ _ _ _ (hK _ _ _ _ (show K _ _ _ _ from ?_))))
      refine hK _ _ _ _ (nk_stV rfl rfl rfl rfl ?_)
      refine sm_isTwo hk' hm hc (by omega) ?_
      refine hK _ _ _ _ (nk_beq (fun h1 => ?_) (fun h1 => ?_))
      · refine hK _ _ _ _ (hK _ _ _ _ (hK _ _ _ _ (hK _ _ _ _ (hK _ _ _ _ (show K _ _ _ _ from ?_)))))
        rw [nk_or, nk_add, Nat.or_zero]
        have := ih (j + 1) (by omega)
        rw [twU, if_neg (by rw [h1]; decide), Nat.or_zero] at this
        exact this
      · refine hK _ _ _ _ (hK _ _ _ _ (hK _ _ _ _ (hK _ _ _ _ (hK _ _ _ _ (hK _ _ _ _ (hK _ _ _ _ (hK _ _ _ _ (show K _ _ _ _ from ?_))))))))
        rw [nk_one (by omega), nk_or, nk_add]
        have := ih (j + 1) (by omega)
        rw [twU, if_pos h1] at this
        exact this
  exact loop n 0 (by omega)
theorem sm_knownMany {n p : Nat} {ka : Nat → Nat} {r : Nat → Nat → Nat} (hk : MK D n ka) (hm : MS D n r) (hp : p < n) (h : P (some (.int (nI (kn r p n)))) D) : nk_run S (d + 2) 96 [.ref 52, .int (nI p)] D P := by
  obtain ⟨hn6, hn, -⟩ := hk
  obtain ⟨hr, hrr⟩ := hm
  refine nk_go (M := (6, yX6_knownMany, cX6_knownMany, 4, (some .int), false, 1, nk_T96)) rfl rfl (Nat.le_of_ble_eq_true rfl) (fun K hK => ?_)
  show K 0 [some (.ref 52), some (.int (nI p)), none, none] [] D
  refine hK _ _ _ _ (hK _ _ _ _ (hK _ _ _ _ (hK _ _ _ _ (show K _ _ _ _ from ?_))))
  have loop : ∀ m j, j + m = n → K 4 [some (.ref 52), some (.int (nI p)), some (.int (nI (kn r p j))), some (.int (nI j))] [] D := by
    intro m
    induction m with
    | zero =>
      intro j hj
      have hj : j = n := by omega
      subst hj
      refine hK _ _ _ _ (hK _ _ _ _ (hK _ _ _ _ (nk_GR rfl rfl rfl (hK _ _ _ _ (show K _ _ _ _ from ?_)))))
      refine hK _ _ _ _ (nk_AL rfl rfl (j := 0) rfl (by decide) (show K _ _ _ _ from ?_))
      rw [hn]
      refine hK _ _ _ _ (nk_bt (nI_le (Nat.le_refl _) (by omega)) ?_)
      refine hK _ _ _ _ (show K _ _ _ _ from ?_)
      exact hK _ _ _ _ (And.intro rfl (h))
    | succ m ih =>
      intro j hj
      have hr7 := (hr p j hp (by omega)).2
      refine hK _ _ _ _ (hK _ _ _ _ (hK _ _ _ _ (nk_GR rfl rfl rfl (hK _ _ _ _ (show K _ _ _ _ from ?_)))))
      refine hK _ _ _ _ (nk_AL rfl rfl (j := 0) rfl (by decide) (show K _ _ _ _ from ?_))
      rw [hn]
      refine hK _ _ _ _ (nk_bf (nI_ge (by omega) (by omega)) ?_)
      have no : r p j = 0 → K 33 [some (.ref 52), some (.int (nI p)), some (.int (nI (kn r p j))), some (.int (nI j))] [.int (nI (kn r p j))] D := by
        intro e
        refine hK _ _ _ _ (hK _ _ _ _ (hK _ _ _ _ (hK _ _ _ _ (hK _ _ _ _ (show K _ _ _ _ from ?_)))))
        rw [nk_add, nk_add]
        have := ih (j + 1) (by omega)
        rw [kn, if_neg (by rw [e]; simp)] at this
        exact this
      refine hK _ _ _ _ (hK _ _ _ _ (hK _ _ _ _ (show K _ _ _ _ from ?_)))
      refine hK _ _ _ _ (nk_eq (by omega) (by omega) (fun h1 => ?_) (fun h1 => ?_))
      · exact no (by rw [h1]; exact hrr p hp)
      · refine hK _ _ _ _ (hK _ _ _ _ (hK _ _ _ _ (show K _ _ _ _ from ?_)))
        refine hK _ _ _ _ (nk_stV rfl rfl rfl rfl ?_)
        refine sm_roleTo (by omega) (by omega) ?_
        rw [(hr p j hp (by omega)).1]
        refine hK _ _ _ _ (nk_le (by omega) (by omega) (fun h2 => ?_) (fun h2 => ?_))
        · exact no (by omega)
        · refine hK _ _ _ _ (hK _ _ _ _ (hK _ _ _ _ (hK _ _ _ _ (hK _ _ _ _ (hK _ _ _ _ (show K _ _ _ _ from ?_))))))
          rw [nk_add, nk_add]
          have := ih (j + 1) (by omega)
          rw [kn, if_pos (by omega)] at this
          exact this
  exact loop n 0 (by omega)
end NKM
