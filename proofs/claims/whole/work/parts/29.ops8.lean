/-! ===== may, was, largest, smallest ===== -/
theorem mayU_lt {n : Nat} {ka : Nat → Nat} {r : Nat → Nat → Nat} {p q co : Nat} : ∀ j, j ≤ 7 → mayU n ka r p q co j < 256
  | 0, _ => by simp [mayU]
  | j + 1, h => by
    rw [mayU]
    refine Nat.or_lt_two_pow (n := 8) (mayU_lt j (by omega)) ?_
    split
    · exact nk_p256 (by omega)
    · decide
def bestL (n : Nat) (ka : Nat → Nat) (r : Nat → Nat → Nat) (co : Nat) : Nat → Nat
  | 0 => 0
  | j + 1 => if evRoom (j + 1) co = 0 ∧ pcn (bestL n ka r co j) < pcn (j + 1) ∧ tw n ka r (j + 1) = 0 then j + 1 else bestL n ka r co j
def bestS (n : Nat) (ka : Nat → Nat) (r : Nat → Nat → Nat) (co : Nat) : Nat → Nat
  | 0 => 0
  | j + 1 => if evRoom (j + 1) co = 0 ∧ tw n ka r (j + 1) ≠ 0 ∧ (bestS n ka r co j = 0 ∨ pcn (j + 1) < pcn (bestS n ka r co j)) then j + 1 else bestS n ka r co j
theorem sub_le {a b : Nat} (ha : a < 64) (hb : b < 64) (h : evRoom a b = 0) : a ≤ b := by
  have key : ∀ a b : Fin 64, evRoom a.val b.val = 0 → a.val ≤ b.val := by decide +kernel
  exact key ⟨a, ha⟩ ⟨b, hb⟩ h
theorem bestL_le {n : Nat} {ka : Nat → Nat} {r : Nat → Nat → Nat} {co : Nat} : ∀ j, bestL n ka r co j ≤ j
  | 0 => Nat.le_refl _
  | j + 1 => by
    have := bestL_le (n := n) (ka := ka) (r := r) (co := co) j
    rw [bestL]
    split <;> omega
theorem bestS_le {n : Nat} {ka : Nat → Nat} {r : Nat → Nat → Nat} {co : Nat} : ∀ j, bestS n ka r co j ≤ j
  | 0 => Nat.le_refl _
  | j + 1 => by
    have := bestS_le (n := n) (ka := ka) (r := r) (co := co) j
    rw [bestS]
    split <;> omega
theorem bestL_end {n : Nat} {ka : Nat → Nat} {r : Nat → Nat → Nat} {co : Nat} (hco : co < 64) : ∀ m, co + m < 64 → bestL n ka r co (co + m) = bestL n ka r co co
  | 0, _ => rfl
  | m + 1, h => by
    rw [← Nat.add_assoc, bestL, if_neg (fun z => by have := sub_le (by omega) hco z.1; omega)]
    exact bestL_end hco m (by omega)
theorem bestS_end {n : Nat} {ka : Nat → Nat} {r : Nat → Nat → Nat} {co : Nat} (hco : co < 64) : ∀ m, co + m < 64 → bestS n ka r co (co + m) = bestS n ka r co co
  | 0, _ => rfl
  | m + 1, h => by
    rw [← Nat.add_assoc, bestS, if_neg (fun z => by have := sub_le (by omega) hco z.1; omega)]
    exact bestS_end hco m (by omega)
theorem orN_m1 {b : Nat} (hb : b < 2 ^ 31) : orN b = -1 ↔ b = 0 := by
  unfold orN
  split
  · next h => simp [h]
  · next h =>
    refine ⟨fun z => ?_, fun z => absurd z h⟩
    have := congrArg Int32.toInt z
    rw [nI_toInt hb] at this
    have e : (-1 : Int32).toInt = -1 := by decide
    omega
theorem orN_neg {b : Nat} (hb : b < 2 ^ 31) : orN b < nI 0 ↔ b = 0 := by
  unfold orN
  split
  · next h => exact ⟨fun _ => h, fun _ => by decide⟩
  · next h => exact ⟨fun z => absurd z (nI_pos hb), fun z => absurd z h⟩
theorem sub_bool {a b : Nat} (h : evRoom a b < 2 ^ 31) {A B : Prop} (f : evRoom a b ≠ 0 → A) (g : evRoom a b = 0 → B) : (¬ nI (evRoom a b) = nI 0 → A) ∧ (nI (evRoom a b) = nI 0 → B) := nk_ne h (by decide) f g
section NKO
variable {S : nk_Sc} {d : Nat} {D : nk_D} {P : nk_P}
theorem sx_isPart {a b : Nat} (ha : a < 64) (hb : b < 64) (h : P (some (.int (bI (decide (evRoom a b = 0))))) D) : nk_run S (d + 1) 69 [.int (nI a), .int (nI b)] D P := by
  have := evRoom_lt (L := b) ha
  refine nk_go (M := (5, yX5_isPart, cX5_isPart, 2, (some .boolean), true, 2, nk_T69)) rfl rfl (Nat.le_of_ble_eq_true rfl) (fun K hK => ?_)
  show K 0 [some (.int (nI a)), some (.int (nI b))] [] D
  refine hK _ _ _ _ (hK _ _ _ _ (hK _ _ _ _ (hK _ _ _ _ (hK _ _ _ _ (show K _ _ _ _ from ?_)))))
  rw [nk_andn ha hb]
  refine hK _ _ _ _ (sub_bool (by omega) (fun q => ?_) (fun q => ?_))
  · rw [decide_eq_false q] at h
    refine hK _ _ _ _ (show K _ _ _ _ from ?_)
    exact hK _ _ _ _ (And.intro rfl (h))
  · rw [decide_eq_true q] at h
    refine hK _ _ _ _ (hK _ _ _ _ (show K _ _ _ _ from ?_))
    exact hK _ _ _ _ (And.intro rfl (h))
theorem op_largest {x : Int32} (hr : REL D) (h : ∀ v D1, TH S (d + 20) 113 [.ref 52, .int x] v D1 → P (some (.int v)) D1) : nk_run S (d + 20) 52 [.ref 0, .int x] D P := by
  have hr0 := hr
  obtain ⟨n, ka, s, t, L, tx, u, pa, kp, c, se, ok, xr, mr⟩ := hr
  have hw := ok.1
  have hx := xr.1
  have hxs := hx.1
  have hn6 := hxs.1
  have hn := hxs.2.1
  have h64 := p64 hn6
  have hmk := mr.1
  have hms := MS_now mr.2.1 hw
  have hR : D 6 3 = nI s.2.1 := hx.2.1
  have mR : D 54 36 = nI s.2.1 := mr.2.1.2.1
  have hR64 : s.2.1 < 64 := by have := hw.2.2.1; omega
  refine nk_go (M := (5, yX5_largest, cX5_largest, 4, (some .int), false, 1, nk_T52)) rfl rfl (Nat.le_of_ble_eq_true rfl) (fun K hK => ?_)
  show K 0 [some (.ref 0), some (.int x), none, none] [] D
  refine hK _ _ _ _ (hK _ _ _ _ (nk_GR rfl rfl rfl (hK _ _ _ _ (show K _ _ _ _ from ?_))))
  refine hK _ _ _ _ (nk_stV rfl rfl rfl rfl ?_)
  refine sx_hasAll isS6 hn hn6 ?_
  refine hK _ _ _ _ (nk_bne (fun b => ?_) (fun b => ?_))
  · obtain ⟨co, hco, rfl⟩ := vld_of (by omega) b
    have hco64 : co < 64 := by omega
    refine hK _ _ _ _ (hK _ _ _ _ (hK _ _ _ _ (hK _ _ _ _ (show K _ _ _ _ from ?_))))
    have loop : ∀ m j, j + m = 63 → K 18 [some (.ref 0), some (.int (nI co)), some (.int (nI (bestL n ka s.1 co j))), some (.int (nI (j + 1)))] [] D := by
      intro m
      induction m with
      | zero =>
        intro j hj
        have hj : j = 63 := by omega
        subst hj
        have hend := bestL_end (n := n) (ka := ka) (r := s.1) hco64 (63 - co) (by omega)
        rw [show co + (63 - co) = 63 by omega] at hend
        refine hK _ _ _ _ (hK _ _ _ _ (show K _ _ _ _ from ?_))
        refine hK _ _ _ _ (nk_bt (nI_le (by omega) (by omega)) ?_)
        refine hK _ _ _ _ (show K _ _ _ _ from ?_)
        rw [hend]
        refine hK _ _ _ _ (And.intro rfl (h _ _ ?_))
        refine nk_go (M := (6, yX6_largest, cX6_largest, 5, (some .int), false, 1, nk_T113)) rfl rfl (Nat.le_of_ble_eq_true rfl) (fun K hK => ?_)
        show K 0 [some (.ref 52), some (.int (nI co)), none, none, none] [] D
        refine hK _ _ _ _ (hK _ _ _ _ (show K _ _ _ _ from ?_))
        refine hK _ _ _ _ (nk_stV rfl rfl rfl rfl ?_)
        refine sm_arePeople hmk.2.1 hn6 ?_
        rw [b]
        refine hK _ _ _ _ (nk_bne (fun _ => ?_) (fun z => by cases z))
        refine hK _ _ _ _ (hK _ _ _ _ (hK _ _ _ _ (hK _ _ _ _ (show K _ _ _ _ from ?_))))
        have loop2 : ∀ m j, j + m = co → ∀ x4, K 15 [some (.ref 52), some (.int (nI co)), some (.int (nI (bestL n ka s.1 co j))), some (.int (nI (j + 1))), x4] [] D := by
          intro m
          induction m with
          | zero =>
            intro j hj x4
            have hj : j = co := by omega
            subst hj
            refine hK _ _ _ _ (hK _ _ _ _ (show K _ _ _ _ from ?_))
            refine hK _ _ _ _ (nk_bt (nI_lt (by omega) (by omega)) ?_)
            refine hK _ _ _ _ (show K _ _ _ _ from ?_)
            exact hK _ _ _ _ (And.intro rfl (⟨rfl, hr0⟩))
          | succ m ih =>
            intro j hj x4
            have hbl := bestL_le (n := n) (ka := ka) (r := s.1) (co := co) j
            have hev := evRoom_lt (R := j + 1) (L := co) (by omega)
            refine hK _ _ _ _ (hK _ _ _ _ (show K _ _ _ _ from ?_))
            refine hK _ _ _ _ (nk_bf (nI_nlt (by omega) (by omega)) ?_)
            have back := ih (j + 1) (by omega)
            have no : ¬ (evRoom (j + 1) co = 0 ∧ pcn (bestL n ka s.1 co j) < pcn (j + 1) ∧ tw n ka s.1 (j + 1) = 0) → K 51 [some (.ref 52), some (.int (nI co)), some (.int (nI (bestL n ka s.1 co j))), some (.int (nI (j + 1))), x4] [] D := by
              intro e
              rw [bestL, if_neg e] at back
              refine hK _ _ _ _ (hK _ _ _ _ (hK _ _ _ _ (show K _ _ _ _ from ?_)))
              refine hK _ _ _ _ (nk_bt (by decide) ?_)
              refine hK _ _ _ _ (hK _ _ _ _ (hK _ _ _ _ (hK _ _ _ _ (show K _ _ _ _ from ?_))))
              rw [nk_add]
              exact back _
            refine hK _ _ _ _ (hK _ _ _ _ (hK _ _ _ _ (hK _ _ _ _ (hK _ _ _ _ (show K _ _ _ _ from ?_)))))
            rw [nk_andn (by omega) hco64]
            refine hK _ _ _ _ (sub_bool (by omega) (fun q => no (fun z => q z.1)) (fun q => ?_))
            refine hK _ _ _ _ (show K _ _ _ _ from ?_)
            refine hK _ _ _ _ (nk_stS rfl rfl rfl rfl ?_)
            refine sm_ones (by omega) ?_
            refine hK _ _ _ _ (show K _ _ _ _ from ?_)
            refine hK _ _ _ _ (nk_stS rfl rfl rfl rfl ?_)
            refine sm_ones (by omega) ?_
            have p1 := pcn_le (j + 1)
            have p2 := pcn_le (bestL n ka s.1 co j)
            refine hK _ _ _ _ (nk_le (by omega) (by omega) (fun q2 => no (fun z => by omega)) (fun q2 => ?_))
            refine hK _ _ _ _ (hK _ _ _ _ (show K _ _ _ _ from ?_))
            refine hK _ _ _ _ (nk_stV rfl rfl rfl rfl ?_)
            refine sm_twoIn hmk hms (by omega) ?_
            have htw := tw_lt (n := n) (ka := ka) (r := s.1) (c := j + 1) hn6
            refine hK _ _ _ _ (nk_ne (by omega) (by omega) (fun q3 => no (fun z => q3 z.2.2)) (fun q3 => ?_))
            rw [bestL, if_pos ⟨q, q2, q3⟩] at back
            refine hK _ _ _ _ (hK _ _ _ _ (hK _ _ _ _ (hK _ _ _ _ (show K _ _ _ _ from ?_))))
            refine hK _ _ _ _ (nk_bf (by decide) ?_)
            refine hK _ _ _ _ (hK _ _ _ _ (hK _ _ _ _ (hK _ _ _ _ (hK _ _ _ _ (show K _ _ _ _ from ?_)))))
            rw [nk_add]
            exact back _
        exact loop2 co 0 (by omega) _
      | succ m ih =>
        intro j hj
        have hbl := bestL_le (n := n) (ka := ka) (r := s.1) (co := co) j
        have back := ih (j + 1) (by omega)
        have no : ¬ (evRoom (j + 1) co = 0 ∧ pcn (bestL n ka s.1 co j) < pcn (j + 1) ∧ tw n ka s.1 (j + 1) = 0) → K 56 [some (.ref 0), some (.int (nI co)), some (.int (nI (bestL n ka s.1 co j))), some (.int (nI (j + 1)))] [] D := by
          intro e
          rw [bestL, if_neg e] at back
          refine hK _ _ _ _ (hK _ _ _ _ (show K _ _ _ _ from ?_))
          rw [nk_add]
          exact back
        refine hK _ _ _ _ (hK _ _ _ _ (show K _ _ _ _ from ?_))
        refine hK _ _ _ _ (nk_bf (nI_ge (by omega) (by omega)) ?_)
        refine hK _ _ _ _ (hK _ _ _ _ (show K _ _ _ _ from ?_))
        refine hK _ _ _ _ (nk_stS rfl rfl rfl rfl ?_)
        refine sx_isPart (by omega) hco64 ?_
        refine hK _ _ _ _ (nk_beq (fun q => no (fun z => of_decide_eq_false q z.1)) (fun q => ?_))
        have q := of_decide_eq_true q
        refine hK _ _ _ _ (show K _ _ _ _ from ?_)
        refine hK _ _ _ _ (nk_stS rfl rfl rfl rfl ?_)
        refine sj_bitCount (by omega) ?_
        refine hK _ _ _ _ (show K _ _ _ _ from ?_)
        refine hK _ _ _ _ (nk_stS rfl rfl rfl rfl ?_)
        refine sj_bitCount (by omega) ?_
        have p1 := pcn_le (j + 1)
        have p2 := pcn_le (bestL n ka s.1 co j)
        refine hK _ _ _ _ (nk_le (by omega) (by omega) (fun q2 => no (fun z => by omega)) (fun q2 => ?_))
        refine hK _ _ _ _ (hK _ _ _ _ (nk_GR rfl rfl rfl (hK _ _ _ _ (show K _ _ _ _ from ?_))))
        refine hK _ _ _ _ (nk_stV rfl rfl rfl rfl ?_)
        refine sx_clashOf isS6 hxs (by omega) ?_
        have htw := tw_lt (n := n) (ka := ka) (r := s.1) (c := j + 1) hn6
        refine hK _ _ _ _ (nk_ne (by omega) (by omega) (fun q3 => no (fun z => q3 z.2.2)) (fun q3 => ?_))
        rw [bestL, if_pos ⟨q, q2, q3⟩] at back
        refine hK _ _ _ _ (hK _ _ _ _ (hK _ _ _ _ (hK _ _ _ _ (show K _ _ _ _ from ?_))))
        rw [nk_add]
        exact back
    exact loop 63 0 (by omega)
  · refine hK _ _ _ _ (show K _ _ _ _ from ?_)
    refine hK _ _ _ _ (And.intro rfl (h _ _ ?_))
    refine nk_go (M := (6, yX6_largest, cX6_largest, 5, (some .int), false, 1, nk_T113)) rfl rfl (Nat.le_of_ble_eq_true rfl) (fun K hK => ?_)
    show K 0 [some (.ref 52), some (.int x), none, none, none] [] D
    refine hK _ _ _ _ (hK _ _ _ _ (show K _ _ _ _ from ?_))
    refine hK _ _ _ _ (nk_stV rfl rfl rfl rfl ?_)
    refine sm_arePeople hmk.2.1 hn6 ?_
    rw [b]
    refine hK _ _ _ _ (nk_bne (fun z => by cases z) (fun _ => ?_))
    refine hK _ _ _ _ (show K _ _ _ _ from ?_)
    exact hK _ _ _ _ (And.intro rfl (⟨rfl, hr0⟩))
theorem op_smallest {x : Int32} (hr : REL D) (h : ∀ v D1, TH S (d + 20) 114 [.ref 52, .int x] v D1 → P (some (.int v)) D1) : nk_run S (d + 20) 53 [.ref 0, .int x] D P := by
  have hr0 := hr
  obtain ⟨n, ka, s, t, L, tx, u, pa, kp, c, se, ok, xr, mr⟩ := hr
  have hw := ok.1
  have hx := xr.1
  have hxs := hx.1
  have hn6 := hxs.1
  have hn := hxs.2.1
  have h64 := p64 hn6
  have hmk := mr.1
  have hms := MS_now mr.2.1 hw
  have hR : D 6 3 = nI s.2.1 := hx.2.1
  have mR : D 54 36 = nI s.2.1 := mr.2.1.2.1
  have hR64 : s.2.1 < 64 := by have := hw.2.2.1; omega
  refine nk_go (M := (5, yX5_smallest, cX5_smallest, 4, (some .int), false, 1, nk_T53)) rfl rfl (Nat.le_of_ble_eq_true rfl) (fun K hK => ?_)
  show K 0 [some (.ref 0), some (.int x), none, none] [] D
  refine hK _ _ _ _ (hK _ _ _ _ (nk_GR rfl rfl rfl (hK _ _ _ _ (show K _ _ _ _ from ?_))))
  refine hK _ _ _ _ (nk_stV rfl rfl rfl rfl ?_)
  refine sx_hasAll isS6 hn hn6 ?_
  refine hK _ _ _ _ (nk_bne (fun b => ?_) (fun b => ?_))
  · obtain ⟨co, hco, rfl⟩ := vld_of (by omega) b
    have hco64 : co < 64 := by omega
    refine hK _ _ _ _ (hK _ _ _ _ (hK _ _ _ _ (hK _ _ _ _ (show K _ _ _ _ from ?_))))
    have loop : ∀ m j, j + m = 63 → K 18 [some (.ref 0), some (.int (nI co)), some (.int (orN (bestS n ka s.1 co j))), some (.int (nI (j + 1)))] [] D := by
      intro m
      induction m with
      | zero =>
        intro j hj
        have hj : j = 63 := by omega
        subst hj
        have hend := bestS_end (n := n) (ka := ka) (r := s.1) hco64 (63 - co) (by omega)
        rw [show co + (63 - co) = 63 by omega] at hend
        refine hK _ _ _ _ (hK _ _ _ _ (show K _ _ _ _ from ?_))
        refine hK _ _ _ _ (nk_bt (nI_le (by omega) (by omega)) ?_)
        refine hK _ _ _ _ (show K _ _ _ _ from ?_)
        rw [hend]
        refine hK _ _ _ _ (And.intro rfl (h _ _ ?_))
        refine nk_go (M := (6, yX6_smallest, cX6_smallest, 5, (some .int), false, 1, nk_T114)) rfl rfl (Nat.le_of_ble_eq_true rfl) (fun K hK => ?_)
        show K 0 [some (.ref 52), some (.int (nI co)), none, none, none] [] D
        refine hK _ _ _ _ (hK _ _ _ _ (show K _ _ _ _ from ?_))
        refine hK _ _ _ _ (nk_stV rfl rfl rfl rfl ?_)
        refine sm_arePeople hmk.2.1 hn6 ?_
        rw [b]
        refine hK _ _ _ _ (nk_bne (fun _ => ?_) (fun z => by cases z))
        refine hK _ _ _ _ (hK _ _ _ _ (hK _ _ _ _ (hK _ _ _ _ (show K _ _ _ _ from ?_))))
        have loop2 : ∀ m j, j + m = co → ∀ x4, K 15 [some (.ref 52), some (.int (nI co)), some (.int (orN (bestS n ka s.1 co j))), some (.int (nI (j + 1))), x4] [] D := by
          intro m
          induction m with
          | zero =>
            intro j hj x4
            have hj : j = co := by omega
            subst hj
            refine hK _ _ _ _ (hK _ _ _ _ (show K _ _ _ _ from ?_))
            refine hK _ _ _ _ (nk_bt (nI_lt (by omega) (by omega)) ?_)
            refine hK _ _ _ _ (show K _ _ _ _ from ?_)
            exact hK _ _ _ _ (And.intro rfl (⟨rfl, hr0⟩))
          | succ m ih =>
            intro j hj x4
            have hbl := bestS_le (n := n) (ka := ka) (r := s.1) (co := co) j
            have hev := evRoom_lt (R := j + 1) (L := co) (by omega)
            have back := ih (j + 1) (by omega)
            have no : ¬ (evRoom (j + 1) co = 0 ∧ tw n ka s.1 (j + 1) ≠ 0 ∧ (bestS n ka s.1 co j = 0 ∨ pcn (j + 1) < pcn (bestS n ka s.1 co j))) → ∀ y4, K 67 [some (.ref 52), some (.int (nI co)), some (.int (orN (bestS n ka s.1 co j))), some (.int (nI (j + 1))), y4] [] D := by
              intro e y4
              rw [bestS, if_neg e] at back
              refine hK _ _ _ _ (hK _ _ _ _ (hK _ _ _ _ (hK _ _ _ _ (show K _ _ _ _ from ?_))))
              rw [nk_add]
              exact back _
            have tail : ∀ f : Bool, (f = true ↔ (bestS n ka s.1 co j = 0 ∨ pcn (j + 1) < pcn (bestS n ka s.1 co j))) → K 40 [some (.ref 52), some (.int (nI co)), some (.int (orN (bestS n ka s.1 co j))), some (.int (nI (j + 1))), x4] [.int (bI f)] D := by
              intro f hf
              refine hK _ _ _ _ (hK _ _ _ _ (hK _ _ _ _ (hK _ _ _ _ (hK _ _ _ _ (hK _ _ _ _ (show K _ _ _ _ from ?_))))))
              rw [nk_andn (by omega) hco64]
              refine hK _ _ _ _ (sub_bool (by omega) (fun q => no (fun z => q z.1) _) (fun q => ?_))
              refine hK _ _ _ _ (show K _ _ _ _ from ?_)
              refine hK _ _ _ _ (nk_beq (fun q2 => no (fun z => by rw [hf.mpr z.2.2] at q2; cases q2) _) (fun q2 => ?_))
              refine hK _ _ _ _ (hK _ _ _ _ (show K _ _ _ _ from ?_))
              refine hK _ _ _ _ (nk_stV rfl rfl rfl rfl ?_)
              refine sm_twoIn hmk hms (by omega) ?_
              have htw := tw_lt (n := n) (ka := ka) (r := s.1) (c := j + 1) hn6
              refine hK _ _ _ _ (nk_eq (by omega) (by omega) (fun q3 => no (fun z => z.2.1 q3) _) (fun q3 => ?_))
              rw [bestS, if_pos ⟨q, q3, hf.mp q2⟩] at back
              refine hK _ _ _ _ (hK _ _ _ _ (hK _ _ _ _ (hK _ _ _ _ (hK _ _ _ _ (show K _ _ _ _ from ?_)))))
              rw [nk_add]
              have e : orN (j + 1) = nI (j + 1) := if_neg (by omega)
              rw [← e]
              rw [e]
              rw [e] at back
              exact back _
            refine hK _ _ _ _ (hK _ _ _ _ (show K _ _ _ _ from ?_))
            refine hK _ _ _ _ (nk_bf (nI_nlt (by omega) (by omega)) ?_)
            refine hK _ _ _ _ (show K _ _ _ _ from ?_)
            by_cases q0 : bestS n ka s.1 co j = 0
            · refine hK _ _ _ _ (nk_bt ((orN_neg (by omega)).mpr q0) ?_)
              refine hK _ _ _ _ (hK _ _ _ _ (show K _ _ _ _ from ?_))
              exact tail true ⟨fun _ => Or.inl q0, fun _ => rfl⟩
            · refine hK _ _ _ _ (nk_bf (fun z => q0 ((orN_neg (by omega)).mp z)) ?_)
              have eN : orN (bestS n ka s.1 co j) = nI (bestS n ka s.1 co j) := if_neg q0
              refine hK _ _ _ _ (show K _ _ _ _ from ?_)
              refine hK _ _ _ _ (nk_stS rfl rfl rfl rfl ?_)
              refine sm_ones (by omega) ?_
              refine hK _ _ _ _ (show K _ _ _ _ from ?_)
              rw [eN]
              refine hK _ _ _ _ (nk_stS rfl rfl rfl rfl ?_)
              refine sm_ones (by omega) ?_
              rw [← eN]
              have p1 := pcn_le (j + 1)
              have p2 := pcn_le (bestS n ka s.1 co j)
              refine hK _ _ _ _ (nk_ge (by omega) (by omega) (fun q2 => ?_) (fun q2 => ?_))
              · refine hK _ _ _ _ (show K _ _ _ _ from ?_)
                exact tail false ⟨fun z => (by cases z), fun z => by omega⟩
              · refine hK _ _ _ _ (hK _ _ _ _ (show K _ _ _ _ from ?_))
                exact tail true ⟨fun _ => Or.inr q2, fun _ => rfl⟩
        exact loop2 co 0 (by omega) _
      | succ m ih =>
        intro j hj
        have hbl := bestS_le (n := n) (ka := ka) (r := s.1) (co := co) j
        have back := ih (j + 1) (by omega)
        have no : ¬ (evRoom (j + 1) co = 0 ∧ tw n ka s.1 (j + 1) ≠ 0 ∧ (bestS n ka s.1 co j = 0 ∨ pcn (j + 1) < pcn (bestS n ka s.1 co j))) → K 61 [some (.ref 0), some (.int (nI co)), some (.int (orN (bestS n ka s.1 co j))), some (.int (nI (j + 1)))] [] D := by
          intro e
          rw [bestS, if_neg e] at back
          refine hK _ _ _ _ (hK _ _ _ _ (show K _ _ _ _ from ?_))
          rw [nk_add]
          exact back
        refine hK _ _ _ _ (hK _ _ _ _ (show K _ _ _ _ from ?_))
        refine hK _ _ _ _ (nk_bf (nI_ge (by omega) (by omega)) ?_)
        refine hK _ _ _ _ (hK _ _ _ _ (show K _ _ _ _ from ?_))
        refine hK _ _ _ _ (nk_stS rfl rfl rfl rfl ?_)
        refine sx_isPart (by omega) hco64 ?_
        refine hK _ _ _ _ (nk_beq (fun q => no (fun z => of_decide_eq_false q z.1)) (fun q => ?_))
        have q := of_decide_eq_true q
        refine hK _ _ _ _ (hK _ _ _ _ (nk_GR rfl rfl rfl (hK _ _ _ _ (show K _ _ _ _ from ?_))))
        refine hK _ _ _ _ (nk_stV rfl rfl rfl rfl ?_)
        refine sx_clashOf isS6 hxs (by omega) ?_
        have htw := tw_lt (n := n) (ka := ka) (r := s.1) (c := j + 1) hn6
        refine hK _ _ _ _ (nk_eq (by omega) (by omega) (fun q3 => no (fun z => z.2.1 q3)) (fun q3 => ?_))
        have yes : (bestS n ka s.1 co j = 0 ∨ pcn (j + 1) < pcn (bestS n ka s.1 co j)) → K 59 [some (.ref 0), some (.int (nI co)), some (.int (orN (bestS n ka s.1 co j))), some (.int (nI (j + 1)))] [] D := by
          intro q2
          rw [bestS, if_pos ⟨q, q3, q2⟩] at back
          have e : orN (j + 1) = nI (j + 1) := if_neg (by omega)
          rw [e] at back
          refine hK _ _ _ _ (hK _ _ _ _ (hK _ _ _ _ (hK _ _ _ _ (show K _ _ _ _ from ?_))))
          rw [nk_add]
          exact back
        refine hK _ _ _ _ (hK _ _ _ _ (show K _ _ _ _ from ?_))
        by_cases q0 : bestS n ka s.1 co j = 0
        · refine hK _ _ _ _ (nk_bt ((orN_m1 (by omega)).mpr q0) ?_)
          exact yes (Or.inl q0)
        · refine hK _ _ _ _ (nk_bf (fun z => q0 ((orN_m1 (by omega)).mp z)) ?_)
          have eN : orN (bestS n ka s.1 co j) = nI (bestS n ka s.1 co j) := if_neg q0
          refine hK _ _ _ _ (show K _ _ _ _ from ?_)
          refine hK _ _ _ _ (nk_stS rfl rfl rfl rfl ?_)
          refine sj_bitCount (by omega) ?_
          refine hK _ _ _ _ (show K _ _ _ _ from ?_)
          rw [eN]
          refine hK _ _ _ _ (nk_stS rfl rfl rfl rfl ?_)
          refine sj_bitCount (by omega) ?_
          rw [← eN]
          have p1 := pcn_le (j + 1)
          have p2 := pcn_le (bestS n ka s.1 co j)
          refine hK _ _ _ _ (nk_ge (by omega) (by omega) (fun q2 => no (fun z => by omega)) (fun q2 => yes (Or.inr q2)))
    exact loop 63 0 (by omega)
  · refine hK _ _ _ _ (show K _ _ _ _ from ?_)
    refine hK _ _ _ _ (And.intro rfl (h _ _ ?_))
    refine nk_go (M := (6, yX6_smallest, cX6_smallest, 5, (some .int), false, 1, nk_T114)) rfl rfl (Nat.le_of_ble_eq_true rfl) (fun K hK => ?_)
    show K 0 [some (.ref 52), some (.int x), none, none, none] [] D
    refine hK _ _ _ _ (hK _ _ _ _ (show K _ _ _ _ from ?_))
    refine hK _ _ _ _ (nk_stV rfl rfl rfl rfl ?_)
    refine sm_arePeople hmk.2.1 hn6 ?_
    rw [b]
    refine hK _ _ _ _ (nk_bne (fun z => by cases z) (fun _ => ?_))
    refine hK _ _ _ _ (show K _ _ _ _ from ?_)
    exact hK _ _ _ _ (And.intro rfl (⟨rfl, hr0⟩))
end NKO
