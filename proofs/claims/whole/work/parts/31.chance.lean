/-! ===== chance ===== -/
def wtm (q a b : Nat) : Nat := q ^ a * (10 - q) ^ (b - a)
def wt (n : Nat) (ka : Nat → Nat) (r : Nat → Nat → Nat) (co q : Nat) : Nat → Nat
  | 0 => 0
  | j + 1 => wt n ka r co q j + (if evRoom j co = 0 ∧ tw n ka r j = 0 then wtm q (pcn j) (pcn co) else 0)
theorem sub_pcn {a b : Nat} (ha : a < 64) (hb : b < 64) (h : evRoom a b = 0) : pcn a ≤ pcn b := by
  have key : ∀ a b : Fin 64, evRoom a.val b.val = 0 → pcn a.val ≤ pcn b.val := by decide +kernel
  exact key ⟨a, ha⟩ ⟨b, hb⟩ h
theorem pcn6 {a : Nat} (ha : a < 64) : pcn a ≤ 6 := by
  have key : ∀ a : Fin 64, pcn a.val ≤ 6 := by decide +kernel
  exact key ⟨a, ha⟩
theorem wtm_le {q a b : Nat} (hq : q ≤ 10) (h : a ≤ b) (hb : b ≤ 6) : wtm q a b ≤ 1000000 := by
  unfold wtm
  have h1 : q ^ a ≤ 10 ^ a := Nat.pow_le_pow_left hq a
  have h2 : (10 - q) ^ (b - a) ≤ 10 ^ (b - a) := Nat.pow_le_pow_left (by omega) _
  have h3 : 10 ^ a * 10 ^ (b - a) = 10 ^ b := by rw [← Nat.pow_add]; congr 1; omega
  have h4 : (10 : Nat) ^ b ≤ 10 ^ 6 := Nat.pow_le_pow_right (by decide) hb
  calc q ^ a * (10 - q) ^ (b - a) ≤ 10 ^ a * 10 ^ (b - a) := Nat.mul_le_mul h1 h2
    _ = 10 ^ b := h3
    _ ≤ 10 ^ 6 := h4
theorem wt_le {n : Nat} {ka : Nat → Nat} {r : Nat → Nat → Nat} {co q : Nat} (hq : q ≤ 10) (hco : co < 64) : ∀ j, j ≤ 64 → wt n ka r co q j ≤ j * 1000000
  | 0, _ => by simp [wt]
  | j + 1, h => by
    have ih := wt_le (n := n) (ka := ka) (r := r) hq hco j (by omega)
    rw [wt]
    split
    · next e =>
      have := wtm_le hq (sub_pcn (by omega) hco e.1) (pcn6 hco)
      rw [Nat.succ_mul]
      exact Nat.add_le_add ih this
    · rw [Nat.add_zero]
      exact Nat.le_trans ih (Nat.mul_le_mul_right _ (Nat.le_succ j))
theorem wt_end {n : Nat} {ka : Nat → Nat} {r : Nat → Nat → Nat} {co q : Nat} (hco : co < 64) : ∀ m, co + 1 + m ≤ 64 → wt n ka r co q (co + 1 + m) = wt n ka r co q (co + 1)
  | 0, _ => rfl
  | m + 1, h => by
    rw [← Nat.add_assoc, wt, if_neg (fun z => by have := sub_le (by omega) hco z.1; omega), Nat.add_zero]
    exact wt_end hco m (by omega)
/-! Euclid -/
def eu : Nat → Nat → Nat → Nat
  | 0, x, _ => x
  | m + 1, x, y => if y = 0 then x else eu m y (x % y)
theorem mod_half {y z : Nat} (h0 : 0 < z) (h : z ≤ y) : 2 * (y % z) < y := by
  have h1 := Nat.mod_lt y h0
  have h2 := Nat.div_add_mod y z
  have h3 : 1 ≤ y / z := Nat.div_pos h h0
  have h4 : z * 1 ≤ z * (y / z) := Nat.mul_le_mul_left z h3
  omega
theorem eu_gcd : ∀ (k x y m : Nat), y < 2 ^ k → 2 * k ≤ m → eu m x y = Nat.gcd x y
  | 0, x, y, m, h, _ => by
    have : y = 0 := by omega
    subst this
    rw [Nat.gcd_zero_right]
    cases m <;> simp [eu]
  | k + 1, x, y, m, h, hm => by
    obtain ⟨m', rfl⟩ : ∃ m', m = m' + 2 := ⟨m - 2, by omega⟩
    by_cases hy : y = 0
    · subst hy
      simp [eu]
    · rw [eu, if_neg hy]
      by_cases hz : x % y = 0
      · rw [hz, eu, if_pos rfl]
        rw [Nat.gcd_comm, Nat.gcd_rec, hz, Nat.gcd_zero_left]
      · have hlt : x % y < y := Nat.mod_lt x (by omega)
        rw [eu, if_neg hz]
        have hh := mod_half (y := y) (z := x % y) (by omega) (by omega)
        have hp : 2 ^ (k + 1) = 2 * 2 ^ k := by rw [Nat.pow_succ, Nat.mul_comm]
        rw [eu_gcd k _ _ m' (by omega) (by omega)]
        rw [Nat.gcd_comm x y, Nat.gcd_rec y x, Nat.gcd_comm (x % y) (y % (x % y)), Nat.gcd_rec (x % y) y]
/-! the odds of one company, person by person -/
def pcU (c : Nat) : Nat → Nat
  | 0 => 0
  | j + 1 => pcU c j + (c.testBit j).toNat
theorem pcU6 {c : Nat} (h : c < 64) : pcU c 6 = pcn c := by
  have key : ∀ c : Fin 64, pcU c.val 6 = pcn c.val := by decide +kernel
  exact key ⟨c, h⟩
theorem sub_bit {a b : Nat} (ha : a < 64) (hb : b < 64) (h : evRoom a b = 0) : ∀ p, p < 6 → a.testBit p = true → b.testBit p = true := by
  have key : ∀ a b : Fin 64, evRoom a.val b.val = 0 → ∀ p : Fin 6, a.val.testBit p.val = true → b.val.testBit p.val = true := by decide +kernel
  intro p hp
  exact key ⟨a, ha⟩ ⟨b, hb⟩ h ⟨p, hp⟩
theorem pcU_le {a b : Nat} (h : ∀ p, p < 6 → a.testBit p = true → b.testBit p = true) : ∀ j, j ≤ 6 → pcU a j ≤ pcU b j
  | 0, _ => Nat.le_refl _
  | j + 1, hj => by
    have ih := pcU_le h j (by omega)
    have := h j (by omega)
    rw [pcU, pcU]
    cases h1 : a.testBit j
    · simp only [Bool.toNat_false]; omega
    · rw [this h1]; simp only [Bool.toNat_true]; omega
section NKO
variable {S : nk_Sc} {d : Nat} {D : nk_D} {P : nk_P}
theorem sx_power {b t : Nat} (ht : t ≤ 100) (h : P (some (.int (nI (b ^ t)))) D) : nk_run S (d + 1) 64 [.int (nI b), .int (nI t)] D P := by
  refine nk_go (M := (5, yX5_power, cX5_power, 4, (some .int), true, 2, nk_T64)) rfl rfl (Nat.le_of_ble_eq_true rfl) (fun K hK => ?_)
  show K 0 [some (.int (nI b)), some (.int (nI t)), none, none] [] D
  refine hK _ _ _ _ (hK _ _ _ _ (hK _ _ _ _ (hK _ _ _ _ (show K _ _ _ _ from ?_))))
  have loop : ∀ m j, j + m = t → K 4 [some (.int (nI b)), some (.int (nI t)), some (.int (nI (b ^ j))), some (.int (nI j))] [] D := by
    intro m
    induction m with
    | zero =>
      intro j hj
      have hj : j = t := by omega
      subst hj
      refine hK _ _ _ _ (hK _ _ _ _ (show K _ _ _ _ from ?_))
      refine hK _ _ _ _ (nk_bt (nI_le (Nat.le_refl _) (by omega)) ?_)
      refine hK _ _ _ _ (show K _ _ _ _ from ?_)
      exact hK _ _ _ _ (And.intro rfl (h))
    | succ m ih =>
      intro j hj
      refine hK _ _ _ _ (hK _ _ _ _ (show K _ _ _ _ from ?_))
      refine hK _ _ _ _ (nk_bf (nI_ge (by omega) (by omega)) ?_)
      refine hK _ _ _ _ (hK _ _ _ _ (hK _ _ _ _ (hK _ _ _ _ (hK _ _ _ _ (hK _ _ _ _ (show K _ _ _ _ from ?_))))))
      rw [nk_mul, nk_add, ← Nat.pow_succ]
      exact ih (j + 1) (by omega)
  exact loop t 0 (by omega)
theorem sx_commonDivisor {a b : Nat} (ha : a < 2 ^ 31) (hb : b < 2 ^ 31) (h : P (some (.int (nI (Nat.gcd a b)))) D) : nk_run S (d + 1) 65 [.int (nI a), .int (nI b)] D P := by
  refine nk_go (M := (5, yX5_commonDivisor, cX5_commonDivisor, 6, (some .int), true, 2, nk_T65)) rfl rfl (Nat.le_of_ble_eq_true rfl) (fun K hK => ?_)
  show K 0 [some (.int (nI a)), some (.int (nI b)), none, none, none, none] [] D
  refine hK _ _ _ _ (hK _ _ _ _ (hK _ _ _ _ (hK _ _ _ _ (hK _ _ _ _ (hK _ _ _ _ (show K _ _ _ _ from ?_))))))
  have loop : ∀ m j x y, j + m = 64 → x < 2 ^ 31 → y < 2 ^ 31 → eu m x y = Nat.gcd a b → ∀ x5, K 7 [some (.int (nI a)), some (.int (nI b)), some (.int (nI x)), some (.int (nI y)), some (.int (nI j)), x5] [] D := by
    intro m
    induction m with
    | zero =>
      intro j x y hj hx hy he x5
      have hj : j = 64 := by omega
      subst hj
      refine hK _ _ _ _ (hK _ _ _ _ (show K _ _ _ _ from ?_))
      refine hK _ _ _ _ (nk_bt (nI_le (Nat.le_refl _) (by omega)) ?_)
      refine hK _ _ _ _ (show K _ _ _ _ from ?_)
      rw [← he] at h
      exact hK _ _ _ _ (And.intro rfl (h))
    | succ m ih =>
      intro j x y hj hx hy he x5
      refine hK _ _ _ _ (hK _ _ _ _ (show K _ _ _ _ from ?_))
      refine hK _ _ _ _ (nk_bf (nI_ge (by omega) (by omega)) ?_)
      refine hK _ _ _ _ (show K _ _ _ _ from ?_)
      refine hK _ _ _ _ (nk_eq (by omega) (by omega) (fun q => ?_) (fun q => ?_))
      · rw [eu, if_pos q] at he
        refine hK _ _ _ _ (show K _ _ _ _ from ?_)
        rw [← he] at h
        exact hK _ _ _ _ (And.intro rfl (h))
      · rw [eu, if_neg q] at he
        have hlt : x % y < y := Nat.mod_lt x (by omega)
        refine hK _ _ _ _ (hK _ _ _ _ (show K _ _ _ _ from ?_))
        refine hK _ _ _ _ (And.intro (nI_ne0 (by omega) (by omega)) (show K _ _ _ _ from ?_))
        rw [pk_rem hx (by omega) hy]
        refine hK _ _ _ _ (hK _ _ _ _ (hK _ _ _ _ (hK _ _ _ _ (hK _ _ _ _ (hK _ _ _ _ (hK _ _ _ _ (show K _ _ _ _ from ?_)))))))
        rw [nk_add]
        exact ih (j + 1) y (x % y) (by omega) hy (by omega) he _
  exact loop 64 0 a b (by omega) ha hb (eu_gcd 31 a b 64 hb (by decide)) _
theorem sx_weight {n co q : Nat} {ka : Nat → Nat} {r : Nat → Nat → Nat} (hx : XS D 6 n ka r) (hco : co < 64) (hq : q ≤ 10) (h : P (some (.int (nI (wt n ka r co q 64)))) D) : nk_run S (d + 6) 63 [.ref 0, .int (nI co), .int (nI q)] D P := by
  have hc6 := pcn6 hco
  refine nk_go (M := (5, yX5_weightOfPeace, cX5_weightOfPeace, 7, (some .int), false, 2, nk_T63)) rfl rfl (Nat.le_of_ble_eq_true rfl) (fun K hK => ?_)
  show K 0 [some (.ref 0), some (.int (nI co)), some (.int (nI q)), none, none, none, none] [] D
  refine hK _ _ _ _ (show K _ _ _ _ from ?_)
  refine hK _ _ _ _ (nk_stS rfl rfl rfl rfl ?_)
  refine sj_bitCount (by omega) ?_
  refine hK _ _ _ _ (hK _ _ _ _ (hK _ _ _ _ (hK _ _ _ _ (hK _ _ _ _ (show K _ _ _ _ from ?_)))))
  have loop : ∀ m j, j + m = 64 → ∀ x6, K 11 [some (.ref 0), some (.int (nI co)), some (.int (nI q)), some (.int (nI (pcn co))), some (.int (nI (wt n ka r co q j))), some (.int (nI j)), x6] [] D := by
    intro m
    induction m with
    | zero =>
      intro j hj x6
      have hj : j = 64 := by omega
      subst hj
      refine hK _ _ _ _ (hK _ _ _ _ (show K _ _ _ _ from ?_))
      refine hK _ _ _ _ (nk_bt (nI_le (Nat.le_refl _) (by omega)) ?_)
      refine hK _ _ _ _ (show K _ _ _ _ from ?_)
      exact hK _ _ _ _ (And.intro rfl (h))
    | succ m ih =>
      intro j hj x6
      have back := ih (j + 1) (by omega)
      have no : ¬ (evRoom j co = 0 ∧ tw n ka r j = 0) → K 69 [some (.ref 0), some (.int (nI co)), some (.int (nI q)), some (.int (nI (pcn co))), some (.int (nI (wt n ka r co q j))), some (.int (nI j)), x6] [] D := by
        intro e
        rw [wt, if_neg e, Nat.add_zero] at back
        refine hK _ _ _ _ (hK _ _ _ _ (show K _ _ _ _ from ?_))
        rw [nk_add]
        exact back _
      refine hK _ _ _ _ (hK _ _ _ _ (show K _ _ _ _ from ?_))
      refine hK _ _ _ _ (nk_bf (nI_ge (by omega) (by omega)) ?_)
      refine hK _ _ _ _ (hK _ _ _ _ (show K _ _ _ _ from ?_))
      refine hK _ _ _ _ (nk_stS rfl rfl rfl rfl ?_)
      refine sx_isPart (by omega) hco ?_
      refine hK _ _ _ _ (nk_beq (fun e => no (fun z => of_decide_eq_false e z.1)) (fun e => ?_))
      have e := of_decide_eq_true e
      have hsub := sub_pcn (show j < 64 by omega) hco e
      refine hK _ _ _ _ (hK _ _ _ _ (nk_GR rfl rfl rfl (hK _ _ _ _ (show K _ _ _ _ from ?_))))
      refine hK _ _ _ _ (nk_stV rfl rfl rfl rfl ?_)
      refine sx_clashOf isS6 hx (by omega) ?_
      have htw := tw_lt (n := n) (ka := ka) (r := r) (c := j) hx.1
      refine hK _ _ _ _ (nk_ne (by omega) (by omega) (fun e2 => no (fun z => e2 z.2)) (fun e2 => ?_))
      refine hK _ _ _ _ (show K _ _ _ _ from ?_)
      refine hK _ _ _ _ (nk_stS rfl rfl rfl rfl ?_)
      refine sj_bitCount (by omega) ?_
      refine hK _ _ _ _ (hK _ _ _ _ (hK _ _ _ _ (hK _ _ _ _ (show K _ _ _ _ from ?_))))
      refine hK _ _ _ _ (nk_stS rfl rfl rfl rfl ?_)
      refine sx_power (by omega) ?_
      refine hK _ _ _ _ (hK _ _ _ _ (hK _ _ _ _ (hK _ _ _ _ (hK _ _ _ _ (hK _ _ _ _ (show K _ _ _ _ from ?_))))))
      rw [nk_sub hq, nk_sub hsub]
      refine hK _ _ _ _ (nk_stS rfl rfl rfl rfl ?_)
      refine sx_power (by omega) ?_
      rw [wt, if_pos ⟨e, e2⟩] at back
      refine hK _ _ _ _ (hK _ _ _ _ (hK _ _ _ _ (hK _ _ _ _ (hK _ _ _ _ (show K _ _ _ _ from ?_)))))
      rw [nk_mul, nk_add, nk_add]
      exact back _
  exact loop 64 0 (by omega) _
theorem op_chance {x y w : Int32} (hr : REL D) (h : ∀ v D1, TH S (d + 20) 124 [.ref 52, .int x, .int y, .int w] v D1 → P (some (.int v)) D1) : nk_run S (d + 20) 60 [.ref 0, .int x, .int y, .int w] D P := by
  have hr0 := hr
  obtain ⟨n, ka, s, t, L, tx, u, pa, kp, c, se, ok, xr, mr⟩ := hr
  have hw := ok.1
  have hx := xr.1
  have hxs := hx.1
  have hn6 := hxs.1
  have hn := hxs.2.1
  have h64 := p64 hn6
  have hmk := mr.1
  have hms := MS_now mr.2.1 hw
  have hR : D 6 3 = nI s.2.1 := hx.2.1
  have mR : D 54 36 = nI s.2.1 := mr.2.1.2.1
  have hR64 : s.2.1 < 64 := by have := hw.2.2.1; omega
  refine nk_go (M := (5, yX5_chance, cX5_chance, 7, (some .int), false, 3, nk_T60)) rfl rfl (Nat.le_of_ble_eq_true rfl) (fun K hK => ?_)
  show K 0 [some (.ref 0), some (.int x), some (.int y), some (.int w), none, none, none] [] D
  refine hK _ _ _ _ (hK _ _ _ _ (nk_GR rfl rfl rfl (hK _ _ _ _ (show K _ _ _ _ from ?_))))
  refine hK _ _ _ _ (nk_stV rfl rfl rfl rfl ?_)
  refine sx_hasAll isS6 hn hn6 ?_
  refine hK _ _ _ _ (nk_bne (fun b => ?_) (fun b => ?_))
  · obtain ⟨co, hco, rfl⟩ := vld_of (by omega) b
    have hco64 : co < 64 := by omega
    have hc6 := pcn6 hco64
    have out : (decide (((0 : Nat) : Int) ≤ y.toInt ∧ y.toInt ≤ ((10 : Nat) : Int)) && decide (((0 : Nat) : Int) ≤ w.toInt ∧ w.toInt ≤ ((1 : Nat) : Int))) = false → K 33 [some (.ref 0), some (.int (nI co)), some (.int y), some (.int w), none, none, none] [] D := by
      intro hno
      refine hK _ _ _ _ (show K _ _ _ _ from ?_)
      refine hK _ _ _ _ (And.intro rfl (h _ _ ?_))
      refine nk_go (M := (6, yX6_chance, cX6_chance, 9, (some .int), false, 3, nk_T124)) rfl rfl (Nat.le_of_ble_eq_true rfl) (fun K hK => ?_)
      show K 0 [some (.ref 52), some (.int (nI co)), some (.int y), some (.int w), none, none, none, none, none] [] D
      refine hK _ _ _ _ (hK _ _ _ _ (show K _ _ _ _ from ?_))
      refine hK _ _ _ _ (nk_stV rfl rfl rfl rfl ?_)
      refine sm_arePeople hmk.2.1 hn6 ?_
      rw [b]
      refine hK _ _ _ _ (nk_bne (fun _ => ?_) (fun z => by cases z))
      refine hK _ _ _ _ (hK _ _ _ _ (hK _ _ _ _ (hK _ _ _ _ (show K _ _ _ _ from ?_))))
      refine hK _ _ _ _ (nk_stS rfl rfl rfl rfl ?_)
      refine sm_in2 (a := ((0 : Nat) : Int)) (b := ((10 : Nat) : Int)) rfl rfl ?_
      refine hK _ _ _ _ (nk_beq (fun e => ?_) (fun e => ?_))
      · refine hK _ _ _ _ (show K _ _ _ _ from ?_)
        exact hK _ _ _ _ (And.intro rfl (⟨rfl, hr0⟩))
      · rw [e, Bool.true_and] at hno
        refine hK _ _ _ _ (hK _ _ _ _ (hK _ _ _ _ (hK _ _ _ _ (show K _ _ _ _ from ?_))))
        refine hK _ _ _ _ (nk_stS rfl rfl rfl rfl ?_)
        refine sm_in2 (a := ((0 : Nat) : Int)) (b := ((1 : Nat) : Int)) rfl rfl ?_
        rw [hno]
        refine hK _ _ _ _ (nk_bne (fun z => by cases z) (fun _ => ?_))
        refine hK _ _ _ _ (show K _ _ _ _ from ?_)
        exact hK _ _ _ _ (And.intro rfl (⟨rfl, hr0⟩))
    refine hK _ _ _ _ (show K _ _ _ _ from ?_)
    rcases rg (lo := 0) (hi := 10) (by decide) (by decide) y with ⟨q, -, hq, rfl, hd1⟩ | ⟨hno, hd1⟩
    · refine hK _ _ _ _ (nk_bf (nI_pos (by omega)) ?_)
      refine hK _ _ _ _ (hK _ _ _ _ (show K _ _ _ _ from ?_))
      refine hK _ _ _ _ (nk_bf (nI_nlt hq (by omega)) ?_)
      refine hK _ _ _ _ (show K _ _ _ _ from ?_)
      rcases rg (lo := 0) (hi := 1) (by decide) (by decide) w with ⟨pt, -, hpt, rfl, hd2⟩ | ⟨hno, hd2⟩
      · refine hK _ _ _ _ (nk_bf (nI_pos (by omega)) ?_)
        refine hK _ _ _ _ (hK _ _ _ _ (show K _ _ _ _ from ?_))
        refine hK _ _ _ _ (nk_bt (nI_le hpt (by omega)) ?_)
        refine hK _ _ _ _ (hK _ _ _ _ (hK _ _ _ _ (show K _ _ _ _ from ?_)))
        refine hK _ _ _ _ (nk_stV rfl rfl rfl rfl ?_)
        refine sx_weight hxs hco64 hq ?_
        have hw64 := wt_le (n := n) (ka := ka) (r := s.1) hq hco64 64 (Nat.le_refl _)
        have hend := wt_end (n := n) (ka := ka) (r := s.1) (q := q) hco64 (63 - co) (by omega)
        rw [show co + 1 + (63 - co) = 64 by omega] at hend
        refine hK _ _ _ _ (hK _ _ _ _ (hK _ _ _ _ (show K _ _ _ _ from ?_)))
        refine hK _ _ _ _ (nk_stS rfl rfl rfl rfl ?_)
        refine sj_bitCount (by omega) ?_
        refine hK _ _ _ _ (nk_stS rfl rfl rfl rfl ?_)
        refine sx_power (by omega) ?_
        have hp6 : (10 : Nat) ^ pcn co ≤ 10 ^ 6 := Nat.pow_le_pow_right (by decide) hc6
        have hp0 : 0 < 10 ^ pcn co := Nat.pow_pos (by decide)
        refine hK _ _ _ _ (hK _ _ _ _ (hK _ _ _ _ (hK _ _ _ _ (show K _ _ _ _ from ?_))))
        refine hK _ _ _ _ (nk_stS rfl rfl rfl rfl ?_)
        refine sx_commonDivisor (by omega) (by omega) ?_
        have hg1 : 0 < Nat.gcd (wt n ka s.1 co q 64) (10 ^ pcn co) := Nat.gcd_pos_of_pos_right _ hp0
        have hg2 : Nat.gcd (wt n ka s.1 co q 64) (10 ^ pcn co) ≤ 10 ^ pcn co := Nat.gcd_le_right _ hp0
        rw [hend] at hg1 hg2 hw64 ⊢
        generalize hA : wt n ka s.1 co q (co + 1) = A0 at hg1 hg2 hw64 ⊢
        generalize hB : 10 ^ pcn co = B0 at hg1 hg2 hp6 hp0 ⊢
        generalize hG : Nat.gcd A0 B0 = G at hg1 hg2 ⊢
        -- the reference
        have mroad : TH S (d + 20) 124 [.ref 52, .int (nI co), .int (nI q), .int (nI pt)] (nI ((if pt = 0 then A0 else B0) / G)) D := by
          unfold TH
          refine nk_go (M := (6, yX6_chance, cX6_chance, 9, (some .int), false, 3, nk_T124)) rfl rfl (Nat.le_of_ble_eq_true rfl) (fun K hK => ?_)
          show K 0 [some (.ref 52), some (.int (nI co)), some (.int (nI q)), some (.int (nI pt)), none, none, none, none, none] [] D
          refine hK _ _ _ _ (hK _ _ _ _ (show K _ _ _ _ from ?_))
          refine hK _ _ _ _ (nk_stV rfl rfl rfl rfl ?_)
          refine sm_arePeople hmk.2.1 hn6 ?_
          rw [b]
          refine hK _ _ _ _ (nk_bne (fun _ => ?_) (fun z => by cases z))
          refine hK _ _ _ _ (hK _ _ _ _ (hK _ _ _ _ (hK _ _ _ _ (show K _ _ _ _ from ?_))))
          refine hK _ _ _ _ (nk_stS rfl rfl rfl rfl ?_)
          refine sm_in2 (a := ((0 : Nat) : Int)) (b := ((10 : Nat) : Int)) rfl rfl ?_
          rw [hd1]
          refine hK _ _ _ _ (nk_beq (fun z => by cases z) (fun _ => ?_))
          refine hK _ _ _ _ (hK _ _ _ _ (hK _ _ _ _ (hK _ _ _ _ (show K _ _ _ _ from ?_))))
          refine hK _ _ _ _ (nk_stS rfl rfl rfl rfl ?_)
          refine sm_in2 (a := ((0 : Nat) : Int)) (b := ((1 : Nat) : Int)) rfl rfl ?_
          rw [hd2]
          refine hK _ _ _ _ (nk_bne (fun _ => ?_) (fun z => by cases z))
          refine hK _ _ _ _ (hK _ _ _ _ (hK _ _ _ _ (hK _ _ _ _ (hK _ _ _ _ (hK _ _ _ _ (show K _ _ _ _ from ?_))))))
          -- Euclid
          have fin : ∀ x y, y < 2 ^ 31 → x < 2 ^ 31 → Nat.gcd x y = G → ∀ x8, K 170 [some (.ref 52), some (.int (nI co)), some (.int (nI q)), some (.int (nI pt)), some (.int (nI A0)), some (.int (nI B0)), some (.int (nI x)), some (.int (nI y)), x8] [] D := by
            intro x y
            induction y using Nat.strongRecOn generalizing x with
            | ind y ih =>
              intro hy hx hg x8
              refine hK _ _ _ _ (show K _ _ _ _ from ?_)
              refine hK _ _ _ _ (nk_eq (by omega) (by omega) (fun e => ?_) (fun e => ?_))
              · subst e
                rw [Nat.gcd_zero_right] at hg
                subst hg
                refine hK _ _ _ _ (show K _ _ _ _ from ?_)
                refine hK _ _ _ _ (nk_ne (by omega) (by omega) (fun e => ?_) (fun e => ?_))
                · refine hK _ _ _ _ (hK _ _ _ _ (show K _ _ _ _ from ?_))
                  refine hK _ _ _ _ (And.intro (nI_ne0 (by omega) (by omega)) (show K _ _ _ _ from ?_))
                  rw [pk_div (by omega) (by omega) (by omega)]
                  refine hK _ _ _ _ (And.intro rfl ⟨?_, hr0⟩)
                  rw [if_neg e]
                · refine hK _ _ _ _ (hK _ _ _ _ (show K _ _ _ _ from ?_))
                  refine hK _ _ _ _ (And.intro (nI_ne0 (by omega) (by omega)) (show K _ _ _ _ from ?_))
                  rw [pk_div (by omega) (by omega) (by omega)]
                  refine hK _ _ _ _ (show K _ _ _ _ from ?_)
                  refine hK _ _ _ _ (And.intro rfl ⟨?_, hr0⟩)
                  rw [if_pos e]
              · have hlt : x % y < y := Nat.mod_lt x (by omega)
                refine hK _ _ _ _ (hK _ _ _ _ (show K _ _ _ _ from ?_))
                refine hK _ _ _ _ (And.intro (nI_ne0 (by omega) (by omega)) (show K _ _ _ _ from ?_))
                rw [pk_rem hx (by omega) hy]
                refine hK _ _ _ _ (hK _ _ _ _ (hK _ _ _ _ (hK _ _ _ _ (hK _ _ _ _ (hK _ _ _ _ (show K _ _ _ _ from ?_))))))
                refine ih (x % y) hlt y (by omega) hy ?_ _
                rw [← hg, Nat.gcd_comm x y, Nat.gcd_rec y x]
                exact Nat.gcd_comm _ _
          -- the sum
          have sum : ∀ m j, j + m = co + 1 → ∀ x7 x8, K 70 [some (.ref 52), some (.int (nI co)), some (.int (nI q)), some (.int (nI pt)), some (.int (nI (wt n ka s.1 co q j))), some (.int (nI B0)), some (.int (nI j)), x7, x8] [] D := by
            intro m
            induction m with
            | zero =>
              intro j hj x7 x8
              have hj : j = co + 1 := by omega
              subst hj
              refine hK _ _ _ _ (hK _ _ _ _ (show K _ _ _ _ from ?_))
              refine hK _ _ _ _ (nk_bt (nI_lt (by omega) (by omega)) ?_)
              refine hK _ _ _ _ (hK _ _ _ _ (hK _ _ _ _ (hK _ _ _ _ (show K _ _ _ _ from ?_))))
              rw [hA]
              exact fin A0 B0 (by omega) (by omega) hG _
            | succ m ih =>
              intro j hj x7 x8
              have hj64 : j < 64 := by omega
              have back := ih (j + 1) (by omega)
              have hev := evRoom_lt (R := j) (L := co) hj64
              have no : ¬ (evRoom j co = 0 ∧ tw n ka s.1 j = 0) → K 156 [some (.ref 52), some (.int (nI co)), some (.int (nI q)), some (.int (nI pt)), some (.int (nI (wt n ka s.1 co q j))), some (.int (nI B0)), some (.int (nI j)), x7, x8] [] D := by
                intro e
                rw [wt, if_neg e, Nat.add_zero] at back
                refine hK _ _ _ _ (hK _ _ _ _ (show K _ _ _ _ from ?_))
                rw [nk_add]
                exact back _ _
              refine hK _ _ _ _ (hK _ _ _ _ (show K _ _ _ _ from ?_))
              refine hK _ _ _ _ (nk_bf (nI_nlt (by omega) (by omega)) ?_)
              refine hK _ _ _ _ (hK _ _ _ _ (hK _ _ _ _ (hK _ _ _ _ (hK _ _ _ _ (show K _ _ _ _ from ?_)))))
              rw [nk_andn hj64 hco64]
              refine hK _ _ _ _ (sub_bool (by omega) (fun e => no (fun z => e z.1)) (fun e => ?_))
              refine hK _ _ _ _ (hK _ _ _ _ (show K _ _ _ _ from ?_))
              refine hK _ _ _ _ (nk_stV rfl rfl rfl rfl ?_)
              refine sm_twoIn hmk hms hj64 ?_
              have htw := tw_lt (n := n) (ka := ka) (r := s.1) (c := j) hn6
              refine hK _ _ _ _ (nk_ne (by omega) (by omega) (fun e2 => no (fun z => e2 z.2)) (fun e2 => ?_))
              refine hK _ _ _ _ (hK _ _ _ _ (hK _ _ _ _ (hK _ _ _ _ (show K _ _ _ _ from ?_))))
              have hsb := sub_bit hj64 hco64 e
              have odds : ∀ m i, i + m = 6 → K 100 [some (.ref 52), some (.int (nI co)), some (.int (nI q)), some (.int (nI pt)), some (.int (nI (wt n ka s.1 co q j))), some (.int (nI B0)), some (.int (nI j)), some (.int (nI (wtm q (pcU j i) (pcU co i)))), some (.int (nI i))] [] D := by
                intro m
                induction m with
                | zero =>
                  intro i hi
                  have hi : i = 6 := by omega
                  subst hi
                  refine hK _ _ _ _ (hK _ _ _ _ (show K _ _ _ _ from ?_))
                  refine hK _ _ _ _ (nk_bt (nI_le (Nat.le_refl _) (by omega)) ?_)
                  rw [pcU6 hj64, pcU6 hco64]
                  rw [wt, if_pos ⟨e, e2⟩] at back
                  refine hK _ _ _ _ (hK _ _ _ _ (hK _ _ _ _ (hK _ _ _ _ (hK _ _ _ _ (hK _ _ _ _ (show K _ _ _ _ from ?_))))))
                  rw [nk_add, nk_add]
                  exact back _ _
                | succ m ih2 =>
                  intro i hi
                  have hpl := pcU_le hsb i (by omega)
                  have next := ih2 (i + 1) (by omega)
                  refine hK _ _ _ _ (hK _ _ _ _ (show K _ _ _ _ from ?_))
                  refine hK _ _ _ _ (nk_bf (nI_ge (by omega) (by omega)) ?_)
                  refine hK _ _ _ _ (hK _ _ _ _ (hK _ _ _ _ (show K _ _ _ _ from ?_)))
                  refine hK _ _ _ _ (nk_stS rfl rfl rfl rfl ?_)
                  refine sm_has (by omega) (by omega) ?_
                  refine hK _ _ _ _ (nk_bne (fun c1 => ?_) (fun c1 => ?_))
                  · refine hK _ _ _ _ (hK _ _ _ _ (show K _ _ _ _ from ?_))
                    refine hK _ _ _ _ (nk_stS rfl rfl rfl rfl ?_)
                    refine sm_has (by omega) (by omega) ?_
                    refine hK _ _ _ _ (nk_beq (fun c2 => ?_) (fun c2 => ?_))
                    · refine hK _ _ _ _ (hK _ _ _ _ (hK _ _ _ _ (hK _ _ _ _ (hK _ _ _ _ (hK _ _ _ _ (hK _ _ _ _ (show K _ _ _ _ from ?_)))))))
                      rw [nk_sub hq, nk_mul, nk_add]
                      rw [pcU, pcU, c1, c2] at next
                      have e3 : wtm q (pcU j i + false.toNat) (pcU co i + true.toNat) = wtm q (pcU j i) (pcU co i) * (10 - q) := by
                        unfold wtm
                        rw [Bool.toNat_false, Bool.toNat_true, Nat.add_zero, show pcU co i + 1 - pcU j i = (pcU co i - pcU j i) + 1 by omega, Nat.pow_succ, Nat.mul_assoc]
                      rw [e3] at next
                      exact next
                    · refine hK _ _ _ _ (hK _ _ _ _ (hK _ _ _ _ (hK _ _ _ _ (hK _ _ _ _ (hK _ _ _ _ (show K _ _ _ _ from ?_))))))
                      rw [nk_mul, nk_add]
                      rw [pcU, pcU, c1, c2] at next
                      have e3 : wtm q (pcU j i + true.toNat) (pcU co i + true.toNat) = wtm q (pcU j i) (pcU co i) * q := by
                        unfold wtm
                        rw [Bool.toNat_true, show pcU co i + 1 - (pcU j i + 1) = pcU co i - pcU j i by omega, Nat.pow_succ, Nat.mul_assoc, Nat.mul_comm q, ← Nat.mul_assoc]
                      rw [e3] at next
                      exact next
                  · have c2 : j.testBit i = false := by
                      cases z : j.testBit i
                      · rfl
                      · rw [hsb i (by omega) z] at c1; cases c1
                    refine hK _ _ _ _ (hK _ _ _ _ (hK _ _ _ _ (hK _ _ _ _ (hK _ _ _ _ (hK _ _ _ _ (show K _ _ _ _ from ?_))))))
                    rw [nk_mul, nk_add, Nat.mul_one]
                    rw [pcU, pcU, c1, c2, Bool.toNat_false, Nat.add_zero, Nat.add_zero] at next
                    exact next
              exact odds 6 0 (by omega)
          -- below
          have below : ∀ m j, j + m = pcn co → K 45 [some (.ref 52), some (.int (nI co)), some (.int (nI q)), some (.int (nI pt)), some (.int (nI 0)), some (.int (nI (10 ^ j))), some (.int (nI j)), none, none] [] D := by
            intro m
            induction m with
            | zero =>
              intro j hj
              have hj : j = pcn co := by omega
              subst hj
              refine hK _ _ _ _ (hK _ _ _ _ (show K _ _ _ _ from ?_))
              refine hK _ _ _ _ (nk_stS rfl rfl rfl rfl ?_)
              refine sm_ones (by omega) ?_
              refine hK _ _ _ _ (nk_bt (nI_le (Nat.le_refl _) (by omega)) ?_)
              refine hK _ _ _ _ (hK _ _ _ _ (show K _ _ _ _ from ?_))
              rw [hB]
              exact sum (co + 1) 0 (by omega) _ _
            | succ m ih =>
              intro j hj
              refine hK _ _ _ _ (hK _ _ _ _ (show K _ _ _ _ from ?_))
              refine hK _ _ _ _ (nk_stS rfl rfl rfl rfl ?_)
              refine sm_ones (by omega) ?_
              refine hK _ _ _ _ (nk_bf (nI_ge (by omega) (by omega)) ?_)
              refine hK _ _ _ _ (hK _ _ _ _ (hK _ _ _ _ (hK _ _ _ _ (hK _ _ _ _ (hK _ _ _ _ (show K _ _ _ _ from ?_))))))
              rw [nk_mul, nk_add, ← Nat.pow_succ]
              exact ih (j + 1) (by omega)
          exact below (pcn co) 0 (by omega)
        show K 63 _ _ _
        refine hK _ _ _ _ (hK _ _ _ _ (hK _ _ _ _ (show K _ _ _ _ from ?_)))
        have emax : (if nI 1 < nI G then nI G else nI 1) = nI G := by
          by_cases e : 1 < G
          · rw [if_pos (nI_lt e (by omega))]
          · rw [if_neg (nI_nlt (by omega) (by omega)), show G = 1 by omega]
        rw [emax]
        refine hK _ _ _ _ (nk_ne (by omega) (by omega) (fun e => ?_) (fun e => ?_))
        · rw [if_neg e] at mroad
          refine hK _ _ _ _ (hK _ _ _ _ (show K _ _ _ _ from ?_))
          refine hK _ _ _ _ (And.intro (nI_ne0 (by omega) (by omega)) (show K _ _ _ _ from ?_))
          rw [pk_div (by omega) (by omega) (by omega)]
          exact hK _ _ _ _ (And.intro rfl (h _ _ mroad))
        · rw [if_pos e] at mroad
          refine hK _ _ _ _ (hK _ _ _ _ (hK _ _ _ _ (show K _ _ _ _ from ?_)))
          refine hK _ _ _ _ (And.intro (nI_ne0 (by omega) (by omega)) (show K _ _ _ _ from ?_))
          rw [pk_div (by omega) (by omega) (by omega)]
          exact hK _ _ _ _ (And.intro rfl (h _ _ mroad))
      · have fin := out (by rw [hd2, Bool.and_false])
        rcases hno with h1 | ⟨h1, h2⟩
        · refine hK _ _ _ _ (nk_bt h1 ?_)
          exact fin
        · refine hK _ _ _ _ (nk_bf h1 ?_)
          refine hK _ _ _ _ (hK _ _ _ _ (show K _ _ _ _ from ?_))
          refine hK _ _ _ _ (nk_bf (fun z => absurd (Int32.lt_iff_toInt_lt.mp h2) (by have := Int32.le_iff_toInt_le.mp z; omega)) ?_)
          exact fin
    · have fin := out (by rw [hd1, Bool.false_and])
      rcases hno with h1 | ⟨h1, h2⟩
      · refine hK _ _ _ _ (nk_bt h1 ?_)
        exact fin
      · refine hK _ _ _ _ (nk_bf h1 ?_)
        refine hK _ _ _ _ (hK _ _ _ _ (show K _ _ _ _ from ?_))
        refine hK _ _ _ _ (nk_bt h2 ?_)
        exact fin
  · refine hK _ _ _ _ (show K _ _ _ _ from ?_)
    refine hK _ _ _ _ (And.intro rfl (h _ _ ?_))
    refine nk_go (M := (6, yX6_chance, cX6_chance, 9, (some .int), false, 3, nk_T124)) rfl rfl (Nat.le_of_ble_eq_true rfl) (fun K hK => ?_)
    show K 0 [some (.ref 52), some (.int x), some (.int y), some (.int w), none, none, none, none, none] [] D
    refine hK _ _ _ _ (hK _ _ _ _ (show K _ _ _ _ from ?_))
    refine hK _ _ _ _ (nk_stV rfl rfl rfl rfl ?_)
    refine sm_arePeople hmk.2.1 hn6 ?_
    rw [b]
    refine hK _ _ _ _ (nk_bne (fun z => by cases z) (fun _ => ?_))
    refine hK _ _ _ _ (show K _ _ _ _ from ?_)
    exact hK _ _ _ _ (And.intro rfl (⟨rfl, hr0⟩))
end NKO
