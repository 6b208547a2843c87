/-! ===== rooms ===== -/
theorem nk_back6 : ∀ p : Fin 6, ∀ a : Fin 64, a.val < 2 ^ p.val → evRoom (a.val ||| 2 ^ p.val) (2 ^ p.val) = a.val := by decide +kernel
theorem nI_max {a b : Nat} (ha : a < 2 ^ 31) (hb : b < 2 ^ 31) : (if nI a < nI b then nI b else nI a) = nI (max a b) := by
  by_cases h : a < b
  · rw [if_pos (nI_lt h hb), Nat.max_eq_right (by omega)]
  · rw [if_neg (nI_nlt (by omega) (by omega)), Nat.max_eq_left (by omega)]
section NKO
variable {S : nk_Sc} {d : Nat}
theorem sx_place {n co most : Nat} {ka : Nat → Nat} {r : Nat → Nat → Nat} (hco : co < 64) (hmo : most ≤ 6) : ∀ (m u : Nat) (f : Nat → Nat) (D : nk_D) (P : nk_P), m ≤ 6 → XS D 6 n ka r → (∀ k, k < 6 → D 51 k = nI (f k)) → (∀ k, k < 6 → f k < 2 ^ (6 - m)) → u ≤ most →
    (∀ q u' f' D', q < 6 ^ rmn co m → fin6 (tw n ka r) co m q u f = some (u', f') → u' ≤ most → (∀ q' u'' f'', q' < q → fin6 (tw n ka r) co m q' u f = some (u'', f'') → most < u'') → (∀ k, k < 6 → D' 51 k = nI (f' k)) → (∀ a b, a ≠ 51 → D' a b = D a b) → P (some (.int (bI true))) D') →
    (∀ D', (∀ q u'' f'', q < 6 ^ rmn co m → fin6 (tw n ka r) co m q u f = some (u'', f'') → most < u'') → (∀ k, k < 6 → D' 51 k = nI (f k)) → (∀ a b, a ≠ 51 → D' a b = D a b) → P (some (.int (bI false))) D') →
    nk_run S (d + m + 6) 3 [.ref 50, .ref 6, .int (nI co), .int (nI (6 - m)), .int (nI u), .int (nI most)] D P := by
  intro m
  induction m with
  | zero =>
    intro u f D P hm hx hf hf2 hu h1 h0
    refine nk_go (M := (1, yX1_place, cX1_place, 8, (some .boolean), false, 5, nk_T3)) rfl rfl (Nat.le_of_ble_eq_true rfl) (fun K hK => ?_)
    show K 0 [some (.ref 50), some (.ref 6), some (.int (nI co)), some (.int (nI 6)), some (.int (nI u)), some (.int (nI most)), none, none] [] D
    refine hK _ _ _ _ (hK _ _ _ _ (show K _ _ _ _ from ?_))
    refine hK _ _ _ _ (nk_bf (nI_nlt (Nat.le_refl _) (by omega)) ?_)
    refine hK _ _ _ _ (show K _ _ _ _ from ?_)
    exact hK _ _ _ _ (And.intro rfl (h1 0 u f D (by rw [rmn]; decide) (by rw [fin6]) hu (fun q' _ _ hq' => absurd hq' (by omega)) hf (fun _ _ _ => rfl)))
  | succ m ih =>
    intro u f D P hm hx hf hf2 hu h1 h0
    have e5 : 6 - (m + 1) = 5 - m := by omega
    rw [e5] at hf2 ⊢
    refine nk_go (M := (1, yX1_place, cX1_place, 8, (some .boolean), false, 5, nk_T3)) rfl rfl (Nat.le_of_ble_eq_true rfl) (fun K hK => ?_)
    show K 0 [some (.ref 50), some (.ref 6), some (.int (nI co)), some (.int (nI (5 - m))), some (.int (nI u)), some (.int (nI most)), none, none] [] D
    refine hK _ _ _ _ (hK _ _ _ _ (show K _ _ _ _ from ?_))
    refine hK _ _ _ _ (nk_bt (nI_lt (by omega) (by omega)) ?_)
    refine hK _ _ _ _ (hK _ _ _ _ (show K _ _ _ _ from ?_))
    refine hK _ _ _ _ (nk_stS rfl rfl rfl rfl ?_)
    refine sx_isIn (by omega) (by omega) ?_
    refine hK _ _ _ _ (nk_bne (fun b => ?_) (fun b => ?_))
    · have hp64 : 2 ^ (5 - m) < 64 := Nat.lt_of_le_of_lt (Nat.pow_le_pow_right (by decide) (show 5 - m ≤ 5 by omega)) (by decide)
      have hw6 : 6 ^ rmn co (m + 1) = 6 * 6 ^ rmn co m := by rw [rmn, b, Bool.toNat_true, Nat.pow_succ, Nat.mul_comm]
      have hwp := w_pos (rmn co m)
      refine hK _ _ _ _ (hK _ _ _ _ (hK _ _ _ _ (hK _ _ _ _ (hK _ _ _ _ (hK _ _ _ _ (show K _ _ _ _ from ?_))))))
      rw [nk_one (by omega)]
      have loop : ∀ z k D2, k + z = 7 → (∀ i, i < 6 → D2 51 i = nI (f i)) → (∀ a b, a ≠ 51 → D2 a b = D a b) → (∀ q u'' f'', q < k * 6 ^ rmn co m → q < 6 ^ rmn co (m + 1) → fin6 (tw n ka r) co (m + 1) q u f = some (u'', f'') → most < u'') → K 38 [some (.ref 50), some (.ref 6), some (.int (nI co)), some (.int (nI (5 - m))), some (.int (nI u)), some (.int (nI most)), some (.int (nI (2 ^ (5 - m)))), some (.int (nI k))] [] D2 := by
        intro z
        induction z with
        | zero =>
          intro k D2 hk g1 g2 g3
          have hk : k = 7 := by omega
          subst hk
          refine hK _ _ _ _ (hK _ _ _ _ (show K _ _ _ _ from ?_))
          refine hK _ _ _ _ (nk_bt (nI_lt (by omega) (by omega)) ?_)
          refine hK _ _ _ _ (show K _ _ _ _ from ?_)
          exact hK _ _ _ _ (And.intro rfl (h0 D2 (fun q u'' f'' hq he => g3 q u'' f'' (by omega) hq he) g1 g2))
        | succ z ih2 =>
          intro k D2 hk g1 g2 g3
          have out : (u < k ∨ most ≤ k ∨ 6 ≤ k) → K 130 [some (.ref 50), some (.ref 6), some (.int (nI co)), some (.int (nI (5 - m))), some (.int (nI u)), some (.int (nI most)), some (.int (nI (2 ^ (5 - m)))), some (.int (nI k))] [] D2 := by
            intro ho
            refine hK _ _ _ _ (show K _ _ _ _ from ?_)
            refine hK _ _ _ _ (And.intro rfl (h0 D2 (fun q u'' f'' hq he => ?_) g1 g2))
            by_cases hl : q < k * 6 ^ rmn co m
            · exact g3 q u'' f'' hl hq he
            · have hd : k ≤ q / 6 ^ rmn co m := (Nat.le_div_iff_mul_le hwp).mpr (by omega)
              have hd6 : q / 6 ^ rmn co m < 6 := (Nat.div_lt_iff_lt_mul hwp).mpr (by omega)
              rw [fin6, if_pos b] at he
              split at he
              · next hz =>
                have := fin_le _ _ _ _ _ _ he
                have := Nat.le_max_right u (q / 6 ^ rmn co m + 1)
                omega
              · cases he
          refine hK _ _ _ _ (hK _ _ _ _ (show K _ _ _ _ from ?_))
          refine hK _ _ _ _ (nk_gt (by omega) (by omega) (fun c1 => out (by omega)) (fun c1 => ?_))
          refine hK _ _ _ _ (hK _ _ _ _ (show K _ _ _ _ from ?_))
          refine hK _ _ _ _ (nk_ge (by omega) (by omega) (fun c2 => out (by omega)) (fun c2 => ?_))
          refine hK _ _ _ _ (hK _ _ _ _ (show K _ _ _ _ from ?_))
          refine hK _ _ _ _ (nk_bf (nI_ge (show k < 6 by omega) (by omega)) ?_)
          have hk6 : k < 6 := by omega
          have hfk := hf2 k hk6
          have hor : f k ||| 2 ^ (5 - m) < 64 := Nat.or_lt_two_pow (n := 6) (by omega) hp64
          refine hK _ _ _ _ (hK _ _ _ _ (nk_GR rfl rfl rfl (hK _ _ _ _ (hK _ _ _ _ (show K _ _ _ _ from ?_)))))
          refine hK _ _ _ _ (nk_AL rfl rfl (j := k) rfl hk6 (show K _ _ _ _ from ?_))
          rw [g1 k hk6]
          refine hK _ _ _ _ (hK _ _ _ _ (show K _ _ _ _ from ?_))
          rw [nk_or]
          refine hK _ _ _ _ (nk_AS rfl rfl (j := k) rfl hk6 (show K _ _ _ _ from ?_))
          have s1 : nk_up D2 51 k (nI (f k ||| 2 ^ (5 - m))) 51 k = nI (f k ||| 2 ^ (5 - m)) := by simp [nk_up]
          have s2 : ∀ i, i < 6 → nk_up D2 51 k (nI (f k ||| 2 ^ (5 - m))) 51 i = nI (updF f k (2 ^ (5 - m)) i) := fun i hi => by
            unfold updF
            by_cases e : i = k
            · simp [nk_up, e]
            · simp [nk_up, e, g1 i hi]
          have s3 : ∀ a b, a ≠ 51 → nk_up D2 51 k (nI (f k ||| 2 ^ (5 - m))) a b = D a b := fun a b ha => by simp [nk_up, ha, g2 a b ha]
          generalize nk_up D2 51 k (nI (f k ||| 2 ^ (5 - m))) = D3 at s1 s2 s3 ⊢
          have hx3 : XS D3 6 n ka r := ⟨hx.1, by rw [s3 _ _ (by omega)]; exact hx.2.1, fun p hp => by rw [s3 _ _ (by omega)]; exact hx.2.2.1 p hp, fun p q hp hq => by rw [s3 _ _ (by omega)]; exact hx.2.2.2 p q hp hq⟩
          have next : ∀ D4, (∀ i, i < 6 → D4 51 i = nI (updF f k (2 ^ (5 - m)) i)) → (∀ a b, a ≠ 51 → D4 a b = D a b) → (∀ q u'' f'', q < (k + 1) * 6 ^ rmn co m → q < 6 ^ rmn co (m + 1) → fin6 (tw n ka r) co (m + 1) q u f = some (u'', f'') → most < u'') → K 110 [some (.ref 50), some (.ref 6), some (.int (nI co)), some (.int (nI (5 - m))), some (.int (nI u)), some (.int (nI most)), some (.int (nI (2 ^ (5 - m)))), some (.int (nI k))] [] D4 := by
            intro D4 t1 t2 t3
            refine hK _ _ _ _ (hK _ _ _ _ (nk_GR rfl rfl rfl (hK _ _ _ _ (hK _ _ _ _ (show K _ _ _ _ from ?_)))))
            refine hK _ _ _ _ (nk_AL rfl rfl (j := k) rfl hk6 (show K _ _ _ _ from ?_))
            rw [t1 k hk6, show updF f k (2 ^ (5 - m)) k = f k ||| 2 ^ (5 - m) by simp [updF]]
            refine hK _ _ _ _ (hK _ _ _ _ (hK _ _ _ _ (hK _ _ _ _ (show K _ _ _ _ from ?_))))
            rw [nk_andn hor hp64, nk_back6 ⟨5 - m, by omega⟩ ⟨f k, by omega⟩ hfk]
            refine hK _ _ _ _ (nk_AS rfl rfl (j := k) rfl hk6 (show K _ _ _ _ from ?_))
            refine hK _ _ _ _ (hK _ _ _ _ (show K _ _ _ _ from ?_))
            rw [nk_add]
            refine ih2 (k + 1) _ (by omega) (fun i hi => ?_) (fun a b ha => by simp [nk_up, ha, t2 a b ha]) t3
            by_cases e : i = k
            · simp [nk_up, e]
            · have := t1 i hi
              unfold updF at this
              rw [if_neg e] at this
              simp [nk_up, e, this]
          have split : ∀ q, ¬ q < k * 6 ^ rmn co m → q < (k + 1) * 6 ^ rmn co m → ∃ q1, q1 < 6 ^ rmn co m ∧ q = k * 6 ^ rmn co m + q1 := fun q h3 h4 => ⟨q - k * 6 ^ rmn co m, by rw [Nat.succ_mul] at h4; omega, by omega⟩
          refine hK _ _ _ _ (hK _ _ _ _ (hK _ _ _ _ (nk_GR rfl rfl rfl (hK _ _ _ _ (show K _ _ _ _ from ?_)))))
          refine hK _ _ _ _ (nk_AL rfl rfl (j := k) rfl hk6 (show K _ _ _ _ from ?_))
          rw [s1]
          refine hK _ _ _ _ (nk_stV rfl rfl rfl rfl ?_)
          refine sx_clashOf isS6 hx3 hor ?_
          have htw := tw_lt (n := n) (ka := ka) (r := r) (c := f k ||| 2 ^ (5 - m)) hx.1
          refine hK _ _ _ _ (nk_ne (by omega) (by omega) (fun c3 => ?_) (fun c3 => ?_))
          · refine next D3 s2 s3 (fun q u'' f'' hq hq6 he => ?_)
            by_cases hl : q < k * 6 ^ rmn co m
            · exact g3 q u'' f'' hl hq6 he
            · obtain ⟨q1, hq1, rfl⟩ := split q hl hq
              rw [fin_at b hq1, if_neg (fun w => c3 w.2)] at he
              cases he
          · refine hK _ _ _ _ (hK _ _ _ _ (hK _ _ _ _ (hK _ _ _ _ (hK _ _ _ _ (hK _ _ _ _ (hK _ _ _ _ (hK _ _ _ _ (hK _ _ _ _ (hK _ _ _ _ (hK _ _ _ _ (hK _ _ _ _ (show K _ _ _ _ from ?_))))))))))))
            rw [nk_add, nk_add, nI_max (by omega) (by omega), show 5 - m + 1 = 6 - m by omega]
            refine hK _ _ _ _ (nk_stV rfl rfl rfl rfl ?_)
            refine ih (max u (k + 1)) (updF f k (2 ^ (5 - m))) D3 _ (by omega) hx3 s2 (fun i hi => ?_) (by omega) (fun q u' f' D4 hq he hle hmin t1 t2 => ?_) (fun D4 hall t1 t2 => ?_)
            · have h2 : 2 ^ (6 - m) = 2 * 2 ^ (5 - m) := by rw [show 6 - m = (5 - m) + 1 by omega, Nat.pow_succ, Nat.mul_comm]
              have := hf2 i hi
              unfold updF
              split
              · exact Nat.or_lt_two_pow (by omega) (by omega)
              · omega
            · refine hK _ _ _ _ (nk_beq (fun w => by cases w) (fun _ => ?_))
              refine hK _ _ _ _ (show K _ _ _ _ from ?_)
              refine hK _ _ _ _ (And.intro rfl (h1 (k * 6 ^ rmn co m + q) u' f' D4 ?_ ?_ hle (fun q' u'' f'' hq' he' => ?_) t1 (fun a b ha => by rw [t2 a b ha, s3 a b ha])))
              · have : k * 6 ^ rmn co m ≤ 5 * 6 ^ rmn co m := Nat.mul_le_mul_right _ (by omega)
                omega
              · rw [fin_at b hq, if_pos ⟨c1, c3⟩]
                exact he
              · have : k * 6 ^ rmn co m ≤ 5 * 6 ^ rmn co m := Nat.mul_le_mul_right _ (by omega)
                by_cases hl : q' < k * 6 ^ rmn co m
                · exact g3 q' u'' f'' hl (by omega) he'
                · obtain ⟨q1, hq1, rfl⟩ := split q' hl (by rw [Nat.succ_mul]; omega)
                  rw [fin_at b hq1, if_pos ⟨c1, c3⟩] at he'
                  exact hmin q1 u'' f'' (by omega) he'
            · refine hK _ _ _ _ (nk_beq (fun _ => ?_) (fun w => by cases w))
              refine next D4 t1 (fun a b ha => by rw [t2 a b ha, s3 a b ha]) (fun q u'' f'' hq hq6 he => ?_)
              by_cases hl : q < k * 6 ^ rmn co m
              · exact g3 q u'' f'' hl hq6 he
              · obtain ⟨q1, hq1, rfl⟩ := split q hl hq
                rw [fin_at b hq1, if_pos ⟨c1, c3⟩] at he
                exact hall q1 u'' f'' hq1 he
      exact loop 7 0 D (by omega) hf (fun _ _ _ => rfl) (fun q u'' f'' hq => absurd hq (by omega))
    · have hr1 : rmn co (m + 1) = rmn co m := by rw [rmn, b]; rfl
      have hf1 : ∀ q, fin6 (tw n ka r) co (m + 1) q u f = fin6 (tw n ka r) co m q u f := fun q => by rw [fin6, if_neg (by rw [b]; decide)]
      rw [hr1] at h1 h0
      simp only [hf1] at h1 h0
      refine hK _ _ _ _ (hK _ _ _ _ (hK _ _ _ _ (hK _ _ _ _ (hK _ _ _ _ (hK _ _ _ _ (hK _ _ _ _ (hK _ _ _ _ (show K _ _ _ _ from ?_))))))))
      rw [nk_add, show 5 - m + 1 = 6 - m by omega]
      refine hK _ _ _ _ (nk_stV rfl rfl rfl rfl ?_)
      refine ih u f D _ (by omega) hx hf (fun k hk => Nat.lt_of_lt_of_le (hf2 k hk) (Nat.pow_le_pow_right (by decide) (by omega))) hu (fun q u' f' D' a1 a2 a3 a4 a5 a6 => ?_) (fun D' a1 a2 a3 => ?_)
      · refine hK _ _ _ _ (And.intro rfl (h1 q u' f' D' a1 a2 a3 a4 a5 a6))
      · refine hK _ _ _ _ (And.intro rfl (h0 D' a1 a2 a3))
theorem sx_divide {n co : Nat} {ka : Nat → Nat} {r : Nat → Nat → Nat} {D : nk_D} {P : nk_P} (hco : co < 64) (hx : XS D 6 n ka r) (hT : ∀ p, p < 6 → co.testBit p = true → tw n ka r (2 ^ p) = 0)
    (h : ∀ L q f' D', L ≤ 6 → q < 6 ^ rmn co 6 → fin6 (tw n ka r) co 6 q 0 (fun _ => 0) = some (L, f') → (∀ q' u'' f'', q' < q → fin6 (tw n ka r) co 6 q' 0 (fun _ => 0) = some (u'', f'') → L < u'') → (∀ q' u'' f'', q' < 6 ^ rmn co 6 → fin6 (tw n ka r) co 6 q' 0 (fun _ => 0) = some (u'', f'') → L ≤ u'') → (∀ k, k < 6 → D' 51 k = nI (f' k)) → (∀ a b, a ≠ 51 → D' a b = D a b) → P (some (.int (nI L))) D') :
    nk_run S (d + 13) 2 [.ref 50, .ref 6, .int (nI co)] D P := by
  obtain ⟨q0, u0, f0, x1, x2, x3⟩ := fin_ex (T := tw n ka r) (co := co) hT 6 0 (fun _ => 0) (by omega) (fun _ _ => rfl)
  refine nk_go (M := (1, yX1_divide, cX1_divide, 5, (some .int), false, 2, nk_T2)) rfl rfl (Nat.le_of_ble_eq_true rfl) (fun K hK => ?_)
  show K 0 [some (.ref 50), some (.ref 6), some (.int (nI co)), none, none] [] D
  refine hK _ _ _ _ (hK _ _ _ _ (show K _ _ _ _ from ?_))
  have loop : ∀ z w D2, w + z = 7 → (∀ a b, a ≠ 51 → D2 a b = D a b) → (∀ q' u'' f'', q' < 6 ^ rmn co 6 → fin6 (tw n ka r) co 6 q' 0 (fun _ => 0) = some (u'', f'') → w ≤ u'') → ∀ x4, K 2 [some (.ref 50), some (.ref 6), some (.int (nI co)), some (.int (nI w)), x4] [] D2 := by
    intro z
    induction z with
    | zero =>
      intro w D2 hw g1 g2 x4
      have := g2 q0 u0 f0 x1 x2
      omega
    | succ z ih =>
      intro w D2 hw g1 g2 x4
      refine hK _ _ _ _ (hK _ _ _ _ (show K _ _ _ _ from ?_))
      refine hK _ _ _ _ (nk_bf (nI_nlt (by omega) (by omega)) ?_)
      refine hK _ _ _ _ (hK _ _ _ _ (show K _ _ _ _ from ?_))
      have zero : ∀ z j D3, j + z = 6 → (∀ i, i < j → D3 51 i = nI 0) → (∀ a b, a ≠ 51 → D3 a b = D a b) → K 11 [some (.ref 50), some (.ref 6), some (.int (nI co)), some (.int (nI w)), some (.int (nI j))] [] D3 := by
        intro z
        induction z with
        | zero =>
          intro j D3 hj t1 t2
          have hj : j = 6 := by omega
          subst hj
          have hx3 : XS D3 6 n ka r := ⟨hx.1, by rw [t2 _ _ (by omega)]; exact hx.2.1, fun p hp => by rw [t2 _ _ (by omega)]; exact hx.2.2.1 p hp, fun p q hp hq => by rw [t2 _ _ (by omega)]; exact hx.2.2.2 p q hp hq⟩
          refine hK _ _ _ _ (hK _ _ _ _ (show K _ _ _ _ from ?_))
          refine hK _ _ _ _ (nk_bt (nI_le (Nat.le_refl _) (by omega)) ?_)
          refine hK _ _ _ _ (hK _ _ _ _ (hK _ _ _ _ (hK _ _ _ _ (hK _ _ _ _ (hK _ _ _ _ (show K _ _ _ _ from ?_))))))
          refine hK _ _ _ _ (nk_stV rfl rfl rfl rfl ?_)
          refine sx_place hco (by omega) 6 0 (fun _ => 0) D3 _ (by omega) hx3 t1 (fun k hk => by decide) (by omega) (fun q u' f' D4 a1 a2 a3 a4 a5 a6 => ?_) (fun D4 a1 a2 a3 => ?_)
          · refine hK _ _ _ _ (nk_beq (fun w => by cases w) (fun _ => ?_))
            have : u' = w := by
              have := g2 q u' f' a1 a2
              omega
            subst this
            refine hK _ _ _ _ (show K _ _ _ _ from ?_)
            exact hK _ _ _ _ (And.intro rfl (h u' q f' D4 (by omega) a1 a2 a4 g2 a5 (fun a b ha => by rw [a6 a b ha, t2 a b ha])))
          · refine hK _ _ _ _ (nk_beq (fun _ => ?_) (fun w => by cases w))
            refine hK _ _ _ _ (hK _ _ _ _ (show K _ _ _ _ from ?_))
            rw [nk_add]
            exact ih (w + 1) D4 (by omega) (fun a b ha => by rw [a3 a b ha, t2 a b ha]) (fun q' u'' f'' b1 b2 => a1 q' u'' f'' b1 b2) _
        | succ z ih3 =>
          intro j D3 hj t1 t2
          refine hK _ _ _ _ (hK _ _ _ _ (show K _ _ _ _ from ?_))
          refine hK _ _ _ _ (nk_bf (nI_ge (by omega) (by omega)) ?_)
          refine hK _ _ _ _ (hK _ _ _ _ (nk_GR rfl rfl rfl (hK _ _ _ _ (hK _ _ _ _ (show K _ _ _ _ from ?_)))))
          refine hK _ _ _ _ (nk_AS rfl rfl (j := j) rfl (by omega) (show K _ _ _ _ from ?_))
          refine hK _ _ _ _ (hK _ _ _ _ (show K _ _ _ _ from ?_))
          rw [nk_add]
          refine ih3 (j + 1) _ (by omega) (fun i hi => ?_) (fun a b ha => by simp [nk_up, ha, t2 a b ha])
          by_cases e : i = j
          · simp [nk_up, e]
          · simp [nk_up, e, t1 i (by omega)]
      exact zero 6 0 D2 (by omega) (fun i hi => absurd hi (by omega)) g1
  exact loop 7 0 D (by omega) (fun _ _ _ => rfl) (fun _ _ _ _ _ => by omega) _
theorem sx_roomOf {p g : Nat} {f : Nat → Nat} {b : Bool} {D : nk_D} {P : nk_P} (hp : p < 6) (hg : g < 6) (hf : ∀ k, k < 6 → D 51 k = nI (f k)) (hf2 : ∀ k, f k < 64) (hb : ∀ k, (f k).testBit p = (b && decide (g = k))) (h : P (some (.int (if b = true then nI g else -1))) D) : nk_run S (d + 2) 4 [.ref 50, .int (nI p)] D P := by
  refine nk_go (M := (1, yX1_roomOf, cX1_roomOf, 3, (some .int), false, 1, nk_T4)) rfl rfl (Nat.le_of_ble_eq_true rfl) (fun K hK => ?_)
  show K 0 [some (.ref 50), some (.int (nI p)), none] [] D
  refine hK _ _ _ _ (hK _ _ _ _ (show K _ _ _ _ from ?_))
  have loop : ∀ z k, k + z = 6 → (b = true → k ≤ g) → K 2 [some (.ref 50), some (.int (nI p)), some (.int (nI k))] [] D := by
    intro z
    induction z with
    | zero =>
      intro k hk hle
      have hk : k = 6 := by omega
      subst hk
      have : b = false := by
        cases b
        · rfl
        · have := hle rfl; omega
      subst this
      refine hK _ _ _ _ (hK _ _ _ _ (show K _ _ _ _ from ?_))
      refine hK _ _ _ _ (nk_bt (nI_le (Nat.le_refl _) (by omega)) ?_)
      refine hK _ _ _ _ (show K _ _ _ _ from ?_)
      exact hK _ _ _ _ (And.intro rfl (h))
    | succ z ih =>
      intro k hk hle
      have := hf2 k
      refine hK _ _ _ _ (hK _ _ _ _ (show K _ _ _ _ from ?_))
      refine hK _ _ _ _ (nk_bf (nI_ge (by omega) (by omega)) ?_)
      refine hK _ _ _ _ (hK _ _ _ _ (nk_GR rfl rfl rfl (hK _ _ _ _ (show K _ _ _ _ from ?_))))
      refine hK _ _ _ _ (nk_AL rfl rfl (j := k) rfl (by omega) (show K _ _ _ _ from ?_))
      rw [hf k (by omega)]
      refine hK _ _ _ _ (show K _ _ _ _ from ?_)
      refine hK _ _ _ _ (nk_stS rfl rfl rfl rfl ?_)
      refine sx_isIn (by omega) (by omega) ?_
      rw [hb]
      refine hK _ _ _ _ (nk_beq (fun e => ?_) (fun e => ?_))
      · refine hK _ _ _ _ (hK _ _ _ _ (show K _ _ _ _ from ?_))
        rw [nk_add]
        refine ih (k + 1) (by omega) (fun q => ?_)
        rw [q, Bool.true_and, decide_eq_false_iff_not] at e
        have := hle q
        omega
      · rw [Bool.and_eq_true, decide_eq_true_eq] at e
        rw [if_pos e.1, e.2] at h
        refine hK _ _ _ _ (show K _ _ _ _ from ?_)
        exact hK _ _ _ _ (And.intro rfl (h))
  exact loop 6 0 (by omega) (fun _ => by omega)
end NKO
