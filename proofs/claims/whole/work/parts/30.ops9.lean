/-! ===== may, was ===== -/
theorem MS_put {D : nk_D} {n : Nat} {r : Nat → Nat → Nat} {p q v : Nat} (hn : n ≤ 6) (hm : ∀ y z, y < n → z < n → ¬ (y = p ∧ z = q) → D 54 (6 * y + z) = nI (r y z)) (hq : q < n) : ∀ y z, y < n → z < n → nk_up D 54 (6 * p + q) (nI v) 54 (6 * y + z) = nI (setR r p q v y z) := by
  intro y z hy hz
  by_cases e : y = p ∧ z = q
  · obtain ⟨rfl, rfl⟩ := e
    simp [nk_up, setR]
  · have e2 : ¬ 6 * y + z = 6 * p + q := fun w => e (by omega)
    simp only [nk_up, setR, e2, and_false, if_false, e]
    exact hm y z hy hz e
section NKO
variable {S : nk_Sc} {d : Nat} {D : nk_D} {P : nk_P}
theorem op_may {x y : Int32} (hr : REL D) (h : ∀ v D1, TH S (d + 20) 115 [.ref 52, .int x, .int y] v D1 → P (some (.int v)) D1) : nk_run S (d + 20) 54 [.ref 0, .int x, .int y] D P := by
  have hr0 := hr
  obtain ⟨n, ka, s, t, L, tx, u, pa, kp, c, se, ok, xr, mr⟩ := hr
  have hw := ok.1
  have hx := xr.1
  have hxs := hx.1
  have hn6 := hxs.1
  have hn := hxs.2.1
  have h64 := p64 hn6
  have hmk := mr.1
  have hms := MS_now mr.2.1 hw
  have hR : D 6 3 = nI s.2.1 := hx.2.1
  have mR : D 54 36 = nI s.2.1 := mr.2.1.2.1
  have hR64 : s.2.1 < 64 := by have := hw.2.2.1; omega
  refine nk_go (M := (5, yX5_may, cX5_may, 6, (some .int), false, 2, nk_T54)) rfl rfl (Nat.le_of_ble_eq_true rfl) (fun K hK => ?_)
  show K 0 [some (.ref 0), some (.int x), some (.int y), none, none, none] [] D
  refine hK _ _ _ _ (hK _ _ _ _ (nk_GR rfl rfl rfl (hK _ _ _ _ (hK _ _ _ _ (show K _ _ _ _ from ?_)))))
  refine hK _ _ _ _ (nk_stV rfl rfl rfl rfl ?_)
  refine sx_hasPair isS6 hn hn6 ?_
  refine hK _ _ _ _ (nk_bne (fun b => ?_) (fun b => ?_))
  · obtain ⟨p, q, hp, hq, hpq, rfl, rfl⟩ := pair_of hn6 b
    have hco : s.2.1 ||| 2 ^ p ||| 2 ^ q < 64 := Nat.or_lt_two_pow (n := 6) (Nat.or_lt_two_pow (n := 6) hR64 (Nat.pow_lt_pow_right (by decide) (by omega))) (Nat.pow_lt_pow_right (by decide) (by omega))
    refine hK _ _ _ _ (hK _ _ _ _ (nk_GR rfl rfl rfl (hK _ _ _ _ (hK _ _ _ _ (nk_GR rfl rfl rfl (show K _ _ _ _ from ?_))))))
    refine hK _ _ _ _ (nk_stV rfl rfl rfl rfl ?_)
    refine sx_copyFrom isS9 isS6 (by omega) (fun D1 g1 g2 g3 g4 => ?_)
    have hc := XSc_cp g1 g2 g3 hx
    have fr1 : ∀ a b, ¬ (9 ≤ a ∧ a < 12) → D1 a b = D a b := fun a b hab => g4 a b (by omega) (by omega) (by omega)
    have hR1 : D1 6 3 = nI s.2.1 := by rw [fr1 _ _ (by omega)]; exact hR
    show K 26 _ _ _
    refine hK _ _ _ _ (hK _ _ _ _ (nk_GR rfl rfl rfl (hK _ _ _ _ (nk_GI rfl rfl rfl (hK _ _ _ _ (hK _ _ _ _ (hK _ _ _ _ (hK _ _ _ _ (hK _ _ _ _ (hK _ _ _ _ (hK _ _ _ _ (hK _ _ _ _ (hK _ _ _ _ (hK _ _ _ _ (hK _ _ _ _ (hK _ _ _ _ (hK _ _ _ _ (show K _ _ _ _ from ?_))))))))))))))))))
    rw [hR1, nk_one (by omega), nk_one (by omega), nk_or, nk_or]
    generalize hcoe : s.2.1 ||| 2 ^ p ||| 2 ^ q = co at hco ⊢
    have loop : ∀ m j D2 r', j + m = 7 → XS D2 9 n ka r' → (∀ w, setR r' p q w = setR s.1 p q w) → (∀ a b, ¬ (9 ≤ a ∧ a < 12) → D2 a b = D a b) → K 48 [some (.ref 0), some (.int (nI p)), some (.int (nI q)), some (.int (nI co)), some (.int (nI (mayU n ka s.1 p q co j))), some (.int (nI (j + 1)))] [] D2 := by
      intro m
      induction m with
      | zero =>
        intro j D2 r' hj k1 k2 k3
        have hj : j = 7 := by omega
        subst hj
        refine hK _ _ _ _ (hK _ _ _ _ (show K _ _ _ _ from ?_))
        refine hK _ _ _ _ (nk_bt (nI_lt (by omega) (by omega)) ?_)
        refine hK _ _ _ _ (show K _ _ _ _ from ?_)
        refine hK _ _ _ _ (And.intro rfl (h _ _ ?_))
        have hms2 : ∀ y z, y < n → z < n → D2 54 (6 * y + z) = nI (s.1 y z) := fun y z hy hz => by rw [k3 _ _ (by omega)]; exact (hms.1 y z hy hz).1
        refine nk_go (M := (6, yX6_may, cX6_may, 7, (some .int), false, 2, nk_T115)) rfl rfl (Nat.le_of_ble_eq_true rfl) (fun K hK => ?_)
        show K 0 [some (.ref 52), some (.int (nI p)), some (.int (nI q)), none, none, none, none] [] D2
        refine hK _ _ _ _ (hK _ _ _ _ (hK _ _ _ _ (show K _ _ _ _ from ?_)))
        refine hK _ _ _ _ (nk_stV rfl rfl rfl rfl ?_)
        refine sm_areTwo (by rw [k3 _ _ (by omega)]; exact hmk.2.1) hn6 ?_
        rw [b]
        refine hK _ _ _ _ (nk_bne (fun _ => ?_) (fun z => by cases z))
        refine hK _ _ _ _ (hK _ _ _ _ (hK _ _ _ _ (hK _ _ _ _ (hK _ _ _ _ (hK _ _ _ _ (hK _ _ _ _ (hK _ _ _ _ (nk_GR rfl rfl rfl (hK _ _ _ _ (show K _ _ _ _ from ?_))))))))))
        rw [nk_ix]
        refine hK _ _ _ _ (nk_AL rfl rfl rfl (show 6 * p + q < 38 by omega) (show K _ _ _ _ from ?_))
        rw [hms2 p q hp hq]
        refine hK _ _ _ _ (hK _ _ _ _ (hK _ _ _ _ (hK _ _ _ _ (hK _ _ _ _ (show K _ _ _ _ from ?_)))))
        have loop2 : ∀ m j D3, j + m = 7 → (∀ a b, ¬ (a = 54 ∧ b = 6 * p + q) → D3 a b = D2 a b) → K 33 [some (.ref 52), some (.int (nI p)), some (.int (nI q)), some (.int (nI (6 * p + q))), some (.int (nI (s.1 p q))), some (.int (nI (mayU n ka s.1 p q co j))), some (.int (nI (j + 1)))] [] D3 := by
          intro m
          induction m with
          | zero =>
            intro j D3 hj w1
            have hj : j = 7 := by omega
            subst hj
            refine hK _ _ _ _ (hK _ _ _ _ (show K _ _ _ _ from ?_))
            refine hK _ _ _ _ (nk_bt (nI_lt (by omega) (by omega)) ?_)
            refine hK _ _ _ _ (hK _ _ _ _ (nk_GR rfl rfl rfl (hK _ _ _ _ (hK _ _ _ _ (show K _ _ _ _ from ?_)))))
            refine hK _ _ _ _ (nk_AS rfl rfl rfl (show 6 * p + q < 38 by omega) (show K _ _ _ _ from ?_))
            refine hK _ _ _ _ (show K _ _ _ _ from ?_)
            have same : ∀ a b, nk_up D3 54 (6 * p + q) (nI (s.1 p q)) a b = D2 a b := fun a b => by
              by_cases e : a = 54 ∧ b = 6 * p + q
              · obtain ⟨rfl, rfl⟩ := e
                simp [nk_up, hms2 p q hp hq]
              · simp only [nk_up, e, if_false]
                exact w1 a b e
            refine hK _ _ _ _ (And.intro rfl ⟨rfl, REL_g hr0 (fun a b h1 h2 h3 => by rw [same, k3 a b h2]) (fun a b h1 h2 h3 h4 h5 h6 h7 => by rw [same, k3 a b (by omega)])⟩)
          | succ m ih =>
            intro j D3 hj w1
            refine hK _ _ _ _ (hK _ _ _ _ (show K _ _ _ _ from ?_))
            refine hK _ _ _ _ (nk_bf (nI_nlt (by omega) (by omega)) ?_)
            refine hK _ _ _ _ (hK _ _ _ _ (nk_GR rfl rfl rfl (hK _ _ _ _ (hK _ _ _ _ (show K _ _ _ _ from ?_)))))
            refine hK _ _ _ _ (nk_AS rfl rfl rfl (show 6 * p + q < 38 by omega) (show K _ _ _ _ from ?_))
            have hms4 : MS (nk_up D3 54 (6 * p + q) (nI (j + 1))) n (setR s.1 p q (j + 1)) := ⟨fun y z hy hz => ⟨MS_put hn6 (fun y z hy hz hne => by rw [w1 54 _ (fun w => hne (by omega))]; exact hms2 y z hy hz) hq y z hy hz, setR_le hw.1 (by omega) y z hy hz⟩, setR_self hw.2.1 hpq⟩
            · have hmk4 : MK (nk_up D3 54 (6 * p + q) (nI (j + 1))) n ka := MK_of (fun b => by simp [nk_up, w1 53 b (by omega), k3 53 b (by omega)]) hmk
              have hR4 : nk_up D3 54 (6 * p + q) (nI (j + 1)) 54 36 = nI s.2.1 := by
                have e : ¬ 36 = 6 * p + q := by omega
                simp only [nk_up, e, and_false, if_false]
                rw [w1 54 36 (by omega), k3 54 36 (by omega)]
                exact mR
              have fr4 : ∀ a b, ¬ (a = 54 ∧ b = 6 * p + q) → nk_up D3 54 (6 * p + q) (nI (j + 1)) a b = D2 a b := fun a b e => by simp only [nk_up, e, if_false]; exact w1 a b e
              generalize nk_up D3 54 (6 * p + q) (nI (j + 1)) = D4 at hms4 hmk4 hR4 fr4 ⊢
              refine hK _ _ _ _ (hK _ _ _ _ (hK _ _ _ _ (hK _ _ _ _ (nk_GR rfl rfl rfl (hK _ _ _ _ (show K _ _ _ _ from ?_))))))
              refine hK _ _ _ _ (nk_AL rfl rfl (j := 36) rfl (by decide) (show K _ _ _ _ from ?_))
              rw [hR4]
              refine hK _ _ _ _ (hK _ _ _ _ (hK _ _ _ _ (hK _ _ _ _ (hK _ _ _ _ (hK _ _ _ _ (hK _ _ _ _ (hK _ _ _ _ (show K _ _ _ _ from ?_))))))))
              rw [nk_one (by omega), nk_one (by omega), nk_or, nk_or, hcoe]
              refine hK _ _ _ _ (nk_stV rfl rfl rfl rfl ?_)
              refine sm_twoIn hmk4 hms4 hco ?_
              have htw := tw_lt (n := n) (ka := ka) (r := setR s.1 p q (j + 1)) (c := co) hn6
              have back := ih (j + 1) D4 (by omega) fr4
              refine hK _ _ _ _ (nk_ne (by omega) (by omega) (fun e => ?_) (fun e => ?_))
              · refine hK _ _ _ _ (hK _ _ _ _ (hK _ _ _ _ (hK _ _ _ _ (hK _ _ _ _ (show K _ _ _ _ from ?_)))))
                rw [nk_or, nk_add]
                rw [mayU, if_neg e] at back
                exact back
              · refine hK _ _ _ _ (hK _ _ _ _ (hK _ _ _ _ (hK _ _ _ _ (hK _ _ _ _ (hK _ _ _ _ (hK _ _ _ _ (hK _ _ _ _ (show K _ _ _ _ from ?_))))))))
                rw [nk_one (by omega), nk_or, nk_add]
                rw [mayU, if_pos e] at back
                exact back
        exact loop2 7 0 D2 (by omega) (fun a b _ => rfl)
      | succ m ih =>
        intro j D2 r' hj k1 k2 k3
        refine hK _ _ _ _ (hK _ _ _ _ (show K _ _ _ _ from ?_))
        refine hK _ _ _ _ (nk_bf (nI_nlt (by omega) (by omega)) ?_)
        refine hK _ _ _ _ (hK _ _ _ _ (nk_GR rfl rfl rfl (hK _ _ _ _ (hK _ _ _ _ (hK _ _ _ _ (show K _ _ _ _ from ?_))))))
        refine hK _ _ _ _ (nk_stV rfl rfl rfl rfl ?_)
        refine sx_setRole isS9 k1.2.1 hn6 (fun z => by rw [b] at z; cases z) (fun p' q' hp' hq' _ e1 e2 => ?_)
        have e1 := (nI_eq (by omega) (by omega)).mp e1
        have e2 := (nI_eq (by omega) (by omega)).mp e2
        subst e1; subst e2
        have hx3 := XS_set (p := p) k1 hq (show j + 1 ≤ 7 by omega)
        rw [k2] at hx3
        have fr3 : ∀ a b, ¬ (9 ≤ a ∧ a < 12) → nk_up D2 (9 + 2) (p * 6 + q) (nI (j + 1)) a b = D a b := fun a b hab => by simp [nk_up, show ¬ a = 11 by omega, k3 a b hab]
        generalize nk_up D2 (9 + 2) (p * 6 + q) (nI (j + 1)) = D3 at hx3 fr3 ⊢
        show K 66 _ _ _
        refine hK _ _ _ _ (hK _ _ _ _ (nk_GR rfl rfl rfl (hK _ _ _ _ (show K _ _ _ _ from ?_))))
        refine hK _ _ _ _ (nk_stV rfl rfl rfl rfl ?_)
        refine sx_clashOf isS9 hx3 hco ?_
        have htw := tw_lt (n := n) (ka := ka) (r := setR s.1 p q (j + 1)) (c := co) hn6
        have back := ih (j + 1) D3 (setR s.1 p q (j + 1)) (by omega) hx3 (fun w => setR_setR _ _ _ _ _) fr3
        refine hK _ _ _ _ (nk_ne (by omega) (by omega) (fun e => ?_) (fun e => ?_))
        · refine hK _ _ _ _ (hK _ _ _ _ (show K _ _ _ _ from ?_))
          rw [nk_add]
          rw [mayU, if_neg e, Nat.or_zero] at back
          exact back
        · refine hK _ _ _ _ (hK _ _ _ _ (hK _ _ _ _ (hK _ _ _ _ (hK _ _ _ _ (hK _ _ _ _ (hK _ _ _ _ (hK _ _ _ _ (show K _ _ _ _ from ?_))))))))
          rw [nk_one (by omega), nk_or, nk_add]
          rw [mayU, if_pos e] at back
          exact back
    exact loop 7 0 D1 s.1 (by omega) hc.1 (fun w => rfl) fr1
  · refine hK _ _ _ _ (show K _ _ _ _ from ?_)
    refine hK _ _ _ _ (And.intro rfl (h _ _ ?_))
    refine nk_go (M := (6, yX6_may, cX6_may, 7, (some .int), false, 2, nk_T115)) rfl rfl (Nat.le_of_ble_eq_true rfl) (fun K hK => ?_)
    show K 0 [some (.ref 52), some (.int x), some (.int y), none, none, none, none] [] D
    refine hK _ _ _ _ (hK _ _ _ _ (hK _ _ _ _ (show K _ _ _ _ from ?_)))
    refine hK _ _ _ _ (nk_stV rfl rfl rfl rfl ?_)
    refine sm_areTwo hmk.2.1 hn6 ?_
    rw [b]
    refine hK _ _ _ _ (nk_bne (fun z => by cases z) (fun _ => ?_))
    refine hK _ _ _ _ (show K _ _ _ _ from ?_)
    exact hK _ _ _ _ (And.intro rfl (⟨rfl, hr0⟩))
theorem op_was {x y : Int32} (hr : REL D) (h : ∀ v D1, TH S (d + 20) 123 [.ref 52, .int x, .int y] v D1 → P (some (.int v)) D1) : nk_run S (d + 20) 59 [.ref 0, .int x, .int y] D P := by
  have hr0 := hr
  obtain ⟨n, ka, s, t, L, tx, u, pa, kp, c, se, ok, xr, mr⟩ := hr
  have hw := ok.1
  have hx := xr.1
  have hxs := hx.1
  have hn6 := hxs.1
  have hn := hxs.2.1
  have h64 := p64 hn6
  have hmk := mr.1
  have hms := MS_now mr.2.1 hw
  have hR : D 6 3 = nI s.2.1 := hx.2.1
  have mR : D 54 36 = nI s.2.1 := mr.2.1.2.1
  have hR64 : s.2.1 < 64 := by have := hw.2.2.1; omega
  have xE := xr.2.2.2.2.2
  have mE := mr.2.2.2.2.2.2
  have hc6 := ok.2.2.2.2.2.1
  have hse := ok.2.2.2.2.2.2
  refine nk_go (M := (5, yX5_was, cX5_was, 5, (some .int), false, 2, nk_T59)) rfl rfl (Nat.le_of_ble_eq_true rfl) (fun K hK => ?_)
  show K 0 [some (.ref 0), some (.int x), some (.int y), none, none] [] D
  refine hK _ _ _ _ (hK _ _ _ _ (nk_GR rfl rfl rfl (hK _ _ _ _ (hK _ _ _ _ (show K _ _ _ _ from ?_)))))
  refine hK _ _ _ _ (nk_stV rfl rfl rfl rfl ?_)
  refine sx_hasPair isS6 hn hn6 ?_
  refine hK _ _ _ _ (nk_bne (fun b => ?_) (fun b => ?_))
  · obtain ⟨p, q, hp, hq, hpq, rfl, rfl⟩ := pair_of hn6 b
    refine hK _ _ _ _ (hK _ _ _ _ (nk_GR rfl rfl rfl (hK _ _ _ _ (hK _ _ _ _ (nk_GR rfl rfl rfl (show K _ _ _ _ from ?_))))))
    refine hK _ _ _ _ (nk_stV rfl rfl rfl rfl ?_)
    refine sx_copyFrom isS9 isS6 (by omega) (fun D1 g1 g2 g3 g4 => ?_)
    have hc := XSc_cp g1 g2 g3 hx
    have fr1 : ∀ a b, ¬ (9 ≤ a ∧ a < 12) → D1 a b = D a b := fun a b hab => g4 a b (by omega) (by omega) (by omega)
    show K 26 _ _ _
    refine hK _ _ _ _ (hK _ _ _ _ (hK _ _ _ _ (hK _ _ _ _ (show K _ _ _ _ from ?_))))
    have loop : ∀ m j D2 r', j + m = 8 → XS D2 9 n ka r' → (∀ w, setR r' p q w = setR s.1 p q w) → (∀ a b, ¬ (9 ≤ a ∧ a < 12) → D2 a b = D a b) → K 31 [some (.ref 0), some (.int (nI p)), some (.int (nI q)), some (.int (nI (wasU n s.1 p q c se j))), some (.int (nI j))] [] D2 := by
      intro m
      induction m with
      | zero =>
        intro j D2 r' hj k1 k2 k3
        have hj : j = 8 := by omega
        subst hj
        refine hK _ _ _ _ (hK _ _ _ _ (show K _ _ _ _ from ?_))
        refine hK _ _ _ _ (nk_bt (nI_lt (by omega) (by omega)) ?_)
        refine hK _ _ _ _ (show K _ _ _ _ from ?_)
        refine hK _ _ _ _ (And.intro rfl (h _ _ ?_))
        have hms2 : ∀ y z, y < n → z < n → D2 54 (6 * y + z) = nI (s.1 y z) := fun y z hy hz => by rw [k3 _ _ (by omega)]; exact (hms.1 y z hy hz).1
        refine nk_go (M := (6, yX6_was, cX6_was, 9, (some .int), false, 2, nk_T123)) rfl rfl (Nat.le_of_ble_eq_true rfl) (fun K hK => ?_)
        show K 0 [some (.ref 52), some (.int (nI p)), some (.int (nI q)), none, none, none, none, none, none] [] D2
        refine hK _ _ _ _ (hK _ _ _ _ (hK _ _ _ _ (show K _ _ _ _ from ?_)))
        refine hK _ _ _ _ (nk_stV rfl rfl rfl rfl ?_)
        refine sm_areTwo (by rw [k3 _ _ (by omega)]; exact hmk.2.1) hn6 ?_
        rw [b]
        refine hK _ _ _ _ (nk_bne (fun _ => ?_) (fun z => by cases z))
        refine hK _ _ _ _ (hK _ _ _ _ (hK _ _ _ _ (hK _ _ _ _ (hK _ _ _ _ (hK _ _ _ _ (hK _ _ _ _ (hK _ _ _ _ (nk_GR rfl rfl rfl (hK _ _ _ _ (show K _ _ _ _ from ?_))))))))))
        rw [nk_ix]
        refine hK _ _ _ _ (nk_AL rfl rfl rfl (show 6 * p + q < 38 by omega) (show K _ _ _ _ from ?_))
        rw [hms2 p q hp hq]
        refine hK _ _ _ _ (hK _ _ _ _ (hK _ _ _ _ (hK _ _ _ _ (hK _ _ _ _ (show K _ _ _ _ from ?_)))))
        have loop2 : ∀ m j D3, j + m = 8 → (∀ a b, ¬ (a = 54 ∧ b = 6 * p + q) → D3 a b = D2 a b) → ∀ x7 x8, K 33 [some (.ref 52), some (.int (nI p)), some (.int (nI q)), some (.int (nI (6 * p + q))), some (.int (nI (s.1 p q))), some (.int (nI (wasU n s.1 p q c se j))), some (.int (nI j)), x7, x8] [] D3 := by
          intro m
          induction m with
          | zero =>
            intro j D3 hj w1 x7 x8
            have hj : j = 8 := by omega
            subst hj
            refine hK _ _ _ _ (hK _ _ _ _ (show K _ _ _ _ from ?_))
            refine hK _ _ _ _ (nk_bt (nI_lt (by omega) (by omega)) ?_)
            refine hK _ _ _ _ (hK _ _ _ _ (nk_GR rfl rfl rfl (hK _ _ _ _ (hK _ _ _ _ (show K _ _ _ _ from ?_)))))
            refine hK _ _ _ _ (nk_AS rfl rfl rfl (show 6 * p + q < 38 by omega) (show K _ _ _ _ from ?_))
            refine hK _ _ _ _ (show K _ _ _ _ from ?_)
            have same : ∀ a b, nk_up D3 54 (6 * p + q) (nI (s.1 p q)) a b = D2 a b := fun a b => by
              by_cases e : a = 54 ∧ b = 6 * p + q
              · obtain ⟨rfl, rfl⟩ := e
                simp [nk_up, hms2 p q hp hq]
              · simp only [nk_up, e, if_false]
                exact w1 a b e
            refine hK _ _ _ _ (And.intro rfl ⟨rfl, REL_g hr0 (fun a b h1 h2 h3 => by rw [same, k3 a b h2]) (fun a b h1 h2 h3 h4 h5 h6 h7 => by rw [same, k3 a b (by omega)])⟩)
          | succ m ih =>
            intro j D3 hj w1 x7 x8
            refine hK _ _ _ _ (hK _ _ _ _ (show K _ _ _ _ from ?_))
            refine hK _ _ _ _ (nk_bf (nI_nlt (by omega) (by omega)) ?_)
            refine hK _ _ _ _ (hK _ _ _ _ (nk_GR rfl rfl rfl (hK _ _ _ _ (hK _ _ _ _ (show K _ _ _ _ from ?_)))))
            refine hK _ _ _ _ (nk_AS rfl rfl rfl (show 6 * p + q < 38 by omega) (show K _ _ _ _ from ?_))
            have hms4 : MS (nk_up D3 54 (6 * p + q) (nI j)) n (setR s.1 p q j) := ⟨fun y z hy hz => ⟨MS_put hn6 (fun y z hy hz hne => by rw [w1 54 _ (fun w => hne (by omega))]; exact hms2 y z hy hz) hq y z hy hz, setR_le hw.1 (by omega) y z hy hz⟩, setR_self hw.2.1 hpq⟩
            have hmk4 : MK (nk_up D3 54 (6 * p + q) (nI j)) n ka := MK_of (fun b => by simp [nk_up, w1 53 b (by omega), k3 53 b (by omega)]) hmk
            have fr4 : ∀ a b, ¬ (a = 54 ∧ b = 6 * p + q) → nk_up D3 54 (6 * p + q) (nI j) a b = D2 a b := fun a b e => by simp only [nk_up, e, if_false]; exact w1 a b e
            generalize nk_up D3 54 (6 * p + q) (nI j) = D4 at hms4 hmk4 fr4 ⊢
            have m18 : D4 52 18 = nI c := by rw [fr4 _ _ (by omega), k3 _ _ (by omega)]; exact mE.1
            have back := ih (j + 1) D4 (by omega) fr4
            refine hK _ _ _ _ (hK _ _ _ _ (hK _ _ _ _ (hK _ _ _ _ (show K _ _ _ _ from ?_))))
            have inner : ∀ z i, i + z = c → K 54 [some (.ref 52), some (.int (nI p)), some (.int (nI q)), some (.int (nI (6 * p + q))), some (.int (nI (s.1 p q))), some (.int (nI (wasU n s.1 p q c se j))), some (.int (nI j)), some (.int (bI (fitU n (setR s.1 p q j) se i))), some (.int (nI i))] [] D4 := by
              intro z
              induction z with
              | zero =>
                intro i hi
                have hi : i = c := by omega
                subst hi
                refine hK _ _ _ _ (hK _ _ _ _ (hK _ _ _ _ (nk_GI rfl rfl rfl (show K _ _ _ _ from ?_))))
                rw [m18]
                refine hK _ _ _ _ (nk_bt (nI_le (Nat.le_refl _) (by omega)) ?_)
                refine hK _ _ _ _ (hK _ _ _ _ (show K _ _ _ _ from ?_))
                refine hK _ _ _ _ (nk_beq (fun e => ?_) (fun e => ?_))
                · refine hK _ _ _ _ (hK _ _ _ _ (hK _ _ _ _ (hK _ _ _ _ (hK _ _ _ _ (show K _ _ _ _ from ?_)))))
                  rw [nk_or, nk_add]
                  rw [wasU, if_neg (by rw [e]; decide)] at back
                  exact back _ _
                · refine hK _ _ _ _ (hK _ _ _ _ (hK _ _ _ _ (hK _ _ _ _ (hK _ _ _ _ (hK _ _ _ _ (hK _ _ _ _ (hK _ _ _ _ (show K _ _ _ _ from ?_))))))))
                  rw [nk_one (by omega), nk_or, nk_add]
                  rw [wasU, if_pos e] at back
                  exact back _ _
              | succ z ih2 =>
                intro i hi
                have hic : i < c := by omega
                obtain ⟨s1, s2, s3⟩ := hse i hic
                obtain ⟨e1, e2, e3⟩ := mE.2 i hic
                have back2 := ih2 (i + 1) (by omega)
                refine hK _ _ _ _ (hK _ _ _ _ (hK _ _ _ _ (nk_GI rfl rfl rfl (show K _ _ _ _ from ?_))))
                rw [m18]
                refine hK _ _ _ _ (nk_bf (nI_ge hic (by omega)) ?_)
                refine hK _ _ _ _ (show K _ _ _ _ from ?_)
                refine hK _ _ _ _ (nk_beq (fun e => ?_) (fun e => ?_))
                · refine hK _ _ _ _ (hK _ _ _ _ (hK _ _ _ _ (hK _ _ _ _ (show K _ _ _ _ from ?_))))
                  rw [nk_add]
                  rw [fitU, e, Bool.false_and] at back2
                  exact back2
                · refine hK _ _ _ _ (hK _ _ _ _ (show K _ _ _ _ from ?_))
                  refine hK _ _ _ _ (nk_stV rfl rfl rfl rfl ?_)
                  refine sm_isSo (e := se i) hmk4 hms4 (by omega) (by rw [fr4 _ _ (by omega), k3 _ _ (by omega)]; exact e1) (by rw [fr4 _ _ (by omega), k3 _ _ (by omega)]; exact e2) (by rw [fr4 _ _ (by omega), k3 _ _ (by omega)]; exact e3) s1 s2 s3 ?_
                  rw [fitU, e, Bool.true_and] at back2
                  refine hK _ _ _ _ (nk_beq (fun e2 => ?_) (fun e2 => ?_))
                  · refine hK _ _ _ _ (hK _ _ _ _ (hK _ _ _ _ (hK _ _ _ _ (show K _ _ _ _ from ?_))))
                    rw [nk_add]
                    rw [e2] at back2
                    exact back2
                  · refine hK _ _ _ _ (hK _ _ _ _ (hK _ _ _ _ (hK _ _ _ _ (hK _ _ _ _ (show K _ _ _ _ from ?_)))))
                    rw [nk_add]
                    rw [e2] at back2
                    exact back2
            exact inner c 0 (by omega)
        exact loop2 8 0 D2 (by omega) (fun a b _ => rfl) _ _
      | succ m ih =>
        intro j D2 r' hj k1 k2 k3
        refine hK _ _ _ _ (hK _ _ _ _ (show K _ _ _ _ from ?_))
        refine hK _ _ _ _ (nk_bf (nI_nlt (by omega) (by omega)) ?_)
        refine hK _ _ _ _ (hK _ _ _ _ (nk_GR rfl rfl rfl (hK _ _ _ _ (hK _ _ _ _ (hK _ _ _ _ (show K _ _ _ _ from ?_))))))
        refine hK _ _ _ _ (nk_stV rfl rfl rfl rfl ?_)
        refine sx_setRole isS9 k1.2.1 hn6 (fun z => by rw [b] at z; cases z) (fun p' q' hp' hq' _ e1 e2 => ?_)
        have e1 := (nI_eq (by omega) (by omega)).mp e1
        have e2 := (nI_eq (by omega) (by omega)).mp e2
        subst e1; subst e2
        have hx3 := XS_set (p := p) k1 hq (show j ≤ 7 by omega)
        rw [k2] at hx3
        have fr3 : ∀ a b, ¬ (9 ≤ a ∧ a < 12) → nk_up D2 (9 + 2) (p * 6 + q) (nI j) a b = D a b := fun a b hab => by simp [nk_up, show ¬ a = 11 by omega, k3 a b hab]
        generalize nk_up D2 (9 + 2) (p * 6 + q) (nI j) = D3 at hx3 fr3 ⊢
        show K 49 _ _ _
        refine hK _ _ _ _ (hK _ _ _ _ (nk_GR rfl rfl rfl (hK _ _ _ _ (hK _ _ _ _ (nk_GR rfl rfl rfl (show K _ _ _ _ from ?_))))))
        refine hK _ _ _ _ (nk_stV rfl rfl rfl rfl ?_)
        refine sx_fit isS9 hx3 (XE_of (fun a b h1 h2 => fr3 a b (by omega)) xE) hc6 hse ?_
        have back := ih (j + 1) D3 (setR s.1 p q j) (by omega) hx3 (fun w => setR_setR _ _ _ _ _) fr3
        refine hK _ _ _ _ (nk_beq (fun e => ?_) (fun e => ?_))
        · refine hK _ _ _ _ (hK _ _ _ _ (show K _ _ _ _ from ?_))
          rw [nk_add]
          rw [wasU, if_neg (by rw [e]; decide), Nat.or_zero] at back
          exact back
        · refine hK _ _ _ _ (hK _ _ _ _ (hK _ _ _ _ (hK _ _ _ _ (hK _ _ _ _ (hK _ _ _ _ (hK _ _ _ _ (hK _ _ _ _ (show K _ _ _ _ from ?_))))))))
          rw [nk_one (by omega), nk_or, nk_add]
          rw [wasU, if_pos e] at back
          exact back
    exact loop 8 0 D1 s.1 (by omega) hc.1 (fun w => rfl) fr1
  · refine hK _ _ _ _ (show K _ _ _ _ from ?_)
    refine hK _ _ _ _ (And.intro rfl (h _ _ ?_))
    refine nk_go (M := (6, yX6_was, cX6_was, 9, (some .int), false, 2, nk_T123)) rfl rfl (Nat.le_of_ble_eq_true rfl) (fun K hK => ?_)
    show K 0 [some (.ref 52), some (.int x), some (.int y), none, none, none, none, none, none] [] D
    refine hK _ _ _ _ (hK _ _ _ _ (hK _ _ _ _ (show K _ _ _ _ from ?_)))
    refine hK _ _ _ _ (nk_stV rfl rfl rfl rfl ?_)
    refine sm_areTwo hmk.2.1 hn6 ?_
    rw [b]
    refine hK _ _ _ _ (nk_bne (fun z => by cases z) (fun _ => ?_))
    refine hK _ _ _ _ (show K _ _ _ _ from ?_)
    exact hK _ _ _ _ (And.intro rfl (⟨rfl, hr0⟩))
end NKO
