/-! ===== undo, keep, back, stays, learn, seen, forget ===== -/
theorem REL_g {D D' : nk_D} (h : REL D) (h1 : ∀ a b, a < 50 → ¬ (9 ≤ a ∧ a < 12) → ¬ (a = 1 ∧ b ≠ 1) → D' a b = D a b) (h2 : ∀ a b, 52 ≤ a → (a = 52 → b = 3 ∨ b = 11 ∨ b = 18) → a ≠ 56 → a ≠ 58 → a ≠ 61 → a ≠ 62 → (a = 54 → b < 38) → D' a b = D a b) : REL D' := by
  obtain ⟨n, ka, s, t, L, tx, u, pa, kp, c, se, ok, xr, mr⟩ := h
  exact ⟨n, ka, s, t, L, tx, u, pa, kp, c, se, ok, XR_of h1 xr, MR_of h2 mr⟩
def lnU (r : Nat → Nat → Nat) (p w : Nat) : Nat → Nat
  | 0 => 0
  | j + 1 => lnU r p w j ||| (if r p j = w then 2 ^ j else 0)
section NKO
variable {S : nk_Sc} {d : Nat} {D : nk_D} {P : nk_P}
theorem op_undo (hr : REL D) (h : ∀ v D1, TH S (d + 20) 107 [.ref 52] v D1 → P (some (.int v)) D1) : nk_run S (d + 20) 47 [.ref 0] D P := by
  have hr0 := hr
  obtain ⟨n, ka, s, t, L, tx, u, pa, kp, c, se, ok, xr, mr⟩ := hr
  have hw := ok.1
  have hx := xr.1
  have hxs := hx.1
  have hn6 := hxs.1
  have hn := hxs.2.1
  have h64 := p64 hn6
  have hmk := mr.1
  have hms := MS_now mr.2.1 hw
  have hR : D 6 3 = nI s.2.1 := hx.2.1
  have mR : D 54 36 = nI s.2.1 := mr.2.1.2.1
  have hR64 : s.2.1 < 64 := by have := hw.2.2.1; omega
  have hu8 := ok.2.2.2.1.1
  have mU := mr.2.2.2.2.1
  refine nk_go (M := (5, yX5_undo, cX5_undo, 1, (some .int), false, 0, nk_T47)) rfl rfl (Nat.le_of_ble_eq_true rfl) (fun K hK => ?_)
  show K 0 [some (.ref 0)] [] D
  refine hK _ _ _ _ (hK _ _ _ _ (nk_GR rfl rfl rfl (hK _ _ _ _ (hK _ _ _ _ (nk_GR rfl rfl rfl (show K _ _ _ _ from ?_))))))
  refine hK _ _ _ _ (nk_stV rfl rfl rfl rfl ?_)
  refine sx_returnTo xr.2.2.2.1 hu8 (fun g => ?_) (fun D1 g g1 g2 g3 => ?_)
  · refine hK _ _ _ _ (nk_beq (fun _ => ?_) (fun z => by cases z))
    refine hK _ _ _ _ (show K _ _ _ _ from ?_)
    refine hK _ _ _ _ (And.intro rfl (h _ _ ?_))
    refine nk_go (M := (6, yX6_undo, cX6_undo, 2, (some .int), false, 0, nk_T107)) rfl rfl (Nat.le_of_ble_eq_true rfl) (fun K hK => ?_)
    show K 0 [some (.ref 52), none] [] D
    refine hK _ _ _ _ (hK _ _ _ _ (nk_GI rfl rfl rfl (show K _ _ _ _ from ?_)))
    rw [mU.1, g]
    refine hK _ _ _ _ (nk_nf rfl ?_)
    refine hK _ _ _ _ (show K _ _ _ _ from ?_)
    exact hK _ _ _ _ (And.intro rfl (⟨rfl, hr0⟩))
  · refine hK _ _ _ _ (nk_beq (fun z => by cases z) (fun _ => ?_))
    obtain ⟨z, -, -, hz, -⟩ := id g2
    refine hK _ _ _ _ (hK _ _ _ _ (nk_GR rfl rfl rfl (hK _ _ _ _ (nk_GI rfl rfl rfl (hK _ _ _ _ (show K _ _ _ _ from ?_))))))
    rw [hz]
    refine hK _ _ _ _ (And.intro rfl (h _ _ ?_))
    have fr : ∀ a b, ¬ (6 ≤ a ∧ a < 38) → D1 a b = D a b := fun a b hab => g3 a b (by omega) (by omega)
    have m11 : D1 52 11 = nI u := by rw [fr _ _ (by omega)]; exact mU.1
    refine nk_go (M := (6, yX6_undo, cX6_undo, 2, (some .int), false, 0, nk_T107)) rfl rfl (Nat.le_of_ble_eq_true rfl) (fun K hK => ?_)
    show K 0 [some (.ref 52), none] [] D1
    refine hK _ _ _ _ (hK _ _ _ _ (nk_GI rfl rfl rfl (show K _ _ _ _ from ?_)))
    rw [m11]
    refine hK _ _ _ _ (nk_ne (by omega) (by omega) (fun _ => ?_) (fun z => by omega))
    refine hK _ _ _ _ (hK _ _ _ _ (hK _ _ _ _ (nk_GI rfl rfl rfl (hK _ _ _ _ (hK _ _ _ _ (hK _ _ _ _ (nk_PI rfl rfl rfl (hK _ _ _ _ (hK _ _ _ _ (show K _ _ _ _ from ?_))))))))))
    rw [m11, nk_sub (by omega)]
    have loop : ∀ m j D2, j + m = 38 → (∀ i, i < j → D2 54 i = D 57 (38 * (u - 1) + i)) → D2 52 11 = nI (u - 1) → (∀ b, b ≠ 11 → D2 52 b = D 52 b) → (∀ a b, a ≠ 52 → a ≠ 54 → D2 a b = D1 a b) → K 22 [some (.ref 52), some (.int (nI j))] [] D2 := by
      intro m
      induction m with
      | zero =>
        intro j D2 hj k1 k2 k3 k4
        have hj : j = 38 := by omega
        subst hj
        refine hK _ _ _ _ (hK _ _ _ _ (show K _ _ _ _ from ?_))
        refine hK _ _ _ _ (nk_bt (nI_le (Nat.le_refl _) (by omega)) ?_)
        refine hK _ _ _ _ (hK _ _ _ _ (nk_GI rfl rfl rfl (show K _ _ _ _ from ?_)))
        rw [k2]
        have b0 := mU.2 0 g
        rw [Nat.sub_zero] at b0
        refine hK _ _ _ _ (And.intro rfl ⟨rfl, REL_N ok xr mr fr g2 g1 (fun a b ha => k4 a b (by omega) (by omega)) (fun a b h1 h2 h3 h4 => by rw [k4 a b (by omega) h2, fr a b (by omega)]) k3 ⟨fun y z hy hz => ?_, ?_, ?_⟩ ⟨k2, fun i hi => ?_⟩ (ok.2.2.2.1.2 0 g) ⟨by omega, fun i hi => ok.2.2.2.1.2 (i + 1) (by omega)⟩⟩)
        · rw [Nat.zero_add, k1 _ (by omega)]
          exact b0.1 y z hy hz
        · rw [Nat.zero_add, k1 _ (by omega)]
          exact b0.2.1
        · rw [Nat.zero_add, k1 _ (by omega)]
          exact b0.2.2
        · have := mU.2 (i + 1) (by omega)
          rw [show u - 1 - (i + 1) = u - 1 - 1 - i by omega] at this
          exact MSc_of (fun j _ => by rw [k4 57 _ (by omega) (by omega), fr _ _ (by omega)]) hn6 this
      | succ m ih =>
        intro j D2 hj k1 k2 k3 k4
        refine hK _ _ _ _ (hK _ _ _ _ (show K _ _ _ _ from ?_))
        refine hK _ _ _ _ (nk_bf (nI_ge (by omega) (by omega)) ?_)
        refine hK _ _ _ _ (hK _ _ _ _ (nk_GR rfl rfl rfl (hK _ _ _ _ (hK _ _ _ _ (hK _ _ _ _ (nk_GR rfl rfl rfl (hK _ _ _ _ (hK _ _ _ _ (hK _ _ _ _ (nk_GI rfl rfl rfl (hK _ _ _ _ (hK _ _ _ _ (hK _ _ _ _ (show K _ _ _ _ from ?_))))))))))))))
        rw [k2, nk_ix]
        refine hK _ _ _ _ (nk_AL rfl rfl rfl (show 38 * (u - 1) + j < 304 by omega) (show K _ _ _ _ from ?_))
        rw [k4 57 _ (by omega) (by omega), fr _ _ (by omega)]
        refine hK _ _ _ _ (nk_AS rfl rfl (j := j) rfl (by omega) (show K _ _ _ _ from ?_))
        refine hK _ _ _ _ (hK _ _ _ _ (show K _ _ _ _ from ?_))
        rw [nk_add]
        refine ih (j + 1) _ (by omega) (fun i hi => ?_) (by simp [nk_up, k2]) (fun b hb => by simp [nk_up, k3 b hb]) (fun a b ha hb => by simp [nk_up, hb, k4 a b ha hb])
        by_cases e : i = j
        · simp [nk_up, e]
        · simp [nk_up, e, k1 i (by omega)]
    exact loop 38 0 _ (by omega) (fun i hi => by omega) (by simp [nk_up]) (fun b hb => by simp [nk_up, hb, fr 52 b (by omega)]) (fun a b ha _ => by simp [nk_up, ha])
theorem op_keep {x : Int32} (hr : REL D) (h : ∀ v D1, TH S (d + 20) 108 [.ref 52, .int x] v D1 → P (some (.int v)) D1) : nk_run S (d + 20) 48 [.ref 0, .int x] D P := by
  have hr0 := hr
  obtain ⟨n, ka, s, t, L, tx, u, pa, kp, c, se, ok, xr, mr⟩ := hr
  have hw := ok.1
  have hx := xr.1
  have hxs := hx.1
  have hn6 := hxs.1
  have hn := hxs.2.1
  have h64 := p64 hn6
  have hmk := mr.1
  have hms := MS_now mr.2.1 hw
  have hR : D 6 3 = nI s.2.1 := hx.2.1
  have mR : D 54 36 = nI s.2.1 := mr.2.1.2.1
  have hR64 : s.2.1 < 64 := by have := hw.2.2.1; omega
  have xP := xr.2.2.2.2.1
  have mP := mr.2.2.2.2.2.1
  have mE : D 54 37 = nI s.2.2 := mr.2.1.2.2
  refine nk_go (M := (5, yX5_keep, cX5_keep, 2, (some .int), false, 1, nk_T48)) rfl rfl (Nat.le_of_ble_eq_true rfl) (fun K hK => ?_)
  show K 0 [some (.ref 0), some (.int x)] [] D
  refine hK _ _ _ _ (show K _ _ _ _ from ?_)
  rcases rg (lo := 0) (hi := 1) (by decide) (by decide) x with ⟨k, -, hk1, rfl, hd⟩ | ⟨hno, hd⟩
  · have hk2 : k < 2 := by omega
    refine hK _ _ _ _ (nk_bf (nI_pos (by omega)) ?_)
    refine hK _ _ _ _ (hK _ _ _ _ (show K _ _ _ _ from ?_))
    refine hK _ _ _ _ (nk_bf (nI_ge hk2 (by omega)) ?_)
    refine hK _ _ _ _ (hK _ _ _ _ (nk_GR rfl rfl rfl (hK _ _ _ _ (show K _ _ _ _ from ?_))))
    refine hK _ _ _ _ (nk_RL rfl rfl rfl (nk_kepts hk2) (show K _ _ _ _ from ?_))
    refine hK _ _ _ _ (hK _ _ _ _ (hK _ _ _ _ (nk_GR rfl rfl rfl (hK _ _ _ _ (show K _ _ _ _ from ?_)))))
    refine hK _ _ _ _ (nk_RL rfl rfl rfl (nk_kepts hk2) (show K _ _ _ _ from ?_))
    refine hK _ _ _ _ (hK _ _ _ _ (nk_GR rfl rfl rfl (show K _ _ _ _ from ?_)))
    refine hK _ _ _ _ (nk_stV rfl rfl (nk_rvI (isSk hk2).1) rfl ?_)
    refine sx_copyFrom (isSk hk2) isS6 (by omega) (fun D1 g1 g2 g3 g4 => ?_)
    have hc := XSc_cp g1 g2 g3 hx
    show K 34 _ _ _
    refine hK _ _ _ _ (hK _ _ _ _ (nk_GR rfl rfl rfl (hK _ _ _ _ (hK _ _ _ _ (show K _ _ _ _ from ?_)))))
    refine hK _ _ _ _ (nk_BS rfl rfl rfl hk2 (show K _ _ _ _ from ?_))
    refine hK _ _ _ _ (hK _ _ _ _ (nk_GR rfl rfl rfl (hK _ _ _ _ (nk_GI rfl rfl rfl (show K _ _ _ _ from ?_)))))
    have e64 : nk_up D1 45 k (nI 1 &&& 1) 6 4 = nI s.2.2 := by simp [nk_up, g4 6 4 (by omega) (by omega) (by omega), hx.2.2]
    rw [e64]
    have fr : ∀ a b, a < 39 ∨ 46 ≤ a → nk_up D1 45 k (nI 1 &&& 1) a b = D a b := fun a b hab => by simp [nk_up, show ¬ a = 45 by omega, g4 a b (by omega) (by omega) (by omega)]
    have fp : XP (nk_up D1 45 k (nI 1 &&& 1)) n ka (fun i => if i = k then some s else kp i) := by
      intro i hi
      by_cases e : i = k
      · subst e
        refine ⟨by simp [nk_up, bI]; rfl, fun z hz => ?_⟩
        simp only [if_true, Option.some.injEq] at hz
        subst hz
        exact XSc_of (fun b => by simp [nk_up, show ¬ 39 + 3 * i = 45 by omega]) (fun b => by simp [nk_up, show ¬ 39 + 3 * i + 1 = 45 by omega]) (fun b => by simp [nk_up, show ¬ 39 + 3 * i + 2 = 45 by omega]) hc
      · have b1 := xP i hi
        simp only [e, if_false]
        refine ⟨by simp [nk_up, e, g4 45 i (by omega) (by omega) (by omega), b1.1], fun z hz => ?_⟩
        exact XSc_of (fun b => by simp [nk_up, show ¬ 39 + 3 * i = 45 by omega, g4 (39 + 3 * i) b (by omega) (by omega) (by omega)]) (fun b => by simp [nk_up, show ¬ 39 + 3 * i + 1 = 45 by omega, g4 (39 + 3 * i + 1) b (by omega) (by omega) (by omega)]) (fun b => by simp [nk_up, show ¬ 39 + 3 * i + 2 = 45 by omega, g4 (39 + 3 * i + 2) b (by omega) (by omega) (by omega)]) (b1.2 z hz)
    generalize nk_up D1 45 k (nI 1 &&& 1) = D2 at fr fp ⊢
    refine hK _ _ _ _ (And.intro rfl (h _ _ ?_))
    refine nk_go (M := (6, yX6_keep, cX6_keep, 3, (some .int), false, 1, nk_T108)) rfl rfl (Nat.le_of_ble_eq_true rfl) (fun K hK => ?_)
    show K 0 [some (.ref 52), some (.int (nI k)), none] [] D2
    refine hK _ _ _ _ (hK _ _ _ _ (hK _ _ _ _ (hK _ _ _ _ (show K _ _ _ _ from ?_))))
    refine hK _ _ _ _ (nk_stS rfl rfl rfl rfl ?_)
    refine sm_in2 (a := ((0 : Nat) : Int)) (b := ((1 : Nat) : Int)) rfl rfl ?_
    rw [hd]
    refine hK _ _ _ _ (nk_bne (fun _ => ?_) (fun z => by cases z))
    refine hK _ _ _ _ (hK _ _ _ _ (show K _ _ _ _ from ?_))
    have loop : ∀ m j D3, j + m = 38 → (∀ i, i < j → D3 60 (38 * k + i) = D 54 i) → (∀ b, (b < 38 * k ∨ 38 * k + 38 ≤ b) → D3 60 b = D 60 b) → (∀ a b, a ≠ 60 → D3 a b = D2 a b) → K 15 [some (.ref 52), some (.int (nI k)), some (.int (nI j))] [] D3 := by
      intro m
      induction m with
      | zero =>
        intro j D3 hj k1 k2 k3
        have hj : j = 38 := by omega
        subst hj
        refine hK _ _ _ _ (hK _ _ _ _ (show K _ _ _ _ from ?_))
        refine hK _ _ _ _ (nk_bt (nI_le (Nat.le_refl _) (by omega)) ?_)
        refine hK _ _ _ _ (hK _ _ _ _ (nk_GR rfl rfl rfl (hK _ _ _ _ (hK _ _ _ _ (show K _ _ _ _ from ?_)))))
        refine hK _ _ _ _ (nk_BS rfl rfl rfl hk2 (show K _ _ _ _ from ?_))
        refine hK _ _ _ _ (hK _ _ _ _ (nk_GR rfl rfl rfl (hK _ _ _ _ (show K _ _ _ _ from ?_))))
        refine hK _ _ _ _ (nk_AL rfl rfl (j := 37) rfl (by decide) (show K _ _ _ _ from ?_))
        have e5 : nk_up D3 59 k (nI 1 &&& 1) 54 37 = nI s.2.2 := by simp [nk_up, k3 54 37 (by omega), fr 54 37 (by omega), mE]
        rw [e5]
        have f4 : ∀ a b, a ≠ 59 → a ≠ 60 → nk_up D3 59 k (nI 1 &&& 1) a b = D2 a b := fun a b h1 h2 => by simp [nk_up, h1, k3 a b h2]
        refine hK _ _ _ _ (And.intro rfl ⟨rfl, n, ka, s, t, L, tx, u, pa, (fun i => if i = k then some s else kp i), c, se, ⟨hw, ok.2.1, ok.2.2.1, ok.2.2.2.1, fun i z hz => ?_, ok.2.2.2.2.2⟩, XR_P (D := D) (fun a b h1 h2 h3 => by rw [f4 a b (by omega) (by omega)]; exact fr a b (by omega)) (XP_of (fun a b h1 h2 => f4 a b (by omega) (by omega)) fp) xr, MR_P (D := D) (fun a b h1 h2 h3 => by rw [f4 a b h2 h3]; exact fr a b (by omega)) (fun i hi => ?_) mr⟩)
        · have hz : (if i = k then some s else kp i) = some z := hz
          split at hz
          · cases hz; exact hw
          · exact ok.2.2.2.2.1 i z hz
        · by_cases e : i = k
          · subst e
            refine ⟨by simp [nk_up, bI]; rfl, fun z hz => ?_⟩
            simp only [if_true, Option.some.injEq] at hz
            subst hz
            have f5 : ∀ b, nk_up D3 59 i (nI 1 &&& 1) 60 b = D3 60 b := fun b => by simp [nk_up]
            refine ⟨fun y z hy hz => ?_, ?_, ?_⟩
            · rw [f5, k1 _ (by omega)]
              exact (hms.1 y z hy hz).1
            · rw [f5, k1 _ (by omega)]
              exact mR
            · rw [f5, k1 _ (by omega)]
              exact mE
          · have b1 := mP i hi
            simp only [e, if_false]
            refine ⟨by simp [nk_up, e, k3 59 i (by omega), fr 59 i (by omega), b1.1], fun z hz => ?_⟩
            exact MSc_of (fun j hj => by simp only [nk_up, show ¬ (60 = 59) by decide, false_and, if_false]; exact k2 _ (by omega)) hn6 (b1.2 z hz)
      | succ m ih =>
        intro j D3 hj k1 k2 k3
        refine hK _ _ _ _ (hK _ _ _ _ (show K _ _ _ _ from ?_))
        refine hK _ _ _ _ (nk_bf (nI_ge (by omega) (by omega)) ?_)
        refine hK _ _ _ _ (hK _ _ _ _ (nk_GR rfl rfl rfl (hK _ _ _ _ (hK _ _ _ _ (hK _ _ _ _ (hK _ _ _ _ (hK _ _ _ _ (hK _ _ _ _ (hK _ _ _ _ (nk_GR rfl rfl rfl (hK _ _ _ _ (show K _ _ _ _ from ?_))))))))))))
        rw [nk_ix]
        refine hK _ _ _ _ (nk_AL rfl rfl (j := j) rfl (by omega) (show K _ _ _ _ from ?_))
        rw [k3 54 j (by omega), fr 54 j (by omega)]
        refine hK _ _ _ _ (nk_AS rfl rfl rfl (show 38 * k + j < 76 by omega) (show K _ _ _ _ from ?_))
        refine hK _ _ _ _ (hK _ _ _ _ (show K _ _ _ _ from ?_))
        rw [nk_add]
        refine ih (j + 1) _ (by omega) (fun i hi => ?_) (fun b hb => ?_) (fun a b ha => by simp [nk_up, ha, k3 a b ha])
        · by_cases e : i = j
          · simp [nk_up, e]
          · have e2 : ¬ 38 * k + i = 38 * k + j := by omega
            simp only [nk_up, e2, and_false, if_false]
            exact k1 i (by omega)
        · have e2 : ¬ b = 38 * k + j := by omega
          simp only [nk_up, e2, and_false, if_false]
          exact k2 b hb
    exact loop 38 0 D2 (by omega) (fun i hi => by omega) (fun b _ => fr 60 b (by omega)) (fun a b _ => rfl)
  · have fin : K 18 [some (.ref 0), some (.int x)] [] D := by
      refine hK _ _ _ _ (show K _ _ _ _ from ?_)
      refine hK _ _ _ _ (And.intro rfl (h _ _ ?_))
      refine nk_go (M := (6, yX6_keep, cX6_keep, 3, (some .int), false, 1, nk_T108)) rfl rfl (Nat.le_of_ble_eq_true rfl) (fun K hK => ?_)
      show K 0 [some (.ref 52), some (.int x), none] [] D
      refine hK _ _ _ _ (hK _ _ _ _ (hK _ _ _ _ (hK _ _ _ _ (show K _ _ _ _ from ?_))))
      refine hK _ _ _ _ (nk_stS rfl rfl rfl rfl ?_)
      refine sm_in2 (a := ((0 : Nat) : Int)) (b := ((1 : Nat) : Int)) rfl rfl ?_
      rw [hd]
      refine hK _ _ _ _ (nk_bne (fun z => by cases z) (fun _ => ?_))
      refine hK _ _ _ _ (show K _ _ _ _ from ?_)
      exact hK _ _ _ _ (And.intro rfl (⟨rfl, hr0⟩))
    rcases hno with h1 | ⟨h1, h2⟩
    · refine hK _ _ _ _ (nk_bt h1 ?_)
      exact fin
    · refine hK _ _ _ _ (nk_bf h1 ?_)
      refine hK _ _ _ _ (hK _ _ _ _ (show K _ _ _ _ from ?_))
      refine hK _ _ _ _ (nk_bt (by have := Int32.lt_iff_toInt_lt.mp h2; rw [Int32.le_iff_toInt_le, nI_toInt (by decide)]; rw [nI_toInt (by decide)] at this; omega) ?_)
      exact fin
theorem op_back {x : Int32} (hr : REL D) (h : ∀ v D1, TH S (d + 20) 109 [.ref 52, .int x] v D1 → P (some (.int v)) D1) : nk_run S (d + 20) 49 [.ref 0, .int x] D P := by
  have hr0 := hr
  obtain ⟨n, ka, s, t, L, tx, u, pa, kp, c, se, ok, xr, mr⟩ := hr
  have hw := ok.1
  have hx := xr.1
  have hxs := hx.1
  have hn6 := hxs.1
  have hn := hxs.2.1
  have h64 := p64 hn6
  have hmk := mr.1
  have hms := MS_now mr.2.1 hw
  have hR : D 6 3 = nI s.2.1 := hx.2.1
  have mR : D 54 36 = nI s.2.1 := mr.2.1.2.1
  have hR64 : s.2.1 < 64 := by have := hw.2.2.1; omega
  have xP := xr.2.2.2.2.1
  have mP := mr.2.2.2.2.2.1
  refine nk_go (M := (5, yX5_back, cX5_back, 2, (some .int), false, 1, nk_T49)) rfl rfl (Nat.le_of_ble_eq_true rfl) (fun K hK => ?_)
  show K 0 [some (.ref 0), some (.int x)] [] D
  refine hK _ _ _ _ (show K _ _ _ _ from ?_)
  rcases rg (lo := 0) (hi := 1) (by decide) (by decide) x with ⟨k, -, hk1, rfl, hd⟩ | ⟨hno, hd⟩
  · have hk2 : k < 2 := by omega
    have xPk := xP k hk2
    have mPk := mP k hk2
    refine hK _ _ _ _ (nk_bf (nI_pos (by omega)) ?_)
    refine hK _ _ _ _ (hK _ _ _ _ (show K _ _ _ _ from ?_))
    refine hK _ _ _ _ (nk_bf (nI_ge hk2 (by omega)) ?_)
    refine hK _ _ _ _ (hK _ _ _ _ (nk_GR rfl rfl rfl (hK _ _ _ _ (show K _ _ _ _ from ?_))))
    refine hK _ _ _ _ (nk_RL rfl rfl rfl (nk_kepts hk2) (show K _ _ _ _ from ?_))
    refine hK _ _ _ _ (hK _ _ _ _ (hK _ _ _ _ (nk_GR rfl rfl rfl (hK _ _ _ _ (show K _ _ _ _ from ?_)))))
    refine hK _ _ _ _ (nk_BL rfl rfl rfl hk2 (show K _ _ _ _ from ?_))
    rw [xPk.1]
    cases hkp : kp k with
    | none =>
      rw [hkp] at mPk
      refine hK _ _ _ _ (nk_bne (fun z => by cases z) (fun _ => ?_))
      refine hK _ _ _ _ (show K _ _ _ _ from ?_)
      refine hK _ _ _ _ (And.intro rfl (h _ _ ?_))
      refine nk_go (M := (6, yX6_back, cX6_back, 3, (some .int), false, 1, nk_T109)) rfl rfl (Nat.le_of_ble_eq_true rfl) (fun K hK => ?_)
      show K 0 [some (.ref 52), some (.int (nI k)), none] [] D
      refine hK _ _ _ _ (hK _ _ _ _ (hK _ _ _ _ (hK _ _ _ _ (show K _ _ _ _ from ?_))))
      refine hK _ _ _ _ (nk_stS rfl rfl rfl rfl ?_)
      refine sm_in2 (a := ((0 : Nat) : Int)) (b := ((1 : Nat) : Int)) rfl rfl ?_
      rw [hd]
      refine hK _ _ _ _ (nk_bne (fun _ => ?_) (fun z => by cases z))
      refine hK _ _ _ _ (hK _ _ _ _ (nk_GR rfl rfl rfl (hK _ _ _ _ (show K _ _ _ _ from ?_))))
      refine hK _ _ _ _ (nk_BL rfl rfl rfl hk2 (show K _ _ _ _ from ?_))
      rw [mPk.1]
      refine hK _ _ _ _ (nk_bne (fun z => by cases z) (fun _ => ?_))
      refine hK _ _ _ _ (show K _ _ _ _ from ?_)
      exact hK _ _ _ _ (And.intro rfl (⟨rfl, hr0⟩))
    | some z =>
      rw [hkp] at mPk
      have hz := ok.2.2.2.2.1 k z hkp
      have xz := xPk.2 z hkp
      have mz := mPk.2 z rfl
      refine hK _ _ _ _ (nk_bne (fun _ => ?_) (fun z => by cases z))
      refine hK _ _ _ _ (hK _ _ _ _ (nk_GR rfl rfl rfl (hK _ _ _ _ (hK _ _ _ _ (nk_GR rfl rfl rfl (hK _ _ _ _ (show K _ _ _ _ from ?_)))))))
      refine hK _ _ _ _ (nk_RL rfl rfl rfl (nk_kepts hk2) (show K _ _ _ _ from ?_))
      refine hK _ _ _ _ (nk_stV rfl rfl rfl rfl ?_)
      refine sx_copyFrom isS6 (isSk hk2) (by omega) (fun D1 g1 g2 g3 g4 => ?_)
      have hc := XSc_cp g1 g2 g3 xz
      show K 46 _ _ _
      refine hK _ _ _ _ (hK _ _ _ _ (nk_GR rfl rfl rfl (hK _ _ _ _ (hK _ _ _ _ (nk_PI rfl rfl rfl (hK _ _ _ _ (hK _ _ _ _ (nk_GR rfl rfl rfl (hK _ _ _ _ (nk_GI rfl rfl rfl (show K _ _ _ _ from ?_)))))))))))
      have e64 : nk_up D1 12 2 (nI 0) 6 4 = nI z.2.2 := by simp [nk_up, hc.2.2]
      rw [e64]
      obtain ⟨w, hw8, w1, w2, w3⟩ := xr.2.2.2.1
      have fr : ∀ a b, ¬ (6 ≤ a ∧ a < 38) → nk_up D1 12 2 (nI 0) a b = D a b := fun a b hab => by simp [nk_up, show ¬ a = 12 by omega, g4 a b (by omega) (by omega) (by omega)]
      have fu : XU (nk_up D1 12 2 (nI 0)) n ka 0 pa := ⟨w, hw8, by simp [nk_up, g4 12 1 (by omega) (by omega) (by omega), w1], by simp [nk_up], fun i hi => by omega⟩
      have fs : XSc (nk_up D1 12 2 (nI 0)) 6 n ka z := XSc_of (fun b => by simp [nk_up]) (fun b => by simp [nk_up]) (fun b => by simp [nk_up]) hc
      generalize nk_up D1 12 2 (nI 0) = D2 at fr fu fs ⊢
      refine hK _ _ _ _ (And.intro rfl (h _ _ ?_))
      refine nk_go (M := (6, yX6_back, cX6_back, 3, (some .int), false, 1, nk_T109)) rfl rfl (Nat.le_of_ble_eq_true rfl) (fun K hK => ?_)
      show K 0 [some (.ref 52), some (.int (nI k)), none] [] D2
      refine hK _ _ _ _ (hK _ _ _ _ (hK _ _ _ _ (hK _ _ _ _ (show K _ _ _ _ from ?_))))
      refine hK _ _ _ _ (nk_stS rfl rfl rfl rfl ?_)
      refine sm_in2 (a := ((0 : Nat) : Int)) (b := ((1 : Nat) : Int)) rfl rfl ?_
      rw [hd]
      refine hK _ _ _ _ (nk_bne (fun _ => ?_) (fun z => by cases z))
      refine hK _ _ _ _ (hK _ _ _ _ (nk_GR rfl rfl rfl (hK _ _ _ _ (show K _ _ _ _ from ?_))))
      refine hK _ _ _ _ (nk_BL rfl rfl rfl hk2 (show K _ _ _ _ from ?_))
      rw [fr 59 k (by omega), mPk.1]
      refine hK _ _ _ _ (nk_bne (fun _ => ?_) (fun z => by cases z))
      refine hK _ _ _ _ (hK _ _ _ _ (show K _ _ _ _ from ?_))
      have loop : ∀ m j D3, j + m = 38 → (∀ i, i < j → D3 54 i = D 60 (38 * k + i)) → (∀ a b, a ≠ 54 → D3 a b = D2 a b) → K 27 [some (.ref 52), some (.int (nI k)), some (.int (nI j))] [] D3 := by
        intro m
        induction m with
        | zero =>
          intro j D3 hj k1 k3
          have hj : j = 38 := by omega
          subst hj
          refine hK _ _ _ _ (hK _ _ _ _ (show K _ _ _ _ from ?_))
          refine hK _ _ _ _ (nk_bt (nI_le (Nat.le_refl _) (by omega)) ?_)
          refine hK _ _ _ _ (hK _ _ _ _ (hK _ _ _ _ (nk_PI rfl rfl rfl (hK _ _ _ _ (hK _ _ _ _ (nk_GR rfl rfl rfl (hK _ _ _ _ (show K _ _ _ _ from ?_))))))))
          refine hK _ _ _ _ (nk_AL rfl rfl (j := 37) rfl (by decide) (show K _ _ _ _ from ?_))
          have f5 : ∀ b, nk_up D3 52 11 (nI 0) 54 b = D3 54 b := fun b => by simp [nk_up]
          rw [f5, k1 37 (by omega), mz.2.2]
          refine hK _ _ _ _ (And.intro rfl ⟨rfl, REL_N ok xr mr fr fu fs (fun a b ha => by simp [nk_up, show ¬ a = 52 by omega, k3 a b (by omega)]) (fun a b h1 h2 h3 h4 => by simp [nk_up, show ¬ a = 52 by omega, k3 a b h2, fr a b (by omega)]) (fun b hb => by simp [nk_up, hb, k3 52 b (by omega), fr 52 b (by omega)]) ⟨fun y z hy hz => ?_, ?_, ?_⟩ ⟨by simp [nk_up], fun i hi => by omega⟩ hz ⟨by omega, fun i hi => by omega⟩⟩)
          · rw [f5, Nat.zero_add, k1 _ (by omega)]
            exact mz.1 y z hy hz
          · rw [f5, Nat.zero_add, k1 _ (by omega)]
            exact mz.2.1
          · rw [f5, Nat.zero_add, k1 _ (by omega)]
            exact mz.2.2
        | succ m ih =>
          intro j D3 hj k1 k3
          refine hK _ _ _ _ (hK _ _ _ _ (show K _ _ _ _ from ?_))
          refine hK _ _ _ _ (nk_bf (nI_ge (by omega) (by omega)) ?_)
          refine hK _ _ _ _ (hK _ _ _ _ (nk_GR rfl rfl rfl (hK _ _ _ _ (hK _ _ _ _ (hK _ _ _ _ (nk_GR rfl rfl rfl (hK _ _ _ _ (hK _ _ _ _ (hK _ _ _ _ (hK _ _ _ _ (hK _ _ _ _ (show K _ _ _ _ from ?_))))))))))))
          rw [nk_ix]
          refine hK _ _ _ _ (nk_AL rfl rfl rfl (show 38 * k + j < 76 by omega) (show K _ _ _ _ from ?_))
          rw [k3 60 _ (by omega), fr 60 _ (by omega)]
          refine hK _ _ _ _ (nk_AS rfl rfl (j := j) rfl (by omega) (show K _ _ _ _ from ?_))
          refine hK _ _ _ _ (hK _ _ _ _ (show K _ _ _ _ from ?_))
          rw [nk_add]
          refine ih (j + 1) _ (by omega) (fun i hi => ?_) (fun a b ha => by simp [nk_up, ha, k3 a b ha])
          by_cases e : i = j
          · simp [nk_up, e]
          · simp [nk_up, e, k1 i (by omega)]
      exact loop 38 0 D2 (by omega) (fun i hi => by omega) (fun a b _ => rfl)
  · have fin : K 18 [some (.ref 0), some (.int x)] [] D := by
      refine hK _ _ _ _ (show K _ _ _ _ from ?_)
      refine hK _ _ _ _ (And.intro rfl (h _ _ ?_))
      refine nk_go (M := (6, yX6_back, cX6_back, 3, (some .int), false, 1, nk_T109)) rfl rfl (Nat.le_of_ble_eq_true rfl) (fun K hK => ?_)
      show K 0 [some (.ref 52), some (.int x), none] [] D
      refine hK _ _ _ _ (hK _ _ _ _ (hK _ _ _ _ (hK _ _ _ _ (show K _ _ _ _ from ?_))))
      refine hK _ _ _ _ (nk_stS rfl rfl rfl rfl ?_)
      refine sm_in2 (a := ((0 : Nat) : Int)) (b := ((1 : Nat) : Int)) rfl rfl ?_
      rw [hd]
      refine hK _ _ _ _ (nk_bne (fun z => by cases z) (fun _ => ?_))
      refine hK _ _ _ _ (show K _ _ _ _ from ?_)
      exact hK _ _ _ _ (And.intro rfl (⟨rfl, hr0⟩))
    rcases hno with h1 | ⟨h1, h2⟩
    · refine hK _ _ _ _ (nk_bt h1 ?_)
      exact fin
    · refine hK _ _ _ _ (nk_bf h1 ?_)
      refine hK _ _ _ _ (hK _ _ _ _ (show K _ _ _ _ from ?_))
      refine hK _ _ _ _ (nk_bt (by have := Int32.lt_iff_toInt_lt.mp h2; rw [Int32.le_iff_toInt_le, nI_toInt (by decide)]; rw [nI_toInt (by decide)] at this; omega) ?_)
      exact fin
theorem op_stays {x : Int32} (hr : REL D) (h : ∀ v D1, TH S (d + 20) 119 [.ref 52, .int x] v D1 → P (some (.int v)) D1) : nk_run S (d + 20) 56 [.ref 0, .int x] D P := by
  have hr0 := hr
  obtain ⟨n, ka, s, t, L, tx, u, pa, kp, c, se, ok, xr, mr⟩ := hr
  have hw := ok.1
  have hx := xr.1
  have hxs := hx.1
  have hn6 := hxs.1
  have hn := hxs.2.1
  have h64 := p64 hn6
  have hmk := mr.1
  have hms := MS_now mr.2.1 hw
  have hR : D 6 3 = nI s.2.1 := hx.2.1
  have mR : D 54 36 = nI s.2.1 := mr.2.1.2.1
  have hR64 : s.2.1 < 64 := by have := hw.2.2.1; omega
  refine nk_go (M := (5, yX5_stays, cX5_stays, 2, (some .int), false, 1, nk_T56)) rfl rfl (Nat.le_of_ble_eq_true rfl) (fun K hK => ?_)
  show K 0 [some (.ref 0), some (.int x)] [] D
  refine hK _ _ _ _ (show K _ _ _ _ from ?_)
  rcases rg (lo := 0) (hi := 20) (by decide) (by decide) x with ⟨m, -, hm, rfl, hd⟩ | ⟨hno, hd⟩
  · refine hK _ _ _ _ (nk_bf (nI_pos (by omega)) ?_)
    refine hK _ _ _ _ (hK _ _ _ _ (show K _ _ _ _ from ?_))
    refine hK _ _ _ _ (nk_bt (nI_le hm (by omega)) ?_)
    refine hK _ _ _ _ (hK _ _ _ _ (show K _ _ _ _ from ?_))
    refine hK _ _ _ _ (nk_stV rfl rfl rfl rfl ?_)
    refine sx_foretell hx hw hm (fun D1 g1 g2 g3 => ?_)
    show K 18 _ _ _
    refine hK _ _ _ _ (hK _ _ _ _ (nk_GR rfl rfl rfl (hK _ _ _ _ (nk_GI rfl rfl rfl (show K _ _ _ _ from ?_)))))
    rw [g2]
    refine hK _ _ _ _ (And.intro rfl (h _ _ ?_))
    refine nk_go (M := (6, yX6_stays, cX6_stays, 3, (some .int), false, 1, nk_T119)) rfl rfl (Nat.le_of_ble_eq_true rfl) (fun K hK => ?_)
    show K 0 [some (.ref 52), some (.int (nI m)), none] [] D1
    refine hK _ _ _ _ (hK _ _ _ _ (hK _ _ _ _ (hK _ _ _ _ (show K _ _ _ _ from ?_))))
    refine hK _ _ _ _ (nk_stS rfl rfl rfl rfl ?_)
    refine sm_in2 (a := ((0 : Nat) : Int)) (b := ((20 : Nat) : Int)) rfl rfl ?_
    rw [hd]
    refine hK _ _ _ _ (nk_bne (fun _ => ?_) (fun z => by cases z))
    refine hK _ _ _ _ (hK _ _ _ _ (show K _ _ _ _ from ?_))
    refine hK _ _ _ _ (nk_stV rfl rfl rfl rfl ?_)
    refine sm_goOn (MK_of (fun b => g3 _ b (by omega)) hmk) (MSc_of (fun j _ => g3 _ _ (by omega)) hn6 mr.2.1) hw hm (fun D2 k1 k2 k3 k4 => ?_)
    show K 20 _ _ _
    refine hK _ _ _ _ (hK _ _ _ _ (nk_GR rfl rfl rfl (hK _ _ _ _ (show K _ _ _ _ from ?_))))
    refine hK _ _ _ _ (nk_AL rfl rfl (j := 36) rfl (by decide) (show K _ _ _ _ from ?_))
    rw [k2]
    refine hK _ _ _ _ (hK _ _ _ _ (show K _ _ _ _ from ?_))
    refine hK _ _ _ _ (nk_stV rfl rfl rfl rfl ?_)
    refine sm_takeBack (fun D3 w1 w2 => ?_)
    show K 32 _ _ _
    refine hK _ _ _ _ (show K _ _ _ _ from ?_)
    refine hK _ _ _ _ (And.intro rfl ⟨rfl, REL_g hr0 (fun a b h1 h2 h3 => by rw [w2 a b (by omega), k4 a b (by omega) (by omega) (by omega), g3 a b h2]) (fun a b h1 h2 h3 h4 h5 h6 h7 => ?_)⟩)
    by_cases e : a = 54
    · subst e
      rw [w1 b (h7 rfl), k3 b (h7 rfl), g3 54 b (by omega)]
    · rw [w2 a b e, k4 a b e h4 h6, g3 a b (by omega)]
  · have fin : K 10 [some (.ref 0), some (.int x)] [] D := by
      refine hK _ _ _ _ (show K _ _ _ _ from ?_)
      refine hK _ _ _ _ (And.intro rfl (h _ _ ?_))
      refine nk_go (M := (6, yX6_stays, cX6_stays, 3, (some .int), false, 1, nk_T119)) rfl rfl (Nat.le_of_ble_eq_true rfl) (fun K hK => ?_)
      show K 0 [some (.ref 52), some (.int x), none] [] D
      refine hK _ _ _ _ (hK _ _ _ _ (hK _ _ _ _ (hK _ _ _ _ (show K _ _ _ _ from ?_))))
      refine hK _ _ _ _ (nk_stS rfl rfl rfl rfl ?_)
      refine sm_in2 (a := ((0 : Nat) : Int)) (b := ((20 : Nat) : Int)) rfl rfl ?_
      rw [hd]
      refine hK _ _ _ _ (nk_bne (fun z => by cases z) (fun _ => ?_))
      refine hK _ _ _ _ (show K _ _ _ _ from ?_)
      exact hK _ _ _ _ (And.intro rfl (⟨rfl, hr0⟩))
    rcases hno with h1 | ⟨h1, h2⟩
    · refine hK _ _ _ _ (nk_bt h1 ?_)
      exact fin
    · refine hK _ _ _ _ (nk_bf h1 ?_)
      refine hK _ _ _ _ (hK _ _ _ _ (show K _ _ _ _ from ?_))
      refine hK _ _ _ _ (nk_bf (fun z => absurd (Int32.lt_iff_toInt_lt.mp h2) (by have := Int32.le_iff_toInt_le.mp z; omega)) ?_)
      exact fin
theorem op_forget (hr : REL D) (h : ∀ v D1, TH S (d + 20) 121 [.ref 52] v D1 → P (some (.int v)) D1) : nk_run S (d + 20) 58 [.ref 0] D P := by
  have hr0 := hr
  obtain ⟨n, ka, s, t, L, tx, u, pa, kp, c, se, ok, xr, mr⟩ := hr
  have hw := ok.1
  have hx := xr.1
  have hxs := hx.1
  have hn6 := hxs.1
  have hn := hxs.2.1
  have h64 := p64 hn6
  have hmk := mr.1
  have hms := MS_now mr.2.1 hw
  have hR : D 6 3 = nI s.2.1 := hx.2.1
  have mR : D 54 36 = nI s.2.1 := mr.2.1.2.1
  have hR64 : s.2.1 < 64 := by have := hw.2.2.1; omega
  have xE := xr.2.2.2.2.2
  have mE := mr.2.2.2.2.2.2
  refine nk_go (M := (5, yX5_forget, cX5_forget, 2, (some .int), false, 0, nk_T58)) rfl rfl (Nat.le_of_ble_eq_true rfl) (fun K hK => ?_)
  show K 0 [some (.ref 0), none] [] D
  refine hK _ _ _ _ (hK _ _ _ _ (nk_GR rfl rfl rfl (hK _ _ _ _ (nk_GI rfl rfl rfl (hK _ _ _ _ (hK _ _ _ _ (hK _ _ _ _ (nk_GR rfl rfl rfl (hK _ _ _ _ (hK _ _ _ _ (nk_PI rfl rfl rfl (hK _ _ _ _ (show K _ _ _ _ from ?_)))))))))))))
  rw [xE.1]
  refine hK _ _ _ _ (And.intro rfl (h _ _ ?_))
  refine nk_go (M := (6, yX6_forget, cX6_forget, 2, (some .int), false, 0, nk_T121)) rfl rfl (Nat.le_of_ble_eq_true rfl) (fun K hK => ?_)
  show K 0 [some (.ref 52), none] [] (nk_up D 46 3 (nI 0))
  refine hK _ _ _ _ (hK _ _ _ _ (nk_GI rfl rfl rfl (hK _ _ _ _ (hK _ _ _ _ (hK _ _ _ _ (hK _ _ _ _ (nk_PI rfl rfl rfl (hK _ _ _ _ (show K _ _ _ _ from ?_)))))))))
  have e : nk_up D 46 3 (nI 0) 52 18 = nI c := by simp [nk_up, mE.1]
  rw [e]
  refine hK _ _ _ _ (And.intro rfl ⟨rfl, n, ka, s, t, L, tx, u, pa, kp, 0, se, ⟨hw, ok.2.1, ok.2.2.1, ok.2.2.2.1, ok.2.2.2.2.1, by omega, fun i hi => by omega⟩, XR_E (D := D) (fun a b h1 h2 => ?_) ⟨?_, fun i hi => by omega⟩ xr, MR_E (D := D) (fun a b h1 h2 => ?_) (fun b hb => ?_) ⟨?_, fun i hi => by omega⟩ mr⟩)
  · simp [nk_up, show ¬ a = 52 by omega, show ¬ a = 46 by omega]
  · simp [nk_up]
  · simp [nk_up, show ¬ a = 52 by omega, show ¬ a = 46 by omega]
  · simp [nk_up, hb]
  · simp [nk_up]
end NKO
