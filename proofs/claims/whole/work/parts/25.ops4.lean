/-! ===== what is done ===== -/
theorem MU_note {D D' : nk_D} {n u u' : Nat} {s : Sc3} {pa : Nat → Sc3} (hn : n ≤ 6) (hc : u < 8 ∧ u' = u + 1 ∨ u = 8 ∧ u' = 8) (h1 : D' 52 11 = nI u') (h2 : ∀ i k, k < 38 → i < u' → D' 57 (38 * i + k) = if i + 1 = u' then D 54 k else D 57 (38 * (i + (u + 1 - u')) + k)) (hs : MSc D 54 0 n s) (hu : MU D n u pa) : MU D' n u' (consP s pa) := by
  refine ⟨h1, fun i hi => ?_⟩
  by_cases e : i = 0
  · subst e
    show MSc D' 57 (38 * (u' - 1 - 0)) n s
    have key : ∀ k, k < 38 → D' 57 (38 * (u' - 1 - 0) + k) = D 54 k := fun k hk => by rw [h2 _ k hk (by omega), if_pos (by omega)]
    obtain ⟨a1, a2, a3⟩ := hs
    refine ⟨fun p z hp hz => ?_, ?_, ?_⟩
    · rw [key _ (by omega)]
      have := a1 p z hp hz
      rw [Nat.zero_add] at this
      exact this
    · rw [key _ (by omega)]
      exact a2
    · rw [key _ (by omega)]
      exact a3
  · rw [show consP s pa i = pa (i - 1) from if_neg e]
    have hi' : i - 1 < u := by omega
    have key : ∀ k, k < 38 → D' 57 (38 * (u' - 1 - i) + k) = D 57 (38 * (u - 1 - (i - 1)) + k) := fun k hk => by
      rw [h2 _ k hk (by omega), if_neg (by omega)]
      congr 1
      congr 2
      omega
    obtain ⟨a1, a2, a3⟩ := hu.2 (i - 1) hi'
    refine ⟨fun p z hp hz => ?_, ?_, ?_⟩
    · rw [key _ (by omega)]
      exact a1 p z hp hz
    · rw [key _ (by omega)]
      exact a2
    · rw [key _ (by omega)]
      exact a3
theorem u_next {u u' : Nat} (hc : u < 8 ∧ u' = u + 1 ∨ u = 8 ∧ u' = 8) : u' = if u < 8 then u + 1 else 8 := by
  split <;> omega
theorem WF_cons {n u : Nat} {s : Sc3} {pa : Nat → Sc3} (hs : WF n s) (h : u ≤ 8 ∧ ∀ i, i < u → WF n (pa i)) : (if u < 8 then u + 1 else 8) ≤ 8 ∧ ∀ i, i < (if u < 8 then u + 1 else 8) → WF n (consP s pa i) := by
  refine ⟨by split <;> omega, fun i hi => ?_⟩
  by_cases e : i = 0
  · subst e
    exact hs
  · rw [show consP s pa i = pa (i - 1) from if_neg e]
    exact h.2 _ (by split at hi <;> omega)
section NKO
variable {S : nk_Sc} {d : Nat} {D : nk_D} {P : nk_P}
theorem sx_isRole {x : Int32} (h : P (some (.int (bI (decide (((1 : Nat) : Int) ≤ x.toInt ∧ x.toInt ≤ ((7 : Nat) : Int)))))) D) : nk_run S (d + 1) 66 [.int x] D P := by
  refine nk_go (M := (5, yX5_isRole, cX5_isRole, 1, (some .boolean), true, 1, nk_T66)) rfl rfl (Nat.le_of_ble_eq_true rfl) (fun K hK => ?_)
  show K 0 [some (.int x)] [] D
  refine hK _ _ _ _ (hK _ _ _ _ (show K _ _ _ _ from ?_))
  rcases rg (lo := 1) (hi := 7) (by decide) (by decide) x with ⟨j, h1, h2, rfl, hd⟩ | ⟨hno, hd⟩
  · rw [hd] at h
    refine hK _ _ _ _ (nk_bf (nI_nlt h1 (by omega)) ?_)
    refine hK _ _ _ _ (hK _ _ _ _ (show K _ _ _ _ from ?_))
    refine hK _ _ _ _ (nk_bf (nI_nlt h2 (by omega)) ?_)
    refine hK _ _ _ _ (hK _ _ _ _ (show K _ _ _ _ from ?_))
    exact hK _ _ _ _ (And.intro rfl (h))
  · rw [hd] at h
    rcases hno with h1 | ⟨h1, h2⟩
    · refine hK _ _ _ _ (nk_bt h1 ?_)
      refine hK _ _ _ _ (show K _ _ _ _ from ?_)
      exact hK _ _ _ _ (And.intro rfl (h))
    · refine hK _ _ _ _ (nk_bf h1 ?_)
      refine hK _ _ _ _ (hK _ _ _ _ (show K _ _ _ _ from ?_))
      refine hK _ _ _ _ (nk_bt h2 ?_)
      refine hK _ _ _ _ (show K _ _ _ _ from ?_)
      exact hK _ _ _ _ (And.intro rfl (h))
theorem op_comes {x y : Int32} (hr : REL D) (h : ∀ v D1, TH S (d + 20) 102 [.ref 52, .int x, .int y] v D1 → P (some (.int v)) D1) : nk_run S (d + 20) 43 [.ref 0, .int x, .int y] D P := by
  have hr0 := hr
  obtain ⟨n, ka, s, t, L, tx, u, pa, kp, c, se, ok, xr, mr⟩ := hr
  have hw := ok.1
  have hx := xr.1
  have hxs := hx.1
  have hn6 := hxs.1
  have hn := hxs.2.1
  have h64 := p64 hn6
  have hmk := mr.1
  have hms := MS_now mr.2.1 hw
  have hR : D 6 3 = nI s.2.1 := hx.2.1
  have mR : D 54 36 = nI s.2.1 := mr.2.1.2.1
  have hR64 : s.2.1 < 64 := by have := hw.2.2.1; omega
  refine nk_go (M := (5, yX5_comes, cX5_comes, 3, (some .int), false, 2, nk_T43)) rfl rfl (Nat.le_of_ble_eq_true rfl) (fun K hK => ?_)
  show K 0 [some (.ref 0), some (.int x), some (.int y)] [] D
  refine hK _ _ _ _ (hK _ _ _ _ (nk_GR rfl rfl rfl (hK _ _ _ _ (show K _ _ _ _ from ?_))))
  refine hK _ _ _ _ (nk_stV rfl rfl rfl rfl ?_)
  refine sx_has isS6 hn hn6 ?_
  refine hK _ _ _ _ (nk_bne (fun b => ?_) (fun b => ?_))
  · obtain ⟨p, hp, rfl⟩ := vld_of (by omega) b
    rcases rg (lo := 0) (hi := 1) (by decide) (by decide) y with ⟨j, -, hj, rfl, hd⟩ | ⟨hno, hd⟩
    · -- the reference up to its second test
      have mroad : ∀ v D1, D1 53 0 = nI n → D1 54 36 = nI s.2.1 → (∀ (K : nk_K), (∀ pc loc stk D, nk_step S (nk_run S (d + 19)) nk_T102 (some .int) (fun r2 D2 => r2 = some (.int v) ∧ REL D2) K pc loc stk D → K pc loc stk D) → K (if s.2.1.testBit p = decide (j = 1) then 48 else 51) [some (.ref 52), some (.int (nI p)), some (.int (nI j))] [] D1) → TH S (d + 20) 102 [.ref 52, .int (nI p), .int (nI j)] v D1 := by
        intro v D1 e1 e2 hv
        unfold TH
        refine nk_go (M := (6, yX6_comes, cX6_comes, 3, (some .int), false, 2, nk_T102)) rfl rfl (Nat.le_of_ble_eq_true rfl) (fun K hK => ?_)
        show K 0 [some (.ref 52), some (.int (nI p)), some (.int (nI j))] [] D1
        refine hK _ _ _ _ (hK _ _ _ _ (show K _ _ _ _ from ?_))
        refine hK _ _ _ _ (nk_stV rfl rfl rfl rfl ?_)
        refine sm_isPerson e1 hn6 ?_
        rw [b]
        refine hK _ _ _ _ (nk_bne (fun _ => ?_) (fun z => by cases z))
        refine hK _ _ _ _ (hK _ _ _ _ (hK _ _ _ _ (hK _ _ _ _ (show K _ _ _ _ from ?_))))
        refine hK _ _ _ _ (nk_stS rfl rfl rfl rfl ?_)
        refine sm_in2 (a := ((0 : Nat) : Int)) (b := ((1 : Nat) : Int)) rfl rfl ?_
        rw [hd]
        refine hK _ _ _ _ (nk_bne (fun _ => ?_) (fun z => by cases z))
        refine hK _ _ _ _ (hK _ _ _ _ (nk_GR rfl rfl rfl (hK _ _ _ _ (show K _ _ _ _ from ?_))))
        refine hK _ _ _ _ (nk_AL rfl rfl (j := 36) rfl (by decide) (show K _ _ _ _ from ?_))
        rw [e2]
        refine hK _ _ _ _ (show K _ _ _ _ from ?_)
        refine hK _ _ _ _ (nk_stS rfl rfl rfl rfl ?_)
        refine sm_has (by omega) (by omega) ?_
        have hvK := hv K hK
        refine hK _ _ _ _ (hK _ _ _ _ (show K _ _ _ _ from ?_))
        refine hK _ _ _ _ (nk_ne (by omega) (by omega) (fun g => ?_) (fun g => ?_))
        · refine hK _ _ _ _ (show K _ _ _ _ from ?_)
          rw [decide_eq_false g] at hvK
          cases hb : s.2.1.testBit p
          · rw [hb, if_pos rfl] at hvK
            refine hK _ _ _ _ (nk_nf rfl ?_)
            exact hvK
          · rw [hb, if_neg (by decide)] at hvK
            refine hK _ _ _ _ (nk_nt (by decide) ?_)
            exact hvK
        · refine hK _ _ _ _ (hK _ _ _ _ (show K _ _ _ _ from ?_))
          rw [decide_eq_true g] at hvK
          cases hb : s.2.1.testBit p
          · rw [hb, if_neg (by decide)] at hvK
            refine hK _ _ _ _ (nk_nt (by decide) ?_)
            exact hvK
          · rw [hb, if_pos rfl] at hvK
            refine hK _ _ _ _ (nk_nf rfl ?_)
            exact hvK
      have go26 : K 26 [some (.ref 0), some (.int (nI p)), some (.int (nI j))] [] D := by
        refine hK _ _ _ _ (hK _ _ _ _ (nk_GR rfl rfl rfl (hK _ _ _ _ (nk_GI rfl rfl rfl (hK _ _ _ _ (show K _ _ _ _ from ?_))))))
        rw [hR]
        refine hK _ _ _ _ (nk_stS rfl rfl rfl rfl ?_)
        refine sx_isIn (by omega) (by omega) ?_
        have same : s.2.1.testBit p = decide (j = 1) → K 50 [some (.ref 0), some (.int (nI p)), some (.int (nI j))] [] D := by
          intro e
          refine hK _ _ _ _ (show K _ _ _ _ from ?_)
          refine hK _ _ _ _ (And.intro rfl (h _ _ (mroad _ D hmk.2.1 mR (fun K hK => ?_))))
          rw [if_pos e]
          refine hK _ _ _ _ (show K _ _ _ _ from ?_)
          exact hK _ _ _ _ (And.intro rfl (⟨rfl, hr0⟩))
        have diff : ¬ s.2.1.testBit p = decide (j = 1) → K 53 [some (.ref 0), some (.int (nI p)), some (.int (nI j))] [] D := by
          intro e
          refine hK _ _ _ _ (hK _ _ _ _ (nk_GR rfl rfl rfl (hK _ _ _ _ (hK _ _ _ _ (nk_GR rfl rfl rfl (show K _ _ _ _ from ?_))))))
          refine hK _ _ _ _ (nk_stV rfl rfl rfl rfl ?_)
          refine sx_remember hx xr.2.2.2.1 ok.2.2.2.1.1 (fun D1 g1 g2 => ?_)
          show K 64 _ _ _
          have e63 : D1 6 3 = nI s.2.1 := by rw [g2 6 3 (by omega)]; exact hR
          refine hK _ _ _ _ (hK _ _ _ _ (nk_GR rfl rfl rfl (hK _ _ _ _ (hK _ _ _ _ (nk_GI rfl rfl rfl (hK _ _ _ _ (hK _ _ _ _ (hK _ _ _ _ (hK _ _ _ _ (show K _ _ _ _ from ?_))))))))))
          rw [e63, nk_one (by omega), nk_xor]
          refine hK _ _ _ _ (nk_PI rfl rfl rfl (hK _ _ _ _ (hK _ _ _ _ (nk_GR rfl rfl rfl (hK _ _ _ _ (nk_GI rfl rfl rfl (show K _ _ _ _ from ?_)))))))
          have e2 : nk_up D1 6 3 (nI (s.2.1 ^^^ 2 ^ p)) 6 3 = nI (s.2.1 ^^^ 2 ^ p) := by simp [nk_up]
          rw [e2]
          have fr : ∀ a b, ¬ (6 ≤ a ∧ a < 38) → nk_up D1 6 3 (nI (s.2.1 ^^^ 2 ^ p)) a b = D a b := fun a b hab => by simp [nk_up, show ¬ a = 6 by omega, g2 a b (by omega)]
          have fu : XU (nk_up D1 6 3 (nI (s.2.1 ^^^ 2 ^ p))) n ka (if u < 8 then u + 1 else 8) (consP s pa) := XU_of (fun a b h1 h2 => by simp [nk_up, show ¬ a = 6 by omega]) g1
          have fs : XSc (nk_up D1 6 3 (nI (s.2.1 ^^^ 2 ^ p))) 6 n ka (s.1, s.2.1 ^^^ 2 ^ p, s.2.2) := by
            refine ⟨⟨hn6, ?_, fun p hp => ⟨?_, (hxs.2.2.1 p hp).2⟩, fun p q hp hq => ⟨?_, (hxs.2.2.2 p q hp hq).2⟩⟩, e2, ?_⟩
            · simp [nk_up, g2 6 2 (by omega), hn]
            · simp [nk_up, g2 7 p (by omega), (hxs.2.2.1 p hp).1]
            · simp [nk_up, g2 8 _ (by omega), (hxs.2.2.2 p q hp hq).1]
            · simp [nk_up, g2 6 4 (by omega), hx.2.2]
          generalize nk_up D1 6 3 (nI (s.2.1 ^^^ 2 ^ p)) = D2 at e2 fr fu fs ⊢
          refine hK _ _ _ _ (And.intro rfl (h _ _ (mroad _ D2 (by rw [fr _ _ (by omega)]; exact hmk.2.1) (by rw [fr _ _ (by omega)]; exact mR) (fun K hK => ?_))))
          rw [if_neg e]
          refine hK _ _ _ _ (show K _ _ _ _ from ?_)
          refine hK _ _ _ _ (nk_stV rfl rfl rfl rfl ?_)
          refine sm_note (u := u) (by rw [fr _ _ (by omega)]; exact mr.2.2.2.2.1.1) ok.2.2.2.1.1 (fun D3 u' k0 k1 k2 k3 k4 => ?_)
          show K 55 _ _ _
          have mR3 : D3 54 36 = nI s.2.1 := by rw [k4 54 36 (by omega) (by omega), fr _ _ (by omega)]; exact mR
          refine hK _ _ _ _ (hK _ _ _ _ (nk_GR rfl rfl rfl (hK _ _ _ _ (hK _ _ _ _ (show K _ _ _ _ from ?_)))))
          refine hK _ _ _ _ (nk_AL rfl rfl (j := 36) rfl (by decide) (show K _ _ _ _ from ?_))
          rw [mR3]
          refine hK _ _ _ _ (hK _ _ _ _ (hK _ _ _ _ (hK _ _ _ _ (show K _ _ _ _ from ?_))))
          rw [nk_one (by omega), nk_xor]
          refine hK _ _ _ _ (nk_AS rfl rfl (j := 36) rfl (by decide) (show K _ _ _ _ from ?_))
          refine hK _ _ _ _ (hK _ _ _ _ (nk_GR rfl rfl rfl (hK _ _ _ _ (show K _ _ _ _ from ?_))))
          refine hK _ _ _ _ (nk_AL rfl rfl (j := 36) rfl (by decide) (show K _ _ _ _ from ?_))
          have e4 : nk_up D3 54 36 (nI (s.2.1 ^^^ 2 ^ p)) 54 36 = nI (s.2.1 ^^^ 2 ^ p) := by simp [nk_up]
          rw [e4]
          have mu2 := MU_note (D := D2) hn6 k0 k1 k2 (MSc_of (fun j _ => fr _ _ (by omega)) hn6 mr.2.1) (MU_of hn6 (fr _ _ (by omega)) (fun b => fr _ b (by omega)) mr.2.2.2.2.1)
          rw [u_next k0] at mu2
          have hw' : WF n (s.1, s.2.1 ^^^ 2 ^ p, s.2.2) := ⟨hw.1, hw.2.1, Nat.xor_lt_two_pow hw.2.2.1 (Nat.pow_lt_pow_right (by decide) hp), hw.2.2.2⟩
          refine hK _ _ _ _ (And.intro rfl ⟨rfl, n, ka, (s.1, s.2.1 ^^^ 2 ^ p, s.2.2), t, L, tx, (if u < 8 then u + 1 else 8), consP s pa, kp, c, se, ⟨hw', ok.2.1, ok.2.2.1, WF_cons hw ok.2.2.2.1, ok.2.2.2.2.1, ok.2.2.2.2.2⟩, ?_, ?_⟩)
          · have f3 : ∀ a b, a < 50 → nk_up D3 54 36 (nI (s.2.1 ^^^ 2 ^ p)) a b = D2 a b := fun a b ha => by simp [nk_up, show ¬ a = 54 by omega, k4 a b (by omega) (by omega)]
            exact XR_N (D := D) (fun a b h1 h2 => by rw [f3 a b h1]; exact fr a b h2) (XSc_of (fun b => f3 _ b (by omega)) (fun b => f3 _ b (by omega)) (fun b => f3 _ b (by omega)) fs) (XU_of (fun a b h1 h2 => f3 a b (by omega)) fu) xr
          · refine MR_N (D := D) (fun a b h1 h2 h3 h4 => ?_) (fun b hb => ?_) ⟨fun p q hp hq => ?_, e4, ?_⟩ (MU_of hn6 (by simp [nk_up]) (fun b => by simp [nk_up]) mu2) mr
            · simp [nk_up, h2, k4 a b (by omega) h3, fr a b (by omega)]
            · simp [nk_up, k3 b hb, fr 52 b (by omega)]
            · have e5 : ¬ 0 + (6 * p + q) = 36 := by omega
              simp only [nk_up, e5, and_false, if_false]
              rw [k4 54 _ (by omega) (by omega), fr _ _ (by omega)]
              exact mr.2.1.1 p q hp hq
            · simp [nk_up, k4 54 37 (by omega) (by omega), fr 54 37 (by omega)]
              exact mr.2.1.2.2
        show K 37 _ _ _
        refine hK _ _ _ _ (hK _ _ _ _ (show K _ _ _ _ from ?_))
        refine hK _ _ _ _ (nk_ne (by omega) (by omega) (fun g => ?_) (fun g => ?_))
        · rw [decide_eq_false g] at same diff
          refine hK _ _ _ _ (show K _ _ _ _ from ?_)
          cases hb : s.2.1.testBit p
          · refine hK _ _ _ _ (nk_nf rfl ?_)
            exact same hb
          · refine hK _ _ _ _ (nk_nt (by decide) ?_)
            exact diff (by rw [hb]; decide)
        · rw [decide_eq_true g] at same diff
          refine hK _ _ _ _ (hK _ _ _ _ (show K _ _ _ _ from ?_))
          cases hb : s.2.1.testBit p
          · refine hK _ _ _ _ (nk_nt (by decide) ?_)
            exact diff (by rw [hb]; decide)
          · refine hK _ _ _ _ (nk_nf rfl ?_)
            exact same hb
      refine hK _ _ _ _ (show K _ _ _ _ from ?_)
      refine hK _ _ _ _ (nk_eq (by omega) (by omega) (fun g => ?_) (fun g => ?_))
      · exact go26
      · refine hK _ _ _ _ (hK _ _ _ _ (show K _ _ _ _ from ?_))
        refine hK _ _ _ _ (nk_eq (by omega) (by omega) (fun g2 => ?_) (fun g2 => by omega))
        exact go26
    · have hd' := of_decide_eq_false hd
      have n0 : ¬ y = nI 0 := fun e => hd' (by rw [e]; decide)
      have n1 : ¬ y = nI 1 := fun e => hd' (by rw [e]; decide)
      refine hK _ _ _ _ (show K _ _ _ _ from ?_)
      refine hK _ _ _ _ (nk_bf n0 ?_)
      refine hK _ _ _ _ (hK _ _ _ _ (show K _ _ _ _ from ?_))
      refine hK _ _ _ _ (nk_bf n1 ?_)
      refine hK _ _ _ _ (show K _ _ _ _ from ?_)
      refine hK _ _ _ _ (And.intro rfl (h _ _ ?_))
      refine nk_go (M := (6, yX6_comes, cX6_comes, 3, (some .int), false, 2, nk_T102)) rfl rfl (Nat.le_of_ble_eq_true rfl) (fun K hK => ?_)
      show K 0 [some (.ref 52), some (.int (nI p)), some (.int y)] [] D
      refine hK _ _ _ _ (hK _ _ _ _ (show K _ _ _ _ from ?_))
      refine hK _ _ _ _ (nk_stV rfl rfl rfl rfl ?_)
      refine sm_isPerson hmk.2.1 hn6 ?_
      rw [b]
      refine hK _ _ _ _ (nk_bne (fun _ => ?_) (fun z => by cases z))
      refine hK _ _ _ _ (hK _ _ _ _ (hK _ _ _ _ (hK _ _ _ _ (show K _ _ _ _ from ?_))))
      refine hK _ _ _ _ (nk_stS rfl rfl rfl rfl ?_)
      refine sm_in2 (a := ((0 : Nat) : Int)) (b := ((1 : Nat) : Int)) rfl rfl ?_
      rw [hd]
      refine hK _ _ _ _ (nk_bne (fun z => by cases z) (fun _ => ?_))
      refine hK _ _ _ _ (show K _ _ _ _ from ?_)
      exact hK _ _ _ _ (And.intro rfl (⟨rfl, hr0⟩))
  · refine hK _ _ _ _ (show K _ _ _ _ from ?_)
    refine hK _ _ _ _ (And.intro rfl (h _ _ ?_))
    refine nk_go (M := (6, yX6_comes, cX6_comes, 3, (some .int), false, 2, nk_T102)) rfl rfl (Nat.le_of_ble_eq_true rfl) (fun K hK => ?_)
    show K 0 [some (.ref 52), some (.int x), some (.int y)] [] D
    refine hK _ _ _ _ (hK _ _ _ _ (show K _ _ _ _ from ?_))
    refine hK _ _ _ _ (nk_stV rfl rfl rfl rfl ?_)
    refine sm_isPerson hmk.2.1 hn6 ?_
    rw [b]
    refine hK _ _ _ _ (nk_bne (fun z => by cases z) (fun _ => ?_))
    refine hK _ _ _ _ (show K _ _ _ _ from ?_)
    exact hK _ _ _ _ (And.intro rfl (⟨rfl, hr0⟩))
end NKO
