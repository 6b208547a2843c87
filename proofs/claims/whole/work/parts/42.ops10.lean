/-! ===== fault, season: the operations ===== -/
section NKO
variable {S : nk_Sc} {d : Nat} {D : nk_D} {P : nk_P}
theorem XD_cp {D D1 : nk_D} {n : Nat} {ka : Nat → Nat} {t : Sc3} (g1 : ∀ j, j = 2 ∨ j = 3 ∨ j = 4 → D1 9 j = D 3 j) (g2 : ∀ j, j < 6 → D1 (9 + 1) j = D (3 + 1) j) (g3 : ∀ j, j < 36 → D1 (9 + 2) j = D (3 + 2) j) (h : XT D n ka t) : XD D1 (n, ka, t) := ⟨XSc_cp g1 g2 g3 h.1, fun p q hp hq hn => by
  have := g3 (p * 6 + q) (by omega)
  rw [show (9 + 2 : Nat) = 11 from rfl] at this
  rw [this]
  exact h.2 p q hp hq hn⟩
theorem op_fault (hr : REL D) (h : ∀ v D1, TH S (d + 20) 89 [.ref 52] v D1 → P (some (.int v)) D1) : nk_run S (d + 20) 38 [.ref 0] D P := by
  have hr0 := hr
  obtain ⟨n, ka, s, t, L, tx, u, pa, kp, c, se, ok, xr, mr⟩ := hr
  have hw := ok.1
  have hx := xr.1
  have hxs := hx.1
  have hn6 := hxs.1
  have hn := hxs.2.1
  have h64 := p64 hn6
  have hmk := mr.1
  have hms := MS_now mr.2.1 hw
  have hR : D 6 3 = nI s.2.1 := hx.2.1
  have mR : D 54 36 = nI s.2.1 := mr.2.1.2.1
  have hR64 : s.2.1 < 64 := by have := hw.2.2.1; omega
  have hL := ok.2.2.1
  have hmt := mr.2.2.1
  refine nk_go (M := (5, yX5_fault, cX5_fault, 1, (some .int), false, 0, nk_T38)) rfl rfl (Nat.le_of_ble_eq_true rfl) (fun K hK => ?_)
  show K 0 [some (.ref 0)] [] D
  refine hK _ _ _ _ (hK _ _ _ _ (nk_GR rfl rfl rfl (hK _ _ _ _ (hK _ _ _ _ (nk_GR rfl rfl rfl (show K _ _ _ _ from ?_))))))
  refine hK _ _ _ _ (nk_stV rfl rfl rfl rfl ?_)
  refine sx_copyFrom isS9 isS3 (by omega) (fun D1 g1 g2 g3 g4 => ?_)
  have x1 := XD_cp g1 g2 g3 xr.2.1
  have fr1 : ∀ a b, ¬ (9 ≤ a ∧ a < 12) → D1 a b = D a b := fun a b hab => g4 a b (by omega) (by omega) (by omega)
  show K 11 _ _ _
  refine hK _ _ _ _ (hK _ _ _ _ (nk_GR rfl rfl rfl (hK _ _ _ _ (hK _ _ _ _ (nk_GR rfl rfl rfl (show K _ _ _ _ from ?_))))))
  refine hK _ _ _ _ (nk_stV rfl rfl rfl rfl ?_)
  refine sx_readInto (dr := (n, ka, t)) ⟨XL_of (fr1 _ _ (by omega)) (fun b => fr1 _ _ (by omega)) xr.2.2.1, hL⟩ x1 rfl (fun D2 k1 k2 k3 => ?_)
  have fr2 : ∀ a b, ¬ (a = 1 ∧ (b = 2 ∨ b = 3 ∨ b = 4)) → ¬ (9 ≤ a ∧ a < 12) → D2 a b = D a b := fun a b w1 w2 => by rw [k3 a b w1 w2, fr1 a b w2]
  refine hK _ _ _ _ (And.intro rfl (h _ _ ?_))
  unfold TH
  refine nk_go (M := (6, yX6_fault, cX6_fault, 1, (some .int), false, 0, nk_T89)) rfl rfl (Nat.le_of_ble_eq_true rfl) (fun K hK => ?_)
  show K 0 [some (.ref 52)] [] D2
  refine hK _ _ _ _ (show K _ _ _ _ from ?_)
  refine hK _ _ _ _ (nk_stV rfl rfl rfl rfl ?_)
  refine sm_readText (dr := (n, ka, t)) ⟨ML_of (fr2 _ _ (by omega) (by omega)) (fun b => fr2 _ _ (by omega) (by omega)) mr.2.2.2.1, hL⟩ ⟨hn6, ok.2.1.1, fun p hp => (hmk.2.2 p hp).2⟩ (MK_of (fun b => fr2 _ _ (by omega) (by omega)) hmk) (MT_of (fun b => fr2 _ _ (by omega) (by omega)) hmt) rfl (fun D3 q1 q2 q3 => ?_)
  have rel3 : REL D3 := REL_g hr0 (fun a b z1 z2 z3 => by rw [q3 a b (by omega) (by omega), fr2 a b (by omega) z2]) (fun a b z1 z2 z3 z4 z5 z6 z7 => by rw [q3 a b (by omega) z3, fr2 a b (by omega) (by omega)])
  refine hK _ _ _ _ (nk_beq (fun w => ?_) (fun w => ?_))
  · refine hK _ _ _ _ (hK _ _ _ _ (nk_GI rfl rfl rfl (show K _ _ _ _ from ?_)))
    rw [q1 w]
    refine hK _ _ _ _ (And.intro rfl ⟨?_, rel3⟩)
    rw [if_neg (by rw [w]; decide)]
  · refine hK _ _ _ _ (hK _ _ _ _ (show K _ _ _ _ from ?_))
    refine hK _ _ _ _ (And.intro rfl ⟨?_, rel3⟩)
    rw [if_pos w]
theorem op_season (hr : REL D) (h : ∀ v D1, TH S (d + 20) 90 [.ref 52] v D1 → P (some (.int v)) D1) : nk_run S (d + 20) 39 [.ref 0] D P := by
  have hr0 := hr
  obtain ⟨n, ka, s, t, L, tx, u, pa, kp, c, se, ok, xr, mr⟩ := hr
  have hw := ok.1
  have hx := xr.1
  have hxs := hx.1
  have hn6 := hxs.1
  have hn := hxs.2.1
  have h64 := p64 hn6
  have hmk := mr.1
  have hms := MS_now mr.2.1 hw
  have hR : D 6 3 = nI s.2.1 := hx.2.1
  have mR : D 54 36 = nI s.2.1 := mr.2.1.2.1
  have hR64 : s.2.1 < 64 := by have := hw.2.2.1; omega
  have hL := ok.2.2.1
  have hmt := mr.2.2.1
  have wd : WD (n, ka, t) := ⟨hn6, ok.2.1.1, fun p hp => (hmk.2.2 p hp).2⟩
  obtain ⟨r1, r2, r3⟩ := rd_ok (L := L) (tx := tx) hL.1 14 0 (n, ka, t) 0 0 (by omega) (by omega) wd
  have r3 : (rd L tx 14 0 (n, ka, t) 0 0).2.2.1.2.2.2.2 = t.2.2 := r3
  rw [ok.2.1.2] at r3
  refine nk_go (M := (5, yX5_season, cX5_season, 2, (some .int), false, 0, nk_T39)) rfl rfl (Nat.le_of_ble_eq_true rfl) (fun K hK => ?_)
  show K 0 [some (.ref 0), none] [] D
  refine hK _ _ _ _ (hK _ _ _ _ (nk_GR rfl rfl rfl (hK _ _ _ _ (hK _ _ _ _ (nk_GR rfl rfl rfl (show K _ _ _ _ from ?_))))))
  refine hK _ _ _ _ (nk_stV rfl rfl rfl rfl ?_)
  refine sx_copyFrom isS9 isS3 (by omega) (fun D1 g1 g2 g3 g4 => ?_)
  have x1 := XD_cp g1 g2 g3 xr.2.1
  have fr1 : ∀ a b, ¬ (9 ≤ a ∧ a < 12) → D1 a b = D a b := fun a b hab => g4 a b (by omega) (by omega) (by omega)
  show K 11 _ _ _
  refine hK _ _ _ _ (hK _ _ _ _ (nk_GR rfl rfl rfl (hK _ _ _ _ (hK _ _ _ _ (nk_GR rfl rfl rfl (show K _ _ _ _ from ?_))))))
  refine hK _ _ _ _ (nk_stV rfl rfl rfl rfl ?_)
  refine sx_readInto (dr := (n, ka, t)) ⟨XL_of (fr1 _ _ (by omega)) (fun b => fr1 _ _ (by omega)) xr.2.2.1, hL⟩ x1 rfl (fun D2 k1 k2 k3 => ?_)
  have fr2 : ∀ a b, ¬ (a = 1 ∧ (b = 2 ∨ b = 3 ∨ b = 4)) → ¬ (9 ≤ a ∧ a < 12) → D2 a b = D a b := fun a b w1 w2 => by rw [k3 a b w1 w2, fr1 a b w2]
  -- the reference reads the same
  have road : ∀ D5 (P2 : nk_P), (∀ a b, 52 ≤ a → D5 a b = D a b) → (∀ D6, ((rd L tx 14 0 (n, ka, t) 0 0).1 = false → True) → ((rd L tx 14 0 (n, ka, t) 0 0).1 = true → D6 52 9 = nI (rd L tx 14 0 (n, ka, t) 0 0).2.2.2 ∧ MD D6 (rd L tx 14 0 (n, ka, t) 0 0).2.2.1) → (∀ a b, ¬ (a = 52 ∧ (b = 4 ∨ b = 5 ∨ b = 6 ∨ b = 7 ∨ b = 9)) → a ≠ 56 → D6 a b = D5 a b) → P2 (some (.int (bI (rd L tx 14 0 (n, ka, t) 0 0).1))) D6) → nk_run S (d + 19) 88 [.ref 52] D5 P2 := by
    intro D5 P2 f5 hP
    exact sm_readText (dr := (n, ka, t)) ⟨ML_of (f5 _ _ (by omega)) (fun b => f5 _ _ (by omega)) mr.2.2.2.1, hL⟩ wd (MK_of (fun b => f5 _ _ (by omega)) hmk) (MT_of (fun b => f5 _ _ (by omega)) hmt) rfl (fun D6 q1 q2 q3 => hP D6 (fun _ => trivial) q2 q3)
  generalize rd L tx 14 0 (n, ka, t) 0 0 = z at r1 r2 r3 k1 k2 road ⊢
  refine hK _ _ _ _ (show K _ _ _ _ from ?_)
  by_cases w : z.1 = true
  · rw [if_pos w]
    have x2 := k2 w
    obtain ⟨b, pos, dr, cnt⟩ := z
    simp only at r1 r2 r3 k1 k2 road w x2
    subst w
    obtain ⟨n', ka', t'⟩ := dr
    obtain ⟨d6, dwf, dka⟩ := r2
    simp only at r3 d6 dwf dka
    refine hK _ _ _ _ (nk_bt rfl ?_)
    refine hK _ _ _ _ (hK _ _ _ _ (nk_GR rfl rfl rfl (hK _ _ _ _ (hK _ _ _ _ (nk_GR rfl rfl rfl (show K _ _ _ _ from ?_))))))
    refine hK _ _ _ _ (nk_stV rfl rfl rfl rfl ?_)
    refine sx_copyFrom isS3 isS9 (by omega) (fun D3 a1 a2 a3 a4 => ?_)
    show K 40 _ _ _
    refine hK _ _ _ _ (hK _ _ _ _ (nk_GR rfl rfl rfl (hK _ _ _ _ (hK _ _ _ _ (nk_GR rfl rfl rfl (show K _ _ _ _ from ?_))))))
    refine hK _ _ _ _ (nk_stV rfl rfl rfl rfl ?_)
    refine sx_copyFrom isS6 isS9 (by omega) (fun D4 b1 b2 b3 b4 => ?_)
    have fr4 : ∀ a b, 12 ≤ a → D4 a b = D a b := fun a b ha => by rw [b4 a b (by omega) (by omega) (by omega), a4 a b (by omega) (by omega) (by omega), fr2 a b (by omega) (by omega)]
    have t3 : XT D3 n' ka' t' := by
      refine ⟨XSc_cp a1 a2 a3 x2.1, fun p q hp hq hn => ?_⟩
      have := a3 (p * 6 + q) (by omega)
      rw [show (3 + 2 : Nat) = 5 from rfl, show (9 + 2 : Nat) = 11 from rfl] at this
      rw [this]
      exact x2.2 p q hp hq hn
    have t4 : XT D4 n' ka' t' := XT_of (fun a b z1 z2 => b4 a b (by omega) (by omega) (by omega)) t3
    have s4 : XSc D4 6 n' ka' t' := XSc_cp b1 b2 b3 (XSc_of (fun b => a4 _ _ (by omega) (by omega) (by omega)) (fun b => a4 _ _ (by omega) (by omega) (by omega)) (fun b => a4 _ _ (by omega) (by omega) (by omega)) x2.1)
    have c4 : D4 1 2 = nI cnt := by rw [b4 _ _ (by omega) (by omega) (by omega), a4 _ _ (by omega) (by omega) (by omega)]; exact k1
    obtain ⟨px, px8, p1, p2, -⟩ := xr.2.2.2.1
    have p4 : D4 12 1 = nI px := by rw [fr4 _ _ (by omega)]; exact p1
    show K 51 _ _ _
    refine hK _ _ _ _ (hK _ _ _ _ (nk_GR rfl rfl rfl (hK _ _ _ _ (hK _ _ _ _ (nk_PI rfl rfl rfl (hK _ _ _ _ (hK _ _ _ _ (nk_GR rfl rfl rfl (hK _ _ _ _ (hK _ _ _ _ (nk_PI rfl rfl rfl (hK _ _ _ _ (hK _ _ _ _ (show K _ _ _ _ from ?_))))))))))))))
    have f5 : ∀ a b, ¬ (a = 12 ∧ b = 2) → ¬ (a = 46 ∧ b = 3) → nk_up (nk_up D4 12 2 (nI 0)) 46 3 (nI 0) a b = D4 a b := fun a b w1 w2 => by simp only [nk_up, w1, w2, if_false]
    have e5 : nk_up (nk_up D4 12 2 (nI 0)) 46 3 (nI 0) 12 2 = nI 0 := by simp [nk_up]
    have e6 : nk_up (nk_up D4 12 2 (nI 0)) 46 3 (nI 0) 46 3 = nI 0 := by simp [nk_up]
    generalize nk_up (nk_up D4 12 2 (nI 0)) 46 3 (nI 0) = D5 at f5 e5 e6 ⊢
    have loop : ∀ m j D6, j + m = 2 → (∀ i, i < j → D6 45 i = nI 0) → (∀ a b, a ≠ 45 → D6 a b = D5 a b) → K 69 [some (.ref 0), some (.int (nI j))] [] D6 := by
      intro m
      induction m with
      | zero =>
        intro j D6 hj v1 v2
        have hj : j = 2 := by omega
        subst hj
        refine hK _ _ _ _ (hK _ _ _ _ (show K _ _ _ _ from ?_))
        refine hK _ _ _ _ (nk_bt (nI_le (Nat.le_refl _) (by omega)) ?_)
        refine hK _ _ _ _ (hK _ _ _ _ (nk_GR rfl rfl rfl (hK _ _ _ _ (hK _ _ _ _ (nk_PI rfl rfl rfl (hK _ _ _ _ (hK _ _ _ _ (nk_GR rfl rfl rfl (hK _ _ _ _ (nk_GI rfl rfl rfl (show K _ _ _ _ from ?_)))))))))))
        have fr6 : ∀ a b, ¬ (a = 1 ∧ b = 1) → nk_up D6 1 1 (nI 0) a b = D6 a b := fun a b w1 => by simp only [nk_up, w1, if_false]
        have e7 : nk_up D6 1 1 (nI 0) 1 1 = nI 0 := by simp [nk_up]
        have e8 : nk_up D6 1 1 (nI 0) 1 2 = nI cnt := by rw [fr6 _ _ (by omega), v2 _ _ (by omega), f5 _ _ (by omega) (by omega)]; exact c4
        rw [e8]
        generalize nk_up D6 1 1 (nI 0) = D7 at fr6 e7 e8 ⊢
        have fr7 : ∀ a b, ¬ (a = 1 ∧ b = 1) → a ≠ 45 → ¬ (a = 12 ∧ b = 2) → ¬ (a = 46 ∧ b = 3) → D7 a b = D4 a b := fun a b w1 w2 w3 w4 => by rw [fr6 a b w1, v2 a b w2, f5 a b w3 w4]
        have xr7 : XR D7 n' ka' t' t' 0 tx 0 pa (fun _ => none) 0 se := by
          refine ⟨XSc_of (fun b => fr7 _ _ (by omega) (by omega) (by omega) (by omega)) (fun b => fr7 _ _ (by omega) (by omega) (by omega) (by omega)) (fun b => fr7 _ _ (by omega) (by omega) (by omega) (by omega)) s4, XT_of (fun a b z1 z2 => fr7 a b (by omega) (by omega) (by omega) (by omega)) t4, ⟨e7, fun j hj => absurd hj (by omega)⟩, ⟨px, px8, ?_, ?_, fun i hi => absurd hi (by omega)⟩, fun k hk => ⟨?_, fun s hs => (by cases hs)⟩, ⟨?_, fun i hi => absurd hi (by omega)⟩⟩
          · rw [fr7 _ _ (by omega) (by omega) (by omega) (by omega)]; exact p4
          · rw [fr6 _ _ (by omega), v2 _ _ (by omega)]; exact e5
          · rw [fr6 _ _ (by omega), v1 k hk]; rfl
          · rw [fr6 _ _ (by omega), v2 _ _ (by omega)]; exact e6
        have fm7 : ∀ a b, 52 ≤ a → D7 a b = D a b := fun a b ha => by rw [fr7 a b (by omega) (by omega) (by omega) (by omega), fr4 a b (by omega)]
        refine hK _ _ _ _ (And.intro rfl (h _ _ ?_))
        unfold TH
        refine nk_go (M := (6, yX6_season, cX6_season, 2, (some .int), false, 0, nk_T90)) rfl rfl (Nat.le_of_ble_eq_true rfl) (fun K hK => ?_)
        show K 0 [some (.ref 52), none] [] D7
        refine hK _ _ _ _ (show K _ _ _ _ from ?_)
        refine hK _ _ _ _ (nk_stV rfl rfl rfl rfl ?_)
        refine road D7 _ fm7 (fun D8 _ q2 q3 => ?_)
        obtain ⟨q9, qm⟩ := q2 rfl
        obtain ⟨m1, m2, m3, m4⟩ := qm
        simp only at m1 m2 m3 m4
        refine hK _ _ _ _ (nk_bne (fun _ => ?_) (fun w => by cases w))
        refine hK _ _ _ _ (hK _ _ _ _ (hK _ _ _ _ (nk_PI rfl rfl rfl (hK _ _ _ _ (hK _ _ _ _ (show K _ _ _ _ from ?_))))))
        have up8 : ∀ a b, ¬ (a = 52 ∧ b = 3) → nk_up D8 52 3 (nI 0) a b = D8 a b := fun a b w => by simp only [nk_up, w, if_false]
        have l8 : nk_up D8 52 3 (nI 0) 52 3 = nI 0 := by simp [nk_up]
        generalize nk_up D8 52 3 (nI 0) = D9 at up8 l8 ⊢
        have first : ∀ m j E, j + m = 44 → (∀ i, i < j → E 53 i = D8 56 i) → (∀ a b, a ≠ 53 → E a b = D9 a b) → K 17 [some (.ref 52), some (.int (nI j))] [] E := by
          intro m
          induction m with
          | zero =>
            intro j E hj y1 y2
            have hj : j = 44 := by omega
            subst hj
            refine hK _ _ _ _ (hK _ _ _ _ (show K _ _ _ _ from ?_))
            refine hK _ _ _ _ (nk_bt (nI_le (Nat.le_refl _) (by omega)) ?_)
            refine hK _ _ _ _ (hK _ _ _ _ (show K _ _ _ _ from ?_))
            have second : ∀ m j F, j + m = 36 → (∀ i, i < j → F 54 i = D8 56 (7 + i)) → (∀ a b, a ≠ 54 → F a b = E a b) → K 43 [some (.ref 52), some (.int (nI j))] [] F := by
              intro m
              induction m with
              | zero =>
                intro j F hj u1 u2
                have hj : j = 36 := by omega
                subst hj
                refine hK _ _ _ _ (hK _ _ _ _ (show K _ _ _ _ from ?_))
                refine hK _ _ _ _ (nk_bt (nI_le (Nat.le_refl _) (by omega)) ?_)
                refine hK _ _ _ _ (hK _ _ _ _ (nk_GR rfl rfl rfl (hK _ _ _ _ (hK _ _ _ _ (hK _ _ _ _ (nk_GR rfl rfl rfl (hK _ _ _ _ (show K _ _ _ _ from ?_))))))))
                refine hK _ _ _ _ (nk_AL rfl rfl (j := 43) rfl (by decide) (show K _ _ _ _ from ?_))
                rw [u2 53 43 (by omega), y1 43 (by omega), m4]
                refine hK _ _ _ _ (nk_AS rfl rfl (j := 36) rfl (by decide) (show K _ _ _ _ from ?_))
                refine hK _ _ _ _ (hK _ _ _ _ (nk_GR rfl rfl rfl (hK _ _ _ _ (hK _ _ _ _ (show K _ _ _ _ from ?_)))))
                refine hK _ _ _ _ (nk_AS rfl rfl (j := 37) rfl (by decide) (show K _ _ _ _ from ?_))
                refine hK _ _ _ _ (hK _ _ _ _ (hK _ _ _ _ (nk_PI rfl rfl rfl (hK _ _ _ _ (hK _ _ _ _ (hK _ _ _ _ (nk_PI rfl rfl rfl (hK _ _ _ _ (hK _ _ _ _ (nk_GR rfl rfl rfl (hK _ _ _ _ (hK _ _ _ _ (show K _ _ _ _ from ?_)))))))))))))
                refine hK _ _ _ _ (nk_BS rfl rfl (j := 0) rfl (by decide) (show K _ _ _ _ from ?_))
                refine hK _ _ _ _ (hK _ _ _ _ (nk_GR rfl rfl rfl (hK _ _ _ _ (hK _ _ _ _ (show K _ _ _ _ from ?_)))))
                refine hK _ _ _ _ (nk_BS rfl rfl (j := 1) rfl (by decide) (show K _ _ _ _ from ?_))
                rw [show (nI 0 &&& 1 : Int32) = nI 0 by decide]
                have gE : ∀ a b, a ≠ 54 → a ≠ 59 → ¬ (a = 52 ∧ (b = 18 ∨ b = 11)) → nk_up (nk_up (nk_up (nk_up (nk_up (nk_up F 54 36 (nI t'.2.1)) 54 37 (nI 0)) 52 18 (nI 0)) 52 11 (nI 0)) 59 0 (nI 0)) 59 1 (nI 0) a b = E a b := fun a b w1 w2 w3 => by
                  have n1 : ¬ (a = 52 ∧ b = 18) := by omega
                  have n2 : ¬ (a = 52 ∧ b = 11) := by omega
                  simp only [nk_up, w1, w2, n1, n2, false_and, if_false]
                  exact u2 a b w1
                have g54 : ∀ i, i < 36 → nk_up (nk_up (nk_up (nk_up (nk_up (nk_up F 54 36 (nI t'.2.1)) 54 37 (nI 0)) 52 18 (nI 0)) 52 11 (nI 0)) 59 0 (nI 0)) 59 1 (nI 0) 54 i = D8 56 (7 + i) := fun i hi => by
                  have n1 : ¬ i = 36 := by omega
                  have n2 : ¬ i = 37 := by omega
                  simp [nk_up, n1, n2, u1 i hi]
                have g36 : nk_up (nk_up (nk_up (nk_up (nk_up (nk_up F 54 36 (nI t'.2.1)) 54 37 (nI 0)) 52 18 (nI 0)) 52 11 (nI 0)) 59 0 (nI 0)) 59 1 (nI 0) 54 36 = nI t'.2.1 := by simp [nk_up]
                have g37 : nk_up (nk_up (nk_up (nk_up (nk_up (nk_up F 54 36 (nI t'.2.1)) 54 37 (nI 0)) 52 18 (nI 0)) 52 11 (nI 0)) 59 0 (nI 0)) 59 1 (nI 0) 54 37 = nI 0 := by simp [nk_up]
                have g18 : nk_up (nk_up (nk_up (nk_up (nk_up (nk_up F 54 36 (nI t'.2.1)) 54 37 (nI 0)) 52 18 (nI 0)) 52 11 (nI 0)) 59 0 (nI 0)) 59 1 (nI 0) 52 18 = nI 0 := by simp [nk_up]
                have g11 : nk_up (nk_up (nk_up (nk_up (nk_up (nk_up F 54 36 (nI t'.2.1)) 54 37 (nI 0)) 52 18 (nI 0)) 52 11 (nI 0)) 59 0 (nI 0)) 59 1 (nI 0) 52 11 = nI 0 := by simp [nk_up]
                have g59 : ∀ k, k < 2 → nk_up (nk_up (nk_up (nk_up (nk_up (nk_up F 54 36 (nI t'.2.1)) 54 37 (nI 0)) 52 18 (nI 0)) 52 11 (nI 0)) 59 0 (nI 0)) 59 1 (nI 0) 59 k = nI 0 := fun k hk => by
                  rcases (show k = 0 ∨ k = 1 by omega) with rfl | rfl <;> simp [nk_up]
                generalize nk_up (nk_up (nk_up (nk_up (nk_up (nk_up F 54 36 (nI t'.2.1)) 54 37 (nI 0)) 52 18 (nI 0)) 52 11 (nI 0)) 59 0 (nI 0)) 59 1 (nI 0) = G at gE g54 g36 g37 g18 g11 g59 ⊢
                refine hK _ _ _ _ (hK _ _ _ _ (nk_GI rfl rfl rfl (show K _ _ _ _ from ?_)))
                rw [gE 52 9 (by omega) (by omega) (by omega), y2 52 9 (by omega), up8 52 9 (by omega), q9]
                have g53 : ∀ i, i < 44 → G 53 i = D8 56 i := fun i hi => by rw [gE 53 i (by omega) (by omega) (by omega)]; exact y1 i hi
                have fX : ∀ a b, a < 50 → G a b = D7 a b := fun a b ha => by rw [gE a b (by omega) (by omega) (by omega), y2 a b (by omega), up8 a b (by omega), q3 a b (by omega) (by omega)]
                refine hK _ _ _ _ (And.intro rfl ⟨rfl, n', ka', t', t', 0, tx, 0, pa, (fun _ => none), 0, se, ⟨dwf, ⟨dwf, r3⟩, ⟨by omega, fun j hj => absurd hj (by omega)⟩, ⟨by omega, fun i hi => absurd hi (by omega)⟩, fun k z hz => (by cases hz), ⟨by omega, fun i hi => absurd hi (by omega)⟩⟩, XR_of (fun a b z1 z2 z3 => fX a b z1) xr7, ⟨⟨d6, ?_, fun p hp => ⟨?_, dka p hp⟩⟩, ⟨fun p q hp hq => ?_, ?_, ?_⟩, ⟨fun p q hp hq => ?_, ?_⟩, ⟨?_, fun j hj => absurd hj (by omega)⟩, ⟨g11, fun i hi => absurd hi (by omega)⟩, fun k hk => ⟨?_, fun s hs => (by cases hs)⟩, ⟨g18, fun i hi => absurd hi (by omega)⟩⟩⟩)
                · rw [g53 0 (by omega)]; exact m1
                · rw [g53 _ (by omega)]; exact m2 p hp
                · rw [Nat.zero_add, g54 _ (by omega)]; exact m3 p q hp hq
                · rw [Nat.zero_add]; exact g36
                · rw [Nat.zero_add, r3]; exact g37
                · rw [g53 _ (by omega)]; exact m3 p q hp hq
                · rw [g53 43 (by omega)]; exact m4
                · rw [gE 52 3 (by omega) (by omega) (by omega), y2 52 3 (by omega)]; exact l8
                · rw [g59 k hk]; rfl
              | succ m ih2 =>
                intro j F hj u1 u2
                refine hK _ _ _ _ (hK _ _ _ _ (show K _ _ _ _ from ?_))
                refine hK _ _ _ _ (nk_bf (nI_ge (by omega) (by omega)) ?_)
                refine hK _ _ _ _ (hK _ _ _ _ (nk_GR rfl rfl rfl (hK _ _ _ _ (hK _ _ _ _ (hK _ _ _ _ (nk_GR rfl rfl rfl (hK _ _ _ _ (hK _ _ _ _ (hK _ _ _ _ (show K _ _ _ _ from ?_))))))))))
                rw [nk_add]
                refine hK _ _ _ _ (nk_AL rfl rfl rfl (show 7 + j < 44 by omega) (show K _ _ _ _ from ?_))
                rw [u2 53 _ (by omega), y1 _ (by omega)]
                refine hK _ _ _ _ (nk_AS rfl rfl (j := j) rfl (by omega) (show K _ _ _ _ from ?_))
                refine hK _ _ _ _ (hK _ _ _ _ (show K _ _ _ _ from ?_))
                rw [nk_add]
                refine ih2 (j + 1) _ (by omega) (fun i hi => ?_) (fun a b ha => by simp [nk_up, ha, u2 a b ha])
                by_cases e : i = j
                · simp [nk_up, e]
                · simp [nk_up, e, u1 i (by omega)]
            exact second 36 0 E (by omega) (fun i hi => absurd hi (by omega)) (fun _ _ _ => rfl)
          | succ m ih2 =>
            intro j E hj y1 y2
            refine hK _ _ _ _ (hK _ _ _ _ (show K _ _ _ _ from ?_))
            refine hK _ _ _ _ (nk_bf (nI_ge (by omega) (by omega)) ?_)
            refine hK _ _ _ _ (hK _ _ _ _ (nk_GR rfl rfl rfl (hK _ _ _ _ (hK _ _ _ _ (hK _ _ _ _ (nk_GR rfl rfl rfl (hK _ _ _ _ (show K _ _ _ _ from ?_))))))))
            refine hK _ _ _ _ (nk_AL rfl rfl (j := j) rfl (by omega) (show K _ _ _ _ from ?_))
            rw [y2 56 _ (by omega), up8 56 _ (by omega)]
            refine hK _ _ _ _ (nk_AS rfl rfl (j := j) rfl (by omega) (show K _ _ _ _ from ?_))
            refine hK _ _ _ _ (hK _ _ _ _ (show K _ _ _ _ from ?_))
            rw [nk_add]
            refine ih2 (j + 1) _ (by omega) (fun i hi => ?_) (fun a b ha => by simp [nk_up, ha, y2 a b ha])
            by_cases e : i = j
            · simp [nk_up, e]
            · simp [nk_up, e, y1 i (by omega)]
        exact first 44 0 D9 (by omega) (fun i hi => absurd hi (by omega)) (fun _ _ _ => rfl)
      | succ m ih =>
        intro j D6 hj v1 v2
        refine hK _ _ _ _ (hK _ _ _ _ (show K _ _ _ _ from ?_))
        refine hK _ _ _ _ (nk_bf (nI_ge (by omega) (by omega)) ?_)
        refine hK _ _ _ _ (hK _ _ _ _ (nk_GR rfl rfl rfl (hK _ _ _ _ (hK _ _ _ _ (show K _ _ _ _ from ?_)))))
        refine hK _ _ _ _ (nk_BS rfl rfl (j := j) rfl (by omega) (show K _ _ _ _ from ?_))
        rw [show (nI 0 &&& 1 : Int32) = nI 0 by decide]
        refine hK _ _ _ _ (hK _ _ _ _ (show K _ _ _ _ from ?_))
        rw [nk_add]
        refine ih (j + 1) _ (by omega) (fun i hi => ?_) (fun a b ha => by simp [nk_up, ha, v2 a b ha])
        by_cases e : i = j
        · simp [nk_up, e]
        · simp [nk_up, e, v1 i (by omega)]
    exact loop 2 0 D5 (by omega) (fun i hi => absurd hi (by omega)) (fun _ _ _ => rfl)
  · rw [if_neg w]
    have w0 : z.1 = false := Bool.eq_false_iff.mpr w
    refine hK _ _ _ _ (nk_bf (fun q => m1_ne (by omega) q.symm) ?_)
    refine hK _ _ _ _ (show K _ _ _ _ from ?_)
    refine hK _ _ _ _ (And.intro rfl (h _ _ ?_))
    unfold TH
    refine nk_go (M := (6, yX6_season, cX6_season, 2, (some .int), false, 0, nk_T90)) rfl rfl (Nat.le_of_ble_eq_true rfl) (fun K hK => ?_)
    show K 0 [some (.ref 52), none] [] D2
    refine hK _ _ _ _ (show K _ _ _ _ from ?_)
    refine hK _ _ _ _ (nk_stV rfl rfl rfl rfl ?_)
    refine road D2 _ (fun a b ha => fr2 a b (by omega) (by omega)) (fun D3 _ q2 q3 => ?_)
    rw [w0]
    refine hK _ _ _ _ (nk_bne (fun w => by cases w) (fun _ => ?_))
    refine hK _ _ _ _ (show K _ _ _ _ from ?_)
    exact hK _ _ _ _ (And.intro rfl (⟨rfl, REL_g hr0 (fun a b z1 z2 z3 => by rw [q3 a b (by omega) (by omega), fr2 a b (by omega) z2]) (fun a b z1 z2 z3 z4 z5 z6 z7 => by rw [q3 a b (by omega) z3, fr2 a b (by omega) (by omega)])⟩))
end NKO
