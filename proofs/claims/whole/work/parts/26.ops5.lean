/-! ===== introduce, contradict, evening ===== -/
theorem REL_N {D D2 D4 : nk_D} {n : Nat} {ka : Nat → Nat} {s s' t : Sc3} {L : Nat} {tx : Nat → Nat} {u u' : Nat} {pa pa' : Nat → Sc3} {kp : Nat → Option Sc3} {c : Nat} {se : Nat → Nat × Nat × Nat} (ok : OK n s t L tx u pa kp c se) (xr : XR D n ka s t L tx u pa kp c se) (mr : MR D n ka s t L tx u pa kp c se)
    (fr : ∀ a b, ¬ (6 ≤ a ∧ a < 38) → D2 a b = D a b) (fu : XU D2 n ka u' pa') (fs : XSc D2 6 n ka s') (f3 : ∀ a b, a < 50 → D4 a b = D2 a b) (fr4 : ∀ a b, 52 < a → a ≠ 54 → a ≠ 57 → a ≠ 58 → D4 a b = D a b) (fo4 : ∀ b, b ≠ 11 → D4 52 b = D 52 b) (ms : MSc D4 54 0 n s') (mu : MU D4 n u' pa') (hw : WF n s') (hp : u' ≤ 8 ∧ ∀ i, i < u' → WF n (pa' i)) : REL D4 :=
  ⟨n, ka, s', t, L, tx, u', pa', kp, c, se, ⟨hw, ok.2.1, ok.2.2.1, hp, ok.2.2.2.2.1, ok.2.2.2.2.2⟩, XR_N (D := D) (fun a b h1 h2 => by rw [f3 a b h1]; exact fr a b h2) (XSc_of (fun b => f3 _ b (by omega)) (fun b => f3 _ b (by omega)) (fun b => f3 _ b (by omega)) fs) (XU_of (fun a b h1 h2 => f3 a b (by omega)) fu) xr, MR_N (D := D) fr4 fo4 ms mu mr⟩
/-- one role set -/
def setR (r : Nat → Nat → Nat) (p q v : Nat) : Nat → Nat → Nat := fun a b => if a = p ∧ b = q then v else r a b
theorem XS_set {D : nk_D} {k n : Nat} {ka : Nat → Nat} {r : Nat → Nat → Nat} {p q v : Nat} (hx : XS D k n ka r) (hq : q < n) (hv : v ≤ 7) : XS (nk_up D (k + 2) (p * 6 + q) (nI v)) k n ka (setR r p q v) := by
  obtain ⟨a1, a2, a3, a4⟩ := hx
  refine ⟨a1, by simp [nk_up, a2], fun z hz => ⟨by simp [nk_up, (a3 z hz).1], (a3 z hz).2⟩, fun y z hy hz => ?_⟩
  by_cases e : y = p ∧ z = q
  · obtain ⟨rfl, rfl⟩ := e
    simp [nk_up, setR, hv]
  · have e2 : ¬ y * 6 + z = p * 6 + q := fun w => e (by omega)
    simp only [nk_up, setR, e2, and_false, if_false, e]
    exact a4 y z hy hz
theorem MS_set {D : nk_D} {n : Nat} {r : Nat → Nat → Nat} {p q v : Nat} (hn : n ≤ 6) (hm : ∀ y z, y < n → z < n → D 54 (6 * y + z) = nI (r y z)) (hq : q < n) : ∀ y z, y < n → z < n → nk_up D 54 (6 * p + q) (nI v) 54 (6 * y + z) = nI (setR r p q v y z) := by
  intro y z hy hz
  by_cases e : y = p ∧ z = q
  · obtain ⟨rfl, rfl⟩ := e
    simp [nk_up, setR]
  · have e2 : ¬ 6 * y + z = 6 * p + q := fun w => e (by omega)
    simp only [nk_up, setR, e2, and_false, if_false, e]
    exact hm y z hy hz
theorem setR_le {n : Nat} {r : Nat → Nat → Nat} {p q v : Nat} (hr : ∀ y z, y < n → z < n → r y z ≤ 7) (hv : v ≤ 7) : ∀ y z, y < n → z < n → setR r p q v y z ≤ 7 := by
  intro y z hy hz
  unfold setR
  split
  · exact hv
  · exact hr y z hy hz
theorem setR_self {n : Nat} {r : Nat → Nat → Nat} {p q v : Nat} (hr : ∀ y, y < n → r y y = 0) (hpq : p ≠ q) : ∀ y, y < n → setR r p q v y y = 0 := by
  intro y hy
  unfold setR
  rw [if_neg (by omega)]
  exact hr y hy
section NKO
variable {S : nk_Sc} {d : Nat} {D : nk_D} {P : nk_P}
theorem op_introduce {x y w : Int32} (hr : REL D) (h : ∀ v D1, TH S (d + 20) 103 [.ref 52, .int x, .int y, .int w] v D1 → P (some (.int v)) D1) : nk_run S (d + 20) 44 [.ref 0, .int x, .int y, .int w] D P := by
  have hr0 := hr
  obtain ⟨n, ka, s, t, L, tx, u, pa, kp, c, se, ok, xr, mr⟩ := hr
  have hw := ok.1
  have hx := xr.1
  have hxs := hx.1
  have hn6 := hxs.1
  have hn := hxs.2.1
  have h64 := p64 hn6
  have hmk := mr.1
  have hms := MS_now mr.2.1 hw
  have hR : D 6 3 = nI s.2.1 := hx.2.1
  have mR : D 54 36 = nI s.2.1 := mr.2.1.2.1
  have hR64 : s.2.1 < 64 := by have := hw.2.2.1; omega
  refine nk_go (M := (5, yX5_introduce, cX5_introduce, 5, (some .int), false, 3, nk_T44)) rfl rfl (Nat.le_of_ble_eq_true rfl) (fun K hK => ?_)
  show K 0 [some (.ref 0), some (.int x), some (.int y), some (.int w), none] [] D
  refine hK _ _ _ _ (hK _ _ _ _ (nk_GR rfl rfl rfl (hK _ _ _ _ (hK _ _ _ _ (show K _ _ _ _ from ?_)))))
  refine hK _ _ _ _ (nk_stV rfl rfl rfl rfl ?_)
  refine sx_hasPair isS6 hn hn6 ?_
  refine hK _ _ _ _ (nk_bne (fun b => ?_) (fun b => ?_))
  · obtain ⟨p, q, hp, hq, hpq, rfl, rfl⟩ := pair_of hn6 b
    have hrpq := hxs.2.2.2 p q hp hq
    refine hK _ _ _ _ (show K _ _ _ _ from ?_)
    refine hK _ _ _ _ (nk_stS rfl rfl rfl rfl ?_)
    refine sx_isRole ?_
    refine hK _ _ _ _ (nk_bne (fun hd => ?_) (fun hd => ?_))
    · obtain ⟨j, hj1, hj7, rfl⟩ : ∃ j, 1 ≤ j ∧ j ≤ 7 ∧ w = nI j := by
        rcases rg (lo := 1) (hi := 7) (by decide) (by decide) w with ⟨j, h1, h2, h3, -⟩ | ⟨-, h2⟩
        · exact ⟨j, h1, h2, h3⟩
        · rw [hd] at h2; cases h2
      refine hK _ _ _ _ (hK _ _ _ _ (nk_GR rfl rfl rfl (hK _ _ _ _ (hK _ _ _ _ (show K _ _ _ _ from ?_)))))
      refine hK _ _ _ _ (nk_stV rfl rfl rfl rfl ?_)
      refine sx_roleTo isS6 (by omega) (by omega) ?_
      rw [hrpq.1]
      refine hK _ _ _ _ (hK _ _ _ _ (hK _ _ _ _ (nk_GR rfl rfl rfl (hK _ _ _ _ (hK _ _ _ _ (nk_GR rfl rfl rfl (show K _ _ _ _ from ?_)))))))
      refine hK _ _ _ _ (nk_stV rfl rfl rfl rfl ?_)
      refine sx_remember hx xr.2.2.2.1 ok.2.2.2.1.1 (fun D1 g1 g2 => ?_)
      have hn1 : D1 6 2 = nI n := by rw [g2 6 2 (by omega)]; exact hn
      have hx1 : XSc D1 6 n ka s := XSc_of (fun b => g2 _ b (by omega)) (fun b => g2 _ b (by omega)) (fun b => g2 _ b (by omega)) hx
      show K 47 _ _ _
      refine hK _ _ _ _ (hK _ _ _ _ (nk_GR rfl rfl rfl (hK _ _ _ _ (hK _ _ _ _ (hK _ _ _ _ (show K _ _ _ _ from ?_))))))
      refine hK _ _ _ _ (nk_stV rfl rfl rfl rfl ?_)
      refine sx_setRole isS6 hn1 hn6 (fun z => by rw [b] at z; cases z) (fun p' q' hp' hq' _ e1 e2 => ?_)
      have e1 := (nI_eq (by omega) (by omega)).mp e1
      have e2 := (nI_eq (by omega) (by omega)).mp e2
      subst e1; subst e2
      show K 57 _ _ _
      have fr : ∀ a b, ¬ (6 ≤ a ∧ a < 38) → nk_up D1 (6 + 2) (p * 6 + q) (nI j) a b = D a b := fun a b hab => by simp [nk_up, show ¬ a = 8 by omega, g2 a b (by omega)]
      have fu : XU (nk_up D1 (6 + 2) (p * 6 + q) (nI j)) n ka (if u < 8 then u + 1 else 8) (consP s pa) := XU_of (fun a b h1 h2 => by simp [nk_up, show ¬ a = 8 by omega]) g1
      have fs : XSc (nk_up D1 (6 + 2) (p * 6 + q) (nI j)) 6 n ka (setR s.1 p q j, s.2.1, s.2.2) := ⟨XS_set hx1.1 hq hj7, by simp [nk_up, hx1.2.1], by simp [nk_up, hx1.2.2]⟩
      generalize nk_up D1 (6 + 2) (p * 6 + q) (nI j) = D2 at fr fu fs ⊢
      refine hK _ _ _ _ (show K _ _ _ _ from ?_)
      refine hK _ _ _ _ (nk_stS rfl rfl rfl rfl ?_)
      refine sx_roleOrNone hrpq.2 ?_
      refine hK _ _ _ _ (And.intro rfl (h _ _ ?_))
      refine nk_go (M := (6, yX6_introduce, cX6_introduce, 5, (some .int), false, 3, nk_T103)) rfl rfl (Nat.le_of_ble_eq_true rfl) (fun K hK => ?_)
      show K 0 [some (.ref 52), some (.int (nI p)), some (.int (nI q)), some (.int (nI j)), none] [] D2
      refine hK _ _ _ _ (hK _ _ _ _ (hK _ _ _ _ (show K _ _ _ _ from ?_)))
      refine hK _ _ _ _ (nk_stV rfl rfl rfl rfl ?_)
      refine sm_areTwo (by rw [fr _ _ (by omega)]; exact hmk.2.1) hn6 ?_
      rw [b]
      refine hK _ _ _ _ (nk_bne (fun _ => ?_) (fun z => by cases z))
      refine hK _ _ _ _ (hK _ _ _ _ (hK _ _ _ _ (hK _ _ _ _ (show K _ _ _ _ from ?_))))
      refine hK _ _ _ _ (nk_stS rfl rfl rfl rfl ?_)
      refine sm_in2 (a := ((1 : Nat) : Int)) (b := ((7 : Nat) : Int)) rfl rfl ?_
      rw [hd]
      refine hK _ _ _ _ (nk_bne (fun _ => ?_) (fun z => by cases z))
      refine hK _ _ _ _ (show K _ _ _ _ from ?_)
      refine hK _ _ _ _ (nk_stV rfl rfl rfl rfl ?_)
      refine sm_note (u := u) (by rw [fr _ _ (by omega)]; exact mr.2.2.2.2.1.1) ok.2.2.2.1.1 (fun D3 u' k0 k1 k2 k3 k4 => ?_)
      show K 31 _ _ _
      have hms3 : ∀ y z, y < n → z < n → D3 54 (6 * y + z) = nI (s.1 y z) := fun y z hy hz => by rw [k4 54 _ (by omega) (by omega), fr _ _ (by omega)]; exact (hms.1 y z hy hz).1
      refine hK _ _ _ _ (hK _ _ _ _ (hK _ _ _ _ (show K _ _ _ _ from ?_)))
      refine hK _ _ _ _ (nk_stV rfl rfl rfl rfl ?_)
      refine sm_roleTo (by omega) (by omega) ?_
      rw [hms3 p q hp hq]
      refine hK _ _ _ _ (hK _ _ _ _ (hK _ _ _ _ (nk_GR rfl rfl rfl (hK _ _ _ _ (hK _ _ _ _ (hK _ _ _ _ (hK _ _ _ _ (hK _ _ _ _ (hK _ _ _ _ (show K _ _ _ _ from ?_))))))))))
      rw [nk_ix]
      refine hK _ _ _ _ (nk_AS rfl rfl rfl (show 6 * p + q < 38 by omega) (show K _ _ _ _ from ?_))
      refine hK _ _ _ _ (show K _ _ _ _ from ?_)
      refine hK _ _ _ _ (nk_stS rfl rfl rfl rfl ?_)
      refine sm_orNone hrpq.2 ?_
      have mu2 := MU_note (D := D2) hn6 k0 k1 k2 (MSc_of (fun j _ => fr _ _ (by omega)) hn6 mr.2.1) (MU_of hn6 (fr _ _ (by omega)) (fun b => fr _ b (by omega)) mr.2.2.2.2.1)
      rw [u_next k0] at mu2
      refine hK _ _ _ _ (And.intro rfl ⟨rfl, REL_N ok xr mr fr fu fs (fun a b ha => by simp [nk_up, show ¬ a = 54 by omega, k4 a b (by omega) (by omega)]) (fun a b h1 h2 h3 h4 => by simp [nk_up, h2, k4 a b (by omega) h3, fr a b (by omega)]) (fun b hb => by simp [nk_up, k3 b hb, fr 52 b (by omega)]) ⟨fun y z hy hz => ?_, ?_, ?_⟩ (MU_of hn6 (by simp [nk_up]) (fun b => by simp [nk_up]) mu2) ⟨setR_le hw.1 hj7, setR_self hw.2.1 hpq, hw.2.2.1, hw.2.2.2⟩ (WF_cons hw ok.2.2.2.1)⟩)
      · rw [Nat.zero_add]
        exact MS_set hn6 hms3 hq y z hy hz
      · have e5 : ¬ 0 + 36 = 6 * p + q := by omega
        simp only [nk_up, e5, and_false, if_false]
        rw [k4 54 _ (by omega) (by omega), fr _ _ (by omega)]
        exact mR
      · have e5 : ¬ 0 + 37 = 6 * p + q := by omega
        simp only [nk_up, e5, and_false, if_false]
        rw [k4 54 _ (by omega) (by omega), fr _ _ (by omega)]
        exact mr.2.1.2.2
    · refine hK _ _ _ _ (show K _ _ _ _ from ?_)
      refine hK _ _ _ _ (And.intro rfl (h _ _ ?_))
      refine nk_go (M := (6, yX6_introduce, cX6_introduce, 5, (some .int), false, 3, nk_T103)) rfl rfl (Nat.le_of_ble_eq_true rfl) (fun K hK => ?_)
      show K 0 [some (.ref 52), some (.int (nI p)), some (.int (nI q)), some (.int w), none] [] D
      refine hK _ _ _ _ (hK _ _ _ _ (hK _ _ _ _ (show K _ _ _ _ from ?_)))
      refine hK _ _ _ _ (nk_stV rfl rfl rfl rfl ?_)
      refine sm_areTwo hmk.2.1 hn6 ?_
      rw [b]
      refine hK _ _ _ _ (nk_bne (fun _ => ?_) (fun z => by cases z))
      refine hK _ _ _ _ (hK _ _ _ _ (hK _ _ _ _ (hK _ _ _ _ (show K _ _ _ _ from ?_))))
      refine hK _ _ _ _ (nk_stS rfl rfl rfl rfl ?_)
      refine sm_in2 (a := ((1 : Nat) : Int)) (b := ((7 : Nat) : Int)) rfl rfl ?_
      rw [hd]
      refine hK _ _ _ _ (nk_bne (fun z => by cases z) (fun _ => ?_))
      refine hK _ _ _ _ (show K _ _ _ _ from ?_)
      exact hK _ _ _ _ (And.intro rfl (⟨rfl, hr0⟩))
  · refine hK _ _ _ _ (show K _ _ _ _ from ?_)
    refine hK _ _ _ _ (And.intro rfl (h _ _ ?_))
    refine nk_go (M := (6, yX6_introduce, cX6_introduce, 5, (some .int), false, 3, nk_T103)) rfl rfl (Nat.le_of_ble_eq_true rfl) (fun K hK => ?_)
    show K 0 [some (.ref 52), some (.int x), some (.int y), some (.int w), none] [] D
    refine hK _ _ _ _ (hK _ _ _ _ (hK _ _ _ _ (show K _ _ _ _ from ?_)))
    refine hK _ _ _ _ (nk_stV rfl rfl rfl rfl ?_)
    refine sm_areTwo hmk.2.1 hn6 ?_
    rw [b]
    refine hK _ _ _ _ (nk_bne (fun z => by cases z) (fun _ => ?_))
    refine hK _ _ _ _ (show K _ _ _ _ from ?_)
    exact hK _ _ _ _ (And.intro rfl (⟨rfl, hr0⟩))
theorem op_contradict {x y : Int32} (hr : REL D) (h : ∀ v D1, TH S (d + 20) 104 [.ref 52, .int x, .int y] v D1 → P (some (.int v)) D1) : nk_run S (d + 20) 45 [.ref 0, .int x, .int y] D P := by
  have hr0 := hr
  obtain ⟨n, ka, s, t, L, tx, u, pa, kp, c, se, ok, xr, mr⟩ := hr
  have hw := ok.1
  have hx := xr.1
  have hxs := hx.1
  have hn6 := hxs.1
  have hn := hxs.2.1
  have h64 := p64 hn6
  have hmk := mr.1
  have hms := MS_now mr.2.1 hw
  have hR : D 6 3 = nI s.2.1 := hx.2.1
  have mR : D 54 36 = nI s.2.1 := mr.2.1.2.1
  have hR64 : s.2.1 < 64 := by have := hw.2.2.1; omega
  refine nk_go (M := (5, yX5_contradict, cX5_contradict, 4, (some .int), false, 2, nk_T45)) rfl rfl (Nat.le_of_ble_eq_true rfl) (fun K hK => ?_)
  show K 0 [some (.ref 0), some (.int x), some (.int y), none] [] D
  refine hK _ _ _ _ (hK _ _ _ _ (nk_GR rfl rfl rfl (hK _ _ _ _ (hK _ _ _ _ (show K _ _ _ _ from ?_)))))
  refine hK _ _ _ _ (nk_stV rfl rfl rfl rfl ?_)
  refine sx_hasPair isS6 hn hn6 ?_
  refine hK _ _ _ _ (nk_bne (fun b => ?_) (fun b => ?_))
  · obtain ⟨p, q, hp, hq, hpq, rfl, rfl⟩ := pair_of hn6 b
    have hrpq := hxs.2.2.2 p q hp hq
    refine hK _ _ _ _ (hK _ _ _ _ (nk_GR rfl rfl rfl (hK _ _ _ _ (hK _ _ _ _ (show K _ _ _ _ from ?_)))))
    refine hK _ _ _ _ (nk_stV rfl rfl rfl rfl ?_)
    refine sx_roleTo isS6 (by omega) (by omega) ?_
    rw [hrpq.1]
    have hr7 := hrpq.2
    refine hK _ _ _ _ (hK _ _ _ _ (show K _ _ _ _ from ?_))
    refine hK _ _ _ _ (nk_ne (by omega) (by omega) (fun g => ?_) (fun g => ?_))
    · refine hK _ _ _ _ (hK _ _ _ _ (nk_GR rfl rfl rfl (hK _ _ _ _ (hK _ _ _ _ (nk_GR rfl rfl rfl (show K _ _ _ _ from ?_))))))
      refine hK _ _ _ _ (nk_stV rfl rfl rfl rfl ?_)
      refine sx_remember hx xr.2.2.2.1 ok.2.2.2.1.1 (fun D1 g1 g2 => ?_)
      have hn1 : D1 6 2 = nI n := by rw [g2 6 2 (by omega)]; exact hn
      have hx1 : XSc D1 6 n ka s := XSc_of (fun b => g2 _ b (by omega)) (fun b => g2 _ b (by omega)) (fun b => g2 _ b (by omega)) hx
      show K 43 _ _ _
      refine hK _ _ _ _ (hK _ _ _ _ (nk_GR rfl rfl rfl (hK _ _ _ _ (hK _ _ _ _ (hK _ _ _ _ (show K _ _ _ _ from ?_))))))
      refine hK _ _ _ _ (nk_stV rfl rfl rfl rfl ?_)
      refine sx_setRole isS6 hn1 hn6 (fun z => by rw [b] at z; cases z) (fun p' q' hp' hq' _ e1 e2 => ?_)
      have e1 := (nI_eq (by omega) (by omega)).mp e1
      have e2 := (nI_eq (by omega) (by omega)).mp e2
      subst e1; subst e2
      show K 53 _ _ _
      have fr : ∀ a b, ¬ (6 ≤ a ∧ a < 38) → nk_up D1 (6 + 2) (p * 6 + q) (nI 0) a b = D a b := fun a b hab => by simp [nk_up, show ¬ a = 8 by omega, g2 a b (by omega)]
      have fu : XU (nk_up D1 (6 + 2) (p * 6 + q) (nI 0)) n ka (if u < 8 then u + 1 else 8) (consP s pa) := XU_of (fun a b h1 h2 => by simp [nk_up, show ¬ a = 8 by omega]) g1
      have fs : XSc (nk_up D1 (6 + 2) (p * 6 + q) (nI 0)) 6 n ka (setR s.1 p q 0, s.2.1, s.2.2) := ⟨XS_set hx1.1 hq (by omega), by simp [nk_up, hx1.2.1], by simp [nk_up, hx1.2.2]⟩
      generalize nk_up D1 (6 + 2) (p * 6 + q) (nI 0) = D2 at fr fu fs ⊢
      refine hK _ _ _ _ (show K _ _ _ _ from ?_)
      refine hK _ _ _ _ (And.intro rfl (h _ _ ?_))
      refine nk_go (M := (6, yX6_contradict, cX6_contradict, 4, (some .int), false, 2, nk_T104)) rfl rfl (Nat.le_of_ble_eq_true rfl) (fun K hK => ?_)
      show K 0 [some (.ref 52), some (.int (nI p)), some (.int (nI q)), none] [] D2
      refine hK _ _ _ _ (hK _ _ _ _ (hK _ _ _ _ (show K _ _ _ _ from ?_)))
      refine hK _ _ _ _ (nk_stV rfl rfl rfl rfl ?_)
      refine sm_areTwo (by rw [fr _ _ (by omega)]; exact hmk.2.1) hn6 ?_
      rw [b]
      refine hK _ _ _ _ (nk_bne (fun _ => ?_) (fun z => by cases z))
      refine hK _ _ _ _ (hK _ _ _ _ (hK _ _ _ _ (show K _ _ _ _ from ?_)))
      refine hK _ _ _ _ (nk_stV rfl rfl rfl rfl ?_)
      refine sm_roleTo (by omega) (by omega) ?_
      rw [fr _ _ (by omega), (hms.1 p q hp hq).1]
      refine hK _ _ _ _ (hK _ _ _ _ (show K _ _ _ _ from ?_))
      refine hK _ _ _ _ (nk_ne (by omega) (by omega) (fun _ => ?_) (fun z => absurd z g))
      refine hK _ _ _ _ (show K _ _ _ _ from ?_)
      refine hK _ _ _ _ (nk_stV rfl rfl rfl rfl ?_)
      refine sm_note (u := u) (by rw [fr _ _ (by omega)]; exact mr.2.2.2.2.1.1) ok.2.2.2.1.1 (fun D3 u' k0 k1 k2 k3 k4 => ?_)
      show K 30 _ _ _
      have hms3 : ∀ y z, y < n → z < n → D3 54 (6 * y + z) = nI (s.1 y z) := fun y z hy hz => by rw [k4 54 _ (by omega) (by omega), fr _ _ (by omega)]; exact (hms.1 y z hy hz).1
      refine hK _ _ _ _ (hK _ _ _ _ (nk_GR rfl rfl rfl (hK _ _ _ _ (hK _ _ _ _ (hK _ _ _ _ (hK _ _ _ _ (hK _ _ _ _ (hK _ _ _ _ (show K _ _ _ _ from ?_)))))))))
      rw [nk_ix]
      refine hK _ _ _ _ (nk_AS rfl rfl rfl (show 6 * p + q < 38 by omega) (show K _ _ _ _ from ?_))
      refine hK _ _ _ _ (show K _ _ _ _ from ?_)
      have mu2 := MU_note (D := D2) hn6 k0 k1 k2 (MSc_of (fun j _ => fr _ _ (by omega)) hn6 mr.2.1) (MU_of hn6 (fr _ _ (by omega)) (fun b => fr _ b (by omega)) mr.2.2.2.2.1)
      rw [u_next k0] at mu2
      refine hK _ _ _ _ (And.intro rfl ⟨rfl, REL_N ok xr mr fr fu fs (fun a b ha => by simp [nk_up, show ¬ a = 54 by omega, k4 a b (by omega) (by omega)]) (fun a b h1 h2 h3 h4 => by simp [nk_up, h2, k4 a b (by omega) h3, fr a b (by omega)]) (fun b hb => by simp [nk_up, k3 b hb, fr 52 b (by omega)]) ⟨fun y z hy hz => ?_, ?_, ?_⟩ (MU_of hn6 (by simp [nk_up]) (fun b => by simp [nk_up]) mu2) ⟨setR_le hw.1 (by omega), setR_self hw.2.1 hpq, hw.2.2.1, hw.2.2.2⟩ (WF_cons hw ok.2.2.2.1)⟩)
      · rw [Nat.zero_add]
        exact MS_set hn6 hms3 hq y z hy hz
      · have e5 : ¬ 0 + 36 = 6 * p + q := by omega
        simp only [nk_up, e5, and_false, if_false]
        rw [k4 54 _ (by omega) (by omega), fr _ _ (by omega)]
        exact mR
      · have e5 : ¬ 0 + 37 = 6 * p + q := by omega
        simp only [nk_up, e5, and_false, if_false]
        rw [k4 54 _ (by omega) (by omega), fr _ _ (by omega)]
        exact mr.2.1.2.2
    · refine hK _ _ _ _ (show K _ _ _ _ from ?_)
      refine hK _ _ _ _ (And.intro rfl (h _ _ ?_))
      refine nk_go (M := (6, yX6_contradict, cX6_contradict, 4, (some .int), false, 2, nk_T104)) rfl rfl (Nat.le_of_ble_eq_true rfl) (fun K hK => ?_)
      show K 0 [some (.ref 52), some (.int (nI p)), some (.int (nI q)), none] [] D
      refine hK _ _ _ _ (hK _ _ _ _ (hK _ _ _ _ (show K _ _ _ _ from ?_)))
      refine hK _ _ _ _ (nk_stV rfl rfl rfl rfl ?_)
      refine sm_areTwo hmk.2.1 hn6 ?_
      rw [b]
      refine hK _ _ _ _ (nk_bne (fun _ => ?_) (fun z => by cases z))
      refine hK _ _ _ _ (hK _ _ _ _ (hK _ _ _ _ (show K _ _ _ _ from ?_)))
      refine hK _ _ _ _ (nk_stV rfl rfl rfl rfl ?_)
      refine sm_roleTo (by omega) (by omega) ?_
      rw [(hms.1 p q hp hq).1]
      refine hK _ _ _ _ (hK _ _ _ _ (show K _ _ _ _ from ?_))
      refine hK _ _ _ _ (nk_ne (by omega) (by omega) (fun z => absurd g z) (fun _ => ?_))
      refine hK _ _ _ _ (show K _ _ _ _ from ?_)
      exact hK _ _ _ _ (And.intro rfl (⟨rfl, hr0⟩))
  · refine hK _ _ _ _ (show K _ _ _ _ from ?_)
    refine hK _ _ _ _ (And.intro rfl (h _ _ ?_))
    refine nk_go (M := (6, yX6_contradict, cX6_contradict, 4, (some .int), false, 2, nk_T104)) rfl rfl (Nat.le_of_ble_eq_true rfl) (fun K hK => ?_)
    show K 0 [some (.ref 52), some (.int x), some (.int y), none] [] D
    refine hK _ _ _ _ (hK _ _ _ _ (hK _ _ _ _ (show K _ _ _ _ from ?_)))
    refine hK _ _ _ _ (nk_stV rfl rfl rfl rfl ?_)
    refine sm_areTwo hmk.2.1 hn6 ?_
    rw [b]
    refine hK _ _ _ _ (nk_bne (fun z => by cases z) (fun _ => ?_))
    refine hK _ _ _ _ (show K _ _ _ _ from ?_)
    exact hK _ _ _ _ (And.intro rfl (⟨rfl, hr0⟩))
theorem op_evening (hr : REL D) (h : ∀ v D1, TH S (d + 20) 106 [.ref 52] v D1 → P (some (.int v)) D1) : nk_run S (d + 20) 46 [.ref 0] D P := by
  have hr0 := hr
  obtain ⟨n, ka, s, t, L, tx, u, pa, kp, c, se, ok, xr, mr⟩ := hr
  have hw := ok.1
  have hx := xr.1
  have hxs := hx.1
  have hn6 := hxs.1
  have hn := hxs.2.1
  have h64 := p64 hn6
  have hmk := mr.1
  have hms := MS_now mr.2.1 hw
  have hR : D 6 3 = nI s.2.1 := hx.2.1
  have mR : D 54 36 = nI s.2.1 := mr.2.1.2.1
  have hR64 : s.2.1 < 64 := by have := hw.2.2.1; omega
  have he999 := hw.2.2.2
  have mE : D 54 37 = nI s.2.2 := mr.2.1.2.2
  refine nk_go (M := (5, yX5_evening, cX5_evening, 1, (some .int), false, 0, nk_T46)) rfl rfl (Nat.le_of_ble_eq_true rfl) (fun K hK => ?_)
  show K 0 [some (.ref 0)] [] D
  refine hK _ _ _ _ (hK _ _ _ _ (nk_GR rfl rfl rfl (hK _ _ _ _ (nk_GI rfl rfl rfl (hK _ _ _ _ (show K _ _ _ _ from ?_))))))
  rw [hx.2.2]
  refine hK _ _ _ _ (nk_lt (by omega) (by omega) (fun g => ?_) (fun g => ?_))
  · refine hK _ _ _ _ (hK _ _ _ _ (nk_GR rfl rfl rfl (hK _ _ _ _ (hK _ _ _ _ (nk_GR rfl rfl rfl (show K _ _ _ _ from ?_))))))
    refine hK _ _ _ _ (nk_stV rfl rfl rfl rfl ?_)
    refine sx_remember hx xr.2.2.2.1 ok.2.2.2.1.1 (fun D1 g1 g2 => ?_)
    have hx1 : XSc D1 6 n ka s := XSc_of (fun b => g2 _ b (by omega)) (fun b => g2 _ b (by omega)) (fun b => g2 _ b (by omega)) hx
    show K 27 _ _ _
    refine hK _ _ _ _ (hK _ _ _ _ (nk_GR rfl rfl rfl (show K _ _ _ _ from ?_)))
    refine hK _ _ _ _ (nk_stV rfl rfl rfl rfl ?_)
    refine sx_passEvening isS6 hx1.1 hw.2.1 hx1.2.1 hR64 (fun D2 q1 q2 q3 q4 => ?_)
    have fr : ∀ a b, ¬ (6 ≤ a ∧ a < 38) → D2 a b = D a b := fun a b hab => by rw [q4 a b (by omega) (by omega), g2 a b (by omega)]
    have fu : XU D2 n ka (if u < 8 then u + 1 else 8) (consP s pa) := XU_of (fun a b h1 h2 => q4 a b (by omega) (by omega)) g1
    have fs : XSc D2 6 n ka (evR n ka s.1 s.2.1, evRoom s.2.1 (lvU n ka s.1 s.2.1 n), s.2.2 + 1) := ⟨q1, q2, by rw [q3, hx1.2.2, nk_add]⟩
    refine hK _ _ _ _ (And.intro rfl (h _ _ ?_))
    refine nk_go (M := (6, yX6_evening, cX6_evening, 1, (some .int), false, 0, nk_T106)) rfl rfl (Nat.le_of_ble_eq_true rfl) (fun K hK => ?_)
    show K 0 [some (.ref 52)] [] D2
    refine hK _ _ _ _ (hK _ _ _ _ (nk_GR rfl rfl rfl (hK _ _ _ _ (show K _ _ _ _ from ?_))))
    refine hK _ _ _ _ (nk_AL rfl rfl (j := 37) rfl (by decide) (show K _ _ _ _ from ?_))
    rw [fr _ _ (by omega), mE]
    refine hK _ _ _ _ (show K _ _ _ _ from ?_)
    refine hK _ _ _ _ (nk_ne (by omega) (by omega) (fun _ => ?_) (fun z => by omega))
    refine hK _ _ _ _ (show K _ _ _ _ from ?_)
    refine hK _ _ _ _ (nk_stV rfl rfl rfl rfl ?_)
    refine sm_note (u := u) (by rw [fr _ _ (by omega)]; exact mr.2.2.2.2.1.1) ok.2.2.2.1.1 (fun D3 u' k0 k1 k2 k3 k4 => ?_)
    show K 20 _ _ _
    have fr3 : ∀ a b, 52 < a → a ≠ 57 → D3 a b = D a b := fun a b h1 h2 => by rw [k4 a b (by omega) h2, fr a b (by omega)]
    refine hK _ _ _ _ (show K _ _ _ _ from ?_)
    refine hK _ _ _ _ (nk_stV rfl rfl rfl rfl ?_)
    refine sm_oneEvening (MK_of (fun b => fr3 _ b (by omega) (by omega)) hmk) (MS_of (fun b => fr3 _ b (by omega) (by omega)) hms) (by rw [fr3 _ _ (by omega) (by omega)]; exact mR) hR64 (fun D4 w1 w2 w3 w4 => ?_)
    have mu2 := MU_note (D := D2) hn6 k0 k1 k2 (MSc_of (fun j _ => fr _ _ (by omega)) hn6 mr.2.1) (MU_of hn6 (fr _ _ (by omega)) (fun b => fr _ b (by omega)) mr.2.2.2.2.1)
    rw [u_next k0] at mu2
    refine hK _ _ _ _ (And.intro rfl ⟨rfl, REL_N ok xr mr fr fu fs (fun a b ha => by rw [w4 a b (by omega) (by omega), k4 a b (by omega) (by omega)]) (fun a b h1 h2 h3 h4 => by rw [w4 a b h2 h4, fr3 a b h1 h3]) (fun b hb => by rw [w4 52 b (by omega) (by omega), k3 b hb, fr 52 b (by omega)]) ⟨fun y z hy hz => ?_, w2, ?_⟩ (MU_of hn6 (w4 _ _ (by omega) (by omega)) (fun b => w4 _ b (by omega) (by omega)) mu2) ⟨fun y z hy hz => evR_le (fun q hq => hw.1 y q hy hq) hz, fun y hy => evR_self (hw.2.1 y hy), Nat.lt_of_le_of_lt Nat.and_le_left hw.2.2.1, by show s.2.2 + 1 ≤ 999; omega⟩ (WF_cons hw ok.2.2.2.1)⟩)
    · rw [Nat.zero_add]
      exact (w1.1 y z hy hz).1
    · show D4 54 37 = nI (s.2.2 + 1)
      rw [w3, fr3 _ _ (by omega) (by omega), mE, nk_add]
  · refine hK _ _ _ _ (show K _ _ _ _ from ?_)
    refine hK _ _ _ _ (And.intro rfl (h _ _ ?_))
    refine nk_go (M := (6, yX6_evening, cX6_evening, 1, (some .int), false, 0, nk_T106)) rfl rfl (Nat.le_of_ble_eq_true rfl) (fun K hK => ?_)
    show K 0 [some (.ref 52)] [] D
    refine hK _ _ _ _ (hK _ _ _ _ (nk_GR rfl rfl rfl (hK _ _ _ _ (show K _ _ _ _ from ?_))))
    refine hK _ _ _ _ (nk_AL rfl rfl (j := 37) rfl (by decide) (show K _ _ _ _ from ?_))
    rw [mE]
    refine hK _ _ _ _ (show K _ _ _ _ from ?_)
    refine hK _ _ _ _ (nk_ne (by omega) (by omega) (fun z => absurd (by omega) z) (fun _ => ?_))
    refine hK _ _ _ _ (show K _ _ _ _ from ?_)
    exact hK _ _ _ _ (And.intro rfl (⟨rfl, hr0⟩))
end NKO
