/-! ===== the public calls, each on both sides: first the plain ones ===== -/
theorem rg {lo hi : Nat} (h : hi < 2 ^ 30) (hl : lo ≤ hi) (y : Int32) : (∃ j, lo ≤ j ∧ j ≤ hi ∧ y = nI j ∧ decide ((lo : Int) ≤ y.toInt ∧ y.toInt ≤ (hi : Int)) = true) ∨ ((y < nI lo ∨ (¬ y < nI lo ∧ nI hi < y)) ∧ decide ((lo : Int) ≤ y.toInt ∧ y.toInt ≤ (hi : Int)) = false) := by
  by_cases h1 : (lo : Int) ≤ y.toInt ∧ y.toInt ≤ (hi : Int)
  · left
    obtain ⟨j, hj, rfl⟩ := vp_in_of (vp_in_iff.mpr (show 0 ≤ y.toInt ∧ y.toInt < ((hi + 1 : Nat) : Int) by omega)) (show hi + 1 < 2 ^ 31 by omega)
    rw [nI_toInt (by omega)] at h1
    exact ⟨j, by omega, by omega, rfl, by rw [nI_toInt (by omega)]; exact decide_eq_true h1⟩
  · right
    refine ⟨?_, decide_eq_false h1⟩
    rw [Int32.lt_iff_toInt_lt, Int32.lt_iff_toInt_lt, nI_toInt (by omega), nI_toInt (by omega)]
    omega
section NKX
variable {D D' : nk_D} {n : Nat} {ka : Nat → Nat} {s s' t : Sc3} {L L' : Nat} {tx tx' : Nat → Nat} {u u' : Nat} {pa pa' : Nat → Sc3} {kp kp' : Nat → Option Sc3} {c c' : Nat} {se se' : Nat → Nat × Nat × Nat}
theorem XR_L (fr : ∀ a b, a < 50 → ¬ (9 ≤ a ∧ a < 12) → a ≠ 1 → a ≠ 2 → D' a b = D a b) (hL : XL D' L' tx') (h : XR D n ka s t L tx u pa kp c se) : XR D' n ka s t L' tx' u pa kp c se := by
  obtain ⟨a1, a2, a3, a4, a5, a6⟩ := h
  exact ⟨XSc_of (fun b => fr _ b (by omega) (by omega) (by omega) (by omega)) (fun b => fr _ b (by omega) (by omega) (by omega) (by omega)) (fun b => fr _ b (by omega) (by omega) (by omega) (by omega)) a1, XT_of (fun a b h1 h2 => fr a b (by omega) (by omega) (by omega) (by omega)) a2, hL, XU_of (fun a b h1 h2 => fr a b (by omega) (by omega) (by omega) (by omega)) a4, XP_of (fun a b h1 h2 => fr a b (by omega) (by omega) (by omega) (by omega)) a5, XE_of (fun a b h1 h2 => fr a b (by omega) (by omega) (by omega) (by omega)) a6⟩
theorem XR_N (fr : ∀ a b, a < 50 → ¬ (6 ≤ a ∧ a < 38) → D' a b = D a b) (h1 : XSc D' 6 n ka s') (h2 : XU D' n ka u' pa') (h : XR D n ka s t L tx u pa kp c se) : XR D' n ka s' t L tx u' pa' kp c se := by
  obtain ⟨a1, a2, a3, a4, a5, a6⟩ := h
  exact ⟨h1, XT_of (fun a b h1 h2 => fr a b (by omega) (by omega)) a2, XL_of (fr _ _ (by omega) (by omega)) (fun b => fr _ _ (by omega) (by omega)) a3, h2, XP_of (fun a b h1 h2 => fr a b (by omega) (by omega)) a5, XE_of (fun a b h1 h2 => fr a b (by omega) (by omega)) a6⟩
theorem XR_P (fr : ∀ a b, a < 50 → ¬ (9 ≤ a ∧ a < 12) → ¬ (39 ≤ a ∧ a < 46) → D' a b = D a b) (h1 : XP D' n ka kp') (h : XR D n ka s t L tx u pa kp c se) : XR D' n ka s t L tx u pa kp' c se := by
  obtain ⟨a1, a2, a3, a4, a5, a6⟩ := h
  exact ⟨XSc_of (fun b => fr _ b (by omega) (by omega) (by omega)) (fun b => fr _ b (by omega) (by omega) (by omega)) (fun b => fr _ b (by omega) (by omega) (by omega)) a1, XT_of (fun a b h1 h2 => fr a b (by omega) (by omega) (by omega)) a2, XL_of (fr _ _ (by omega) (by omega) (by omega)) (fun b => fr _ _ (by omega) (by omega) (by omega)) a3, XU_of (fun a b h1 h2 => fr a b (by omega) (by omega) (by omega)) a4, h1, XE_of (fun a b h1 h2 => fr a b (by omega) (by omega) (by omega)) a6⟩
theorem XR_E (fr : ∀ a b, a < 46 → ¬ (9 ≤ a ∧ a < 12) → D' a b = D a b) (h1 : XE D' c' se') (h : XR D n ka s t L tx u pa kp c se) : XR D' n ka s t L tx u pa kp c' se' := by
  obtain ⟨a1, a2, a3, a4, a5, a6⟩ := h
  exact ⟨XSc_of (fun b => fr _ b (by omega) (by omega)) (fun b => fr _ b (by omega) (by omega)) (fun b => fr _ b (by omega) (by omega)) a1, XT_of (fun a b h1 h2 => fr a b (by omega) (by omega)) a2, XL_of (fr _ _ (by omega) (by omega)) (fun b => fr _ _ (by omega) (by omega)) a3, XU_of (fun a b h1 h2 => fr a b (by omega) (by omega)) a4, XP_of (fun a b h1 h2 => fr a b (by omega) (by omega)) a5, h1⟩
theorem MR_L (fr : ∀ a b, 52 < a → a ≠ 55 → D' a b = D a b) (fo : ∀ b, b ≠ 3 → D' 52 b = D 52 b) (hL : ML D' L' tx') (h : MR D n ka s t L tx u pa kp c se) : MR D' n ka s t L' tx' u pa kp c se := by
  obtain ⟨a1, a2, a3, a4, a5, a6, a7⟩ := h
  exact ⟨MK_of (fun b => fr _ b (by omega) (by omega)) a1, MSc_of (fun j _ => fr _ _ (by omega) (by omega)) a1.1 a2, MT_of (fun b => fr _ b (by omega) (by omega)) a3, hL, MU_of a1.1 (fo _ (by omega)) (fun b => fr _ b (by omega) (by omega)) a5, MP_of a1.1 (fun b => fr _ b (by omega) (by omega)) (fun b => fr _ b (by omega) (by omega)) a6, ME_of (fo _ (by omega)) (fun b => fr _ b (by omega) (by omega)) a7⟩
theorem MR_N (fr : ∀ a b, 52 < a → a ≠ 54 → a ≠ 57 → a ≠ 58 → D' a b = D a b) (fo : ∀ b, b ≠ 11 → D' 52 b = D 52 b) (h1 : MSc D' 54 0 n s') (h2 : MU D' n u' pa') (h : MR D n ka s t L tx u pa kp c se) : MR D' n ka s' t L tx u' pa' kp c se := by
  obtain ⟨a1, a2, a3, a4, a5, a6, a7⟩ := h
  exact ⟨MK_of (fun b => fr _ b (by omega) (by omega) (by omega) (by omega)) a1, h1, MT_of (fun b => fr _ b (by omega) (by omega) (by omega) (by omega)) a3, ML_of (fo _ (by omega)) (fun b => fr _ b (by omega) (by omega) (by omega) (by omega)) a4, h2, MP_of a1.1 (fun b => fr _ b (by omega) (by omega) (by omega) (by omega)) (fun b => fr _ b (by omega) (by omega) (by omega) (by omega)) a6, ME_of (fo _ (by omega)) (fun b => fr _ b (by omega) (by omega) (by omega) (by omega)) a7⟩
theorem MR_P (fr : ∀ a b, 52 ≤ a → a ≠ 59 → a ≠ 60 → D' a b = D a b) (h1 : MP D' n kp') (h : MR D n ka s t L tx u pa kp c se) : MR D' n ka s t L tx u pa kp' c se := by
  obtain ⟨a1, a2, a3, a4, a5, a6, a7⟩ := h
  exact ⟨MK_of (fun b => fr _ b (by omega) (by omega) (by omega)) a1, MSc_of (fun j _ => fr _ _ (by omega) (by omega) (by omega)) a1.1 a2, MT_of (fun b => fr _ b (by omega) (by omega) (by omega)) a3, ML_of (fr _ _ (by omega) (by omega) (by omega)) (fun b => fr _ b (by omega) (by omega) (by omega)) a4, MU_of a1.1 (fr _ _ (by omega) (by omega) (by omega)) (fun b => fr _ b (by omega) (by omega) (by omega)) a5, h1, ME_of (fr _ _ (by omega) (by omega) (by omega)) (fun b => fr _ b (by omega) (by omega) (by omega)) a7⟩
theorem MR_E (fr : ∀ a b, 52 < a → a ≠ 63 → D' a b = D a b) (fo : ∀ b, b ≠ 18 → D' 52 b = D 52 b) (h1 : ME D' c' se') (h : MR D n ka s t L tx u pa kp c se) : MR D' n ka s t L tx u pa kp c' se' := by
  obtain ⟨a1, a2, a3, a4, a5, a6, a7⟩ := h
  exact ⟨MK_of (fun b => fr _ b (by omega) (by omega)) a1, MSc_of (fun j _ => fr _ _ (by omega) (by omega)) a1.1 a2, MT_of (fun b => fr _ b (by omega) (by omega)) a3, ML_of (fo _ (by omega)) (fun b => fr _ b (by omega) (by omega)) a4, MU_of a1.1 (fo _ (by omega)) (fun b => fr _ b (by omega) (by omega)) a5, MP_of a1.1 (fun b => fr _ b (by omega) (by omega)) (fun b => fr _ b (by omega) (by omega)) a6, h1⟩
theorem MS_now {D : nk_D} {n : Nat} {s : Sc3} (h : MSc D 54 0 n s) (hw : WF n s) : MS D n s.1 := ⟨fun p q hp hq => ⟨by have := h.1 p q hp hq; rw [Nat.zero_add] at this; exact this, hw.1 p q hp hq⟩, hw.2.1⟩
end NKX
/-- what the reference does then, and that it answers so -/
def TH (S : nk_Sc) (d mu : Nat) (vs : List Value) (v : Int32) (D1 : nk_D) : Prop := nk_run S d mu vs D1 (fun r2 D2 => r2 = some (.int v) ∧ REL D2)
section NKO
variable {S : nk_Sc} {d : Nat} {D : nk_D} {P : nk_P}
theorem sx_append {L : Nat} {x : Int32} (hL : D 1 1 = nI L) (hL160 : L ≤ 160) (h0 : L = 160 → P (some (.int (bI false))) D) (h1 : L < 160 → P (some (.int (bI true))) (nk_up (nk_up D 2 L x) 1 1 (nI (L + 1)))) : nk_run S (d + 1) 25 [.ref 1, .int x] D P := by
  refine nk_go (M := (4, yX4_append, cX4_append, 2, (some .boolean), false, 1, nk_T25)) rfl rfl (Nat.le_of_ble_eq_true rfl) (fun K hK => ?_)
  show K 0 [some (.ref 1), some (.int x)] [] D
  refine hK _ _ _ _ (hK _ _ _ _ (nk_GI rfl rfl rfl (show K _ _ _ _ from ?_)))
  rw [hL]
  refine hK _ _ _ _ (nk_bf (nI_pos (by omega)) ?_)
  refine hK _ _ _ _ (hK _ _ _ _ (nk_GI rfl rfl rfl (hK _ _ _ _ (show K _ _ _ _ from ?_))))
  rw [hL]
  refine hK _ _ _ _ (nk_lt (by omega) (by omega) (fun q => ?_) (fun q => ?_))
  · refine hK _ _ _ _ (hK _ _ _ _ (nk_GR rfl rfl rfl (hK _ _ _ _ (hK _ _ _ _ (nk_GI rfl rfl rfl (hK _ _ _ _ (show K _ _ _ _ from ?_)))))))
    rw [hL]
    refine hK _ _ _ _ (nk_AS rfl rfl rfl (by omega) (show K _ _ _ _ from ?_))
    refine hK _ _ _ _ (hK _ _ _ _ (hK _ _ _ _ (nk_GI rfl rfl rfl (hK _ _ _ _ (hK _ _ _ _ (hK _ _ _ _ (nk_PI rfl rfl rfl (hK _ _ _ _ (show K _ _ _ _ from ?_)))))))))
    have e : nk_up D 2 L x 1 1 = nI L := by simp [nk_up, hL]
    rw [e, nk_add]
    exact hK _ _ _ _ (And.intro rfl (h1 q))
  · refine hK _ _ _ _ (show K _ _ _ _ from ?_)
    exact hK _ _ _ _ (And.intro rfl (h0 (by omega)))
theorem op_write {x : Int32} (hr : REL D) (h : ∀ v D1, TH S (d + 20) 77 [.ref 52, .int x] v D1 → P (some (.int v)) D1) : nk_run S (d + 20) 36 [.ref 0, .int x] D P := by
  have hr' := hr
  obtain ⟨n, ka, s, t, L, tx, u, pa, kp, c, se, ok, xr, mr⟩ := hr
  obtain ⟨ok1, ok2, ⟨hL160, hLt⟩, ok4, ok5, ok6⟩ := id ok
  have xL := xr.2.2.1
  have mL := mr.2.2.2.1
  refine nk_go (M := (5, yX5_write, cX5_write, 2, (some .int), false, 1, nk_T36)) rfl rfl (Nat.le_of_ble_eq_true rfl) (fun K hK => ?_)
  show K 0 [some (.ref 0), some (.int x)] [] D
  refine hK _ _ _ _ (show K _ _ _ _ from ?_)
  rcases rg (lo := 0) (hi := 255) (by decide) (by decide) x with ⟨j, -, hj, rfl, hd⟩ | ⟨hno, hd⟩
  · refine hK _ _ _ _ (nk_bf (nI_pos (by omega)) ?_)
    refine hK _ _ _ _ (hK _ _ _ _ (show K _ _ _ _ from ?_))
    refine hK _ _ _ _ (nk_bt (nI_le hj (by omega)) ?_)
    refine hK _ _ _ _ (hK _ _ _ _ (nk_GR rfl rfl rfl (hK _ _ _ _ (show K _ _ _ _ from ?_))))
    refine hK _ _ _ _ (nk_stV rfl rfl rfl rfl ?_)
    refine sx_append xL.1 hL160 (fun q => ?_) (fun q => ?_)
    · refine hK _ _ _ _ (nk_beq (fun z => ?_) (fun z => by cases z))
      refine hK _ _ _ _ (show K _ _ _ _ from ?_)
      refine hK _ _ _ _ (And.intro rfl (h _ _ ?_))
      refine nk_go (M := (6, yX6_write, cX6_write, 2, (some .int), false, 1, nk_T77)) rfl rfl (Nat.le_of_ble_eq_true rfl) (fun K hK => ?_)
      show K 0 [some (.ref 52), some (.int (nI j))] [] D
      refine hK _ _ _ _ (hK _ _ _ _ (hK _ _ _ _ (hK _ _ _ _ (show K _ _ _ _ from ?_))))
      refine hK _ _ _ _ (nk_stS rfl rfl rfl rfl ?_)
      refine sm_in2 (a := ((0 : Nat) : Int)) (b := ((255 : Nat) : Int)) rfl rfl ?_
      rw [hd]
      refine hK _ _ _ _ (nk_bne (fun z => ?_) (fun z => by cases z))
      refine hK _ _ _ _ (hK _ _ _ _ (nk_GI rfl rfl rfl (hK _ _ _ _ (show K _ _ _ _ from ?_))))
      rw [mL.1, q]
      refine hK _ _ _ _ (nk_nf rfl ?_)
      refine hK _ _ _ _ (show K _ _ _ _ from ?_)
      exact hK _ _ _ _ (And.intro rfl (⟨rfl, hr'⟩))
    · refine hK _ _ _ _ (nk_beq (fun z => by cases z) (fun z => ?_))
      refine hK _ _ _ _ (hK _ _ _ _ (nk_GR rfl rfl rfl (hK _ _ _ _ (nk_GI rfl rfl rfl (hK _ _ _ _ (show K _ _ _ _ from ?_))))))
      have e : nk_up (nk_up D 2 L (nI j)) 1 1 (nI (L + 1)) 1 1 = nI (L + 1) := by simp [nk_up]
      rw [e]
      have fr : ∀ a b, a ≠ 1 → a ≠ 2 → nk_up (nk_up D 2 L (nI j)) 1 1 (nI (L + 1)) a b = D a b := fun a b h1 h2 => by simp [nk_up, h1, h2]
      have e2 : ∀ b, nk_up (nk_up D 2 L (nI j)) 1 1 (nI (L + 1)) 2 b = if b = L then nI j else D 2 b := fun b => by simp [nk_up]
      generalize nk_up (nk_up D 2 L (nI j)) 1 1 (nI (L + 1)) = D1 at e e2 fr ⊢
      refine hK _ _ _ _ (And.intro rfl (h _ _ ?_))
      refine nk_go (M := (6, yX6_write, cX6_write, 2, (some .int), false, 1, nk_T77)) rfl rfl (Nat.le_of_ble_eq_true rfl) (fun K hK => ?_)
      show K 0 [some (.ref 52), some (.int (nI j))] [] D1
      refine hK _ _ _ _ (hK _ _ _ _ (hK _ _ _ _ (hK _ _ _ _ (show K _ _ _ _ from ?_))))
      refine hK _ _ _ _ (nk_stS rfl rfl rfl rfl ?_)
      refine sm_in2 (a := ((0 : Nat) : Int)) (b := ((255 : Nat) : Int)) rfl rfl ?_
      rw [hd]
      refine hK _ _ _ _ (nk_bne (fun z => ?_) (fun z => by cases z))
      have m3 : D1 52 3 = nI L := by rw [fr 52 3 (by omega) (by omega)]; exact mL.1
      refine hK _ _ _ _ (hK _ _ _ _ (nk_GI rfl rfl rfl (hK _ _ _ _ (show K _ _ _ _ from ?_))))
      rw [m3]
      refine hK _ _ _ _ (nk_ne (by omega) (by omega) (fun _ => ?_) (fun w => by omega))
      refine hK _ _ _ _ (hK _ _ _ _ (nk_GR rfl rfl rfl (hK _ _ _ _ (hK _ _ _ _ (nk_GI rfl rfl rfl (hK _ _ _ _ (show K _ _ _ _ from ?_)))))))
      rw [m3]
      refine hK _ _ _ _ (nk_AS rfl rfl rfl (by omega) (show K _ _ _ _ from ?_))
      refine hK _ _ _ _ (hK _ _ _ _ (hK _ _ _ _ (nk_GI rfl rfl rfl (hK _ _ _ _ (hK _ _ _ _ (hK _ _ _ _ (nk_PI rfl rfl rfl (hK _ _ _ _ (hK _ _ _ _ (nk_GI rfl rfl rfl (show K _ _ _ _ from ?_)))))))))))
      have m4 : nk_up D1 55 L (nI j) 52 3 = nI L := by simp [nk_up, m3]
      rw [m4, nk_add]
      have m5 : nk_up (nk_up D1 55 L (nI j)) 52 3 (nI (L + 1)) 52 3 = nI (L + 1) := by simp [nk_up]
      rw [m5]
      refine hK _ _ _ _ (And.intro rfl ⟨rfl, n, ka, s, t, L + 1, (fun i => if i = L then j else tx i), u, pa, kp, c, se, ⟨ok1, ok2, ⟨by omega, fun i hi => ?_⟩, ok4, ok5, ok6⟩, XR_L (D := D) (fun a b h1 h2 h3 h4 => ?_) ⟨?_, fun i hi => ?_⟩ xr, MR_L (D := D) (fun a b h1 h2 => ?_) (fun b hb => ?_) ⟨?_, fun i hi => ?_⟩ mr⟩)
      · show (if i = L then j else tx i) < 256
        split
        · omega
        · exact hLt i (by omega)
      · simp [nk_up, show ¬ a = 52 by omega, show ¬ a = 55 by omega, fr a b h3 h4]
      · simp [nk_up, e]
      · simp only [nk_up, show ¬ (2 = 52) by decide, show ¬ (2 = 55) by decide, false_and, if_false, e2]
        split
        · rfl
        · exact xL.2 i (by omega)
      · simp [nk_up, show ¬ a = 52 by omega, h2, fr a b (by omega) (by omega)]
      · simp [nk_up, hb, fr 52 b (by omega) (by omega)]
      · simp [nk_up]
      · simp only [nk_up, show ¬ (55 = 52) by decide, false_and, if_false, true_and]
        split
        · rfl
        · rw [fr 55 i (by omega) (by omega)]
          exact mL.2 i (by omega)
  · have fin : K 11 [some (.ref 0), some (.int x)] [] D := by
      refine hK _ _ _ _ (show K _ _ _ _ from ?_)
      refine hK _ _ _ _ (And.intro rfl (h _ _ ?_))
      refine nk_go (M := (6, yX6_write, cX6_write, 2, (some .int), false, 1, nk_T77)) rfl rfl (Nat.le_of_ble_eq_true rfl) (fun K hK => ?_)
      show K 0 [some (.ref 52), some (.int x)] [] D
      refine hK _ _ _ _ (hK _ _ _ _ (hK _ _ _ _ (hK _ _ _ _ (show K _ _ _ _ from ?_))))
      refine hK _ _ _ _ (nk_stS rfl rfl rfl rfl ?_)
      refine sm_in2 (a := ((0 : Nat) : Int)) (b := ((255 : Nat) : Int)) rfl rfl ?_
      rw [hd]
      refine hK _ _ _ _ (nk_bne (fun z => by cases z) (fun z => ?_))
      refine hK _ _ _ _ (show K _ _ _ _ from ?_)
      exact hK _ _ _ _ (And.intro rfl (⟨rfl, hr'⟩))
    rcases hno with h1 | ⟨h1, h2⟩
    · refine hK _ _ _ _ (nk_bt h1 ?_)
      exact fin
    · refine hK _ _ _ _ (nk_bf h1 ?_)
      refine hK _ _ _ _ (hK _ _ _ _ (show K _ _ _ _ from ?_))
      refine hK _ _ _ _ (nk_bf (fun z => absurd (Int32.lt_iff_toInt_lt.mp h2) (by have := Int32.le_iff_toInt_le.mp z; omega)) ?_)
      exact fin
theorem op_erase (hr : REL D) (h : ∀ v D1, TH S (d + 20) 78 [.ref 52] v D1 → P (some (.int v)) D1) : nk_run S (d + 20) 37 [.ref 0] D P := by
  obtain ⟨n, ka, s, t, L, tx, u, pa, kp, c, se, ok, xr, mr⟩ := hr
  obtain ⟨ok1, ok2, ok3, ok4, ok5, ok6⟩ := id ok
  have xL := xr.2.2.1
  have mL := mr.2.2.2.1
  refine nk_go (M := (5, yX5_erase, cX5_erase, 2, (some .int), false, 0, nk_T37)) rfl rfl (Nat.le_of_ble_eq_true rfl) (fun K hK => ?_)
  show K 0 [some (.ref 0), none] [] D
  refine hK _ _ _ _ (hK _ _ _ _ (nk_GR rfl rfl rfl (hK _ _ _ _ (nk_GI rfl rfl rfl (hK _ _ _ _ (hK _ _ _ _ (hK _ _ _ _ (nk_GR rfl rfl rfl (hK _ _ _ _ (hK _ _ _ _ (nk_PI rfl rfl rfl (hK _ _ _ _ (show K _ _ _ _ from ?_)))))))))))))
  rw [xL.1]
  refine hK _ _ _ _ (And.intro rfl (h _ _ ?_))
  refine nk_go (M := (6, yX6_erase, cX6_erase, 2, (some .int), false, 0, nk_T78)) rfl rfl (Nat.le_of_ble_eq_true rfl) (fun K hK => ?_)
  show K 0 [some (.ref 52), none] [] (nk_up D 1 1 (nI 0))
  refine hK _ _ _ _ (hK _ _ _ _ (nk_GI rfl rfl rfl (hK _ _ _ _ (hK _ _ _ _ (hK _ _ _ _ (hK _ _ _ _ (nk_PI rfl rfl rfl (hK _ _ _ _ (show K _ _ _ _ from ?_)))))))))
  have e : nk_up D 1 1 (nI 0) 52 3 = nI L := by simp [nk_up, mL.1]
  rw [e]
  refine hK _ _ _ _ (And.intro rfl ⟨rfl, n, ka, s, t, 0, tx, u, pa, kp, c, se, ⟨ok1, ok2, ⟨by omega, fun i hi => by omega⟩, ok4, ok5, ok6⟩, XR_L (D := D) (fun a b h1 h2 h3 h4 => ?_) ⟨?_, fun i hi => by omega⟩ xr, MR_L (D := D) (fun a b h1 h2 => ?_) (fun b hb => ?_) ⟨?_, fun i hi => by omega⟩ mr⟩)
  · simp [nk_up, show ¬ a = 52 by omega, h3]
  · simp [nk_up]
  · simp [nk_up, show ¬ a = 52 by omega, show ¬ a = 1 by omega]
  · simp [nk_up, hb]
  · simp [nk_up]
end NKO
