/-! ===== the class reads: clauses ===== -/
abbrev Dr : Type := Nat × (Nat → Nat) × Sc3
def addD (dr : Dr) (k : Nat) : Dr := (dr.1 + 1, fun p => if p = dr.1 then k else dr.2.1 p, (fun p q => if p < dr.1 ∧ q < dr.1 then dr.2.2.1 p q else 0, dr.2.2.2))
def cls (L : Nat) (tx : Nat → Nat) (dr : Dr) (b e : Nat) : Bool × Dr × Nat × Nat :=
  if isV tx b e 0 = true then
    (if num L tx (tokB L tx e) (tokE L tx e) < dr.1 then
      (if num L tx (tokB L tx (tokE L tx e)) (tokE L tx (tokE L tx e)) < dr.1 ∧ num L tx (tokB L tx (tokE L tx e)) (tokE L tx (tokE L tx e)) ≠ num L tx (tokB L tx e) (tokE L tx e) then
        (if 1 ≤ num L tx (tokB L tx (tokE L tx (tokE L tx e))) (tokE L tx (tokE L tx (tokE L tx e))) ∧ num L tx (tokB L tx (tokE L tx (tokE L tx e))) (tokE L tx (tokE L tx (tokE L tx e))) ≤ 7 then
          (true, (dr.1, dr.2.1, (setR dr.2.2.1 (num L tx (tokB L tx e) (tokE L tx e)) (num L tx (tokB L tx (tokE L tx e)) (tokE L tx (tokE L tx e))) (num L tx (tokB L tx (tokE L tx (tokE L tx e))) (tokE L tx (tokE L tx (tokE L tx e)))), dr.2.2.2)), tokB L tx (tokE L tx (tokE L tx (tokE L tx e))), tokE L tx (tokE L tx (tokE L tx (tokE L tx e))))
        else (false, dr, tokB L tx (tokE L tx (tokE L tx e)), tokE L tx (tokE L tx (tokE L tx e))))
      else (false, dr, tokB L tx (tokE L tx e), tokE L tx (tokE L tx e)))
    else (false, dr, tokB L tx e, tokE L tx e))
  else if isV tx b e 1 = true then
    (if num L tx (tokB L tx e) (tokE L tx e) < 2 ^ dr.1 then (true, (dr.1, dr.2.1, (dr.2.2.1, num L tx (tokB L tx e) (tokE L tx e), dr.2.2.2.2)), tokB L tx (tokE L tx e), tokE L tx (tokE L tx e)) else (false, dr, tokB L tx e, tokE L tx e))
  else if isV tx b e 2 = true then (true, (0, dr.2.1, (dr.2.2.1, 0, dr.2.2.2.2)), tokB L tx e, tokE L tx e)
  else match kw tx b e with
    | none => (false, dr, b, e)
    | some k => if dr.1 < 6 then (true, addD dr k, tokB L tx e, tokE L tx e) else (false, dr, b, e)
def rd (L : Nat) (tx : Nat → Nat) : Nat → Nat → Dr → Nat → Nat → Bool × Nat × Dr × Nat
  | 0, b0, dr, _, c => (false, b0, dr, c)
  | m + 1, _, dr, j, c => if (cls L tx dr (tokB L tx j) (tokE L tx j)).1 = true then (if L ≤ (cls L tx dr (tokB L tx j) (tokE L tx j)).2.2.1 then (true, (cls L tx dr (tokB L tx j) (tokE L tx j)).2.2.1, (cls L tx dr (tokB L tx j) (tokE L tx j)).2.1, c + 1) else if tx (cls L tx dr (tokB L tx j) (tokE L tx j)).2.2.1 = 59 then rd L tx m (cls L tx dr (tokB L tx j) (tokE L tx j)).2.2.1 (cls L tx dr (tokB L tx j) (tokE L tx j)).2.1 (cls L tx dr (tokB L tx j) (tokE L tx j)).2.2.2 (c + 1) else (false, (cls L tx dr (tokB L tx j) (tokE L tx j)).2.2.1, (cls L tx dr (tokB L tx j) (tokE L tx j)).2.1, c + 1)) else (false, (cls L tx dr (tokB L tx j) (tokE L tx j)).2.2.1, (cls L tx dr (tokB L tx j) (tokE L tx j)).2.1, c)
def XD (D : nk_D) (dr : Dr) : Prop := XSc D 9 dr.1 dr.2.1 dr.2.2 ∧ ∀ p q, p < 6 → q < 6 → ¬ (p < dr.1 ∧ q < dr.1) → D 11 (p * 6 + q) = nI 0
def WD (dr : Dr) : Prop := dr.1 ≤ 6 ∧ WF dr.1 dr.2.2 ∧ ∀ p, p < dr.1 → dr.2.1 p ≤ 3
def TS (D : nk_D) (L : Nat) (tx : Nat → Nat) (b e : Nat) : Prop := TKL D L tx ∧ D 1 3 = nI b ∧ D 1 4 = nI e ∧ b ≤ e ∧ e ≤ L ∧ (b < L → b < e) ∧ (b < L → ∀ i, b ≤ i → i < e → srt L tx i = srt L tx b)
theorem XD_of {D D' : nk_D} {dr : Dr} (h0 : ∀ a b, 9 ≤ a → a < 12 → D' a b = D a b) (h : XD D dr) : XD D' dr := ⟨XSc_of (fun b => h0 9 b (by omega) (by omega)) (fun b => h0 10 b (by omega) (by omega)) (fun b => h0 11 b (by omega) (by omega)) h.1, fun p q hp hq hn => by rw [h0 11 _ (by omega) (by omega)]; exact h.2 p q hp hq hn⟩
theorem TS_of {D D' : nk_D} {L : Nat} {tx : Nat → Nat} {b e : Nat} (h0 : ∀ j, j ≠ 2 → D' 1 j = D 1 j) (h1 : ∀ b, D' 2 b = D 2 b) (h : TS D L tx b e) : TS D' L tx b e := ⟨TKL_of (h0 1 (by omega)) h1 h.1, by rw [h0 3 (by omega)]; exact h.2.1, by rw [h0 4 (by omega)]; exact h.2.2.1, h.2.2.2⟩
theorem WD_cls {L : Nat} {tx : Nat → Nat} {dr : Dr} {b e : Nat} (h : WD dr) : WD (cls L tx dr b e).2.1 := by
  obtain ⟨h6, ⟨w1, w2, w3, w4⟩, h3⟩ := h
  have h0 : WD dr := ⟨h6, ⟨w1, w2, w3, w4⟩, h3⟩
  unfold cls
  split
  · split
    · split
      · next q =>
        split
        · next c => exact ⟨h6, ⟨setR_le w1 c.2, setR_self w2 (fun z => q.2 z.symm), w3, w4⟩, h3⟩
        · exact h0
      · exact h0
    · exact h0
  · split
    · split
      · next c => exact ⟨h6, ⟨w1, w2, c, w4⟩, h3⟩
      · exact h0
    · split
      · exact ⟨Nat.zero_le 6, ⟨fun p z hp => absurd hp (Nat.not_lt_zero p), fun p hp => absurd hp (Nat.not_lt_zero p), Nat.one_pos, w4⟩, fun p hp => absurd hp (Nat.not_lt_zero p)⟩
      · split
        · exact h0
        · next k hk =>
          split
          · next c =>
            have hk3 := kw_le hk
            refine ⟨by show dr.1 + 1 ≤ 6; omega, ⟨fun p z hp hz => ?_, fun p hp => ?_, ?_, w4⟩, fun p hp => ?_⟩
            · show (if p < dr.1 ∧ z < dr.1 then dr.2.2.1 p z else 0) ≤ 7
              split
              · next q => exact w1 p z q.1 q.2
              · omega
            · show (if p < dr.1 ∧ p < dr.1 then dr.2.2.1 p p else 0) = 0
              split
              · next q => exact w2 p q.1
              · rfl
            · show dr.2.2.2.1 < 2 ^ (dr.1 + 1)
              rw [Nat.pow_succ]
              omega
            · show (if p = dr.1 then k else dr.2.1 p) ≤ 3
              split
              · exact hk3
              · have : p < dr.1 + 1 := hp
                exact h3 p (by omega)
          · exact h0
theorem num_vld {L : Nat} {tx : Nat → Nat} {b e n : Nat} (hall : b < L → ∀ i, b ≤ i → i < e → srt L tx i = srt L tx b) (hn : n ≤ 64) : vld n (numI L tx b e) = decide (num L tx b e < n) := by
  unfold numI num
  by_cases q : srt L tx b = 1 ∧ e - b ≤ 2
  · rw [if_pos q, if_pos q]
    have := dv_lt (L := L) (tx := tx) (b := b) (e := e) (fun i z1 z2 => by rw [hall (srt1 q.1).1 i z1 z2]; exact q.1) q.2
    unfold vld
    rw [nI_toInt (by omega)]
    exact decide_eq_decide.mpr (by omega)
  · rw [if_neg q, if_neg q, decide_eq_false (by omega)]
    unfold vld
    exact decide_eq_false (fun z => absurd z.1 (by decide))
theorem num_nI {L : Nat} {tx : Nat → Nat} {b e : Nat} (h : num L tx b e < 999) : numI L tx b e = nI (num L tx b e) := by
  unfold num at h ⊢
  unfold numI
  split
  · rfl
  · next q =>
    rw [if_neg q] at h
    omega
theorem num_role {L : Nat} {tx : Nat → Nat} {b e : Nat} (hall : b < L → ∀ i, b ≤ i → i < e → srt L tx i = srt L tx b) : decide (((1 : Nat) : Int) ≤ (numI L tx b e).toInt ∧ (numI L tx b e).toInt ≤ ((7 : Nat) : Int)) = decide (1 ≤ num L tx b e ∧ num L tx b e ≤ 7) := by
  unfold numI num
  by_cases q : srt L tx b = 1 ∧ e - b ≤ 2
  · rw [if_pos q, if_pos q]
    have := dv_lt (L := L) (tx := tx) (b := b) (e := e) (fun i z1 z2 => by rw [hall (srt1 q.1).1 i z1 z2]; exact q.1) q.2
    rw [nI_toInt (by omega)]
    exact decide_eq_decide.mpr (by omega)
  · rw [if_neg q, if_neg q]
    exact (decide_eq_false (fun z => absurd z.1 (by decide))).trans (decide_eq_false (fun z => absurd z.2 (by omega))).symm
section NKO
variable {S : nk_Sc} {d : Nat} {D : nk_D} {P : nk_P} {L : Nat} {tx : Nat → Nat}
theorem sx_next {b e : Nat} (ht : TS D L tx b e) (h : ∀ D', TS D' L tx (tokB L tx e) (tokE L tx e) → (∀ a b, ¬ (a = 1 ∧ (b = 3 ∨ b = 4)) → D' a b = D a b) → P none D') : nk_run S (d + 3) 31 [.ref 1] D P := by
  obtain ⟨t1, t2, t3, t4, t5, t6, t7⟩ := ht
  refine sx_toNextToken t1 t5 t3 (fun D' g1 g2 g3 => h D' ?_ g3)
  obtain ⟨q1, q2, q3, q4, q5, q6⟩ := tok_ok (L := L) (tx := tx) (j := e) t1.2.1 t5
  exact ⟨TKL_of (g3 _ _ (by omega)) (fun b => g3 _ _ (by omega)) t1, g1, g2, q3, q4, q5, q6⟩
theorem sx_num {b e : Nat} (ht : TS D L tx b e) (h : P (some (.int (numI L tx b e))) D) : nk_run S (d + 4) 35 [.ref 1] D P := by
  obtain ⟨t1, t2, t3, t4, t5, t6, t7⟩ := ht
  exact sx_number t1 t2 t3 t4 t5 t6 t7 h
theorem sx_readIntroduction {b e : Nat} {dr : Dr} {z : Bool × Dr × Nat × Nat} (ht : TS D L tx b e) (hx : XD D dr) (hv : isV tx b e 0 = true) (hz : cls L tx dr b e = z)
    (h : ∀ D', TS D' L tx z.2.2.1 z.2.2.2 → (z.1 = true → XD D' z.2.1) → (∀ a b, ¬ (a = 1 ∧ (b = 3 ∨ b = 4)) → ¬ (9 ≤ a ∧ a < 12) → D' a b = D a b) → P (some (.int (bI z.1))) D') : nk_run S (d + 6) 28 [.ref 1, .ref 9] D P := by
  have hn6 := hx.1.1.1
  unfold cls at hz
  rw [if_pos hv] at hz
  refine nk_go (M := (4, yX4_readIntroduction, cX4_readIntroduction, 5, (some .boolean), false, 1, nk_T28)) rfl rfl (Nat.le_of_ble_eq_true rfl) (fun K hK => ?_)
  show K 0 [some (.ref 1), some (.ref 9), none, none, none] [] D
  refine hK _ _ _ _ (show K _ _ _ _ from ?_)
  refine hK _ _ _ _ (nk_stV rfl rfl rfl rfl ?_)
  refine sx_next ht (fun D1 t1 f1 => ?_)
  have x1 := XD_of (D' := D1) (fun a b h1 h2 => f1 a b (by omega)) hx
  show K 4 _ _ _
  refine hK _ _ _ _ (show K _ _ _ _ from ?_)
  refine hK _ _ _ _ (nk_stV rfl rfl rfl rfl ?_)
  refine sx_num t1 ?_
  refine hK _ _ _ _ (hK _ _ _ _ (hK _ _ _ _ (show K _ _ _ _ from ?_)))
  refine hK _ _ _ _ (nk_stV rfl rfl rfl rfl ?_)
  refine sx_has isS9 x1.1.1.2.1 hn6 ?_
  rw [num_vld t1.2.2.2.2.2.2 (by omega)]
  refine hK _ _ _ _ (nk_bne (fun c1 => ?_) (fun c1 => ?_))
  · have c1 := of_decide_eq_true c1
    rw [if_pos c1] at hz
    have e1 := num_nI (show num L tx (tokB L tx e) (tokE L tx e) < 999 by omega)
    refine hK _ _ _ _ (show K _ _ _ _ from ?_)
    refine hK _ _ _ _ (nk_stV rfl rfl rfl rfl ?_)
    refine sx_next t1 (fun D2 t2 f2 => ?_)
    have x2 := XD_of (D' := D2) (fun a b h1 h2 => f2 a b (by omega)) x1
    show K 23 _ _ _
    refine hK _ _ _ _ (show K _ _ _ _ from ?_)
    refine hK _ _ _ _ (nk_stV rfl rfl rfl rfl ?_)
    refine sx_num t2 ?_
    refine hK _ _ _ _ (hK _ _ _ _ (hK _ _ _ _ (hK _ _ _ _ (show K _ _ _ _ from ?_))))
    refine hK _ _ _ _ (nk_stV rfl rfl rfl rfl ?_)
    refine sx_hasPair isS9 x2.1.1.2.1 hn6 ?_
    have hp : (vld dr.1 (numI L tx (tokB L tx e) (tokE L tx e)) && vld dr.1 (numI L tx (tokB L tx (tokE L tx e)) (tokE L tx (tokE L tx e))) && !decide (numI L tx (tokB L tx e) (tokE L tx e) = numI L tx (tokB L tx (tokE L tx e)) (tokE L tx (tokE L tx e)))) = decide (num L tx (tokB L tx (tokE L tx e)) (tokE L tx (tokE L tx e)) < dr.1 ∧ num L tx (tokB L tx (tokE L tx e)) (tokE L tx (tokE L tx e)) ≠ num L tx (tokB L tx e) (tokE L tx e)) := by
      rw [num_vld t1.2.2.2.2.2.2 (by omega), num_vld t2.2.2.2.2.2.2 (by omega), decide_eq_true c1, Bool.true_and]
      by_cases q : num L tx (tokB L tx (tokE L tx e)) (tokE L tx (tokE L tx e)) < dr.1
      · rw [decide_eq_true q, Bool.true_and, e1, num_nI (show num L tx (tokB L tx (tokE L tx e)) (tokE L tx (tokE L tx e)) < 999 by omega), ← decide_not]
        refine decide_eq_decide.mpr ?_
        rw [nI_eq (by omega) (by omega)]
        exact ⟨fun w => ⟨q, fun w2 => w w2.symm⟩, fun w w2 => w.2 w2.symm⟩
      · rw [decide_eq_false q, Bool.false_and, decide_eq_false (fun w => q w.1)]
    have xp := x2.1.1.2.1
    rw [hp]
    refine hK _ _ _ _ (nk_bne (fun c2 => ?_) (fun c2 => ?_))
    · rw [c2] at hp
      have c2 := of_decide_eq_true c2
      rw [if_pos c2] at hz
      refine hK _ _ _ _ (show K _ _ _ _ from ?_)
      refine hK _ _ _ _ (nk_stV rfl rfl rfl rfl ?_)
      refine sx_next t2 (fun D3 t3 f3 => ?_)
      have x3 := XD_of (D' := D3) (fun a b h1 h2 => f3 a b (by omega)) x2
      show K 43 _ _ _
      refine hK _ _ _ _ (show K _ _ _ _ from ?_)
      refine hK _ _ _ _ (nk_stV rfl rfl rfl rfl ?_)
      refine sx_num t3 ?_
      refine hK _ _ _ _ (hK _ _ _ _ (show K _ _ _ _ from ?_))
      refine hK _ _ _ _ (nk_stS rfl rfl rfl rfl ?_)
      refine sx_isRole ?_
      rw [num_role t3.2.2.2.2.2.2]
      refine hK _ _ _ _ (nk_bne (fun c3 => ?_) (fun c3 => ?_))
      · have c3 := of_decide_eq_true c3
        rw [if_pos c3] at hz
        subst hz
        refine hK _ _ _ _ (hK _ _ _ _ (hK _ _ _ _ (hK _ _ _ _ (show K _ _ _ _ from ?_))))
        refine hK _ _ _ _ (nk_stV rfl rfl rfl rfl ?_)
        refine sx_setRole isS9 x3.1.1.2.1 hn6 (fun w => by rw [hp] at w; cases w) (fun p q hp' hq' hpq q1 q2 => ?_)
        have w0 := num_nI (show num L tx (tokB L tx (tokE L tx (tokE L tx e))) (tokE L tx (tokE L tx (tokE L tx e))) < 999 by omega)
        rw [e1, nI_eq (by omega) (by omega)] at q1
        rw [num_nI (show num L tx (tokB L tx (tokE L tx e)) (tokE L tx (tokE L tx e)) < 999 by omega), nI_eq (by omega) (by omega)] at q2
        rw [w0]
        have x4 : XD (nk_up D3 (9 + 2) (p * 6 + q) (nI (num L tx (tokB L tx (tokE L tx (tokE L tx e))) (tokE L tx (tokE L tx (tokE L tx e)))))) (dr.1, dr.2.1, (setR dr.2.2.1 p q (num L tx (tokB L tx (tokE L tx (tokE L tx e))) (tokE L tx (tokE L tx (tokE L tx e)))), dr.2.2.2)) := by
          refine ⟨⟨XS_set x3.1.1 hq' c3.2, ?_, ?_⟩, fun p' q' k1 k2 k3 => ?_⟩
          · have := x3.1.2.1
            simp only [nk_up]
            exact this
          · have := x3.1.2.2
            simp only [nk_up]
            exact this
          · have k3 : ¬ (p' < dr.1 ∧ q' < dr.1) := k3
            have := x3.2 p' q' k1 k2 k3
            have ne : ¬ (p' * 6 + q' = p * 6 + q) := by omega
            simp only [nk_up, ne, and_false, if_false]
            exact this
        have t4 : TS (nk_up D3 (9 + 2) (p * 6 + q) (nI (num L tx (tokB L tx (tokE L tx (tokE L tx e))) (tokE L tx (tokE L tx (tokE L tx e)))))) L tx (tokB L tx (tokE L tx (tokE L tx e))) (tokE L tx (tokE L tx (tokE L tx e))) := TS_of (fun j _ => by simp [nk_up]) (fun b => by simp [nk_up]) t3
        have f4 : ∀ a b, a ≠ 11 → nk_up D3 (9 + 2) (p * 6 + q) (nI (num L tx (tokB L tx (tokE L tx (tokE L tx e))) (tokE L tx (tokE L tx (tokE L tx e))))) a b = D3 a b := fun a b ha => by simp [nk_up, ha]
        rw [← q1, ← q2] at x4
        rw [← q1, ← q2] at t4 f4 ⊢
        generalize nk_up D3 (9 + 2) _ _ = D4 at x4 t4 f4 ⊢
        show K 67 _ _ _
        refine hK _ _ _ _ (show K _ _ _ _ from ?_)
        refine hK _ _ _ _ (nk_stV rfl rfl rfl rfl ?_)
        refine sx_next t4 (fun D5 t5 f5 => ?_)
        show K 71 _ _ _
        refine hK _ _ _ _ (show K _ _ _ _ from ?_)
        exact hK _ _ _ _ (And.intro rfl (h D5 t5 (fun _ => XD_of (fun a b h1 h2 => f5 a b (by omega)) x4) (fun a b h1 h2 => by rw [f5 a b h1, f4 a b (by omega), f3 a b h1, f2 a b h1, f1 a b h1])))
      · rw [if_neg (of_decide_eq_false c3)] at hz
        subst hz
        refine hK _ _ _ _ (show K _ _ _ _ from ?_)
        exact hK _ _ _ _ (And.intro rfl (h D3 t3 (fun w => by cases w) (fun a b h1 h2 => by rw [f3 a b h1, f2 a b h1, f1 a b h1])))
    · rw [if_neg (of_decide_eq_false c2)] at hz
      subst hz
      refine hK _ _ _ _ (show K _ _ _ _ from ?_)
      exact hK _ _ _ _ (And.intro rfl (h D2 t2 (fun w => by cases w) (fun a b h1 h2 => by rw [f2 a b h1, f1 a b h1])))
  · rw [if_neg (of_decide_eq_false c1)] at hz
    subst hz
    refine hK _ _ _ _ (show K _ _ _ _ from ?_)
    exact hK _ _ _ _ (And.intro rfl (h D1 t1 (fun w => by cases w) (fun a b h1 h2 => f1 a b h1)))
theorem sx_readRoom {b e : Nat} {dr : Dr} {z : Bool × Dr × Nat × Nat} (ht : TS D L tx b e) (hx : XD D dr) (hv0 : isV tx b e 0 = false) (hv : isV tx b e 1 = true) (hz : cls L tx dr b e = z)
    (h : ∀ D', TS D' L tx z.2.2.1 z.2.2.2 → (z.1 = true → XD D' z.2.1) → (∀ a b, ¬ (a = 1 ∧ (b = 3 ∨ b = 4)) → ¬ (9 ≤ a ∧ a < 12) → D' a b = D a b) → P (some (.int (bI z.1))) D') : nk_run S (d + 6) 29 [.ref 1, .ref 9] D P := by
  have hn6 := hx.1.1.1
  have h64 := p64 hn6
  unfold cls at hz
  rw [if_neg (by rw [hv0]; decide), if_pos hv] at hz
  refine nk_go (M := (4, yX4_readRoom, cX4_readRoom, 3, (some .boolean), false, 1, nk_T29)) rfl rfl (Nat.le_of_ble_eq_true rfl) (fun K hK => ?_)
  show K 0 [some (.ref 1), some (.ref 9), none] [] D
  refine hK _ _ _ _ (show K _ _ _ _ from ?_)
  refine hK _ _ _ _ (nk_stV rfl rfl rfl rfl ?_)
  refine sx_next ht (fun D1 t1 f1 => ?_)
  have x1 := XD_of (D' := D1) (fun a b h1 h2 => f1 a b (by omega)) hx
  show K 4 _ _ _
  refine hK _ _ _ _ (show K _ _ _ _ from ?_)
  refine hK _ _ _ _ (nk_stV rfl rfl rfl rfl ?_)
  refine sx_num t1 ?_
  refine hK _ _ _ _ (hK _ _ _ _ (hK _ _ _ _ (show K _ _ _ _ from ?_)))
  refine hK _ _ _ _ (nk_stV rfl rfl rfl rfl ?_)
  refine sx_hasAll isS9 x1.1.1.2.1 hn6 ?_
  rw [num_vld t1.2.2.2.2.2.2 h64]
  refine hK _ _ _ _ (nk_bne (fun c1 => ?_) (fun c1 => ?_))
  · have c1 := of_decide_eq_true c1
    rw [if_pos c1] at hz
    subst hz
    have e1 := num_nI (show num L tx (tokB L tx e) (tokE L tx e) < 999 by omega)
    refine hK _ _ _ _ (hK _ _ _ _ (hK _ _ _ _ (nk_PI rfl rfl rfl (show K _ _ _ _ from ?_))))
    rw [e1]
    have x2 : XD (nk_up D1 9 3 (nI (num L tx (tokB L tx e) (tokE L tx e)))) (dr.1, dr.2.1, (dr.2.2.1, num L tx (tokB L tx e) (tokE L tx e), dr.2.2.2.2)) := by
      obtain ⟨⟨⟨a1, a2, a3, a4⟩, a5, a6⟩, a7⟩ := x1
      refine ⟨⟨⟨a1, ?_, fun p hp => ?_, fun p q hp hq => ?_⟩, ?_, ?_⟩, fun p q hp hq hn => ?_⟩
      · simp only [nk_up]; exact a2
      · simp only [nk_up]; exact a3 p hp
      · simp only [nk_up]; exact a4 p q hp hq
      · simp [nk_up]
      · simp only [nk_up]; exact a6
      · simp only [nk_up]; exact a7 p q hp hq hn
    have t2 : TS (nk_up D1 9 3 (nI (num L tx (tokB L tx e) (tokE L tx e)))) L tx (tokB L tx e) (tokE L tx e) := TS_of (fun j _ => by simp [nk_up]) (fun b => by simp [nk_up]) t1
    have f2 : ∀ a b, a ≠ 9 → nk_up D1 9 3 (nI (num L tx (tokB L tx e) (tokE L tx e))) a b = D1 a b := fun a b ha => by simp [nk_up, ha]
    generalize nk_up D1 9 3 (nI (num L tx (tokB L tx e) (tokE L tx e))) = D2 at x2 t2 f2 ⊢
    refine hK _ _ _ _ (show K _ _ _ _ from ?_)
    refine hK _ _ _ _ (nk_stV rfl rfl rfl rfl ?_)
    refine sx_next t2 (fun D3 t3 f3 => ?_)
    show K 28 _ _ _
    refine hK _ _ _ _ (show K _ _ _ _ from ?_)
    exact hK _ _ _ _ (And.intro rfl (h D3 t3 (fun _ => XD_of (fun a b h1 h2 => f3 a b (by omega)) x2) (fun a b h1 h2 => by rw [f3 a b h1, f2 a b (by omega), f1 a b h1])))
  · rw [if_neg (of_decide_eq_false c1)] at hz
    subst hz
    refine hK _ _ _ _ (show K _ _ _ _ from ?_)
    exact hK _ _ _ _ (And.intro rfl (h D1 t1 (fun w => by cases w) (fun a b h1 h2 => f1 a b h1)))
theorem sx_readClause {b e : Nat} {dr : Dr} {z : Bool × Dr × Nat × Nat} (ht : TS D L tx b e) (hx : XD D dr) (hz : cls L tx dr b e = z)
    (h : ∀ D', TS D' L tx z.2.2.1 z.2.2.2 → (z.1 = true → XD D' z.2.1) → (∀ a b, ¬ (a = 1 ∧ (b = 3 ∨ b = 4)) → ¬ (9 ≤ a ∧ a < 12) → D' a b = D a b) → P (some (.int (bI z.1))) D') : nk_run S (d + 7) 27 [.ref 1, .ref 9] D P := by
  have hn6 := hx.1.1.1
  have ht' := ht
  obtain ⟨t1, t2, t3, t4, t5, t6, t7⟩ := ht
  refine nk_go (M := (4, yX4_readClause, cX4_readClause, 3, (some .boolean), false, 1, nk_T27)) rfl rfl (Nat.le_of_ble_eq_true rfl) (fun K hK => ?_)
  show K 0 [some (.ref 1), some (.ref 9), none] [] D
  refine hK _ _ _ _ (hK _ _ _ _ (show K _ _ _ _ from ?_))
  refine hK _ _ _ _ (nk_stV rfl rfl rfl rfl ?_)
  refine sx_isV (k := 0) (by decide) t1 t2 t3 t4 t5 ?_
  refine hK _ _ _ _ (nk_beq (fun c0 => ?_) (fun c0 => ?_))
  · refine hK _ _ _ _ (hK _ _ _ _ (show K _ _ _ _ from ?_))
    refine hK _ _ _ _ (nk_stV rfl rfl rfl rfl ?_)
    refine sx_isV (k := 1) (by decide) t1 t2 t3 t4 t5 ?_
    refine hK _ _ _ _ (nk_beq (fun c1 => ?_) (fun c1 => ?_))
    · refine hK _ _ _ _ (hK _ _ _ _ (show K _ _ _ _ from ?_))
      refine hK _ _ _ _ (nk_stV rfl rfl rfl rfl ?_)
      refine sx_isV (k := 2) (by decide) t1 t2 t3 t4 t5 ?_
      unfold cls at hz
      rw [if_neg (by rw [c0]; decide), if_neg (by rw [c1]; decide)] at hz
      refine hK _ _ _ _ (nk_beq (fun c2 => ?_) (fun c2 => ?_))
      · rw [if_neg (by rw [c2]; decide)] at hz
        refine hK _ _ _ _ (show K _ _ _ _ from ?_)
        refine hK _ _ _ _ (nk_stV rfl rfl rfl rfl ?_)
        refine sx_kindByWord t1 t2 t3 t4 t5 ?_
        cases hk : kw tx b e with
        | none =>
          rw [hk] at hz
          simp only at hz ⊢
          subst hz
          refine hK _ _ _ _ (hK _ _ _ _ (hK _ _ _ _ (show K _ _ _ _ from ?_)))
          refine hK _ _ _ _ (nk_bt rfl ?_)
          refine hK _ _ _ _ (show K _ _ _ _ from ?_)
          exact hK _ _ _ _ (And.intro rfl (h D ht' (fun w => by cases w) (fun a b h1 h2 => rfl)))
        | some k =>
          have hk3 := kw_le hk
          rw [hk] at hz
          simp only at hz ⊢
          refine hK _ _ _ _ (hK _ _ _ _ (hK _ _ _ _ (show K _ _ _ _ from ?_)))
          refine hK _ _ _ _ (nk_bf (fun w => m1_ne (by omega) w.symm) ?_)
          refine hK _ _ _ _ (hK _ _ _ _ (show K _ _ _ _ from ?_))
          refine hK _ _ _ _ (nk_stV rfl rfl rfl rfl ?_)
          refine sx_addPerson isS9 hx.1.1.2.1 hn6 (fun q => ?_) (fun q => ?_)
          · rw [if_neg (by omega)] at hz
            subst hz
            refine hK _ _ _ _ (nk_bne (fun w => by cases w) (fun _ => ?_))
            refine hK _ _ _ _ (show K _ _ _ _ from ?_)
            exact hK _ _ _ _ (And.intro rfl (h D ht' (fun w => by cases w) (fun a b h1 h2 => rfl)))
          · rw [if_pos q] at hz
            subst hz
            have xa : XD (nk_up (nk_up D (9 + 1) dr.1 (nI k)) 9 2 (nI (dr.1 + 1))) (addD dr k) := by
              obtain ⟨⟨⟨a1, a2, a3, a4⟩, a5, a6⟩, a7⟩ := hx
              refine ⟨⟨⟨by show dr.1 + 1 ≤ 6; omega, by simp [nk_up, addD], fun p hp => ?_, fun p q hp hq => ?_⟩, ?_, ?_⟩, fun p q hp hq hn => ?_⟩
              · have hp : p < dr.1 + 1 := hp
                show _ = nI (if p = dr.1 then k else dr.2.1 p) ∧ (if p = dr.1 then k else dr.2.1 p) ≤ 3
                by_cases w : p = dr.1
                · rw [if_pos w]
                  refine ⟨?_, hk3⟩
                  simp [nk_up, w]
                · rw [if_neg w]
                  have := a3 p (by omega)
                  refine ⟨?_, this.2⟩
                  simp only [nk_up, w, and_false, if_false]
                  exact this.1
              · have hp : p < dr.1 + 1 := hp
                have hq : q < dr.1 + 1 := hq
                show _ = nI (if p < dr.1 ∧ q < dr.1 then dr.2.2.1 p q else 0) ∧ (if p < dr.1 ∧ q < dr.1 then dr.2.2.1 p q else 0) ≤ 7
                by_cases w : p < dr.1 ∧ q < dr.1
                · rw [if_pos w]
                  simp only [nk_up]
                  exact a4 p q w.1 w.2
                · rw [if_neg w]
                  refine ⟨?_, by omega⟩
                  simp only [nk_up]
                  exact a7 p q (by omega) (by omega) w
              · simp only [nk_up]
                exact a5
              · simp only [nk_up]
                exact a6
              · have hn : ¬ (p < dr.1 + 1 ∧ q < dr.1 + 1) := hn
                simp only [nk_up]
                exact a7 p q hp hq (by omega)
            have ta : TS (nk_up (nk_up D (9 + 1) dr.1 (nI k)) 9 2 (nI (dr.1 + 1))) L tx b e := TS_of (fun j _ => by simp [nk_up]) (fun b => by simp [nk_up]) ht'
            have fa : ∀ a b, ¬ (9 ≤ a ∧ a < 12) → nk_up (nk_up D (9 + 1) dr.1 (nI k)) 9 2 (nI (dr.1 + 1)) a b = D a b := fun a b ha => by simp [nk_up, show ¬ a = 9 by omega, show ¬ a = 10 by omega]
            generalize nk_up (nk_up D (9 + 1) dr.1 (nI k)) 9 2 (nI (dr.1 + 1)) = D1 at xa ta fa ⊢
            refine hK _ _ _ _ (nk_bne (fun _ => ?_) (fun w => by cases w))
            refine hK _ _ _ _ (show K _ _ _ _ from ?_)
            refine hK _ _ _ _ (nk_stV rfl rfl rfl rfl ?_)
            refine sx_next ta (fun D2 tb fb => ?_)
            show K 70 _ _ _
            refine hK _ _ _ _ (show K _ _ _ _ from ?_)
            exact hK _ _ _ _ (And.intro rfl (h D2 tb (fun _ => XD_of (fun a b h1 h2 => fb a b (by omega)) xa) (fun a b h1 h2 => by rw [fb a b h1, fa a b h2])))
      · rw [if_pos c2] at hz
        subst hz
        refine hK _ _ _ _ (show K _ _ _ _ from ?_)
        refine hK _ _ _ _ (nk_stV rfl rfl rfl rfl ?_)
        refine sx_clear isS9 (fun D1 g1 g2 g3 g4 g5 => ?_)
        have xa : XD D1 (0, dr.2.1, (dr.2.2.1, 0, dr.2.2.2.2)) := ⟨⟨⟨by show 0 ≤ 6; omega, g2, fun p hp => absurd hp (by show ¬ p < 0; omega), fun p q hp => absurd hp (by show ¬ p < 0; omega)⟩, g3, by rw [g4]; exact hx.1.2.2⟩, fun p q hp hq _ => g1 (p * 6 + q) (by omega)⟩
        have ta : TS D1 L tx b e := TS_of (fun j _ => g5 _ _ (by omega) (by omega)) (fun b => g5 _ _ (by omega) (by omega)) ht'
        show K 43 _ _ _
        refine hK _ _ _ _ (hK _ _ _ _ (show K _ _ _ _ from ?_))
        refine hK _ _ _ _ (nk_stV rfl rfl rfl rfl ?_)
        refine sx_next ta (fun D2 tb fb => ?_)
        show K 70 _ _ _
        refine hK _ _ _ _ (show K _ _ _ _ from ?_)
        exact hK _ _ _ _ (And.intro rfl (h D2 tb (fun _ => XD_of (fun a b h1 h2 => fb a b (by omega)) xa) (fun a b h1 h2 => by rw [fb a b h1, g5 a b (by omega) (by omega)])))
    · refine hK _ _ _ _ (hK _ _ _ _ (show K _ _ _ _ from ?_))
      refine hK _ _ _ _ (nk_stV rfl rfl rfl rfl ?_)
      refine sx_readRoom ht' hx c0 c1 hz (fun D' a1 a2 a3 => ?_)
      exact hK _ _ _ _ (And.intro (nk_narB _) (h D' a1 a2 a3))
  · refine hK _ _ _ _ (hK _ _ _ _ (show K _ _ _ _ from ?_))
    refine hK _ _ _ _ (nk_stV rfl rfl rfl rfl ?_)
    refine sx_readIntroduction ht' hx c0 hz (fun D' a1 a2 a3 => ?_)
    exact hK _ _ _ _ (And.intro (nk_narB _) (h D' a1 a2 a3))
theorem sx_readInto {dr : Dr} {z : Bool × Nat × Dr × Nat} (hl : TKL D L tx) (hx : XD D dr) (hz : rd L tx 14 0 dr 0 0 = z)
    (h : ∀ D', D' 1 2 = nI z.2.2.2 → (z.1 = true → XD D' z.2.2.1) → (∀ a b, ¬ (a = 1 ∧ (b = 2 ∨ b = 3 ∨ b = 4)) → ¬ (9 ≤ a ∧ a < 12) → D' a b = D a b) → P (some (.int (if z.1 = true then -1 else nI z.2.1))) D') : nk_run S (d + 8) 26 [.ref 1, .ref 9] D P := by
  obtain ⟨⟨h1, h2⟩, hL, h256⟩ := id hl
  refine nk_go (M := (4, yX4_readInto, cX4_readInto, 3, (some .int), false, 1, nk_T26)) rfl rfl (Nat.le_of_ble_eq_true rfl) (fun K hK => ?_)
  show K 0 [some (.ref 1), some (.ref 9), none] [] D
  refine hK _ _ _ _ (hK _ _ _ _ (hK _ _ _ _ (nk_PI rfl rfl rfl (hK _ _ _ _ (hK _ _ _ _ (hK _ _ _ _ (nk_PI rfl rfl rfl (hK _ _ _ _ (hK _ _ _ _ (show K _ _ _ _ from ?_))))))))))
  have f0 : ∀ a b, ¬ (a = 1 ∧ (b = 2 ∨ b = 3 ∨ b = 4)) → ¬ (9 ≤ a ∧ a < 12) → nk_up (nk_up D 1 2 (nI 0)) 1 4 (nI 0) a b = D a b := fun a b q1 q2 => by
    have n1 : ¬ (a = 1 ∧ b = 2) := by omega
    have n2 : ¬ (a = 1 ∧ b = 4) := by omega
    simp only [nk_up, n1, n2, if_false]
  have s2 : nk_up (nk_up D 1 2 (nI 0)) 1 4 (nI 0) 1 2 = nI 0 := by simp [nk_up]
  have s4 : nk_up (nk_up D 1 2 (nI 0)) 1 4 (nI 0) 1 4 = nI 0 := by simp [nk_up]
  have x0 : XD (nk_up (nk_up D 1 2 (nI 0)) 1 4 (nI 0)) dr := XD_of (fun a b q1 q2 => by simp [nk_up, show ¬ a = 1 by omega]) hx
  generalize nk_up (nk_up D 1 2 (nI 0)) 1 4 (nI 0) = D0 at f0 s2 s4 x0 ⊢
  have loop : ∀ m c b0 j dr D1, c + m = 14 → j ≤ L → rd L tx m b0 dr j c = z → (m = 0 → D1 1 3 = nI b0) → D1 1 4 = nI j → D1 1 2 = nI c → XD D1 dr → (∀ a b, ¬ (a = 1 ∧ (b = 2 ∨ b = 3 ∨ b = 4)) → ¬ (9 ≤ a ∧ a < 12) → D1 a b = D a b) → K 12 [some (.ref 1), some (.ref 9), some (.int (nI c))] [] D1 := by
    intro m
    induction m with
    | zero =>
      intro c b0 j dr D1 hc hj hr h3 h4 hcc hx1 fr
      have hc : c = 14 := by omega
      subst hc
      rw [rd] at hr
      subst hr
      refine hK _ _ _ _ (hK _ _ _ _ (show K _ _ _ _ from ?_))
      refine hK _ _ _ _ (nk_bt (nI_le (Nat.le_refl _) (by omega)) ?_)
      refine hK _ _ _ _ (hK _ _ _ _ (nk_GI rfl rfl rfl (show K _ _ _ _ from ?_)))
      rw [h3 rfl]
      exact hK _ _ _ _ (And.intro rfl (h D1 hcc (fun w => by cases w) fr))
    | succ m ih =>
      intro c b0 j dr D1 hc hj hr h3 h4 hcc hx1 fr
      have hl1 : TKL D1 L tx := TKL_of (fr 1 1 (by omega) (by omega)) (fun b => fr 2 b (by omega) (by omega)) hl
      rw [rd] at hr
      refine hK _ _ _ _ (hK _ _ _ _ (show K _ _ _ _ from ?_))
      refine hK _ _ _ _ (nk_bf (nI_ge (by omega) (by omega)) ?_)
      refine hK _ _ _ _ (show K _ _ _ _ from ?_)
      refine hK _ _ _ _ (nk_stV rfl rfl rfl rfl ?_)
      refine sx_toNextToken hl1 hj h4 (fun D2 g1 g2 g3 => ?_)
      obtain ⟨q1, q2, q3, q4, q5, q6⟩ := tok_ok (L := L) (tx := tx) (j := j) hL hj
      have t2 : TS D2 L tx (tokB L tx j) (tokE L tx j) := ⟨TKL_of (g3 _ _ (by omega)) (fun b => g3 _ _ (by omega)) hl1, g1, g2, q3, q4, q5, q6⟩
      have x2 : XD D2 dr := XD_of (fun a b z1 z2 => g3 a b (by omega)) hx1
      show K 22 _ _ _
      refine hK _ _ _ _ (hK _ _ _ _ (show K _ _ _ _ from ?_))
      refine hK _ _ _ _ (nk_stV rfl rfl rfl rfl ?_)
      refine sx_readClause t2 x2 rfl (fun D3 t3 x3 f3 => ?_)
      generalize cls L tx dr (tokB L tx j) (tokE L tx j) = y at hr t3 x3 ⊢
      have fr3 : ∀ a b, ¬ (a = 1 ∧ (b = 2 ∨ b = 3 ∨ b = 4)) → ¬ (9 ≤ a ∧ a < 12) → D3 a b = D a b := fun a b w1 w2 => by rw [f3 a b (by omega) w2, g3 a b (by omega), fr a b w1 w2]
      have c3 : D3 1 2 = nI c := by rw [f3 1 2 (by omega) (by omega), g3 1 2 (by omega)]; exact hcc
      have t33 := t3.2.1
      have tbe := t3.2.2.2
      refine hK _ _ _ _ (nk_bne (fun w => ?_) (fun w => ?_))
      · rw [if_pos w] at hr
        have x3 := x3 w
        refine hK _ _ _ _ (hK _ _ _ _ (hK _ _ _ _ (nk_GI rfl rfl rfl (hK _ _ _ _ (hK _ _ _ _ (hK _ _ _ _ (nk_PI rfl rfl rfl (show K _ _ _ _ from ?_))))))))
        rw [c3, nk_add]
        have t4 : TS (nk_up D3 1 2 (nI (c + 1))) L tx y.2.2.1 y.2.2.2 := TS_of (fun j hj => by simp [nk_up, hj]) (fun b => by simp [nk_up]) t3
        have x4 : XD (nk_up D3 1 2 (nI (c + 1))) y.2.1 := XD_of (fun a b z1 z2 => by simp [nk_up, show ¬ a = 1 by omega]) x3
        have c4 : nk_up D3 1 2 (nI (c + 1)) 1 2 = nI (c + 1) := by simp [nk_up]
        have fr4 : ∀ a b, ¬ (a = 1 ∧ (b = 2 ∨ b = 3 ∨ b = 4)) → ¬ (9 ≤ a ∧ a < 12) → nk_up D3 1 2 (nI (c + 1)) a b = D a b := fun a b w1 w2 => by
          have n1 : ¬ (a = 1 ∧ b = 2) := by omega
          simp only [nk_up, n1, if_false]
          exact fr3 a b w1 w2
        generalize nk_up D3 1 2 (nI (c + 1)) = D4 at t4 x4 c4 fr4 ⊢
        have e1 : D4 1 1 = nI L := t4.1.1.1
        have e3 := t4.2.1
        have e4 := t4.2.2.1
        refine hK _ _ _ _ (hK _ _ _ _ (nk_GI rfl rfl rfl (hK _ _ _ _ (hK _ _ _ _ (nk_GI rfl rfl rfl (show K _ _ _ _ from ?_))))))
        rw [e1, e3]
        refine hK _ _ _ _ (nk_lt (by omega) (by omega) (fun w2 => ?_) (fun w2 => ?_))
        · rw [if_neg (by omega)] at hr
          refine hK _ _ _ _ (hK _ _ _ _ (hK _ _ _ _ (nk_GI rfl rfl rfl (show K _ _ _ _ from ?_))))
          rw [e3]
          refine hK _ _ _ _ (nk_stV rfl rfl rfl rfl ?_)
          refine sx_letterAt t4.1 (by omega) ?_
          rw [if_pos w2]
          have := h256 _ w2
          refine hK _ _ _ _ (show K _ _ _ _ from ?_)
          refine hK _ _ _ _ (nk_eq (by omega) (by omega) (fun w3 => ?_) (fun w3 => ?_))
          · rw [if_pos w3] at hr
            refine hK _ _ _ _ (hK _ _ _ _ (show K _ _ _ _ from ?_))
            rw [nk_add]
            exact ih (c + 1) _ _ _ D4 (by omega) (by omega) hr (fun _ => e3) e4 c4 x4 fr4
          · rw [if_neg w3] at hr
            subst hr
            refine hK _ _ _ _ (hK _ _ _ _ (nk_GI rfl rfl rfl (show K _ _ _ _ from ?_)))
            rw [e3]
            exact hK _ _ _ _ (And.intro rfl (h D4 c4 (fun w => by cases w) fr4))
        · rw [if_pos w2] at hr
          subst hr
          refine hK _ _ _ _ (show K _ _ _ _ from ?_)
          exact hK _ _ _ _ (And.intro rfl (h D4 c4 (fun _ => x4) fr4))
      · rw [if_neg (by rw [w]; decide)] at hr
        subst hr
        refine hK _ _ _ _ (hK _ _ _ _ (nk_GI rfl rfl rfl (show K _ _ _ _ from ?_)))
        rw [t33]
        exact hK _ _ _ _ (And.intro rfl (h D3 c3 (fun w => by cases w) fr3))
  exact loop 14 0 0 0 dr D0 (by omega) (by omega) hz (fun w => absurd w (by omega)) s4 s2 x0 f0
end NKO
