/-! ===== rooms: pure ===== -/
theorem pcn_mono {a b : Nat} (h : ∀ i, a.testBit i = true → b.testBit i = true) : pcn a ≤ pcn b := by
  have k : ∀ i, (a.testBit i).toNat ≤ (b.testBit i).toNat := fun i => by
    have := h i
    revert this
    cases a.testBit i <;> cases b.testBit i <;> simp
  unfold pcn
  have := k 0; have := k 1; have := k 2; have := k 3; have := k 4; have := k 5; have := k 6; have := k 7
  omega
theorem mbU_mono {r : Nat → Nat → Nat} {a b p : Nat} (h : ∀ i, a.testBit i = true → b.testBit i = true) : ∀ j i, (mbU r a p j).testBit i = true → (mbU r b p j).testBit i = true
  | 0, i => fun e => e
  | j + 1, i => by
    rw [mbU, mbU, Nat.testBit_or, Nat.testBit_or, Bool.or_eq_true, Bool.or_eq_true]
    rintro (e | e)
    · exact Or.inl (mbU_mono h j i e)
    · refine Or.inr ?_
      by_cases q : a.testBit j = true ∧ r p j ≠ 0
      · rw [if_pos q] at e
        rw [if_pos ⟨h j q.1, q.2⟩]
        exact e
      · rw [if_neg q, Nat.zero_testBit] at e
        cases e
theorem two_mono {n : Nat} {ka : Nat → Nat} {r : Nat → Nat → Nat} {a b p : Nat} (h : ∀ i, a.testBit i = true → b.testBit i = true) (e : two n ka r b p = false) : two n ka r a p = false := by
  unfold two at e ⊢
  rw [decide_eq_false_iff_not] at e ⊢
  have k : pcn (mb n r a p) ≤ pcn (mb n r b p) := by
    refine pcn_mono (fun i => ?_)
    unfold mb
    by_cases q : a.testBit p = true
    · rw [if_pos q, if_pos (h p q)]
      exact mbU_mono h n i
    · rw [if_neg q]
      intro z
      rw [Nat.zero_testBit] at z
      cases z
  omega
theorem twU_zero {n : Nat} {ka : Nat → Nat} {r : Nat → Nat → Nat} {c : Nat} : ∀ j, twU n ka r c j = 0 ↔ ∀ p, p < j → two n ka r c p = false
  | 0 => ⟨fun _ p hp => absurd hp (by omega), fun _ => rfl⟩
  | j + 1 => by
    rw [twU, Nat.or_eq_zero_iff, twU_zero j]
    have h2 : ∀ j, ¬ (2 ^ j = 0) := fun j => Nat.pos_iff_ne_zero.mp (Nat.pow_pos (by decide))
    constructor
    · rintro ⟨h, e⟩ p hp
      by_cases q : p = j
      · subst q
        by_cases z : two n ka r c p = true
        · rw [if_pos z] at e
          exact absurd e (h2 p)
        · exact Bool.eq_false_iff.mpr z
      · exact h p (by omega)
    · intro h
      exact ⟨fun p hp => h p (by omega), by rw [if_neg (by rw [h j (by omega)]; decide)]⟩
theorem tw_mono {n : Nat} {ka : Nat → Nat} {r : Nat → Nat → Nat} {a b : Nat} (h : ∀ i, a.testBit i = true → b.testBit i = true) (e : tw n ka r b = 0) : tw n ka r a = 0 := by
  unfold tw at e ⊢
  rw [twU_zero] at e ⊢
  exact fun p hp => two_mono h (e p hp)
theorem tw_none {n : Nat} {ka : Nat → Nat} {r : Nat → Nat → Nat} : tw n ka r 0 = 0 := by
  unfold tw
  rw [twU_zero]
  intro p _
  unfold two mb
  rw [Nat.zero_testBit, if_neg (by decide)]
  exact decide_eq_false (by rw [show pcn 0 = 0 by decide]; omega)
theorem tw_one {n : Nat} {ka : Nat → Nat} {r : Nat → Nat → Nat} {p : Nat} (hd : r p p = 0) : tw n ka r (2 ^ p) = 0 := by
  unfold tw
  rw [twU_zero]
  intro q _
  have z : mb n r (2 ^ p) q = 0 := by
    unfold mb
    by_cases e : (2 ^ p).testBit q = true
    · rw [if_pos e]
      rw [Nat.testBit_two_pow, decide_eq_true_eq] at e
      subst e
      have : ∀ j, mbU r (2 ^ p) p j = 0 := by
        intro j
        induction j with
        | zero => rfl
        | succ j ih =>
          rw [mbU, ih, Nat.zero_or, if_neg]
          rintro ⟨e1, e2⟩
          rw [Nat.testBit_two_pow, decide_eq_true_eq] at e1
          subst e1
          exact e2 hd
      exact this n
    · rw [if_neg e]
  unfold two
  rw [z]
  exact decide_eq_false (by rw [show pcn 0 = 0 by decide]; omega)
/-- how many of the company there are from 6 - m on -/
def rmn (co : Nat) : Nat → Nat
  | 0 => 0
  | m + 1 => rmn co m + (co.testBit (5 - m)).toNat
def updF (f : Nat → Nat) (k b : Nat) : Nat → Nat := fun i => if i = k then f i ||| b else f i
def fin6 (T : Nat → Nat) (co : Nat) : Nat → Nat → Nat → (Nat → Nat) → Option (Nat × (Nat → Nat))
  | 0, _, u, f => some (u, f)
  | m + 1, q, u, f => if co.testBit (5 - m) = true then (if q / 6 ^ rmn co m ≤ u ∧ T (f (q / 6 ^ rmn co m) ||| 2 ^ (5 - m)) = 0 then fin6 T co m (q % 6 ^ rmn co m) (max u (q / 6 ^ rmn co m + 1)) (updF f (q / 6 ^ rmn co m) (2 ^ (5 - m))) else none) else fin6 T co m q u f
theorem fin_le {T : Nat → Nat} {co : Nat} : ∀ m q u f u' f', fin6 T co m q u f = some (u', f') → u ≤ u'
  | 0, q, u, f, u', f', h => by
    rw [fin6] at h
    cases h
    exact Nat.le_refl _
  | m + 1, q, u, f, u', f', h => by
    rw [fin6] at h
    split at h
    · split at h
      · exact Nat.le_trans (Nat.le_max_left _ _) (fin_le m _ _ _ _ _ h)
      · cases h
    · exact fin_le m _ _ _ _ _ h
theorem w_pos (k : Nat) : 0 < 6 ^ k := Nat.pow_pos (by decide)
theorem fin_at {T : Nat → Nat} {co m k q u : Nat} {f : Nat → Nat} (hb : co.testBit (5 - m) = true) (hq : q < 6 ^ rmn co m) : fin6 T co (m + 1) (k * 6 ^ rmn co m + q) u f = if k ≤ u ∧ T (f k ||| 2 ^ (5 - m)) = 0 then fin6 T co m q (max u (k + 1)) (updF f k (2 ^ (5 - m))) else none := by
  have hw := w_pos (rmn co m)
  have e1 : (k * 6 ^ rmn co m + q) / 6 ^ rmn co m = k := by
    rw [Nat.add_comm, Nat.add_mul_div_right _ _ hw, Nat.div_eq_of_lt hq, Nat.zero_add]
  have e2 : (k * 6 ^ rmn co m + q) % 6 ^ rmn co m = q := by
    rw [Nat.add_comm, Nat.add_mul_mod_self_right, Nat.mod_eq_of_lt hq]
  rw [fin6, if_pos hb, e1, e2]
theorem fin_ex {T : Nat → Nat} {co : Nat} (hT : ∀ p, p < 6 → co.testBit p = true → T (2 ^ p) = 0) : ∀ m u f, u + m ≤ 6 → (∀ k, u ≤ k → f k = 0) → ∃ q u' f', q < 6 ^ rmn co m ∧ fin6 T co m q u f = some (u', f') ∧ u' ≤ u + m
  | 0, u, f, _, _ => ⟨0, u, f, by rw [rmn]; decide, by rw [fin6], by omega⟩
  | m + 1, u, f, h, hf => by
    by_cases hb : co.testBit (5 - m) = true
    · obtain ⟨q, u', f', h1, h2, h3⟩ := fin_ex hT m (u + 1) (updF f u (2 ^ (5 - m))) (by omega) (fun k hk => by
        unfold updF
        rw [if_neg (by omega)]
        exact hf k (by omega))
      refine ⟨u * 6 ^ rmn co m + q, u', f', ?_, ?_, by omega⟩
      · rw [rmn, hb, Bool.toNat_true, Nat.pow_succ]
        have : u * 6 ^ rmn co m ≤ 5 * 6 ^ rmn co m := Nat.mul_le_mul_right _ (by omega)
        omega
      · rw [fin_at hb h1, if_pos ⟨Nat.le_refl _, by rw [hf u (Nat.le_refl _), Nat.zero_or]; exact hT _ (by omega) hb⟩, Nat.max_eq_right (by omega)]
        exact h2
    · obtain ⟨q, u', f', h1, h2, h3⟩ := fin_ex hT m u f (by omega) hf
      refine ⟨q, u', f', ?_, ?_, by omega⟩
      · rw [rmn, Bool.eq_false_iff.mpr hb]
        exact h1
      · rw [fin6, if_neg hb]
        exact h2
theorem rmn6 {co : Nat} (h : co < 64) : rmn co 6 = pcn co := by
  have key : ∀ c : Fin 64, rmn c.val 6 = pcn c.val := by decide +kernel
  exact key ⟨co, h⟩
/-- the reference's: the room of p by the way q -/
def dgt (co q p : Nat) : Nat := q / 6 ^ rmn co (5 - p) % 6
def cuN (co q : Nat) : Nat → Nat
  | 0 => 0
  | j + 1 => if co.testBit j = true ∧ dgt co q j = cuN co q j then cuN co q j + 1 else cuN co q j
def cuB (co q : Nat) : Nat → Bool
  | 0 => true
  | j + 1 => cuB co q j && (!co.testBit j || decide (dgt co q j ≤ cuN co q j))
def mkR (co q k : Nat) : Nat → Nat
  | 0 => 0
  | j + 1 => mkR co q k j ||| (if co.testBit j = true ∧ dgt co q j = k then 2 ^ j else 0)
def pkR (T : Nat → Nat) (co q : Nat) : Nat → Bool
  | 0 => cuB co q 6
  | k + 1 => pkR T co q k && decide (T (mkR co q k 6) = 0)
theorem cuN_le (co q : Nat) : ∀ j m, cuN co q j ≤ cuN co q (j + m)
  | j, 0 => Nat.le_refl _
  | j, m + 1 => by
    have := cuN_le co q j m
    rw [← Nat.add_assoc, cuN]
    split <;> omega
theorem cuN_lej (co q : Nat) : ∀ j, cuN co q j ≤ j
  | 0 => Nat.le_refl _
  | j + 1 => by
    have := cuN_lej co q j
    rw [cuN]
    split <;> omega
theorem cuB_no (co q : Nat) : ∀ j m, cuB co q j = false → cuB co q (j + m) = false
  | j, 0, h => h
  | j, m + 1, h => by
    rw [← Nat.add_assoc, cuB, cuB_no co q j m h]
    rfl
theorem mkR_mono (co q k : Nat) : ∀ j m i, (mkR co q k j).testBit i = true → (mkR co q k (j + m)).testBit i = true
  | j, 0, i, h => h
  | j, m + 1, i, h => by
    rw [← Nat.add_assoc, mkR, Nat.testBit_or, mkR_mono co q k j m i h]
    rfl
theorem mkR_lt (co q k : Nat) : ∀ j, mkR co q k j < 2 ^ j
  | 0 => by simp [mkR]
  | j + 1 => by
    rw [mkR]
    have ih := mkR_lt co q k j
    have h2 : 2 ^ j < 2 ^ (j + 1) := Nat.pow_lt_pow_right (by decide) (by omega)
    refine Nat.or_lt_two_pow (by omega) ?_
    split
    · exact h2
    · exact Nat.pow_pos (by decide)
theorem mkR_bit (co q k : Nat) : ∀ j i, (mkR co q k j).testBit i = (decide (i < j) && (co.testBit i && decide (dgt co q i = k)))
  | 0, i => by simp [mkR]
  | j + 1, i => by
    rw [mkR, Nat.testBit_or, mkR_bit co q k j i]
    by_cases e : i = j
    · subst e
      by_cases z : co.testBit i = true ∧ dgt co q i = k
      · rw [if_pos z, Nat.testBit_two_pow, z.1, z.2]
        simp
      · rw [if_neg z, Nat.zero_testBit]
        have : (co.testBit i && decide (dgt co q i = k)) = false := by
          rw [Bool.eq_false_iff]
          intro w
          rw [Bool.and_eq_true, decide_eq_true_eq] at w
          exact z w
        rw [this]
        simp
    · have e1 : (if co.testBit j = true ∧ dgt co q j = k then 2 ^ j else 0).testBit i = false := by
        split
        · rw [Nat.testBit_two_pow]
          exact decide_eq_false (fun w => e w.symm)
        · exact Nat.zero_testBit i
      rw [e1, Bool.or_false, show decide (i < j + 1) = decide (i < j) from decide_eq_decide.mpr (by omega)]
theorem pkR_no {T : Nat → Nat} {co q : Nat} : ∀ k m, pkR T co q k = false → pkR T co q (k + m) = false
  | k, 0, h => h
  | k, m + 1, h => by
    rw [← Nat.add_assoc, pkR, pkR_no k m h]
    rfl
theorem pkR_iff {T : Nat → Nat} {co q : Nat} : ∀ k, pkR T co q k = true ↔ cuB co q 6 = true ∧ ∀ i, i < k → T (mkR co q i 6) = 0
  | 0 => ⟨fun h => ⟨h, fun i hi => absurd hi (by omega)⟩, fun h => h.1⟩
  | k + 1 => by
    rw [pkR, Bool.and_eq_true, decide_eq_true_eq, pkR_iff k]
    constructor
    · rintro ⟨⟨h1, h2⟩, h3⟩
      refine ⟨h1, fun i hi => ?_⟩
      by_cases e : i = k
      · rw [e]; exact h3
      · exact h2 i (by omega)
    · rintro ⟨h1, h2⟩
      exact ⟨⟨h1, fun i hi => h2 i (by omega)⟩, h2 k (by omega)⟩
/-- both ways of counting are one -/
theorem fin_cu {T : Nat → Nat} {co q : Nat} (hm : ∀ a b : Nat, (∀ i, a.testBit i = true → b.testBit i = true) → T b = 0 → T a = 0) : ∀ m j, j + m = 6 → cuB co q j = true → fin6 T co m (q % 6 ^ rmn co m) (cuN co q j) (fun k => mkR co q k j) = (if cuB co q 6 = true ∧ (∀ k, k < cuN co q 6 → T (mkR co q k 6) = 0 ) then some (cuN co q 6, fun k => mkR co q k 6) else none) ∨ ∃ k, k < cuN co q j ∧ T (mkR co q k j) ≠ 0
  | 0, j, hj, hb => by
    have : j = 6 := by omega
    subst this
    rw [fin6]
    by_cases z : ∀ k, k < cuN co q 6 → T (mkR co q k 6) = 0
    · left
      rw [if_pos ⟨hb, z⟩]
    · right
      exact Classical.byContradiction (fun w => z (fun k hk => Classical.byContradiction (fun w2 => w ⟨k, hk, w2⟩)))
  | m + 1, j, hj, hb => by
    have e5 : 5 - m = j := by omega
    have e6 : 5 - j = m := by omega
    rw [fin6, e5]
    by_cases hc : co.testBit j = true
    · have hw : 6 ^ rmn co (m + 1) = 6 ^ rmn co m * 6 := by rw [rmn, e5, hc, Bool.toNat_true, Nat.pow_succ]
      have d1 : q % 6 ^ rmn co (m + 1) / 6 ^ rmn co m = dgt co q j := by
        rw [hw, Nat.mod_mul_right_div_self]
        unfold dgt
        rw [e6]
      have d2 : q % 6 ^ rmn co (m + 1) % 6 ^ rmn co m = q % 6 ^ rmn co m := by
        rw [hw]
        exact Nat.mod_mod_of_dvd _ ⟨6, rfl⟩
      rw [if_pos hc, d1, d2]
      have n1 : cuN co q (j + 1) = if dgt co q j = cuN co q j then cuN co q j + 1 else cuN co q j := by
        rw [cuN]
        by_cases z : dgt co q j = cuN co q j
        · rw [if_pos ⟨hc, z⟩, if_pos z]
        · rw [if_neg (fun w => z w.2), if_neg z]
      have b1 : cuB co q (j + 1) = decide (dgt co q j ≤ cuN co q j) := by
        rw [cuB, hb, hc]
        rfl
      have f1 : (updF (fun k => mkR co q k j) (dgt co q j) (2 ^ j)) = fun k => mkR co q k (j + 1) := by
        funext k
        unfold updF
        rw [mkR]
        by_cases z : k = dgt co q j
        · rw [if_pos z, if_pos ⟨hc, z.symm⟩]
        · rw [if_neg z, if_neg (fun w => z w.2.symm), Nat.or_zero]
      have g1 : mkR co q (dgt co q j) j ||| 2 ^ j = mkR co q (dgt co q j) (j + 1) := by
        rw [mkR, if_pos ⟨hc, rfl⟩]
      by_cases hle : dgt co q j ≤ cuN co q j
      · have hmax : max (cuN co q j) (dgt co q j + 1) = cuN co q (j + 1) := by
          rw [n1]
          split <;> omega
        have hdlt : dgt co q j < cuN co q (j + 1) := by omega
        rw [hmax, f1, g1]
        by_cases hz : T (mkR co q (dgt co q j) (j + 1)) = 0
        · rw [if_pos ⟨hle, hz⟩]
          rcases fin_cu hm m (j + 1) (by omega) (by rw [b1]; exact decide_eq_true hle) with ih | ⟨k, hk, hk2⟩
          · exact Or.inl ih
          · by_cases e : k = dgt co q j
            · rw [e] at hk2
              exact absurd hz hk2
            · right
              refine ⟨k, ?_, ?_⟩
              · rw [n1] at hk
                split at hk <;> omega
              · rw [mkR, if_neg (fun w => e w.2.symm), Nat.or_zero] at hk2
                exact hk2
        · rw [if_neg (fun w => hz w.2)]
          left
          rw [if_neg]
          rintro ⟨-, w⟩
          have h6 : j + 1 + m = 6 := by omega
          have l1 := cuN_le co q (j + 1) m
          rw [h6] at l1
          refine hz (hm _ _ (fun i hi => ?_) (w (dgt co q j) (by omega)))
          have := mkR_mono co q (dgt co q j) (j + 1) m i hi
          rw [h6] at this
          exact this
      · rw [if_neg (fun w => hle w.1)]
        left
        rw [if_neg]
        rintro ⟨w, -⟩
        have := cuB_no co q (j + 1) m (by rw [b1]; exact decide_eq_false hle)
        rw [show j + 1 + m = 6 by omega, w] at this
        cases this
    · have hc' := Bool.eq_false_iff.mpr hc
      rw [if_neg hc]
      have n1 : cuN co q (j + 1) = cuN co q j := by rw [cuN, if_neg (fun w => hc w.1)]
      have b1 : cuB co q (j + 1) = true := by rw [cuB, hb, hc']; rfl
      have f1 : ∀ k, mkR co q k (j + 1) = mkR co q k j := fun k => by rw [mkR, if_neg (fun w => hc w.1), Nat.or_zero]
      have w1 : rmn co (m + 1) = rmn co m := by rw [rmn, e5, hc']; rfl
      have ih := fin_cu hm m (j + 1) (by omega) b1
      rw [n1] at ih
      simp only [f1] at ih
      rw [w1]
      exact ih
theorem fin_pk {T : Nat → Nat} {co q : Nat} (hm : ∀ a b : Nat, (∀ i, a.testBit i = true → b.testBit i = true) → T b = 0 → T a = 0) (hq : q < 6 ^ rmn co 6) : fin6 T co 6 q 0 (fun _ => 0) = if pkR T co q (cuN co q 6) = true then some (cuN co q 6, fun k => mkR co q k 6) else none := by
  rcases fin_cu (co := co) (q := q) hm 6 0 rfl rfl with h | ⟨k, hk, -⟩
  · rw [Nat.mod_eq_of_lt hq] at h
    have e : (fun k => mkR co q k 0) = (fun _ => 0) := rfl
    rw [e] at h
    refine Eq.trans h ?_
    by_cases z : pkR T co q (cuN co q 6) = true
    · rw [if_pos z, if_pos ((pkR_iff _).mp z)]
    · rw [if_neg z, if_neg (fun w => z ((pkR_iff _).mpr w))]
  · exact absurd hk (by simp [cuN])
