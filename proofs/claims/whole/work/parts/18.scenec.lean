/-! ===== copying, clearing, adding ===== -/
section NKW
variable {S : nk_Sc} {d : Nat} {D : nk_D} {P : nk_P}
theorem sx_copyFrom {k o : Nat} (hs : nk_isS k) (ho : nk_isS o) (hne : k + 2 < o ∨ o + 2 < k)
    (h : ∀ D', (∀ j, j = 2 ∨ j = 3 ∨ j = 4 → D' k j = D o j) → (∀ j, j < 6 → D' (k + 1) j = D (o + 1) j) → (∀ j, j < 36 → D' (k + 2) j = D (o + 2) j) → (∀ a b, a ≠ k → a ≠ k + 1 → a ≠ k + 2 → D' a b = D a b) → P none D') : nk_run S (d + 1) 5 [.ref k, .ref o] D P := by
  obtain ⟨hk, hk1, hk2⟩ := hs
  obtain ⟨ho, ho1, ho2⟩ := ho
  refine nk_go (M := (2, yX2_copyFrom, cX2_copyFrom, 2, none, false, 1, nk_T5)) rfl rfl (Nat.le_of_ble_eq_true rfl) (fun K hK => ?_)
  show K 0 [some (.ref k), some (.ref o)] [] D
  refine hK _ _ _ _ (hK _ _ _ _ (nk_GR rfl ho rfl (show K _ _ _ _ from ?_)))
  refine hK _ _ _ _ (hK _ _ _ _ (hK _ _ _ _ (nk_GR rfl hk rfl (hK _ _ _ _ (hK _ _ _ _ (show K _ _ _ _ from ?_))))))
  refine hK _ _ _ _ (nk_CP rfl ho1 hk1 (p := 0) (q := 0) (c := 6) rfl rfl rfl (by omega) (by omega) (by omega) (by omega) rfl (show K _ _ _ _ from ?_))
  refine hK _ _ _ _ (hK _ _ _ _ (nk_GR rfl ho rfl (show K _ _ _ _ from ?_)))
  refine hK _ _ _ _ (hK _ _ _ _ (hK _ _ _ _ (nk_GR rfl hk rfl (hK _ _ _ _ (hK _ _ _ _ (show K _ _ _ _ from ?_))))))
  refine hK _ _ _ _ (nk_CP rfl ho2 hk2 (p := 0) (q := 0) (c := 36) rfl rfl rfl (by omega) (by omega) (by omega) (by omega) rfl (show K _ _ _ _ from ?_))
  refine hK _ _ _ _ (hK _ _ _ _ (hK _ _ _ _ (nk_GI rfl ho rfl (show K _ _ _ _ from ?_))))
  refine hK _ _ _ _ (nk_PI rfl hk rfl (show K _ _ _ _ from ?_))
  refine hK _ _ _ _ (hK _ _ _ _ (hK _ _ _ _ (nk_GI rfl ho rfl (show K _ _ _ _ from ?_))))
  refine hK _ _ _ _ (nk_PI rfl hk rfl (show K _ _ _ _ from ?_))
  refine hK _ _ _ _ (hK _ _ _ _ (hK _ _ _ _ (nk_GI rfl ho rfl (show K _ _ _ _ from ?_))))
  refine hK _ _ _ _ (nk_PI rfl hk rfl (show K _ _ _ _ from ?_))
  refine hK _ _ _ _ (And.intro rfl (h _ (fun j hj => ?_) (fun j hj => ?_) (fun j hj => ?_) (fun a b h1 h2 h3 => ?_)))
  · have e1 : ¬ o = k := by omega
    have e2 : ¬ o = k + 1 := by omega
    have e3 : ¬ o = k + 2 := by omega
    rcases hj with rfl | rfl | rfl <;> simp [nk_up, nk_cp, e1, e2, e3]
  · have e2 : ¬ o + 1 = k + 2 := by omega
    simp [nk_up, nk_cp, hj]
  · have e2 : ¬ o + 2 = k + 1 := by omega
    simp [nk_up, nk_cp, hj, e2]
  · simp [nk_up, nk_cp, h1, h2, h3]
theorem sx_clear {k : Nat} (hs : nk_isS k) (h : ∀ D', (∀ j, j < 36 → D' (k + 2) j = nI 0) → D' k 2 = nI 0 → D' k 3 = nI 0 → D' k 4 = D k 4 → (∀ a b, a ≠ k → a ≠ k + 2 → D' a b = D a b) → P none D') : nk_run S (d + 1) 6 [.ref k] D P := by
  obtain ⟨hk, hk1, hk2⟩ := hs
  refine nk_go (M := (2, yX2_clear, cX2_clear, 2, none, false, 0, nk_T6)) rfl rfl (Nat.le_of_ble_eq_true rfl) (fun K hK => ?_)
  show K 0 [some (.ref k), none] [] D
  refine hK _ _ _ _ (hK _ _ _ _ (show K _ _ _ _ from ?_))
  have loop : ∀ m j D1, j + m = 36 → (∀ i, i < j → D1 (k + 2) i = nI 0) → (∀ a b, a ≠ k + 2 → D1 a b = D a b) → K 2 [some (.ref k), some (.int (nI j))] [] D1 := by
    intro m
    induction m with
    | zero =>
      intro j D1 hj h1 h2
      have hj : j = 36 := by omega
      subst hj
      refine hK _ _ _ _ (hK _ _ _ _ (hK _ _ _ _ (nk_GR rfl hk rfl (show K _ _ _ _ from ?_))))
      refine hK _ _ _ _ (nk_LN rfl hk2 (show K _ _ _ _ from ?_))
      refine hK _ _ _ _ (nk_bt (nI_le (Nat.le_refl _) (by omega)) ?_)
      refine hK _ _ _ _ (hK _ _ _ _ (hK _ _ _ _ (nk_PI rfl hk rfl (hK _ _ _ _ (hK _ _ _ _ (hK _ _ _ _ (nk_PI rfl hk rfl (show K _ _ _ _ from ?_))))))))
      refine hK _ _ _ _ (And.intro rfl (h _ (fun i hi => ?_) ?_ ?_ ?_ (fun a b ha hb => ?_)))
      · simp [nk_up, h1 i hi]
      · simp [nk_up]
      · simp [nk_up]
      · simp [nk_up, h2 k 4 (by omega)]
      · simp [nk_up, ha, h2 a b hb]
    | succ m ih =>
      intro j D1 hj h1 h2
      refine hK _ _ _ _ (hK _ _ _ _ (hK _ _ _ _ (nk_GR rfl hk rfl (show K _ _ _ _ from ?_))))
      refine hK _ _ _ _ (nk_LN rfl hk2 (show K _ _ _ _ from ?_))
      refine hK _ _ _ _ (nk_bf (nI_ge (by omega) (by omega)) ?_)
      refine hK _ _ _ _ (hK _ _ _ _ (nk_GR rfl hk rfl (hK _ _ _ _ (hK _ _ _ _ (show K _ _ _ _ from ?_)))))
      refine hK _ _ _ _ (nk_AS rfl hk2 rfl (by omega) (show K _ _ _ _ from ?_))
      refine hK _ _ _ _ (hK _ _ _ _ (show K _ _ _ _ from ?_))
      rw [nk_add]
      refine ih (j + 1) _ (by omega) (fun i hi => ?_) (fun a b ha => ?_)
      · by_cases e : i = j
        · simp [nk_up, e]
        · simp [nk_up, e, h1 i (by omega)]
      · simp [nk_up, ha, h2 a b ha]
  exact loop 36 0 D (by omega) (fun i hi => by omega) (fun a b _ => rfl)
theorem sx_addPerson {k n : Nat} {x : Int32} (hs : nk_isS k) (hn : D k 2 = nI n) (hn6 : n ≤ 6) (h0 : n = 6 → P (some (.int (bI false))) D) (h1 : n < 6 → P (some (.int (bI true))) (nk_up (nk_up D (k + 1) n x) k 2 (nI (n + 1)))) : nk_run S (d + 1) 7 [.ref k, .int x] D P := by
  obtain ⟨hk, hk1, hk2⟩ := hs
  refine nk_go (M := (2, yX2_addPerson, cX2_addPerson, 2, (some .boolean), false, 1, nk_T7)) rfl rfl (Nat.le_of_ble_eq_true rfl) (fun K hK => ?_)
  show K 0 [some (.ref k), some (.int x)] [] D
  refine hK _ _ _ _ (hK _ _ _ _ (nk_GI rfl hk rfl (show K _ _ _ _ from ?_)))
  rw [hn]
  refine hK _ _ _ _ (nk_bf (nI_pos (by omega)) ?_)
  refine hK _ _ _ _ (hK _ _ _ _ (nk_GI rfl hk rfl (hK _ _ _ _ (show K _ _ _ _ from ?_))))
  rw [hn]
  refine hK _ _ _ _ (nk_lt (by omega) (by omega) (fun g => ?_) (fun g => ?_))
  · refine hK _ _ _ _ (hK _ _ _ _ (nk_GR rfl hk rfl (hK _ _ _ _ (hK _ _ _ _ (nk_GI rfl hk rfl (hK _ _ _ _ (show K _ _ _ _ from ?_)))))))
    rw [hn]
    refine hK _ _ _ _ (nk_AS rfl hk1 rfl (by omega) (show K _ _ _ _ from ?_))
    refine hK _ _ _ _ (hK _ _ _ _ (hK _ _ _ _ (nk_GI rfl hk rfl (hK _ _ _ _ (hK _ _ _ _ (hK _ _ _ _ (nk_PI rfl hk rfl (hK _ _ _ _ (show K _ _ _ _ from ?_)))))))))
    have e : nk_up D (k + 1) n x k 2 = nI n := by simp [nk_up, hn]
    rw [e, nk_add]
    exact hK _ _ _ _ (And.intro rfl (h1 g))
  · refine hK _ _ _ _ (show K _ _ _ _ from ?_)
    exact hK _ _ _ _ (And.intro rfl (h0 (by omega)))
end NKW
