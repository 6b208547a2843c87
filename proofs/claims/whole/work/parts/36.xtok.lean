/-! ===== the class reads: letters, tokens, words, numbers ===== -/
def mtc (tx : Nat → Nat) (b : Nat) (w : Nat → Nat) : Nat → Bool
  | 0 => true
  | i + 1 => mtc tx b w i && decide (tx (b + i) = w i)
def isW (tx : Nat → Nat) (b e len : Nat) (w : Nat → Nat) : Bool := decide (e - b = len) && mtc tx b w len
def dv (tx : Nat → Nat) (b : Nat) : Nat → Nat
  | 0 => 0
  | m + 1 => dv tx b m * 10 + (tx (b + m) - 48)
def num (L : Nat) (tx : Nat → Nat) (b e : Nat) : Nat := if srt L tx b = 1 ∧ e - b ≤ 2 then dv tx b (e - b) else 999
def numI (L : Nat) (tx : Nat → Nat) (b e : Nat) : Int32 := if srt L tx b = 1 ∧ e - b ≤ 2 then nI (dv tx b (e - b)) else -1
theorem mtc_no {tx : Nat → Nat} {b : Nat} {w : Nat → Nat} : ∀ i m, mtc tx b w i = false → mtc tx b w (i + m) = false
  | i, 0, h => h
  | i, m + 1, h => by
    rw [← Nat.add_assoc, mtc, mtc_no i m h]
    rfl
theorem srt1 {L : Nat} {tx : Nat → Nat} {j : Nat} (h : srt L tx j = 1) : j < L ∧ 48 ≤ tx j ∧ tx j ≤ 57 := by
  unfold srt at h
  split at h
  · split at h
    · cases h
    · split at h
      · next a b c => exact ⟨a, c⟩
      · cases h
  · cases h
theorem srt0 {L : Nat} {tx : Nat → Nat} {j : Nat} (h : srt L tx j = 0) : j < L ∧ 97 ≤ tx j ∧ tx j ≤ 122 := by
  unfold srt at h
  split at h
  · split at h
    · next a b => exact ⟨a, b⟩
    · split at h <;> cases h
  · cases h
theorem srt_le {L : Nat} {tx : Nat → Nat} {j : Nat} : srt L tx j ≤ 3 := by
  unfold srt
  split
  · split
    · omega
    · split <;> omega
  · omega
theorem dv_lt {L : Nat} {tx : Nat → Nat} {b e : Nat} (h : ∀ i, b ≤ i → i < e → srt L tx i = 1) (h2 : e - b ≤ 2) : dv tx b (e - b) < 100 := by
  rcases (show e - b = 0 ∨ e - b = 1 ∨ e - b = 2 by omega) with q | q | q
  · rw [q]; simp [dv]
  · rw [q]
    have := srt1 (h b (by omega) (by omega))
    simp only [dv, Nat.add_zero, Nat.zero_mul, Nat.zero_add]
    omega
  · rw [q]
    have := srt1 (h b (by omega) (by omega))
    have := srt1 (h (b + 1) (by omega) (by omega))
    simp only [dv, Nat.add_zero, Nat.zero_mul, Nat.zero_add]
    omega
def TKL (D : nk_D) (L : Nat) (tx : Nat → Nat) : Prop := XL D L tx ∧ L ≤ 160 ∧ ∀ j, j < L → tx j < 256
theorem TKL_of {D D' : nk_D} {L : Nat} {tx : Nat → Nat} (h0 : D' 1 1 = D 1 1) (h1 : ∀ b, D' 2 b = D 2 b) (h : TKL D L tx) : TKL D' L tx := ⟨XL_of h0 h1 h.1, h.2⟩
section NKO
variable {S : nk_Sc} {d : Nat} {D : nk_D} {P : nk_P} {L : Nat} {tx : Nat → Nat}
theorem sx_letterAt {j : Nat} (hl : TKL D L tx) (hj : j < 1000) (h : P (some (.int (if j < L then nI (tx j) else -1))) D) : nk_run S (d + 1) 32 [.ref 1, .int (nI j)] D P := by
  obtain ⟨⟨h1, h2⟩, hL, h256⟩ := hl
  refine nk_go (M := (4, yX4_letterAt, cX4_letterAt, 2, (some .int), false, 1, nk_T32)) rfl rfl (Nat.le_of_ble_eq_true rfl) (fun K hK => ?_)
  show K 0 [some (.ref 1), some (.int (nI j))] [] D
  refine hK _ _ _ _ (show K _ _ _ _ from ?_)
  refine hK _ _ _ _ (nk_bf (nI_pos (by omega)) ?_)
  refine hK _ _ _ _ (hK _ _ _ _ (hK _ _ _ _ (nk_GI rfl rfl rfl (show K _ _ _ _ from ?_))))
  rw [h1]
  refine hK _ _ _ _ (nk_ge (by omega) (by omega) (fun e => ?_) (fun e => ?_))
  · rw [if_neg (by omega)] at h
    refine hK _ _ _ _ (show K _ _ _ _ from ?_)
    exact hK _ _ _ _ (And.intro rfl (h))
  · rw [if_pos e] at h
    refine hK _ _ _ _ (hK _ _ _ _ (show K _ _ _ _ from ?_))
    refine hK _ _ _ _ (nk_bf (nI_ge (by omega) (by omega)) ?_)
    refine hK _ _ _ _ (hK _ _ _ _ (nk_GR rfl rfl rfl (hK _ _ _ _ (show K _ _ _ _ from ?_))))
    refine hK _ _ _ _ (nk_AL rfl rfl (j := j) rfl (by omega) (show K _ _ _ _ from ?_))
    rw [h2 j e]
    refine hK _ _ _ _ (show K _ _ _ _ from ?_)
    exact hK _ _ _ _ (And.intro rfl (h))
theorem sx_sortAt {j : Nat} (hl : TKL D L tx) (hj : j < 1000) (h : P (some (.int (nI (srt L tx j)))) D) : nk_run S (d + 2) 33 [.ref 1, .int (nI j)] D P := by
  have hl' := hl
  obtain ⟨⟨h1, h2⟩, hL, h256⟩ := hl
  refine nk_go (M := (4, yX4_sortAt, cX4_sortAt, 3, (some .int), false, 1, nk_T33)) rfl rfl (Nat.le_of_ble_eq_true rfl) (fun K hK => ?_)
  show K 0 [some (.ref 1), some (.int (nI j)), none] [] D
  refine hK _ _ _ _ (hK _ _ _ _ (show K _ _ _ _ from ?_))
  refine hK _ _ _ _ (nk_stV rfl rfl rfl rfl ?_)
  refine sx_letterAt hl' hj ?_
  unfold srt at h
  by_cases e : j < L
  · rw [if_pos e] at h ⊢
    have := h256 j e
    refine hK _ _ _ _ (hK _ _ _ _ (hK _ _ _ _ (show K _ _ _ _ from ?_)))
    refine hK _ _ _ _ (nk_nt (fun z => m1_ne (by omega) z.symm) ?_)
    refine hK _ _ _ _ (hK _ _ _ _ (show K _ _ _ _ from ?_))
    have rest : ¬ (97 ≤ tx j ∧ tx j ≤ 122) → K 27 [some (.ref 1), some (.int (nI j)), some (.int (nI (tx j)))] [] D := by
      intro q
      rw [if_neg q] at h
      refine hK _ _ _ _ (hK _ _ _ _ (show K _ _ _ _ from ?_))
      refine hK _ _ _ _ (nk_lt (by omega) (by omega) (fun c => ?_) (fun c => ?_))
      · rw [if_neg (by omega)] at h
        refine hK _ _ _ _ (show K _ _ _ _ from ?_)
        exact hK _ _ _ _ (And.intro rfl (h))
      · refine hK _ _ _ _ (hK _ _ _ _ (show K _ _ _ _ from ?_))
        refine hK _ _ _ _ (nk_gt (by omega) (by omega) (fun c => ?_) (fun c => ?_))
        · rw [if_neg (by omega)] at h
          refine hK _ _ _ _ (show K _ _ _ _ from ?_)
          exact hK _ _ _ _ (And.intro rfl (h))
        · rw [if_pos ⟨by omega, by omega⟩] at h
          refine hK _ _ _ _ (hK _ _ _ _ (show K _ _ _ _ from ?_))
          exact hK _ _ _ _ (And.intro rfl (h))
    refine hK _ _ _ _ (nk_lt (by omega) (by omega) (fun c => rest (by omega)) (fun c => ?_))
    refine hK _ _ _ _ (hK _ _ _ _ (show K _ _ _ _ from ?_))
    refine hK _ _ _ _ (nk_gt (by omega) (by omega) (fun c => rest (by omega)) (fun c => ?_))
    rw [if_pos ⟨by omega, by omega⟩] at h
    refine hK _ _ _ _ (show K _ _ _ _ from ?_)
    exact hK _ _ _ _ (And.intro rfl (h))
  · rw [if_neg e] at h ⊢
    refine hK _ _ _ _ (hK _ _ _ _ (hK _ _ _ _ (show K _ _ _ _ from ?_)))
    refine hK _ _ _ _ (nk_nf rfl ?_)
    refine hK _ _ _ _ (show K _ _ _ _ from ?_)
    exact hK _ _ _ _ (And.intro rfl (h))
theorem sx_toNextToken {j : Nat} (hl : TKL D L tx) (hj : j ≤ L) (hs : D 1 4 = nI j) (h : ∀ D', D' 1 3 = nI (tokB L tx j) → D' 1 4 = nI (tokE L tx j) → (∀ a b, ¬ (a = 1 ∧ (b = 3 ∨ b = 4)) → D' a b = D a b) → P none D') : nk_run S (d + 3) 31 [.ref 1] D P := by
  have hl' := hl
  obtain ⟨⟨h1, h2⟩, hL, h256⟩ := hl
  refine nk_go (M := (4, yX4_toNextToken, cX4_toNextToken, 3, none, false, 0, nk_T31)) rfl rfl (Nat.le_of_ble_eq_true rfl) (fun K hK => ?_)
  show K 0 [some (.ref 1), none, none] [] D
  refine hK _ _ _ _ (hK _ _ _ _ (nk_GI rfl rfl rfl (hK _ _ _ _ (show K _ _ _ _ from ?_))))
  rw [hs]
  have skip : ∀ m i, i + m = L → j ≤ i → (∀ k, j ≤ k → k < i → tx k = 32) → K 5 [some (.ref 1), some (.int (nI i)), none] [] D := by
    intro m
    have body : ∀ i, i ≤ L → j ≤ i → (∀ k, j ≤ k → k < i → tx k = 32) → (i < L → tx i ≠ 32) → K 29 [some (.ref 1), some (.int (nI i)), none] [] D := by
      intro i hi hji hsp hns
      refine hK _ _ _ _ (hK _ _ _ _ (hK _ _ _ _ (nk_PI rfl rfl rfl (show K _ _ _ _ from ?_))))
      have hlD : TKL (nk_up D 1 3 (nI i)) L tx := TKL_of (by simp [nk_up]) (fun b => by simp [nk_up]) hl'
      have s3 : nk_up D 1 3 (nI i) 1 3 = nI i := by simp [nk_up]
      have s1 : nk_up D 1 3 (nI i) 1 1 = nI L := by simp [nk_up, h1]
      have fr : ∀ a b, ¬ (a = 1 ∧ b = 3) → nk_up D 1 3 (nI i) a b = D a b := fun a b e => by simp only [nk_up, e, if_false]
      generalize nk_up D 1 3 (nI i) = D1 at hlD s3 s1 fr ⊢
      have fin : ∀ e, tokB L tx j = i ∧ tokE L tx j = e → ∀ x2, K 79 [some (.ref 1), some (.int (nI e)), x2] [] D1 := by
        intro e he x2
        refine hK _ _ _ _ (hK _ _ _ _ (hK _ _ _ _ (nk_PI rfl rfl rfl (show K _ _ _ _ from ?_))))
        refine hK _ _ _ _ (And.intro rfl (h _ ?_ ?_ (fun a b hab => ?_)))
        · rw [he.1]; simp [nk_up, s3]
        · rw [he.2]; simp [nk_up]
        · rw [show nk_up D1 1 4 (nI e) a b = D1 a b by simp only [nk_up, show ¬ (a = 1 ∧ b = 4) by omega, if_false]]
          exact fr a b (by omega)
      refine hK _ _ _ _ (hK _ _ _ _ (show K _ _ _ _ from ?_))
      refine hK _ _ _ _ (nk_stV rfl rfl rfl rfl ?_)
      refine sx_sortAt hlD (by omega) ?_
      have hsl := srt_le (L := L) (tx := tx) (j := i)
      refine hK _ _ _ _ (hK _ _ _ _ (hK _ _ _ _ (hK _ _ _ _ (nk_GI rfl rfl rfl (show K _ _ _ _ from ?_)))))
      rw [s1]
      refine hK _ _ _ _ (nk_ge (by omega) (by omega) (fun q => ?_) (fun q => ?_))
      · refine hK _ _ _ _ (hK _ _ _ _ (hK _ _ _ _ (nk_GI rfl rfl rfl (show K _ _ _ _ from ?_))))
        rw [s1]
        refine hK _ _ _ _ (nk_bt (nI_le q (by omega)) ?_)
        have : i = L := by omega
        subst this
        exact fin i (tok_of hL hji hi hsp hns (fun _ => rfl) (fun z => absurd z (by omega)) (fun z => absurd z (by omega))) _
      · refine hK _ _ _ _ (show K _ _ _ _ from ?_)
        rw [nk_add]
        have hne3 : srt L tx i ≠ 3 := fun z => by have := srt_end.mp z; omega
        have loop : ∀ m e, e + m = L → i < e → (∀ k, i ≤ k → k < e → srt L tx k = srt L tx i) → (srt L tx i = 2 → e = i + 1) → K 51 [some (.ref 1), some (.int (nI e)), some (.int (nI (srt L tx i)))] [] D1 := by
          intro m
          induction m with
          | zero =>
            intro e he hie hall h2'
            have he : e = L := by omega
            subst he
            refine hK _ _ _ _ (hK _ _ _ _ (hK _ _ _ _ (nk_GI rfl rfl rfl (show K _ _ _ _ from ?_))))
            rw [s1]
            refine hK _ _ _ _ (nk_bt (nI_le (Nat.le_refl _) (by omega)) ?_)
            exact fin e (tok_of hL hji hi hsp hns (fun z => by omega) (fun _ z => h2' z) (fun _ z => ⟨hie, Nat.le_refl _, hall, fun w => by omega⟩)) _
          | succ m ih =>
            intro e he hie hall h2'
            refine hK _ _ _ _ (hK _ _ _ _ (hK _ _ _ _ (nk_GI rfl rfl rfl (show K _ _ _ _ from ?_))))
            rw [s1]
            refine hK _ _ _ _ (nk_bf (nI_ge (by omega) (by omega)) ?_)
            refine hK _ _ _ _ (hK _ _ _ _ (show K _ _ _ _ from ?_))
            refine hK _ _ _ _ (nk_eq (by omega) (by omega) (fun c => ?_) (fun c => ?_))
            · exact fin e (tok_of hL hji hi hsp hns (fun z => by omega) (fun _ z => h2' z) (fun _ z => absurd c z)) _
            · refine hK _ _ _ _ (hK _ _ _ _ (show K _ _ _ _ from ?_))
              refine hK _ _ _ _ (nk_stV rfl rfl rfl rfl ?_)
              refine sx_sortAt hlD (by omega) ?_
              have := srt_le (L := L) (tx := tx) (j := e)
              refine hK _ _ _ _ (show K _ _ _ _ from ?_)
              refine hK _ _ _ _ (nk_ne (by omega) (by omega) (fun c2 => ?_) (fun c2 => ?_))
              · exact fin e (tok_of hL hji hi hsp hns (fun z => by omega) (fun _ z => absurd z c) (fun _ z => ⟨hie, by omega, hall, fun _ => c2⟩)) _
              · refine hK _ _ _ _ (hK _ _ _ _ (show K _ _ _ _ from ?_))
                rw [nk_add]
                refine ih (e + 1) (by omega) (by omega) (fun k k1 k2 => ?_) (fun z => absurd z c)
                by_cases w : k = e
                · rw [w]; exact c2
                · exact hall k k1 (by omega)
        exact loop (L - (i + 1)) (i + 1) (by omega) (by omega) (fun k k1 k2 => by rw [show k = i by omega]) (fun _ => rfl)
    induction m with
    | zero =>
      intro i hi hji hsp
      have hi : i = L := by omega
      subst hi
      refine hK _ _ _ _ (hK _ _ _ _ (hK _ _ _ _ (nk_GI rfl rfl rfl (show K _ _ _ _ from ?_))))
      rw [h1]
      refine hK _ _ _ _ (nk_bt (nI_le (Nat.le_refl _) (by omega)) ?_)
      exact body i (Nat.le_refl _) hji hsp (fun z => by omega)
    | succ m ih =>
      intro i hi hji hsp
      refine hK _ _ _ _ (hK _ _ _ _ (hK _ _ _ _ (nk_GI rfl rfl rfl (show K _ _ _ _ from ?_))))
      rw [h1]
      refine hK _ _ _ _ (nk_bf (nI_ge (by omega) (by omega)) ?_)
      refine hK _ _ _ _ (hK _ _ _ _ (show K _ _ _ _ from ?_))
      refine hK _ _ _ _ (nk_stV rfl rfl rfl rfl ?_)
      refine sx_letterAt hl' (by omega) ?_
      rw [if_pos (show i < L by omega)]
      have := h256 i (by omega)
      refine hK _ _ _ _ (show K _ _ _ _ from ?_)
      refine hK _ _ _ _ (nk_ne (by omega) (by omega) (fun c => ?_) (fun c => ?_))
      · exact body i (by omega) hji hsp (fun _ => c)
      · refine hK _ _ _ _ (hK _ _ _ _ (show K _ _ _ _ from ?_))
        rw [nk_add]
        refine ih (i + 1) (by omega) (by omega) (fun k k1 k2 => ?_)
        by_cases w : k = i
        · rw [w]; exact c
        · exact hsp k k1 (by omega)
  exact skip (L - j) j (by omega) (Nat.le_refl _) (fun k k1 k2 => by omega)
theorem sx_isWord {b e o len : Nat} {w : Nat → Nat} (hl : TKL D L tx) (hb : D 1 3 = nI b) (he : D 1 4 = nI e) (hbe : b ≤ e) (heL : e ≤ L) (hs : isStr o len w) (h : P (some (.int (bI (isW tx b e len w)))) D) : nk_run S (d + 5) 34 [.ref 1, .ref o] D P := by
  have hl' := hl
  have hs' := hs
  obtain ⟨⟨h1, h2⟩, hL, h256⟩ := hl
  obtain ⟨k1, k2, k3, k4, k5, k6, k7⟩ := hs
  unfold isW at h
  refine nk_go (M := (4, yX4_isWord, cX4_isWord, 3, (some .boolean), false, 1, nk_T34)) rfl rfl (Nat.le_of_ble_eq_true rfl) (fun K hK => ?_)
  show K 0 [some (.ref 1), some (.ref o), none] [] D
  refine hK _ _ _ _ (hK _ _ _ _ (nk_GI rfl rfl rfl (hK _ _ _ _ (hK _ _ _ _ (nk_GI rfl rfl rfl (hK _ _ _ _ (hK _ _ _ _ (show K _ _ _ _ from ?_))))))))
  rw [hb, he, nk_sub hbe]
  refine hK _ _ _ _ (nk_stV rfl rfl (nk_rvO k1 k3 k4) rfl ?_)
  refine sj_length hs' ?_
  refine hK _ _ _ _ (nk_eq (by omega) (by omega) (fun q => ?_) (fun q => ?_))
  · rw [decide_eq_true q, Bool.true_and] at h
    refine hK _ _ _ _ (hK _ _ _ _ (show K _ _ _ _ from ?_))
    have loop : ∀ m i, i + m = len → mtc tx b w i = true → K 20 [some (.ref 1), some (.ref o), some (.int (nI i))] [] D := by
      intro m
      induction m with
      | zero =>
        intro i hi hm
        have hi : i = len := by omega
        subst hi
        refine hK _ _ _ _ (hK _ _ _ _ (show K _ _ _ _ from ?_))
        refine hK _ _ _ _ (nk_stV rfl rfl (nk_rvO k1 k3 k4) rfl ?_)
        refine sj_length hs' ?_
        refine hK _ _ _ _ (nk_bt (nI_le (Nat.le_refl _) (by omega)) ?_)
        rw [hm] at h
        refine hK _ _ _ _ (show K _ _ _ _ from ?_)
        exact hK _ _ _ _ (And.intro rfl (h))
      | succ m ih =>
        intro i hi hm
        refine hK _ _ _ _ (hK _ _ _ _ (show K _ _ _ _ from ?_))
        refine hK _ _ _ _ (nk_stV rfl rfl (nk_rvO k1 k3 k4) rfl ?_)
        refine sj_length hs' ?_
        refine hK _ _ _ _ (nk_bf (nI_ge (by omega) (by omega)) ?_)
        refine hK _ _ _ _ (hK _ _ _ _ (hK _ _ _ _ (nk_GI rfl rfl rfl (hK _ _ _ _ (hK _ _ _ _ (show K _ _ _ _ from ?_))))))
        rw [hb, nk_add]
        refine hK _ _ _ _ (nk_stV rfl rfl rfl rfl ?_)
        refine sx_letterAt hl' (by omega) ?_
        rw [if_pos (show b + i < L by omega)]
        refine hK _ _ _ _ (hK _ _ _ _ (show K _ _ _ _ from ?_))
        refine hK _ _ _ _ (nk_stV rfl rfl (nk_rvO k1 k3 k4) rfl ?_)
        refine sj_charAt hs' (by omega) ?_
        have := h256 (b + i) (by omega)
        have := (k7 i (by omega)).2
        refine hK _ _ _ _ (nk_eq (by omega) (by omega) (fun c => ?_) (fun c => ?_))
        · refine hK _ _ _ _ (hK _ _ _ _ (show K _ _ _ _ from ?_))
          rw [nk_add]
          refine ih (i + 1) (by omega) ?_
          rw [mtc, hm, decide_eq_true c]
          rfl
        · have := mtc_no (tx := tx) (b := b) (w := w) (i + 1) m (by rw [mtc, hm, decide_eq_false c]; rfl)
          rw [show i + 1 + m = len by omega] at this
          rw [this] at h
          refine hK _ _ _ _ (show K _ _ _ _ from ?_)
          exact hK _ _ _ _ (And.intro rfl (h))
    exact loop len 0 (by omega) rfl
  · rw [decide_eq_false q, Bool.false_and] at h
    refine hK _ _ _ _ (show K _ _ _ _ from ?_)
    exact hK _ _ _ _ (And.intro rfl (h))
theorem sx_number {b e : Nat} (hl : TKL D L tx) (hb : D 1 3 = nI b) (he : D 1 4 = nI e) (hbe : b ≤ e) (heL : e ≤ L) (hbl : b < L → b < e) (hall : b < L → ∀ i, b ≤ i → i < e → srt L tx i = srt L tx b) (h : P (some (.int (numI L tx b e))) D) : nk_run S (d + 4) 35 [.ref 1] D P := by
  have hl' := hl
  obtain ⟨⟨h1, h2⟩, hL, h256⟩ := hl
  unfold numI at h
  refine nk_go (M := (4, yX4_number, cX4_number, 3, (some .int), false, 0, nk_T35)) rfl rfl (Nat.le_of_ble_eq_true rfl) (fun K hK => ?_)
  show K 0 [some (.ref 1), none, none] [] D
  refine hK _ _ _ _ (hK _ _ _ _ (hK _ _ _ _ (nk_GI rfl rfl rfl (show K _ _ _ _ from ?_))))
  rw [hb]
  refine hK _ _ _ _ (nk_stV rfl rfl rfl rfl ?_)
  refine sx_sortAt hl' (by omega) ?_
  have hsl := srt_le (L := L) (tx := tx) (j := b)
  refine hK _ _ _ _ (show K _ _ _ _ from ?_)
  have out : ¬ (srt L tx b = 1 ∧ e - b ≤ 2) → K 25 [some (.ref 1), none, none] [] D := by
    intro q
    rw [if_neg q] at h
    refine hK _ _ _ _ (show K _ _ _ _ from ?_)
    exact hK _ _ _ _ (And.intro rfl (h))
  refine hK _ _ _ _ (nk_ne (by omega) (by omega) (fun c => out (fun z => c z.1)) (fun c => ?_))
  refine hK _ _ _ _ (hK _ _ _ _ (nk_GI rfl rfl rfl (hK _ _ _ _ (hK _ _ _ _ (nk_GI rfl rfl rfl (hK _ _ _ _ (hK _ _ _ _ (show K _ _ _ _ from ?_))))))))
  rw [hb, he, nk_sub hbe]
  refine hK _ _ _ _ (nk_le (by omega) (by omega) (fun c2 => ?_) (fun c2 => out (by omega)))
  rw [if_pos ⟨c, c2⟩] at h
  have hbL := (srt1 c).1
  have hd : ∀ i, b ≤ i → i < e → srt L tx i = 1 := fun i z1 z2 => by rw [hall hbL i z1 z2]; exact c
  refine hK _ _ _ _ (hK _ _ _ _ (hK _ _ _ _ (hK _ _ _ _ (nk_GI rfl rfl rfl (hK _ _ _ _ (show K _ _ _ _ from ?_))))))
  rw [hb]
  have loop : ∀ m i, b + i + m = e → K 34 [some (.ref 1), some (.int (nI (dv tx b i))), some (.int (nI (b + i)))] [] D := by
    intro m
    induction m with
    | zero =>
      intro i hi
      have hi' : e - b = i := by omega
      refine hK _ _ _ _ (hK _ _ _ _ (hK _ _ _ _ (nk_GI rfl rfl rfl (show K _ _ _ _ from ?_))))
      rw [he]
      refine hK _ _ _ _ (nk_bt (nI_le (by omega) (by omega)) ?_)
      rw [hi'] at h
      refine hK _ _ _ _ (show K _ _ _ _ from ?_)
      exact hK _ _ _ _ (And.intro rfl (h))
    | succ m ih =>
      intro i hi
      have hdi := srt1 (hd (b + i) (by omega) (by omega))
      refine hK _ _ _ _ (hK _ _ _ _ (hK _ _ _ _ (nk_GI rfl rfl rfl (show K _ _ _ _ from ?_))))
      rw [he]
      refine hK _ _ _ _ (nk_bf (nI_ge (by omega) (by omega)) ?_)
      refine hK _ _ _ _ (hK _ _ _ _ (hK _ _ _ _ (hK _ _ _ _ (hK _ _ _ _ (show K _ _ _ _ from ?_)))))
      refine hK _ _ _ _ (nk_stV rfl rfl rfl rfl ?_)
      refine sx_letterAt hl' (by omega) ?_
      rw [if_pos hdi.1]
      refine hK _ _ _ _ (hK _ _ _ _ (hK _ _ _ _ (hK _ _ _ _ (hK _ _ _ _ (hK _ _ _ _ (show K _ _ _ _ from ?_))))))
      rw [nk_mul, nk_add, nk_sub (by omega), nk_add, show dv tx b i * 10 + tx (b + i) - 48 = dv tx b (i + 1) by rw [dv]; omega]
      exact ih (i + 1) (by omega)
  exact loop (e - b) 0 (by omega)
end NKO
def wds : List (List Nat) := [[97, 115], [114, 111, 111, 109], [115, 101, 97, 115, 111, 110], [112, 108, 97, 105, 110], [115, 109, 111, 111, 116, 104], [115, 104, 121], [104, 111, 115, 116]]
def wln (k : Nat) : Nat := (wds.getD k []).length
def wlt (k i : Nat) : Nat := (wds.getD k []).getD i 0
def isV (tx : Nat → Nat) (b e k : Nat) : Bool := isW tx b e (wln k) (wlt k)
theorem str_k {k : Nat} (hk : k < 7) : isStr (1010 + k) (wln k) (wlt k) := by
  match k, hk with
  | 0, _ => exact ⟨rfl, rfl, by decide, by decide, by decide, rfl, by decide⟩
  | 1, _ => exact ⟨rfl, rfl, by decide, by decide, by decide, rfl, by decide⟩
  | 2, _ => exact ⟨rfl, rfl, by decide, by decide, by decide, rfl, by decide⟩
  | 3, _ => exact ⟨rfl, rfl, by decide, by decide, by decide, rfl, by decide⟩
  | 4, _ => exact ⟨rfl, rfl, by decide, by decide, by decide, rfl, by decide⟩
  | 5, _ => exact ⟨rfl, rfl, by decide, by decide, by decide, rfl, by decide⟩
  | 6, _ => exact ⟨rfl, rfl, by decide, by decide, by decide, rfl, by decide⟩
/-- the kind that the word at b says -/
def kw (tx : Nat → Nat) (b e : Nat) : Option Nat := if isV tx b e 3 = true then some 0 else if isV tx b e 4 = true then some 1 else if isV tx b e 5 = true then some 2 else if isV tx b e 6 = true then some 3 else none
theorem kw_le {tx : Nat → Nat} {b e k : Nat} (h : kw tx b e = some k) : k ≤ 3 := by
  unfold kw at h
  split at h
  · cases h; omega
  · split at h
    · cases h; omega
    · split at h
      · cases h; omega
      · split at h
        · cases h; omega
        · cases h
section NKO
variable {S : nk_Sc} {d : Nat} {D : nk_D} {P : nk_P} {L : Nat} {tx : Nat → Nat}
theorem sx_isV {b e k : Nat} (hk : k < 7) (hl : TKL D L tx) (hb : D 1 3 = nI b) (he : D 1 4 = nI e) (hbe : b ≤ e) (heL : e ≤ L) (h : P (some (.int (bI (isV tx b e k)))) D) : nk_run S (d + 5) 34 [.ref 1, .ref (1010 + k)] D P := sx_isWord hl hb he hbe heL (str_k hk) h
theorem sx_kindByWord {b e : Nat} (hl : TKL D L tx) (hb : D 1 3 = nI b) (he : D 1 4 = nI e) (hbe : b ≤ e) (heL : e ≤ L) (h : P (some (.int (match kw tx b e with | some k => nI k | none => -1))) D) : nk_run S (d + 6) 30 [.ref 1] D P := by
  unfold kw at h
  refine nk_go (M := (4, yX4_kindByWord, cX4_kindByWord, 1, (some .int), false, 0, nk_T30)) rfl rfl (Nat.le_of_ble_eq_true rfl) (fun K hK => ?_)
  show K 0 [some (.ref 1)] [] D
  refine hK _ _ _ _ (hK _ _ _ _ (show K _ _ _ _ from ?_))
  refine hK _ _ _ _ (nk_stV rfl rfl rfl rfl ?_)
  refine sx_isV (k := 3) (by decide) hl hb he hbe heL ?_
  refine hK _ _ _ _ (nk_beq (fun c3 => ?_) (fun c3 => ?_))
  · rw [if_neg (by rw [c3]; decide)] at h
    refine hK _ _ _ _ (hK _ _ _ _ (show K _ _ _ _ from ?_))
    refine hK _ _ _ _ (nk_stV rfl rfl rfl rfl ?_)
    refine sx_isV (k := 4) (by decide) hl hb he hbe heL ?_
    refine hK _ _ _ _ (nk_beq (fun c4 => ?_) (fun c4 => ?_))
    · rw [if_neg (by rw [c4]; decide)] at h
      refine hK _ _ _ _ (hK _ _ _ _ (show K _ _ _ _ from ?_))
      refine hK _ _ _ _ (nk_stV rfl rfl rfl rfl ?_)
      refine sx_isV (k := 5) (by decide) hl hb he hbe heL ?_
      refine hK _ _ _ _ (nk_beq (fun c5 => ?_) (fun c5 => ?_))
      · rw [if_neg (by rw [c5]; decide)] at h
        refine hK _ _ _ _ (hK _ _ _ _ (show K _ _ _ _ from ?_))
        refine hK _ _ _ _ (nk_stV rfl rfl rfl rfl ?_)
        refine sx_isV (k := 6) (by decide) hl hb he hbe heL ?_
        refine hK _ _ _ _ (nk_beq (fun c6 => ?_) (fun c6 => ?_))
        · rw [if_neg (by rw [c6]; decide)] at h
          refine hK _ _ _ _ (show K _ _ _ _ from ?_)
          exact hK _ _ _ _ (And.intro rfl (h))
        · rw [if_pos c6] at h
          refine hK _ _ _ _ (hK _ _ _ _ (show K _ _ _ _ from ?_))
          exact hK _ _ _ _ (And.intro rfl (h))
      · rw [if_pos c5] at h
        refine hK _ _ _ _ (show K _ _ _ _ from ?_)
        exact hK _ _ _ _ (And.intro rfl (h))
    · rw [if_pos c4] at h
      refine hK _ _ _ _ (show K _ _ _ _ from ?_)
      exact hK _ _ _ _ (And.intro rfl (h))
  · rw [if_pos c3] at h
    refine hK _ _ _ _ (show K _ _ _ _ from ?_)
    exact hK _ _ _ _ (And.intro rfl (h))
end NKO
