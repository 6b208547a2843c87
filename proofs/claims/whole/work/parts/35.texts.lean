/-! ===== texts of the class file ===== -/
def isStr (o len : Nat) (w : Nat → Nat) : Prop := nk_sk o = .inr (.inr (.inr o)) ∧ nk_sk (o + 10) = .inr (.inr (.inr (o + 10))) ∧ 1010 ≤ o ∧ o < 1017 ∧ len ≤ 6 ∧ nk_slen.getD (o - 1010) 0 = len ∧ ∀ i, i < len → (nk_sbyt.getD (o - 1010) []).getD i 0 = nI (w i) ∧ 97 ≤ w i ∧ w i ≤ 122
theorem nk_o100 {o : Nat} (h1 : 1010 ≤ o) (h2 : o < 1017) : (Nat.beq 100 100 && Nat.ble 1010 o && Nat.blt o 1017) = true := by
  have a : Nat.ble 1010 o = true := Nat.ble_eq_true_of_le h1
  have b : Nat.blt o 1017 = true := Nat.ble_eq_true_of_le h2
  rw [a, b]
  rfl
theorem nk_rvO {o : Nat} (hk : nk_sk o = .inr (.inr (.inr o))) (h1 : 1010 ≤ o) (h2 : o < 1017) : nk_rv o 100 = true := by
  unfold nk_rv
  simp only [hk]
  exact nk_o100 h1 h2
section NKR
variable {S : nk_Sc} {call : Nat → List Value → nk_D → nk_P → Prop} {T : nk_T} {r : Option FieldType} {P : nk_P} {K : nk_K} {pc n nx a b : Nat} {v : Int32} {u : Int64} {loc : nk_L} {t : List Value} {D : nk_D}
theorem nk_G0 {k : Nat} (he : nk_lk T pc = some (.getfield n, nx, 100, 0, v, u)) (hk : nk_sk k = .inr (.inr (.inr k))) (h1 : 1010 ≤ k) (h2 : k < 1017) (h : K nx loc (.ref (k + 10) :: t) D) : nk_step S call T r P K pc loc (.ref k :: t) D := by
  unfold nk_step
  simp only [he, nk_st]
  unfold nk_gf
  simp only [hk, nk_o100 h1 h2]
  exact h
theorem nk_G1 {k : Nat} (he : nk_lk T pc = some (.getfield n, nx, 100, 1, v, u)) (hk : nk_sk k = .inr (.inr (.inr k))) (h1 : 1010 ≤ k) (h2 : k < 1017) (h : K nx loc (.int (nI 0) :: t) D) : nk_step S call T r P K pc loc (.ref k :: t) D := by
  unfold nk_step
  simp only [he, nk_st]
  unfold nk_gf
  simp only [hk, nk_o100 h1 h2]
  exact h
theorem nk_BO {k j : Nat} {i : Int32} (he : nk_lk T pc = some (.baload, nx, a, b, v, u)) (hk : nk_sk k = .inr (.inr (.inr k))) (h1 : 1020 ≤ k ∧ k < 1027) (hi : i = nI j) (hj : j < nk_slen.getD (k - 1020) 0) (h : K nx loc (.int ((nk_sbyt.getD (k - 1020) []).getD j 0) :: t) D) : nk_step S call T r P K pc loc (.int i :: .ref k :: t) D := by
  unfold nk_step
  simp only [he, nk_st]
  unfold nk_ab
  simp only [hk]
  exact ⟨h1, j, hi, hj, h⟩
end NKR
theorem nk_ch : ∀ c : Fin 128, ((nI c.val &&& nI 255).toUInt32 % 65536).toInt32 = nI c.val ∧ narrow .char (.int (nI c.val)) = .int (nI c.val) := by decide +kernel
section NKO
variable {S : nk_Sc} {d : Nat} {D : nk_D} {P : nk_P} {o len : Nat} {w : Nat → Nat}
theorem sj_coder (hs : isStr o len w) (h : P (some (.int (nI 0))) D) : nk_run S (d + 1) 129 [.ref o] D P := by
  obtain ⟨k1, k2, k3, k4, k5, k6, k7⟩ := hs
  refine nk_go (M := (8, yJ0_coder_7d493, cJ0_coder_7d493, 1, (some .byte), false, 0, nk_T129)) rfl rfl (Nat.le_of_ble_eq_true rfl) (fun K hK => ?_)
  show K 0 [some (.ref o)] [] D
  refine hK _ _ _ _ (show K _ _ _ _ from ?_)
  refine hK _ _ _ _ (nk_bf (by decide) ?_)
  refine hK _ _ _ _ (show K _ _ _ _ from ?_)
  refine hK _ _ _ _ (nk_G1 rfl k1 k3 k4 (show K _ _ _ _ from ?_))
  refine hK _ _ _ _ (show K _ _ _ _ from ?_)
  exact hK _ _ _ _ (And.intro rfl (h))
theorem sj_isLatin1 (hs : isStr o len w) (h : P (some (.int (bI true))) D) : nk_run S (d + 1) 130 [.ref o] D P := by
  obtain ⟨k1, k2, k3, k4, k5, k6, k7⟩ := hs
  refine nk_go (M := (8, yJ0_isLatin1_aae02, cJ0_isLatin1_aae02, 1, (some .boolean), false, 0, nk_T130)) rfl rfl (Nat.le_of_ble_eq_true rfl) (fun K hK => ?_)
  show K 0 [some (.ref o)] [] D
  refine hK _ _ _ _ (show K _ _ _ _ from ?_)
  refine hK _ _ _ _ (nk_bf (by decide) ?_)
  refine hK _ _ _ _ (show K _ _ _ _ from ?_)
  refine hK _ _ _ _ (nk_G1 rfl k1 k3 k4 (show K _ _ _ _ from ?_))
  refine hK _ _ _ _ (nk_nf rfl ?_)
  refine hK _ _ _ _ (hK _ _ _ _ (show K _ _ _ _ from ?_))
  exact hK _ _ _ _ (And.intro rfl (h))
theorem sj_length (hs : isStr o len w) (h : P (some (.int (nI len))) D) : nk_run S (d + 2) 127 [.ref o] D P := by
  have hs' := hs
  obtain ⟨k1, k2, k3, k4, k5, k6, k7⟩ := hs
  refine nk_go (M := (8, yJ0_length_8abf5, cJ0_length_8abf5, 1, (some .int), false, 0, nk_T127)) rfl rfl (Nat.le_of_ble_eq_true rfl) (fun K hK => ?_)
  show K 0 [some (.ref o)] [] D
  refine hK _ _ _ _ (show K _ _ _ _ from ?_)
  refine hK _ _ _ _ (nk_G0 rfl k1 k3 k4 (show K _ _ _ _ from ?_))
  have e : nk_ol S (o + 10) = some len := by
    unfold nk_ol
    rw [if_neg (by omega), if_neg (by omega), if_neg (by omega), if_pos ⟨by omega, by omega⟩, show o + 10 - 1020 = o - 1010 by omega, k6]
  refine hK _ _ _ _ (nk_LO rfl k2 e (show K _ _ _ _ from ?_))
  refine hK _ _ _ _ (show K _ _ _ _ from ?_)
  refine hK _ _ _ _ (nk_stV rfl rfl (nk_rvO k1 k3 k4) rfl ?_)
  refine sj_coder hs' ?_
  refine hK _ _ _ _ (show K _ _ _ _ from ?_)
  rw [nk_shr (by omega) (by omega), Nat.pow_zero, Nat.div_one]
  exact hK _ _ _ _ (And.intro rfl (h))
theorem sj_check3 {i n : Nat} (hi : i < n) (hn : n < 100) (h : P (some (.int (nI i))) D) : nk_run S (d + 1) 133 [.int (nI i), .int (nI n), .null] D P := by
  refine nk_go (M := (10, yJ3_checkIndex_8e157, cJ3_checkIndex_8e157, 3, (some .int), true, 3, nk_T133)) rfl rfl (Nat.le_of_ble_eq_true rfl) (fun K hK => ?_)
  show K 0 [some (.int (nI i)), some (.int (nI n)), some .null] [] D
  refine hK _ _ _ _ (show K _ _ _ _ from ?_)
  refine hK _ _ _ _ (nk_bf (nI_pos (by omega)) ?_)
  refine hK _ _ _ _ (hK _ _ _ _ (show K _ _ _ _ from ?_))
  refine hK _ _ _ _ (nk_bt (nI_lt hi (by omega)) ?_)
  refine hK _ _ _ _ (show K _ _ _ _ from ?_)
  exact hK _ _ _ _ (And.intro rfl (h))
theorem sj_check {i n : Nat} (hi : i < n) (hn : n < 100) (h : P none D) : nk_run S (d + 2) 131 [.int (nI i), .int (nI n)] D P := by
  refine nk_go (M := (8, yJ0_checkIndex_df160, cJ0_checkIndex_df160, 2, none, true, 2, nk_T131)) rfl rfl (Nat.le_of_ble_eq_true rfl) (fun K hK => ?_)
  show K 0 [some (.int (nI i)), some (.int (nI n))] [] D
  refine hK _ _ _ _ (hK _ _ _ _ (hK _ _ _ _ (show K _ _ _ _ from ?_)))
  refine hK _ _ _ _ (nk_stS rfl rfl rfl rfl ?_)
  refine sj_check3 hi hn ?_
  refine hK _ _ _ _ (show K _ _ _ _ from ?_)
  exact hK _ _ _ _ (And.intro rfl (h))
theorem sj_charAt1 {i : Nat} (hs : isStr o len w) (hi : i < len) (h : P (some (.int (nI (w i)))) D) : nk_run S (d + 3) 132 [.ref (o + 10), .int (nI i)] D P := by
  obtain ⟨k1, k2, k3, k4, k5, k6, k7⟩ := hs
  refine nk_go (M := (9, yJ1_charAt_3b067, cJ1_charAt_3b067, 2, (some .char), true, 2, nk_T132)) rfl rfl (Nat.le_of_ble_eq_true rfl) (fun K hK => ?_)
  show K 0 [some (.ref (o + 10)), some (.int (nI i))] [] D
  refine hK _ _ _ _ (hK _ _ _ _ (show K _ _ _ _ from ?_))
  have e : nk_ol S (o + 10) = some len := by
    unfold nk_ol
    rw [if_neg (by omega), if_neg (by omega), if_neg (by omega), if_pos ⟨by omega, by omega⟩, show o + 10 - 1020 = o - 1010 by omega, k6]
  refine hK _ _ _ _ (nk_LO rfl k2 e (show K _ _ _ _ from ?_))
  refine hK _ _ _ _ (nk_stS rfl rfl rfl rfl ?_)
  refine sj_check hi (by omega) ?_
  refine hK _ _ _ _ (hK _ _ _ _ (show K _ _ _ _ from ?_))
  refine hK _ _ _ _ (nk_BO rfl k2 ⟨by omega, by omega⟩ (j := i) rfl (by rw [show o + 10 - 1020 = o - 1010 by omega, k6]; exact hi) (show K _ _ _ _ from ?_))
  rw [show o + 10 - 1020 = o - 1010 by omega, (k7 i hi).1]
  refine hK _ _ _ _ (hK _ _ _ _ (hK _ _ _ _ (show K _ _ _ _ from ?_)))
  have := (k7 i hi).2
  obtain ⟨q1, q2⟩ := nk_ch ⟨w i, by omega⟩
  rw [q1]
  exact hK _ _ _ _ (And.intro q2 h)
theorem sj_charAt {i : Nat} (hs : isStr o len w) (hi : i < len) (h : P (some (.int (nI (w i)))) D) : nk_run S (d + 4) 128 [.ref o, .int (nI i)] D P := by
  have hs' := hs
  obtain ⟨k1, k2, k3, k4, k5, k6, k7⟩ := hs
  refine nk_go (M := (8, yJ0_charAt_5068e, cJ0_charAt_5068e, 2, (some .char), false, 1, nk_T128)) rfl rfl (Nat.le_of_ble_eq_true rfl) (fun K hK => ?_)
  show K 0 [some (.ref o), some (.int (nI i))] [] D
  refine hK _ _ _ _ (show K _ _ _ _ from ?_)
  refine hK _ _ _ _ (nk_stV rfl rfl (nk_rvO k1 k3 k4) rfl ?_)
  refine sj_isLatin1 hs' ?_
  refine hK _ _ _ _ (nk_beq (fun z => by cases z) (fun _ => ?_))
  refine hK _ _ _ _ (show K _ _ _ _ from ?_)
  refine hK _ _ _ _ (nk_G0 rfl k1 k3 k4 (show K _ _ _ _ from ?_))
  refine hK _ _ _ _ (show K _ _ _ _ from ?_)
  refine hK _ _ _ _ (nk_stS rfl rfl rfl rfl ?_)
  refine sj_charAt1 hs' hi ?_
  have := (k7 i hi).2
  obtain ⟨q1, q2⟩ := nk_ch ⟨w i, by omega⟩
  exact hK _ _ _ _ (And.intro q2 h)
end NKO
/-! the tokens: pure -/
def spk (L : Nat) (tx : Nat → Nat) : Nat → Nat → Nat
  | 0, j => j
  | m + 1, j => if j < L ∧ tx j = 32 then spk L tx m (j + 1) else j
def srt (L : Nat) (tx : Nat → Nat) (j : Nat) : Nat := if j < L then (if 97 ≤ tx j ∧ tx j ≤ 122 then 0 else if 48 ≤ tx j ∧ tx j ≤ 57 then 1 else 2) else 3
def run1 (L : Nat) (tx : Nat → Nat) (c : Nat) : Nat → Nat → Nat
  | 0, j => j
  | m + 1, j => if j < L ∧ srt L tx j = c then run1 L tx c m (j + 1) else j
def tokB (L : Nat) (tx : Nat → Nat) (j : Nat) : Nat := spk L tx 160 j
def tokE (L : Nat) (tx : Nat → Nat) (j : Nat) : Nat := if tokB L tx j < L then (if srt L tx (tokB L tx j) = 2 then tokB L tx j + 1 else run1 L tx (srt L tx (tokB L tx j)) 160 (tokB L tx j)) else tokB L tx j
theorem spk_eq {L : Nat} {tx : Nat → Nat} {k : Nat} (hk : k < L → tx k ≠ 32) : ∀ m j, j ≤ k → k ≤ L → k < j + m + 1 → (∀ i, j ≤ i → i < k → tx i = 32) → spk L tx m j = k
  | 0, j, h1, _, h3, _ => by rw [spk]; omega
  | m + 1, j, h1, h2, h3, h4 => by
    rw [spk]
    by_cases e : j = k
    · rw [if_neg (fun z => hk (by omega) (by rw [← e]; exact z.2))]
      exact e
    · rw [if_pos ⟨by omega, h4 j (by omega) (by omega)⟩]
      exact spk_eq hk m (j + 1) (by omega) h2 (by omega) (fun i z1 z2 => h4 i (by omega) z2)
theorem run1_eq {L : Nat} {tx : Nat → Nat} {c k : Nat} (hk : k < L → srt L tx k ≠ c) : ∀ m j, j ≤ k → k ≤ L → k < j + m + 1 → (∀ i, j ≤ i → i < k → srt L tx i = c) → run1 L tx c m j = k
  | 0, j, h1, _, h3, _ => by rw [run1]; omega
  | m + 1, j, h1, h2, h3, h4 => by
    rw [run1]
    by_cases e : j = k
    · rw [if_neg (fun z => hk (by omega) (by rw [← e]; exact z.2))]
      exact e
    · rw [if_pos ⟨by omega, h4 j (by omega) (by omega)⟩]
      exact run1_eq hk m (j + 1) (by omega) h2 (by omega) (fun i z1 z2 => h4 i (by omega) z2)
theorem srt_end {L : Nat} {tx : Nat → Nat} {j : Nat} : srt L tx j = 3 ↔ L ≤ j := by
  unfold srt
  split
  · split
    · omega
    · split <;> omega
  · omega
/-- the token that begins at b, behind j -/
theorem tok_of {L : Nat} {tx : Nat → Nat} {j b e : Nat} (hL : L ≤ 160) (h1 : j ≤ b) (h2 : b ≤ L) (h3 : ∀ i, j ≤ i → i < b → tx i = 32) (h4 : b < L → tx b ≠ 32)
    (h5 : b = L → e = L) (h6 : b < L → srt L tx b = 2 → e = b + 1) (h7 : b < L → srt L tx b ≠ 2 → b < e ∧ e ≤ L ∧ (∀ i, b ≤ i → i < e → srt L tx i = srt L tx b) ∧ (e < L → srt L tx e ≠ srt L tx b)) : tokB L tx j = b ∧ tokE L tx j = e := by
  have hb : tokB L tx j = b := spk_eq h4 160 j h1 h2 (by omega) h3
  refine ⟨hb, ?_⟩
  unfold tokE
  rw [hb]
  by_cases q : b < L
  · rw [if_pos q]
    by_cases z : srt L tx b = 2
    · rw [if_pos z, h6 q z]
    · rw [if_neg z]
      obtain ⟨a1, a2, a3, a4⟩ := h7 q z
      exact run1_eq a4 160 b (by omega) a2 (by omega) a3
  · rw [if_neg q, h5 (by omega)]
    omega
theorem tok_ok {L : Nat} {tx : Nat → Nat} {j : Nat} (hL : L ≤ 160) (hj : j ≤ L) : j ≤ tokB L tx j ∧ tokB L tx j ≤ L ∧ tokB L tx j ≤ tokE L tx j ∧ tokE L tx j ≤ L ∧ (tokB L tx j < L → tokB L tx j < tokE L tx j) ∧ (tokB L tx j < L → ∀ i, tokB L tx j ≤ i → i < tokE L tx j → srt L tx i = srt L tx (tokB L tx j)) := by
  have k1 : ∀ m j, j ≤ L → j ≤ spk L tx m j ∧ spk L tx m j ≤ L := by
    intro m
    induction m with
    | zero => intro j hj; rw [spk]; omega
    | succ m ih =>
      intro j hj
      rw [spk]
      split
      · have := ih (j + 1) (by omega); omega
      · omega
  have k2 : ∀ c m j, j ≤ L → j ≤ run1 L tx c m j ∧ run1 L tx c m j ≤ L ∧ ∀ i, j ≤ i → i < run1 L tx c m j → srt L tx i = c := by
    intro c m
    induction m with
    | zero => intro j hj; rw [run1]; exact ⟨by omega, by omega, fun i z1 z2 => by omega⟩
    | succ m ih =>
      intro j hj
      rw [run1]
      split
      · next e =>
        obtain ⟨a1, a2, a3⟩ := ih (j + 1) (by omega)
        refine ⟨by omega, a2, fun i z1 z2 => ?_⟩
        by_cases q : i = j
        · rw [q]; exact e.2
        · exact a3 i (by omega) z2
      · exact ⟨by omega, by omega, fun i z1 z2 => by omega⟩
  obtain ⟨a1, a2⟩ := k1 160 j hj
  have hb : tokB L tx j = spk L tx 160 j := rfl
  rw [← hb] at a1 a2
  refine ⟨a1, a2, ?_⟩
  unfold tokE
  by_cases q : tokB L tx j < L
  · rw [if_pos q]
    by_cases z : srt L tx (tokB L tx j) = 2
    · rw [if_pos z]
      refine ⟨by omega, by omega, fun _ => by omega, fun _ i z1 z2 => ?_⟩
      rw [show i = tokB L tx j by omega]
    · rw [if_neg z]
      obtain ⟨b1, b2, b3⟩ := k2 (srt L tx (tokB L tx j)) 160 (tokB L tx j) a2
      refine ⟨b1, b2, fun _ => ?_, fun _ => b3⟩
      rw [run1, if_pos ⟨q, rfl⟩]
      have := (k2 (srt L tx (tokB L tx j)) 159 (tokB L tx j + 1) (by omega)).1
      omega
  · rw [if_neg q]
    exact ⟨by omega, by omega, fun w => absurd w q, fun w => absurd w q⟩
