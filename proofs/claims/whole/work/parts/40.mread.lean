/-! ===== the reference reads: clauses ===== -/
def MD (D : nk_D) (dr : Dr) : Prop := D 56 0 = nI dr.1 ∧ (∀ p, p < dr.1 → D 56 (1 + p) = nI (dr.2.1 p)) ∧ (∀ p q, p < dr.1 → q < dr.1 → D 56 (7 + (6 * p + q)) = nI (dr.2.2.1 p q)) ∧ D 56 43 = nI dr.2.2.2.1
theorem MD_of {D D' : nk_D} {dr : Dr} (h : ∀ b, D' 56 b = D 56 b) (q : MD D dr) : MD D' dr := ⟨by rw [h]; exact q.1, fun p hp => by rw [h]; exact q.2.1 p hp, fun p z hp hz => by rw [h]; exact q.2.2.1 p z hp hz, by rw [h]; exact q.2.2.2⟩
theorem TM_of {D D' : nk_D} {L : Nat} {tx : Nat → Nat} {b e : Nat} (h0 : ∀ j, j ≠ 9 → D' 52 j = D 52 j) (h1 : ∀ b, D' 55 b = D 55 b) (h : TM D L tx b e) : TM D' L tx b e := by
  obtain ⟨a1, a2, a3, a4, a5, a6, a7⟩ := h
  exact ⟨MKL_of (h0 3 (by omega)) h1 a1, by rw [h0 4 (by omega)]; exact a2, by rw [h0 7 (by omega)]; exact a3, by rw [h0 5 (by omega)]; exact a4, fun w => by rw [h0 6 (by omega)]; exact a5 w, fun w => by rw [h0 6 (by omega)]; exact a6 w, a7⟩
def inr (L : Nat) (tx : Nat → Nat) (b e lo : Nat) (hi : Int) : Int32 := if lo ≤ num L tx b e ∧ ((num L tx b e : Nat) : Int) ≤ hi then nI (num L tx b e) else -1
theorem tkn2 {s : Nat} (h : s ≤ 3) : nI (tkn s) = nI 2 ↔ s = 1 := by
  rcases (show s = 0 ∨ s = 1 ∨ s = 2 ∨ s = 3 by omega) with rfl | rfl | rfl | rfl <;> decide
theorem tkn3 {s : Nat} (h : s ≤ 3) : nI (tkn s) = nI 3 ↔ s = 3 := by
  rcases (show s = 0 ∨ s = 1 ∨ s = 2 ∨ s = 3 by omega) with rfl | rfl | rfl | rfl <;> decide
theorem tkn0 {s : Nat} (h : s ≤ 3) : nI (tkn s) = nI 0 ↔ s = 2 := by
  rcases (show s = 0 ∨ s = 1 ∨ s = 2 ∨ s = 3 by omega) with rfl | rfl | rfl | rfl <;> decide
theorem num_lt {L : Nat} {tx : Nat → Nat} {b e : Nat} (hall : b < L → ∀ i, b ≤ i → i < e → srt L tx i = srt L tx b) : num L tx b e ≤ 999 := by
  unfold num
  split
  · next q =>
    have := dv_lt (L := L) (tx := tx) (b := b) (e := e) (fun i z1 z2 => by rw [hall (srt1 q.1).1 i z1 z2]; exact q.1) q.2
    omega
  · omega
theorem nI_m1 : ∀ n : Fin 65, (nI n.val - nI 1).toInt = (n.val : Int) - 1 := by decide +kernel
section NKO
variable {S : nk_Sc} {d : Nat} {D : nk_D} {P : nk_P} {L : Nat} {tx : Nat → Nat}
theorem sm_next {b e : Nat} (ht : TM D L tx b e) (h : ∀ D', TM D' L tx (tokB L tx e) (tokE L tx e) → (∀ a b, ¬ (a = 52 ∧ (b = 4 ∨ b = 5 ∨ b = 6 ∨ b = 7)) → D' a b = D a b) → P none D') : nk_run S (d + 3) 80 [.ref 52] D P :=
  sm_nextToken ht.1 ht.2.2.2.2.2.2.2.1 ht.2.1 h
theorem sm_number {b e lo : Nat} {hi : Int32} (ht : TM D L tx b e) (hlo : lo < 100) (hhi : hi.toInt < 100) (h : ∀ D', TM D' L tx (tokB L tx e) (tokE L tx e) → (∀ a b, ¬ (a = 52 ∧ (b = 4 ∨ b = 5 ∨ b = 6 ∨ b = 7)) → D' a b = D a b) → P (some (.int (inr L tx (tokB L tx e) (tokE L tx e) lo hi.toInt))) D') : nk_run S (d + 4) 84 [.ref 52, .int (nI lo), .int hi] D P := by
  refine nk_go (M := (6, yX6_number, cX6_number, 3, (some .int), false, 2, nk_T84)) rfl rfl (Nat.le_of_ble_eq_true rfl) (fun K hK => ?_)
  show K 0 [some (.ref 52), some (.int (nI lo)), some (.int hi)] [] D
  refine hK _ _ _ _ (show K _ _ _ _ from ?_)
  refine hK _ _ _ _ (nk_stV rfl rfl rfl rfl ?_)
  refine sm_next ht (fun D1 t1 f1 => ?_)
  have h := h D1 t1 f1
  have hs := srt_le (L := L) (tx := tx) (j := tokB L tx e)
  obtain ⟨a1, a2, a3, a4, a5, a6, a7, a8, a9, a10⟩ := t1
  have hn := num_lt (L := L) (tx := tx) a10
  unfold inr at h
  show K 4 _ _ _
  refine hK _ _ _ _ (hK _ _ _ _ (nk_GI rfl rfl rfl (hK _ _ _ _ (show K _ _ _ _ from ?_))))
  rw [a4]
  by_cases q : srt L tx (tokB L tx e) = 1
  · refine hK _ _ _ _ (nk_nf ((tkn2 hs).mpr q) ?_)
    have v := a5 q
    refine hK _ _ _ _ (hK _ _ _ _ (nk_GI rfl rfl rfl (hK _ _ _ _ (hK _ _ _ _ (hK _ _ _ _ (hK _ _ _ _ (hK _ _ _ _ (show K _ _ _ _ from ?_))))))))
    rw [v]
    refine hK _ _ _ _ (nk_stS rfl rfl rfl rfl ?_)
    refine sm_in ?_
    rw [Int32.toInt_toInt64, Int32.toInt_toInt64, Int32.toInt_toInt64, nI_toInt (by omega), nI_toInt (by omega)]
    refine hK _ _ _ _ (nk_beq (fun w => ?_) (fun w => ?_))
    · have w := of_decide_eq_false w
      rw [if_neg (fun z => w ⟨by omega, z.2⟩)] at h
      refine hK _ _ _ _ (show K _ _ _ _ from ?_)
      exact hK _ _ _ _ (And.intro rfl (h))
    · have w := of_decide_eq_true w
      rw [if_pos ⟨by omega, w.2⟩] at h
      refine hK _ _ _ _ (hK _ _ _ _ (nk_GI rfl rfl rfl (hK _ _ _ _ (show K _ _ _ _ from ?_))))
      rw [v]
      exact hK _ _ _ _ (And.intro rfl (h))
  · refine hK _ _ _ _ (nk_nt (fun w => q ((tkn2 hs).mp w)) ?_)
    have : num L tx (tokB L tx e) (tokE L tx e) = 999 := by
      unfold num
      rw [if_neg (fun z => q z.1)]
    rw [if_neg (fun z => by rw [this] at z; omega)] at h
    refine hK _ _ _ _ (show K _ _ _ _ from ?_)
    exact hK _ _ _ _ (And.intro rfl (h))
theorem sm_readPerson {dr : Dr} {k : Nat} (hm : MD D dr) (hn : dr.1 ≤ 6) (h0 : dr.1 = 6 → P (some (.int (bI false))) D) (h1 : ∀ D', dr.1 < 6 → MD D' (addD dr k) → (∀ a b, a ≠ 56 → D' a b = D a b) → P (some (.int (bI true))) D') : nk_run S (d + 1) 85 [.ref 52, .int (nI k)] D P := by
  obtain ⟨m1, m2, m3, m4⟩ := hm
  refine nk_go (M := (6, yX6_readPerson, cX6_readPerson, 4, (some .boolean), false, 1, nk_T85)) rfl rfl (Nat.le_of_ble_eq_true rfl) (fun K hK => ?_)
  show K 0 [some (.ref 52), some (.int (nI k)), none, none] [] D
  refine hK _ _ _ _ (hK _ _ _ _ (nk_GR rfl rfl rfl (hK _ _ _ _ (show K _ _ _ _ from ?_))))
  refine hK _ _ _ _ (nk_AL rfl rfl (j := 0) rfl (by decide) (show K _ _ _ _ from ?_))
  rw [m1]
  refine hK _ _ _ _ (hK _ _ _ _ (hK _ _ _ _ (show K _ _ _ _ from ?_)))
  refine hK _ _ _ _ (nk_ne (by omega) (by omega) (fun c => ?_) (fun c => ?_))
  · refine hK _ _ _ _ (hK _ _ _ _ (nk_GR rfl rfl rfl (hK _ _ _ _ (hK _ _ _ _ (hK _ _ _ _ (hK _ _ _ _ (show K _ _ _ _ from ?_)))))))
    rw [nk_add]
    refine hK _ _ _ _ (nk_AS rfl rfl rfl (show 1 + dr.1 < 44 by omega) (show K _ _ _ _ from ?_))
    refine hK _ _ _ _ (hK _ _ _ _ (show K _ _ _ _ from ?_))
    have loop : ∀ m j D1, j + m = 6 → (∀ i, i < j → D1 56 (7 + (6 * dr.1 + i)) = nI 0 ∧ D1 56 (7 + (6 * i + dr.1)) = nI 0) → (∀ b, (∀ i, i < 6 → b ≠ 7 + (6 * dr.1 + i) ∧ b ≠ 7 + (6 * i + dr.1)) → D1 56 b = nk_up D 56 (1 + dr.1) (nI k) 56 b) → (∀ a b, a ≠ 56 → D1 a b = D a b) → K 26 [some (.ref 52), some (.int (nI k)), some (.int (nI dr.1)), some (.int (nI j))] [] D1 := by
      intro m
      induction m with
      | zero =>
        intro j D1 hj g1 g2 g3
        have hj : j = 6 := by omega
        subst hj
        have z0 : D1 56 0 = nI dr.1 := by
          rw [g2 0 (fun i hi => by omega)]
          have : ¬ 0 = 1 + dr.1 := by omega
          simp only [nk_up, this, and_false, if_false]
          exact m1
        refine hK _ _ _ _ (hK _ _ _ _ (show K _ _ _ _ from ?_))
        refine hK _ _ _ _ (nk_bt (nI_le (Nat.le_refl _) (by omega)) ?_)
        refine hK _ _ _ _ (hK _ _ _ _ (nk_GR rfl rfl rfl (hK _ _ _ _ (hK _ _ _ _ (show K _ _ _ _ from ?_)))))
        refine hK _ _ _ _ (nk_AL rfl rfl (j := 0) rfl (by decide) (show K _ _ _ _ from ?_))
        rw [z0]
        refine hK _ _ _ _ (hK _ _ _ _ (show K _ _ _ _ from ?_))
        rw [nk_add]
        refine hK _ _ _ _ (nk_AS rfl rfl (j := 0) rfl (by decide) (show K _ _ _ _ from ?_))
        refine hK _ _ _ _ (show K _ _ _ _ from ?_)
        have up : ∀ b, b ≠ 0 → nk_up D1 56 0 (nI (dr.1 + 1)) 56 b = D1 56 b := fun b hb => by simp [nk_up, hb]
        refine hK _ _ _ _ (And.intro rfl (h1 _ (by omega) ⟨by simp [nk_up, addD], fun p hp => ?_, fun p q hp hq => ?_, ?_⟩ (fun a b ha => by simp [nk_up, ha, g3 a b ha])))
        · have hp : p < dr.1 + 1 := hp
          show _ = nI (if p = dr.1 then k else dr.2.1 p)
          rw [up _ (by omega), g2 (1 + p) (fun i hi => by omega)]
          by_cases w : p = dr.1
          · rw [if_pos w]
            simp [nk_up, w]
          · rw [if_neg w]
            have : ¬ 1 + p = 1 + dr.1 := by omega
            simp only [nk_up, this, and_false, if_false]
            exact m2 p (by omega)
        · have hp : p < dr.1 + 1 := hp
          have hq : q < dr.1 + 1 := hq
          show _ = nI (if p < dr.1 ∧ q < dr.1 then dr.2.2.1 p q else 0)
          rw [up _ (by omega)]
          by_cases w : p < dr.1 ∧ q < dr.1
          · rw [if_pos w, g2 _ (fun i hi => by omega)]
            have : ¬ 7 + (6 * p + q) = 1 + dr.1 := by omega
            simp only [nk_up, this, and_false, if_false]
            exact m3 p q w.1 w.2
          · rw [if_neg w]
            by_cases w2 : p = dr.1
            · rw [w2]
              exact (g1 q (by omega)).1
            · have w3 : q = dr.1 := by omega
              rw [w3]
              exact (g1 p (by omega)).2
        · rw [up _ (by omega), g2 43 (fun i hi => by omega)]
          have : ¬ 43 = 1 + dr.1 := by omega
          simp only [nk_up, this, and_false, if_false]
          exact m4
      | succ m ih =>
        intro j D1 hj g1 g2 g3
        refine hK _ _ _ _ (hK _ _ _ _ (show K _ _ _ _ from ?_))
        refine hK _ _ _ _ (nk_bf (nI_ge (by omega) (by omega)) ?_)
        refine hK _ _ _ _ (hK _ _ _ _ (nk_GR rfl rfl rfl (hK _ _ _ _ (hK _ _ _ _ (hK _ _ _ _ (hK _ _ _ _ (hK _ _ _ _ (hK _ _ _ _ (hK _ _ _ _ (hK _ _ _ _ (show K _ _ _ _ from ?_)))))))))))
        rw [nk_mul, nk_add, nk_add, Nat.add_assoc]
        refine hK _ _ _ _ (nk_AS rfl rfl rfl (show 7 + (6 * dr.1 + j) < 44 by omega) (show K _ _ _ _ from ?_))
        refine hK _ _ _ _ (hK _ _ _ _ (nk_GR rfl rfl rfl (hK _ _ _ _ (hK _ _ _ _ (hK _ _ _ _ (hK _ _ _ _ (hK _ _ _ _ (hK _ _ _ _ (hK _ _ _ _ (hK _ _ _ _ (show K _ _ _ _ from ?_)))))))))))
        rw [nk_mul, nk_add, nk_add, Nat.add_assoc]
        refine hK _ _ _ _ (nk_AS rfl rfl rfl (show 7 + (6 * j + dr.1) < 44 by omega) (show K _ _ _ _ from ?_))
        refine hK _ _ _ _ (hK _ _ _ _ (show K _ _ _ _ from ?_))
        rw [nk_add]
        refine ih (j + 1) _ (by omega) (fun i hi => ?_) (fun b hb => ?_) (fun a b ha => by simp [nk_up, ha, g3 a b ha])
        · by_cases w : i = j
          · subst w
            constructor
            · by_cases w2 : 7 + (6 * dr.1 + i) = 7 + (6 * i + dr.1)
              · simp [nk_up, w2]
              · simp [nk_up]
            · simp [nk_up]
          · have := g1 i (by omega)
            constructor
            · by_cases w2 : 7 + (6 * dr.1 + i) = 7 + (6 * j + dr.1)
              · simp [nk_up, w2]
              · have w3 : ¬ 7 + (6 * dr.1 + i) = 7 + (6 * dr.1 + j) := by omega
                simp only [nk_up, w2, w3, and_false, if_false]
                exact this.1
            · by_cases w2 : 7 + (6 * i + dr.1) = 7 + (6 * dr.1 + j)
              · simp [nk_up, w2]
              · have w3 : ¬ 7 + (6 * i + dr.1) = 7 + (6 * j + dr.1) := by omega
                simp only [nk_up, w2, w3, and_false, if_false]
                exact this.2
        · have hb' := hb j (by omega)
          have w2 : ¬ b = 7 + (6 * dr.1 + j) := hb'.1
          have w3 : ¬ b = 7 + (6 * j + dr.1) := hb'.2
          have g := g2 b hb
          simp only [nk_up, w2, w3, and_false, if_false] at g ⊢
          exact g
    exact loop 6 0 _ (by omega) (fun i hi => absurd hi (by omega)) (fun b _ => rfl) (fun a b ha => by simp [nk_up, ha])
  · refine hK _ _ _ _ (show K _ _ _ _ from ?_)
    exact hK _ _ _ _ (And.intro rfl (h0 c))
theorem inr_no {L : Nat} {tx : Nat → Nat} {b e lo : Nat} {hi : Int} (h : ¬ (lo ≤ num L tx b e ∧ ((num L tx b e : Nat) : Int) ≤ hi)) : inr L tx b e lo hi = -1 := if_neg h
theorem inr_yes {L : Nat} {tx : Nat → Nat} {b e lo : Nat} {hi : Int} (h : lo ≤ num L tx b e ∧ ((num L tx b e : Nat) : Int) ≤ hi) : inr L tx b e lo hi = nI (num L tx b e) := if_pos h
theorem sm_readAs {b e : Nat} {dr : Dr} {z : Bool × Dr × Nat × Nat} (ht : TM D L tx b e) (hm : MD D dr) (hn : dr.1 ≤ 6) (hv : isV tx b e 0 = true) (hz : cls L tx dr b e = z)
    (h : ∀ D' e', (z.1 = false → TM D' L tx z.2.2.1 z.2.2.2) → (z.1 = true → (∃ b', TM D' L tx b' e') ∧ tokB L tx e' = z.2.2.1 ∧ tokE L tx e' = z.2.2.2 ∧ MD D' z.2.1) → (∀ a b, ¬ (a = 52 ∧ (b = 4 ∨ b = 5 ∨ b = 6 ∨ b = 7)) → a ≠ 56 → D' a b = D a b) → P (some (.int (bI z.1))) D') : nk_run S (d + 5) 86 [.ref 52] D P := by
  unfold cls at hz
  rw [if_pos hv] at hz
  have hi := nI_m1 ⟨dr.1, by omega⟩
  simp only at hi
  have o1 : ∀ x : Nat, x ≤ 999 → ¬ (nI 0 ≤ (-1 : Int32)) := fun _ _ => by decide
  refine nk_go (M := (6, yX6_readAs, cX6_readAs, 4, (some .boolean), false, 0, nk_T86)) rfl rfl (Nat.le_of_ble_eq_true rfl) (fun K hK => ?_)
  show K 0 [some (.ref 52), none, none, none] [] D
  refine hK _ _ _ _ (hK _ _ _ _ (hK _ _ _ _ (hK _ _ _ _ (nk_GR rfl rfl rfl (hK _ _ _ _ (show K _ _ _ _ from ?_))))))
  refine hK _ _ _ _ (nk_AL rfl rfl (j := 0) rfl (by decide) (show K _ _ _ _ from ?_))
  rw [hm.1]
  refine hK _ _ _ _ (hK _ _ _ _ (show K _ _ _ _ from ?_))
  refine hK _ _ _ _ (nk_stV rfl rfl rfl rfl ?_)
  refine sm_number (lo := 0) ht (by omega) (by rw [hi]; omega) (fun D1 t1 f1 => ?_)
  have x1 := MD_of (D' := D1) (fun b => f1 56 b (by omega)) hm
  have n1 := num_lt t1.2.2.2.2.2.2.2.2.2
  rw [hi]
  show K 13 _ _ _
  refine hK _ _ _ _ (hK _ _ _ _ (show K _ _ _ _ from ?_))
  have out : ∀ D3 (p q : Int32), (z.1 = false) → TM D3 L tx z.2.2.1 z.2.2.2 → (∀ a b, ¬ (a = 52 ∧ (b = 4 ∨ b = 5 ∨ b = 6 ∨ b = 7)) → a ≠ 56 → D3 a b = D a b) → K 56 [some (.ref 52), some (.int p), some (.int q), none] [.int (-1)] D3 := by
    intro D3 p q hz1 t3 f3
    have h := h D3 0 (fun _ => t3) (fun w => by rw [hz1] at w; cases w) f3
    rw [hz1] at h
    refine hK _ _ _ _ (hK _ _ _ _ (show K _ _ _ _ from ?_))
    refine hK _ _ _ _ (nk_bf (by decide) ?_)
    refine hK _ _ _ _ (show K _ _ _ _ from ?_)
    exact hK _ _ _ _ (And.intro rfl (h))
  by_cases c1 : num L tx (tokB L tx e) (tokE L tx e) < dr.1
  · rw [if_pos c1] at hz
    rw [inr_yes ⟨by omega, by omega⟩]
    refine hK _ _ _ _ (nk_bt (nI_le (by omega) (by omega)) ?_)
    refine hK _ _ _ _ (hK _ _ _ _ (hK _ _ _ _ (hK _ _ _ _ (nk_GR rfl rfl rfl (hK _ _ _ _ (show K _ _ _ _ from ?_))))))
    refine hK _ _ _ _ (nk_AL rfl rfl (j := 0) rfl (by decide) (show K _ _ _ _ from ?_))
    rw [x1.1]
    refine hK _ _ _ _ (hK _ _ _ _ (show K _ _ _ _ from ?_))
    refine hK _ _ _ _ (nk_stV rfl rfl rfl rfl ?_)
    refine sm_number (lo := 0) t1 (by omega) (by rw [hi]; omega) (fun D2 t2 f2 => ?_)
    have x2 := MD_of (D' := D2) (fun b => f2 56 b (by omega)) x1
    have n2 := num_lt t2.2.2.2.2.2.2.2.2.2
    rw [hi]
    show K 35 _ _ _
    refine hK _ _ _ _ (hK _ _ _ _ (show K _ _ _ _ from ?_))
    by_cases c2 : num L tx (tokB L tx (tokE L tx e)) (tokE L tx (tokE L tx e)) < dr.1
    · rw [inr_yes ⟨by omega, by omega⟩]
      refine hK _ _ _ _ (nk_bf (nI_pos (by omega)) ?_)
      refine hK _ _ _ _ (hK _ _ _ _ (show K _ _ _ _ from ?_))
      by_cases c3 : num L tx (tokB L tx (tokE L tx e)) (tokE L tx (tokE L tx e)) = num L tx (tokB L tx e) (tokE L tx e)
      · rw [if_neg (fun w => w.2 c3)] at hz
        refine hK _ _ _ _ (nk_nf (by rw [c3]) ?_)
        refine hK _ _ _ _ (hK _ _ _ _ (show K _ _ _ _ from ?_))
        subst hz
        exact out D2 _ _ rfl t2 (fun a b w1 w2 => by rw [f2 a b w1, f1 a b w1])
      · rw [if_pos ⟨c2, c3⟩] at hz
        refine hK _ _ _ _ (nk_nt (fun w => c3 ((nI_eq (by omega) (by omega)).mp w)) ?_)
        refine hK _ _ _ _ (hK _ _ _ _ (hK _ _ _ _ (show K _ _ _ _ from ?_)))
        refine hK _ _ _ _ (nk_stV rfl rfl rfl rfl ?_)
        refine sm_number (lo := 1) (hi := nI 7) t2 (by omega) (by decide) (fun D3 t3 f3 => ?_)
        have x3 := MD_of (D' := D3) (fun b => f3 56 b (by omega)) x2
        have n3 := num_lt t3.2.2.2.2.2.2.2.2.2
        have fr3 : ∀ a b, ¬ (a = 52 ∧ (b = 4 ∨ b = 5 ∨ b = 6 ∨ b = 7)) → D3 a b = D a b := fun a b w => by rw [f3 a b w, f2 a b w, f1 a b w]
        rw [show (nI 7).toInt = 7 by decide]
        by_cases c4 : 1 ≤ num L tx (tokB L tx (tokE L tx (tokE L tx e))) (tokE L tx (tokE L tx (tokE L tx e))) ∧ num L tx (tokB L tx (tokE L tx (tokE L tx e))) (tokE L tx (tokE L tx (tokE L tx e))) ≤ 7
        · rw [if_pos c4] at hz
          subst hz
          rw [inr_yes ⟨c4.1, by omega⟩]
          show K 56 _ _ _
          refine hK _ _ _ _ (hK _ _ _ _ (show K _ _ _ _ from ?_))
          refine hK _ _ _ _ (nk_bt (nI_le (by omega) (by omega)) ?_)
          refine hK _ _ _ _ (hK _ _ _ _ (nk_GR rfl rfl rfl (hK _ _ _ _ (hK _ _ _ _ (hK _ _ _ _ (hK _ _ _ _ (hK _ _ _ _ (hK _ _ _ _ (hK _ _ _ _ (hK _ _ _ _ (show K _ _ _ _ from ?_)))))))))))
          rw [nk_mul, nk_add, nk_add, Nat.add_assoc]
          generalize num L tx (tokB L tx e) (tokE L tx e) = p at c1 c3 h ⊢
          generalize num L tx (tokB L tx (tokE L tx e)) (tokE L tx (tokE L tx e)) = q at c2 c3 h ⊢
          generalize num L tx (tokB L tx (tokE L tx (tokE L tx e))) (tokE L tx (tokE L tx (tokE L tx e))) = w at c4 h ⊢
          refine hK _ _ _ _ (nk_AS rfl rfl rfl (show 7 + (6 * p + q) < 44 by omega) (show K _ _ _ _ from ?_))
          refine hK _ _ _ _ (show K _ _ _ _ from ?_)
          refine hK _ _ _ _ (And.intro rfl (h _ (tokE L tx (tokE L tx (tokE L tx e))) (fun w => by cases w) (fun _ => ⟨⟨_, TM_of (fun j _ => by simp [nk_up]) (fun b => by simp [nk_up]) t3⟩, rfl, rfl, ?_⟩) (fun a b w1 w2 => by simp [nk_up, w2, fr3 a b w1])))
          obtain ⟨y1, y2, y3, y4⟩ := x3
          have n0 : ¬ 0 = 7 + (6 * p + q) := by omega
          refine ⟨by simp only [nk_up, n0, and_false, if_false]; exact y1, fun p' hp' => ?_, fun p' q' hp' hq' => ?_, ?_⟩
          · have hp' : p' < dr.1 := hp'
            have : ¬ 1 + p' = 7 + (6 * p + q) := by omega
            simp only [nk_up, this, and_false, if_false]
            exact y2 p' hp'
          · have hp' : p' < dr.1 := hp'
            have hq' : q' < dr.1 := hq'
            show _ = nI (setR dr.2.2.1 p q w p' q')
            by_cases w2 : p' = p ∧ q' = q
            · obtain ⟨rfl, rfl⟩ := w2
              simp [nk_up, setR]
            · have : ¬ 7 + (6 * p' + q') = 7 + (6 * p + q) := by omega
              simp only [nk_up, this, and_false, if_false, setR, w2]
              exact y3 p' q' hp' hq'
          · have : ¬ 43 = 7 + (6 * p + q) := by omega
            simp only [nk_up, this, and_false, if_false]
            exact y4
        · rw [if_neg c4] at hz
          subst hz
          rw [inr_no (fun w => c4 ⟨w.1, by omega⟩)]
          exact out D3 _ _ rfl t3 (fun a b w1 w2 => fr3 a b w1)
    · rw [if_neg (fun w => c2 w.1)] at hz
      rw [inr_no (fun w => c2 (by omega))]
      refine hK _ _ _ _ (nk_bt (by decide) ?_)
      refine hK _ _ _ _ (hK _ _ _ _ (show K _ _ _ _ from ?_))
      subst hz
      exact out D2 _ _ rfl t2 (fun a b w1 w2 => by rw [f2 a b w1, f1 a b w1])
  · rw [if_neg c1] at hz
    rw [inr_no (fun w => c1 (by omega))]
    refine hK _ _ _ _ (nk_bf (by decide) ?_)
    refine hK _ _ _ _ (hK _ _ _ _ (hK _ _ _ _ (hK _ _ _ _ (show K _ _ _ _ from ?_))))
    refine hK _ _ _ _ (nk_bt (by decide) ?_)
    refine hK _ _ _ _ (hK _ _ _ _ (show K _ _ _ _ from ?_))
    subst hz
    exact out D1 _ _ rfl t1 (fun a b w1 w2 => f1 a b w1)
/-- what the reference's verb says of the class's words -/
theorem vbn_cls {b e : Nat} (ht : TM D L tx b e) :
    (∀ k, vbn (WVn L tx b e) = some k → k < 4 → isV tx b e 0 = false ∧ isV tx b e 1 = false ∧ isV tx b e 2 = false ∧ kw tx b e = some k) ∧ (vbn (WVn L tx b e) = some 4 → isV tx b e 0 = false ∧ isV tx b e 1 = false ∧ isV tx b e 2 = true) ∧ (vbn (WVn L tx b e) = some 5 → isV tx b e 0 = true) ∧ (vbn (WVn L tx b e) = some 6 → isV tx b e 0 = false ∧ isV tx b e 1 = true) ∧ (vbn (WVn L tx b e) = none → isV tx b e 0 = false ∧ isV tx b e 1 = false ∧ isV tx b e 2 = false ∧ kw tx b e = none) ∧ (∀ k, vbn (WVn L tx b e) = some k → k ≤ 6) := by
  obtain ⟨-, -, -, -, -, -, a7, a8, a9, a10⟩ := ht
  have iff : ∀ k, k < 7 → isV tx b e k = decide (WVn L tx b e = ww k) := fun k hk => by
    have := isV_iff (k := k) hk a7 a8 a9 a10
    by_cases q : WVn L tx b e = ww k
    · rw [decide_eq_true q]; exact this.mpr q
    · rw [decide_eq_false q]; exact Bool.eq_false_iff.mpr (fun w => q (this.mp w))
  unfold kw
  rw [iff 0 (by decide), iff 1 (by decide), iff 2 (by decide), iff 3 (by decide), iff 4 (by decide), iff 5 (by decide), iff 6 (by decide)]
  generalize WVn L tx b e = W
  have w0 : ww 0 = 46 := by decide
  have w1 : ww 1 = 365647 := by decide
  have w2 : ww 2 = 275320391 := by decide
  have w3 : ww 3 = 8740238 := by decide
  have w4 : ww 4 = 279844694 := by decide
  have w5 : ww 5 = 14092 := by decide
  have w6 : ww 6 = 168932 := by decide
  unfold vbn
  rw [w0, w1, w2, w3, w4, w5, w6]
  by_cases q3 : W = 8740238
  · subst q3; decide
  by_cases q4 : W = 279844694
  · subst q4; decide
  by_cases q5 : W = 14092
  · subst q5; decide
  by_cases q6 : W = 168932
  · subst q6; decide
  by_cases q2 : W = 275320391
  · subst q2; decide
  by_cases q0 : W = 46
  · subst q0; decide
  by_cases q1 : W = 365647
  · subst q1; decide
  simp [q0, q1, q2, q3, q4, q5, q6]
end NKO
