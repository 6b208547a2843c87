/-! ===== fault, season ===== -/
theorem tk_le {L : Nat} {tx : Nat → Nat} {j : Nat} (hL : L ≤ 160) (hj : j ≤ L) : tokB L tx j ≤ L ∧ tokE L tx j ≤ L := by
  obtain ⟨q1, q2, q3, q4, q5, q6⟩ := tok_ok (tx := tx) hL hj
  exact ⟨q2, q4⟩
theorem cls_le {L : Nat} {tx : Nat → Nat} {dr : Dr} {b e : Nat} (hL : L ≤ 160) (hb : b ≤ L) (he : e ≤ L) : (cls L tx dr b e).2.2.1 ≤ L ∧ (cls L tx dr b e).2.2.2 ≤ L := by
  have k1 := tk_le (tx := tx) hL he
  have k2 := tk_le (tx := tx) hL k1.2
  have k3 := tk_le (tx := tx) hL k2.2
  have k4 := tk_le (tx := tx) hL k3.2
  unfold cls
  split
  · split
    · split
      · split
        · exact k4
        · exact k3
      · exact k2
    · exact k1
  · split
    · split
      · exact k2
      · exact k1
    · split
      · exact k1
      · split
        · exact ⟨hb, he⟩
        · split
          · exact k1
          · exact ⟨hb, he⟩
theorem cls_ev {L : Nat} {tx : Nat → Nat} {dr : Dr} {b e : Nat} : (cls L tx dr b e).2.1.2.2.2.2 = dr.2.2.2.2 := by
  unfold cls
  split
  · split
    · split
      · split <;> rfl
      · rfl
    · rfl
  · split
    · split <;> rfl
    · split
      · rfl
      · split
        · rfl
        · split <;> rfl
theorem rd_ok {L : Nat} {tx : Nat → Nat} (hL : L ≤ 160) : ∀ m b0 dr j c, b0 ≤ L → j ≤ L → WD dr → (rd L tx m b0 dr j c).2.1 ≤ L ∧ WD (rd L tx m b0 dr j c).2.2.1 ∧ (rd L tx m b0 dr j c).2.2.1.2.2.2.2 = dr.2.2.2.2
  | 0, b0, dr, j, c, hb, hj, hw => ⟨hb, hw, rfl⟩
  | m + 1, b0, dr, j, c, hb, hj, hw => by
    have k1 := tk_le (tx := tx) hL hj
    have k2 := cls_le (tx := tx) (dr := dr) hL k1.1 k1.2
    have k3 := WD_cls (L := L) (tx := tx) (b := tokB L tx j) (e := tokE L tx j) hw
    have k4 := cls_ev (L := L) (tx := tx) (dr := dr) (b := tokB L tx j) (e := tokE L tx j)
    rw [rd]
    split
    · split
      · exact ⟨k2.1, k3, k4⟩
      · split
        · obtain ⟨r1, r2, r3⟩ := rd_ok hL m _ _ _ (c + 1) k2.1 k2.2 k3
          exact ⟨r1, r2, r3.trans k4⟩
        · exact ⟨k2.1, k3, k4⟩
    · exact ⟨k2.1, k3, k4⟩
section NKO
variable {S : nk_Sc} {d : Nat} {D : nk_D} {P : nk_P} {L : Nat} {tx : Nat → Nat}
theorem sm_readClause {b e : Nat} {dr : Dr} {z : Bool × Dr × Nat × Nat} (ht : TM D L tx b e) (hm : MD D dr) (hn : dr.1 ≤ 6) (hz : cls L tx dr b e = z)
    (h : ∀ D' e', (z.1 = false → TM D' L tx z.2.2.1 z.2.2.2) → (z.1 = true → (∃ b', TM D' L tx b' e') ∧ tokB L tx e' = z.2.2.1 ∧ tokE L tx e' = z.2.2.2 ∧ MD D' z.2.1) → (∀ a b, ¬ (a = 52 ∧ (b = 4 ∨ b = 5 ∨ b = 6 ∨ b = 7)) → a ≠ 56 → D' a b = D a b) → P (some (.int (bI z.1))) D') : nk_run S (d + 6) 87 [.ref 52] D P := by
  obtain ⟨v1, v2, v3, v4, v5, v6⟩ := vbn_cls ht
  have h64 := p64 hn
  refine nk_go (M := (6, yX6_readClause, cX6_readClause, 3, (some .boolean), false, 0, nk_T87)) rfl rfl (Nat.le_of_ble_eq_true rfl) (fun K hK => ?_)
  show K 0 [some (.ref 52), none, none] [] D
  refine hK _ _ _ _ (show K _ _ _ _ from ?_)
  refine hK _ _ _ _ (nk_stV rfl rfl rfl rfl ?_)
  refine sm_verb ht ?_
  cases hv : vbn (WVn L tx b e) with
  | none =>
    obtain ⟨a0, a1, a2, a3⟩ := v5 hv
    unfold cls at hz
    rw [if_neg (by rw [a0]; decide), if_neg (by rw [a1]; decide), if_neg (by rw [a2]; decide), a3] at hz
    simp only at hz ⊢
    subst hz
    refine hK _ _ _ _ (hK _ _ _ _ (show K _ _ _ _ from ?_))
    refine hK _ _ _ _ (nk_bf (by decide) ?_)
    refine hK _ _ _ _ (show K _ _ _ _ from ?_)
    exact hK _ _ _ _ (And.intro rfl (h D e (fun _ => ht) (fun w => by cases w) (fun _ _ _ _ => rfl)))
  | some k =>
    have k6 := v6 k hv
    simp only
    refine hK _ _ _ _ (hK _ _ _ _ (show K _ _ _ _ from ?_))
    refine hK _ _ _ _ (nk_bt (nI_le (by omega) (by omega)) ?_)
    refine hK _ _ _ _ (hK _ _ _ _ (show K _ _ _ _ from ?_))
    refine hK _ _ _ _ (nk_ge (by omega) (by omega) (fun c4 => ?_) (fun c4 => ?_))
    · refine hK _ _ _ _ (hK _ _ _ _ (show K _ _ _ _ from ?_))
      refine hK _ _ _ _ (nk_ne (by omega) (by omega) (fun c5 => ?_) (fun c5 => ?_))
      · refine hK _ _ _ _ (hK _ _ _ _ (show K _ _ _ _ from ?_))
        refine hK _ _ _ _ (nk_ne (by omega) (by omega) (fun c6 => ?_) (fun c6 => ?_))
        · -- room
          have : k = 6 := by omega
          subst this
          obtain ⟨a0, a1⟩ := v4 hv
          unfold cls at hz
          rw [if_neg (by rw [a0]; decide), if_pos a1] at hz
          have p64' : 2 ^ dr.1 < 65 := by omega
          have hi := nI_m1 ⟨2 ^ dr.1, p64'⟩
          simp only at hi
          refine hK _ _ _ _ (hK _ _ _ _ (hK _ _ _ _ (hK _ _ _ _ (hK _ _ _ _ (nk_GR rfl rfl rfl (hK _ _ _ _ (show K _ _ _ _ from ?_)))))))
          refine hK _ _ _ _ (nk_AL rfl rfl (j := 0) rfl (by decide) (show K _ _ _ _ from ?_))
          rw [hm.1]
          refine hK _ _ _ _ (hK _ _ _ _ (hK _ _ _ _ (show K _ _ _ _ from ?_)))
          rw [nk_one (by omega)]
          refine hK _ _ _ _ (nk_stV rfl rfl rfl rfl ?_)
          refine sm_number (lo := 0) ht (by omega) (by rw [hi]; omega) (fun D1 t1 f1 => ?_)
          have x1 := MD_of (D' := D1) (fun b => f1 56 b (by omega)) hm
          have n1 := num_lt t1.2.2.2.2.2.2.2.2.2
          rw [hi]
          show K 69 _ _ _
          refine hK _ _ _ _ (hK _ _ _ _ (hK _ _ _ _ (nk_GR rfl rfl rfl (hK _ _ _ _ (hK _ _ _ _ (show K _ _ _ _ from ?_))))))
          by_cases c1 : num L tx (tokB L tx e) (tokE L tx e) < 2 ^ dr.1
          · rw [if_pos c1] at hz
            subst hz
            rw [inr_yes ⟨by omega, by omega⟩]
            refine hK _ _ _ _ (nk_bt (nI_le (by omega) (by omega)) ?_)
            refine hK _ _ _ _ (show K _ _ _ _ from ?_)
            refine hK _ _ _ _ (nk_AS rfl rfl (j := 43) rfl (by decide) (show K _ _ _ _ from ?_))
            refine hK _ _ _ _ (show K _ _ _ _ from ?_)
            refine hK _ _ _ _ (nk_bf (nI_pos (by omega)) ?_)
            refine hK _ _ _ _ (hK _ _ _ _ (show K _ _ _ _ from ?_))
            refine hK _ _ _ _ (And.intro rfl (h _ (tokE L tx e) (fun w => by cases w) (fun _ => ⟨⟨_, TM_of (fun j _ => by simp [nk_up]) (fun b => by simp [nk_up]) t1⟩, rfl, rfl, ?_⟩) (fun a b w1 w2 => by simp [nk_up, w2, f1 a b w1])))
            obtain ⟨y1, y2, y3, y4⟩ := x1
            refine ⟨by simp only [nk_up, show ¬ (0 = 43) by omega, and_false, if_false]; exact y1, fun p' hp' => ?_, fun p' q' hp' hq' => ?_, by simp [nk_up]⟩
            · have hp' : p' < dr.1 := hp'
              have : ¬ 1 + p' = 43 := by omega
              simp only [nk_up, this, and_false, if_false]
              exact y2 p' hp'
            · have hp' : p' < dr.1 := hp'
              have hq' : q' < dr.1 := hq'
              have : ¬ 7 + (6 * p' + q') = 43 := by omega
              simp only [nk_up, this, and_false, if_false]
              exact y3 p' q' hp' hq'
          · rw [if_neg c1] at hz
            subst hz
            rw [inr_no (fun w => c1 (by omega))]
            refine hK _ _ _ _ (nk_bf (by decide) ?_)
            refine hK _ _ _ _ (hK _ _ _ _ (nk_GR rfl rfl rfl (hK _ _ _ _ (show K _ _ _ _ from ?_))))
            refine hK _ _ _ _ (nk_AL rfl rfl (j := 43) rfl (by decide) (show K _ _ _ _ from ?_))
            refine hK _ _ _ _ (show K _ _ _ _ from ?_)
            refine hK _ _ _ _ (nk_AS rfl rfl (j := 43) rfl (by decide) (show K _ _ _ _ from ?_))
            refine hK _ _ _ _ (show K _ _ _ _ from ?_)
            refine hK _ _ _ _ (nk_bt (by decide) ?_)
            refine hK _ _ _ _ (show K _ _ _ _ from ?_)
            exact hK _ _ _ _ (And.intro rfl (h _ e (fun _ => TM_of (fun j _ => by simp [nk_up]) (fun b => by simp [nk_up]) t1) (fun w => by cases w) (fun a b w1 w2 => by simp [nk_up, w2, f1 a b w1])))
        · subst c6
          refine hK _ _ _ _ (show K _ _ _ _ from ?_)
          refine hK _ _ _ _ (nk_stV rfl rfl rfl rfl ?_)
          refine sm_readAs ht hm hn (v3 hv) hz (fun D1 e' g1 g2 g3 => ?_)
          exact hK _ _ _ _ (And.intro (nk_narB _) (h D1 e' g1 g2 g3))
      · -- season
        subst c5
        obtain ⟨a0, a1, a2⟩ := v2 hv
        unfold cls at hz
        rw [if_neg (by rw [a0]; decide), if_neg (by rw [a1]; decide), if_pos a2] at hz
        subst hz
        refine hK _ _ _ _ (hK _ _ _ _ (nk_GR rfl rfl rfl (hK _ _ _ _ (hK _ _ _ _ (show K _ _ _ _ from ?_)))))
        refine hK _ _ _ _ (nk_AS rfl rfl (j := 0) rfl (by decide) (show K _ _ _ _ from ?_))
        refine hK _ _ _ _ (hK _ _ _ _ (nk_GR rfl rfl rfl (hK _ _ _ _ (hK _ _ _ _ (show K _ _ _ _ from ?_)))))
        refine hK _ _ _ _ (nk_AS rfl rfl (j := 43) rfl (by decide) (show K _ _ _ _ from ?_))
        refine hK _ _ _ _ (show K _ _ _ _ from ?_)
        refine hK _ _ _ _ (And.intro rfl (h _ e (fun w => by cases w) (fun _ => ⟨⟨b, TM_of (fun j _ => by simp [nk_up]) (fun b => by simp [nk_up]) ht⟩, rfl, rfl, ?_⟩) (fun a b w1 w2 => by simp [nk_up, w2])))
        exact ⟨by simp [nk_up], fun p hp => absurd hp (Nat.not_lt_zero p), fun p q hp => absurd hp (Nat.not_lt_zero p), by simp [nk_up]⟩
    · -- a person
      obtain ⟨a0, a1, a2, a3⟩ := v1 k hv c4
      unfold cls at hz
      rw [if_neg (by rw [a0]; decide), if_neg (by rw [a1]; decide), if_neg (by rw [a2]; decide), a3] at hz
      simp only at hz
      refine hK _ _ _ _ (hK _ _ _ _ (show K _ _ _ _ from ?_))
      refine hK _ _ _ _ (nk_stV rfl rfl rfl rfl ?_)
      refine sm_readPerson hm hn (fun q => ?_) (fun D1 q m1 f1 => ?_)
      · rw [if_neg (by omega)] at hz
        subst hz
        exact hK _ _ _ _ (And.intro rfl (h D e (fun _ => ht) (fun w => by cases w) (fun _ _ _ _ => rfl)))
      · rw [if_pos q] at hz
        subst hz
        exact hK _ _ _ _ (And.intro rfl (h D1 e (fun w => by cases w) (fun _ => ⟨⟨b, TM_of (fun j _ => f1 52 j (by omega)) (fun b => f1 55 b (by omega)) ht⟩, rfl, rfl, m1⟩) (fun a b w1 w2 => f1 a b w2)))
theorem sm_readText {dr : Dr} {z : Bool × Nat × Dr × Nat} (hl : MKL D L tx) (hw : WD dr) (hk : MK D dr.1 dr.2.1) (hmt : MT D dr.1 dr.2.2) (hz : rd L tx 14 0 dr 0 0 = z)
    (h : ∀ D', (z.1 = false → D' 52 7 = nI z.2.1) → (z.1 = true → D' 52 9 = nI z.2.2.2 ∧ MD D' z.2.2.1) → (∀ a b, ¬ (a = 52 ∧ (b = 4 ∨ b = 5 ∨ b = 6 ∨ b = 7 ∨ b = 9)) → a ≠ 56 → D' a b = D a b) → P (some (.int (bI z.1))) D') : nk_run S (d + 7) 88 [.ref 52] D P := by
  have hL := hl.2.1
  refine nk_go (M := (6, yX6_readText, cX6_readText, 2, (some .boolean), false, 0, nk_T88)) rfl rfl (Nat.le_of_ble_eq_true rfl) (fun K hK => ?_)
  show K 0 [some (.ref 52), none] [] D
  refine hK _ _ _ _ (hK _ _ _ _ (hK _ _ _ _ (nk_PI rfl rfl rfl (hK _ _ _ _ (hK _ _ _ _ (hK _ _ _ _ (nk_PI rfl rfl rfl (hK _ _ _ _ (hK _ _ _ _ (show K _ _ _ _ from ?_))))))))))
  have f0 : ∀ a b, ¬ (a = 52 ∧ (b = 4 ∨ b = 5 ∨ b = 6 ∨ b = 7 ∨ b = 9)) → nk_up (nk_up D 52 4 (nI 0)) 52 9 (nI 0) a b = D a b := fun a b q => by
    have n1 : ¬ (a = 52 ∧ b = 4) := by omega
    have n2 : ¬ (a = 52 ∧ b = 9) := by omega
    simp only [nk_up, n1, n2, if_false]
  have s4 : nk_up (nk_up D 52 4 (nI 0)) 52 9 (nI 0) 52 4 = nI 0 := by simp [nk_up]
  have s9 : nk_up (nk_up D 52 4 (nI 0)) 52 9 (nI 0) 52 9 = nI 0 := by simp [nk_up]
  generalize nk_up (nk_up D 52 4 (nI 0)) 52 9 (nI 0) = D0 at f0 s4 s9 ⊢
  have loop : ∀ m c b0 j dr D1, c + (m + 1) = 14 → j ≤ L → WD dr → rd L tx (m + 1) b0 dr j c = z → D1 52 4 = nI j → D1 52 9 = nI c → MD D1 dr → (∀ a b, ¬ (a = 52 ∧ (b = 4 ∨ b = 5 ∨ b = 6 ∨ b = 7 ∨ b = 9)) → a ≠ 56 → D1 a b = D a b) → ∀ x1, K 36 [some (.ref 52), x1] [] D1 := by
    intro m
    induction m with
    | zero =>
      intro c b0 j dr D1 hc hj hw hr h4 h9 hm fr x1
      have hl1 : MKL D1 L tx := MKL_of (fr 52 3 (by omega) (by omega)) (fun b => fr 55 b (by omega) (by omega)) hl
      rw [rd] at hr
      refine hK _ _ _ _ (show K _ _ _ _ from ?_)
      refine hK _ _ _ _ (nk_stV rfl rfl rfl rfl ?_)
      refine sm_nextToken hl1 hj h4 (fun D2 t2 f2 => ?_)
      have m2 := MD_of (D' := D2) (fun b => f2 56 b (by omega)) hm
      have k3 := WD_cls (L := L) (tx := tx) (b := tokB L tx j) (e := tokE L tx j) hw
      have k1 := tk_le (tx := tx) hL hj
      have k2 := cls_le (tx := tx) (dr := dr) hL k1.1 k1.2
      show K 40 _ _ _
      refine hK _ _ _ _ (show K _ _ _ _ from ?_)
      refine hK _ _ _ _ (nk_stV rfl rfl rfl rfl ?_)
      refine sm_readClause t2 m2 hw.1 rfl (fun D3 e' g1 g2 f3 => ?_)
      generalize cls L tx dr (tokB L tx j) (tokE L tx j) = y at hr g1 g2 k2 k3 ⊢
      have fr3 : ∀ a b, ¬ (a = 52 ∧ (b = 4 ∨ b = 5 ∨ b = 6 ∨ b = 7 ∨ b = 9)) → a ≠ 56 → D3 a b = D a b := fun a b w1 w2 => by rw [f3 a b (by omega) w2, f2 a b (by omega), fr a b w1 w2]
      have c3 : D3 52 9 = nI c := by rw [f3 52 9 (by omega) (by omega), f2 52 9 (by omega)]; exact h9
      refine hK _ _ _ _ (nk_bne (fun w => ?_) (fun w => ?_))
      · rw [if_pos w] at hr
        obtain ⟨⟨b', t3⟩, e1, e2, m3⟩ := g2 w
        refine hK _ _ _ _ (hK _ _ _ _ (hK _ _ _ _ (nk_GI rfl rfl rfl (hK _ _ _ _ (hK _ _ _ _ (hK _ _ _ _ (nk_PI rfl rfl rfl (show K _ _ _ _ from ?_))))))))
        rw [c3, nk_add]
        have t4 : TM (nk_up D3 52 9 (nI (c + 1))) L tx b' e' := TM_of (fun j hj => by simp [nk_up, hj]) (fun b => by simp [nk_up]) t3
        have m4 : MD (nk_up D3 52 9 (nI (c + 1))) y.2.1 := MD_of (fun b => by simp [nk_up]) m3
        have c4 : nk_up D3 52 9 (nI (c + 1)) 52 9 = nI (c + 1) := by simp [nk_up]
        have fr4 : ∀ a b, ¬ (a = 52 ∧ (b = 4 ∨ b = 5 ∨ b = 6 ∨ b = 7 ∨ b = 9)) → a ≠ 56 → nk_up D3 52 9 (nI (c + 1)) a b = D a b := fun a b w1 w2 => by
          have n1 : ¬ (a = 52 ∧ b = 9) := by omega
          simp only [nk_up, n1, if_false]
          exact fr3 a b w1 w2
        generalize nk_up D3 52 9 (nI (c + 1)) = D4 at t4 m4 c4 fr4 ⊢
        refine hK _ _ _ _ (show K _ _ _ _ from ?_)
        refine hK _ _ _ _ (nk_stV rfl rfl rfl rfl ?_)
        refine sm_next t4 (fun D5 t5 f5 => ?_)
        rw [e1, e2] at t5
        have m5 := MD_of (D' := D5) (fun b => f5 56 b (by omega)) m4
        have c5 : D5 52 9 = nI (c + 1) := by rw [f5 52 9 (by omega)]; exact c4
        have fr5 : ∀ a b, ¬ (a = 52 ∧ (b = 4 ∨ b = 5 ∨ b = 6 ∨ b = 7 ∨ b = 9)) → a ≠ 56 → D5 a b = D a b := fun a b w1 w2 => by rw [f5 a b (by omega)]; exact fr4 a b w1 w2
        have hs := srt_le (L := L) (tx := tx) (j := y.2.2.1)
        obtain ⟨q1, q2, q3, q4, q5, q6, q7⟩ := t5
        have no : y.2.2.1 < L → (z.1 = false ∧ z.2.1 = y.2.2.1) → K 98 [some (.ref 52), x1] [] D5 := by
          intro _ hz2
          have h := h D5 (fun _ => by rw [hz2.2]; exact q3) (fun w => by rw [hz2.1] at w; cases w) fr5
          rw [hz2.1] at h
          refine hK _ _ _ _ (show K _ _ _ _ from ?_)
          exact hK _ _ _ _ (And.intro rfl (h))
        show K 63 _ _ _
        refine hK _ _ _ _ (hK _ _ _ _ (nk_GI rfl rfl rfl (hK _ _ _ _ (show K _ _ _ _ from ?_))))
        rw [q4]
        by_cases c6 : L ≤ y.2.2.1
        · rw [if_pos c6] at hr
          subst hr
          refine hK _ _ _ _ (nk_nf ((tkn3 hs).mpr (srt_end.mpr c6)) ?_)
          refine hK _ _ _ _ (show K _ _ _ _ from ?_)
          exact hK _ _ _ _ (And.intro rfl (h D5 (fun w => by cases w) (fun _ => ⟨c5, m5⟩) fr5))
        · rw [if_neg c6] at hr
          have h255 := hl.2.2 y.2.2.1 (by omega)
          refine hK _ _ _ _ (nk_nt (fun w => c6 (srt_end.mp ((tkn3 hs).mp w))) ?_)
          refine hK _ _ _ _ (hK _ _ _ _ (nk_GI rfl rfl rfl (show K _ _ _ _ from ?_)))
          rw [q4]
          by_cases c7 : srt L tx y.2.2.1 = 2
          · refine hK _ _ _ _ (nk_nf ((tkn0 hs).mpr c7) ?_)
            refine hK _ _ _ _ (hK _ _ _ _ (nk_GI rfl rfl rfl (hK _ _ _ _ (show K _ _ _ _ from ?_))))
            rw [q6 c7]
            refine hK _ _ _ _ (nk_ne (by omega) (by omega) (fun c8 => ?_) (fun c8 => ?_))
            · rw [if_neg c8] at hr
              subst hr
              exact no (by omega) ⟨rfl, rfl⟩
            · rw [if_pos c8] at hr
              refine hK _ _ _ _ (hK _ _ _ _ (nk_GI rfl rfl rfl (hK _ _ _ _ (show K _ _ _ _ from ?_))))
              rw [c5]
              refine hK _ _ _ _ (nk_nf (by rw [show c + 1 = 14 by omega]) ?_)
              rw [rd] at hr
              subst hr
              exact no (by omega) ⟨rfl, rfl⟩
          · refine hK _ _ _ _ (nk_nt (fun w => c7 ((tkn0 hs).mp w)) ?_)
            have c8 : ¬ tx y.2.2.1 = 59 := fun w => c7 (by
              unfold srt
              rw [if_pos (by omega), if_neg (by omega), if_neg (by omega)])
            rw [if_neg c8] at hr
            subst hr
            exact no (by omega) ⟨rfl, rfl⟩
      · rw [if_neg (by rw [w]; decide)] at hr
        subst hr
        have t3 := g1 w
        refine hK _ _ _ _ (show K _ _ _ _ from ?_)
        exact hK _ _ _ _ (And.intro rfl (h D3 (fun _ => t3.2.2.1) (fun w => by cases w) fr3))
    | succ m ih =>
      intro c b0 j dr D1 hc hj hw hr h4 h9 hm fr x1
      have hl1 : MKL D1 L tx := MKL_of (fr 52 3 (by omega) (by omega)) (fun b => fr 55 b (by omega) (by omega)) hl
      rw [rd] at hr
      refine hK _ _ _ _ (show K _ _ _ _ from ?_)
      refine hK _ _ _ _ (nk_stV rfl rfl rfl rfl ?_)
      refine sm_nextToken hl1 hj h4 (fun D2 t2 f2 => ?_)
      have m2 := MD_of (D' := D2) (fun b => f2 56 b (by omega)) hm
      have k3 := WD_cls (L := L) (tx := tx) (b := tokB L tx j) (e := tokE L tx j) hw
      have k1 := tk_le (tx := tx) hL hj
      have k2 := cls_le (tx := tx) (dr := dr) hL k1.1 k1.2
      show K 40 _ _ _
      refine hK _ _ _ _ (show K _ _ _ _ from ?_)
      refine hK _ _ _ _ (nk_stV rfl rfl rfl rfl ?_)
      refine sm_readClause t2 m2 hw.1 rfl (fun D3 e' g1 g2 f3 => ?_)
      generalize cls L tx dr (tokB L tx j) (tokE L tx j) = y at hr g1 g2 k2 k3 ⊢
      have fr3 : ∀ a b, ¬ (a = 52 ∧ (b = 4 ∨ b = 5 ∨ b = 6 ∨ b = 7 ∨ b = 9)) → a ≠ 56 → D3 a b = D a b := fun a b w1 w2 => by rw [f3 a b (by omega) w2, f2 a b (by omega), fr a b w1 w2]
      have c3 : D3 52 9 = nI c := by rw [f3 52 9 (by omega) (by omega), f2 52 9 (by omega)]; exact h9
      refine hK _ _ _ _ (nk_bne (fun w => ?_) (fun w => ?_))
      · rw [if_pos w] at hr
        obtain ⟨⟨b', t3⟩, e1, e2, m3⟩ := g2 w
        refine hK _ _ _ _ (hK _ _ _ _ (hK _ _ _ _ (nk_GI rfl rfl rfl (hK _ _ _ _ (hK _ _ _ _ (hK _ _ _ _ (nk_PI rfl rfl rfl (show K _ _ _ _ from ?_))))))))
        rw [c3, nk_add]
        have t4 : TM (nk_up D3 52 9 (nI (c + 1))) L tx b' e' := TM_of (fun j hj => by simp [nk_up, hj]) (fun b => by simp [nk_up]) t3
        have m4 : MD (nk_up D3 52 9 (nI (c + 1))) y.2.1 := MD_of (fun b => by simp [nk_up]) m3
        have c4 : nk_up D3 52 9 (nI (c + 1)) 52 9 = nI (c + 1) := by simp [nk_up]
        have fr4 : ∀ a b, ¬ (a = 52 ∧ (b = 4 ∨ b = 5 ∨ b = 6 ∨ b = 7 ∨ b = 9)) → a ≠ 56 → nk_up D3 52 9 (nI (c + 1)) a b = D a b := fun a b w1 w2 => by
          have n1 : ¬ (a = 52 ∧ b = 9) := by omega
          simp only [nk_up, n1, if_false]
          exact fr3 a b w1 w2
        generalize nk_up D3 52 9 (nI (c + 1)) = D4 at t4 m4 c4 fr4 ⊢
        refine hK _ _ _ _ (show K _ _ _ _ from ?_)
        refine hK _ _ _ _ (nk_stV rfl rfl rfl rfl ?_)
        refine sm_next t4 (fun D5 t5 f5 => ?_)
        rw [e1, e2] at t5
        have m5 := MD_of (D' := D5) (fun b => f5 56 b (by omega)) m4
        have c5 : D5 52 9 = nI (c + 1) := by rw [f5 52 9 (by omega)]; exact c4
        have fr5 : ∀ a b, ¬ (a = 52 ∧ (b = 4 ∨ b = 5 ∨ b = 6 ∨ b = 7 ∨ b = 9)) → a ≠ 56 → D5 a b = D a b := fun a b w1 w2 => by rw [f5 a b (by omega)]; exact fr4 a b w1 w2
        have hs := srt_le (L := L) (tx := tx) (j := y.2.2.1)
        obtain ⟨q1, q2, q3, q4, q5, q6, q7⟩ := t5
        have no : y.2.2.1 < L → (z.1 = false ∧ z.2.1 = y.2.2.1) → K 98 [some (.ref 52), x1] [] D5 := by
          intro _ hz2
          have h := h D5 (fun _ => by rw [hz2.2]; exact q3) (fun w => by rw [hz2.1] at w; cases w) fr5
          rw [hz2.1] at h
          refine hK _ _ _ _ (show K _ _ _ _ from ?_)
          exact hK _ _ _ _ (And.intro rfl (h))
        show K 63 _ _ _
        refine hK _ _ _ _ (hK _ _ _ _ (nk_GI rfl rfl rfl (hK _ _ _ _ (show K _ _ _ _ from ?_))))
        rw [q4]
        by_cases c6 : L ≤ y.2.2.1
        · rw [if_pos c6] at hr
          subst hr
          refine hK _ _ _ _ (nk_nf ((tkn3 hs).mpr (srt_end.mpr c6)) ?_)
          refine hK _ _ _ _ (show K _ _ _ _ from ?_)
          exact hK _ _ _ _ (And.intro rfl (h D5 (fun w => by cases w) (fun _ => ⟨c5, m5⟩) fr5))
        · rw [if_neg c6] at hr
          have h255 := hl.2.2 y.2.2.1 (by omega)
          refine hK _ _ _ _ (nk_nt (fun w => c6 (srt_end.mp ((tkn3 hs).mp w))) ?_)
          refine hK _ _ _ _ (hK _ _ _ _ (nk_GI rfl rfl rfl (show K _ _ _ _ from ?_)))
          rw [q4]
          by_cases c7 : srt L tx y.2.2.1 = 2
          · refine hK _ _ _ _ (nk_nf ((tkn0 hs).mpr c7) ?_)
            refine hK _ _ _ _ (hK _ _ _ _ (nk_GI rfl rfl rfl (hK _ _ _ _ (show K _ _ _ _ from ?_))))
            rw [q6 c7]
            refine hK _ _ _ _ (nk_ne (by omega) (by omega) (fun c8 => ?_) (fun c8 => ?_))
            · rw [if_neg c8] at hr
              subst hr
              exact no (by omega) ⟨rfl, rfl⟩
            · rw [if_pos c8] at hr
              refine hK _ _ _ _ (hK _ _ _ _ (nk_GI rfl rfl rfl (hK _ _ _ _ (show K _ _ _ _ from ?_))))
              rw [c5]
              refine hK _ _ _ _ (nk_nt (fun w => by have := (nI_eq (by omega) (by omega)).mp w; omega) ?_)
              exact ih (c + 1) _ _ _ D5 (by omega) k2.2 k3 hr q2 c5 m5 fr5 _
          · refine hK _ _ _ _ (nk_nt (fun w => c7 ((tkn0 hs).mp w)) ?_)
            have c8 : ¬ tx y.2.2.1 = 59 := fun w => c7 (by
              unfold srt
              rw [if_pos (by omega), if_neg (by omega), if_neg (by omega)])
            rw [if_neg c8] at hr
            subst hr
            exact no (by omega) ⟨rfl, rfl⟩
      · rw [if_neg (by rw [w]; decide)] at hr
        subst hr
        have t3 := g1 w
        refine hK _ _ _ _ (show K _ _ _ _ from ?_)
        exact hK _ _ _ _ (And.intro rfl (h D3 (fun _ => t3.2.2.1) (fun w => by cases w) fr3))
  have copy : ∀ m j D1, j + m = 44 → (∀ i, i < j → D1 56 i = D 53 i) → D1 52 4 = nI 0 → D1 52 9 = nI 0 → (∀ a b, ¬ (a = 52 ∧ (b = 4 ∨ b = 5 ∨ b = 6 ∨ b = 7 ∨ b = 9)) → a ≠ 56 → D1 a b = D a b) → K 12 [some (.ref 52), some (.int (nI j))] [] D1 := by
    intro m
    induction m with
    | zero =>
      intro j D1 hj g1 g4 g9 gf
      have hj : j = 44 := by omega
      subst hj
      refine hK _ _ _ _ (hK _ _ _ _ (show K _ _ _ _ from ?_))
      refine hK _ _ _ _ (nk_bt (nI_le (Nat.le_refl _) (by omega)) ?_)
      refine loop 13 0 0 0 dr D1 (by omega) (by omega) hw hz g4 g9 ⟨?_, fun p hp => ?_, fun p q hp hq => ?_, ?_⟩ gf _
      · rw [g1 0 (by omega)]; exact hk.2.1
      · have := hw.1
        rw [g1 _ (by omega)]; exact (hk.2.2 p hp).1
      · have := hw.1
        rw [g1 _ (by omega)]; exact hmt.1 p q hp hq
      · rw [g1 43 (by omega)]; exact hmt.2
    | succ m ih =>
      intro j D1 hj g1 g4 g9 gf
      refine hK _ _ _ _ (hK _ _ _ _ (show K _ _ _ _ from ?_))
      refine hK _ _ _ _ (nk_bf (nI_ge (by omega) (by omega)) ?_)
      refine hK _ _ _ _ (hK _ _ _ _ (nk_GR rfl rfl rfl (hK _ _ _ _ (hK _ _ _ _ (hK _ _ _ _ (nk_GR rfl rfl rfl (hK _ _ _ _ (show K _ _ _ _ from ?_))))))))
      refine hK _ _ _ _ (nk_AL rfl rfl (j := j) rfl (by omega) (show K _ _ _ _ from ?_))
      refine hK _ _ _ _ (nk_AS rfl rfl (j := j) rfl (by omega) (show K _ _ _ _ from ?_))
      refine hK _ _ _ _ (hK _ _ _ _ (show K _ _ _ _ from ?_))
      rw [nk_add]
      refine ih (j + 1) _ (by omega) (fun i hi => ?_) (by simp [nk_up, g4]) (by simp [nk_up, g9]) (fun a b w1 w2 => by simp [nk_up, w2, gf a b w1 w2])
      by_cases e : i = j
      · simp [nk_up, e, gf 53 j (by omega) (by omega)]
      · simp [nk_up, e, g1 i (by omega)]
  exact copy 44 0 D0 (by omega) (fun i hi => absurd hi (by omega)) s4 s9 (fun a b w1 w2 => f0 a b w1)
end NKO
