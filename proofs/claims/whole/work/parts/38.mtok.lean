/-! ===== the reference reads: tokens, words, numbers ===== -/
def lL (a : Nat) : Int64 := Int64.ofNat a
theorem lL_toInt {a : Nat} (h : a < 2 ^ 63) : (lL a).toInt = (a : Int) := Int64.toInt_ofNat_of_lt h
theorem lL_eq {a b : Nat} (ha : a < 2 ^ 63) (hb : b < 2 ^ 63) : lL a = lL b ↔ a = b := by
  constructor
  · intro h
    have := congrArg Int64.toInt h
    rw [lL_toInt ha, lL_toInt hb] at this
    omega
  · intro h
    rw [h]
theorem lL_add (a b : Nat) : lL a + lL b = lL (a + b) := (Int64.ofNat_add a b).symm
theorem lL_mul (a b : Nat) : lL a * lL b = lL (a * b) := (Int64.ofNat_mul a b).symm
theorem lL_of {a : Nat} (h : a < 2 ^ 31) : (nI a).toInt64 = lL a := by
  apply Int64.toInt_inj.mp
  rw [Int32.toInt_toInt64, nI_toInt h, lL_toInt (by omega)]
theorem lL_sub {a : Nat} (h : 96 ≤ a) : lL a - 97 + 1 = lL (a - 96) := by
  have e : lL a = lL (a - 96) + lL 96 := by rw [lL_add]; congr 1; omega
  rw [e, Int64.sub_eq_add_neg, Int64.add_assoc, Int64.add_assoc]
  have : lL 96 + (-97 + 1) = 0 := by decide
  rw [this, Int64.add_zero]
theorem lg_eq (x y : Int64) : lg_cmp x y = nI 0 ↔ x = y := by
  unfold lg_cmp
  by_cases h1 : x > y
  · simp only [h1, if_true]
    have : y.toInt < x.toInt := Int64.lt_iff_toInt_lt.mp h1
    exact ⟨fun h => absurd h (by decide), fun h => by rw [h] at this; omega⟩
  · simp only [h1, if_false]
    by_cases h2 : x = y
    · simp only [h2, if_true]
      exact ⟨fun _ => trivial, fun _ => by decide⟩
    · simp only [h2, if_false]
      exact ⟨fun h => absurd h (by decide), fun h => h.elim⟩
def tkn (s : Nat) : Nat := if s = 0 then 1 else if s = 1 then 2 else if s = 2 then 0 else 3
def MKL (D : nk_D) (L : Nat) (tx : Nat → Nat) : Prop := ML D L tx ∧ L ≤ 160 ∧ ∀ j, j < L → tx j < 256
theorem MKL_of {D D' : nk_D} {L : Nat} {tx : Nat → Nat} (h0 : D' 52 3 = D 52 3) (h1 : ∀ b, D' 55 b = D 55 b) (h : MKL D L tx) : MKL D' L tx := ⟨ML_of h0 h1 h.1, h.2⟩
def NS (D D1 : nk_D) (pl tk : Nat) (vl : Int32) (bg : Nat) : Prop := D1 52 4 = nI pl ∧ D1 52 5 = nI tk ∧ D1 52 6 = vl ∧ D1 52 7 = nI bg ∧ ∀ a b, ¬ (a = 52 ∧ (b = 4 ∨ b = 5 ∨ b = 6 ∨ b = 7)) → D1 a b = D a b
theorem NS_4 {D D1 : nk_D} {pl tk bg : Nat} {vl : Int32} {x : Nat} (h : NS D D1 pl tk vl bg) : NS D (nk_up D1 52 4 (nI x)) x tk vl bg := by
  obtain ⟨h1, h2, h3, h4, h5⟩ := h
  exact ⟨by simp [nk_up], by simp [nk_up, h2], by simp [nk_up, h3], by simp [nk_up, h4], fun a b q => by
    have : ¬ (a = 52 ∧ b = 4) := by omega
    simp only [nk_up, this, if_false]
    exact h5 a b q⟩
theorem NS_5 {D D1 : nk_D} {pl tk bg : Nat} {vl : Int32} {x : Nat} (h : NS D D1 pl tk vl bg) : NS D (nk_up D1 52 5 (nI x)) pl x vl bg := by
  obtain ⟨h1, h2, h3, h4, h5⟩ := h
  exact ⟨by simp [nk_up, h1], by simp [nk_up], by simp [nk_up, h3], by simp [nk_up, h4], fun a b q => by
    have : ¬ (a = 52 ∧ b = 5) := by omega
    simp only [nk_up, this, if_false]
    exact h5 a b q⟩
theorem NS_6 {D D1 : nk_D} {pl tk bg : Nat} {vl x : Int32} (h : NS D D1 pl tk vl bg) : NS D (nk_up D1 52 6 x) pl tk x bg := by
  obtain ⟨h1, h2, h3, h4, h5⟩ := h
  exact ⟨by simp [nk_up, h1], by simp [nk_up, h2], by simp [nk_up], by simp [nk_up, h4], fun a b q => by
    have : ¬ (a = 52 ∧ b = 6) := by omega
    simp only [nk_up, this, if_false]
    exact h5 a b q⟩
def TM (D : nk_D) (L : Nat) (tx : Nat → Nat) (b e : Nat) : Prop := MKL D L tx ∧ D 52 4 = nI e ∧ D 52 7 = nI b ∧ D 52 5 = nI (tkn (srt L tx b)) ∧ (srt L tx b = 1 → D 52 6 = nI (num L tx b e)) ∧ (srt L tx b = 2 → D 52 6 = nI (tx b)) ∧ b ≤ e ∧ e ≤ L ∧ (b < L → b < e) ∧ (b < L → ∀ i, b ≤ i → i < e → srt L tx i = srt L tx b)
theorem srt_let {L : Nat} {tx : Nat → Nat} {j : Nat} (h : j < L) : srt L tx j = 0 ↔ (97 ≤ tx j ∧ tx j ≤ 122) := by
  constructor
  · intro q; exact (srt0 q).2
  · intro q
    unfold srt
    rw [if_pos h, if_pos q]
theorem srt_dig {L : Nat} {tx : Nat → Nat} {j : Nat} (h : j < L) : srt L tx j = 1 ↔ (48 ≤ tx j ∧ tx j ≤ 57) := by
  constructor
  · intro q; exact (srt1 q).2
  · intro q
    unfold srt
    rw [if_pos h, if_neg (by omega), if_pos q]
section NKO
variable {S : nk_Sc} {d : Nat} {D : nk_D} {P : nk_P} {L : Nat} {tx : Nat → Nat}
theorem sm_letterAt {j : Nat} (hl : MKL D L tx) (hj : j < 1000) (h : P (some (.int (nI (if j < L then tx j else 0)))) D) : nk_run S (d + 1) 79 [.ref 52, .int (nI j)] D P := by
  obtain ⟨⟨h1, h2⟩, hL, h256⟩ := hl
  refine nk_go (M := (6, yX6_letterAt, cX6_letterAt, 2, (some .int), false, 1, nk_T79)) rfl rfl (Nat.le_of_ble_eq_true rfl) (fun K hK => ?_)
  show K 0 [some (.ref 52), some (.int (nI j))] [] D
  refine hK _ _ _ _ (hK _ _ _ _ (hK _ _ _ _ (nk_GI rfl rfl rfl (show K _ _ _ _ from ?_))))
  rw [h1]
  refine hK _ _ _ _ (nk_ge (by omega) (by omega) (fun e => ?_) (fun e => ?_))
  · rw [if_neg (by omega)] at h
    refine hK _ _ _ _ (show K _ _ _ _ from ?_)
    exact hK _ _ _ _ (And.intro rfl (h))
  · rw [if_pos e] at h
    refine hK _ _ _ _ (hK _ _ _ _ (nk_GR rfl rfl rfl (hK _ _ _ _ (show K _ _ _ _ from ?_))))
    refine hK _ _ _ _ (nk_AL rfl rfl (j := j) rfl (by omega) (show K _ _ _ _ from ?_))
    rw [h2 j e]
    refine hK _ _ _ _ (show K _ _ _ _ from ?_)
    exact hK _ _ _ _ (And.intro rfl (h))
theorem sm_nextToken {j : Nat} (hl : MKL D L tx) (hj : j ≤ L) (hp : D 52 4 = nI j) (h : ∀ D', TM D' L tx (tokB L tx j) (tokE L tx j) → (∀ a b, ¬ (a = 52 ∧ (b = 4 ∨ b = 5 ∨ b = 6 ∨ b = 7)) → D' a b = D a b) → P none D') : nk_run S (d + 3) 80 [.ref 52] D P := by
  have hl' := hl
  obtain ⟨⟨h1, h2⟩, hL, h256⟩ := hl
  have lt : ∀ i, (if i < L then tx i else 0) < 256 := fun i => by
    split
    · next q => exact h256 i q
    · omega
  refine nk_go (M := (6, yX6_nextToken, cX6_nextToken, 1, none, false, 0, nk_T80)) rfl rfl (Nat.le_of_ble_eq_true rfl) (fun K hK => ?_)
  show K 0 [some (.ref 52)] [] D
  -- what comes behind the spaces
  have body : ∀ i D1, i ≤ L → j ≤ i → (∀ k, j ≤ k → k < i → tx k = 32) → (i < L → tx i ≠ 32) → D1 52 4 = nI i → (∀ a b, ¬ (a = 52 ∧ (b = 4 ∨ b = 5 ∨ b = 6 ∨ b = 7)) → D1 a b = D a b) → K 26 [some (.ref 52)] [] D1 := by
    intro i D1 hi hji hsp hns g4 gf
    have mkl : ∀ D2 pl tk vl bg, NS D D2 pl tk vl bg → MKL D2 L tx := fun D2 pl tk vl bg q => MKL_of (q.2.2.2.2 _ _ (by omega)) (fun b => q.2.2.2.2 _ _ (by omega)) hl'
    have m3 : ∀ D2 pl tk vl bg, NS D D2 pl tk vl bg → D2 52 3 = nI L := fun D2 pl tk vl bg q => by rw [q.2.2.2.2 _ _ (by omega)]; exact h1
    -- the end
    have fin : ∀ D2 e vl, NS D D2 e (tkn (srt L tx i)) vl i → tokB L tx j = i ∧ tokE L tx j = e → (srt L tx i = 1 → vl = nI (num L tx i e)) → (srt L tx i = 2 → vl = nI (tx i)) → K 251 [some (.ref 52)] [] D2 := by
      intro D2 e vl ns he v1 v2
      refine hK _ _ _ _ (And.intro rfl (h D2 ?_ ns.2.2.2.2))
      obtain ⟨q1, q2, q3, q4, q5, q6⟩ := tok_ok (L := L) (tx := tx) (j := j) hL (by omega)
      simp only [he.1, he.2] at q3 q4 q5 q6 ⊢
      exact ⟨mkl _ _ _ _ _ ns, ns.1, ns.2.2.2.1, ns.2.1, fun w => by rw [ns.2.2.1]; exact v1 w, fun w => by rw [ns.2.2.1]; exact v2 w, q3, q4, q5, q6⟩
    have tail : ∀ D2 e tk vl, NS D D2 e tk vl i → (tk = 1 ∨ tk = 3 → tk = tkn (srt L tx i) ∧ (tokB L tx j = i ∧ tokE L tx j = e) ∧ srt L tx i ≠ 1 ∧ srt L tx i ≠ 2) → (tk = 2 → srt L tx i = 1 ∧ (tokB L tx j = i ∧ tokE L tx j = e) ∧ i ≤ e ∧ e ≤ L ∧ (e - i ≤ 2 → vl = nI (dv tx i (e - i)))) → (tk = 0 → srt L tx i = 2 ∧ e = i ∧ i < L ∧ (tokB L tx j = i ∧ tokE L tx j = i + 1)) → tk ≤ 3 → K 193 [some (.ref 52)] [] D2 := by
      intro D2 e tk vl ns t13 t2 t0 htk
      refine hK _ _ _ _ (hK _ _ _ _ (nk_GI rfl rfl rfl (hK _ _ _ _ (show K _ _ _ _ from ?_))))
      rw [ns.2.1]
      refine hK _ _ _ _ (nk_ne (by omega) (by omega) (fun c => ?_) (fun c => ?_))
      · refine hK _ _ _ _ (hK _ _ _ _ (nk_GI rfl rfl rfl (show K _ _ _ _ from ?_)))
        rw [ns.2.1]
        refine hK _ _ _ _ (nk_ne (by omega) (by omega) (fun c2 => ?_) (fun c2 => ?_))
        · obtain ⟨a1, a2, a3, a4⟩ := t13 (by omega)
          rw [a1] at ns
          exact fin D2 e vl ns a2 (fun w => absurd w a3) (fun w => absurd w a4)
        · obtain ⟨a1, rfl, a3, a4⟩ := t0 c2
          refine hK _ _ _ _ (hK _ _ _ _ (hK _ _ _ _ (nk_GR rfl rfl rfl (hK _ _ _ _ (hK _ _ _ _ (nk_GI rfl rfl rfl (show K _ _ _ _ from ?_)))))))
          rw [ns.1]
          refine hK _ _ _ _ (nk_AL rfl rfl (j := e) rfl (by omega) (show K _ _ _ _ from ?_))
          rw [(mkl _ _ _ _ _ ns).1.2 e a3]
          have ns2 := NS_6 (x := nI (tx e)) ns
          refine hK _ _ _ _ (nk_PI rfl rfl rfl (show K _ _ _ _ from ?_))
          have e4 := ns2.1
          generalize nk_up D2 52 6 (nI (tx e)) = D3 at ns2 e4 ⊢
          refine hK _ _ _ _ (hK _ _ _ _ (hK _ _ _ _ (nk_GI rfl rfl rfl (hK _ _ _ _ (hK _ _ _ _ (hK _ _ _ _ (nk_PI rfl rfl rfl (show K _ _ _ _ from ?_))))))))
          rw [e4, nk_add]
          have ns3 := NS_4 (x := e + 1) ns2
          rw [c2] at ns3
          exact fin _ (e + 1) _ (by rw [a1]; exact ns3) a4 (fun w => by rw [a1] at w; cases w) (fun _ => rfl)
      · obtain ⟨a1, a2, a3, a4, a5⟩ := t2 c
        have rest : ∀ D3 vl, NS D D3 e tk vl i → vl = nI (num L tx i e) → K 221 [some (.ref 52)] [] D3 := by
          intro D3 vl ns3 hv
          refine hK _ _ _ _ (hK _ _ _ _ (nk_GI rfl rfl rfl (show K _ _ _ _ from ?_)))
          rw [ns3.2.1]
          refine hK _ _ _ _ (nk_ne (by omega) (by omega) (fun c2 => ?_) (fun c2 => by omega))
          rw [show tk = tkn (srt L tx i) by rw [c, a1]; rfl] at ns3
          exact fin D3 e vl ns3 a2 (fun _ => hv) (fun w => by rw [a1] at w; cases w)
        refine hK _ _ _ _ (hK _ _ _ _ (nk_GI rfl rfl rfl (hK _ _ _ _ (hK _ _ _ _ (nk_GI rfl rfl rfl (hK _ _ _ _ (hK _ _ _ _ (show K _ _ _ _ from ?_))))))))
        rw [ns.1, ns.2.2.2.1, nk_sub a3]
        refine hK _ _ _ _ (nk_le (by omega) (by omega) (fun c3 => ?_) (fun c3 => ?_))
        · refine rest D2 vl ns ?_
          unfold num
          rw [if_pos ⟨a1, c3⟩]
          exact a5 c3
        · refine hK _ _ _ _ (hK _ _ _ _ (hK _ _ _ _ (nk_PI rfl rfl rfl (show K _ _ _ _ from ?_))))
          refine rest _ _ (NS_6 ns) ?_
          unfold num
          rw [if_neg (by omega)]
    -- digits
    have digs : ∀ m D2 e tk vl, e + m = L → i ≤ e → NS D D2 e tk (nI vl) i → vl ≤ 999 → (tk = 0 ∧ e = i ∧ vl = 0 ∧ i < L ∧ srt L tx i ≠ 0 ∨ tk = 2 ∧ i < e ∧ srt L tx i = 1 ∧ (∀ k, i ≤ k → k < e → srt L tx k = 1) ∧ (e - i ≤ 2 → vl = dv tx i (e - i))) → K 106 [some (.ref 52)] [] D2 := by
      intro m
      induction m with
      | zero =>
        intro D2 e tk vl he hie ns hvl hcase
        rcases hcase with ⟨a1, a2, a3, a4, a5⟩ | ⟨a1, a2, a3, a4, a5⟩
        · omega
        · subst a1
          refine hK _ _ _ _ (hK _ _ _ _ (nk_GI rfl rfl rfl (hK _ _ _ _ (show K _ _ _ _ from ?_))))
          rw [ns.2.1]
          refine hK _ _ _ _ (nk_bf (by decide) ?_)
          refine hK _ _ _ _ (hK _ _ _ _ (hK _ _ _ _ (nk_GI rfl rfl rfl (show K _ _ _ _ from ?_))))
          rw [ns.1]
          refine hK _ _ _ _ (nk_stV rfl rfl rfl rfl ?_)
          refine sm_letterAt (mkl _ _ _ _ _ ns) (by omega) ?_
          refine hK _ _ _ _ (hK _ _ _ _ (hK _ _ _ _ (show K _ _ _ _ from ?_)))
          refine hK _ _ _ _ (nk_stS rfl rfl rfl rfl ?_)
          refine sm_in2 (a := 48) (b := 57) rfl rfl ?_
          rw [if_neg (show ¬ e < L by omega)]
          refine hK _ _ _ _ (nk_beq (fun _ => ?_) (fun w => absurd w (by decide)))
          refine tail D2 e 2 _ ns (fun w => by omega) (fun _ => ⟨a3, tok_of hL hji hi hsp hns (fun w => by omega) (fun _ w => by omega) (fun _ _ => ⟨a2, by omega, fun k k1 k2 => by rw [a4 k k1 k2, a3], fun w => by omega⟩), by omega, by omega, fun w => by rw [a5 w]⟩) (fun w => by omega) (by omega)
      | succ m ih =>
        intro D2 e tk vl he hie ns hvl hcase
        have heL : e < L := by omega
        have htk : tk = 0 ∨ tk = 2 := by rcases hcase with a | a <;> omega
        have h255 := h256 e heL
        refine hK _ _ _ _ (hK _ _ _ _ (nk_GI rfl rfl rfl (hK _ _ _ _ (show K _ _ _ _ from ?_))))
        rw [ns.2.1]
        refine hK _ _ _ _ (nk_bf (fun w => by have := (nI_eq (by omega) (by omega)).mp w; omega) ?_)
        refine hK _ _ _ _ (hK _ _ _ _ (hK _ _ _ _ (nk_GI rfl rfl rfl (show K _ _ _ _ from ?_))))
        rw [ns.1]
        refine hK _ _ _ _ (nk_stV rfl rfl rfl rfl ?_)
        refine sm_letterAt (mkl _ _ _ _ _ ns) (by omega) ?_
        refine hK _ _ _ _ (hK _ _ _ _ (hK _ _ _ _ (show K _ _ _ _ from ?_)))
        refine hK _ _ _ _ (nk_stS rfl rfl rfl rfl ?_)
        refine sm_in2 (a := 48) (b := 57) rfl rfl ?_
        rw [if_pos heL, nI_toInt (show tx e < 2 ^ 31 by omega)]
        refine hK _ _ _ _ (nk_beq (fun w => ?_) (fun w => ?_))
        · have w := of_decide_eq_false w
          have hne : srt L tx e ≠ 1 := fun q => w (by have := (srt_dig heL).mp q; omega)
          rcases hcase with ⟨a1, a2, a3, a4, a5⟩ | ⟨a1, a2, a3, a4, a5⟩
          · subst a2
            have n3 : srt L tx e ≠ 3 := fun q => Nat.not_le_of_lt heL (srt_end.mp q)
            have hs2 : srt L tx e = 2 := by
              have := srt_le (L := L) (tx := tx) (j := e)
              omega
            exact tail D2 e tk _ ns (fun w => by omega) (fun w => by omega) (fun _ => ⟨hs2, rfl, heL, tok_of hL hji hi hsp hns (fun w => by omega) (fun _ _ => rfl) (fun _ w => absurd hs2 w)⟩) (by omega)
          · exact tail D2 e tk _ ns (fun w => by omega) (fun _ => ⟨a3, tok_of hL hji hi hsp hns (fun w => by omega) (fun _ w => by omega) (fun _ _ => ⟨a2, by omega, fun k k1 k2 => by rw [a4 k k1 k2, a3], fun _ w => hne (by rw [w, a3])⟩), by omega, by omega, fun w => by rw [a5 w]⟩) (fun w => by omega) (by omega)
        · have w := of_decide_eq_true w
          have hd : srt L tx e = 1 := (srt_dig heL).mpr (by omega)
          have i1 : srt L tx i = 1 := by
            rcases hcase with ⟨a1, a2, a3, a4, a5⟩ | ⟨a1, a2, a3, a4, a5⟩
            · rw [← a2]; exact hd
            · exact a3
          have all : ∀ k, i ≤ k → k < e + 1 → srt L tx k = 1 := fun k k1 k2 => by
            rcases hcase with ⟨a1, a2, a3, a4, a5⟩ | ⟨a1, a2, a3, a4, a5⟩
            · rw [show k = e by omega]; exact hd
            · by_cases q : k = e
              · rw [q]; exact hd
              · exact a4 k k1 (by omega)
          have step : ∀ v2, v2 ≤ 999 → (e + 1 - i ≤ 2 → v2 = dv tx i (e + 1 - i)) → K 172 [some (.ref 52)] [.int (nI v2), .ref 52] D2 := by
            intro v2 hv2 hdv
            refine hK _ _ _ _ (nk_PI rfl rfl rfl (show K _ _ _ _ from ?_))
            have ns2 := NS_6 (x := nI v2) ns
            generalize nk_up D2 52 6 (nI v2) = D3 at ns2 ⊢
            refine hK _ _ _ _ (hK _ _ _ _ (hK _ _ _ _ (nk_PI rfl rfl rfl (show K _ _ _ _ from ?_))))
            have ns3 := NS_5 (x := 2) ns2
            have e4 := ns3.1
            generalize nk_up D3 52 5 (nI 2) = D4 at ns3 e4 ⊢
            refine hK _ _ _ _ (hK _ _ _ _ (hK _ _ _ _ (nk_GI rfl rfl rfl (hK _ _ _ _ (hK _ _ _ _ (hK _ _ _ _ (nk_PI rfl rfl rfl (hK _ _ _ _ (show K _ _ _ _ from ?_)))))))))
            rw [e4, nk_add]
            exact ih _ (e + 1) 2 v2 (by omega) (by omega) (NS_4 ns3) hv2 (Or.inr ⟨rfl, by omega, i1, all, hdv⟩)
          have hval : e - i ≤ 2 → vl = dv tx i (e - i) := by
            rcases hcase with ⟨a1, a2, a3, a4, a5⟩ | ⟨a1, a2, a3, a4, a5⟩
            · intro _; rw [a3, a2, Nat.sub_self]; rfl
            · exact a5
          refine hK _ _ _ _ (hK _ _ _ _ (hK _ _ _ _ (nk_GI rfl rfl rfl (hK _ _ _ _ (show K _ _ _ _ from ?_)))))
          rw [ns.2.2.1]
          refine hK _ _ _ _ (nk_le (by omega) (by omega) (fun c => ?_) (fun c => ?_))
          · refine hK _ _ _ _ (hK _ _ _ _ (hK _ _ _ _ (nk_GI rfl rfl rfl (hK _ _ _ _ (hK _ _ _ _ (hK _ _ _ _ (nk_GR rfl rfl rfl (hK _ _ _ _ (hK _ _ _ _ (nk_GI rfl rfl rfl (show K _ _ _ _ from ?_)))))))))))
            rw [ns.2.2.1, ns.1]
            refine hK _ _ _ _ (nk_AL rfl rfl (j := e) rfl (by omega) (show K _ _ _ _ from ?_))
            rw [(mkl _ _ _ _ _ ns).1.2 e heL]
            refine hK _ _ _ _ (hK _ _ _ _ (hK _ _ _ _ (show K _ _ _ _ from ?_)))
            rw [nk_mul, nk_add, nk_sub (by omega)]
            refine step _ (by omega) (fun q => ?_)
            rw [show e + 1 - i = (e - i) + 1 by omega, dv, ← hval (by omega), show i + (e - i) = e by omega]
            omega
          · refine hK _ _ _ _ (hK _ _ _ _ (nk_GI rfl rfl rfl (hK _ _ _ _ (show K _ _ _ _ from ?_))))
            rw [ns.2.2.1]
            refine step vl hvl (fun q => ?_)
            exfalso
            have hv := hval (by omega)
            have := dv_lt (L := L) (tx := tx) (b := i) (e := e) (fun k k1 k2 => all k k1 (by omega)) (by omega)
            rcases (show e - i = 0 ∨ e - i = 1 by omega) with q2 | q2
            · rw [q2] at hv
              simp only [dv] at hv
              omega
            · rw [q2] at hv
              have := srt1 (all i (by omega) (by omega))
              simp only [dv, Nat.add_zero, Nat.zero_mul, Nat.zero_add] at hv
              omega
    -- letters
    have lets : ∀ m D2 e tk, e + m = L → i ≤ e → NS D D2 e tk (nI 0) i → (tk = 0 ∧ e = i ∧ i < L ∨ tk = 1 ∧ i < e ∧ (∀ k, i ≤ k → k < e → srt L tx k = 0)) → K 59 [some (.ref 52)] [] D2 := by
      intro m
      have out1 : ∀ D2 e, NS D D2 e 1 (nI 0) i → i < e → e ≤ L → (∀ k, i ≤ k → k < e → srt L tx k = 0) → (e < L → srt L tx e ≠ 0) → K 106 [some (.ref 52)] [] D2 := by
        intro D2 e ns a2 heL a3 a4
        have i0 := a3 i (by omega) (by omega)
        refine hK _ _ _ _ (hK _ _ _ _ (nk_GI rfl rfl rfl (hK _ _ _ _ (show K _ _ _ _ from ?_))))
        rw [ns.2.1]
        refine hK _ _ _ _ (nk_bt rfl ?_)
        exact tail D2 e 1 _ ns (fun _ => ⟨by rw [i0]; rfl, tok_of hL hji hi hsp hns (fun w => by omega) (fun _ w => by omega) (fun _ _ => ⟨a2, heL, fun k k1 k2 => by rw [a3 k k1 k2, i0], fun w => by rw [i0]; exact a4 w⟩), by omega, by omega⟩) (fun w => by omega) (fun w => by omega) (by omega)
      induction m with
      | zero =>
        intro D2 e tk he hie ns hcase
        rcases hcase with ⟨a1, a2, a3⟩ | ⟨a1, a2, a3⟩
        · omega
        · subst a1
          refine hK _ _ _ _ (hK _ _ _ _ (nk_GI rfl rfl rfl (hK _ _ _ _ (show K _ _ _ _ from ?_))))
          rw [ns.2.1]
          refine hK _ _ _ _ (nk_bf (nI_ge (by omega) (by omega)) ?_)
          refine hK _ _ _ _ (hK _ _ _ _ (hK _ _ _ _ (nk_GI rfl rfl rfl (show K _ _ _ _ from ?_))))
          rw [ns.1]
          refine hK _ _ _ _ (nk_stV rfl rfl rfl rfl ?_)
          refine sm_letterAt (mkl _ _ _ _ _ ns) (by omega) ?_
          refine hK _ _ _ _ (hK _ _ _ _ (hK _ _ _ _ (show K _ _ _ _ from ?_)))
          refine hK _ _ _ _ (nk_stS rfl rfl rfl rfl ?_)
          refine sm_in2 (a := 97) (b := 122) rfl rfl ?_
          rw [if_neg (show ¬ e < L by omega)]
          refine hK _ _ _ _ (nk_beq (fun _ => ?_) (fun w => absurd w (by decide)))
          exact out1 D2 e ns a2 (by omega) a3 (fun w => by omega)
      | succ m ih =>
        intro D2 e tk he hie ns hcase
        have heL : e < L := by omega
        have htk : tk = 0 ∨ tk = 1 := by rcases hcase with a | a <;> omega
        have h255 := h256 e heL
        refine hK _ _ _ _ (hK _ _ _ _ (nk_GI rfl rfl rfl (hK _ _ _ _ (show K _ _ _ _ from ?_))))
        rw [ns.2.1]
        refine hK _ _ _ _ (nk_bf (nI_ge (by omega) (by omega)) ?_)
        refine hK _ _ _ _ (hK _ _ _ _ (hK _ _ _ _ (nk_GI rfl rfl rfl (show K _ _ _ _ from ?_))))
        rw [ns.1]
        refine hK _ _ _ _ (nk_stV rfl rfl rfl rfl ?_)
        refine sm_letterAt (mkl _ _ _ _ _ ns) (by omega) ?_
        refine hK _ _ _ _ (hK _ _ _ _ (hK _ _ _ _ (show K _ _ _ _ from ?_)))
        refine hK _ _ _ _ (nk_stS rfl rfl rfl rfl ?_)
        refine sm_in2 (a := 97) (b := 122) rfl rfl ?_
        rw [if_pos heL, nI_toInt (show tx e < 2 ^ 31 by omega)]
        refine hK _ _ _ _ (nk_beq (fun w => ?_) (fun w => ?_))
        · have w := of_decide_eq_false w
          have hne : srt L tx e ≠ 0 := fun q => w (by have := (srt_let heL).mp q; omega)
          rcases hcase with ⟨a1, a2, a3⟩ | ⟨a1, a2, a3⟩
          · subst a2
            exact digs (m + 1) D2 e tk 0 he hie ns (by omega) (Or.inl ⟨a1, rfl, rfl, heL, hne⟩)
          · subst a1
            exact out1 D2 e ns a2 (by omega) a3 (fun _ => hne)
        · have w := of_decide_eq_true w
          have hd : srt L tx e = 0 := (srt_let heL).mpr (by omega)
          refine hK _ _ _ _ (hK _ _ _ _ (hK _ _ _ _ (nk_PI rfl rfl rfl (show K _ _ _ _ from ?_))))
          have ns3 := NS_5 (x := 1) ns
          have e4 := ns3.1
          generalize nk_up D2 52 5 (nI 1) = D4 at ns3 e4 ⊢
          refine hK _ _ _ _ (hK _ _ _ _ (hK _ _ _ _ (nk_GI rfl rfl rfl (hK _ _ _ _ (hK _ _ _ _ (hK _ _ _ _ (nk_PI rfl rfl rfl (hK _ _ _ _ (show K _ _ _ _ from ?_)))))))))
          rw [e4, nk_add]
          refine ih _ (e + 1) 1 (by omega) (by omega) (NS_4 ns3) (Or.inr ⟨rfl, by omega, fun k k1 k2 => ?_⟩)
          rcases hcase with ⟨a1, a2, a3⟩ | ⟨a1, a2, a3⟩
          · rw [show k = e by omega]; exact hd
          · by_cases q : k = e
            · rw [q]; exact hd
            · exact a3 k k1 (by omega)
    have start : ∀ D2 tk, NS D D2 i tk (nI 0) i → (i < L → tk = 0) → (i = L → tk = 3) → K 59 [some (.ref 52)] [] D2 := by
      intro D2 tk ns c1 c2
      by_cases q : i < L
      · rw [c1 q] at ns
        exact lets (L - i) D2 i 0 (by omega) (Nat.le_refl _) ns (Or.inl ⟨rfl, rfl, q⟩)
      · have q : i = L := by omega
        rw [c2 q] at ns
        have s3 : srt L tx i = 3 := srt_end.mpr (by omega)
        refine hK _ _ _ _ (hK _ _ _ _ (nk_GI rfl rfl rfl (hK _ _ _ _ (show K _ _ _ _ from ?_))))
        rw [ns.2.1]
        refine hK _ _ _ _ (nk_bt (nI_le (by omega) (by omega)) ?_)
        refine hK _ _ _ _ (hK _ _ _ _ (nk_GI rfl rfl rfl (hK _ _ _ _ (show K _ _ _ _ from ?_))))
        rw [ns.2.1]
        refine hK _ _ _ _ (nk_bf (by decide) ?_)
        refine hK _ _ _ _ (hK _ _ _ _ (hK _ _ _ _ (nk_GI rfl rfl rfl (show K _ _ _ _ from ?_))))
        rw [ns.1]
        refine hK _ _ _ _ (nk_stV rfl rfl rfl rfl ?_)
        refine sm_letterAt (mkl _ _ _ _ _ ns) (by omega) ?_
        refine hK _ _ _ _ (hK _ _ _ _ (hK _ _ _ _ (show K _ _ _ _ from ?_)))
        refine hK _ _ _ _ (nk_stS rfl rfl rfl rfl ?_)
        refine sm_in2 (a := 48) (b := 57) rfl rfl ?_
        rw [if_neg (show ¬ i < L by omega)]
        refine hK _ _ _ _ (nk_beq (fun _ => ?_) (fun w => absurd w (by decide)))
        exact tail D2 i 3 _ ns (fun _ => ⟨by rw [s3]; rfl, tok_of hL hji hi hsp hns (fun w => w) (fun w => by omega) (fun w => by omega), by omega, by omega⟩) (fun w => by omega) (fun w => by omega) (by omega)
    refine hK _ _ _ _ (hK _ _ _ _ (hK _ _ _ _ (nk_GI rfl rfl rfl (hK _ _ _ _ (nk_PI rfl rfl rfl (show K _ _ _ _ from ?_))))))
    rw [g4]
    refine hK _ _ _ _ (hK _ _ _ _ (hK _ _ _ _ (nk_PI rfl rfl rfl (show K _ _ _ _ from ?_))))
    have ns0 : ∀ D3, D3 = nk_up (nk_up D1 52 7 (nI i)) 52 6 (nI 0) → D3 52 4 = nI i ∧ D3 52 6 = nI 0 ∧ D3 52 7 = nI i ∧ ∀ a b, ¬ (a = 52 ∧ (b = 4 ∨ b = 5 ∨ b = 6 ∨ b = 7)) → D3 a b = D a b := by
      intro D3 hD3
      subst hD3
      refine ⟨by simp [nk_up, g4], by simp [nk_up], by simp [nk_up], fun a b q => ?_⟩
      have n1 : ¬ (a = 52 ∧ b = 7) := by omega
      have n2 : ¬ (a = 52 ∧ b = 6) := by omega
      simp only [nk_up, n1, n2, if_false]
      exact gf a b q
    obtain ⟨b1, b2, b3, b4⟩ := ns0 _ rfl
    generalize nk_up (nk_up D1 52 7 (nI i)) 52 6 (nI 0) = D3 at b1 b2 b3 b4 ⊢
    have b0 : D3 52 3 = nI L := by rw [b4 _ _ (by omega)]; exact h1
    have nsx : ∀ x : Nat, NS D (nk_up D3 52 5 (nI x)) i x (nI 0) i := fun x => by
      refine ⟨by simp [nk_up, b1], by simp [nk_up], by simp [nk_up, b2], by simp [nk_up, b3], fun a b q => ?_⟩
      have : ¬ (a = 52 ∧ b = 5) := by omega
      simp only [nk_up, this, if_false]
      exact b4 a b q
    refine hK _ _ _ _ (hK _ _ _ _ (hK _ _ _ _ (nk_GI rfl rfl rfl (hK _ _ _ _ (hK _ _ _ _ (nk_GI rfl rfl rfl (show K _ _ _ _ from ?_)))))))
    rw [b1, b0]
    refine hK _ _ _ _ (nk_ne (by omega) (by omega) (fun c => ?_) (fun c => ?_))
    · refine hK _ _ _ _ (hK _ _ _ _ (nk_PI rfl rfl rfl (show K _ _ _ _ from ?_)))
      exact start _ 0 (nsx 0) (fun _ => rfl) (fun w => absurd w c)
    · refine hK _ _ _ _ (hK _ _ _ _ (hK _ _ _ _ (nk_PI rfl rfl rfl (show K _ _ _ _ from ?_))))
      exact start _ 3 (nsx 3) (fun w => by omega) (fun _ => rfl)
  have skip : ∀ m i D1, i + m = L → j ≤ i → (∀ k, j ≤ k → k < i → tx k = 32) → D1 52 4 = nI i → (∀ a b, ¬ (a = 52 ∧ (b = 4 ∨ b = 5 ∨ b = 6 ∨ b = 7)) → D1 a b = D a b) → K 0 [some (.ref 52)] [] D1 := by
    intro m
    induction m with
    | zero =>
      intro i D1 hi hji hsp g4 gf
      have hi : i = L := by omega
      have hl1 : MKL D1 L tx := MKL_of (gf _ _ (by omega)) (fun b => gf _ _ (by omega)) hl'
      refine hK _ _ _ _ (hK _ _ _ _ (hK _ _ _ _ (nk_GI rfl rfl rfl (show K _ _ _ _ from ?_))))
      rw [g4]
      refine hK _ _ _ _ (nk_stV rfl rfl rfl rfl ?_)
      refine sm_letterAt hl1 (by omega) ?_
      rw [if_neg (show ¬ i < L by omega)]
      refine hK _ _ _ _ (show K _ _ _ _ from ?_)
      refine hK _ _ _ _ (nk_nt (by decide) ?_)
      exact body i D1 (by omega) hji hsp (fun w => by omega) g4 gf
    | succ m ih =>
      intro i D1 hi hji hsp g4 gf
      have hl1 : MKL D1 L tx := MKL_of (gf _ _ (by omega)) (fun b => gf _ _ (by omega)) hl'
      have h255 := h256 i (by omega)
      refine hK _ _ _ _ (hK _ _ _ _ (hK _ _ _ _ (nk_GI rfl rfl rfl (show K _ _ _ _ from ?_))))
      rw [g4]
      refine hK _ _ _ _ (nk_stV rfl rfl rfl rfl ?_)
      refine sm_letterAt hl1 (by omega) ?_
      rw [if_pos (show i < L by omega)]
      refine hK _ _ _ _ (show K _ _ _ _ from ?_)
      refine hK _ _ _ _ (nk_ne (by omega) (by omega) (fun c => ?_) (fun c => ?_))
      · exact body i D1 (by omega) hji hsp (fun _ => c) g4 gf
      · refine hK _ _ _ _ (hK _ _ _ _ (hK _ _ _ _ (nk_GI rfl rfl rfl (hK _ _ _ _ (hK _ _ _ _ (hK _ _ _ _ (nk_PI rfl rfl rfl (hK _ _ _ _ (show K _ _ _ _ from ?_)))))))))
        rw [g4, nk_add]
        refine ih (i + 1) _ (by omega) (by omega) (fun k k1 k2 => ?_) (by simp [nk_up]) (fun a b q => ?_)
        · by_cases w : k = i
          · rw [w]; exact c
          · exact hsp k k1 (by omega)
        · have : ¬ (a = 52 ∧ b = 4) := by omega
          simp only [nk_up, this, if_false]
          exact gf a b q
  exact skip (L - j) j D (by omega) (Nat.le_refl _) (fun k k1 k2 => by omega) hp (fun _ _ _ => rfl)
end NKO
