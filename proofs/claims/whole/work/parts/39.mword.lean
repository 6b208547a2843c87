/-! ===== the reference reads: words, numbers ===== -/
def wv (f : Nat → Nat) : Nat → Nat
  | 0 => 0
  | m + 1 => 27 * wv f m + (f m - 96)
theorem wv_congr {f g : Nat → Nat} : ∀ m, (∀ i, i < m → f i = g i) → wv f m = wv g m
  | 0, _ => rfl
  | m + 1, h => by rw [wv, wv, wv_congr m (fun i hi => h i (by omega)), h m (by omega)]
theorem wv_inj {f g : Nat → Nat} : ∀ m m', (∀ i, i < m → 97 ≤ f i ∧ f i ≤ 122) → (∀ i, i < m' → 97 ≤ g i ∧ g i ≤ 122) → wv f m = wv g m' → m = m' ∧ ∀ i, i < m → f i = g i
  | 0, 0, _, _, _ => ⟨rfl, fun i hi => absurd hi (by omega)⟩
  | 0, m' + 1, _, hg, h => by
    rw [wv, wv] at h
    have := hg m' (by omega)
    omega
  | m + 1, 0, hf, _, h => by
    rw [wv, wv] at h
    have := hf m (by omega)
    omega
  | m + 1, m' + 1, hf, hg, h => by
    rw [wv, wv] at h
    have h1 := hf m (by omega)
    have h2 := hg m' (by omega)
    obtain ⟨rfl, e2⟩ := wv_inj m m' (fun i hi => hf i (by omega)) (fun i hi => hg i (by omega)) (by omega)
    refine ⟨rfl, fun i hi => ?_⟩
    by_cases q : i = m
    · rw [q]; omega
    · exact e2 i (by omega)
theorem wv_lt {f : Nat → Nat} : ∀ m, (∀ i, i < m → f i ≤ 122) → wv f m < 27 ^ m
  | 0, _ => by simp [wv]
  | m + 1, h => by
    have ih := wv_lt m (fun i hi => h i (by omega))
    have := h m (by omega)
    rw [wv, Nat.pow_succ]
    omega
def ww (k : Nat) : Nat := wv (wlt k) (wln k)
def WVn (L : Nat) (tx : Nat → Nat) (b e : Nat) : Nat := if srt L tx b = 0 then wv (fun i => tx (b + i)) (min 9 (e - b)) else 0
theorem mtc_iff {tx : Nat → Nat} {b : Nat} {w : Nat → Nat} : ∀ m, mtc tx b w m = true ↔ ∀ i, i < m → tx (b + i) = w i
  | 0 => ⟨fun _ i hi => absurd hi (by omega), fun _ => rfl⟩
  | m + 1 => by
    rw [mtc, Bool.and_eq_true, decide_eq_true_eq, mtc_iff m]
    constructor
    · rintro ⟨h1, h2⟩ i hi
      by_cases q : i = m
      · rw [q]; exact h2
      · exact h1 i (by omega)
    · intro h
      exact ⟨fun i hi => h i (by omega), h m (by omega)⟩
theorem wln_pos {k : Nat} (hk : k < 7) : 0 < wln k := by
  match k, hk with
  | 0, _ => decide
  | 1, _ => decide
  | 2, _ => decide
  | 3, _ => decide
  | 4, _ => decide
  | 5, _ => decide
  | 6, _ => decide
theorem wlt_ok {k : Nat} (hk : k < 7) : 0 < wln k ∧ wln k ≤ 6 ∧ ∀ i, i < wln k → 97 ≤ wlt k i ∧ wlt k i ≤ 122 := by
  obtain ⟨k1, k2, k3, k4, k5, k6, k7⟩ := str_k hk
  exact ⟨wln_pos hk, k5, fun i hi => (k7 i hi).2⟩
theorem ww_ne {k : Nat} (hk : k < 7) : ww k ≠ 0 ∧ ww k < 2 ^ 62 := by
  match k, hk with
  | 0, _ => decide
  | 1, _ => decide
  | 2, _ => decide
  | 3, _ => decide
  | 4, _ => decide
  | 5, _ => decide
  | 6, _ => decide
theorem isV_iff {L : Nat} {tx : Nat → Nat} {b e k : Nat} (hk : k < 7) (hbe : b ≤ e) (heL : e ≤ L) (hbl : b < L → b < e) (hall : b < L → ∀ i, b ≤ i → i < e → srt L tx i = srt L tx b) : isV tx b e k = true ↔ WVn L tx b e = ww k := by
  obtain ⟨l0, l6, lw⟩ := wlt_ok hk
  unfold isV isW
  rw [Bool.and_eq_true, decide_eq_true_eq, mtc_iff]
  unfold WVn
  by_cases q : srt L tx b = 0
  · have hb := (srt0 q).1
    have hl : ∀ i, i < e - b → 97 ≤ tx (b + i) ∧ tx (b + i) ≤ 122 := fun i hi => (srt0 (by rw [hall hb (b + i) (by omega) (by omega)]; exact q)).2
    rw [if_pos q]
    constructor
    · rintro ⟨h1, h2⟩
      rw [Nat.min_eq_right (by omega), h1]
      exact wv_congr _ h2
    · intro h
      obtain ⟨h1, h2⟩ := wv_inj _ _ (fun i hi => hl i (by omega)) lw h
      exact ⟨by omega, fun i hi => h2 i (by omega)⟩
  · rw [if_neg q]
    constructor
    · rintro ⟨h1, h2⟩
      have h3 := h2 0 l0
      have h4 := lw 0 l0
      rw [Nat.add_zero] at h3
      exact absurd ((srt_let (L := L) (tx := tx) (j := b) (by omega)).mpr (by omega)) q
    · intro h
      exact absurd h.symm (ww_ne hk).1
/-- what the first word of a clause says: the reference's number of it -/
def vbn (x : Nat) : Option Nat := if x = ww 3 then some 0 else if x = ww 4 then some 1 else if x = ww 5 then some 2 else if x = ww 6 then some 3 else if x = ww 2 then some 4 else if x = ww 0 then some 5 else if x = ww 1 then some 6 else none
section NKO
variable {S : nk_Sc} {d : Nat} {D : nk_D} {P : nk_P} {L : Nat} {tx : Nat → Nat}
theorem sm_wordOf {b e : Nat} (ht : TM D L tx b e) (h : P (some (.long (lL (WVn L tx b e)))) D) : nk_run S (d + 1) 81 [.ref 52] D P := by
  obtain ⟨⟨⟨t1, t2⟩, hL, h256⟩, t3, t4, t5, -, -, hbe, heL, hbl, hall⟩ := ht
  unfold WVn at h
  refine nk_go (M := (6, yX6_wordOf, cX6_wordOf, 4, (some .long), false, 0, nk_T81)) rfl rfl (Nat.le_of_ble_eq_true rfl) (fun K hK => ?_)
  show K 0 [some (.ref 52), none, none, none] [] D
  refine hK _ _ _ _ (hK _ _ _ _ (hK _ _ _ _ (hK _ _ _ _ (nk_GI rfl rfl rfl (hK _ _ _ _ (show K _ _ _ _ from ?_))))))
  rw [t4]
  have fin : ∀ (x : Int64) i, (srt L tx b = 0 → x = lL (wv (fun i => tx (b + i)) (min 9 (e - b)))) → K 52 [some (.ref 52), some (.long x), none, i] [] D := by
    intro x i hx
    have hsl := srt_le (L := L) (tx := tx) (j := b)
    refine hK _ _ _ _ (hK _ _ _ _ (nk_GI rfl rfl rfl (hK _ _ _ _ (show K _ _ _ _ from ?_))))
    rw [t5]
    by_cases q : srt L tx b = 0
    · rw [if_pos q] at h
      rw [q, hx q]
      refine hK _ _ _ _ (nk_nf rfl ?_)
      refine hK _ _ _ _ (hK _ _ _ _ (show K _ _ _ _ from ?_))
      exact hK _ _ _ _ (And.intro rfl (h))
    · rw [if_neg q] at h
      refine hK _ _ _ _ (nk_nt (fun w => ?_) ?_)
      · have : tkn (srt L tx b) = 1 := (nI_eq (by unfold tkn; split <;> (try split) <;> (try split) <;> omega) (by omega)).mp w
        unfold tkn at this
        rw [if_neg q] at this
        split at this
        · omega
        · split at this <;> omega
      · refine hK _ _ _ _ (show K _ _ _ _ from ?_)
        exact hK _ _ _ _ (And.intro rfl (h))
  have loop : ∀ m i (x : Int64), i + m = min 9 (e - b) → (srt L tx b = 0 → x = lL (wv (fun i => tx (b + i)) i)) → K 7 [some (.ref 52), some (.long x), none, some (.int (nI (b + i)))] [] D := by
    intro m
    induction m with
    | zero =>
      intro i x hi hx
      have hi : i = min 9 (e - b) := by omega
      refine hK _ _ _ _ (hK _ _ _ _ (hK _ _ _ _ (nk_GI rfl rfl rfl (show K _ _ _ _ from ?_))))
      rw [t3]
      refine hK _ _ _ _ (nk_ge (by omega) (by omega) (fun c => ?_) (fun c => ?_))
      · exact fin x _ (fun q => by rw [hx q, hi])
      · refine hK _ _ _ _ (hK _ _ _ _ (hK _ _ _ _ (nk_GI rfl rfl rfl (hK _ _ _ _ (hK _ _ _ _ (show K _ _ _ _ from ?_))))))
        rw [t4, nk_add]
        refine hK _ _ _ _ (nk_bt (nI_le (by omega) (by omega)) ?_)
        exact fin x _ (fun q => by rw [hx q, hi])
    | succ m ih =>
      intro i x hi hx
      have h255 := h256 (b + i) (by omega)
      refine hK _ _ _ _ (hK _ _ _ _ (hK _ _ _ _ (nk_GI rfl rfl rfl (show K _ _ _ _ from ?_))))
      rw [t3]
      refine hK _ _ _ _ (nk_bf (nI_ge (by omega) (by omega)) ?_)
      refine hK _ _ _ _ (hK _ _ _ _ (hK _ _ _ _ (nk_GI rfl rfl rfl (hK _ _ _ _ (hK _ _ _ _ (show K _ _ _ _ from ?_))))))
      rw [t4, nk_add]
      refine hK _ _ _ _ (nk_bf (nI_ge (by omega) (by omega)) ?_)
      refine hK _ _ _ _ (hK _ _ _ _ (hK _ _ _ _ (hK _ _ _ _ (hK _ _ _ _ (nk_GR rfl rfl rfl (hK _ _ _ _ (show K _ _ _ _ from ?_)))))))
      refine hK _ _ _ _ (nk_AL rfl rfl (j := b + i) rfl (by omega) (show K _ _ _ _ from ?_))
      rw [t2 (b + i) (by omega)]
      refine hK _ _ _ _ (hK _ _ _ _ (hK _ _ _ _ (hK _ _ _ _ (hK _ _ _ _ (hK _ _ _ _ (hK _ _ _ _ (hK _ _ _ _ (hK _ _ _ _ (show K _ _ _ _ from ?_)))))))))
      rw [lL_of (by omega), nk_add]
      refine ih (i + 1) _ (by omega) (fun q => ?_)
      have hc := (srt0 (by rw [hall (srt0 q).1 (b + i) (by omega) (by omega)]; exact q)).2
      rw [hx q, show (27 : Int64) = lL 27 from rfl, lL_mul, lL_add, lL_sub (by omega), wv]
      congr 1
      omega
  exact loop (min 9 (e - b)) 0 _ (by omega) (fun _ => rfl)
def stp (v c : Nat) : Nat := if c = 0 then v else v * 27 + (c - 96)
theorem stp1 {v c : Nat} (h : 97 ≤ c) (h2 : c < 256) : lL v * 27 + (nI c).toInt64 - 97 + 1 = lL (v * 27 + (c - 96)) := by
  rw [lL_of (by omega), show (27 : Int64) = lL 27 from rfl, lL_mul, lL_add, lL_sub (by omega)]
  congr 1
  omega
def okc (c : Nat) : Prop := c = 0 ∨ (97 ≤ c ∧ c < 256)
theorem sm_spelt {a b c e f g i : Nat} (h1 : 97 ≤ a ∧ a < 256) (h2 : okc b) (h3 : okc c) (h4 : okc e) (h5 : okc f) (h6 : okc g) (h7 : okc i) (h : P (some (.long (lL (stp (stp (stp (stp (stp (stp (a - 96) b) c) e) f) g) i)))) D) : nk_run S (d + 1) 82 [.int (nI a), .int (nI b), .int (nI c), .int (nI e), .int (nI f), .int (nI g), .int (nI i)] D P := by
  have z0 : (0 : Int64) * 27 = 0 := by decide
  refine nk_go (M := (6, yX6_spelt, cX6_spelt, 9, (some .long), true, 7, nk_T82)) rfl rfl (Nat.le_of_ble_eq_true rfl) (fun K hK => ?_)
  show K 0 [some (.int (nI a)), some (.int (nI b)), some (.int (nI c)), some (.int (nI e)), some (.int (nI f)), some (.int (nI g)), some (.int (nI i)), none, none] [] D
  refine hK _ _ _ _ (hK _ _ _ _ (hK _ _ _ _ (hK _ _ _ _ (hK _ _ _ _ (hK _ _ _ _ (show K _ _ _ _ from ?_))))))
  refine hK _ _ _ _ (nk_ne (by omega) (by omega) (fun _ => ?_) (fun w => by omega))
  refine hK _ _ _ _ (hK _ _ _ _ (hK _ _ _ _ (hK _ _ _ _ (hK _ _ _ _ (hK _ _ _ _ (hK _ _ _ _ (hK _ _ _ _ (show K _ _ _ _ from ?_))))))))
  rw [nk_sub h1.1, nk_add, lL_of (by omega), show a - 97 + 1 = a - 96 by omega]
  have y0 : (show Int64 from 0) * 27 + lL (a - 96) = lL (a - 96) := by
    show (0 : Int64) * 27 + lL (a - 96) = lL (a - 96)
    rw [z0, Int64.zero_add]
  rw [show ((0 : Int64) * 27 + lL (a - 96)) = lL (a - 96) from y0]
  have s1 : ∀ (v : Nat), K 27 [some (.int (nI a)), some (.int (nI b)), some (.int (nI c)), some (.int (nI e)), some (.int (nI f)), some (.int (nI g)), some (.int (nI i)), some (.long (lL v)), none] [] D = K 27 [some (.int (nI a)), some (.int (nI b)), some (.int (nI c)), some (.int (nI e)), some (.int (nI f)), some (.int (nI g)), some (.int (nI i)), some (.long (lL v)), none] [] D := fun _ => rfl
  have t6 : ∀ v, P (some (.long (lL (stp v i)))) D → K 161 [some (.int (nI a)), some (.int (nI b)), some (.int (nI c)), some (.int (nI e)), some (.int (nI f)), some (.int (nI g)), some (.int (nI i)), some (.long (lL v)), none] [] D := by
    intro v hv
    unfold stp at hv
    refine hK _ _ _ _ (show K _ _ _ _ from ?_)
    rcases h7 with rfl | q
    · refine hK _ _ _ _ (nk_nf rfl ?_)
      refine hK _ _ _ _ (hK _ _ _ _ (show K _ _ _ _ from ?_))
      exact hK _ _ _ _ (And.intro rfl (hv))
    · rw [if_neg (by omega)] at hv
      refine hK _ _ _ _ (nk_nt (fun w => by have := (nI_eq (by omega) (by omega)).mp w; omega) ?_)
      refine hK _ _ _ _ (hK _ _ _ _ (hK _ _ _ _ (hK _ _ _ _ (hK _ _ _ _ (hK _ _ _ _ (hK _ _ _ _ (hK _ _ _ _ (hK _ _ _ _ (hK _ _ _ _ (show K _ _ _ _ from ?_))))))))))
      rw [stp1 q.1 q.2]
      exact hK _ _ _ _ (And.intro rfl (hv))
  have t5 : ∀ v, P (some (.long (lL (stp (stp v g) i)))) D → K 133 [some (.int (nI a)), some (.int (nI b)), some (.int (nI c)), some (.int (nI e)), some (.int (nI f)), some (.int (nI g)), some (.int (nI i)), some (.long (lL v)), none] [] D := by
    intro v hv
    unfold stp at hv
    refine hK _ _ _ _ (show K _ _ _ _ from ?_)
    rcases h6 with rfl | q
    · refine hK _ _ _ _ (nk_nf rfl ?_)
      refine hK _ _ _ _ (hK _ _ _ _ (hK _ _ _ _ (show K _ _ _ _ from ?_)))
      exact t6 _ hv
    · rw [if_neg (show ¬ g = 0 by omega)] at hv
      refine hK _ _ _ _ (nk_nt (fun w => by have := (nI_eq (by omega) (by omega)).mp w; omega) ?_)
      refine hK _ _ _ _ (hK _ _ _ _ (hK _ _ _ _ (hK _ _ _ _ (hK _ _ _ _ (hK _ _ _ _ (hK _ _ _ _ (hK _ _ _ _ (hK _ _ _ _ (hK _ _ _ _ (hK _ _ _ _ (show K _ _ _ _ from ?_)))))))))))
      rw [stp1 q.1 q.2]
      exact t6 _ hv
  have t4 : ∀ v, P (some (.long (lL (stp (stp (stp v f) g) i)))) D → K 105 [some (.int (nI a)), some (.int (nI b)), some (.int (nI c)), some (.int (nI e)), some (.int (nI f)), some (.int (nI g)), some (.int (nI i)), some (.long (lL v)), none] [] D := by
    intro v hv
    rw [show stp v f = if f = 0 then v else v * 27 + (f - 96) from rfl] at hv
    refine hK _ _ _ _ (show K _ _ _ _ from ?_)
    rcases h5 with rfl | q
    · refine hK _ _ _ _ (nk_nf rfl ?_)
      refine hK _ _ _ _ (hK _ _ _ _ (hK _ _ _ _ (show K _ _ _ _ from ?_)))
      exact t5 _ hv
    · rw [if_neg (show ¬ f = 0 by omega)] at hv
      refine hK _ _ _ _ (nk_nt (fun w => by have := (nI_eq (by omega) (by omega)).mp w; omega) ?_)
      refine hK _ _ _ _ (hK _ _ _ _ (hK _ _ _ _ (hK _ _ _ _ (hK _ _ _ _ (hK _ _ _ _ (hK _ _ _ _ (hK _ _ _ _ (hK _ _ _ _ (hK _ _ _ _ (hK _ _ _ _ (show K _ _ _ _ from ?_)))))))))))
      rw [stp1 q.1 q.2]
      exact t5 _ hv
  have t3 : ∀ v, P (some (.long (lL (stp (stp (stp (stp v e) f) g) i)))) D → K 79 [some (.int (nI a)), some (.int (nI b)), some (.int (nI c)), some (.int (nI e)), some (.int (nI f)), some (.int (nI g)), some (.int (nI i)), some (.long (lL v)), none] [] D := by
    intro v hv
    rw [show stp v e = if e = 0 then v else v * 27 + (e - 96) from rfl] at hv
    refine hK _ _ _ _ (show K _ _ _ _ from ?_)
    rcases h4 with rfl | q
    · refine hK _ _ _ _ (nk_nf rfl ?_)
      refine hK _ _ _ _ (hK _ _ _ _ (hK _ _ _ _ (show K _ _ _ _ from ?_)))
      exact t4 _ hv
    · rw [if_neg (show ¬ e = 0 by omega)] at hv
      refine hK _ _ _ _ (nk_nt (fun w => by have := (nI_eq (by omega) (by omega)).mp w; omega) ?_)
      refine hK _ _ _ _ (hK _ _ _ _ (hK _ _ _ _ (hK _ _ _ _ (hK _ _ _ _ (hK _ _ _ _ (hK _ _ _ _ (hK _ _ _ _ (hK _ _ _ _ (hK _ _ _ _ (hK _ _ _ _ (show K _ _ _ _ from ?_)))))))))))
      rw [stp1 q.1 q.2]
      exact t4 _ hv
  have t2 : ∀ v, P (some (.long (lL (stp (stp (stp (stp (stp v c) e) f) g) i)))) D → K 53 [some (.int (nI a)), some (.int (nI b)), some (.int (nI c)), some (.int (nI e)), some (.int (nI f)), some (.int (nI g)), some (.int (nI i)), some (.long (lL v)), none] [] D := by
    intro v hv
    rw [show stp v c = if c = 0 then v else v * 27 + (c - 96) from rfl] at hv
    refine hK _ _ _ _ (show K _ _ _ _ from ?_)
    rcases h3 with rfl | q
    · refine hK _ _ _ _ (nk_nf rfl ?_)
      refine hK _ _ _ _ (hK _ _ _ _ (hK _ _ _ _ (show K _ _ _ _ from ?_)))
      exact t3 _ hv
    · rw [if_neg (show ¬ c = 0 by omega)] at hv
      refine hK _ _ _ _ (nk_nt (fun w => by have := (nI_eq (by omega) (by omega)).mp w; omega) ?_)
      refine hK _ _ _ _ (hK _ _ _ _ (hK _ _ _ _ (hK _ _ _ _ (hK _ _ _ _ (hK _ _ _ _ (hK _ _ _ _ (hK _ _ _ _ (hK _ _ _ _ (hK _ _ _ _ (hK _ _ _ _ (show K _ _ _ _ from ?_)))))))))))
      rw [stp1 q.1 q.2]
      exact t3 _ hv
  rw [show stp (a - 96) b = if b = 0 then (a - 96) else (a - 96) * 27 + (b - 96) from rfl] at h
  refine hK _ _ _ _ (show K _ _ _ _ from ?_)
  rcases h2 with rfl | q
  · refine hK _ _ _ _ (nk_nf rfl ?_)
    refine hK _ _ _ _ (hK _ _ _ _ (hK _ _ _ _ (show K _ _ _ _ from ?_)))
    exact t2 _ h
  · rw [if_neg (show ¬ b = 0 by omega)] at h
    refine hK _ _ _ _ (nk_nt (fun w => by have := (nI_eq (by omega) (by omega)).mp w; omega) ?_)
    refine hK _ _ _ _ (hK _ _ _ _ (hK _ _ _ _ (hK _ _ _ _ (hK _ _ _ _ (hK _ _ _ _ (hK _ _ _ _ (hK _ _ _ _ (hK _ _ _ _ (hK _ _ _ _ (hK _ _ _ _ (show K _ _ _ _ from ?_)))))))))))
    rw [stp1 q.1 q.2]
    exact t2 _ h
theorem sm_verb {b e : Nat} (ht : TM D L tx b e) (h : P (some (.int (match vbn (WVn L tx b e) with | some k => nI k | none => -1))) D) : nk_run S (d + 2) 83 [.ref 52] D P := by
  have hW : WVn L tx b e < 2 ^ 62 := by
    unfold WVn
    split
    · next q =>
      have hb := (srt0 q).1
      have hall := ht.2.2.2.2.2.2.2.2.2 hb
      have := wv_lt (f := fun i => tx (b + i)) (min 9 (e - b)) (fun i hi => (srt0 (by rw [hall (b + i) (by omega) (by omega)]; exact q)).2.2)
      have h9 : 27 ^ min 9 (e - b) ≤ 27 ^ 9 := Nat.pow_le_pow_right (by decide) (by omega)
      have : (27 : Nat) ^ 9 < 2 ^ 62 := by decide
      omega
    · decide
  have cmp : ∀ k, k < 7 → (lg_cmp (lL (WVn L tx b e)) (lL (ww k)) = nI 0 ↔ WVn L tx b e = ww k) := fun k hk => by
    rw [lg_eq, lL_eq (by omega) (by have := (ww_ne hk).2; omega)]
  unfold vbn at h
  generalize hWe : WVn L tx b e = W at h cmp hW
  refine nk_go (M := (6, yX6_verb, cX6_verb, 3, (some .int), false, 0, nk_T83)) rfl rfl (Nat.le_of_ble_eq_true rfl) (fun K hK => ?_)
  show K 0 [some (.ref 52), none, none] [] D
  refine hK _ _ _ _ (show K _ _ _ _ from ?_)
  refine hK _ _ _ _ (nk_stV rfl rfl rfl rfl ?_)
  refine sm_wordOf ht ?_
  rw [hWe]
  refine hK _ _ _ _ (show K _ _ _ _ from ?_)
  refine hK _ _ _ _ (hK _ _ _ _ (hK _ _ _ _ (hK _ _ _ _ (hK _ _ _ _ (hK _ _ _ _ (hK _ _ _ _ (hK _ _ _ _ (show K _ _ _ _ from ?_))))))))
  refine hK _ _ _ _ (nk_stS rfl rfl rfl rfl ?_)
  refine sm_spelt (by decide) (by unfold okc; omega) (by unfold okc; omega) (by unfold okc; omega) (by unfold okc; omega) (by unfold okc; omega) (by unfold okc; omega) ?_
  rw [show stp (stp (stp (stp (stp (stp (112 - 96) 108) 97) 105) 110) 0) 0 = ww 3 from rfl]
  refine hK _ _ _ _ (show K _ _ _ _ from ?_)
  refine hK _ _ _ _ (And.intro (fun c => (show K _ _ _ _ from ?_)) (fun c => (show K _ _ _ _ from ?_)))
  rotate_left
  · rw [if_pos ((cmp 3 (by decide)).mp c)] at h
    refine hK _ _ _ _ (show K _ _ _ _ from ?_)
    exact hK _ _ _ _ (And.intro rfl (h))
  rw [if_neg (fun w => c ((cmp 3 (by decide)).mpr w))] at h
  refine hK _ _ _ _ (hK _ _ _ _ (hK _ _ _ _ (hK _ _ _ _ (hK _ _ _ _ (hK _ _ _ _ (hK _ _ _ _ (hK _ _ _ _ (show K _ _ _ _ from ?_))))))))
  refine hK _ _ _ _ (nk_stS rfl rfl rfl rfl ?_)
  refine sm_spelt (by decide) (by unfold okc; omega) (by unfold okc; omega) (by unfold okc; omega) (by unfold okc; omega) (by unfold okc; omega) (by unfold okc; omega) ?_
  rw [show stp (stp (stp (stp (stp (stp (115 - 96) 109) 111) 111) 116) 104) 0 = ww 4 from rfl]
  refine hK _ _ _ _ (show K _ _ _ _ from ?_)
  refine hK _ _ _ _ (And.intro (fun c => (show K _ _ _ _ from ?_)) (fun c => (show K _ _ _ _ from ?_)))
  rotate_left
  · rw [if_pos ((cmp 4 (by decide)).mp c)] at h
    refine hK _ _ _ _ (show K _ _ _ _ from ?_)
    exact hK _ _ _ _ (And.intro rfl (h))
  rw [if_neg (fun w => c ((cmp 4 (by decide)).mpr w))] at h
  refine hK _ _ _ _ (hK _ _ _ _ (hK _ _ _ _ (hK _ _ _ _ (hK _ _ _ _ (hK _ _ _ _ (hK _ _ _ _ (hK _ _ _ _ (show K _ _ _ _ from ?_))))))))
  refine hK _ _ _ _ (nk_stS rfl rfl rfl rfl ?_)
  refine sm_spelt (by decide) (by unfold okc; omega) (by unfold okc; omega) (by unfold okc; omega) (by unfold okc; omega) (by unfold okc; omega) (by unfold okc; omega) ?_
  rw [show stp (stp (stp (stp (stp (stp (115 - 96) 104) 121) 0) 0) 0) 0 = ww 5 from rfl]
  refine hK _ _ _ _ (show K _ _ _ _ from ?_)
  refine hK _ _ _ _ (And.intro (fun c => (show K _ _ _ _ from ?_)) (fun c => (show K _ _ _ _ from ?_)))
  rotate_left
  · rw [if_pos ((cmp 5 (by decide)).mp c)] at h
    refine hK _ _ _ _ (show K _ _ _ _ from ?_)
    exact hK _ _ _ _ (And.intro rfl (h))
  rw [if_neg (fun w => c ((cmp 5 (by decide)).mpr w))] at h
  refine hK _ _ _ _ (hK _ _ _ _ (hK _ _ _ _ (hK _ _ _ _ (hK _ _ _ _ (hK _ _ _ _ (hK _ _ _ _ (hK _ _ _ _ (show K _ _ _ _ from ?_))))))))
  refine hK _ _ _ _ (nk_stS rfl rfl rfl rfl ?_)
  refine sm_spelt (by decide) (by unfold okc; omega) (by unfold okc; omega) (by unfold okc; omega) (by unfold okc; omega) (by unfold okc; omega) (by unfold okc; omega) ?_
  rw [show stp (stp (stp (stp (stp (stp (104 - 96) 111) 115) 116) 0) 0) 0 = ww 6 from rfl]
  refine hK _ _ _ _ (show K _ _ _ _ from ?_)
  refine hK _ _ _ _ (And.intro (fun c => (show K _ _ _ _ from ?_)) (fun c => (show K _ _ _ _ from ?_)))
  rotate_left
  · rw [if_pos ((cmp 6 (by decide)).mp c)] at h
    refine hK _ _ _ _ (show K _ _ _ _ from ?_)
    exact hK _ _ _ _ (And.intro rfl (h))
  rw [if_neg (fun w => c ((cmp 6 (by decide)).mpr w))] at h
  refine hK _ _ _ _ (hK _ _ _ _ (hK _ _ _ _ (hK _ _ _ _ (hK _ _ _ _ (hK _ _ _ _ (hK _ _ _ _ (hK _ _ _ _ (show K _ _ _ _ from ?_))))))))
  refine hK _ _ _ _ (nk_stS rfl rfl rfl rfl ?_)
  refine sm_spelt (by decide) (by unfold okc; omega) (by unfold okc; omega) (by unfold okc; omega) (by unfold okc; omega) (by unfold okc; omega) (by unfold okc; omega) ?_
  rw [show stp (stp (stp (stp (stp (stp (115 - 96) 101) 97) 115) 111) 110) 0 = ww 2 from rfl]
  refine hK _ _ _ _ (show K _ _ _ _ from ?_)
  refine hK _ _ _ _ (And.intro (fun c => (show K _ _ _ _ from ?_)) (fun c => (show K _ _ _ _ from ?_)))
  rotate_left
  · rw [if_pos ((cmp 2 (by decide)).mp c)] at h
    refine hK _ _ _ _ (show K _ _ _ _ from ?_)
    exact hK _ _ _ _ (And.intro rfl (h))
  rw [if_neg (fun w => c ((cmp 2 (by decide)).mpr w))] at h
  refine hK _ _ _ _ (hK _ _ _ _ (hK _ _ _ _ (hK _ _ _ _ (hK _ _ _ _ (hK _ _ _ _ (hK _ _ _ _ (hK _ _ _ _ (show K _ _ _ _ from ?_))))))))
  refine hK _ _ _ _ (nk_stS rfl rfl rfl rfl ?_)
  refine sm_spelt (by decide) (by unfold okc; omega) (by unfold okc; omega) (by unfold okc; omega) (by unfold okc; omega) (by unfold okc; omega) (by unfold okc; omega) ?_
  rw [show stp (stp (stp (stp (stp (stp (97 - 96) 115) 0) 0) 0) 0) 0 = ww 0 from rfl]
  refine hK _ _ _ _ (show K _ _ _ _ from ?_)
  refine hK _ _ _ _ (And.intro (fun c => (show K _ _ _ _ from ?_)) (fun c => (show K _ _ _ _ from ?_)))
  rotate_left
  · rw [if_pos ((cmp 0 (by decide)).mp c)] at h
    refine hK _ _ _ _ (hK _ _ _ _ (show K _ _ _ _ from ?_))
    exact hK _ _ _ _ (And.intro rfl (h))
  rw [if_neg (fun w => c ((cmp 0 (by decide)).mpr w))] at h
  refine hK _ _ _ _ (hK _ _ _ _ (hK _ _ _ _ (hK _ _ _ _ (hK _ _ _ _ (hK _ _ _ _ (hK _ _ _ _ (hK _ _ _ _ (show K _ _ _ _ from ?_))))))))
  refine hK _ _ _ _ (nk_stS rfl rfl rfl rfl ?_)
  refine sm_spelt (by decide) (by unfold okc; omega) (by unfold okc; omega) (by unfold okc; omega) (by unfold okc; omega) (by unfold okc; omega) (by unfold okc; omega) ?_
  rw [show stp (stp (stp (stp (stp (stp (114 - 96) 111) 111) 109) 0) 0) 0 = ww 1 from rfl]
  refine hK _ _ _ _ (show K _ _ _ _ from ?_)
  refine hK _ _ _ _ (And.intro (fun c => (show K _ _ _ _ from ?_)) (fun c => (show K _ _ _ _ from ?_)))
  rotate_left
  · rw [if_pos ((cmp 1 (by decide)).mp c)] at h
    refine hK _ _ _ _ (hK _ _ _ _ (show K _ _ _ _ from ?_))
    exact hK _ _ _ _ (And.intro rfl (h))
  rw [if_neg (fun w => c ((cmp 1 (by decide)).mpr w))] at h
  refine hK _ _ _ _ (show K _ _ _ _ from ?_)
  exact hK _ _ _ _ (And.intro rfl (h))
end NKO
