/-! ===== learn, seen, may, was ===== -/
theorem setR_setR (r : Nat → Nat → Nat) (p q v w : Nat) : setR (setR r p q v) p q w = setR r p q w := by
  funext a b
  unfold setR
  split <;> rfl
def mayU (n : Nat) (ka : Nat → Nat) (r : Nat → Nat → Nat) (p q co : Nat) : Nat → Nat
  | 0 => 0
  | j + 1 => mayU n ka r p q co j ||| (if tw n ka (setR r p q (j + 1)) co = 0 then 2 ^ (j + 1) else 0)
def soB (n : Nat) (r : Nat → Nat → Nat) (e : Nat × Nat × Nat) : Bool := if e.2.2 = 0 then decide (1 < pcn (mb n r e.1 e.2.1)) else decide (mb n r e.1 e.2.1 = 2 ^ e.2.2)
def fitU (n : Nat) (r : Nat → Nat → Nat) (se : Nat → Nat × Nat × Nat) : Nat → Bool
  | 0 => true
  | j + 1 => fitU n r se j && soB n r (se j)
theorem fitU_no {n : Nat} {r : Nat → Nat → Nat} {se : Nat → Nat × Nat × Nat} {i : Nat} (h : soB n r (se i) = false) : ∀ m, fitU n r se (i + 1 + m) = false
  | 0 => by rw [Nat.add_zero, fitU, h, Bool.and_false]
  | m + 1 => by rw [← Nat.add_assoc, fitU, fitU_no h m, Bool.false_and]
def wasU (n : Nat) (r : Nat → Nat → Nat) (p q : Nat) (c : Nat) (se : Nat → Nat × Nat × Nat) : Nat → Nat
  | 0 => 0
  | j + 1 => wasU n r p q c se j ||| (if fitU n (setR r p q j) se c = true then 2 ^ j else 0)
section NKO
variable {S : nk_Sc} {d : Nat} {D : nk_D} {P : nk_P}
theorem op_learn {x y w : Int32} (hr : REL D) (h : ∀ v D1, TH S (d + 20) 118 [.ref 52, .int x, .int y, .int w] v D1 → P (some (.int v)) D1) : nk_run S (d + 20) 55 [.ref 0, .int x, .int y, .int w] D P := by
  have hr0 := hr
  obtain ⟨n, ka, s, t, L, tx, u, pa, kp, c, se, ok, xr, mr⟩ := hr
  have hw := ok.1
  have hx := xr.1
  have hxs := hx.1
  have hn6 := hxs.1
  have hn := hxs.2.1
  have h64 := p64 hn6
  have hmk := mr.1
  have hms := MS_now mr.2.1 hw
  have hR : D 6 3 = nI s.2.1 := hx.2.1
  have mR : D 54 36 = nI s.2.1 := mr.2.1.2.1
  have hR64 : s.2.1 < 64 := by have := hw.2.2.1; omega
  refine nk_go (M := (5, yX5_learn, cX5_learn, 6, (some .int), false, 3, nk_T55)) rfl rfl (Nat.le_of_ble_eq_true rfl) (fun K hK => ?_)
  show K 0 [some (.ref 0), some (.int x), some (.int y), some (.int w), none, none] [] D
  refine hK _ _ _ _ (hK _ _ _ _ (nk_GR rfl rfl rfl (hK _ _ _ _ (show K _ _ _ _ from ?_))))
  refine hK _ _ _ _ (nk_stV rfl rfl rfl rfl ?_)
  refine sx_has isS6 hn hn6 ?_
  refine hK _ _ _ _ (nk_bne (fun b => ?_) (fun b => ?_))
  · obtain ⟨p, hp, rfl⟩ := vld_of (by omega) b
    refine hK _ _ _ _ (show K _ _ _ _ from ?_)
    refine hK _ _ _ _ (nk_stS rfl rfl rfl rfl ?_)
    refine sx_isRole ?_
    have out : (decide (((1 : Nat) : Int) ≤ y.toInt ∧ y.toInt ≤ ((7 : Nat) : Int)) && decide (((0 : Nat) : Int) ≤ w.toInt ∧ w.toInt ≤ ((20 : Nat) : Int))) = false → K 31 [some (.ref 0), some (.int (nI p)), some (.int y), some (.int w), none, none] [] D := by
      intro hno
      refine hK _ _ _ _ (show K _ _ _ _ from ?_)
      refine hK _ _ _ _ (And.intro rfl (h _ _ ?_))
      refine nk_go (M := (6, yX6_learn, cX6_learn, 6, (some .int), false, 3, nk_T118)) rfl rfl (Nat.le_of_ble_eq_true rfl) (fun K hK => ?_)
      show K 0 [some (.ref 52), some (.int (nI p)), some (.int y), some (.int w), none, none] [] D
      refine hK _ _ _ _ (hK _ _ _ _ (show K _ _ _ _ from ?_))
      refine hK _ _ _ _ (nk_stV rfl rfl rfl rfl ?_)
      refine sm_isPerson hmk.2.1 hn6 ?_
      rw [b]
      refine hK _ _ _ _ (nk_bne (fun _ => ?_) (fun z => by cases z))
      refine hK _ _ _ _ (hK _ _ _ _ (hK _ _ _ _ (hK _ _ _ _ (show K _ _ _ _ from ?_))))
      refine hK _ _ _ _ (nk_stS rfl rfl rfl rfl ?_)
      refine sm_in2 (a := ((1 : Nat) : Int)) (b := ((7 : Nat) : Int)) rfl rfl ?_
      refine hK _ _ _ _ (nk_beq (fun e => ?_) (fun e => ?_))
      · refine hK _ _ _ _ (show K _ _ _ _ from ?_)
        exact hK _ _ _ _ (And.intro rfl (⟨rfl, hr0⟩))
      · rw [e, Bool.true_and] at hno
        refine hK _ _ _ _ (hK _ _ _ _ (hK _ _ _ _ (hK _ _ _ _ (show K _ _ _ _ from ?_))))
        refine hK _ _ _ _ (nk_stS rfl rfl rfl rfl ?_)
        refine sm_in2 (a := ((0 : Nat) : Int)) (b := ((20 : Nat) : Int)) rfl rfl ?_
        rw [hno]
        refine hK _ _ _ _ (nk_bne (fun z => by cases z) (fun _ => ?_))
        refine hK _ _ _ _ (show K _ _ _ _ from ?_)
        exact hK _ _ _ _ (And.intro rfl (⟨rfl, hr0⟩))
    show K 18 _ _ _
    refine hK _ _ _ _ (nk_beq (fun hd => ?_) (fun hd => ?_))
    · exact out (by rw [hd, Bool.false_and])
    · obtain ⟨ro, hro1, hro7, rfl⟩ : ∃ j, 1 ≤ j ∧ j ≤ 7 ∧ y = nI j := by
        rcases rg (lo := 1) (hi := 7) (by decide) (by decide) y with ⟨j, h1, h2, h3, -⟩ | ⟨-, h2⟩
        · exact ⟨j, h1, h2, h3⟩
        · rw [hd] at h2; cases h2
      rcases rg (lo := 0) (hi := 20) (by decide) (by decide) w with ⟨m, -, hm, rfl, hd2⟩ | ⟨hno, hd2⟩
      · refine hK _ _ _ _ (show K _ _ _ _ from ?_)
        refine hK _ _ _ _ (nk_bf (nI_pos (by omega)) ?_)
        refine hK _ _ _ _ (hK _ _ _ _ (show K _ _ _ _ from ?_))
        refine hK _ _ _ _ (nk_bt (nI_le hm (by omega)) ?_)
        refine hK _ _ _ _ (hK _ _ _ _ (show K _ _ _ _ from ?_))
        refine hK _ _ _ _ (nk_stV rfl rfl rfl rfl ?_)
        refine sx_foretell hx hw hm (fun D1 g1 g2 g3 => ?_)
        have hok := evN_ok (n := n) (ka := ka) (s := (s.1, s.2.1)) hw.1 hw.2.1 hR64 m
        generalize hr1 : (evN n ka (s.1, s.2.1) m).1 = r1 at g1 hok
        show K 39 _ _ _
        refine hK _ _ _ _ (hK _ _ _ _ (hK _ _ _ _ (hK _ _ _ _ (show K _ _ _ _ from ?_))))
        have loop : ∀ z j, j + z = n → K 45 [some (.ref 0), some (.int (nI p)), some (.int (nI ro)), some (.int (nI m)), some (.int (nI (lnU r1 p ro j))), some (.int (nI j))] [] D1 := by
          intro z
          induction z with
          | zero =>
            intro j hj
            have hj : j = n := by omega
            subst hj
            refine hK _ _ _ _ (hK _ _ _ _ (hK _ _ _ _ (nk_GR rfl rfl rfl (hK _ _ _ _ (nk_GI rfl rfl rfl (show K _ _ _ _ from ?_))))))
            rw [g1.2.1]
            refine hK _ _ _ _ (nk_bt (nI_le (Nat.le_refl _) (by omega)) ?_)
            refine hK _ _ _ _ (show K _ _ _ _ from ?_)
            refine hK _ _ _ _ (And.intro rfl (h _ _ ?_))
            refine nk_go (M := (6, yX6_learn, cX6_learn, 6, (some .int), false, 3, nk_T118)) rfl rfl (Nat.le_of_ble_eq_true rfl) (fun K hK => ?_)
            show K 0 [some (.ref 52), some (.int (nI p)), some (.int (nI ro)), some (.int (nI m)), none, none] [] D1
            refine hK _ _ _ _ (hK _ _ _ _ (show K _ _ _ _ from ?_))
            refine hK _ _ _ _ (nk_stV rfl rfl rfl rfl ?_)
            refine sm_isPerson (by rw [g3 _ _ (by omega)]; exact hmk.2.1) hn6 ?_
            rw [b]
            refine hK _ _ _ _ (nk_bne (fun _ => ?_) (fun z => by cases z))
            refine hK _ _ _ _ (hK _ _ _ _ (hK _ _ _ _ (hK _ _ _ _ (show K _ _ _ _ from ?_))))
            refine hK _ _ _ _ (nk_stS rfl rfl rfl rfl ?_)
            refine sm_in2 (a := ((1 : Nat) : Int)) (b := ((7 : Nat) : Int)) rfl rfl ?_
            rw [hd]
            refine hK _ _ _ _ (nk_beq (fun z => by cases z) (fun _ => ?_))
            refine hK _ _ _ _ (hK _ _ _ _ (hK _ _ _ _ (hK _ _ _ _ (show K _ _ _ _ from ?_))))
            refine hK _ _ _ _ (nk_stS rfl rfl rfl rfl ?_)
            refine sm_in2 (a := ((0 : Nat) : Int)) (b := ((20 : Nat) : Int)) rfl rfl ?_
            rw [hd2]
            refine hK _ _ _ _ (nk_bne (fun _ => ?_) (fun z => by cases z))
            refine hK _ _ _ _ (hK _ _ _ _ (show K _ _ _ _ from ?_))
            refine hK _ _ _ _ (nk_stV rfl rfl rfl rfl ?_)
            refine sm_goOn (MK_of (fun b => g3 _ b (by omega)) hmk) (MSc_of (fun j _ => g3 _ _ (by omega)) hn6 mr.2.1) hw hm (fun D2 k1 k2 k3 k4 => ?_)
            rw [hr1] at k1
            have hn2 : D2 53 0 = nI j := by rw [k4 _ _ (by omega) (by omega) (by omega), g3 _ _ (by omega)]; exact hmk.2.1
            show K 43 _ _ _
            refine hK _ _ _ _ (hK _ _ _ _ (hK _ _ _ _ (hK _ _ _ _ (show K _ _ _ _ from ?_))))
            have loop2 : ∀ z i, i + z = j → K 49 [some (.ref 52), some (.int (nI p)), some (.int (nI ro)), some (.int (nI m)), some (.int (nI (lnU r1 p ro i))), some (.int (nI i))] [] D2 := by
              intro z
              induction z with
              | zero =>
                intro i hi
                have hi : i = j := by omega
                subst hi
                refine hK _ _ _ _ (hK _ _ _ _ (hK _ _ _ _ (nk_GR rfl rfl rfl (hK _ _ _ _ (show K _ _ _ _ from ?_)))))
                refine hK _ _ _ _ (nk_AL rfl rfl (j := 0) rfl (by decide) (show K _ _ _ _ from ?_))
                rw [hn2]
                refine hK _ _ _ _ (nk_bt (nI_le (Nat.le_refl _) (by omega)) ?_)
                refine hK _ _ _ _ (show K _ _ _ _ from ?_)
                refine hK _ _ _ _ (nk_stV rfl rfl rfl rfl ?_)
                refine sm_takeBack (fun D3 w1 w2 => ?_)
                show K 100 _ _ _
                refine hK _ _ _ _ (show K _ _ _ _ from ?_)
                refine hK _ _ _ _ (And.intro rfl ⟨rfl, REL_g hr0 (fun a b h1 h2 h3 => by rw [w2 a b (by omega), k4 a b (by omega) (by omega) (by omega), g3 a b h2]) (fun a b h1 h2 h3 h4 h5 h6 h7 => ?_)⟩)
                by_cases e : a = 54
                · subst e
                  rw [w1 b (h7 rfl), k3 b (h7 rfl), g3 54 b (by omega)]
                · rw [w2 a b e, k4 a b e h4 h6, g3 a b (by omega)]
              | succ z ih =>
                intro i hi
                have hr7 := (k1.1 p i hp (by omega)).2
                refine hK _ _ _ _ (hK _ _ _ _ (hK _ _ _ _ (nk_GR rfl rfl rfl (hK _ _ _ _ (show K _ _ _ _ from ?_)))))
                refine hK _ _ _ _ (nk_AL rfl rfl (j := 0) rfl (by decide) (show K _ _ _ _ from ?_))
                rw [hn2]
                refine hK _ _ _ _ (nk_bf (nI_ge (by omega) (by omega)) ?_)
                have back := ih (i + 1) (by omega)
                have no : ¬ r1 p i = ro → K 86 [some (.ref 52), some (.int (nI p)), some (.int (nI ro)), some (.int (nI m)), some (.int (nI (lnU r1 p ro i))), some (.int (nI i))] [.int (nI (lnU r1 p ro i))] D2 := by
                  intro e
                  refine hK _ _ _ _ (hK _ _ _ _ (hK _ _ _ _ (hK _ _ _ _ (hK _ _ _ _ (show K _ _ _ _ from ?_)))))
                  rw [nk_or, nk_add]
                  rw [lnU, if_neg e] at back
                  exact back
                refine hK _ _ _ _ (hK _ _ _ _ (hK _ _ _ _ (show K _ _ _ _ from ?_)))
                refine hK _ _ _ _ (nk_eq (by omega) (by omega) (fun e => ?_) (fun e => ?_))
                · exact no (by rw [e, k1.2 p hp]; omega)
                · refine hK _ _ _ _ (hK _ _ _ _ (hK _ _ _ _ (show K _ _ _ _ from ?_)))
                  refine hK _ _ _ _ (nk_stV rfl rfl rfl rfl ?_)
                  refine sm_roleTo (by omega) (by omega) ?_
                  rw [(k1.1 p i hp (by omega)).1]
                  refine hK _ _ _ _ (show K _ _ _ _ from ?_)
                  refine hK _ _ _ _ (nk_ne (by omega) (by omega) (fun e2 => ?_) (fun e2 => ?_))
                  · exact no e2
                  · refine hK _ _ _ _ (hK _ _ _ _ (hK _ _ _ _ (hK _ _ _ _ (hK _ _ _ _ (hK _ _ _ _ (hK _ _ _ _ (hK _ _ _ _ (show K _ _ _ _ from ?_))))))))
                    rw [nk_one (by omega), nk_or, nk_add]
                    rw [lnU, if_pos e2] at back
                    exact back
            exact loop2 j 0 (by omega)
          | succ z ih =>
            intro j hj
            refine hK _ _ _ _ (hK _ _ _ _ (hK _ _ _ _ (nk_GR rfl rfl rfl (hK _ _ _ _ (nk_GI rfl rfl rfl (show K _ _ _ _ from ?_))))))
            rw [g1.2.1]
            refine hK _ _ _ _ (nk_bf (nI_ge (by omega) (by omega)) ?_)
            refine hK _ _ _ _ (hK _ _ _ _ (nk_GR rfl rfl rfl (hK _ _ _ _ (hK _ _ _ _ (show K _ _ _ _ from ?_)))))
            refine hK _ _ _ _ (nk_stV rfl rfl rfl rfl ?_)
            refine sx_roleTo isS9 (by omega) (by omega) ?_
            rw [(g1.2.2.2 p j hp (by omega)).1]
            have hr7 := (g1.2.2.2 p j hp (by omega)).2
            have back := ih (j + 1) (by omega)
            refine hK _ _ _ _ (show K _ _ _ _ from ?_)
            refine hK _ _ _ _ (nk_ne (by omega) (by omega) (fun e => ?_) (fun e => ?_))
            · refine hK _ _ _ _ (hK _ _ _ _ (show K _ _ _ _ from ?_))
              rw [nk_add]
              rw [lnU, if_neg e, Nat.or_zero] at back
              exact back
            · refine hK _ _ _ _ (hK _ _ _ _ (hK _ _ _ _ (hK _ _ _ _ (hK _ _ _ _ (hK _ _ _ _ (hK _ _ _ _ (hK _ _ _ _ (show K _ _ _ _ from ?_))))))))
              rw [nk_one (by omega), nk_or, nk_add]
              rw [lnU, if_pos e] at back
              exact back
        exact loop n 0 (by omega)
      · have fin : K 31 [some (.ref 0), some (.int (nI p)), some (.int (nI ro)), some (.int w), none, none] [] D := out (by rw [hd2, Bool.and_false])
        refine hK _ _ _ _ (show K _ _ _ _ from ?_)
        rcases hno with h1 | ⟨h1, h2⟩
        · refine hK _ _ _ _ (nk_bt h1 ?_)
          exact fin
        · refine hK _ _ _ _ (nk_bf h1 ?_)
          refine hK _ _ _ _ (hK _ _ _ _ (show K _ _ _ _ from ?_))
          refine hK _ _ _ _ (nk_bf (fun z => absurd (Int32.lt_iff_toInt_lt.mp h2) (by have := Int32.le_iff_toInt_le.mp z; omega)) ?_)
          exact fin
  · refine hK _ _ _ _ (show K _ _ _ _ from ?_)
    refine hK _ _ _ _ (And.intro rfl (h _ _ ?_))
    refine nk_go (M := (6, yX6_learn, cX6_learn, 6, (some .int), false, 3, nk_T118)) rfl rfl (Nat.le_of_ble_eq_true rfl) (fun K hK => ?_)
    show K 0 [some (.ref 52), some (.int x), some (.int y), some (.int w), none, none] [] D
    refine hK _ _ _ _ (hK _ _ _ _ (show K _ _ _ _ from ?_))
    refine hK _ _ _ _ (nk_stV rfl rfl rfl rfl ?_)
    refine sm_isPerson hmk.2.1 hn6 ?_
    rw [b]
    refine hK _ _ _ _ (nk_bne (fun z => by cases z) (fun _ => ?_))
    refine hK _ _ _ _ (show K _ _ _ _ from ?_)
    exact hK _ _ _ _ (And.intro rfl (⟨rfl, hr0⟩))
theorem sx_fit {k n c : Nat} {ka : Nat → Nat} {r : Nat → Nat → Nat} {se : Nat → Nat × Nat × Nat} (hs : nk_isS k) (hx : XS D k n ka r) (he : XE D c se) (hc : c ≤ 6) (hse : ∀ i, i < c → (se i).1 < 2 ^ n ∧ (se i).2.1 < n ∧ (se i).2.2 ≤ 7) (h : P (some (.int (bI (fitU n r se c)))) D) : nk_run S (d + 3) 24 [.ref 46, .ref k] D P := by
  have h64 := p64 hx.1
  refine nk_go (M := (3, yX3_fit, cX3_fit, 5, (some .boolean), false, 1, nk_T24)) rfl rfl (Nat.le_of_ble_eq_true rfl) (fun K hK => ?_)
  show K 0 [some (.ref 46), some (.ref k), none, none, none] [] D
  refine hK _ _ _ _ (hK _ _ _ _ (show K _ _ _ _ from ?_))
  have loop : ∀ m j, j + m = c → fitU n r se j = true → ∀ x3 x4, K 2 [some (.ref 46), some (.ref k), some (.int (nI j)), x3, x4] [] D := by
    intro m
    induction m with
    | zero =>
      intro j hj hf x3 x4
      have hj : j = c := by omega
      subst hj
      rw [hf] at h
      refine hK _ _ _ _ (hK _ _ _ _ (hK _ _ _ _ (nk_GI rfl rfl rfl (show K _ _ _ _ from ?_))))
      rw [he.1]
      refine hK _ _ _ _ (nk_bt (nI_le (Nat.le_refl _) (by omega)) ?_)
      refine hK _ _ _ _ (show K _ _ _ _ from ?_)
      exact hK _ _ _ _ (And.intro rfl (h))
    | succ m ih =>
      intro j hj hf x3 x4
      have hjc : j < c := by omega
      obtain ⟨s1, s2, s3⟩ := hse j hjc
      obtain ⟨e1, e2, e3⟩ := he.2 j hjc
      have hlt := mb_lt (n := n) (r := r) (c := (se j).1) (p := (se j).2.1) (fun q hq => (hx.2.2.2 _ q s2 hq).2)
      refine hK _ _ _ _ (hK _ _ _ _ (hK _ _ _ _ (nk_GI rfl rfl rfl (show K _ _ _ _ from ?_))))
      rw [he.1]
      refine hK _ _ _ _ (nk_bf (nI_ge hjc (by omega)) ?_)
      refine hK _ _ _ _ (hK _ _ _ _ (show K _ _ _ _ from ?_))
      refine hK _ _ _ _ (nk_bf (nI_ge (show j < 6 by omega) (by omega)) ?_)
      refine hK _ _ _ _ (hK _ _ _ _ (hK _ _ _ _ (nk_GR rfl rfl rfl (hK _ _ _ _ (show K _ _ _ _ from ?_)))))
      refine hK _ _ _ _ (nk_AL rfl rfl (j := j) rfl (by omega) (show K _ _ _ _ from ?_))
      rw [e1]
      refine hK _ _ _ _ (hK _ _ _ _ (nk_GR rfl rfl rfl (hK _ _ _ _ (show K _ _ _ _ from ?_))))
      refine hK _ _ _ _ (nk_AL rfl rfl (j := j) rfl (by omega) (show K _ _ _ _ from ?_))
      rw [e2]
      refine hK _ _ _ _ (nk_stV rfl rfl (nk_rvI hs.1) rfl ?_)
      refine sx_mustBe hs hx (by omega) s2 ?_
      refine hK _ _ _ _ (hK _ _ _ _ (hK _ _ _ _ (nk_GR rfl rfl rfl (hK _ _ _ _ (show K _ _ _ _ from ?_)))))
      refine hK _ _ _ _ (nk_AL rfl rfl (j := j) rfl (by omega) (show K _ _ _ _ from ?_))
      rw [e3]
      have after : ∀ bo : Bool, bo = soB n r (se j) → K 75 [some (.ref 46), some (.ref k), some (.int (nI j)), some (.int (nI (mb n r (se j).1 (se j).2.1))), x4] [.int (bI bo)] D := by
        intro bo hbo
        refine hK _ _ _ _ (hK _ _ _ _ (show K _ _ _ _ from ?_))
        refine hK _ _ _ _ (nk_bne (fun q => ?_) (fun q => ?_))
        · refine hK _ _ _ _ (hK _ _ _ _ (show K _ _ _ _ from ?_))
          rw [nk_add]
          exact ih (j + 1) (by omega) (by rw [fitU, hf, ← hbo, q]; rfl) _ _
        · refine hK _ _ _ _ (show K _ _ _ _ from ?_)
          rw [hbo] at q
          have := fitU_no q m
          rw [show j + 1 + m = c by omega] at this
          rw [this] at h
          exact hK _ _ _ _ (And.intro rfl (h))
      refine hK _ _ _ _ (nk_ne (by omega) (by omega) (fun q => ?_) (fun q => ?_))
      · refine hK _ _ _ _ (hK _ _ _ _ (hK _ _ _ _ (hK _ _ _ _ (nk_GR rfl rfl rfl (hK _ _ _ _ (show K _ _ _ _ from ?_))))))
        refine hK _ _ _ _ (nk_AL rfl rfl (j := j) rfl (by omega) (show K _ _ _ _ from ?_))
        rw [e3]
        refine hK _ _ _ _ (show K _ _ _ _ from ?_)
        rw [nk_one (by omega)]
        have hp := nk_p256 s3
        refine hK _ _ _ _ (nk_ne (by omega) (by omega) (fun w => ?_) (fun w => ?_))
        · refine hK _ _ _ _ (show K _ _ _ _ from ?_)
          exact after false (by rw [soB, if_neg q, decide_eq_false w])
        · refine hK _ _ _ _ (hK _ _ _ _ (show K _ _ _ _ from ?_))
          exact after true (by rw [soB, if_neg q, decide_eq_true w])
      · have hpc := pcn_le (mb n r (se j).1 (se j).2.1)
        refine hK _ _ _ _ (show K _ _ _ _ from ?_)
        refine hK _ _ _ _ (nk_stS rfl rfl rfl rfl ?_)
        refine sj_bitCount hlt ?_
        refine hK _ _ _ _ (show K _ _ _ _ from ?_)
        refine hK _ _ _ _ (nk_le (by omega) (by omega) (fun w => ?_) (fun w => ?_))
        · refine hK _ _ _ _ (hK _ _ _ _ (show K _ _ _ _ from ?_))
          exact after false (by rw [soB, if_pos q, decide_eq_false (by omega)])
        · refine hK _ _ _ _ (hK _ _ _ _ (show K _ _ _ _ from ?_))
          exact after true (by rw [soB, if_pos q, decide_eq_true w])
  exact loop c 0 (by omega) rfl _ _
theorem sm_isSo {n i : Nat} {ka : Nat → Nat} {r : Nat → Nat → Nat} {e : Nat × Nat × Nat} (hk : MK D n ka) (hm : MS D n r) (hi : i < 6) (e1 : D 63 (3 * i) = nI e.1) (e2 : D 63 (3 * i + 1) = nI e.2.1) (e3 : D 63 (3 * i + 2) = nI e.2.2) (s1 : e.1 < 2 ^ n) (s2 : e.2.1 < n) (s3 : e.2.2 ≤ 7) (h : P (some (.int (bI (soB n r e)))) D) : nk_run S (d + 3) 122 [.ref 52, .int (nI i)] D P := by
  have h64 := p64 hk.1
  have hlt := mb_lt (n := n) (r := r) (c := e.1) (p := e.2.1) (fun q hq => (hm.1 _ q s2 hq).2)
  refine nk_go (M := (6, yX6_isSo, cX6_isSo, 4, (some .boolean), false, 1, nk_T122)) rfl rfl (Nat.le_of_ble_eq_true rfl) (fun K hK => ?_)
  show K 0 [some (.ref 52), some (.int (nI i)), none, none] [] D
  refine hK _ _ _ _ (hK _ _ _ _ (hK _ _ _ _ (nk_GR rfl rfl rfl (hK _ _ _ _ (hK _ _ _ _ (hK _ _ _ _ (hK _ _ _ _ (hK _ _ _ _ (show K _ _ _ _ from ?_)))))))))
  rw [nk_ix]
  refine hK _ _ _ _ (nk_AL rfl rfl rfl (show 3 * i + 1 < 18 by omega) (show K _ _ _ _ from ?_))
  rw [e2]
  refine hK _ _ _ _ (hK _ _ _ _ (nk_GR rfl rfl rfl (hK _ _ _ _ (hK _ _ _ _ (hK _ _ _ _ (show K _ _ _ _ from ?_))))))
  rw [nk_mul]
  refine hK _ _ _ _ (nk_AL rfl rfl rfl (show 3 * i < 18 by omega) (show K _ _ _ _ from ?_))
  rw [e1]
  refine hK _ _ _ _ (nk_stV rfl rfl rfl rfl ?_)
  refine sm_mustBe hk hm (by omega) s2 ?_
  refine hK _ _ _ _ (hK _ _ _ _ (hK _ _ _ _ (nk_GR rfl rfl rfl (hK _ _ _ _ (hK _ _ _ _ (hK _ _ _ _ (hK _ _ _ _ (hK _ _ _ _ (show K _ _ _ _ from ?_)))))))))
  rw [nk_ix]
  refine hK _ _ _ _ (nk_AL rfl rfl rfl (show 3 * i + 2 < 18 by omega) (show K _ _ _ _ from ?_))
  rw [e3]
  refine hK _ _ _ _ (hK _ _ _ _ (show K _ _ _ _ from ?_))
  refine hK _ _ _ _ (nk_ne (by omega) (by omega) (fun q => ?_) (fun q => ?_))
  · have hp := nk_p256 s3
    refine hK _ _ _ _ (hK _ _ _ _ (hK _ _ _ _ (hK _ _ _ _ (show K _ _ _ _ from ?_))))
    rw [nk_one (by omega)]
    refine hK _ _ _ _ (nk_ne (by omega) (by omega) (fun w => ?_) (fun w => ?_))
    · rw [soB, if_neg q, decide_eq_false w] at h
      refine hK _ _ _ _ (show K _ _ _ _ from ?_)
      exact hK _ _ _ _ (And.intro rfl (h))
    · rw [soB, if_neg q, decide_eq_true w] at h
      refine hK _ _ _ _ (hK _ _ _ _ (show K _ _ _ _ from ?_))
      exact hK _ _ _ _ (And.intro rfl (h))
  · have hpc := pcn_le (mb n r e.1 e.2.1)
    refine hK _ _ _ _ (show K _ _ _ _ from ?_)
    refine hK _ _ _ _ (nk_stS rfl rfl rfl rfl ?_)
    refine sm_ones hlt ?_
    refine hK _ _ _ _ (show K _ _ _ _ from ?_)
    refine hK _ _ _ _ (nk_le (by omega) (by omega) (fun w => ?_) (fun w => ?_))
    · rw [soB, if_pos q, decide_eq_false (by omega)] at h
      refine hK _ _ _ _ (hK _ _ _ _ (show K _ _ _ _ from ?_))
      exact hK _ _ _ _ (And.intro rfl (h))
    · rw [soB, if_pos q, decide_eq_true w] at h
      refine hK _ _ _ _ (hK _ _ _ _ (show K _ _ _ _ from ?_))
      exact hK _ _ _ _ (And.intro rfl (h))
theorem sx_note {c : Nat} {x y z : Int32} (hc : D 46 3 = nI c) (hc6 : c ≤ 6) (h0 : c = 6 → P (some (.int (bI false))) D) (h1 : c < 6 → P (some (.int (bI true))) (nk_up (nk_up (nk_up (nk_up D 47 c x) 48 c y) 49 c z) 46 3 (nI (c + 1)))) : nk_run S (d + 1) 23 [.ref 46, .int x, .int y, .int z] D P := by
  refine nk_go (M := (3, yX3_note, cX3_note, 4, (some .boolean), false, 3, nk_T23)) rfl rfl (Nat.le_of_ble_eq_true rfl) (fun K hK => ?_)
  show K 0 [some (.ref 46), some (.int x), some (.int y), some (.int z)] [] D
  refine hK _ _ _ _ (hK _ _ _ _ (nk_GI rfl rfl rfl (show K _ _ _ _ from ?_)))
  rw [hc]
  refine hK _ _ _ _ (nk_bf (nI_pos (by omega)) ?_)
  refine hK _ _ _ _ (hK _ _ _ _ (nk_GI rfl rfl rfl (hK _ _ _ _ (show K _ _ _ _ from ?_))))
  rw [hc]
  refine hK _ _ _ _ (nk_lt (by omega) (by omega) (fun q => ?_) (fun q => ?_))
  · refine hK _ _ _ _ (hK _ _ _ _ (nk_GR rfl rfl rfl (hK _ _ _ _ (hK _ _ _ _ (nk_GI rfl rfl rfl (hK _ _ _ _ (show K _ _ _ _ from ?_)))))))
    rw [hc]
    refine hK _ _ _ _ (nk_AS rfl rfl rfl q (show K _ _ _ _ from ?_))
    refine hK _ _ _ _ (hK _ _ _ _ (nk_GR rfl rfl rfl (hK _ _ _ _ (hK _ _ _ _ (nk_GI rfl rfl rfl (hK _ _ _ _ (show K _ _ _ _ from ?_)))))))
    rw [show nk_up D 47 c x 46 3 = nI c by simp [nk_up, hc]]
    refine hK _ _ _ _ (nk_AS rfl rfl rfl q (show K _ _ _ _ from ?_))
    refine hK _ _ _ _ (hK _ _ _ _ (nk_GR rfl rfl rfl (hK _ _ _ _ (hK _ _ _ _ (nk_GI rfl rfl rfl (hK _ _ _ _ (show K _ _ _ _ from ?_)))))))
    rw [show nk_up (nk_up D 47 c x) 48 c y 46 3 = nI c by simp [nk_up, hc]]
    refine hK _ _ _ _ (nk_AS rfl rfl rfl q (show K _ _ _ _ from ?_))
    refine hK _ _ _ _ (hK _ _ _ _ (hK _ _ _ _ (nk_GI rfl rfl rfl (hK _ _ _ _ (hK _ _ _ _ (hK _ _ _ _ (nk_PI rfl rfl rfl (hK _ _ _ _ (show K _ _ _ _ from ?_)))))))))
    rw [show nk_up (nk_up (nk_up D 47 c x) 48 c y) 49 c z 46 3 = nI c by simp [nk_up, hc], nk_add]
    exact hK _ _ _ _ (And.intro rfl (h1 q))
  · refine hK _ _ _ _ (show K _ _ _ _ from ?_)
    exact hK _ _ _ _ (And.intro rfl (h0 (by omega)))
theorem op_seen {x y w : Int32} (hr : REL D) (h : ∀ v D1, TH S (d + 20) 120 [.ref 52, .int x, .int y, .int w] v D1 → P (some (.int v)) D1) : nk_run S (d + 20) 57 [.ref 0, .int x, .int y, .int w] D P := by
  have hr0 := hr
  obtain ⟨n, ka, s, t, L, tx, u, pa, kp, c, se, ok, xr, mr⟩ := hr
  have hw := ok.1
  have hx := xr.1
  have hxs := hx.1
  have hn6 := hxs.1
  have hn := hxs.2.1
  have h64 := p64 hn6
  have hmk := mr.1
  have hms := MS_now mr.2.1 hw
  have hR : D 6 3 = nI s.2.1 := hx.2.1
  have mR : D 54 36 = nI s.2.1 := mr.2.1.2.1
  have hR64 : s.2.1 < 64 := by have := hw.2.2.1; omega
  have xE := xr.2.2.2.2.2
  have mE := mr.2.2.2.2.2.2
  have hc6 := ok.2.2.2.2.2.1
  refine nk_go (M := (5, yX5_seen, cX5_seen, 4, (some .int), false, 3, nk_T57)) rfl rfl (Nat.le_of_ble_eq_true rfl) (fun K hK => ?_)
  show K 0 [some (.ref 0), some (.int x), some (.int y), some (.int w)] [] D
  have unk : (vld (2 ^ n) x = false ∨ vld n y = false ∨ ∃ co p, p < n ∧ co < 2 ^ n ∧ x = nI co ∧ y = nI p ∧ co.testBit p = false) → K 30 [some (.ref 0), some (.int x), some (.int y), some (.int w)] [] D := by
    intro hno
    refine hK _ _ _ _ (show K _ _ _ _ from ?_)
    refine hK _ _ _ _ (And.intro rfl (h _ _ ?_))
    refine nk_go (M := (6, yX6_seen, cX6_seen, 4, (some .int), false, 3, nk_T120)) rfl rfl (Nat.le_of_ble_eq_true rfl) (fun K hK => ?_)
    show K 0 [some (.ref 52), some (.int x), some (.int y), some (.int w)] [] D
    have bad : K 24 [some (.ref 52), some (.int x), some (.int y), some (.int w)] [] D := by
      refine hK _ _ _ _ (show K _ _ _ _ from ?_)
      exact hK _ _ _ _ (And.intro rfl (⟨rfl, hr0⟩))
    refine hK _ _ _ _ (hK _ _ _ _ (show K _ _ _ _ from ?_))
    refine hK _ _ _ _ (nk_stV rfl rfl rfl rfl ?_)
    refine sm_arePeople hmk.2.1 hn6 ?_
    refine hK _ _ _ _ (nk_beq (fun _ => bad) (fun b1 => ?_))
    refine hK _ _ _ _ (hK _ _ _ _ (show K _ _ _ _ from ?_))
    refine hK _ _ _ _ (nk_stV rfl rfl rfl rfl ?_)
    refine sm_isPerson hmk.2.1 hn6 ?_
    refine hK _ _ _ _ (nk_beq (fun _ => bad) (fun b2 => ?_))
    rcases hno with z | z | ⟨co, p, hp, hco, rfl, rfl, hb⟩
    · rw [b1] at z; cases z
    · rw [b2] at z; cases z
    · refine hK _ _ _ _ (hK _ _ _ _ (show K _ _ _ _ from ?_))
      refine hK _ _ _ _ (nk_stS rfl rfl rfl rfl ?_)
      refine sm_has (by omega) (by omega) ?_
      rw [hb]
      refine hK _ _ _ _ (nk_bne (fun z => by cases z) (fun _ => bad))
  refine hK _ _ _ _ (hK _ _ _ _ (nk_GR rfl rfl rfl (hK _ _ _ _ (show K _ _ _ _ from ?_))))
  refine hK _ _ _ _ (nk_stV rfl rfl rfl rfl ?_)
  refine sx_hasAll isS6 hn hn6 ?_
  refine hK _ _ _ _ (nk_beq (fun b1 => unk (Or.inl b1)) (fun b1 => ?_))
  refine hK _ _ _ _ (hK _ _ _ _ (nk_GR rfl rfl rfl (hK _ _ _ _ (show K _ _ _ _ from ?_))))
  refine hK _ _ _ _ (nk_stV rfl rfl rfl rfl ?_)
  refine sx_has isS6 hn hn6 ?_
  refine hK _ _ _ _ (nk_beq (fun b2 => unk (Or.inr (Or.inl b2))) (fun b2 => ?_))
  obtain ⟨co, hco, rfl⟩ := vld_of (by omega) b1
  obtain ⟨p, hp, rfl⟩ := vld_of (by omega) b2
  refine hK _ _ _ _ (hK _ _ _ _ (show K _ _ _ _ from ?_))
  refine hK _ _ _ _ (nk_stS rfl rfl rfl rfl ?_)
  refine sx_isIn (by omega) (by omega) ?_
  refine hK _ _ _ _ (nk_bne (fun b3 => ?_) (fun b3 => unk (Or.inr (Or.inr ⟨co, p, hp, hco, rfl, rfl, b3⟩))))
  -- the reference up to its third test
  have mroad : ∀ v D1, D1 53 0 = nI n → (∀ (K : nk_K), (∀ pc loc stk D, nk_step S (nk_run S (d + 19)) nk_T120 (some .int) (fun r2 D2 => r2 = some (.int v) ∧ REL D2) K pc loc stk D → K pc loc stk D) → K (if decide (((0 : Nat) : Int) ≤ w.toInt ∧ w.toInt ≤ ((7 : Nat) : Int)) = true then 42 else 39) [some (.ref 52), some (.int (nI co)), some (.int (nI p)), some (.int w)] [] D1) → TH S (d + 20) 120 [.ref 52, .int (nI co), .int (nI p), .int w] v D1 := by
    intro v D1 e1 hv
    unfold TH
    refine nk_go (M := (6, yX6_seen, cX6_seen, 4, (some .int), false, 3, nk_T120)) rfl rfl (Nat.le_of_ble_eq_true rfl) (fun K hK => ?_)
    show K 0 [some (.ref 52), some (.int (nI co)), some (.int (nI p)), some (.int w)] [] D1
    refine hK _ _ _ _ (hK _ _ _ _ (show K _ _ _ _ from ?_))
    refine hK _ _ _ _ (nk_stV rfl rfl rfl rfl ?_)
    refine sm_arePeople e1 hn6 ?_
    rw [b1]
    refine hK _ _ _ _ (nk_beq (fun z => by cases z) (fun _ => ?_))
    refine hK _ _ _ _ (hK _ _ _ _ (show K _ _ _ _ from ?_))
    refine hK _ _ _ _ (nk_stV rfl rfl rfl rfl ?_)
    refine sm_isPerson e1 hn6 ?_
    rw [b2]
    refine hK _ _ _ _ (nk_beq (fun z => by cases z) (fun _ => ?_))
    refine hK _ _ _ _ (hK _ _ _ _ (show K _ _ _ _ from ?_))
    refine hK _ _ _ _ (nk_stS rfl rfl rfl rfl ?_)
    refine sm_has (by omega) (by omega) ?_
    rw [b3]
    refine hK _ _ _ _ (nk_bne (fun _ => ?_) (fun z => by cases z))
    refine hK _ _ _ _ (hK _ _ _ _ (hK _ _ _ _ (hK _ _ _ _ (show K _ _ _ _ from ?_))))
    refine hK _ _ _ _ (nk_stS rfl rfl rfl rfl ?_)
    refine sm_in2 (a := ((0 : Nat) : Int)) (b := ((7 : Nat) : Int)) rfl rfl ?_
    have hvK := hv K hK
    refine hK _ _ _ _ (nk_bne (fun q => ?_) (fun q => ?_))
    · rw [q, if_pos rfl] at hvK
      exact hvK
    · rw [q, if_neg (by decide)] at hvK
      exact hvK
  refine hK _ _ _ _ (show K _ _ _ _ from ?_)
  rcases rg (lo := 0) (hi := 7) (by decide) (by decide) w with ⟨ro, -, hro, rfl, hd⟩ | ⟨hno, hd⟩
  · rw [hd, if_pos rfl] at mroad
    have good : K 47 [some (.ref 0), some (.int (nI co)), some (.int (nI p)), some (.int (nI ro))] [] D := by
      refine hK _ _ _ _ (hK _ _ _ _ (nk_GR rfl rfl rfl (hK _ _ _ _ (hK _ _ _ _ (hK _ _ _ _ (show K _ _ _ _ from ?_))))))
      refine hK _ _ _ _ (nk_stV rfl rfl rfl rfl ?_)
      refine sx_note xE.1 hc6 (fun g => ?_) (fun g => ?_)
      · refine hK _ _ _ _ (nk_beq (fun _ => ?_) (fun z => by cases z))
        refine hK _ _ _ _ (show K _ _ _ _ from ?_)
        refine hK _ _ _ _ (And.intro rfl (h _ _ (mroad _ D hmk.2.1 (fun K hK => ?_))))
        refine hK _ _ _ _ (hK _ _ _ _ (nk_GI rfl rfl rfl (hK _ _ _ _ (show K _ _ _ _ from ?_))))
        rw [mE.1, g]
        refine hK _ _ _ _ (nk_nf rfl ?_)
        refine hK _ _ _ _ (show K _ _ _ _ from ?_)
        exact hK _ _ _ _ (And.intro rfl (⟨rfl, hr0⟩))
      · refine hK _ _ _ _ (nk_beq (fun z => by cases z) (fun _ => ?_))
        refine hK _ _ _ _ (hK _ _ _ _ (nk_GR rfl rfl rfl (hK _ _ _ _ (nk_GI rfl rfl rfl (hK _ _ _ _ (show K _ _ _ _ from ?_))))))
        have e1 : nk_up (nk_up (nk_up (nk_up D 47 c (nI co)) 48 c (nI p)) 49 c (nI ro)) 46 3 (nI (c + 1)) 46 3 = nI (c + 1) := by simp [nk_up]
        rw [e1]
        have fr : ∀ a b, ¬ (46 ≤ a ∧ a < 50) → nk_up (nk_up (nk_up (nk_up D 47 c (nI co)) 48 c (nI p)) 49 c (nI ro)) 46 3 (nI (c + 1)) a b = D a b := fun a b hab => by simp [nk_up, show ¬ a = 46 by omega, show ¬ a = 47 by omega, show ¬ a = 48 by omega, show ¬ a = 49 by omega]
        have fe : XE (nk_up (nk_up (nk_up (nk_up D 47 c (nI co)) 48 c (nI p)) 49 c (nI ro)) 46 3 (nI (c + 1))) (c + 1) (fun i => if i = c then (co, p, ro) else se i) := by
          refine ⟨e1, fun i hi => ?_⟩
          by_cases e : i = c
          · subst e
            simp [nk_up]
          · have := xE.2 i (by omega)
            simp [nk_up, e, this]
        generalize nk_up (nk_up (nk_up (nk_up D 47 c (nI co)) 48 c (nI p)) 49 c (nI ro)) 46 3 (nI (c + 1)) = D1 at fr fe e1 ⊢
        refine hK _ _ _ _ (And.intro rfl (h _ _ (mroad _ D1 (by rw [fr _ _ (by omega)]; exact hmk.2.1) (fun K hK => ?_))))
        have m18 : D1 52 18 = nI c := by rw [fr _ _ (by omega)]; exact mE.1
        refine hK _ _ _ _ (hK _ _ _ _ (nk_GI rfl rfl rfl (hK _ _ _ _ (show K _ _ _ _ from ?_))))
        rw [m18]
        refine hK _ _ _ _ (nk_ne (by omega) (by omega) (fun _ => ?_) (fun z => by omega))
        refine hK _ _ _ _ (hK _ _ _ _ (nk_GR rfl rfl rfl (hK _ _ _ _ (hK _ _ _ _ (hK _ _ _ _ (nk_GI rfl rfl rfl (hK _ _ _ _ (hK _ _ _ _ (show K _ _ _ _ from ?_)))))))))
        rw [m18, nk_mul]
        refine hK _ _ _ _ (nk_AS rfl rfl rfl (show 3 * c < 18 by omega) (show K _ _ _ _ from ?_))
        refine hK _ _ _ _ (hK _ _ _ _ (nk_GR rfl rfl rfl (hK _ _ _ _ (hK _ _ _ _ (hK _ _ _ _ (nk_GI rfl rfl rfl (hK _ _ _ _ (hK _ _ _ _ (hK _ _ _ _ (hK _ _ _ _ (show K _ _ _ _ from ?_)))))))))))
        rw [show nk_up D1 63 (3 * c) (nI co) 52 18 = nI c by simp [nk_up, m18], nk_ix]
        refine hK _ _ _ _ (nk_AS rfl rfl rfl (show 3 * c + 1 < 18 by omega) (show K _ _ _ _ from ?_))
        refine hK _ _ _ _ (hK _ _ _ _ (nk_GR rfl rfl rfl (hK _ _ _ _ (hK _ _ _ _ (hK _ _ _ _ (nk_GI rfl rfl rfl (hK _ _ _ _ (hK _ _ _ _ (hK _ _ _ _ (hK _ _ _ _ (show K _ _ _ _ from ?_)))))))))))
        rw [show nk_up (nk_up D1 63 (3 * c) (nI co)) 63 (3 * c + 1) (nI p) 52 18 = nI c by simp [nk_up, m18], nk_ix]
        refine hK _ _ _ _ (nk_AS rfl rfl rfl (show 3 * c + 2 < 18 by omega) (show K _ _ _ _ from ?_))
        refine hK _ _ _ _ (hK _ _ _ _ (hK _ _ _ _ (nk_GI rfl rfl rfl (hK _ _ _ _ (hK _ _ _ _ (hK _ _ _ _ (nk_PI rfl rfl rfl (hK _ _ _ _ (hK _ _ _ _ (nk_GI rfl rfl rfl (show K _ _ _ _ from ?_)))))))))))
        rw [show nk_up (nk_up (nk_up D1 63 (3 * c) (nI co)) 63 (3 * c + 1) (nI p)) 63 (3 * c + 2) (nI ro) 52 18 = nI c by simp [nk_up, m18], nk_add]
        have e2 : nk_up (nk_up (nk_up (nk_up D1 63 (3 * c) (nI co)) 63 (3 * c + 1) (nI p)) 63 (3 * c + 2) (nI ro)) 52 18 (nI (c + 1)) 52 18 = nI (c + 1) := by simp [nk_up]
        rw [e2]
        refine hK _ _ _ _ (And.intro rfl ⟨rfl, n, ka, s, t, L, tx, u, pa, kp, c + 1, (fun i => if i = c then (co, p, ro) else se i), ⟨hw, ok.2.1, ok.2.2.1, ok.2.2.2.1, ok.2.2.2.2.1, by omega, fun i hi => ?_⟩, XR_E (D := D) (fun a b h1 h2 => ?_) (XE_of (fun a b h1 h2 => ?_) fe) xr, MR_E (D := D) (fun a b h1 h2 => ?_) (fun b hb => ?_) ⟨e2, fun i hi => ?_⟩ mr⟩)
        · by_cases e : i = c
          · subst e
            simp only [if_true]
            exact ⟨hco, hp, hro⟩
          · simp only [e, if_false]
            exact ok.2.2.2.2.2.2 i (by omega)
        · simp [nk_up, show ¬ a = 52 by omega, show ¬ a = 63 by omega, fr a b (by omega)]
        · simp [nk_up, show ¬ a = 52 by omega, show ¬ a = 63 by omega]
        · simp [nk_up, show ¬ a = 52 by omega, h2, fr a b (by omega)]
        · simp [nk_up, hb, fr 52 b (by omega)]
        · by_cases e : i = c
          · subst e
            simp [nk_up]
          · have := mE.2 i (by omega)
            have q1 : ∀ z, z < 3 → ∀ y, y < 3 → ¬ 3 * i + z = 3 * c + y := fun z hz y hy => by omega
            simp only [e, if_false]
            refine ⟨?_, ?_, ?_⟩
            · simp only [nk_up, show ¬ (63 = 52) by decide, false_and, if_false, true_and, show ¬ 3 * i = 3 * c + 2 by omega, show ¬ 3 * i = 3 * c + 1 by omega, show ¬ 3 * i = 3 * c by omega]
              rw [fr _ _ (by omega)]
              exact this.1
            · simp only [nk_up, show ¬ (63 = 52) by decide, false_and, if_false, true_and, show ¬ 3 * i + 1 = 3 * c + 2 by omega, show ¬ 3 * i + 1 = 3 * c + 1 by omega, show ¬ 3 * i + 1 = 3 * c by omega]
              rw [fr _ _ (by omega)]
              exact this.2.1
            · simp only [nk_up, show ¬ (63 = 52) by decide, false_and, if_false, true_and, show ¬ 3 * i + 2 = 3 * c + 2 by omega, show ¬ 3 * i + 2 = 3 * c + 1 by omega, show ¬ 3 * i + 2 = 3 * c by omega]
              rw [fr _ _ (by omega)]
              exact this.2.2
    refine hK _ _ _ _ (nk_eq (by omega) (by omega) (fun _ => good) (fun q => ?_))
    refine hK _ _ _ _ (show K _ _ _ _ from ?_)
    refine hK _ _ _ _ (nk_stS rfl rfl rfl rfl ?_)
    refine sx_isRole ?_
    rw [show decide (((1 : Nat) : Int) ≤ (nI ro).toInt ∧ (nI ro).toInt ≤ ((7 : Nat) : Int)) = true by rw [nI_toInt (by omega)]; exact decide_eq_true (by omega)]
    refine hK _ _ _ _ (nk_bne (fun _ => good) (fun z => by cases z))
  · rw [hd, if_neg (by decide)] at mroad
    have hd' := of_decide_eq_false hd
    have n0 : ¬ w = nI 0 := fun e => hd' (by rw [e]; decide)
    refine hK _ _ _ _ (nk_bf n0 ?_)
    refine hK _ _ _ _ (show K _ _ _ _ from ?_)
    refine hK _ _ _ _ (nk_stS rfl rfl rfl rfl ?_)
    refine sx_isRole ?_
    rw [show decide (((1 : Nat) : Int) ≤ w.toInt ∧ w.toInt ≤ ((7 : Nat) : Int)) = false from decide_eq_false (by omega)]
    refine hK _ _ _ _ (nk_bne (fun z => by cases z) (fun _ => ?_))
    refine hK _ _ _ _ (show K _ _ _ _ from ?_)
    refine hK _ _ _ _ (And.intro rfl (h _ _ (mroad _ D hmk.2.1 (fun K hK => ?_))))
    refine hK _ _ _ _ (show K _ _ _ _ from ?_)
    exact hK _ _ _ _ (And.intro rfl (⟨rfl, hr0⟩))
end NKO
