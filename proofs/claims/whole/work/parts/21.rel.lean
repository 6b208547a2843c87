/-! ===== the relation between the class's object and the reference's ===== -/
abbrev Sc3 : Type := (Nat → Nat → Nat) × Nat × Nat
def XSc (D : nk_D) (k n : Nat) (ka : Nat → Nat) (s : Sc3) : Prop := XS D k n ka s.1 ∧ D k 3 = nI s.2.1 ∧ D k 4 = nI s.2.2
def MSc (D : nk_D) (q b n : Nat) (s : Sc3) : Prop := (∀ p z, p < n → z < n → D q (b + (6 * p + z)) = nI (s.1 p z)) ∧ D q (b + 36) = nI s.2.1 ∧ D q (b + 37) = nI s.2.2
def WF (n : Nat) (s : Sc3) : Prop := (∀ p z, p < n → z < n → s.1 p z ≤ 7) ∧ (∀ p, p < n → s.1 p p = 0) ∧ s.2.1 < 2 ^ n ∧ s.2.2 ≤ 999
def consP (s : Sc3) (pa : Nat → Sc3) : Nat → Sc3 := fun i => if i = 0 then s else pa (i - 1)
/-- the class's parts -/
def XT (D : nk_D) (n : Nat) (ka : Nat → Nat) (t : Sc3) : Prop := XSc D 3 n ka t ∧ ∀ p q, p < 6 → q < 6 → ¬ (p < n ∧ q < n) → D 5 (p * 6 + q) = nI 0
def XL (D : nk_D) (L : Nat) (tx : Nat → Nat) : Prop := D 1 1 = nI L ∧ ∀ j, j < L → D 2 j = nI (tx j)
def XU (D : nk_D) (n : Nat) (ka : Nat → Nat) (u : Nat) (pa : Nat → Sc3) : Prop := ∃ x, x < 8 ∧ D 12 1 = nI x ∧ D 12 2 = nI u ∧ ∀ i, i < u → XSc D (14 + 3 * ((x + 7 - i) % 8)) n ka (pa i)
def XP (D : nk_D) (n : Nat) (ka : Nat → Nat) (kp : Nat → Option Sc3) : Prop := ∀ k, k < 2 → D 45 k = bI (kp k).isSome ∧ ∀ s, kp k = some s → XSc D (39 + 3 * k) n ka s
def XE (D : nk_D) (c : Nat) (se : Nat → Nat × Nat × Nat) : Prop := D 46 3 = nI c ∧ ∀ i, i < c → D 47 i = nI (se i).1 ∧ D 48 i = nI (se i).2.1 ∧ D 49 i = nI (se i).2.2
/-- the reference's parts -/
def MT (D : nk_D) (n : Nat) (t : Sc3) : Prop := (∀ p z, p < n → z < n → D 53 (7 + (6 * p + z)) = nI (t.1 p z)) ∧ D 53 43 = nI t.2.1
def ML (D : nk_D) (L : Nat) (tx : Nat → Nat) : Prop := D 52 3 = nI L ∧ ∀ j, j < L → D 55 j = nI (tx j)
def MU (D : nk_D) (n u : Nat) (pa : Nat → Sc3) : Prop := D 52 11 = nI u ∧ ∀ i, i < u → MSc D 57 (38 * (u - 1 - i)) n (pa i)
def MP (D : nk_D) (n : Nat) (kp : Nat → Option Sc3) : Prop := ∀ k, k < 2 → D 59 k = bI (kp k).isSome ∧ ∀ s, kp k = some s → MSc D 60 (38 * k) n s
def ME (D : nk_D) (c : Nat) (se : Nat → Nat × Nat × Nat) : Prop := D 52 18 = nI c ∧ ∀ i, i < c → D 63 (3 * i) = nI (se i).1 ∧ D 63 (3 * i + 1) = nI (se i).2.1 ∧ D 63 (3 * i + 2) = nI (se i).2.2
def XR (D : nk_D) (n : Nat) (ka : Nat → Nat) (s t : Sc3) (L : Nat) (tx : Nat → Nat) (u : Nat) (pa : Nat → Sc3) (kp : Nat → Option Sc3) (c : Nat) (se : Nat → Nat × Nat × Nat) : Prop := XSc D 6 n ka s ∧ XT D n ka t ∧ XL D L tx ∧ XU D n ka u pa ∧ XP D n ka kp ∧ XE D c se
def MR (D : nk_D) (n : Nat) (ka : Nat → Nat) (s t : Sc3) (L : Nat) (tx : Nat → Nat) (u : Nat) (pa : Nat → Sc3) (kp : Nat → Option Sc3) (c : Nat) (se : Nat → Nat × Nat × Nat) : Prop := MK D n ka ∧ MSc D 54 0 n s ∧ MT D n t ∧ ML D L tx ∧ MU D n u pa ∧ MP D n kp ∧ ME D c se
def OK (n : Nat) (s t : Sc3) (L : Nat) (tx : Nat → Nat) (u : Nat) (pa : Nat → Sc3) (kp : Nat → Option Sc3) (c : Nat) (se : Nat → Nat × Nat × Nat) : Prop := WF n s ∧ (WF n t ∧ t.2.2 = 0) ∧ (L ≤ 160 ∧ ∀ j, j < L → tx j < 256) ∧ (u ≤ 8 ∧ ∀ i, i < u → WF n (pa i)) ∧ (∀ k z, kp k = some z → WF n z) ∧ (c ≤ 6 ∧ ∀ i, i < c → (se i).1 < 2 ^ n ∧ (se i).2.1 < n ∧ (se i).2.2 ≤ 7)
def REL (D : nk_D) : Prop := ∃ n ka s t L tx u pa kp c se, OK n s t L tx u pa kp c se ∧ XR D n ka s t L tx u pa kp c se ∧ MR D n ka s t L tx u pa kp c se
/-! what of it hangs on which places -/
theorem XSc_of {D D' : nk_D} {k n : Nat} {ka : Nat → Nat} {s : Sc3} (h0 : ∀ b, D' k b = D k b) (h1 : ∀ b, D' (k + 1) b = D (k + 1) b) (h2 : ∀ b, D' (k + 2) b = D (k + 2) b) (h : XSc D k n ka s) : XSc D' k n ka s := by
  obtain ⟨⟨a1, a2, a3, a4⟩, a5, a6⟩ := h
  exact ⟨⟨a1, by rw [h0]; exact a2, fun p hp => by rw [h1]; exact a3 p hp, fun p q hp hq => by rw [h2]; exact a4 p q hp hq⟩, by rw [h0]; exact a5, by rw [h0]; exact a6⟩
theorem MSc_of {D D' : nk_D} {q b n : Nat} {s : Sc3} (h0 : ∀ j, j < 38 → D' q (b + j) = D q (b + j)) (hn : n ≤ 6) (h : MSc D q b n s) : MSc D' q b n s := by
  obtain ⟨a1, a2, a3⟩ := h
  exact ⟨fun p z hp hz => by rw [h0 _ (by omega)]; exact a1 p z hp hz, by rw [h0 36 (by omega)]; exact a2, by rw [h0 37 (by omega)]; exact a3⟩
theorem XT_of {D D' : nk_D} {n : Nat} {ka : Nat → Nat} {t : Sc3} (h0 : ∀ a b, 3 ≤ a → a < 6 → D' a b = D a b) (h : XT D n ka t) : XT D' n ka t := ⟨XSc_of (fun b => h0 3 b (by omega) (by omega)) (fun b => h0 4 b (by omega) (by omega)) (fun b => h0 5 b (by omega) (by omega)) h.1, fun p q hp hq hn => by rw [h0 5 _ (by omega) (by omega)]; exact h.2 p q hp hq hn⟩
theorem XL_of {D D' : nk_D} {L : Nat} {tx : Nat → Nat} (h0 : D' 1 1 = D 1 1) (h1 : ∀ b, D' 2 b = D 2 b) (h : XL D L tx) : XL D' L tx := ⟨by rw [h0]; exact h.1, fun j hj => by rw [h1]; exact h.2 j hj⟩
theorem XU_of {D D' : nk_D} {n : Nat} {ka : Nat → Nat} {u : Nat} {pa : Nat → Sc3} (h0 : ∀ a b, 12 ≤ a → a < 38 → D' a b = D a b) (h : XU D n ka u pa) : XU D' n ka u pa := by
  obtain ⟨x, a1, a2, a3, a4⟩ := h
  exact ⟨x, a1, by rw [h0 12 _ (by omega) (by omega)]; exact a2, by rw [h0 12 _ (by omega) (by omega)]; exact a3, fun i hi => XSc_of (fun b => h0 _ b (by omega) (by omega)) (fun b => h0 _ b (by omega) (by omega)) (fun b => h0 _ b (by omega) (by omega)) (a4 i hi)⟩
theorem XP_of {D D' : nk_D} {n : Nat} {ka : Nat → Nat} {kp : Nat → Option Sc3} (h0 : ∀ a b, 39 ≤ a → a < 46 → D' a b = D a b) (h : XP D n ka kp) : XP D' n ka kp := fun k hk => ⟨by rw [h0 45 _ (by omega) (by omega)]; exact (h k hk).1, fun s hs => XSc_of (fun b => h0 _ b (by omega) (by omega)) (fun b => h0 _ b (by omega) (by omega)) (fun b => h0 _ b (by omega) (by omega)) ((h k hk).2 s hs)⟩
theorem XE_of {D D' : nk_D} {c : Nat} {se : Nat → Nat × Nat × Nat} (h0 : ∀ a b, 46 ≤ a → a < 50 → D' a b = D a b) (h : XE D c se) : XE D' c se := ⟨by rw [h0 46 _ (by omega) (by omega)]; exact h.1, fun i hi => by rw [h0 47 _ (by omega) (by omega), h0 48 _ (by omega) (by omega), h0 49 _ (by omega) (by omega)]; exact h.2 i hi⟩
theorem MT_of {D D' : nk_D} {n : Nat} {t : Sc3} (h0 : ∀ b, D' 53 b = D 53 b) (h : MT D n t) : MT D' n t := ⟨fun p z hp hz => by rw [h0]; exact h.1 p z hp hz, by rw [h0]; exact h.2⟩
theorem ML_of {D D' : nk_D} {L : Nat} {tx : Nat → Nat} (h0 : D' 52 3 = D 52 3) (h1 : ∀ b, D' 55 b = D 55 b) (h : ML D L tx) : ML D' L tx := ⟨by rw [h0]; exact h.1, fun j hj => by rw [h1]; exact h.2 j hj⟩
theorem MU_of {D D' : nk_D} {n u : Nat} {pa : Nat → Sc3} (hn : n ≤ 6) (h0 : D' 52 11 = D 52 11) (h1 : ∀ b, D' 57 b = D 57 b) (h : MU D n u pa) : MU D' n u pa := ⟨by rw [h0]; exact h.1, fun i hi => MSc_of (fun j _ => h1 _) hn (h.2 i hi)⟩
theorem MP_of {D D' : nk_D} {n : Nat} {kp : Nat → Option Sc3} (hn : n ≤ 6) (h0 : ∀ b, D' 59 b = D 59 b) (h1 : ∀ b, D' 60 b = D 60 b) (h : MP D n kp) : MP D' n kp := fun k hk => ⟨by rw [h0]; exact (h k hk).1, fun s hs => MSc_of (fun j _ => h1 _) hn ((h k hk).2 s hs)⟩
theorem ME_of {D D' : nk_D} {c : Nat} {se : Nat → Nat × Nat × Nat} (h0 : D' 52 18 = D 52 18) (h1 : ∀ b, D' 63 b = D 63 b) (h : ME D c se) : ME D' c se := ⟨by rw [h0]; exact h.1, fun i hi => by rw [h1, h1, h1]; exact h.2 i hi⟩
theorem XR_of {D D' : nk_D} {n : Nat} {ka : Nat → Nat} {s t : Sc3} {L : Nat} {tx : Nat → Nat} {u : Nat} {pa : Nat → Sc3} {kp : Nat → Option Sc3} {c : Nat} {se : Nat → Nat × Nat × Nat} (h0 : ∀ a b, a < 50 → ¬ (9 ≤ a ∧ a < 12) → ¬ (a = 1 ∧ b ≠ 1) → D' a b = D a b) (h : XR D n ka s t L tx u pa kp c se) : XR D' n ka s t L tx u pa kp c se := by
  obtain ⟨a1, a2, a3, a4, a5, a6⟩ := h
  exact ⟨XSc_of (fun b => h0 _ b (by omega) (by omega) (by omega)) (fun b => h0 _ b (by omega) (by omega) (by omega)) (fun b => h0 _ b (by omega) (by omega) (by omega)) a1, XT_of (fun a b h1 h2 => h0 a b (by omega) (by omega) (by omega)) a2, XL_of (h0 _ _ (by omega) (by omega) (by omega)) (fun b => h0 _ b (by omega) (by omega) (by omega)) a3, XU_of (fun a b h1 h2 => h0 a b (by omega) (by omega) (by omega)) a4, XP_of (fun a b h1 h2 => h0 a b (by omega) (by omega) (by omega)) a5, XE_of (fun a b h1 h2 => h0 a b (by omega) (by omega) (by omega)) a6⟩
theorem MR_of {D D' : nk_D} {n : Nat} {ka : Nat → Nat} {s t : Sc3} {L : Nat} {tx : Nat → Nat} {u : Nat} {pa : Nat → Sc3} {kp : Nat → Option Sc3} {c : Nat} {se : Nat → Nat × Nat × Nat} (h0 : ∀ a b, 52 ≤ a → (a = 52 → b = 3 ∨ b = 11 ∨ b = 18) → a ≠ 56 → a ≠ 58 → a ≠ 61 → a ≠ 62 → (a = 54 → b < 38) → D' a b = D a b) (h : MR D n ka s t L tx u pa kp c se) : MR D' n ka s t L tx u pa kp c se := by
  obtain ⟨a1, a2, a3, a4, a5, a6, a7⟩ := h
  have hn := a1.1
  exact ⟨MK_of (fun b => h0 53 b (by omega) (by omega) (by omega) (by omega) (by omega) (by omega) (by omega)) a1, MSc_of (fun j hj => h0 54 _ (by omega) (by omega) (by omega) (by omega) (by omega) (by omega) (by omega)) hn a2, MT_of (fun b => h0 53 b (by omega) (by omega) (by omega) (by omega) (by omega) (by omega) (by omega)) a3, ML_of (h0 52 3 (by omega) (by omega) (by omega) (by omega) (by omega) (by omega) (by omega)) (fun b => h0 55 b (by omega) (by omega) (by omega) (by omega) (by omega) (by omega) (by omega)) a4, MU_of hn (h0 52 11 (by omega) (by omega) (by omega) (by omega) (by omega) (by omega) (by omega)) (fun b => h0 57 b (by omega) (by omega) (by omega) (by omega) (by omega) (by omega) (by omega)) a5, MP_of hn (fun b => h0 59 b (by omega) (by omega) (by omega) (by omega) (by omega) (by omega) (by omega)) (fun b => h0 60 b (by omega) (by omega) (by omega) (by omega) (by omega) (by omega) (by omega)) a6, ME_of (h0 52 18 (by omega) (by omega) (by omega) (by omega) (by omega) (by omega) (by omega)) (fun b => h0 63 b (by omega) (by omega) (by omega) (by omega) (by omega) (by omega) (by omega)) a7⟩
/-! monotone in what is wanted -/
theorem nk_step_mono {S : nk_Sc} {call : Nat → List Value → nk_D → nk_P → Prop} {T : nk_T} {r : Option FieldType} {P P' : nk_P} {K : nk_K} {pc : Nat} {loc : nk_L} {stk : List Value} {D : nk_D} (hP : ∀ v D, P v D → P' v D) (h : nk_step S call T r P K pc loc stk D) : nk_step S call T r P' K pc loc stk D := by
  unfold nk_step at h ⊢
  split
  · next i nx a b v u he =>
    rw [he] at h
    simp only at h
    cases i with
    | ireturn =>
      simp only [nk_st] at h ⊢
      split
      · split
        · exact ⟨h.1, hP _ _ h.2⟩
        · exact h
      · next hx =>
        split at h
        · exact absurd rfl (hx _)
        · exact h
    | lreturn =>
      simp only [nk_st] at h ⊢
      split
      · exact ⟨h.1, hP _ _ h.2⟩
      · next hx =>
        split at h
        · exact absurd rfl (hx _)
        · exact h
    | return_ =>
      simp only [nk_st] at h ⊢
      split
      · exact ⟨h.1, hP _ _ h.2⟩
      · next hx =>
        split at h
        · exact absurd rfl hx
        · exact h
    | _ => exact h
  · next he =>
    rw [he] at h
    exact h
theorem nk_run_mono {S : nk_Sc} {d mu : Nat} {vs : List Value} {D : nk_D} {P P' : nk_P} (h : nk_run S d mu vs D P) (hP : ∀ v D, P v D → P' v D) : nk_run S d mu vs D P' := by
  cases d with
  | zero => exact h.elim
  | succ d =>
    rw [nk_run] at h ⊢
    split
    · next he => rw [he] at h; exact h
    · next M he =>
      rw [he] at h
      exact ⟨h.1, fun K hK => h.2 K (fun pc loc stk D q => hK pc loc stk D (nk_step_mono hP q))⟩
theorem isS3 : nk_isS 3 := ⟨rfl, rfl, rfl⟩
theorem isS6 : nk_isS 6 := ⟨rfl, rfl, rfl⟩
theorem isS9 : nk_isS 9 := ⟨rfl, rfl, rfl⟩
theorem isSp {i : Nat} (h : i < 8) : nk_isS (14 + 3 * i) := by
  match i, h with
  | 0, _ => exact ⟨rfl, rfl, rfl⟩
  | 1, _ => exact ⟨rfl, rfl, rfl⟩
  | 2, _ => exact ⟨rfl, rfl, rfl⟩
  | 3, _ => exact ⟨rfl, rfl, rfl⟩
  | 4, _ => exact ⟨rfl, rfl, rfl⟩
  | 5, _ => exact ⟨rfl, rfl, rfl⟩
  | 6, _ => exact ⟨rfl, rfl, rfl⟩
  | 7, _ => exact ⟨rfl, rfl, rfl⟩
theorem isSk {i : Nat} (h : i < 2) : nk_isS (39 + 3 * i) := by
  match i, h with
  | 0, _ => exact ⟨rfl, rfl, rfl⟩
  | 1, _ => exact ⟨rfl, rfl, rfl⟩
theorem nk_scenes {i : Nat} (h : i < 8) : ([14, 17, 20, 23, 26, 29, 32, 35] : List Nat)[i]? = some (14 + 3 * i) := by
  match i, h with
  | 0, _ => rfl
  | 1, _ => rfl
  | 2, _ => rfl
  | 3, _ => rfl
  | 4, _ => rfl
  | 5, _ => rfl
  | 6, _ => rfl
  | 7, _ => rfl
theorem nk_kepts {i : Nat} (h : i < 2) : ([39, 42] : List Nat)[i]? = some (39 + 3 * i) := by
  match i, h with
  | 0, _ => rfl
  | 1, _ => rfl
/-- a copied scene -/
theorem XSc_cp {D D' : nk_D} {k o n : Nat} {ka : Nat → Nat} {s : Sc3} (h1 : ∀ j, j = 2 ∨ j = 3 ∨ j = 4 → D' k j = D o j) (h2 : ∀ j, j < 6 → D' (k + 1) j = D (o + 1) j) (h3 : ∀ j, j < 36 → D' (k + 2) j = D (o + 2) j) (h : XSc D o n ka s) : XSc D' k n ka s := by
  obtain ⟨⟨a1, a2, a3, a4⟩, a5, a6⟩ := h
  exact ⟨⟨a1, by rw [h1 2 (by omega)]; exact a2, fun p hp => by rw [h2 p (by omega)]; exact a3 p hp, fun p q hp hq => by rw [h3 _ (by omega)]; exact a4 p q hp hq⟩, by rw [h1 3 (by omega)]; exact a5, by rw [h1 4 (by omega)]; exact a6⟩
section NKH
variable {S : nk_Sc} {d : Nat} {D : nk_D} {P : nk_P}
theorem sx_remember {n u : Nat} {ka : Nat → Nat} {s : Sc3} {pa : Nat → Sc3} (hs : XSc D 6 n ka s) (hu : XU D n ka u pa) (hu8 : u ≤ 8)
    (h : ∀ D', XU D' n ka (if u < 8 then u + 1 else 8) (consP s pa) → (∀ a b, (a < 12 ∨ 38 ≤ a) → D' a b = D a b) → P none D') : nk_run S (d + 2) 0 [.ref 12, .ref 6] D P := by
  obtain ⟨x, hx, h1, h2, h3⟩ := hu
  refine nk_go (M := (0, yX0_remember, cX0_remember, 2, none, false, 1, nk_T0)) rfl rfl (Nat.le_of_ble_eq_true rfl) (fun K hK => ?_)
  show K 0 [some (.ref 12), some (.ref 6)] [] D
  refine hK _ _ _ _ (hK _ _ _ _ (nk_GI rfl rfl rfl (show K _ _ _ _ from ?_)))
  rw [h1]
  refine hK _ _ _ _ (nk_bf (nI_pos (by omega)) ?_)
  refine hK _ _ _ _ (hK _ _ _ _ (nk_GI rfl rfl rfl (hK _ _ _ _ (show K _ _ _ _ from ?_))))
  rw [h1]
  refine hK _ _ _ _ (nk_bf (nI_ge hx (by omega)) ?_)
  refine hK _ _ _ _ (hK _ _ _ _ (nk_GR rfl rfl rfl (hK _ _ _ _ (hK _ _ _ _ (nk_GI rfl rfl rfl (show K _ _ _ _ from ?_))))))
  rw [h1]
  refine hK _ _ _ _ (nk_RL rfl rfl rfl (nk_scenes hx) (show K _ _ _ _ from ?_))
  refine hK _ _ _ _ (hK _ _ _ _ (hK _ _ _ _ (nk_GR rfl rfl rfl (hK _ _ _ _ (hK _ _ _ _ (nk_GI rfl rfl rfl (show K _ _ _ _ from ?_)))))))
  rw [h1]
  refine hK _ _ _ _ (nk_RL rfl rfl rfl (nk_scenes hx) (show K _ _ _ _ from ?_))
  refine hK _ _ _ _ (show K _ _ _ _ from ?_)
  refine hK _ _ _ _ (nk_stV rfl rfl (nk_rvI (isSp hx).1) rfl ?_)
  refine sx_copyFrom (isSp hx) isS6 (by omega) (fun D1 g1 g2 g3 g4 => ?_)
  have e1 : D1 12 1 = nI x := by rw [g4 12 1 (by omega) (by omega) (by omega)]; exact h1
  have e2 : D1 12 2 = nI u := by rw [g4 12 2 (by omega) (by omega) (by omega)]; exact h2
  show K 42 _ _ _
  refine hK _ _ _ _ (hK _ _ _ _ (hK _ _ _ _ (nk_GI rfl rfl rfl (hK _ _ _ _ (hK _ _ _ _ (hK _ _ _ _ (show K _ _ _ _ from ?_)))))))
  rw [e1, nk_add]
  refine hK _ _ _ _ (And.intro (fun z => absurd z (by decide)) (show K _ _ _ _ from ?_))
  rw [pk_rem (by omega) (by decide) (by decide)]
  refine hK _ _ _ _ (nk_PI rfl rfl rfl (hK _ _ _ _ (hK _ _ _ _ (hK _ _ _ _ (nk_GI rfl rfl rfl (hK _ _ _ _ (hK _ _ _ _ (hK _ _ _ _ (show K _ _ _ _ from ?_)))))))))
  have e3 : nk_up D1 12 1 (nI ((x + 1) % 8)) 12 2 = nI u := by simp [nk_up, e2]
  rw [e3, nk_add]
  refine hK _ _ _ _ (hK _ _ _ _ (nk_PI rfl rfl rfl (show K _ _ _ _ from ?_)))
  have e4 : (if nI 8 < nI (u + 1) then nI 8 else nI (u + 1)) = nI (if u < 8 then u + 1 else 8) := by
    by_cases q : u < 8
    · rw [if_pos q, if_neg (nI_nlt (by omega) (by omega))]
    · rw [if_neg q, if_pos (nI_lt (by omega) (by omega))]
  rw [e4]
  refine hK _ _ _ _ (And.intro rfl (h _ ⟨(x + 1) % 8, by omega, ?_, ?_, fun i hi => ?_⟩ (fun a b hab => ?_)))
  · simp [nk_up]
  · simp [nk_up]
  · have frame : ∀ a b, a ≠ 12 → nk_up (nk_up D1 12 1 (nI ((x + 1) % 8))) 12 2 (nI (if u < 8 then u + 1 else 8)) a b = D1 a b := fun a b ha => by simp [nk_up, ha]
    by_cases e : i = 0
    · subst e
      rw [show ((x + 1) % 8 + 7 - 0) % 8 = x by omega]
      show XSc _ _ n ka s
      exact XSc_of (fun b => frame _ b (by omega)) (fun b => frame _ b (by omega)) (fun b => frame _ b (by omega)) (XSc_cp g1 g2 g3 hs)
    · have hi' : i - 1 < u ∧ i ≤ 7 := by
        split at hi <;> omega
      rw [show ((x + 1) % 8 + 7 - i) % 8 = (x + 7 - (i - 1)) % 8 by omega]
      have hne : (x + 7 - (i - 1)) % 8 ≠ x := by omega
      have hlt : (x + 7 - (i - 1)) % 8 < 8 := by omega
      have b := h3 (i - 1) hi'.1
      generalize (x + 7 - (i - 1)) % 8 = y at hne hlt b ⊢
      rw [show consP s pa i = pa (i - 1) from if_neg e]
      exact XSc_of (fun z => by rw [frame _ _ (by omega), g4 _ _ (by omega) (by omega) (by omega)]) (fun z => by rw [frame _ _ (by omega), g4 _ _ (by omega) (by omega) (by omega)]) (fun z => by rw [frame _ _ (by omega), g4 _ _ (by omega) (by omega) (by omega)]) b
  · simp [nk_up, show ¬ a = 12 by omega, g4 a b (by omega) (by omega) (by omega)]
theorem sx_returnTo {n u : Nat} {ka : Nat → Nat} {pa : Nat → Sc3} (hu : XU D n ka u pa) (hu8 : u ≤ 8) (h0 : u = 0 → P (some (.int (bI false))) D)
    (h : ∀ D', 0 < u → XSc D' 6 n ka (pa 0) → XU D' n ka (u - 1) (fun i => pa (i + 1)) → (∀ a b, ¬ (6 ≤ a ∧ a < 9) → a ≠ 12 → D' a b = D a b) → P (some (.int (bI true))) D') : nk_run S (d + 2) 1 [.ref 12, .ref 6] D P := by
  obtain ⟨x, hx, h1, h2, h3⟩ := hu
  refine nk_go (M := (0, yX0_returnTo, cX0_returnTo, 3, (some .boolean), false, 1, nk_T1)) rfl rfl (Nat.le_of_ble_eq_true rfl) (fun K hK => ?_)
  show K 0 [some (.ref 12), some (.ref 6), none] [] D
  refine hK _ _ _ _ (hK _ _ _ _ (nk_GI rfl rfl rfl (hK _ _ _ _ (hK _ _ _ _ (hK _ _ _ _ (hK _ _ _ _ (hK _ _ _ _ (show K _ _ _ _ from ?_))))))))
  rw [h1, nk_add, nk_sub (by omega)]
  refine hK _ _ _ _ (And.intro (fun z => absurd z (by decide)) (show K _ _ _ _ from ?_))
  rw [pk_rem (by omega) (by decide) (by decide), show x + 8 - 1 = x + 7 by omega]
  have hy8 : (x + 7) % 8 < 8 := Nat.mod_lt _ (by decide)
  refine hK _ _ _ _ (hK _ _ _ _ (hK _ _ _ _ (nk_GI rfl rfl rfl (show K _ _ _ _ from ?_))))
  rw [h2]
  refine hK _ _ _ _ (nk_le (by omega) (by omega) (fun q => ?_) (fun q => ?_))
  · refine hK _ _ _ _ (show K _ _ _ _ from ?_)
    exact hK _ _ _ _ (And.intro rfl (h0 (by omega)))
  · refine hK _ _ _ _ (show K _ _ _ _ from ?_)
    refine hK _ _ _ _ (nk_bf (nI_pos (by omega)) ?_)
    refine hK _ _ _ _ (hK _ _ _ _ (nk_GR rfl rfl rfl (hK _ _ _ _ (show K _ _ _ _ from ?_))))
    refine hK _ _ _ _ (nk_RL rfl rfl rfl (nk_scenes hy8) (show K _ _ _ _ from ?_))
    refine hK _ _ _ _ (hK _ _ _ _ (hK _ _ _ _ (hK _ _ _ _ (nk_GR rfl rfl rfl (hK _ _ _ _ (show K _ _ _ _ from ?_))))))
    refine hK _ _ _ _ (nk_RL rfl rfl rfl (nk_scenes hy8) (show K _ _ _ _ from ?_))
    refine hK _ _ _ _ (nk_stV rfl rfl rfl rfl ?_)
    refine sx_copyFrom isS6 (isSp hy8) (by omega) (fun D1 g1 g2 g3 g4 => ?_)
    have e2 : D1 12 2 = nI u := by rw [g4 12 2 (by omega) (by omega) (by omega)]; exact h2
    show K 45 _ _ _
    refine hK _ _ _ _ (hK _ _ _ _ (hK _ _ _ _ (nk_PI rfl rfl rfl (hK _ _ _ _ (hK _ _ _ _ (hK _ _ _ _ (nk_GI rfl rfl rfl (hK _ _ _ _ (hK _ _ _ _ (hK _ _ _ _ (nk_PI rfl rfl rfl (hK _ _ _ _ (show K _ _ _ _ from ?_)))))))))))))
    have e3 : nk_up D1 12 1 (nI ((x + 7) % 8)) 12 2 = nI u := by simp [nk_up, e2]
    rw [e3, nk_sub (by omega)]
    have frame : ∀ a b, a ≠ 12 → nk_up (nk_up D1 12 1 (nI ((x + 7) % 8))) 12 2 (nI (u - 1)) a b = D1 a b := fun a b ha => by simp [nk_up, ha]
    have b0 := h3 0 (by omega)
    rw [show x + 7 - 0 = x + 7 by omega] at b0
    refine hK _ _ _ _ (And.intro rfl (h _ q ?_ ⟨(x + 7) % 8, by omega, ?_, ?_, fun i hi => ?_⟩ (fun a b ha hb => ?_)))
    · exact XSc_of (fun z => frame _ z (by omega)) (fun z => frame _ z (by omega)) (fun z => frame _ z (by omega)) (XSc_cp g1 g2 g3 b0)
    · simp [nk_up]
    · simp [nk_up]
    · have b := h3 (i + 1) (by omega)
      rw [show ((x + 7) % 8 + 7 - i) % 8 = (x + 7 - (i + 1)) % 8 by omega]
      have hlt : (x + 7 - (i + 1)) % 8 < 8 := Nat.mod_lt _ (by decide)
      generalize (x + 7 - (i + 1)) % 8 = y at hlt b ⊢
      exact XSc_of (fun z => by rw [frame _ _ (by omega), g4 _ _ (by omega) (by omega) (by omega)]) (fun z => by rw [frame _ _ (by omega), g4 _ _ (by omega) (by omega) (by omega)]) (fun z => by rw [frame _ _ (by omega), g4 _ _ (by omega) (by omega) (by omega)]) b
    · rw [frame a b hb, g4 a b (by omega) (by omega) (by omega)]
/-- evenings, one behind another -/
def evS (n : Nat) (ka : Nat → Nat) (s : (Nat → Nat → Nat) × Nat) : (Nat → Nat → Nat) × Nat := (evR n ka s.1 s.2, evRoom s.2 (lvU n ka s.1 s.2 n))
def evN (n : Nat) (ka : Nat → Nat) (s : (Nat → Nat → Nat) × Nat) : Nat → (Nat → Nat → Nat) × Nat
  | 0 => s
  | m + 1 => evS n ka (evN n ka s m)
theorem evN_ok {n : Nat} {ka : Nat → Nat} {s : (Nat → Nat → Nat) × Nat} (h1 : ∀ p z, p < n → z < n → s.1 p z ≤ 7) (h2 : ∀ p, p < n → s.1 p p = 0) (h3 : s.2 < 64) : ∀ m, (∀ p z, p < n → z < n → (evN n ka s m).1 p z ≤ 7) ∧ (∀ p, p < n → (evN n ka s m).1 p p = 0) ∧ (evN n ka s m).2 < 64
  | 0 => ⟨h1, h2, h3⟩
  | m + 1 => by
    obtain ⟨a1, a2, a3⟩ := evN_ok h1 h2 h3 m
    exact ⟨fun p z hp hz => evR_le (fun q hq => a1 p q hp hq) hz, fun p hp => evR_self (a2 p hp), evRoom_lt a3⟩
theorem p64 {n : Nat} (h : n ≤ 6) : 2 ^ n ≤ 64 := Nat.pow_le_pow_right (by decide) h
theorem sx_foretell {n m : Nat} {ka : Nat → Nat} {s : Sc3} (hs : XSc D 6 n ka s) (hw : WF n s) (hm : m ≤ 20)
    (h : ∀ D', XS D' 9 n ka (evN n ka (s.1, s.2.1) m).1 → D' 9 3 = nI (evN n ka (s.1, s.2.1) m).2 → (∀ a b, ¬ (9 ≤ a ∧ a < 12) → D' a b = D a b) → P none D') : nk_run S (d + 6) 62 [.ref 0, .int (nI m)] D P := by
  have hn6 := hs.1.1
  have h64 := p64 hn6
  have hok := evN_ok (n := n) (ka := ka) (s := (s.1, s.2.1)) hw.1 hw.2.1 (by have := hw.2.2.1; show s.2.1 < 64; omega)
  refine nk_go (M := (5, yX5_foretell, cX5_foretell, 3, none, false, 1, nk_T62)) rfl rfl (Nat.le_of_ble_eq_true rfl) (fun K hK => ?_)
  show K 0 [some (.ref 0), some (.int (nI m)), none] [] D
  refine hK _ _ _ _ (hK _ _ _ _ (nk_GR rfl rfl rfl (hK _ _ _ _ (hK _ _ _ _ (nk_GR rfl rfl rfl (show K _ _ _ _ from ?_))))))
  refine hK _ _ _ _ (nk_stV rfl rfl rfl rfl ?_)
  refine sx_copyFrom isS9 isS6 (by omega) (fun D1 g1 g2 g3 g4 => ?_)
  have hc := XSc_cp g1 g2 g3 hs
  show K 11 _ _ _
  refine hK _ _ _ _ (hK _ _ _ _ (show K _ _ _ _ from ?_))
  have loop : ∀ z j D2, j + z = m → XS D2 9 n ka (evN n ka (s.1, s.2.1) j).1 → D2 9 3 = nI (evN n ka (s.1, s.2.1) j).2 → (∀ a b, ¬ (9 ≤ a ∧ a < 12) → D2 a b = D a b) → K 13 [some (.ref 0), some (.int (nI m)), some (.int (nI j))] [] D2 := by
    intro z
    induction z with
    | zero =>
      intro j D2 hj k1 k2 k3
      have hj : j = m := by omega
      subst hj
      refine hK _ _ _ _ (hK _ _ _ _ (show K _ _ _ _ from ?_))
      refine hK _ _ _ _ (nk_bt (nI_le (Nat.le_refl _) (by omega)) ?_)
      exact hK _ _ _ _ (And.intro rfl (h D2 k1 k2 k3))
    | succ z ih =>
      intro j D2 hj k1 k2 k3
      obtain ⟨o1, o2, o3⟩ := hok j
      refine hK _ _ _ _ (hK _ _ _ _ (show K _ _ _ _ from ?_))
      refine hK _ _ _ _ (nk_bf (nI_ge (by omega) (by omega)) ?_)
      refine hK _ _ _ _ (hK _ _ _ _ (nk_GR rfl rfl rfl (show K _ _ _ _ from ?_)))
      refine hK _ _ _ _ (nk_stV rfl rfl rfl rfl ?_)
      refine sx_passEvening isS9 k1 o2 k2 o3 (fun D3 q1 q2 q3 q4 => ?_)
      show K 25 _ _ _
      refine hK _ _ _ _ (hK _ _ _ _ (hK _ _ _ _ (show K _ _ _ _ from ?_)))
      rw [nk_add]
      exact ih (j + 1) D3 (by omega) q1 q2 (fun a b hab => by rw [q4 a b (by omega) (by omega)]; exact k3 a b hab)
  exact loop m 0 D1 (by omega) hc.1 hc.2.1 (fun a b hab => g4 a b (by omega) (by omega) (by omega))
theorem sm_goOn {n m : Nat} {ka : Nat → Nat} {s : Sc3} (hk : MK D n ka) (hs : MSc D 54 0 n s) (hw : WF n s) (hm : m ≤ 20)
    (h : ∀ D', MS D' n (evN n ka (s.1, s.2.1) m).1 → D' 54 36 = nI (evN n ka (s.1, s.2.1) m).2 → (∀ j, j < 38 → D' 62 j = D 54 j) → (∀ a b, a ≠ 54 → a ≠ 58 → a ≠ 62 → D' a b = D a b) → P none D') : nk_run S (d + 6) 116 [.ref 52, .int (nI m)] D P := by
  have hn6 := hk.1
  have h64 := p64 hn6
  have hok := evN_ok (n := n) (ka := ka) (s := (s.1, s.2.1)) hw.1 hw.2.1 (by have := hw.2.2.1; show s.2.1 < 64; omega)
  refine nk_go (M := (6, yX6_goOn, cX6_goOn, 3, none, false, 1, nk_T116)) rfl rfl (Nat.le_of_ble_eq_true rfl) (fun K hK => ?_)
  show K 0 [some (.ref 52), some (.int (nI m)), none] [] D
  refine hK _ _ _ _ (hK _ _ _ _ (show K _ _ _ _ from ?_))
  have first : ∀ z j D1, j + z = 38 → (∀ i, i < j → D1 62 i = D 54 i) → (∀ a b, a ≠ 62 → D1 a b = D a b) → K 2 [some (.ref 52), some (.int (nI m)), some (.int (nI j))] [] D1 := by
    intro z
    induction z with
    | zero =>
      intro j D1 hj g1 g2
      have hj : j = 38 := by omega
      subst hj
      refine hK _ _ _ _ (hK _ _ _ _ (show K _ _ _ _ from ?_))
      refine hK _ _ _ _ (nk_bt (nI_le (Nat.le_refl _) (by omega)) ?_)
      refine hK _ _ _ _ (hK _ _ _ _ (show K _ _ _ _ from ?_))
      have loop : ∀ z j D2, j + z = m → MS D2 n (evN n ka (s.1, s.2.1) j).1 → D2 54 36 = nI (evN n ka (s.1, s.2.1) j).2 → (∀ a b, a ≠ 54 → a ≠ 58 → D2 a b = D1 a b) → K 28 [some (.ref 52), some (.int (nI m)), some (.int (nI j))] [] D2 := by
        intro z
        induction z with
        | zero =>
          intro j D2 hj k1 k2 k3
          have hj : j = m := by omega
          subst hj
          refine hK _ _ _ _ (hK _ _ _ _ (show K _ _ _ _ from ?_))
          refine hK _ _ _ _ (nk_bt (nI_le (Nat.le_refl _) (by omega)) ?_)
          exact hK _ _ _ _ (And.intro rfl (h D2 k1 k2 (fun i hi => by rw [k3 62 i (by omega) (by omega)]; exact g1 i hi) (fun a b q1 q2 q3 => by rw [k3 a b q1 q2]; exact g2 a b q3)))
        | succ z ih =>
          intro j D2 hj k1 k2 k3
          obtain ⟨o1, o2, o3⟩ := hok j
          refine hK _ _ _ _ (hK _ _ _ _ (show K _ _ _ _ from ?_))
          refine hK _ _ _ _ (nk_bf (nI_ge (by omega) (by omega)) ?_)
          refine hK _ _ _ _ (show K _ _ _ _ from ?_)
          refine hK _ _ _ _ (nk_stV rfl rfl rfl rfl ?_)
          refine sm_oneEvening (MK_of (fun b => by rw [k3 53 b (by omega) (by omega)]; exact g2 53 b (by omega)) hk) k1 k2 o3 (fun D3 q1 q2 q3 q4 => ?_)
          show K 37 _ _ _
          refine hK _ _ _ _ (hK _ _ _ _ (hK _ _ _ _ (show K _ _ _ _ from ?_)))
          rw [nk_add]
          exact ih (j + 1) D3 (by omega) q1 q2 (fun a b h1 h2 => by rw [q4 a b h1 h2]; exact k3 a b h1 h2)
      refine loop m 0 D1 (by omega) ⟨fun p q hp hq => ⟨?_, hw.1 p q hp hq⟩, hw.2.1⟩ ?_ (fun a b _ _ => rfl)
      · rw [g2 54 _ (by omega)]
        have := hs.1 p q hp hq
        rw [Nat.zero_add] at this
        exact this
      · rw [g2 54 _ (by omega)]
        exact hs.2.1
    | succ z ih =>
      intro j D1 hj g1 g2
      refine hK _ _ _ _ (hK _ _ _ _ (show K _ _ _ _ from ?_))
      refine hK _ _ _ _ (nk_bf (nI_ge (by omega) (by omega)) ?_)
      refine hK _ _ _ _ (hK _ _ _ _ (nk_GR rfl rfl rfl (hK _ _ _ _ (hK _ _ _ _ (hK _ _ _ _ (nk_GR rfl rfl rfl (hK _ _ _ _ (show K _ _ _ _ from ?_))))))))
      refine hK _ _ _ _ (nk_AL rfl rfl (j := j) rfl (by omega) (show K _ _ _ _ from ?_))
      refine hK _ _ _ _ (nk_AS rfl rfl (j := j) rfl (by omega) (show K _ _ _ _ from ?_))
      refine hK _ _ _ _ (hK _ _ _ _ (show K _ _ _ _ from ?_))
      rw [nk_add]
      refine ih (j + 1) _ (by omega) (fun i hi => ?_) (fun a b ha => ?_)
      · by_cases e : i = j
        · simp [nk_up, e, g2 54 j (by omega)]
        · simp [nk_up, e, g1 i (by omega)]
      · simp [nk_up, ha, g2 a b ha]
  exact first 38 0 D (by omega) (fun i hi => by omega) (fun a b _ => rfl)
theorem sm_takeBack (h : ∀ D', (∀ j, j < 38 → D' 54 j = D 62 j) → (∀ a b, a ≠ 54 → D' a b = D a b) → P none D') : nk_run S (d + 1) 117 [.ref 52] D P := by
  refine nk_go (M := (6, yX6_takeBack, cX6_takeBack, 2, none, false, 0, nk_T117)) rfl rfl (Nat.le_of_ble_eq_true rfl) (fun K hK => ?_)
  show K 0 [some (.ref 52), none] [] D
  refine hK _ _ _ _ (hK _ _ _ _ (show K _ _ _ _ from ?_))
  have loop : ∀ z j D1, j + z = 38 → (∀ i, i < j → D1 54 i = D 62 i) → (∀ a b, a ≠ 54 → D1 a b = D a b) → K 2 [some (.ref 52), some (.int (nI j))] [] D1 := by
    intro z
    induction z with
    | zero =>
      intro j D1 hj g1 g2
      have hj : j = 38 := by omega
      subst hj
      refine hK _ _ _ _ (hK _ _ _ _ (show K _ _ _ _ from ?_))
      refine hK _ _ _ _ (nk_bt (nI_le (Nat.le_refl _) (by omega)) ?_)
      exact hK _ _ _ _ (And.intro rfl (h D1 g1 g2))
    | succ z ih =>
      intro j D1 hj g1 g2
      refine hK _ _ _ _ (hK _ _ _ _ (show K _ _ _ _ from ?_))
      refine hK _ _ _ _ (nk_bf (nI_ge (by omega) (by omega)) ?_)
      refine hK _ _ _ _ (hK _ _ _ _ (nk_GR rfl rfl rfl (hK _ _ _ _ (hK _ _ _ _ (hK _ _ _ _ (nk_GR rfl rfl rfl (hK _ _ _ _ (show K _ _ _ _ from ?_))))))))
      refine hK _ _ _ _ (nk_AL rfl rfl (j := j) rfl (by omega) (show K _ _ _ _ from ?_))
      refine hK _ _ _ _ (nk_AS rfl rfl (j := j) rfl (by omega) (show K _ _ _ _ from ?_))
      refine hK _ _ _ _ (hK _ _ _ _ (show K _ _ _ _ from ?_))
      rw [nk_add]
      refine ih (j + 1) _ (by omega) (fun i hi => ?_) (fun a b ha => ?_)
      · by_cases e : i = j
        · simp [nk_up, e, g2 62 j (by omega)]
        · simp [nk_up, e, g1 i (by omega)]
      · simp [nk_up, ha, g2 a b ha]
  exact loop 38 0 D (by omega) (fun i hi => by omega) (fun a b _ => rfl)
end NKH
