/-! ===== the abstract machine's states as the machine's ===== -/
def nk_av (ad : Nat → Nat) (sv : Value) : Value → Value
  | .ref k => .ref (ad k)
  | .null => sv
  | v => v
def nk_fv (ad : Nat → Nat) (f : Nat → Int32) : Nat → List (Option Nat) → List Value
  | _, [] => []
  | j, some r :: t => .ref (ad r) :: nk_fv ad f (j + 1) t
  | j, none :: t => .int (f j) :: nk_fv ad f (j + 1) t
def nk_ce (ad : Nat → Nat) (cA : Nat → ClassId) (f : Nat → Int32) (c : nk_S) : va_E := match c with
  | .inl (t, n) => .inl (cA t, n, .inl f)
  | .inr (.inl rs) => .inl (cA 2, rs.length, .inr (.inr (.inr (.inr (fun j => (rs[j]?).map ad)))))
  | .inr (.inr (.inl (ci, fl))) => .inr (ci, nk_fv ad f 0 fl)
  | .inr (.inr (.inr _)) => .inr (0, [])
def nk_cw (ad : Nat → Nat) (cA : Nat → ClassId) (D : nk_D) : va_W := nk_skl.mapIdx (fun k c => (ad k, nk_ce ad cA (D k) c))
theorem nk_cw_at {ad : Nat → Nat} {cA : Nat → ClassId} {D : nk_D} {k : Nat} {c : nk_S} (h : nk_skl[k]? = some c) : (nk_cw ad cA D)[k]? = some (ad k, nk_ce ad cA (D k) c) := by
  simp [nk_cw, List.getElem?_mapIdx, h]
def nk_out : nk_S → Bool
  | .inr (.inr (.inr _)) => true
  | _ => false
theorem nk_skl_in : ∀ c ∈ nk_skl, nk_out c = false := by decide +kernel
theorem nk_sk_in {k : Nat} {c : nk_S} (h : nk_sk k = c) (hc : nk_out c = false) : nk_skl[k]? = some c := by
  unfold nk_sk at h
  split at h
  · next c' e => rw [e, h]
  · rw [← h] at hc
    simp [nk_out] at hc
theorem nk_sk_out {k o : Nat} (h : nk_sk k = .inr (.inr (.inr o))) : o = k := by
  unfold nk_sk at h
  split at h
  · next c' e =>
    have h1 := nk_skl_in c' (List.mem_of_getElem? e)
    rw [h] at h1
    simp [nk_out] at h1
  · simpa using h.symm
theorem nk_cw_set {ad : Nat → Nat} {cA : Nat → ClassId} {D D' : nk_D} {k : Nat} {c : nk_S} {e : va_E} (h : nk_skl[k]? = some c) (hne : ∀ j, j ≠ k → D' j = D j) (he : e = nk_ce ad cA (D' k) c) : (nk_cw ad cA D).set k (ad k, e) = nk_cw ad cA D' := by
  have hl : k < (nk_cw ad cA D).length := by
    have := (List.getElem?_eq_some_iff.mp (nk_cw_at (ad := ad) (cA := cA) (D := D) h)).1
    exact this
  apply List.ext_getElem?
  intro i
  by_cases hi : i = k
  · subst hi
    rw [List.getElem?_set_self hl, nk_cw_at h, he]
  · rw [List.getElem?_set_ne (Ne.symm hi)]
    simp only [nk_cw, List.getElem?_mapIdx]
    rw [hne i hi]
theorem nk_up_ne {D : nk_D} {k j : Nat} {v : Int32} : ∀ a, a ≠ k → nk_up D k j v a = D a := by
  intro a h
  funext b
  simp [nk_up, h]
theorem nk_up_at {D : nk_D} {k j : Nat} {v : Int32} : nk_up D k j v k = upd (D k) j v := by
  funext b
  simp [nk_up, upd]
theorem nk_cp_ne {D : nk_D} {k0 sp k1 dp n : Nat} : ∀ a, a ≠ k1 → nk_cp D k0 sp k1 dp n a = D a := by
  intro a h
  funext b
  simp [nk_cp, h]
theorem nk_cp_at {D : nk_D} {k0 sp k1 dp n : Nat} : nk_cp D k0 sp k1 dp n k1 = va_cpy (D k0) (D k1) sp dp n := by
  funext b
  simp [nk_cp, va_cpy]
theorem nk_fv_get {ad : Nat → Nat} {f : Nat → Int32} : ∀ (fl : List (Option Nat)) (i j : Nat), (nk_fv ad f i fl)[j]? = (fl[j]?).map (fun o => match o with | some r => .ref (ad r) | none => .int (f (i + j)))
  | [], _, _ => rfl
  | some r :: t, i, 0 => rfl
  | none :: t, i, 0 => rfl
  | some r :: t, i, j + 1 => by
    have := nk_fv_get (ad := ad) (f := f) t (i + 1) j
    simp only [nk_fv, List.getElem?_cons_succ, this]
    rw [Nat.add_assoc, Nat.add_comm 1 j]
  | none :: t, i, j + 1 => by
    have := nk_fv_get (ad := ad) (f := f) t (i + 1) j
    simp only [nk_fv, List.getElem?_cons_succ, this]
    rw [Nat.add_assoc, Nat.add_comm 1 j]
theorem nk_fv_len {ad : Nat → Nat} {f : Nat → Int32} : ∀ (fl : List (Option Nat)) (i : Nat), (nk_fv ad f i fl).length = fl.length
  | [], _ => rfl
  | some r :: t, i => by simp [nk_fv, nk_fv_len t]
  | none :: t, i => by simp [nk_fv, nk_fv_len t]
theorem nk_fv_set {ad : Nat → Nat} {f : Nat → Int32} {fl : List (Option Nat)} {j : Nat} {v : Int32} (h : fl[j]? = some none) : (nk_fv ad f 0 fl).set j (.int v) = nk_fv ad (upd f j v) 0 fl := by
  apply List.ext_getElem?
  intro i
  have hl : j < (nk_fv ad f 0 fl).length := by rw [nk_fv_len]; exact (List.getElem?_eq_some_iff.mp h).1
  by_cases hi : i = j
  · subst hi
    rw [List.getElem?_set_self hl, nk_fv_get, h]
    simp [upd]
  · rw [List.getElem?_set_ne (Ne.symm hi), nk_fv_get, nk_fv_get]
    cases fl[i]? with
    | none => rfl
    | some o => cases o <;> simp [upd, hi]
/-! locals -/
def nk_lp (g : Value → Value) : Nat → nk_L → List (Nat × Value)
  | _, [] => []
  | i, none :: t => nk_lp g (i + 1) t
  | i, some v :: t => (i, g v) :: nk_lp g (i + 1) t
theorem nk_lp_mem {g : Value → Value} : ∀ (l : nk_L) (i : Nat) (q : Nat × Value), q ∈ nk_lp g i l ↔ ∃ (t : Nat) (v : Value), l[t]? = some (some v) ∧ q = (i + t, g v)
  | [], i, q => by simp [nk_lp]
  | none :: t, i, q => by
    rw [nk_lp, nk_lp_mem t (i + 1) q]
    constructor
    · rintro ⟨k, v, h1, h2⟩
      exact ⟨k + 1, v, h1, by rw [h2]; congr 1; omega⟩
    · rintro ⟨k, v, h1, h2⟩
      cases k with
      | zero => simp at h1
      | succ k => exact ⟨k, v, h1, by rw [h2]; congr 1; omega⟩
  | some x :: t, i, q => by
    rw [nk_lp, List.mem_cons, nk_lp_mem t (i + 1) q]
    constructor
    · rintro (h | ⟨k, v, h1, h2⟩)
      · exact ⟨0, x, rfl, h⟩
      · exact ⟨k + 1, v, h1, by rw [h2]; congr 1; omega⟩
    · rintro ⟨k, v, h1, h2⟩
      cases k with
      | zero =>
        have : x = v := by simpa using h1
        subst this
        exact Or.inl h2
      | succ k => exact Or.inr ⟨k, v, h1, by rw [h2]; congr 1; omega⟩
theorem nk_c2_spec {o : Option Value} {x : Value} (h : nk_c2 o = some x) : o = some x ∧ ¬ x.category = 2 := by
  cases o with
  | none => simp [nk_c2] at h
  | some v => cases v <;> simp_all [nk_c2, Value.category] <;> (subst h; simp [Value.category])
theorem nk_s1_at : ∀ (l : nk_L) (i : Nat) (v : Value) (t : Nat) (x : Value), (nk_s1 l i v)[t]? = some (some x) → (t = i ∧ x = v) ∨ (t ≠ i ∧ l[t]? = some (some x) ∧ ¬ (t + 1 = i ∧ x.category = 2))
  | [], i, v, t, x, h => by simp [nk_s1] at h
  | a :: l, 0, v, 0, x, h => by
    simp [nk_s1] at h
    exact Or.inl ⟨rfl, h.symm⟩
  | a :: l, 0, v, t + 1, x, h => by
    simp only [nk_s1, List.getElem?_cons_succ] at h
    exact Or.inr ⟨by omega, h, by omega⟩
  | a :: l, 1, v, 0, x, h => by
    simp only [nk_s1, List.getElem?_cons_zero, Option.some.injEq] at h
    obtain ⟨h1, h2⟩ := nk_c2_spec h
    exact Or.inr ⟨by omega, by rw [h1]; rfl, fun q => h2 q.2⟩
  | a :: l, 1, v, t + 1, x, h => by
    simp only [nk_s1, List.getElem?_cons_succ] at h
    rcases nk_s1_at l 0 v t x h with ⟨h1, h2⟩ | ⟨h1, h2, h3⟩
    · exact Or.inl ⟨by omega, h2⟩
    · exact Or.inr ⟨by omega, h2, by omega⟩
  | a :: l, n + 2, v, 0, x, h => by
    simp only [nk_s1, List.getElem?_cons_zero] at h
    exact Or.inr ⟨by omega, h, by omega⟩
  | a :: l, n + 2, v, t + 1, x, h => by
    simp only [nk_s1, List.getElem?_cons_succ] at h
    rcases nk_s1_at l (n + 1) v t x h with ⟨h1, h2⟩ | ⟨h1, h2, h3⟩
    · exact Or.inl ⟨by omega, h2⟩
    · exact Or.inr ⟨by omega, h2, fun q => h3 ⟨by omega, q.2⟩⟩
theorem nk_s1_len : ∀ (l : nk_L) (i : Nat) (v : Value), (nk_s1 l i v).length = l.length
  | [], i, v => by simp [nk_s1]
  | a :: l, 0, v => rfl
  | a :: l, 1, v => by simp [nk_s1, nk_s1_len l 0 v]
  | a :: l, n + 2, v => by simp [nk_s1, nk_s1_len l (n + 1) v]
theorem nk_s2_len (l : nk_L) (i : Nat) (v : Value) : (nk_s2 l i v).length = l.length := by simp [nk_s2, nk_s1_len]
theorem nk_has1 {g : Value → Value} {ls : Array Slot} {nL i : Nat} {l : nk_L} {v : Value} (hg : ∀ x, (g x).category = x.category) (h : lv_has ls nL ((i, g v) :: (nk_lp g 0 l).filter (fun q => !(q.1 == i) && !(q.1 + 1 == i && q.2.category == 2)))) : lv_has ls nL (nk_lp g 0 (nk_s1 l i v)) := by
  refine ⟨h.1, h.2.1, fun q hq => h.2.2 q ?_⟩
  obtain ⟨t, x, h1, h2⟩ := (nk_lp_mem _ _ _).mp hq
  subst h2
  rcases nk_s1_at l i v t x h1 with ⟨e1, e2⟩ | ⟨e1, e2, e3⟩
  · subst e1; subst e2
    simp
  · refine List.mem_cons_of_mem _ (List.mem_filter.mpr ⟨(nk_lp_mem _ _ _).mpr ⟨t, x, e2, rfl⟩, ?_⟩)
    have e3' : ¬ (t + 1 = i ∧ (g x).category = 2) := by rw [hg]; exact e3
    simp only [Nat.zero_add, Bool.and_eq_true, Bool.not_eq_true', beq_eq_false_iff_ne, Bool.and_eq_false_iff]
    refine ⟨e1, ?_⟩
    by_cases q1 : t + 1 = i
    · exact Or.inr (fun z => e3' ⟨q1, z⟩)
    · exact Or.inl q1
theorem nk_has2 {g : Value → Value} {ls : Array Slot} {nL i : Nat} {l : nk_L} {v : Value} (hg : ∀ x, (g x).category = x.category) (h : lv_has ls nL ((i, g v) :: (nk_lp g 0 l).filter (fun q => !(q.1 == i) && (!(q.1 == i + 1) && !(q.1 + 1 == i && q.2.category == 2))))) : lv_has ls nL (nk_lp g 0 (nk_s2 l i v)) := by
  refine ⟨h.1, h.2.1, fun q hq => h.2.2 q ?_⟩
  obtain ⟨t, x, h1, h2⟩ := (nk_lp_mem _ _ _).mp hq
  subst h2
  have ht : t ≠ i + 1 := by
    intro e
    subst e
    rw [nk_s2] at h1
    by_cases hl : i + 1 < (nk_s1 l i v).length
    · rw [List.getElem?_set_self hl] at h1
      simp at h1
    · rw [List.getElem?_eq_none (by rw [List.length_set]; omega)] at h1
      simp at h1
  rw [nk_s2, List.getElem?_set_ne (Ne.symm ht)] at h1
  rcases nk_s1_at l i v t x h1 with ⟨e1, e2⟩ | ⟨e1, e2, e3⟩
  · subst e1; subst e2
    simp
  · refine List.mem_cons_of_mem _ (List.mem_filter.mpr ⟨(nk_lp_mem _ _ _).mpr ⟨t, x, e2, rfl⟩, ?_⟩)
    have e3' : ¬ (t + 1 = i ∧ (g x).category = 2) := by rw [hg]; exact e3
    simp only [Nat.zero_add, Bool.and_eq_true, Bool.not_eq_true', beq_eq_false_iff_ne, Bool.and_eq_false_iff]
    refine ⟨e1, ht, ?_⟩
    by_cases q1 : t + 1 = i
    · exact Or.inr (fun z => e3' ⟨q1, z⟩)
    · exact Or.inl q1
theorem nk_lv_at {g : Value → Value} {ls : Array Slot} {nL i : Nat} {l : nk_L} {v : Value} (h : lv_has ls nL (nk_lp g 0 l)) (hv : nk_lv l i = some v) : ls[i]? = some (.val (g v)) := by
  have h1 : l[i]? = some (some v) := by
    unfold nk_lv at hv
    cases e : l[i]? with
    | none => rw [e] at hv; simp at hv
    | some o => rw [e] at hv; simp at hv; rw [hv]
  have := h.2.2 (i, g v) ((nk_lp_mem _ _ _).mpr ⟨i, v, h1, by simp⟩)
  exact this
theorem nk_lv_ix {g : Value → Value} {i : Nat} {l : nk_L} {v : Value} (hv : nk_lv l i = some v) : ∃ k : Nat, (nk_lp g 0 l)[k]? = some (i, g v) := by
  have h1 : l[i]? = some (some v) := by
    unfold nk_lv at hv
    cases e : l[i]? with
    | none => rw [e] at hv; simp at hv
    | some o => rw [e] at hv; simp at hv; rw [hv]
  exact List.getElem?_of_mem ((nk_lp_mem _ _ _).mpr ⟨i, v, h1, by simp⟩)
theorem nk_lk_ok {T : nk_T} {o : Nat} {cc : ByteArray} (h : T.all (nk_chk o cc) = true) {pc : Nat} {E : nk_E} (he : nk_lk T pc = some E) : nk_chk o cc (pc, E) = true := by
  induction T with
  | nil => simp [nk_lk] at he
  | cons q t ih =>
    obtain ⟨p0, r⟩ := q
    rw [List.all_cons, Bool.and_eq_true] at h
    rw [nk_lk] at he
    split at he
    · next e =>
      have : p0 = pc := Nat.eq_of_beq_eq_true e
      subst this
      cases he
      exact h.1
    · exact ih h.2 he
