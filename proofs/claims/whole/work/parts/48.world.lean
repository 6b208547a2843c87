/-! ===== the world behind the constructors, as the machine's skeleton has it ===== -/
def nk_lst (h0 h1 : Nat) (u v : Nat → Nat) : List Nat := [h0, u 0, u 1, u 2, u 3, u 4, u 5, u 6, u 7, u 8, u 9, u 10, u 11, u 12, u 13, u 14, u 15, u 16, u 17, u 18, u 19, u 20, u 21, u 22, u 23, u 24, u 25, u 26, u 27, u 28, u 29, u 30, u 31, u 32, u 33, u 34, u 35, u 36, u 37, u 45, u 46, u 47, u 48, u 49, u 50, u 38, u 39, u 40, u 41, u 42, u 43, u 44, h1, v 0, v 1, v 2, v 3, v 4, v 5, v 6, v 7, v 8, v 9, v 10]
def nk_ad (h0 h1 : Nat) (u v : Nat → Nat) (aB aO b : Nat) (adK adV : Nat → Nat) (k : Nat) : Nat := match (nk_lst h0 h1 u v)[k]? with
  | some a => a
  | none => if k = 1000 then aB else if k = 1001 then aO else if k = 1002 then b else if k < 1020 then adK (k - 1010) else adV (k - 1020)
theorem nk_adK {h0 h1 : Nat} {u v : Nat → Nat} {aB aO b : Nat} {adK adV : Nat → Nat} : ∀ i, i < 7 → nk_ad h0 h1 u v aB aO b adK adV (1010 + i) = adK i := by
  intro i hi
  have e : (nk_lst h0 h1 u v)[1010 + i]? = none := List.getElem?_eq_none (by show 64 ≤ 1010 + i; omega)
  unfold nk_ad
  rw [e]
  show (if 1010 + i = 1000 then aB else if 1010 + i = 1001 then aO else if 1010 + i = 1002 then b else if 1010 + i < 1020 then adK (1010 + i - 1010) else adV (1010 + i - 1020)) = adK i
  rw [if_neg (by omega), if_neg (by omega), if_neg (by omega), if_pos (by omega), Nat.add_sub_cancel_left]
theorem nk_adV {h0 h1 : Nat} {u v : Nat → Nat} {aB aO b : Nat} {adK adV : Nat → Nat} : ∀ i, i < 7 → nk_ad h0 h1 u v aB aO b adK adV (1020 + i) = adV i := by
  intro i hi
  have e : (nk_lst h0 h1 u v)[1020 + i]? = none := List.getElem?_eq_none (by show 64 ≤ 1020 + i; omega)
  unfold nk_ad
  rw [e]
  show (if 1020 + i = 1000 then aB else if 1020 + i = 1001 then aO else if 1020 + i = 1002 then b else if 1020 + i < 1020 then adK (1020 + i - 1010) else adV (1020 + i - 1020)) = adV i
  rw [if_neg (by omega), if_neg (by omega), if_neg (by omega), if_neg (by omega), Nat.add_sub_cancel_left]
def nk_ce2 (ad : Nat → Nat) (cA : Nat → ClassId) (f : Nat → Int32) (c : nk_S) : va_E := match c with
  | .inl (t, n) => .inl (cA t, n, .inl f)
  | .inr (.inl rs) => .inl (cA 2, rs.length, .inr (.inr (.inr (.inr (fun j => (rs.map ad)[j]?)))))
  | .inr (.inr (.inl (ci, fl))) => .inr (ci, nk_fv ad f 0 fl)
  | .inr (.inr (.inr _)) => .inr (0, [])
theorem nk_ce_eq (ad : Nat → Nat) (cA : Nat → ClassId) (f : Nat → Int32) (c : nk_S) : nk_ce ad cA f c = nk_ce2 ad cA f c := by
  unfold nk_ce nk_ce2
  split
  · rfl
  · simp only [List.getElem?_map]
  · rfl
  · rfl
def nk_cwr (ad : Nat → Nat) (cA : Nat → ClassId) (D : nk_D) : Nat → List nk_S → va_W
  | _, [] => []
  | k, c :: t => (ad k, nk_ce2 ad cA (D k) c) :: nk_cwr ad cA D (k + 1) t
theorem nk_cwr_eq (ad : Nat → Nat) (cA : Nat → ClassId) (D : nk_D) : ∀ (l : List nk_S) (i : Nat), l.mapIdx (fun k c => (ad (i + k), nk_ce ad cA (D (i + k)) c)) = nk_cwr ad cA D i l
  | [], _ => rfl
  | c :: t, i => by
    rw [List.mapIdx_cons, nk_cwr, ← nk_cwr_eq ad cA D t (i + 1), nk_ce_eq, Nat.add_zero]
    congr 1
    simp only [Nat.add_assoc, Nat.add_comm 1]
theorem nk_cw_eq (ad : Nat → Nat) (cA : Nat → ClassId) (D : nk_D) : nk_cw ad cA D = nk_cwr ad cA D 0 nk_skl := by
  rw [← nk_cwr_eq]
  simp only [nk_cw, Nat.zero_add]
theorem nk_D_any {A : Nat → Prop} {ad : Nat → Nat} {cA : Nat → ClassId} {D0 : nk_D} (h : va_D A (nk_cw ad cA D0)) (D : nk_D) : va_D A (nk_cw ad cA D) := by
  have key : ∀ (i : Nat) (q : Nat × va_E), (nk_cw ad cA D)[i]? = some q → ∃ q0 : Nat × va_E, (nk_cw ad cA D0)[i]? = some q0 ∧ q0.1 = q.1 := by
    intro i q hq
    simp only [nk_cw, List.getElem?_mapIdx] at hq ⊢
    cases e : nk_skl[i]? with
    | none => rw [e] at hq; cases hq
    | some c =>
      rw [e] at hq
      cases hq
      exact ⟨_, rfl, rfl⟩
  refine ⟨fun i j p q hp hq e => ?_, fun k q hq => ?_⟩
  · obtain ⟨p0, h1, h2⟩ := key i p hp
    obtain ⟨q0, h3, h4⟩ := key j q hq
    exact h.1 i j p0 q0 h1 h3 (by rw [h2, h4]; exact e)
  · obtain ⟨q0, h3, h4⟩ := key k q hq
    rw [← h4]
    exact h.2 k q0 h3
section NKW
variable {DD : va_G} {cA : Nat → ClassId} {h0 h1 : Nat} {u v : Nat → Nat} {aB aO b : Nat} {adK adV : Nat → Nat} {H : Heap} {A : Nat → Prop}
set_option maxRecDepth 100000 in
set_option maxHeartbeats 4000000 in
theorem nk_worldP (h : va_P DD vwCl (nk_wX5 cA h0 u ++ nk_wX6 cA h1 v) H) : va_P DD vwCl (nk_cw (nk_ad h0 h1 u v aB aO b adK adV) cA nk_D0) H := by
  rw [nk_cw_eq]
  exact h.sub [0, 1, 2, 3, 4, 5, 6, 7, 8, 9, 10, 11, 12, 13, 14, 15, 16, 17, 18, 19, 20, 21, 22, 23, 24, 25, 26, 27, 28, 29, 30, 31, 32, 33, 34, 35, 36, 37, 38, 46, 47, 48, 49, 50, 51, 39, 40, 41, 42, 43, 44, 45, 52, 53, 54, 55, 56, 57, 58, 59, 60, 61, 62, 63] rfl
set_option maxRecDepth 100000 in
set_option maxHeartbeats 4000000 in
theorem nk_worldD (h : va_D A (nk_wX5 cA h0 u ++ nk_wX6 cA h1 v)) : va_D A (nk_cw (nk_ad h0 h1 u v aB aO b adK adV) cA nk_D0) := by
  rw [nk_cw_eq]
  exact h.sub [0, 1, 2, 3, 4, 5, 6, 7, 8, 9, 10, 11, 12, 13, 14, 15, 16, 17, 18, 19, 20, 21, 22, 23, 24, 25, 26, 27, 28, 29, 30, 31, 32, 33, 34, 35, 36, 37, 38, 46, 47, 48, 49, 50, 51, 39, 40, 41, 42, 43, 44, 45, 52, 53, 54, 55, 56, 57, 58, 59, 60, 61, 62, 63] (by decide) rfl
end NKW
