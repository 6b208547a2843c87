/-! ===== the links by the words of the tables ===== -/
def nk_okF (q : Nat × Nat × Nat × Nat) : Prop := ∃ (C : String) (T : u_T) (N : Nat), vwCl[q.2.2.1]? = some (C, T, N) ∧ q.2.2.2 < N ∧ (Cond.fieldLink (nk_on q.1) q.2.1 (T q.2.2.2).1 (T q.2.2.2).2.1 (T q.2.2.2).2.2.1 ∈ nk_tb ∨ ∃ h, Cond.fieldLinkNest (nk_on q.1) q.2.1 (T q.2.2.2).1 (T q.2.2.2).2.1 (T q.2.2.2).2.2.1 h ∈ nk_nb)
theorem nk_wF0 : nk_okF (0, 18, 0, 1) := ⟨RX0, TX0, 3, rfl, by decide, Or.inl (nk_in 145 (by decide +kernel) (by decide +kernel))⟩
theorem nk_wF1 : nk_okF (0, 11, 0, 0) := ⟨RX0, TX0, 3, rfl, by decide, Or.inl (nk_in 144 (by decide +kernel) (by decide +kernel))⟩
theorem nk_wF2 : nk_okF (0, 26, 0, 2) := ⟨RX0, TX0, 3, rfl, by decide, Or.inl (nk_in 146 (by decide +kernel) (by decide +kernel))⟩
theorem nk_wF3 : nk_okF (1, 9, 1, 0) := ⟨RX1, TX1, 1, rfl, by decide, Or.inl (nk_in 182 (by decide +kernel) (by decide +kernel))⟩
theorem nk_wF4 : nk_okF (2, 9, 2, 0) := ⟨RX2, TX2, 5, rfl, by decide, Or.inl (nk_in 115 (by decide +kernel) (by decide +kernel))⟩
theorem nk_wF5 : nk_okF (2, 15, 2, 1) := ⟨RX2, TX2, 5, rfl, by decide, Or.inl (nk_in 116 (by decide +kernel) (by decide +kernel))⟩
theorem nk_wF6 : nk_okF (2, 24, 2, 2) := ⟨RX2, TX2, 5, rfl, by decide, Or.inl (nk_in 117 (by decide +kernel) (by decide +kernel))⟩
theorem nk_wF7 : nk_okF (2, 28, 2, 3) := ⟨RX2, TX2, 5, rfl, by decide, Or.inl (nk_in 119 (by decide +kernel) (by decide +kernel))⟩
theorem nk_wF8 : nk_okF (2, 31, 2, 4) := ⟨RX2, TX2, 5, rfl, by decide, Or.inl (nk_in 122 (by decide +kernel) (by decide +kernel))⟩
theorem nk_wF9 : nk_okF (3, 21, 3, 3) := ⟨RX3, TX3, 4, rfl, by decide, Or.inl (nk_in 164 (by decide +kernel) (by decide +kernel))⟩
theorem nk_wF10 : nk_okF (3, 9, 3, 0) := ⟨RX3, TX3, 4, rfl, by decide, Or.inl (nk_in 161 (by decide +kernel) (by decide +kernel))⟩
theorem nk_wF11 : nk_okF (3, 15, 3, 1) := ⟨RX3, TX3, 4, rfl, by decide, Or.inl (nk_in 162 (by decide +kernel) (by decide +kernel))⟩
theorem nk_wF12 : nk_okF (3, 18, 3, 2) := ⟨RX3, TX3, 4, rfl, by decide, Or.inl (nk_in 163 (by decide +kernel) (by decide +kernel))⟩
theorem nk_wF13 : nk_okF (4, 15, 4, 1) := ⟨RX4, TX4, 5, rfl, by decide, Or.inl (nk_in 91 (by decide +kernel) (by decide +kernel))⟩
theorem nk_wF14 : nk_okF (4, 9, 4, 0) := ⟨RX4, TX4, 5, rfl, by decide, Or.inl (nk_in 90 (by decide +kernel) (by decide +kernel))⟩
theorem nk_wF15 : nk_okF (4, 19, 4, 2) := ⟨RX4, TX4, 5, rfl, by decide, Or.inl (nk_in 93 (by decide +kernel) (by decide +kernel))⟩
theorem nk_wF16 : nk_okF (4, 22, 4, 4) := ⟨RX4, TX4, 5, rfl, by decide, Or.inl (nk_in 96 (by decide +kernel) (by decide +kernel))⟩
theorem nk_wF17 : nk_okF (4, 32, 4, 3) := ⟨RX4, TX4, 5, rfl, by decide, Or.inl (nk_in 95 (by decide +kernel) (by decide +kernel))⟩
theorem nk_wF18 : nk_okF (4, 88, 2, 3) := ⟨RX2, TX2, 5, rfl, by decide, Or.inr ⟨"NearlyKnown", nk_inN 120 (by decide +kernel) (by decide +kernel)⟩⟩
theorem nk_wF19 : nk_okF (5, 10, 5, 0) := ⟨RX5, TX5, 9, rfl, by decide, Or.inl (nk_in 186 (by decide +kernel) (by decide +kernel))⟩
theorem nk_wF20 : nk_okF (5, 62, 4, 1) := ⟨RX4, TX4, 5, rfl, by decide, Or.inr ⟨"NearlyKnown", nk_inN 92 (by decide +kernel) (by decide +kernel)⟩⟩
theorem nk_wF21 : nk_okF (5, 26, 5, 3) := ⟨RX5, TX5, 9, rfl, by decide, Or.inl (nk_in 189 (by decide +kernel) (by decide +kernel))⟩
theorem nk_wF22 : nk_okF (5, 19, 5, 1) := ⟨RX5, TX5, 9, rfl, by decide, Or.inl (nk_in 187 (by decide +kernel) (by decide +kernel))⟩
theorem nk_wF23 : nk_okF (5, 23, 5, 2) := ⟨RX5, TX5, 9, rfl, by decide, Or.inl (nk_in 188 (by decide +kernel) (by decide +kernel))⟩
theorem nk_wF24 : nk_okF (5, 32, 5, 4) := ⟨RX5, TX5, 9, rfl, by decide, Or.inl (nk_in 190 (by decide +kernel) (by decide +kernel))⟩
theorem nk_wF25 : nk_okF (5, 74, 0, 2) := ⟨RX0, TX0, 3, rfl, by decide, Or.inr ⟨"NearlyKnown", nk_inN 147 (by decide +kernel) (by decide +kernel)⟩⟩
theorem nk_wF26 : nk_okF (5, 47, 5, 7) := ⟨RX5, TX5, 9, rfl, by decide, Or.inl (nk_in 193 (by decide +kernel) (by decide +kernel))⟩
theorem nk_wF27 : nk_okF (5, 77, 3, 3) := ⟨RX3, TX3, 4, rfl, by decide, Or.inr ⟨"NearlyKnown", nk_inN 165 (by decide +kernel) (by decide +kernel)⟩⟩
theorem nk_wF28 : nk_okF (5, 40, 5, 6) := ⟨RX5, TX5, 9, rfl, by decide, Or.inl (nk_in 192 (by decide +kernel) (by decide +kernel))⟩
theorem nk_wF29 : nk_okF (5, 78, 4, 2) := ⟨RX4, TX4, 5, rfl, by decide, Or.inr ⟨"NearlyKnown", nk_inN 94 (by decide +kernel) (by decide +kernel)⟩⟩
theorem nk_wF30 : nk_okF (5, 88, 2, 3) := ⟨RX2, TX2, 5, rfl, by decide, Or.inr ⟨"NearlyKnown", nk_inN 121 (by decide +kernel) (by decide +kernel)⟩⟩
theorem nk_wF31 : nk_okF (5, 134, 2, 4) := ⟨RX2, TX2, 5, rfl, by decide, Or.inr ⟨"NearlyKnown", nk_inN 123 (by decide +kernel) (by decide +kernel)⟩⟩
theorem nk_wF32 : nk_okF (5, 36, 5, 5) := ⟨RX5, TX5, 9, rfl, by decide, Or.inl (nk_in 191 (by decide +kernel) (by decide +kernel))⟩
theorem nk_wF33 : nk_okF (5, 54, 5, 8) := ⟨RX5, TX5, 9, rfl, by decide, Or.inl (nk_in 194 (by decide +kernel) (by decide +kernel))⟩
theorem nk_wF34 : nk_okF (5, 170, 2, 2) := ⟨RX2, TX2, 5, rfl, by decide, Or.inr ⟨"NearlyKnown", nk_inN 118 (by decide +kernel) (by decide +kernel)⟩⟩
theorem nk_wF35 : nk_okF (6, 7, 6, 0) := ⟨RX6, TX6, 19, rfl, by decide, Or.inl (nk_in 593 (by decide +kernel) (by decide +kernel))⟩
theorem nk_wF36 : nk_okF (6, 54, 6, 3) := ⟨RX6, TX6, 19, rfl, by decide, Or.inl (nk_in 596 (by decide +kernel) (by decide +kernel))⟩
theorem nk_wF37 : nk_okF (6, 16, 6, 2) := ⟨RX6, TX6, 19, rfl, by decide, Or.inl (nk_in 595 (by decide +kernel) (by decide +kernel))⟩
theorem nk_wF38 : nk_okF (6, 58, 6, 4) := ⟨RX6, TX6, 19, rfl, by decide, Or.inl (nk_in 597 (by decide +kernel) (by decide +kernel))⟩
theorem nk_wF39 : nk_okF (6, 65, 6, 7) := ⟨RX6, TX6, 19, rfl, by decide, Or.inl (nk_in 600 (by decide +kernel) (by decide +kernel))⟩
theorem nk_wF40 : nk_okF (6, 68, 6, 6) := ⟨RX6, TX6, 19, rfl, by decide, Or.inl (nk_in 599 (by decide +kernel) (by decide +kernel))⟩
theorem nk_wF41 : nk_okF (6, 71, 6, 5) := ⟨RX6, TX6, 19, rfl, by decide, Or.inl (nk_in 598 (by decide +kernel) (by decide +kernel))⟩
theorem nk_wF42 : nk_okF (6, 19, 6, 8) := ⟨RX6, TX6, 19, rfl, by decide, Or.inl (nk_in 601 (by decide +kernel) (by decide +kernel))⟩
theorem nk_wF43 : nk_okF (6, 110, 6, 9) := ⟨RX6, TX6, 19, rfl, by decide, Or.inl (nk_in 602 (by decide +kernel) (by decide +kernel))⟩
theorem nk_wF44 : nk_okF (6, 13, 6, 1) := ⟨RX6, TX6, 19, rfl, by decide, Or.inl (nk_in 594 (by decide +kernel) (by decide +kernel))⟩
theorem nk_wF45 : nk_okF (6, 119, 6, 18) := ⟨RX6, TX6, 19, rfl, by decide, Or.inl (nk_in 611 (by decide +kernel) (by decide +kernel))⟩
theorem nk_wF46 : nk_okF (6, 122, 6, 11) := ⟨RX6, TX6, 19, rfl, by decide, Or.inl (nk_in 604 (by decide +kernel) (by decide +kernel))⟩
theorem nk_wF47 : nk_okF (6, 28, 6, 13) := ⟨RX6, TX6, 19, rfl, by decide, Or.inl (nk_in 606 (by decide +kernel) (by decide +kernel))⟩
theorem nk_wF48 : nk_okF (6, 22, 6, 10) := ⟨RX6, TX6, 19, rfl, by decide, Or.inl (nk_in 603 (by decide +kernel) (by decide +kernel))⟩
theorem nk_wF49 : nk_okF (6, 25, 6, 12) := ⟨RX6, TX6, 19, rfl, by decide, Or.inl (nk_in 605 (by decide +kernel) (by decide +kernel))⟩
theorem nk_wF50 : nk_okF (6, 32, 6, 14) := ⟨RX6, TX6, 19, rfl, by decide, Or.inl (nk_in 607 (by decide +kernel) (by decide +kernel))⟩
theorem nk_wF51 : nk_okF (6, 35, 6, 15) := ⟨RX6, TX6, 19, rfl, by decide, Or.inl (nk_in 608 (by decide +kernel) (by decide +kernel))⟩
theorem nk_wF52 : nk_okF (6, 38, 6, 16) := ⟨RX6, TX6, 19, rfl, by decide, Or.inl (nk_in 609 (by decide +kernel) (by decide +kernel))⟩
theorem nk_wF53 : nk_okF (6, 41, 6, 17) := ⟨RX6, TX6, 19, rfl, by decide, Or.inl (nk_in 610 (by decide +kernel) (by decide +kernel))⟩
set_option maxRecDepth 100000 in
theorem nk_okFs : ∀ q ∈ nk_LF, nk_okF q := List.forall_mem_cons.mpr ⟨nk_wF0, List.forall_mem_cons.mpr ⟨nk_wF1, List.forall_mem_cons.mpr ⟨nk_wF2, List.forall_mem_cons.mpr ⟨nk_wF3, List.forall_mem_cons.mpr ⟨nk_wF4, List.forall_mem_cons.mpr ⟨nk_wF5, List.forall_mem_cons.mpr ⟨nk_wF6, List.forall_mem_cons.mpr ⟨nk_wF7, List.forall_mem_cons.mpr ⟨nk_wF8, List.forall_mem_cons.mpr ⟨nk_wF9, List.forall_mem_cons.mpr ⟨nk_wF10, List.forall_mem_cons.mpr ⟨nk_wF11, List.forall_mem_cons.mpr ⟨nk_wF12, List.forall_mem_cons.mpr ⟨nk_wF13, List.forall_mem_cons.mpr ⟨nk_wF14, List.forall_mem_cons.mpr ⟨nk_wF15, List.forall_mem_cons.mpr ⟨nk_wF16, List.forall_mem_cons.mpr ⟨nk_wF17, List.forall_mem_cons.mpr ⟨nk_wF18, List.forall_mem_cons.mpr ⟨nk_wF19, List.forall_mem_cons.mpr ⟨nk_wF20, List.forall_mem_cons.mpr ⟨nk_wF21, List.forall_mem_cons.mpr ⟨nk_wF22, List.forall_mem_cons.mpr ⟨nk_wF23, List.forall_mem_cons.mpr ⟨nk_wF24, List.forall_mem_cons.mpr ⟨nk_wF25, List.forall_mem_cons.mpr ⟨nk_wF26, List.forall_mem_cons.mpr ⟨nk_wF27, List.forall_mem_cons.mpr ⟨nk_wF28, List.forall_mem_cons.mpr ⟨nk_wF29, List.forall_mem_cons.mpr ⟨nk_wF30, List.forall_mem_cons.mpr ⟨nk_wF31, List.forall_mem_cons.mpr ⟨nk_wF32, List.forall_mem_cons.mpr ⟨nk_wF33, List.forall_mem_cons.mpr ⟨nk_wF34, List.forall_mem_cons.mpr ⟨nk_wF35, List.forall_mem_cons.mpr ⟨nk_wF36, List.forall_mem_cons.mpr ⟨nk_wF37, List.forall_mem_cons.mpr ⟨nk_wF38, List.forall_mem_cons.mpr ⟨nk_wF39, List.forall_mem_cons.mpr ⟨nk_wF40, List.forall_mem_cons.mpr ⟨nk_wF41, List.forall_mem_cons.mpr ⟨nk_wF42, List.forall_mem_cons.mpr ⟨nk_wF43, List.forall_mem_cons.mpr ⟨nk_wF44, List.forall_mem_cons.mpr ⟨nk_wF45, List.forall_mem_cons.mpr ⟨nk_wF46, List.forall_mem_cons.mpr ⟨nk_wF47, List.forall_mem_cons.mpr ⟨nk_wF48, List.forall_mem_cons.mpr ⟨nk_wF49, List.forall_mem_cons.mpr ⟨nk_wF50, List.forall_mem_cons.mpr ⟨nk_wF51, List.forall_mem_cons.mpr ⟨nk_wF52, List.forall_mem_cons.mpr ⟨nk_wF53, fun _ h => absurd h List.not_mem_nil⟩⟩⟩⟩⟩⟩⟩⟩⟩⟩⟩⟩⟩⟩⟩⟩⟩⟩⟩⟩⟩⟩⟩⟩⟩⟩⟩⟩⟩⟩⟩⟩⟩⟩⟩⟩⟩⟩⟩⟩⟩⟩⟩⟩⟩⟩⟩⟩⟩⟩⟩⟩⟩⟩
theorem nk_wUX0 : ∀ w ∈ u_ws RX0 TX0 3, w ∈ nk_tb := by
  intro w hw
  obtain ⟨k, hk, rfl⟩ := List.mem_map.mp hw
  have hk := List.mem_range.mp hk
  match k, hk with
  | 0, _ => exact nk_in 148 (by decide +kernel) (by decide +kernel)
  | 1, _ => exact nk_in 150 (by decide +kernel) (by decide +kernel)
  | 2, _ => exact nk_in 152 (by decide +kernel) (by decide +kernel)
  | k + 3, h => exact absurd h (by omega)
theorem nk_wUX1 : ∀ w ∈ u_ws RX1 TX1 1, w ∈ nk_tb := by
  intro w hw
  obtain ⟨k, hk, rfl⟩ := List.mem_map.mp hw
  have hk := List.mem_range.mp hk
  match k, hk with
  | 0, _ => exact nk_in 183 (by decide +kernel) (by decide +kernel)
  | k + 1, h => exact absurd h (by omega)
theorem nk_wUX2 : ∀ w ∈ u_ws RX2 TX2 5, w ∈ nk_tb := by
  intro w hw
  obtain ⟨k, hk, rfl⟩ := List.mem_map.mp hw
  have hk := List.mem_range.mp hk
  match k, hk with
  | 0, _ => exact nk_in 124 (by decide +kernel) (by decide +kernel)
  | 1, _ => exact nk_in 126 (by decide +kernel) (by decide +kernel)
  | 2, _ => exact nk_in 128 (by decide +kernel) (by decide +kernel)
  | 3, _ => exact nk_in 130 (by decide +kernel) (by decide +kernel)
  | 4, _ => exact nk_in 132 (by decide +kernel) (by decide +kernel)
  | k + 5, h => exact absurd h (by omega)
theorem nk_wUX3 : ∀ w ∈ u_ws RX3 TX3 4, w ∈ nk_tb := by
  intro w hw
  obtain ⟨k, hk, rfl⟩ := List.mem_map.mp hw
  have hk := List.mem_range.mp hk
  match k, hk with
  | 0, _ => exact nk_in 166 (by decide +kernel) (by decide +kernel)
  | 1, _ => exact nk_in 168 (by decide +kernel) (by decide +kernel)
  | 2, _ => exact nk_in 170 (by decide +kernel) (by decide +kernel)
  | 3, _ => exact nk_in 172 (by decide +kernel) (by decide +kernel)
  | k + 4, h => exact absurd h (by omega)
theorem nk_wUX4 : ∀ w ∈ u_ws RX4 TX4 5, w ∈ nk_tb := by
  intro w hw
  obtain ⟨k, hk, rfl⟩ := List.mem_map.mp hw
  have hk := List.mem_range.mp hk
  match k, hk with
  | 0, _ => exact nk_in 97 (by decide +kernel) (by decide +kernel)
  | 1, _ => exact nk_in 99 (by decide +kernel) (by decide +kernel)
  | 2, _ => exact nk_in 101 (by decide +kernel) (by decide +kernel)
  | 3, _ => exact nk_in 103 (by decide +kernel) (by decide +kernel)
  | 4, _ => exact nk_in 105 (by decide +kernel) (by decide +kernel)
  | k + 5, h => exact absurd h (by omega)
theorem nk_wUX5 : ∀ w ∈ u_ws RX5 TX5 9, w ∈ nk_tb := by
  intro w hw
  obtain ⟨k, hk, rfl⟩ := List.mem_map.mp hw
  have hk := List.mem_range.mp hk
  match k, hk with
  | 0, _ => exact nk_in 195 (by decide +kernel) (by decide +kernel)
  | 1, _ => exact nk_in 197 (by decide +kernel) (by decide +kernel)
  | 2, _ => exact nk_in 199 (by decide +kernel) (by decide +kernel)
  | 3, _ => exact nk_in 201 (by decide +kernel) (by decide +kernel)
  | 4, _ => exact nk_in 203 (by decide +kernel) (by decide +kernel)
  | 5, _ => exact nk_in 205 (by decide +kernel) (by decide +kernel)
  | 6, _ => exact nk_in 207 (by decide +kernel) (by decide +kernel)
  | 7, _ => exact nk_in 209 (by decide +kernel) (by decide +kernel)
  | 8, _ => exact nk_in 211 (by decide +kernel) (by decide +kernel)
  | k + 9, h => exact absurd h (by omega)
theorem nk_wUX6 : ∀ w ∈ u_ws RX6 TX6 19, w ∈ nk_tb := by
  intro w hw
  obtain ⟨k, hk, rfl⟩ := List.mem_map.mp hw
  have hk := List.mem_range.mp hk
  match k, hk with
  | 0, _ => exact nk_in 612 (by decide +kernel) (by decide +kernel)
  | 1, _ => exact nk_in 614 (by decide +kernel) (by decide +kernel)
  | 2, _ => exact nk_in 616 (by decide +kernel) (by decide +kernel)
  | 3, _ => exact nk_in 618 (by decide +kernel) (by decide +kernel)
  | 4, _ => exact nk_in 620 (by decide +kernel) (by decide +kernel)
  | 5, _ => exact nk_in 622 (by decide +kernel) (by decide +kernel)
  | 6, _ => exact nk_in 624 (by decide +kernel) (by decide +kernel)
  | 7, _ => exact nk_in 626 (by decide +kernel) (by decide +kernel)
  | 8, _ => exact nk_in 628 (by decide +kernel) (by decide +kernel)
  | 9, _ => exact nk_in 630 (by decide +kernel) (by decide +kernel)
  | 10, _ => exact nk_in 632 (by decide +kernel) (by decide +kernel)
  | 11, _ => exact nk_in 634 (by decide +kernel) (by decide +kernel)
  | 12, _ => exact nk_in 636 (by decide +kernel) (by decide +kernel)
  | 13, _ => exact nk_in 638 (by decide +kernel) (by decide +kernel)
  | 14, _ => exact nk_in 640 (by decide +kernel) (by decide +kernel)
  | 15, _ => exact nk_in 642 (by decide +kernel) (by decide +kernel)
  | 16, _ => exact nk_in 644 (by decide +kernel) (by decide +kernel)
  | 17, _ => exact nk_in 646 (by decide +kernel) (by decide +kernel)
  | 18, _ => exact nk_in 648 (by decide +kernel) (by decide +kernel)
  | k + 19, h => exact absurd h (by omega)
theorem nk_cls {ci : Nat} {C : String} {T : u_T} {N : Nat} (h : vwCl[ci]? = some (C, T, N)) : (∀ w ∈ u_ws C T N, w ∈ nk_tb) ∧ ∃ ty : Nat → FieldType, (∀ k, k < N → parseFieldDescriptor (T k).2.2.1 = some (ty k)) ∧ ∀ a, a < N → ∀ b, b < N → a ≠ b → (T a).2.1 ≠ (T b).2.1 := by
  match ci, h with
  | 0, h => cases h; exact ⟨nk_wUX0, tyX0, tyX0_ok, nmX0⟩
  | 1, h => cases h; exact ⟨nk_wUX1, tyX1, tyX1_ok, nmX1⟩
  | 2, h => cases h; exact ⟨nk_wUX2, tyX2, tyX2_ok, nmX2⟩
  | 3, h => cases h; exact ⟨nk_wUX3, tyX3, tyX3_ok, nmX3⟩
  | 4, h => cases h; exact ⟨nk_wUX4, tyX4, tyX4_ok, nmX4⟩
  | 5, h => cases h; exact ⟨nk_wUX5, tyX5, tyX5_ok, nmX5⟩
  | 6, h => cases h; exact ⟨nk_wUX6, tyX6, tyX6_ok, nmX6⟩
  | k + 7, h => simp [vwCl] at h
def nk_okFS (q : Nat × Nat × Nat × Nat) : Prop := q.2.2.1 = 100 ∧ (q.2.2.2 = 0 ∧ Cond.fieldLink (nk_on q.1) q.2.1 "java/lang/String" "value" "[B" ∈ nk_tb ∨ q.2.2.2 = 1 ∧ Cond.fieldLink (nk_on q.1) q.2.1 "java/lang/String" "coder" "B" ∈ nk_tb)
theorem nk_wS0 : nk_okFS (8, 9, 100, 0) := ⟨rfl, Or.inl ⟨rfl, nk_in 876 (by decide +kernel) (by decide +kernel)⟩⟩
theorem nk_wS1 : nk_okFS (8, 15, 100, 1) := ⟨rfl, Or.inr ⟨rfl, nk_in 877 (by decide +kernel) (by decide +kernel)⟩⟩
theorem nk_okFSs : ∀ q ∈ nk_LFs, nk_okFS q := List.forall_mem_cons.mpr ⟨nk_wS0, List.forall_mem_cons.mpr ⟨nk_wS1, fun _ h => absurd h List.not_mem_nil⟩⟩
def nk_sC (a : Nat) : String × String × String := match a with
  | 0 => ("NearlyKnown", "BEARS", "[I")
  | 1 => ("NearlyKnown", "OVER", "[I")
  | 2 => ("java/lang/String", "COMPACT_STRINGS", "Z")
  | _ => ("jdk/internal/util/Preconditions", "SIOOBE_FORMATTER", "Ljava/util/function/BiFunction;")
def nk_okG (q : Nat × Nat × Nat) : Prop := q.2.2 < 4 ∧ (Cond.fieldLink (nk_on q.1) q.2.1 (nk_sC q.2.2).1 (nk_sC q.2.2).2.1 (nk_sC q.2.2).2.2 ∈ nk_tb ∨ ∃ h, Cond.fieldLinkNest (nk_on q.1) q.2.1 (nk_sC q.2.2).1 (nk_sC q.2.2).2.1 (nk_sC q.2.2).2.2 h ∈ nk_nb)
theorem nk_wG0 : nk_okG (2, 42, 0) := ⟨by decide, Or.inr ⟨"NearlyKnown", nk_inN 403 (by decide +kernel) (by decide +kernel)⟩⟩
theorem nk_wG1 : nk_okG (5, 114, 1) := ⟨by decide, Or.inl (nk_in 422 (by decide +kernel) (by decide +kernel))⟩
theorem nk_wG2 : nk_okG (8, 38, 2) := ⟨by decide, Or.inl (nk_in 270 (by decide +kernel) (by decide +kernel))⟩
theorem nk_wG3 : nk_okG (8, 1053, 3) := ⟨by decide, Or.inl (nk_in 286 (by decide +kernel) (by decide +kernel))⟩
theorem nk_okGs : ∀ q ∈ nk_LG, nk_okG q := List.forall_mem_cons.mpr ⟨nk_wG0, List.forall_mem_cons.mpr ⟨nk_wG1, List.forall_mem_cons.mpr ⟨nk_wG2, List.forall_mem_cons.mpr ⟨nk_wG3, fun _ h => absurd h List.not_mem_nil⟩⟩⟩⟩
def nk_okI (q : Nat × Nat × Int32) : Prop := Cond.constant (nk_on q.1) q.2.1 q.2.2 ∈ nk_tb
theorem nk_wI0 : nk_okI (11, 265, 1431655765) := nk_in 395 (by decide +kernel) (by decide +kernel)
theorem nk_wI1 : nk_okI (11, 266, 858993459) := nk_in 396 (by decide +kernel) (by decide +kernel)
theorem nk_wI2 : nk_okI (11, 267, 252645135) := nk_in 397 (by decide +kernel) (by decide +kernel)
theorem nk_okIs : ∀ q ∈ nk_LI, nk_okI q := List.forall_mem_cons.mpr ⟨nk_wI0, List.forall_mem_cons.mpr ⟨nk_wI1, List.forall_mem_cons.mpr ⟨nk_wI2, fun _ h => absurd h List.not_mem_nil⟩⟩⟩
def nk_okL (q : Nat × Nat × Int64) : Prop := Cond.constantLong (nk_on q.1) q.2.1 q.2.2 ∈ nk_tb
theorem nk_wL0 : nk_okL (6, 52, 255) := nk_in 655 (by decide +kernel) (by decide +kernel)
theorem nk_wL1 : nk_okL (6, 74, 97) := nk_in 679 (by decide +kernel) (by decide +kernel)
theorem nk_wL2 : nk_okL (6, 76, 122) := nk_in 680 (by decide +kernel) (by decide +kernel)
theorem nk_wL3 : nk_okL (6, 78, 48) := nk_in 681 (by decide +kernel) (by decide +kernel)
theorem nk_wL4 : nk_okL (6, 80, 57) := nk_in 682 (by decide +kernel) (by decide +kernel)
theorem nk_wL5 : nk_okL (6, 82, 27) := nk_in 695 (by decide +kernel) (by decide +kernel)
theorem nk_wL6 : nk_okL (6, 153, 4) := nk_in 764 (by decide +kernel) (by decide +kernel)
theorem nk_wL7 : nk_okL (6, 158, 7) := nk_in 777 (by decide +kernel) (by decide +kernel)
theorem nk_wL8 : nk_okL (6, 172, 20) := nk_in 838 (by decide +kernel) (by decide +kernel)
theorem nk_wL9 : nk_okL (6, 184, 10) := nk_in 871 (by decide +kernel) (by decide +kernel)
theorem nk_okLs : ∀ q ∈ nk_LL, nk_okL q := List.forall_mem_cons.mpr ⟨nk_wL0, List.forall_mem_cons.mpr ⟨nk_wL1, List.forall_mem_cons.mpr ⟨nk_wL2, List.forall_mem_cons.mpr ⟨nk_wL3, List.forall_mem_cons.mpr ⟨nk_wL4, List.forall_mem_cons.mpr ⟨nk_wL5, List.forall_mem_cons.mpr ⟨nk_wL6, List.forall_mem_cons.mpr ⟨nk_wL7, List.forall_mem_cons.mpr ⟨nk_wL8, List.forall_mem_cons.mpr ⟨nk_wL9, fun _ h => absurd h List.not_mem_nil⟩⟩⟩⟩⟩⟩⟩⟩⟩⟩
def nk_sx (i : Nat) : Nat := [39, 48, 53, 90, 92, 94, 96].getD i 0
def nk_tx (i : Nat) : String := ["as", "room", "season", "plain", "smooth", "shy", "host"].getD i ""
def nk_okS (q : Nat × Nat × Nat) : Prop := q.1 = 4 ∧ ∃ i, i < 7 ∧ q.2.2 = 1010 + i ∧ q.2.1 = nk_sx i
theorem nk_okSs : ∀ q ∈ nk_LS, nk_okS q := List.forall_mem_cons.mpr ⟨⟨rfl, 0, by decide, rfl, rfl⟩, List.forall_mem_cons.mpr ⟨⟨rfl, 1, by decide, rfl, rfl⟩, List.forall_mem_cons.mpr ⟨⟨rfl, 2, by decide, rfl, rfl⟩, List.forall_mem_cons.mpr ⟨⟨rfl, 3, by decide, rfl, rfl⟩, List.forall_mem_cons.mpr ⟨⟨rfl, 4, by decide, rfl, rfl⟩, List.forall_mem_cons.mpr ⟨⟨rfl, 5, by decide, rfl, rfl⟩, List.forall_mem_cons.mpr ⟨⟨rfl, 6, by decide, rfl, rfl⟩, fun _ h => absurd h List.not_mem_nil⟩⟩⟩⟩⟩⟩⟩
def nk_okM (M : nk_M) : Prop := Cond.code M.2.1 M.2.2.1 M.2.2.2.1 M.2.2.2.2.1 ∈ nk_tb ∧ Cond.initialized M.2.1.cls ∈ nk_tb ∧ plainName M.2.1.cls = true ∧ (M.2.1.cls ≠ "java/lang/invoke/MethodHandle" ∧ M.2.1.cls ≠ "java/lang/invoke/VarHandle" ∧ (parseMethodDescriptor M.2.1.desc).map (fun d => d.parameters.length) = some M.2.2.2.2.2.2.1) ∧ nk_on M.1 = M.2.1.cls ∧ M.2.2.2.1 ≤ 20 ∧ M.2.2.2.2.2.2.2.all (nk_chk M.1 M.2.2.1) = true ∧ ((M.2.2.2.2.2.1 = true ∧ Cond.static M.2.1 ∈ nk_tb) ∨ (M.2.2.2.2.2.1 = false ∧ Cond.instanceMethod M.2.1 ∈ nk_tb ∧ Cond.selects M.2.1.cls M.2.1 M.2.1 ∈ nk_tb))
set_option maxRecDepth 100000 in
theorem nk_wM0 : nk_okM (0, yX0_remember, cX0_remember, 2, none, false, 1, nk_T0) := ⟨nk_in 435 rfl rfl, nk_in 65 (by decide +kernel) (by decide +kernel), (by decide +kernel), ⟨(by decide +kernel), (by decide +kernel), (by decide +kernel)⟩, rfl, (by decide +kernel), nk_ck0, Or.inr ⟨rfl, nk_in 434 (by decide +kernel) (by decide +kernel), nk_in 24 (by decide +kernel) (by decide +kernel)⟩⟩
set_option maxRecDepth 100000 in
theorem nk_wM1 : nk_okM (0, yX0_returnTo, cX0_returnTo, 3, (some .boolean), false, 1, nk_T1) := ⟨nk_in 474 rfl rfl, nk_in 65 (by decide +kernel) (by decide +kernel), (by decide +kernel), ⟨(by decide +kernel), (by decide +kernel), (by decide +kernel)⟩, rfl, (by decide +kernel), nk_ck1, Or.inr ⟨rfl, nk_in 473 (by decide +kernel) (by decide +kernel), nk_in 27 (by decide +kernel) (by decide +kernel)⟩⟩
set_option maxRecDepth 100000 in
theorem nk_wM2 : nk_okM (1, yX1_divide, cX1_divide, 5, (some .int), false, 2, nk_T2) := ⟨nk_in 499 rfl rfl, nk_in 67 (by decide +kernel) (by decide +kernel), (by decide +kernel), ⟨(by decide +kernel), (by decide +kernel), (by decide +kernel)⟩, rfl, (by decide +kernel), nk_ck2, Or.inr ⟨rfl, nk_in 498 (by decide +kernel) (by decide +kernel), nk_in 29 (by decide +kernel) (by decide +kernel)⟩⟩
set_option maxRecDepth 100000 in
theorem nk_wM3 : nk_okM (1, yX1_place, cX1_place, 8, (some .boolean), false, 5, nk_T3) := ⟨nk_in 503 rfl rfl, nk_in 67 (by decide +kernel) (by decide +kernel), (by decide +kernel), ⟨(by decide +kernel), (by decide +kernel), (by decide +kernel)⟩, rfl, (by decide +kernel), nk_ck3, Or.inr ⟨rfl, nk_in 502 (by decide +kernel) (by decide +kernel), nk_in 30 (by decide +kernel) (by decide +kernel)⟩⟩
set_option maxRecDepth 100000 in
theorem nk_wM4 : nk_okM (1, yX1_roomOf, cX1_roomOf, 3, (some .int), false, 1, nk_T4) := ⟨nk_in 512 rfl rfl, nk_in 67 (by decide +kernel) (by decide +kernel), (by decide +kernel), ⟨(by decide +kernel), (by decide +kernel), (by decide +kernel)⟩, rfl, (by decide +kernel), nk_ck4, Or.inr ⟨rfl, nk_in 511 (by decide +kernel) (by decide +kernel), nk_in 31 (by decide +kernel) (by decide +kernel)⟩⟩
set_option maxRecDepth 100000 in
theorem nk_wM5 : nk_okM (2, yX2_copyFrom, cX2_copyFrom, 2, none, false, 1, nk_T5) := ⟨nk_in 233 rfl rfl, nk_in 64 (by decide +kernel) (by decide +kernel), (by decide +kernel), ⟨(by decide +kernel), (by decide +kernel), (by decide +kernel)⟩, rfl, (by decide +kernel), nk_ck5, Or.inr ⟨rfl, nk_in 232 (by decide +kernel) (by decide +kernel), nk_in 1 (by decide +kernel) (by decide +kernel)⟩⟩
set_option maxRecDepth 100000 in
theorem nk_wM6 : nk_okM (2, yX2_clear, cX2_clear, 2, none, false, 0, nk_T6) := ⟨nk_in 348 rfl rfl, nk_in 64 (by decide +kernel) (by decide +kernel), (by decide +kernel), ⟨(by decide +kernel), (by decide +kernel), (by decide +kernel)⟩, rfl, (by decide +kernel), nk_ck6, Or.inr ⟨rfl, nk_in 347 (by decide +kernel) (by decide +kernel), nk_in 15 (by decide +kernel) (by decide +kernel)⟩⟩
set_option maxRecDepth 100000 in
theorem nk_wM7 : nk_okM (2, yX2_addPerson, cX2_addPerson, 2, (some .boolean), false, 1, nk_T7) := ⟨nk_in 360 rfl rfl, nk_in 64 (by decide +kernel) (by decide +kernel), (by decide +kernel), ⟨(by decide +kernel), (by decide +kernel), (by decide +kernel)⟩, rfl, (by decide +kernel), nk_ck7, Or.inr ⟨rfl, nk_in 359 (by decide +kernel) (by decide +kernel), nk_in 17 (by decide +kernel) (by decide +kernel)⟩⟩
set_option maxRecDepth 100000 in
theorem nk_wM8 : nk_okM (2, yX2_has, cX2_has, 2, (some .boolean), false, 1, nk_T8) := ⟨nk_in 321 rfl rfl, nk_in 64 (by decide +kernel) (by decide +kernel), (by decide +kernel), ⟨(by decide +kernel), (by decide +kernel), (by decide +kernel)⟩, rfl, (by decide +kernel), nk_ck8, Or.inr ⟨rfl, nk_in 320 (by decide +kernel) (by decide +kernel), nk_in 10 (by decide +kernel) (by decide +kernel)⟩⟩
set_option maxRecDepth 100000 in
theorem nk_wM9 : nk_okM (2, yX2_hasPair, cX2_hasPair, 3, (some .boolean), false, 2, nk_T9) := ⟨nk_in 325 rfl rfl, nk_in 64 (by decide +kernel) (by decide +kernel), (by decide +kernel), ⟨(by decide +kernel), (by decide +kernel), (by decide +kernel)⟩, rfl, (by decide +kernel), nk_ck9, Or.inr ⟨rfl, nk_in 324 (by decide +kernel) (by decide +kernel), nk_in 11 (by decide +kernel) (by decide +kernel)⟩⟩
set_option maxRecDepth 100000 in
theorem nk_wM10 : nk_okM (2, yX2_hasAll, cX2_hasAll, 2, (some .boolean), false, 1, nk_T10) := ⟨nk_in 343 rfl rfl, nk_in 64 (by decide +kernel) (by decide +kernel), (by decide +kernel), ⟨(by decide +kernel), (by decide +kernel), (by decide +kernel)⟩, rfl, (by decide +kernel), nk_ck10, Or.inr ⟨rfl, nk_in 342 (by decide +kernel) (by decide +kernel), nk_in 14 (by decide +kernel) (by decide +kernel)⟩⟩
set_option maxRecDepth 100000 in
theorem nk_wM11 : nk_okM (2, yX2_kindOf, cX2_kindOf, 2, (some .int), false, 1, nk_T11) := ⟨nk_in 374 rfl rfl, nk_in 64 (by decide +kernel) (by decide +kernel), (by decide +kernel), ⟨(by decide +kernel), (by decide +kernel), (by decide +kernel)⟩, rfl, (by decide +kernel), nk_ck11, Or.inr ⟨rfl, nk_in 373 (by decide +kernel) (by decide +kernel), nk_in 18 (by decide +kernel) (by decide +kernel)⟩⟩
set_option maxRecDepth 100000 in
theorem nk_wM12 : nk_okM (2, yX2_bearsOf, cX2_bearsOf, 3, (some .int), false, 1, nk_T12) := ⟨nk_in 401 rfl rfl, nk_in 64 (by decide +kernel) (by decide +kernel), (by decide +kernel), ⟨(by decide +kernel), (by decide +kernel), (by decide +kernel)⟩, rfl, (by decide +kernel), nk_ck12, Or.inr ⟨rfl, nk_in 400 (by decide +kernel) (by decide +kernel), nk_in 22 (by decide +kernel) (by decide +kernel)⟩⟩
set_option maxRecDepth 100000 in
theorem nk_wM13 : nk_okM (2, yX2_roleTo, cX2_roleTo, 4, (some .int), false, 2, nk_T13) := ⟨nk_in 386 rfl rfl, nk_in 64 (by decide +kernel) (by decide +kernel), (by decide +kernel), ⟨(by decide +kernel), (by decide +kernel), (by decide +kernel)⟩, rfl, (by decide +kernel), nk_ck13, Or.inr ⟨rfl, nk_in 385 (by decide +kernel) (by decide +kernel), nk_in 20 (by decide +kernel) (by decide +kernel)⟩⟩
set_option maxRecDepth 100000 in
theorem nk_wM14 : nk_okM (2, yX2_setRole, cX2_setRole, 4, none, false, 3, nk_T14) := ⟨nk_in 333 rfl rfl, nk_in 64 (by decide +kernel) (by decide +kernel), (by decide +kernel), ⟨(by decide +kernel), (by decide +kernel), (by decide +kernel)⟩, rfl, (by decide +kernel), nk_ck14, Or.inr ⟨rfl, nk_in 332 (by decide +kernel) (by decide +kernel), nk_in 12 (by decide +kernel) (by decide +kernel)⟩⟩
set_option maxRecDepth 100000 in
theorem nk_wM15 : nk_okM (2, yX2_knownTo, cX2_knownTo, 4, (some .int), false, 1, nk_T15) := ⟨nk_in 408 rfl rfl, nk_in 64 (by decide +kernel) (by decide +kernel), (by decide +kernel), ⟨(by decide +kernel), (by decide +kernel), (by decide +kernel)⟩, rfl, (by decide +kernel), nk_ck15, Or.inr ⟨rfl, nk_in 407 (by decide +kernel) (by decide +kernel), nk_in 23 (by decide +kernel) (by decide +kernel)⟩⟩
set_option maxRecDepth 100000 in
theorem nk_wM16 : nk_okM (2, yX2_introductions, cX2_introductions, 3, (some .int), false, 0, nk_T16) := ⟨nk_in 585 rfl rfl, nk_in 64 (by decide +kernel) (by decide +kernel), (by decide +kernel), ⟨(by decide +kernel), (by decide +kernel), (by decide +kernel)⟩, rfl, (by decide +kernel), nk_ck16, Or.inr ⟨rfl, nk_in 584 (by decide +kernel) (by decide +kernel), nk_in 36 (by decide +kernel) (by decide +kernel)⟩⟩
set_option maxRecDepth 100000 in
theorem nk_wM17 : nk_okM (2, yX2_mustBe, cX2_mustBe, 6, (some .int), false, 2, nk_T17) := ⟨nk_in 381 rfl rfl, nk_in 64 (by decide +kernel) (by decide +kernel), (by decide +kernel), ⟨(by decide +kernel), (by decide +kernel), (by decide +kernel)⟩, rfl, (by decide +kernel), nk_ck17, Or.inr ⟨rfl, nk_in 380 (by decide +kernel) (by decide +kernel), nk_in 19 (by decide +kernel) (by decide +kernel)⟩⟩
set_option maxRecDepth 100000 in
theorem nk_wM18 : nk_okM (2, yX2_mustBeTwo, cX2_mustBeTwo, 3, (some .boolean), false, 2, nk_T18) := ⟨nk_in 390 rfl rfl, nk_in 64 (by decide +kernel) (by decide +kernel), (by decide +kernel), ⟨(by decide +kernel), (by decide +kernel), (by decide +kernel)⟩, rfl, (by decide +kernel), nk_ck18, Or.inr ⟨rfl, nk_in 389 (by decide +kernel) (by decide +kernel), nk_in 21 (by decide +kernel) (by decide +kernel)⟩⟩
set_option maxRecDepth 100000 in
theorem nk_wM19 : nk_okM (2, yX2_clashOf, cX2_clashOf, 4, (some .int), false, 1, nk_T19) := ⟨nk_in 491 rfl rfl, nk_in 64 (by decide +kernel) (by decide +kernel), (by decide +kernel), ⟨(by decide +kernel), (by decide +kernel), (by decide +kernel)⟩, rfl, (by decide +kernel), nk_ck19, Or.inr ⟨rfl, nk_in 490 (by decide +kernel) (by decide +kernel), nk_in 28 (by decide +kernel) (by decide +kernel)⟩⟩
set_option maxRecDepth 100000 in
theorem nk_wM20 : nk_okM (2, yX2_passEvening, cX2_passEvening, 4, (some .int), false, 0, nk_T20) := ⟨nk_in 457 rfl rfl, nk_in 64 (by decide +kernel) (by decide +kernel), (by decide +kernel), ⟨(by decide +kernel), (by decide +kernel), (by decide +kernel)⟩, rfl, (by decide +kernel), nk_ck20, Or.inr ⟨rfl, nk_in 456 (by decide +kernel) (by decide +kernel), nk_in 25 (by decide +kernel) (by decide +kernel)⟩⟩
set_option maxRecDepth 100000 in
theorem nk_wM21 : nk_okM (2, yX2_spread, cX2_spread, 5, none, false, 2, nk_T21) := ⟨nk_in 462 rfl rfl, nk_in 64 (by decide +kernel) (by decide +kernel), (by decide +kernel), ⟨(by decide +kernel), (by decide +kernel), (by decide +kernel)⟩, rfl, (by decide +kernel), nk_ck21, Or.inr ⟨rfl, nk_in 461 (by decide +kernel) (by decide +kernel), nk_in 26 (by decide +kernel) (by decide +kernel)⟩⟩
set_option maxRecDepth 100000 in
theorem nk_wM22 : nk_okM (2, yX2_onlyRole, cX2_onlyRole, 2, (some .int), true, 1, nk_T22) := ⟨nk_in 465 rfl rfl, nk_in 64 (by decide +kernel) (by decide +kernel), (by decide +kernel), ⟨(by decide +kernel), (by decide +kernel), (by decide +kernel)⟩, rfl, (by decide +kernel), nk_ck22, Or.inl ⟨rfl, nk_in 464 (by decide +kernel) (by decide +kernel)⟩⟩
set_option maxRecDepth 100000 in
theorem nk_wM23 : nk_okM (3, yX3_note, cX3_note, 4, (some .boolean), false, 3, nk_T23) := ⟨nk_in 548 rfl rfl, nk_in 66 (by decide +kernel) (by decide +kernel), (by decide +kernel), ⟨(by decide +kernel), (by decide +kernel), (by decide +kernel)⟩, rfl, (by decide +kernel), nk_ck23, Or.inr ⟨rfl, nk_in 547 (by decide +kernel) (by decide +kernel), nk_in 33 (by decide +kernel) (by decide +kernel)⟩⟩
set_option maxRecDepth 100000 in
theorem nk_wM24 : nk_okM (3, yX3_fit, cX3_fit, 5, (some .boolean), false, 1, nk_T24) := ⟨nk_in 560 rfl rfl, nk_in 66 (by decide +kernel) (by decide +kernel), (by decide +kernel), ⟨(by decide +kernel), (by decide +kernel), (by decide +kernel)⟩, rfl, (by decide +kernel), nk_ck24, Or.inr ⟨rfl, nk_in 559 (by decide +kernel) (by decide +kernel), nk_in 34 (by decide +kernel) (by decide +kernel)⟩⟩
set_option maxRecDepth 100000 in
theorem nk_wM25 : nk_okM (4, yX4_append, cX4_append, 2, (some .boolean), false, 1, nk_T25) := ⟨nk_in 221 rfl rfl, nk_in 63 (by decide +kernel) (by decide +kernel), (by decide +kernel), ⟨(by decide +kernel), (by decide +kernel), (by decide +kernel)⟩, rfl, (by decide +kernel), nk_ck25, Or.inr ⟨rfl, nk_in 220 (by decide +kernel) (by decide +kernel), nk_in 0 (by decide +kernel) (by decide +kernel)⟩⟩
set_option maxRecDepth 100000 in
theorem nk_wM26 : nk_okM (4, yX4_readInto, cX4_readInto, 3, (some .int), false, 1, nk_T26) := ⟨nk_in 240 rfl rfl, nk_in 63 (by decide +kernel) (by decide +kernel), (by decide +kernel), ⟨(by decide +kernel), (by decide +kernel), (by decide +kernel)⟩, rfl, (by decide +kernel), nk_ck26, Or.inr ⟨rfl, nk_in 239 (by decide +kernel) (by decide +kernel), nk_in 2 (by decide +kernel) (by decide +kernel)⟩⟩
set_option maxRecDepth 100000 in
theorem nk_wM27 : nk_okM (4, yX4_readClause, cX4_readClause, 3, (some .boolean), false, 1, nk_T27) := ⟨nk_in 256 rfl rfl, nk_in 63 (by decide +kernel) (by decide +kernel), (by decide +kernel), ⟨(by decide +kernel), (by decide +kernel), (by decide +kernel)⟩, rfl, (by decide +kernel), nk_ck27, Or.inr ⟨rfl, nk_in 255 (by decide +kernel) (by decide +kernel), nk_in 6 (by decide +kernel) (by decide +kernel)⟩⟩
set_option maxRecDepth 100000 in
theorem nk_wM28 : nk_okM (4, yX4_readIntroduction, cX4_readIntroduction, 5, (some .boolean), false, 1, nk_T28) := ⟨nk_in 313 rfl rfl, nk_in 63 (by decide +kernel) (by decide +kernel), (by decide +kernel), ⟨(by decide +kernel), (by decide +kernel), (by decide +kernel)⟩, rfl, (by decide +kernel), nk_ck28, Or.inr ⟨rfl, nk_in 312 (by decide +kernel) (by decide +kernel), nk_in 8 (by decide +kernel) (by decide +kernel)⟩⟩
set_option maxRecDepth 100000 in
theorem nk_wM29 : nk_okM (4, yX4_readRoom, cX4_readRoom, 3, (some .boolean), false, 1, nk_T29) := ⟨nk_in 339 rfl rfl, nk_in 63 (by decide +kernel) (by decide +kernel), (by decide +kernel), ⟨(by decide +kernel), (by decide +kernel), (by decide +kernel)⟩, rfl, (by decide +kernel), nk_ck29, Or.inr ⟨rfl, nk_in 338 (by decide +kernel) (by decide +kernel), nk_in 13 (by decide +kernel) (by decide +kernel)⟩⟩
set_option maxRecDepth 100000 in
theorem nk_wM30 : nk_okM (4, yX4_kindByWord, cX4_kindByWord, 1, (some .int), false, 0, nk_T30) := ⟨nk_in 352 rfl rfl, nk_in 63 (by decide +kernel) (by decide +kernel), (by decide +kernel), ⟨(by decide +kernel), (by decide +kernel), (by decide +kernel)⟩, rfl, (by decide +kernel), nk_ck30, Or.inr ⟨rfl, nk_in 351 (by decide +kernel) (by decide +kernel), nk_in 16 (by decide +kernel) (by decide +kernel)⟩⟩
set_option maxRecDepth 100000 in
theorem nk_wM31 : nk_okM (4, yX4_toNextToken, cX4_toNextToken, 3, none, false, 0, nk_T31) := ⟨nk_in 244 rfl rfl, nk_in 63 (by decide +kernel) (by decide +kernel), (by decide +kernel), ⟨(by decide +kernel), (by decide +kernel), (by decide +kernel)⟩, rfl, (by decide +kernel), nk_ck31, Or.inr ⟨rfl, nk_in 243 (by decide +kernel) (by decide +kernel), nk_in 3 (by decide +kernel) (by decide +kernel)⟩⟩
set_option maxRecDepth 100000 in
theorem nk_wM32 : nk_okM (4, yX4_letterAt, cX4_letterAt, 2, (some .int), false, 1, nk_T32) := ⟨nk_in 248 rfl rfl, nk_in 63 (by decide +kernel) (by decide +kernel), (by decide +kernel), ⟨(by decide +kernel), (by decide +kernel), (by decide +kernel)⟩, rfl, (by decide +kernel), nk_ck32, Or.inr ⟨rfl, nk_in 247 (by decide +kernel) (by decide +kernel), nk_in 4 (by decide +kernel) (by decide +kernel)⟩⟩
set_option maxRecDepth 100000 in
theorem nk_wM33 : nk_okM (4, yX4_sortAt, cX4_sortAt, 3, (some .int), false, 1, nk_T33) := ⟨nk_in 252 rfl rfl, nk_in 63 (by decide +kernel) (by decide +kernel), (by decide +kernel), ⟨(by decide +kernel), (by decide +kernel), (by decide +kernel)⟩, rfl, (by decide +kernel), nk_ck33, Or.inr ⟨rfl, nk_in 251 (by decide +kernel) (by decide +kernel), nk_in 5 (by decide +kernel) (by decide +kernel)⟩⟩
set_option maxRecDepth 100000 in
theorem nk_wM34 : nk_okM (4, yX4_isWord, cX4_isWord, 3, (some .boolean), false, 1, nk_T34) := ⟨nk_in 261 rfl rfl, nk_in 63 (by decide +kernel) (by decide +kernel), (by decide +kernel), ⟨(by decide +kernel), (by decide +kernel), (by decide +kernel)⟩, rfl, (by decide +kernel), nk_ck34, Or.inr ⟨rfl, nk_in 260 (by decide +kernel) (by decide +kernel), nk_in 7 (by decide +kernel) (by decide +kernel)⟩⟩
set_option maxRecDepth 100000 in
theorem nk_wM35 : nk_okM (4, yX4_number, cX4_number, 3, (some .int), false, 0, nk_T35) := ⟨nk_in 317 rfl rfl, nk_in 63 (by decide +kernel) (by decide +kernel), (by decide +kernel), ⟨(by decide +kernel), (by decide +kernel), (by decide +kernel)⟩, rfl, (by decide +kernel), nk_ck35, Or.inr ⟨rfl, nk_in 316 (by decide +kernel) (by decide +kernel), nk_in 9 (by decide +kernel) (by decide +kernel)⟩⟩
set_option maxRecDepth 100000 in
theorem nk_wM36 : nk_okM (5, yX5_write, cX5_write, 2, (some .int), false, 1, nk_T36) := ⟨nk_in 217 rfl rfl, nk_in 62 (by decide +kernel) (by decide +kernel), (by decide +kernel), ⟨(by decide +kernel), (by decide +kernel), (by decide +kernel)⟩, rfl, (by decide +kernel), nk_ck36, Or.inr ⟨rfl, nk_in 215 (by decide +kernel) (by decide +kernel), nk_in 216 (by decide +kernel) (by decide +kernel)⟩⟩
set_option maxRecDepth 100000 in
theorem nk_wM37 : nk_okM (5, yX5_erase, cX5_erase, 2, (some .int), false, 0, nk_T37) := ⟨nk_in 225 rfl rfl, nk_in 62 (by decide +kernel) (by decide +kernel), (by decide +kernel), ⟨(by decide +kernel), (by decide +kernel), (by decide +kernel)⟩, rfl, (by decide +kernel), nk_ck37, Or.inr ⟨rfl, nk_in 223 (by decide +kernel) (by decide +kernel), nk_in 224 (by decide +kernel) (by decide +kernel)⟩⟩
set_option maxRecDepth 100000 in
theorem nk_wM38 : nk_okM (5, yX5_fault, cX5_fault, 1, (some .int), false, 0, nk_T38) := ⟨nk_in 229 rfl rfl, nk_in 62 (by decide +kernel) (by decide +kernel), (by decide +kernel), ⟨(by decide +kernel), (by decide +kernel), (by decide +kernel)⟩, rfl, (by decide +kernel), nk_ck38, Or.inr ⟨rfl, nk_in 227 (by decide +kernel) (by decide +kernel), nk_in 228 (by decide +kernel) (by decide +kernel)⟩⟩
set_option maxRecDepth 100000 in
theorem nk_wM39 : nk_okM (5, yX5_season, cX5_season, 2, (some .int), false, 0, nk_T39) := ⟨nk_in 365 rfl rfl, nk_in 62 (by decide +kernel) (by decide +kernel), (by decide +kernel), ⟨(by decide +kernel), (by decide +kernel), (by decide +kernel)⟩, rfl, (by decide +kernel), nk_ck39, Or.inr ⟨rfl, nk_in 363 (by decide +kernel) (by decide +kernel), nk_in 364 (by decide +kernel) (by decide +kernel)⟩⟩
set_option maxRecDepth 100000 in
theorem nk_wM40 : nk_okM (5, yX5_person, cX5_person, 3, (some .int), false, 2, nk_T40) := ⟨nk_in 369 rfl rfl, nk_in 62 (by decide +kernel) (by decide +kernel), (by decide +kernel), ⟨(by decide +kernel), (by decide +kernel), (by decide +kernel)⟩, rfl, (by decide +kernel), nk_ck40, Or.inr ⟨rfl, nk_in 367 (by decide +kernel) (by decide +kernel), nk_in 368 (by decide +kernel) (by decide +kernel)⟩⟩
set_option maxRecDepth 100000 in
theorem nk_wM41 : nk_okM (5, yX5_to, cX5_to, 3, (some .int), false, 2, nk_T41) := ⟨nk_in 412 rfl rfl, nk_in 62 (by decide +kernel) (by decide +kernel), (by decide +kernel), ⟨(by decide +kernel), (by decide +kernel), (by decide +kernel)⟩, rfl, (by decide +kernel), nk_ck41, Or.inr ⟨rfl, nk_in 410 (by decide +kernel) (by decide +kernel), nk_in 411 (by decide +kernel) (by decide +kernel)⟩⟩
set_option maxRecDepth 100000 in
theorem nk_wM42 : nk_okM (5, yX5_as, cX5_as, 3, (some .int), false, 2, nk_T42) := ⟨nk_in 421 rfl rfl, nk_in 62 (by decide +kernel) (by decide +kernel), (by decide +kernel), ⟨(by decide +kernel), (by decide +kernel), (by decide +kernel)⟩, rfl, (by decide +kernel), nk_ck42, Or.inr ⟨rfl, nk_in 419 (by decide +kernel) (by decide +kernel), nk_in 420 (by decide +kernel) (by decide +kernel)⟩⟩
set_option maxRecDepth 100000 in
theorem nk_wM43 : nk_okM (5, yX5_comes, cX5_comes, 3, (some .int), false, 2, nk_T43) := ⟨nk_in 431 rfl rfl, nk_in 62 (by decide +kernel) (by decide +kernel), (by decide +kernel), ⟨(by decide +kernel), (by decide +kernel), (by decide +kernel)⟩, rfl, (by decide +kernel), nk_ck43, Or.inr ⟨rfl, nk_in 429 (by decide +kernel) (by decide +kernel), nk_in 430 (by decide +kernel) (by decide +kernel)⟩⟩
set_option maxRecDepth 100000 in
theorem nk_wM44 : nk_okM (5, yX5_introduce, cX5_introduce, 5, (some .int), false, 3, nk_T44) := ⟨nk_in 443 rfl rfl, nk_in 62 (by decide +kernel) (by decide +kernel), (by decide +kernel), ⟨(by decide +kernel), (by decide +kernel), (by decide +kernel)⟩, rfl, (by decide +kernel), nk_ck44, Or.inr ⟨rfl, nk_in 441 (by decide +kernel) (by decide +kernel), nk_in 442 (by decide +kernel) (by decide +kernel)⟩⟩
set_option maxRecDepth 100000 in
theorem nk_wM45 : nk_okM (5, yX5_contradict, cX5_contradict, 4, (some .int), false, 2, nk_T45) := ⟨nk_in 449 rfl rfl, nk_in 62 (by decide +kernel) (by decide +kernel), (by decide +kernel), ⟨(by decide +kernel), (by decide +kernel), (by decide +kernel)⟩, rfl, (by decide +kernel), nk_ck45, Or.inr ⟨rfl, nk_in 447 (by decide +kernel) (by decide +kernel), nk_in 448 (by decide +kernel) (by decide +kernel)⟩⟩
set_option maxRecDepth 100000 in
theorem nk_wM46 : nk_okM (5, yX5_evening, cX5_evening, 1, (some .int), false, 0, nk_T46) := ⟨nk_in 453 rfl rfl, nk_in 62 (by decide +kernel) (by decide +kernel), (by decide +kernel), ⟨(by decide +kernel), (by decide +kernel), (by decide +kernel)⟩, rfl, (by decide +kernel), nk_ck46, Or.inr ⟨rfl, nk_in 451 (by decide +kernel) (by decide +kernel), nk_in 452 (by decide +kernel) (by decide +kernel)⟩⟩
set_option maxRecDepth 100000 in
theorem nk_wM47 : nk_okM (5, yX5_undo, cX5_undo, 1, (some .int), false, 0, nk_T47) := ⟨nk_in 470 rfl rfl, nk_in 62 (by decide +kernel) (by decide +kernel), (by decide +kernel), ⟨(by decide +kernel), (by decide +kernel), (by decide +kernel)⟩, rfl, (by decide +kernel), nk_ck47, Or.inr ⟨rfl, nk_in 468 (by decide +kernel) (by decide +kernel), nk_in 469 (by decide +kernel) (by decide +kernel)⟩⟩
set_option maxRecDepth 100000 in
theorem nk_wM48 : nk_okM (5, yX5_keep, cX5_keep, 2, (some .int), false, 1, nk_T48) := ⟨nk_in 478 rfl rfl, nk_in 62 (by decide +kernel) (by decide +kernel), (by decide +kernel), ⟨(by decide +kernel), (by decide +kernel), (by decide +kernel)⟩, rfl, (by decide +kernel), nk_ck48, Or.inr ⟨rfl, nk_in 476 (by decide +kernel) (by decide +kernel), nk_in 477 (by decide +kernel) (by decide +kernel)⟩⟩
set_option maxRecDepth 100000 in
theorem nk_wM49 : nk_okM (5, yX5_back, cX5_back, 2, (some .int), false, 1, nk_T49) := ⟨nk_in 482 rfl rfl, nk_in 62 (by decide +kernel) (by decide +kernel), (by decide +kernel), ⟨(by decide +kernel), (by decide +kernel), (by decide +kernel)⟩, rfl, (by decide +kernel), nk_ck49, Or.inr ⟨rfl, nk_in 480 (by decide +kernel) (by decide +kernel), nk_in 481 (by decide +kernel) (by decide +kernel)⟩⟩
set_option maxRecDepth 100000 in
theorem nk_wM50 : nk_okM (5, yX5_clash, cX5_clash, 2, (some .int), false, 1, nk_T50) := ⟨nk_in 486 rfl rfl, nk_in 62 (by decide +kernel) (by decide +kernel), (by decide +kernel), ⟨(by decide +kernel), (by decide +kernel), (by decide +kernel)⟩, rfl, (by decide +kernel), nk_ck50, Or.inr ⟨rfl, nk_in 484 (by decide +kernel) (by decide +kernel), nk_in 485 (by decide +kernel) (by decide +kernel)⟩⟩
set_option maxRecDepth 100000 in
theorem nk_wM51 : nk_okM (5, yX5_rooms, cX5_rooms, 4, (some .int), false, 2, nk_T51) := ⟨nk_in 495 rfl rfl, nk_in 62 (by decide +kernel) (by decide +kernel), (by decide +kernel), ⟨(by decide +kernel), (by decide +kernel), (by decide +kernel)⟩, rfl, (by decide +kernel), nk_ck51, Or.inr ⟨rfl, nk_in 493 (by decide +kernel) (by decide +kernel), nk_in 494 (by decide +kernel) (by decide +kernel)⟩⟩
set_option maxRecDepth 100000 in
theorem nk_wM52 : nk_okM (5, yX5_largest, cX5_largest, 4, (some .int), false, 1, nk_T52) := ⟨nk_in 516 rfl rfl, nk_in 62 (by decide +kernel) (by decide +kernel), (by decide +kernel), ⟨(by decide +kernel), (by decide +kernel), (by decide +kernel)⟩, rfl, (by decide +kernel), nk_ck52, Or.inr ⟨rfl, nk_in 514 (by decide +kernel) (by decide +kernel), nk_in 515 (by decide +kernel) (by decide +kernel)⟩⟩
set_option maxRecDepth 100000 in
theorem nk_wM53 : nk_okM (5, yX5_smallest, cX5_smallest, 4, (some .int), false, 1, nk_T53) := ⟨nk_in 524 rfl rfl, nk_in 62 (by decide +kernel) (by decide +kernel), (by decide +kernel), ⟨(by decide +kernel), (by decide +kernel), (by decide +kernel)⟩, rfl, (by decide +kernel), nk_ck53, Or.inr ⟨rfl, nk_in 522 (by decide +kernel) (by decide +kernel), nk_in 523 (by decide +kernel) (by decide +kernel)⟩⟩
set_option maxRecDepth 100000 in
theorem nk_wM54 : nk_okM (5, yX5_may, cX5_may, 6, (some .int), false, 2, nk_T54) := ⟨nk_in 528 rfl rfl, nk_in 62 (by decide +kernel) (by decide +kernel), (by decide +kernel), ⟨(by decide +kernel), (by decide +kernel), (by decide +kernel)⟩, rfl, (by decide +kernel), nk_ck54, Or.inr ⟨rfl, nk_in 526 (by decide +kernel) (by decide +kernel), nk_in 527 (by decide +kernel) (by decide +kernel)⟩⟩
set_option maxRecDepth 100000 in
theorem nk_wM55 : nk_okM (5, yX5_learn, cX5_learn, 6, (some .int), false, 3, nk_T55) := ⟨nk_in 532 rfl rfl, nk_in 62 (by decide +kernel) (by decide +kernel), (by decide +kernel), ⟨(by decide +kernel), (by decide +kernel), (by decide +kernel)⟩, rfl, (by decide +kernel), nk_ck55, Or.inr ⟨rfl, nk_in 530 (by decide +kernel) (by decide +kernel), nk_in 531 (by decide +kernel) (by decide +kernel)⟩⟩
set_option maxRecDepth 100000 in
theorem nk_wM56 : nk_okM (5, yX5_stays, cX5_stays, 2, (some .int), false, 1, nk_T56) := ⟨nk_in 540 rfl rfl, nk_in 62 (by decide +kernel) (by decide +kernel), (by decide +kernel), ⟨(by decide +kernel), (by decide +kernel), (by decide +kernel)⟩, rfl, (by decide +kernel), nk_ck56, Or.inr ⟨rfl, nk_in 538 (by decide +kernel) (by decide +kernel), nk_in 539 (by decide +kernel) (by decide +kernel)⟩⟩
set_option maxRecDepth 100000 in
theorem nk_wM57 : nk_okM (5, yX5_seen, cX5_seen, 4, (some .int), false, 3, nk_T57) := ⟨nk_in 544 rfl rfl, nk_in 62 (by decide +kernel) (by decide +kernel), (by decide +kernel), ⟨(by decide +kernel), (by decide +kernel), (by decide +kernel)⟩, rfl, (by decide +kernel), nk_ck57, Or.inr ⟨rfl, nk_in 542 (by decide +kernel) (by decide +kernel), nk_in 543 (by decide +kernel) (by decide +kernel)⟩⟩
set_option maxRecDepth 100000 in
theorem nk_wM58 : nk_okM (5, yX5_forget, cX5_forget, 2, (some .int), false, 0, nk_T58) := ⟨nk_in 552 rfl rfl, nk_in 62 (by decide +kernel) (by decide +kernel), (by decide +kernel), ⟨(by decide +kernel), (by decide +kernel), (by decide +kernel)⟩, rfl, (by decide +kernel), nk_ck58, Or.inr ⟨rfl, nk_in 550 (by decide +kernel) (by decide +kernel), nk_in 551 (by decide +kernel) (by decide +kernel)⟩⟩
set_option maxRecDepth 100000 in
theorem nk_wM59 : nk_okM (5, yX5_was, cX5_was, 5, (some .int), false, 2, nk_T59) := ⟨nk_in 556 rfl rfl, nk_in 62 (by decide +kernel) (by decide +kernel), (by decide +kernel), ⟨(by decide +kernel), (by decide +kernel), (by decide +kernel)⟩, rfl, (by decide +kernel), nk_ck59, Or.inr ⟨rfl, nk_in 554 (by decide +kernel) (by decide +kernel), nk_in 555 (by decide +kernel) (by decide +kernel)⟩⟩
set_option maxRecDepth 100000 in
theorem nk_wM60 : nk_okM (5, yX5_chance, cX5_chance, 7, (some .int), false, 3, nk_T60) := ⟨nk_in 566 rfl rfl, nk_in 62 (by decide +kernel) (by decide +kernel), (by decide +kernel), ⟨(by decide +kernel), (by decide +kernel), (by decide +kernel)⟩, rfl, (by decide +kernel), nk_ck60, Or.inr ⟨rfl, nk_in 564 (by decide +kernel) (by decide +kernel), nk_in 565 (by decide +kernel) (by decide +kernel)⟩⟩
set_option maxRecDepth 100000 in
theorem nk_wM61 : nk_okM (5, yX5_count, cX5_count, 2, (some .int), false, 1, nk_T61) := ⟨nk_in 581 rfl rfl, nk_in 62 (by decide +kernel) (by decide +kernel), (by decide +kernel), ⟨(by decide +kernel), (by decide +kernel), (by decide +kernel)⟩, rfl, (by decide +kernel), nk_ck61, Or.inr ⟨rfl, nk_in 579 (by decide +kernel) (by decide +kernel), nk_in 580 (by decide +kernel) (by decide +kernel)⟩⟩
set_option maxRecDepth 100000 in
theorem nk_wM62 : nk_okM (5, yX5_foretell, cX5_foretell, 3, none, false, 1, nk_T62) := ⟨nk_in 536 rfl rfl, nk_in 62 (by decide +kernel) (by decide +kernel), (by decide +kernel), ⟨(by decide +kernel), (by decide +kernel), (by decide +kernel)⟩, rfl, (by decide +kernel), nk_ck62, Or.inr ⟨rfl, nk_in 535 (by decide +kernel) (by decide +kernel), nk_in 32 (by decide +kernel) (by decide +kernel)⟩⟩
set_option maxRecDepth 100000 in
theorem nk_wM63 : nk_okM (5, yX5_weightOfPeace, cX5_weightOfPeace, 7, (some .int), false, 2, nk_T63) := ⟨nk_in 570 rfl rfl, nk_in 62 (by decide +kernel) (by decide +kernel), (by decide +kernel), ⟨(by decide +kernel), (by decide +kernel), (by decide +kernel)⟩, rfl, (by decide +kernel), nk_ck63, Or.inr ⟨rfl, nk_in 569 (by decide +kernel) (by decide +kernel), nk_in 35 (by decide +kernel) (by decide +kernel)⟩⟩
set_option maxRecDepth 100000 in
theorem nk_wM64 : nk_okM (5, yX5_power, cX5_power, 4, (some .int), true, 2, nk_T64) := ⟨nk_in 573 rfl rfl, nk_in 62 (by decide +kernel) (by decide +kernel), (by decide +kernel), ⟨(by decide +kernel), (by decide +kernel), (by decide +kernel)⟩, rfl, (by decide +kernel), nk_ck64, Or.inl ⟨rfl, nk_in 572 (by decide +kernel) (by decide +kernel)⟩⟩
set_option maxRecDepth 100000 in
theorem nk_wM65 : nk_okM (5, yX5_commonDivisor, cX5_commonDivisor, 6, (some .int), true, 2, nk_T65) := ⟨nk_in 576 rfl rfl, nk_in 62 (by decide +kernel) (by decide +kernel), (by decide +kernel), ⟨(by decide +kernel), (by decide +kernel), (by decide +kernel)⟩, rfl, (by decide +kernel), nk_ck65, Or.inl ⟨rfl, nk_in 575 (by decide +kernel) (by decide +kernel)⟩⟩
set_option maxRecDepth 100000 in
theorem nk_wM66 : nk_okM (5, yX5_isRole, cX5_isRole, 1, (some .boolean), true, 1, nk_T66) := ⟨nk_in 329 rfl rfl, nk_in 62 (by decide +kernel) (by decide +kernel), (by decide +kernel), ⟨(by decide +kernel), (by decide +kernel), (by decide +kernel)⟩, rfl, (by decide +kernel), nk_ck66, Or.inl ⟨rfl, nk_in 328 (by decide +kernel) (by decide +kernel)⟩⟩
set_option maxRecDepth 100000 in
theorem nk_wM67 : nk_okM (5, yX5_roleOrNone, cX5_roleOrNone, 1, (some .int), true, 1, nk_T67) := ⟨nk_in 417 rfl rfl, nk_in 62 (by decide +kernel) (by decide +kernel), (by decide +kernel), ⟨(by decide +kernel), (by decide +kernel), (by decide +kernel)⟩, rfl, (by decide +kernel), nk_ck67, Or.inl ⟨rfl, nk_in 416 (by decide +kernel) (by decide +kernel)⟩⟩
set_option maxRecDepth 100000 in
theorem nk_wM68 : nk_okM (5, yX5_isIn, cX5_isIn, 2, (some .boolean), true, 2, nk_T68) := ⟨nk_in 377 rfl rfl, nk_in 62 (by decide +kernel) (by decide +kernel), (by decide +kernel), ⟨(by decide +kernel), (by decide +kernel), (by decide +kernel)⟩, rfl, (by decide +kernel), nk_ck68, Or.inl ⟨rfl, nk_in 376 (by decide +kernel) (by decide +kernel)⟩⟩
set_option maxRecDepth 100000 in
theorem nk_wM69 : nk_okM (5, yX5_isPart, cX5_isPart, 2, (some .boolean), true, 2, nk_T69) := ⟨nk_in 519 rfl rfl, nk_in 62 (by decide +kernel) (by decide +kernel), (by decide +kernel), ⟨(by decide +kernel), (by decide +kernel), (by decide +kernel)⟩, rfl, (by decide +kernel), nk_ck69, Or.inl ⟨rfl, nk_in 518 (by decide +kernel) (by decide +kernel)⟩⟩
set_option maxRecDepth 100000 in
theorem nk_wM70 : nk_okM (5, yX5_isUnder, cX5_isUnder, 4, (some .boolean), true, 2, nk_T70) := ⟨nk_in 426 rfl rfl, nk_in 62 (by decide +kernel) (by decide +kernel), (by decide +kernel), ⟨(by decide +kernel), (by decide +kernel), (by decide +kernel)⟩, rfl, (by decide +kernel), nk_ck70, Or.inl ⟨rfl, nk_in 425 (by decide +kernel) (by decide +kernel)⟩⟩
set_option maxRecDepth 100000 in
theorem nk_wM71 : nk_okM (6, yX6_in, cX6_in, 6, (some .boolean), true, 3, nk_T71) := ⟨nk_in 658 rfl rfl, nk_in 68 (by decide +kernel) (by decide +kernel), (by decide +kernel), ⟨(by decide +kernel), (by decide +kernel), (by decide +kernel)⟩, rfl, (by decide +kernel), nk_ck71, Or.inl ⟨rfl, nk_in 657 (by decide +kernel) (by decide +kernel)⟩⟩
set_option maxRecDepth 100000 in
theorem nk_wM72 : nk_okM (6, yX6_has, cX6_has, 2, (some .boolean), true, 2, nk_T72) := ⟨nk_in 725 rfl rfl, nk_in 68 (by decide +kernel) (by decide +kernel), (by decide +kernel), ⟨(by decide +kernel), (by decide +kernel), (by decide +kernel)⟩, rfl, (by decide +kernel), nk_ck72, Or.inl ⟨rfl, nk_in 724 (by decide +kernel) (by decide +kernel)⟩⟩
set_option maxRecDepth 100000 in
theorem nk_wM73 : nk_okM (6, yX6_ones, cX6_ones, 3, (some .int), true, 1, nk_T73) := ⟨nk_in 740 rfl rfl, nk_in 68 (by decide +kernel) (by decide +kernel), (by decide +kernel), ⟨(by decide +kernel), (by decide +kernel), (by decide +kernel)⟩, rfl, (by decide +kernel), nk_ck73, Or.inl ⟨rfl, nk_in 739 (by decide +kernel) (by decide +kernel)⟩⟩
set_option maxRecDepth 100000 in
theorem nk_wM74 : nk_okM (6, yX6_isPerson, cX6_isPerson, 2, (some .boolean), false, 1, nk_T74) := ⟨nk_in 722 rfl rfl, nk_in 68 (by decide +kernel) (by decide +kernel), (by decide +kernel), ⟨(by decide +kernel), (by decide +kernel), (by decide +kernel)⟩, rfl, (by decide +kernel), nk_ck74, Or.inr ⟨rfl, nk_in 721 (by decide +kernel) (by decide +kernel), nk_in 46 (by decide +kernel) (by decide +kernel)⟩⟩
set_option maxRecDepth 100000 in
theorem nk_wM75 : nk_okM (6, yX6_arePeople, cX6_arePeople, 2, (some .boolean), false, 1, nk_T75) := ⟨nk_in 813 rfl rfl, nk_in 68 (by decide +kernel) (by decide +kernel), (by decide +kernel), ⟨(by decide +kernel), (by decide +kernel), (by decide +kernel)⟩, rfl, (by decide +kernel), nk_ck75, Or.inr ⟨rfl, nk_in 812 (by decide +kernel) (by decide +kernel), nk_in 56 (by decide +kernel) (by decide +kernel)⟩⟩
set_option maxRecDepth 100000 in
theorem nk_wM76 : nk_okM (6, yX6_areTwo, cX6_areTwo, 3, (some .boolean), false, 2, nk_T76) := ⟨nk_in 756 rfl rfl, nk_in 68 (by decide +kernel) (by decide +kernel), (by decide +kernel), ⟨(by decide +kernel), (by decide +kernel), (by decide +kernel)⟩, rfl, (by decide +kernel), nk_ck76, Or.inr ⟨rfl, nk_in 755 (by decide +kernel) (by decide +kernel), nk_in 52 (by decide +kernel) (by decide +kernel)⟩⟩
set_option maxRecDepth 100000 in
theorem nk_wM77 : nk_okM (6, yX6_write, cX6_write, 2, (some .int), false, 1, nk_T77) := ⟨nk_in 654 rfl rfl, nk_in 68 (by decide +kernel) (by decide +kernel), (by decide +kernel), ⟨(by decide +kernel), (by decide +kernel), (by decide +kernel)⟩, rfl, (by decide +kernel), nk_ck77, Or.inr ⟨rfl, nk_in 652 (by decide +kernel) (by decide +kernel), nk_in 653 (by decide +kernel) (by decide +kernel)⟩⟩
set_option maxRecDepth 100000 in
theorem nk_wM78 : nk_okM (6, yX6_erase, cX6_erase, 2, (some .int), false, 0, nk_T78) := ⟨nk_in 662 rfl rfl, nk_in 68 (by decide +kernel) (by decide +kernel), (by decide +kernel), ⟨(by decide +kernel), (by decide +kernel), (by decide +kernel)⟩, rfl, (by decide +kernel), nk_ck78, Or.inr ⟨rfl, nk_in 660 (by decide +kernel) (by decide +kernel), nk_in 661 (by decide +kernel) (by decide +kernel)⟩⟩
set_option maxRecDepth 100000 in
theorem nk_wM79 : nk_okM (6, yX6_letterAt, cX6_letterAt, 2, (some .int), false, 1, nk_T79) := ⟨nk_in 678 rfl rfl, nk_in 68 (by decide +kernel) (by decide +kernel), (by decide +kernel), ⟨(by decide +kernel), (by decide +kernel), (by decide +kernel)⟩, rfl, (by decide +kernel), nk_ck79, Or.inr ⟨rfl, nk_in 677 (by decide +kernel) (by decide +kernel), nk_in 39 (by decide +kernel) (by decide +kernel)⟩⟩
set_option maxRecDepth 100000 in
theorem nk_wM80 : nk_okM (6, yX6_nextToken, cX6_nextToken, 1, none, false, 0, nk_T80) := ⟨nk_in 674 rfl rfl, nk_in 68 (by decide +kernel) (by decide +kernel), (by decide +kernel), ⟨(by decide +kernel), (by decide +kernel), (by decide +kernel)⟩, rfl, (by decide +kernel), nk_ck80, Or.inr ⟨rfl, nk_in 673 (by decide +kernel) (by decide +kernel), nk_in 38 (by decide +kernel) (by decide +kernel)⟩⟩
set_option maxRecDepth 100000 in
theorem nk_wM81 : nk_okM (6, yX6_wordOf, cX6_wordOf, 4, (some .long), false, 0, nk_T81) := ⟨nk_in 694 rfl rfl, nk_in 68 (by decide +kernel) (by decide +kernel), (by decide +kernel), ⟨(by decide +kernel), (by decide +kernel), (by decide +kernel)⟩, rfl, (by decide +kernel), nk_ck81, Or.inr ⟨rfl, nk_in 693 (by decide +kernel) (by decide +kernel), nk_in 42 (by decide +kernel) (by decide +kernel)⟩⟩
set_option maxRecDepth 100000 in
theorem nk_wM82 : nk_okM (6, yX6_spelt, cX6_spelt, 9, (some .long), true, 7, nk_T82) := ⟨nk_in 698 rfl rfl, nk_in 68 (by decide +kernel) (by decide +kernel), (by decide +kernel), ⟨(by decide +kernel), (by decide +kernel), (by decide +kernel)⟩, rfl, (by decide +kernel), nk_ck82, Or.inl ⟨rfl, nk_in 697 (by decide +kernel) (by decide +kernel)⟩⟩
set_option maxRecDepth 100000 in
theorem nk_wM83 : nk_okM (6, yX6_verb, cX6_verb, 3, (some .int), false, 0, nk_T83) := ⟨nk_in 690 rfl rfl, nk_in 68 (by decide +kernel) (by decide +kernel), (by decide +kernel), ⟨(by decide +kernel), (by decide +kernel), (by decide +kernel)⟩, rfl, (by decide +kernel), nk_ck83, Or.inr ⟨rfl, nk_in 689 (by decide +kernel) (by decide +kernel), nk_in 41 (by decide +kernel) (by decide +kernel)⟩⟩
set_option maxRecDepth 100000 in
theorem nk_wM84 : nk_okM (6, yX6_number, cX6_number, 3, (some .int), false, 2, nk_T84) := ⟨nk_in 710 rfl rfl, nk_in 68 (by decide +kernel) (by decide +kernel), (by decide +kernel), ⟨(by decide +kernel), (by decide +kernel), (by decide +kernel)⟩, rfl, (by decide +kernel), nk_ck84, Or.inr ⟨rfl, nk_in 709 (by decide +kernel) (by decide +kernel), nk_in 45 (by decide +kernel) (by decide +kernel)⟩⟩
set_option maxRecDepth 100000 in
theorem nk_wM85 : nk_okM (6, yX6_readPerson, cX6_readPerson, 4, (some .boolean), false, 1, nk_T85) := ⟨nk_in 702 rfl rfl, nk_in 68 (by decide +kernel) (by decide +kernel), (by decide +kernel), ⟨(by decide +kernel), (by decide +kernel), (by decide +kernel)⟩, rfl, (by decide +kernel), nk_ck85, Or.inr ⟨rfl, nk_in 701 (by decide +kernel) (by decide +kernel), nk_in 43 (by decide +kernel) (by decide +kernel)⟩⟩
set_option maxRecDepth 100000 in
theorem nk_wM86 : nk_okM (6, yX6_readAs, cX6_readAs, 4, (some .boolean), false, 0, nk_T86) := ⟨nk_in 706 rfl rfl, nk_in 68 (by decide +kernel) (by decide +kernel), (by decide +kernel), ⟨(by decide +kernel), (by decide +kernel), (by decide +kernel)⟩, rfl, (by decide +kernel), nk_ck86, Or.inr ⟨rfl, nk_in 705 (by decide +kernel) (by decide +kernel), nk_in 44 (by decide +kernel) (by decide +kernel)⟩⟩
set_option maxRecDepth 100000 in
theorem nk_wM87 : nk_okM (6, yX6_readClause, cX6_readClause, 3, (some .boolean), false, 0, nk_T87) := ⟨nk_in 686 rfl rfl, nk_in 68 (by decide +kernel) (by decide +kernel), (by decide +kernel), ⟨(by decide +kernel), (by decide +kernel), (by decide +kernel)⟩, rfl, (by decide +kernel), nk_ck87, Or.inr ⟨rfl, nk_in 685 (by decide +kernel) (by decide +kernel), nk_in 40 (by decide +kernel) (by decide +kernel)⟩⟩
set_option maxRecDepth 100000 in
theorem nk_wM88 : nk_okM (6, yX6_readText, cX6_readText, 2, (some .boolean), false, 0, nk_T88) := ⟨nk_in 670 rfl rfl, nk_in 68 (by decide +kernel) (by decide +kernel), (by decide +kernel), ⟨(by decide +kernel), (by decide +kernel), (by decide +kernel)⟩, rfl, (by decide +kernel), nk_ck88, Or.inr ⟨rfl, nk_in 669 (by decide +kernel) (by decide +kernel), nk_in 37 (by decide +kernel) (by decide +kernel)⟩⟩
set_option maxRecDepth 100000 in
theorem nk_wM89 : nk_okM (6, yX6_fault, cX6_fault, 1, (some .int), false, 0, nk_T89) := ⟨nk_in 666 rfl rfl, nk_in 68 (by decide +kernel) (by decide +kernel), (by decide +kernel), ⟨(by decide +kernel), (by decide +kernel), (by decide +kernel)⟩, rfl, (by decide +kernel), nk_ck89, Or.inr ⟨rfl, nk_in 664 (by decide +kernel) (by decide +kernel), nk_in 665 (by decide +kernel) (by decide +kernel)⟩⟩
set_option maxRecDepth 100000 in
theorem nk_wM90 : nk_okM (6, yX6_season, cX6_season, 2, (some .int), false, 0, nk_T90) := ⟨nk_in 714 rfl rfl, nk_in 68 (by decide +kernel) (by decide +kernel), (by decide +kernel), ⟨(by decide +kernel), (by decide +kernel), (by decide +kernel)⟩, rfl, (by decide +kernel), nk_ck90, Or.inr ⟨rfl, nk_in 712 (by decide +kernel) (by decide +kernel), nk_in 713 (by decide +kernel) (by decide +kernel)⟩⟩
set_option maxRecDepth 100000 in
theorem nk_wM91 : nk_okM (6, yX6_roleTo, cX6_roleTo, 3, (some .int), false, 2, nk_T91) := ⟨nk_in 733 rfl rfl, nk_in 68 (by decide +kernel) (by decide +kernel), (by decide +kernel), ⟨(by decide +kernel), (by decide +kernel), (by decide +kernel)⟩, rfl, (by decide +kernel), nk_ck91, Or.inr ⟨rfl, nk_in 732 (by decide +kernel) (by decide +kernel), nk_in 48 (by decide +kernel) (by decide +kernel)⟩⟩
set_option maxRecDepth 100000 in
theorem nk_wM92 : nk_okM (6, yX6_mustBe, cX6_mustBe, 5, (some .int), false, 2, nk_T92) := ⟨nk_in 729 rfl rfl, nk_in 68 (by decide +kernel) (by decide +kernel), (by decide +kernel), ⟨(by decide +kernel), (by decide +kernel), (by decide +kernel)⟩, rfl, (by decide +kernel), nk_ck92, Or.inr ⟨rfl, nk_in 728 (by decide +kernel) (by decide +kernel), nk_in 47 (by decide +kernel) (by decide +kernel)⟩⟩
set_option maxRecDepth 100000 in
theorem nk_wM93 : nk_okM (6, yX6_bears, cX6_bears, 3, (some .int), false, 1, nk_T93) := ⟨nk_in 744 rfl rfl, nk_in 68 (by decide +kernel) (by decide +kernel), (by decide +kernel), ⟨(by decide +kernel), (by decide +kernel), (by decide +kernel)⟩, rfl, (by decide +kernel), nk_ck93, Or.inr ⟨rfl, nk_in 743 (by decide +kernel) (by decide +kernel), nk_in 50 (by decide +kernel) (by decide +kernel)⟩⟩
set_option maxRecDepth 100000 in
theorem nk_wM94 : nk_okM (6, yX6_isTwo, cX6_isTwo, 3, (some .boolean), false, 2, nk_T94) := ⟨nk_in 737 rfl rfl, nk_in 68 (by decide +kernel) (by decide +kernel), (by decide +kernel), ⟨(by decide +kernel), (by decide +kernel), (by decide +kernel)⟩, rfl, (by decide +kernel), nk_ck94, Or.inr ⟨rfl, nk_in 736 (by decide +kernel) (by decide +kernel), nk_in 49 (by decide +kernel) (by decide +kernel)⟩⟩
set_option maxRecDepth 100000 in
theorem nk_wM95 : nk_okM (6, yX6_twoIn, cX6_twoIn, 4, (some .int), false, 1, nk_T95) := ⟨nk_in 793 rfl rfl, nk_in 68 (by decide +kernel) (by decide +kernel), (by decide +kernel), ⟨(by decide +kernel), (by decide +kernel), (by decide +kernel)⟩, rfl, (by decide +kernel), nk_ck95, Or.inr ⟨rfl, nk_in 792 (by decide +kernel) (by decide +kernel), nk_in 55 (by decide +kernel) (by decide +kernel)⟩⟩
set_option maxRecDepth 100000 in
theorem nk_wM96 : nk_okM (6, yX6_knownMany, cX6_knownMany, 4, (some .int), false, 1, nk_T96) := ⟨nk_in 748 rfl rfl, nk_in 68 (by decide +kernel) (by decide +kernel), (by decide +kernel), ⟨(by decide +kernel), (by decide +kernel), (by decide +kernel)⟩, rfl, (by decide +kernel), nk_ck96, Or.inr ⟨rfl, nk_in 747 (by decide +kernel) (by decide +kernel), nk_in 51 (by decide +kernel) (by decide +kernel)⟩⟩
set_option maxRecDepth 100000 in
theorem nk_wM97 : nk_okM (6, yX6_person, cX6_person, 3, (some .int), false, 2, nk_T97) := ⟨nk_in 718 rfl rfl, nk_in 68 (by decide +kernel) (by decide +kernel), (by decide +kernel), ⟨(by decide +kernel), (by decide +kernel), (by decide +kernel)⟩, rfl, (by decide +kernel), nk_ck97, Or.inr ⟨rfl, nk_in 716 (by decide +kernel) (by decide +kernel), nk_in 717 (by decide +kernel) (by decide +kernel)⟩⟩
set_option maxRecDepth 100000 in
theorem nk_wM98 : nk_okM (6, yX6_orNone, cX6_orNone, 1, (some .int), true, 1, nk_T98) := ⟨nk_in 759 rfl rfl, nk_in 68 (by decide +kernel) (by decide +kernel), (by decide +kernel), ⟨(by decide +kernel), (by decide +kernel), (by decide +kernel)⟩, rfl, (by decide +kernel), nk_ck98, Or.inl ⟨rfl, nk_in 758 (by decide +kernel) (by decide +kernel)⟩⟩
set_option maxRecDepth 100000 in
theorem nk_wM99 : nk_okM (6, yX6_to, cX6_to, 3, (some .int), false, 2, nk_T99) := ⟨nk_in 752 rfl rfl, nk_in 68 (by decide +kernel) (by decide +kernel), (by decide +kernel), ⟨(by decide +kernel), (by decide +kernel), (by decide +kernel)⟩, rfl, (by decide +kernel), nk_ck99, Or.inr ⟨rfl, nk_in 750 (by decide +kernel) (by decide +kernel), nk_in 751 (by decide +kernel) (by decide +kernel)⟩⟩
set_option maxRecDepth 100000 in
theorem nk_wM100 : nk_okM (6, yX6_as, cX6_as, 5, (some .int), false, 2, nk_T100) := ⟨nk_in 763 rfl rfl, nk_in 68 (by decide +kernel) (by decide +kernel), (by decide +kernel), ⟨(by decide +kernel), (by decide +kernel), (by decide +kernel)⟩, rfl, (by decide +kernel), nk_ck100, Or.inr ⟨rfl, nk_in 761 (by decide +kernel) (by decide +kernel), nk_in 762 (by decide +kernel) (by decide +kernel)⟩⟩
set_option maxRecDepth 100000 in
theorem nk_wM101 : nk_okM (6, yX6_note, cX6_note, 2, none, false, 0, nk_T101) := ⟨nk_in 772 rfl rfl, nk_in 68 (by decide +kernel) (by decide +kernel), (by decide +kernel), ⟨(by decide +kernel), (by decide +kernel), (by decide +kernel)⟩, rfl, (by decide +kernel), nk_ck101, Or.inr ⟨rfl, nk_in 771 (by decide +kernel) (by decide +kernel), nk_in 53 (by decide +kernel) (by decide +kernel)⟩⟩
set_option maxRecDepth 100000 in
theorem nk_wM102 : nk_okM (6, yX6_comes, cX6_comes, 3, (some .int), false, 2, nk_T102) := ⟨nk_in 768 rfl rfl, nk_in 68 (by decide +kernel) (by decide +kernel), (by decide +kernel), ⟨(by decide +kernel), (by decide +kernel), (by decide +kernel)⟩, rfl, (by decide +kernel), nk_ck102, Or.inr ⟨rfl, nk_in 766 (by decide +kernel) (by decide +kernel), nk_in 767 (by decide +kernel) (by decide +kernel)⟩⟩
set_option maxRecDepth 100000 in
theorem nk_wM103 : nk_okM (6, yX6_introduce, cX6_introduce, 5, (some .int), false, 3, nk_T103) := ⟨nk_in 776 rfl rfl, nk_in 68 (by decide +kernel) (by decide +kernel), (by decide +kernel), ⟨(by decide +kernel), (by decide +kernel), (by decide +kernel)⟩, rfl, (by decide +kernel), nk_ck103, Or.inr ⟨rfl, nk_in 774 (by decide +kernel) (by decide +kernel), nk_in 775 (by decide +kernel) (by decide +kernel)⟩⟩
set_option maxRecDepth 100000 in
theorem nk_wM104 : nk_okM (6, yX6_contradict, cX6_contradict, 4, (some .int), false, 2, nk_T104) := ⟨nk_in 781 rfl rfl, nk_in 68 (by decide +kernel) (by decide +kernel), (by decide +kernel), ⟨(by decide +kernel), (by decide +kernel), (by decide +kernel)⟩, rfl, (by decide +kernel), nk_ck104, Or.inr ⟨rfl, nk_in 779 (by decide +kernel) (by decide +kernel), nk_in 780 (by decide +kernel) (by decide +kernel)⟩⟩
set_option maxRecDepth 100000 in
theorem nk_wM105 : nk_okM (6, yX6_oneEvening, cX6_oneEvening, 7, (some .int), false, 0, nk_T105) := ⟨nk_in 789 rfl rfl, nk_in 68 (by decide +kernel) (by decide +kernel), (by decide +kernel), ⟨(by decide +kernel), (by decide +kernel), (by decide +kernel)⟩, rfl, (by decide +kernel), nk_ck105, Or.inr ⟨rfl, nk_in 788 (by decide +kernel) (by decide +kernel), nk_in 54 (by decide +kernel) (by decide +kernel)⟩⟩
set_option maxRecDepth 100000 in
theorem nk_wM106 : nk_okM (6, yX6_evening, cX6_evening, 1, (some .int), false, 0, nk_T106) := ⟨nk_in 785 rfl rfl, nk_in 68 (by decide +kernel) (by decide +kernel), (by decide +kernel), ⟨(by decide +kernel), (by decide +kernel), (by decide +kernel)⟩, rfl, (by decide +kernel), nk_ck106, Or.inr ⟨rfl, nk_in 783 (by decide +kernel) (by decide +kernel), nk_in 784 (by decide +kernel) (by decide +kernel)⟩⟩
set_option maxRecDepth 100000 in
theorem nk_wM107 : nk_okM (6, yX6_undo, cX6_undo, 2, (some .int), false, 0, nk_T107) := ⟨nk_in 797 rfl rfl, nk_in 68 (by decide +kernel) (by decide +kernel), (by decide +kernel), ⟨(by decide +kernel), (by decide +kernel), (by decide +kernel)⟩, rfl, (by decide +kernel), nk_ck107, Or.inr ⟨rfl, nk_in 795 (by decide +kernel) (by decide +kernel), nk_in 796 (by decide +kernel) (by decide +kernel)⟩⟩
set_option maxRecDepth 100000 in
theorem nk_wM108 : nk_okM (6, yX6_keep, cX6_keep, 3, (some .int), false, 1, nk_T108) := ⟨nk_in 801 rfl rfl, nk_in 68 (by decide +kernel) (by decide +kernel), (by decide +kernel), ⟨(by decide +kernel), (by decide +kernel), (by decide +kernel)⟩, rfl, (by decide +kernel), nk_ck108, Or.inr ⟨rfl, nk_in 799 (by decide +kernel) (by decide +kernel), nk_in 800 (by decide +kernel) (by decide +kernel)⟩⟩
set_option maxRecDepth 100000 in
theorem nk_wM109 : nk_okM (6, yX6_back, cX6_back, 3, (some .int), false, 1, nk_T109) := ⟨nk_in 805 rfl rfl, nk_in 68 (by decide +kernel) (by decide +kernel), (by decide +kernel), ⟨(by decide +kernel), (by decide +kernel), (by decide +kernel)⟩, rfl, (by decide +kernel), nk_ck109, Or.inr ⟨rfl, nk_in 803 (by decide +kernel) (by decide +kernel), nk_in 804 (by decide +kernel) (by decide +kernel)⟩⟩
set_option maxRecDepth 100000 in
theorem nk_wM110 : nk_okM (6, yX6_clash, cX6_clash, 2, (some .int), false, 1, nk_T110) := ⟨nk_in 809 rfl rfl, nk_in 68 (by decide +kernel) (by decide +kernel), (by decide +kernel), ⟨(by decide +kernel), (by decide +kernel), (by decide +kernel)⟩, rfl, (by decide +kernel), nk_ck110, Or.inr ⟨rfl, nk_in 807 (by decide +kernel) (by decide +kernel), nk_in 808 (by decide +kernel) (by decide +kernel)⟩⟩
set_option maxRecDepth 100000 in
theorem nk_wM111 : nk_okM (6, yX6_roomsBy, cX6_roomsBy, 9, (some .int), false, 2, nk_T111) := ⟨nk_in 821 rfl rfl, nk_in 68 (by decide +kernel) (by decide +kernel), (by decide +kernel), ⟨(by decide +kernel), (by decide +kernel), (by decide +kernel)⟩, rfl, (by decide +kernel), nk_ck111, Or.inr ⟨rfl, nk_in 820 (by decide +kernel) (by decide +kernel), nk_in 57 (by decide +kernel) (by decide +kernel)⟩⟩
set_option maxRecDepth 100000 in
theorem nk_wM112 : nk_okM (6, yX6_rooms, cX6_rooms, 8, (some .int), false, 2, nk_T112) := ⟨nk_in 817 rfl rfl, nk_in 68 (by decide +kernel) (by decide +kernel), (by decide +kernel), ⟨(by decide +kernel), (by decide +kernel), (by decide +kernel)⟩, rfl, (by decide +kernel), nk_ck112, Or.inr ⟨rfl, nk_in 815 (by decide +kernel) (by decide +kernel), nk_in 816 (by decide +kernel) (by decide +kernel)⟩⟩
set_option maxRecDepth 100000 in
theorem nk_wM113 : nk_okM (6, yX6_largest, cX6_largest, 5, (some .int), false, 1, nk_T113) := ⟨nk_in 825 rfl rfl, nk_in 68 (by decide +kernel) (by decide +kernel), (by decide +kernel), ⟨(by decide +kernel), (by decide +kernel), (by decide +kernel)⟩, rfl, (by decide +kernel), nk_ck113, Or.inr ⟨rfl, nk_in 823 (by decide +kernel) (by decide +kernel), nk_in 824 (by decide +kernel) (by decide +kernel)⟩⟩
set_option maxRecDepth 100000 in
theorem nk_wM114 : nk_okM (6, yX6_smallest, cX6_smallest, 5, (some .int), false, 1, nk_T114) := ⟨nk_in 829 rfl rfl, nk_in 68 (by decide +kernel) (by decide +kernel), (by decide +kernel), ⟨(by decide +kernel), (by decide +kernel), (by decide +kernel)⟩, rfl, (by decide +kernel), nk_ck114, Or.inr ⟨rfl, nk_in 827 (by decide +kernel) (by decide +kernel), nk_in 828 (by decide +kernel) (by decide +kernel)⟩⟩
set_option maxRecDepth 100000 in
theorem nk_wM115 : nk_okM (6, yX6_may, cX6_may, 7, (some .int), false, 2, nk_T115) := ⟨nk_in 833 rfl rfl, nk_in 68 (by decide +kernel) (by decide +kernel), (by decide +kernel), ⟨(by decide +kernel), (by decide +kernel), (by decide +kernel)⟩, rfl, (by decide +kernel), nk_ck115, Or.inr ⟨rfl, nk_in 831 (by decide +kernel) (by decide +kernel), nk_in 832 (by decide +kernel) (by decide +kernel)⟩⟩
set_option maxRecDepth 100000 in
theorem nk_wM116 : nk_okM (6, yX6_goOn, cX6_goOn, 3, none, false, 1, nk_T116) := ⟨nk_in 842 rfl rfl, nk_in 68 (by decide +kernel) (by decide +kernel), (by decide +kernel), ⟨(by decide +kernel), (by decide +kernel), (by decide +kernel)⟩, rfl, (by decide +kernel), nk_ck116, Or.inr ⟨rfl, nk_in 841 (by decide +kernel) (by decide +kernel), nk_in 58 (by decide +kernel) (by decide +kernel)⟩⟩
set_option maxRecDepth 100000 in
theorem nk_wM117 : nk_okM (6, yX6_takeBack, cX6_takeBack, 2, none, false, 0, nk_T117) := ⟨nk_in 846 rfl rfl, nk_in 68 (by decide +kernel) (by decide +kernel), (by decide +kernel), ⟨(by decide +kernel), (by decide +kernel), (by decide +kernel)⟩, rfl, (by decide +kernel), nk_ck117, Or.inr ⟨rfl, nk_in 845 (by decide +kernel) (by decide +kernel), nk_in 59 (by decide +kernel) (by decide +kernel)⟩⟩
set_option maxRecDepth 100000 in
theorem nk_wM118 : nk_okM (6, yX6_learn, cX6_learn, 6, (some .int), false, 3, nk_T118) := ⟨nk_in 837 rfl rfl, nk_in 68 (by decide +kernel) (by decide +kernel), (by decide +kernel), ⟨(by decide +kernel), (by decide +kernel), (by decide +kernel)⟩, rfl, (by decide +kernel), nk_ck118, Or.inr ⟨rfl, nk_in 835 (by decide +kernel) (by decide +kernel), nk_in 836 (by decide +kernel) (by decide +kernel)⟩⟩
set_option maxRecDepth 100000 in
theorem nk_wM119 : nk_okM (6, yX6_stays, cX6_stays, 3, (some .int), false, 1, nk_T119) := ⟨nk_in 850 rfl rfl, nk_in 68 (by decide +kernel) (by decide +kernel), (by decide +kernel), ⟨(by decide +kernel), (by decide +kernel), (by decide +kernel)⟩, rfl, (by decide +kernel), nk_ck119, Or.inr ⟨rfl, nk_in 848 (by decide +kernel) (by decide +kernel), nk_in 849 (by decide +kernel) (by decide +kernel)⟩⟩
set_option maxRecDepth 100000 in
theorem nk_wM120 : nk_okM (6, yX6_seen, cX6_seen, 4, (some .int), false, 3, nk_T120) := ⟨nk_in 854 rfl rfl, nk_in 68 (by decide +kernel) (by decide +kernel), (by decide +kernel), ⟨(by decide +kernel), (by decide +kernel), (by decide +kernel)⟩, rfl, (by decide +kernel), nk_ck120, Or.inr ⟨rfl, nk_in 852 (by decide +kernel) (by decide +kernel), nk_in 853 (by decide +kernel) (by decide +kernel)⟩⟩
set_option maxRecDepth 100000 in
theorem nk_wM121 : nk_okM (6, yX6_forget, cX6_forget, 2, (some .int), false, 0, nk_T121) := ⟨nk_in 858 rfl rfl, nk_in 68 (by decide +kernel) (by decide +kernel), (by decide +kernel), ⟨(by decide +kernel), (by decide +kernel), (by decide +kernel)⟩, rfl, (by decide +kernel), nk_ck121, Or.inr ⟨rfl, nk_in 856 (by decide +kernel) (by decide +kernel), nk_in 857 (by decide +kernel) (by decide +kernel)⟩⟩
set_option maxRecDepth 100000 in
theorem nk_wM122 : nk_okM (6, yX6_isSo, cX6_isSo, 4, (some .boolean), false, 1, nk_T122) := ⟨nk_in 866 rfl rfl, nk_in 68 (by decide +kernel) (by decide +kernel), (by decide +kernel), ⟨(by decide +kernel), (by decide +kernel), (by decide +kernel)⟩, rfl, (by decide +kernel), nk_ck122, Or.inr ⟨rfl, nk_in 865 (by decide +kernel) (by decide +kernel), nk_in 60 (by decide +kernel) (by decide +kernel)⟩⟩
set_option maxRecDepth 100000 in
theorem nk_wM123 : nk_okM (6, yX6_was, cX6_was, 9, (some .int), false, 2, nk_T123) := ⟨nk_in 862 rfl rfl, nk_in 68 (by decide +kernel) (by decide +kernel), (by decide +kernel), ⟨(by decide +kernel), (by decide +kernel), (by decide +kernel)⟩, rfl, (by decide +kernel), nk_ck123, Or.inr ⟨rfl, nk_in 860 (by decide +kernel) (by decide +kernel), nk_in 861 (by decide +kernel) (by decide +kernel)⟩⟩
set_option maxRecDepth 100000 in
theorem nk_wM124 : nk_okM (6, yX6_chance, cX6_chance, 9, (some .int), false, 3, nk_T124) := ⟨nk_in 870 rfl rfl, nk_in 68 (by decide +kernel) (by decide +kernel), (by decide +kernel), ⟨(by decide +kernel), (by decide +kernel), (by decide +kernel)⟩, rfl, (by decide +kernel), nk_ck124, Or.inr ⟨rfl, nk_in 868 (by decide +kernel) (by decide +kernel), nk_in 869 (by decide +kernel) (by decide +kernel)⟩⟩
set_option maxRecDepth 100000 in
theorem nk_wM125 : nk_okM (6, yX6_count, cX6_count, 4, (some .int), false, 1, nk_T125) := ⟨nk_in 875 rfl rfl, nk_in 68 (by decide +kernel) (by decide +kernel), (by decide +kernel), ⟨(by decide +kernel), (by decide +kernel), (by decide +kernel)⟩, rfl, (by decide +kernel), nk_ck125, Or.inr ⟨rfl, nk_in 873 (by decide +kernel) (by decide +kernel), nk_in 874 (by decide +kernel) (by decide +kernel)⟩⟩
set_option maxRecDepth 100000 in
theorem nk_wM126 : nk_okM (11, yJ6_bitCount_0f7a4, cJ6_bitCount_0f7a4, 1, (some .int), true, 1, nk_T126) := ⟨nk_in 394 rfl rfl, nk_in 74 (by decide +kernel) (by decide +kernel), (by decide +kernel), ⟨(by decide +kernel), (by decide +kernel), (by decide +kernel)⟩, rfl, (by decide +kernel), nk_ck126, Or.inl ⟨rfl, nk_in 393 (by decide +kernel) (by decide +kernel)⟩⟩
set_option maxRecDepth 100000 in
theorem nk_wM127 : nk_okM (8, yJ0_length_8abf5, cJ0_length_8abf5, 1, (some .int), false, 0, nk_T127) := ⟨nk_in 265 rfl rfl, nk_in 70 (by decide +kernel) (by decide +kernel), (by decide +kernel), ⟨(by decide +kernel), (by decide +kernel), (by decide +kernel)⟩, rfl, (by decide +kernel), nk_ck127, Or.inr ⟨rfl, nk_in 263 (by decide +kernel) (by decide +kernel), nk_in 264 (by decide +kernel) (by decide +kernel)⟩⟩
set_option maxRecDepth 100000 in
theorem nk_wM128 : nk_okM (8, yJ0_charAt_5068e, cJ0_charAt_5068e, 2, (some .char), false, 1, nk_T128) := ⟨nk_in 275 rfl rfl, nk_in 70 (by decide +kernel) (by decide +kernel), (by decide +kernel), ⟨(by decide +kernel), (by decide +kernel), (by decide +kernel)⟩, rfl, (by decide +kernel), nk_ck128, Or.inr ⟨rfl, nk_in 273 (by decide +kernel) (by decide +kernel), nk_in 274 (by decide +kernel) (by decide +kernel)⟩⟩
set_option maxRecDepth 100000 in
theorem nk_wM129 : nk_okM (8, yJ0_coder_7d493, cJ0_coder_7d493, 1, (some .byte), false, 0, nk_T129) := ⟨nk_in 269 rfl rfl, nk_in 70 (by decide +kernel) (by decide +kernel), (by decide +kernel), ⟨(by decide +kernel), (by decide +kernel), (by decide +kernel)⟩, rfl, (by decide +kernel), nk_ck129, Or.inr ⟨rfl, nk_in 267 (by decide +kernel) (by decide +kernel), nk_in 268 (by decide +kernel) (by decide +kernel)⟩⟩
set_option maxRecDepth 100000 in
theorem nk_wM130 : nk_okM (8, yJ0_isLatin1_aae02, cJ0_isLatin1_aae02, 1, (some .boolean), false, 0, nk_T130) := ⟨nk_in 279 rfl rfl, nk_in 70 (by decide +kernel) (by decide +kernel), (by decide +kernel), ⟨(by decide +kernel), (by decide +kernel), (by decide +kernel)⟩, rfl, (by decide +kernel), nk_ck130, Or.inr ⟨rfl, nk_in 277 (by decide +kernel) (by decide +kernel), nk_in 278 (by decide +kernel) (by decide +kernel)⟩⟩
set_option maxRecDepth 100000 in
theorem nk_wM131 : nk_okM (8, yJ0_checkIndex_df160, cJ0_checkIndex_df160, 2, none, true, 2, nk_T131) := ⟨nk_in 285 rfl rfl, nk_in 70 (by decide +kernel) (by decide +kernel), (by decide +kernel), ⟨(by decide +kernel), (by decide +kernel), (by decide +kernel)⟩, rfl, (by decide +kernel), nk_ck131, Or.inl ⟨rfl, nk_in 284 (by decide +kernel) (by decide +kernel)⟩⟩
set_option maxRecDepth 100000 in
theorem nk_wM132 : nk_okM (9, yJ1_charAt_3b067, cJ1_charAt_3b067, 2, (some .char), true, 2, nk_T132) := ⟨nk_in 282 rfl rfl, nk_in 71 (by decide +kernel) (by decide +kernel), (by decide +kernel), ⟨(by decide +kernel), (by decide +kernel), (by decide +kernel)⟩, rfl, (by decide +kernel), nk_ck132, Or.inl ⟨rfl, nk_in 281 (by decide +kernel) (by decide +kernel)⟩⟩
set_option maxRecDepth 100000 in
theorem nk_wM133 : nk_okM (10, yJ3_checkIndex_8e157, cJ3_checkIndex_8e157, 3, (some .int), true, 3, nk_T133) := ⟨nk_in 290 rfl rfl, nk_in 72 (by decide +kernel) (by decide +kernel), (by decide +kernel), ⟨(by decide +kernel), (by decide +kernel), (by decide +kernel)⟩, rfl, (by decide +kernel), nk_ck133, Or.inl ⟨rfl, nk_in 289 (by decide +kernel) (by decide +kernel)⟩⟩
set_option maxRecDepth 100000 in
theorem nk_okMs : ∀ q ∈ nk_ms, nk_okM q := List.forall_mem_cons.mpr ⟨nk_wM0, List.forall_mem_cons.mpr ⟨nk_wM1, List.forall_mem_cons.mpr ⟨nk_wM2, List.forall_mem_cons.mpr ⟨nk_wM3, List.forall_mem_cons.mpr ⟨nk_wM4, List.forall_mem_cons.mpr ⟨nk_wM5, List.forall_mem_cons.mpr ⟨nk_wM6, List.forall_mem_cons.mpr ⟨nk_wM7, List.forall_mem_cons.mpr ⟨nk_wM8, List.forall_mem_cons.mpr ⟨nk_wM9, List.forall_mem_cons.mpr ⟨nk_wM10, List.forall_mem_cons.mpr ⟨nk_wM11, List.forall_mem_cons.mpr ⟨nk_wM12, List.forall_mem_cons.mpr ⟨nk_wM13, List.forall_mem_cons.mpr ⟨nk_wM14, List.forall_mem_cons.mpr ⟨nk_wM15, List.forall_mem_cons.mpr ⟨nk_wM16, List.forall_mem_cons.mpr ⟨nk_wM17, List.forall_mem_cons.mpr ⟨nk_wM18, List.forall_mem_cons.mpr ⟨nk_wM19, List.forall_mem_cons.mpr ⟨nk_wM20, List.forall_mem_cons.mpr ⟨nk_wM21, List.forall_mem_cons.mpr ⟨nk_wM22, List.forall_mem_cons.mpr ⟨nk_wM23, List.forall_mem_cons.mpr ⟨nk_wM24, List.forall_mem_cons.mpr ⟨nk_wM25, List.forall_mem_cons.mpr ⟨nk_wM26, List.forall_mem_cons.mpr ⟨nk_wM27, List.forall_mem_cons.mpr ⟨nk_wM28, List.forall_mem_cons.mpr ⟨nk_wM29, List.forall_mem_cons.mpr ⟨nk_wM30, List.forall_mem_cons.mpr ⟨nk_wM31, List.forall_mem_cons.mpr ⟨nk_wM32, List.forall_mem_cons.mpr ⟨nk_wM33, List.forall_mem_cons.mpr ⟨nk_wM34, List.forall_mem_cons.mpr ⟨nk_wM35, List.forall_mem_cons.mpr ⟨nk_wM36, List.forall_mem_cons.mpr ⟨nk_wM37, List.forall_mem_cons.mpr ⟨nk_wM38, List.forall_mem_cons.mpr ⟨nk_wM39, List.forall_mem_cons.mpr ⟨nk_wM40, List.forall_mem_cons.mpr ⟨nk_wM41, List.forall_mem_cons.mpr ⟨nk_wM42, List.forall_mem_cons.mpr ⟨nk_wM43, List.forall_mem_cons.mpr ⟨nk_wM44, List.forall_mem_cons.mpr ⟨nk_wM45, List.forall_mem_cons.mpr ⟨nk_wM46, List.forall_mem_cons.mpr ⟨nk_wM47, List.forall_mem_cons.mpr ⟨nk_wM48, List.forall_mem_cons.mpr ⟨nk_wM49, List.forall_mem_cons.mpr ⟨nk_wM50, List.forall_mem_cons.mpr ⟨nk_wM51, List.forall_mem_cons.mpr ⟨nk_wM52, List.forall_mem_cons.mpr ⟨nk_wM53, List.forall_mem_cons.mpr ⟨nk_wM54, List.forall_mem_cons.mpr ⟨nk_wM55, List.forall_mem_cons.mpr ⟨nk_wM56, List.forall_mem_cons.mpr ⟨nk_wM57, List.forall_mem_cons.mpr ⟨nk_wM58, List.forall_mem_cons.mpr ⟨nk_wM59, List.forall_mem_cons.mpr ⟨nk_wM60, List.forall_mem_cons.mpr ⟨nk_wM61, List.forall_mem_cons.mpr ⟨nk_wM62, List.forall_mem_cons.mpr ⟨nk_wM63, List.forall_mem_cons.mpr ⟨nk_wM64, List.forall_mem_cons.mpr ⟨nk_wM65, List.forall_mem_cons.mpr ⟨nk_wM66, List.forall_mem_cons.mpr ⟨nk_wM67, List.forall_mem_cons.mpr ⟨nk_wM68, List.forall_mem_cons.mpr ⟨nk_wM69, List.forall_mem_cons.mpr ⟨nk_wM70, List.forall_mem_cons.mpr ⟨nk_wM71, List.forall_mem_cons.mpr ⟨nk_wM72, List.forall_mem_cons.mpr ⟨nk_wM73, List.forall_mem_cons.mpr ⟨nk_wM74, List.forall_mem_cons.mpr ⟨nk_wM75, List.forall_mem_cons.mpr ⟨nk_wM76, List.forall_mem_cons.mpr ⟨nk_wM77, List.forall_mem_cons.mpr ⟨nk_wM78, List.forall_mem_cons.mpr ⟨nk_wM79, List.forall_mem_cons.mpr ⟨nk_wM80, List.forall_mem_cons.mpr ⟨nk_wM81, List.forall_mem_cons.mpr ⟨nk_wM82, List.forall_mem_cons.mpr ⟨nk_wM83, List.forall_mem_cons.mpr ⟨nk_wM84, List.forall_mem_cons.mpr ⟨nk_wM85, List.forall_mem_cons.mpr ⟨nk_wM86, List.forall_mem_cons.mpr ⟨nk_wM87, List.forall_mem_cons.mpr ⟨nk_wM88, List.forall_mem_cons.mpr ⟨nk_wM89, List.forall_mem_cons.mpr ⟨nk_wM90, List.forall_mem_cons.mpr ⟨nk_wM91, List.forall_mem_cons.mpr ⟨nk_wM92, List.forall_mem_cons.mpr ⟨nk_wM93, List.forall_mem_cons.mpr ⟨nk_wM94, List.forall_mem_cons.mpr ⟨nk_wM95, List.forall_mem_cons.mpr ⟨nk_wM96, List.forall_mem_cons.mpr ⟨nk_wM97, List.forall_mem_cons.mpr ⟨nk_wM98, List.forall_mem_cons.mpr ⟨nk_wM99, List.forall_mem_cons.mpr ⟨nk_wM100, List.forall_mem_cons.mpr ⟨nk_wM101, List.forall_mem_cons.mpr ⟨nk_wM102, List.forall_mem_cons.mpr ⟨nk_wM103, List.forall_mem_cons.mpr ⟨nk_wM104, List.forall_mem_cons.mpr ⟨nk_wM105, List.forall_mem_cons.mpr ⟨nk_wM106, List.forall_mem_cons.mpr ⟨nk_wM107, List.forall_mem_cons.mpr ⟨nk_wM108, List.forall_mem_cons.mpr ⟨nk_wM109, List.forall_mem_cons.mpr ⟨nk_wM110, List.forall_mem_cons.mpr ⟨nk_wM111, List.forall_mem_cons.mpr ⟨nk_wM112, List.forall_mem_cons.mpr ⟨nk_wM113, List.forall_mem_cons.mpr ⟨nk_wM114, List.forall_mem_cons.mpr ⟨nk_wM115, List.forall_mem_cons.mpr ⟨nk_wM116, List.forall_mem_cons.mpr ⟨nk_wM117, List.forall_mem_cons.mpr ⟨nk_wM118, List.forall_mem_cons.mpr ⟨nk_wM119, List.forall_mem_cons.mpr ⟨nk_wM120, List.forall_mem_cons.mpr ⟨nk_wM121, List.forall_mem_cons.mpr ⟨nk_wM122, List.forall_mem_cons.mpr ⟨nk_wM123, List.forall_mem_cons.mpr ⟨nk_wM124, List.forall_mem_cons.mpr ⟨nk_wM125, List.forall_mem_cons.mpr ⟨nk_wM126, List.forall_mem_cons.mpr ⟨nk_wM127, List.forall_mem_cons.mpr ⟨nk_wM128, List.forall_mem_cons.mpr ⟨nk_wM129, List.forall_mem_cons.mpr ⟨nk_wM130, List.forall_mem_cons.mpr ⟨nk_wM131, List.forall_mem_cons.mpr ⟨nk_wM132, List.forall_mem_cons.mpr ⟨nk_wM133, fun _ h => absurd h List.not_mem_nil⟩⟩⟩⟩⟩⟩⟩⟩⟩⟩⟩⟩⟩⟩⟩⟩⟩⟩⟩⟩⟩⟩⟩⟩⟩⟩⟩⟩⟩⟩⟩⟩⟩⟩⟩⟩⟩⟩⟩⟩⟩⟩⟩⟩⟩⟩⟩⟩⟩⟩⟩⟩⟩⟩⟩⟩⟩⟩⟩⟩⟩⟩⟩⟩⟩⟩⟩⟩⟩⟩⟩⟩⟩⟩⟩⟩⟩⟩⟩⟩⟩⟩⟩⟩⟩⟩⟩⟩⟩⟩⟩⟩⟩⟩⟩⟩⟩⟩⟩⟩⟩⟩⟩⟩⟩⟩⟩⟩⟩⟩⟩⟩⟩⟩⟩⟩⟩⟩⟩⟩⟩⟩⟩⟩⟩⟩⟩⟩⟩⟩⟩⟩⟩⟩
def nk_okC (q : Nat × Nat × Nat) : Prop := q.2.2 = 997 ∧ Cond.methodLink (nk_on q.1) q.2.1 Lib.Math.max.name ∈ nk_tb ∧ Cond.static Lib.Math.max.name ∈ nk_tb ∧ Cond.initialized "java/lang/Math" ∈ nk_tb ∧ Cond.code Lib.Math.max.name Lib.Math.max.code 2 (some .int) ∈ nk_tb ∨ q.2.2 = 998 ∧ Cond.methodLink (nk_on q.1) q.2.1 Lib.Math.min.name ∈ nk_tb ∧ Cond.static Lib.Math.min.name ∈ nk_tb ∧ Cond.initialized "java/lang/Math" ∈ nk_tb ∧ Cond.code Lib.Math.min.name Lib.Math.min.code 2 (some .int) ∈ nk_tb ∨ q.2.2 = 999 ∧ Cond.methodLink (nk_on q.1) q.2.1 arraycopyName ∈ nk_tb ∧ Cond.native arraycopyName ∈ nk_tb ∧ Cond.static arraycopyName ∈ nk_tb ∧ Cond.initialized "java/lang/System" ∈ nk_tb ∨ ∃ M, nk_ms[q.2.2]? = some M ∧ (Cond.methodLink (nk_on q.1) q.2.1 M.2.1 ∈ nk_tb ∨ ∃ h, Cond.methodLinkNest (nk_on q.1) q.2.1 M.2.1 h ∈ nk_nb)
theorem nk_wC0 : nk_okC (0, 22, 5) := Or.inr <| Or.inr <| Or.inr ⟨_, rfl, Or.inr ⟨"NearlyKnown", nk_inN 436 (by decide +kernel) (by decide +kernel)⟩⟩
theorem nk_wC1 : nk_okC (0, 29, 998) := Or.inr <| Or.inl ⟨rfl, nk_in 437 (by decide +kernel) (by decide +kernel), nk_in 438 (by decide +kernel) (by decide +kernel), nk_in 75 (by decide +kernel) (by decide +kernel), nk_in 439 (by decide +kernel) (by decide +kernel)⟩
theorem nk_wC2 : nk_okC (1, 15, 3) := Or.inr <| Or.inr <| Or.inr ⟨_, rfl, Or.inl (nk_in 500 (by decide +kernel) (by decide +kernel))⟩
theorem nk_wC3 : nk_okC (1, 19, 68) := Or.inr <| Or.inr <| Or.inr ⟨_, rfl, Or.inr ⟨"NearlyKnown", nk_inN 504 (by decide +kernel) (by decide +kernel)⟩⟩
theorem nk_wC4 : nk_okC (1, 23, 19) := Or.inr <| Or.inr <| Or.inr ⟨_, rfl, Or.inr ⟨"NearlyKnown", nk_inN 505 (by decide +kernel) (by decide +kernel)⟩⟩
theorem nk_wC5 : nk_okC (1, 29, 997) := Or.inl ⟨rfl, nk_in 506 (by decide +kernel) (by decide +kernel), nk_in 507 (by decide +kernel) (by decide +kernel), nk_in 75 (by decide +kernel) (by decide +kernel), nk_in 508 (by decide +kernel) (by decide +kernel)⟩
theorem nk_wC6 : nk_okC (2, 18, 999) := Or.inr <| Or.inr <| Or.inl ⟨rfl, nk_in 234 (by decide +kernel) (by decide +kernel), nk_in 236 (by decide +kernel) (by decide +kernel), nk_in 235 (by decide +kernel) (by decide +kernel), nk_in 69 (by decide +kernel) (by decide +kernel)⟩
theorem nk_wC7 : nk_okC (2, 34, 8) := Or.inr <| Or.inr <| Or.inr ⟨_, rfl, Or.inl (nk_in 326 (by decide +kernel) (by decide +kernel))⟩
theorem nk_wC8 : nk_okC (2, 38, 11) := Or.inr <| Or.inr <| Or.inr ⟨_, rfl, Or.inl (nk_in 402 (by decide +kernel) (by decide +kernel))⟩
theorem nk_wC9 : nk_okC (2, 45, 9) := Or.inr <| Or.inr <| Or.inr ⟨_, rfl, Or.inl (nk_in 334 (by decide +kernel) (by decide +kernel))⟩
theorem nk_wC10 : nk_okC (2, 49, 13) := Or.inr <| Or.inr <| Or.inr ⟨_, rfl, Or.inl (nk_in 383 (by decide +kernel) (by decide +kernel))⟩
theorem nk_wC11 : nk_okC (2, 53, 15) := Or.inr <| Or.inr <| Or.inr ⟨_, rfl, Or.inl (nk_in 586 (by decide +kernel) (by decide +kernel))⟩
theorem nk_wC12 : nk_okC (2, 56, 68) := Or.inr <| Or.inr <| Or.inr ⟨_, rfl, Or.inr ⟨"NearlyKnown", nk_inN 382 (by decide +kernel) (by decide +kernel)⟩⟩
theorem nk_wC13 : nk_okC (2, 59, 17) := Or.inr <| Or.inr <| Or.inr ⟨_, rfl, Or.inl (nk_in 391 (by decide +kernel) (by decide +kernel))⟩
theorem nk_wC14 : nk_okC (2, 62, 126) := Or.inr <| Or.inr <| Or.inr ⟨_, rfl, Or.inl (nk_in 392 (by decide +kernel) (by decide +kernel))⟩
theorem nk_wC15 : nk_okC (2, 67, 12) := Or.inr <| Or.inr <| Or.inr ⟨_, rfl, Or.inl (nk_in 398 (by decide +kernel) (by decide +kernel))⟩
theorem nk_wC16 : nk_okC (2, 70, 18) := Or.inr <| Or.inr <| Or.inr ⟨_, rfl, Or.inl (nk_in 458 (by decide +kernel) (by decide +kernel))⟩
theorem nk_wC17 : nk_okC (2, 73, 21) := Or.inr <| Or.inr <| Or.inr ⟨_, rfl, Or.inl (nk_in 459 (by decide +kernel) (by decide +kernel))⟩
theorem nk_wC18 : nk_okC (2, 77, 22) := Or.inr <| Or.inr <| Or.inr ⟨_, rfl, Or.inl (nk_in 463 (by decide +kernel) (by decide +kernel))⟩
theorem nk_wC19 : nk_okC (2, 80, 14) := Or.inr <| Or.inr <| Or.inr ⟨_, rfl, Or.inl (nk_in 466 (by decide +kernel) (by decide +kernel))⟩
theorem nk_wC20 : nk_okC (3, 25, 17) := Or.inr <| Or.inr <| Or.inr ⟨_, rfl, Or.inr ⟨"NearlyKnown", nk_inN 561 (by decide +kernel) (by decide +kernel)⟩⟩
theorem nk_wC21 : nk_okC (3, 31, 126) := Or.inr <| Or.inr <| Or.inr ⟨_, rfl, Or.inl (nk_in 562 (by decide +kernel) (by decide +kernel))⟩
theorem nk_wC22 : nk_okC (4, 25, 31) := Or.inr <| Or.inr <| Or.inr ⟨_, rfl, Or.inl (nk_in 241 (by decide +kernel) (by decide +kernel))⟩
theorem nk_wC23 : nk_okC (4, 28, 27) := Or.inr <| Or.inr <| Or.inr ⟨_, rfl, Or.inl (nk_in 253 (by decide +kernel) (by decide +kernel))⟩
theorem nk_wC24 : nk_okC (4, 35, 32) := Or.inr <| Or.inr <| Or.inr ⟨_, rfl, Or.inl (nk_in 245 (by decide +kernel) (by decide +kernel))⟩
theorem nk_wC25 : nk_okC (4, 41, 34) := Or.inr <| Or.inr <| Or.inr ⟨_, rfl, Or.inl (nk_in 258 (by decide +kernel) (by decide +kernel))⟩
theorem nk_wC26 : nk_okC (4, 45, 28) := Or.inr <| Or.inr <| Or.inr ⟨_, rfl, Or.inl (nk_in 310 (by decide +kernel) (by decide +kernel))⟩
theorem nk_wC27 : nk_okC (4, 50, 29) := Or.inr <| Or.inr <| Or.inr ⟨_, rfl, Or.inl (nk_in 336 (by decide +kernel) (by decide +kernel))⟩
theorem nk_wC28 : nk_okC (4, 55, 6) := Or.inr <| Or.inr <| Or.inr ⟨_, rfl, Or.inr ⟨"NearlyKnown", nk_inN 345 (by decide +kernel) (by decide +kernel)⟩⟩
theorem nk_wC29 : nk_okC (4, 60, 30) := Or.inr <| Or.inr <| Or.inr ⟨_, rfl, Or.inl (nk_in 349 (by decide +kernel) (by decide +kernel))⟩
theorem nk_wC30 : nk_okC (4, 64, 7) := Or.inr <| Or.inr <| Or.inr ⟨_, rfl, Or.inr ⟨"NearlyKnown", nk_inN 357 (by decide +kernel) (by decide +kernel)⟩⟩
theorem nk_wC31 : nk_okC (4, 68, 35) := Or.inr <| Or.inr <| Or.inr ⟨_, rfl, Or.inl (nk_in 314 (by decide +kernel) (by decide +kernel))⟩
theorem nk_wC32 : nk_okC (4, 71, 8) := Or.inr <| Or.inr <| Or.inr ⟨_, rfl, Or.inr ⟨"NearlyKnown", nk_inN 318 (by decide +kernel) (by decide +kernel)⟩⟩
theorem nk_wC33 : nk_okC (4, 74, 9) := Or.inr <| Or.inr <| Or.inr ⟨_, rfl, Or.inr ⟨"NearlyKnown", nk_inN 322 (by decide +kernel) (by decide +kernel)⟩⟩
theorem nk_wC34 : nk_okC (4, 78, 66) := Or.inr <| Or.inr <| Or.inr ⟨_, rfl, Or.inr ⟨"NearlyKnown", nk_inN 327 (by decide +kernel) (by decide +kernel)⟩⟩
theorem nk_wC35 : nk_okC (4, 81, 14) := Or.inr <| Or.inr <| Or.inr ⟨_, rfl, Or.inr ⟨"NearlyKnown", nk_inN 330 (by decide +kernel) (by decide +kernel)⟩⟩
theorem nk_wC36 : nk_okC (4, 85, 10) := Or.inr <| Or.inr <| Or.inr ⟨_, rfl, Or.inr ⟨"NearlyKnown", nk_inN 340 (by decide +kernel) (by decide +kernel)⟩⟩
theorem nk_wC37 : nk_okC (4, 98, 33) := Or.inr <| Or.inr <| Or.inr ⟨_, rfl, Or.inl (nk_in 249 (by decide +kernel) (by decide +kernel))⟩
theorem nk_wC38 : nk_okC (4, 101, 127) := Or.inr <| Or.inr <| Or.inr ⟨_, rfl, Or.inl (nk_in 262 (by decide +kernel) (by decide +kernel))⟩
theorem nk_wC39 : nk_okC (4, 105, 128) := Or.inr <| Or.inr <| Or.inr ⟨_, rfl, Or.inl (nk_in 272 (by decide +kernel) (by decide +kernel))⟩
theorem nk_wC40 : nk_okC (5, 58, 25) := Or.inr <| Or.inr <| Or.inr ⟨_, rfl, Or.inr ⟨"NearlyKnown", nk_inN 218 (by decide +kernel) (by decide +kernel)⟩⟩
theorem nk_wC41 : nk_okC (5, 66, 5) := Or.inr <| Or.inr <| Or.inr ⟨_, rfl, Or.inr ⟨"NearlyKnown", nk_inN 230 (by decide +kernel) (by decide +kernel)⟩⟩
theorem nk_wC42 : nk_okC (5, 70, 26) := Or.inr <| Or.inr <| Or.inr ⟨_, rfl, Or.inr ⟨"NearlyKnown", nk_inN 237 (by decide +kernel) (by decide +kernel)⟩⟩
theorem nk_wC43 : nk_okC (5, 81, 8) := Or.inr <| Or.inr <| Or.inr ⟨_, rfl, Or.inr ⟨"NearlyKnown", nk_inN 370 (by decide +kernel) (by decide +kernel)⟩⟩
theorem nk_wC44 : nk_okC (5, 84, 11) := Or.inr <| Or.inr <| Or.inr ⟨_, rfl, Or.inr ⟨"NearlyKnown", nk_inN 371 (by decide +kernel) (by decide +kernel)⟩⟩
theorem nk_wC45 : nk_okC (5, 91, 68) := Or.inr <| Or.inr <| Or.inr ⟨_, rfl, Or.inl (nk_in 375 (by decide +kernel) (by decide +kernel))⟩
theorem nk_wC46 : nk_okC (5, 95, 17) := Or.inr <| Or.inr <| Or.inr ⟨_, rfl, Or.inr ⟨"NearlyKnown", nk_inN 378 (by decide +kernel) (by decide +kernel)⟩⟩
theorem nk_wC47 : nk_okC (5, 99, 18) := Or.inr <| Or.inr <| Or.inr ⟨_, rfl, Or.inr ⟨"NearlyKnown", nk_inN 387 (by decide +kernel) (by decide +kernel)⟩⟩
theorem nk_wC48 : nk_okC (5, 102, 15) := Or.inr <| Or.inr <| Or.inr ⟨_, rfl, Or.inr ⟨"NearlyKnown", nk_inN 405 (by decide +kernel) (by decide +kernel)⟩⟩
theorem nk_wC49 : nk_okC (5, 105, 9) := Or.inr <| Or.inr <| Or.inr ⟨_, rfl, Or.inr ⟨"NearlyKnown", nk_inN 413 (by decide +kernel) (by decide +kernel)⟩⟩
theorem nk_wC50 : nk_okC (5, 108, 13) := Or.inr <| Or.inr <| Or.inr ⟨_, rfl, Or.inr ⟨"NearlyKnown", nk_inN 414 (by decide +kernel) (by decide +kernel)⟩⟩
theorem nk_wC51 : nk_okC (5, 111, 67) := Or.inr <| Or.inr <| Or.inr ⟨_, rfl, Or.inl (nk_in 415 (by decide +kernel) (by decide +kernel))⟩
theorem nk_wC52 : nk_okC (5, 118, 70) := Or.inr <| Or.inr <| Or.inr ⟨_, rfl, Or.inl (nk_in 424 (by decide +kernel) (by decide +kernel))⟩
theorem nk_wC53 : nk_okC (5, 121, 12) := Or.inr <| Or.inr <| Or.inr ⟨_, rfl, Or.inr ⟨"NearlyKnown", nk_inN 427 (by decide +kernel) (by decide +kernel)⟩⟩
theorem nk_wC54 : nk_okC (5, 124, 0) := Or.inr <| Or.inr <| Or.inr ⟨_, rfl, Or.inr ⟨"NearlyKnown", nk_inN 432 (by decide +kernel) (by decide +kernel)⟩⟩
theorem nk_wC55 : nk_okC (5, 127, 66) := Or.inr <| Or.inr <| Or.inr ⟨_, rfl, Or.inl (nk_in 444 (by decide +kernel) (by decide +kernel))⟩
theorem nk_wC56 : nk_okC (5, 130, 14) := Or.inr <| Or.inr <| Or.inr ⟨_, rfl, Or.inr ⟨"NearlyKnown", nk_inN 445 (by decide +kernel) (by decide +kernel)⟩⟩
theorem nk_wC57 : nk_okC (5, 137, 20) := Or.inr <| Or.inr <| Or.inr ⟨_, rfl, Or.inr ⟨"NearlyKnown", nk_inN 454 (by decide +kernel) (by decide +kernel)⟩⟩
theorem nk_wC58 : nk_okC (5, 141, 1) := Or.inr <| Or.inr <| Or.inr ⟨_, rfl, Or.inr ⟨"NearlyKnown", nk_inN 471 (by decide +kernel) (by decide +kernel)⟩⟩
theorem nk_wC59 : nk_okC (5, 145, 10) := Or.inr <| Or.inr <| Or.inr ⟨_, rfl, Or.inr ⟨"NearlyKnown", nk_inN 487 (by decide +kernel) (by decide +kernel)⟩⟩
theorem nk_wC60 : nk_okC (5, 148, 19) := Or.inr <| Or.inr <| Or.inr ⟨_, rfl, Or.inr ⟨"NearlyKnown", nk_inN 488 (by decide +kernel) (by decide +kernel)⟩⟩
theorem nk_wC61 : nk_okC (5, 151, 2) := Or.inr <| Or.inr <| Or.inr ⟨_, rfl, Or.inr ⟨"NearlyKnown", nk_inN 496 (by decide +kernel) (by decide +kernel)⟩⟩
theorem nk_wC62 : nk_okC (5, 155, 4) := Or.inr <| Or.inr <| Or.inr ⟨_, rfl, Or.inr ⟨"NearlyKnown", nk_inN 509 (by decide +kernel) (by decide +kernel)⟩⟩
theorem nk_wC63 : nk_okC (5, 158, 69) := Or.inr <| Or.inr <| Or.inr ⟨_, rfl, Or.inl (nk_in 517 (by decide +kernel) (by decide +kernel))⟩
theorem nk_wC64 : nk_okC (5, 161, 126) := Or.inr <| Or.inr <| Or.inr ⟨_, rfl, Or.inl (nk_in 520 (by decide +kernel) (by decide +kernel))⟩
theorem nk_wC65 : nk_okC (5, 166, 62) := Or.inr <| Or.inr <| Or.inr ⟨_, rfl, Or.inl (nk_in 533 (by decide +kernel) (by decide +kernel))⟩
theorem nk_wC66 : nk_okC (5, 173, 23) := Or.inr <| Or.inr <| Or.inr ⟨_, rfl, Or.inr ⟨"NearlyKnown", nk_inN 545 (by decide +kernel) (by decide +kernel)⟩⟩
theorem nk_wC67 : nk_okC (5, 177, 24) := Or.inr <| Or.inr <| Or.inr ⟨_, rfl, Or.inr ⟨"NearlyKnown", nk_inN 557 (by decide +kernel) (by decide +kernel)⟩⟩
theorem nk_wC68 : nk_okC (5, 180, 63) := Or.inr <| Or.inr <| Or.inr ⟨_, rfl, Or.inl (nk_in 567 (by decide +kernel) (by decide +kernel))⟩
theorem nk_wC69 : nk_okC (5, 183, 64) := Or.inr <| Or.inr <| Or.inr ⟨_, rfl, Or.inl (nk_in 571 (by decide +kernel) (by decide +kernel))⟩
theorem nk_wC70 : nk_okC (5, 186, 65) := Or.inr <| Or.inr <| Or.inr ⟨_, rfl, Or.inl (nk_in 574 (by decide +kernel) (by decide +kernel))⟩
theorem nk_wC71 : nk_okC (5, 189, 997) := Or.inl ⟨rfl, nk_in 577 (by decide +kernel) (by decide +kernel), nk_in 507 (by decide +kernel) (by decide +kernel), nk_in 75 (by decide +kernel) (by decide +kernel), nk_in 508 (by decide +kernel) (by decide +kernel)⟩
theorem nk_wC72 : nk_okC (5, 194, 16) := Or.inr <| Or.inr <| Or.inr ⟨_, rfl, Or.inr ⟨"NearlyKnown", nk_inN 582 (by decide +kernel) (by decide +kernel)⟩⟩
theorem nk_wC73 : nk_okC (6, 44, 71) := Or.inr <| Or.inr <| Or.inr ⟨_, rfl, Or.inl (nk_in 656 (by decide +kernel) (by decide +kernel))⟩
theorem nk_wC74 : nk_okC (6, 48, 74) := Or.inr <| Or.inr <| Or.inr ⟨_, rfl, Or.inl (nk_in 719 (by decide +kernel) (by decide +kernel))⟩
theorem nk_wC75 : nk_okC (6, 61, 79) := Or.inr <| Or.inr <| Or.inr ⟨_, rfl, Or.inl (nk_in 675 (by decide +kernel) (by decide +kernel))⟩
theorem nk_wC76 : nk_okC (6, 84, 81) := Or.inr <| Or.inr <| Or.inr ⟨_, rfl, Or.inl (nk_in 691 (by decide +kernel) (by decide +kernel))⟩
theorem nk_wC77 : nk_okC (6, 88, 82) := Or.inr <| Or.inr <| Or.inr ⟨_, rfl, Or.inl (nk_in 696 (by decide +kernel) (by decide +kernel))⟩
theorem nk_wC78 : nk_okC (6, 92, 80) := Or.inr <| Or.inr <| Or.inr ⟨_, rfl, Or.inl (nk_in 671 (by decide +kernel) (by decide +kernel))⟩
theorem nk_wC79 : nk_okC (6, 95, 84) := Or.inr <| Or.inr <| Or.inr ⟨_, rfl, Or.inl (nk_in 707 (by decide +kernel) (by decide +kernel))⟩
theorem nk_wC80 : nk_okC (6, 99, 83) := Or.inr <| Or.inr <| Or.inr ⟨_, rfl, Or.inl (nk_in 687 (by decide +kernel) (by decide +kernel))⟩
theorem nk_wC81 : nk_okC (6, 103, 85) := Or.inr <| Or.inr <| Or.inr ⟨_, rfl, Or.inl (nk_in 699 (by decide +kernel) (by decide +kernel))⟩
theorem nk_wC82 : nk_okC (6, 106, 86) := Or.inr <| Or.inr <| Or.inr ⟨_, rfl, Or.inl (nk_in 703 (by decide +kernel) (by decide +kernel))⟩
theorem nk_wC83 : nk_okC (6, 113, 87) := Or.inr <| Or.inr <| Or.inr ⟨_, rfl, Or.inl (nk_in 683 (by decide +kernel) (by decide +kernel))⟩
theorem nk_wC84 : nk_okC (6, 116, 88) := Or.inr <| Or.inr <| Or.inr ⟨_, rfl, Or.inl (nk_in 667 (by decide +kernel) (by decide +kernel))⟩
theorem nk_wC85 : nk_okC (6, 125, 72) := Or.inr <| Or.inr <| Or.inr ⟨_, rfl, Or.inl (nk_in 723 (by decide +kernel) (by decide +kernel))⟩
theorem nk_wC86 : nk_okC (6, 129, 91) := Or.inr <| Or.inr <| Or.inr ⟨_, rfl, Or.inl (nk_in 730 (by decide +kernel) (by decide +kernel))⟩
theorem nk_wC87 : nk_okC (6, 132, 92) := Or.inr <| Or.inr <| Or.inr ⟨_, rfl, Or.inl (nk_in 726 (by decide +kernel) (by decide +kernel))⟩
theorem nk_wC88 : nk_okC (6, 135, 73) := Or.inr <| Or.inr <| Or.inr ⟨_, rfl, Or.inl (nk_in 738 (by decide +kernel) (by decide +kernel))⟩
theorem nk_wC89 : nk_okC (6, 138, 93) := Or.inr <| Or.inr <| Or.inr ⟨_, rfl, Or.inl (nk_in 741 (by decide +kernel) (by decide +kernel))⟩
theorem nk_wC90 : nk_okC (6, 141, 94) := Or.inr <| Or.inr <| Or.inr ⟨_, rfl, Or.inl (nk_in 734 (by decide +kernel) (by decide +kernel))⟩
theorem nk_wC91 : nk_okC (6, 144, 96) := Or.inr <| Or.inr <| Or.inr ⟨_, rfl, Or.inl (nk_in 745 (by decide +kernel) (by decide +kernel))⟩
theorem nk_wC92 : nk_okC (6, 147, 76) := Or.inr <| Or.inr <| Or.inr ⟨_, rfl, Or.inl (nk_in 753 (by decide +kernel) (by decide +kernel))⟩
theorem nk_wC93 : nk_okC (6, 150, 98) := Or.inr <| Or.inr <| Or.inr ⟨_, rfl, Or.inl (nk_in 757 (by decide +kernel) (by decide +kernel))⟩
theorem nk_wC94 : nk_okC (6, 155, 101) := Or.inr <| Or.inr <| Or.inr ⟨_, rfl, Or.inl (nk_in 769 (by decide +kernel) (by decide +kernel))⟩
theorem nk_wC95 : nk_okC (6, 160, 95) := Or.inr <| Or.inr <| Or.inr ⟨_, rfl, Or.inl (nk_in 790 (by decide +kernel) (by decide +kernel))⟩
theorem nk_wC96 : nk_okC (6, 163, 105) := Or.inr <| Or.inr <| Or.inr ⟨_, rfl, Or.inl (nk_in 786 (by decide +kernel) (by decide +kernel))⟩
theorem nk_wC97 : nk_okC (6, 166, 75) := Or.inr <| Or.inr <| Or.inr ⟨_, rfl, Or.inl (nk_in 810 (by decide +kernel) (by decide +kernel))⟩
theorem nk_wC98 : nk_okC (6, 169, 111) := Or.inr <| Or.inr <| Or.inr ⟨_, rfl, Or.inl (nk_in 818 (by decide +kernel) (by decide +kernel))⟩
theorem nk_wC99 : nk_okC (6, 174, 116) := Or.inr <| Or.inr <| Or.inr ⟨_, rfl, Or.inl (nk_in 839 (by decide +kernel) (by decide +kernel))⟩
theorem nk_wC100 : nk_okC (6, 178, 117) := Or.inr <| Or.inr <| Or.inr ⟨_, rfl, Or.inl (nk_in 843 (by decide +kernel) (by decide +kernel))⟩
theorem nk_wC101 : nk_okC (6, 181, 122) := Or.inr <| Or.inr <| Or.inr ⟨_, rfl, Or.inl (nk_in 863 (by decide +kernel) (by decide +kernel))⟩
theorem nk_wC102 : nk_okC (8, 335, 129) := Or.inr <| Or.inr <| Or.inr ⟨_, rfl, Or.inl (nk_in 266 (by decide +kernel) (by decide +kernel))⟩
theorem nk_wC103 : nk_okC (8, 492, 130) := Or.inr <| Or.inr <| Or.inr ⟨_, rfl, Or.inl (nk_in 276 (by decide +kernel) (by decide +kernel))⟩
theorem nk_wC104 : nk_okC (8, 495, 132) := Or.inr <| Or.inr <| Or.inr ⟨_, rfl, Or.inl (nk_in 280 (by decide +kernel) (by decide +kernel))⟩
theorem nk_wC105 : nk_okC (8, 1059, 133) := Or.inr <| Or.inr <| Or.inr ⟨_, rfl, Or.inl (nk_in 288 (by decide +kernel) (by decide +kernel))⟩
theorem nk_wC106 : nk_okC (9, 9, 131) := Or.inr <| Or.inr <| Or.inr ⟨_, rfl, Or.inl (nk_in 283 (by decide +kernel) (by decide +kernel))⟩
theorem nk_wC107 : nk_okC (7, 13, 36) := Or.inr <| Or.inr <| Or.inr ⟨_, rfl, Or.inl (nk_in 214 (by decide +kernel) (by decide +kernel))⟩
theorem nk_wC108 : nk_okC (7, 17, 77) := Or.inr <| Or.inr <| Or.inr ⟨_, rfl, Or.inl (nk_in 651 (by decide +kernel) (by decide +kernel))⟩
theorem nk_wC109 : nk_okC (7, 18, 37) := Or.inr <| Or.inr <| Or.inr ⟨_, rfl, Or.inl (nk_in 222 (by decide +kernel) (by decide +kernel))⟩
theorem nk_wC110 : nk_okC (7, 22, 78) := Or.inr <| Or.inr <| Or.inr ⟨_, rfl, Or.inl (nk_in 659 (by decide +kernel) (by decide +kernel))⟩
theorem nk_wC111 : nk_okC (7, 23, 38) := Or.inr <| Or.inr <| Or.inr ⟨_, rfl, Or.inl (nk_in 226 (by decide +kernel) (by decide +kernel))⟩
theorem nk_wC112 : nk_okC (7, 26, 89) := Or.inr <| Or.inr <| Or.inr ⟨_, rfl, Or.inl (nk_in 663 (by decide +kernel) (by decide +kernel))⟩
theorem nk_wC113 : nk_okC (7, 27, 39) := Or.inr <| Or.inr <| Or.inr ⟨_, rfl, Or.inl (nk_in 362 (by decide +kernel) (by decide +kernel))⟩
theorem nk_wC114 : nk_okC (7, 30, 90) := Or.inr <| Or.inr <| Or.inr ⟨_, rfl, Or.inl (nk_in 711 (by decide +kernel) (by decide +kernel))⟩
theorem nk_wC115 : nk_okC (7, 31, 40) := Or.inr <| Or.inr <| Or.inr ⟨_, rfl, Or.inl (nk_in 366 (by decide +kernel) (by decide +kernel))⟩
theorem nk_wC116 : nk_okC (7, 35, 97) := Or.inr <| Or.inr <| Or.inr ⟨_, rfl, Or.inl (nk_in 715 (by decide +kernel) (by decide +kernel))⟩
theorem nk_wC117 : nk_okC (7, 36, 41) := Or.inr <| Or.inr <| Or.inr ⟨_, rfl, Or.inl (nk_in 409 (by decide +kernel) (by decide +kernel))⟩
theorem nk_wC118 : nk_okC (7, 39, 99) := Or.inr <| Or.inr <| Or.inr ⟨_, rfl, Or.inl (nk_in 749 (by decide +kernel) (by decide +kernel))⟩
theorem nk_wC119 : nk_okC (7, 40, 42) := Or.inr <| Or.inr <| Or.inr ⟨_, rfl, Or.inl (nk_in 418 (by decide +kernel) (by decide +kernel))⟩
theorem nk_wC120 : nk_okC (7, 43, 100) := Or.inr <| Or.inr <| Or.inr ⟨_, rfl, Or.inl (nk_in 760 (by decide +kernel) (by decide +kernel))⟩
theorem nk_wC121 : nk_okC (7, 44, 43) := Or.inr <| Or.inr <| Or.inr ⟨_, rfl, Or.inl (nk_in 428 (by decide +kernel) (by decide +kernel))⟩
theorem nk_wC122 : nk_okC (7, 47, 102) := Or.inr <| Or.inr <| Or.inr ⟨_, rfl, Or.inl (nk_in 765 (by decide +kernel) (by decide +kernel))⟩
theorem nk_wC123 : nk_okC (7, 48, 44) := Or.inr <| Or.inr <| Or.inr ⟨_, rfl, Or.inl (nk_in 440 (by decide +kernel) (by decide +kernel))⟩
theorem nk_wC124 : nk_okC (7, 52, 103) := Or.inr <| Or.inr <| Or.inr ⟨_, rfl, Or.inl (nk_in 773 (by decide +kernel) (by decide +kernel))⟩
theorem nk_wC125 : nk_okC (7, 53, 45) := Or.inr <| Or.inr <| Or.inr ⟨_, rfl, Or.inl (nk_in 446 (by decide +kernel) (by decide +kernel))⟩
theorem nk_wC126 : nk_okC (7, 56, 104) := Or.inr <| Or.inr <| Or.inr ⟨_, rfl, Or.inl (nk_in 778 (by decide +kernel) (by decide +kernel))⟩
theorem nk_wC127 : nk_okC (7, 57, 46) := Or.inr <| Or.inr <| Or.inr ⟨_, rfl, Or.inl (nk_in 450 (by decide +kernel) (by decide +kernel))⟩
theorem nk_wC128 : nk_okC (7, 60, 106) := Or.inr <| Or.inr <| Or.inr ⟨_, rfl, Or.inl (nk_in 782 (by decide +kernel) (by decide +kernel))⟩
theorem nk_wC129 : nk_okC (7, 61, 47) := Or.inr <| Or.inr <| Or.inr ⟨_, rfl, Or.inl (nk_in 467 (by decide +kernel) (by decide +kernel))⟩
theorem nk_wC130 : nk_okC (7, 64, 107) := Or.inr <| Or.inr <| Or.inr ⟨_, rfl, Or.inl (nk_in 794 (by decide +kernel) (by decide +kernel))⟩
theorem nk_wC131 : nk_okC (7, 65, 48) := Or.inr <| Or.inr <| Or.inr ⟨_, rfl, Or.inl (nk_in 475 (by decide +kernel) (by decide +kernel))⟩
theorem nk_wC132 : nk_okC (7, 68, 108) := Or.inr <| Or.inr <| Or.inr ⟨_, rfl, Or.inl (nk_in 798 (by decide +kernel) (by decide +kernel))⟩
theorem nk_wC133 : nk_okC (7, 69, 49) := Or.inr <| Or.inr <| Or.inr ⟨_, rfl, Or.inl (nk_in 479 (by decide +kernel) (by decide +kernel))⟩
theorem nk_wC134 : nk_okC (7, 72, 109) := Or.inr <| Or.inr <| Or.inr ⟨_, rfl, Or.inl (nk_in 802 (by decide +kernel) (by decide +kernel))⟩
theorem nk_wC135 : nk_okC (7, 73, 50) := Or.inr <| Or.inr <| Or.inr ⟨_, rfl, Or.inl (nk_in 483 (by decide +kernel) (by decide +kernel))⟩
theorem nk_wC136 : nk_okC (7, 76, 110) := Or.inr <| Or.inr <| Or.inr ⟨_, rfl, Or.inl (nk_in 806 (by decide +kernel) (by decide +kernel))⟩
theorem nk_wC137 : nk_okC (7, 77, 51) := Or.inr <| Or.inr <| Or.inr ⟨_, rfl, Or.inl (nk_in 492 (by decide +kernel) (by decide +kernel))⟩
theorem nk_wC138 : nk_okC (7, 80, 112) := Or.inr <| Or.inr <| Or.inr ⟨_, rfl, Or.inl (nk_in 814 (by decide +kernel) (by decide +kernel))⟩
theorem nk_wC139 : nk_okC (7, 81, 52) := Or.inr <| Or.inr <| Or.inr ⟨_, rfl, Or.inl (nk_in 513 (by decide +kernel) (by decide +kernel))⟩
theorem nk_wC140 : nk_okC (7, 84, 113) := Or.inr <| Or.inr <| Or.inr ⟨_, rfl, Or.inl (nk_in 822 (by decide +kernel) (by decide +kernel))⟩
theorem nk_wC141 : nk_okC (7, 85, 53) := Or.inr <| Or.inr <| Or.inr ⟨_, rfl, Or.inl (nk_in 521 (by decide +kernel) (by decide +kernel))⟩
theorem nk_wC142 : nk_okC (7, 88, 114) := Or.inr <| Or.inr <| Or.inr ⟨_, rfl, Or.inl (nk_in 826 (by decide +kernel) (by decide +kernel))⟩
theorem nk_wC143 : nk_okC (7, 89, 54) := Or.inr <| Or.inr <| Or.inr ⟨_, rfl, Or.inl (nk_in 525 (by decide +kernel) (by decide +kernel))⟩
theorem nk_wC144 : nk_okC (7, 92, 115) := Or.inr <| Or.inr <| Or.inr ⟨_, rfl, Or.inl (nk_in 830 (by decide +kernel) (by decide +kernel))⟩
theorem nk_wC145 : nk_okC (7, 93, 55) := Or.inr <| Or.inr <| Or.inr ⟨_, rfl, Or.inl (nk_in 529 (by decide +kernel) (by decide +kernel))⟩
theorem nk_wC146 : nk_okC (7, 96, 118) := Or.inr <| Or.inr <| Or.inr ⟨_, rfl, Or.inl (nk_in 834 (by decide +kernel) (by decide +kernel))⟩
theorem nk_wC147 : nk_okC (7, 97, 56) := Or.inr <| Or.inr <| Or.inr ⟨_, rfl, Or.inl (nk_in 537 (by decide +kernel) (by decide +kernel))⟩
theorem nk_wC148 : nk_okC (7, 100, 119) := Or.inr <| Or.inr <| Or.inr ⟨_, rfl, Or.inl (nk_in 847 (by decide +kernel) (by decide +kernel))⟩
theorem nk_wC149 : nk_okC (7, 101, 57) := Or.inr <| Or.inr <| Or.inr ⟨_, rfl, Or.inl (nk_in 541 (by decide +kernel) (by decide +kernel))⟩
theorem nk_wC150 : nk_okC (7, 104, 120) := Or.inr <| Or.inr <| Or.inr ⟨_, rfl, Or.inl (nk_in 851 (by decide +kernel) (by decide +kernel))⟩
theorem nk_wC151 : nk_okC (7, 105, 58) := Or.inr <| Or.inr <| Or.inr ⟨_, rfl, Or.inl (nk_in 549 (by decide +kernel) (by decide +kernel))⟩
theorem nk_wC152 : nk_okC (7, 108, 121) := Or.inr <| Or.inr <| Or.inr ⟨_, rfl, Or.inl (nk_in 855 (by decide +kernel) (by decide +kernel))⟩
theorem nk_wC153 : nk_okC (7, 109, 59) := Or.inr <| Or.inr <| Or.inr ⟨_, rfl, Or.inl (nk_in 553 (by decide +kernel) (by decide +kernel))⟩
theorem nk_wC154 : nk_okC (7, 112, 123) := Or.inr <| Or.inr <| Or.inr ⟨_, rfl, Or.inl (nk_in 859 (by decide +kernel) (by decide +kernel))⟩
theorem nk_wC155 : nk_okC (7, 113, 60) := Or.inr <| Or.inr <| Or.inr ⟨_, rfl, Or.inl (nk_in 563 (by decide +kernel) (by decide +kernel))⟩
theorem nk_wC156 : nk_okC (7, 116, 124) := Or.inr <| Or.inr <| Or.inr ⟨_, rfl, Or.inl (nk_in 867 (by decide +kernel) (by decide +kernel))⟩
theorem nk_wC157 : nk_okC (7, 117, 61) := Or.inr <| Or.inr <| Or.inr ⟨_, rfl, Or.inl (nk_in 578 (by decide +kernel) (by decide +kernel))⟩
theorem nk_wC158 : nk_okC (7, 120, 125) := Or.inr <| Or.inr <| Or.inr ⟨_, rfl, Or.inl (nk_in 872 (by decide +kernel) (by decide +kernel))⟩
set_option maxRecDepth 100000 in
theorem nk_okCs : ∀ q ∈ nk_LC, nk_okC q := List.forall_mem_cons.mpr ⟨nk_wC0, List.forall_mem_cons.mpr ⟨nk_wC1, List.forall_mem_cons.mpr ⟨nk_wC2, List.forall_mem_cons.mpr ⟨nk_wC3, List.forall_mem_cons.mpr ⟨nk_wC4, List.forall_mem_cons.mpr ⟨nk_wC5, List.forall_mem_cons.mpr ⟨nk_wC6, List.forall_mem_cons.mpr ⟨nk_wC7, List.forall_mem_cons.mpr ⟨nk_wC8, List.forall_mem_cons.mpr ⟨nk_wC9, List.forall_mem_cons.mpr ⟨nk_wC10, List.forall_mem_cons.mpr ⟨nk_wC11, List.forall_mem_cons.mpr ⟨nk_wC12, List.forall_mem_cons.mpr ⟨nk_wC13, List.forall_mem_cons.mpr ⟨nk_wC14, List.forall_mem_cons.mpr ⟨nk_wC15, List.forall_mem_cons.mpr ⟨nk_wC16, List.forall_mem_cons.mpr ⟨nk_wC17, List.forall_mem_cons.mpr ⟨nk_wC18, List.forall_mem_cons.mpr ⟨nk_wC19, List.forall_mem_cons.mpr ⟨nk_wC20, List.forall_mem_cons.mpr ⟨nk_wC21, List.forall_mem_cons.mpr ⟨nk_wC22, List.forall_mem_cons.mpr ⟨nk_wC23, List.forall_mem_cons.mpr ⟨nk_wC24, List.forall_mem_cons.mpr ⟨nk_wC25, List.forall_mem_cons.mpr ⟨nk_wC26, List.forall_mem_cons.mpr ⟨nk_wC27, List.forall_mem_cons.mpr ⟨nk_wC28, List.forall_mem_cons.mpr ⟨nk_wC29, List.forall_mem_cons.mpr ⟨nk_wC30, List.forall_mem_cons.mpr ⟨nk_wC31, List.forall_mem_cons.mpr ⟨nk_wC32, List.forall_mem_cons.mpr ⟨nk_wC33, List.forall_mem_cons.mpr ⟨nk_wC34, List.forall_mem_cons.mpr ⟨nk_wC35, List.forall_mem_cons.mpr ⟨nk_wC36, List.forall_mem_cons.mpr ⟨nk_wC37, List.forall_mem_cons.mpr ⟨nk_wC38, List.forall_mem_cons.mpr ⟨nk_wC39, List.forall_mem_cons.mpr ⟨nk_wC40, List.forall_mem_cons.mpr ⟨nk_wC41, List.forall_mem_cons.mpr ⟨nk_wC42, List.forall_mem_cons.mpr ⟨nk_wC43, List.forall_mem_cons.mpr ⟨nk_wC44, List.forall_mem_cons.mpr ⟨nk_wC45, List.forall_mem_cons.mpr ⟨nk_wC46, List.forall_mem_cons.mpr ⟨nk_wC47, List.forall_mem_cons.mpr ⟨nk_wC48, List.forall_mem_cons.mpr ⟨nk_wC49, List.forall_mem_cons.mpr ⟨nk_wC50, List.forall_mem_cons.mpr ⟨nk_wC51, List.forall_mem_cons.mpr ⟨nk_wC52, List.forall_mem_cons.mpr ⟨nk_wC53, List.forall_mem_cons.mpr ⟨nk_wC54, List.forall_mem_cons.mpr ⟨nk_wC55, List.forall_mem_cons.mpr ⟨nk_wC56, List.forall_mem_cons.mpr ⟨nk_wC57, List.forall_mem_cons.mpr ⟨nk_wC58, List.forall_mem_cons.mpr ⟨nk_wC59, List.forall_mem_cons.mpr ⟨nk_wC60, List.forall_mem_cons.mpr ⟨nk_wC61, List.forall_mem_cons.mpr ⟨nk_wC62, List.forall_mem_cons.mpr ⟨nk_wC63, List.forall_mem_cons.mpr ⟨nk_wC64, List.forall_mem_cons.mpr ⟨nk_wC65, List.forall_mem_cons.mpr ⟨nk_wC66, List.forall_mem_cons.mpr ⟨nk_wC67, List.forall_mem_cons.mpr ⟨nk_wC68, List.forall_mem_cons.mpr ⟨nk_wC69, List.forall_mem_cons.mpr ⟨nk_wC70, List.forall_mem_cons.mpr ⟨nk_wC71, List.forall_mem_cons.mpr ⟨nk_wC72, List.forall_mem_cons.mpr ⟨nk_wC73, List.forall_mem_cons.mpr ⟨nk_wC74, List.forall_mem_cons.mpr ⟨nk_wC75, List.forall_mem_cons.mpr ⟨nk_wC76, List.forall_mem_cons.mpr ⟨nk_wC77, List.forall_mem_cons.mpr ⟨nk_wC78, List.forall_mem_cons.mpr ⟨nk_wC79, List.forall_mem_cons.mpr ⟨nk_wC80, List.forall_mem_cons.mpr ⟨nk_wC81, List.forall_mem_cons.mpr ⟨nk_wC82, List.forall_mem_cons.mpr ⟨nk_wC83, List.forall_mem_cons.mpr ⟨nk_wC84, List.forall_mem_cons.mpr ⟨nk_wC85, List.forall_mem_cons.mpr ⟨nk_wC86, List.forall_mem_cons.mpr ⟨nk_wC87, List.forall_mem_cons.mpr ⟨nk_wC88, List.forall_mem_cons.mpr ⟨nk_wC89, List.forall_mem_cons.mpr ⟨nk_wC90, List.forall_mem_cons.mpr ⟨nk_wC91, List.forall_mem_cons.mpr ⟨nk_wC92, List.forall_mem_cons.mpr ⟨nk_wC93, List.forall_mem_cons.mpr ⟨nk_wC94, List.forall_mem_cons.mpr ⟨nk_wC95, List.forall_mem_cons.mpr ⟨nk_wC96, List.forall_mem_cons.mpr ⟨nk_wC97, List.forall_mem_cons.mpr ⟨nk_wC98, List.forall_mem_cons.mpr ⟨nk_wC99, List.forall_mem_cons.mpr ⟨nk_wC100, List.forall_mem_cons.mpr ⟨nk_wC101, List.forall_mem_cons.mpr ⟨nk_wC102, List.forall_mem_cons.mpr ⟨nk_wC103, List.forall_mem_cons.mpr ⟨nk_wC104, List.forall_mem_cons.mpr ⟨nk_wC105, List.forall_mem_cons.mpr ⟨nk_wC106, List.forall_mem_cons.mpr ⟨nk_wC107, List.forall_mem_cons.mpr ⟨nk_wC108, List.forall_mem_cons.mpr ⟨nk_wC109, List.forall_mem_cons.mpr ⟨nk_wC110, List.forall_mem_cons.mpr ⟨nk_wC111, List.forall_mem_cons.mpr ⟨nk_wC112, List.forall_mem_cons.mpr ⟨nk_wC113, List.forall_mem_cons.mpr ⟨nk_wC114, List.forall_mem_cons.mpr ⟨nk_wC115, List.forall_mem_cons.mpr ⟨nk_wC116, List.forall_mem_cons.mpr ⟨nk_wC117, List.forall_mem_cons.mpr ⟨nk_wC118, List.forall_mem_cons.mpr ⟨nk_wC119, List.forall_mem_cons.mpr ⟨nk_wC120, List.forall_mem_cons.mpr ⟨nk_wC121, List.forall_mem_cons.mpr ⟨nk_wC122, List.forall_mem_cons.mpr ⟨nk_wC123, List.forall_mem_cons.mpr ⟨nk_wC124, List.forall_mem_cons.mpr ⟨nk_wC125, List.forall_mem_cons.mpr ⟨nk_wC126, List.forall_mem_cons.mpr ⟨nk_wC127, List.forall_mem_cons.mpr ⟨nk_wC128, List.forall_mem_cons.mpr ⟨nk_wC129, List.forall_mem_cons.mpr ⟨nk_wC130, List.forall_mem_cons.mpr ⟨nk_wC131, List.forall_mem_cons.mpr ⟨nk_wC132, List.forall_mem_cons.mpr ⟨nk_wC133, List.forall_mem_cons.mpr ⟨nk_wC134, List.forall_mem_cons.mpr ⟨nk_wC135, List.forall_mem_cons.mpr ⟨nk_wC136, List.forall_mem_cons.mpr ⟨nk_wC137, List.forall_mem_cons.mpr ⟨nk_wC138, List.forall_mem_cons.mpr ⟨nk_wC139, List.forall_mem_cons.mpr ⟨nk_wC140, List.forall_mem_cons.mpr ⟨nk_wC141, List.forall_mem_cons.mpr ⟨nk_wC142, List.forall_mem_cons.mpr ⟨nk_wC143, List.forall_mem_cons.mpr ⟨nk_wC144, List.forall_mem_cons.mpr ⟨nk_wC145, List.forall_mem_cons.mpr ⟨nk_wC146, List.forall_mem_cons.mpr ⟨nk_wC147, List.forall_mem_cons.mpr ⟨nk_wC148, List.forall_mem_cons.mpr ⟨nk_wC149, List.forall_mem_cons.mpr ⟨nk_wC150, List.forall_mem_cons.mpr ⟨nk_wC151, List.forall_mem_cons.mpr ⟨nk_wC152, List.forall_mem_cons.mpr ⟨nk_wC153, List.forall_mem_cons.mpr ⟨nk_wC154, List.forall_mem_cons.mpr ⟨nk_wC155, List.forall_mem_cons.mpr ⟨nk_wC156, List.forall_mem_cons.mpr ⟨nk_wC157, List.forall_mem_cons.mpr ⟨nk_wC158, fun _ h => absurd h List.not_mem_nil⟩⟩⟩⟩⟩⟩⟩⟩⟩⟩⟩⟩⟩⟩⟩⟩⟩⟩⟩⟩⟩⟩⟩⟩⟩⟩⟩⟩⟩⟩⟩⟩⟩⟩⟩⟩⟩⟩⟩⟩⟩⟩⟩⟩⟩⟩⟩⟩⟩⟩⟩⟩⟩⟩⟩⟩⟩⟩⟩⟩⟩⟩⟩⟩⟩⟩⟩⟩⟩⟩⟩⟩⟩⟩⟩⟩⟩⟩⟩⟩⟩⟩⟩⟩⟩⟩⟩⟩⟩⟩⟩⟩⟩⟩⟩⟩⟩⟩⟩⟩⟩⟩⟩⟩⟩⟩⟩⟩⟩⟩⟩⟩⟩⟩⟩⟩⟩⟩⟩⟩⟩⟩⟩⟩⟩⟩⟩⟩⟩⟩⟩⟩⟩⟩⟩⟩⟩⟩⟩⟩⟩⟩⟩⟩⟩⟩⟩⟩⟩⟩⟩⟩⟩⟩⟩⟩⟩⟩⟩
