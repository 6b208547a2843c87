/-! ===== what one must be: pure functions ===== -/
def mbU (r : Nat → Nat → Nat) (c p : Nat) : Nat → Nat
  | 0 => 0
  | j + 1 => mbU r c p j ||| (if c.testBit j = true ∧ r p j ≠ 0 then 2 ^ (r p j) else 0)
def mb (n : Nat) (r : Nat → Nat → Nat) (c p : Nat) : Nat := if c.testBit p = true then mbU r c p n else 0
def pcn (c : Nat) : Nat := (c.testBit 0).toNat + (c.testBit 1).toNat + (c.testBit 2).toNat + (c.testBit 3).toNat + (c.testBit 4).toNat + (c.testBit 5).toNat + (c.testBit 6).toNat + (c.testBit 7).toNat
def ber (k : Nat) : Nat := [1, 2, 1, 7].getD k 0
def two (n : Nat) (ka : Nat → Nat) (r : Nat → Nat → Nat) (c p : Nat) : Bool := decide (ber (ka p) < pcn (mb n r c p))
def twU (n : Nat) (ka : Nat → Nat) (r : Nat → Nat → Nat) (c : Nat) : Nat → Nat
  | 0 => 0
  | j + 1 => twU n ka r c j ||| (if two n ka r c j = true then 2 ^ j else 0)
def tw (n : Nat) (ka : Nat → Nat) (r : Nat → Nat → Nat) (c : Nat) : Nat := twU n ka r c n
theorem nk_p256 {a : Nat} (h : a ≤ 7) : 2 ^ a < 256 := Nat.lt_of_le_of_lt (Nat.pow_le_pow_right (by decide) h) (by decide)
theorem mbU_lt {r : Nat → Nat → Nat} {c p : Nat} : ∀ j, (∀ q, q < j → r p q ≤ 7) → mbU r c p j < 256
  | 0, _ => by simp [mbU]
  | j + 1, h => by
    have ih := mbU_lt (r := r) (c := c) (p := p) j (fun q hq => h q (by omega))
    rw [mbU]
    refine Nat.or_lt_two_pow (n := 8) ih ?_
    split
    · exact nk_p256 (h j (by omega))
    · decide
theorem mb_lt {n : Nat} {r : Nat → Nat → Nat} {c p : Nat} (h : ∀ q, q < n → r p q ≤ 7) : mb n r c p < 256 := by
  unfold mb
  split
  · exact mbU_lt n h
  · decide
theorem pcn_le (c : Nat) : pcn c ≤ 8 := by
  have h : ∀ b : Bool, b.toNat ≤ 1 := by decide
  unfold pcn
  have := h (c.testBit 0); have := h (c.testBit 1); have := h (c.testBit 2); have := h (c.testBit 3); have := h (c.testBit 4); have := h (c.testBit 5); have := h (c.testBit 6); have := h (c.testBit 7)
  omega
theorem twU_lt {n : Nat} {ka : Nat → Nat} {r : Nat → Nat → Nat} {c : Nat} : ∀ j, j ≤ 6 → twU n ka r c j < 64
  | 0, _ => by simp [twU]
  | j + 1, h => by
    rw [twU]
    refine Nat.or_lt_two_pow (n := 6) (twU_lt j (by omega)) ?_
    split
    · exact Nat.pow_lt_pow_right (by decide) (by omega)
    · decide
theorem nk_bc256 : ∀ c : Fin 256, (let x := nI c.val; let a := x - ((x.toUInt32 >>> ((nI 1).toUInt32 &&& Int32.toUInt32 31)).toInt32 &&& nI 1431655765); let b := (a &&& nI 858993459) + ((a.toUInt32 >>> ((nI 2).toUInt32 &&& Int32.toUInt32 31)).toInt32 &&& nI 858993459); let c2 := (b + (b.toUInt32 >>> ((nI 4).toUInt32 &&& Int32.toUInt32 31)).toInt32) &&& nI 252645135; let d := c2 + (c2.toUInt32 >>> ((nI 8).toUInt32 &&& Int32.toUInt32 31)).toInt32; let e := d + (d.toUInt32 >>> ((nI 16).toUInt32 &&& Int32.toUInt32 31)).toInt32; e &&& nI 63) = nI (pcn c.val) := by decide +kernel
/-- the scene at the place k -/
def XS (D : nk_D) (k n : Nat) (ka : Nat → Nat) (r : Nat → Nat → Nat) : Prop := n ≤ 6 ∧ D k 2 = nI n ∧ (∀ p, p < n → D (k + 1) p = nI (ka p) ∧ ka p ≤ 3) ∧ ∀ p q, p < n → q < n → D (k + 2) (p * 6 + q) = nI (r p q) ∧ r p q ≤ 7
/-- a number of the caller's is one of 0 .. n - 1 -/
def vld (n : Nat) (x : Int32) : Bool := decide (0 ≤ x.toInt ∧ x.toInt < n)
theorem vld_of {n : Nat} {x : Int32} (hn : n < 2 ^ 31) (h : vld n x = true) : ∃ j, j < n ∧ x = nI j := by
  unfold vld at h
  rw [decide_eq_true_eq] at h
  exact vp_in_of (vp_in_iff.mpr h) hn
theorem vld_nI {n j : Nat} (hn : n < 2 ^ 31) (h : j < n) : vld n (nI j) = true := by
  unfold vld
  rw [nI_toInt (by omega)]
  simp [h]
theorem vld_no {n : Nat} {x : Int32} (hn : n < 2 ^ 31) (h : vld n x = false) : x < nI 0 ∨ (¬ x < nI 0 ∧ nI n ≤ x) := by
  unfold vld at h
  rw [decide_eq_false_iff_not] at h
  rw [Int32.lt_iff_toInt_lt, Int32.le_iff_toInt_le, nI_toInt hn, nI_toInt (show 0 < 2 ^ 31 by decide)]
  omega
