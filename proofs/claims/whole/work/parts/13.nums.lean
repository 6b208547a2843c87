/-! ===== numbers and branches ===== -/
def bI (b : Bool) : Int32 := nI b.toNat
theorem nk_bne {b : Bool} {A B : Prop} (f : b = true → A) (g : b = false → B) : (¬ bI b = nI 0 → A) ∧ (bI b = nI 0 → B) := by
  cases b
  · exact ⟨fun h => absurd rfl h, fun _ => g rfl⟩
  · exact ⟨fun _ => f rfl, fun h => absurd h (by decide)⟩
theorem nk_beq {b : Bool} {A B : Prop} (f : b = false → A) (g : b = true → B) : (bI b = nI 0 → A) ∧ (¬ bI b = nI 0 → B) := by
  cases b
  · exact ⟨fun _ => f rfl, fun h => absurd rfl h⟩
  · exact ⟨fun h => absurd h (by decide), fun _ => g rfl⟩
theorem nk_lt {a b : Nat} {A B : Prop} (ha : a < 2 ^ 31) (hb : b < 2 ^ 31) (f : a < b → A) (g : b ≤ a → B) : (nI a < nI b → A) ∧ (¬ nI a < nI b → B) := by
  rw [nI_ltI ha hb]
  exact ⟨f, fun h => g (Nat.le_of_not_lt h)⟩
theorem nk_ge {a b : Nat} {A B : Prop} (ha : a < 2 ^ 31) (hb : b < 2 ^ 31) (f : b ≤ a → A) (g : a < b → B) : (nI b ≤ nI a → A) ∧ (¬ nI b ≤ nI a → B) := by
  rw [nI_leI hb ha]
  exact ⟨f, fun h => g (Nat.lt_of_not_le h)⟩
theorem nk_gt {a b : Nat} {A B : Prop} (ha : a < 2 ^ 31) (hb : b < 2 ^ 31) (f : b < a → A) (g : a ≤ b → B) : (nI b < nI a → A) ∧ (¬ nI b < nI a → B) := nk_lt hb ha f g
theorem nk_le {a b : Nat} {A B : Prop} (ha : a < 2 ^ 31) (hb : b < 2 ^ 31) (f : a ≤ b → A) (g : b < a → B) : (nI a ≤ nI b → A) ∧ (¬ nI a ≤ nI b → B) := nk_ge hb ha f g
theorem nk_eq {a b : Nat} {A B : Prop} (ha : a < 2 ^ 31) (hb : b < 2 ^ 31) (f : a = b → A) (g : a ≠ b → B) : (nI a = nI b → A) ∧ (¬ nI a = nI b → B) := by
  rw [nI_eq ha hb]
  exact ⟨f, g⟩
theorem nk_ne {a b : Nat} {A B : Prop} (ha : a < 2 ^ 31) (hb : b < 2 ^ 31) (f : a ≠ b → A) (g : a = b → B) : (¬ nI a = nI b → A) ∧ (nI a = nI b → B) := by
  rw [nI_eq ha hb]
  exact ⟨f, g⟩
theorem nk_mul (a b : Nat) : nI a * nI b = nI (a * b) := pk_mul a b
theorem nk_add (a b : Nat) : nI a + nI b = nI (a + b) := nI_add a b
theorem nk_sub {a b : Nat} (h : b ≤ a) : nI a - nI b = nI (a - b) := pk_sub h
theorem nk_ix (a b c : Nat) : nI a * nI b + nI c = nI (a * b + c) := by rw [nk_mul, nk_add]
theorem nk_smod : ∀ p : Fin 32, ((nI p.val &&& 31).toBitVec.smod 32).toNat = p.val := by decide +kernel
theorem nk_shr {c p : Nat} (hc : c < 2 ^ 31) (hp : p < 32) : nI c >>> (nI p &&& 31) = nI (c / 2 ^ p) := pk_shrN hc _ p (nk_smod ⟨p, hp⟩)
theorem nk_shl {c p : Nat} (hp : p < 32) (hc : c * 2 ^ p < 2 ^ 32) : nI c <<< (nI p &&& 31) = nI (c * 2 ^ p) := pk_shlN _ p (nk_smod ⟨p, hp⟩) hc
theorem nk_and1 {c : Nat} (hc : c < 2 ^ 31) : nI c &&& nI 1 = nI (c % 2) := pk_andN (by omega) 1 rfl
theorem nk_bit {c p : Nat} (hc : c < 2 ^ 31) (hp : p < 32) : (nI c >>> (nI p &&& 31)) &&& nI 1 = bI (c.testBit p) := by
  rw [nk_shr hc hp, nk_and1 (Nat.lt_of_le_of_lt (Nat.div_le_self _ _) hc)]
  unfold bI
  rw [Nat.testBit_eq_decide_div_mod_eq]
  have : c / 2 ^ p % 2 < 2 := Nat.mod_lt _ (by decide)
  rcases (show c / 2 ^ p % 2 = 0 ∨ c / 2 ^ p % 2 = 1 by omega) with h | h <;> rw [h] <;> rfl
theorem nk_one {p : Nat} (hp : p < 32) : nI 1 <<< (nI p &&& 31) = nI (2 ^ p) := by
  have h2 : 2 ^ p < 2 ^ 32 := Nat.pow_lt_pow_right (by decide) hp
  rw [nk_shl hp (by omega), Nat.one_mul]
theorem nk_or (a b : Nat) : nI a ||| nI b = nI (a ||| b) := by
  apply Int32.toBitVec_inj.mp
  show BitVec.ofNat 32 a ||| BitVec.ofNat 32 b = BitVec.ofNat 32 (a ||| b)
  rw [BitVec.ofNat_or]
theorem nk_and (a b : Nat) : nI a &&& nI b = nI (a &&& b) := by
  apply Int32.toBitVec_inj.mp
  show BitVec.ofNat 32 a &&& BitVec.ofNat 32 b = BitVec.ofNat 32 (a &&& b)
  rw [BitVec.ofNat_and]
theorem nk_xor (a b : Nat) : nI a ^^^ nI b = nI (a ^^^ b) := by
  apply Int32.toBitVec_inj.mp
  show BitVec.ofNat 32 a ^^^ BitVec.ofNat 32 b = BitVec.ofNat 32 (a ^^^ b)
  rw [BitVec.ofNat_xor]
theorem nk_narB (b : Bool) : narrow .boolean (.int (bI b)) = .int (bI b) := by cases b <;> rfl
