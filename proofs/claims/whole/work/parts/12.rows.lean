/-! ===== rows for runs ===== -/
theorem nk_go {S : nk_Sc} {d mu : Nat} {vs : List Value} {D : nk_D} {P : nk_P} {M : nk_M} (hM : nk_ms[mu]? = some M) (hn : vs.length = nk_na M) (hl : (nk_al vs).length ≤ M.2.2.2.1) (h : ∀ K : nk_K, (∀ pc loc stk D, nk_step S (nk_run S d) M.2.2.2.2.2.2.2 M.2.2.2.2.1 P K pc loc stk D → K pc loc stk D) → K 0 (nk_pad M.2.2.2.1 (nk_al vs)) [] D) : nk_run S (d + 1) mu vs D P := by
  rw [nk_run, hM]
  exact ⟨⟨hn, hl⟩, h⟩
theorem nk_gfI {k ci j : Nat} {fl : List (Option Nat)} {D : nk_D} {Kv : Value → Prop} (hk : nk_sk k = .inr (.inr (.inl (ci, fl)))) (hj : fl[j]? = some none) (h : Kv (.int (D k j))) : nk_gf k ci j D Kv := by
  unfold nk_gf
  simp only [hk, Nat.beq_refl, hj]
  exact h
theorem nk_gfR {k ci j r : Nat} {fl : List (Option Nat)} {D : nk_D} {Kv : Value → Prop} (hk : nk_sk k = .inr (.inr (.inl (ci, fl)))) (hj : fl[j]? = some (some r)) (h : Kv (.ref r)) : nk_gf k ci j D Kv := by
  unfold nk_gf
  simp only [hk, Nat.beq_refl, hj]
  exact h
theorem nk_pfI {k ci j : Nat} {fl : List (Option Nat)} {Kv : Prop} (hk : nk_sk k = .inr (.inr (.inl (ci, fl)))) (hj : fl[j]? = some none) (h : Kv) : nk_pf k ci j Kv := by
  unfold nk_pf
  simp only [hk, Nat.beq_refl, hj]
  exact h
theorem nk_rvI {k ci : Nat} {fl : List (Option Nat)} (hk : nk_sk k = .inr (.inr (.inl (ci, fl)))) : nk_rv k ci = true := by
  unfold nk_rv
  simp only [hk, Nat.beq_refl]
theorem nk_aiI {S : nk_Sc} {k n j : Nat} {i : Int32} {D : nk_D} {Kv : Int32 → Prop} (hk : nk_sk k = .inl (0, n)) (hi : i = nI j) (hj : j < n) (h : Kv (D k j)) : nk_ai S k i D Kv := by
  unfold nk_ai
  simp only [hk]
  exact ⟨trivial, j, hi, hj, h⟩
theorem nk_aiO {S : nk_Sc} {k o j : Nat} {i : Int32} {D : nk_D} {Kv : Int32 → Prop} (hk : nk_sk k = .inr (.inr (.inr o))) (hi : i = nI j) (hj : j < (nk_oa S o).1) (h : Kv ((nk_oa S o).2 j)) : nk_ai S k i D Kv := by
  unfold nk_ai
  simp only [hk]
  exact ⟨j, hi, hj, h⟩
theorem nk_siI {k t n j : Nat} {i : Int32} {Kv : Nat → Prop} (hk : nk_sk k = .inl (t, n)) (hi : i = nI j) (hj : j < n) (h : Kv j) : nk_si k t i Kv := by
  unfold nk_si
  simp only [hk]
  exact ⟨trivial, j, hi, hj, h⟩
theorem nk_abI {k n j : Nat} {i : Int32} {D : nk_D} {Kv : Int32 → Prop} (hk : nk_sk k = .inl (1, n)) (hi : i = nI j) (hj : j < n) (h : Kv (D k j)) : nk_ab k i D Kv := by
  unfold nk_ab
  simp only [hk]
  exact ⟨trivial, j, hi, hj, h⟩
theorem nk_aaI {k j r : Nat} {i : Int32} {rs : List Nat} {Kv : Value → Prop} (hk : nk_sk k = .inr (.inl rs)) (hi : i = nI j) (hj : rs[j]? = some r) (h : Kv (.ref r)) : nk_aa k i Kv := by
  unfold nk_aa
  simp only [hk]
  exact ⟨j, r, hi, hj, h⟩
theorem nk_lnI {S : nk_Sc} {k t n : Nat} {Kv : Int32 → Prop} (hk : nk_sk k = .inl (t, n)) (h : Kv (nI n)) : nk_ln S k Kv := by
  unfold nk_ln
  simp only [hk]
  exact h
theorem nk_acI {k0 k1 n0 n1 a b q : Nat} {sp dp n : Int32} {Kv : Nat → Nat → Nat → Prop} (hk0 : nk_sk k0 = .inl (0, n0)) (hk1 : nk_sk k1 = .inl (0, n1)) (h1 : sp = nI a) (h2 : dp = nI b) (h3 : n = nI q) (h4 : a + q ≤ n0) (h5 : b + q ≤ n1) (h6 : n0 < 1000) (h7 : n1 < 1000) (h : Kv a b q) : nk_ac k0 sp k1 dp n Kv := by
  unfold nk_ac
  simp only [hk0, hk1]
  exact ⟨trivial, trivial, a, b, q, h1, h2, h3, h4, h5, h6, h7, h⟩
theorem nk_stV {S : nk_Sc} {d : Nat} {T : nk_T} {r : Option FieldType} {P : nk_P} {K : nk_K} {pc n nx mu b k : Nat} {v : Int32} {u : Int64} {loc : nk_L} {stk vs t : List Value} {D : nk_D} (he : nk_lk T pc = some (.invokevirtual n, nx, mu, b, v, u)) (hp : nk_pop (b % 16) [] stk = some (.ref k :: vs, t)) (hr : nk_rv k (b / 16) = true) (ht : Nat.ble t.length 4 = true)
    (h : nk_run S d mu (.ref k :: vs) D (fun r D' => K nx loc (r.toList ++ t) D')) : nk_step S (nk_run S d) T r P K pc loc stk D := by
  unfold nk_step
  simp only [he, nk_st, hp, hr, nk_call, ht]
  exact h
theorem nk_stS {S : nk_Sc} {d : Nat} {T : nk_T} {r : Option FieldType} {P : nk_P} {K : nk_K} {pc n nx mu b : Nat} {v : Int32} {u : Int64} {loc : nk_L} {stk vs t : List Value} {D : nk_D} (he : nk_lk T pc = some (.invokestatic n, nx, mu, b, v, u)) (ha : Nat.ble 997 mu = false) (hp : nk_pop b [] stk = some (vs, t)) (ht : Nat.ble t.length 4 = true)
    (h : nk_run S d mu vs D (fun r D' => K nx loc (r.toList ++ t) D')) : nk_step S (nk_run S d) T r P K pc loc stk D := by
  unfold nk_step
  simp only [he, nk_st, ha, hp, nk_call, ht]
  exact h
theorem nk_bt {c A B : Prop} (h : c) (a : A) : (c → A) ∧ (¬ c → B) := ⟨fun _ => a, fun q => absurd h q⟩
theorem nk_bf {c A B : Prop} (h : ¬ c) (b : B) : (c → A) ∧ (¬ c → B) := ⟨fun q => absurd q h, fun _ => b⟩
theorem nk_nt {c A B : Prop} (h : ¬ c) (a : A) : (¬ c → A) ∧ (c → B) := ⟨fun _ => a, fun q => absurd q h⟩
theorem nk_nf {c A B : Prop} (h : c) (b : B) : (¬ c → A) ∧ (c → B) := ⟨fun q => absurd h q, fun _ => b⟩
/-- a scene's places -/
def nk_isS (k : Nat) : Prop := nk_sk k = .inr (.inr (.inl (2, [some (k + 1), some (k + 2), none, none, none]))) ∧ nk_sk (k + 1) = .inl (0, 6) ∧ nk_sk (k + 2) = .inl (0, 36)
section NKR
variable {S : nk_Sc} {call : Nat → List Value → nk_D → nk_P → Prop} {T : nk_T} {r : Option FieldType} {P : nk_P} {K : nk_K} {pc n nx a b : Nat} {v : Int32} {u : Int64} {loc : nk_L} {t : List Value} {D : nk_D}
theorem nk_GI {k : Nat} {fl : List (Option Nat)} (he : nk_lk T pc = some (.getfield n, nx, a, b, v, u)) (hk : nk_sk k = .inr (.inr (.inl (a, fl)))) (hj : fl[b]? = some none) (h : K nx loc (.int (D k b) :: t) D) : nk_step S call T r P K pc loc (.ref k :: t) D := by
  unfold nk_step
  simp only [he, nk_st]
  exact nk_gfI hk hj h
theorem nk_GR {k q : Nat} {fl : List (Option Nat)} (he : nk_lk T pc = some (.getfield n, nx, a, b, v, u)) (hk : nk_sk k = .inr (.inr (.inl (a, fl)))) (hj : fl[b]? = some (some q)) (h : K nx loc (.ref q :: t) D) : nk_step S call T r P K pc loc (.ref k :: t) D := by
  unfold nk_step
  simp only [he, nk_st]
  exact nk_gfR hk hj h
theorem nk_PI {k : Nat} {x : Int32} {fl : List (Option Nat)} (he : nk_lk T pc = some (.putfield n, nx, a, b, v, u)) (hk : nk_sk k = .inr (.inr (.inl (a, fl)))) (hj : fl[b]? = some none) (h : K nx loc t (nk_up D k b x)) : nk_step S call T r P K pc loc (.int x :: .ref k :: t) D := by
  unfold nk_step
  simp only [he, nk_st]
  exact nk_pfI hk hj h
theorem nk_AL {k m j : Nat} {i : Int32} (he : nk_lk T pc = some (.iaload, nx, a, b, v, u)) (hk : nk_sk k = .inl (0, m)) (hi : i = nI j) (hj : j < m) (h : K nx loc (.int (D k j) :: t) D) : nk_step S call T r P K pc loc (.int i :: .ref k :: t) D := by
  unfold nk_step
  simp only [he, nk_st]
  exact nk_aiI hk hi hj h
theorem nk_AO {k o j : Nat} {i : Int32} (he : nk_lk T pc = some (.iaload, nx, a, b, v, u)) (hk : nk_sk k = .inr (.inr (.inr o))) (hi : i = nI j) (hj : j < (nk_oa S o).1) (h : K nx loc (.int ((nk_oa S o).2 j) :: t) D) : nk_step S call T r P K pc loc (.int i :: .ref k :: t) D := by
  unfold nk_step
  simp only [he, nk_st]
  exact nk_aiO hk hi hj h
theorem nk_AS {k m j : Nat} {i x : Int32} (he : nk_lk T pc = some (.iastore, nx, a, b, v, u)) (hk : nk_sk k = .inl (0, m)) (hi : i = nI j) (hj : j < m) (h : K nx loc t (nk_up D k j x)) : nk_step S call T r P K pc loc (.int x :: .int i :: .ref k :: t) D := by
  unfold nk_step
  simp only [he, nk_st]
  exact nk_siI hk hi hj h
theorem nk_BS {k m j : Nat} {i x : Int32} (he : nk_lk T pc = some (.bastore, nx, a, b, v, u)) (hk : nk_sk k = .inl (1, m)) (hi : i = nI j) (hj : j < m) (h : K nx loc t (nk_up D k j (x &&& 1))) : nk_step S call T r P K pc loc (.int x :: .int i :: .ref k :: t) D := by
  unfold nk_step
  simp only [he, nk_st]
  exact nk_siI hk hi hj h
theorem nk_BL {k m j : Nat} {i : Int32} (he : nk_lk T pc = some (.baload, nx, a, b, v, u)) (hk : nk_sk k = .inl (1, m)) (hi : i = nI j) (hj : j < m) (h : K nx loc (.int (D k j) :: t) D) : nk_step S call T r P K pc loc (.int i :: .ref k :: t) D := by
  unfold nk_step
  simp only [he, nk_st]
  exact nk_abI hk hi hj h
theorem nk_RL {k j q : Nat} {i : Int32} {rs : List Nat} (he : nk_lk T pc = some (.aaload, nx, a, b, v, u)) (hk : nk_sk k = .inr (.inl rs)) (hi : i = nI j) (hj : rs[j]? = some q) (h : K nx loc (.ref q :: t) D) : nk_step S call T r P K pc loc (.int i :: .ref k :: t) D := by
  unfold nk_step
  simp only [he, nk_st]
  exact nk_aaI hk hi hj h
theorem nk_LN {k m q : Nat} (he : nk_lk T pc = some (.arraylength, nx, a, b, v, u)) (hk : nk_sk k = .inl (q, m)) (h : K nx loc (.int (nI m) :: t) D) : nk_step S call T r P K pc loc (.ref k :: t) D := by
  unfold nk_step
  simp only [he, nk_st]
  exact nk_lnI hk h
theorem nk_LO {k m : Nat} (he : nk_lk T pc = some (.arraylength, nx, a, b, v, u)) (hk : nk_sk k = .inr (.inr (.inr k))) (hm : nk_ol S k = some m) (h : K nx loc (.int (nI m) :: t) D) : nk_step S call T r P K pc loc (.ref k :: t) D := by
  unfold nk_step
  simp only [he, nk_st, nk_ln, hk, hm]
  exact h
theorem nk_CP {k0 k1 n0 n1 p q c : Nat} {sp dp m : Int32} (he : nk_lk T pc = some (.invokestatic n, nx, 999, b, v, u)) (hk0 : nk_sk k0 = .inl (0, n0)) (hk1 : nk_sk k1 = .inl (0, n1)) (h1 : sp = nI p) (h2 : dp = nI q) (h3 : m = nI c) (h4 : p + c ≤ n0) (h5 : q + c ≤ n1) (h6 : n0 < 1000) (h7 : n1 < 1000) (ht : Nat.ble t.length 4 = true) (h : K nx loc t (nk_cp D k0 p k1 q c)) : nk_step S call T r P K pc loc (.int m :: .int dp :: .ref k1 :: .int sp :: .ref k0 :: t) D := by
  unfold nk_step
  simp only [he, nk_st, show Nat.ble 997 999 = true from rfl, nk_nat, show Nat.beq 999 999 = true from rfl, ht]
  exact nk_acI hk0 hk1 h1 h2 h3 h4 h5 h6 h7 h
theorem nk_SW {x : Int32} {df lo hi : Int} {offs : Array Int} {o : Int} {q : Nat} (he : nk_lk T pc = some (.tableswitch df lo hi offs, nx, a, b, v, u)) (h1 : ¬ x.toInt < lo) (h2 : ¬ hi < x.toInt) (ho : offs[(x.toInt - lo).toNat]? = some o) (hq : (pc : Int) + o = (q : Int)) (h : K q loc t D) : nk_step S call T r P K pc loc (.int x :: t) D := by
  unfold nk_step
  simp only [he, nk_st]
  exact ⟨fun z => absurd z (by omega), fun _ _ => ⟨o, q, ho, hq, h⟩⟩
theorem nk_SD {x : Int32} {df lo hi : Int} {offs : Array Int} {q : Nat} (he : nk_lk T pc = some (.tableswitch df lo hi offs, nx, a, b, v, u)) (h1 : x.toInt < lo ∨ hi < x.toInt) (hq : (pc : Int) + df = (q : Int)) (h : K q loc t D) : nk_step S call T r P K pc loc (.int x :: t) D := by
  unfold nk_step
  simp only [he, nk_st]
  exact ⟨fun _ => ⟨q, hq, h⟩, fun z1 z2 => absurd h1 (by omega)⟩
end NKR
