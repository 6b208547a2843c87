/-! ===== the abstract machine: a fixed skeleton of places, all data in D ===== -/
abbrev nk_D : Type := Nat → Nat → Int32
abbrev nk_L : Type := List (Option Value)
abbrev nk_S : Type := (Nat × Nat) ⊕ (List Nat ⊕ ((Nat × List (Option Nat)) ⊕ Nat))
abbrev nk_K : Type := Nat → nk_L → List Value → nk_D → Prop
abbrev nk_P : Type := Option Value → nk_D → Prop
abbrev nk_Sc : Type := Nat × (Nat → Int32)
abbrev nk_E : Type := Instr × Nat × Nat × Nat × Int32 × Int64
abbrev nk_T : Type := List (Nat × nk_E)
def nk_up (D : nk_D) (k j : Nat) (v : Int32) : nk_D := fun a b => if a = k ∧ b = j then v else D a b
def nk_cp (D : nk_D) (k0 sp k1 dp n : Nat) : nk_D := fun a b => if a = k1 ∧ dp ≤ b ∧ b < dp + n then D k0 (sp + (b - dp)) else D a b
/-- the places: 0 .. 51 the class's object, 52 .. 63 the reference's -/
def nk_scn (k : Nat) : List nk_S := [.inr (.inr (.inl (2, [some (k + 1), some (k + 2), none, none, none]))), .inl (0, 6), .inl (0, 36)]
def nk_skl : List nk_S := [
  .inr (.inr (.inl (5, [some 1, some 3, some 6, some 9, some 12, some 38, some 45, some 46, some 50]))),
  .inr (.inr (.inl (4, [some 2, none, none, none, none]))),
  .inl (0, 160),
  .inr (.inr (.inl (2, [some 4, some 5, none, none, none]))), .inl (0, 6), .inl (0, 36),
  .inr (.inr (.inl (2, [some 7, some 8, none, none, none]))), .inl (0, 6), .inl (0, 36),
  .inr (.inr (.inl (2, [some 10, some 11, none, none, none]))), .inl (0, 6), .inl (0, 36),
  .inr (.inr (.inl (0, [some 13, none, none]))),
  .inr (.inl [14, 17, 20, 23, 26, 29, 32, 35]),
  .inr (.inr (.inl (2, [some 15, some 16, none, none, none]))), .inl (0, 6), .inl (0, 36),
  .inr (.inr (.inl (2, [some 18, some 19, none, none, none]))), .inl (0, 6), .inl (0, 36),
  .inr (.inr (.inl (2, [some 21, some 22, none, none, none]))), .inl (0, 6), .inl (0, 36),
  .inr (.inr (.inl (2, [some 24, some 25, none, none, none]))), .inl (0, 6), .inl (0, 36),
  .inr (.inr (.inl (2, [some 27, some 28, none, none, none]))), .inl (0, 6), .inl (0, 36),
  .inr (.inr (.inl (2, [some 30, some 31, none, none, none]))), .inl (0, 6), .inl (0, 36),
  .inr (.inr (.inl (2, [some 33, some 34, none, none, none]))), .inl (0, 6), .inl (0, 36),
  .inr (.inr (.inl (2, [some 36, some 37, none, none, none]))), .inl (0, 6), .inl (0, 36),
  .inr (.inl [39, 42]),
  .inr (.inr (.inl (2, [some 40, some 41, none, none, none]))), .inl (0, 6), .inl (0, 36),
  .inr (.inr (.inl (2, [some 43, some 44, none, none, none]))), .inl (0, 6), .inl (0, 36),
  .inl (1, 2),
  .inr (.inr (.inl (3, [some 47, some 48, some 49, none]))), .inl (0, 6), .inl (0, 6), .inl (0, 6),
  .inr (.inr (.inl (1, [some 51]))), .inl (0, 6),
  .inr (.inr (.inl (6, [some 53, some 54, some 55, none, none, none, none, none, some 56, none, some 57, none, some 58, some 59, some 60, some 61, some 62, some 63, none]))),
  .inl (0, 44), .inl (0, 38), .inl (0, 160), .inl (0, 44), .inl (0, 304), .inl (0, 36), .inl (1, 2), .inl (0, 76), .inl (0, 6), .inl (0, 38), .inl (0, 18)]
def nk_sk (k : Nat) : nk_S := match nk_skl[k]? with
  | some c => c
  | none => .inr (.inr (.inr k))
/-- what lies outside: 1000 BEARS, 1001 OVER, 1002 the script, 1010 .. the texts, 1020 .. their bytes -/
def nk_bears : List Int32 := [1, 2, 1, 7]
def nk_over : List Int32 := [-1, 0, 1, 1, 0]
def nk_slen : List Nat := [2, 4, 6, 5, 6, 3, 4]
def nk_sbyt : List (List Int32) := [[97, 115], [114, 111, 111, 109], [115, 101, 97, 115, 111, 110], [112, 108, 97, 105, 110], [115, 109, 111, 111, 116, 104], [115, 104, 121], [104, 111, 115, 116]]
def nk_oa (S : nk_Sc) (o : Nat) : nk_Sc := if o = 1000 then (4, fun j => nk_bears.getD j 0) else if o = 1001 then (5, fun j => nk_over.getD j 0) else if o = 1002 then S else (0, fun _ => 0)
def nk_ol (S : nk_Sc) (o : Nat) : Option Nat := if o = 1000 then some 4 else if o = 1001 then some 5 else if o = 1002 then some S.1 else if 1020 ≤ o ∧ o < 1027 then some (nk_slen.getD (o - 1020) 0) else none
def nk_gsv (a : Nat) : Value := match a with
  | 0 => .ref 1000
  | 1 => .ref 1001
  | 2 => .int 1
  | _ => .null
/-- locals -/
def nk_lv (loc : nk_L) (i : Nat) : Option Value := (loc[i]?).getD none
def nk_c2 (o : Option Value) : Option Value := match o with
  | some (.long _) => none
  | some (.double _) => none
  | x => x
def nk_s1 : nk_L → Nat → Value → nk_L
  | [], _, _ => []
  | _ :: t, 0, v => some v :: t
  | x :: t, 1, v => nk_c2 x :: nk_s1 t 0 v
  | x :: t, n + 2, v => x :: nk_s1 t (n + 1) v
def nk_s2 (loc : nk_L) (i : Nat) (v : Value) : nk_L := (nk_s1 loc i v).set (i + 1) none
def nk_al : List Value → nk_L
  | [] => []
  | .long x :: t => some (.long x) :: none :: nk_al t
  | .double x :: t => some (.double x) :: none :: nk_al t
  | v :: t => some v :: nk_al t
def nk_pad (n : Nat) (l : nk_L) : nk_L := l ++ List.replicate (n - l.length) none
def nk_lk : nk_T → Nat → Option nk_E
  | [], _ => none
  | (p, r) :: t, pc => match Nat.beq p pc with
    | true => some r
    | false => nk_lk t pc
/-- the first n of a stack, in the order in which they were pushed -/
def nk_pop : Nat → List Value → List Value → Option (List Value × List Value)
  | 0, acc, st => some (acc, st)
  | _ + 1, _, [] => none
  | n + 1, acc, v :: st => nk_pop n (v :: acc) st
def nk_rv (k : Nat) (ci : Nat) : Bool := match nk_sk k with
  | .inr (.inr (.inl (c, _))) => Nat.beq c ci
  | .inr (.inr (.inr o)) => Nat.beq ci 100 && Nat.ble 1010 o && Nat.blt o 1017
  | _ => false
/-- heap rows -/
def nk_gf (k ci j : Nat) (D : nk_D) (Kv : Value → Prop) : Prop := match nk_sk k with
  | .inr (.inr (.inl (c, fl))) => match Nat.beq c ci with
    | true => match fl[j]? with
      | some (some r) => Kv (.ref r)
      | some none => Kv (.int (D k j))
      | none => False
    | false => False
  | .inr (.inr (.inr o)) => match Nat.beq ci 100 && Nat.ble 1010 o && Nat.blt o 1017 with
    | true => match j with
      | 0 => Kv (.ref (o + 10))
      | _ => Kv (.int 0)
    | false => False
  | _ => False
def nk_pf (k ci j : Nat) (Kv : Prop) : Prop := match nk_sk k with
  | .inr (.inr (.inl (c, fl))) => match Nat.beq c ci with
    | true => match fl[j]? with
      | some none => Kv
      | _ => False
    | false => False
  | _ => False
def nk_ln (S : nk_Sc) (k : Nat) (Kv : Int32 → Prop) : Prop := match nk_sk k with
  | .inl (_, n) => Kv (nI n)
  | .inr (.inr (.inr o)) => match nk_ol S o with
    | some n => Kv (nI n)
    | none => False
  | _ => False
def nk_ai (S : nk_Sc) (k : Nat) (i : Int32) (D : nk_D) (Kv : Int32 → Prop) : Prop := match nk_sk k with
  | .inl (t, n) => t = 0 ∧ ∃ j : Nat, i = nI j ∧ j < n ∧ Kv (D k j)
  | .inr (.inr (.inr o)) => ∃ j : Nat, i = nI j ∧ j < (nk_oa S o).1 ∧ Kv ((nk_oa S o).2 j)
  | _ => False
def nk_si (k t0 : Nat) (i : Int32) (Kv : Nat → Prop) : Prop := match nk_sk k with
  | .inl (t, n) => t = t0 ∧ ∃ j : Nat, i = nI j ∧ j < n ∧ Kv j
  | _ => False
def nk_ab (k : Nat) (i : Int32) (D : nk_D) (Kv : Int32 → Prop) : Prop := match nk_sk k with
  | .inl (t, n) => t = 1 ∧ ∃ j : Nat, i = nI j ∧ j < n ∧ Kv (D k j)
  | .inr (.inr (.inr o)) => (1020 ≤ o ∧ o < 1027) ∧ ∃ j : Nat, i = nI j ∧ j < nk_slen.getD (o - 1020) 0 ∧ Kv ((nk_sbyt.getD (o - 1020) []).getD j 0)
  | _ => False
def nk_aa (k : Nat) (i : Int32) (Kv : Value → Prop) : Prop := match nk_sk k with
  | .inr (.inl rs) => ∃ j r : Nat, i = nI j ∧ rs[j]? = some r ∧ Kv (.ref r)
  | _ => False
def nk_ac (k0 : Nat) (sp : Int32) (k1 : Nat) (dp n : Int32) (Kv : Nat → Nat → Nat → Prop) : Prop := match nk_sk k0, nk_sk k1 with
  | .inl (t0, n0), .inl (t1, n1) => t0 = 0 ∧ t1 = 0 ∧ ∃ a b c : Nat, sp = nI a ∧ dp = nI b ∧ n = nI c ∧ a + c ≤ n0 ∧ b + c ≤ n1 ∧ n0 < 1000 ∧ n1 < 1000 ∧ Kv a b c
  | _, _ => False
def nk_cnd (c : Jvm.ClassFile.Cond) (x y : Int32) (A B : Prop) : Prop := match c with
  | .eq => (x = y → A) ∧ (¬ x = y → B)
  | .ne => (¬ x = y → A) ∧ (x = y → B)
  | .lt => (x < y → A) ∧ (¬ x < y → B)
  | .ge => (y ≤ x → A) ∧ (¬ y ≤ x → B)
  | .gt => (y < x → A) ∧ (¬ y < x → B)
  | .le => (x ≤ y → A) ∧ (¬ x ≤ y → B)
def nk_sw (pc : Nat) (df lo hi : Int) (offs : Array Int) (x : Int32) (K : Nat → Prop) : Prop :=
  ((x.toInt < lo ∨ hi < x.toInt) → ∃ t : Nat, (pc : Int) + df = (t : Int) ∧ K t) ∧ (¬ x.toInt < lo → ¬ hi < x.toInt → ∃ (o : Int) (t : Nat), offs[(x.toInt - lo).toNat]? = some o ∧ (pc : Int) + o = (t : Int) ∧ K t)
def nk_call (call : Nat → List Value → nk_D → nk_P → Prop) (mu : Nat) (vs : List Value) (rest : List Value) (D : nk_D) (Kc : List Value → nk_D → Prop) : Prop := match Nat.ble rest.length 4 with
  | true => call mu vs D (fun r D' => Kc (r.toList ++ rest) D')
  | false => False
/-- Math.max, Math.min, System.arraycopy -/
def nk_nat (a : Nat) (stk : List Value) (D : nk_D) (Kc : List Value → nk_D → Prop) : Prop := match Nat.beq a 999 with
  | true => match stk with
    | .int n :: .int dp :: .ref k1 :: .int sp :: .ref k0 :: t => match Nat.ble t.length 4 with
      | true => nk_ac k0 sp k1 dp n (fun p q c => Kc t (nk_cp D k0 p k1 q c))
      | false => False
    | _ => False
  | false => match stk with
    | .int y :: .int x :: t => match Nat.ble t.length 4 with
      | true => match Nat.beq a 997 with
        | true => Kc (.int (if x < y then y else x) :: t) D
        | false => match Nat.beq a 998 with
          | true => Kc (.int (if y < x then y else x) :: t) D
          | false => False
      | false => False
    | _ => False
/-- one instruction -/
def nk_st (S : nk_Sc) (call : Nat → List Value → nk_D → nk_P → Prop) (r : Option FieldType) (P : nk_P) (K : nk_K) (pc : Nat) (i : Instr) (nx a b : Nat) (v : Int32) (u : Int64) (loc : nk_L) (stk : List Value) (D : nk_D) : Prop := match i with
  | .iconst _ => K nx loc (.int v :: stk) D
  | .bipush _ => K nx loc (.int v :: stk) D
  | .sipush _ => K nx loc (.int v :: stk) D
  | .ldc_w _ => K nx loc (.int v :: stk) D
  | .lconst _ => K nx loc (.long u :: stk) D
  | .ldc2_w _ => K nx loc (.long u :: stk) D
  | .ldc _ => K nx loc (.ref a :: stk) D
  | .getstatic _ => K nx loc (nk_gsv a :: stk) D
  | .iload _ => match nk_lv loc a with
    | some (.int x) => K nx loc (.int x :: stk) D
    | _ => False
  | .iload_n _ => match nk_lv loc a with
    | some (.int x) => K nx loc (.int x :: stk) D
    | _ => False
  | .lload _ => match nk_lv loc a with
    | some (.long x) => K nx loc (.long x :: stk) D
    | _ => False
  | .lload_n _ => match nk_lv loc a with
    | some (.long x) => K nx loc (.long x :: stk) D
    | _ => False
  | .aload _ => match nk_lv loc a with
    | some (.ref x) => K nx loc (.ref x :: stk) D
    | _ => False
  | .aload_n _ => match nk_lv loc a with
    | some (.ref x) => K nx loc (.ref x :: stk) D
    | _ => False
  | .istore _ => match stk with
    | .int x :: t => match Nat.blt a loc.length with
      | true => K nx (nk_s1 loc a (.int x)) t D
      | false => False
    | _ => False
  | .istore_n _ => match stk with
    | .int x :: t => match Nat.blt a loc.length with
      | true => K nx (nk_s1 loc a (.int x)) t D
      | false => False
    | _ => False
  | .lstore _ => match stk with
    | .long x :: t => match Nat.blt (a + 1) loc.length with
      | true => K nx (nk_s2 loc a (.long x)) t D
      | false => False
    | _ => False
  | .lstore_n _ => match stk with
    | .long x :: t => match Nat.blt (a + 1) loc.length with
      | true => K nx (nk_s2 loc a (.long x)) t D
      | false => False
    | _ => False
  | .iinc _ _ => match nk_lv loc a with
    | some (.int x) => match Nat.blt a loc.length with
      | true => K nx (nk_s1 loc a (.int (x + v))) stk D
      | false => False
    | _ => False
  | .iadd => match stk with
    | .int y :: .int x :: t => K nx loc (.int (x + y) :: t) D
    | _ => False
  | .isub => match stk with
    | .int y :: .int x :: t => K nx loc (.int (x - y) :: t) D
    | _ => False
  | .imul => match stk with
    | .int y :: .int x :: t => K nx loc (.int (x * y) :: t) D
    | _ => False
  | .idiv => match stk with
    | .int y :: .int x :: t => ¬ y = 0 ∧ K nx loc (.int (x / y) :: t) D
    | _ => False
  | .irem => match stk with
    | .int y :: .int x :: t => ¬ y = 0 ∧ K nx loc (.int (x - x / y * y) :: t) D
    | _ => False
  | .iand => match stk with
    | .int y :: .int x :: t => K nx loc (.int (x &&& y) :: t) D
    | _ => False
  | .ior => match stk with
    | .int y :: .int x :: t => K nx loc (.int (x ||| y) :: t) D
    | _ => False
  | .ixor => match stk with
    | .int y :: .int x :: t => K nx loc (.int (x ^^^ y) :: t) D
    | _ => False
  | .ishl => match stk with
    | .int y :: .int x :: t => K nx loc (.int (x <<< (y &&& 31)) :: t) D
    | _ => False
  | .ishr => match stk with
    | .int y :: .int x :: t => K nx loc (.int (x >>> (y &&& 31)) :: t) D
    | _ => False
  | .iushr => match stk with
    | .int y :: .int x :: t => K nx loc (.int (x.toUInt32 >>> (y.toUInt32 &&& Int32.toUInt32 31)).toInt32 :: t) D
    | _ => False
  | .i2l => match stk with
    | .int x :: t => K nx loc (.long x.toInt64 :: t) D
    | _ => False
  | .i2c => match stk with
    | .int x :: t => K nx loc (.int (x.toUInt32 % 65536).toInt32 :: t) D
    | _ => False
  | .ladd => match stk with
    | .long y :: .long x :: t => K nx loc (.long (x + y) :: t) D
    | _ => False
  | .lsub => match stk with
    | .long y :: .long x :: t => K nx loc (.long (x - y) :: t) D
    | _ => False
  | .lmul => match stk with
    | .long y :: .long x :: t => K nx loc (.long (x * y) :: t) D
    | _ => False
  | .lcmp => match stk with
    | .long y :: .long x :: t => K nx loc (.int (lg_cmp x y) :: t) D
    | _ => False
  | .ifCond c _ => match stk with
    | .int x :: t => nk_cnd c x (nI 0) (K a loc t D) (K nx loc t D)
    | _ => False
  | .if_icmp c _ => match stk with
    | .int y :: .int x :: t => nk_cnd c x y (K a loc t D) (K nx loc t D)
    | _ => False
  | .ifnonnull _ => match stk with
    | .ref _ :: t => K a loc t D
    | _ => False
  | .goto _ => K a loc stk D
  | .tableswitch df lo hi offs => match stk with
    | .int x :: t => nk_sw pc df lo hi offs x (fun q => K q loc t D)
    | _ => False
  | .dup => match stk with
    | .int x :: t => K nx loc (.int x :: .int x :: t) D
    | .ref x :: t => K nx loc (.ref x :: .ref x :: t) D
    | _ => False
  | .dup2 => match stk with
    | .int y :: .ref x :: t => K nx loc (.int y :: .ref x :: .int y :: .ref x :: t) D
    | _ => False
  | .pop => match stk with
    | .int _ :: t => K nx loc t D
    | _ => False
  | .getfield _ => match stk with
    | .ref k :: t => nk_gf k a b D (fun x => K nx loc (x :: t) D)
    | _ => False
  | .putfield _ => match stk with
    | .int x :: .ref k :: t => nk_pf k a b (K nx loc t (nk_up D k b x))
    | _ => False
  | .arraylength => match stk with
    | .ref k :: t => nk_ln S k (fun x => K nx loc (.int x :: t) D)
    | _ => False
  | .iaload => match stk with
    | .int i :: .ref k :: t => nk_ai S k i D (fun x => K nx loc (.int x :: t) D)
    | _ => False
  | .iastore => match stk with
    | .int x :: .int i :: .ref k :: t => nk_si k 0 i (fun j => K nx loc t (nk_up D k j x))
    | _ => False
  | .baload => match stk with
    | .int i :: .ref k :: t => nk_ab k i D (fun x => K nx loc (.int x :: t) D)
    | _ => False
  | .bastore => match stk with
    | .int x :: .int i :: .ref k :: t => nk_si k 1 i (fun j => K nx loc t (nk_up D k j (x &&& 1)))
    | _ => False
  | .aaload => match stk with
    | .int i :: .ref k :: t => nk_aa k i (fun x => K nx loc (x :: t) D)
    | _ => False
  | .invokevirtual _ => match nk_pop (b % 16) [] stk with
    | some (.ref k :: vs, t) => match nk_rv k (b / 16) with
      | true => nk_call call a (.ref k :: vs) t D (fun st D' => K nx loc st D')
      | false => False
    | _ => False
  | .invokestatic _ => match Nat.ble 997 a with
    | true => nk_nat a stk D (fun st D' => K nx loc st D')
    | false => match nk_pop b [] stk with
      | some (vs, t) => nk_call call a vs t D (fun st D' => K nx loc st D')
      | none => False
  | .ireturn => match stk with
    | [.int x] => match r with
      | some ty => narrow ty (.int x) = .int x ∧ P (some (.int x)) D
      | none => False
    | _ => False
  | .lreturn => match stk with
    | [.long x] => r = some .long ∧ P (some (.long x)) D
    | _ => False
  | .return_ => match stk with
    | [] => r = none ∧ P none D
    | _ => False
  | _ => False
def nk_step (S : nk_Sc) (call : Nat → List Value → nk_D → nk_P → Prop) (T : nk_T) (r : Option FieldType) (P : nk_P) (K : nk_K) (pc : Nat) (loc : nk_L) (stk : List Value) (D : nk_D) : Prop := match nk_lk T pc with
  | some (i, nx, a, b, v, u) => nk_st S call r P K pc i nx a b v u loc stk D
  | none => False
def nk_ex (S : nk_Sc) (call : Nat → List Value → nk_D → nk_P → Prop) (T : nk_T) (r : Option FieldType) (P : nk_P) (pc : Nat) (loc : nk_L) (stk : List Value) (D : nk_D) : Prop :=
  ∀ K : nk_K, (∀ pc loc stk D, nk_step S call T r P K pc loc stk D → K pc loc stk D) → K pc loc stk D
