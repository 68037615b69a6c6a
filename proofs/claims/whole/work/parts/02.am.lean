/-! An abstract machine of our own over numbered places: ints are integers that are held to their range, a reference is (kind, index).
A block is a list of instructions with their operands resolved by our own program: '.invokeinterface c j' reads field j of an object of kind c, '.multianewarray c j' writes it,
'.iconst' and '.jsr_w' push an int and a long, '.goto_w t' falls through to t, '.new e' throws a new exception e, '.invokedynamic k' is a call of the JDK's, '.freturn' and '.dreturn' return a boolean and a char. -/
abbrev am_I : Type := Jvm.ClassFile.Instr
abbrev am_V : Type := Int ⊕ (Int64 ⊕ (Nat × Nat))
abbrev am_i (x : Int) : am_V := .inl x
abbrev am_l (x : Int64) : am_V := .inr (.inl x)
abbrev am_r (k i : Nat) : am_V := .inr (.inr (k, i))
abbrev am_j : am_V := .inr (.inr (0, 0))
abbrev am_S : Type := (Nat → Nat → Nat → Int) × (Nat → Nat → Int64) × (Nat → Nat) × Nat
abbrev am_O : Type := Option am_V ⊕ Nat
abbrev am_Q : Type := am_O → am_S → Prop
def am_rg (x : Int) : Prop := -2147483648 ≤ x ∧ x ≤ 2147483647
def am_rgb (x : Int) : Bool := decide (-2147483648 ≤ x ∧ x ≤ 2147483647)
def am_and (x y : Int) : Int := (Int32.ofInt x &&& Int32.ofInt y).toInt
def am_or (x y : Int) : Int := (Int32.ofInt x ||| Int32.ofInt y).toInt
def am_xor (x y : Int) : Int := (Int32.ofInt x ^^^ Int32.ofInt y).toInt
def am_shl (x y : Int) : Int := (Int32.ofInt x <<< (Int32.ofInt y &&& 31)).toInt
def am_shr (x y : Int) : Int := (Int32.ofInt x >>> (Int32.ofInt y &&& 31)).toInt
def am_i2l (x : Int) : Int64 := (Int32.ofInt x).toInt64
def am_l2i (x : Int64) : Int := x.toInt32.toInt
def am_lsl (x : Int64) (y : Int) : Int64 := x <<< ((Int32.ofInt y).toInt64 &&& 63)
def am_lsr (x : Int64) (y : Int) : Int64 := x >>> ((Int32.ofInt y).toInt64 &&& 63)
def am_lur (x : Int64) (y : Int) : Int64 := (x.toUInt64 >>> ((Int32.ofInt y).toInt64.toUInt64 &&& Int64.toUInt64 63)).toInt64
def am_lcm (x y : Int64) : Int := if y < x then 1 else if x = y then 0 else -1
def am_cc (c : Jvm.ClassFile.Cond) (x y : Int) : Prop := match c with
  | .eq => x = y
  | .ne => x ≠ y
  | .lt => x < y
  | .ge => y ≤ x
  | .gt => y < x
  | .le => x ≤ y
def am_up (f : Nat → Nat → Nat → Int) (k i j : Nat) (v : Int) : Nat → Nat → Nat → Int := fun k' i' j' => if k' = k then (if i' = i then (if j' = j then v else f k' i' j') else f k' i' j') else f k' i' j'
def am_set (σ : am_S) (k i j : Nat) (v : Int) : am_S := (am_up σ.1 k i j v, σ.2)
def am_setL (σ : am_S) (k j : Nat) (v : Int64) : am_S := (σ.1, (fun k' j' => if k' = k then (if j' = j then v else σ.2.1 k' j') else σ.2.1 k' j'), σ.2.2)
def am_setD (σ : am_S) (j v : Nat) : am_S := (σ.1, σ.2.1, (fun j' => if j' = j then v else σ.2.2.1 j'), σ.2.2.2)
def am_setB (σ : am_S) (b : Nat) : am_S := (σ.1, σ.2.1, σ.2.2.1, b)
/-- rows of places 12 (the items of a sequent): n of them from place sp of row i to place dp of row i' -/
def am_cpy (σ : am_S) (i sp i' dp n : Nat) : am_S := ((fun k a j => if k = 12 then (if a = i' then (if dp ≤ j ∧ j < dp + n then σ.1 12 i (sp + (j - dp)) else σ.1 k a j) else σ.1 k a j) else σ.1 k a j), σ.2)
/-- the kind and index of the object or array that a reference field holds -/
def am_ref (σ : am_S) (c j i : Nat) : Nat × Nat :=
  if c = 6 then (5, 3 + i) else if c = 5 then (12, i) else if c = 7 then (13, i) else if c = 11 then (100 + j, 0) else if c = 2 then (20 + j, 0)
  else if c = 3 then (if j = 0 then (2, 0) else (30 + j, 0)) else if c = 4 then (if j = 0 then (2, 0) else (40 + j, 0)) else if c = 9 then (24, 0)
  else if c = 8 then (if j = 0 then (2, 0) else if j = 1 then (7, 4) else (9, 0))
  else if c = 10 then (if j = 0 then (2, 0) else if j = 1 then (5, 2) else (7, σ.2.2.1 j))
  else if c = 1 then (if j = 0 then (2, 0) else if j = 1 then (3, 0) else if j = 2 then (4, 0) else if j = 3 then (5, 0) else if j = 4 then (5, 1) else if j = 5 then (14, 0) else if j = 6 then (7, 4) else if j = 7 then (8, 0) else (10, 0))
  else (0, 0)
/-- of an array: 1 int, 2 boolean, 3 char, 4 long, 5 references; 0: no array -/
def am_et (k : Nat) : Nat :=
  if k = 12 then 1 else if k = 13 then 5 else if k = 14 then 5 else if k = 24 then 4 else if k = 31 then 3 else if k = 41 then 3 else if k = 70 then 4 else if k = 71 then 1
  else if k = 102 then 2 else if k = 111 then 2 else if k = 126 then 2 else if k = 131 then 2 else if k = 143 then 2 else if k = 137 then 4
  else if 20 ≤ k ∧ k < 24 then 1 else if 33 ≤ k ∧ k < 36 then 1 else if 100 ≤ k ∧ k < 145 then 1 else 0
def am_lnM : List Nat := [0, 0, 30, 30, 30, 30, 0, 60, 8, 8, 8, 8, 0, 0, 40, 40, 0, 8, 640, 640, 640, 640, 640, 640, 640, 15360, 640, 640, 0, 5, 128, 128, 0, 64, 0, 5440, 680, 680, 680, 680, 680, 680, 680, 680, 680]
def am_len (σ : am_S) (k : Nat) : Int :=
  if k = 12 then 20 else if k = 13 then 101 else if k = 14 then 4 else if k = 24 then 1024 else if k = 31 then 60 else if k = 41 then 37 else if k = 70 then 1 else if k = 71 then σ.1 72 0 0
  else if k < 24 then 80 else if k < 36 then 8 else ((am_lnM[k - 100]?).getD 0 : Nat)
/-- the texts "*%+&" and "1F0T" -/
def am_txt (s : Nat) : List Int := if s = 0 then [42, 37, 43, 38] else [49, 70, 48, 84]
def am_ix (s : Nat) (c : Int) : Int := if (am_txt s).idxOf c < 4 then ((am_txt s).idxOf c : Nat) else -1
def am_ch (s : Nat) (k : Int) : Int := ((am_txt s)[k.toNat]?).getD 0
/-- instructions that ask for nothing -/
def am_p (i : am_I) (ls st : List am_V) (σ : am_S) : Option (List am_V × List am_V × am_S) :=
  match i, st with
  | .iconst n, st => some (ls, .inl n :: st, σ)
  | .jsr_w n, st => some (ls, .inr (.inl (Int64.ofInt n)) :: st, σ)
  | .ldc s, st => some (ls, .inr (.inr (90, s)) :: st, σ)
  | .iload k, st => match ls[k]? with
    | some (.inl x) => some (ls, .inl x :: st, σ)
    | _ => none
  | .lload k, st => match ls[k]? with
    | some (.inr (.inl x)) => some (ls, .inr (.inl x) :: st, σ)
    | _ => none
  | .aload k, st => match ls[k]? with
    | some (.inr (.inr (a + 1, b))) => some (ls, .inr (.inr (a + 1, b)) :: st, σ)
    | _ => none
  | .istore k, .inl x :: st => match k with
    | 0 => some (ls.set k (.inl x), st, σ)
    | k' + 1 => match ls[k']? with
      | some (.inr (.inl _)) => none
      | _ => some (ls.set k (.inl x), st, σ)
  | .astore k, .inr (.inr r) :: st => match k with
    | 0 => some (ls.set k (.inr (.inr r)), st, σ)
    | k' + 1 => match ls[k']? with
      | some (.inr (.inl _)) => none
      | _ => some (ls.set k (.inr (.inr r)), st, σ)
  | .lstore k, .inr (.inl x) :: st => match k with
    | 0 => some ((ls.set k (.inr (.inl x))).set (k + 1) am_j, st, σ)
    | k' + 1 => match ls[k']? with
      | some (.inr (.inl _)) => none
      | _ => some ((ls.set k (.inr (.inl x))).set (k + 1) am_j, st, σ)
  | .iand, .inl y :: .inl x :: st => some (ls, .inl (am_and x y) :: st, σ)
  | .ior, .inl y :: .inl x :: st => some (ls, .inl (am_or x y) :: st, σ)
  | .ixor, .inl y :: .inl x :: st => some (ls, .inl (am_xor x y) :: st, σ)
  | .ishl, .inl y :: .inl x :: st => some (ls, .inl (am_shl x y) :: st, σ)
  | .ishr, .inl y :: .inl x :: st => some (ls, .inl (am_shr x y) :: st, σ)
  | .i2l, .inl x :: st => some (ls, .inr (.inl (am_i2l x)) :: st, σ)
  | .l2i, .inr (.inl x) :: st => some (ls, .inl (am_l2i x) :: st, σ)
  | .i2c, .inl x :: st => some (ls, .inl (x % 65536) :: st, σ)
  | .ladd, .inr (.inl y) :: .inr (.inl x) :: st => some (ls, .inr (.inl (x + y)) :: st, σ)
  | .lmul, .inr (.inl y) :: .inr (.inl x) :: st => some (ls, .inr (.inl (x * y)) :: st, σ)
  | .land, .inr (.inl y) :: .inr (.inl x) :: st => some (ls, .inr (.inl (x &&& y)) :: st, σ)
  | .lor, .inr (.inl y) :: .inr (.inl x) :: st => some (ls, .inr (.inl (x ||| y)) :: st, σ)
  | .lshl, .inl y :: .inr (.inl x) :: st => some (ls, .inr (.inl (am_lsl x y)) :: st, σ)
  | .lshr, .inl y :: .inr (.inl x) :: st => some (ls, .inr (.inl (am_lsr x y)) :: st, σ)
  | .lushr, .inl y :: .inr (.inl x) :: st => some (ls, .inr (.inl (am_lur x y)) :: st, σ)
  | .lcmp, .inr (.inl y) :: .inr (.inl x) :: st => some (ls, .inl (am_lcm x y) :: st, σ)
  | .pop, .inl _ :: st => some (ls, st, σ)
  | .dup, .inl x :: st => some (ls, .inl x :: .inl x :: st, σ)
  | .dup, .inr (.inr (a + 1, b)) :: st => some (ls, .inr (.inr (a + 1, b)) :: .inr (.inr (a + 1, b)) :: st, σ)
  | .dup_x1, .inl x :: .inr (.inr (a + 1, b)) :: st => some (ls, .inl x :: .inr (.inr (a + 1, b)) :: .inl x :: st, σ)
  | .dup2, .inl x :: .inr (.inr (a + 1, b)) :: st => some (ls, .inl x :: .inr (.inr (a + 1, b)) :: .inl x :: .inr (.inr (a + 1, b)) :: st, σ)
  | .invokeinterface c j, .inr (.inr (k, i)) :: st => if k = c then some (ls, .inl (σ.1 c i j) :: st, σ) else none
  | .getstatic g, .inr (.inr (k, i)) :: st => if k = g / 64 then some (ls, .inr (.inr (am_ref σ (g / 64) (g % 64) i)) :: st, σ) else none
  | .multianewarray c j, .inl v :: .inr (.inr (k, i)) :: st => if k = c then some (ls, st, am_set σ c i j v) else none
  | .putstatic g, .inr (.inr (7, v)) :: .inr (.inr (10, _)) :: st => some (ls, st, am_setD σ g v)
  | .arraylength, .inr (.inr (71, _)) :: st => some (ls, .inl (σ.1 72 0 0) :: st, σ)
  | _, _ => none
/-- instructions that ask for something -/
def am_q (i : am_I) (ls st : List am_V) (σ : am_S) : Option (Prop × List am_V × List am_V × am_S) :=
  match i, st with
  | .iinc k n, st => match ls[k]? with
    | some (.inl x) => some (am_rg (x + n), ls.set k (.inl (x + n)), st, σ)
    | _ => none
  | .iadd, .inl y :: .inl x :: st => some (am_rg (x + y), ls, .inl (x + y) :: st, σ)
  | .isub, .inl y :: .inl x :: st => some (am_rg (x - y), ls, .inl (x - y) :: st, σ)
  | .imul, .inl y :: .inl x :: st => some (am_rg (x * y), ls, .inl (x * y) :: st, σ)
  | .ineg, .inl x :: st => some (am_rg (-x), ls, .inl (-x) :: st, σ)
  | .idiv, .inl y :: .inl x :: st => some (0 < y, ls, .inl (x.tdiv y) :: st, σ)
  | .irem, .inl y :: .inl x :: st => some (0 < y, ls, .inl (x.tmod y) :: st, σ)
  | .instanceof g, .inl v :: .inr (.inr (k, i)) :: st => if k = g / 64 then some ((v = 0 ∨ v = 1), ls, st, am_set σ (g / 64) i (g % 64) v) else none
  | .iaload, .inl x :: .inr (.inr (k, i)) :: st => if am_et k = 1 then some ((0 ≤ x ∧ x < am_len σ k), ls, .inl (σ.1 k i x.toNat) :: st, σ) else none
  | .baload, .inl x :: .inr (.inr (k, i)) :: st => if am_et k = 2 then some ((0 ≤ x ∧ x < am_len σ k), ls, .inl (σ.1 k i x.toNat) :: st, σ) else none
  | .caload, .inl x :: .inr (.inr (k, i)) :: st => if am_et k = 3 then some ((0 ≤ x ∧ x < am_len σ k), ls, .inl (σ.1 k i x.toNat) :: st, σ) else none
  | .laload, .inl x :: .inr (.inr (k, _)) :: st => if am_et k = 4 then some ((0 ≤ x ∧ x < am_len σ k), ls, .inr (.inl (σ.2.1 k x.toNat)) :: st, σ) else none
  | .aaload, .inl x :: .inr (.inr (13, i)) :: st => some ((0 ≤ x ∧ x < 101), ls, .inr (.inr (6, 101 * i + x.toNat)) :: st, σ)
  | .aaload, .inl x :: .inr (.inr (14, _)) :: st => some ((0 ≤ x ∧ x < 4), ls, .inr (.inr (7, x.toNat)) :: st, σ)
  | .iastore, .inl v :: .inl x :: .inr (.inr (k, i)) :: st => if am_et k = 1 ∧ k ≠ 71 then some ((0 ≤ x ∧ x < am_len σ k), ls, st, am_set σ k i x.toNat v) else none
  | .bastore, .inl v :: .inl x :: .inr (.inr (k, i)) :: st => if am_et k = 2 then some ((0 ≤ x ∧ x < am_len σ k) ∧ (v = 0 ∨ v = 1), ls, st, am_set σ k i x.toNat v) else none
  | .castore, .inl v :: .inl x :: .inr (.inr (k, i)) :: st => if am_et k = 3 then some ((0 ≤ x ∧ x < am_len σ k) ∧ (0 ≤ v ∧ v < 65536), ls, st, am_set σ k i x.toNat v) else none
  | .lastore, .inr (.inl v) :: .inl x :: .inr (.inr (k, _)) :: st => if am_et k = 4 then some ((0 ≤ x ∧ x < am_len σ k), ls, st, am_setL σ k x.toNat v) else none
  | _, _ => none
/-- calls of the JDK's: 0 indexOf, 1 charAt, 2 max, 3 min, 4 arraycopy of two rows of items -/
def am_n (k : Nat) (st : List am_V) (σ : am_S) : Option (Prop × List am_V × am_S) :=
  match k, st with
  | 0, .inl c :: .inr (.inr (90, s)) :: st => some ((0 ≤ c ∧ c < 65536), .inl (am_ix s c) :: st, σ)
  | 1, .inl x :: .inr (.inr (90, s)) :: st => some ((0 ≤ x ∧ x < 4), .inl (am_ch s x) :: st, σ)
  | 2, .inl y :: .inl x :: st => some (True, .inl (max x y) :: st, σ)
  | 3, .inl y :: .inl x :: st => some (True, .inl (min x y) :: st, σ)
  | 4, .inl n :: .inl dp :: .inr (.inr (12, i')) :: .inl sp :: .inr (.inr (12, i)) :: st => some ((0 ≤ n ∧ 0 ≤ sp ∧ 0 ≤ dp ∧ sp + n ≤ 20 ∧ dp + n ≤ 20), st, am_cpy σ i sp.toNat i' dp.toNat n.toNat)
  | _, _ => none
/-- the locals at a method's entry -/
def am_ini : Nat → List am_V → List am_V
  | 0, _ => []
  | n + 1, [] => am_j :: am_ini n []
  | n + 1, .inr (.inl x) :: as => match n with
    | 0 => []
    | n' + 1 => .inr (.inl x) :: am_j :: am_ini n' as
  | n + 1, v :: as => v :: am_ini n as
/-- the words that arguments take -/
def am_wds : List am_V → Nat
  | [] => 0
  | .inr (.inl _) :: l => 2 + am_wds l
  | _ :: l => 1 + am_wds l
/-- behind a call -/
def am_k (X : Nat → List am_V → am_S → Prop) (K : List am_V → List am_V → am_S → Prop) (ls st : List am_V) : am_Q := fun o τ => match o with
  | .inl none => K ls st τ
  | .inl (some v) => K ls (v :: st) τ
  | .inr e => X e ls τ
/-- a call: in a method's number stand, from below, whether it catches (2), its arguments (16), its locals (32), its receiver's kind (16) -/
def am_cs (C : Nat → List am_V → am_S → am_Q → Prop) (X : Nat → List am_V → am_S → Prop) (K : List am_V → List am_V → am_S → Prop) (g : Nat) (ls st : List am_V) (σ : am_S) : Prop :=
  if (g / 2 % 16 ≤ st.length ∧ st.length ≤ g / 2 % 16 + 8) ∧ am_wds (st.take (g / 2 % 16)).reverse ≤ g / 32 % 32 then C g (st.take (g / 2 % 16)).reverse σ (am_k X K ls (st.drop (g / 2 % 16))) else False
def am_cv (C : Nat → List am_V → am_S → am_Q → Prop) (X : Nat → List am_V → am_S → Prop) (K : List am_V → List am_V → am_S → Prop) (g : Nat) (ls st : List am_V) (σ : am_S) : Prop :=
  match (st.take (g / 2 % 16)).reverse with
  | .inr (.inr (k, _)) :: _ => if k = g / 1024 % 16 then am_cs C X K g ls st σ else False
  | _ => False
def am_cn (d : Nat) (K : List am_V → List am_V → am_S → Prop) (k : Nat) (ls st : List am_V) (σ : am_S) : Prop :=
  if (st.length ≤ 6 ∨ (2 ≤ k ∧ st.length ≤ 12)) then (match am_n k st σ with
    | some q => (8 ≤ d ∧ q.1) ∧ K ls q.2.1 q.2.2
    | none => False) else False
/-- branches, ends and calls -/
def am_c (d : Nat) (C : Nat → List am_V → am_S → am_Q → Prop) (J : Nat → List am_V → List am_V → am_S → Prop) (X : Nat → List am_V → am_S → Prop) (E : Option am_V → am_S → Prop)
    (K : List am_V → List am_V → am_S → Prop) (i : am_I) (ls st : List am_V) (σ : am_S) : Prop :=
  match i, st with
  | .if_icmp c t, .inl y :: .inl x :: st => (am_cc c x y → J t.toNat ls st σ) ∧ (¬ am_cc c x y → K ls st σ)
  | .ifCond c t, .inl x :: st => (am_cc c x 0 → J t.toNat ls st σ) ∧ (¬ am_cc c x 0 → K ls st σ)
  | .goto t, st => J t.toNat ls st σ
  | .goto_w t, st => J t.toNat ls st σ
  | .tableswitch df lo hi ts, .inl x :: st => (x < lo ∨ hi < x → J df.toNat ls st σ) ∧ (¬ (x < lo ∨ hi < x) → J ((ts.toList[(x - lo).toNat]?).getD df).toNat ls st σ)
  | .ireturn, [.inl x] => E (some (.inl x)) σ
  | .freturn, [.inl x] => (x = 0 ∨ x = 1) ∧ E (some (.inl x)) σ
  | .dreturn, [.inl x] => (0 ≤ x ∧ x < 65536) ∧ E (some (.inl x)) σ
  | .lreturn, [.inr (.inl x)] => E (some (.inr (.inl x))) σ
  | .areturn, [.inr (.inr (a + 1, b))] => E (some (.inr (.inr (a + 1, b)))) σ
  | .return_, [] => E none σ
  | .new e, [] => (8 ≤ d ∧ 0 < σ.2.2.2) ∧ X e ls (am_setB σ (σ.2.2.2 - 1))
  | .invokevirtual g, st => am_cv C X K g ls st σ
  | .invokestatic g, st => am_cs C X K g ls st σ
  | .invokedynamic k, st => am_cn d K k ls st σ
  | _, _ => False
def am_run (d : Nat) (C : Nat → List am_V → am_S → am_Q → Prop) (J : Nat → List am_V → List am_V → am_S → Prop) (X : Nat → List am_V → am_S → Prop) (E : Option am_V → am_S → Prop) : List am_I → List am_V → List am_V → am_S → Prop
  | [], _, _, _ => False
  | i :: is, ls, st, σ => match am_p i ls st σ with
    | some q => am_run d C J X E is q.1 q.2.1 q.2.2
    | none => match am_q i ls st σ with
      | some q => q.1 ∧ am_run d C J X E is q.2.1 q.2.2.1 q.2.2.2
      | none => am_c d C J X E (am_run d C J X E is) i ls st σ
section AmMono
variable {d : Nat} {C C' : Nat → List am_V → am_S → am_Q → Prop} {J J' : Nat → List am_V → List am_V → am_S → Prop} {X X' : Nat → List am_V → am_S → Prop} {E E' : Option am_V → am_S → Prop} {K K' : List am_V → List am_V → am_S → Prop}
theorem am_k_mono (hX : ∀ e ls σ, X e ls σ → X' e ls σ) (hK : ∀ ls st σ, K ls st σ → K' ls st σ) (ls st : List am_V) (o : am_O) (τ : am_S) (h : am_k X K ls st o τ) : am_k X' K' ls st o τ := by
  rcases o with (_ | v) | e
  · exact hK _ _ _ h
  · exact hK _ _ _ h
  · exact hX _ _ _ h
theorem am_cs_mono (hC : ∀ g as σ Q Q', (∀ o s, Q o s → Q' o s) → C g as σ Q → C' g as σ Q') (hX : ∀ e ls σ, X e ls σ → X' e ls σ) (hK : ∀ ls st σ, K ls st σ → K' ls st σ) {g : Nat} {ls st : List am_V} {σ : am_S} (h : am_cs C X K g ls st σ) : am_cs C' X' K' g ls st σ := by
  unfold am_cs at h ⊢
  by_cases hc : (g / 2 % 16 ≤ st.length ∧ st.length ≤ g / 2 % 16 + 8) ∧ am_wds (st.take (g / 2 % 16)).reverse ≤ g / 32 % 32
  · rw [if_pos hc] at h ⊢
    exact hC _ _ _ _ _ (am_k_mono hX hK _ _) h
  · rw [if_neg hc] at h
    exact h.elim
theorem am_cv_mono (hC : ∀ g as σ Q Q', (∀ o s, Q o s → Q' o s) → C g as σ Q → C' g as σ Q') (hX : ∀ e ls σ, X e ls σ → X' e ls σ) (hK : ∀ ls st σ, K ls st σ → K' ls st σ) {g : Nat} {ls st : List am_V} {σ : am_S} (h : am_cv C X K g ls st σ) : am_cv C' X' K' g ls st σ := by
  unfold am_cv at h ⊢
  rcases hr : (st.take (g / 2 % 16)).reverse with _ | ⟨x | x | ⟨k, i⟩, r⟩
  · rw [hr] at h; exact h.elim
  · rw [hr] at h; exact h.elim
  · rw [hr] at h; exact h.elim
  · rw [hr] at h
    show if k = g / 1024 % 16 then am_cs C' X' K' g ls st σ else False
    have h1 : if k = g / 1024 % 16 then am_cs C X K g ls st σ else False := h
    by_cases hk : k = g / 1024 % 16
    · rw [if_pos hk] at h1 ⊢
      exact am_cs_mono hC hX hK h1
    · rw [if_neg hk] at h1
      exact h1.elim
theorem am_cn_mono (hK : ∀ ls st σ, K ls st σ → K' ls st σ) {k : Nat} {ls st : List am_V} {σ : am_S} (h : am_cn d K k ls st σ) : am_cn d K' k ls st σ := by
  unfold am_cn at h ⊢
  by_cases hl : (st.length ≤ 6 ∨ (2 ≤ k ∧ st.length ≤ 12))
  · rw [if_pos hl] at h ⊢
    cases hq : am_n k st σ with
    | none => rw [hq] at h; exact h.elim
    | some q => rw [hq] at h; exact ⟨h.1, hK _ _ _ h.2⟩
  · rw [if_neg hl] at h
    exact h.elim
theorem am_c_mono (hC : ∀ g as σ Q Q', (∀ o s, Q o s → Q' o s) → C g as σ Q → C' g as σ Q') (hJ : ∀ pc ls st σ, J pc ls st σ → J' pc ls st σ) (hX : ∀ e ls σ, X e ls σ → X' e ls σ) (hE : ∀ v σ, E v σ → E' v σ) (hK : ∀ ls st σ, K ls st σ → K' ls st σ) {i : am_I} {ls st : List am_V} {σ : am_S} (h : am_c d C J X E K i ls st σ) : am_c d C' J' X' E' K' i ls st σ := by
  unfold am_c at h
  split at h
  · exact ⟨fun c => hJ _ _ _ _ (h.1 c), fun c => hK _ _ _ (h.2 c)⟩
  · exact ⟨fun c => hJ _ _ _ _ (h.1 c), fun c => hK _ _ _ (h.2 c)⟩
  · exact hJ _ _ _ _ h
  · exact hJ _ _ _ _ h
  · exact ⟨fun c => hJ _ _ _ _ (h.1 c), fun c => hJ _ _ _ _ (h.2 c)⟩
  · exact hE _ _ h
  · exact ⟨h.1, hE _ _ h.2⟩
  · exact ⟨h.1, hE _ _ h.2⟩
  · exact hE _ _ h
  · exact hE _ _ h
  · exact hE _ _ h
  · exact ⟨h.1, hX _ _ _ h.2⟩
  · exact am_cv_mono hC hX hK h
  · exact am_cs_mono hC hX hK h
  · exact am_cn_mono hK h
  · exact h.elim
theorem am_run_mono (hC : ∀ g as σ Q Q', (∀ o s, Q o s → Q' o s) → C g as σ Q → C' g as σ Q') (hJ : ∀ pc ls st σ, J pc ls st σ → J' pc ls st σ) (hX : ∀ e ls σ, X e ls σ → X' e ls σ) (hE : ∀ v σ, E v σ → E' v σ) : ∀ (b : List am_I) (ls st : List am_V) (σ : am_S), am_run d C J X E b ls st σ → am_run d C' J' X' E' b ls st σ
  | [], _, _, _, h => h
  | i :: is, ls, st, σ, h => by
    have ih := am_run_mono hC hJ hX hE is
    unfold am_run at h ⊢
    cases hp : am_p i ls st σ with
    | some q => rw [hp] at h; exact ih _ _ _ h
    | none =>
      rw [hp] at h
      cases hq : am_q i ls st σ with
      | some q =>
        simp only [hq] at h ⊢
        exact ⟨h.1, ih _ _ _ h.2⟩
      | none =>
        simp only [hq] at h ⊢
        exact am_c_mono hC hJ hX hE (fun a b c => ih a b c) h
end AmMono
