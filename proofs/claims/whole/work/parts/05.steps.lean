/-! One rewriting row an instruction (written by our program) -/
section AmSteps
variable {d : Nat} {C : Nat → List am_V → am_S → am_Q → Prop} {J : Nat → List am_V → List am_V → am_S → Prop} {X : Nat → List am_V → am_S → Prop} {E : Option am_V → am_S → Prop} {is : List am_I} {ls st : List am_V} {σ : am_S}
theorem as_iconst (n : Int) : am_run d C J X E (.iconst n :: is) ls (st) σ = (am_run d C J X E is ls (.inl n :: st) σ) := rfl
theorem as_jsr_w (n : Int) : am_run d C J X E (.jsr_w n :: is) ls (st) σ = (am_run d C J X E is ls (.inr (.inl (Int64.ofInt n)) :: st) σ) := rfl
theorem as_ldc (s : Nat) : am_run d C J X E (.ldc s :: is) ls (st) σ = (am_run d C J X E is ls (.inr (.inr (90, s)) :: st) σ) := rfl
theorem as_iand (x y : Int) : am_run d C J X E (.iand :: is) ls (.inl y :: .inl x :: st) σ = (am_run d C J X E is ls (.inl (am_and x y) :: st) σ) := rfl
theorem as_ior (x y : Int) : am_run d C J X E (.ior :: is) ls (.inl y :: .inl x :: st) σ = (am_run d C J X E is ls (.inl (am_or x y) :: st) σ) := rfl
theorem as_ixor (x y : Int) : am_run d C J X E (.ixor :: is) ls (.inl y :: .inl x :: st) σ = (am_run d C J X E is ls (.inl (am_xor x y) :: st) σ) := rfl
theorem as_ishl (x y : Int) : am_run d C J X E (.ishl :: is) ls (.inl y :: .inl x :: st) σ = (am_run d C J X E is ls (.inl (am_shl x y) :: st) σ) := rfl
theorem as_ishr (x y : Int) : am_run d C J X E (.ishr :: is) ls (.inl y :: .inl x :: st) σ = (am_run d C J X E is ls (.inl (am_shr x y) :: st) σ) := rfl
theorem as_i2l (x : Int) : am_run d C J X E (.i2l :: is) ls (.inl x :: st) σ = (am_run d C J X E is ls (.inr (.inl (am_i2l x)) :: st) σ) := rfl
theorem as_l2i (x : Int64) : am_run d C J X E (.l2i :: is) ls (.inr (.inl x) :: st) σ = (am_run d C J X E is ls (.inl (am_l2i x) :: st) σ) := rfl
theorem as_i2c (x : Int) : am_run d C J X E (.i2c :: is) ls (.inl x :: st) σ = (am_run d C J X E is ls (.inl (x % 65536) :: st) σ) := rfl
theorem as_ladd (x y : Int64) : am_run d C J X E (.ladd :: is) ls (.inr (.inl y) :: .inr (.inl x) :: st) σ = (am_run d C J X E is ls (.inr (.inl (x + y)) :: st) σ) := rfl
theorem as_lmul (x y : Int64) : am_run d C J X E (.lmul :: is) ls (.inr (.inl y) :: .inr (.inl x) :: st) σ = (am_run d C J X E is ls (.inr (.inl (x * y)) :: st) σ) := rfl
theorem as_land (x y : Int64) : am_run d C J X E (.land :: is) ls (.inr (.inl y) :: .inr (.inl x) :: st) σ = (am_run d C J X E is ls (.inr (.inl (x &&& y)) :: st) σ) := rfl
theorem as_lor (x y : Int64) : am_run d C J X E (.lor :: is) ls (.inr (.inl y) :: .inr (.inl x) :: st) σ = (am_run d C J X E is ls (.inr (.inl (x ||| y)) :: st) σ) := rfl
theorem as_lshl (x : Int64) (y : Int) : am_run d C J X E (.lshl :: is) ls (.inl y :: .inr (.inl x) :: st) σ = (am_run d C J X E is ls (.inr (.inl (am_lsl x y)) :: st) σ) := rfl
theorem as_lshr (x : Int64) (y : Int) : am_run d C J X E (.lshr :: is) ls (.inl y :: .inr (.inl x) :: st) σ = (am_run d C J X E is ls (.inr (.inl (am_lsr x y)) :: st) σ) := rfl
theorem as_lushr (x : Int64) (y : Int) : am_run d C J X E (.lushr :: is) ls (.inl y :: .inr (.inl x) :: st) σ = (am_run d C J X E is ls (.inr (.inl (am_lur x y)) :: st) σ) := rfl
theorem as_lcmp (x y : Int64) : am_run d C J X E (.lcmp :: is) ls (.inr (.inl y) :: .inr (.inl x) :: st) σ = (am_run d C J X E is ls (.inl (am_lcm x y) :: st) σ) := rfl
theorem as_pop (x : Int) : am_run d C J X E (.pop :: is) ls (.inl x :: st) σ = (am_run d C J X E is ls (st) σ) := rfl
theorem as_dup (x : Int) : am_run d C J X E (.dup :: is) ls (.inl x :: st) σ = (am_run d C J X E is ls (.inl x :: .inl x :: st) σ) := rfl
theorem as_iadd (x y : Int) : am_run d C J X E (.iadd :: is) ls (.inl y :: .inl x :: st) σ = (am_rg (x + y) ∧ am_run d C J X E is ls (.inl (x + y) :: st) σ) := rfl
theorem as_isub (x y : Int) : am_run d C J X E (.isub :: is) ls (.inl y :: .inl x :: st) σ = (am_rg (x - y) ∧ am_run d C J X E is ls (.inl (x - y) :: st) σ) := rfl
theorem as_imul (x y : Int) : am_run d C J X E (.imul :: is) ls (.inl y :: .inl x :: st) σ = (am_rg (x * y) ∧ am_run d C J X E is ls (.inl (x * y) :: st) σ) := rfl
theorem as_ineg (x : Int) : am_run d C J X E (.ineg :: is) ls (.inl x :: st) σ = (am_rg (-x) ∧ am_run d C J X E is ls (.inl (-x) :: st) σ) := rfl
theorem as_idiv (x y : Int) : am_run d C J X E (.idiv :: is) ls (.inl y :: .inl x :: st) σ = (0 < y ∧ am_run d C J X E is ls (.inl (x.tdiv y) :: st) σ) := rfl
theorem as_irem (x y : Int) : am_run d C J X E (.irem :: is) ls (.inl y :: .inl x :: st) σ = (0 < y ∧ am_run d C J X E is ls (.inl (x.tmod y) :: st) σ) := rfl
theorem as_dupr (a b : Nat) (h : 0 < a) : am_run d C J X E (.dup :: is) ls (.inr (.inr (a, b)) :: st) σ = (am_run d C J X E is ls (.inr (.inr (a, b)) :: .inr (.inr (a, b)) :: st) σ) := by
  obtain ⟨z, rfl⟩ : ∃ z, a = z + 1 := ⟨a - 1, by omega⟩
  rfl
theorem as_dup_x1 (x : Int) (a b : Nat) (h : 0 < a) : am_run d C J X E (.dup_x1 :: is) ls (.inl x :: .inr (.inr (a, b)) :: st) σ = (am_run d C J X E is ls (.inl x :: .inr (.inr (a, b)) :: .inl x :: st) σ) := by
  obtain ⟨z, rfl⟩ : ∃ z, a = z + 1 := ⟨a - 1, by omega⟩
  rfl
theorem as_dup2 (x : Int) (a b : Nat) (h : 0 < a) : am_run d C J X E (.dup2 :: is) ls (.inl x :: .inr (.inr (a, b)) :: st) σ = (am_run d C J X E is ls (.inl x :: .inr (.inr (a, b)) :: .inl x :: .inr (.inr (a, b)) :: st) σ) := by
  obtain ⟨z, rfl⟩ : ∃ z, a = z + 1 := ⟨a - 1, by omega⟩
  rfl
def am_li (v : Option am_V) (f : Int → Prop) : Prop := match v with
  | some (.inl x) => f x
  | _ => False
def am_ll (v : Option am_V) (f : Int64 → Prop) : Prop := match v with
  | some (.inr (.inl x)) => f x
  | _ => False
def am_la (v : Option am_V) (f : Nat → Nat → Prop) : Prop := match v with
  | some (.inr (.inr (a + 1, b))) => f (a + 1) b
  | _ => False
def am_nl (v : Option am_V) (p : Prop) : Prop := match v with
  | some (.inr (.inl _)) => False
  | _ => p
theorem am_li_i (x : Int) (f : Int → Prop) : am_li (some (.inl x)) f = f x := rfl
theorem am_ll_l (x : Int64) (f : Int64 → Prop) : am_ll (some (.inr (.inl x))) f = f x := rfl
theorem am_la_a (a b : Nat) (f : Nat → Nat → Prop) (h : 0 < a) : am_la (some (.inr (.inr (a, b)))) f = f a b := by
  obtain ⟨z, rfl⟩ : ∃ z, a = z + 1 := ⟨a - 1, by omega⟩
  rfl
theorem am_nl_i (x : Int) (p : Prop) : am_nl (some (.inl x)) p = p := rfl
theorem am_nl_r (r : Nat × Nat) (p : Prop) : am_nl (some (.inr (.inr r))) p = p := rfl
theorem as_iload (k : Nat) : am_run d C J X E (.iload k :: is) ls (st) σ = (am_li (ls[k]?) (fun x => am_run d C J X E is ls (.inl x :: st) σ)) := by
  rcases h : ls[k]? with _ | (x | x | ⟨_ | a, b⟩) <;> simp [am_run, am_p, am_q, am_c, am_li, am_ll, am_la, h]
theorem as_lload (k : Nat) : am_run d C J X E (.lload k :: is) ls (st) σ = (am_ll (ls[k]?) (fun x => am_run d C J X E is ls (.inr (.inl x) :: st) σ)) := by
  rcases h : ls[k]? with _ | (x | x | ⟨_ | a, b⟩) <;> simp [am_run, am_p, am_q, am_c, am_li, am_ll, am_la, h]
theorem as_aload (k : Nat) : am_run d C J X E (.aload k :: is) ls (st) σ = (am_la (ls[k]?) (fun a b => am_run d C J X E is ls (.inr (.inr (a, b)) :: st) σ)) := by
  rcases h : ls[k]? with _ | (x | x | ⟨_ | a, b⟩) <;> simp [am_run, am_p, am_q, am_c, am_li, am_ll, am_la, h]
theorem as_iinc (k : Nat) (n : Int) : am_run d C J X E (.iinc k n :: is) ls (st) σ = (am_li (ls[k]?) (fun x => am_rg (x + n) ∧ am_run d C J X E is (ls.set k (.inl (x + n))) st σ)) := by
  rcases h : ls[k]? with _ | (x | x | ⟨_ | a, b⟩) <;> simp [am_run, am_p, am_q, am_c, am_li, am_ll, am_la, h]
theorem as_istore0 (x : Int) : am_run d C J X E (.istore 0 :: is) ls (.inl x :: st) σ = (am_run d C J X E is (ls.set 0 (.inl x)) st σ) := rfl
theorem as_istore (x : Int) (k : Nat) : am_run d C J X E (.istore (k + 1) :: is) ls (.inl x :: st) σ = (am_nl (ls[k]?) (am_run d C J X E is (ls.set (k + 1) (.inl x)) st σ)) := by
  rcases h : ls[k]? with _ | (x | x | ⟨a, b⟩) <;> simp [am_run, am_p, am_q, am_c, am_nl, h]
theorem as_astore0 (x : Nat × Nat) : am_run d C J X E (.astore 0 :: is) ls (.inr (.inr x) :: st) σ = (am_run d C J X E is (ls.set 0 (.inr (.inr x))) st σ) := rfl
theorem as_astore (x : Nat × Nat) (k : Nat) : am_run d C J X E (.astore (k + 1) :: is) ls (.inr (.inr x) :: st) σ = (am_nl (ls[k]?) (am_run d C J X E is (ls.set (k + 1) (.inr (.inr x))) st σ)) := by
  rcases h : ls[k]? with _ | (x | x | ⟨a, b⟩) <;> simp [am_run, am_p, am_q, am_c, am_nl, h]
theorem as_lstore (x : Int64) (k : Nat) : am_run d C J X E (.lstore (k + 1) :: is) ls (.inr (.inl x) :: st) σ = (am_nl (ls[k]?) (am_run d C J X E is ((ls.set (k + 1) (.inr (.inl x))).set (k + 1 + 1) am_j) st σ)) := by
  rcases h : ls[k]? with _ | (x | x | ⟨a, b⟩) <;> simp [am_run, am_p, am_q, am_c, am_nl, h]
theorem as_getf (c i j : Nat) : am_run d C J X E (.invokeinterface c j :: is) ls (.inr (.inr (c, i)) :: st) σ = (am_run d C J X E is ls (.inl (σ.1 c i j) :: st) σ) := by simp [am_run, am_p, am_q, am_c]
theorem as_putf (c i j : Nat) (v : Int) : am_run d C J X E (.multianewarray c j :: is) ls (.inl v :: .inr (.inr (c, i)) :: st) σ = (am_run d C J X E is ls st (am_set σ c i j v)) := by simp [am_run, am_p, am_q, am_c]
theorem as_getr6_0 (i : Nat) : am_run d C J X E (.getstatic 384 :: is) ls (.inr (.inr (6, i)) :: st) σ = (am_run d C J X E is ls (.inr (.inr (5, 3 + i)) :: st) σ) := rfl
theorem as_getr5_0 (i : Nat) : am_run d C J X E (.getstatic 320 :: is) ls (.inr (.inr (5, i)) :: st) σ = (am_run d C J X E is ls (.inr (.inr (12, i)) :: st) σ) := rfl
theorem as_getr7_0 (i : Nat) : am_run d C J X E (.getstatic 448 :: is) ls (.inr (.inr (7, i)) :: st) σ = (am_run d C J X E is ls (.inr (.inr (13, i)) :: st) σ) := rfl
theorem as_getr1_0 (i : Nat) : am_run d C J X E (.getstatic 64 :: is) ls (.inr (.inr (1, i)) :: st) σ = (am_run d C J X E is ls (.inr (.inr (2, 0)) :: st) σ) := rfl
theorem as_getr1_1 (i : Nat) : am_run d C J X E (.getstatic 65 :: is) ls (.inr (.inr (1, i)) :: st) σ = (am_run d C J X E is ls (.inr (.inr (3, 0)) :: st) σ) := rfl
theorem as_getr1_2 (i : Nat) : am_run d C J X E (.getstatic 66 :: is) ls (.inr (.inr (1, i)) :: st) σ = (am_run d C J X E is ls (.inr (.inr (4, 0)) :: st) σ) := rfl
theorem as_getr1_3 (i : Nat) : am_run d C J X E (.getstatic 67 :: is) ls (.inr (.inr (1, i)) :: st) σ = (am_run d C J X E is ls (.inr (.inr (5, 0)) :: st) σ) := rfl
theorem as_getr1_4 (i : Nat) : am_run d C J X E (.getstatic 68 :: is) ls (.inr (.inr (1, i)) :: st) σ = (am_run d C J X E is ls (.inr (.inr (5, 1)) :: st) σ) := rfl
theorem as_getr1_5 (i : Nat) : am_run d C J X E (.getstatic 69 :: is) ls (.inr (.inr (1, i)) :: st) σ = (am_run d C J X E is ls (.inr (.inr (14, 0)) :: st) σ) := rfl
theorem as_getr1_6 (i : Nat) : am_run d C J X E (.getstatic 70 :: is) ls (.inr (.inr (1, i)) :: st) σ = (am_run d C J X E is ls (.inr (.inr (7, 4)) :: st) σ) := rfl
theorem as_getr1_7 (i : Nat) : am_run d C J X E (.getstatic 71 :: is) ls (.inr (.inr (1, i)) :: st) σ = (am_run d C J X E is ls (.inr (.inr (8, 0)) :: st) σ) := rfl
theorem as_getr1_8 (i : Nat) : am_run d C J X E (.getstatic 72 :: is) ls (.inr (.inr (1, i)) :: st) σ = (am_run d C J X E is ls (.inr (.inr (10, 0)) :: st) σ) := rfl
theorem as_getr2_0 (i : Nat) : am_run d C J X E (.getstatic 128 :: is) ls (.inr (.inr (2, i)) :: st) σ = (am_run d C J X E is ls (.inr (.inr (20, 0)) :: st) σ) := rfl
theorem as_getr2_1 (i : Nat) : am_run d C J X E (.getstatic 129 :: is) ls (.inr (.inr (2, i)) :: st) σ = (am_run d C J X E is ls (.inr (.inr (21, 0)) :: st) σ) := rfl
theorem as_getr2_2 (i : Nat) : am_run d C J X E (.getstatic 130 :: is) ls (.inr (.inr (2, i)) :: st) σ = (am_run d C J X E is ls (.inr (.inr (22, 0)) :: st) σ) := rfl
theorem as_getr2_3 (i : Nat) : am_run d C J X E (.getstatic 131 :: is) ls (.inr (.inr (2, i)) :: st) σ = (am_run d C J X E is ls (.inr (.inr (23, 0)) :: st) σ) := rfl
theorem as_getr3_0 (i : Nat) : am_run d C J X E (.getstatic 192 :: is) ls (.inr (.inr (3, i)) :: st) σ = (am_run d C J X E is ls (.inr (.inr (2, 0)) :: st) σ) := rfl
theorem as_getr3_1 (i : Nat) : am_run d C J X E (.getstatic 193 :: is) ls (.inr (.inr (3, i)) :: st) σ = (am_run d C J X E is ls (.inr (.inr (31, 0)) :: st) σ) := rfl
theorem as_getr3_3 (i : Nat) : am_run d C J X E (.getstatic 195 :: is) ls (.inr (.inr (3, i)) :: st) σ = (am_run d C J X E is ls (.inr (.inr (33, 0)) :: st) σ) := rfl
theorem as_getr3_4 (i : Nat) : am_run d C J X E (.getstatic 196 :: is) ls (.inr (.inr (3, i)) :: st) σ = (am_run d C J X E is ls (.inr (.inr (34, 0)) :: st) σ) := rfl
theorem as_getr3_5 (i : Nat) : am_run d C J X E (.getstatic 197 :: is) ls (.inr (.inr (3, i)) :: st) σ = (am_run d C J X E is ls (.inr (.inr (35, 0)) :: st) σ) := rfl
theorem as_getr4_0 (i : Nat) : am_run d C J X E (.getstatic 256 :: is) ls (.inr (.inr (4, i)) :: st) σ = (am_run d C J X E is ls (.inr (.inr (2, 0)) :: st) σ) := rfl
theorem as_getr4_1 (i : Nat) : am_run d C J X E (.getstatic 257 :: is) ls (.inr (.inr (4, i)) :: st) σ = (am_run d C J X E is ls (.inr (.inr (41, 0)) :: st) σ) := rfl
theorem as_getr9_0 (i : Nat) : am_run d C J X E (.getstatic 576 :: is) ls (.inr (.inr (9, i)) :: st) σ = (am_run d C J X E is ls (.inr (.inr (24, 0)) :: st) σ) := rfl
theorem as_getr8_0 (i : Nat) : am_run d C J X E (.getstatic 512 :: is) ls (.inr (.inr (8, i)) :: st) σ = (am_run d C J X E is ls (.inr (.inr (2, 0)) :: st) σ) := rfl
theorem as_getr8_1 (i : Nat) : am_run d C J X E (.getstatic 513 :: is) ls (.inr (.inr (8, i)) :: st) σ = (am_run d C J X E is ls (.inr (.inr (7, 4)) :: st) σ) := rfl
theorem as_getr8_2 (i : Nat) : am_run d C J X E (.getstatic 514 :: is) ls (.inr (.inr (8, i)) :: st) σ = (am_run d C J X E is ls (.inr (.inr (9, 0)) :: st) σ) := rfl
theorem as_getr10_0 (i : Nat) : am_run d C J X E (.getstatic 640 :: is) ls (.inr (.inr (10, i)) :: st) σ = (am_run d C J X E is ls (.inr (.inr (2, 0)) :: st) σ) := rfl
theorem as_getr10_1 (i : Nat) : am_run d C J X E (.getstatic 641 :: is) ls (.inr (.inr (10, i)) :: st) σ = (am_run d C J X E is ls (.inr (.inr (5, 2)) :: st) σ) := rfl
theorem as_getr10_2 (i : Nat) : am_run d C J X E (.getstatic 642 :: is) ls (.inr (.inr (10, i)) :: st) σ = (am_run d C J X E is ls (.inr (.inr (7, σ.2.2.1 2)) :: st) σ) := rfl
theorem as_getr10_3 (i : Nat) : am_run d C J X E (.getstatic 643 :: is) ls (.inr (.inr (10, i)) :: st) σ = (am_run d C J X E is ls (.inr (.inr (7, σ.2.2.1 3)) :: st) σ) := rfl
theorem as_getr11_2 (i : Nat) : am_run d C J X E (.getstatic 706 :: is) ls (.inr (.inr (11, i)) :: st) σ = (am_run d C J X E is ls (.inr (.inr (102, 0)) :: st) σ) := rfl
theorem as_getr11_3 (i : Nat) : am_run d C J X E (.getstatic 707 :: is) ls (.inr (.inr (11, i)) :: st) σ = (am_run d C J X E is ls (.inr (.inr (103, 0)) :: st) σ) := rfl
theorem as_getr11_4 (i : Nat) : am_run d C J X E (.getstatic 708 :: is) ls (.inr (.inr (11, i)) :: st) σ = (am_run d C J X E is ls (.inr (.inr (104, 0)) :: st) σ) := rfl
theorem as_getr11_5 (i : Nat) : am_run d C J X E (.getstatic 709 :: is) ls (.inr (.inr (11, i)) :: st) σ = (am_run d C J X E is ls (.inr (.inr (105, 0)) :: st) σ) := rfl
theorem as_getr11_7 (i : Nat) : am_run d C J X E (.getstatic 711 :: is) ls (.inr (.inr (11, i)) :: st) σ = (am_run d C J X E is ls (.inr (.inr (107, 0)) :: st) σ) := rfl
theorem as_getr11_8 (i : Nat) : am_run d C J X E (.getstatic 712 :: is) ls (.inr (.inr (11, i)) :: st) σ = (am_run d C J X E is ls (.inr (.inr (108, 0)) :: st) σ) := rfl
theorem as_getr11_9 (i : Nat) : am_run d C J X E (.getstatic 713 :: is) ls (.inr (.inr (11, i)) :: st) σ = (am_run d C J X E is ls (.inr (.inr (109, 0)) :: st) σ) := rfl
theorem as_getr11_10 (i : Nat) : am_run d C J X E (.getstatic 714 :: is) ls (.inr (.inr (11, i)) :: st) σ = (am_run d C J X E is ls (.inr (.inr (110, 0)) :: st) σ) := rfl
theorem as_getr11_11 (i : Nat) : am_run d C J X E (.getstatic 715 :: is) ls (.inr (.inr (11, i)) :: st) σ = (am_run d C J X E is ls (.inr (.inr (111, 0)) :: st) σ) := rfl
theorem as_getr11_14 (i : Nat) : am_run d C J X E (.getstatic 718 :: is) ls (.inr (.inr (11, i)) :: st) σ = (am_run d C J X E is ls (.inr (.inr (114, 0)) :: st) σ) := rfl
theorem as_getr11_15 (i : Nat) : am_run d C J X E (.getstatic 719 :: is) ls (.inr (.inr (11, i)) :: st) σ = (am_run d C J X E is ls (.inr (.inr (115, 0)) :: st) σ) := rfl
theorem as_getr11_17 (i : Nat) : am_run d C J X E (.getstatic 721 :: is) ls (.inr (.inr (11, i)) :: st) σ = (am_run d C J X E is ls (.inr (.inr (117, 0)) :: st) σ) := rfl
theorem as_getr11_18 (i : Nat) : am_run d C J X E (.getstatic 722 :: is) ls (.inr (.inr (11, i)) :: st) σ = (am_run d C J X E is ls (.inr (.inr (118, 0)) :: st) σ) := rfl
theorem as_getr11_19 (i : Nat) : am_run d C J X E (.getstatic 723 :: is) ls (.inr (.inr (11, i)) :: st) σ = (am_run d C J X E is ls (.inr (.inr (119, 0)) :: st) σ) := rfl
theorem as_getr11_20 (i : Nat) : am_run d C J X E (.getstatic 724 :: is) ls (.inr (.inr (11, i)) :: st) σ = (am_run d C J X E is ls (.inr (.inr (120, 0)) :: st) σ) := rfl
theorem as_getr11_21 (i : Nat) : am_run d C J X E (.getstatic 725 :: is) ls (.inr (.inr (11, i)) :: st) σ = (am_run d C J X E is ls (.inr (.inr (121, 0)) :: st) σ) := rfl
theorem as_getr11_22 (i : Nat) : am_run d C J X E (.getstatic 726 :: is) ls (.inr (.inr (11, i)) :: st) σ = (am_run d C J X E is ls (.inr (.inr (122, 0)) :: st) σ) := rfl
theorem as_getr11_23 (i : Nat) : am_run d C J X E (.getstatic 727 :: is) ls (.inr (.inr (11, i)) :: st) σ = (am_run d C J X E is ls (.inr (.inr (123, 0)) :: st) σ) := rfl
theorem as_getr11_24 (i : Nat) : am_run d C J X E (.getstatic 728 :: is) ls (.inr (.inr (11, i)) :: st) σ = (am_run d C J X E is ls (.inr (.inr (124, 0)) :: st) σ) := rfl
theorem as_getr11_25 (i : Nat) : am_run d C J X E (.getstatic 729 :: is) ls (.inr (.inr (11, i)) :: st) σ = (am_run d C J X E is ls (.inr (.inr (125, 0)) :: st) σ) := rfl
theorem as_getr11_26 (i : Nat) : am_run d C J X E (.getstatic 730 :: is) ls (.inr (.inr (11, i)) :: st) σ = (am_run d C J X E is ls (.inr (.inr (126, 0)) :: st) σ) := rfl
theorem as_getr11_27 (i : Nat) : am_run d C J X E (.getstatic 731 :: is) ls (.inr (.inr (11, i)) :: st) σ = (am_run d C J X E is ls (.inr (.inr (127, 0)) :: st) σ) := rfl
theorem as_getr11_29 (i : Nat) : am_run d C J X E (.getstatic 733 :: is) ls (.inr (.inr (11, i)) :: st) σ = (am_run d C J X E is ls (.inr (.inr (129, 0)) :: st) σ) := rfl
theorem as_getr11_30 (i : Nat) : am_run d C J X E (.getstatic 734 :: is) ls (.inr (.inr (11, i)) :: st) σ = (am_run d C J X E is ls (.inr (.inr (130, 0)) :: st) σ) := rfl
theorem as_getr11_31 (i : Nat) : am_run d C J X E (.getstatic 735 :: is) ls (.inr (.inr (11, i)) :: st) σ = (am_run d C J X E is ls (.inr (.inr (131, 0)) :: st) σ) := rfl
theorem as_getr11_33 (i : Nat) : am_run d C J X E (.getstatic 737 :: is) ls (.inr (.inr (11, i)) :: st) σ = (am_run d C J X E is ls (.inr (.inr (133, 0)) :: st) σ) := rfl
theorem as_getr11_35 (i : Nat) : am_run d C J X E (.getstatic 739 :: is) ls (.inr (.inr (11, i)) :: st) σ = (am_run d C J X E is ls (.inr (.inr (135, 0)) :: st) σ) := rfl
theorem as_getr11_36 (i : Nat) : am_run d C J X E (.getstatic 740 :: is) ls (.inr (.inr (11, i)) :: st) σ = (am_run d C J X E is ls (.inr (.inr (136, 0)) :: st) σ) := rfl
theorem as_getr11_37 (i : Nat) : am_run d C J X E (.getstatic 741 :: is) ls (.inr (.inr (11, i)) :: st) σ = (am_run d C J X E is ls (.inr (.inr (137, 0)) :: st) σ) := rfl
theorem as_getr11_38 (i : Nat) : am_run d C J X E (.getstatic 742 :: is) ls (.inr (.inr (11, i)) :: st) σ = (am_run d C J X E is ls (.inr (.inr (138, 0)) :: st) σ) := rfl
theorem as_getr11_39 (i : Nat) : am_run d C J X E (.getstatic 743 :: is) ls (.inr (.inr (11, i)) :: st) σ = (am_run d C J X E is ls (.inr (.inr (139, 0)) :: st) σ) := rfl
theorem as_getr11_40 (i : Nat) : am_run d C J X E (.getstatic 744 :: is) ls (.inr (.inr (11, i)) :: st) σ = (am_run d C J X E is ls (.inr (.inr (140, 0)) :: st) σ) := rfl
theorem as_getr11_41 (i : Nat) : am_run d C J X E (.getstatic 745 :: is) ls (.inr (.inr (11, i)) :: st) σ = (am_run d C J X E is ls (.inr (.inr (141, 0)) :: st) σ) := rfl
theorem as_getr11_42 (i : Nat) : am_run d C J X E (.getstatic 746 :: is) ls (.inr (.inr (11, i)) :: st) σ = (am_run d C J X E is ls (.inr (.inr (142, 0)) :: st) σ) := rfl
theorem as_getr11_43 (i : Nat) : am_run d C J X E (.getstatic 747 :: is) ls (.inr (.inr (11, i)) :: st) σ = (am_run d C J X E is ls (.inr (.inr (143, 0)) :: st) σ) := rfl
theorem as_getr11_44 (i : Nat) : am_run d C J X E (.getstatic 748 :: is) ls (.inr (.inr (11, i)) :: st) σ = (am_run d C J X E is ls (.inr (.inr (144, 0)) :: st) σ) := rfl
theorem as_putd (g v i : Nat) : am_run d C J X E (.putstatic g :: is) ls (.inr (.inr (7, v)) :: .inr (.inr (10, i)) :: st) σ = (am_run d C J X E is ls st (am_setD σ g v)) := rfl
theorem as_putz3_9 (i : Nat) (v : Int) : am_run d C J X E (.instanceof 201 :: is) ls (.inl v :: .inr (.inr (3, i)) :: st) σ = ((v = 0 ∨ v = 1) ∧ am_run d C J X E is ls st (am_set σ 3 i 9 v)) := rfl
theorem as_putz3_10 (i : Nat) (v : Int) : am_run d C J X E (.instanceof 202 :: is) ls (.inl v :: .inr (.inr (3, i)) :: st) σ = ((v = 0 ∨ v = 1) ∧ am_run d C J X E is ls st (am_set σ 3 i 10 v)) := rfl
theorem as_putz7_2 (i : Nat) (v : Int) : am_run d C J X E (.instanceof 450 :: is) ls (.inl v :: .inr (.inr (7, i)) :: st) σ = ((v = 0 ∨ v = 1) ∧ am_run d C J X E is ls st (am_set σ 7 i 2 v)) := rfl
theorem as_ld12 (i : Nat) (x : Int) : am_run d C J X E (.iaload :: is) ls (.inl x :: .inr (.inr (12, i)) :: st) σ = ((0 ≤ x ∧ x < 20) ∧ am_run d C J X E is ls (.inl (σ.1 12 i x.toNat) :: st) σ) := rfl
theorem as_st12 (i : Nat) (x v : Int) : am_run d C J X E (.iastore :: is) ls (.inl v :: .inl x :: .inr (.inr (12, i)) :: st) σ = ((0 ≤ x ∧ x < 20) ∧ am_run d C J X E is ls st (am_set σ 12 i x.toNat v)) := rfl
theorem as_ld24 (i : Nat) (x : Int) : am_run d C J X E (.laload :: is) ls (.inl x :: .inr (.inr (24, i)) :: st) σ = ((0 ≤ x ∧ x < 1024) ∧ am_run d C J X E is ls (.inr (.inl (σ.2.1 24 x.toNat)) :: st) σ) := rfl
theorem as_st24 (i : Nat) (x : Int) (v : Int64) : am_run d C J X E (.lastore :: is) ls (.inr (.inl v) :: .inl x :: .inr (.inr (24, i)) :: st) σ = ((0 ≤ x ∧ x < 1024) ∧ am_run d C J X E is ls st (am_setL σ 24 x.toNat v)) := rfl
theorem as_ld31 (i : Nat) (x : Int) : am_run d C J X E (.caload :: is) ls (.inl x :: .inr (.inr (31, i)) :: st) σ = ((0 ≤ x ∧ x < 60) ∧ am_run d C J X E is ls (.inl (σ.1 31 i x.toNat) :: st) σ) := rfl
theorem as_st31 (i : Nat) (x v : Int) : am_run d C J X E (.castore :: is) ls (.inl v :: .inl x :: .inr (.inr (31, i)) :: st) σ = (((0 ≤ x ∧ x < 60) ∧ (0 ≤ v ∧ v < 65536)) ∧ am_run d C J X E is ls st (am_set σ 31 i x.toNat v)) := rfl
theorem as_ld41 (i : Nat) (x : Int) : am_run d C J X E (.caload :: is) ls (.inl x :: .inr (.inr (41, i)) :: st) σ = ((0 ≤ x ∧ x < 37) ∧ am_run d C J X E is ls (.inl (σ.1 41 i x.toNat) :: st) σ) := rfl
theorem as_st41 (i : Nat) (x v : Int) : am_run d C J X E (.castore :: is) ls (.inl v :: .inl x :: .inr (.inr (41, i)) :: st) σ = (((0 ≤ x ∧ x < 37) ∧ (0 ≤ v ∧ v < 65536)) ∧ am_run d C J X E is ls st (am_set σ 41 i x.toNat v)) := rfl
theorem as_ld70 (i : Nat) (x : Int) : am_run d C J X E (.laload :: is) ls (.inl x :: .inr (.inr (70, i)) :: st) σ = ((0 ≤ x ∧ x < 1) ∧ am_run d C J X E is ls (.inr (.inl (σ.2.1 70 x.toNat)) :: st) σ) := rfl
theorem as_st70 (i : Nat) (x : Int) (v : Int64) : am_run d C J X E (.lastore :: is) ls (.inr (.inl v) :: .inl x :: .inr (.inr (70, i)) :: st) σ = ((0 ≤ x ∧ x < 1) ∧ am_run d C J X E is ls st (am_setL σ 70 x.toNat v)) := rfl
theorem as_ld71 (i : Nat) (x : Int) : am_run d C J X E (.iaload :: is) ls (.inl x :: .inr (.inr (71, i)) :: st) σ = ((0 ≤ x ∧ x < σ.1 72 0 0) ∧ am_run d C J X E is ls (.inl (σ.1 71 i x.toNat) :: st) σ) := rfl
theorem as_ld20 (i : Nat) (x : Int) : am_run d C J X E (.iaload :: is) ls (.inl x :: .inr (.inr (20, i)) :: st) σ = ((0 ≤ x ∧ x < 80) ∧ am_run d C J X E is ls (.inl (σ.1 20 i x.toNat) :: st) σ) := rfl
theorem as_st20 (i : Nat) (x v : Int) : am_run d C J X E (.iastore :: is) ls (.inl v :: .inl x :: .inr (.inr (20, i)) :: st) σ = ((0 ≤ x ∧ x < 80) ∧ am_run d C J X E is ls st (am_set σ 20 i x.toNat v)) := rfl
theorem as_ld21 (i : Nat) (x : Int) : am_run d C J X E (.iaload :: is) ls (.inl x :: .inr (.inr (21, i)) :: st) σ = ((0 ≤ x ∧ x < 80) ∧ am_run d C J X E is ls (.inl (σ.1 21 i x.toNat) :: st) σ) := rfl
theorem as_st21 (i : Nat) (x v : Int) : am_run d C J X E (.iastore :: is) ls (.inl v :: .inl x :: .inr (.inr (21, i)) :: st) σ = ((0 ≤ x ∧ x < 80) ∧ am_run d C J X E is ls st (am_set σ 21 i x.toNat v)) := rfl
theorem as_ld22 (i : Nat) (x : Int) : am_run d C J X E (.iaload :: is) ls (.inl x :: .inr (.inr (22, i)) :: st) σ = ((0 ≤ x ∧ x < 80) ∧ am_run d C J X E is ls (.inl (σ.1 22 i x.toNat) :: st) σ) := rfl
theorem as_st22 (i : Nat) (x v : Int) : am_run d C J X E (.iastore :: is) ls (.inl v :: .inl x :: .inr (.inr (22, i)) :: st) σ = ((0 ≤ x ∧ x < 80) ∧ am_run d C J X E is ls st (am_set σ 22 i x.toNat v)) := rfl
theorem as_ld23 (i : Nat) (x : Int) : am_run d C J X E (.iaload :: is) ls (.inl x :: .inr (.inr (23, i)) :: st) σ = ((0 ≤ x ∧ x < 80) ∧ am_run d C J X E is ls (.inl (σ.1 23 i x.toNat) :: st) σ) := rfl
theorem as_st23 (i : Nat) (x v : Int) : am_run d C J X E (.iastore :: is) ls (.inl v :: .inl x :: .inr (.inr (23, i)) :: st) σ = ((0 ≤ x ∧ x < 80) ∧ am_run d C J X E is ls st (am_set σ 23 i x.toNat v)) := rfl
theorem as_ld33 (i : Nat) (x : Int) : am_run d C J X E (.iaload :: is) ls (.inl x :: .inr (.inr (33, i)) :: st) σ = ((0 ≤ x ∧ x < 8) ∧ am_run d C J X E is ls (.inl (σ.1 33 i x.toNat) :: st) σ) := rfl
theorem as_st33 (i : Nat) (x v : Int) : am_run d C J X E (.iastore :: is) ls (.inl v :: .inl x :: .inr (.inr (33, i)) :: st) σ = ((0 ≤ x ∧ x < 8) ∧ am_run d C J X E is ls st (am_set σ 33 i x.toNat v)) := rfl
theorem as_ld34 (i : Nat) (x : Int) : am_run d C J X E (.iaload :: is) ls (.inl x :: .inr (.inr (34, i)) :: st) σ = ((0 ≤ x ∧ x < 8) ∧ am_run d C J X E is ls (.inl (σ.1 34 i x.toNat) :: st) σ) := rfl
theorem as_st34 (i : Nat) (x v : Int) : am_run d C J X E (.iastore :: is) ls (.inl v :: .inl x :: .inr (.inr (34, i)) :: st) σ = ((0 ≤ x ∧ x < 8) ∧ am_run d C J X E is ls st (am_set σ 34 i x.toNat v)) := rfl
theorem as_ld35 (i : Nat) (x : Int) : am_run d C J X E (.iaload :: is) ls (.inl x :: .inr (.inr (35, i)) :: st) σ = ((0 ≤ x ∧ x < 8) ∧ am_run d C J X E is ls (.inl (σ.1 35 i x.toNat) :: st) σ) := rfl
theorem as_st35 (i : Nat) (x v : Int) : am_run d C J X E (.iastore :: is) ls (.inl v :: .inl x :: .inr (.inr (35, i)) :: st) σ = ((0 ≤ x ∧ x < 8) ∧ am_run d C J X E is ls st (am_set σ 35 i x.toNat v)) := rfl
theorem as_ld102 (i : Nat) (x : Int) : am_run d C J X E (.baload :: is) ls (.inl x :: .inr (.inr (102, i)) :: st) σ = ((0 ≤ x ∧ x < 30) ∧ am_run d C J X E is ls (.inl (σ.1 102 i x.toNat) :: st) σ) := rfl
theorem as_st102 (i : Nat) (x v : Int) : am_run d C J X E (.bastore :: is) ls (.inl v :: .inl x :: .inr (.inr (102, i)) :: st) σ = (((0 ≤ x ∧ x < 30) ∧ (v = 0 ∨ v = 1)) ∧ am_run d C J X E is ls st (am_set σ 102 i x.toNat v)) := rfl
theorem as_ld103 (i : Nat) (x : Int) : am_run d C J X E (.iaload :: is) ls (.inl x :: .inr (.inr (103, i)) :: st) σ = ((0 ≤ x ∧ x < 30) ∧ am_run d C J X E is ls (.inl (σ.1 103 i x.toNat) :: st) σ) := rfl
theorem as_st103 (i : Nat) (x v : Int) : am_run d C J X E (.iastore :: is) ls (.inl v :: .inl x :: .inr (.inr (103, i)) :: st) σ = ((0 ≤ x ∧ x < 30) ∧ am_run d C J X E is ls st (am_set σ 103 i x.toNat v)) := rfl
theorem as_ld104 (i : Nat) (x : Int) : am_run d C J X E (.iaload :: is) ls (.inl x :: .inr (.inr (104, i)) :: st) σ = ((0 ≤ x ∧ x < 30) ∧ am_run d C J X E is ls (.inl (σ.1 104 i x.toNat) :: st) σ) := rfl
theorem as_st104 (i : Nat) (x v : Int) : am_run d C J X E (.iastore :: is) ls (.inl v :: .inl x :: .inr (.inr (104, i)) :: st) σ = ((0 ≤ x ∧ x < 30) ∧ am_run d C J X E is ls st (am_set σ 104 i x.toNat v)) := rfl
theorem as_ld105 (i : Nat) (x : Int) : am_run d C J X E (.iaload :: is) ls (.inl x :: .inr (.inr (105, i)) :: st) σ = ((0 ≤ x ∧ x < 30) ∧ am_run d C J X E is ls (.inl (σ.1 105 i x.toNat) :: st) σ) := rfl
theorem as_st105 (i : Nat) (x v : Int) : am_run d C J X E (.iastore :: is) ls (.inl v :: .inl x :: .inr (.inr (105, i)) :: st) σ = ((0 ≤ x ∧ x < 30) ∧ am_run d C J X E is ls st (am_set σ 105 i x.toNat v)) := rfl
theorem as_ld107 (i : Nat) (x : Int) : am_run d C J X E (.iaload :: is) ls (.inl x :: .inr (.inr (107, i)) :: st) σ = ((0 ≤ x ∧ x < 60) ∧ am_run d C J X E is ls (.inl (σ.1 107 i x.toNat) :: st) σ) := rfl
theorem as_st107 (i : Nat) (x v : Int) : am_run d C J X E (.iastore :: is) ls (.inl v :: .inl x :: .inr (.inr (107, i)) :: st) σ = ((0 ≤ x ∧ x < 60) ∧ am_run d C J X E is ls st (am_set σ 107 i x.toNat v)) := rfl
theorem as_ld108 (i : Nat) (x : Int) : am_run d C J X E (.iaload :: is) ls (.inl x :: .inr (.inr (108, i)) :: st) σ = ((0 ≤ x ∧ x < 8) ∧ am_run d C J X E is ls (.inl (σ.1 108 i x.toNat) :: st) σ) := rfl
theorem as_st108 (i : Nat) (x v : Int) : am_run d C J X E (.iastore :: is) ls (.inl v :: .inl x :: .inr (.inr (108, i)) :: st) σ = ((0 ≤ x ∧ x < 8) ∧ am_run d C J X E is ls st (am_set σ 108 i x.toNat v)) := rfl
theorem as_ld109 (i : Nat) (x : Int) : am_run d C J X E (.iaload :: is) ls (.inl x :: .inr (.inr (109, i)) :: st) σ = ((0 ≤ x ∧ x < 8) ∧ am_run d C J X E is ls (.inl (σ.1 109 i x.toNat) :: st) σ) := rfl
theorem as_st109 (i : Nat) (x v : Int) : am_run d C J X E (.iastore :: is) ls (.inl v :: .inl x :: .inr (.inr (109, i)) :: st) σ = ((0 ≤ x ∧ x < 8) ∧ am_run d C J X E is ls st (am_set σ 109 i x.toNat v)) := rfl
theorem as_ld110 (i : Nat) (x : Int) : am_run d C J X E (.iaload :: is) ls (.inl x :: .inr (.inr (110, i)) :: st) σ = ((0 ≤ x ∧ x < 8) ∧ am_run d C J X E is ls (.inl (σ.1 110 i x.toNat) :: st) σ) := rfl
theorem as_st110 (i : Nat) (x v : Int) : am_run d C J X E (.iastore :: is) ls (.inl v :: .inl x :: .inr (.inr (110, i)) :: st) σ = ((0 ≤ x ∧ x < 8) ∧ am_run d C J X E is ls st (am_set σ 110 i x.toNat v)) := rfl
theorem as_ld111 (i : Nat) (x : Int) : am_run d C J X E (.baload :: is) ls (.inl x :: .inr (.inr (111, i)) :: st) σ = ((0 ≤ x ∧ x < 8) ∧ am_run d C J X E is ls (.inl (σ.1 111 i x.toNat) :: st) σ) := rfl
theorem as_st111 (i : Nat) (x v : Int) : am_run d C J X E (.bastore :: is) ls (.inl v :: .inl x :: .inr (.inr (111, i)) :: st) σ = (((0 ≤ x ∧ x < 8) ∧ (v = 0 ∨ v = 1)) ∧ am_run d C J X E is ls st (am_set σ 111 i x.toNat v)) := rfl
theorem as_ld114 (i : Nat) (x : Int) : am_run d C J X E (.iaload :: is) ls (.inl x :: .inr (.inr (114, i)) :: st) σ = ((0 ≤ x ∧ x < 40) ∧ am_run d C J X E is ls (.inl (σ.1 114 i x.toNat) :: st) σ) := rfl
theorem as_st114 (i : Nat) (x v : Int) : am_run d C J X E (.iastore :: is) ls (.inl v :: .inl x :: .inr (.inr (114, i)) :: st) σ = ((0 ≤ x ∧ x < 40) ∧ am_run d C J X E is ls st (am_set σ 114 i x.toNat v)) := rfl
theorem as_ld115 (i : Nat) (x : Int) : am_run d C J X E (.iaload :: is) ls (.inl x :: .inr (.inr (115, i)) :: st) σ = ((0 ≤ x ∧ x < 40) ∧ am_run d C J X E is ls (.inl (σ.1 115 i x.toNat) :: st) σ) := rfl
theorem as_st115 (i : Nat) (x v : Int) : am_run d C J X E (.iastore :: is) ls (.inl v :: .inl x :: .inr (.inr (115, i)) :: st) σ = ((0 ≤ x ∧ x < 40) ∧ am_run d C J X E is ls st (am_set σ 115 i x.toNat v)) := rfl
theorem as_ld117 (i : Nat) (x : Int) : am_run d C J X E (.iaload :: is) ls (.inl x :: .inr (.inr (117, i)) :: st) σ = ((0 ≤ x ∧ x < 8) ∧ am_run d C J X E is ls (.inl (σ.1 117 i x.toNat) :: st) σ) := rfl
theorem as_st117 (i : Nat) (x v : Int) : am_run d C J X E (.iastore :: is) ls (.inl v :: .inl x :: .inr (.inr (117, i)) :: st) σ = ((0 ≤ x ∧ x < 8) ∧ am_run d C J X E is ls st (am_set σ 117 i x.toNat v)) := rfl
theorem as_ld118 (i : Nat) (x : Int) : am_run d C J X E (.iaload :: is) ls (.inl x :: .inr (.inr (118, i)) :: st) σ = ((0 ≤ x ∧ x < 640) ∧ am_run d C J X E is ls (.inl (σ.1 118 i x.toNat) :: st) σ) := rfl
theorem as_st118 (i : Nat) (x v : Int) : am_run d C J X E (.iastore :: is) ls (.inl v :: .inl x :: .inr (.inr (118, i)) :: st) σ = ((0 ≤ x ∧ x < 640) ∧ am_run d C J X E is ls st (am_set σ 118 i x.toNat v)) := rfl
theorem as_ld119 (i : Nat) (x : Int) : am_run d C J X E (.iaload :: is) ls (.inl x :: .inr (.inr (119, i)) :: st) σ = ((0 ≤ x ∧ x < 640) ∧ am_run d C J X E is ls (.inl (σ.1 119 i x.toNat) :: st) σ) := rfl
theorem as_st119 (i : Nat) (x v : Int) : am_run d C J X E (.iastore :: is) ls (.inl v :: .inl x :: .inr (.inr (119, i)) :: st) σ = ((0 ≤ x ∧ x < 640) ∧ am_run d C J X E is ls st (am_set σ 119 i x.toNat v)) := rfl
theorem as_ld120 (i : Nat) (x : Int) : am_run d C J X E (.iaload :: is) ls (.inl x :: .inr (.inr (120, i)) :: st) σ = ((0 ≤ x ∧ x < 640) ∧ am_run d C J X E is ls (.inl (σ.1 120 i x.toNat) :: st) σ) := rfl
theorem as_st120 (i : Nat) (x v : Int) : am_run d C J X E (.iastore :: is) ls (.inl v :: .inl x :: .inr (.inr (120, i)) :: st) σ = ((0 ≤ x ∧ x < 640) ∧ am_run d C J X E is ls st (am_set σ 120 i x.toNat v)) := rfl
theorem as_ld121 (i : Nat) (x : Int) : am_run d C J X E (.iaload :: is) ls (.inl x :: .inr (.inr (121, i)) :: st) σ = ((0 ≤ x ∧ x < 640) ∧ am_run d C J X E is ls (.inl (σ.1 121 i x.toNat) :: st) σ) := rfl
theorem as_st121 (i : Nat) (x v : Int) : am_run d C J X E (.iastore :: is) ls (.inl v :: .inl x :: .inr (.inr (121, i)) :: st) σ = ((0 ≤ x ∧ x < 640) ∧ am_run d C J X E is ls st (am_set σ 121 i x.toNat v)) := rfl
theorem as_ld122 (i : Nat) (x : Int) : am_run d C J X E (.iaload :: is) ls (.inl x :: .inr (.inr (122, i)) :: st) σ = ((0 ≤ x ∧ x < 640) ∧ am_run d C J X E is ls (.inl (σ.1 122 i x.toNat) :: st) σ) := rfl
theorem as_st122 (i : Nat) (x v : Int) : am_run d C J X E (.iastore :: is) ls (.inl v :: .inl x :: .inr (.inr (122, i)) :: st) σ = ((0 ≤ x ∧ x < 640) ∧ am_run d C J X E is ls st (am_set σ 122 i x.toNat v)) := rfl
theorem as_ld123 (i : Nat) (x : Int) : am_run d C J X E (.iaload :: is) ls (.inl x :: .inr (.inr (123, i)) :: st) σ = ((0 ≤ x ∧ x < 640) ∧ am_run d C J X E is ls (.inl (σ.1 123 i x.toNat) :: st) σ) := rfl
theorem as_st123 (i : Nat) (x v : Int) : am_run d C J X E (.iastore :: is) ls (.inl v :: .inl x :: .inr (.inr (123, i)) :: st) σ = ((0 ≤ x ∧ x < 640) ∧ am_run d C J X E is ls st (am_set σ 123 i x.toNat v)) := rfl
theorem as_ld124 (i : Nat) (x : Int) : am_run d C J X E (.iaload :: is) ls (.inl x :: .inr (.inr (124, i)) :: st) σ = ((0 ≤ x ∧ x < 640) ∧ am_run d C J X E is ls (.inl (σ.1 124 i x.toNat) :: st) σ) := rfl
theorem as_st124 (i : Nat) (x v : Int) : am_run d C J X E (.iastore :: is) ls (.inl v :: .inl x :: .inr (.inr (124, i)) :: st) σ = ((0 ≤ x ∧ x < 640) ∧ am_run d C J X E is ls st (am_set σ 124 i x.toNat v)) := rfl
theorem as_ld125 (i : Nat) (x : Int) : am_run d C J X E (.iaload :: is) ls (.inl x :: .inr (.inr (125, i)) :: st) σ = ((0 ≤ x ∧ x < 15360) ∧ am_run d C J X E is ls (.inl (σ.1 125 i x.toNat) :: st) σ) := rfl
theorem as_st125 (i : Nat) (x v : Int) : am_run d C J X E (.iastore :: is) ls (.inl v :: .inl x :: .inr (.inr (125, i)) :: st) σ = ((0 ≤ x ∧ x < 15360) ∧ am_run d C J X E is ls st (am_set σ 125 i x.toNat v)) := rfl
theorem as_ld126 (i : Nat) (x : Int) : am_run d C J X E (.baload :: is) ls (.inl x :: .inr (.inr (126, i)) :: st) σ = ((0 ≤ x ∧ x < 640) ∧ am_run d C J X E is ls (.inl (σ.1 126 i x.toNat) :: st) σ) := rfl
theorem as_st126 (i : Nat) (x v : Int) : am_run d C J X E (.bastore :: is) ls (.inl v :: .inl x :: .inr (.inr (126, i)) :: st) σ = (((0 ≤ x ∧ x < 640) ∧ (v = 0 ∨ v = 1)) ∧ am_run d C J X E is ls st (am_set σ 126 i x.toNat v)) := rfl
theorem as_ld127 (i : Nat) (x : Int) : am_run d C J X E (.iaload :: is) ls (.inl x :: .inr (.inr (127, i)) :: st) σ = ((0 ≤ x ∧ x < 640) ∧ am_run d C J X E is ls (.inl (σ.1 127 i x.toNat) :: st) σ) := rfl
theorem as_st127 (i : Nat) (x v : Int) : am_run d C J X E (.iastore :: is) ls (.inl v :: .inl x :: .inr (.inr (127, i)) :: st) σ = ((0 ≤ x ∧ x < 640) ∧ am_run d C J X E is ls st (am_set σ 127 i x.toNat v)) := rfl
theorem as_ld129 (i : Nat) (x : Int) : am_run d C J X E (.iaload :: is) ls (.inl x :: .inr (.inr (129, i)) :: st) σ = ((0 ≤ x ∧ x < 5) ∧ am_run d C J X E is ls (.inl (σ.1 129 i x.toNat) :: st) σ) := rfl
theorem as_st129 (i : Nat) (x v : Int) : am_run d C J X E (.iastore :: is) ls (.inl v :: .inl x :: .inr (.inr (129, i)) :: st) σ = ((0 ≤ x ∧ x < 5) ∧ am_run d C J X E is ls st (am_set σ 129 i x.toNat v)) := rfl
theorem as_ld130 (i : Nat) (x : Int) : am_run d C J X E (.iaload :: is) ls (.inl x :: .inr (.inr (130, i)) :: st) σ = ((0 ≤ x ∧ x < 128) ∧ am_run d C J X E is ls (.inl (σ.1 130 i x.toNat) :: st) σ) := rfl
theorem as_st130 (i : Nat) (x v : Int) : am_run d C J X E (.iastore :: is) ls (.inl v :: .inl x :: .inr (.inr (130, i)) :: st) σ = ((0 ≤ x ∧ x < 128) ∧ am_run d C J X E is ls st (am_set σ 130 i x.toNat v)) := rfl
theorem as_ld131 (i : Nat) (x : Int) : am_run d C J X E (.baload :: is) ls (.inl x :: .inr (.inr (131, i)) :: st) σ = ((0 ≤ x ∧ x < 128) ∧ am_run d C J X E is ls (.inl (σ.1 131 i x.toNat) :: st) σ) := rfl
theorem as_st131 (i : Nat) (x v : Int) : am_run d C J X E (.bastore :: is) ls (.inl v :: .inl x :: .inr (.inr (131, i)) :: st) σ = (((0 ≤ x ∧ x < 128) ∧ (v = 0 ∨ v = 1)) ∧ am_run d C J X E is ls st (am_set σ 131 i x.toNat v)) := rfl
theorem as_ld133 (i : Nat) (x : Int) : am_run d C J X E (.iaload :: is) ls (.inl x :: .inr (.inr (133, i)) :: st) σ = ((0 ≤ x ∧ x < 64) ∧ am_run d C J X E is ls (.inl (σ.1 133 i x.toNat) :: st) σ) := rfl
theorem as_st133 (i : Nat) (x v : Int) : am_run d C J X E (.iastore :: is) ls (.inl v :: .inl x :: .inr (.inr (133, i)) :: st) σ = ((0 ≤ x ∧ x < 64) ∧ am_run d C J X E is ls st (am_set σ 133 i x.toNat v)) := rfl
theorem as_ld135 (i : Nat) (x : Int) : am_run d C J X E (.iaload :: is) ls (.inl x :: .inr (.inr (135, i)) :: st) σ = ((0 ≤ x ∧ x < 5440) ∧ am_run d C J X E is ls (.inl (σ.1 135 i x.toNat) :: st) σ) := rfl
theorem as_st135 (i : Nat) (x v : Int) : am_run d C J X E (.iastore :: is) ls (.inl v :: .inl x :: .inr (.inr (135, i)) :: st) σ = ((0 ≤ x ∧ x < 5440) ∧ am_run d C J X E is ls st (am_set σ 135 i x.toNat v)) := rfl
theorem as_ld136 (i : Nat) (x : Int) : am_run d C J X E (.iaload :: is) ls (.inl x :: .inr (.inr (136, i)) :: st) σ = ((0 ≤ x ∧ x < 680) ∧ am_run d C J X E is ls (.inl (σ.1 136 i x.toNat) :: st) σ) := rfl
theorem as_st136 (i : Nat) (x v : Int) : am_run d C J X E (.iastore :: is) ls (.inl v :: .inl x :: .inr (.inr (136, i)) :: st) σ = ((0 ≤ x ∧ x < 680) ∧ am_run d C J X E is ls st (am_set σ 136 i x.toNat v)) := rfl
theorem as_ld137 (i : Nat) (x : Int) : am_run d C J X E (.laload :: is) ls (.inl x :: .inr (.inr (137, i)) :: st) σ = ((0 ≤ x ∧ x < 680) ∧ am_run d C J X E is ls (.inr (.inl (σ.2.1 137 x.toNat)) :: st) σ) := rfl
theorem as_st137 (i : Nat) (x : Int) (v : Int64) : am_run d C J X E (.lastore :: is) ls (.inr (.inl v) :: .inl x :: .inr (.inr (137, i)) :: st) σ = ((0 ≤ x ∧ x < 680) ∧ am_run d C J X E is ls st (am_setL σ 137 x.toNat v)) := rfl
theorem as_ld138 (i : Nat) (x : Int) : am_run d C J X E (.iaload :: is) ls (.inl x :: .inr (.inr (138, i)) :: st) σ = ((0 ≤ x ∧ x < 680) ∧ am_run d C J X E is ls (.inl (σ.1 138 i x.toNat) :: st) σ) := rfl
theorem as_st138 (i : Nat) (x v : Int) : am_run d C J X E (.iastore :: is) ls (.inl v :: .inl x :: .inr (.inr (138, i)) :: st) σ = ((0 ≤ x ∧ x < 680) ∧ am_run d C J X E is ls st (am_set σ 138 i x.toNat v)) := rfl
theorem as_ld139 (i : Nat) (x : Int) : am_run d C J X E (.iaload :: is) ls (.inl x :: .inr (.inr (139, i)) :: st) σ = ((0 ≤ x ∧ x < 680) ∧ am_run d C J X E is ls (.inl (σ.1 139 i x.toNat) :: st) σ) := rfl
theorem as_st139 (i : Nat) (x v : Int) : am_run d C J X E (.iastore :: is) ls (.inl v :: .inl x :: .inr (.inr (139, i)) :: st) σ = ((0 ≤ x ∧ x < 680) ∧ am_run d C J X E is ls st (am_set σ 139 i x.toNat v)) := rfl
theorem as_ld140 (i : Nat) (x : Int) : am_run d C J X E (.iaload :: is) ls (.inl x :: .inr (.inr (140, i)) :: st) σ = ((0 ≤ x ∧ x < 680) ∧ am_run d C J X E is ls (.inl (σ.1 140 i x.toNat) :: st) σ) := rfl
theorem as_st140 (i : Nat) (x v : Int) : am_run d C J X E (.iastore :: is) ls (.inl v :: .inl x :: .inr (.inr (140, i)) :: st) σ = ((0 ≤ x ∧ x < 680) ∧ am_run d C J X E is ls st (am_set σ 140 i x.toNat v)) := rfl
theorem as_ld141 (i : Nat) (x : Int) : am_run d C J X E (.iaload :: is) ls (.inl x :: .inr (.inr (141, i)) :: st) σ = ((0 ≤ x ∧ x < 680) ∧ am_run d C J X E is ls (.inl (σ.1 141 i x.toNat) :: st) σ) := rfl
theorem as_st141 (i : Nat) (x v : Int) : am_run d C J X E (.iastore :: is) ls (.inl v :: .inl x :: .inr (.inr (141, i)) :: st) σ = ((0 ≤ x ∧ x < 680) ∧ am_run d C J X E is ls st (am_set σ 141 i x.toNat v)) := rfl
theorem as_ld142 (i : Nat) (x : Int) : am_run d C J X E (.iaload :: is) ls (.inl x :: .inr (.inr (142, i)) :: st) σ = ((0 ≤ x ∧ x < 680) ∧ am_run d C J X E is ls (.inl (σ.1 142 i x.toNat) :: st) σ) := rfl
theorem as_st142 (i : Nat) (x v : Int) : am_run d C J X E (.iastore :: is) ls (.inl v :: .inl x :: .inr (.inr (142, i)) :: st) σ = ((0 ≤ x ∧ x < 680) ∧ am_run d C J X E is ls st (am_set σ 142 i x.toNat v)) := rfl
theorem as_ld143 (i : Nat) (x : Int) : am_run d C J X E (.baload :: is) ls (.inl x :: .inr (.inr (143, i)) :: st) σ = ((0 ≤ x ∧ x < 680) ∧ am_run d C J X E is ls (.inl (σ.1 143 i x.toNat) :: st) σ) := rfl
theorem as_st143 (i : Nat) (x v : Int) : am_run d C J X E (.bastore :: is) ls (.inl v :: .inl x :: .inr (.inr (143, i)) :: st) σ = (((0 ≤ x ∧ x < 680) ∧ (v = 0 ∨ v = 1)) ∧ am_run d C J X E is ls st (am_set σ 143 i x.toNat v)) := rfl
theorem as_ld144 (i : Nat) (x : Int) : am_run d C J X E (.iaload :: is) ls (.inl x :: .inr (.inr (144, i)) :: st) σ = ((0 ≤ x ∧ x < 680) ∧ am_run d C J X E is ls (.inl (σ.1 144 i x.toNat) :: st) σ) := rfl
theorem as_st144 (i : Nat) (x v : Int) : am_run d C J X E (.iastore :: is) ls (.inl v :: .inl x :: .inr (.inr (144, i)) :: st) σ = ((0 ≤ x ∧ x < 680) ∧ am_run d C J X E is ls st (am_set σ 144 i x.toNat v)) := rfl
theorem as_alen71 (i : Nat) : am_run d C J X E (.arraylength :: is) ls (.inr (.inr (71, i)) :: st) σ = (am_run d C J X E is ls (.inl (σ.1 72 0 0) :: st) σ) := rfl
theorem as_aald13 (i : Nat) (x : Int) : am_run d C J X E (.aaload :: is) ls (.inl x :: .inr (.inr (13, i)) :: st) σ = ((0 ≤ x ∧ x < 101) ∧ am_run d C J X E is ls (.inr (.inr (6, 101 * i + x.toNat)) :: st) σ) := rfl
theorem as_aald14 (i : Nat) (x : Int) : am_run d C J X E (.aaload :: is) ls (.inl x :: .inr (.inr (14, i)) :: st) σ = ((0 ≤ x ∧ x < 4) ∧ am_run d C J X E is ls (.inr (.inr (7, x.toNat)) :: st) σ) := rfl
theorem as_icmp_eq (x y t : Int) : am_run d C J X E (.if_icmp .eq t :: is) ls (.inl y :: .inl x :: st) σ = ((x = y → J t.toNat ls st σ) ∧ (¬ (x = y) → am_run d C J X E is ls st σ)) := rfl
theorem as_if_eq (x t : Int) : am_run d C J X E (.ifCond .eq t :: is) ls (.inl x :: st) σ = ((x = 0 → J t.toNat ls st σ) ∧ (¬ (x = 0) → am_run d C J X E is ls st σ)) := rfl
theorem as_icmp_ne (x y t : Int) : am_run d C J X E (.if_icmp .ne t :: is) ls (.inl y :: .inl x :: st) σ = ((x ≠ y → J t.toNat ls st σ) ∧ (¬ (x ≠ y) → am_run d C J X E is ls st σ)) := rfl
theorem as_if_ne (x t : Int) : am_run d C J X E (.ifCond .ne t :: is) ls (.inl x :: st) σ = ((x ≠ 0 → J t.toNat ls st σ) ∧ (¬ (x ≠ 0) → am_run d C J X E is ls st σ)) := rfl
theorem as_icmp_lt (x y t : Int) : am_run d C J X E (.if_icmp .lt t :: is) ls (.inl y :: .inl x :: st) σ = ((x < y → J t.toNat ls st σ) ∧ (¬ (x < y) → am_run d C J X E is ls st σ)) := rfl
theorem as_if_lt (x t : Int) : am_run d C J X E (.ifCond .lt t :: is) ls (.inl x :: st) σ = ((x < 0 → J t.toNat ls st σ) ∧ (¬ (x < 0) → am_run d C J X E is ls st σ)) := rfl
theorem as_icmp_ge (x y t : Int) : am_run d C J X E (.if_icmp .ge t :: is) ls (.inl y :: .inl x :: st) σ = ((y ≤ x → J t.toNat ls st σ) ∧ (¬ (y ≤ x) → am_run d C J X E is ls st σ)) := rfl
theorem as_if_ge (x t : Int) : am_run d C J X E (.ifCond .ge t :: is) ls (.inl x :: st) σ = ((0 ≤ x → J t.toNat ls st σ) ∧ (¬ (0 ≤ x) → am_run d C J X E is ls st σ)) := rfl
theorem as_icmp_gt (x y t : Int) : am_run d C J X E (.if_icmp .gt t :: is) ls (.inl y :: .inl x :: st) σ = ((y < x → J t.toNat ls st σ) ∧ (¬ (y < x) → am_run d C J X E is ls st σ)) := rfl
theorem as_if_gt (x t : Int) : am_run d C J X E (.ifCond .gt t :: is) ls (.inl x :: st) σ = ((0 < x → J t.toNat ls st σ) ∧ (¬ (0 < x) → am_run d C J X E is ls st σ)) := rfl
theorem as_icmp_le (x y t : Int) : am_run d C J X E (.if_icmp .le t :: is) ls (.inl y :: .inl x :: st) σ = ((x ≤ y → J t.toNat ls st σ) ∧ (¬ (x ≤ y) → am_run d C J X E is ls st σ)) := rfl
theorem as_if_le (x t : Int) : am_run d C J X E (.ifCond .le t :: is) ls (.inl x :: st) σ = ((x ≤ 0 → J t.toNat ls st σ) ∧ (¬ (x ≤ 0) → am_run d C J X E is ls st σ)) := rfl
theorem as_goto (t : Int) : am_run d C J X E (.goto t :: is) ls (st) σ = (J t.toNat ls st σ) := rfl
theorem as_fall (t : Int) : am_run d C J X E (.goto_w t :: is) ls (st) σ = (J t.toNat ls st σ) := rfl
theorem as_tsw (df lo hi x : Int) (ts : Array Int) : am_run d C J X E (.tableswitch df lo hi ts :: is) ls (.inl x :: st) σ = ((x < lo ∨ hi < x → J df.toNat ls st σ) ∧ (¬ (x < lo ∨ hi < x) → J ((ts.toList[(x - lo).toNat]?).getD df).toNat ls st σ)) := rfl
theorem as_iret (x : Int) : am_run d C J X E (.ireturn :: is) ls [.inl x] σ = (E (some (.inl x)) σ) := rfl
theorem as_zret (x : Int) : am_run d C J X E (.freturn :: is) ls [.inl x] σ = ((x = 0 ∨ x = 1) ∧ E (some (.inl x)) σ) := rfl
theorem as_cret (x : Int) : am_run d C J X E (.dreturn :: is) ls [.inl x] σ = ((0 ≤ x ∧ x < 65536) ∧ E (some (.inl x)) σ) := rfl
theorem as_lret (x : Int64) : am_run d C J X E (.lreturn :: is) ls [.inr (.inl x)] σ = (E (some (.inr (.inl x))) σ) := rfl
theorem as_aret (a b : Nat) (h : 0 < a) : am_run d C J X E (.areturn :: is) ls [.inr (.inr (a, b))] σ = (E (some (.inr (.inr (a, b)))) σ) := by
  obtain ⟨z, rfl⟩ : ∃ z, a = z + 1 := ⟨a - 1, by omega⟩
  rfl
theorem as_vret  : am_run d C J X E (.return_ :: is) ls [] σ = (E none σ) := rfl
theorem as_thr (e : Nat) : am_run d C J X E (.new e :: is) ls [] σ = ((8 ≤ d ∧ 0 < σ.2.2.2) ∧ X e ls (am_setB σ (σ.2.2.2 - 1))) := rfl
theorem as_ins0 (g : Nat) (hn : g / 2 % 16 = 0) (hl : st.length ≤ 8) (hw : am_wds [] ≤ g / 32 % 32) : am_run d C J X E (.invokestatic g :: is) ls (st) σ = (C g [] σ (am_k X (am_run d C J X E is) ls st)) := by
  show am_cs C X (am_run d C J X E is) g ls (st) σ = _
  unfold am_cs
  rw [if_pos (by rw [hn]; exact ⟨by (try simp only [List.length_cons]); omega, hw⟩), hn]
  rfl
theorem as_ins1 (v0 : am_V) (g : Nat) (hn : g / 2 % 16 = 1) (hl : st.length ≤ 8) (hw : am_wds [v0] ≤ g / 32 % 32) : am_run d C J X E (.invokestatic g :: is) ls (v0 :: st) σ = (C g [v0] σ (am_k X (am_run d C J X E is) ls st)) := by
  show am_cs C X (am_run d C J X E is) g ls (v0 :: st) σ = _
  unfold am_cs
  rw [if_pos (by rw [hn]; exact ⟨by (try simp only [List.length_cons]); omega, hw⟩), hn]
  rfl
theorem as_ins2 (v0 v1 : am_V) (g : Nat) (hn : g / 2 % 16 = 2) (hl : st.length ≤ 8) (hw : am_wds [v0, v1] ≤ g / 32 % 32) : am_run d C J X E (.invokestatic g :: is) ls (v1 :: v0 :: st) σ = (C g [v0, v1] σ (am_k X (am_run d C J X E is) ls st)) := by
  show am_cs C X (am_run d C J X E is) g ls (v1 :: v0 :: st) σ = _
  unfold am_cs
  rw [if_pos (by rw [hn]; exact ⟨by (try simp only [List.length_cons]); omega, hw⟩), hn]
  rfl
theorem as_ins3 (v0 v1 v2 : am_V) (g : Nat) (hn : g / 2 % 16 = 3) (hl : st.length ≤ 8) (hw : am_wds [v0, v1, v2] ≤ g / 32 % 32) : am_run d C J X E (.invokestatic g :: is) ls (v2 :: v1 :: v0 :: st) σ = (C g [v0, v1, v2] σ (am_k X (am_run d C J X E is) ls st)) := by
  show am_cs C X (am_run d C J X E is) g ls (v2 :: v1 :: v0 :: st) σ = _
  unfold am_cs
  rw [if_pos (by rw [hn]; exact ⟨by (try simp only [List.length_cons]); omega, hw⟩), hn]
  rfl
theorem as_ins4 (v0 v1 v2 v3 : am_V) (g : Nat) (hn : g / 2 % 16 = 4) (hl : st.length ≤ 8) (hw : am_wds [v0, v1, v2, v3] ≤ g / 32 % 32) : am_run d C J X E (.invokestatic g :: is) ls (v3 :: v2 :: v1 :: v0 :: st) σ = (C g [v0, v1, v2, v3] σ (am_k X (am_run d C J X E is) ls st)) := by
  show am_cs C X (am_run d C J X E is) g ls (v3 :: v2 :: v1 :: v0 :: st) σ = _
  unfold am_cs
  rw [if_pos (by rw [hn]; exact ⟨by (try simp only [List.length_cons]); omega, hw⟩), hn]
  rfl
theorem as_ins5 (v0 v1 v2 v3 v4 : am_V) (g : Nat) (hn : g / 2 % 16 = 5) (hl : st.length ≤ 8) (hw : am_wds [v0, v1, v2, v3, v4] ≤ g / 32 % 32) : am_run d C J X E (.invokestatic g :: is) ls (v4 :: v3 :: v2 :: v1 :: v0 :: st) σ = (C g [v0, v1, v2, v3, v4] σ (am_k X (am_run d C J X E is) ls st)) := by
  show am_cs C X (am_run d C J X E is) g ls (v4 :: v3 :: v2 :: v1 :: v0 :: st) σ = _
  unfold am_cs
  rw [if_pos (by rw [hn]; exact ⟨by (try simp only [List.length_cons]); omega, hw⟩), hn]
  rfl
theorem as_ins6 (v0 v1 v2 v3 v4 v5 : am_V) (g : Nat) (hn : g / 2 % 16 = 6) (hl : st.length ≤ 8) (hw : am_wds [v0, v1, v2, v3, v4, v5] ≤ g / 32 % 32) : am_run d C J X E (.invokestatic g :: is) ls (v5 :: v4 :: v3 :: v2 :: v1 :: v0 :: st) σ = (C g [v0, v1, v2, v3, v4, v5] σ (am_k X (am_run d C J X E is) ls st)) := by
  show am_cs C X (am_run d C J X E is) g ls (v5 :: v4 :: v3 :: v2 :: v1 :: v0 :: st) σ = _
  unfold am_cs
  rw [if_pos (by rw [hn]; exact ⟨by (try simp only [List.length_cons]); omega, hw⟩), hn]
  rfl
theorem as_ins7 (v0 v1 v2 v3 v4 v5 v6 : am_V) (g : Nat) (hn : g / 2 % 16 = 7) (hl : st.length ≤ 8) (hw : am_wds [v0, v1, v2, v3, v4, v5, v6] ≤ g / 32 % 32) : am_run d C J X E (.invokestatic g :: is) ls (v6 :: v5 :: v4 :: v3 :: v2 :: v1 :: v0 :: st) σ = (C g [v0, v1, v2, v3, v4, v5, v6] σ (am_k X (am_run d C J X E is) ls st)) := by
  show am_cs C X (am_run d C J X E is) g ls (v6 :: v5 :: v4 :: v3 :: v2 :: v1 :: v0 :: st) σ = _
  unfold am_cs
  rw [if_pos (by rw [hn]; exact ⟨by (try simp only [List.length_cons]); omega, hw⟩), hn]
  rfl
theorem as_inv1 (g k i : Nat) (hn : g / 2 % 16 = 1) (hk : k = g / 1024 % 16) (hl : st.length ≤ 8) (hw : am_wds [.inr (.inr (k, i))] ≤ g / 32 % 32) : am_run d C J X E (.invokevirtual g :: is) ls (.inr (.inr (k, i)) :: st) σ = (C g [.inr (.inr (k, i))] σ (am_k X (am_run d C J X E is) ls st)) := by
  show am_cv C X (am_run d C J X E is) g ls (.inr (.inr (k, i)) :: st) σ = _
  unfold am_cv
  rw [hn]
  show (if k = g / 1024 % 16 then _ else False) = _
  rw [if_pos hk]
  unfold am_cs
  rw [if_pos (by rw [hn]; exact ⟨by (try simp only [List.length_cons]); omega, hw⟩), hn]
  rfl
theorem as_inv2 (v1 : am_V) (g k i : Nat) (hn : g / 2 % 16 = 2) (hk : k = g / 1024 % 16) (hl : st.length ≤ 8) (hw : am_wds [.inr (.inr (k, i)), v1] ≤ g / 32 % 32) : am_run d C J X E (.invokevirtual g :: is) ls (v1 :: .inr (.inr (k, i)) :: st) σ = (C g [.inr (.inr (k, i)), v1] σ (am_k X (am_run d C J X E is) ls st)) := by
  show am_cv C X (am_run d C J X E is) g ls (v1 :: .inr (.inr (k, i)) :: st) σ = _
  unfold am_cv
  rw [hn]
  show (if k = g / 1024 % 16 then _ else False) = _
  rw [if_pos hk]
  unfold am_cs
  rw [if_pos (by rw [hn]; exact ⟨by (try simp only [List.length_cons]); omega, hw⟩), hn]
  rfl
theorem as_inv3 (v1 v2 : am_V) (g k i : Nat) (hn : g / 2 % 16 = 3) (hk : k = g / 1024 % 16) (hl : st.length ≤ 8) (hw : am_wds [.inr (.inr (k, i)), v1, v2] ≤ g / 32 % 32) : am_run d C J X E (.invokevirtual g :: is) ls (v2 :: v1 :: .inr (.inr (k, i)) :: st) σ = (C g [.inr (.inr (k, i)), v1, v2] σ (am_k X (am_run d C J X E is) ls st)) := by
  show am_cv C X (am_run d C J X E is) g ls (v2 :: v1 :: .inr (.inr (k, i)) :: st) σ = _
  unfold am_cv
  rw [hn]
  show (if k = g / 1024 % 16 then _ else False) = _
  rw [if_pos hk]
  unfold am_cs
  rw [if_pos (by rw [hn]; exact ⟨by (try simp only [List.length_cons]); omega, hw⟩), hn]
  rfl
theorem as_inv4 (v1 v2 v3 : am_V) (g k i : Nat) (hn : g / 2 % 16 = 4) (hk : k = g / 1024 % 16) (hl : st.length ≤ 8) (hw : am_wds [.inr (.inr (k, i)), v1, v2, v3] ≤ g / 32 % 32) : am_run d C J X E (.invokevirtual g :: is) ls (v3 :: v2 :: v1 :: .inr (.inr (k, i)) :: st) σ = (C g [.inr (.inr (k, i)), v1, v2, v3] σ (am_k X (am_run d C J X E is) ls st)) := by
  show am_cv C X (am_run d C J X E is) g ls (v3 :: v2 :: v1 :: .inr (.inr (k, i)) :: st) σ = _
  unfold am_cv
  rw [hn]
  show (if k = g / 1024 % 16 then _ else False) = _
  rw [if_pos hk]
  unfold am_cs
  rw [if_pos (by rw [hn]; exact ⟨by (try simp only [List.length_cons]); omega, hw⟩), hn]
  rfl
theorem as_inv5 (v1 v2 v3 v4 : am_V) (g k i : Nat) (hn : g / 2 % 16 = 5) (hk : k = g / 1024 % 16) (hl : st.length ≤ 8) (hw : am_wds [.inr (.inr (k, i)), v1, v2, v3, v4] ≤ g / 32 % 32) : am_run d C J X E (.invokevirtual g :: is) ls (v4 :: v3 :: v2 :: v1 :: .inr (.inr (k, i)) :: st) σ = (C g [.inr (.inr (k, i)), v1, v2, v3, v4] σ (am_k X (am_run d C J X E is) ls st)) := by
  show am_cv C X (am_run d C J X E is) g ls (v4 :: v3 :: v2 :: v1 :: .inr (.inr (k, i)) :: st) σ = _
  unfold am_cv
  rw [hn]
  show (if k = g / 1024 % 16 then _ else False) = _
  rw [if_pos hk]
  unfold am_cs
  rw [if_pos (by rw [hn]; exact ⟨by (try simp only [List.length_cons]); omega, hw⟩), hn]
  rfl
theorem as_inv6 (v1 v2 v3 v4 v5 : am_V) (g k i : Nat) (hn : g / 2 % 16 = 6) (hk : k = g / 1024 % 16) (hl : st.length ≤ 8) (hw : am_wds [.inr (.inr (k, i)), v1, v2, v3, v4, v5] ≤ g / 32 % 32) : am_run d C J X E (.invokevirtual g :: is) ls (v5 :: v4 :: v3 :: v2 :: v1 :: .inr (.inr (k, i)) :: st) σ = (C g [.inr (.inr (k, i)), v1, v2, v3, v4, v5] σ (am_k X (am_run d C J X E is) ls st)) := by
  show am_cv C X (am_run d C J X E is) g ls (v5 :: v4 :: v3 :: v2 :: v1 :: .inr (.inr (k, i)) :: st) σ = _
  unfold am_cv
  rw [hn]
  show (if k = g / 1024 % 16 then _ else False) = _
  rw [if_pos hk]
  unfold am_cs
  rw [if_pos (by rw [hn]; exact ⟨by (try simp only [List.length_cons]); omega, hw⟩), hn]
  rfl
theorem as_inv7 (v1 v2 v3 v4 v5 v6 : am_V) (g k i : Nat) (hn : g / 2 % 16 = 7) (hk : k = g / 1024 % 16) (hl : st.length ≤ 8) (hw : am_wds [.inr (.inr (k, i)), v1, v2, v3, v4, v5, v6] ≤ g / 32 % 32) : am_run d C J X E (.invokevirtual g :: is) ls (v6 :: v5 :: v4 :: v3 :: v2 :: v1 :: .inr (.inr (k, i)) :: st) σ = (C g [.inr (.inr (k, i)), v1, v2, v3, v4, v5, v6] σ (am_k X (am_run d C J X E is) ls st)) := by
  show am_cv C X (am_run d C J X E is) g ls (v6 :: v5 :: v4 :: v3 :: v2 :: v1 :: .inr (.inr (k, i)) :: st) σ = _
  unfold am_cv
  rw [hn]
  show (if k = g / 1024 % 16 then _ else False) = _
  rw [if_pos hk]
  unfold am_cs
  rw [if_pos (by rw [hn]; exact ⟨by (try simp only [List.length_cons]); omega, hw⟩), hn]
  rfl
theorem as_inv8 (v1 v2 v3 v4 v5 v6 v7 : am_V) (g k i : Nat) (hn : g / 2 % 16 = 8) (hk : k = g / 1024 % 16) (hl : st.length ≤ 8) (hw : am_wds [.inr (.inr (k, i)), v1, v2, v3, v4, v5, v6, v7] ≤ g / 32 % 32) : am_run d C J X E (.invokevirtual g :: is) ls (v7 :: v6 :: v5 :: v4 :: v3 :: v2 :: v1 :: .inr (.inr (k, i)) :: st) σ = (C g [.inr (.inr (k, i)), v1, v2, v3, v4, v5, v6, v7] σ (am_k X (am_run d C J X E is) ls st)) := by
  show am_cv C X (am_run d C J X E is) g ls (v7 :: v6 :: v5 :: v4 :: v3 :: v2 :: v1 :: .inr (.inr (k, i)) :: st) σ = _
  unfold am_cv
  rw [hn]
  show (if k = g / 1024 % 16 then _ else False) = _
  rw [if_pos hk]
  unfold am_cs
  rw [if_pos (by rw [hn]; exact ⟨by (try simp only [List.length_cons]); omega, hw⟩), hn]
  rfl
theorem as_jdk0 (c : Int) (s : Nat) (hl : st.length ≤ 4) : am_run d C J X E (.invokedynamic 0 :: is) ls (.inl c :: .inr (.inr (90, s)) :: st) σ = ((8 ≤ d ∧ (0 ≤ c ∧ c < 65536)) ∧ am_run d C J X E is ls (.inl (am_ix s c) :: st) σ) := by
  show am_cn d (am_run d C J X E is) 0 ls (.inl c :: .inr (.inr (90, s)) :: st) σ = _
  unfold am_cn
  rw [if_pos (by simp only [List.length_cons]; omega)]
  rfl
theorem as_jdk1 (x : Int) (s : Nat) (hl : st.length ≤ 4) : am_run d C J X E (.invokedynamic 1 :: is) ls (.inl x :: .inr (.inr (90, s)) :: st) σ = ((8 ≤ d ∧ (0 ≤ x ∧ x < 4)) ∧ am_run d C J X E is ls (.inl (am_ch s x) :: st) σ) := by
  show am_cn d (am_run d C J X E is) 1 ls (.inl x :: .inr (.inr (90, s)) :: st) σ = _
  unfold am_cn
  rw [if_pos (by simp only [List.length_cons]; omega)]
  rfl
theorem as_jdk2 (x y : Int) (hl : st.length ≤ 4) : am_run d C J X E (.invokedynamic 2 :: is) ls (.inl y :: .inl x :: st) σ = ((8 ≤ d ∧ True) ∧ am_run d C J X E is ls (.inl (max x y) :: st) σ) := by
  show am_cn d (am_run d C J X E is) 2 ls (.inl y :: .inl x :: st) σ = _
  unfold am_cn
  rw [if_pos (by simp only [List.length_cons]; omega)]
  rfl
theorem as_jdk3 (x y : Int) (hl : st.length ≤ 4) : am_run d C J X E (.invokedynamic 3 :: is) ls (.inl y :: .inl x :: st) σ = ((8 ≤ d ∧ True) ∧ am_run d C J X E is ls (.inl (min x y) :: st) σ) := by
  show am_cn d (am_run d C J X E is) 3 ls (.inl y :: .inl x :: st) σ = _
  unfold am_cn
  rw [if_pos (by simp only [List.length_cons]; omega)]
  rfl
theorem as_jdk4 (n dp sp : Int) (a c : Nat) (hl : st.length ≤ 4) : am_run d C J X E (.invokedynamic 4 :: is) ls (.inl n :: .inl dp :: .inr (.inr (12, c)) :: .inl sp :: .inr (.inr (12, a)) :: st) σ = ((8 ≤ d ∧ (0 ≤ n ∧ 0 ≤ sp ∧ 0 ≤ dp ∧ sp + n ≤ 20 ∧ dp + n ≤ 20)) ∧ am_run d C J X E is ls st (am_cpy σ a sp.toNat c dp.toNat n.toNat)) := by
  show am_cn d (am_run d C J X E is) 4 ls (.inl n :: .inl dp :: .inr (.inr (12, c)) :: .inl sp :: .inr (.inr (12, a)) :: st) σ = _
  unfold am_cn
  rw [if_pos (by simp only [List.length_cons]; omega)]
  rfl
end AmSteps
theorem am_wds_n : am_wds [] = 0 := rfl
theorem am_wds_i (x : Int) (l : List am_V) : am_wds (.inl x :: l) = 1 + am_wds l := rfl
theorem am_wds_l (x : Int64) (l : List am_V) : am_wds (.inr (.inl x) :: l) = 2 + am_wds l := rfl
theorem am_wds_r (q : Nat × Nat) (l : List am_V) : am_wds (.inr (.inr q) :: l) = 1 + am_wds l := rfl
theorem as_C (d g : Nat) (as : List am_V) (σ : am_S) (Q : am_Q) : am_C am_R (d + 1) g as σ Q = am_M d g as σ Q := rfl
theorem as_X (d g : Nat) (Q : am_Q) (e : Nat) (ls : List am_V) (σ : am_S) (h : g % 2 = 0) : am_X am_R d g Q e ls σ = Q (.inr e) σ := by
  unfold am_X am_hd
  rw [if_pos h]
  exact propext ⟨fun q => q.2, fun q => ⟨h, q⟩⟩
theorem as_k0 (X : Nat → List am_V → am_S → Prop) (K : List am_V → List am_V → am_S → Prop) (ls st : List am_V) (τ : am_S) : am_k X K ls st (.inl none) τ = K ls st τ := rfl
theorem as_k1 (X : Nat → List am_V → am_S → Prop) (K : List am_V → List am_V → am_S → Prop) (ls st : List am_V) (v : am_V) (τ : am_S) : am_k X K ls st (.inl (some v)) τ = K ls (v :: st) τ := rfl
theorem as_k2 (X : Nat → List am_V → am_S → Prop) (K : List am_V → List am_V → am_S → Prop) (ls st : List am_V) (e : Nat) (τ : am_S) : am_k X K ls st (.inr e) τ = X e ls τ := rfl
