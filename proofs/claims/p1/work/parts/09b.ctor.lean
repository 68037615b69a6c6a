/-! The constructors, walked (written by our program) -/
abbrev kc_it (Z : so_Z) : va_E := .inl (Z.2.2 1, 20, .inl (fun _ => 0))
def ky_pw : MethodName := ⟨"ProofWorkbench", "<init>", "()V"⟩
abbrev kw_pw : List Cond := jk_ws ky_pw prog_1_method_1_code 2 none
def ky_mo : MethodName := ⟨"ProofWorkbenchModel", "<init>", "()V"⟩
abbrev kw_mo : List Cond := jk_ws ky_mo prog_12_method_1_code 2 none
def ky_ft : MethodName := ⟨"ProofWorkbench$FormulaTable", "<init>", "()V"⟩
abbrev kw_ft : List Cond := jk_ws ky_ft prog_3_method_1_code 1 none
def ky_rd : MethodName := ⟨"ProofWorkbench$Reader", "<init>", "(LProofWorkbench$FormulaTable;)V"⟩
abbrev kw_rd : List Cond := jk_ws ky_rd prog_7_method_1_code 2 none
def ky_wr : MethodName := ⟨"ProofWorkbench$Writer", "<init>", "(LProofWorkbench$FormulaTable;)V"⟩
abbrev kw_wr : List Cond := jk_ws ky_wr prog_10_method_1_code 2 none
def ky_sq : MethodName := ⟨"ProofWorkbench$Sequent", "<init>", "()V"⟩
abbrev kw_sq : List Cond := jk_ws ky_sq prog_8_method_1_code 1 none
def ky_nd : MethodName := ⟨"ProofWorkbench$Node", "<init>", "()V"⟩
abbrev kw_nd : List Cond := jk_ws ky_nd prog_5_method_1_code 1 none
def ky_pf : MethodName := ⟨"ProofWorkbench$Proof", "<init>", "()V"⟩
abbrev kw_pf : List Cond := jk_ws ky_pf prog_6_method_1_code 2 none
def ky_fi : MethodName := ⟨"ProofWorkbench$Finder", "<init>", "(LProofWorkbench$FormulaTable;LProofWorkbench$Proof;)V"⟩
abbrev kw_fi : List Cond := jk_ws ky_fi prog_2_method_1_code 3 none
def ky_ho : MethodName := ⟨"ProofWorkbench$Hopeless", "<init>", "()V"⟩
abbrev kw_ho : List Cond := jk_ws ky_ho prog_4_method_1_code 1 none
def ky_st : MethodName := ⟨"ProofWorkbench$Stepper", "<init>", "(LProofWorkbench$FormulaTable;)V"⟩
abbrev kw_st : List Cond := jk_ws ky_st prog_9_method_1_code 2 none
def kc_bl (Z : so_Z) (B : List (Nat × Nat × Nat)) : va_W := B.flatMap (fun t => [(t.1, .inr (5, [.ref t.2.1, .int 0, .int (-1), .int 1])), (t.2.1, .inr (4, [.ref t.2.2, .int 0])), (t.2.2, kc_it Z)])
def kc_ar (Z : so_Z) (B : List (Nat × Nat × Nat)) : va_E := .inl (Z.2.2 13, 101, .inr (.inr (.inr (.inr (fun j => (B[j]?).map (fun t => t.1))))))
def kp_pf (Z : so_Z) : Nat → va_W → Prop := fun q w => ∃ (r : Nat) (B : List (Nat × Nat × Nat)), B.length = 101 ∧ w = (q, .inr (6, [.ref r, .int 0, .int 0])) :: (r, kc_ar Z B) :: kc_bl Z B
theorem kc_bl_app (Z : so_Z) (B : List (Nat × Nat × Nat)) (q b a : Nat) : kc_bl Z (B ++ [(q, b, a)]) = kc_bl Z B ++ [(q, .inr (5, [.ref b, .int 0, .int (-1), .int 1])), (b, .inr (4, [.ref a, .int 0])), (a, kc_it Z)] := by
  unfold kc_bl
  rw [List.flatMap_append]
  rfl
theorem kc_up (B : List (Nat × Nat × Nat)) (q b a : Nat) : va_up (fun j => (B[j]?).map (fun t => t.1)) B.length (some q) = (fun j => ((B ++ [(q, b, a)])[j]?).map (fun t => t.1)) := by
  funext j
  unfold va_up
  by_cases h : j = B.length
  · subst h
    rw [if_pos rfl, List.getElem?_append_right (Nat.le_refl _), Nat.sub_self]
    rfl
  · rw [if_neg h]
    by_cases h1 : j < B.length
    · rw [List.getElem?_append_left h1]
    · have e1 : B[j]? = none := List.getElem?_eq_none (by omega)
      have e2 : (B ++ [(q, b, a)])[j]? = none := List.getElem?_eq_none (by rw [List.length_append, List.length_singleton]; omega)
      show (B[j]?).map _ = ((B ++ [(q, b, a)])[j]?).map _
      rw [e1, e2]
theorem kc_n101 : ∀ i : Nat, i < 101 → ¬ (101 : Int32) ≤ Int32.ofNat i ∧ (Int32.ofNat i).toNatClampNeg = i ∧ ¬ Int32.ofNat i < 0 ∧ Int32.ofNat i + Int32.ofInt 1 = Int32.ofNat (i + 1) := by decide +kernel
theorem kd_sq_0 : decode prog_8_method_1_code 0 = .ok (.aload_n 0, 1) := by decide +kernel
theorem kd_sq_1 : decode prog_8_method_1_code 1 = .ok (.invokespecial 3, 3) := by decide +kernel
theorem kd_sq_4 : decode prog_8_method_1_code 4 = .ok (.aload_n 0, 1) := by decide +kernel
theorem kd_sq_5 : decode prog_8_method_1_code 5 = .ok (.bipush 20, 2) := by decide +kernel
theorem kd_sq_7 : decode prog_8_method_1_code 7 = .ok (.newarray .int, 2) := by decide +kernel
theorem kd_sq_9 : decode prog_8_method_1_code 9 = .ok (.putfield 11, 3) := by decide +kernel
theorem kd_sq_12 : decode prog_8_method_1_code 12 = .ok (.aload_n 0, 1) := by decide +kernel
theorem kd_sq_13 : decode prog_8_method_1_code 13 = .ok (.iconst 0, 1) := by decide +kernel
theorem kd_sq_14 : decode prog_8_method_1_code 14 = .ok (.putfield 15, 3) := by decide +kernel
theorem kd_sq_17 : decode prog_8_method_1_code 17 = .ok (.return_, 1) := by decide +kernel
theorem kd_nd_0 : decode prog_5_method_1_code 0 = .ok (.aload_n 0, 1) := by decide +kernel
theorem kd_nd_1 : decode prog_5_method_1_code 1 = .ok (.invokespecial 3, 3) := by decide +kernel
theorem kd_nd_4 : decode prog_5_method_1_code 4 = .ok (.aload_n 0, 1) := by decide +kernel
theorem kd_nd_5 : decode prog_5_method_1_code 5 = .ok (.new 9, 3) := by decide +kernel
theorem kd_nd_8 : decode prog_5_method_1_code 8 = .ok (.dup, 1) := by decide +kernel
theorem kd_nd_9 : decode prog_5_method_1_code 9 = .ok (.invokespecial 11, 3) := by decide +kernel
theorem kd_nd_12 : decode prog_5_method_1_code 12 = .ok (.putfield 12, 3) := by decide +kernel
theorem kd_nd_15 : decode prog_5_method_1_code 15 = .ok (.aload_n 0, 1) := by decide +kernel
theorem kd_nd_16 : decode prog_5_method_1_code 16 = .ok (.iconst 0, 1) := by decide +kernel
theorem kd_nd_17 : decode prog_5_method_1_code 17 = .ok (.putfield 18, 3) := by decide +kernel
theorem kd_nd_20 : decode prog_5_method_1_code 20 = .ok (.aload_n 0, 1) := by decide +kernel
theorem kd_nd_21 : decode prog_5_method_1_code 21 = .ok (.iconst (-1), 1) := by decide +kernel
theorem kd_nd_22 : decode prog_5_method_1_code 22 = .ok (.putfield 22, 3) := by decide +kernel
theorem kd_nd_25 : decode prog_5_method_1_code 25 = .ok (.aload_n 0, 1) := by decide +kernel
theorem kd_nd_26 : decode prog_5_method_1_code 26 = .ok (.iconst 1, 1) := by decide +kernel
theorem kd_nd_27 : decode prog_5_method_1_code 27 = .ok (.putfield 25, 3) := by decide +kernel
theorem kd_nd_30 : decode prog_5_method_1_code 30 = .ok (.return_, 1) := by decide +kernel
theorem kd_ho_0 : decode prog_4_method_1_code 0 = .ok (.aload_n 0, 1) := by decide +kernel
theorem kd_ho_1 : decode prog_4_method_1_code 1 = .ok (.invokespecial 1, 3) := by decide +kernel
theorem kd_ho_4 : decode prog_4_method_1_code 4 = .ok (.aload_n 0, 1) := by decide +kernel
theorem kd_ho_5 : decode prog_4_method_1_code 5 = .ok (.sipush 1024, 3) := by decide +kernel
theorem kd_ho_8 : decode prog_4_method_1_code 8 = .ok (.newarray .long, 2) := by decide +kernel
theorem kd_ho_10 : decode prog_4_method_1_code 10 = .ok (.putfield 9, 3) := by decide +kernel
theorem kd_ho_13 : decode prog_4_method_1_code 13 = .ok (.return_, 1) := by decide +kernel
theorem kd_ft_0 : decode prog_3_method_1_code 0 = .ok (.aload_n 0, 1) := by decide +kernel
theorem kd_ft_1 : decode prog_3_method_1_code 1 = .ok (.invokespecial 3, 3) := by decide +kernel
theorem kd_ft_4 : decode prog_3_method_1_code 4 = .ok (.aload_n 0, 1) := by decide +kernel
theorem kd_ft_5 : decode prog_3_method_1_code 5 = .ok (.bipush 80, 2) := by decide +kernel
theorem kd_ft_7 : decode prog_3_method_1_code 7 = .ok (.newarray .int, 2) := by decide +kernel
theorem kd_ft_9 : decode prog_3_method_1_code 9 = .ok (.putfield 9, 3) := by decide +kernel
theorem kd_ft_12 : decode prog_3_method_1_code 12 = .ok (.aload_n 0, 1) := by decide +kernel
theorem kd_ft_13 : decode prog_3_method_1_code 13 = .ok (.bipush 80, 2) := by decide +kernel
theorem kd_ft_15 : decode prog_3_method_1_code 15 = .ok (.newarray .int, 2) := by decide +kernel
theorem kd_ft_17 : decode prog_3_method_1_code 17 = .ok (.putfield 15, 3) := by decide +kernel
theorem kd_ft_20 : decode prog_3_method_1_code 20 = .ok (.aload_n 0, 1) := by decide +kernel
theorem kd_ft_21 : decode prog_3_method_1_code 21 = .ok (.bipush 80, 2) := by decide +kernel
theorem kd_ft_23 : decode prog_3_method_1_code 23 = .ok (.newarray .int, 2) := by decide +kernel
theorem kd_ft_25 : decode prog_3_method_1_code 25 = .ok (.putfield 18, 3) := by decide +kernel
theorem kd_ft_28 : decode prog_3_method_1_code 28 = .ok (.aload_n 0, 1) := by decide +kernel
theorem kd_ft_29 : decode prog_3_method_1_code 29 = .ok (.bipush 80, 2) := by decide +kernel
theorem kd_ft_31 : decode prog_3_method_1_code 31 = .ok (.newarray .int, 2) := by decide +kernel
theorem kd_ft_33 : decode prog_3_method_1_code 33 = .ok (.putfield 21, 3) := by decide +kernel
theorem kd_ft_36 : decode prog_3_method_1_code 36 = .ok (.aload_n 0, 1) := by decide +kernel
theorem kd_ft_37 : decode prog_3_method_1_code 37 = .ok (.bipush 20, 2) := by decide +kernel
theorem kd_ft_39 : decode prog_3_method_1_code 39 = .ok (.putfield 24, 3) := by decide +kernel
theorem kd_ft_42 : decode prog_3_method_1_code 42 = .ok (.return_, 1) := by decide +kernel
theorem kd_rd_0 : decode prog_7_method_1_code 0 = .ok (.aload_n 0, 1) := by decide +kernel
theorem kd_rd_1 : decode prog_7_method_1_code 1 = .ok (.invokespecial 3, 3) := by decide +kernel
theorem kd_rd_4 : decode prog_7_method_1_code 4 = .ok (.aload_n 0, 1) := by decide +kernel
theorem kd_rd_5 : decode prog_7_method_1_code 5 = .ok (.bipush 60, 2) := by decide +kernel
theorem kd_rd_7 : decode prog_7_method_1_code 7 = .ok (.newarray .char, 2) := by decide +kernel
theorem kd_rd_9 : decode prog_7_method_1_code 9 = .ok (.putfield 11, 3) := by decide +kernel
theorem kd_rd_12 : decode prog_7_method_1_code 12 = .ok (.aload_n 0, 1) := by decide +kernel
theorem kd_rd_13 : decode prog_7_method_1_code 13 = .ok (.iconst 0, 1) := by decide +kernel
theorem kd_rd_14 : decode prog_7_method_1_code 14 = .ok (.putfield 15, 3) := by decide +kernel
theorem kd_rd_17 : decode prog_7_method_1_code 17 = .ok (.aload_n 0, 1) := by decide +kernel
theorem kd_rd_18 : decode prog_7_method_1_code 18 = .ok (.bipush 8, 2) := by decide +kernel
theorem kd_rd_20 : decode prog_7_method_1_code 20 = .ok (.newarray .int, 2) := by decide +kernel
theorem kd_rd_22 : decode prog_7_method_1_code 22 = .ok (.putfield 19, 3) := by decide +kernel
theorem kd_rd_25 : decode prog_7_method_1_code 25 = .ok (.aload_n 0, 1) := by decide +kernel
theorem kd_rd_26 : decode prog_7_method_1_code 26 = .ok (.bipush 8, 2) := by decide +kernel
theorem kd_rd_28 : decode prog_7_method_1_code 28 = .ok (.newarray .int, 2) := by decide +kernel
theorem kd_rd_30 : decode prog_7_method_1_code 30 = .ok (.putfield 23, 3) := by decide +kernel
theorem kd_rd_33 : decode prog_7_method_1_code 33 = .ok (.aload_n 0, 1) := by decide +kernel
theorem kd_rd_34 : decode prog_7_method_1_code 34 = .ok (.bipush 8, 2) := by decide +kernel
theorem kd_rd_36 : decode prog_7_method_1_code 36 = .ok (.newarray .int, 2) := by decide +kernel
theorem kd_rd_38 : decode prog_7_method_1_code 38 = .ok (.putfield 26, 3) := by decide +kernel
theorem kd_rd_41 : decode prog_7_method_1_code 41 = .ok (.aload_n 0, 1) := by decide +kernel
theorem kd_rd_42 : decode prog_7_method_1_code 42 = .ok (.iconst 0, 1) := by decide +kernel
theorem kd_rd_43 : decode prog_7_method_1_code 43 = .ok (.putfield 29, 3) := by decide +kernel
theorem kd_rd_46 : decode prog_7_method_1_code 46 = .ok (.aload_n 0, 1) := by decide +kernel
theorem kd_rd_47 : decode prog_7_method_1_code 47 = .ok (.iconst 0, 1) := by decide +kernel
theorem kd_rd_48 : decode prog_7_method_1_code 48 = .ok (.putfield 32, 3) := by decide +kernel
theorem kd_rd_51 : decode prog_7_method_1_code 51 = .ok (.aload_n 0, 1) := by decide +kernel
theorem kd_rd_52 : decode prog_7_method_1_code 52 = .ok (.iconst 0, 1) := by decide +kernel
theorem kd_rd_53 : decode prog_7_method_1_code 53 = .ok (.putfield 35, 3) := by decide +kernel
theorem kd_rd_56 : decode prog_7_method_1_code 56 = .ok (.aload_n 0, 1) := by decide +kernel
theorem kd_rd_57 : decode prog_7_method_1_code 57 = .ok (.iconst 0, 1) := by decide +kernel
theorem kd_rd_58 : decode prog_7_method_1_code 58 = .ok (.putfield 38, 3) := by decide +kernel
theorem kd_rd_61 : decode prog_7_method_1_code 61 = .ok (.aload_n 0, 1) := by decide +kernel
theorem kd_rd_62 : decode prog_7_method_1_code 62 = .ok (.iconst 0, 1) := by decide +kernel
theorem kd_rd_63 : decode prog_7_method_1_code 63 = .ok (.putfield 42, 3) := by decide +kernel
theorem kd_rd_66 : decode prog_7_method_1_code 66 = .ok (.aload_n 0, 1) := by decide +kernel
theorem kd_rd_67 : decode prog_7_method_1_code 67 = .ok (.aload_n 1, 1) := by decide +kernel
theorem kd_rd_68 : decode prog_7_method_1_code 68 = .ok (.putfield 45, 3) := by decide +kernel
theorem kd_rd_71 : decode prog_7_method_1_code 71 = .ok (.return_, 1) := by decide +kernel
theorem kd_wr_0 : decode prog_10_method_1_code 0 = .ok (.aload_n 0, 1) := by decide +kernel
theorem kd_wr_1 : decode prog_10_method_1_code 1 = .ok (.invokespecial 3, 3) := by decide +kernel
theorem kd_wr_4 : decode prog_10_method_1_code 4 = .ok (.aload_n 0, 1) := by decide +kernel
theorem kd_wr_5 : decode prog_10_method_1_code 5 = .ok (.bipush 37, 2) := by decide +kernel
theorem kd_wr_7 : decode prog_10_method_1_code 7 = .ok (.newarray .char, 2) := by decide +kernel
theorem kd_wr_9 : decode prog_10_method_1_code 9 = .ok (.putfield 11, 3) := by decide +kernel
theorem kd_wr_12 : decode prog_10_method_1_code 12 = .ok (.aload_n 0, 1) := by decide +kernel
theorem kd_wr_13 : decode prog_10_method_1_code 13 = .ok (.iconst 0, 1) := by decide +kernel
theorem kd_wr_14 : decode prog_10_method_1_code 14 = .ok (.putfield 15, 3) := by decide +kernel
theorem kd_wr_17 : decode prog_10_method_1_code 17 = .ok (.aload_n 0, 1) := by decide +kernel
theorem kd_wr_18 : decode prog_10_method_1_code 18 = .ok (.aload_n 1, 1) := by decide +kernel
theorem kd_wr_19 : decode prog_10_method_1_code 19 = .ok (.putfield 19, 3) := by decide +kernel
theorem kd_wr_22 : decode prog_10_method_1_code 22 = .ok (.return_, 1) := by decide +kernel
theorem kd_fi_0 : decode prog_2_method_1_code 0 = .ok (.aload_n 0, 1) := by decide +kernel
theorem kd_fi_1 : decode prog_2_method_1_code 1 = .ok (.invokespecial 3, 3) := by decide +kernel
theorem kd_fi_4 : decode prog_2_method_1_code 4 = .ok (.aload_n 0, 1) := by decide +kernel
theorem kd_fi_5 : decode prog_2_method_1_code 5 = .ok (.new 9, 3) := by decide +kernel
theorem kd_fi_8 : decode prog_2_method_1_code 8 = .ok (.dup, 1) := by decide +kernel
theorem kd_fi_9 : decode prog_2_method_1_code 9 = .ok (.invokespecial 11, 3) := by decide +kernel
theorem kd_fi_12 : decode prog_2_method_1_code 12 = .ok (.putfield 12, 3) := by decide +kernel
theorem kd_fi_15 : decode prog_2_method_1_code 15 = .ok (.aload_n 0, 1) := by decide +kernel
theorem kd_fi_16 : decode prog_2_method_1_code 16 = .ok (.aload_n 1, 1) := by decide +kernel
theorem kd_fi_17 : decode prog_2_method_1_code 17 = .ok (.putfield 18, 3) := by decide +kernel
theorem kd_fi_20 : decode prog_2_method_1_code 20 = .ok (.aload_n 0, 1) := by decide +kernel
theorem kd_fi_21 : decode prog_2_method_1_code 21 = .ok (.aload_n 2, 1) := by decide +kernel
theorem kd_fi_22 : decode prog_2_method_1_code 22 = .ok (.putfield 22, 3) := by decide +kernel
theorem kd_fi_25 : decode prog_2_method_1_code 25 = .ok (.return_, 1) := by decide +kernel
theorem kd_pf_25 : decode prog_6_method_1_code 25 = .ok (.iload_n 1, 1) := by decide +kernel
theorem kd_pf_26 : decode prog_6_method_1_code 26 = .ok (.aload_n 0, 1) := by decide +kernel
theorem kd_pf_27 : decode prog_6_method_1_code 27 = .ok (.getfield 11, 3) := by decide +kernel
theorem kd_pf_30 : decode prog_6_method_1_code 30 = .ok (.arraylength, 1) := by decide +kernel
theorem kd_pf_31 : decode prog_6_method_1_code 31 = .ok (.if_icmp .ge 22, 3) := by decide +kernel
theorem kd_pf_34 : decode prog_6_method_1_code 34 = .ok (.aload_n 0, 1) := by decide +kernel
theorem kd_pf_35 : decode prog_6_method_1_code 35 = .ok (.getfield 11, 3) := by decide +kernel
theorem kd_pf_38 : decode prog_6_method_1_code 38 = .ok (.iload_n 1, 1) := by decide +kernel
theorem kd_pf_39 : decode prog_6_method_1_code 39 = .ok (.new 9, 3) := by decide +kernel
theorem kd_pf_42 : decode prog_6_method_1_code 42 = .ok (.dup, 1) := by decide +kernel
theorem kd_pf_43 : decode prog_6_method_1_code 43 = .ok (.invokespecial 25, 3) := by decide +kernel
theorem kd_pf_46 : decode prog_6_method_1_code 46 = .ok (.aastore, 1) := by decide +kernel
theorem kd_pf_47 : decode prog_6_method_1_code 47 = .ok (.iinc 1 1, 3) := by decide +kernel
theorem kd_pf_50 : decode prog_6_method_1_code 50 = .ok (.goto (-25), 3) := by decide +kernel
theorem kd_pf_0 : decode prog_6_method_1_code 0 = .ok (.aload_n 0, 1) := by decide +kernel
theorem kd_pf_1 : decode prog_6_method_1_code 1 = .ok (.invokespecial 3, 3) := by decide +kernel
theorem kd_pf_4 : decode prog_6_method_1_code 4 = .ok (.aload_n 0, 1) := by decide +kernel
theorem kd_pf_5 : decode prog_6_method_1_code 5 = .ok (.bipush 101, 2) := by decide +kernel
theorem kd_pf_7 : decode prog_6_method_1_code 7 = .ok (.anewarray 9, 3) := by decide +kernel
theorem kd_pf_10 : decode prog_6_method_1_code 10 = .ok (.putfield 11, 3) := by decide +kernel
theorem kd_pf_13 : decode prog_6_method_1_code 13 = .ok (.aload_n 0, 1) := by decide +kernel
theorem kd_pf_14 : decode prog_6_method_1_code 14 = .ok (.iconst 0, 1) := by decide +kernel
theorem kd_pf_15 : decode prog_6_method_1_code 15 = .ok (.putfield 17, 3) := by decide +kernel
theorem kd_pf_18 : decode prog_6_method_1_code 18 = .ok (.aload_n 0, 1) := by decide +kernel
theorem kd_pf_19 : decode prog_6_method_1_code 19 = .ok (.iconst 0, 1) := by decide +kernel
theorem kd_pf_20 : decode prog_6_method_1_code 20 = .ok (.putfield 21, 3) := by decide +kernel
theorem kd_pf_23 : decode prog_6_method_1_code 23 = .ok (.iconst 0, 1) := by decide +kernel
theorem kd_pf_24 : decode prog_6_method_1_code 24 = .ok (.istore_n 1, 1) := by decide +kernel
theorem kd_pf_53 : decode prog_6_method_1_code 53 = .ok (.return_, 1) := by decide +kernel
theorem kd_st_0 : decode prog_9_method_1_code 0 = .ok (.aload_n 0, 1) := by decide +kernel
theorem kd_st_1 : decode prog_9_method_1_code 1 = .ok (.invokespecial 3, 3) := by decide +kernel
theorem kd_st_4 : decode prog_9_method_1_code 4 = .ok (.aload_n 0, 1) := by decide +kernel
theorem kd_st_5 : decode prog_9_method_1_code 5 = .ok (.new 9, 3) := by decide +kernel
theorem kd_st_8 : decode prog_9_method_1_code 8 = .ok (.dup, 1) := by decide +kernel
theorem kd_st_9 : decode prog_9_method_1_code 9 = .ok (.invokespecial 11, 3) := by decide +kernel
theorem kd_st_12 : decode prog_9_method_1_code 12 = .ok (.putfield 12, 3) := by decide +kernel
theorem kd_st_15 : decode prog_9_method_1_code 15 = .ok (.aload_n 0, 1) := by decide +kernel
theorem kd_st_16 : decode prog_9_method_1_code 16 = .ok (.new 18, 3) := by decide +kernel
theorem kd_st_19 : decode prog_9_method_1_code 19 = .ok (.dup, 1) := by decide +kernel
theorem kd_st_20 : decode prog_9_method_1_code 20 = .ok (.invokespecial 20, 3) := by decide +kernel
theorem kd_st_23 : decode prog_9_method_1_code 23 = .ok (.putfield 21, 3) := by decide +kernel
theorem kd_st_26 : decode prog_9_method_1_code 26 = .ok (.aload_n 0, 1) := by decide +kernel
theorem kd_st_27 : decode prog_9_method_1_code 27 = .ok (.new 18, 3) := by decide +kernel
theorem kd_st_30 : decode prog_9_method_1_code 30 = .ok (.dup, 1) := by decide +kernel
theorem kd_st_31 : decode prog_9_method_1_code 31 = .ok (.invokespecial 20, 3) := by decide +kernel
theorem kd_st_34 : decode prog_9_method_1_code 34 = .ok (.putfield 25, 3) := by decide +kernel
theorem kd_st_37 : decode prog_9_method_1_code 37 = .ok (.aload_n 0, 1) := by decide +kernel
theorem kd_st_38 : decode prog_9_method_1_code 38 = .ok (.aload_n 1, 1) := by decide +kernel
theorem kd_st_39 : decode prog_9_method_1_code 39 = .ok (.putfield 28, 3) := by decide +kernel
theorem kd_st_42 : decode prog_9_method_1_code 42 = .ok (.return_, 1) := by decide +kernel
theorem kd_pw_0 : decode prog_1_method_1_code 0 = .ok (.aload_n 0, 1) := by decide +kernel
theorem kd_pw_1 : decode prog_1_method_1_code 1 = .ok (.invokespecial 3, 3) := by decide +kernel
theorem kd_pw_4 : decode prog_1_method_1_code 4 = .ok (.aload_n 0, 1) := by decide +kernel
theorem kd_pw_5 : decode prog_1_method_1_code 5 = .ok (.new 9, 3) := by decide +kernel
theorem kd_pw_8 : decode prog_1_method_1_code 8 = .ok (.dup, 1) := by decide +kernel
theorem kd_pw_9 : decode prog_1_method_1_code 9 = .ok (.invokespecial 11, 3) := by decide +kernel
theorem kd_pw_12 : decode prog_1_method_1_code 12 = .ok (.putfield 12, 3) := by decide +kernel
theorem kd_pw_15 : decode prog_1_method_1_code 15 = .ok (.aload_n 0, 1) := by decide +kernel
theorem kd_pw_16 : decode prog_1_method_1_code 16 = .ok (.new 16, 3) := by decide +kernel
theorem kd_pw_19 : decode prog_1_method_1_code 19 = .ok (.dup, 1) := by decide +kernel
theorem kd_pw_20 : decode prog_1_method_1_code 20 = .ok (.aload_n 0, 1) := by decide +kernel
theorem kd_pw_21 : decode prog_1_method_1_code 21 = .ok (.getfield 12, 3) := by decide +kernel
theorem kd_pw_24 : decode prog_1_method_1_code 24 = .ok (.invokespecial 18, 3) := by decide +kernel
theorem kd_pw_27 : decode prog_1_method_1_code 27 = .ok (.putfield 21, 3) := by decide +kernel
theorem kd_pw_30 : decode prog_1_method_1_code 30 = .ok (.aload_n 0, 1) := by decide +kernel
theorem kd_pw_31 : decode prog_1_method_1_code 31 = .ok (.new 25, 3) := by decide +kernel
theorem kd_pw_34 : decode prog_1_method_1_code 34 = .ok (.dup, 1) := by decide +kernel
theorem kd_pw_35 : decode prog_1_method_1_code 35 = .ok (.aload_n 0, 1) := by decide +kernel
theorem kd_pw_36 : decode prog_1_method_1_code 36 = .ok (.getfield 12, 3) := by decide +kernel
theorem kd_pw_39 : decode prog_1_method_1_code 39 = .ok (.invokespecial 27, 3) := by decide +kernel
theorem kd_pw_42 : decode prog_1_method_1_code 42 = .ok (.putfield 28, 3) := by decide +kernel
theorem kd_pw_45 : decode prog_1_method_1_code 45 = .ok (.aload_n 0, 1) := by decide +kernel
theorem kd_pw_46 : decode prog_1_method_1_code 46 = .ok (.new 32, 3) := by decide +kernel
theorem kd_pw_49 : decode prog_1_method_1_code 49 = .ok (.dup, 1) := by decide +kernel
theorem kd_pw_50 : decode prog_1_method_1_code 50 = .ok (.invokespecial 34, 3) := by decide +kernel
theorem kd_pw_53 : decode prog_1_method_1_code 53 = .ok (.putfield 35, 3) := by decide +kernel
theorem kd_pw_56 : decode prog_1_method_1_code 56 = .ok (.aload_n 0, 1) := by decide +kernel
theorem kd_pw_57 : decode prog_1_method_1_code 57 = .ok (.new 32, 3) := by decide +kernel
theorem kd_pw_60 : decode prog_1_method_1_code 60 = .ok (.dup, 1) := by decide +kernel
theorem kd_pw_61 : decode prog_1_method_1_code 61 = .ok (.invokespecial 34, 3) := by decide +kernel
theorem kd_pw_64 : decode prog_1_method_1_code 64 = .ok (.putfield 39, 3) := by decide +kernel
theorem kd_pw_67 : decode prog_1_method_1_code 67 = .ok (.aload_n 0, 1) := by decide +kernel
theorem kd_pw_68 : decode prog_1_method_1_code 68 = .ok (.iconst 4, 1) := by decide +kernel
theorem kd_pw_69 : decode prog_1_method_1_code 69 = .ok (.anewarray 42, 3) := by decide +kernel
theorem kd_pw_72 : decode prog_1_method_1_code 72 = .ok (.putfield 44, 3) := by decide +kernel
theorem kd_pw_75 : decode prog_1_method_1_code 75 = .ok (.aload_n 0, 1) := by decide +kernel
theorem kd_pw_76 : decode prog_1_method_1_code 76 = .ok (.new 42, 3) := by decide +kernel
theorem kd_pw_79 : decode prog_1_method_1_code 79 = .ok (.dup, 1) := by decide +kernel
theorem kd_pw_80 : decode prog_1_method_1_code 80 = .ok (.invokespecial 48, 3) := by decide +kernel
theorem kd_pw_83 : decode prog_1_method_1_code 83 = .ok (.putfield 49, 3) := by decide +kernel
theorem kd_pw_86 : decode prog_1_method_1_code 86 = .ok (.aload_n 0, 1) := by decide +kernel
theorem kd_pw_87 : decode prog_1_method_1_code 87 = .ok (.new 53, 3) := by decide +kernel
theorem kd_pw_90 : decode prog_1_method_1_code 90 = .ok (.dup, 1) := by decide +kernel
theorem kd_pw_91 : decode prog_1_method_1_code 91 = .ok (.aload_n 0, 1) := by decide +kernel
theorem kd_pw_92 : decode prog_1_method_1_code 92 = .ok (.getfield 12, 3) := by decide +kernel
theorem kd_pw_95 : decode prog_1_method_1_code 95 = .ok (.aload_n 0, 1) := by decide +kernel
theorem kd_pw_96 : decode prog_1_method_1_code 96 = .ok (.getfield 49, 3) := by decide +kernel
theorem kd_pw_99 : decode prog_1_method_1_code 99 = .ok (.invokespecial 55, 3) := by decide +kernel
theorem kd_pw_102 : decode prog_1_method_1_code 102 = .ok (.putfield 58, 3) := by decide +kernel
theorem kd_pw_105 : decode prog_1_method_1_code 105 = .ok (.aload_n 0, 1) := by decide +kernel
theorem kd_pw_106 : decode prog_1_method_1_code 106 = .ok (.new 62, 3) := by decide +kernel
theorem kd_pw_109 : decode prog_1_method_1_code 109 = .ok (.dup, 1) := by decide +kernel
theorem kd_pw_110 : decode prog_1_method_1_code 110 = .ok (.aload_n 0, 1) := by decide +kernel
theorem kd_pw_111 : decode prog_1_method_1_code 111 = .ok (.getfield 12, 3) := by decide +kernel
theorem kd_pw_114 : decode prog_1_method_1_code 114 = .ok (.invokespecial 64, 3) := by decide +kernel
theorem kd_pw_117 : decode prog_1_method_1_code 117 = .ok (.putfield 65, 3) := by decide +kernel
theorem kd_pw_120 : decode prog_1_method_1_code 120 = .ok (.iconst 0, 1) := by decide +kernel
theorem kd_pw_121 : decode prog_1_method_1_code 121 = .ok (.istore_n 1, 1) := by decide +kernel
theorem kd_pw_122 : decode prog_1_method_1_code 122 = .ok (.iload_n 1, 1) := by decide +kernel
theorem kd_pw_123 : decode prog_1_method_1_code 123 = .ok (.iconst 4, 1) := by decide +kernel
theorem kd_pw_124 : decode prog_1_method_1_code 124 = .ok (.if_icmp .ge 22, 3) := by decide +kernel
theorem kd_pw_127 : decode prog_1_method_1_code 127 = .ok (.aload_n 0, 1) := by decide +kernel
theorem kd_pw_128 : decode prog_1_method_1_code 128 = .ok (.getfield 44, 3) := by decide +kernel
theorem kd_pw_131 : decode prog_1_method_1_code 131 = .ok (.iload_n 1, 1) := by decide +kernel
theorem kd_pw_132 : decode prog_1_method_1_code 132 = .ok (.new 42, 3) := by decide +kernel
theorem kd_pw_135 : decode prog_1_method_1_code 135 = .ok (.dup, 1) := by decide +kernel
theorem kd_pw_136 : decode prog_1_method_1_code 136 = .ok (.invokespecial 48, 3) := by decide +kernel
theorem kd_pw_139 : decode prog_1_method_1_code 139 = .ok (.aastore, 1) := by decide +kernel
theorem kd_pw_140 : decode prog_1_method_1_code 140 = .ok (.iinc 1 1, 3) := by decide +kernel
theorem kd_pw_143 : decode prog_1_method_1_code 143 = .ok (.goto (-21), 3) := by decide +kernel
theorem kd_pw_146 : decode prog_1_method_1_code 146 = .ok (.return_, 1) := by decide +kernel
theorem kd_mo_0 : decode prog_12_method_1_code 0 = .ok (.aload_n 0, 1) := by decide +kernel
theorem kd_mo_1 : decode prog_12_method_1_code 1 = .ok (.invokespecial 1, 3) := by decide +kernel
theorem kd_mo_4 : decode prog_12_method_1_code 4 = .ok (.aload_n 0, 1) := by decide +kernel
theorem kd_mo_5 : decode prog_12_method_1_code 5 = .ok (.bipush 30, 2) := by decide +kernel
theorem kd_mo_7 : decode prog_12_method_1_code 7 = .ok (.newarray .boolean, 2) := by decide +kernel
theorem kd_mo_9 : decode prog_12_method_1_code 9 = .ok (.putfield 7, 3) := by decide +kernel
theorem kd_mo_12 : decode prog_12_method_1_code 12 = .ok (.aload_n 0, 1) := by decide +kernel
theorem kd_mo_13 : decode prog_12_method_1_code 13 = .ok (.bipush 30, 2) := by decide +kernel
theorem kd_mo_15 : decode prog_12_method_1_code 15 = .ok (.newarray .int, 2) := by decide +kernel
theorem kd_mo_17 : decode prog_12_method_1_code 17 = .ok (.putfield 13, 3) := by decide +kernel
theorem kd_mo_20 : decode prog_12_method_1_code 20 = .ok (.aload_n 0, 1) := by decide +kernel
theorem kd_mo_21 : decode prog_12_method_1_code 21 = .ok (.bipush 30, 2) := by decide +kernel
theorem kd_mo_23 : decode prog_12_method_1_code 23 = .ok (.newarray .int, 2) := by decide +kernel
theorem kd_mo_25 : decode prog_12_method_1_code 25 = .ok (.putfield 17, 3) := by decide +kernel
theorem kd_mo_28 : decode prog_12_method_1_code 28 = .ok (.aload_n 0, 1) := by decide +kernel
theorem kd_mo_29 : decode prog_12_method_1_code 29 = .ok (.bipush 30, 2) := by decide +kernel
theorem kd_mo_31 : decode prog_12_method_1_code 31 = .ok (.newarray .int, 2) := by decide +kernel
theorem kd_mo_33 : decode prog_12_method_1_code 33 = .ok (.putfield 20, 3) := by decide +kernel
theorem kd_mo_36 : decode prog_12_method_1_code 36 = .ok (.aload_n 0, 1) := by decide +kernel
theorem kd_mo_37 : decode prog_12_method_1_code 37 = .ok (.bipush 60, 2) := by decide +kernel
theorem kd_mo_39 : decode prog_12_method_1_code 39 = .ok (.newarray .int, 2) := by decide +kernel
theorem kd_mo_41 : decode prog_12_method_1_code 41 = .ok (.putfield 23, 3) := by decide +kernel
theorem kd_mo_44 : decode prog_12_method_1_code 44 = .ok (.aload_n 0, 1) := by decide +kernel
theorem kd_mo_45 : decode prog_12_method_1_code 45 = .ok (.bipush 8, 2) := by decide +kernel
theorem kd_mo_47 : decode prog_12_method_1_code 47 = .ok (.newarray .int, 2) := by decide +kernel
theorem kd_mo_49 : decode prog_12_method_1_code 49 = .ok (.putfield 26, 3) := by decide +kernel
theorem kd_mo_52 : decode prog_12_method_1_code 52 = .ok (.aload_n 0, 1) := by decide +kernel
theorem kd_mo_53 : decode prog_12_method_1_code 53 = .ok (.bipush 8, 2) := by decide +kernel
theorem kd_mo_55 : decode prog_12_method_1_code 55 = .ok (.newarray .int, 2) := by decide +kernel
theorem kd_mo_57 : decode prog_12_method_1_code 57 = .ok (.putfield 29, 3) := by decide +kernel
theorem kd_mo_60 : decode prog_12_method_1_code 60 = .ok (.aload_n 0, 1) := by decide +kernel
theorem kd_mo_61 : decode prog_12_method_1_code 61 = .ok (.bipush 8, 2) := by decide +kernel
theorem kd_mo_63 : decode prog_12_method_1_code 63 = .ok (.newarray .int, 2) := by decide +kernel
theorem kd_mo_65 : decode prog_12_method_1_code 65 = .ok (.putfield 32, 3) := by decide +kernel
theorem kd_mo_68 : decode prog_12_method_1_code 68 = .ok (.aload_n 0, 1) := by decide +kernel
theorem kd_mo_69 : decode prog_12_method_1_code 69 = .ok (.bipush 8, 2) := by decide +kernel
theorem kd_mo_71 : decode prog_12_method_1_code 71 = .ok (.newarray .boolean, 2) := by decide +kernel
theorem kd_mo_73 : decode prog_12_method_1_code 73 = .ok (.putfield 35, 3) := by decide +kernel
theorem kd_mo_76 : decode prog_12_method_1_code 76 = .ok (.aload_n 0, 1) := by decide +kernel
theorem kd_mo_77 : decode prog_12_method_1_code 77 = .ok (.bipush 40, 2) := by decide +kernel
theorem kd_mo_79 : decode prog_12_method_1_code 79 = .ok (.newarray .int, 2) := by decide +kernel
theorem kd_mo_81 : decode prog_12_method_1_code 81 = .ok (.putfield 38, 3) := by decide +kernel
theorem kd_mo_84 : decode prog_12_method_1_code 84 = .ok (.aload_n 0, 1) := by decide +kernel
theorem kd_mo_85 : decode prog_12_method_1_code 85 = .ok (.bipush 40, 2) := by decide +kernel
theorem kd_mo_87 : decode prog_12_method_1_code 87 = .ok (.newarray .int, 2) := by decide +kernel
theorem kd_mo_89 : decode prog_12_method_1_code 89 = .ok (.putfield 41, 3) := by decide +kernel
theorem kd_mo_92 : decode prog_12_method_1_code 92 = .ok (.aload_n 0, 1) := by decide +kernel
theorem kd_mo_93 : decode prog_12_method_1_code 93 = .ok (.bipush 8, 2) := by decide +kernel
theorem kd_mo_95 : decode prog_12_method_1_code 95 = .ok (.newarray .int, 2) := by decide +kernel
theorem kd_mo_97 : decode prog_12_method_1_code 97 = .ok (.putfield 44, 3) := by decide +kernel
theorem kd_mo_100 : decode prog_12_method_1_code 100 = .ok (.aload_n 0, 1) := by decide +kernel
theorem kd_mo_101 : decode prog_12_method_1_code 101 = .ok (.sipush 640, 3) := by decide +kernel
theorem kd_mo_104 : decode prog_12_method_1_code 104 = .ok (.newarray .int, 2) := by decide +kernel
theorem kd_mo_106 : decode prog_12_method_1_code 106 = .ok (.putfield 47, 3) := by decide +kernel
theorem kd_mo_109 : decode prog_12_method_1_code 109 = .ok (.aload_n 0, 1) := by decide +kernel
theorem kd_mo_110 : decode prog_12_method_1_code 110 = .ok (.sipush 640, 3) := by decide +kernel
theorem kd_mo_113 : decode prog_12_method_1_code 113 = .ok (.newarray .int, 2) := by decide +kernel
theorem kd_mo_115 : decode prog_12_method_1_code 115 = .ok (.putfield 50, 3) := by decide +kernel
theorem kd_mo_118 : decode prog_12_method_1_code 118 = .ok (.aload_n 0, 1) := by decide +kernel
theorem kd_mo_119 : decode prog_12_method_1_code 119 = .ok (.sipush 640, 3) := by decide +kernel
theorem kd_mo_122 : decode prog_12_method_1_code 122 = .ok (.newarray .int, 2) := by decide +kernel
theorem kd_mo_124 : decode prog_12_method_1_code 124 = .ok (.putfield 53, 3) := by decide +kernel
theorem kd_mo_127 : decode prog_12_method_1_code 127 = .ok (.aload_n 0, 1) := by decide +kernel
theorem kd_mo_128 : decode prog_12_method_1_code 128 = .ok (.sipush 640, 3) := by decide +kernel
theorem kd_mo_131 : decode prog_12_method_1_code 131 = .ok (.newarray .int, 2) := by decide +kernel
theorem kd_mo_133 : decode prog_12_method_1_code 133 = .ok (.putfield 56, 3) := by decide +kernel
theorem kd_mo_136 : decode prog_12_method_1_code 136 = .ok (.aload_n 0, 1) := by decide +kernel
theorem kd_mo_137 : decode prog_12_method_1_code 137 = .ok (.sipush 640, 3) := by decide +kernel
theorem kd_mo_140 : decode prog_12_method_1_code 140 = .ok (.newarray .int, 2) := by decide +kernel
theorem kd_mo_142 : decode prog_12_method_1_code 142 = .ok (.putfield 59, 3) := by decide +kernel
theorem kd_mo_145 : decode prog_12_method_1_code 145 = .ok (.aload_n 0, 1) := by decide +kernel
theorem kd_mo_146 : decode prog_12_method_1_code 146 = .ok (.sipush 640, 3) := by decide +kernel
theorem kd_mo_149 : decode prog_12_method_1_code 149 = .ok (.newarray .int, 2) := by decide +kernel
theorem kd_mo_151 : decode prog_12_method_1_code 151 = .ok (.putfield 62, 3) := by decide +kernel
theorem kd_mo_154 : decode prog_12_method_1_code 154 = .ok (.aload_n 0, 1) := by decide +kernel
theorem kd_mo_155 : decode prog_12_method_1_code 155 = .ok (.sipush 640, 3) := by decide +kernel
theorem kd_mo_158 : decode prog_12_method_1_code 158 = .ok (.newarray .int, 2) := by decide +kernel
theorem kd_mo_160 : decode prog_12_method_1_code 160 = .ok (.putfield 65, 3) := by decide +kernel
theorem kd_mo_163 : decode prog_12_method_1_code 163 = .ok (.aload_n 0, 1) := by decide +kernel
theorem kd_mo_164 : decode prog_12_method_1_code 164 = .ok (.sipush 15360, 3) := by decide +kernel
theorem kd_mo_167 : decode prog_12_method_1_code 167 = .ok (.newarray .int, 2) := by decide +kernel
theorem kd_mo_169 : decode prog_12_method_1_code 169 = .ok (.putfield 68, 3) := by decide +kernel
theorem kd_mo_172 : decode prog_12_method_1_code 172 = .ok (.aload_n 0, 1) := by decide +kernel
theorem kd_mo_173 : decode prog_12_method_1_code 173 = .ok (.sipush 640, 3) := by decide +kernel
theorem kd_mo_176 : decode prog_12_method_1_code 176 = .ok (.newarray .boolean, 2) := by decide +kernel
theorem kd_mo_178 : decode prog_12_method_1_code 178 = .ok (.putfield 71, 3) := by decide +kernel
theorem kd_mo_181 : decode prog_12_method_1_code 181 = .ok (.aload_n 0, 1) := by decide +kernel
theorem kd_mo_182 : decode prog_12_method_1_code 182 = .ok (.sipush 640, 3) := by decide +kernel
theorem kd_mo_185 : decode prog_12_method_1_code 185 = .ok (.newarray .int, 2) := by decide +kernel
theorem kd_mo_187 : decode prog_12_method_1_code 187 = .ok (.putfield 74, 3) := by decide +kernel
theorem kd_mo_190 : decode prog_12_method_1_code 190 = .ok (.aload_n 0, 1) := by decide +kernel
theorem kd_mo_191 : decode prog_12_method_1_code 191 = .ok (.iconst 5, 1) := by decide +kernel
theorem kd_mo_192 : decode prog_12_method_1_code 192 = .ok (.newarray .int, 2) := by decide +kernel
theorem kd_mo_194 : decode prog_12_method_1_code 194 = .ok (.putfield 77, 3) := by decide +kernel
theorem kd_mo_197 : decode prog_12_method_1_code 197 = .ok (.aload_n 0, 1) := by decide +kernel
theorem kd_mo_198 : decode prog_12_method_1_code 198 = .ok (.sipush 128, 3) := by decide +kernel
theorem kd_mo_201 : decode prog_12_method_1_code 201 = .ok (.newarray .int, 2) := by decide +kernel
theorem kd_mo_203 : decode prog_12_method_1_code 203 = .ok (.putfield 80, 3) := by decide +kernel
theorem kd_mo_206 : decode prog_12_method_1_code 206 = .ok (.aload_n 0, 1) := by decide +kernel
theorem kd_mo_207 : decode prog_12_method_1_code 207 = .ok (.sipush 128, 3) := by decide +kernel
theorem kd_mo_210 : decode prog_12_method_1_code 210 = .ok (.newarray .boolean, 2) := by decide +kernel
theorem kd_mo_212 : decode prog_12_method_1_code 212 = .ok (.putfield 83, 3) := by decide +kernel
theorem kd_mo_215 : decode prog_12_method_1_code 215 = .ok (.aload_n 0, 1) := by decide +kernel
theorem kd_mo_216 : decode prog_12_method_1_code 216 = .ok (.bipush 64, 2) := by decide +kernel
theorem kd_mo_218 : decode prog_12_method_1_code 218 = .ok (.newarray .int, 2) := by decide +kernel
theorem kd_mo_220 : decode prog_12_method_1_code 220 = .ok (.putfield 86, 3) := by decide +kernel
theorem kd_mo_223 : decode prog_12_method_1_code 223 = .ok (.aload_n 0, 1) := by decide +kernel
theorem kd_mo_224 : decode prog_12_method_1_code 224 = .ok (.sipush 5440, 3) := by decide +kernel
theorem kd_mo_227 : decode prog_12_method_1_code 227 = .ok (.newarray .int, 2) := by decide +kernel
theorem kd_mo_229 : decode prog_12_method_1_code 229 = .ok (.putfield 89, 3) := by decide +kernel
theorem kd_mo_232 : decode prog_12_method_1_code 232 = .ok (.aload_n 0, 1) := by decide +kernel
theorem kd_mo_233 : decode prog_12_method_1_code 233 = .ok (.sipush 680, 3) := by decide +kernel
theorem kd_mo_236 : decode prog_12_method_1_code 236 = .ok (.newarray .int, 2) := by decide +kernel
theorem kd_mo_238 : decode prog_12_method_1_code 238 = .ok (.putfield 92, 3) := by decide +kernel
theorem kd_mo_241 : decode prog_12_method_1_code 241 = .ok (.aload_n 0, 1) := by decide +kernel
theorem kd_mo_242 : decode prog_12_method_1_code 242 = .ok (.sipush 680, 3) := by decide +kernel
theorem kd_mo_245 : decode prog_12_method_1_code 245 = .ok (.newarray .long, 2) := by decide +kernel
theorem kd_mo_247 : decode prog_12_method_1_code 247 = .ok (.putfield 95, 3) := by decide +kernel
theorem kd_mo_250 : decode prog_12_method_1_code 250 = .ok (.aload_n 0, 1) := by decide +kernel
theorem kd_mo_251 : decode prog_12_method_1_code 251 = .ok (.sipush 680, 3) := by decide +kernel
theorem kd_mo_254 : decode prog_12_method_1_code 254 = .ok (.newarray .int, 2) := by decide +kernel
theorem kd_mo_256 : decode prog_12_method_1_code 256 = .ok (.putfield 99, 3) := by decide +kernel
theorem kd_mo_259 : decode prog_12_method_1_code 259 = .ok (.aload_n 0, 1) := by decide +kernel
theorem kd_mo_260 : decode prog_12_method_1_code 260 = .ok (.sipush 680, 3) := by decide +kernel
theorem kd_mo_263 : decode prog_12_method_1_code 263 = .ok (.newarray .int, 2) := by decide +kernel
theorem kd_mo_265 : decode prog_12_method_1_code 265 = .ok (.putfield 102, 3) := by decide +kernel
theorem kd_mo_268 : decode prog_12_method_1_code 268 = .ok (.aload_n 0, 1) := by decide +kernel
theorem kd_mo_269 : decode prog_12_method_1_code 269 = .ok (.sipush 680, 3) := by decide +kernel
theorem kd_mo_272 : decode prog_12_method_1_code 272 = .ok (.newarray .int, 2) := by decide +kernel
theorem kd_mo_274 : decode prog_12_method_1_code 274 = .ok (.putfield 105, 3) := by decide +kernel
theorem kd_mo_277 : decode prog_12_method_1_code 277 = .ok (.aload_n 0, 1) := by decide +kernel
theorem kd_mo_278 : decode prog_12_method_1_code 278 = .ok (.sipush 680, 3) := by decide +kernel
theorem kd_mo_281 : decode prog_12_method_1_code 281 = .ok (.newarray .int, 2) := by decide +kernel
theorem kd_mo_283 : decode prog_12_method_1_code 283 = .ok (.putfield 108, 3) := by decide +kernel
theorem kd_mo_286 : decode prog_12_method_1_code 286 = .ok (.aload_n 0, 1) := by decide +kernel
theorem kd_mo_287 : decode prog_12_method_1_code 287 = .ok (.sipush 680, 3) := by decide +kernel
theorem kd_mo_290 : decode prog_12_method_1_code 290 = .ok (.newarray .int, 2) := by decide +kernel
theorem kd_mo_292 : decode prog_12_method_1_code 292 = .ok (.putfield 111, 3) := by decide +kernel
theorem kd_mo_295 : decode prog_12_method_1_code 295 = .ok (.aload_n 0, 1) := by decide +kernel
theorem kd_mo_296 : decode prog_12_method_1_code 296 = .ok (.sipush 680, 3) := by decide +kernel
theorem kd_mo_299 : decode prog_12_method_1_code 299 = .ok (.newarray .boolean, 2) := by decide +kernel
theorem kd_mo_301 : decode prog_12_method_1_code 301 = .ok (.putfield 114, 3) := by decide +kernel
theorem kd_mo_304 : decode prog_12_method_1_code 304 = .ok (.aload_n 0, 1) := by decide +kernel
theorem kd_mo_305 : decode prog_12_method_1_code 305 = .ok (.sipush 680, 3) := by decide +kernel
theorem kd_mo_308 : decode prog_12_method_1_code 308 = .ok (.newarray .int, 2) := by decide +kernel
theorem kd_mo_310 : decode prog_12_method_1_code 310 = .ok (.putfield 117, 3) := by decide +kernel
theorem kd_mo_313 : decode prog_12_method_1_code 313 = .ok (.iconst 0, 1) := by decide +kernel
theorem kd_mo_314 : decode prog_12_method_1_code 314 = .ok (.istore_n 1, 1) := by decide +kernel
theorem kd_mo_315 : decode prog_12_method_1_code 315 = .ok (.iload_n 1, 1) := by decide +kernel
theorem kd_mo_316 : decode prog_12_method_1_code 316 = .ok (.iconst 5, 1) := by decide +kernel
theorem kd_mo_317 : decode prog_12_method_1_code 317 = .ok (.if_icmp .ge 16, 3) := by decide +kernel
theorem kd_mo_320 : decode prog_12_method_1_code 320 = .ok (.aload_n 0, 1) := by decide +kernel
theorem kd_mo_321 : decode prog_12_method_1_code 321 = .ok (.getfield 77, 3) := by decide +kernel
theorem kd_mo_324 : decode prog_12_method_1_code 324 = .ok (.iload_n 1, 1) := by decide +kernel
theorem kd_mo_325 : decode prog_12_method_1_code 325 = .ok (.iconst (-1), 1) := by decide +kernel
theorem kd_mo_326 : decode prog_12_method_1_code 326 = .ok (.iastore, 1) := by decide +kernel
theorem kd_mo_327 : decode prog_12_method_1_code 327 = .ok (.iinc 1 1, 3) := by decide +kernel
theorem kd_mo_330 : decode prog_12_method_1_code 330 = .ok (.goto (-15), 3) := by decide +kernel
theorem kd_mo_333 : decode prog_12_method_1_code 333 = .ok (.return_, 1) := by decide +kernel
def kc_l : List Cond := [.methodLink (sR 5) 3 objectInit, .instanceMethod objectInit, .code objectInit ⟨#[0xb1]⟩ 1 none, .arrayClass .int, .fieldLink (sR 5) 11 (sR 5) (sT 5 0).2.1 (sT 5 0).2.2.1, .fieldLink (sR 5) 15 (sR 5) (sT 5 1).2.1 (sT 5 1).2.2.1, .methodLink (sR 6) 3 objectInit, .classLink (sR 6) 9 (sR 5), .instantiable (sR 5) 2, .code ky_sq prog_8_method_1_code 1 none, .instanceMethod ky_sq, .fieldLink (sR 6) 12 (sR 6) (sT 6 0).2.1 (sT 6 0).2.2.1, .fieldLink (sR 6) 18 (sR 6) (sT 6 1).2.1 (sT 6 1).2.2.1, .fieldLink (sR 6) 22 (sR 6) (sT 6 2).2.1 (sT 6 2).2.2.1, .fieldLink (sR 6) 25 (sR 6) (sT 6 3).2.1 (sT 6 3).2.2.1, .methodLink (sR 9) 1 objectInit, .arrayClass .long, .fieldLink (sR 9) 9 (sR 9) (sT 9 0).2.1 (sT 9 0).2.2.1, .methodLink (sR 2) 3 objectInit, .fieldLink (sR 2) 9 (sR 2) (sT 2 0).2.1 (sT 2 0).2.2.1, .fieldLink (sR 2) 15 (sR 2) (sT 2 1).2.1 (sT 2 1).2.2.1, .fieldLink (sR 2) 18 (sR 2) (sT 2 2).2.1 (sT 2 2).2.2.1, .fieldLink (sR 2) 21 (sR 2) (sT 2 3).2.1 (sT 2 3).2.2.1, .fieldLink (sR 2) 24 (sR 2) (sT 2 4).2.1 (sT 2 4).2.2.1, .methodLink (sR 3) 3 objectInit, .arrayClass .char, .fieldLink (sR 3) 11 (sR 3) (sT 3 1).2.1 (sT 3 1).2.2.1, .fieldLink (sR 3) 15 (sR 3) (sT 3 2).2.1 (sT 3 2).2.2.1, .fieldLink (sR 3) 19 (sR 3) (sT 3 3).2.1 (sT 3 3).2.2.1, .fieldLink (sR 3) 23 (sR 3) (sT 3 4).2.1 (sT 3 4).2.2.1, .fieldLink (sR 3) 26 (sR 3) (sT 3 5).2.1 (sT 3 5).2.2.1, .fieldLink (sR 3) 29 (sR 3) (sT 3 6).2.1 (sT 3 6).2.2.1, .fieldLink (sR 3) 32 (sR 3) (sT 3 7).2.1 (sT 3 7).2.2.1, .fieldLink (sR 3) 35 (sR 3) (sT 3 8).2.1 (sT 3 8).2.2.1, .fieldLink (sR 3) 38 (sR 3) (sT 3 9).2.1 (sT 3 9).2.2.1, .fieldLink (sR 3) 42 (sR 3) (sT 3 10).2.1 (sT 3 10).2.2.1, .fieldLink (sR 3) 45 (sR 3) (sT 3 0).2.1 (sT 3 0).2.2.1, .methodLink (sR 4) 3 objectInit, .fieldLink (sR 4) 11 (sR 4) (sT 4 1).2.1 (sT 4 1).2.2.1, .fieldLink (sR 4) 15 (sR 4) (sT 4 2).2.1 (sT 4 2).2.2.1, .fieldLink (sR 4) 19 (sR 4) (sT 4 0).2.1 (sT 4 0).2.2.1, .methodLink (sR 8) 3 objectInit, .classLink (sR 8) 9 (sR 9), .instantiable (sR 9) 1, .code ky_ho prog_4_method_1_code 1 none, .instanceMethod ky_ho, .fieldLink (sR 8) 12 (sR 8) (sT 8 2).2.1 (sT 8 2).2.2.1, .fieldLink (sR 8) 18 (sR 8) (sT 8 0).2.1 (sT 8 0).2.2.1, .fieldLink (sR 8) 22 (sR 8) (sT 8 1).2.1 (sT 8 1).2.2.1, .fieldLink (sR 7) 11 (sR 7) (sT 7 0).2.1 (sT 7 0).2.2.1, .classLink (sR 7) 9 (sR 6), .instantiable (sR 6) 4, .code ky_nd prog_5_method_1_code 1 none, .instanceMethod ky_nd, .methodLink (sR 7) 3 objectInit, .classLink (sR 7) 9 "ProofWorkbench$Node", .fieldLink (sR 7) 17 (sR 7) (sT 7 1).2.1 (sT 7 1).2.2.1, .fieldLink (sR 7) 21 (sR 7) (sT 7 2).2.1 (sT 7 2).2.2.1, .methodLink (sR 10) 3 objectInit, .classLink (sR 10) 9 (sR 5), .fieldLink (sR 10) 12 (sR 10) (sT 10 1).2.1 (sT 10 1).2.2.1, .classLink (sR 10) 18 (sR 7), .instantiable (sR 7) 3, .code ky_pf prog_6_method_1_code 2 none, .methodLink (sR 10) 20 ky_pf, .instanceMethod ky_pf, .fieldLink (sR 10) 21 (sR 10) (sT 10 2).2.1 (sT 10 2).2.2.1, .fieldLink (sR 10) 25 (sR 10) (sT 10 3).2.1 (sT 10 3).2.2.1, .fieldLink (sR 10) 28 (sR 10) (sT 10 0).2.1 (sT 10 0).2.2.1, .methodLink (sR 1) 3 objectInit, .classLink (sR 1) 9 (sR 2), .instantiable (sR 2) 5, .code ky_ft prog_3_method_1_code 1 none, .instanceMethod ky_ft, .fieldLink (sR 1) 12 (sR 1) (sT 1 0).2.1 (sT 1 0).2.2.1, .classLink (sR 1) 16 (sR 3), .instantiable (sR 3) 11, .code ky_rd prog_7_method_1_code 2 none, .methodLink (sR 1) 18 ky_rd, .instanceMethod ky_rd, .fieldLink (sR 1) 21 (sR 1) (sT 1 1).2.1 (sT 1 1).2.2.1, .classLink (sR 1) 25 (sR 4), .instantiable (sR 4) 3, .code ky_wr prog_10_method_1_code 2 none, .methodLink (sR 1) 27 ky_wr, .instanceMethod ky_wr, .fieldLink (sR 1) 28 (sR 1) (sT 1 2).2.1 (sT 1 2).2.2.1, .classLink (sR 1) 32 (sR 5), .fieldLink (sR 1) 35 (sR 1) (sT 1 3).2.1 (sT 1 3).2.2.1, .fieldLink (sR 1) 39 (sR 1) (sT 1 4).2.1 (sT 1 4).2.2.1, .classLink (sR 1) 42 "ProofWorkbench$Proof", .fieldLink (sR 1) 44 (sR 1) (sT 1 5).2.1 (sT 1 5).2.2.1, .classLink (sR 1) 42 (sR 7), .methodLink (sR 1) 48 ky_pf, .fieldLink (sR 1) 49 (sR 1) (sT 1 6).2.1 (sT 1 6).2.2.1, .classLink (sR 1) 53 (sR 8), .instantiable (sR 8) 3, .code ky_fi prog_2_method_1_code 3 none, .methodLink (sR 1) 55 ky_fi, .instanceMethod ky_fi, .fieldLink (sR 1) 58 (sR 1) (sT 1 7).2.1 (sT 1 7).2.2.1, .classLink (sR 1) 62 (sR 10), .instantiable (sR 10) 4, .code ky_st prog_9_method_1_code 2 none, .methodLink (sR 1) 64 ky_st, .instanceMethod ky_st, .fieldLink (sR 1) 65 (sR 1) (sT 1 8).2.1 (sT 1 8).2.2.1, .methodLink (sR 11) 1 objectInit, .arrayClass .boolean, .fieldLink (sR 11) 7 (sR 11) (sT 11 2).2.1 (sT 11 2).2.2.1, .fieldLink (sR 11) 13 (sR 11) (sT 11 3).2.1 (sT 11 3).2.2.1, .fieldLink (sR 11) 17 (sR 11) (sT 11 4).2.1 (sT 11 4).2.2.1, .fieldLink (sR 11) 20 (sR 11) (sT 11 5).2.1 (sT 11 5).2.2.1, .fieldLink (sR 11) 23 (sR 11) (sT 11 7).2.1 (sT 11 7).2.2.1, .fieldLink (sR 11) 26 (sR 11) (sT 11 8).2.1 (sT 11 8).2.2.1, .fieldLink (sR 11) 29 (sR 11) (sT 11 9).2.1 (sT 11 9).2.2.1, .fieldLink (sR 11) 32 (sR 11) (sT 11 10).2.1 (sT 11 10).2.2.1, .fieldLink (sR 11) 35 (sR 11) (sT 11 11).2.1 (sT 11 11).2.2.1, .fieldLink (sR 11) 38 (sR 11) (sT 11 14).2.1 (sT 11 14).2.2.1, .fieldLink (sR 11) 41 (sR 11) (sT 11 15).2.1 (sT 11 15).2.2.1, .fieldLink (sR 11) 44 (sR 11) (sT 11 17).2.1 (sT 11 17).2.2.1, .fieldLink (sR 11) 47 (sR 11) (sT 11 18).2.1 (sT 11 18).2.2.1, .fieldLink (sR 11) 50 (sR 11) (sT 11 19).2.1 (sT 11 19).2.2.1, .fieldLink (sR 11) 53 (sR 11) (sT 11 20).2.1 (sT 11 20).2.2.1, .fieldLink (sR 11) 56 (sR 11) (sT 11 21).2.1 (sT 11 21).2.2.1, .fieldLink (sR 11) 59 (sR 11) (sT 11 22).2.1 (sT 11 22).2.2.1, .fieldLink (sR 11) 62 (sR 11) (sT 11 23).2.1 (sT 11 23).2.2.1, .fieldLink (sR 11) 65 (sR 11) (sT 11 24).2.1 (sT 11 24).2.2.1, .fieldLink (sR 11) 68 (sR 11) (sT 11 25).2.1 (sT 11 25).2.2.1, .fieldLink (sR 11) 71 (sR 11) (sT 11 26).2.1 (sT 11 26).2.2.1, .fieldLink (sR 11) 74 (sR 11) (sT 11 27).2.1 (sT 11 27).2.2.1, .fieldLink (sR 11) 77 (sR 11) (sT 11 29).2.1 (sT 11 29).2.2.1, .fieldLink (sR 11) 80 (sR 11) (sT 11 30).2.1 (sT 11 30).2.2.1, .fieldLink (sR 11) 83 (sR 11) (sT 11 31).2.1 (sT 11 31).2.2.1, .fieldLink (sR 11) 86 (sR 11) (sT 11 33).2.1 (sT 11 33).2.2.1, .fieldLink (sR 11) 89 (sR 11) (sT 11 35).2.1 (sT 11 35).2.2.1, .fieldLink (sR 11) 92 (sR 11) (sT 11 36).2.1 (sT 11 36).2.2.1, .fieldLink (sR 11) 95 (sR 11) (sT 11 37).2.1 (sT 11 37).2.2.1, .fieldLink (sR 11) 99 (sR 11) (sT 11 38).2.1 (sT 11 38).2.2.1, .fieldLink (sR 11) 102 (sR 11) (sT 11 39).2.1 (sT 11 39).2.2.1, .fieldLink (sR 11) 105 (sR 11) (sT 11 40).2.1 (sT 11 40).2.2.1, .fieldLink (sR 11) 108 (sR 11) (sT 11 41).2.1 (sT 11 41).2.2.1, .fieldLink (sR 11) 111 (sR 11) (sT 11 42).2.1 (sT 11 42).2.2.1, .fieldLink (sR 11) 114 (sR 11) (sT 11 43).2.1 (sT 11 43).2.2.1, .fieldLink (sR 11) 117 (sR 11) (sT 11 44).2.1 (sT 11 44).2.2.1]
set_option maxRecDepth 100000 in
theorem kc_lok : kc_l.all so_in1 = true := by decide +kernel
theorem kc_at {w : Cond} (i : Nat) (h : kc_l[i]? = some w) : so_in1 w = true := List.all_eq_true.mp kc_lok w (List.mem_of_getElem? h)
set_option maxHeartbeats 8000000 in
set_option maxRecDepth 100000 in
theorem kc_sq (l : Launch) (Z : so_Z) : KC l Z ky_sq kw_sq ({ frames := 1, cells := 1, slots := 20, locals := 20 }) 1 20 [] (.inr (4, [.null, .int 0])) (fun q w => ∃ a : Nat, w = [(q, .inr (4, [.ref a, .int 0])), (a, kc_it Z)]) := by
  intro h0 sz
  refine Met.ofW (cc := prog_8_method_1_code) (maxL := 1) (ret := none) (by decide) rfl ?_
  intro p e s m args below meth c s₁ B hml hv
  obtain ⟨rfl, hsz, hP, hD0, hG⟩ := hv
  have hx := B.exec
  have hb := B.bytes
  have hr := B.returns
  have hts := atoms_spec (ws := kw_sq) B.pre
  have hown : s.vm.findClass (sR 5) = some m.cls := findClass_of_methodNamed B.named
  have hlocks := B.notSynchronized
  have hin : meth.name = "<init>" := (name_of_methodNamed B.named B.method).1
  subst hsz
  have hD := hD0.self (sz := s.heap.size)
  unfold kc_B
  generalize hAe : va_A [(h0, .inr (4, [.null, .int 0]))] s.heap.size = A at hD ⊢
  have hA : ∀ q : Nat, s.heap.size ≤ q → A q := fun q h => by rw [← hAe]; exact Or.inr h
  have hS : va_S A s.heap s.heap [] := va_S.rf
  have hK := hG.1
  have hP : va_P Z.2.1 so_cl [(h0, .inr (4, [.null, .int 0]))] s.heap := hP
  have hl := lv_entry ([.ref h0]) (n := 1) (Nat.le_of_ble_eq_true rfl)
  rw [lg_entry_eq]
  generalize (lg_sl ([.ref h0]) ++ List.replicate (1 - (lg_sl ([.ref h0])).length) Slot.unset).toArray = ls at hl ⊢
  have hl : lv_has ls 1 [(0, .ref h0)] := hl
  refine lv_aload_n hx hb kd_sq_0 rfl (lv_at hl 0 rfl) ?_
  refine W.objInit hx hb hown (hts _ (jk_sub _ (so_in1_in (kc_at 0 rfl)))) (hts _ (jk_sub _ (so_in1_in (kc_at 1 rfl)))) (hts _ (jk_sub _ (so_in1_in (kc_at 2 rfl)))) rfl (by rw [hml]; exact hl.1) rfl kd_sq_1 (Nat.le_of_ble_eq_true rfl) (Nat.le_of_ble_eq_true rfl) ?_
  refine W.eq (g2 := F0 m 4 ls []) rfl ?_
  refine lv_aload_n hx hb kd_sq_4 rfl (lv_at hl 0 rfl) ?_
  refine lv_bipush (v := 20) hx hb kd_sq_5 (by decide) ?_
  refine kr_newa (atype := .int) (t := 1) (t0 := 0) (N := 20) (a0 := (20, .inl (fun _ => 0))) hx hb hts jk_sub rfl (kc_at 3 rfl) hK hP hD hS hA rfl (fun _ => rfl) (fun _ => rfl) (by decide) (by decide) (Nat.le_of_ble_eq_true rfl) (Nat.le_of_ble_eq_true rfl) (Nat.le_of_ble_eq_true rfl) kd_sq_7 (fun q1 H hP hD hS => ?_)
  have hP : va_P Z.2.1 so_cl ((h0, .inr (4, [.null, .int 0])) :: [(q1, .inl (Z.2.2 1, 20, .inl (fun _ => 0)))]) H := hP
  have hD : va_D A ((h0, .inr (4, [.null, .int 0])) :: [(q1, .inl (Z.2.2 1, 20, .inl (fun _ => 0)))]) := hD
  refine W.widen (k := 1) (n := 20) (Nat.le_of_ble_eq_true rfl) (Nat.le_of_ble_eq_true rfl) ?_
  refine kr_put (k := 5) (j := 0) (idx := 11) (v := .ref q1) hx hb hts jk_sub (by decide) (by decide) hown hin hK hP hD hS (by decide) (kc_at 4 rfl) (ty := (.array .int)) (by decide +kernel) rfl rfl (Nat.le_of_ble_eq_true rfl) kd_sq_9 (fun H locs hP hD hS => ?_)
  have hP : va_P Z.2.1 so_cl ((h0, .inr (4, [.ref q1, .int 0])) :: [(q1, .inl (Z.2.2 1, 20, .inl (fun _ => 0)))]) H := hP
  have hD : va_D A ((h0, .inr (4, [.ref q1, .int 0])) :: [(q1, .inl (Z.2.2 1, 20, .inl (fun _ => 0)))]) := hD
  refine lv_aload_n hx hb kd_sq_12 rfl (lv_at hl 0 rfl) ?_
  refine lv_iconst (v := 0) hx hb kd_sq_13 (by decide) ?_
  refine kr_put (k := 5) (j := 1) (idx := 15) (v := .int 0) hx hb hts jk_sub (by decide) (by decide) hown hin hK hP hD hS (by decide) (kc_at 5 rfl) (ty := .int) (by decide +kernel) rfl rfl (Nat.le_of_ble_eq_true rfl) kd_sq_14 (fun H locs hP hD hS => ?_)
  have hP : va_P Z.2.1 so_cl ((h0, .inr (4, [.ref q1, .int 0])) :: [(q1, .inl (Z.2.2 1, 20, .inl (fun _ => 0)))]) H := hP
  have hD : va_D A ((h0, .inr (4, [.ref q1, .int 0])) :: [(q1, .inl (Z.2.2 1, 20, .inl (fun _ => 0)))]) := hD
  exact W.vret hx hb hr (fun t ht hW => ⟨⟨(h0, .inr (4, [.ref q1, .int 0])) :: [(q1, .inl (Z.2.2 1, 20, .inl (fun _ => 0)))], rfl, ⟨q1, rfl⟩, by rw [ht]; exact hP, hD⟩, hS.F ht⟩) hS.2.2 kd_sq_17
set_option maxHeartbeats 8000000 in
set_option maxRecDepth 100000 in
theorem kc_nd (l : Launch) (Z : so_Z) : KC l Z ky_nd kw_nd ({ frames := 2, cells := 2, slots := 22, locals := 60 }) 2 22 [] (.inr (5, [.null, .int 0, .int 0, .int 0])) (fun q w => ∃ b a : Nat, w = [(q, .inr (5, [.ref b, .int 0, .int (-1), .int 1])), (b, .inr (4, [.ref a, .int 0])), (a, kc_it Z)]) := by
  intro h0 sz
  refine Met.ofW (cc := prog_5_method_1_code) (maxL := 1) (ret := none) (by decide) rfl ?_
  intro p e s m args below meth c s₁ B hml hv
  obtain ⟨rfl, hsz, hP, hD0, hG⟩ := hv
  have hx := B.exec
  have hb := B.bytes
  have hr := B.returns
  have hts := atoms_spec (ws := kw_nd) B.pre
  have hown : s.vm.findClass (sR 6) = some m.cls := findClass_of_methodNamed B.named
  have hlocks := B.notSynchronized
  have hin : meth.name = "<init>" := (name_of_methodNamed B.named B.method).1
  subst hsz
  have hD := hD0.self (sz := s.heap.size)
  unfold kc_B
  generalize hAe : va_A [(h0, .inr (5, [.null, .int 0, .int 0, .int 0]))] s.heap.size = A at hD ⊢
  have hA : ∀ q : Nat, s.heap.size ≤ q → A q := fun q h => by rw [← hAe]; exact Or.inr h
  have hS : va_S A s.heap s.heap [] := va_S.rf
  have hK := hG.1
  have hP : va_P Z.2.1 so_cl [(h0, .inr (5, [.null, .int 0, .int 0, .int 0]))] s.heap := hP
  have hl := lv_entry ([.ref h0]) (n := 1) (Nat.le_of_ble_eq_true rfl)
  rw [lg_entry_eq]
  generalize (lg_sl ([.ref h0]) ++ List.replicate (1 - (lg_sl ([.ref h0])).length) Slot.unset).toArray = ls at hl ⊢
  have hl : lv_has ls 1 [(0, .ref h0)] := hl
  refine lv_aload_n hx hb kd_nd_0 rfl (lv_at hl 0 rfl) ?_
  refine W.objInit hx hb hown (hts _ (jk_sub _ (so_in1_in (kc_at 6 rfl)))) (hts _ (jk_sub _ (so_in1_in (kc_at 1 rfl)))) (hts _ (jk_sub _ (so_in1_in (kc_at 2 rfl)))) rfl (by rw [hml]; exact hl.1) rfl kd_nd_1 (Nat.le_of_ble_eq_true rfl) (Nat.le_of_ble_eq_true rfl) ?_
  refine W.eq (g2 := F0 m 4 ls []) rfl ?_
  refine lv_aload_n hx hb kd_nd_4 rfl (lv_at hl 0 rfl) ?_
  refine kr_new (k := 6) (k' := 5) (idx := 9) (N := 2) (fs' := [.null, .int 0]) hx hb hts jk_sub (by decide) (by decide) hown hK hP hD hS hA (kc_at 7 rfl) (kc_at 8 rfl) rfl (by decide +kernel) (Nat.le_of_ble_eq_true rfl) (Nat.le_of_ble_eq_true rfl) kd_nd_5 (fun q1 H hP hD hS => ?_)
  have hP : va_P Z.2.1 so_cl (((h0, .inr (5, [.null, .int 0, .int 0, .int 0])) :: []) ++ [(q1, .inr (4, [.null, .int 0]))]) H := hP
  have hD : va_D A (((h0, .inr (5, [.null, .int 0, .int 0, .int 0])) :: []) ++ [(q1, .inr (4, [.null, .int 0]))]) := hD
  refine W.widen (k := 1) (n := 2) (Nat.le_of_ble_eq_true rfl) (Nat.le_of_ble_eq_true rfl) ?_
  refine lv_dup hx hb kd_nd_8 rfl ?_
  refine kr_call (post := fun q w => ∃ a : Nat, w = [(q, .inr (4, [.ref a, .int 0])), (a, kc_it Z)]) (e0 := .inr (4, [.null, .int 0])) (mc := 1) (ms := 20) (q := q1) (X := (h0, .inr (5, [.null, .int 0, .int 0, .int 0])) :: []) (va_runIN (rm := ({ frames := 1, cells := 1, slots := 20, locals := 20 })) (mc := 1) (ms := 20) (As := []) (rest := [.ref q1, .ref h0]) ⟨hx, hb, hml, hown, hts⟩ (kc_sq l Z q1 H.size) ⟨va_cnB 0 hts (jk_good jk_sub (kc_at 9 rfl)) rfl rfl rfl (hG.2.1 (.methodLinkNest (sR 6) 11 ky_sq "ProofWorkbench") (by decide)) (hts _ (jk_sub _ (so_f8 5 (by decide)))) ⟨by decide, by decide, by decide +kernel⟩ ⟨Nat.le_of_ble_eq_true rfl, Nat.le_of_ble_eq_true rfl⟩, rfl, hts _ (jk_sub _ (so_in1_in (kc_at 10 rfl)))⟩ (kc_preS (X := (h0, .inr (5, [.null, .int 0, .int 0, .int 0])) :: []) (A := A) hG hP) rfl rfl hl.1 rfl (lv_room (Nat.le_of_ble_eq_true rfl)) kd_nd_9 ⟨Nat.le_of_ble_eq_true rfl, Nat.le_of_ble_eq_true rfl⟩) hP hD hS hA (fun w H locs hw hP hD hS => ?_)
  obtain ⟨q2, rfl⟩ := hw
  have hP : va_P Z.2.1 so_cl ((h0, .inr (5, [.null, .int 0, .int 0, .int 0])) :: [(q1, .inr (4, [.ref q2, .int 0])), (q2, kc_it Z)]) H := hP
  have hD : va_D A ((h0, .inr (5, [.null, .int 0, .int 0, .int 0])) :: [(q1, .inr (4, [.ref q2, .int 0])), (q2, kc_it Z)]) := hD
  refine W.widen (k := 2) (n := 22) (Nat.le_of_ble_eq_true rfl) (Nat.le_of_ble_eq_true rfl) ?_
  refine kr_put (k := 6) (j := 0) (idx := 12) (v := .ref q1) hx hb hts jk_sub (by decide) (by decide) hown hin hK hP hD hS (by decide) (kc_at 11 rfl) (ty := (.object "ProofWorkbench$Sequent")) (by decide +kernel) rfl rfl (Nat.le_of_ble_eq_true rfl) kd_nd_12 (fun H locs hP hD hS => ?_)
  have hP : va_P Z.2.1 so_cl ((h0, .inr (5, [.ref q1, .int 0, .int 0, .int 0])) :: [(q1, .inr (4, [.ref q2, .int 0])), (q2, kc_it Z)]) H := hP
  have hD : va_D A ((h0, .inr (5, [.ref q1, .int 0, .int 0, .int 0])) :: [(q1, .inr (4, [.ref q2, .int 0])), (q2, kc_it Z)]) := hD
  refine lv_aload_n hx hb kd_nd_15 rfl (lv_at hl 0 rfl) ?_
  refine lv_iconst (v := 0) hx hb kd_nd_16 (by decide) ?_
  refine kr_put (k := 6) (j := 1) (idx := 18) (v := .int 0) hx hb hts jk_sub (by decide) (by decide) hown hin hK hP hD hS (by decide) (kc_at 12 rfl) (ty := .int) (by decide +kernel) rfl rfl (Nat.le_of_ble_eq_true rfl) kd_nd_17 (fun H locs hP hD hS => ?_)
  have hP : va_P Z.2.1 so_cl ((h0, .inr (5, [.ref q1, .int 0, .int 0, .int 0])) :: [(q1, .inr (4, [.ref q2, .int 0])), (q2, kc_it Z)]) H := hP
  have hD : va_D A ((h0, .inr (5, [.ref q1, .int 0, .int 0, .int 0])) :: [(q1, .inr (4, [.ref q2, .int 0])), (q2, kc_it Z)]) := hD
  refine lv_aload_n hx hb kd_nd_20 rfl (lv_at hl 0 rfl) ?_
  refine lv_iconst (v := (-1)) hx hb kd_nd_21 (by decide) ?_
  refine kr_put (k := 6) (j := 2) (idx := 22) (v := .int (-1)) hx hb hts jk_sub (by decide) (by decide) hown hin hK hP hD hS (by decide) (kc_at 13 rfl) (ty := .int) (by decide +kernel) rfl rfl (Nat.le_of_ble_eq_true rfl) kd_nd_22 (fun H locs hP hD hS => ?_)
  have hP : va_P Z.2.1 so_cl ((h0, .inr (5, [.ref q1, .int 0, .int (-1), .int 0])) :: [(q1, .inr (4, [.ref q2, .int 0])), (q2, kc_it Z)]) H := hP
  have hD : va_D A ((h0, .inr (5, [.ref q1, .int 0, .int (-1), .int 0])) :: [(q1, .inr (4, [.ref q2, .int 0])), (q2, kc_it Z)]) := hD
  refine lv_aload_n hx hb kd_nd_25 rfl (lv_at hl 0 rfl) ?_
  refine lv_iconst (v := 1) hx hb kd_nd_26 (by decide) ?_
  refine kr_put (k := 6) (j := 3) (idx := 25) (v := .int 1) hx hb hts jk_sub (by decide) (by decide) hown hin hK hP hD hS (by decide) (kc_at 14 rfl) (ty := .int) (by decide +kernel) rfl rfl (Nat.le_of_ble_eq_true rfl) kd_nd_27 (fun H locs hP hD hS => ?_)
  have hP : va_P Z.2.1 so_cl ((h0, .inr (5, [.ref q1, .int 0, .int (-1), .int 1])) :: [(q1, .inr (4, [.ref q2, .int 0])), (q2, kc_it Z)]) H := hP
  have hD : va_D A ((h0, .inr (5, [.ref q1, .int 0, .int (-1), .int 1])) :: [(q1, .inr (4, [.ref q2, .int 0])), (q2, kc_it Z)]) := hD
  exact W.vret hx hb hr (fun t ht hW => ⟨⟨(h0, .inr (5, [.ref q1, .int 0, .int (-1), .int 1])) :: [(q1, .inr (4, [.ref q2, .int 0])), (q2, kc_it Z)], rfl, ⟨q1, q2, rfl⟩, by rw [ht]; exact hP, hD⟩, hS.F ht⟩) hS.2.2 kd_nd_30
set_option maxHeartbeats 8000000 in
set_option maxRecDepth 100000 in
theorem kc_ho (l : Launch) (Z : so_Z) : KC l Z ky_ho kw_ho ({ frames := 1, cells := 1, slots := 1024, locals := 20 }) 1 1024 [] (.inr (8, [.null])) (fun q w => ∃ a : Nat, w = [(q, .inr (8, [.ref a])), (a, .inl (Z.2.2 4, 1024, .inr (.inl (fun _ => 0))))]) := by
  intro h0 sz
  refine Met.ofW (cc := prog_4_method_1_code) (maxL := 1) (ret := none) (by decide) rfl ?_
  intro p e s m args below meth c s₁ B hml hv
  obtain ⟨rfl, hsz, hP, hD0, hG⟩ := hv
  have hx := B.exec
  have hb := B.bytes
  have hr := B.returns
  have hts := atoms_spec (ws := kw_ho) B.pre
  have hown : s.vm.findClass (sR 9) = some m.cls := findClass_of_methodNamed B.named
  have hlocks := B.notSynchronized
  have hin : meth.name = "<init>" := (name_of_methodNamed B.named B.method).1
  subst hsz
  have hD := hD0.self (sz := s.heap.size)
  unfold kc_B
  generalize hAe : va_A [(h0, .inr (8, [.null]))] s.heap.size = A at hD ⊢
  have hA : ∀ q : Nat, s.heap.size ≤ q → A q := fun q h => by rw [← hAe]; exact Or.inr h
  have hS : va_S A s.heap s.heap [] := va_S.rf
  have hK := hG.1
  have hP : va_P Z.2.1 so_cl [(h0, .inr (8, [.null]))] s.heap := hP
  have hl := lv_entry ([.ref h0]) (n := 1) (Nat.le_of_ble_eq_true rfl)
  rw [lg_entry_eq]
  generalize (lg_sl ([.ref h0]) ++ List.replicate (1 - (lg_sl ([.ref h0])).length) Slot.unset).toArray = ls at hl ⊢
  have hl : lv_has ls 1 [(0, .ref h0)] := hl
  refine lv_aload_n hx hb kd_ho_0 rfl (lv_at hl 0 rfl) ?_
  refine W.objInit hx hb hown (hts _ (jk_sub _ (so_in1_in (kc_at 15 rfl)))) (hts _ (jk_sub _ (so_in1_in (kc_at 1 rfl)))) (hts _ (jk_sub _ (so_in1_in (kc_at 2 rfl)))) rfl (by rw [hml]; exact hl.1) rfl kd_ho_1 (Nat.le_of_ble_eq_true rfl) (Nat.le_of_ble_eq_true rfl) ?_
  refine W.eq (g2 := F0 m 4 ls []) rfl ?_
  refine lv_aload_n hx hb kd_ho_4 rfl (lv_at hl 0 rfl) ?_
  refine lv_sipush (v := 1024) hx hb kd_ho_5 (by decide) ?_
  refine kr_newa (atype := .long) (t := 4) (t0 := 3) (N := 1024) (a0 := (1024, .inr (.inl (fun _ => 0)))) hx hb hts jk_sub rfl (kc_at 16 rfl) hK hP hD hS hA rfl (fun _ => rfl) (fun _ => rfl) (by decide) (by decide) (Nat.le_of_ble_eq_true rfl) (Nat.le_of_ble_eq_true rfl) (Nat.le_of_ble_eq_true rfl) kd_ho_8 (fun q1 H hP hD hS => ?_)
  have hP : va_P Z.2.1 so_cl ((h0, .inr (8, [.null])) :: [(q1, .inl (Z.2.2 4, 1024, .inr (.inl (fun _ => 0))))]) H := hP
  have hD : va_D A ((h0, .inr (8, [.null])) :: [(q1, .inl (Z.2.2 4, 1024, .inr (.inl (fun _ => 0))))]) := hD
  refine W.widen (k := 1) (n := 1024) (Nat.le_of_ble_eq_true rfl) (Nat.le_of_ble_eq_true rfl) ?_
  refine kr_put (k := 9) (j := 0) (idx := 9) (v := .ref q1) hx hb hts jk_sub (by decide) (by decide) hown hin hK hP hD hS (by decide) (kc_at 17 rfl) (ty := (.array .long)) (by decide +kernel) rfl rfl (Nat.le_of_ble_eq_true rfl) kd_ho_10 (fun H locs hP hD hS => ?_)
  have hP : va_P Z.2.1 so_cl ((h0, .inr (8, [.ref q1])) :: [(q1, .inl (Z.2.2 4, 1024, .inr (.inl (fun _ => 0))))]) H := hP
  have hD : va_D A ((h0, .inr (8, [.ref q1])) :: [(q1, .inl (Z.2.2 4, 1024, .inr (.inl (fun _ => 0))))]) := hD
  exact W.vret hx hb hr (fun t ht hW => ⟨⟨(h0, .inr (8, [.ref q1])) :: [(q1, .inl (Z.2.2 4, 1024, .inr (.inl (fun _ => 0))))], rfl, ⟨q1, rfl⟩, by rw [ht]; exact hP, hD⟩, hS.F ht⟩) hS.2.2 kd_ho_13
set_option maxHeartbeats 8000000 in
set_option maxRecDepth 100000 in
theorem kc_ft (l : Launch) (Z : so_Z) : KC l Z ky_ft kw_ft ({ frames := 1, cells := 4, slots := 320, locals := 20 }) 4 320 [] (.inr (1, [.null, .null, .null, .null, .int 0])) (fun q w => ∃ a b c d : Nat, w = [(q, .inr (1, [.ref a, .ref b, .ref c, .ref d, .int 20])), (a, .inl (Z.2.2 1, 80, .inl (fun _ => 0))), (b, .inl (Z.2.2 1, 80, .inl (fun _ => 0))), (c, .inl (Z.2.2 1, 80, .inl (fun _ => 0))), (d, .inl (Z.2.2 1, 80, .inl (fun _ => 0)))]) := by
  intro h0 sz
  refine Met.ofW (cc := prog_3_method_1_code) (maxL := 1) (ret := none) (by decide) rfl ?_
  intro p e s m args below meth c s₁ B hml hv
  obtain ⟨rfl, hsz, hP, hD0, hG⟩ := hv
  have hx := B.exec
  have hb := B.bytes
  have hr := B.returns
  have hts := atoms_spec (ws := kw_ft) B.pre
  have hown : s.vm.findClass (sR 2) = some m.cls := findClass_of_methodNamed B.named
  have hlocks := B.notSynchronized
  have hin : meth.name = "<init>" := (name_of_methodNamed B.named B.method).1
  subst hsz
  have hD := hD0.self (sz := s.heap.size)
  unfold kc_B
  generalize hAe : va_A [(h0, .inr (1, [.null, .null, .null, .null, .int 0]))] s.heap.size = A at hD ⊢
  have hA : ∀ q : Nat, s.heap.size ≤ q → A q := fun q h => by rw [← hAe]; exact Or.inr h
  have hS : va_S A s.heap s.heap [] := va_S.rf
  have hK := hG.1
  have hP : va_P Z.2.1 so_cl [(h0, .inr (1, [.null, .null, .null, .null, .int 0]))] s.heap := hP
  have hl := lv_entry ([.ref h0]) (n := 1) (Nat.le_of_ble_eq_true rfl)
  rw [lg_entry_eq]
  generalize (lg_sl ([.ref h0]) ++ List.replicate (1 - (lg_sl ([.ref h0])).length) Slot.unset).toArray = ls at hl ⊢
  have hl : lv_has ls 1 [(0, .ref h0)] := hl
  refine lv_aload_n hx hb kd_ft_0 rfl (lv_at hl 0 rfl) ?_
  refine W.objInit hx hb hown (hts _ (jk_sub _ (so_in1_in (kc_at 18 rfl)))) (hts _ (jk_sub _ (so_in1_in (kc_at 1 rfl)))) (hts _ (jk_sub _ (so_in1_in (kc_at 2 rfl)))) rfl (by rw [hml]; exact hl.1) rfl kd_ft_1 (Nat.le_of_ble_eq_true rfl) (Nat.le_of_ble_eq_true rfl) ?_
  refine W.eq (g2 := F0 m 4 ls []) rfl ?_
  refine lv_aload_n hx hb kd_ft_4 rfl (lv_at hl 0 rfl) ?_
  refine lv_bipush (v := 80) hx hb kd_ft_5 (by decide) ?_
  refine kr_newa (atype := .int) (t := 1) (t0 := 0) (N := 80) (a0 := (80, .inl (fun _ => 0))) hx hb hts jk_sub rfl (kc_at 3 rfl) hK hP hD hS hA rfl (fun _ => rfl) (fun _ => rfl) (by decide) (by decide) (Nat.le_of_ble_eq_true rfl) (Nat.le_of_ble_eq_true rfl) (Nat.le_of_ble_eq_true rfl) kd_ft_7 (fun q1 H hP hD hS => ?_)
  have hP : va_P Z.2.1 so_cl ((h0, .inr (1, [.null, .null, .null, .null, .int 0])) :: [(q1, .inl (Z.2.2 1, 80, .inl (fun _ => 0)))]) H := hP
  have hD : va_D A ((h0, .inr (1, [.null, .null, .null, .null, .int 0])) :: [(q1, .inl (Z.2.2 1, 80, .inl (fun _ => 0)))]) := hD
  refine W.widen (k := 1) (n := 80) (Nat.le_of_ble_eq_true rfl) (Nat.le_of_ble_eq_true rfl) ?_
  refine kr_put (k := 2) (j := 0) (idx := 9) (v := .ref q1) hx hb hts jk_sub (by decide) (by decide) hown hin hK hP hD hS (by decide) (kc_at 19 rfl) (ty := (.array .int)) (by decide +kernel) rfl rfl (Nat.le_of_ble_eq_true rfl) kd_ft_9 (fun H locs hP hD hS => ?_)
  have hP : va_P Z.2.1 so_cl ((h0, .inr (1, [.ref q1, .null, .null, .null, .int 0])) :: [(q1, .inl (Z.2.2 1, 80, .inl (fun _ => 0)))]) H := hP
  have hD : va_D A ((h0, .inr (1, [.ref q1, .null, .null, .null, .int 0])) :: [(q1, .inl (Z.2.2 1, 80, .inl (fun _ => 0)))]) := hD
  refine lv_aload_n hx hb kd_ft_12 rfl (lv_at hl 0 rfl) ?_
  refine lv_bipush (v := 80) hx hb kd_ft_13 (by decide) ?_
  refine kr_newa (atype := .int) (t := 1) (t0 := 0) (N := 80) (a0 := (80, .inl (fun _ => 0))) hx hb hts jk_sub rfl (kc_at 3 rfl) hK hP hD hS hA rfl (fun _ => rfl) (fun _ => rfl) (by decide) (by decide) (Nat.le_of_ble_eq_true rfl) (Nat.le_of_ble_eq_true rfl) (Nat.le_of_ble_eq_true rfl) kd_ft_15 (fun q2 H hP hD hS => ?_)
  have hP : va_P Z.2.1 so_cl ((h0, .inr (1, [.ref q1, .null, .null, .null, .int 0])) :: [(q1, .inl (Z.2.2 1, 80, .inl (fun _ => 0))), (q2, .inl (Z.2.2 1, 80, .inl (fun _ => 0)))]) H := hP
  have hD : va_D A ((h0, .inr (1, [.ref q1, .null, .null, .null, .int 0])) :: [(q1, .inl (Z.2.2 1, 80, .inl (fun _ => 0))), (q2, .inl (Z.2.2 1, 80, .inl (fun _ => 0)))]) := hD
  refine W.widen (k := 2) (n := 160) (Nat.le_of_ble_eq_true rfl) (Nat.le_of_ble_eq_true rfl) ?_
  refine kr_put (k := 2) (j := 1) (idx := 15) (v := .ref q2) hx hb hts jk_sub (by decide) (by decide) hown hin hK hP hD hS (by decide) (kc_at 20 rfl) (ty := (.array .int)) (by decide +kernel) rfl rfl (Nat.le_of_ble_eq_true rfl) kd_ft_17 (fun H locs hP hD hS => ?_)
  have hP : va_P Z.2.1 so_cl ((h0, .inr (1, [.ref q1, .ref q2, .null, .null, .int 0])) :: [(q1, .inl (Z.2.2 1, 80, .inl (fun _ => 0))), (q2, .inl (Z.2.2 1, 80, .inl (fun _ => 0)))]) H := hP
  have hD : va_D A ((h0, .inr (1, [.ref q1, .ref q2, .null, .null, .int 0])) :: [(q1, .inl (Z.2.2 1, 80, .inl (fun _ => 0))), (q2, .inl (Z.2.2 1, 80, .inl (fun _ => 0)))]) := hD
  refine lv_aload_n hx hb kd_ft_20 rfl (lv_at hl 0 rfl) ?_
  refine lv_bipush (v := 80) hx hb kd_ft_21 (by decide) ?_
  refine kr_newa (atype := .int) (t := 1) (t0 := 0) (N := 80) (a0 := (80, .inl (fun _ => 0))) hx hb hts jk_sub rfl (kc_at 3 rfl) hK hP hD hS hA rfl (fun _ => rfl) (fun _ => rfl) (by decide) (by decide) (Nat.le_of_ble_eq_true rfl) (Nat.le_of_ble_eq_true rfl) (Nat.le_of_ble_eq_true rfl) kd_ft_23 (fun q3 H hP hD hS => ?_)
  have hP : va_P Z.2.1 so_cl ((h0, .inr (1, [.ref q1, .ref q2, .null, .null, .int 0])) :: [(q1, .inl (Z.2.2 1, 80, .inl (fun _ => 0))), (q2, .inl (Z.2.2 1, 80, .inl (fun _ => 0))), (q3, .inl (Z.2.2 1, 80, .inl (fun _ => 0)))]) H := hP
  have hD : va_D A ((h0, .inr (1, [.ref q1, .ref q2, .null, .null, .int 0])) :: [(q1, .inl (Z.2.2 1, 80, .inl (fun _ => 0))), (q2, .inl (Z.2.2 1, 80, .inl (fun _ => 0))), (q3, .inl (Z.2.2 1, 80, .inl (fun _ => 0)))]) := hD
  refine W.widen (k := 3) (n := 240) (Nat.le_of_ble_eq_true rfl) (Nat.le_of_ble_eq_true rfl) ?_
  refine kr_put (k := 2) (j := 2) (idx := 18) (v := .ref q3) hx hb hts jk_sub (by decide) (by decide) hown hin hK hP hD hS (by decide) (kc_at 21 rfl) (ty := (.array .int)) (by decide +kernel) rfl rfl (Nat.le_of_ble_eq_true rfl) kd_ft_25 (fun H locs hP hD hS => ?_)
  have hP : va_P Z.2.1 so_cl ((h0, .inr (1, [.ref q1, .ref q2, .ref q3, .null, .int 0])) :: [(q1, .inl (Z.2.2 1, 80, .inl (fun _ => 0))), (q2, .inl (Z.2.2 1, 80, .inl (fun _ => 0))), (q3, .inl (Z.2.2 1, 80, .inl (fun _ => 0)))]) H := hP
  have hD : va_D A ((h0, .inr (1, [.ref q1, .ref q2, .ref q3, .null, .int 0])) :: [(q1, .inl (Z.2.2 1, 80, .inl (fun _ => 0))), (q2, .inl (Z.2.2 1, 80, .inl (fun _ => 0))), (q3, .inl (Z.2.2 1, 80, .inl (fun _ => 0)))]) := hD
  refine lv_aload_n hx hb kd_ft_28 rfl (lv_at hl 0 rfl) ?_
  refine lv_bipush (v := 80) hx hb kd_ft_29 (by decide) ?_
  refine kr_newa (atype := .int) (t := 1) (t0 := 0) (N := 80) (a0 := (80, .inl (fun _ => 0))) hx hb hts jk_sub rfl (kc_at 3 rfl) hK hP hD hS hA rfl (fun _ => rfl) (fun _ => rfl) (by decide) (by decide) (Nat.le_of_ble_eq_true rfl) (Nat.le_of_ble_eq_true rfl) (Nat.le_of_ble_eq_true rfl) kd_ft_31 (fun q4 H hP hD hS => ?_)
  have hP : va_P Z.2.1 so_cl ((h0, .inr (1, [.ref q1, .ref q2, .ref q3, .null, .int 0])) :: [(q1, .inl (Z.2.2 1, 80, .inl (fun _ => 0))), (q2, .inl (Z.2.2 1, 80, .inl (fun _ => 0))), (q3, .inl (Z.2.2 1, 80, .inl (fun _ => 0))), (q4, .inl (Z.2.2 1, 80, .inl (fun _ => 0)))]) H := hP
  have hD : va_D A ((h0, .inr (1, [.ref q1, .ref q2, .ref q3, .null, .int 0])) :: [(q1, .inl (Z.2.2 1, 80, .inl (fun _ => 0))), (q2, .inl (Z.2.2 1, 80, .inl (fun _ => 0))), (q3, .inl (Z.2.2 1, 80, .inl (fun _ => 0))), (q4, .inl (Z.2.2 1, 80, .inl (fun _ => 0)))]) := hD
  refine W.widen (k := 4) (n := 320) (Nat.le_of_ble_eq_true rfl) (Nat.le_of_ble_eq_true rfl) ?_
  refine kr_put (k := 2) (j := 3) (idx := 21) (v := .ref q4) hx hb hts jk_sub (by decide) (by decide) hown hin hK hP hD hS (by decide) (kc_at 22 rfl) (ty := (.array .int)) (by decide +kernel) rfl rfl (Nat.le_of_ble_eq_true rfl) kd_ft_33 (fun H locs hP hD hS => ?_)
  have hP : va_P Z.2.1 so_cl ((h0, .inr (1, [.ref q1, .ref q2, .ref q3, .ref q4, .int 0])) :: [(q1, .inl (Z.2.2 1, 80, .inl (fun _ => 0))), (q2, .inl (Z.2.2 1, 80, .inl (fun _ => 0))), (q3, .inl (Z.2.2 1, 80, .inl (fun _ => 0))), (q4, .inl (Z.2.2 1, 80, .inl (fun _ => 0)))]) H := hP
  have hD : va_D A ((h0, .inr (1, [.ref q1, .ref q2, .ref q3, .ref q4, .int 0])) :: [(q1, .inl (Z.2.2 1, 80, .inl (fun _ => 0))), (q2, .inl (Z.2.2 1, 80, .inl (fun _ => 0))), (q3, .inl (Z.2.2 1, 80, .inl (fun _ => 0))), (q4, .inl (Z.2.2 1, 80, .inl (fun _ => 0)))]) := hD
  refine lv_aload_n hx hb kd_ft_36 rfl (lv_at hl 0 rfl) ?_
  refine lv_bipush (v := 20) hx hb kd_ft_37 (by decide) ?_
  refine kr_put (k := 2) (j := 4) (idx := 24) (v := .int 20) hx hb hts jk_sub (by decide) (by decide) hown hin hK hP hD hS (by decide) (kc_at 23 rfl) (ty := .int) (by decide +kernel) rfl rfl (Nat.le_of_ble_eq_true rfl) kd_ft_39 (fun H locs hP hD hS => ?_)
  have hP : va_P Z.2.1 so_cl ((h0, .inr (1, [.ref q1, .ref q2, .ref q3, .ref q4, .int 20])) :: [(q1, .inl (Z.2.2 1, 80, .inl (fun _ => 0))), (q2, .inl (Z.2.2 1, 80, .inl (fun _ => 0))), (q3, .inl (Z.2.2 1, 80, .inl (fun _ => 0))), (q4, .inl (Z.2.2 1, 80, .inl (fun _ => 0)))]) H := hP
  have hD : va_D A ((h0, .inr (1, [.ref q1, .ref q2, .ref q3, .ref q4, .int 20])) :: [(q1, .inl (Z.2.2 1, 80, .inl (fun _ => 0))), (q2, .inl (Z.2.2 1, 80, .inl (fun _ => 0))), (q3, .inl (Z.2.2 1, 80, .inl (fun _ => 0))), (q4, .inl (Z.2.2 1, 80, .inl (fun _ => 0)))]) := hD
  exact W.vret hx hb hr (fun t ht hW => ⟨⟨(h0, .inr (1, [.ref q1, .ref q2, .ref q3, .ref q4, .int 20])) :: [(q1, .inl (Z.2.2 1, 80, .inl (fun _ => 0))), (q2, .inl (Z.2.2 1, 80, .inl (fun _ => 0))), (q3, .inl (Z.2.2 1, 80, .inl (fun _ => 0))), (q4, .inl (Z.2.2 1, 80, .inl (fun _ => 0)))], rfl, ⟨q1, q2, q3, q4, rfl⟩, by rw [ht]; exact hP, hD⟩, hS.F ht⟩) hS.2.2 kd_ft_42
set_option maxHeartbeats 8000000 in
set_option maxRecDepth 100000 in
theorem kc_rd (l : Launch) (Z : so_Z) (tb : Nat) : KC l Z ky_rd kw_rd ({ frames := 1, cells := 4, slots := 84, locals := 20 }) 4 84 [.ref tb] (.inr (2, [.null, .null, .int 0, .null, .null, .null, .int 0, .int 0, .int 0, .int 0, .int 0])) (fun q w => ∃ a b c d : Nat, w = [(q, .inr (2, [.ref tb, .ref a, .int 0, .ref b, .ref c, .ref d, .int 0, .int 0, .int 0, .int 0, .int 0])), (a, .inl (Z.2.2 3, 60, .inl (fun _ => 0))), (b, .inl (Z.2.2 1, 8, .inl (fun _ => 0))), (c, .inl (Z.2.2 1, 8, .inl (fun _ => 0))), (d, .inl (Z.2.2 1, 8, .inl (fun _ => 0)))]) := by
  intro h0 sz
  refine Met.ofW (cc := prog_7_method_1_code) (maxL := 2) (ret := none) (by decide) rfl ?_
  intro p e s m args below meth c s₁ B hml hv
  obtain ⟨rfl, hsz, hP, hD0, hG⟩ := hv
  have hx := B.exec
  have hb := B.bytes
  have hr := B.returns
  have hts := atoms_spec (ws := kw_rd) B.pre
  have hown : s.vm.findClass (sR 3) = some m.cls := findClass_of_methodNamed B.named
  have hlocks := B.notSynchronized
  have hin : meth.name = "<init>" := (name_of_methodNamed B.named B.method).1
  subst hsz
  have hD := hD0.self (sz := s.heap.size)
  unfold kc_B
  generalize hAe : va_A [(h0, .inr (2, [.null, .null, .int 0, .null, .null, .null, .int 0, .int 0, .int 0, .int 0, .int 0]))] s.heap.size = A at hD ⊢
  have hA : ∀ q : Nat, s.heap.size ≤ q → A q := fun q h => by rw [← hAe]; exact Or.inr h
  have hS : va_S A s.heap s.heap [] := va_S.rf
  have hK := hG.1
  have hP : va_P Z.2.1 so_cl [(h0, .inr (2, [.null, .null, .int 0, .null, .null, .null, .int 0, .int 0, .int 0, .int 0, .int 0]))] s.heap := hP
  have hl := lv_entry ([.ref h0, .ref tb]) (n := 2) (Nat.le_of_ble_eq_true rfl)
  rw [lg_entry_eq]
  generalize (lg_sl ([.ref h0, .ref tb]) ++ List.replicate (2 - (lg_sl ([.ref h0, .ref tb])).length) Slot.unset).toArray = ls at hl ⊢
  have hl : lv_has ls 2 [(0, .ref h0), (1, .ref tb)] := hl
  refine lv_aload_n hx hb kd_rd_0 rfl (lv_at hl 0 rfl) ?_
  refine W.objInit hx hb hown (hts _ (jk_sub _ (so_in1_in (kc_at 24 rfl)))) (hts _ (jk_sub _ (so_in1_in (kc_at 1 rfl)))) (hts _ (jk_sub _ (so_in1_in (kc_at 2 rfl)))) rfl (by rw [hml]; exact hl.1) rfl kd_rd_1 (Nat.le_of_ble_eq_true rfl) (Nat.le_of_ble_eq_true rfl) ?_
  refine W.eq (g2 := F0 m 4 ls []) rfl ?_
  refine lv_aload_n hx hb kd_rd_4 rfl (lv_at hl 0 rfl) ?_
  refine lv_bipush (v := 60) hx hb kd_rd_5 (by decide) ?_
  refine kr_newa (atype := .char) (t := 3) (t0 := 2) (N := 60) (a0 := (60, .inl (fun _ => 0))) hx hb hts jk_sub rfl (kc_at 25 rfl) hK hP hD hS hA rfl (fun _ => rfl) (fun _ => rfl) (by decide) (by decide) (Nat.le_of_ble_eq_true rfl) (Nat.le_of_ble_eq_true rfl) (Nat.le_of_ble_eq_true rfl) kd_rd_7 (fun q1 H hP hD hS => ?_)
  have hP : va_P Z.2.1 so_cl ((h0, .inr (2, [.null, .null, .int 0, .null, .null, .null, .int 0, .int 0, .int 0, .int 0, .int 0])) :: [(q1, .inl (Z.2.2 3, 60, .inl (fun _ => 0)))]) H := hP
  have hD : va_D A ((h0, .inr (2, [.null, .null, .int 0, .null, .null, .null, .int 0, .int 0, .int 0, .int 0, .int 0])) :: [(q1, .inl (Z.2.2 3, 60, .inl (fun _ => 0)))]) := hD
  refine W.widen (k := 1) (n := 60) (Nat.le_of_ble_eq_true rfl) (Nat.le_of_ble_eq_true rfl) ?_
  refine kr_put (k := 3) (j := 1) (idx := 11) (v := .ref q1) hx hb hts jk_sub (by decide) (by decide) hown hin hK hP hD hS (by decide) (kc_at 26 rfl) (ty := (.array .char)) (by decide +kernel) rfl rfl (Nat.le_of_ble_eq_true rfl) kd_rd_9 (fun H locs hP hD hS => ?_)
  have hP : va_P Z.2.1 so_cl ((h0, .inr (2, [.null, .ref q1, .int 0, .null, .null, .null, .int 0, .int 0, .int 0, .int 0, .int 0])) :: [(q1, .inl (Z.2.2 3, 60, .inl (fun _ => 0)))]) H := hP
  have hD : va_D A ((h0, .inr (2, [.null, .ref q1, .int 0, .null, .null, .null, .int 0, .int 0, .int 0, .int 0, .int 0])) :: [(q1, .inl (Z.2.2 3, 60, .inl (fun _ => 0)))]) := hD
  refine lv_aload_n hx hb kd_rd_12 rfl (lv_at hl 0 rfl) ?_
  refine lv_iconst (v := 0) hx hb kd_rd_13 (by decide) ?_
  refine kr_put (k := 3) (j := 2) (idx := 15) (v := .int 0) hx hb hts jk_sub (by decide) (by decide) hown hin hK hP hD hS (by decide) (kc_at 27 rfl) (ty := .int) (by decide +kernel) rfl rfl (Nat.le_of_ble_eq_true rfl) kd_rd_14 (fun H locs hP hD hS => ?_)
  have hP : va_P Z.2.1 so_cl ((h0, .inr (2, [.null, .ref q1, .int 0, .null, .null, .null, .int 0, .int 0, .int 0, .int 0, .int 0])) :: [(q1, .inl (Z.2.2 3, 60, .inl (fun _ => 0)))]) H := hP
  have hD : va_D A ((h0, .inr (2, [.null, .ref q1, .int 0, .null, .null, .null, .int 0, .int 0, .int 0, .int 0, .int 0])) :: [(q1, .inl (Z.2.2 3, 60, .inl (fun _ => 0)))]) := hD
  refine lv_aload_n hx hb kd_rd_17 rfl (lv_at hl 0 rfl) ?_
  refine lv_bipush (v := 8) hx hb kd_rd_18 (by decide) ?_
  refine kr_newa (atype := .int) (t := 1) (t0 := 0) (N := 8) (a0 := (8, .inl (fun _ => 0))) hx hb hts jk_sub rfl (kc_at 3 rfl) hK hP hD hS hA rfl (fun _ => rfl) (fun _ => rfl) (by decide) (by decide) (Nat.le_of_ble_eq_true rfl) (Nat.le_of_ble_eq_true rfl) (Nat.le_of_ble_eq_true rfl) kd_rd_20 (fun q2 H hP hD hS => ?_)
  have hP : va_P Z.2.1 so_cl ((h0, .inr (2, [.null, .ref q1, .int 0, .null, .null, .null, .int 0, .int 0, .int 0, .int 0, .int 0])) :: [(q1, .inl (Z.2.2 3, 60, .inl (fun _ => 0))), (q2, .inl (Z.2.2 1, 8, .inl (fun _ => 0)))]) H := hP
  have hD : va_D A ((h0, .inr (2, [.null, .ref q1, .int 0, .null, .null, .null, .int 0, .int 0, .int 0, .int 0, .int 0])) :: [(q1, .inl (Z.2.2 3, 60, .inl (fun _ => 0))), (q2, .inl (Z.2.2 1, 8, .inl (fun _ => 0)))]) := hD
  refine W.widen (k := 2) (n := 68) (Nat.le_of_ble_eq_true rfl) (Nat.le_of_ble_eq_true rfl) ?_
  refine kr_put (k := 3) (j := 3) (idx := 19) (v := .ref q2) hx hb hts jk_sub (by decide) (by decide) hown hin hK hP hD hS (by decide) (kc_at 28 rfl) (ty := (.array .int)) (by decide +kernel) rfl rfl (Nat.le_of_ble_eq_true rfl) kd_rd_22 (fun H locs hP hD hS => ?_)
  have hP : va_P Z.2.1 so_cl ((h0, .inr (2, [.null, .ref q1, .int 0, .ref q2, .null, .null, .int 0, .int 0, .int 0, .int 0, .int 0])) :: [(q1, .inl (Z.2.2 3, 60, .inl (fun _ => 0))), (q2, .inl (Z.2.2 1, 8, .inl (fun _ => 0)))]) H := hP
  have hD : va_D A ((h0, .inr (2, [.null, .ref q1, .int 0, .ref q2, .null, .null, .int 0, .int 0, .int 0, .int 0, .int 0])) :: [(q1, .inl (Z.2.2 3, 60, .inl (fun _ => 0))), (q2, .inl (Z.2.2 1, 8, .inl (fun _ => 0)))]) := hD
  refine lv_aload_n hx hb kd_rd_25 rfl (lv_at hl 0 rfl) ?_
  refine lv_bipush (v := 8) hx hb kd_rd_26 (by decide) ?_
  refine kr_newa (atype := .int) (t := 1) (t0 := 0) (N := 8) (a0 := (8, .inl (fun _ => 0))) hx hb hts jk_sub rfl (kc_at 3 rfl) hK hP hD hS hA rfl (fun _ => rfl) (fun _ => rfl) (by decide) (by decide) (Nat.le_of_ble_eq_true rfl) (Nat.le_of_ble_eq_true rfl) (Nat.le_of_ble_eq_true rfl) kd_rd_28 (fun q3 H hP hD hS => ?_)
  have hP : va_P Z.2.1 so_cl ((h0, .inr (2, [.null, .ref q1, .int 0, .ref q2, .null, .null, .int 0, .int 0, .int 0, .int 0, .int 0])) :: [(q1, .inl (Z.2.2 3, 60, .inl (fun _ => 0))), (q2, .inl (Z.2.2 1, 8, .inl (fun _ => 0))), (q3, .inl (Z.2.2 1, 8, .inl (fun _ => 0)))]) H := hP
  have hD : va_D A ((h0, .inr (2, [.null, .ref q1, .int 0, .ref q2, .null, .null, .int 0, .int 0, .int 0, .int 0, .int 0])) :: [(q1, .inl (Z.2.2 3, 60, .inl (fun _ => 0))), (q2, .inl (Z.2.2 1, 8, .inl (fun _ => 0))), (q3, .inl (Z.2.2 1, 8, .inl (fun _ => 0)))]) := hD
  refine W.widen (k := 3) (n := 76) (Nat.le_of_ble_eq_true rfl) (Nat.le_of_ble_eq_true rfl) ?_
  refine kr_put (k := 3) (j := 4) (idx := 23) (v := .ref q3) hx hb hts jk_sub (by decide) (by decide) hown hin hK hP hD hS (by decide) (kc_at 29 rfl) (ty := (.array .int)) (by decide +kernel) rfl rfl (Nat.le_of_ble_eq_true rfl) kd_rd_30 (fun H locs hP hD hS => ?_)
  have hP : va_P Z.2.1 so_cl ((h0, .inr (2, [.null, .ref q1, .int 0, .ref q2, .ref q3, .null, .int 0, .int 0, .int 0, .int 0, .int 0])) :: [(q1, .inl (Z.2.2 3, 60, .inl (fun _ => 0))), (q2, .inl (Z.2.2 1, 8, .inl (fun _ => 0))), (q3, .inl (Z.2.2 1, 8, .inl (fun _ => 0)))]) H := hP
  have hD : va_D A ((h0, .inr (2, [.null, .ref q1, .int 0, .ref q2, .ref q3, .null, .int 0, .int 0, .int 0, .int 0, .int 0])) :: [(q1, .inl (Z.2.2 3, 60, .inl (fun _ => 0))), (q2, .inl (Z.2.2 1, 8, .inl (fun _ => 0))), (q3, .inl (Z.2.2 1, 8, .inl (fun _ => 0)))]) := hD
  refine lv_aload_n hx hb kd_rd_33 rfl (lv_at hl 0 rfl) ?_
  refine lv_bipush (v := 8) hx hb kd_rd_34 (by decide) ?_
  refine kr_newa (atype := .int) (t := 1) (t0 := 0) (N := 8) (a0 := (8, .inl (fun _ => 0))) hx hb hts jk_sub rfl (kc_at 3 rfl) hK hP hD hS hA rfl (fun _ => rfl) (fun _ => rfl) (by decide) (by decide) (Nat.le_of_ble_eq_true rfl) (Nat.le_of_ble_eq_true rfl) (Nat.le_of_ble_eq_true rfl) kd_rd_36 (fun q4 H hP hD hS => ?_)
  have hP : va_P Z.2.1 so_cl ((h0, .inr (2, [.null, .ref q1, .int 0, .ref q2, .ref q3, .null, .int 0, .int 0, .int 0, .int 0, .int 0])) :: [(q1, .inl (Z.2.2 3, 60, .inl (fun _ => 0))), (q2, .inl (Z.2.2 1, 8, .inl (fun _ => 0))), (q3, .inl (Z.2.2 1, 8, .inl (fun _ => 0))), (q4, .inl (Z.2.2 1, 8, .inl (fun _ => 0)))]) H := hP
  have hD : va_D A ((h0, .inr (2, [.null, .ref q1, .int 0, .ref q2, .ref q3, .null, .int 0, .int 0, .int 0, .int 0, .int 0])) :: [(q1, .inl (Z.2.2 3, 60, .inl (fun _ => 0))), (q2, .inl (Z.2.2 1, 8, .inl (fun _ => 0))), (q3, .inl (Z.2.2 1, 8, .inl (fun _ => 0))), (q4, .inl (Z.2.2 1, 8, .inl (fun _ => 0)))]) := hD
  refine W.widen (k := 4) (n := 84) (Nat.le_of_ble_eq_true rfl) (Nat.le_of_ble_eq_true rfl) ?_
  refine kr_put (k := 3) (j := 5) (idx := 26) (v := .ref q4) hx hb hts jk_sub (by decide) (by decide) hown hin hK hP hD hS (by decide) (kc_at 30 rfl) (ty := (.array .int)) (by decide +kernel) rfl rfl (Nat.le_of_ble_eq_true rfl) kd_rd_38 (fun H locs hP hD hS => ?_)
  have hP : va_P Z.2.1 so_cl ((h0, .inr (2, [.null, .ref q1, .int 0, .ref q2, .ref q3, .ref q4, .int 0, .int 0, .int 0, .int 0, .int 0])) :: [(q1, .inl (Z.2.2 3, 60, .inl (fun _ => 0))), (q2, .inl (Z.2.2 1, 8, .inl (fun _ => 0))), (q3, .inl (Z.2.2 1, 8, .inl (fun _ => 0))), (q4, .inl (Z.2.2 1, 8, .inl (fun _ => 0)))]) H := hP
  have hD : va_D A ((h0, .inr (2, [.null, .ref q1, .int 0, .ref q2, .ref q3, .ref q4, .int 0, .int 0, .int 0, .int 0, .int 0])) :: [(q1, .inl (Z.2.2 3, 60, .inl (fun _ => 0))), (q2, .inl (Z.2.2 1, 8, .inl (fun _ => 0))), (q3, .inl (Z.2.2 1, 8, .inl (fun _ => 0))), (q4, .inl (Z.2.2 1, 8, .inl (fun _ => 0)))]) := hD
  refine lv_aload_n hx hb kd_rd_41 rfl (lv_at hl 0 rfl) ?_
  refine lv_iconst (v := 0) hx hb kd_rd_42 (by decide) ?_
  refine kr_put (k := 3) (j := 6) (idx := 29) (v := .int 0) hx hb hts jk_sub (by decide) (by decide) hown hin hK hP hD hS (by decide) (kc_at 31 rfl) (ty := .int) (by decide +kernel) rfl rfl (Nat.le_of_ble_eq_true rfl) kd_rd_43 (fun H locs hP hD hS => ?_)
  have hP : va_P Z.2.1 so_cl ((h0, .inr (2, [.null, .ref q1, .int 0, .ref q2, .ref q3, .ref q4, .int 0, .int 0, .int 0, .int 0, .int 0])) :: [(q1, .inl (Z.2.2 3, 60, .inl (fun _ => 0))), (q2, .inl (Z.2.2 1, 8, .inl (fun _ => 0))), (q3, .inl (Z.2.2 1, 8, .inl (fun _ => 0))), (q4, .inl (Z.2.2 1, 8, .inl (fun _ => 0)))]) H := hP
  have hD : va_D A ((h0, .inr (2, [.null, .ref q1, .int 0, .ref q2, .ref q3, .ref q4, .int 0, .int 0, .int 0, .int 0, .int 0])) :: [(q1, .inl (Z.2.2 3, 60, .inl (fun _ => 0))), (q2, .inl (Z.2.2 1, 8, .inl (fun _ => 0))), (q3, .inl (Z.2.2 1, 8, .inl (fun _ => 0))), (q4, .inl (Z.2.2 1, 8, .inl (fun _ => 0)))]) := hD
  refine lv_aload_n hx hb kd_rd_46 rfl (lv_at hl 0 rfl) ?_
  refine lv_iconst (v := 0) hx hb kd_rd_47 (by decide) ?_
  refine kr_put (k := 3) (j := 7) (idx := 32) (v := .int 0) hx hb hts jk_sub (by decide) (by decide) hown hin hK hP hD hS (by decide) (kc_at 32 rfl) (ty := .int) (by decide +kernel) rfl rfl (Nat.le_of_ble_eq_true rfl) kd_rd_48 (fun H locs hP hD hS => ?_)
  have hP : va_P Z.2.1 so_cl ((h0, .inr (2, [.null, .ref q1, .int 0, .ref q2, .ref q3, .ref q4, .int 0, .int 0, .int 0, .int 0, .int 0])) :: [(q1, .inl (Z.2.2 3, 60, .inl (fun _ => 0))), (q2, .inl (Z.2.2 1, 8, .inl (fun _ => 0))), (q3, .inl (Z.2.2 1, 8, .inl (fun _ => 0))), (q4, .inl (Z.2.2 1, 8, .inl (fun _ => 0)))]) H := hP
  have hD : va_D A ((h0, .inr (2, [.null, .ref q1, .int 0, .ref q2, .ref q3, .ref q4, .int 0, .int 0, .int 0, .int 0, .int 0])) :: [(q1, .inl (Z.2.2 3, 60, .inl (fun _ => 0))), (q2, .inl (Z.2.2 1, 8, .inl (fun _ => 0))), (q3, .inl (Z.2.2 1, 8, .inl (fun _ => 0))), (q4, .inl (Z.2.2 1, 8, .inl (fun _ => 0)))]) := hD
  refine lv_aload_n hx hb kd_rd_51 rfl (lv_at hl 0 rfl) ?_
  refine lv_iconst (v := 0) hx hb kd_rd_52 (by decide) ?_
  refine kr_put (k := 3) (j := 8) (idx := 35) (v := .int 0) hx hb hts jk_sub (by decide) (by decide) hown hin hK hP hD hS (by decide) (kc_at 33 rfl) (ty := .int) (by decide +kernel) rfl rfl (Nat.le_of_ble_eq_true rfl) kd_rd_53 (fun H locs hP hD hS => ?_)
  have hP : va_P Z.2.1 so_cl ((h0, .inr (2, [.null, .ref q1, .int 0, .ref q2, .ref q3, .ref q4, .int 0, .int 0, .int 0, .int 0, .int 0])) :: [(q1, .inl (Z.2.2 3, 60, .inl (fun _ => 0))), (q2, .inl (Z.2.2 1, 8, .inl (fun _ => 0))), (q3, .inl (Z.2.2 1, 8, .inl (fun _ => 0))), (q4, .inl (Z.2.2 1, 8, .inl (fun _ => 0)))]) H := hP
  have hD : va_D A ((h0, .inr (2, [.null, .ref q1, .int 0, .ref q2, .ref q3, .ref q4, .int 0, .int 0, .int 0, .int 0, .int 0])) :: [(q1, .inl (Z.2.2 3, 60, .inl (fun _ => 0))), (q2, .inl (Z.2.2 1, 8, .inl (fun _ => 0))), (q3, .inl (Z.2.2 1, 8, .inl (fun _ => 0))), (q4, .inl (Z.2.2 1, 8, .inl (fun _ => 0)))]) := hD
  refine lv_aload_n hx hb kd_rd_56 rfl (lv_at hl 0 rfl) ?_
  refine lv_iconst (v := 0) hx hb kd_rd_57 (by decide) ?_
  refine kr_put (k := 3) (j := 9) (idx := 38) (v := .int 0) hx hb hts jk_sub (by decide) (by decide) hown hin hK hP hD hS (by decide) (kc_at 34 rfl) (ty := .boolean) (by decide +kernel) rfl rfl (Nat.le_of_ble_eq_true rfl) kd_rd_58 (fun H locs hP hD hS => ?_)
  have hP : va_P Z.2.1 so_cl ((h0, .inr (2, [.null, .ref q1, .int 0, .ref q2, .ref q3, .ref q4, .int 0, .int 0, .int 0, .int 0, .int 0])) :: [(q1, .inl (Z.2.2 3, 60, .inl (fun _ => 0))), (q2, .inl (Z.2.2 1, 8, .inl (fun _ => 0))), (q3, .inl (Z.2.2 1, 8, .inl (fun _ => 0))), (q4, .inl (Z.2.2 1, 8, .inl (fun _ => 0)))]) H := hP
  have hD : va_D A ((h0, .inr (2, [.null, .ref q1, .int 0, .ref q2, .ref q3, .ref q4, .int 0, .int 0, .int 0, .int 0, .int 0])) :: [(q1, .inl (Z.2.2 3, 60, .inl (fun _ => 0))), (q2, .inl (Z.2.2 1, 8, .inl (fun _ => 0))), (q3, .inl (Z.2.2 1, 8, .inl (fun _ => 0))), (q4, .inl (Z.2.2 1, 8, .inl (fun _ => 0)))]) := hD
  refine lv_aload_n hx hb kd_rd_61 rfl (lv_at hl 0 rfl) ?_
  refine lv_iconst (v := 0) hx hb kd_rd_62 (by decide) ?_
  refine kr_put (k := 3) (j := 10) (idx := 42) (v := .int 0) hx hb hts jk_sub (by decide) (by decide) hown hin hK hP hD hS (by decide) (kc_at 35 rfl) (ty := .boolean) (by decide +kernel) rfl rfl (Nat.le_of_ble_eq_true rfl) kd_rd_63 (fun H locs hP hD hS => ?_)
  have hP : va_P Z.2.1 so_cl ((h0, .inr (2, [.null, .ref q1, .int 0, .ref q2, .ref q3, .ref q4, .int 0, .int 0, .int 0, .int 0, .int 0])) :: [(q1, .inl (Z.2.2 3, 60, .inl (fun _ => 0))), (q2, .inl (Z.2.2 1, 8, .inl (fun _ => 0))), (q3, .inl (Z.2.2 1, 8, .inl (fun _ => 0))), (q4, .inl (Z.2.2 1, 8, .inl (fun _ => 0)))]) H := hP
  have hD : va_D A ((h0, .inr (2, [.null, .ref q1, .int 0, .ref q2, .ref q3, .ref q4, .int 0, .int 0, .int 0, .int 0, .int 0])) :: [(q1, .inl (Z.2.2 3, 60, .inl (fun _ => 0))), (q2, .inl (Z.2.2 1, 8, .inl (fun _ => 0))), (q3, .inl (Z.2.2 1, 8, .inl (fun _ => 0))), (q4, .inl (Z.2.2 1, 8, .inl (fun _ => 0)))]) := hD
  refine lv_aload_n hx hb kd_rd_66 rfl (lv_at hl 0 rfl) ?_
  refine lv_aload_n hx hb kd_rd_67 rfl (lv_at hl 1 rfl) ?_
  refine kr_put (k := 3) (j := 0) (idx := 45) (v := .ref tb) hx hb hts jk_sub (by decide) (by decide) hown hin hK hP hD hS (by decide) (kc_at 36 rfl) (ty := (.object "ProofWorkbench$FormulaTable")) (by decide +kernel) rfl rfl (Nat.le_of_ble_eq_true rfl) kd_rd_68 (fun H locs hP hD hS => ?_)
  have hP : va_P Z.2.1 so_cl ((h0, .inr (2, [.ref tb, .ref q1, .int 0, .ref q2, .ref q3, .ref q4, .int 0, .int 0, .int 0, .int 0, .int 0])) :: [(q1, .inl (Z.2.2 3, 60, .inl (fun _ => 0))), (q2, .inl (Z.2.2 1, 8, .inl (fun _ => 0))), (q3, .inl (Z.2.2 1, 8, .inl (fun _ => 0))), (q4, .inl (Z.2.2 1, 8, .inl (fun _ => 0)))]) H := hP
  have hD : va_D A ((h0, .inr (2, [.ref tb, .ref q1, .int 0, .ref q2, .ref q3, .ref q4, .int 0, .int 0, .int 0, .int 0, .int 0])) :: [(q1, .inl (Z.2.2 3, 60, .inl (fun _ => 0))), (q2, .inl (Z.2.2 1, 8, .inl (fun _ => 0))), (q3, .inl (Z.2.2 1, 8, .inl (fun _ => 0))), (q4, .inl (Z.2.2 1, 8, .inl (fun _ => 0)))]) := hD
  exact W.vret hx hb hr (fun t ht hW => ⟨⟨(h0, .inr (2, [.ref tb, .ref q1, .int 0, .ref q2, .ref q3, .ref q4, .int 0, .int 0, .int 0, .int 0, .int 0])) :: [(q1, .inl (Z.2.2 3, 60, .inl (fun _ => 0))), (q2, .inl (Z.2.2 1, 8, .inl (fun _ => 0))), (q3, .inl (Z.2.2 1, 8, .inl (fun _ => 0))), (q4, .inl (Z.2.2 1, 8, .inl (fun _ => 0)))], rfl, ⟨q1, q2, q3, q4, rfl⟩, by rw [ht]; exact hP, hD⟩, hS.F ht⟩) hS.2.2 kd_rd_71
set_option maxHeartbeats 8000000 in
set_option maxRecDepth 100000 in
theorem kc_wr (l : Launch) (Z : so_Z) (tb : Nat) : KC l Z ky_wr kw_wr ({ frames := 1, cells := 1, slots := 37, locals := 20 }) 1 37 [.ref tb] (.inr (3, [.null, .null, .int 0])) (fun q w => ∃ a : Nat, w = [(q, .inr (3, [.ref tb, .ref a, .int 0])), (a, .inl (Z.2.2 3, 37, .inl (fun _ => 0)))]) := by
  intro h0 sz
  refine Met.ofW (cc := prog_10_method_1_code) (maxL := 2) (ret := none) (by decide) rfl ?_
  intro p e s m args below meth c s₁ B hml hv
  obtain ⟨rfl, hsz, hP, hD0, hG⟩ := hv
  have hx := B.exec
  have hb := B.bytes
  have hr := B.returns
  have hts := atoms_spec (ws := kw_wr) B.pre
  have hown : s.vm.findClass (sR 4) = some m.cls := findClass_of_methodNamed B.named
  have hlocks := B.notSynchronized
  have hin : meth.name = "<init>" := (name_of_methodNamed B.named B.method).1
  subst hsz
  have hD := hD0.self (sz := s.heap.size)
  unfold kc_B
  generalize hAe : va_A [(h0, .inr (3, [.null, .null, .int 0]))] s.heap.size = A at hD ⊢
  have hA : ∀ q : Nat, s.heap.size ≤ q → A q := fun q h => by rw [← hAe]; exact Or.inr h
  have hS : va_S A s.heap s.heap [] := va_S.rf
  have hK := hG.1
  have hP : va_P Z.2.1 so_cl [(h0, .inr (3, [.null, .null, .int 0]))] s.heap := hP
  have hl := lv_entry ([.ref h0, .ref tb]) (n := 2) (Nat.le_of_ble_eq_true rfl)
  rw [lg_entry_eq]
  generalize (lg_sl ([.ref h0, .ref tb]) ++ List.replicate (2 - (lg_sl ([.ref h0, .ref tb])).length) Slot.unset).toArray = ls at hl ⊢
  have hl : lv_has ls 2 [(0, .ref h0), (1, .ref tb)] := hl
  refine lv_aload_n hx hb kd_wr_0 rfl (lv_at hl 0 rfl) ?_
  refine W.objInit hx hb hown (hts _ (jk_sub _ (so_in1_in (kc_at 37 rfl)))) (hts _ (jk_sub _ (so_in1_in (kc_at 1 rfl)))) (hts _ (jk_sub _ (so_in1_in (kc_at 2 rfl)))) rfl (by rw [hml]; exact hl.1) rfl kd_wr_1 (Nat.le_of_ble_eq_true rfl) (Nat.le_of_ble_eq_true rfl) ?_
  refine W.eq (g2 := F0 m 4 ls []) rfl ?_
  refine lv_aload_n hx hb kd_wr_4 rfl (lv_at hl 0 rfl) ?_
  refine lv_bipush (v := 37) hx hb kd_wr_5 (by decide) ?_
  refine kr_newa (atype := .char) (t := 3) (t0 := 2) (N := 37) (a0 := (37, .inl (fun _ => 0))) hx hb hts jk_sub rfl (kc_at 25 rfl) hK hP hD hS hA rfl (fun _ => rfl) (fun _ => rfl) (by decide) (by decide) (Nat.le_of_ble_eq_true rfl) (Nat.le_of_ble_eq_true rfl) (Nat.le_of_ble_eq_true rfl) kd_wr_7 (fun q1 H hP hD hS => ?_)
  have hP : va_P Z.2.1 so_cl ((h0, .inr (3, [.null, .null, .int 0])) :: [(q1, .inl (Z.2.2 3, 37, .inl (fun _ => 0)))]) H := hP
  have hD : va_D A ((h0, .inr (3, [.null, .null, .int 0])) :: [(q1, .inl (Z.2.2 3, 37, .inl (fun _ => 0)))]) := hD
  refine W.widen (k := 1) (n := 37) (Nat.le_of_ble_eq_true rfl) (Nat.le_of_ble_eq_true rfl) ?_
  refine kr_put (k := 4) (j := 1) (idx := 11) (v := .ref q1) hx hb hts jk_sub (by decide) (by decide) hown hin hK hP hD hS (by decide) (kc_at 38 rfl) (ty := (.array .char)) (by decide +kernel) rfl rfl (Nat.le_of_ble_eq_true rfl) kd_wr_9 (fun H locs hP hD hS => ?_)
  have hP : va_P Z.2.1 so_cl ((h0, .inr (3, [.null, .ref q1, .int 0])) :: [(q1, .inl (Z.2.2 3, 37, .inl (fun _ => 0)))]) H := hP
  have hD : va_D A ((h0, .inr (3, [.null, .ref q1, .int 0])) :: [(q1, .inl (Z.2.2 3, 37, .inl (fun _ => 0)))]) := hD
  refine lv_aload_n hx hb kd_wr_12 rfl (lv_at hl 0 rfl) ?_
  refine lv_iconst (v := 0) hx hb kd_wr_13 (by decide) ?_
  refine kr_put (k := 4) (j := 2) (idx := 15) (v := .int 0) hx hb hts jk_sub (by decide) (by decide) hown hin hK hP hD hS (by decide) (kc_at 39 rfl) (ty := .int) (by decide +kernel) rfl rfl (Nat.le_of_ble_eq_true rfl) kd_wr_14 (fun H locs hP hD hS => ?_)
  have hP : va_P Z.2.1 so_cl ((h0, .inr (3, [.null, .ref q1, .int 0])) :: [(q1, .inl (Z.2.2 3, 37, .inl (fun _ => 0)))]) H := hP
  have hD : va_D A ((h0, .inr (3, [.null, .ref q1, .int 0])) :: [(q1, .inl (Z.2.2 3, 37, .inl (fun _ => 0)))]) := hD
  refine lv_aload_n hx hb kd_wr_17 rfl (lv_at hl 0 rfl) ?_
  refine lv_aload_n hx hb kd_wr_18 rfl (lv_at hl 1 rfl) ?_
  refine kr_put (k := 4) (j := 0) (idx := 19) (v := .ref tb) hx hb hts jk_sub (by decide) (by decide) hown hin hK hP hD hS (by decide) (kc_at 40 rfl) (ty := (.object "ProofWorkbench$FormulaTable")) (by decide +kernel) rfl rfl (Nat.le_of_ble_eq_true rfl) kd_wr_19 (fun H locs hP hD hS => ?_)
  have hP : va_P Z.2.1 so_cl ((h0, .inr (3, [.ref tb, .ref q1, .int 0])) :: [(q1, .inl (Z.2.2 3, 37, .inl (fun _ => 0)))]) H := hP
  have hD : va_D A ((h0, .inr (3, [.ref tb, .ref q1, .int 0])) :: [(q1, .inl (Z.2.2 3, 37, .inl (fun _ => 0)))]) := hD
  exact W.vret hx hb hr (fun t ht hW => ⟨⟨(h0, .inr (3, [.ref tb, .ref q1, .int 0])) :: [(q1, .inl (Z.2.2 3, 37, .inl (fun _ => 0)))], rfl, ⟨q1, rfl⟩, by rw [ht]; exact hP, hD⟩, hS.F ht⟩) hS.2.2 kd_wr_22
set_option maxHeartbeats 8000000 in
set_option maxRecDepth 100000 in
theorem kc_fi (l : Launch) (Z : so_Z) (tb : Nat) (pf : Nat) : KC l Z ky_fi kw_fi ({ frames := 2, cells := 2, slots := 1025, locals := 60 }) 2 1025 [.ref tb, .ref pf] (.inr (7, [.null, .null, .null])) (fun q w => ∃ b a : Nat, w = [(q, .inr (7, [.ref tb, .ref pf, .ref b])), (b, .inr (8, [.ref a])), (a, .inl (Z.2.2 4, 1024, .inr (.inl (fun _ => 0))))]) := by
  intro h0 sz
  refine Met.ofW (cc := prog_2_method_1_code) (maxL := 3) (ret := none) (by decide) rfl ?_
  intro p e s m args below meth c s₁ B hml hv
  obtain ⟨rfl, hsz, hP, hD0, hG⟩ := hv
  have hx := B.exec
  have hb := B.bytes
  have hr := B.returns
  have hts := atoms_spec (ws := kw_fi) B.pre
  have hown : s.vm.findClass (sR 8) = some m.cls := findClass_of_methodNamed B.named
  have hlocks := B.notSynchronized
  have hin : meth.name = "<init>" := (name_of_methodNamed B.named B.method).1
  subst hsz
  have hD := hD0.self (sz := s.heap.size)
  unfold kc_B
  generalize hAe : va_A [(h0, .inr (7, [.null, .null, .null]))] s.heap.size = A at hD ⊢
  have hA : ∀ q : Nat, s.heap.size ≤ q → A q := fun q h => by rw [← hAe]; exact Or.inr h
  have hS : va_S A s.heap s.heap [] := va_S.rf
  have hK := hG.1
  have hP : va_P Z.2.1 so_cl [(h0, .inr (7, [.null, .null, .null]))] s.heap := hP
  have hl := lv_entry ([.ref h0, .ref tb, .ref pf]) (n := 3) (Nat.le_of_ble_eq_true rfl)
  rw [lg_entry_eq]
  generalize (lg_sl ([.ref h0, .ref tb, .ref pf]) ++ List.replicate (3 - (lg_sl ([.ref h0, .ref tb, .ref pf])).length) Slot.unset).toArray = ls at hl ⊢
  have hl : lv_has ls 3 [(0, .ref h0), (1, .ref tb), (2, .ref pf)] := hl
  refine lv_aload_n hx hb kd_fi_0 rfl (lv_at hl 0 rfl) ?_
  refine W.objInit hx hb hown (hts _ (jk_sub _ (so_in1_in (kc_at 41 rfl)))) (hts _ (jk_sub _ (so_in1_in (kc_at 1 rfl)))) (hts _ (jk_sub _ (so_in1_in (kc_at 2 rfl)))) rfl (by rw [hml]; exact hl.1) rfl kd_fi_1 (Nat.le_of_ble_eq_true rfl) (Nat.le_of_ble_eq_true rfl) ?_
  refine W.eq (g2 := F0 m 4 ls []) rfl ?_
  refine lv_aload_n hx hb kd_fi_4 rfl (lv_at hl 0 rfl) ?_
  refine kr_new (k := 8) (k' := 9) (idx := 9) (N := 1) (fs' := [.null]) hx hb hts jk_sub (by decide) (by decide) hown hK hP hD hS hA (kc_at 42 rfl) (kc_at 43 rfl) rfl (by decide +kernel) (Nat.le_of_ble_eq_true rfl) (Nat.le_of_ble_eq_true rfl) kd_fi_5 (fun q1 H hP hD hS => ?_)
  have hP : va_P Z.2.1 so_cl (((h0, .inr (7, [.null, .null, .null])) :: []) ++ [(q1, .inr (8, [.null]))]) H := hP
  have hD : va_D A (((h0, .inr (7, [.null, .null, .null])) :: []) ++ [(q1, .inr (8, [.null]))]) := hD
  refine W.widen (k := 1) (n := 1) (Nat.le_of_ble_eq_true rfl) (Nat.le_of_ble_eq_true rfl) ?_
  refine lv_dup hx hb kd_fi_8 rfl ?_
  refine kr_call (post := fun q w => ∃ a : Nat, w = [(q, .inr (8, [.ref a])), (a, .inl (Z.2.2 4, 1024, .inr (.inl (fun _ => 0))))]) (e0 := .inr (8, [.null])) (mc := 1) (ms := 1024) (q := q1) (X := (h0, .inr (7, [.null, .null, .null])) :: []) (va_runIN (rm := ({ frames := 1, cells := 1, slots := 1024, locals := 20 })) (mc := 1) (ms := 1024) (As := []) (rest := [.ref q1, .ref h0]) ⟨hx, hb, hml, hown, hts⟩ (kc_ho l Z q1 H.size) ⟨va_cnB 0 hts (jk_good jk_sub (kc_at 44 rfl)) rfl rfl rfl (hG.2.1 (.methodLinkNest (sR 8) 11 ky_ho "ProofWorkbench") (by decide)) (hts _ (jk_sub _ (so_f8 9 (by decide)))) ⟨by decide, by decide, by decide +kernel⟩ ⟨Nat.le_of_ble_eq_true rfl, Nat.le_of_ble_eq_true rfl⟩, rfl, hts _ (jk_sub _ (so_in1_in (kc_at 45 rfl)))⟩ (kc_preS (X := (h0, .inr (7, [.null, .null, .null])) :: []) (A := A) hG hP) rfl rfl hl.1 rfl (lv_room (Nat.le_of_ble_eq_true rfl)) kd_fi_9 ⟨Nat.le_of_ble_eq_true rfl, Nat.le_of_ble_eq_true rfl⟩) hP hD hS hA (fun w H locs hw hP hD hS => ?_)
  obtain ⟨q2, rfl⟩ := hw
  have hP : va_P Z.2.1 so_cl ((h0, .inr (7, [.null, .null, .null])) :: [(q1, .inr (8, [.ref q2])), (q2, .inl (Z.2.2 4, 1024, .inr (.inl (fun _ => 0))))]) H := hP
  have hD : va_D A ((h0, .inr (7, [.null, .null, .null])) :: [(q1, .inr (8, [.ref q2])), (q2, .inl (Z.2.2 4, 1024, .inr (.inl (fun _ => 0))))]) := hD
  refine W.widen (k := 2) (n := 1025) (Nat.le_of_ble_eq_true rfl) (Nat.le_of_ble_eq_true rfl) ?_
  refine kr_put (k := 8) (j := 2) (idx := 12) (v := .ref q1) hx hb hts jk_sub (by decide) (by decide) hown hin hK hP hD hS (by decide) (kc_at 46 rfl) (ty := (.object "ProofWorkbench$Hopeless")) (by decide +kernel) rfl rfl (Nat.le_of_ble_eq_true rfl) kd_fi_12 (fun H locs hP hD hS => ?_)
  have hP : va_P Z.2.1 so_cl ((h0, .inr (7, [.null, .null, .ref q1])) :: [(q1, .inr (8, [.ref q2])), (q2, .inl (Z.2.2 4, 1024, .inr (.inl (fun _ => 0))))]) H := hP
  have hD : va_D A ((h0, .inr (7, [.null, .null, .ref q1])) :: [(q1, .inr (8, [.ref q2])), (q2, .inl (Z.2.2 4, 1024, .inr (.inl (fun _ => 0))))]) := hD
  refine lv_aload_n hx hb kd_fi_15 rfl (lv_at hl 0 rfl) ?_
  refine lv_aload_n hx hb kd_fi_16 rfl (lv_at hl 1 rfl) ?_
  refine kr_put (k := 8) (j := 0) (idx := 18) (v := .ref tb) hx hb hts jk_sub (by decide) (by decide) hown hin hK hP hD hS (by decide) (kc_at 47 rfl) (ty := (.object "ProofWorkbench$FormulaTable")) (by decide +kernel) rfl rfl (Nat.le_of_ble_eq_true rfl) kd_fi_17 (fun H locs hP hD hS => ?_)
  have hP : va_P Z.2.1 so_cl ((h0, .inr (7, [.ref tb, .null, .ref q1])) :: [(q1, .inr (8, [.ref q2])), (q2, .inl (Z.2.2 4, 1024, .inr (.inl (fun _ => 0))))]) H := hP
  have hD : va_D A ((h0, .inr (7, [.ref tb, .null, .ref q1])) :: [(q1, .inr (8, [.ref q2])), (q2, .inl (Z.2.2 4, 1024, .inr (.inl (fun _ => 0))))]) := hD
  refine lv_aload_n hx hb kd_fi_20 rfl (lv_at hl 0 rfl) ?_
  refine lv_aload_n hx hb kd_fi_21 rfl (lv_at hl 2 rfl) ?_
  refine kr_put (k := 8) (j := 1) (idx := 22) (v := .ref pf) hx hb hts jk_sub (by decide) (by decide) hown hin hK hP hD hS (by decide) (kc_at 48 rfl) (ty := (.object "ProofWorkbench$Proof")) (by decide +kernel) rfl rfl (Nat.le_of_ble_eq_true rfl) kd_fi_22 (fun H locs hP hD hS => ?_)
  have hP : va_P Z.2.1 so_cl ((h0, .inr (7, [.ref tb, .ref pf, .ref q1])) :: [(q1, .inr (8, [.ref q2])), (q2, .inl (Z.2.2 4, 1024, .inr (.inl (fun _ => 0))))]) H := hP
  have hD : va_D A ((h0, .inr (7, [.ref tb, .ref pf, .ref q1])) :: [(q1, .inr (8, [.ref q2])), (q2, .inl (Z.2.2 4, 1024, .inr (.inl (fun _ => 0))))]) := hD
  exact W.vret hx hb hr (fun t ht hW => ⟨⟨(h0, .inr (7, [.ref tb, .ref pf, .ref q1])) :: [(q1, .inr (8, [.ref q2])), (q2, .inl (Z.2.2 4, 1024, .inr (.inl (fun _ => 0))))], rfl, ⟨q1, q2, rfl⟩, by rw [ht]; exact hP, hD⟩, hS.F ht⟩) hS.2.2 kd_fi_25
set_option maxHeartbeats 8000000 in
set_option maxRecDepth 100000 in
theorem kc_loop {Z : so_Z} {A : Nat → Prop} {l : Launch} {p : Program} {e : Env} {R : Room} {s : State} {m : MethodId} {args : Array Value} {below : List Frame} {meth : Method} {c : Code} {Q : State → Prop} {h0 r : Nat} (hx : p.tables.exec = Jvm.exec) (hb : c.code = prog_6_method_1_code) (hml : c.maxLocals = 2) (hts : ∀ w ∈ kw_pf, w.before args s = true) (hown : s.vm.findClass (sR 7) = some m.cls) (hG : kn_G Z s) (hA : ∀ q : Nat, s.heap.size ≤ q → A q) (hRf : 3 ≤ R.frames) (hRl : 100 ≤ R.locals) (hRc : 304 ≤ R.cells) (hRs : 2727 ≤ R.slots)
    (kk : ∀ (B : List (Nat × Nat × Nat)) (H : Heap) (locs : List Loc) (ls : Array Slot), B.length = 101 → va_P Z.2.1 so_cl ((h0, .inr (6, [.ref r, .int 0, .int 0])) :: (r, kc_ar Z B) :: kc_bl Z B) H → va_D A ((h0, .inr (6, [.ref r, .int 0, .int 0])) :: (r, kc_ar Z B) :: kc_bl Z B) → va_S A s.heap H locs → W p l e R s m args below meth c H locs 304 2727 Q (F0 m 53 ls [])) :
    ∀ (n : Nat) (B : List (Nat × Nat × Nat)) (H : Heap) (locs : List Loc) (ls : Array Slot), B.length + n = 101 → lv_has ls 2 [(1, .int (Int32.ofNat B.length)), (0, .ref h0)] → va_P Z.2.1 so_cl ((h0, .inr (6, [.ref r, .int 0, .int 0])) :: (r, kc_ar Z B) :: kc_bl Z B) H → va_D A ((h0, .inr (6, [.ref r, .int 0, .int 0])) :: (r, kc_ar Z B) :: kc_bl Z B) → va_S A s.heap H locs → W p l e R s m args below meth c H locs (1 + 3 * B.length) (101 + 26 * B.length) Q (F0 m 25 ls []) := by
  have hK := hG.1
  intro n
  induction n with
  | zero =>
    intro B H locs ls hn hl hP hD hS
    have hB : B.length = 101 := by omega
    refine lv_iload_n hx hb kd_pf_25 rfl (lv_at hl 0 rfl) ?_
    refine lv_aload_n hx hb kd_pf_26 rfl (lv_at hl 1 rfl) ?_
    refine kr_get (k := 7) (j := 0) (idx := 11) (v := .ref r) hx hb hts jk_sub (by decide) (by decide) hown hK hP (by decide) (kc_at 49 rfl) rfl kd_pf_27 ?_
    refine va_alen (v := 101) hx hb hK hP 1 4 rfl rfl rfl kd_pf_30 ?_
    rw [hB]
    refine lv_icmp_ge (tgt := 53) hx hb kd_pf_31 rfl (fun _ => ?_) (fun h => absurd (by decide) h)
    exact kk B H locs ls hB hP hD hS
  | succ n ih =>
    intro B H locs ls hn hl hP hD hS
    obtain ⟨n1, n2, n3, n4⟩ := kc_n101 B.length (by omega)
    refine lv_iload_n hx hb kd_pf_25 rfl (lv_at hl 0 rfl) ?_
    refine lv_aload_n hx hb kd_pf_26 rfl (lv_at hl 1 rfl) ?_
    refine kr_get (k := 7) (j := 0) (idx := 11) (v := .ref r) hx hb hts jk_sub (by decide) (by decide) hown hK hP (by decide) (kc_at 49 rfl) rfl kd_pf_27 ?_
    refine va_alen (v := 101) hx hb hK hP 1 4 rfl rfl rfl kd_pf_30 ?_
    refine lv_icmp_ge (tgt := 53) hx hb kd_pf_31 rfl (fun h => absurd h n1) (fun _ => ?_)
    refine lv_aload_n hx hb kd_pf_34 rfl (lv_at hl 1 rfl) ?_
    refine kr_get (k := 7) (j := 0) (idx := 11) (v := .ref r) hx hb hts jk_sub (by decide) (by decide) hown hK hP (by decide) (kc_at 49 rfl) rfl kd_pf_35 ?_
    refine lv_iload_n hx hb kd_pf_38 rfl (lv_at hl 0 rfl) ?_
    refine kr_new (k := 7) (k' := 6) (idx := 9) (N := 4) (fs' := [.null, .int 0, .int 0, .int 0]) hx hb hts jk_sub (by decide) (by decide) hown hK hP hD hS hA (kc_at 50 rfl) (kc_at 51 rfl) rfl (by decide +kernel) (by omega) (by omega) kd_pf_39 (fun q H hP hD hS => ?_)
    have hP : va_P Z.2.1 so_cl (((h0, .inr (6, [.ref r, .int 0, .int 0])) :: (r, kc_ar Z B) :: kc_bl Z B) ++ [(q, .inr (5, [.null, .int 0, .int 0, .int 0]))]) H := hP
    have hD : va_D A (((h0, .inr (6, [.ref r, .int 0, .int 0])) :: (r, kc_ar Z B) :: kc_bl Z B) ++ [(q, .inr (5, [.null, .int 0, .int 0, .int 0]))]) := hD
    refine lv_dup hx hb kd_pf_42 rfl ?_
    refine kr_call (post := fun q w => ∃ b a : Nat, w = [(q, .inr (5, [.ref b, .int 0, .int (-1), .int 1])), (b, .inr (4, [.ref a, .int 0])), (a, kc_it Z)]) (e0 := .inr (5, [.null, .int 0, .int 0, .int 0])) (mc := 2) (ms := 22) (q := q) (X := (h0, .inr (6, [.ref r, .int 0, .int 0])) :: (r, kc_ar Z B) :: kc_bl Z B) (va_runIN (rm := ({ frames := 2, cells := 2, slots := 22, locals := 60 })) (mc := 2) (ms := 22) (As := []) (rest := [.ref q, .int (Int32.ofNat B.length), .ref r]) ⟨hx, hb, hml, hown, hts⟩ (kc_nd l Z q H.size) ⟨va_cnB 0 hts (jk_good jk_sub (kc_at 52 rfl)) rfl rfl rfl (hG.2.1 (.methodLinkNest (sR 7) 25 ky_nd "ProofWorkbench") (by decide)) (hts _ (jk_sub _ (so_f8 6 (by decide)))) ⟨by decide, by decide, by decide +kernel⟩ ⟨by show 2 + 1 ≤ R.frames; omega, by show 8 + (1 + 11) + 60 ≤ R.locals; omega⟩, rfl, hts _ (jk_sub _ (so_in1_in (kc_at 53 rfl)))⟩ (kc_preS (X := (h0, .inr (6, [.ref r, .int 0, .int 0])) :: (r, kc_ar Z B) :: kc_bl Z B) (A := A) hG hP) rfl rfl hl.1 rfl (lv_room (Nat.le_of_ble_eq_true rfl)) kd_pf_43 ⟨by omega, by omega⟩) hP hD hS hA (fun w H locs hw hP hD hS => ?_)
    obtain ⟨b, a, rfl⟩ := hw
    refine va_astq (r := (sR 6, sT 6, sN 6)) hx hb hK hP hD hS 1 4 ((h0, .inr (6, [.ref r, .int 0, .int 0])) :: (r, kc_ar Z B) :: kc_bl Z B).length 5 (n := 101) (f := fun j => (B[j]?).map (fun t => t.1)) rfl rfl (vs := [.ref b, .int 0, .int (-1), .int 1]) (by rw [List.getElem?_append_right (Nat.le_refl _), Nat.sub_self]; rfl) (so_clat (k := 6) (by decide) (by decide)) (by unfold vp_in; rw [n2]; rintro (h | h); exact n3 h; omega) kd_pf_46 (fun H locs hP hD hS => ?_)
    rw [n2, kc_up B q b a] at hP hD
    have eX : (h0, .inr (6, [.ref r, .int 0, .int 0])) :: (r, kc_ar Z (B ++ [(q, b, a)])) :: (kc_bl Z B ++ [(q, .inr (5, [.ref b, .int 0, .int (-1), .int 1])), (b, .inr (4, [.ref a, .int 0])), (a, kc_it Z)]) = (h0, .inr (6, [.ref r, .int 0, .int 0])) :: (r, kc_ar Z (B ++ [(q, b, a)])) :: kc_bl Z (B ++ [(q, b, a)]) := by rw [kc_bl_app]
    have hP : va_P Z.2.1 so_cl ((h0, .inr (6, [.ref r, .int 0, .int 0])) :: (r, kc_ar Z (B ++ [(q, b, a)])) :: (kc_bl Z B ++ [(q, .inr (5, [.ref b, .int 0, .int (-1), .int 1])), (b, .inr (4, [.ref a, .int 0])), (a, kc_it Z)])) H := hP
    have hD : va_D A ((h0, .inr (6, [.ref r, .int 0, .int 0])) :: (r, kc_ar Z (B ++ [(q, b, a)])) :: (kc_bl Z B ++ [(q, .inr (5, [.ref b, .int 0, .int (-1), .int 1])), (b, .inr (4, [.ref a, .int 0])), (a, kc_it Z)])) := hD
    rw [eX] at hP hD
    have eL : (B ++ [(q, b, a)]).length = B.length + 1 := by rw [List.length_append, List.length_singleton]
    refine lv_iinc (k := 0) (v := Int32.ofNat (B.length + 1)) (lv' := [(1, .int (Int32.ofNat (B.length + 1))), (0, .ref h0)]) hx hb kd_pf_47 hl rfl n4 (by decide) rfl (fun ls hl => ?_)
    refine lv_goto (tgt := 25) hx hb kd_pf_50 rfl ?_
    rw [← eL] at hl
    refine W.widen (k := 1 + 3 * (B ++ [(q, b, a)]).length) (n := 101 + 26 * (B ++ [(q, b, a)]).length) (by rw [eL]; omega) (by rw [eL]; omega) ?_
    exact ih (B ++ [(q, b, a)]) H locs ls (by rw [eL]; omega) hl hP hD hS
set_option maxHeartbeats 8000000 in
set_option maxRecDepth 100000 in
theorem kc_pf (l : Launch) (Z : so_Z) : KC l Z ky_pf kw_pf ({ frames := 3, cells := 304, slots := 2727, locals := 100 }) 304 2727 [] (.inr (6, [.null, .int 0, .int 0])) (kp_pf Z) := by
  intro h0 sz
  refine Met.ofW (cc := prog_6_method_1_code) (maxL := 2) (ret := none) (by decide) rfl ?_
  intro p e s m args below meth c s₁ B hml hv
  obtain ⟨rfl, hsz, hP, hD0, hG⟩ := hv
  have hx := B.exec
  have hb := B.bytes
  have hr := B.returns
  have hts := atoms_spec (ws := kw_pf) B.pre
  have hown : s.vm.findClass (sR 7) = some m.cls := findClass_of_methodNamed B.named
  have hlocks := B.notSynchronized
  have hin : meth.name = "<init>" := (name_of_methodNamed B.named B.method).1
  subst hsz
  have hD := hD0.self (sz := s.heap.size)
  unfold kc_B
  generalize hAe : va_A [(h0, .inr (6, [.null, .int 0, .int 0]))] s.heap.size = A at hD ⊢
  have hA : ∀ q : Nat, s.heap.size ≤ q → A q := fun q h => by rw [← hAe]; exact Or.inr h
  have hS : va_S A s.heap s.heap [] := va_S.rf
  have hK := hG.1
  have hP : va_P Z.2.1 so_cl [(h0, .inr (6, [.null, .int 0, .int 0]))] s.heap := hP
  have hl := lv_entry ([.ref h0]) (n := 2) (Nat.le_of_ble_eq_true rfl)
  rw [lg_entry_eq]
  generalize (lg_sl ([.ref h0]) ++ List.replicate (2 - (lg_sl ([.ref h0])).length) Slot.unset).toArray = ls at hl ⊢
  have hl : lv_has ls 2 [(0, .ref h0)] := hl
  refine lv_aload_n hx hb kd_pf_0 rfl (lv_at hl 0 rfl) ?_
  refine W.objInit hx hb hown (hts _ (jk_sub _ (so_in1_in (kc_at 54 rfl)))) (hts _ (jk_sub _ (so_in1_in (kc_at 1 rfl)))) (hts _ (jk_sub _ (so_in1_in (kc_at 2 rfl)))) rfl (by rw [hml]; exact hl.1) rfl kd_pf_1 (Nat.le_of_ble_eq_true rfl) (Nat.le_of_ble_eq_true rfl) ?_
  refine W.eq (g2 := F0 m 4 ls []) rfl ?_
  refine lv_aload_n hx hb kd_pf_4 rfl (lv_at hl 0 rfl) ?_
  refine lv_bipush (v := 101) hx hb kd_pf_5 (by decide) ?_
  refine kr_newq (k := 7) (t := 13) (t0 := 4) (N := 101) (C := "ProofWorkbench$Node") hx hb hts jk_sub hown (kc_at 55 rfl) hG.2.2.2 hK hP hD hS hA rfl (by decide) (by decide) (Nat.le_of_ble_eq_true rfl) (Nat.le_of_ble_eq_true rfl) (Nat.le_of_ble_eq_true rfl) kd_pf_7 (fun q1 H hP hD hS => ?_)
  have hP : va_P Z.2.1 so_cl ((h0, .inr (6, [.null, .int 0, .int 0])) :: [(q1, .inl (Z.2.2 13, 101, .inr (.inr (.inr (.inr (fun _ => none))))))]) H := hP
  have hD : va_D A ((h0, .inr (6, [.null, .int 0, .int 0])) :: [(q1, .inl (Z.2.2 13, 101, .inr (.inr (.inr (.inr (fun _ => none))))))]) := hD
  refine W.widen (k := 1) (n := 101) (Nat.le_of_ble_eq_true rfl) (Nat.le_of_ble_eq_true rfl) ?_
  refine kr_put (k := 7) (j := 0) (idx := 11) (v := .ref q1) hx hb hts jk_sub (by decide) (by decide) hown hin hK hP hD hS (by decide) (kc_at 49 rfl) (ty := (.array (.object "ProofWorkbench$Node"))) (by decide +kernel) rfl rfl (Nat.le_of_ble_eq_true rfl) kd_pf_10 (fun H locs hP hD hS => ?_)
  have hP : va_P Z.2.1 so_cl ((h0, .inr (6, [.ref q1, .int 0, .int 0])) :: [(q1, .inl (Z.2.2 13, 101, .inr (.inr (.inr (.inr (fun _ => none))))))]) H := hP
  have hD : va_D A ((h0, .inr (6, [.ref q1, .int 0, .int 0])) :: [(q1, .inl (Z.2.2 13, 101, .inr (.inr (.inr (.inr (fun _ => none))))))]) := hD
  refine lv_aload_n hx hb kd_pf_13 rfl (lv_at hl 0 rfl) ?_
  refine lv_iconst (v := 0) hx hb kd_pf_14 (by decide) ?_
  refine kr_put (k := 7) (j := 1) (idx := 17) (v := .int 0) hx hb hts jk_sub (by decide) (by decide) hown hin hK hP hD hS (by decide) (kc_at 56 rfl) (ty := .int) (by decide +kernel) rfl rfl (Nat.le_of_ble_eq_true rfl) kd_pf_15 (fun H locs hP hD hS => ?_)
  have hP : va_P Z.2.1 so_cl ((h0, .inr (6, [.ref q1, .int 0, .int 0])) :: [(q1, .inl (Z.2.2 13, 101, .inr (.inr (.inr (.inr (fun _ => none))))))]) H := hP
  have hD : va_D A ((h0, .inr (6, [.ref q1, .int 0, .int 0])) :: [(q1, .inl (Z.2.2 13, 101, .inr (.inr (.inr (.inr (fun _ => none))))))]) := hD
  refine lv_aload_n hx hb kd_pf_18 rfl (lv_at hl 0 rfl) ?_
  refine lv_iconst (v := 0) hx hb kd_pf_19 (by decide) ?_
  refine kr_put (k := 7) (j := 2) (idx := 21) (v := .int 0) hx hb hts jk_sub (by decide) (by decide) hown hin hK hP hD hS (by decide) (kc_at 57 rfl) (ty := .boolean) (by decide +kernel) rfl rfl (Nat.le_of_ble_eq_true rfl) kd_pf_20 (fun H locs hP hD hS => ?_)
  have hP : va_P Z.2.1 so_cl ((h0, .inr (6, [.ref q1, .int 0, .int 0])) :: [(q1, .inl (Z.2.2 13, 101, .inr (.inr (.inr (.inr (fun _ => none))))))]) H := hP
  have hD : va_D A ((h0, .inr (6, [.ref q1, .int 0, .int 0])) :: [(q1, .inl (Z.2.2 13, 101, .inr (.inr (.inr (.inr (fun _ => none))))))]) := hD
  refine lv_iconst (v := 0) hx hb kd_pf_23 (by decide) ?_
  refine lv_istore_n (i := 1) (lv' := [(1, .int 0), (0, .ref h0)]) hx hb kd_pf_24 rfl hl (by decide) rfl (fun ls hl => ?_)
  refine kc_loop (l := l) (r := q1) hx hb hml hts hown hG hA (Nat.le_of_ble_eq_true rfl) (Nat.le_of_ble_eq_true rfl) (Nat.le_of_ble_eq_true rfl) (Nat.le_of_ble_eq_true rfl) (fun B H locs ls hB hP hD hS => ?_) 101 [] H locs ls rfl hl hP hD hS
  exact W.vret hx hb hr (fun t ht hW => ⟨⟨_, rfl, ⟨q1, B, hB, rfl⟩, by rw [ht]; exact hP, hD⟩, hS.F ht⟩) hS.2.2 kd_pf_53
set_option maxHeartbeats 8000000 in
set_option maxRecDepth 100000 in
theorem kc_st (l : Launch) (Z : so_Z) (tb : Nat) : KC l Z ky_st kw_st ({ frames := 4, cells := 612, slots := 5482, locals := 150 }) 612 5482 [.ref tb] (.inr (9, [.null, .null, .null, .null])) (fun q w => ∃ (a b f t : Nat) (wf wt : va_W), kp_pf Z f wf ∧ kp_pf Z t wt ∧ w = (q, .inr (9, [.ref tb, .ref a, .ref f, .ref t])) :: (([(a, .inr (4, [.ref b, .int 0])), (b, kc_it Z)] ++ wf) ++ wt)) := by
  intro h0 sz
  refine Met.ofW (cc := prog_9_method_1_code) (maxL := 2) (ret := none) (by decide) rfl ?_
  intro p e s m args below meth c s₁ B hml hv
  obtain ⟨rfl, hsz, hP, hD0, hG⟩ := hv
  have hx := B.exec
  have hb := B.bytes
  have hr := B.returns
  have hts := atoms_spec (ws := kw_st) B.pre
  have hown : s.vm.findClass (sR 10) = some m.cls := findClass_of_methodNamed B.named
  have hlocks := B.notSynchronized
  have hin : meth.name = "<init>" := (name_of_methodNamed B.named B.method).1
  subst hsz
  have hD := hD0.self (sz := s.heap.size)
  unfold kc_B
  generalize hAe : va_A [(h0, .inr (9, [.null, .null, .null, .null]))] s.heap.size = A at hD ⊢
  have hA : ∀ q : Nat, s.heap.size ≤ q → A q := fun q h => by rw [← hAe]; exact Or.inr h
  have hS : va_S A s.heap s.heap [] := va_S.rf
  have hK := hG.1
  have hP : va_P Z.2.1 so_cl [(h0, .inr (9, [.null, .null, .null, .null]))] s.heap := hP
  have hl := lv_entry ([.ref h0, .ref tb]) (n := 2) (Nat.le_of_ble_eq_true rfl)
  rw [lg_entry_eq]
  generalize (lg_sl ([.ref h0, .ref tb]) ++ List.replicate (2 - (lg_sl ([.ref h0, .ref tb])).length) Slot.unset).toArray = ls at hl ⊢
  have hl : lv_has ls 2 [(0, .ref h0), (1, .ref tb)] := hl
  refine lv_aload_n hx hb kd_st_0 rfl (lv_at hl 0 rfl) ?_
  refine W.objInit hx hb hown (hts _ (jk_sub _ (so_in1_in (kc_at 58 rfl)))) (hts _ (jk_sub _ (so_in1_in (kc_at 1 rfl)))) (hts _ (jk_sub _ (so_in1_in (kc_at 2 rfl)))) rfl (by rw [hml]; exact hl.1) rfl kd_st_1 (Nat.le_of_ble_eq_true rfl) (Nat.le_of_ble_eq_true rfl) ?_
  refine W.eq (g2 := F0 m 4 ls []) rfl ?_
  refine lv_aload_n hx hb kd_st_4 rfl (lv_at hl 0 rfl) ?_
  refine kr_new (k := 10) (k' := 5) (idx := 9) (N := 2) (fs' := [.null, .int 0]) hx hb hts jk_sub (by decide) (by decide) hown hK hP hD hS hA (kc_at 59 rfl) (kc_at 8 rfl) rfl (by decide +kernel) (Nat.le_of_ble_eq_true rfl) (Nat.le_of_ble_eq_true rfl) kd_st_5 (fun q1 H hP hD hS => ?_)
  have hP : va_P Z.2.1 so_cl (((h0, .inr (9, [.null, .null, .null, .null])) :: []) ++ [(q1, .inr (4, [.null, .int 0]))]) H := hP
  have hD : va_D A (((h0, .inr (9, [.null, .null, .null, .null])) :: []) ++ [(q1, .inr (4, [.null, .int 0]))]) := hD
  refine W.widen (k := 1) (n := 2) (Nat.le_of_ble_eq_true rfl) (Nat.le_of_ble_eq_true rfl) ?_
  refine lv_dup hx hb kd_st_8 rfl ?_
  refine kr_call (post := fun q w => ∃ a : Nat, w = [(q, .inr (4, [.ref a, .int 0])), (a, kc_it Z)]) (e0 := .inr (4, [.null, .int 0])) (mc := 1) (ms := 20) (q := q1) (X := (h0, .inr (9, [.null, .null, .null, .null])) :: []) (va_runIN (rm := ({ frames := 1, cells := 1, slots := 20, locals := 20 })) (mc := 1) (ms := 20) (As := []) (rest := [.ref q1, .ref h0]) ⟨hx, hb, hml, hown, hts⟩ (kc_sq l Z q1 H.size) ⟨va_cnB 0 hts (jk_good jk_sub (kc_at 9 rfl)) rfl rfl rfl (hG.2.1 (.methodLinkNest (sR 10) 11 ky_sq "ProofWorkbench") (by decide)) (hts _ (jk_sub _ (so_f8 5 (by decide)))) ⟨by decide, by decide, by decide +kernel⟩ ⟨Nat.le_of_ble_eq_true rfl, Nat.le_of_ble_eq_true rfl⟩, rfl, hts _ (jk_sub _ (so_in1_in (kc_at 10 rfl)))⟩ (kc_preS (X := (h0, .inr (9, [.null, .null, .null, .null])) :: []) (A := A) hG hP) rfl rfl hl.1 rfl (lv_room (Nat.le_of_ble_eq_true rfl)) kd_st_9 ⟨Nat.le_of_ble_eq_true rfl, Nat.le_of_ble_eq_true rfl⟩) hP hD hS hA (fun w H locs hw hP hD hS => ?_)
  obtain ⟨q2, rfl⟩ := hw
  have hP : va_P Z.2.1 so_cl ((h0, .inr (9, [.null, .null, .null, .null])) :: [(q1, .inr (4, [.ref q2, .int 0])), (q2, kc_it Z)]) H := hP
  have hD : va_D A ((h0, .inr (9, [.null, .null, .null, .null])) :: [(q1, .inr (4, [.ref q2, .int 0])), (q2, kc_it Z)]) := hD
  refine W.widen (k := 2) (n := 22) (Nat.le_of_ble_eq_true rfl) (Nat.le_of_ble_eq_true rfl) ?_
  refine kr_put (k := 10) (j := 1) (idx := 12) (v := .ref q1) hx hb hts jk_sub (by decide) (by decide) hown hin hK hP hD hS (by decide) (kc_at 60 rfl) (ty := (.object "ProofWorkbench$Sequent")) (by decide +kernel) rfl rfl (Nat.le_of_ble_eq_true rfl) kd_st_12 (fun H locs hP hD hS => ?_)
  have hP : va_P Z.2.1 so_cl ((h0, .inr (9, [.null, .ref q1, .null, .null])) :: [(q1, .inr (4, [.ref q2, .int 0])), (q2, kc_it Z)]) H := hP
  have hD : va_D A ((h0, .inr (9, [.null, .ref q1, .null, .null])) :: [(q1, .inr (4, [.ref q2, .int 0])), (q2, kc_it Z)]) := hD
  refine lv_aload_n hx hb kd_st_15 rfl (lv_at hl 0 rfl) ?_
  refine kr_new (k := 10) (k' := 7) (idx := 18) (N := 3) (fs' := [.null, .int 0, .int 0]) hx hb hts jk_sub (by decide) (by decide) hown hK hP hD hS hA (kc_at 61 rfl) (kc_at 62 rfl) rfl (by decide +kernel) (Nat.le_of_ble_eq_true rfl) (Nat.le_of_ble_eq_true rfl) kd_st_16 (fun q3 H hP hD hS => ?_)
  have hP : va_P Z.2.1 so_cl (((h0, .inr (9, [.null, .ref q1, .null, .null])) :: [(q1, .inr (4, [.ref q2, .int 0])), (q2, kc_it Z)]) ++ [(q3, .inr (6, [.null, .int 0, .int 0]))]) H := hP
  have hD : va_D A (((h0, .inr (9, [.null, .ref q1, .null, .null])) :: [(q1, .inr (4, [.ref q2, .int 0])), (q2, kc_it Z)]) ++ [(q3, .inr (6, [.null, .int 0, .int 0]))]) := hD
  refine W.widen (k := 3) (n := 25) (Nat.le_of_ble_eq_true rfl) (Nat.le_of_ble_eq_true rfl) ?_
  refine lv_dup hx hb kd_st_19 rfl ?_
  refine kr_call (post := kp_pf Z) (e0 := .inr (6, [.null, .int 0, .int 0])) (mc := 304) (ms := 2727) (q := q3) (X := (h0, .inr (9, [.null, .ref q1, .null, .null])) :: [(q1, .inr (4, [.ref q2, .int 0])), (q2, kc_it Z)]) (va_runI (rm := ({ frames := 3, cells := 304, slots := 2727, locals := 100 })) (mc := 304) (ms := 2727) (As := []) (rest := [.ref q3, .ref h0]) ⟨hx, hb, hml, hown, hts⟩ (kc_pf l Z q3 H.size) ⟨callB_of 0 hts (jk_good jk_sub (kc_at 63 rfl)) rfl rfl rfl (hts _ (jk_sub _ (so_f8 7 (by decide)))) (hts _ (jk_sub _ (so_in1_in (kc_at 64 rfl)))) ⟨by decide, by decide, by decide +kernel⟩ ⟨Nat.le_of_ble_eq_true rfl, Nat.le_of_ble_eq_true rfl⟩, rfl, hts _ (jk_sub _ (so_in1_in (kc_at 65 rfl)))⟩ (kc_preS (X := (h0, .inr (9, [.null, .ref q1, .null, .null])) :: [(q1, .inr (4, [.ref q2, .int 0])), (q2, kc_it Z)]) (A := A) hG hP) rfl rfl hl.1 rfl (lv_room (Nat.le_of_ble_eq_true rfl)) kd_st_20 ⟨Nat.le_of_ble_eq_true rfl, Nat.le_of_ble_eq_true rfl⟩) hP hD hS hA (fun w H locs hw hP hD hS => ?_)
  obtain ⟨w4, ew4⟩ : ∃ z, z = w := ⟨_, rfl⟩
  rw [← ew4] at hw hP hD
  have hw4 := hw
  have hP : va_P Z.2.1 so_cl ((h0, .inr (9, [.null, .ref q1, .null, .null])) :: ([(q1, .inr (4, [.ref q2, .int 0])), (q2, kc_it Z)] ++ w4)) H := hP
  have hD : va_D A ((h0, .inr (9, [.null, .ref q1, .null, .null])) :: ([(q1, .inr (4, [.ref q2, .int 0])), (q2, kc_it Z)] ++ w4)) := hD
  refine W.widen (k := 307) (n := 2752) (Nat.le_of_ble_eq_true rfl) (Nat.le_of_ble_eq_true rfl) ?_
  refine kr_put (k := 10) (j := 2) (idx := 21) (v := .ref q3) hx hb hts jk_sub (by decide) (by decide) hown hin hK hP hD hS (by decide) (kc_at 66 rfl) (ty := (.object "ProofWorkbench$Proof")) (by decide +kernel) rfl rfl (Nat.le_of_ble_eq_true rfl) kd_st_23 (fun H locs hP hD hS => ?_)
  have hP : va_P Z.2.1 so_cl ((h0, .inr (9, [.null, .ref q1, .ref q3, .null])) :: ([(q1, .inr (4, [.ref q2, .int 0])), (q2, kc_it Z)] ++ w4)) H := hP
  have hD : va_D A ((h0, .inr (9, [.null, .ref q1, .ref q3, .null])) :: ([(q1, .inr (4, [.ref q2, .int 0])), (q2, kc_it Z)] ++ w4)) := hD
  refine lv_aload_n hx hb kd_st_26 rfl (lv_at hl 0 rfl) ?_
  refine kr_new (k := 10) (k' := 7) (idx := 18) (N := 3) (fs' := [.null, .int 0, .int 0]) hx hb hts jk_sub (by decide) (by decide) hown hK hP hD hS hA (kc_at 61 rfl) (kc_at 62 rfl) rfl (by decide +kernel) (Nat.le_of_ble_eq_true rfl) (Nat.le_of_ble_eq_true rfl) kd_st_27 (fun q5 H hP hD hS => ?_)
  have hP : va_P Z.2.1 so_cl (((h0, .inr (9, [.null, .ref q1, .ref q3, .null])) :: ([(q1, .inr (4, [.ref q2, .int 0])), (q2, kc_it Z)] ++ w4)) ++ [(q5, .inr (6, [.null, .int 0, .int 0]))]) H := hP
  have hD : va_D A (((h0, .inr (9, [.null, .ref q1, .ref q3, .null])) :: ([(q1, .inr (4, [.ref q2, .int 0])), (q2, kc_it Z)] ++ w4)) ++ [(q5, .inr (6, [.null, .int 0, .int 0]))]) := hD
  refine W.widen (k := 308) (n := 2755) (Nat.le_of_ble_eq_true rfl) (Nat.le_of_ble_eq_true rfl) ?_
  refine lv_dup hx hb kd_st_30 rfl ?_
  refine kr_call (post := kp_pf Z) (e0 := .inr (6, [.null, .int 0, .int 0])) (mc := 304) (ms := 2727) (q := q5) (X := (h0, .inr (9, [.null, .ref q1, .ref q3, .null])) :: ([(q1, .inr (4, [.ref q2, .int 0])), (q2, kc_it Z)] ++ w4)) (va_runI (rm := ({ frames := 3, cells := 304, slots := 2727, locals := 100 })) (mc := 304) (ms := 2727) (As := []) (rest := [.ref q5, .ref h0]) ⟨hx, hb, hml, hown, hts⟩ (kc_pf l Z q5 H.size) ⟨callB_of 0 hts (jk_good jk_sub (kc_at 63 rfl)) rfl rfl rfl (hts _ (jk_sub _ (so_f8 7 (by decide)))) (hts _ (jk_sub _ (so_in1_in (kc_at 64 rfl)))) ⟨by decide, by decide, by decide +kernel⟩ ⟨Nat.le_of_ble_eq_true rfl, Nat.le_of_ble_eq_true rfl⟩, rfl, hts _ (jk_sub _ (so_in1_in (kc_at 65 rfl)))⟩ (kc_preS (X := (h0, .inr (9, [.null, .ref q1, .ref q3, .null])) :: ([(q1, .inr (4, [.ref q2, .int 0])), (q2, kc_it Z)] ++ w4)) (A := A) hG hP) rfl rfl hl.1 rfl (lv_room (Nat.le_of_ble_eq_true rfl)) kd_st_31 ⟨Nat.le_of_ble_eq_true rfl, Nat.le_of_ble_eq_true rfl⟩) hP hD hS hA (fun w H locs hw hP hD hS => ?_)
  obtain ⟨w6, ew6⟩ : ∃ z, z = w := ⟨_, rfl⟩
  rw [← ew6] at hw hP hD
  have hw6 := hw
  have hP : va_P Z.2.1 so_cl ((h0, .inr (9, [.null, .ref q1, .ref q3, .null])) :: (([(q1, .inr (4, [.ref q2, .int 0])), (q2, kc_it Z)] ++ w4) ++ w6)) H := hP
  have hD : va_D A ((h0, .inr (9, [.null, .ref q1, .ref q3, .null])) :: (([(q1, .inr (4, [.ref q2, .int 0])), (q2, kc_it Z)] ++ w4) ++ w6)) := hD
  refine W.widen (k := 612) (n := 5482) (Nat.le_of_ble_eq_true rfl) (Nat.le_of_ble_eq_true rfl) ?_
  refine kr_put (k := 10) (j := 3) (idx := 25) (v := .ref q5) hx hb hts jk_sub (by decide) (by decide) hown hin hK hP hD hS (by decide) (kc_at 67 rfl) (ty := (.object "ProofWorkbench$Proof")) (by decide +kernel) rfl rfl (Nat.le_of_ble_eq_true rfl) kd_st_34 (fun H locs hP hD hS => ?_)
  have hP : va_P Z.2.1 so_cl ((h0, .inr (9, [.null, .ref q1, .ref q3, .ref q5])) :: (([(q1, .inr (4, [.ref q2, .int 0])), (q2, kc_it Z)] ++ w4) ++ w6)) H := hP
  have hD : va_D A ((h0, .inr (9, [.null, .ref q1, .ref q3, .ref q5])) :: (([(q1, .inr (4, [.ref q2, .int 0])), (q2, kc_it Z)] ++ w4) ++ w6)) := hD
  refine lv_aload_n hx hb kd_st_37 rfl (lv_at hl 0 rfl) ?_
  refine lv_aload_n hx hb kd_st_38 rfl (lv_at hl 1 rfl) ?_
  refine kr_put (k := 10) (j := 0) (idx := 28) (v := .ref tb) hx hb hts jk_sub (by decide) (by decide) hown hin hK hP hD hS (by decide) (kc_at 68 rfl) (ty := (.object "ProofWorkbench$FormulaTable")) (by decide +kernel) rfl rfl (Nat.le_of_ble_eq_true rfl) kd_st_39 (fun H locs hP hD hS => ?_)
  have hP : va_P Z.2.1 so_cl ((h0, .inr (9, [.ref tb, .ref q1, .ref q3, .ref q5])) :: (([(q1, .inr (4, [.ref q2, .int 0])), (q2, kc_it Z)] ++ w4) ++ w6)) H := hP
  have hD : va_D A ((h0, .inr (9, [.ref tb, .ref q1, .ref q3, .ref q5])) :: (([(q1, .inr (4, [.ref q2, .int 0])), (q2, kc_it Z)] ++ w4) ++ w6)) := hD
  exact W.vret hx hb hr (fun t ht hW => ⟨⟨(h0, .inr (9, [.ref tb, .ref q1, .ref q3, .ref q5])) :: (([(q1, .inr (4, [.ref q2, .int 0])), (q2, kc_it Z)] ++ w4) ++ w6), rfl, ⟨q1, q2, q3, q5, w4, w6, hw4, hw6, rfl⟩, by rw [ht]; exact hP, hD⟩, hS.F ht⟩) hS.2.2 kd_st_42
