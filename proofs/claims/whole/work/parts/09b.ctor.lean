/-! The constructors, walked (written by our program) -/
abbrev kc_it (Z : so_Z) : va_E := .inl (Z.2.2 1, 20, .inl (fun _ => 0))
def ky_pw : MethodName := ⟨"ProofWorkbench", "<init>", "()V"⟩
abbrev kw_pw : List Cond := jk_ws ky_pw prog_1_method_1_code 2 none
def ky_mo : MethodName := ⟨"ProofWorkbenchModel", "<init>", "()V"⟩
abbrev kw_mo : List Cond := jk_ws ky_mo prog_12_method_1_code 2 none
def ky_ft : MethodName := ⟨"ProofWorkbench$FormulaTable", "<init>", "()V"⟩
abbrev kw_ft : List Cond := jk_ws ky_ft prog_3_method_1_code 1 none
def ky_rd : MethodName := ⟨"ProofWorkbench$Reader", "<init>", "(LProofWorkbench$FormulaTable;)V"⟩
abbrev kw_rd : List Cond := jk_ws ky_rd prog_7_method_1_code 2 none
def ky_wr : MethodName := ⟨"ProofWorkbench$Writer", "<init>", "(LProofWorkbench$FormulaTable;)V"⟩
abbrev kw_wr : List Cond := jk_ws ky_wr prog_10_method_1_code 2 none
def ky_sq : MethodName := ⟨"ProofWorkbench$Sequent", "<init>", "()V"⟩
abbrev kw_sq : List Cond := jk_ws ky_sq prog_8_method_1_code 1 none
def ky_nd : MethodName := ⟨"ProofWorkbench$Node", "<init>", "()V"⟩
abbrev kw_nd : List Cond := jk_ws ky_nd prog_5_method_1_code 1 none
def ky_pf : MethodName := ⟨"ProofWorkbench$Proof", "<init>", "()V"⟩
abbrev kw_pf : List Cond := jk_ws ky_pf prog_6_method_1_code 2 none
def ky_fi : MethodName := ⟨"ProofWorkbench$Finder", "<init>", "(LProofWorkbench$FormulaTable;LProofWorkbench$Proof;)V"⟩
abbrev kw_fi : List Cond := jk_ws ky_fi prog_2_method_1_code 3 none
def ky_ho : MethodName := ⟨"ProofWorkbench$Hopeless", "<init>", "()V"⟩
abbrev kw_ho : List Cond := jk_ws ky_ho prog_4_method_1_code 1 none
def ky_st : MethodName := ⟨"ProofWorkbench$Stepper", "<init>", "(LProofWorkbench$FormulaTable;)V"⟩
abbrev kw_st : List Cond := jk_ws ky_st prog_9_method_1_code 2 none
theorem kd_sq_0 : decode prog_8_method_1_code 0 = .ok (.aload_n 0, 1) := by decide +kernel
theorem kd_sq_1 : decode prog_8_method_1_code 1 = .ok (.invokespecial 3, 3) := by decide +kernel
theorem kd_sq_4 : decode prog_8_method_1_code 4 = .ok (.aload_n 0, 1) := by decide +kernel
theorem kd_sq_5 : decode prog_8_method_1_code 5 = .ok (.bipush 20, 2) := by decide +kernel
theorem kd_sq_7 : decode prog_8_method_1_code 7 = .ok (.newarray .int, 2) := by decide +kernel
theorem kd_sq_9 : decode prog_8_method_1_code 9 = .ok (.putfield 11, 3) := by decide +kernel
theorem kd_sq_12 : decode prog_8_method_1_code 12 = .ok (.aload_n 0, 1) := by decide +kernel
theorem kd_sq_13 : decode prog_8_method_1_code 13 = .ok (.iconst 0, 1) := by decide +kernel
theorem kd_sq_14 : decode prog_8_method_1_code 14 = .ok (.putfield 15, 3) := by decide +kernel
theorem kd_sq_17 : decode prog_8_method_1_code 17 = .ok (.return_, 1) := by decide +kernel
theorem kd_nd_0 : decode prog_5_method_1_code 0 = .ok (.aload_n 0, 1) := by decide +kernel
theorem kd_nd_1 : decode prog_5_method_1_code 1 = .ok (.invokespecial 3, 3) := by decide +kernel
theorem kd_nd_4 : decode prog_5_method_1_code 4 = .ok (.aload_n 0, 1) := by decide +kernel
theorem kd_nd_5 : decode prog_5_method_1_code 5 = .ok (.new 9, 3) := by decide +kernel
theorem kd_nd_8 : decode prog_5_method_1_code 8 = .ok (.dup, 1) := by decide +kernel
theorem kd_nd_9 : decode prog_5_method_1_code 9 = .ok (.invokespecial 11, 3) := by decide +kernel
theorem kd_nd_12 : decode prog_5_method_1_code 12 = .ok (.putfield 12, 3) := by decide +kernel
theorem kd_nd_15 : decode prog_5_method_1_code 15 = .ok (.aload_n 0, 1) := by decide +kernel
theorem kd_nd_16 : decode prog_5_method_1_code 16 = .ok (.iconst 0, 1) := by decide +kernel
theorem kd_nd_17 : decode prog_5_method_1_code 17 = .ok (.putfield 18, 3) := by decide +kernel
theorem kd_nd_20 : decode prog_5_method_1_code 20 = .ok (.aload_n 0, 1) := by decide +kernel
theorem kd_nd_21 : decode prog_5_method_1_code 21 = .ok (.iconst (-1), 1) := by decide +kernel
theorem kd_nd_22 : decode prog_5_method_1_code 22 = .ok (.putfield 22, 3) := by decide +kernel
theorem kd_nd_25 : decode prog_5_method_1_code 25 = .ok (.aload_n 0, 1) := by decide +kernel
theorem kd_nd_26 : decode prog_5_method_1_code 26 = .ok (.iconst 1, 1) := by decide +kernel
theorem kd_nd_27 : decode prog_5_method_1_code 27 = .ok (.putfield 25, 3) := by decide +kernel
theorem kd_nd_30 : decode prog_5_method_1_code 30 = .ok (.return_, 1) := by decide +kernel
theorem kd_ho_0 : decode prog_4_method_1_code 0 = .ok (.aload_n 0, 1) := by decide +kernel
theorem kd_ho_1 : decode prog_4_method_1_code 1 = .ok (.invokespecial 1, 3) := by decide +kernel
theorem kd_ho_4 : decode prog_4_method_1_code 4 = .ok (.aload_n 0, 1) := by decide +kernel
theorem kd_ho_5 : decode prog_4_method_1_code 5 = .ok (.sipush 1024, 3) := by decide +kernel
theorem kd_ho_8 : decode prog_4_method_1_code 8 = .ok (.newarray .long, 2) := by decide +kernel
theorem kd_ho_10 : decode prog_4_method_1_code 10 = .ok (.putfield 9, 3) := by decide +kernel
theorem kd_ho_13 : decode prog_4_method_1_code 13 = .ok (.return_, 1) := by decide +kernel
theorem kd_ft_0 : decode prog_3_method_1_code 0 = .ok (.aload_n 0, 1) := by decide +kernel
theorem kd_ft_1 : decode prog_3_method_1_code 1 = .ok (.invokespecial 3, 3) := by decide +kernel
theorem kd_ft_4 : decode prog_3_method_1_code 4 = .ok (.aload_n 0, 1) := by decide +kernel
theorem kd_ft_5 : decode prog_3_method_1_code 5 = .ok (.bipush 80, 2) := by decide +kernel
theorem kd_ft_7 : decode prog_3_method_1_code 7 = .ok (.newarray .int, 2) := by decide +kernel
theorem kd_ft_9 : decode prog_3_method_1_code 9 = .ok (.putfield 9, 3) := by decide +kernel
theorem kd_ft_12 : decode prog_3_method_1_code 12 = .ok (.aload_n 0, 1) := by decide +kernel
theorem kd_ft_13 : decode prog_3_method_1_code 13 = .ok (.bipush 80, 2) := by decide +kernel
theorem kd_ft_15 : decode prog_3_method_1_code 15 = .ok (.newarray .int, 2) := by decide +kernel
theorem kd_ft_17 : decode prog_3_method_1_code 17 = .ok (.putfield 15, 3) := by decide +kernel
theorem kd_ft_20 : decode prog_3_method_1_code 20 = .ok (.aload_n 0, 1) := by decide +kernel
theorem kd_ft_21 : decode prog_3_method_1_code 21 = .ok (.bipush 80, 2) := by decide +kernel
theorem kd_ft_23 : decode prog_3_method_1_code 23 = .ok (.newarray .int, 2) := by decide +kernel
theorem kd_ft_25 : decode prog_3_method_1_code 25 = .ok (.putfield 18, 3) := by decide +kernel
theorem kd_ft_28 : decode prog_3_method_1_code 28 = .ok (.aload_n 0, 1) := by decide +kernel
theorem kd_ft_29 : decode prog_3_method_1_code 29 = .ok (.bipush 80, 2) := by decide +kernel
theorem kd_ft_31 : decode prog_3_method_1_code 31 = .ok (.newarray .int, 2) := by decide +kernel
theorem kd_ft_33 : decode prog_3_method_1_code 33 = .ok (.putfield 21, 3) := by decide +kernel
theorem kd_ft_36 : decode prog_3_method_1_code 36 = .ok (.aload_n 0, 1) := by decide +kernel
theorem kd_ft_37 : decode prog_3_method_1_code 37 = .ok (.bipush 20, 2) := by decide +kernel
theorem kd_ft_39 : decode prog_3_method_1_code 39 = .ok (.putfield 24, 3) := by decide +kernel
theorem kd_ft_42 : decode prog_3_method_1_code 42 = .ok (.return_, 1) := by decide +kernel
theorem kd_rd_0 : decode prog_7_method_1_code 0 = .ok (.aload_n 0, 1) := by decide +kernel
theorem kd_rd_1 : decode prog_7_method_1_code 1 = .ok (.invokespecial 3, 3) := by decide +kernel
theorem kd_rd_4 : decode prog_7_method_1_code 4 = .ok (.aload_n 0, 1) := by decide +kernel
theorem kd_rd_5 : decode prog_7_method_1_code 5 = .ok (.bipush 60, 2) := by decide +kernel
theorem kd_rd_7 : decode prog_7_method_1_code 7 = .ok (.newarray .char, 2) := by decide +kernel
theorem kd_rd_9 : decode prog_7_method_1_code 9 = .ok (.putfield 11, 3) := by decide +kernel
theorem kd_rd_12 : decode prog_7_method_1_code 12 = .ok (.aload_n 0, 1) := by decide +kernel
theorem kd_rd_13 : decode prog_7_method_1_code 13 = .ok (.iconst 0, 1) := by decide +kernel
theorem kd_rd_14 : decode prog_7_method_1_code 14 = .ok (.putfield 15, 3) := by decide +kernel
theorem kd_rd_17 : decode prog_7_method_1_code 17 = .ok (.aload_n 0, 1) := by decide +kernel
theorem kd_rd_18 : decode prog_7_method_1_code 18 = .ok (.bipush 8, 2) := by decide +kernel
theorem kd_rd_20 : decode prog_7_method_1_code 20 = .ok (.newarray .int, 2) := by decide +kernel
theorem kd_rd_22 : decode prog_7_method_1_code 22 = .ok (.putfield 19, 3) := by decide +kernel
theorem kd_rd_25 : decode prog_7_method_1_code 25 = .ok (.aload_n 0, 1) := by decide +kernel
theorem kd_rd_26 : decode prog_7_method_1_code 26 = .ok (.bipush 8, 2) := by decide +kernel
theorem kd_rd_28 : decode prog_7_method_1_code 28 = .ok (.newarray .int, 2) := by decide +kernel
theorem kd_rd_30 : decode prog_7_method_1_code 30 = .ok (.putfield 23, 3) := by decide +kernel
theorem kd_rd_33 : decode prog_7_method_1_code 33 = .ok (.aload_n 0, 1) := by decide +kernel
theorem kd_rd_34 : decode prog_7_method_1_code 34 = .ok (.bipush 8, 2) := by decide +kernel
theorem kd_rd_36 : decode prog_7_method_1_code 36 = .ok (.newarray .int, 2) := by decide +kernel
theorem kd_rd_38 : decode prog_7_method_1_code 38 = .ok (.putfield 26, 3) := by decide +kernel
theorem kd_rd_41 : decode prog_7_method_1_code 41 = .ok (.aload_n 0, 1) := by decide +kernel
theorem kd_rd_42 : decode prog_7_method_1_code 42 = .ok (.iconst 0, 1) := by decide +kernel
theorem kd_rd_43 : decode prog_7_method_1_code 43 = .ok (.putfield 29, 3) := by decide +kernel
theorem kd_rd_46 : decode prog_7_method_1_code 46 = .ok (.aload_n 0, 1) := by decide +kernel
theorem kd_rd_47 : decode prog_7_method_1_code 47 = .ok (.iconst 0, 1) := by decide +kernel
theorem kd_rd_48 : decode prog_7_method_1_code 48 = .ok (.putfield 32, 3) := by decide +kernel
theorem kd_rd_51 : decode prog_7_method_1_code 51 = .ok (.aload_n 0, 1) := by decide +kernel
theorem kd_rd_52 : decode prog_7_method_1_code 52 = .ok (.iconst 0, 1) := by decide +kernel
theorem kd_rd_53 : decode prog_7_method_1_code 53 = .ok (.putfield 35, 3) := by decide +kernel
theorem kd_rd_56 : decode prog_7_method_1_code 56 = .ok (.aload_n 0, 1) := by decide +kernel
theorem kd_rd_57 : decode prog_7_method_1_code 57 = .ok (.iconst 0, 1) := by decide +kernel
theorem kd_rd_58 : decode prog_7_method_1_code 58 = .ok (.putfield 38, 3) := by decide +kernel
theorem kd_rd_61 : decode prog_7_method_1_code 61 = .ok (.aload_n 0, 1) := by decide +kernel
theorem kd_rd_62 : decode prog_7_method_1_code 62 = .ok (.iconst 0, 1) := by decide +kernel
theorem kd_rd_63 : decode prog_7_method_1_code 63 = .ok (.putfield 42, 3) := by decide +kernel
theorem kd_rd_66 : decode prog_7_method_1_code 66 = .ok (.aload_n 0, 1) := by decide +kernel
theorem kd_rd_67 : decode prog_7_method_1_code 67 = .ok (.aload_n 1, 1) := by decide +kernel
theorem kd_rd_68 : decode prog_7_method_1_code 68 = .ok (.putfield 45, 3) := by decide +kernel
theorem kd_rd_71 : decode prog_7_method_1_code 71 = .ok (.return_, 1) := by decide +kernel
theorem kd_wr_0 : decode prog_10_method_1_code 0 = .ok (.aload_n 0, 1) := by decide +kernel
theorem kd_wr_1 : decode prog_10_method_1_code 1 = .ok (.invokespecial 3, 3) := by decide +kernel
theorem kd_wr_4 : decode prog_10_method_1_code 4 = .ok (.aload_n 0, 1) := by decide +kernel
theorem kd_wr_5 : decode prog_10_method_1_code 5 = .ok (.bipush 37, 2) := by decide +kernel
theorem kd_wr_7 : decode prog_10_method_1_code 7 = .ok (.newarray .char, 2) := by decide +kernel
theorem kd_wr_9 : decode prog_10_method_1_code 9 = .ok (.putfield 11, 3) := by decide +kernel
theorem kd_wr_12 : decode prog_10_method_1_code 12 = .ok (.aload_n 0, 1) := by decide +kernel
theorem kd_wr_13 : decode prog_10_method_1_code 13 = .ok (.iconst 0, 1) := by decide +kernel
theorem kd_wr_14 : decode prog_10_method_1_code 14 = .ok (.putfield 15, 3) := by decide +kernel
theorem kd_wr_17 : decode prog_10_method_1_code 17 = .ok (.aload_n 0, 1) := by decide +kernel
theorem kd_wr_18 : decode prog_10_method_1_code 18 = .ok (.aload_n 1, 1) := by decide +kernel
theorem kd_wr_19 : decode prog_10_method_1_code 19 = .ok (.putfield 19, 3) := by decide +kernel
theorem kd_wr_22 : decode prog_10_method_1_code 22 = .ok (.return_, 1) := by decide +kernel
theorem kd_fi_0 : decode prog_2_method_1_code 0 = .ok (.aload_n 0, 1) := by decide +kernel
theorem kd_fi_1 : decode prog_2_method_1_code 1 = .ok (.invokespecial 3, 3) := by decide +kernel
theorem kd_fi_4 : decode prog_2_method_1_code 4 = .ok (.aload_n 0, 1) := by decide +kernel
theorem kd_fi_5 : decode prog_2_method_1_code 5 = .ok (.new 9, 3) := by decide +kernel
theorem kd_fi_8 : decode prog_2_method_1_code 8 = .ok (.dup, 1) := by decide +kernel
theorem kd_fi_9 : decode prog_2_method_1_code 9 = .ok (.invokespecial 11, 3) := by decide +kernel
theorem kd_fi_12 : decode prog_2_method_1_code 12 = .ok (.putfield 12, 3) := by decide +kernel
theorem kd_fi_15 : decode prog_2_method_1_code 15 = .ok (.aload_n 0, 1) := by decide +kernel
theorem kd_fi_16 : decode prog_2_method_1_code 16 = .ok (.aload_n 1, 1) := by decide +kernel
theorem kd_fi_17 : decode prog_2_method_1_code 17 = .ok (.putfield 18, 3) := by decide +kernel
theorem kd_fi_20 : decode prog_2_method_1_code 20 = .ok (.aload_n 0, 1) := by decide +kernel
theorem kd_fi_21 : decode prog_2_method_1_code 21 = .ok (.aload_n 2, 1) := by decide +kernel
theorem kd_fi_22 : decode prog_2_method_1_code 22 = .ok (.putfield 22, 3) := by decide +kernel
theorem kd_fi_25 : decode prog_2_method_1_code 25 = .ok (.return_, 1) := by decide +kernel
def kc_l : List Cond := [.methodLink (sR 5) 3 objectInit, .instanceMethod objectInit, .code objectInit ⟨#[0xb1]⟩ 1 none, .arrayClass .int, .fieldLink (sR 5) 11 (sR 5) (sT 5 0).2.1 (sT 5 0).2.2.1, .fieldLink (sR 5) 15 (sR 5) (sT 5 1).2.1 (sT 5 1).2.2.1, .methodLink (sR 6) 3 objectInit, .classLink (sR 6) 9 (sR 5), .instantiable (sR 5) 2, .code ky_sq prog_8_method_1_code 1 none, .instanceMethod ky_sq, .fieldLink (sR 6) 12 (sR 6) (sT 6 0).2.1 (sT 6 0).2.2.1, .fieldLink (sR 6) 18 (sR 6) (sT 6 1).2.1 (sT 6 1).2.2.1, .fieldLink (sR 6) 22 (sR 6) (sT 6 2).2.1 (sT 6 2).2.2.1, .fieldLink (sR 6) 25 (sR 6) (sT 6 3).2.1 (sT 6 3).2.2.1, .methodLink (sR 9) 1 objectInit, .arrayClass .long, .fieldLink (sR 9) 9 (sR 9) (sT 9 0).2.1 (sT 9 0).2.2.1, .methodLink (sR 2) 3 objectInit, .fieldLink (sR 2) 9 (sR 2) (sT 2 0).2.1 (sT 2 0).2.2.1, .fieldLink (sR 2) 15 (sR 2) (sT 2 1).2.1 (sT 2 1).2.2.1, .fieldLink (sR 2) 18 (sR 2) (sT 2 2).2.1 (sT 2 2).2.2.1, .fieldLink (sR 2) 21 (sR 2) (sT 2 3).2.1 (sT 2 3).2.2.1, .fieldLink (sR 2) 24 (sR 2) (sT 2 4).2.1 (sT 2 4).2.2.1, .methodLink (sR 3) 3 objectInit, .arrayClass .char, .fieldLink (sR 3) 11 (sR 3) (sT 3 1).2.1 (sT 3 1).2.2.1, .fieldLink (sR 3) 15 (sR 3) (sT 3 2).2.1 (sT 3 2).2.2.1, .fieldLink (sR 3) 19 (sR 3) (sT 3 3).2.1 (sT 3 3).2.2.1, .fieldLink (sR 3) 23 (sR 3) (sT 3 4).2.1 (sT 3 4).2.2.1, .fieldLink (sR 3) 26 (sR 3) (sT 3 5).2.1 (sT 3 5).2.2.1, .fieldLink (sR 3) 29 (sR 3) (sT 3 6).2.1 (sT 3 6).2.2.1, .fieldLink (sR 3) 32 (sR 3) (sT 3 7).2.1 (sT 3 7).2.2.1, .fieldLink (sR 3) 35 (sR 3) (sT 3 8).2.1 (sT 3 8).2.2.1, .fieldLink (sR 3) 38 (sR 3) (sT 3 9).2.1 (sT 3 9).2.2.1, .fieldLink (sR 3) 42 (sR 3) (sT 3 10).2.1 (sT 3 10).2.2.1, .fieldLink (sR 3) 45 (sR 3) (sT 3 0).2.1 (sT 3 0).2.2.1, .methodLink (sR 4) 3 objectInit, .fieldLink (sR 4) 11 (sR 4) (sT 4 1).2.1 (sT 4 1).2.2.1, .fieldLink (sR 4) 15 (sR 4) (sT 4 2).2.1 (sT 4 2).2.2.1, .fieldLink (sR 4) 19 (sR 4) (sT 4 0).2.1 (sT 4 0).2.2.1, .methodLink (sR 8) 3 objectInit, .classLink (sR 8) 9 (sR 9), .instantiable (sR 9) 1, .code ky_ho prog_4_method_1_code 1 none, .instanceMethod ky_ho, .fieldLink (sR 8) 12 (sR 8) (sT 8 2).2.1 (sT 8 2).2.2.1, .fieldLink (sR 8) 18 (sR 8) (sT 8 0).2.1 (sT 8 0).2.2.1, .fieldLink (sR 8) 22 (sR 8) (sT 8 1).2.1 (sT 8 1).2.2.1]
set_option maxRecDepth 100000 in
theorem kc_lok : kc_l.all so_in1 = true := by decide +kernel
theorem kc_at {w : Cond} (i : Nat) (h : kc_l[i]? = some w) : so_in1 w = true := List.all_eq_true.mp kc_lok w (List.mem_of_getElem? h)
set_option maxHeartbeats 8000000 in
set_option maxRecDepth 100000 in
theorem kc_sq (l : Launch) (Z : so_Z) : KC l Z ky_sq kw_sq ({ frames := 1, cells := 1, slots := 20, locals := 20 }) 1 20 [] (.inr (4, [.null, .int 0])) (fun q w => ∃ a : Nat, w = [(q, .inr (4, [.ref a, .int 0])), (a, kc_it Z)]) := by
  intro h0 sz
  refine Met.ofW (cc := prog_8_method_1_code) (maxL := 1) (ret := none) (by decide) rfl ?_
  intro p e s m args below meth c s₁ B hml hv
  obtain ⟨rfl, hsz, hP, hD0, hG⟩ := hv
  have hx := B.exec
  have hb := B.bytes
  have hr := B.returns
  have hts := atoms_spec (ws := kw_sq) B.pre
  have hown : s.vm.findClass (sR 5) = some m.cls := findClass_of_methodNamed B.named
  have hlocks := B.notSynchronized
  have hin : meth.name = "<init>" := (name_of_methodNamed B.named B.method).1
  subst hsz
  have hD := hD0.self (sz := s.heap.size)
  unfold kc_B
  generalize hAe : va_A [(h0, .inr (4, [.null, .int 0]))] s.heap.size = A at hD ⊢
  have hA : ∀ q : Nat, s.heap.size ≤ q → A q := fun q h => by rw [← hAe]; exact Or.inr h
  have hS : va_S A s.heap s.heap [] := va_S.rf
  have hK := hG.1
  have hP : va_P Z.2.1 so_cl [(h0, .inr (4, [.null, .int 0]))] s.heap := hP
  have hl := lv_entry ([.ref h0]) (n := 1) (Nat.le_of_ble_eq_true rfl)
  rw [lg_entry_eq]
  generalize (lg_sl ([.ref h0]) ++ List.replicate (1 - (lg_sl ([.ref h0])).length) Slot.unset).toArray = ls at hl ⊢
  have hl : lv_has ls 1 [(0, .ref h0)] := hl
  refine lv_aload_n hx hb kd_sq_0 rfl (lv_at hl 0 rfl) ?_
  refine W.objInit hx hb hown (hts _ (jk_sub _ (so_in1_in (kc_at 0 rfl)))) (hts _ (jk_sub _ (so_in1_in (kc_at 1 rfl)))) (hts _ (jk_sub _ (so_in1_in (kc_at 2 rfl)))) rfl (by rw [hml]; exact hl.1) rfl kd_sq_1 (Nat.le_of_ble_eq_true rfl) (Nat.le_of_ble_eq_true rfl) ?_
  refine W.eq (g2 := F0 m 4 ls []) rfl ?_
  refine lv_aload_n hx hb kd_sq_4 rfl (lv_at hl 0 rfl) ?_
  refine lv_bipush (v := 20) hx hb kd_sq_5 (by decide) ?_
  refine kr_newa (atype := .int) (t := 1) (t0 := 0) (N := 20) (a0 := (20, .inl (fun _ => 0))) hx hb hts jk_sub rfl (kc_at 3 rfl) hK hP hD hS hA rfl (fun _ => rfl) (fun _ => rfl) (by decide) (by decide) (Nat.le_of_ble_eq_true rfl) (Nat.le_of_ble_eq_true rfl) (Nat.le_of_ble_eq_true rfl) kd_sq_7 (fun q1 H hP hD hS => ?_)
  have hP : va_P Z.2.1 so_cl ((h0, .inr (4, [.null, .int 0])) :: [(q1, .inl (Z.2.2 1, 20, .inl (fun _ => 0)))]) H := hP
  have hD : va_D A ((h0, .inr (4, [.null, .int 0])) :: [(q1, .inl (Z.2.2 1, 20, .inl (fun _ => 0)))]) := hD
  refine W.widen (k := 1) (n := 20) (Nat.le_of_ble_eq_true rfl) (Nat.le_of_ble_eq_true rfl) ?_
  refine kr_put (k := 5) (j := 0) (idx := 11) (v := .ref q1) hx hb hts jk_sub (by decide) (by decide) hown hin hK hP hD hS (by decide) (kc_at 4 rfl) (ty := (.array .int)) (by decide +kernel) rfl rfl (Nat.le_of_ble_eq_true rfl) kd_sq_9 (fun H locs hP hD hS => ?_)
  have hP : va_P Z.2.1 so_cl ((h0, .inr (4, [.ref q1, .int 0])) :: [(q1, .inl (Z.2.2 1, 20, .inl (fun _ => 0)))]) H := hP
  have hD : va_D A ((h0, .inr (4, [.ref q1, .int 0])) :: [(q1, .inl (Z.2.2 1, 20, .inl (fun _ => 0)))]) := hD
  refine lv_aload_n hx hb kd_sq_12 rfl (lv_at hl 0 rfl) ?_
  refine lv_iconst (v := 0) hx hb kd_sq_13 (by decide) ?_
  refine kr_put (k := 5) (j := 1) (idx := 15) (v := .int 0) hx hb hts jk_sub (by decide) (by decide) hown hin hK hP hD hS (by decide) (kc_at 5 rfl) (ty := .int) (by decide +kernel) rfl rfl (Nat.le_of_ble_eq_true rfl) kd_sq_14 (fun H locs hP hD hS => ?_)
  have hP : va_P Z.2.1 so_cl ((h0, .inr (4, [.ref q1, .int 0])) :: [(q1, .inl (Z.2.2 1, 20, .inl (fun _ => 0)))]) H := hP
  have hD : va_D A ((h0, .inr (4, [.ref q1, .int 0])) :: [(q1, .inl (Z.2.2 1, 20, .inl (fun _ => 0)))]) := hD
  exact W.vret hx hb hr (fun t ht hW => ⟨⟨(h0, .inr (4, [.ref q1, .int 0])) :: [(q1, .inl (Z.2.2 1, 20, .inl (fun _ => 0)))], rfl, ⟨q1, rfl⟩, by rw [ht]; exact hP, hD⟩, hS.F ht⟩) hS.2.2 kd_sq_17
set_option maxHeartbeats 8000000 in
set_option maxRecDepth 100000 in
theorem kc_nd (l : Launch) (Z : so_Z) : KC l Z ky_nd kw_nd ({ frames := 2, cells := 2, slots := 22, locals := 60 }) 2 22 [] (.inr (5, [.null, .int 0, .int 0, .int 0])) (fun q w => ∃ b a : Nat, w = [(q, .inr (5, [.ref b, .int 0, .int (-1), .int 1])), (b, .inr (4, [.ref a, .int 0])), (a, kc_it Z)]) := by
  intro h0 sz
  refine Met.ofW (cc := prog_5_method_1_code) (maxL := 1) (ret := none) (by decide) rfl ?_
  intro p e s m args below meth c s₁ B hml hv
  obtain ⟨rfl, hsz, hP, hD0, hG⟩ := hv
  have hx := B.exec
  have hb := B.bytes
  have hr := B.returns
  have hts := atoms_spec (ws := kw_nd) B.pre
  have hown : s.vm.findClass (sR 6) = some m.cls := findClass_of_methodNamed B.named
  have hlocks := B.notSynchronized
  have hin : meth.name = "<init>" := (name_of_methodNamed B.named B.method).1
  subst hsz
  have hD := hD0.self (sz := s.heap.size)
  unfold kc_B
  generalize hAe : va_A [(h0, .inr (5, [.null, .int 0, .int 0, .int 0]))] s.heap.size = A at hD ⊢
  have hA : ∀ q : Nat, s.heap.size ≤ q → A q := fun q h => by rw [← hAe]; exact Or.inr h
  have hS : va_S A s.heap s.heap [] := va_S.rf
  have hK := hG.1
  have hP : va_P Z.2.1 so_cl [(h0, .inr (5, [.null, .int 0, .int 0, .int 0]))] s.heap := hP
  have hl := lv_entry ([.ref h0]) (n := 1) (Nat.le_of_ble_eq_true rfl)
  rw [lg_entry_eq]
  generalize (lg_sl ([.ref h0]) ++ List.replicate (1 - (lg_sl ([.ref h0])).length) Slot.unset).toArray = ls at hl ⊢
  have hl : lv_has ls 1 [(0, .ref h0)] := hl
  refine lv_aload_n hx hb kd_nd_0 rfl (lv_at hl 0 rfl) ?_
  refine W.objInit hx hb hown (hts _ (jk_sub _ (so_in1_in (kc_at 6 rfl)))) (hts _ (jk_sub _ (so_in1_in (kc_at 1 rfl)))) (hts _ (jk_sub _ (so_in1_in (kc_at 2 rfl)))) rfl (by rw [hml]; exact hl.1) rfl kd_nd_1 (Nat.le_of_ble_eq_true rfl) (Nat.le_of_ble_eq_true rfl) ?_
  refine W.eq (g2 := F0 m 4 ls []) rfl ?_
  refine lv_aload_n hx hb kd_nd_4 rfl (lv_at hl 0 rfl) ?_
  refine kr_new (k := 6) (k' := 5) (idx := 9) (N := 2) (fs' := [.null, .int 0]) hx hb hts jk_sub (by decide) (by decide) hown hK hP hD hS hA (kc_at 7 rfl) (kc_at 8 rfl) rfl (by decide +kernel) (Nat.le_of_ble_eq_true rfl) (Nat.le_of_ble_eq_true rfl) kd_nd_5 (fun q1 H hP hD hS => ?_)
  have hP : va_P Z.2.1 so_cl (((h0, .inr (5, [.null, .int 0, .int 0, .int 0])) :: []) ++ [(q1, .inr (4, [.null, .int 0]))]) H := hP
  have hD : va_D A (((h0, .inr (5, [.null, .int 0, .int 0, .int 0])) :: []) ++ [(q1, .inr (4, [.null, .int 0]))]) := hD
  refine W.widen (k := 1) (n := 2) (Nat.le_of_ble_eq_true rfl) (Nat.le_of_ble_eq_true rfl) ?_
  refine lv_dup hx hb kd_nd_8 rfl ?_
  refine kr_call (post := fun q w => ∃ a : Nat, w = [(q, .inr (4, [.ref a, .int 0])), (a, kc_it Z)]) (e0 := .inr (4, [.null, .int 0])) (mc := 1) (ms := 20) (q := q1) (X := (h0, .inr (5, [.null, .int 0, .int 0, .int 0])) :: []) (va_runIN (rm := ({ frames := 1, cells := 1, slots := 20, locals := 20 })) (mc := 1) (ms := 20) (As := []) (rest := [.ref q1, .ref h0]) ⟨hx, hb, hml, hown, hts⟩ (kc_sq l Z q1 H.size) ⟨va_cnB 0 hts (jk_good jk_sub (kc_at 9 rfl)) rfl rfl rfl (hG.2.1 (.methodLinkNest (sR 6) 11 ky_sq "ProofWorkbench") (by decide)) (hts _ (jk_sub _ (so_f8 5 (by decide)))) ⟨by decide, by decide, by decide +kernel⟩ ⟨Nat.le_of_ble_eq_true rfl, Nat.le_of_ble_eq_true rfl⟩, rfl, hts _ (jk_sub _ (so_in1_in (kc_at 10 rfl)))⟩ (kc_preS (X := (h0, .inr (5, [.null, .int 0, .int 0, .int 0])) :: []) (A := A) hG hP) rfl rfl hl.1 rfl (lv_room (Nat.le_of_ble_eq_true rfl)) kd_nd_9 ⟨Nat.le_of_ble_eq_true rfl, Nat.le_of_ble_eq_true rfl⟩) hP hD hS hA (fun w H locs hw hP hD hS => ?_)
  obtain ⟨q2, rfl⟩ := hw
  have hP : va_P Z.2.1 so_cl ((h0, .inr (5, [.null, .int 0, .int 0, .int 0])) :: [(q1, .inr (4, [.ref q2, .int 0])), (q2, kc_it Z)]) H := hP
  have hD : va_D A ((h0, .inr (5, [.null, .int 0, .int 0, .int 0])) :: [(q1, .inr (4, [.ref q2, .int 0])), (q2, kc_it Z)]) := hD
  refine W.widen (k := 2) (n := 22) (Nat.le_of_ble_eq_true rfl) (Nat.le_of_ble_eq_true rfl) ?_
  refine kr_put (k := 6) (j := 0) (idx := 12) (v := .ref q1) hx hb hts jk_sub (by decide) (by decide) hown hin hK hP hD hS (by decide) (kc_at 11 rfl) (ty := (.object "ProofWorkbench$Sequent")) (by decide +kernel) rfl rfl (Nat.le_of_ble_eq_true rfl) kd_nd_12 (fun H locs hP hD hS => ?_)
  have hP : va_P Z.2.1 so_cl ((h0, .inr (5, [.ref q1, .int 0, .int 0, .int 0])) :: [(q1, .inr (4, [.ref q2, .int 0])), (q2, kc_it Z)]) H := hP
  have hD : va_D A ((h0, .inr (5, [.ref q1, .int 0, .int 0, .int 0])) :: [(q1, .inr (4, [.ref q2, .int 0])), (q2, kc_it Z)]) := hD
  refine lv_aload_n hx hb kd_nd_15 rfl (lv_at hl 0 rfl) ?_
  refine lv_iconst (v := 0) hx hb kd_nd_16 (by decide) ?_
  refine kr_put (k := 6) (j := 1) (idx := 18) (v := .int 0) hx hb hts jk_sub (by decide) (by decide) hown hin hK hP hD hS (by decide) (kc_at 12 rfl) (ty := .int) (by decide +kernel) rfl rfl (Nat.le_of_ble_eq_true rfl) kd_nd_17 (fun H locs hP hD hS => ?_)
  have hP : va_P Z.2.1 so_cl ((h0, .inr (5, [.ref q1, .int 0, .int 0, .int 0])) :: [(q1, .inr (4, [.ref q2, .int 0])), (q2, kc_it Z)]) H := hP
  have hD : va_D A ((h0, .inr (5, [.ref q1, .int 0, .int 0, .int 0])) :: [(q1, .inr (4, [.ref q2, .int 0])), (q2, kc_it Z)]) := hD
  refine lv_aload_n hx hb kd_nd_20 rfl (lv_at hl 0 rfl) ?_
  refine lv_iconst (v := (-1)) hx hb kd_nd_21 (by decide) ?_
  refine kr_put (k := 6) (j := 2) (idx := 22) (v := .int (-1)) hx hb hts jk_sub (by decide) (by decide) hown hin hK hP hD hS (by decide) (kc_at 13 rfl) (ty := .int) (by decide +kernel) rfl rfl (Nat.le_of_ble_eq_true rfl) kd_nd_22 (fun H locs hP hD hS => ?_)
  have hP : va_P Z.2.1 so_cl ((h0, .inr (5, [.ref q1, .int 0, .int (-1), .int 0])) :: [(q1, .inr (4, [.ref q2, .int 0])), (q2, kc_it Z)]) H := hP
  have hD : va_D A ((h0, .inr (5, [.ref q1, .int 0, .int (-1), .int 0])) :: [(q1, .inr (4, [.ref q2, .int 0])), (q2, kc_it Z)]) := hD
  refine lv_aload_n hx hb kd_nd_25 rfl (lv_at hl 0 rfl) ?_
  refine lv_iconst (v := 1) hx hb kd_nd_26 (by decide) ?_
  refine kr_put (k := 6) (j := 3) (idx := 25) (v := .int 1) hx hb hts jk_sub (by decide) (by decide) hown hin hK hP hD hS (by decide) (kc_at 14 rfl) (ty := .int) (by decide +kernel) rfl rfl (Nat.le_of_ble_eq_true rfl) kd_nd_27 (fun H locs hP hD hS => ?_)
  have hP : va_P Z.2.1 so_cl ((h0, .inr (5, [.ref q1, .int 0, .int (-1), .int 1])) :: [(q1, .inr (4, [.ref q2, .int 0])), (q2, kc_it Z)]) H := hP
  have hD : va_D A ((h0, .inr (5, [.ref q1, .int 0, .int (-1), .int 1])) :: [(q1, .inr (4, [.ref q2, .int 0])), (q2, kc_it Z)]) := hD
  exact W.vret hx hb hr (fun t ht hW => ⟨⟨(h0, .inr (5, [.ref q1, .int 0, .int (-1), .int 1])) :: [(q1, .inr (4, [.ref q2, .int 0])), (q2, kc_it Z)], rfl, ⟨q1, q2, rfl⟩, by rw [ht]; exact hP, hD⟩, hS.F ht⟩) hS.2.2 kd_nd_30
set_option maxHeartbeats 8000000 in
set_option maxRecDepth 100000 in
theorem kc_ho (l : Launch) (Z : so_Z) : KC l Z ky_ho kw_ho ({ frames := 1, cells := 1, slots := 1024, locals := 20 }) 1 1024 [] (.inr (8, [.null])) (fun q w => ∃ a : Nat, w = [(q, .inr (8, [.ref a])), (a, .inl (Z.2.2 4, 1024, .inr (.inl (fun _ => 0))))]) := by
  intro h0 sz
  refine Met.ofW (cc := prog_4_method_1_code) (maxL := 1) (ret := none) (by decide) rfl ?_
  intro p e s m args below meth c s₁ B hml hv
  obtain ⟨rfl, hsz, hP, hD0, hG⟩ := hv
  have hx := B.exec
  have hb := B.bytes
  have hr := B.returns
  have hts := atoms_spec (ws := kw_ho) B.pre
  have hown : s.vm.findClass (sR 9) = some m.cls := findClass_of_methodNamed B.named
  have hlocks := B.notSynchronized
  have hin : meth.name = "<init>" := (name_of_methodNamed B.named B.method).1
  subst hsz
  have hD := hD0.self (sz := s.heap.size)
  unfold kc_B
  generalize hAe : va_A [(h0, .inr (8, [.null]))] s.heap.size = A at hD ⊢
  have hA : ∀ q : Nat, s.heap.size ≤ q → A q := fun q h => by rw [← hAe]; exact Or.inr h
  have hS : va_S A s.heap s.heap [] := va_S.rf
  have hK := hG.1
  have hP : va_P Z.2.1 so_cl [(h0, .inr (8, [.null]))] s.heap := hP
  have hl := lv_entry ([.ref h0]) (n := 1) (Nat.le_of_ble_eq_true rfl)
  rw [lg_entry_eq]
  generalize (lg_sl ([.ref h0]) ++ List.replicate (1 - (lg_sl ([.ref h0])).length) Slot.unset).toArray = ls at hl ⊢
  have hl : lv_has ls 1 [(0, .ref h0)] := hl
  refine lv_aload_n hx hb kd_ho_0 rfl (lv_at hl 0 rfl) ?_
  refine W.objInit hx hb hown (hts _ (jk_sub _ (so_in1_in (kc_at 15 rfl)))) (hts _ (jk_sub _ (so_in1_in (kc_at 1 rfl)))) (hts _ (jk_sub _ (so_in1_in (kc_at 2 rfl)))) rfl (by rw [hml]; exact hl.1) rfl kd_ho_1 (Nat.le_of_ble_eq_true rfl) (Nat.le_of_ble_eq_true rfl) ?_
  refine W.eq (g2 := F0 m 4 ls []) rfl ?_
  refine lv_aload_n hx hb kd_ho_4 rfl (lv_at hl 0 rfl) ?_
  refine lv_sipush (v := 1024) hx hb kd_ho_5 (by decide) ?_
  refine kr_newa (atype := .long) (t := 4) (t0 := 3) (N := 1024) (a0 := (1024, .inr (.inl (fun _ => 0)))) hx hb hts jk_sub rfl (kc_at 16 rfl) hK hP hD hS hA rfl (fun _ => rfl) (fun _ => rfl) (by decide) (by decide) (Nat.le_of_ble_eq_true rfl) (Nat.le_of_ble_eq_true rfl) (Nat.le_of_ble_eq_true rfl) kd_ho_8 (fun q1 H hP hD hS => ?_)
  have hP : va_P Z.2.1 so_cl ((h0, .inr (8, [.null])) :: [(q1, .inl (Z.2.2 4, 1024, .inr (.inl (fun _ => 0))))]) H := hP
  have hD : va_D A ((h0, .inr (8, [.null])) :: [(q1, .inl (Z.2.2 4, 1024, .inr (.inl (fun _ => 0))))]) := hD
  refine W.widen (k := 1) (n := 1024) (Nat.le_of_ble_eq_true rfl) (Nat.le_of_ble_eq_true rfl) ?_
  refine kr_put (k := 9) (j := 0) (idx := 9) (v := .ref q1) hx hb hts jk_sub (by decide) (by decide) hown hin hK hP hD hS (by decide) (kc_at 17 rfl) (ty := (.array .long)) (by decide +kernel) rfl rfl (Nat.le_of_ble_eq_true rfl) kd_ho_10 (fun H locs hP hD hS => ?_)
  have hP : va_P Z.2.1 so_cl ((h0, .inr (8, [.ref q1])) :: [(q1, .inl (Z.2.2 4, 1024, .inr (.inl (fun _ => 0))))]) H := hP
  have hD : va_D A ((h0, .inr (8, [.ref q1])) :: [(q1, .inl (Z.2.2 4, 1024, .inr (.inl (fun _ => 0))))]) := hD
  exact W.vret hx hb hr (fun t ht hW => ⟨⟨(h0, .inr (8, [.ref q1])) :: [(q1, .inl (Z.2.2 4, 1024, .inr (.inl (fun _ => 0))))], rfl, ⟨q1, rfl⟩, by rw [ht]; exact hP, hD⟩, hS.F ht⟩) hS.2.2 kd_ho_13
set_option maxHeartbeats 8000000 in
set_option maxRecDepth 100000 in
theorem kc_ft (l : Launch) (Z : so_Z) : KC l Z ky_ft kw_ft ({ frames := 1, cells := 4, slots := 320, locals := 20 }) 4 320 [] (.inr (1, [.null, .null, .null, .null, .int 0])) (fun q w => ∃ a b c d : Nat, w = [(q, .inr (1, [.ref a, .ref b, .ref c, .ref d, .int 20])), (a, .inl (Z.2.2 1, 80, .inl (fun _ => 0))), (b, .inl (Z.2.2 1, 80, .inl (fun _ => 0))), (c, .inl (Z.2.2 1, 80, .inl (fun _ => 0))), (d, .inl (Z.2.2 1, 80, .inl (fun _ => 0)))]) := by
  intro h0 sz
  refine Met.ofW (cc := prog_3_method_1_code) (maxL := 1) (ret := none) (by decide) rfl ?_
  intro p e s m args below meth c s₁ B hml hv
  obtain ⟨rfl, hsz, hP, hD0, hG⟩ := hv
  have hx := B.exec
  have hb := B.bytes
  have hr := B.returns
  have hts := atoms_spec (ws := kw_ft) B.pre
  have hown : s.vm.findClass (sR 2) = some m.cls := findClass_of_methodNamed B.named
  have hlocks := B.notSynchronized
  have hin : meth.name = "<init>" := (name_of_methodNamed B.named B.method).1
  subst hsz
  have hD := hD0.self (sz := s.heap.size)
  unfold kc_B
  generalize hAe : va_A [(h0, .inr (1, [.null, .null, .null, .null, .int 0]))] s.heap.size = A at hD ⊢
  have hA : ∀ q : Nat, s.heap.size ≤ q → A q := fun q h => by rw [← hAe]; exact Or.inr h
  have hS : va_S A s.heap s.heap [] := va_S.rf
  have hK := hG.1
  have hP : va_P Z.2.1 so_cl [(h0, .inr (1, [.null, .null, .null, .null, .int 0]))] s.heap := hP
  have hl := lv_entry ([.ref h0]) (n := 1) (Nat.le_of_ble_eq_true rfl)
  rw [lg_entry_eq]
  generalize (lg_sl ([.ref h0]) ++ List.replicate (1 - (lg_sl ([.ref h0])).length) Slot.unset).toArray = ls at hl ⊢
  have hl : lv_has ls 1 [(0, .ref h0)] := hl
  refine lv_aload_n hx hb kd_ft_0 rfl (lv_at hl 0 rfl) ?_
  refine W.objInit hx hb hown (hts _ (jk_sub _ (so_in1_in (kc_at 18 rfl)))) (hts _ (jk_sub _ (so_in1_in (kc_at 1 rfl)))) (hts _ (jk_sub _ (so_in1_in (kc_at 2 rfl)))) rfl (by rw [hml]; exact hl.1) rfl kd_ft_1 (Nat.le_of_ble_eq_true rfl) (Nat.le_of_ble_eq_true rfl) ?_
  refine W.eq (g2 := F0 m 4 ls []) rfl ?_
  refine lv_aload_n hx hb kd_ft_4 rfl (lv_at hl 0 rfl) ?_
  refine lv_bipush (v := 80) hx hb kd_ft_5 (by decide) ?_
  refine kr_newa (atype := .int) (t := 1) (t0 := 0) (N := 80) (a0 := (80, .inl (fun _ => 0))) hx hb hts jk_sub rfl (kc_at 3 rfl) hK hP hD hS hA rfl (fun _ => rfl) (fun _ => rfl) (by decide) (by decide) (Nat.le_of_ble_eq_true rfl) (Nat.le_of_ble_eq_true rfl) (Nat.le_of_ble_eq_true rfl) kd_ft_7 (fun q1 H hP hD hS => ?_)
  have hP : va_P Z.2.1 so_cl ((h0, .inr (1, [.null, .null, .null, .null, .int 0])) :: [(q1, .inl (Z.2.2 1, 80, .inl (fun _ => 0)))]) H := hP
  have hD : va_D A ((h0, .inr (1, [.null, .null, .null, .null, .int 0])) :: [(q1, .inl (Z.2.2 1, 80, .inl (fun _ => 0)))]) := hD
  refine W.widen (k := 1) (n := 80) (Nat.le_of_ble_eq_true rfl) (Nat.le_of_ble_eq_true rfl) ?_
  refine kr_put (k := 2) (j := 0) (idx := 9) (v := .ref q1) hx hb hts jk_sub (by decide) (by decide) hown hin hK hP hD hS (by decide) (kc_at 19 rfl) (ty := (.array .int)) (by decide +kernel) rfl rfl (Nat.le_of_ble_eq_true rfl) kd_ft_9 (fun H locs hP hD hS => ?_)
  have hP : va_P Z.2.1 so_cl ((h0, .inr (1, [.ref q1, .null, .null, .null, .int 0])) :: [(q1, .inl (Z.2.2 1, 80, .inl (fun _ => 0)))]) H := hP
  have hD : va_D A ((h0, .inr (1, [.ref q1, .null, .null, .null, .int 0])) :: [(q1, .inl (Z.2.2 1, 80, .inl (fun _ => 0)))]) := hD
  refine lv_aload_n hx hb kd_ft_12 rfl (lv_at hl 0 rfl) ?_
  refine lv_bipush (v := 80) hx hb kd_ft_13 (by decide) ?_
  refine kr_newa (atype := .int) (t := 1) (t0 := 0) (N := 80) (a0 := (80, .inl (fun _ => 0))) hx hb hts jk_sub rfl (kc_at 3 rfl) hK hP hD hS hA rfl (fun _ => rfl) (fun _ => rfl) (by decide) (by decide) (Nat.le_of_ble_eq_true rfl) (Nat.le_of_ble_eq_true rfl) (Nat.le_of_ble_eq_true rfl) kd_ft_15 (fun q2 H hP hD hS => ?_)
  have hP : va_P Z.2.1 so_cl ((h0, .inr (1, [.ref q1, .null, .null, .null, .int 0])) :: [(q1, .inl (Z.2.2 1, 80, .inl (fun _ => 0))), (q2, .inl (Z.2.2 1, 80, .inl (fun _ => 0)))]) H := hP
  have hD : va_D A ((h0, .inr (1, [.ref q1, .null, .null, .null, .int 0])) :: [(q1, .inl (Z.2.2 1, 80, .inl (fun _ => 0))), (q2, .inl (Z.2.2 1, 80, .inl (fun _ => 0)))]) := hD
  refine W.widen (k := 2) (n := 160) (Nat.le_of_ble_eq_true rfl) (Nat.le_of_ble_eq_true rfl) ?_
  refine kr_put (k := 2) (j := 1) (idx := 15) (v := .ref q2) hx hb hts jk_sub (by decide) (by decide) hown hin hK hP hD hS (by decide) (kc_at 20 rfl) (ty := (.array .int)) (by decide +kernel) rfl rfl (Nat.le_of_ble_eq_true rfl) kd_ft_17 (fun H locs hP hD hS => ?_)
  have hP : va_P Z.2.1 so_cl ((h0, .inr (1, [.ref q1, .ref q2, .null, .null, .int 0])) :: [(q1, .inl (Z.2.2 1, 80, .inl (fun _ => 0))), (q2, .inl (Z.2.2 1, 80, .inl (fun _ => 0)))]) H := hP
  have hD : va_D A ((h0, .inr (1, [.ref q1, .ref q2, .null, .null, .int 0])) :: [(q1, .inl (Z.2.2 1, 80, .inl (fun _ => 0))), (q2, .inl (Z.2.2 1, 80, .inl (fun _ => 0)))]) := hD
  refine lv_aload_n hx hb kd_ft_20 rfl (lv_at hl 0 rfl) ?_
  refine lv_bipush (v := 80) hx hb kd_ft_21 (by decide) ?_
  refine kr_newa (atype := .int) (t := 1) (t0 := 0) (N := 80) (a0 := (80, .inl (fun _ => 0))) hx hb hts jk_sub rfl (kc_at 3 rfl) hK hP hD hS hA rfl (fun _ => rfl) (fun _ => rfl) (by decide) (by decide) (Nat.le_of_ble_eq_true rfl) (Nat.le_of_ble_eq_true rfl) (Nat.le_of_ble_eq_true rfl) kd_ft_23 (fun q3 H hP hD hS => ?_)
  have hP : va_P Z.2.1 so_cl ((h0, .inr (1, [.ref q1, .ref q2, .null, .null, .int 0])) :: [(q1, .inl (Z.2.2 1, 80, .inl (fun _ => 0))), (q2, .inl (Z.2.2 1, 80, .inl (fun _ => 0))), (q3, .inl (Z.2.2 1, 80, .inl (fun _ => 0)))]) H := hP
  have hD : va_D A ((h0, .inr (1, [.ref q1, .ref q2, .null, .null, .int 0])) :: [(q1, .inl (Z.2.2 1, 80, .inl (fun _ => 0))), (q2, .inl (Z.2.2 1, 80, .inl (fun _ => 0))), (q3, .inl (Z.2.2 1, 80, .inl (fun _ => 0)))]) := hD
  refine W.widen (k := 3) (n := 240) (Nat.le_of_ble_eq_true rfl) (Nat.le_of_ble_eq_true rfl) ?_
  refine kr_put (k := 2) (j := 2) (idx := 18) (v := .ref q3) hx hb hts jk_sub (by decide) (by decide) hown hin hK hP hD hS (by decide) (kc_at 21 rfl) (ty := (.array .int)) (by decide +kernel) rfl rfl (Nat.le_of_ble_eq_true rfl) kd_ft_25 (fun H locs hP hD hS => ?_)
  have hP : va_P Z.2.1 so_cl ((h0, .inr (1, [.ref q1, .ref q2, .ref q3, .null, .int 0])) :: [(q1, .inl (Z.2.2 1, 80, .inl (fun _ => 0))), (q2, .inl (Z.2.2 1, 80, .inl (fun _ => 0))), (q3, .inl (Z.2.2 1, 80, .inl (fun _ => 0)))]) H := hP
  have hD : va_D A ((h0, .inr (1, [.ref q1, .ref q2, .ref q3, .null, .int 0])) :: [(q1, .inl (Z.2.2 1, 80, .inl (fun _ => 0))), (q2, .inl (Z.2.2 1, 80, .inl (fun _ => 0))), (q3, .inl (Z.2.2 1, 80, .inl (fun _ => 0)))]) := hD
  refine lv_aload_n hx hb kd_ft_28 rfl (lv_at hl 0 rfl) ?_
  refine lv_bipush (v := 80) hx hb kd_ft_29 (by decide) ?_
  refine kr_newa (atype := .int) (t := 1) (t0 := 0) (N := 80) (a0 := (80, .inl (fun _ => 0))) hx hb hts jk_sub rfl (kc_at 3 rfl) hK hP hD hS hA rfl (fun _ => rfl) (fun _ => rfl) (by decide) (by decide) (Nat.le_of_ble_eq_true rfl) (Nat.le_of_ble_eq_true rfl) (Nat.le_of_ble_eq_true rfl) kd_ft_31 (fun q4 H hP hD hS => ?_)
  have hP : va_P Z.2.1 so_cl ((h0, .inr (1, [.ref q1, .ref q2, .ref q3, .null, .int 0])) :: [(q1, .inl (Z.2.2 1, 80, .inl (fun _ => 0))), (q2, .inl (Z.2.2 1, 80, .inl (fun _ => 0))), (q3, .inl (Z.2.2 1, 80, .inl (fun _ => 0))), (q4, .inl (Z.2.2 1, 80, .inl (fun _ => 0)))]) H := hP
  have hD : va_D A ((h0, .inr (1, [.ref q1, .ref q2, .ref q3, .null, .int 0])) :: [(q1, .inl (Z.2.2 1, 80, .inl (fun _ => 0))), (q2, .inl (Z.2.2 1, 80, .inl (fun _ => 0))), (q3, .inl (Z.2.2 1, 80, .inl (fun _ => 0))), (q4, .inl (Z.2.2 1, 80, .inl (fun _ => 0)))]) := hD
  refine W.widen (k := 4) (n := 320) (Nat.le_of_ble_eq_true rfl) (Nat.le_of_ble_eq_true rfl) ?_
  refine kr_put (k := 2) (j := 3) (idx := 21) (v := .ref q4) hx hb hts jk_sub (by decide) (by decide) hown hin hK hP hD hS (by decide) (kc_at 22 rfl) (ty := (.array .int)) (by decide +kernel) rfl rfl (Nat.le_of_ble_eq_true rfl) kd_ft_33 (fun H locs hP hD hS => ?_)
  have hP : va_P Z.2.1 so_cl ((h0, .inr (1, [.ref q1, .ref q2, .ref q3, .ref q4, .int 0])) :: [(q1, .inl (Z.2.2 1, 80, .inl (fun _ => 0))), (q2, .inl (Z.2.2 1, 80, .inl (fun _ => 0))), (q3, .inl (Z.2.2 1, 80, .inl (fun _ => 0))), (q4, .inl (Z.2.2 1, 80, .inl (fun _ => 0)))]) H := hP
  have hD : va_D A ((h0, .inr (1, [.ref q1, .ref q2, .ref q3, .ref q4, .int 0])) :: [(q1, .inl (Z.2.2 1, 80, .inl (fun _ => 0))), (q2, .inl (Z.2.2 1, 80, .inl (fun _ => 0))), (q3, .inl (Z.2.2 1, 80, .inl (fun _ => 0))), (q4, .inl (Z.2.2 1, 80, .inl (fun _ => 0)))]) := hD
  refine lv_aload_n hx hb kd_ft_36 rfl (lv_at hl 0 rfl) ?_
  refine lv_bipush (v := 20) hx hb kd_ft_37 (by decide) ?_
  refine kr_put (k := 2) (j := 4) (idx := 24) (v := .int 20) hx hb hts jk_sub (by decide) (by decide) hown hin hK hP hD hS (by decide) (kc_at 23 rfl) (ty := .int) (by decide +kernel) rfl rfl (Nat.le_of_ble_eq_true rfl) kd_ft_39 (fun H locs hP hD hS => ?_)
  have hP : va_P Z.2.1 so_cl ((h0, .inr (1, [.ref q1, .ref q2, .ref q3, .ref q4, .int 20])) :: [(q1, .inl (Z.2.2 1, 80, .inl (fun _ => 0))), (q2, .inl (Z.2.2 1, 80, .inl (fun _ => 0))), (q3, .inl (Z.2.2 1, 80, .inl (fun _ => 0))), (q4, .inl (Z.2.2 1, 80, .inl (fun _ => 0)))]) H := hP
  have hD : va_D A ((h0, .inr (1, [.ref q1, .ref q2, .ref q3, .ref q4, .int 20])) :: [(q1, .inl (Z.2.2 1, 80, .inl (fun _ => 0))), (q2, .inl (Z.2.2 1, 80, .inl (fun _ => 0))), (q3, .inl (Z.2.2 1, 80, .inl (fun _ => 0))), (q4, .inl (Z.2.2 1, 80, .inl (fun _ => 0)))]) := hD
  exact W.vret hx hb hr (fun t ht hW => ⟨⟨(h0, .inr (1, [.ref q1, .ref q2, .ref q3, .ref q4, .int 20])) :: [(q1, .inl (Z.2.2 1, 80, .inl (fun _ => 0))), (q2, .inl (Z.2.2 1, 80, .inl (fun _ => 0))), (q3, .inl (Z.2.2 1, 80, .inl (fun _ => 0))), (q4, .inl (Z.2.2 1, 80, .inl (fun _ => 0)))], rfl, ⟨q1, q2, q3, q4, rfl⟩, by rw [ht]; exact hP, hD⟩, hS.F ht⟩) hS.2.2 kd_ft_42
set_option maxHeartbeats 8000000 in
set_option maxRecDepth 100000 in
theorem kc_rd (l : Launch) (Z : so_Z) (tb : Nat) : KC l Z ky_rd kw_rd ({ frames := 1, cells := 4, slots := 84, locals := 20 }) 4 84 [.ref tb] (.inr (2, [.null, .null, .int 0, .null, .null, .null, .int 0, .int 0, .int 0, .int 0, .int 0])) (fun q w => ∃ a b c d : Nat, w = [(q, .inr (2, [.ref tb, .ref a, .int 0, .ref b, .ref c, .ref d, .int 0, .int 0, .int 0, .int 0, .int 0])), (a, .inl (Z.2.2 3, 60, .inl (fun _ => 0))), (b, .inl (Z.2.2 1, 8, .inl (fun _ => 0))), (c, .inl (Z.2.2 1, 8, .inl (fun _ => 0))), (d, .inl (Z.2.2 1, 8, .inl (fun _ => 0)))]) := by
  intro h0 sz
  refine Met.ofW (cc := prog_7_method_1_code) (maxL := 2) (ret := none) (by decide) rfl ?_
  intro p e s m args below meth c s₁ B hml hv
  obtain ⟨rfl, hsz, hP, hD0, hG⟩ := hv
  have hx := B.exec
  have hb := B.bytes
  have hr := B.returns
  have hts := atoms_spec (ws := kw_rd) B.pre
  have hown : s.vm.findClass (sR 3) = some m.cls := findClass_of_methodNamed B.named
  have hlocks := B.notSynchronized
  have hin : meth.name = "<init>" := (name_of_methodNamed B.named B.method).1
  subst hsz
  have hD := hD0.self (sz := s.heap.size)
  unfold kc_B
  generalize hAe : va_A [(h0, .inr (2, [.null, .null, .int 0, .null, .null, .null, .int 0, .int 0, .int 0, .int 0, .int 0]))] s.heap.size = A at hD ⊢
  have hA : ∀ q : Nat, s.heap.size ≤ q → A q := fun q h => by rw [← hAe]; exact Or.inr h
  have hS : va_S A s.heap s.heap [] := va_S.rf
  have hK := hG.1
  have hP : va_P Z.2.1 so_cl [(h0, .inr (2, [.null, .null, .int 0, .null, .null, .null, .int 0, .int 0, .int 0, .int 0, .int 0]))] s.heap := hP
  have hl := lv_entry ([.ref h0, .ref tb]) (n := 2) (Nat.le_of_ble_eq_true rfl)
  rw [lg_entry_eq]
  generalize (lg_sl ([.ref h0, .ref tb]) ++ List.replicate (2 - (lg_sl ([.ref h0, .ref tb])).length) Slot.unset).toArray = ls at hl ⊢
  have hl : lv_has ls 2 [(0, .ref h0), (1, .ref tb)] := hl
  refine lv_aload_n hx hb kd_rd_0 rfl (lv_at hl 0 rfl) ?_
  refine W.objInit hx hb hown (hts _ (jk_sub _ (so_in1_in (kc_at 24 rfl)))) (hts _ (jk_sub _ (so_in1_in (kc_at 1 rfl)))) (hts _ (jk_sub _ (so_in1_in (kc_at 2 rfl)))) rfl (by rw [hml]; exact hl.1) rfl kd_rd_1 (Nat.le_of_ble_eq_true rfl) (Nat.le_of_ble_eq_true rfl) ?_
  refine W.eq (g2 := F0 m 4 ls []) rfl ?_
  refine lv_aload_n hx hb kd_rd_4 rfl (lv_at hl 0 rfl) ?_
  refine lv_bipush (v := 60) hx hb kd_rd_5 (by decide) ?_
  refine kr_newa (atype := .char) (t := 3) (t0 := 2) (N := 60) (a0 := (60, .inl (fun _ => 0))) hx hb hts jk_sub rfl (kc_at 25 rfl) hK hP hD hS hA rfl (fun _ => rfl) (fun _ => rfl) (by decide) (by decide) (Nat.le_of_ble_eq_true rfl) (Nat.le_of_ble_eq_true rfl) (Nat.le_of_ble_eq_true rfl) kd_rd_7 (fun q1 H hP hD hS => ?_)
  have hP : va_P Z.2.1 so_cl ((h0, .inr (2, [.null, .null, .int 0, .null, .null, .null, .int 0, .int 0, .int 0, .int 0, .int 0])) :: [(q1, .inl (Z.2.2 3, 60, .inl (fun _ => 0)))]) H := hP
  have hD : va_D A ((h0, .inr (2, [.null, .null, .int 0, .null, .null, .null, .int 0, .int 0, .int 0, .int 0, .int 0])) :: [(q1, .inl (Z.2.2 3, 60, .inl (fun _ => 0)))]) := hD
  refine W.widen (k := 1) (n := 60) (Nat.le_of_ble_eq_true rfl) (Nat.le_of_ble_eq_true rfl) ?_
  refine kr_put (k := 3) (j := 1) (idx := 11) (v := .ref q1) hx hb hts jk_sub (by decide) (by decide) hown hin hK hP hD hS (by decide) (kc_at 26 rfl) (ty := (.array .char)) (by decide +kernel) rfl rfl (Nat.le_of_ble_eq_true rfl) kd_rd_9 (fun H locs hP hD hS => ?_)
  have hP : va_P Z.2.1 so_cl ((h0, .inr (2, [.null, .ref q1, .int 0, .null, .null, .null, .int 0, .int 0, .int 0, .int 0, .int 0])) :: [(q1, .inl (Z.2.2 3, 60, .inl (fun _ => 0)))]) H := hP
  have hD : va_D A ((h0, .inr (2, [.null, .ref q1, .int 0, .null, .null, .null, .int 0, .int 0, .int 0, .int 0, .int 0])) :: [(q1, .inl (Z.2.2 3, 60, .inl (fun _ => 0)))]) := hD
  refine lv_aload_n hx hb kd_rd_12 rfl (lv_at hl 0 rfl) ?_
  refine lv_iconst (v := 0) hx hb kd_rd_13 (by decide) ?_
  refine kr_put (k := 3) (j := 2) (idx := 15) (v := .int 0) hx hb hts jk_sub (by decide) (by decide) hown hin hK hP hD hS (by decide) (kc_at 27 rfl) (ty := .int) (by decide +kernel) rfl rfl (Nat.le_of_ble_eq_true rfl) kd_rd_14 (fun H locs hP hD hS => ?_)
  have hP : va_P Z.2.1 so_cl ((h0, .inr (2, [.null, .ref q1, .int 0, .null, .null, .null, .int 0, .int 0, .int 0, .int 0, .int 0])) :: [(q1, .inl (Z.2.2 3, 60, .inl (fun _ => 0)))]) H := hP
  have hD : va_D A ((h0, .inr (2, [.null, .ref q1, .int 0, .null, .null, .null, .int 0, .int 0, .int 0, .int 0, .int 0])) :: [(q1, .inl (Z.2.2 3, 60, .inl (fun _ => 0)))]) := hD
  refine lv_aload_n hx hb kd_rd_17 rfl (lv_at hl 0 rfl) ?_
  refine lv_bipush (v := 8) hx hb kd_rd_18 (by decide) ?_
  refine kr_newa (atype := .int) (t := 1) (t0 := 0) (N := 8) (a0 := (8, .inl (fun _ => 0))) hx hb hts jk_sub rfl (kc_at 3 rfl) hK hP hD hS hA rfl (fun _ => rfl) (fun _ => rfl) (by decide) (by decide) (Nat.le_of_ble_eq_true rfl) (Nat.le_of_ble_eq_true rfl) (Nat.le_of_ble_eq_true rfl) kd_rd_20 (fun q2 H hP hD hS => ?_)
  have hP : va_P Z.2.1 so_cl ((h0, .inr (2, [.null, .ref q1, .int 0, .null, .null, .null, .int 0, .int 0, .int 0, .int 0, .int 0])) :: [(q1, .inl (Z.2.2 3, 60, .inl (fun _ => 0))), (q2, .inl (Z.2.2 1, 8, .inl (fun _ => 0)))]) H := hP
  have hD : va_D A ((h0, .inr (2, [.null, .ref q1, .int 0, .null, .null, .null, .int 0, .int 0, .int 0, .int 0, .int 0])) :: [(q1, .inl (Z.2.2 3, 60, .inl (fun _ => 0))), (q2, .inl (Z.2.2 1, 8, .inl (fun _ => 0)))]) := hD
  refine W.widen (k := 2) (n := 68) (Nat.le_of_ble_eq_true rfl) (Nat.le_of_ble_eq_true rfl) ?_
  refine kr_put (k := 3) (j := 3) (idx := 19) (v := .ref q2) hx hb hts jk_sub (by decide) (by decide) hown hin hK hP hD hS (by decide) (kc_at 28 rfl) (ty := (.array .int)) (by decide +kernel) rfl rfl (Nat.le_of_ble_eq_true rfl) kd_rd_22 (fun H locs hP hD hS => ?_)
  have hP : va_P Z.2.1 so_cl ((h0, .inr (2, [.null, .ref q1, .int 0, .ref q2, .null, .null, .int 0, .int 0, .int 0, .int 0, .int 0])) :: [(q1, .inl (Z.2.2 3, 60, .inl (fun _ => 0))), (q2, .inl (Z.2.2 1, 8, .inl (fun _ => 0)))]) H := hP
  have hD : va_D A ((h0, .inr (2, [.null, .ref q1, .int 0, .ref q2, .null, .null, .int 0, .int 0, .int 0, .int 0, .int 0])) :: [(q1, .inl (Z.2.2 3, 60, .inl (fun _ => 0))), (q2, .inl (Z.2.2 1, 8, .inl (fun _ => 0)))]) := hD
  refine lv_aload_n hx hb kd_rd_25 rfl (lv_at hl 0 rfl) ?_
  refine lv_bipush (v := 8) hx hb kd_rd_26 (by decide) ?_
  refine kr_newa (atype := .int) (t := 1) (t0 := 0) (N := 8) (a0 := (8, .inl (fun _ => 0))) hx hb hts jk_sub rfl (kc_at 3 rfl) hK hP hD hS hA rfl (fun _ => rfl) (fun _ => rfl) (by decide) (by decide) (Nat.le_of_ble_eq_true rfl) (Nat.le_of_ble_eq_true rfl) (Nat.le_of_ble_eq_true rfl) kd_rd_28 (fun q3 H hP hD hS => ?_)
  have hP : va_P Z.2.1 so_cl ((h0, .inr (2, [.null, .ref q1, .int 0, .ref q2, .null, .null, .int 0, .int 0, .int 0, .int 0, .int 0])) :: [(q1, .inl (Z.2.2 3, 60, .inl (fun _ => 0))), (q2, .inl (Z.2.2 1, 8, .inl (fun _ => 0))), (q3, .inl (Z.2.2 1, 8, .inl (fun _ => 0)))]) H := hP
  have hD : va_D A ((h0, .inr (2, [.null, .ref q1, .int 0, .ref q2, .null, .null, .int 0, .int 0, .int 0, .int 0, .int 0])) :: [(q1, .inl (Z.2.2 3, 60, .inl (fun _ => 0))), (q2, .inl (Z.2.2 1, 8, .inl (fun _ => 0))), (q3, .inl (Z.2.2 1, 8, .inl (fun _ => 0)))]) := hD
  refine W.widen (k := 3) (n := 76) (Nat.le_of_ble_eq_true rfl) (Nat.le_of_ble_eq_true rfl) ?_
  refine kr_put (k := 3) (j := 4) (idx := 23) (v := .ref q3) hx hb hts jk_sub (by decide) (by decide) hown hin hK hP hD hS (by decide) (kc_at 29 rfl) (ty := (.array .int)) (by decide +kernel) rfl rfl (Nat.le_of_ble_eq_true rfl) kd_rd_30 (fun H locs hP hD hS => ?_)
  have hP : va_P Z.2.1 so_cl ((h0, .inr (2, [.null, .ref q1, .int 0, .ref q2, .ref q3, .null, .int 0, .int 0, .int 0, .int 0, .int 0])) :: [(q1, .inl (Z.2.2 3, 60, .inl (fun _ => 0))), (q2, .inl (Z.2.2 1, 8, .inl (fun _ => 0))), (q3, .inl (Z.2.2 1, 8, .inl (fun _ => 0)))]) H := hP
  have hD : va_D A ((h0, .inr (2, [.null, .ref q1, .int 0, .ref q2, .ref q3, .null, .int 0, .int 0, .int 0, .int 0, .int 0])) :: [(q1, .inl (Z.2.2 3, 60, .inl (fun _ => 0))), (q2, .inl (Z.2.2 1, 8, .inl (fun _ => 0))), (q3, .inl (Z.2.2 1, 8, .inl (fun _ => 0)))]) := hD
  refine lv_aload_n hx hb kd_rd_33 rfl (lv_at hl 0 rfl) ?_
  refine lv_bipush (v := 8) hx hb kd_rd_34 (by decide) ?_
  refine kr_newa (atype := .int) (t := 1) (t0 := 0) (N := 8) (a0 := (8, .inl (fun _ => 0))) hx hb hts jk_sub rfl (kc_at 3 rfl) hK hP hD hS hA rfl (fun _ => rfl) (fun _ => rfl) (by decide) (by decide) (Nat.le_of_ble_eq_true rfl) (Nat.le_of_ble_eq_true rfl) (Nat.le_of_ble_eq_true rfl) kd_rd_36 (fun q4 H hP hD hS => ?_)
  have hP : va_P Z.2.1 so_cl ((h0, .inr (2, [.null, .ref q1, .int 0, .ref q2, .ref q3, .null, .int 0, .int 0, .int 0, .int 0, .int 0])) :: [(q1, .inl (Z.2.2 3, 60, .inl (fun _ => 0))), (q2, .inl (Z.2.2 1, 8, .inl (fun _ => 0))), (q3, .inl (Z.2.2 1, 8, .inl (fun _ => 0))), (q4, .inl (Z.2.2 1, 8, .inl (fun _ => 0)))]) H := hP
  have hD : va_D A ((h0, .inr (2, [.null, .ref q1, .int 0, .ref q2, .ref q3, .null, .int 0, .int 0, .int 0, .int 0, .int 0])) :: [(q1, .inl (Z.2.2 3, 60, .inl (fun _ => 0))), (q2, .inl (Z.2.2 1, 8, .inl (fun _ => 0))), (q3, .inl (Z.2.2 1, 8, .inl (fun _ => 0))), (q4, .inl (Z.2.2 1, 8, .inl (fun _ => 0)))]) := hD
  refine W.widen (k := 4) (n := 84) (Nat.le_of_ble_eq_true rfl) (Nat.le_of_ble_eq_true rfl) ?_
  refine kr_put (k := 3) (j := 5) (idx := 26) (v := .ref q4) hx hb hts jk_sub (by decide) (by decide) hown hin hK hP hD hS (by decide) (kc_at 30 rfl) (ty := (.array .int)) (by decide +kernel) rfl rfl (Nat.le_of_ble_eq_true rfl) kd_rd_38 (fun H locs hP hD hS => ?_)
  have hP : va_P Z.2.1 so_cl ((h0, .inr (2, [.null, .ref q1, .int 0, .ref q2, .ref q3, .ref q4, .int 0, .int 0, .int 0, .int 0, .int 0])) :: [(q1, .inl (Z.2.2 3, 60, .inl (fun _ => 0))), (q2, .inl (Z.2.2 1, 8, .inl (fun _ => 0))), (q3, .inl (Z.2.2 1, 8, .inl (fun _ => 0))), (q4, .inl (Z.2.2 1, 8, .inl (fun _ => 0)))]) H := hP
  have hD : va_D A ((h0, .inr (2, [.null, .ref q1, .int 0, .ref q2, .ref q3, .ref q4, .int 0, .int 0, .int 0, .int 0, .int 0])) :: [(q1, .inl (Z.2.2 3, 60, .inl (fun _ => 0))), (q2, .inl (Z.2.2 1, 8, .inl (fun _ => 0))), (q3, .inl (Z.2.2 1, 8, .inl (fun _ => 0))), (q4, .inl (Z.2.2 1, 8, .inl (fun _ => 0)))]) := hD
  refine lv_aload_n hx hb kd_rd_41 rfl (lv_at hl 0 rfl) ?_
  refine lv_iconst (v := 0) hx hb kd_rd_42 (by decide) ?_
  refine kr_put (k := 3) (j := 6) (idx := 29) (v := .int 0) hx hb hts jk_sub (by decide) (by decide) hown hin hK hP hD hS (by decide) (kc_at 31 rfl) (ty := .int) (by decide +kernel) rfl rfl (Nat.le_of_ble_eq_true rfl) kd_rd_43 (fun H locs hP hD hS => ?_)
  have hP : va_P Z.2.1 so_cl ((h0, .inr (2, [.null, .ref q1, .int 0, .ref q2, .ref q3, .ref q4, .int 0, .int 0, .int 0, .int 0, .int 0])) :: [(q1, .inl (Z.2.2 3, 60, .inl (fun _ => 0))), (q2, .inl (Z.2.2 1, 8, .inl (fun _ => 0))), (q3, .inl (Z.2.2 1, 8, .inl (fun _ => 0))), (q4, .inl (Z.2.2 1, 8, .inl (fun _ => 0)))]) H := hP
  have hD : va_D A ((h0, .inr (2, [.null, .ref q1, .int 0, .ref q2, .ref q3, .ref q4, .int 0, .int 0, .int 0, .int 0, .int 0])) :: [(q1, .inl (Z.2.2 3, 60, .inl (fun _ => 0))), (q2, .inl (Z.2.2 1, 8, .inl (fun _ => 0))), (q3, .inl (Z.2.2 1, 8, .inl (fun _ => 0))), (q4, .inl (Z.2.2 1, 8, .inl (fun _ => 0)))]) := hD
  refine lv_aload_n hx hb kd_rd_46 rfl (lv_at hl 0 rfl) ?_
  refine lv_iconst (v := 0) hx hb kd_rd_47 (by decide) ?_
  refine kr_put (k := 3) (j := 7) (idx := 32) (v := .int 0) hx hb hts jk_sub (by decide) (by decide) hown hin hK hP hD hS (by decide) (kc_at 32 rfl) (ty := .int) (by decide +kernel) rfl rfl (Nat.le_of_ble_eq_true rfl) kd_rd_48 (fun H locs hP hD hS => ?_)
  have hP : va_P Z.2.1 so_cl ((h0, .inr (2, [.null, .ref q1, .int 0, .ref q2, .ref q3, .ref q4, .int 0, .int 0, .int 0, .int 0, .int 0])) :: [(q1, .inl (Z.2.2 3, 60, .inl (fun _ => 0))), (q2, .inl (Z.2.2 1, 8, .inl (fun _ => 0))), (q3, .inl (Z.2.2 1, 8, .inl (fun _ => 0))), (q4, .inl (Z.2.2 1, 8, .inl (fun _ => 0)))]) H := hP
  have hD : va_D A ((h0, .inr (2, [.null, .ref q1, .int 0, .ref q2, .ref q3, .ref q4, .int 0, .int 0, .int 0, .int 0, .int 0])) :: [(q1, .inl (Z.2.2 3, 60, .inl (fun _ => 0))), (q2, .inl (Z.2.2 1, 8, .inl (fun _ => 0))), (q3, .inl (Z.2.2 1, 8, .inl (fun _ => 0))), (q4, .inl (Z.2.2 1, 8, .inl (fun _ => 0)))]) := hD
  refine lv_aload_n hx hb kd_rd_51 rfl (lv_at hl 0 rfl) ?_
  refine lv_iconst (v := 0) hx hb kd_rd_52 (by decide) ?_
  refine kr_put (k := 3) (j := 8) (idx := 35) (v := .int 0) hx hb hts jk_sub (by decide) (by decide) hown hin hK hP hD hS (by decide) (kc_at 33 rfl) (ty := .int) (by decide +kernel) rfl rfl (Nat.le_of_ble_eq_true rfl) kd_rd_53 (fun H locs hP hD hS => ?_)
  have hP : va_P Z.2.1 so_cl ((h0, .inr (2, [.null, .ref q1, .int 0, .ref q2, .ref q3, .ref q4, .int 0, .int 0, .int 0, .int 0, .int 0])) :: [(q1, .inl (Z.2.2 3, 60, .inl (fun _ => 0))), (q2, .inl (Z.2.2 1, 8, .inl (fun _ => 0))), (q3, .inl (Z.2.2 1, 8, .inl (fun _ => 0))), (q4, .inl (Z.2.2 1, 8, .inl (fun _ => 0)))]) H := hP
  have hD : va_D A ((h0, .inr (2, [.null, .ref q1, .int 0, .ref q2, .ref q3, .ref q4, .int 0, .int 0, .int 0, .int 0, .int 0])) :: [(q1, .inl (Z.2.2 3, 60, .inl (fun _ => 0))), (q2, .inl (Z.2.2 1, 8, .inl (fun _ => 0))), (q3, .inl (Z.2.2 1, 8, .inl (fun _ => 0))), (q4, .inl (Z.2.2 1, 8, .inl (fun _ => 0)))]) := hD
  refine lv_aload_n hx hb kd_rd_56 rfl (lv_at hl 0 rfl) ?_
  refine lv_iconst (v := 0) hx hb kd_rd_57 (by decide) ?_
  refine kr_put (k := 3) (j := 9) (idx := 38) (v := .int 0) hx hb hts jk_sub (by decide) (by decide) hown hin hK hP hD hS (by decide) (kc_at 34 rfl) (ty := .boolean) (by decide +kernel) rfl rfl (Nat.le_of_ble_eq_true rfl) kd_rd_58 (fun H locs hP hD hS => ?_)
  have hP : va_P Z.2.1 so_cl ((h0, .inr (2, [.null, .ref q1, .int 0, .ref q2, .ref q3, .ref q4, .int 0, .int 0, .int 0, .int 0, .int 0])) :: [(q1, .inl (Z.2.2 3, 60, .inl (fun _ => 0))), (q2, .inl (Z.2.2 1, 8, .inl (fun _ => 0))), (q3, .inl (Z.2.2 1, 8, .inl (fun _ => 0))), (q4, .inl (Z.2.2 1, 8, .inl (fun _ => 0)))]) H := hP
  have hD : va_D A ((h0, .inr (2, [.null, .ref q1, .int 0, .ref q2, .ref q3, .ref q4, .int 0, .int 0, .int 0, .int 0, .int 0])) :: [(q1, .inl (Z.2.2 3, 60, .inl (fun _ => 0))), (q2, .inl (Z.2.2 1, 8, .inl (fun _ => 0))), (q3, .inl (Z.2.2 1, 8, .inl (fun _ => 0))), (q4, .inl (Z.2.2 1, 8, .inl (fun _ => 0)))]) := hD
  refine lv_aload_n hx hb kd_rd_61 rfl (lv_at hl 0 rfl) ?_
  refine lv_iconst (v := 0) hx hb kd_rd_62 (by decide) ?_
  refine kr_put (k := 3) (j := 10) (idx := 42) (v := .int 0) hx hb hts jk_sub (by decide) (by decide) hown hin hK hP hD hS (by decide) (kc_at 35 rfl) (ty := .boolean) (by decide +kernel) rfl rfl (Nat.le_of_ble_eq_true rfl) kd_rd_63 (fun H locs hP hD hS => ?_)
  have hP : va_P Z.2.1 so_cl ((h0, .inr (2, [.null, .ref q1, .int 0, .ref q2, .ref q3, .ref q4, .int 0, .int 0, .int 0, .int 0, .int 0])) :: [(q1, .inl (Z.2.2 3, 60, .inl (fun _ => 0))), (q2, .inl (Z.2.2 1, 8, .inl (fun _ => 0))), (q3, .inl (Z.2.2 1, 8, .inl (fun _ => 0))), (q4, .inl (Z.2.2 1, 8, .inl (fun _ => 0)))]) H := hP
  have hD : va_D A ((h0, .inr (2, [.null, .ref q1, .int 0, .ref q2, .ref q3, .ref q4, .int 0, .int 0, .int 0, .int 0, .int 0])) :: [(q1, .inl (Z.2.2 3, 60, .inl (fun _ => 0))), (q2, .inl (Z.2.2 1, 8, .inl (fun _ => 0))), (q3, .inl (Z.2.2 1, 8, .inl (fun _ => 0))), (q4, .inl (Z.2.2 1, 8, .inl (fun _ => 0)))]) := hD
  refine lv_aload_n hx hb kd_rd_66 rfl (lv_at hl 0 rfl) ?_
  refine lv_aload_n hx hb kd_rd_67 rfl (lv_at hl 1 rfl) ?_
  refine kr_put (k := 3) (j := 0) (idx := 45) (v := .ref tb) hx hb hts jk_sub (by decide) (by decide) hown hin hK hP hD hS (by decide) (kc_at 36 rfl) (ty := (.object "ProofWorkbench$FormulaTable")) (by decide +kernel) rfl rfl (Nat.le_of_ble_eq_true rfl) kd_rd_68 (fun H locs hP hD hS => ?_)
  have hP : va_P Z.2.1 so_cl ((h0, .inr (2, [.ref tb, .ref q1, .int 0, .ref q2, .ref q3, .ref q4, .int 0, .int 0, .int 0, .int 0, .int 0])) :: [(q1, .inl (Z.2.2 3, 60, .inl (fun _ => 0))), (q2, .inl (Z.2.2 1, 8, .inl (fun _ => 0))), (q3, .inl (Z.2.2 1, 8, .inl (fun _ => 0))), (q4, .inl (Z.2.2 1, 8, .inl (fun _ => 0)))]) H := hP
  have hD : va_D A ((h0, .inr (2, [.ref tb, .ref q1, .int 0, .ref q2, .ref q3, .ref q4, .int 0, .int 0, .int 0, .int 0, .int 0])) :: [(q1, .inl (Z.2.2 3, 60, .inl (fun _ => 0))), (q2, .inl (Z.2.2 1, 8, .inl (fun _ => 0))), (q3, .inl (Z.2.2 1, 8, .inl (fun _ => 0))), (q4, .inl (Z.2.2 1, 8, .inl (fun _ => 0)))]) := hD
  exact W.vret hx hb hr (fun t ht hW => ⟨⟨(h0, .inr (2, [.ref tb, .ref q1, .int 0, .ref q2, .ref q3, .ref q4, .int 0, .int 0, .int 0, .int 0, .int 0])) :: [(q1, .inl (Z.2.2 3, 60, .inl (fun _ => 0))), (q2, .inl (Z.2.2 1, 8, .inl (fun _ => 0))), (q3, .inl (Z.2.2 1, 8, .inl (fun _ => 0))), (q4, .inl (Z.2.2 1, 8, .inl (fun _ => 0)))], rfl, ⟨q1, q2, q3, q4, rfl⟩, by rw [ht]; exact hP, hD⟩, hS.F ht⟩) hS.2.2 kd_rd_71
set_option maxHeartbeats 8000000 in
set_option maxRecDepth 100000 in
theorem kc_wr (l : Launch) (Z : so_Z) (tb : Nat) : KC l Z ky_wr kw_wr ({ frames := 1, cells := 1, slots := 37, locals := 20 }) 1 37 [.ref tb] (.inr (3, [.null, .null, .int 0])) (fun q w => ∃ a : Nat, w = [(q, .inr (3, [.ref tb, .ref a, .int 0])), (a, .inl (Z.2.2 3, 37, .inl (fun _ => 0)))]) := by
  intro h0 sz
  refine Met.ofW (cc := prog_10_method_1_code) (maxL := 2) (ret := none) (by decide) rfl ?_
  intro p e s m args below meth c s₁ B hml hv
  obtain ⟨rfl, hsz, hP, hD0, hG⟩ := hv
  have hx := B.exec
  have hb := B.bytes
  have hr := B.returns
  have hts := atoms_spec (ws := kw_wr) B.pre
  have hown : s.vm.findClass (sR 4) = some m.cls := findClass_of_methodNamed B.named
  have hlocks := B.notSynchronized
  have hin : meth.name = "<init>" := (name_of_methodNamed B.named B.method).1
  subst hsz
  have hD := hD0.self (sz := s.heap.size)
  unfold kc_B
  generalize hAe : va_A [(h0, .inr (3, [.null, .null, .int 0]))] s.heap.size = A at hD ⊢
  have hA : ∀ q : Nat, s.heap.size ≤ q → A q := fun q h => by rw [← hAe]; exact Or.inr h
  have hS : va_S A s.heap s.heap [] := va_S.rf
  have hK := hG.1
  have hP : va_P Z.2.1 so_cl [(h0, .inr (3, [.null, .null, .int 0]))] s.heap := hP
  have hl := lv_entry ([.ref h0, .ref tb]) (n := 2) (Nat.le_of_ble_eq_true rfl)
  rw [lg_entry_eq]
  generalize (lg_sl ([.ref h0, .ref tb]) ++ List.replicate (2 - (lg_sl ([.ref h0, .ref tb])).length) Slot.unset).toArray = ls at hl ⊢
  have hl : lv_has ls 2 [(0, .ref h0), (1, .ref tb)] := hl
  refine lv_aload_n hx hb kd_wr_0 rfl (lv_at hl 0 rfl) ?_
  refine W.objInit hx hb hown (hts _ (jk_sub _ (so_in1_in (kc_at 37 rfl)))) (hts _ (jk_sub _ (so_in1_in (kc_at 1 rfl)))) (hts _ (jk_sub _ (so_in1_in (kc_at 2 rfl)))) rfl (by rw [hml]; exact hl.1) rfl kd_wr_1 (Nat.le_of_ble_eq_true rfl) (Nat.le_of_ble_eq_true rfl) ?_
  refine W.eq (g2 := F0 m 4 ls []) rfl ?_
  refine lv_aload_n hx hb kd_wr_4 rfl (lv_at hl 0 rfl) ?_
  refine lv_bipush (v := 37) hx hb kd_wr_5 (by decide) ?_
  refine kr_newa (atype := .char) (t := 3) (t0 := 2) (N := 37) (a0 := (37, .inl (fun _ => 0))) hx hb hts jk_sub rfl (kc_at 25 rfl) hK hP hD hS hA rfl (fun _ => rfl) (fun _ => rfl) (by decide) (by decide) (Nat.le_of_ble_eq_true rfl) (Nat.le_of_ble_eq_true rfl) (Nat.le_of_ble_eq_true rfl) kd_wr_7 (fun q1 H hP hD hS => ?_)
  have hP : va_P Z.2.1 so_cl ((h0, .inr (3, [.null, .null, .int 0])) :: [(q1, .inl (Z.2.2 3, 37, .inl (fun _ => 0)))]) H := hP
  have hD : va_D A ((h0, .inr (3, [.null, .null, .int 0])) :: [(q1, .inl (Z.2.2 3, 37, .inl (fun _ => 0)))]) := hD
  refine W.widen (k := 1) (n := 37) (Nat.le_of_ble_eq_true rfl) (Nat.le_of_ble_eq_true rfl) ?_
  refine kr_put (k := 4) (j := 1) (idx := 11) (v := .ref q1) hx hb hts jk_sub (by decide) (by decide) hown hin hK hP hD hS (by decide) (kc_at 38 rfl) (ty := (.array .char)) (by decide +kernel) rfl rfl (Nat.le_of_ble_eq_true rfl) kd_wr_9 (fun H locs hP hD hS => ?_)
  have hP : va_P Z.2.1 so_cl ((h0, .inr (3, [.null, .ref q1, .int 0])) :: [(q1, .inl (Z.2.2 3, 37, .inl (fun _ => 0)))]) H := hP
  have hD : va_D A ((h0, .inr (3, [.null, .ref q1, .int 0])) :: [(q1, .inl (Z.2.2 3, 37, .inl (fun _ => 0)))]) := hD
  refine lv_aload_n hx hb kd_wr_12 rfl (lv_at hl 0 rfl) ?_
  refine lv_iconst (v := 0) hx hb kd_wr_13 (by decide) ?_
  refine kr_put (k := 4) (j := 2) (idx := 15) (v := .int 0) hx hb hts jk_sub (by decide) (by decide) hown hin hK hP hD hS (by decide) (kc_at 39 rfl) (ty := .int) (by decide +kernel) rfl rfl (Nat.le_of_ble_eq_true rfl) kd_wr_14 (fun H locs hP hD hS => ?_)
  have hP : va_P Z.2.1 so_cl ((h0, .inr (3, [.null, .ref q1, .int 0])) :: [(q1, .inl (Z.2.2 3, 37, .inl (fun _ => 0)))]) H := hP
  have hD : va_D A ((h0, .inr (3, [.null, .ref q1, .int 0])) :: [(q1, .inl (Z.2.2 3, 37, .inl (fun _ => 0)))]) := hD
  refine lv_aload_n hx hb kd_wr_17 rfl (lv_at hl 0 rfl) ?_
  refine lv_aload_n hx hb kd_wr_18 rfl (lv_at hl 1 rfl) ?_
  refine kr_put (k := 4) (j := 0) (idx := 19) (v := .ref tb) hx hb hts jk_sub (by decide) (by decide) hown hin hK hP hD hS (by decide) (kc_at 40 rfl) (ty := (.object "ProofWorkbench$FormulaTable")) (by decide +kernel) rfl rfl (Nat.le_of_ble_eq_true rfl) kd_wr_19 (fun H locs hP hD hS => ?_)
  have hP : va_P Z.2.1 so_cl ((h0, .inr (3, [.ref tb, .ref q1, .int 0])) :: [(q1, .inl (Z.2.2 3, 37, .inl (fun _ => 0)))]) H := hP
  have hD : va_D A ((h0, .inr (3, [.ref tb, .ref q1, .int 0])) :: [(q1, .inl (Z.2.2 3, 37, .inl (fun _ => 0)))]) := hD
  exact W.vret hx hb hr (fun t ht hW => ⟨⟨(h0, .inr (3, [.ref tb, .ref q1, .int 0])) :: [(q1, .inl (Z.2.2 3, 37, .inl (fun _ => 0)))], rfl, ⟨q1, rfl⟩, by rw [ht]; exact hP, hD⟩, hS.F ht⟩) hS.2.2 kd_wr_22
set_option maxHeartbeats 8000000 in
set_option maxRecDepth 100000 in
theorem kc_fi (l : Launch) (Z : so_Z) (tb : Nat) (pf : Nat) : KC l Z ky_fi kw_fi ({ frames := 2, cells := 2, slots := 1025, locals := 60 }) 2 1025 [.ref tb, .ref pf] (.inr (7, [.null, .null, .null])) (fun q w => ∃ b a : Nat, w = [(q, .inr (7, [.ref tb, .ref pf, .ref b])), (b, .inr (8, [.ref a])), (a, .inl (Z.2.2 4, 1024, .inr (.inl (fun _ => 0))))]) := by
  intro h0 sz
  refine Met.ofW (cc := prog_2_method_1_code) (maxL := 3) (ret := none) (by decide) rfl ?_
  intro p e s m args below meth c s₁ B hml hv
  obtain ⟨rfl, hsz, hP, hD0, hG⟩ := hv
  have hx := B.exec
  have hb := B.bytes
  have hr := B.returns
  have hts := atoms_spec (ws := kw_fi) B.pre
  have hown : s.vm.findClass (sR 8) = some m.cls := findClass_of_methodNamed B.named
  have hlocks := B.notSynchronized
  have hin : meth.name = "<init>" := (name_of_methodNamed B.named B.method).1
  subst hsz
  have hD := hD0.self (sz := s.heap.size)
  unfold kc_B
  generalize hAe : va_A [(h0, .inr (7, [.null, .null, .null]))] s.heap.size = A at hD ⊢
  have hA : ∀ q : Nat, s.heap.size ≤ q → A q := fun q h => by rw [← hAe]; exact Or.inr h
  have hS : va_S A s.heap s.heap [] := va_S.rf
  have hK := hG.1
  have hP : va_P Z.2.1 so_cl [(h0, .inr (7, [.null, .null, .null]))] s.heap := hP
  have hl := lv_entry ([.ref h0, .ref tb, .ref pf]) (n := 3) (Nat.le_of_ble_eq_true rfl)
  rw [lg_entry_eq]
  generalize (lg_sl ([.ref h0, .ref tb, .ref pf]) ++ List.replicate (3 - (lg_sl ([.ref h0, .ref tb, .ref pf])).length) Slot.unset).toArray = ls at hl ⊢
  have hl : lv_has ls 3 [(0, .ref h0), (1, .ref tb), (2, .ref pf)] := hl
  refine lv_aload_n hx hb kd_fi_0 rfl (lv_at hl 0 rfl) ?_
  refine W.objInit hx hb hown (hts _ (jk_sub _ (so_in1_in (kc_at 41 rfl)))) (hts _ (jk_sub _ (so_in1_in (kc_at 1 rfl)))) (hts _ (jk_sub _ (so_in1_in (kc_at 2 rfl)))) rfl (by rw [hml]; exact hl.1) rfl kd_fi_1 (Nat.le_of_ble_eq_true rfl) (Nat.le_of_ble_eq_true rfl) ?_
  refine W.eq (g2 := F0 m 4 ls []) rfl ?_
  refine lv_aload_n hx hb kd_fi_4 rfl (lv_at hl 0 rfl) ?_
  refine kr_new (k := 8) (k' := 9) (idx := 9) (N := 1) (fs' := [.null]) hx hb hts jk_sub (by decide) (by decide) hown hK hP hD hS hA (kc_at 42 rfl) (kc_at 43 rfl) rfl (by decide +kernel) (Nat.le_of_ble_eq_true rfl) (Nat.le_of_ble_eq_true rfl) kd_fi_5 (fun q1 H hP hD hS => ?_)
  have hP : va_P Z.2.1 so_cl (((h0, .inr (7, [.null, .null, .null])) :: []) ++ [(q1, .inr (8, [.null]))]) H := hP
  have hD : va_D A (((h0, .inr (7, [.null, .null, .null])) :: []) ++ [(q1, .inr (8, [.null]))]) := hD
  refine W.widen (k := 1) (n := 1) (Nat.le_of_ble_eq_true rfl) (Nat.le_of_ble_eq_true rfl) ?_
  refine lv_dup hx hb kd_fi_8 rfl ?_
  refine kr_call (post := fun q w => ∃ a : Nat, w = [(q, .inr (8, [.ref a])), (a, .inl (Z.2.2 4, 1024, .inr (.inl (fun _ => 0))))]) (e0 := .inr (8, [.null])) (mc := 1) (ms := 1024) (q := q1) (X := (h0, .inr (7, [.null, .null, .null])) :: []) (va_runIN (rm := ({ frames := 1, cells := 1, slots := 1024, locals := 20 })) (mc := 1) (ms := 1024) (As := []) (rest := [.ref q1, .ref h0]) ⟨hx, hb, hml, hown, hts⟩ (kc_ho l Z q1 H.size) ⟨va_cnB 0 hts (jk_good jk_sub (kc_at 44 rfl)) rfl rfl rfl (hG.2.1 (.methodLinkNest (sR 8) 11 ky_ho "ProofWorkbench") (by decide)) (hts _ (jk_sub _ (so_f8 9 (by decide)))) ⟨by decide, by decide, by decide +kernel⟩ ⟨Nat.le_of_ble_eq_true rfl, Nat.le_of_ble_eq_true rfl⟩, rfl, hts _ (jk_sub _ (so_in1_in (kc_at 45 rfl)))⟩ (kc_preS (X := (h0, .inr (7, [.null, .null, .null])) :: []) (A := A) hG hP) rfl rfl hl.1 rfl (lv_room (Nat.le_of_ble_eq_true rfl)) kd_fi_9 ⟨Nat.le_of_ble_eq_true rfl, Nat.le_of_ble_eq_true rfl⟩) hP hD hS hA (fun w H locs hw hP hD hS => ?_)
  obtain ⟨q2, rfl⟩ := hw
  have hP : va_P Z.2.1 so_cl ((h0, .inr (7, [.null, .null, .null])) :: [(q1, .inr (8, [.ref q2])), (q2, .inl (Z.2.2 4, 1024, .inr (.inl (fun _ => 0))))]) H := hP
  have hD : va_D A ((h0, .inr (7, [.null, .null, .null])) :: [(q1, .inr (8, [.ref q2])), (q2, .inl (Z.2.2 4, 1024, .inr (.inl (fun _ => 0))))]) := hD
  refine W.widen (k := 2) (n := 1025) (Nat.le_of_ble_eq_true rfl) (Nat.le_of_ble_eq_true rfl) ?_
  refine kr_put (k := 8) (j := 2) (idx := 12) (v := .ref q1) hx hb hts jk_sub (by decide) (by decide) hown hin hK hP hD hS (by decide) (kc_at 46 rfl) (ty := (.object "ProofWorkbench$Hopeless")) (by decide +kernel) rfl rfl (Nat.le_of_ble_eq_true rfl) kd_fi_12 (fun H locs hP hD hS => ?_)
  have hP : va_P Z.2.1 so_cl ((h0, .inr (7, [.null, .null, .ref q1])) :: [(q1, .inr (8, [.ref q2])), (q2, .inl (Z.2.2 4, 1024, .inr (.inl (fun _ => 0))))]) H := hP
  have hD : va_D A ((h0, .inr (7, [.null, .null, .ref q1])) :: [(q1, .inr (8, [.ref q2])), (q2, .inl (Z.2.2 4, 1024, .inr (.inl (fun _ => 0))))]) := hD
  refine lv_aload_n hx hb kd_fi_15 rfl (lv_at hl 0 rfl) ?_
  refine lv_aload_n hx hb kd_fi_16 rfl (lv_at hl 1 rfl) ?_
  refine kr_put (k := 8) (j := 0) (idx := 18) (v := .ref tb) hx hb hts jk_sub (by decide) (by decide) hown hin hK hP hD hS (by decide) (kc_at 47 rfl) (ty := (.object "ProofWorkbench$FormulaTable")) (by decide +kernel) rfl rfl (Nat.le_of_ble_eq_true rfl) kd_fi_17 (fun H locs hP hD hS => ?_)
  have hP : va_P Z.2.1 so_cl ((h0, .inr (7, [.ref tb, .null, .ref q1])) :: [(q1, .inr (8, [.ref q2])), (q2, .inl (Z.2.2 4, 1024, .inr (.inl (fun _ => 0))))]) H := hP
  have hD : va_D A ((h0, .inr (7, [.ref tb, .null, .ref q1])) :: [(q1, .inr (8, [.ref q2])), (q2, .inl (Z.2.2 4, 1024, .inr (.inl (fun _ => 0))))]) := hD
  refine lv_aload_n hx hb kd_fi_20 rfl (lv_at hl 0 rfl) ?_
  refine lv_aload_n hx hb kd_fi_21 rfl (lv_at hl 2 rfl) ?_
  refine kr_put (k := 8) (j := 1) (idx := 22) (v := .ref pf) hx hb hts jk_sub (by decide) (by decide) hown hin hK hP hD hS (by decide) (kc_at 48 rfl) (ty := (.object "ProofWorkbench$Proof")) (by decide +kernel) rfl rfl (Nat.le_of_ble_eq_true rfl) kd_fi_22 (fun H locs hP hD hS => ?_)
  have hP : va_P Z.2.1 so_cl ((h0, .inr (7, [.ref tb, .ref pf, .ref q1])) :: [(q1, .inr (8, [.ref q2])), (q2, .inl (Z.2.2 4, 1024, .inr (.inl (fun _ => 0))))]) H := hP
  have hD : va_D A ((h0, .inr (7, [.ref tb, .ref pf, .ref q1])) :: [(q1, .inr (8, [.ref q2])), (q2, .inl (Z.2.2 4, 1024, .inr (.inl (fun _ => 0))))]) := hD
  exact W.vret hx hb hr (fun t ht hW => ⟨⟨(h0, .inr (7, [.ref tb, .ref pf, .ref q1])) :: [(q1, .inr (8, [.ref q2])), (q2, .inl (Z.2.2 4, 1024, .inr (.inl (fun _ => 0))))], rfl, ⟨q1, q2, rfl⟩, by rw [ht]; exact hP, hD⟩, hS.F ht⟩) hS.2.2 kd_fi_25
