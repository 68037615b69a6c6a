/-! String.charAt and String.indexOf on the two texts, walked (written by our program) -/
def jk_ws (y : MethodName) (b : ByteArray) (n : Nat) (r : Option FieldType) : List Cond := .code y b n r :: so_tb
theorem jk_good {y : MethodName} {b : ByteArray} {n : Nat} {r : Option FieldType} {Ts : List Cond} (hT : ∀ w ∈ so_tb, w ∈ Ts) (h : so_in1 (.code y b n r) = true) : GoodIn Ts (jk_ws y b n r) := by
  intro w hw
  have h1 : w ∈ so_tb := by
    rcases List.mem_cons.mp hw with rfl | hw
    · exact so_in1_in h
    · exact hw
  exact ⟨hT w h1, good_of_word (so_tb_good h1)⟩
theorem jk_sub {w0 : Cond} : ∀ w ∈ so_tb, w ∈ w0 :: so_tb := fun _ h => List.mem_cons_of_mem _ h
def jy_isl : MethodName := ⟨"java/lang/String", "isLatin1", "()Z"⟩
abbrev jw_isl : List Cond := jk_ws jy_isl prog_20_method_154_code 1 (some .boolean)
theorem jd_isl_0 : decode prog_20_method_154_code 0 = .ok (.getstatic 38, 3) := by decide +kernel
theorem jd_isl_3 : decode prog_20_method_154_code 3 = .ok (.ifCond .eq 14, 3) := by decide +kernel
theorem jd_isl_6 : decode prog_20_method_154_code 6 = .ok (.aload_n 0, 1) := by decide +kernel
theorem jd_isl_7 : decode prog_20_method_154_code 7 = .ok (.getfield 15, 3) := by decide +kernel
theorem jd_isl_10 : decode prog_20_method_154_code 10 = .ok (.ifCond .ne 7, 3) := by decide +kernel
theorem jd_isl_13 : decode prog_20_method_154_code 13 = .ok (.iconst 1, 1) := by decide +kernel
theorem jd_isl_14 : decode prog_20_method_154_code 14 = .ok (.goto 4, 3) := by decide +kernel
theorem jd_isl_18 : decode prog_20_method_154_code 18 = .ok (.ireturn, 1) := by decide +kernel
def jy_cod : MethodName := ⟨"java/lang/String", "coder", "()B"⟩
abbrev jw_cod : List Cond := jk_ws jy_cod prog_20_method_152_code 1 (some .byte)
theorem jd_cod_0 : decode prog_20_method_152_code 0 = .ok (.getstatic 38, 3) := by decide +kernel
theorem jd_cod_3 : decode prog_20_method_152_code 3 = .ok (.ifCond .eq 10, 3) := by decide +kernel
theorem jd_cod_6 : decode prog_20_method_152_code 6 = .ok (.aload_n 0, 1) := by decide +kernel
theorem jd_cod_7 : decode prog_20_method_152_code 7 = .ok (.getfield 15, 3) := by decide +kernel
theorem jd_cod_10 : decode prog_20_method_152_code 10 = .ok (.goto 4, 3) := by decide +kernel
theorem jd_cod_14 : decode prog_20_method_152_code 14 = .ok (.ireturn, 1) := by decide +kernel
def jy_len : MethodName := ⟨"java/lang/String", "length", "()I"⟩
abbrev jw_len : List Cond := jk_ws jy_len prog_20_method_54_code 1 (some .int)
theorem jd_len_0 : decode prog_20_method_54_code 0 = .ok (.aload_n 0, 1) := by decide +kernel
theorem jd_len_1 : decode prog_20_method_54_code 1 = .ok (.getfield 9, 3) := by decide +kernel
theorem jd_len_4 : decode prog_20_method_54_code 4 = .ok (.arraylength, 1) := by decide +kernel
theorem jd_len_5 : decode prog_20_method_54_code 5 = .ok (.aload_n 0, 1) := by decide +kernel
theorem jd_len_6 : decode prog_20_method_54_code 6 = .ok (.invokevirtual 335, 3) := by decide +kernel
theorem jd_len_9 : decode prog_20_method_54_code 9 = .ok (.ishr, 1) := by decide +kernel
theorem jd_len_10 : decode prog_20_method_54_code 10 = .ok (.ireturn, 1) := by decide +kernel
def jy_can : MethodName := ⟨"java/lang/StringLatin1", "canEncode", "(I)Z"⟩
abbrev jw_can : List Cond := jk_ws jy_can prog_21_method_4_code 1 (some .boolean)
theorem jd_can_0 : decode prog_21_method_4_code 0 = .ok (.iload_n 0, 1) := by decide +kernel
theorem jd_can_1 : decode prog_21_method_4_code 1 = .ok (.ifCond .lt 14, 3) := by decide +kernel
theorem jd_can_4 : decode prog_21_method_4_code 4 = .ok (.iload_n 0, 1) := by decide +kernel
theorem jd_can_5 : decode prog_21_method_4_code 5 = .ok (.sipush 255, 3) := by decide +kernel
theorem jd_can_8 : decode prog_21_method_4_code 8 = .ok (.if_icmp .gt 7, 3) := by decide +kernel
theorem jd_can_11 : decode prog_21_method_4_code 11 = .ok (.iconst 1, 1) := by decide +kernel
theorem jd_can_12 : decode prog_21_method_4_code 12 = .ok (.goto 4, 3) := by decide +kernel
theorem jd_can_15 : decode prog_21_method_4_code 15 = .ok (.iconst 0, 1) := by decide +kernel
theorem jd_can_16 : decode prog_21_method_4_code 16 = .ok (.ireturn, 1) := by decide +kernel
def jy_ioc : MethodName := ⟨"java/lang/StringLatin1", "indexOfChar", "([BIII)I"⟩
abbrev jw_ioc : List Cond := jk_ws jy_ioc prog_21_method_23_code 6 (some .int)
theorem jd_ioc_0 : decode prog_21_method_23_code 0 = .ok (.iload_n 1, 1) := by decide +kernel
theorem jd_ioc_1 : decode prog_21_method_23_code 1 = .ok (.i2b, 1) := by decide +kernel
theorem jd_ioc_2 : decode prog_21_method_23_code 2 = .ok (.istore 4, 2) := by decide +kernel
theorem jd_ioc_4 : decode prog_21_method_23_code 4 = .ok (.iload_n 2, 1) := by decide +kernel
theorem jd_ioc_5 : decode prog_21_method_23_code 5 = .ok (.istore 5, 2) := by decide +kernel
theorem jd_ioc_7 : decode prog_21_method_23_code 7 = .ok (.iload 5, 2) := by decide +kernel
theorem jd_ioc_9 : decode prog_21_method_23_code 9 = .ok (.iload_n 3, 1) := by decide +kernel
theorem jd_ioc_10 : decode prog_21_method_23_code 10 = .ok (.if_icmp .ge 21, 3) := by decide +kernel
theorem jd_ioc_13 : decode prog_21_method_23_code 13 = .ok (.aload_n 0, 1) := by decide +kernel
theorem jd_ioc_14 : decode prog_21_method_23_code 14 = .ok (.iload 5, 2) := by decide +kernel
theorem jd_ioc_16 : decode prog_21_method_23_code 16 = .ok (.baload, 1) := by decide +kernel
theorem jd_ioc_17 : decode prog_21_method_23_code 17 = .ok (.iload 4, 2) := by decide +kernel
theorem jd_ioc_19 : decode prog_21_method_23_code 19 = .ok (.if_icmp .ne 6, 3) := by decide +kernel
theorem jd_ioc_22 : decode prog_21_method_23_code 22 = .ok (.iload 5, 2) := by decide +kernel
theorem jd_ioc_24 : decode prog_21_method_23_code 24 = .ok (.ireturn, 1) := by decide +kernel
theorem jd_ioc_25 : decode prog_21_method_23_code 25 = .ok (.iinc 5 1, 3) := by decide +kernel
theorem jd_ioc_28 : decode prog_21_method_23_code 28 = .ok (.goto (-21), 3) := by decide +kernel
theorem jd_ioc_31 : decode prog_21_method_23_code 31 = .ok (.iconst (-1), 1) := by decide +kernel
theorem jd_ioc_32 : decode prog_21_method_23_code 32 = .ok (.ireturn, 1) := by decide +kernel
def jy_iol : MethodName := ⟨"java/lang/StringLatin1", "indexOf", "([BIII)I"⟩
abbrev jw_iol : List Cond := jk_ws jy_iol prog_21_method_22_code 4 (some .int)
theorem jd_iol_0 : decode prog_21_method_22_code 0 = .ok (.iload_n 1, 1) := by decide +kernel
theorem jd_iol_1 : decode prog_21_method_22_code 1 = .ok (.invokestatic 88, 3) := by decide +kernel
theorem jd_iol_4 : decode prog_21_method_22_code 4 = .ok (.ifCond .ne 5, 3) := by decide +kernel
theorem jd_iol_7 : decode prog_21_method_22_code 7 = .ok (.iconst (-1), 1) := by decide +kernel
theorem jd_iol_8 : decode prog_21_method_22_code 8 = .ok (.ireturn, 1) := by decide +kernel
theorem jd_iol_9 : decode prog_21_method_22_code 9 = .ok (.iload_n 2, 1) := by decide +kernel
theorem jd_iol_10 : decode prog_21_method_22_code 10 = .ok (.iconst 0, 1) := by decide +kernel
theorem jd_iol_11 : decode prog_21_method_22_code 11 = .ok (.invokestatic 92, 3) := by decide +kernel
theorem jd_iol_14 : decode prog_21_method_22_code 14 = .ok (.istore_n 2, 1) := by decide +kernel
theorem jd_iol_15 : decode prog_21_method_22_code 15 = .ok (.iload_n 3, 1) := by decide +kernel
theorem jd_iol_16 : decode prog_21_method_22_code 16 = .ok (.aload_n 0, 1) := by decide +kernel
theorem jd_iol_17 : decode prog_21_method_22_code 17 = .ok (.arraylength, 1) := by decide +kernel
theorem jd_iol_18 : decode prog_21_method_22_code 18 = .ok (.invokestatic 38, 3) := by decide +kernel
theorem jd_iol_21 : decode prog_21_method_22_code 21 = .ok (.istore_n 3, 1) := by decide +kernel
theorem jd_iol_22 : decode prog_21_method_22_code 22 = .ok (.iload_n 2, 1) := by decide +kernel
theorem jd_iol_23 : decode prog_21_method_22_code 23 = .ok (.iload_n 3, 1) := by decide +kernel
theorem jd_iol_24 : decode prog_21_method_22_code 24 = .ok (.if_icmp .lt 5, 3) := by decide +kernel
theorem jd_iol_29 : decode prog_21_method_22_code 29 = .ok (.aload_n 0, 1) := by decide +kernel
theorem jd_iol_30 : decode prog_21_method_22_code 30 = .ok (.iload_n 1, 1) := by decide +kernel
theorem jd_iol_31 : decode prog_21_method_22_code 31 = .ok (.iload_n 2, 1) := by decide +kernel
theorem jd_iol_32 : decode prog_21_method_22_code 32 = .ok (.iload_n 3, 1) := by decide +kernel
theorem jd_iol_33 : decode prog_21_method_22_code 33 = .ok (.invokestatic 95, 3) := by decide +kernel
theorem jd_iol_36 : decode prog_21_method_22_code 36 = .ok (.ireturn, 1) := by decide +kernel
def jy_io2 : MethodName := ⟨"java/lang/String", "indexOf", "(II)I"⟩
abbrev jw_io2 : List Cond := jk_ws jy_io2 prog_20_method_80_code 3 (some .int)
theorem jd_io2_0 : decode prog_20_method_80_code 0 = .ok (.aload_n 0, 1) := by decide +kernel
theorem jd_io2_1 : decode prog_20_method_80_code 1 = .ok (.invokevirtual 492, 3) := by decide +kernel
theorem jd_io2_4 : decode prog_20_method_80_code 4 = .ok (.ifCond .eq 19, 3) := by decide +kernel
theorem jd_io2_7 : decode prog_20_method_80_code 7 = .ok (.aload_n 0, 1) := by decide +kernel
theorem jd_io2_8 : decode prog_20_method_80_code 8 = .ok (.getfield 9, 3) := by decide +kernel
theorem jd_io2_11 : decode prog_20_method_80_code 11 = .ok (.iload_n 1, 1) := by decide +kernel
theorem jd_io2_12 : decode prog_20_method_80_code 12 = .ok (.iload_n 2, 1) := by decide +kernel
theorem jd_io2_13 : decode prog_20_method_80_code 13 = .ok (.aload_n 0, 1) := by decide +kernel
theorem jd_io2_14 : decode prog_20_method_80_code 14 = .ok (.invokevirtual 505, 3) := by decide +kernel
theorem jd_io2_17 : decode prog_20_method_80_code 17 = .ok (.invokestatic 637, 3) := by decide +kernel
theorem jd_io2_20 : decode prog_20_method_80_code 20 = .ok (.goto 16, 3) := by decide +kernel
theorem jd_io2_36 : decode prog_20_method_80_code 36 = .ok (.ireturn, 1) := by decide +kernel
def jy_io1 : MethodName := ⟨"java/lang/String", "indexOf", "(I)I"⟩
abbrev jw_io1 : List Cond := jk_ws jy_io1 prog_20_method_79_code 2 (some .int)
theorem jd_io1_0 : decode prog_20_method_79_code 0 = .ok (.aload_n 0, 1) := by decide +kernel
theorem jd_io1_1 : decode prog_20_method_79_code 1 = .ok (.iload_n 1, 1) := by decide +kernel
theorem jd_io1_2 : decode prog_20_method_79_code 2 = .ok (.iconst 0, 1) := by decide +kernel
theorem jd_io1_3 : decode prog_20_method_79_code 3 = .ok (.invokevirtual 633, 3) := by decide +kernel
theorem jd_io1_6 : decode prog_20_method_79_code 6 = .ok (.ireturn, 1) := by decide +kernel
def jy_pci : MethodName := ⟨"jdk/internal/util/Preconditions", "checkIndex", "(IILjava/util/function/BiFunction;)I"⟩
abbrev jw_pci : List Cond := jk_ws jy_pci prog_26_method_11_code 3 (some .int)
theorem jd_pci_0 : decode prog_26_method_11_code 0 = .ok (.iload_n 0, 1) := by decide +kernel
theorem jd_pci_1 : decode prog_26_method_11_code 1 = .ok (.ifCond .lt 8, 3) := by decide +kernel
theorem jd_pci_4 : decode prog_26_method_11_code 4 = .ok (.iload_n 0, 1) := by decide +kernel
theorem jd_pci_5 : decode prog_26_method_11_code 5 = .ok (.iload_n 1, 1) := by decide +kernel
theorem jd_pci_6 : decode prog_26_method_11_code 6 = .ok (.if_icmp .lt 10, 3) := by decide +kernel
theorem jd_pci_16 : decode prog_26_method_11_code 16 = .ok (.iload_n 0, 1) := by decide +kernel
theorem jd_pci_17 : decode prog_26_method_11_code 17 = .ok (.ireturn, 1) := by decide +kernel
def jy_sci : MethodName := ⟨"java/lang/String", "checkIndex", "(II)V"⟩
abbrev jw_sci : List Cond := jk_ws jy_sci prog_20_method_155_code 2 none
theorem jd_sci_0 : decode prog_20_method_155_code 0 = .ok (.iload_n 0, 1) := by decide +kernel
theorem jd_sci_1 : decode prog_20_method_155_code 1 = .ok (.iload_n 1, 1) := by decide +kernel
theorem jd_sci_2 : decode prog_20_method_155_code 2 = .ok (.getstatic 1053, 3) := by decide +kernel
theorem jd_sci_5 : decode prog_20_method_155_code 5 = .ok (.invokestatic 1059, 3) := by decide +kernel
theorem jd_sci_8 : decode prog_20_method_155_code 8 = .ok (.pop, 1) := by decide +kernel
theorem jd_sci_9 : decode prog_20_method_155_code 9 = .ok (.return_, 1) := by decide +kernel
def jy_lca : MethodName := ⟨"java/lang/StringLatin1", "charAt", "([BI)C"⟩
abbrev jw_lca : List Cond := jk_ws jy_lca prog_21_method_2_code 2 (some .char)
theorem jd_lca_0 : decode prog_21_method_2_code 0 = .ok (.iload_n 1, 1) := by decide +kernel
theorem jd_lca_1 : decode prog_21_method_2_code 1 = .ok (.aload_n 0, 1) := by decide +kernel
theorem jd_lca_2 : decode prog_21_method_2_code 2 = .ok (.arraylength, 1) := by decide +kernel
theorem jd_lca_3 : decode prog_21_method_2_code 3 = .ok (.invokestatic 9, 3) := by decide +kernel
theorem jd_lca_6 : decode prog_21_method_2_code 6 = .ok (.aload_n 0, 1) := by decide +kernel
theorem jd_lca_7 : decode prog_21_method_2_code 7 = .ok (.iload_n 1, 1) := by decide +kernel
theorem jd_lca_8 : decode prog_21_method_2_code 8 = .ok (.baload, 1) := by decide +kernel
theorem jd_lca_9 : decode prog_21_method_2_code 9 = .ok (.sipush 255, 3) := by decide +kernel
theorem jd_lca_12 : decode prog_21_method_2_code 12 = .ok (.iand, 1) := by decide +kernel
theorem jd_lca_13 : decode prog_21_method_2_code 13 = .ok (.i2c, 1) := by decide +kernel
theorem jd_lca_14 : decode prog_21_method_2_code 14 = .ok (.ireturn, 1) := by decide +kernel
def jy_sca : MethodName := ⟨"java/lang/String", "charAt", "(I)C"⟩
abbrev jw_sca : List Cond := jk_ws jy_sca prog_20_method_56_code 2 (some .char)
theorem jd_sca_0 : decode prog_20_method_56_code 0 = .ok (.aload_n 0, 1) := by decide +kernel
theorem jd_sca_1 : decode prog_20_method_56_code 1 = .ok (.invokevirtual 492, 3) := by decide +kernel
theorem jd_sca_4 : decode prog_20_method_56_code 4 = .ok (.ifCond .eq 12, 3) := by decide +kernel
theorem jd_sca_7 : decode prog_20_method_56_code 7 = .ok (.aload_n 0, 1) := by decide +kernel
theorem jd_sca_8 : decode prog_20_method_56_code 8 = .ok (.getfield 9, 3) := by decide +kernel
theorem jd_sca_11 : decode prog_20_method_56_code 11 = .ok (.iload_n 1, 1) := by decide +kernel
theorem jd_sca_12 : decode prog_20_method_56_code 12 = .ok (.invokestatic 495, 3) := by decide +kernel
theorem jd_sca_15 : decode prog_20_method_56_code 15 = .ok (.ireturn, 1) := by decide +kernel
def jk_l : List Cond := [.code jy_isl prog_20_method_154_code 1 (some .boolean), .instanceMethod jy_isl, .selects "java/lang/String" jy_isl jy_isl, .code jy_cod prog_20_method_152_code 1 (some .byte), .instanceMethod jy_cod, .selects "java/lang/String" jy_cod jy_cod, .code jy_len prog_20_method_54_code 1 (some .int), .instanceMethod jy_len, .selects "java/lang/String" jy_len jy_len, .code jy_can prog_21_method_4_code 1 (some .boolean), .static jy_can, .code jy_ioc prog_21_method_23_code 6 (some .int), .static jy_ioc, .code jy_iol prog_21_method_22_code 4 (some .int), .static jy_iol, .code jy_io2 prog_20_method_80_code 3 (some .int), .instanceMethod jy_io2, .selects "java/lang/String" jy_io2 jy_io2, .code jy_io1 prog_20_method_79_code 2 (some .int), .instanceMethod jy_io1, .selects "java/lang/String" jy_io1 jy_io1, .code jy_pci prog_26_method_11_code 3 (some .int), .static jy_pci, .code jy_sci prog_20_method_155_code 2 none, .static jy_sci, .code jy_lca prog_21_method_2_code 2 (some .char), .static jy_lca, .code jy_sca prog_20_method_56_code 2 (some .char), .instanceMethod jy_sca, .selects "java/lang/String" jy_sca jy_sca, .initialized "java/lang/String", .initialized "java/lang/StringLatin1", .initialized "jdk/internal/util/Preconditions", .fieldLink "java/lang/String" 38 "java/lang/String" "COMPACT_STRINGS" "Z", .fieldLink "java/lang/String" 15 "java/lang/String" "coder" "B", .fieldLink "java/lang/String" 9 "java/lang/String" "value" "[B", .fieldLink "java/lang/String" 1053 "jdk/internal/util/Preconditions" "SIOOBE_FORMATTER" "Ljava/util/function/BiFunction;", .methodLink "java/lang/String" 335 jy_cod, .methodLink "java/lang/String" 492 jy_isl, .methodLink "java/lang/String" 505 jy_len, .methodLink "java/lang/String" 637 jy_iol, .methodLink "java/lang/String" 633 jy_io2, .methodLink "java/lang/String" 1059 jy_pci, .methodLink "java/lang/String" 495 jy_lca, .methodLink "java/lang/StringLatin1" 88 jy_can, .methodLink "java/lang/StringLatin1" 95 jy_ioc, .methodLink "java/lang/StringLatin1" 9 jy_sci, .methodLink "java/lang/StringLatin1" 92 Lib.Math.max.name, .methodLink "java/lang/StringLatin1" 38 Lib.Math.min.name]
set_option maxRecDepth 100000 in
theorem jk_lok : jk_l.all so_in1 = true := by decide +kernel
theorem jk_at {w : Cond} (i : Nat) (h : jk_l[i]? = some w) : so_in1 w = true := List.all_eq_true.mp jk_lok w (List.mem_of_getElem? h)
abbrev jF : Nat → Prop := fun _ => False
theorem so_T1_mv {h0 v0 : Nat} {f : Nat → Int32} {A : Nat → Prop} {u U : State} {H : Heap} (hvm : u.vm.Alike U.vm) (h : so_T1 h0 v0 f A u H) : so_T1 h0 v0 f A U H := ⟨h.1.moved hvm, h.2.1.moved hvm, h.2.2.1.moved hvm, h.2.2.2.moved hvm⟩
theorem so_T1_kp {h0 v0 : Nat} {f : Nat → Int32} {A : Nat → Prop} {U : State} {H H1 : Heap} (hq : ∀ a : Nat, a < H.size → ¬ A a → H1[a]? = H[a]?) (h : so_T1 h0 v0 f A U H) : so_T1 h0 v0 f A U H1 := ⟨h.1.kept hq, h.2.1.kept hq, h.2.2.1.kept hq, h.2.2.2.kept hq⟩
theorem so_T2_mv {A : Nat → Prop} {u U : State} {H : Heap} (hvm : u.vm.Alike U.vm) (h : so_T2 A u H) : so_T2 A U H := by
  obtain ⟨h1, v, h2, h3, h4⟩ := h
  exact ⟨h1.moved hvm, v, h2, h3, h4.moved hvm⟩
theorem so_T2_kp {A : Nat → Prop} {U : State} {H H1 : Heap} (hq : ∀ a : Nat, a < H.size → ¬ A a → H1[a]? = H[a]?) (h : so_T2 A U H) : so_T2 A U H1 := by
  obtain ⟨h1, v, h2, h3, h4⟩ := h
  exact ⟨h1.kept hq, v, h2, h3, h4.kept hq⟩
theorem so_T2_nw {A : Nat → Prop} {U : State} {H : Heap} (h : so_T2 A U H) : so_T2 jF U H := by
  obtain ⟨h1, v, h2, h3, h4⟩ := h
  exact ⟨h1.narrow (fun _ q => q.elim), v, h2, h3, h4.narrow (fun _ q => q.elim)⟩
theorem so_T1_nw {h0 v0 : Nat} {f : Nat → Int32} {A : Nat → Prop} {U : State} {H : Heap} (h : so_T1 h0 v0 f A U H) : so_T1 h0 v0 f jF U H := ⟨h.1.narrow (fun _ q => q.elim), h.2.1.narrow (fun _ q => q.elim), h.2.2.1.narrow (fun _ q => q.elim), h.2.2.2.narrow (fun _ q => q.elim)⟩
set_option maxHeartbeats 4000000 in
set_option maxRecDepth 100000 in
theorem c_isl (l : Launch) (h0 v0 : Nat) (f : Nat → Int32) : Met l jy_isl jw_isl ({ frames := 0, cells := 0, slots := 0, locals := 0 }) (va_Pc [.ref h0] (fun U => so_T1 h0 v0 f jF U U.heap ∧ so_T2 jF U U.heap)) (va_Qi (fun (r : Int32) (_ : Unit) => r = 1) (fun _ _ => True) jF) 0 0 jF := by
  refine Met.ofW (cc := prog_20_method_154_code) (maxL := 1) (ret := (some .boolean)) (by decide) rfl ?_
  intro p e s m args below meth c s₁ B hml hv
  obtain ⟨rfl, hB⟩ := hv
  have hx := B.exec
  have hb := B.bytes
  have hr := B.returns
  have hts := atoms_spec (ws := jw_isl) B.pre
  have hown : s.vm.findClass "java/lang/String" = some m.cls := findClass_of_methodNamed B.named
  have hlocks := B.notSynchronized
  have hS : va_S jF s.heap s.heap [] := va_S.rf
  have hl := lv_entry ([.ref h0]) (n := 1) (Nat.le_of_ble_eq_true rfl)
  rw [lg_entry_eq]
  generalize (lg_sl ([.ref h0]) ++ List.replicate (1 - (lg_sl ([.ref h0])).length) Slot.unset).toArray = ls at hl ⊢
  have hl : lv_has ls 1 [(0, .ref h0)] := hl
  refine va_gets hx hb hB.2.1 hS hown (hts _ (jk_sub _ (so_in1_in (jk_at 33 rfl)))) (fun _ h => h) jd_isl_0 ?_
  refine lv_if_eq (tgt := 17) hx hb jd_isl_3 rfl (fun h => absurd h (by decide)) (fun _ => ?_)
  refine lv_aload_n hx hb jd_isl_6 rfl (lv_at hl 0 rfl) ?_
  refine vk_getf hx hb hB.1.2.1 hS hown (hts _ (jk_sub _ (so_in1_in (jk_at 34 rfl)))) (fun _ h => h) jd_isl_7 ?_
  refine lv_if_ne (tgt := 17) hx hb jd_isl_10 rfl (fun h => absurd rfl h) (fun _ => ?_)
  refine lv_iconst (v := 1) hx hb jd_isl_13 (by decide) ?_
  refine lv_goto (tgt := 18) hx hb jd_isl_14 rfl ?_
  exact W.zret (v := 1) hx hb hr rfl (fun t ht hW => ⟨⟨1, (), rfl, rfl, trivial⟩, hS.F ht⟩) hS.2.2 jd_isl_18
set_option maxHeartbeats 4000000 in
set_option maxRecDepth 100000 in
theorem c_cod (l : Launch) (h0 v0 : Nat) (f : Nat → Int32) : Met l jy_cod jw_cod ({ frames := 0, cells := 0, slots := 0, locals := 0 }) (va_Pc [.ref h0] (fun U => so_T1 h0 v0 f jF U U.heap ∧ so_T2 jF U U.heap)) (va_Qi (fun (r : Int32) (_ : Unit) => r = 0) (fun _ _ => True) jF) 0 0 jF := by
  refine Met.ofW (cc := prog_20_method_152_code) (maxL := 1) (ret := (some .byte)) (by decide) rfl ?_
  intro p e s m args below meth c s₁ B hml hv
  obtain ⟨rfl, hB⟩ := hv
  have hx := B.exec
  have hb := B.bytes
  have hr := B.returns
  have hts := atoms_spec (ws := jw_cod) B.pre
  have hown : s.vm.findClass "java/lang/String" = some m.cls := findClass_of_methodNamed B.named
  have hlocks := B.notSynchronized
  have hS : va_S jF s.heap s.heap [] := va_S.rf
  have hl := lv_entry ([.ref h0]) (n := 1) (Nat.le_of_ble_eq_true rfl)
  rw [lg_entry_eq]
  generalize (lg_sl ([.ref h0]) ++ List.replicate (1 - (lg_sl ([.ref h0])).length) Slot.unset).toArray = ls at hl ⊢
  have hl : lv_has ls 1 [(0, .ref h0)] := hl
  refine va_gets hx hb hB.2.1 hS hown (hts _ (jk_sub _ (so_in1_in (jk_at 33 rfl)))) (fun _ h => h) jd_cod_0 ?_
  refine lv_if_eq (tgt := 13) hx hb jd_cod_3 rfl (fun h => absurd h (by decide)) (fun _ => ?_)
  refine lv_aload_n hx hb jd_cod_6 rfl (lv_at hl 0 rfl) ?_
  refine vk_getf hx hb hB.1.2.1 hS hown (hts _ (jk_sub _ (so_in1_in (jk_at 34 rfl)))) (fun _ h => h) jd_cod_7 ?_
  refine lv_goto (tgt := 14) hx hb jd_cod_10 rfl ?_
  exact W.zret (v := 0) hx hb hr rfl (fun t ht hW => ⟨⟨0, (), rfl, rfl, trivial⟩, hS.F ht⟩) hS.2.2 jd_cod_14
set_option maxHeartbeats 4000000 in
set_option maxRecDepth 100000 in
theorem c_len (l : Launch) (h0 v0 : Nat) (f : Nat → Int32) : Met l jy_len jw_len ({ frames := 1, cells := 0, slots := 0, locals := 40 }) (va_Pc [.ref h0] (fun U => so_T1 h0 v0 f jF U U.heap ∧ so_T2 jF U U.heap)) (va_Qi (fun (r : Int32) (_ : Unit) => r = 4) (fun _ _ => True) jF) 0 0 jF := by
  refine Met.ofW (cc := prog_20_method_54_code) (maxL := 1) (ret := (some .int)) (by decide) rfl ?_
  intro p e s m args below meth c s₁ B hml hv
  obtain ⟨rfl, hB⟩ := hv
  have hx := B.exec
  have hb := B.bytes
  have hr := B.returns
  have hts := atoms_spec (ws := jw_len) B.pre
  have hown : s.vm.findClass "java/lang/String" = some m.cls := findClass_of_methodNamed B.named
  have hlocks := B.notSynchronized
  have hS : va_S jF s.heap s.heap [] := va_S.rf
  have hl := lv_entry ([.ref h0]) (n := 1) (Nat.le_of_ble_eq_true rfl)
  rw [lg_entry_eq]
  generalize (lg_sl ([.ref h0]) ++ List.replicate (1 - (lg_sl ([.ref h0])).length) Slot.unset).toArray = ls at hl ⊢
  have hl : lv_has ls 1 [(0, .ref h0)] := hl
  refine lv_aload_n hx hb jd_len_0 rfl (lv_at hl 0 rfl) ?_
  refine vk_getf hx hb hB.1.2.2.1 hS hown (hts _ (jk_sub _ (so_in1_in (jk_at 35 rfl)))) (fun _ h => h) jd_len_1 ?_
  refine va_tlen (v := 4) hx hb hB.1.2.2.2 hS rfl jd_len_4 ?_
  refine lv_aload_n hx hb jd_len_5 rfl (lv_at hl 0 rfl) ?_
  refine va_calli (va_runV (As := []) (rest := [.int 4]) ⟨hx, hb, hml, hown, hts⟩ (c_cod l h0 v0 f) ⟨callB_of 0 hts (jk_good jk_sub (jk_at 3 rfl)) rfl rfl rfl (hts _ (jk_sub _ (so_in1_in (jk_at 30 rfl)))) (hts _ (jk_sub _ (so_in1_in (jk_at 37 rfl)))) ⟨by decide, by decide, by decide +kernel⟩ ⟨Nat.le_of_ble_eq_true rfl, Nat.le_of_ble_eq_true rfl⟩, (hts _ (jk_sub _ (so_in1_in (jk_at 4 rfl)))), (hts _ (jk_sub _ (so_in1_in (jk_at 5 rfl))))⟩ ⟨fun a U g mk q => ⟨q.1, so_T1_mv (u := U) (U := U.calling g mk a) (Vm.Alike.refl U.vm) q.2.1, so_T2_mv (u := U) (U := U.calling g mk a) (Vm.Alike.refl U.vm) q.2.2⟩, by obtain ⟨cell, h1, h2, h3, -⟩ := hB.1.1.kept hS.2.1; exact ⟨cell, h1, h2, h3⟩, fun U hU hW => ⟨rfl, by rw [hU]; exact so_T1_mv hW.alike (so_T1_kp hS.2.1 hB.1), by rw [hU]; exact so_T2_mv hW.alike (so_T2_kp hS.2.1 hB.2)⟩⟩ rfl rfl hl.1 rfl (lv_room (Nat.le_of_ble_eq_true rfl)) jd_len_6 ⟨Nat.zero_le _, Nat.zero_le _⟩) hS (fun q _ h => h) (fun q h => h) (fun r u t H1 locs ht hvm hpost hBB hz1 hk1 hS => ?_)
  subst hpost
  refine lv_ishr hx hb jd_len_9 ?_
  exact W.iret (v := 4) hx hb hr (fun t ht hW => ⟨⟨4, (), rfl, rfl, trivial⟩, hS.F ht⟩) hS.2.2 jd_len_10
set_option maxHeartbeats 4000000 in
set_option maxRecDepth 100000 in
theorem c_can (l : Launch) (x : Int32) : Met l jy_can jw_can ({ frames := 0, cells := 0, slots := 0, locals := 0 }) (va_Pc [.int x] (fun U => True)) (va_Qi (fun (r : Int32) (_ : Unit) => r = (if x < 0 then 0 else if 255 < x then 0 else 1)) (fun _ _ => True) jF) 0 0 jF := by
  refine Met.ofW (cc := prog_21_method_4_code) (maxL := 1) (ret := (some .boolean)) (by decide) rfl ?_
  intro p e s m args below meth c s₁ B hml hv
  obtain ⟨rfl, hB⟩ := hv
  have hx := B.exec
  have hb := B.bytes
  have hr := B.returns
  have hts := atoms_spec (ws := jw_can) B.pre
  have hown : s.vm.findClass "java/lang/StringLatin1" = some m.cls := findClass_of_methodNamed B.named
  have hlocks := B.notSynchronized
  have hS : va_S jF s.heap s.heap [] := va_S.rf
  have hl := lv_entry ([.int x]) (n := 1) (Nat.le_of_ble_eq_true rfl)
  rw [lg_entry_eq]
  generalize (lg_sl ([.int x]) ++ List.replicate (1 - (lg_sl ([.int x])).length) Slot.unset).toArray = ls at hl ⊢
  have hl : lv_has ls 1 [(0, .int x)] := hl
  refine lv_iload_n hx hb jd_can_0 rfl (lv_at hl 0 rfl) ?_
  refine lv_if_lt (tgt := 15) hx hb jd_can_1 rfl (fun h => ?_) (fun h => ?_)
  · refine lv_iconst (v := 0) hx hb jd_can_15 (by decide) ?_
    exact W.zret (v := 0) hx hb hr rfl (fun t ht hW => ⟨⟨0, (), rfl, by rw [if_pos h], trivial⟩, hS.F ht⟩) hS.2.2 jd_can_16
  · refine lv_iload_n hx hb jd_can_4 rfl (lv_at hl 0 rfl) ?_
    refine lv_sipush (v := 255) hx hb jd_can_5 (by decide) ?_
    refine lv_icmp_gt (tgt := 15) hx hb jd_can_8 rfl (fun h1 => ?_) (fun h1 => ?_)
    · refine lv_iconst (v := 0) hx hb jd_can_15 (by decide) ?_
      exact W.zret (v := 0) hx hb hr rfl (fun t ht hW => ⟨⟨0, (), rfl, by rw [if_neg h, if_pos h1], trivial⟩, hS.F ht⟩) hS.2.2 jd_can_16
    · refine lv_iconst (v := 1) hx hb jd_can_11 (by decide) ?_
      refine lv_goto (tgt := 16) hx hb jd_can_12 rfl ?_
      exact W.zret (v := 1) hx hb hr rfl (fun t ht hW => ⟨⟨1, (), rfl, by rw [if_neg h, if_neg h1], trivial⟩, hS.F ht⟩) hS.2.2 jd_can_16
def jk_lp (f : Nat → Int32) (c : Int32) : Nat → Nat → Int32
  | 0, _ => -1
  | k + 1, i => if f i = c then Int32.ofNat i else jk_lp f c k (i + 1)
theorem jk_n4 : ∀ i : Nat, i < 4 → ¬ (4 : Int32) ≤ Int32.ofNat i ∧ (Int32.ofNat i).toNatClampNeg = i ∧ ¬ Int32.ofNat i < 0 ∧ Int32.ofNat i + Int32.ofInt 1 = Int32.ofNat (i + 1) := by decide +kernel
set_option maxHeartbeats 4000000 in
set_option maxRecDepth 100000 in
theorem c_ioc (l : Launch) (v0 : Nat) (f : Nat → Int32) (x : Int32) : Met l jy_ioc jw_ioc ({ frames := 0, cells := 0, slots := 0, locals := 0 }) (va_Pc [.ref v0, .int x, .int 0, .int 4] (fun U => va_T .byte v0 4 (fun j => .int (f j)) jF U U.heap)) (va_Qi (fun (r : Int32) (_ : Unit) => r = jk_lp f x.toInt8.toInt32 4 0) (fun _ _ => True) jF) 0 0 jF := by
  refine Met.ofW (cc := prog_21_method_23_code) (maxL := 6) (ret := (some .int)) (by decide) rfl ?_
  intro p e s m args below meth c s₁ B hml hv
  obtain ⟨rfl, hB⟩ := hv
  have hx := B.exec
  have hb := B.bytes
  have hr := B.returns
  have hts := atoms_spec (ws := jw_ioc) B.pre
  have hown : s.vm.findClass "java/lang/StringLatin1" = some m.cls := findClass_of_methodNamed B.named
  have hlocks := B.notSynchronized
  have hS : va_S jF s.heap s.heap [] := va_S.rf
  have hl := lv_entry ([.ref v0, .int x, .int 0, .int 4]) (n := 6) (Nat.le_of_ble_eq_true rfl)
  rw [lg_entry_eq]
  generalize (lg_sl ([.ref v0, .int x, .int 0, .int 4]) ++ List.replicate (6 - (lg_sl ([.ref v0, .int x, .int 0, .int 4])).length) Slot.unset).toArray = ls at hl ⊢
  have hl : lv_has ls 6 [(0, .ref v0), (1, .int x), (2, .int 0), (3, .int 4)] := hl
  refine lv_iload_n hx hb jd_ioc_0 rfl (lv_at hl 1 rfl) ?_
  refine lv_i2b (v := x.toInt8.toInt32) hx hb jd_ioc_1 rfl ?_
  refine lv_istore (lv' := [(4, .int x.toInt8.toInt32), (0, .ref v0), (1, .int x), (2, .int 0), (3, .int 4)]) hx hb jd_ioc_2 hl (by decide) rfl (fun ls hl => ?_)
  refine lv_iload_n hx hb jd_ioc_4 rfl (lv_at hl 3 rfl) ?_
  refine lv_istore (lv' := [(5, .int (Int32.ofNat 0)), (4, .int x.toInt8.toInt32), (0, .ref v0), (1, .int x), (2, .int 0), (3, .int 4)]) hx hb jd_ioc_5 hl (by decide) rfl (fun ls hl => ?_)
  generalize hcc : x.toInt8.toInt32 = cb at hl ⊢
  have loop : ∀ (k i : Nat), i + k = 4 → jk_lp f cb k i = jk_lp f cb 4 0 → ∀ ls : Array Slot, lv_has ls 6 [(5, .int (Int32.ofNat i)), (4, .int cb), (0, .ref v0), (1, .int x), (2, .int 0), (3, .int 4)] → W p l e (headSpec jw_ioc ({ frames := 0, cells := 0, slots := 0, locals := 0 })).room s m ([.ref v0, .int x, .int 0, .int 4] : List Value).toArray below meth c s.heap [] 0 0 (MQ below (va_Qi (fun (r : Int32) (_ : Unit) => r = jk_lp f cb 4 0) (fun _ _ => True) jF) ([.ref v0, .int x, .int 0, .int 4] : List Value).toArray s 0 0 jF) (F0 m 7 ls []) := by
    intro k
    induction k with
    | zero =>
      intro i hi hres ls hl
      have : i = 4 := by omega
      subst this
      refine lv_iload hx hb jd_ioc_7 (lv_at hl 0 rfl) ?_
      refine lv_iload_n hx hb jd_ioc_9 rfl (lv_at hl 5 rfl) ?_
      refine lv_icmp_ge (tgt := 31) hx hb jd_ioc_10 rfl (fun _ => ?_) (fun h => absurd (by decide) h)
      refine lv_iconst (v := -1) hx hb jd_ioc_31 (by decide) ?_
      exact W.iret (v := -1) hx hb hr (fun t ht hW => ⟨⟨-1, (), rfl, hres, trivial⟩, hS.F ht⟩) hS.2.2 jd_ioc_32
    | succ k ih =>
      intro i hi hres ls hl
      obtain ⟨a1, a2, a3, a4⟩ := jk_n4 i (by omega)
      unfold jk_lp at hres
      refine lv_iload hx hb jd_ioc_7 (lv_at hl 0 rfl) ?_
      refine lv_iload_n hx hb jd_ioc_9 rfl (lv_at hl 5 rfl) ?_
      refine lv_icmp_ge (tgt := 31) hx hb jd_ioc_10 rfl (fun h => absurd h a1) (fun _ => ?_)
      refine lv_aload_n hx hb jd_ioc_13 rfl (lv_at hl 2 rfl) ?_
      refine lv_iload hx hb jd_ioc_14 (lv_at hl 0 rfl) ?_
      refine va_tb hx hb hB hS (show vp_in (Int32.ofNat i) 4 by unfold vp_in; rw [a2]; rintro (h | h); exact a3 h; omega) (v := .int (f i)) (by rw [a2]) jd_ioc_16 ?_
      refine lv_iload hx hb jd_ioc_17 (lv_at hl 1 rfl) ?_
      refine lv_icmp_ne (tgt := 25) hx hb jd_ioc_19 rfl (fun h => ?_) (fun h => ?_)
      · rw [if_neg h] at hres
        refine lv_iinc (k := 0) (v := Int32.ofNat (i + 1)) (lv' := [(5, .int (Int32.ofNat (i + 1))), (4, .int cb), (0, .ref v0), (1, .int x), (2, .int 0), (3, .int 4)]) hx hb jd_ioc_25 hl rfl a4 (by decide) rfl (fun ls hl => ?_)
        refine lv_goto (tgt := 7) hx hb jd_ioc_28 rfl ?_
        exact ih (i + 1) (by omega) hres ls hl
      · rw [if_pos h] at hres
        refine lv_iload hx hb jd_ioc_22 (lv_at hl 0 rfl) ?_
        exact W.iret (v := Int32.ofNat i) hx hb hr (fun t ht hW => ⟨⟨Int32.ofNat i, (), rfl, hres, trivial⟩, hS.F ht⟩) hS.2.2 jd_ioc_24
  exact loop 4 0 rfl rfl ls hl
def jk_ix (f : Nat → Int32) (x : Int32) : Int32 := if (if x < 0 then (0 : Int32) else if 255 < x then 0 else 1) = 0 then -1 else jk_lp f x.toInt8.toInt32 4 0
set_option maxHeartbeats 4000000 in
set_option maxRecDepth 100000 in
theorem c_iol (l : Launch) (v0 : Nat) (f : Nat → Int32) (x : Int32) : Met l jy_iol jw_iol ({ frames := 1, cells := 0, slots := 0, locals := 60 }) (va_Pc [.ref v0, .int x, .int 0, .int 4] (fun U => va_T .byte v0 4 (fun j => .int (f j)) jF U U.heap)) (va_Qi (fun (r : Int32) (_ : Unit) => r = jk_ix f x) (fun _ _ => True) jF) 0 0 jF := by
  refine Met.ofW (cc := prog_21_method_22_code) (maxL := 4) (ret := (some .int)) (by decide) rfl ?_
  intro p e s m args below meth c s₁ B hml hv
  obtain ⟨rfl, hB⟩ := hv
  have hx := B.exec
  have hb := B.bytes
  have hr := B.returns
  have hts := atoms_spec (ws := jw_iol) B.pre
  have hown : s.vm.findClass "java/lang/StringLatin1" = some m.cls := findClass_of_methodNamed B.named
  have hlocks := B.notSynchronized
  have hS : va_S jF s.heap s.heap [] := va_S.rf
  have hl := lv_entry ([.ref v0, .int x, .int 0, .int 4]) (n := 4) (Nat.le_of_ble_eq_true rfl)
  rw [lg_entry_eq]
  generalize (lg_sl ([.ref v0, .int x, .int 0, .int 4]) ++ List.replicate (4 - (lg_sl ([.ref v0, .int x, .int 0, .int 4])).length) Slot.unset).toArray = ls at hl ⊢
  have hl : lv_has ls 4 [(0, .ref v0), (1, .int x), (2, .int 0), (3, .int 4)] := hl
  refine lv_iload_n hx hb jd_iol_0 rfl (lv_at hl 1 rfl) ?_
  refine va_calli (va_runS (As := [.int x]) (rest := []) ⟨hx, hb, hml, hown, hts⟩ (c_can l x) ⟨callB_of 1 hts (jk_good jk_sub (jk_at 9 rfl)) rfl rfl rfl (hts _ (jk_sub _ (so_in1_in (jk_at 31 rfl)))) (hts _ (jk_sub _ (so_in1_in (jk_at 44 rfl)))) ⟨by decide, by decide, by decide +kernel⟩ ⟨Nat.le_of_ble_eq_true rfl, Nat.le_of_ble_eq_true rfl⟩, (hts _ (jk_sub _ (so_in1_in (jk_at 10 rfl))))⟩ ⟨fun a U g mk q => ⟨q.1, trivial⟩, fun U hU hW => ⟨rfl, trivial⟩⟩ rfl rfl hl.1 rfl (lv_room (Nat.le_of_ble_eq_true rfl)) jd_iol_1 ⟨Nat.zero_le _, Nat.zero_le _⟩) hS (fun q _ h => h) (fun q h => h) (fun r u t H1 locs ht hvm hpost hBB hz1 hk1 hS => ?_)
  subst hpost
  refine lv_if_ne (tgt := 9) hx hb jd_iol_4 rfl (fun h => ?_) (fun h => ?_)
  · have hml2 : c.maxLocals = ls.size := hml.trans hl.1.symm
    refine lv_iload_n hx hb jd_iol_9 rfl (lv_at hl 2 rfl) ?_
    refine lv_iconst (v := 0) hx hb jd_iol_10 (by decide) ?_
    refine va_mmax hx hb hml2 hown (hts _ (jk_sub _ (so_in1_in (jk_at 47 rfl)))) (hts _ (jk_sub _ (so_in1_in so_f21.1))) (hts _ (jk_sub _ (so_in1_in so_f21.2.2.1))) (hts _ (jk_sub _ (so_in1_in so_f22.1))) (Nat.le_of_ble_eq_true rfl) (Nat.le_of_ble_eq_true rfl) (Nat.zero_le _) (Nat.zero_le _) jd_iol_11 ?_
    have e0 : (if (0 : Int32) < 0 then (0 : Int32) else 0) = 0 := by decide
    rw [e0]
    refine lv_istore_n (i := 2) (lv' := [(2, .int 0), (0, .ref v0), (1, .int x), (3, .int 4)]) hx hb jd_iol_14 rfl hl (by decide) rfl (fun ls hl => ?_)
    have hml2 : c.maxLocals = ls.size := hml.trans hl.1.symm
    refine lv_iload_n hx hb jd_iol_15 rfl (lv_at hl 3 rfl) ?_
    refine lv_aload_n hx hb jd_iol_16 rfl (lv_at hl 1 rfl) ?_
    refine va_tlen (v := 4) hx hb hB hS rfl jd_iol_17 ?_
    refine va_mmin hx hb hml2 hown (hts _ (jk_sub _ (so_in1_in (jk_at 48 rfl)))) (hts _ (jk_sub _ (so_in1_in so_f21.2.1))) (hts _ (jk_sub _ (so_in1_in so_f21.2.2.1))) (hts _ (jk_sub _ (so_in1_in so_f22.2))) (Nat.le_of_ble_eq_true rfl) (Nat.le_of_ble_eq_true rfl) (Nat.zero_le _) (Nat.zero_le _) jd_iol_18 ?_
    have e4 : (if (4 : Int32) < 4 then (4 : Int32) else 4) = 4 := by decide
    rw [e4]
    refine lv_istore_n (i := 3) (lv' := [(3, .int 4), (2, .int 0), (0, .ref v0), (1, .int x)]) hx hb jd_iol_21 rfl hl (by decide) rfl (fun ls hl => ?_)
    refine lv_iload_n hx hb jd_iol_22 rfl (lv_at hl 1 rfl) ?_
    refine lv_iload_n hx hb jd_iol_23 rfl (lv_at hl 0 rfl) ?_
    refine lv_icmp_lt (tgt := 29) hx hb jd_iol_24 rfl (fun _ => ?_) (fun h => absurd (by decide) h)
    refine lv_aload_n hx hb jd_iol_29 rfl (lv_at hl 2 rfl) ?_
    refine lv_iload_n hx hb jd_iol_30 rfl (lv_at hl 3 rfl) ?_
    refine lv_iload_n hx hb jd_iol_31 rfl (lv_at hl 1 rfl) ?_
    refine lv_iload_n hx hb jd_iol_32 rfl (lv_at hl 0 rfl) ?_
    refine va_calli (va_runS (As := [.ref v0, .int x, .int 0, .int 4]) (rest := []) ⟨hx, hb, hml, hown, hts⟩ (c_ioc l v0 f x) ⟨callB_of 4 hts (jk_good jk_sub (jk_at 11 rfl)) rfl rfl rfl (hts _ (jk_sub _ (so_in1_in (jk_at 31 rfl)))) (hts _ (jk_sub _ (so_in1_in (jk_at 45 rfl)))) ⟨by decide, by decide, by decide +kernel⟩ ⟨Nat.le_of_ble_eq_true rfl, Nat.le_of_ble_eq_true rfl⟩, (hts _ (jk_sub _ (so_in1_in (jk_at 12 rfl))))⟩ ⟨fun a U g mk q => ⟨q.1, va_T.moved (u := U) (U := U.calling g mk a) (Vm.Alike.refl U.vm) q.2⟩, fun U hU hW => ⟨rfl, by dsimp only; rw [hU]; exact va_T.moved hW.alike (hB.kept hS.2.1)⟩⟩ rfl rfl hl.1 rfl (lv_room (Nat.le_of_ble_eq_true rfl)) jd_iol_33 ⟨Nat.zero_le _, Nat.zero_le _⟩) hS (fun q _ h => h) (fun q h => h) (fun r u t H1 locs ht hvm hpost hBB hz1 hk1 hS => ?_)
    subst hpost
    exact W.iret (v := jk_lp f x.toInt8.toInt32 4 0) hx hb hr (fun t ht hW => ⟨⟨jk_lp f x.toInt8.toInt32 4 0, (), rfl, by unfold jk_ix; rw [if_neg h], trivial⟩, hS.F ht⟩) hS.2.2 jd_iol_36
  · refine lv_iconst (v := -1) hx hb jd_iol_7 (by decide) ?_
    exact W.iret (v := -1) hx hb hr (fun t ht hW => ⟨⟨-1, (), rfl, by unfold jk_ix; rw [if_pos h], trivial⟩, hS.F ht⟩) hS.2.2 jd_iol_8
set_option maxHeartbeats 4000000 in
set_option maxRecDepth 100000 in
theorem c_io2 (l : Launch) (h0 v0 : Nat) (f : Nat → Int32) (x : Int32) : Met l jy_io2 jw_io2 ({ frames := 2, cells := 0, slots := 0, locals := 120 }) (va_Pc [.ref h0, .int x, .int 0] (fun U => so_T1 h0 v0 f jF U U.heap ∧ so_T2 jF U U.heap)) (va_Qi (fun (r : Int32) (_ : Unit) => r = jk_ix f x) (fun _ _ => True) jF) 0 0 jF := by
  refine Met.ofW (cc := prog_20_method_80_code) (maxL := 3) (ret := (some .int)) (by decide) rfl ?_
  intro p e s m args below meth c s₁ B hml hv
  obtain ⟨rfl, hB⟩ := hv
  have hx := B.exec
  have hb := B.bytes
  have hr := B.returns
  have hts := atoms_spec (ws := jw_io2) B.pre
  have hown : s.vm.findClass "java/lang/String" = some m.cls := findClass_of_methodNamed B.named
  have hlocks := B.notSynchronized
  have hS : va_S jF s.heap s.heap [] := va_S.rf
  have hl := lv_entry ([.ref h0, .int x, .int 0]) (n := 3) (Nat.le_of_ble_eq_true rfl)
  rw [lg_entry_eq]
  generalize (lg_sl ([.ref h0, .int x, .int 0]) ++ List.replicate (3 - (lg_sl ([.ref h0, .int x, .int 0])).length) Slot.unset).toArray = ls at hl ⊢
  have hl : lv_has ls 3 [(0, .ref h0), (1, .int x), (2, .int 0)] := hl
  refine lv_aload_n hx hb jd_io2_0 rfl (lv_at hl 0 rfl) ?_
  refine va_calli (va_runV (As := []) (rest := []) ⟨hx, hb, hml, hown, hts⟩ (c_isl l h0 v0 f) ⟨callB_of 0 hts (jk_good jk_sub (jk_at 0 rfl)) rfl rfl rfl (hts _ (jk_sub _ (so_in1_in (jk_at 30 rfl)))) (hts _ (jk_sub _ (so_in1_in (jk_at 38 rfl)))) ⟨by decide, by decide, by decide +kernel⟩ ⟨Nat.le_of_ble_eq_true rfl, Nat.le_of_ble_eq_true rfl⟩, (hts _ (jk_sub _ (so_in1_in (jk_at 1 rfl)))), (hts _ (jk_sub _ (so_in1_in (jk_at 2 rfl))))⟩ ⟨fun a U g mk q => ⟨q.1, so_T1_mv (u := U) (U := U.calling g mk a) (Vm.Alike.refl U.vm) q.2.1, so_T2_mv (u := U) (U := U.calling g mk a) (Vm.Alike.refl U.vm) q.2.2⟩, by obtain ⟨cell, h1, h2, h3, -⟩ := hB.1.1.kept hS.2.1; exact ⟨cell, h1, h2, h3⟩, fun U hU hW => ⟨rfl, by rw [hU]; exact so_T1_mv hW.alike (so_T1_kp hS.2.1 hB.1), by rw [hU]; exact so_T2_mv hW.alike (so_T2_kp hS.2.1 hB.2)⟩⟩ rfl rfl hl.1 rfl (lv_room (Nat.le_of_ble_eq_true rfl)) jd_io2_1 ⟨Nat.zero_le _, Nat.zero_le _⟩) hS (fun q _ h => h) (fun q h => h) (fun r u t H1 locs ht hvm hpost hBB hz1 hk1 hS => ?_)
  subst hpost
  refine lv_if_eq (tgt := 23) hx hb jd_io2_4 rfl (fun h => absurd h (by decide)) (fun _ => ?_)
  refine lv_aload_n hx hb jd_io2_7 rfl (lv_at hl 0 rfl) ?_
  refine vk_getf hx hb hB.1.2.2.1 hS hown (hts _ (jk_sub _ (so_in1_in (jk_at 35 rfl)))) (fun _ h => h) jd_io2_8 ?_
  refine lv_iload_n hx hb jd_io2_11 rfl (lv_at hl 1 rfl) ?_
  refine lv_iload_n hx hb jd_io2_12 rfl (lv_at hl 2 rfl) ?_
  refine lv_aload_n hx hb jd_io2_13 rfl (lv_at hl 0 rfl) ?_
  refine va_calli (va_runV (As := []) (rest := [.int 0, .int x, .ref v0]) ⟨hx, hb, hml, hown, hts⟩ (c_len l h0 v0 f) ⟨callB_of 0 hts (jk_good jk_sub (jk_at 6 rfl)) rfl rfl rfl (hts _ (jk_sub _ (so_in1_in (jk_at 30 rfl)))) (hts _ (jk_sub _ (so_in1_in (jk_at 39 rfl)))) ⟨by decide, by decide, by decide +kernel⟩ ⟨Nat.le_of_ble_eq_true rfl, Nat.le_of_ble_eq_true rfl⟩, (hts _ (jk_sub _ (so_in1_in (jk_at 7 rfl)))), (hts _ (jk_sub _ (so_in1_in (jk_at 8 rfl))))⟩ ⟨fun a U g mk q => ⟨q.1, so_T1_mv (u := U) (U := U.calling g mk a) (Vm.Alike.refl U.vm) q.2.1, so_T2_mv (u := U) (U := U.calling g mk a) (Vm.Alike.refl U.vm) q.2.2⟩, by obtain ⟨cell, h1, h2, h3, -⟩ := hB.1.1.kept hS.2.1; exact ⟨cell, h1, h2, h3⟩, fun U hU hW => ⟨rfl, by rw [hU]; exact so_T1_mv hW.alike (so_T1_kp hS.2.1 hB.1), by rw [hU]; exact so_T2_mv hW.alike (so_T2_kp hS.2.1 hB.2)⟩⟩ rfl rfl hl.1 rfl (lv_room (Nat.le_of_ble_eq_true rfl)) jd_io2_14 ⟨Nat.zero_le _, Nat.zero_le _⟩) hS (fun q _ h => h) (fun q h => h) (fun r u t H1 locs ht hvm hpost hBB hz1 hk1 hS => ?_)
  subst hpost
  refine va_calli (va_runS (As := [.ref v0, .int x, .int 0, .int 4]) (rest := []) ⟨hx, hb, hml, hown, hts⟩ (c_iol l v0 f x) ⟨callB_of 4 hts (jk_good jk_sub (jk_at 13 rfl)) rfl rfl rfl (hts _ (jk_sub _ (so_in1_in (jk_at 31 rfl)))) (hts _ (jk_sub _ (so_in1_in (jk_at 40 rfl)))) ⟨by decide, by decide, by decide +kernel⟩ ⟨Nat.le_of_ble_eq_true rfl, Nat.le_of_ble_eq_true rfl⟩, (hts _ (jk_sub _ (so_in1_in (jk_at 14 rfl))))⟩ ⟨fun a U g mk q => ⟨q.1, va_T.moved (u := U) (U := U.calling g mk a) (Vm.Alike.refl U.vm) q.2⟩, fun U hU hW => ⟨rfl, by dsimp only; rw [hU]; exact va_T.moved hW.alike (hB.1.2.2.2.kept hS.2.1)⟩⟩ rfl rfl hl.1 rfl (lv_room (Nat.le_of_ble_eq_true rfl)) jd_io2_17 ⟨Nat.zero_le _, Nat.zero_le _⟩) hS (fun q _ h => h) (fun q h => h) (fun r u t H1 locs ht hvm hpost hBB hz1 hk1 hS => ?_)
  subst hpost
  refine lv_goto (tgt := 36) hx hb jd_io2_20 rfl ?_
  exact W.iret (v := jk_ix f x) hx hb hr (fun t ht hW => ⟨⟨jk_ix f x, (), rfl, rfl, trivial⟩, hS.F ht⟩) hS.2.2 jd_io2_36
set_option maxHeartbeats 4000000 in
set_option maxRecDepth 100000 in
theorem c_io1 (l : Launch) (h0 v0 : Nat) (f : Nat → Int32) (x : Int32) : Met l jy_io1 jw_io1 ({ frames := 3, cells := 0, slots := 0, locals := 180 }) (va_Pc [.ref h0, .int x] (fun U => so_T1 h0 v0 f jF U U.heap ∧ so_T2 jF U U.heap)) (va_Qi (fun (r : Int32) (_ : Unit) => r = jk_ix f x) (fun _ _ => True) jF) 0 0 jF := by
  refine Met.ofW (cc := prog_20_method_79_code) (maxL := 2) (ret := (some .int)) (by decide) rfl ?_
  intro p e s m args below meth c s₁ B hml hv
  obtain ⟨rfl, hB⟩ := hv
  have hx := B.exec
  have hb := B.bytes
  have hr := B.returns
  have hts := atoms_spec (ws := jw_io1) B.pre
  have hown : s.vm.findClass "java/lang/String" = some m.cls := findClass_of_methodNamed B.named
  have hlocks := B.notSynchronized
  have hS : va_S jF s.heap s.heap [] := va_S.rf
  have hl := lv_entry ([.ref h0, .int x]) (n := 2) (Nat.le_of_ble_eq_true rfl)
  rw [lg_entry_eq]
  generalize (lg_sl ([.ref h0, .int x]) ++ List.replicate (2 - (lg_sl ([.ref h0, .int x])).length) Slot.unset).toArray = ls at hl ⊢
  have hl : lv_has ls 2 [(0, .ref h0), (1, .int x)] := hl
  refine lv_aload_n hx hb jd_io1_0 rfl (lv_at hl 0 rfl) ?_
  refine lv_iload_n hx hb jd_io1_1 rfl (lv_at hl 1 rfl) ?_
  refine lv_iconst (v := 0) hx hb jd_io1_2 (by decide) ?_
  refine va_calli (va_runV (As := [.int x, .int 0]) (rest := []) ⟨hx, hb, hml, hown, hts⟩ (c_io2 l h0 v0 f x) ⟨callB_of 2 hts (jk_good jk_sub (jk_at 15 rfl)) rfl rfl rfl (hts _ (jk_sub _ (so_in1_in (jk_at 30 rfl)))) (hts _ (jk_sub _ (so_in1_in (jk_at 41 rfl)))) ⟨by decide, by decide, by decide +kernel⟩ ⟨Nat.le_of_ble_eq_true rfl, Nat.le_of_ble_eq_true rfl⟩, (hts _ (jk_sub _ (so_in1_in (jk_at 16 rfl)))), (hts _ (jk_sub _ (so_in1_in (jk_at 17 rfl))))⟩ ⟨fun a U g mk q => ⟨q.1, so_T1_mv (u := U) (U := U.calling g mk a) (Vm.Alike.refl U.vm) q.2.1, so_T2_mv (u := U) (U := U.calling g mk a) (Vm.Alike.refl U.vm) q.2.2⟩, by obtain ⟨cell, h1, h2, h3, -⟩ := hB.1.1.kept hS.2.1; exact ⟨cell, h1, h2, h3⟩, fun U hU hW => ⟨rfl, by rw [hU]; exact so_T1_mv hW.alike (so_T1_kp hS.2.1 hB.1), by rw [hU]; exact so_T2_mv hW.alike (so_T2_kp hS.2.1 hB.2)⟩⟩ rfl rfl hl.1 rfl (lv_room (Nat.le_of_ble_eq_true rfl)) jd_io1_3 ⟨Nat.zero_le _, Nat.zero_le _⟩) hS (fun q _ h => h) (fun q h => h) (fun r u t H1 locs ht hvm hpost hBB hz1 hk1 hS => ?_)
  subst hpost
  exact W.iret (v := jk_ix f x) hx hb hr (fun t ht hW => ⟨⟨jk_ix f x, (), rfl, rfl, trivial⟩, hS.F ht⟩) hS.2.2 jd_io1_6
set_option maxHeartbeats 4000000 in
set_option maxRecDepth 100000 in
theorem c_pcir (l : Launch) (i n : Int32) (h1 : ¬ i < 0) (h2 : i < n) (a : Nat) : Met l jy_pci jw_pci ({ frames := 0, cells := 0, slots := 0, locals := 0 }) (va_Pc [.int i, .int n, (.ref a)] (fun U => True)) (va_Qi (fun (r : Int32) (_ : Unit) => r = i) (fun _ _ => True) jF) 0 0 jF := by
  refine Met.ofW (cc := prog_26_method_11_code) (maxL := 3) (ret := (some .int)) (by decide) rfl ?_
  intro p e s m args below meth c s₁ B hml hv
  obtain ⟨rfl, hB⟩ := hv
  have hx := B.exec
  have hb := B.bytes
  have hr := B.returns
  have hts := atoms_spec (ws := jw_pci) B.pre
  have hown : s.vm.findClass "jdk/internal/util/Preconditions" = some m.cls := findClass_of_methodNamed B.named
  have hlocks := B.notSynchronized
  have hS : va_S jF s.heap s.heap [] := va_S.rf
  have hl := lv_entry ([.int i, .int n, (.ref a)]) (n := 3) (Nat.le_of_ble_eq_true rfl)
  rw [lg_entry_eq]
  generalize (lg_sl ([.int i, .int n, (.ref a)]) ++ List.replicate (3 - (lg_sl ([.int i, .int n, (.ref a)])).length) Slot.unset).toArray = ls at hl ⊢
  have hl : lv_has ls 3 [(0, .int i), (1, .int n), (2, (.ref a))] := hl
  refine lv_iload_n hx hb jd_pci_0 rfl (lv_at hl 0 rfl) ?_
  refine lv_if_lt (tgt := 9) hx hb jd_pci_1 rfl (fun h => absurd h h1) (fun _ => ?_)
  refine lv_iload_n hx hb jd_pci_4 rfl (lv_at hl 0 rfl) ?_
  refine lv_iload_n hx hb jd_pci_5 rfl (lv_at hl 1 rfl) ?_
  refine lv_icmp_lt (tgt := 16) hx hb jd_pci_6 rfl (fun _ => ?_) (fun h => absurd h2 h)
  refine lv_iload_n hx hb jd_pci_16 rfl (lv_at hl 0 rfl) ?_
  exact W.iret (v := i) hx hb hr (fun t ht hW => ⟨⟨i, (), rfl, rfl, trivial⟩, hS.F ht⟩) hS.2.2 jd_pci_17
set_option maxHeartbeats 4000000 in
set_option maxRecDepth 100000 in
theorem c_pcin (l : Launch) (i n : Int32) (h1 : ¬ i < 0) (h2 : i < n) : Met l jy_pci jw_pci ({ frames := 0, cells := 0, slots := 0, locals := 0 }) (va_Pc [.int i, .int n, .null] (fun U => True)) (va_Qi (fun (r : Int32) (_ : Unit) => r = i) (fun _ _ => True) jF) 0 0 jF := by
  refine Met.ofW (cc := prog_26_method_11_code) (maxL := 3) (ret := (some .int)) (by decide) rfl ?_
  intro p e s m args below meth c s₁ B hml hv
  obtain ⟨rfl, hB⟩ := hv
  have hx := B.exec
  have hb := B.bytes
  have hr := B.returns
  have hts := atoms_spec (ws := jw_pci) B.pre
  have hown : s.vm.findClass "jdk/internal/util/Preconditions" = some m.cls := findClass_of_methodNamed B.named
  have hlocks := B.notSynchronized
  have hS : va_S jF s.heap s.heap [] := va_S.rf
  have hl := lv_entry ([.int i, .int n, .null]) (n := 3) (Nat.le_of_ble_eq_true rfl)
  rw [lg_entry_eq]
  generalize (lg_sl ([.int i, .int n, .null]) ++ List.replicate (3 - (lg_sl ([.int i, .int n, .null])).length) Slot.unset).toArray = ls at hl ⊢
  have hl : lv_has ls 3 [(0, .int i), (1, .int n), (2, .null)] := hl
  refine lv_iload_n hx hb jd_pci_0 rfl (lv_at hl 0 rfl) ?_
  refine lv_if_lt (tgt := 9) hx hb jd_pci_1 rfl (fun h => absurd h h1) (fun _ => ?_)
  refine lv_iload_n hx hb jd_pci_4 rfl (lv_at hl 0 rfl) ?_
  refine lv_iload_n hx hb jd_pci_5 rfl (lv_at hl 1 rfl) ?_
  refine lv_icmp_lt (tgt := 16) hx hb jd_pci_6 rfl (fun _ => ?_) (fun h => absurd h2 h)
  refine lv_iload_n hx hb jd_pci_16 rfl (lv_at hl 0 rfl) ?_
  exact W.iret (v := i) hx hb hr (fun t ht hW => ⟨⟨i, (), rfl, rfl, trivial⟩, hS.F ht⟩) hS.2.2 jd_pci_17
theorem jk_ref {v : Value} (h : v.isRef = true) : v = .null ∨ ∃ a, v = .ref a := by
  cases v <;> first | exact Or.inl rfl | exact Or.inr ⟨_, rfl⟩ | cases h
set_option maxHeartbeats 4000000 in
set_option maxRecDepth 100000 in
theorem c_sci (l : Launch) (i n : Int32) (h1 : ¬ i < 0) (h2 : i < n) : Met l jy_sci jw_sci ({ frames := 1, cells := 0, slots := 0, locals := 40 }) (va_Pc [.int i, .int n] (fun U => so_T2 jF U U.heap)) (va_Qv (fun (_ : Unit) => True) (fun _ _ => True) jF) 0 0 jF := by
  refine Met.ofW (cc := prog_20_method_155_code) (maxL := 2) (ret := none) (by decide) rfl ?_
  intro p e s m args below meth c s₁ B hml hv
  obtain ⟨rfl, hB⟩ := hv
  have hx := B.exec
  have hb := B.bytes
  have hr := B.returns
  have hts := atoms_spec (ws := jw_sci) B.pre
  have hown : s.vm.findClass "java/lang/String" = some m.cls := findClass_of_methodNamed B.named
  have hlocks := B.notSynchronized
  have hS : va_S jF s.heap s.heap [] := va_S.rf
  have hl := lv_entry ([.int i, .int n]) (n := 2) (Nat.le_of_ble_eq_true rfl)
  rw [lg_entry_eq]
  generalize (lg_sl ([.int i, .int n]) ++ List.replicate (2 - (lg_sl ([.int i, .int n])).length) Slot.unset).toArray = ls at hl ⊢
  have hl : lv_has ls 2 [(0, .int i), (1, .int n)] := hl
  obtain ⟨-, v, hv1, hv2, hZ⟩ := hB
  refine lv_iload_n hx hb jd_sci_0 rfl (lv_at hl 0 rfl) ?_
  refine lv_iload_n hx hb jd_sci_1 rfl (lv_at hl 1 rfl) ?_
  refine va_gets hx hb hZ hS hown (hts _ (jk_sub _ (so_in1_in (jk_at 36 rfl)))) (fun _ h => h) jd_sci_2 ?_
  rcases jk_ref hv2 with rfl | ⟨a, rfl⟩
  · refine va_calli (va_runS (As := [.int i, .int n, .null]) (rest := []) ⟨hx, hb, hml, hown, hts⟩ (c_pcin l i n h1 h2) ⟨callB_of 3 hts (jk_good jk_sub (jk_at 21 rfl)) rfl rfl rfl (hts _ (jk_sub _ (so_in1_in (jk_at 32 rfl)))) (hts _ (jk_sub _ (so_in1_in (jk_at 42 rfl)))) ⟨by decide, by decide, by decide +kernel⟩ ⟨Nat.le_of_ble_eq_true rfl, Nat.le_of_ble_eq_true rfl⟩, (hts _ (jk_sub _ (so_in1_in (jk_at 22 rfl))))⟩ ⟨fun a U g mk q => ⟨q.1, trivial⟩, fun U hU hW => ⟨rfl, trivial⟩⟩ rfl rfl hl.1 rfl (lv_room (Nat.le_of_ble_eq_true rfl)) jd_sci_5 ⟨Nat.zero_le _, Nat.zero_le _⟩) hS (fun q _ h => h) (fun q h => h) (fun r u t H1 locs ht hvm hpost hBB hz1 hk1 hS => ?_)
    refine lv_pop hx hb jd_sci_8 rfl ?_
    exact W.vret hx hb hr (fun t ht hW => ⟨⟨(), rfl, trivial, trivial⟩, hS.F ht⟩) hS.2.2 jd_sci_9
  · refine va_calli (va_runS (As := [.int i, .int n, .ref a]) (rest := []) ⟨hx, hb, hml, hown, hts⟩ (c_pcir l i n h1 h2 a) ⟨callB_of 3 hts (jk_good jk_sub (jk_at 21 rfl)) rfl rfl rfl (hts _ (jk_sub _ (so_in1_in (jk_at 32 rfl)))) (hts _ (jk_sub _ (so_in1_in (jk_at 42 rfl)))) ⟨by decide, by decide, by decide +kernel⟩ ⟨Nat.le_of_ble_eq_true rfl, Nat.le_of_ble_eq_true rfl⟩, (hts _ (jk_sub _ (so_in1_in (jk_at 22 rfl))))⟩ ⟨fun a U g mk q => ⟨q.1, trivial⟩, fun U hU hW => ⟨rfl, trivial⟩⟩ rfl rfl hl.1 rfl (lv_room (Nat.le_of_ble_eq_true rfl)) jd_sci_5 ⟨Nat.zero_le _, Nat.zero_le _⟩) hS (fun q _ h => h) (fun q h => h) (fun r u t H1 locs ht hvm hpost hBB hz1 hk1 hS => ?_)
    refine lv_pop hx hb jd_sci_8 rfl ?_
    exact W.vret hx hb hr (fun t ht hW => ⟨⟨(), rfl, trivial, trivial⟩, hS.F ht⟩) hS.2.2 jd_sci_9
def jk_cv (f : Nat → Int32) (i : Int32) : Int32 := ((f i.toNatClampNeg &&& 255).toUInt32 % 65536).toInt32
set_option maxHeartbeats 4000000 in
set_option maxRecDepth 100000 in
theorem c_lca (l : Launch) (v0 : Nat) (f : Nat → Int32) (i : Int32) (h1 : ¬ i < 0) (h2 : i < 4) (h3 : vp_in i 4) (h4 : narrow .char (.int (jk_cv f i)) = .int (jk_cv f i)) : Met l jy_lca jw_lca ({ frames := 2, cells := 0, slots := 0, locals := 80 }) (va_Pc [.ref v0, .int i] (fun U => va_T .byte v0 4 (fun j => .int (f j)) jF U U.heap ∧ so_T2 jF U U.heap)) (va_Qi (fun (r : Int32) (_ : Unit) => r = jk_cv f i) (fun _ _ => True) jF) 0 0 jF := by
  refine Met.ofW (cc := prog_21_method_2_code) (maxL := 2) (ret := (some .char)) (by decide) rfl ?_
  intro p e s m args below meth c s₁ B hml hv
  obtain ⟨rfl, hB⟩ := hv
  have hx := B.exec
  have hb := B.bytes
  have hr := B.returns
  have hts := atoms_spec (ws := jw_lca) B.pre
  have hown : s.vm.findClass "java/lang/StringLatin1" = some m.cls := findClass_of_methodNamed B.named
  have hlocks := B.notSynchronized
  have hS : va_S jF s.heap s.heap [] := va_S.rf
  have hl := lv_entry ([.ref v0, .int i]) (n := 2) (Nat.le_of_ble_eq_true rfl)
  rw [lg_entry_eq]
  generalize (lg_sl ([.ref v0, .int i]) ++ List.replicate (2 - (lg_sl ([.ref v0, .int i])).length) Slot.unset).toArray = ls at hl ⊢
  have hl : lv_has ls 2 [(0, .ref v0), (1, .int i)] := hl
  refine lv_iload_n hx hb jd_lca_0 rfl (lv_at hl 1 rfl) ?_
  refine lv_aload_n hx hb jd_lca_1 rfl (lv_at hl 0 rfl) ?_
  refine va_tlen (v := 4) hx hb hB.1 hS rfl jd_lca_2 ?_
  refine va_callv (va_runS (As := [.int i, .int 4]) (rest := []) ⟨hx, hb, hml, hown, hts⟩ (c_sci l i 4 h1 h2) ⟨callB_of 2 hts (jk_good jk_sub (jk_at 23 rfl)) rfl rfl rfl (hts _ (jk_sub _ (so_in1_in (jk_at 30 rfl)))) (hts _ (jk_sub _ (so_in1_in (jk_at 46 rfl)))) ⟨by decide, by decide, by decide +kernel⟩ ⟨Nat.le_of_ble_eq_true rfl, Nat.le_of_ble_eq_true rfl⟩, (hts _ (jk_sub _ (so_in1_in (jk_at 24 rfl))))⟩ ⟨fun a U g mk q => ⟨q.1, so_T2_mv (u := U) (U := U.calling g mk a) (Vm.Alike.refl U.vm) q.2⟩, fun U hU hW => ⟨rfl, by dsimp only; rw [hU]; exact so_T2_mv hW.alike (so_T2_kp hS.2.1 hB.2)⟩⟩ rfl rfl hl.1 rfl (lv_room (Nat.le_of_ble_eq_true rfl)) jd_lca_3 ⟨Nat.zero_le _, Nat.zero_le _⟩) hS (fun q _ h => h) (fun q h => h) (fun u t H1 locs ht hvm hpost hBB hz1 hk1 hS => ?_)
  refine lv_aload_n hx hb jd_lca_6 rfl (lv_at hl 0 rfl) ?_
  refine lv_iload_n hx hb jd_lca_7 rfl (lv_at hl 1 rfl) ?_
  refine va_tb hx hb hB.1 hS h3 (v := .int (f i.toNatClampNeg)) rfl jd_lca_8 ?_
  refine lv_sipush (v := 255) hx hb jd_lca_9 (by decide) ?_
  refine lv_iand hx hb jd_lca_12 ?_
  refine lv_i2c (v := jk_cv f i) hx hb jd_lca_13 rfl ?_
  exact W.zret (v := jk_cv f i) hx hb hr h4 (fun t ht hW => ⟨⟨jk_cv f i, (), rfl, rfl, trivial⟩, hS.F ht⟩) hS.2.2 jd_lca_14
set_option maxHeartbeats 4000000 in
set_option maxRecDepth 100000 in
theorem c_sca (l : Launch) (h0 v0 : Nat) (f : Nat → Int32) (i : Int32) (h1 : ¬ i < 0) (h2 : i < 4) (h3 : vp_in i 4) (h4 : narrow .char (.int (jk_cv f i)) = .int (jk_cv f i)) : Met l jy_sca jw_sca ({ frames := 3, cells := 0, slots := 0, locals := 140 }) (va_Pc [.ref h0, .int i] (fun U => so_T1 h0 v0 f jF U U.heap ∧ so_T2 jF U U.heap)) (va_Qi (fun (r : Int32) (_ : Unit) => r = jk_cv f i) (fun _ _ => True) jF) 0 0 jF := by
  refine Met.ofW (cc := prog_20_method_56_code) (maxL := 2) (ret := (some .char)) (by decide) rfl ?_
  intro p e s m args below meth c s₁ B hml hv
  obtain ⟨rfl, hB⟩ := hv
  have hx := B.exec
  have hb := B.bytes
  have hr := B.returns
  have hts := atoms_spec (ws := jw_sca) B.pre
  have hown : s.vm.findClass "java/lang/String" = some m.cls := findClass_of_methodNamed B.named
  have hlocks := B.notSynchronized
  have hS : va_S jF s.heap s.heap [] := va_S.rf
  have hl := lv_entry ([.ref h0, .int i]) (n := 2) (Nat.le_of_ble_eq_true rfl)
  rw [lg_entry_eq]
  generalize (lg_sl ([.ref h0, .int i]) ++ List.replicate (2 - (lg_sl ([.ref h0, .int i])).length) Slot.unset).toArray = ls at hl ⊢
  have hl : lv_has ls 2 [(0, .ref h0), (1, .int i)] := hl
  refine lv_aload_n hx hb jd_sca_0 rfl (lv_at hl 0 rfl) ?_
  refine va_calli (va_runV (As := []) (rest := []) ⟨hx, hb, hml, hown, hts⟩ (c_isl l h0 v0 f) ⟨callB_of 0 hts (jk_good jk_sub (jk_at 0 rfl)) rfl rfl rfl (hts _ (jk_sub _ (so_in1_in (jk_at 30 rfl)))) (hts _ (jk_sub _ (so_in1_in (jk_at 38 rfl)))) ⟨by decide, by decide, by decide +kernel⟩ ⟨Nat.le_of_ble_eq_true rfl, Nat.le_of_ble_eq_true rfl⟩, (hts _ (jk_sub _ (so_in1_in (jk_at 1 rfl)))), (hts _ (jk_sub _ (so_in1_in (jk_at 2 rfl))))⟩ ⟨fun a U g mk q => ⟨q.1, so_T1_mv (u := U) (U := U.calling g mk a) (Vm.Alike.refl U.vm) q.2.1, so_T2_mv (u := U) (U := U.calling g mk a) (Vm.Alike.refl U.vm) q.2.2⟩, by obtain ⟨cell, h1, h2, h3, -⟩ := hB.1.1.kept hS.2.1; exact ⟨cell, h1, h2, h3⟩, fun U hU hW => ⟨rfl, by rw [hU]; exact so_T1_mv hW.alike (so_T1_kp hS.2.1 hB.1), by rw [hU]; exact so_T2_mv hW.alike (so_T2_kp hS.2.1 hB.2)⟩⟩ rfl rfl hl.1 rfl (lv_room (Nat.le_of_ble_eq_true rfl)) jd_sca_1 ⟨Nat.zero_le _, Nat.zero_le _⟩) hS (fun q _ h => h) (fun q h => h) (fun r u t H1 locs ht hvm hpost hBB hz1 hk1 hS => ?_)
  subst hpost
  refine lv_if_eq (tgt := 16) hx hb jd_sca_4 rfl (fun h => absurd h (by decide)) (fun _ => ?_)
  refine lv_aload_n hx hb jd_sca_7 rfl (lv_at hl 0 rfl) ?_
  refine vk_getf hx hb hB.1.2.2.1 hS hown (hts _ (jk_sub _ (so_in1_in (jk_at 35 rfl)))) (fun _ h => h) jd_sca_8 ?_
  refine lv_iload_n hx hb jd_sca_11 rfl (lv_at hl 1 rfl) ?_
  refine va_calli (va_runS (As := [.ref v0, .int i]) (rest := []) ⟨hx, hb, hml, hown, hts⟩ (c_lca l v0 f i h1 h2 h3 h4) ⟨callB_of 2 hts (jk_good jk_sub (jk_at 25 rfl)) rfl rfl rfl (hts _ (jk_sub _ (so_in1_in (jk_at 31 rfl)))) (hts _ (jk_sub _ (so_in1_in (jk_at 43 rfl)))) ⟨by decide, by decide, by decide +kernel⟩ ⟨Nat.le_of_ble_eq_true rfl, Nat.le_of_ble_eq_true rfl⟩, (hts _ (jk_sub _ (so_in1_in (jk_at 26 rfl))))⟩ ⟨fun a U g mk q => ⟨q.1, va_T.moved (u := U) (U := U.calling g mk a) (Vm.Alike.refl U.vm) q.2.1, so_T2_mv (u := U) (U := U.calling g mk a) (Vm.Alike.refl U.vm) q.2.2⟩, fun U hU hW => ⟨rfl, by rw [hU]; exact va_T.moved hW.alike (hB.1.2.2.2.kept hS.2.1), by rw [hU]; exact so_T2_mv hW.alike (so_T2_kp hS.2.1 hB.2)⟩⟩ rfl rfl hl.1 rfl (lv_room (Nat.le_of_ble_eq_true rfl)) jd_sca_12 ⟨Nat.zero_le _, Nat.zero_le _⟩) hS (fun q _ h => h) (fun q h => h) (fun r u t H1 locs ht hvm hpost hBB hz1 hk1 hS => ?_)
  subst hpost
  exact W.zret (v := jk_cv f i) hx hb hr h4 (fun t ht hW => ⟨⟨jk_cv f i, (), rfl, rfl, trivial⟩, hS.F ht⟩) hS.2.2 jd_sca_15
theorem am_n0 {st : List am_V} {σ : am_S} {q : Prop × List am_V × am_S} (h : am_n 0 st σ = some q) : ∃ (c : Int) (s : Nat) (st0 : List am_V), st = .inl c :: .inr (.inr (90, s)) :: st0 ∧ q = ((0 ≤ c ∧ c < 65536), .inl (am_ix s c) :: st0, σ) := by
  unfold am_n at h
  split at h <;> cases h <;> first | exact ⟨_, _, _, rfl, rfl⟩ | (exfalso; omega)
theorem am_n1 {st : List am_V} {σ : am_S} {q : Prop × List am_V × am_S} (h : am_n 1 st σ = some q) : ∃ (x : Int) (s : Nat) (st0 : List am_V), st = .inl x :: .inr (.inr (90, s)) :: st0 ∧ q = ((0 ≤ x ∧ x < 4), .inl (am_ch s x) :: st0, σ) := by
  unfold am_n at h
  split at h <;> cases h <;> first | exact ⟨_, _, _, rfl, rfl⟩ | (exfalso; omega)
set_option maxRecDepth 100000 in
theorem jk_ix0 : ∀ s, s < 2 → ∀ x, x < 256 → jk_ix (fun j => (so_txt s).getD j 0) (Int32.ofInt (x : Nat)) = Int32.ofInt (am_ix s (x : Nat)) := by decide +kernel
theorem jk_ixe {s : Nat} (hs : s < 2) {x : Int} (hx : 0 ≤ x ∧ x < 65536) : jk_ix (fun j => (so_txt s).getD j 0) (Int32.ofInt x) = Int32.ofInt (am_ix s x) := by
  by_cases h : x < 256
  · have h1 := jk_ix0 s hs x.toNat (by omega)
    have e : ((x.toNat : Nat) : Int) = x := by omega
    rw [e] at h1
    exact h1
  · have e1 : ¬ Int32.ofInt x < 0 := by
      have := (so_lt (x := x) (y := 0) ⟨by omega, by omega⟩ ⟨by decide, by decide⟩)
      exact fun q => by have := this.mp q; omega
    have e2 : 255 < Int32.ofInt x := (so_lt (x := 255) (y := x) ⟨by decide, by decide⟩ ⟨by omega, by omega⟩).mpr (by omega)
    unfold jk_ix
    rw [if_neg e1, if_pos e2, if_pos rfl]
    have e3 : am_ix s x = -1 := by
      unfold am_ix
      rw [if_neg]
      have hl : ∀ s, s < 2 → (am_txt s).length = 4 ∧ ∀ y ∈ am_txt s, y < 256 := by decide
      have hn : x ∉ am_txt s := fun q => by have := (hl s hs).2 x q; omega
      intro h9
      rw [← (hl s hs).1] at h9
      exact hn (List.idxOf_lt_length_iff.mp h9)
    rw [e3]
    rfl
set_option maxRecDepth 100000 in
theorem jk_cve : ∀ s, s < 2 → ∀ i, i < 4 → jk_cv (fun j => (so_txt s).getD j 0) (Int32.ofInt (i : Nat)) = Int32.ofInt (am_ch s (i : Nat)) ∧ ¬ Int32.ofInt (i : Nat) < 0 ∧ Int32.ofInt (i : Nat) < 4 ∧ (Int32.ofInt (i : Nat)).toNatClampNeg < 4 ∧ narrow .char (.int (jk_cv (fun j => (so_txt s).getD j 0) (Int32.ofInt (i : Nat)))) = .int (jk_cv (fun j => (so_txt s).getD j 0) (Int32.ofInt (i : Nat))) ∧ 0 ≤ am_ch s (i : Nat) ∧ am_ch s (i : Nat) < 65536 := by decide +kernel
set_option maxRecDepth 100000 in
theorem so_f60 : ∀ q ∈ so_js, (q.2.2.1 = 0 → so_wd q.2.2.2 (.methodLink (sR q.1) q.2.1 jy_io1) = true) ∧ (q.2.2.1 = 1 → so_wd q.2.2.2 (.methodLink (sR q.1) q.2.1 jy_sca) = true) := by decide +kernel
theorem am_ix_rg0 (s : Nat) (c : Int) : -1 ≤ am_ix s c ∧ am_ix s c < 4 := by
  unfold am_ix
  split <;> omega
theorem jk_90 {i : Nat} (h : so_okv (.inr (.inr (90, i)))) : i < 2 := by
  rcases h with h | h | h | h
  · cases h
  · exact absurd (show (90 : Nat) ∈ so_ks from h.1) (by decide)
  · cases h.1
  · exact h.2
theorem jk_kept {D : va_G} {cl : List vw_C} {ws : va_W} {H H1 : Heap} (h : va_P D cl ws H) (hq : ∀ q : Nat, q < H.size → ¬ jF q → H1[q]? = H[q]?) : va_P D cl ws H1 := h.kept (fun k q hk => hq q.1 ((h k q hk).lt) (fun z => z))
set_option maxHeartbeats 4000000 in
theorem so_strA {Z : so_Z} {A : Nat → Prop} {Y : so_Y} {l : Launch} : so_str Z A Y l := by
  intro p e R s m args below meth c b0 n0 mi d Qt hX hRf hRl hRc hRs pc raw len k ls st σ q hd hok hk hn hq h8 hlen hJ
  obtain ⟨hx, hb, hml, hr, hlk, hown, hts, hG⟩ := id hX
  have hk1 : (decide (so_hh mi = []) && so_js.any (fun q => decide (raw = (if k < 2 then .invokevirtual q.2.1 else .invokestatic q.2.1) ∧ len = 3 ∧ q.1 = so_ow mi ∧ q.2.2.1 = k))) = true := hok
  rw [Bool.and_eq_true, List.any_eq_true] at hk1
  obtain ⟨-, z, hz, hz1⟩ := hk1
  obtain ⟨e1, e2, e3, e4⟩ := of_decide_eq_true hz1
  rw [if_pos (by omega)] at e1
  subst e1
  subst e2
  obtain ⟨f0, f1⟩ := so_f60 z hz
  obtain ⟨-, -, -, -, -, ⟨v0, hT1⟩, hT2⟩ := hG
  intro okl okt okσ H locs cells slots lsv stv hP hD hS hc hs hL hst
  obtain ⟨lv, hlv, -⟩ := id hL
  have hcat := (so_S_cat st stv hst).1
  rcases hk with rfl | rfl
  · obtain ⟨x, s9, st0, rfl, rfl⟩ := am_n0 hn
    obtain ⟨r1, rfl, q1⟩ := so_S_i hst
    obtain ⟨r2, rfl, q2⟩ := so_S_r (by decide) q1
    have hs9 := jk_90 (so_okl_hd (so_okl_tl okt))
    have T1 := hT1 s9 hs9
    have hcat2 := (so_S_cat st0 r2 q2).1
    simp only [List.length_cons] at hlen
    refine va_calli (va_runV (As := [.int (Int32.ofInt x)]) (rest := r2) (Ts := so_tb) ⟨hx, hb, hml, hown, hts⟩ (c_io1 l (Z.1 90 s9) (v0 s9) (fun j => (so_txt s9).getD j 0) (Int32.ofInt x)) ⟨callB_of 1 hts (jk_good (fun _ h => h) (jk_at 18 rfl)) rfl rfl rfl (hts _ (so_in1_in (jk_at 30 rfl))) (by rw [← e3]; exact hts _ (so_wd_in (f0 e4))) ⟨by decide, by decide, by decide +kernel⟩ ⟨by show 3 + 1 ≤ R.frames; omega, by show 8 + (2 + 11) + 180 ≤ R.locals; omega⟩, hts _ (so_in1_in (jk_at 19 rfl)), hts _ (so_in1_in (jk_at 20 rfl))⟩ ⟨fun a U g mk q => ⟨q.1, so_T1_mv (u := U) (U := U.calling g mk a) (Vm.Alike.refl U.vm) q.2.1, so_T2_mv (u := U) (U := U.calling g mk a) (Vm.Alike.refl U.vm) q.2.2⟩, by obtain ⟨cell, h1, h2, h3, -⟩ := T1.1.kept hS.2.1; exact ⟨cell, h1, h2, h3⟩, fun U hU hW => ⟨rfl, by rw [hU]; exact so_T1_mv hW.alike (so_T1_nw (so_T1_kp hS.2.1 T1)), by rw [hU]; exact so_T2_mv hW.alike (so_T2_nw (so_T2_kp hS.2.1 hT2))⟩⟩ rfl rfl hlv.1 rfl (lv_room (by omega)) hd ⟨by omega, by omega⟩) hS (fun q _ h => h.elim) (fun q h => h.elim) (fun r u t H1 locs1 ht hvm hpost hBB hz1 hk2 hS1 => ?_)
    subst hpost
    rw [jk_ixe hs9 hq]
    have hir := am_ix_rg0 s9 x
    exact hJ okl (so_okl_cons (show am_rg (am_ix s9 x) from ⟨by omega, by omega⟩) (so_okl_tl (so_okl_tl okt))) okσ H1 locs1 cells slots lsv _ (jk_kept hP hk2) hD hS1 hc hs hL (so_S_c rfl q2)
  · obtain ⟨x, s9, st0, rfl, rfl⟩ := am_n1 hn
    obtain ⟨r1, rfl, q1⟩ := so_S_i hst
    obtain ⟨r2, rfl, q2⟩ := so_S_r (by decide) q1
    have hs9 := jk_90 (so_okl_hd (so_okl_tl okt))
    have T1 := hT1 s9 hs9
    have hcat2 := (so_S_cat st0 r2 q2).1
    have hq2 : 0 ≤ x ∧ x < 4 := hq
    have hc4 := jk_cve s9 hs9 x.toNat (by omega)
    have ex : ((x.toNat : Nat) : Int) = x := by omega
    rw [ex] at hc4
    obtain ⟨k1, k2, k3, k4, k5, k6, k7⟩ := hc4
    simp only [List.length_cons] at hlen
    refine va_calli (va_runV (As := [.int (Int32.ofInt x)]) (rest := r2) (Ts := so_tb) ⟨hx, hb, hml, hown, hts⟩ (c_sca l (Z.1 90 s9) (v0 s9) (fun j => (so_txt s9).getD j 0) (Int32.ofInt x) k2 k3 (by unfold vp_in; rintro (h | h); exact k2 h; omega) k5) ⟨callB_of 1 hts (jk_good (fun _ h => h) (jk_at 27 rfl)) rfl rfl rfl (hts _ (so_in1_in (jk_at 30 rfl))) (by rw [← e3]; exact hts _ (so_wd_in (f1 e4))) ⟨by decide, by decide, by decide +kernel⟩ ⟨by show 3 + 1 ≤ R.frames; omega, by show 8 + (2 + 11) + 140 ≤ R.locals; omega⟩, hts _ (so_in1_in (jk_at 28 rfl)), hts _ (so_in1_in (jk_at 29 rfl))⟩ ⟨fun a U g mk q => ⟨q.1, so_T1_mv (u := U) (U := U.calling g mk a) (Vm.Alike.refl U.vm) q.2.1, so_T2_mv (u := U) (U := U.calling g mk a) (Vm.Alike.refl U.vm) q.2.2⟩, by obtain ⟨cell, h1, h2, h3, -⟩ := T1.1.kept hS.2.1; exact ⟨cell, h1, h2, h3⟩, fun U hU hW => ⟨rfl, by rw [hU]; exact so_T1_mv hW.alike (so_T1_nw (so_T1_kp hS.2.1 T1)), by rw [hU]; exact so_T2_mv hW.alike (so_T2_nw (so_T2_kp hS.2.1 hT2))⟩⟩ rfl rfl hlv.1 rfl (lv_room (by omega)) hd ⟨by omega, by omega⟩) hS (fun q _ h => h.elim) (fun q h => h.elim) (fun r u t H1 locs1 ht hvm hpost hBB hz1 hk6 hS1 => ?_)
    subst hpost
    rw [k1]
    exact hJ okl (so_okl_cons (show am_rg (am_ch s9 x) from ⟨by omega, by omega⟩) (so_okl_tl (so_okl_tl okt))) okσ H1 locs1 cells slots lsv _ (jk_kept hP hk6) hD hS1 hc hs hL (so_S_c rfl q2)

