/-! At the law's entry: what the Statement gives -/
set_option maxRecDepth 100000 in
theorem st_inst : ∀ k, k < 11 → so_in1 (.instantiable (sR (k + 1)) (sN (k + 1))) = true := by decide +kernel
set_option maxRecDepth 100000 in
theorem st_arr : so_in1 (.arrayClass .int) = true ∧ so_in1 (.arrayClass .boolean) = true ∧ so_in1 (.arrayClass .char) = true ∧ so_in1 (.arrayClass .long) = true := by decide +kernel
set_option maxRecDepth 100000 in
theorem st_over : Cond.arrayOver (.object "ProofWorkbench$Node") ∈ lw_tbl ∧ Cond.arrayOver (.object "ProofWorkbench$Proof") ∈ lw_tbl := by decide +kernel
set_option maxRecDepth 100000 in
theorem st_kn : kn_w.all (fun w => decide (w ∈ lw_tbl)) = true := by decide +kernel
section ST
variable {s : State} {args : Array Value}
theorem st_a1 {ty : FieldType} (h : (Cond.arrayClass ty).before args s = true) : ∃ cA, ArrOfT s cA ty ∧ s.vm.findClass ("[" ++ ty.toString) = some cA := by
  obtain ⟨cA, kA, comp, h1, h2, h3⟩ := Cond.arrayClass_spec h
  exact ⟨cA, fun n z => ⟨fun k h => (by cases h), kA, h2, comp, h3⟩, h1⟩
theorem st_a2 {C : String} (h : (Cond.arrayOver (.object C)).before args s = true) : ∃ cA, ArrOfT s cA (.object C) ∧ va_RA s cA (.object C) := by
  obtain ⟨comp, cA, kA, h1, -, h2, h3, h4⟩ := Cond.arrayOver_spec h
  exact ⟨cA, fun n z => ⟨fun k h => (by cases h), kA, h2, comp, h3⟩, kA, comp, h2, h3, h1, h4⟩
theorem st_K (hts : ∀ w ∈ lw_tbl, w.before args s = true) : ∃ (D : va_G) (ca : Nat → ClassId), ∀ f : Nat → Nat → Nat, va_K D so_cl (so_tys (f, D, ca)) s := by
  have htb : ∀ w ∈ so_tb, w.before args s = true := fun w hw => hts w (so_tb_in hw)
  have h0 : ∀ k : Nat, ∃ q : ClassId × (Nat → Nat), k < 11 → u_Kn s (sR (k + 1)) (sT (k + 1)) (sN (k + 1)) q.1 q.2 := by
    intro k
    by_cases hk : k < 11
    · obtain ⟨cC, iS, h⟩ := u_known (n := sN (k + 1)) htb (so_f3 (k + 1) (by omega)) (htb _ (so_in1_in (st_inst k hk)))
      exact ⟨(cC, iS), fun _ => h⟩
    · exact ⟨((0 : Nat), fun _ => 0), fun h => absurd h hk⟩
  obtain ⟨g, hg⟩ := Classical.axiomOfChoice h0
  obtain ⟨c1, a1, b1⟩ := st_a1 (htb _ (so_in1_in st_arr.1))
  obtain ⟨c2, a2, b2⟩ := st_a1 (htb _ (so_in1_in st_arr.2.1))
  obtain ⟨c3, a3, b3⟩ := st_a1 (htb _ (so_in1_in st_arr.2.2.1))
  obtain ⟨c4, a4, b4⟩ := st_a1 (htb _ (so_in1_in st_arr.2.2.2))
  obtain ⟨c5, a5, b5⟩ := st_a2 (hts _ st_over.1)
  obtain ⟨c6, a6, b6⟩ := st_a2 (hts _ st_over.2)
  refine ⟨(fun k => (g k).1, fun k => (g k).2), fun t => if t = 1 then c1 else if t = 2 then c2 else if t = 3 then c3 else if t = 4 then c4 else if t = 13 then c5 else c6, fun f => ⟨fun c q hc => ?_, fun k q hk => ?_⟩⟩
  · unfold so_cl at hc
    rw [List.getElem?_map] at hc
    by_cases hc11 : c < 11
    · rw [List.getElem?_range hc11] at hc
      cases hc
      exact hg c hc11
    · rw [List.getElem?_eq_none (by rw [List.length_range]; omega)] at hc
      cases hc
  · have hlt : k < 6 := (List.getElem?_eq_some_iff.mp hk).1
    have hc : k = 0 ∨ k = 1 ∨ k = 2 ∨ k = 3 ∨ k = 4 ∨ k = 5 := by omega
    rcases hc with rfl | rfl | rfl | rfl | rfl | rfl <;> cases hk
    · exact ⟨a1, b1⟩
    · exact ⟨a2, b2⟩
    · exact ⟨a3, b3⟩
    · exact ⟨a4, b4⟩
    · exact ⟨a5, b5⟩
    · exact ⟨a6, b6⟩
theorem st_G {Z : so_Z} (hts : ∀ w ∈ lw_tbl, w.before args s = true) (hK : va_K Z.2.1 so_cl (so_tys Z) s) : kn_G Z s := by
  refine ⟨hK, fun w hw => ?_, va_AO.of (hts _ st_over.2), va_AO.of (hts _ st_over.1)⟩
  have h1 := of_decide_eq_true (List.all_eq_true.mp st_kn w hw)
  obtain ⟨a, i, x, rfl⟩ := kn_form hw
  exact va_Nw.of rfl (hts _ h1)
theorem st_tS {n d : String} {A : Nat → Prop} (h1 : (Cond.laysStatic "java/lang/Throwable" n d).before args s = true) (h2 : (Cond.initialized "java/lang/Throwable").before args s = true) (h3 : (Cond.isRef (.static "java/lang/Throwable" n d)).before args s = true) (hA : ∀ a : Nat, a < s.heap.size → ¬ A a) : so_tS n d A s := by
  obtain ⟨c, k, i, f, a, cell, hc, hi, hst, ha, hcell, hs, hcls, hlt, hty⟩ := Cond.laysStatic_spec h1
  obtain ⟨v, hv, hr⟩ := Cond.isRef_spec h3
  obtain ⟨hst', a', cell', ha', hcell', -, hslot⟩ := Term.static_spec hi hv
  cases ha.symm.trans ha'
  cases hcell.symm.trans hcell'
  exact ⟨c, k, i, f, a, cell, hc, hi, hst, Cond.initialized_spec hc (State.fieldFound?_spec hi).1 h2, ha, hcell, hs, hcls, hlt, hty, hA a (Array.getElem?_eq_some_iff.mp hcell).1, v, hslot, hr⟩
/-- the words on the strings -/
def st_tm (i : Nat) : Term := if i = 0 then .string "ProofWorkbench$Reader" 81 else .string "ProofWorkbench$Reader" 93
def st_tw (i : Nat) : Term := if i = 0 then .string "ProofWorkbench$Writer" 41 else .string "ProofWorkbench$Writer" 55
set_option maxRecDepth 100000 in
theorem st_n1 : ∀ i, i < 2 → (Cond.exactly (st_tm i) "java/lang/String") ∈ flatC (Jvm.Cond.and given_1 narrow_1) ∧ (Cond.eq (.field (st_tm i) "java/lang/String" "coder" "B") (.int 0)) ∈ flatC (Jvm.Cond.and given_1 narrow_1) ∧ (Cond.arrayOf (.field (st_tm i) "java/lang/String" "value" "[B") .byte) ∈ flatC (Jvm.Cond.and given_1 narrow_1) ∧ (Cond.eq (.length (.field (st_tm i) "java/lang/String" "value" "[B")) (.int 4)) ∈ flatC (Jvm.Cond.and given_1 narrow_1) := by decide +kernel
set_option maxRecDepth 100000 in
theorem st_n2 : ∀ i, i < 2 → ∀ j, j < 4 → (Cond.eq (.elem (.field (st_tm i) "java/lang/String" "value" "[B") (.int (Int32.ofNat j))) (.int ((so_txt i).getD j 0))) ∈ flatC (Jvm.Cond.and given_1 narrow_1) := by decide +kernel
set_option maxRecDepth 100000 in
theorem st_n3 : (Cond.not (Cond.eq (st_tm 0) (st_tm 1))) ∈ flatC (Jvm.Cond.and given_1 narrow_1) ∧ (Cond.eq (st_tm 0) (st_tw 0)) ∈ flatC (Jvm.Cond.and given_1 narrow_1) ∧ (Cond.eq (st_tm 1) (st_tw 1)) ∈ flatC (Jvm.Cond.and given_1 narrow_1) ∧ (Cond.eq (.static "java/lang/String" "COMPACT_STRINGS" "Z") (.int 1)) ∈ flatC (Jvm.Cond.and given_1 narrow_1) ∧ (Cond.isRef (.static "jdk/internal/util/Preconditions" "SIOOBE_FORMATTER" "Ljava/util/function/BiFunction;")) ∈ flatC (Jvm.Cond.and given_1 narrow_1) ∧ (Cond.isRef (.static "java/lang/Throwable" "UNASSIGNED_STACK" "[Ljava/lang/StackTraceElement;")) ∈ flatC (Jvm.Cond.and given_1 narrow_1) ∧ (Cond.isRef (.static "java/lang/Throwable" "SUPPRESSED_SENTINEL" "Ljava/util/List;")) ∈ flatC (Jvm.Cond.and given_1 narrow_1) := by decide +kernel
set_option maxRecDepth 100000 in
theorem st_n4 : ∀ a, a < 5 → ∀ b, b < 5 → ¬ (0 < a ∧ 0 < b ∧ a ≠ b) ∨ Cond.not (.castable (so_en a) (so_en b)) ∈ flatC (Jvm.Cond.and given_1 narrow_1) := by decide +kernel
set_option maxRecDepth 100000 in
theorem st_n5 : Cond.laysStatic "java/lang/String" "COMPACT_STRINGS" "Z" ∈ lw_tbl ∧ Cond.laysStatic "jdk/internal/util/Preconditions" "SIOOBE_FORMATTER" "Ljava/util/function/BiFunction;" ∈ lw_tbl ∧ Cond.laysStatic "java/lang/Throwable" "UNASSIGNED_STACK" "[Ljava/lang/StackTraceElement;" ∈ lw_tbl ∧ Cond.laysStatic "java/lang/Throwable" "SUPPRESSED_SENTINEL" "Ljava/util/List;" ∈ lw_tbl ∧ Cond.initialized "java/lang/String" ∈ lw_tbl ∧ Cond.initialized "jdk/internal/util/Preconditions" ∈ lw_tbl ∧ Cond.initialized "java/lang/Throwable" ∈ lw_tbl := by decide +kernel
set_option maxRecDepth 100000 in
theorem st_n6 : ∀ q ∈ so_ss, Cond.stringRef (sR q.1) q.2.1 (if q.2.2.1 = 0 then "*%+&" else "1F0T") ∈ lw_tbl ∧ q.2.2.1 < 2 ∧ (Term.string (sR q.1) q.2.1 = st_tm q.2.2.1 ∨ Term.string (sR q.1) q.2.1 = st_tw q.2.2.1) := by decide +kernel
theorem st_eqR {t u : Term} {a : Nat} (h : (Cond.eq t u).before args s = true) (ht : t.eval args s none [] s = some (.ref a)) : u.eval args s none [] s = some (.ref a) := by
  cases hu : u.eval args s none [] s with
  | none => simp [Cond.before, Cond.holds, Cond.value, ht, hu] at h
  | some w =>
    simp only [Cond.before, Cond.holds, Cond.value, ht, hu] at h
    cases w <;> simp_all
theorem st_so {Z : so_Z} {A : Nat → Prop} {Y : so_Y} (hts : ∀ w ∈ lw_tbl, w.before args s = true) (hgv : (Jvm.Cond.and given_1 narrow_1).before args s = true) (hA : ∀ a : Nat, a < s.heap.size → ¬ A a) (hK : va_K Z.2.1 so_cl (so_tys Z) s) (hX : va_X Y.1 Y.2.1 Y.2.2 s s.heap) (hb : Y.1 < s.heap.size) (h71 : Z.1 71 0 = Y.1) (hL : Y.2.1 < 2147483648)
    (adV : Nat → Nat) (hS : ∀ i, i < 2 → so_T1 (Z.1 90 i) (adV i) (fun j => (so_txt i).getD j 0) A s s.heap) (hev : ∀ i, i < 2 → (st_tm i).eval args s none [] s = some (.ref (Z.1 90 i))) : so_G Z A Y s := by
  have hs := flat_of_before _ hgv
  refine ⟨hK, fun q hq => ?_, ⟨hX, hb, hA _ hb, h71, hL⟩, fun q hq => ?_, ⟨fun a b h1 h2 h3 h4 h5 => ?_, ?_, ?_, fun w hw => ?_⟩, ⟨adV, hS⟩, ?_, ?_⟩
  · have h1 := so_f2 q hq
    have h2 : so_fnw q ∈ lw_tbl := so_at1_in h1
    exact va_Nw.of rfl (hts _ h2)
  · obtain ⟨h1, h2, h3⟩ := st_n6 q hq
    refine vk_R.of (A := args) (hts _ h1) ?_
    have he := hev _ h2
    rcases h3 with h3 | h3
    · rw [h3]
      exact he
    · rw [h3]
      have hc : q.2.2.1 = 0 ∨ q.2.2.1 = 1 := by omega
      rcases hc with hc | hc
      · rw [hc] at he ⊢
        exact st_eqR (hs _ st_n3.2.1) he
      · rw [hc] at he ⊢
        exact st_eqR (hs _ st_n3.2.2.1) he
  · rcases st_n4 a h2 b h4 with h | h
    · exact absurd ⟨h1, h3, h5⟩ h
    · exact va_Nc.of (hs _ h)
  · exact st_tS (hts _ st_n5.2.2.1) (hts _ st_n5.2.2.2.2.2.2) (hs _ st_n3.2.2.2.2.2.1) hA
  · exact st_tS (hts _ st_n5.2.2.2.1) (hts _ st_n5.2.2.2.2.2.2) (hs _ st_n3.2.2.2.2.2.2) hA
  · have h1 := List.mem_filter.mp hw
    have h2 := h1.2
    rw [Bool.and_eq_true] at h2
    exact va_Nw.of h2.1 (hts _ h1.1)
  · exact va_Zof (hts _ st_n5.1) (hts _ st_n5.2.2.2.2.1) (va_eqi (hs _ st_n3.2.2.2.1)) hA
  · obtain ⟨v, hv, hr⟩ := Cond.isRef_spec (hs _ st_n3.2.2.2.2.1)
    refine ⟨v, ?_, hr, va_Zof (hts _ st_n5.2.1) (hts _ st_n5.2.2.2.2.2.1) hv hA⟩
    rcases jk_ref hr with rfl | ⟨a, rfl⟩ <;> rfl
theorem st_str {A : Nat → Prop} (hgv : (Jvm.Cond.and given_1 narrow_1).before args s = true) (hA : ∀ a : Nat, a < s.heap.size → ¬ A a) : ∃ adK adV : Nat → Nat, (∀ i, i < 2 → so_T1 (adK i) (adV i) (fun j => (so_txt i).getD j 0) A s s.heap) ∧ ∀ i, i < 2 → (st_tm i).eval args s none [] s = some (.ref (adK i)) := by
  have hs := flat_of_before _ hgv
  obtain ⟨adK, adV, h1, h2⟩ := vk_Sof (N := 2) (tm := st_tm) (len := [4, 4]) (byt := [so_txt 0, so_txt 1]) (A := A) (args := args) (s := s) (by decide) (fun i hi => hs _ (st_n1 i hi).1) (fun i hi => hs _ (st_n1 i hi).2.1) (fun i hi => hs _ (st_n1 i hi).2.2.1)
    (fun i hi => by
      have h := hs _ (st_n1 i hi).2.2.2
      have c : i = 0 ∨ i = 1 := by omega
      rcases c with rfl | rfl <;> exact h)
    (fun i hi j hj => by
      have c : i = 0 ∨ i = 1 := by omega
      rcases c with rfl | rfl
      · exact hs _ (st_n2 0 (by decide) j hj)
      · exact hs _ (st_n2 1 (by decide) j hj))
    (fun i j hi hj hij => by
      have c : (i = 0 ∧ j = 1) ∨ (i = 1 ∧ j = 0) := by omega
      rcases c with ⟨rfl, rfl⟩ | ⟨rfl, rfl⟩
      · exact Or.inl (hs _ st_n3.1)
      · exact Or.inr (hs _ st_n3.1)) hA
  refine ⟨adK, adV, fun i hi => ?_, h2⟩
  have h3 := h1.1 i hi
  have c : i = 0 ∨ i = 1 := by omega
  rcases c with rfl | rfl <;> exact h3
end ST
