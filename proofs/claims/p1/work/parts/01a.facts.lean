/-! The words that a method may lean on, by decision -/
def so_tb : List Cond := lw_tbl.filter goodWord
def so_runs : List (List Cond) := [k2_sels lw_privs, tables_1_1, tables_1_2, tables_1_3, tables_1_4, tables_1_5, tables_1_6, tables_1_7]
def so_at1 (n : Nat) : Option Cond := ((so_runs[n / 1000]?).getD [])[n % 1000]?
theorem so_runs_in : ∀ r ∈ so_runs, ∀ w ∈ r, w ∈ lw_tbl := by
  intro r hr w hw
  show w ∈ k2_sels lw_privs ++ (tables_1_1 ++ (tables_1_2 ++ (tables_1_3 ++ (tables_1_4 ++ (tables_1_5 ++ (tables_1_6 ++ tables_1_7))))))
  simp only [so_runs, List.mem_cons, List.not_mem_nil, or_false] at hr
  simp only [List.mem_append]
  rcases hr with h | h | h | h | h | h | h | h <;> subst h
  · exact Or.inl hw
  · exact Or.inr (Or.inl hw)
  · exact Or.inr (Or.inr (Or.inl hw))
  · exact Or.inr (Or.inr (Or.inr (Or.inl hw)))
  · exact Or.inr (Or.inr (Or.inr (Or.inr (Or.inl hw))))
  · exact Or.inr (Or.inr (Or.inr (Or.inr (Or.inr (Or.inl hw)))))
  · exact Or.inr (Or.inr (Or.inr (Or.inr (Or.inr (Or.inr (Or.inl hw))))))
  · exact Or.inr (Or.inr (Or.inr (Or.inr (Or.inr (Or.inr (Or.inr hw))))))
theorem so_at1_in {n : Nat} {w : Cond} (h : so_at1 n = some w) : w ∈ lw_tbl := by
  unfold so_at1 at h
  cases hr : so_runs[n / 1000]? with
  | none => rw [hr] at h; simp at h
  | some r =>
    rw [hr] at h
    exact so_runs_in r (List.mem_of_getElem? hr) w (List.mem_of_getElem? h)
def so_wd (n : Nat) (w : Cond) : Bool := decide (so_at1 n = some w) && goodWord w
theorem so_wd_in {n : Nat} {w : Cond} (h : so_wd n w = true) : w ∈ so_tb := by
  unfold so_wd at h
  rw [Bool.and_eq_true] at h
  exact List.mem_filter.mpr ⟨so_at1_in (of_decide_eq_true h.1), h.2⟩
theorem so_tb_in {w : Cond} (h : w ∈ so_tb) : w ∈ lw_tbl := (List.mem_filter.mp h).1
theorem so_tb_good {w : Cond} (h : w ∈ so_tb) : goodWord w = true := (List.mem_filter.mp h).2
def so_y (i : Nat) : MethodName := (so_ys[i]?).getD ⟨"", "", ""⟩
def so_by (i : Nat) : ByteArray := (so_bys[i]?).getD ⟨#[]⟩
def so_rt (i : Nat) : Option FieldType := (so_rets[i]?).getD none
def so_hh (i : Nat) : List (Nat × Nat × Nat × Nat) := (so_hhs[i]?).getD []
def so_ow (i : Nat) : Nat := (so_owns[i]?).getD 0
def so_fw (q : Nat × Nat × Nat × Nat × Nat) : Cond := .fieldLink (sR q.1) q.2.1 (sR q.2.2.1) (sT q.2.2.1 q.2.2.2.1).2.1 (sT q.2.2.1 q.2.2.2.1).2.2.1
def so_fnw (q : Nat × Nat × Nat × Nat × Nat) : Cond := .fieldLinkNest (sR q.1) q.2.1 (sR q.2.2.1) (sT q.2.2.1 q.2.2.2.1).2.1 (sT q.2.2.1 q.2.2.2.1).2.2.1 "ProofWorkbench"
set_option maxRecDepth 100000 in
theorem so_f1 : ∀ q ∈ so_fd, so_wd q.2.2.2.2 (so_fw q) = true := by decide +kernel
set_option maxRecDepth 100000 in
theorem so_f2 : ∀ q ∈ so_fn, so_at1 q.2.2.2.2 = some (so_fnw q) := by decide +kernel
set_option maxRecDepth 100000 in
theorem so_f3a : ∀ k, k < 12 → ∀ j, j < sN k → so_wd ((((so_lp[k]?).getD [])[j]?).getD 0) (u_lay (sR k) (sT k) j) = true := by decide +kernel
theorem so_f3 : ∀ k, k < 12 → ∀ w ∈ u_ws (sR k) (sT k) (sN k), w ∈ so_tb := by
  intro k hk w hw
  obtain ⟨j, hj, rfl⟩ := List.mem_map.mp hw
  exact so_wd_in (so_f3a k hk j (List.mem_range.mp hj))
def so_cw (i : Nat) : Cond := if so_hh i = [] then .code (so_y i) (so_by i) ((so_mlL[i]?).getD 0) (so_rt i) else .codeWith (so_y i) (so_by i) ((so_mlL[i]?).getD 0) (so_rt i) (so_hh i)
set_option maxRecDepth 100000 in
theorem so_f5 : ∀ i, i < 207 → so_wd ((so_pis[i]?).getD 0) (if (so_gs[i]?).getD 0 / 1024 % 16 = 0 then .static (so_y i) else .instanceMethod (so_y i)) = true := by decide +kernel
set_option maxRecDepth 100000 in
theorem so_f6 : ∀ i, i < 207 → (so_gs[i]?).getD 0 / 1024 % 16 ≠ 0 → so_wd ((so_pss[i]?).getD 0) (.selects (sR (so_ow i)) (so_y i) (so_y i)) = true := by decide +kernel
set_option maxRecDepth 100000 in
theorem so_f7 : ∀ q ∈ so_cs, so_wd q.2.2.2 (.methodLink (sR q.1) q.2.1 (so_y (q.2.2.1 / 16384))) = true := by decide +kernel
set_option maxRecDepth 100000 in
theorem so_f8a : ∀ k, k < 12 → so_wd ((so_ip[k]?).getD 0) (.initialized (sR k)) = true := by decide +kernel
theorem so_f8 : ∀ k, k < 12 → Cond.initialized (sR k) ∈ so_tb := fun k hk => so_wd_in (so_f8a k hk)
set_option maxRecDepth 100000 in
theorem so_f9 : ∀ i, i < 208 → (so_y i).cls = sR (so_ow i) ∧ plainName (so_y i).cls = true ∧ (parseMethodDescriptor (so_y i).desc).isSome = true := by decide +kernel
set_option maxRecDepth 100000 in
theorem so_f10 : ∀ k, k < 12 → ∀ j, j < sN k → (sT k j).1 = sR k ∧ (parseFieldDescriptor (sT k j).2.2.1).isSome = true := by decide +kernel
set_option maxRecDepth 100000 in
theorem so_f11 : ∀ k, k < 12 → ∀ a, a < sN k → ∀ b, b < sN k → a ≠ b → (sT k a).2.1 ≠ (sT k b).2.1 := by decide +kernel
