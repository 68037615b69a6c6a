/-! A block of the abstract machine, run on the machine -/
section So7
variable {Z : so_Z} {A : Nat → Prop} {Y : so_Y} {p : Program} {l : Launch} {e : Env} {R : Room} {s : State} {m : MethodId} {args : Array Value} {below : List Frame} {meth : Method} {c : Code} {b0 n0 mi pc : Nat} {σ : am_S}
/-- a call of a static method -/
theorem so_cS {Qt : State → Prop} {raw : am_I} {len d g : Nat} {ls st : List am_V} {Q' : am_Q} (hX : so_X Z A Y p s m args meth c mi) (hd : decode (so_by mi) pc = .ok (raw, len)) (hk : so_ok mi pc raw len (.invokestatic g) = true)
    (hlen : g / 2 % 16 ≤ st.length ∧ st.length ≤ g / 2 % 16 + 8) (hw : am_wds (st.take (g / 2 % 16)).reverse ≤ g / 32 % 32) (hC : so_P Z A Y l d g 0 (am_ini (g / 32 % 32) (st.take (g / 2 % 16)).reverse) [] σ Q')
    (hRf : d + 1 ≤ R.frames) (hRl : 64 * (d + 1) ≤ R.locals) (hRc : b0 ≤ R.cells) (hRs : n0 ≤ R.slots)
    (hret0 : ∀ τ, Q' (.inl none) τ → so_J Z A Y p l e R s m args below meth c (so_ml mi) b0 n0 Qt (pc + 3) ls (st.drop (g / 2 % 16)) τ) (hret1 : ∀ v τ, Q' (.inl (some v)) τ → so_J Z A Y p l e R s m args below meth c (so_ml mi) b0 n0 Qt (pc + 3) ls (v :: st.drop (g / 2 % 16)) τ)
    (hthr : ∀ x τ, Q' (.inr x) τ → so_TJ Z A Y p l e R s m args below meth c (so_ml mi) b0 n0 Qt pc ls τ x) : so_J Z A Y p l e R s m args below meth c (so_ml mi) b0 n0 Qt pc ls st σ := by
  intro okl okt okσ H locs cells slots lsv stv hP hD hS hc hs hL hst
  have hk1 : (so_cs.filter (fun q => decide (q.2.2.1 = g ∧ q.1 = so_ow mi))).any (fun q => decide (raw = .invokestatic q.2.1 ∧ len = 3 ∧ q.1 = so_ow mi ∧ q.2.2.1 = g ∧ g / 1024 % 16 = 0 ∧ (so_gs[g / 16384]?) = some g ∧ g / 16384 < 207 ∧ (parseMethodDescriptor (so_y (g / 16384)).desc).map (fun d => d.parameters.length) = some (g / 2 % 16) ∧ (so_hh mi).all (fun h => decide (h.1 ≤ pc ∧ pc < h.2.1)) = true)) = true := hk
  rw [List.any_eq_true] at hk1
  obtain ⟨q, hq, h⟩ := hk1
  obtain ⟨rfl, rfl, q1, q2, q3, q4, q5, q6, -⟩ := of_decide_eq_true h
  obtain ⟨hx, hb, hml, hr, hlk, hown, hts, hG⟩ := id hX
  obtain ⟨asv, rest, hsv, hSa, hSr⟩ := so_S_split hst hlen.1
  have hM := so_met hC q4 q5 hw (so_ini_ok _ _ (fun v hv => okt v (List.mem_of_mem_take (List.mem_reverse.mp hv)))) okσ
  have hlink : (Cond.methodLink (sR (so_ow mi)) q.2.1 (so_y (g / 16384))).before args s = true := by
    have h1 := hts _ (so_wd_in (so_f7 q (List.mem_filter.mp hq).1))
    rw [q1, q2] at h1
    exact h1
  have hcode := hts _ (so_f4 _ q5)
  have hst5 : (Cond.static (so_y (g / 16384))).before args s = true := by
    have h1 := hts _ (so_wd_in (so_f5 _ q5))
    rw [q4] at h1
    simp only [Option.getD_some, if_pos q3] at h1
    exact h1
  obtain ⟨mk, hnamed⟩ : ∃ mk, s.methodNamed? (so_y (g / 16384)) = some mk := so_cnamed hcode
  obtain ⟨methM, cM, hmM, hcM, -, -, -, -, -, hsig⟩ := so_code hcode hnamed
  have hini : (Cond.initialized (so_y (g / 16384)).cls).before args s = true := by
    rw [(so_f9 (g / 16384) (by omega)).1]
    exact hts _ (so_f8 _ (so_ow12 _))
  obtain ⟨kP, hkP, -⟩ := className_of_methodNamed hnamed
  have hinitP : kP.init = .initialized := Cond.initialized_spec (findClass_of_methodNamed hnamed) hkP hini
  have hpar : asv.length = methM.sig.parameters.length := by
    rw [hsig] at q6
    have e1 := Option.some.inj q6
    rw [(so_sl_len _ _ hSa).2, List.length_reverse, List.length_take, Nat.min_eq_left hlen.1]
    exact e1.symm
  intro T hT X
  obtain ⟨vm₁, X₁, hstep₁⟩ := X.invokestatic hx hown hlink hnamed hmM (Cond.static_spec hnamed hmM hst5) hkP hinitP (so_f9b (g / 16384) (by omega)) (g := F0 m pc lsv stv) rfl (argsL := asv) (rest := rest) hpar hsv (by rw [hb]; exact hd)
  obtain ⟨t, a1, b1⟩ := so_after (st := st.drop (g / 2 % 16)) hX hM q5 (so_ml32 _) hSa hSr (by rw [List.length_drop]; omega) hd X₁ hnamed okl okσ (by show va_P _ _ _ T.heap; rw [hT]; exact hP) hD (by show va_S _ _ T.heap _; rw [hT]; exact hS) hc hs hL hRf hRl hRc hRs (fun v hv => okt v (List.mem_of_mem_drop hv)) hret0 hret1 hthr
  exact ⟨t, hstep₁ _ (fun acts => by rw [doInvoke_state]; exact a1), b1⟩
/-- a call of a method of an object -/
theorem so_cV {Qt : State → Prop} {raw : am_I} {len d g : Nat} {ls st : List am_V} {Q' : am_Q} (hX : so_X Z A Y p s m args meth c mi) (hd : decode (so_by mi) pc = .ok (raw, len)) (hk : so_ok mi pc raw len (.invokevirtual g) = true) {k0 i0 : Nat} {as0 : List am_V} (hrc : (st.take (g / 2 % 16)).reverse = .inr (.inr (k0, i0)) :: as0) (hk0 : k0 = g / 1024 % 16)
    (hlen : g / 2 % 16 ≤ st.length ∧ st.length ≤ g / 2 % 16 + 8) (hw : am_wds (st.take (g / 2 % 16)).reverse ≤ g / 32 % 32) (hC : so_P Z A Y l d g 0 (am_ini (g / 32 % 32) (st.take (g / 2 % 16)).reverse) [] σ Q')
    (hRf : d + 1 ≤ R.frames) (hRl : 64 * (d + 1) ≤ R.locals) (hRc : b0 ≤ R.cells) (hRs : n0 ≤ R.slots)
    (hret0 : ∀ τ, Q' (.inl none) τ → so_J Z A Y p l e R s m args below meth c (so_ml mi) b0 n0 Qt (pc + 3) ls (st.drop (g / 2 % 16)) τ) (hret1 : ∀ v τ, Q' (.inl (some v)) τ → so_J Z A Y p l e R s m args below meth c (so_ml mi) b0 n0 Qt (pc + 3) ls (v :: st.drop (g / 2 % 16)) τ)
    (hthr : ∀ x τ, Q' (.inr x) τ → so_TJ Z A Y p l e R s m args below meth c (so_ml mi) b0 n0 Qt pc ls τ x) : so_J Z A Y p l e R s m args below meth c (so_ml mi) b0 n0 Qt pc ls st σ := by
  intro okl okt okσ H locs cells slots lsv stv hP hD hS hc hs hL hst
  have hk1 : (so_cs.filter (fun q => decide (q.2.2.1 = g ∧ q.1 = so_ow mi))).any (fun q => decide (raw = .invokevirtual q.2.1 ∧ len = 3 ∧ q.1 = so_ow mi ∧ q.2.2.1 = g ∧ g / 1024 % 16 ≠ 0 ∧ (so_gs[g / 16384]?) = some g ∧ g / 16384 < 207 ∧ (parseMethodDescriptor (so_y (g / 16384)).desc).map (fun d => d.parameters.length + 1) = some (g / 2 % 16) ∧ (so_hh mi).all (fun h => decide (h.1 ≤ pc ∧ pc < h.2.1)) = true)) = true := hk
  rw [List.any_eq_true] at hk1
  obtain ⟨q, hq, h⟩ := hk1
  obtain ⟨rfl, rfl, q1, q2, q3, q4, q5, q6, -⟩ := of_decide_eq_true h
  obtain ⟨hx, hb, hml, hr, hlk, hown, hts, hG⟩ := id hX
  obtain ⟨asv, rest, hsv, hSa, hSr⟩ := so_S_split hst hlen.1
  have hM := so_met hC q4 q5 hw (so_ini_ok _ _ (fun v hv => okt v (List.mem_of_mem_take (List.mem_reverse.mp hv)))) okσ
  have hlink : (Cond.methodLink (sR (so_ow mi)) q.2.1 (so_y (g / 16384))).before args s = true := by
    have h1 := hts _ (so_wd_in (so_f7 q (List.mem_filter.mp hq).1))
    rw [q1, q2] at h1
    exact h1
  have hcode := hts _ (so_f4 _ q5)
  have hin5 : (Cond.instanceMethod (so_y (g / 16384))).before args s = true := by
    have h1 := hts _ (so_wd_in (so_f5 _ q5))
    rw [q4] at h1
    simp only [Option.getD_some, if_neg q3] at h1
    exact h1
  have hsel6 : (Cond.selects (sR (so_ow (g / 16384))) (so_y (g / 16384)) (so_y (g / 16384))).before args s = true :=
    hts _ (so_wd_in (so_f6 _ q5 (by rw [q4]; exact q3)))
  obtain ⟨mk, hnamed⟩ : ∃ mk, s.methodNamed? (so_y (g / 16384)) = some mk := so_cnamed hcode
  obtain ⟨methM, cM, hmM, hcM, -, -, -, -, -, hsig⟩ := so_code hcode hnamed
  obtain ⟨mk9, methM9, hnm9, hmM9, hstM, habM⟩ := Cond.instanceMethod_spec hin5
  cases Option.some.inj (hnm9.symm.trans hnamed)
  cases Option.some.inj (hmM9.symm.trans hmM)
  have hrk := so_f14 _ q5 (by rw [q4]; exact q3)
  rw [q4] at hrk
  have hk00 : 0 < k0 ∧ k0 < 12 := by rw [hk0]; exact ⟨by omega, by have := so_ow12 (g / 16384); simp only [Option.getD_some] at hrk; omega⟩
  rw [hrc] at hSa
  have okr : so_okv (.inr (.inr (k0, i0))) := okt _ (List.mem_of_mem_take (List.mem_reverse.mp (by rw [hrc]; exact List.mem_cons_self)))
  have hi0 := (so_okr okr hk00.1 (by omega)).2
  obtain ⟨asv', rfl, hSa'⟩ := so_S_r (by omega) hSa
  obtain ⟨n, hn⟩ := so_pos (so_fll k0 hk00.2 hk00.1).2.2 hi0
  have he := so_get Z σ hn
  have hce : so_cell Z σ k0 i0 = .inr (k0 - 1, so_fs Z σ k0 i0) := by unfold so_cell; rw [if_pos (so_fll k0 hk00.2 hk00.1).2.1]
  rw [hce] at he
  obtain ⟨r9, hr9, cellB, hcB, hcB2, hcB3, -⟩ := hP n _ he
  cases Option.some.inj (hr9.symm.trans (so_clat hk00.1 hk00.2))
  have hcls : s.vm.findClass (sR (so_ow (g / 16384))) = some cellB.cls := by
    obtain ⟨-, hfc, -⟩ := hG.1.1 (k0 - 1) _ (so_clat hk00.1 hk00.2)
    rw [hcB2]
    simp only [Option.getD_some] at hrk
    rw [← hrk, ← hk0]
    exact hfc
  obtain ⟨c2, r2, m2, p1, p2, p3, p4, kP, hkP, hkPi⟩ := Cond.selects_spec hsel6
  cases Option.some.inj (p1.symm.trans hcls)
  cases Option.some.inj (p2.symm.trans (State.methodFound?_of_named hnamed (so_f9b (g / 16384) (by omega))))
  cases Option.some.inj (p3.symm.trans hnamed)
  have hpar : asv'.length = methM.sig.parameters.length := by
    rw [hsig] at q6
    have e1 := Option.some.inj q6
    have e2 := (so_sl_len _ _ hSa).2
    have e3 : ((st.take (g / 2 % 16)).reverse).length = g / 2 % 16 := by rw [List.length_reverse, List.length_take, Nat.min_eq_left hlen.1]
    rw [hrc] at e3
    simp only [List.length_cons] at e2 e3
    have e4 : methM.sig.parameters.length + 1 = g / 2 % 16 := e1
    omega
  rw [← hrc] at hSa
  intro T hT X
  obtain ⟨vm₁, X₁, hstep₁⟩ := X.invokevirtual hx hown hlink hnamed hmM hstM hkP hkPi (so_f9b (g / 16384) (by omega)) (a := Z.1 k0 i0) (cell := cellB) (by rw [hT]; exact hcB) (fun z h => by rw [hcB3] at h; cases h) (by rw [Launch.admits_selectMethod X.admits]; exact p4) hmM habM hkP hkPi (g := F0 m pc lsv stv) rfl (argsL := asv') (rest := rest) hpar (by show stv = _; rw [hsv, List.reverse_cons, List.append_assoc]; rfl) (by rw [hb]; exact hd)
  obtain ⟨t, a1, b1⟩ := so_after (st := st.drop (g / 2 % 16)) hX hM q5 (so_ml32 _) hSa hSr (by rw [List.length_drop]; omega) hd X₁ hnamed okl okσ (by show va_P _ _ _ T.heap; rw [hT]; exact hP) hD (by show va_S _ _ T.heap _; rw [hT]; exact hS) hc hs hL hRf hRl hRc hRs (fun v hv => okt v (List.mem_of_mem_drop hv)) hret0 hret1 hthr
  exact ⟨t, hstep₁ _ (fun acts => by rw [doInvoke_state]; exact a1), b1⟩
end So7
