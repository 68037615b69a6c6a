/-! The ground of every method stands; calls -/
theorem so_tS_at {n d : String} {A : Nat → Prop} {u U : State} (hvm : u.vm.Alike U.vm) (hq : ∀ a : Nat, a < u.heap.size → ¬ A a → U.heap[a]? = u.heap[a]?) (h : so_tS n d A u) : so_tS n d A U := by
  obtain ⟨c, k, i, f, a, cell, h1, h2, h3, h4, h5, h6, h7, h8, h9, h10, h11, h12⟩ := h
  obtain ⟨k', hi', he⟩ := State.fieldFound?_setVm (s := u) hvm h2
  exact ⟨c, k', i, f, a, cell, by rw [hvm.findClass]; exact h1, by simpa only [State.fieldFound?, State.vm_setVm] using hi', h3, by rw [he]; exact h4, by rw [he]; exact h5, by rw [hq a (Array.getElem?_eq_some_iff.mp h6).1 h11]; exact h6, h7, h8, h9, by rw [he]; exact h10, h11, h12⟩
theorem so_Nc_at {C T : String} {u U : State} (hvm : u.vm.Alike U.vm) (h : va_Nc C T u) : va_Nc C T U := by
  obtain ⟨c, t, h1, h2, h3⟩ := h
  exact ⟨c, t, by rw [hvm.findClass]; exact h1, by rw [hvm.findClass]; exact h2, by rw [hvm.assignable]; exact h3⟩
theorem so_G_at {Z : so_Z} {A : Nat → Prop} {Y : so_Y} {s U : State} (h : so_G Z A Y s) (hW : s.WarmedH U.vm) (hz : s.heap.size ≤ U.heap.size) (hq : ∀ a : Nat, a < s.heap.size → ¬ A a → U.heap[a]? = s.heap[a]?) : so_G Z A Y U := by
  obtain ⟨hK, hN, ⟨⟨scr, v1, v2, v3, v4, v5⟩, hV1, hV2, hV3, hV4⟩, hR, ⟨hH1, hH2, hH3, hH4⟩, hTT⟩ := h
  refine ⟨va_K.moved hW.alike hK, fun q hq' => va_Nw.warmF hW (hN q hq'), ⟨⟨scr, by rw [hq _ hV1 hV2]; exact v1, State.isArrayOf_alike hW.alike v2, v3, v4, v5⟩, by omega, hV2, hV3, hV4⟩, fun q hq' => vk_R.warm hW (hR q hq'), ⟨?_, so_tS_at hW.alike hq hH2, so_tS_at hW.alike hq hH3, fun w hw => ?_⟩, so_T_at hW.alike hq hTT⟩
  · exact fun a b h1 h2 h3 h4 h5 => so_Nc_at hW.alike (hH1 a b h1 h2 h3 h4 h5)
  · have h1 := (List.mem_filter.mp hw).2
    rw [Bool.and_eq_true, Bool.or_eq_true] at h1
    have h2 : w.before #[] (s.setVm U.vm) = true := by
      rcases h1.2 with h3 | h3
      · exact Cond.castAtom_setVm hW.alike w h3 (hH4 w hw)
      · exact Cond.faceAtom_setVm hW.alike w h3 (hH4 w hw)
    exact va_tabs h1.1 (rfl : (s.setVm U.vm).vm = U.vm) h2
section So6
variable {Z : so_Z} {A : Nat → Prop} {Y : so_Y} {p : Program} {l : Launch} {e : Env} {R : Room} {s : State} {m : MethodId} {args : Array Value} {below : List Frame} {meth : Method} {c : Code} {b0 n0 mi pc : Nat} {Qt : State → Prop} {σ : am_S}
/-- the frame at pc, with an exception x thrown over it -/
def so_TJ (Z : so_Z) (A : Nat → Prop) (Y : so_Y) (p : Program) (l : Launch) (e : Env) (R : Room) (s : State) (m : MethodId) (args : Array Value) (below : List Frame) (meth : Method) (c : Code) (nL b0 n0 : Nat) (Qt : State → Prop) (pc : Nat) (ls : List am_V) (σ : am_S) (x : Nat) : Prop :=
  so_okl ls → so_okσ Y σ → 0 < x → x < 5 → ∀ (H : Heap) (locs : List Loc) (cells slots : Nat) (lsv : Array Slot) (rest : List Value) (q : Addr) (ce : Cell),
    va_P Z.2.1 so_cl (so_w Z σ) H → va_D A (so_w Z σ) → va_S A s.heap H locs → cells + σ.2.2.2 ≤ b0 → slots + 6 * σ.2.2.2 ≤ n0 → so_L Z nL ls lsv → H[q]? = some ce → ce.vm = .none → s.vm.findClass (so_en x) = some ce.cls →
    ∀ T : State, T.heap = H → Stand p l e R s m args below meth c T locs cells slots → ∃ t, Steps p.tables e below ((T.setTop (F0 m pc lsv rest)).pushFrame (.throwing q)) t ∧ Qt t
theorem so_S_cat {Z : so_Z} : ∀ (st : List am_V) (ws : List Value), so_S Z st ws → (ws.map fun v => v.category).sum ≤ 2 * st.length ∧ ws.length = st.length
  | [], ws, h => by
    have h1 : ws = [] := h
    subst h1
    exact ⟨Nat.le_refl _, rfl⟩
  | v :: st, ws, h => by
    obtain ⟨w, r, rfl, hr, h2⟩ := h
    obtain ⟨h3, h4⟩ := so_S_cat st r h2
    have hc : w.category ≤ 2 := by rcases lv_cat w with q | q <;> omega
    simp only [List.map_cons, List.sum_cons, List.length_cons]
    omega
theorem so_after {U : State} {locs : List Loc} {cells slots d gc : Nat} {as ls : List am_V} {asv rest : List Value} {st : List am_V} {lsv : Array Slot} {mk : MethodId} {ig : Instr} {Q' : am_Q} (hX : so_X Z A Y p s m args meth c mi)
    (hM : MetFree l (so_y (gc / 16384)) (headSpec so_tb (so_rm d σ.2.2.2)) (so_pre Z A Y as σ) (fun _ _ _ _ _ => True) (fun _ st o t => so_post Z A Y st σ.2.2.2 (6 * σ.2.2.2) Q' o t)) (hgi : gc / 16384 < 207) (hgl : so_ml (gc / 16384) ≤ 32)
    (hS : so_S Z as asv) (hst : so_S Z st rest) (hlen : st.length ≤ 8) (hd : decode (so_by mi) pc = .ok (ig, 3)) (X : Stand p l e R s m args below meth c U locs cells slots) (hn : s.methodNamed? (so_y (gc / 16384)) = some mk)
    (okl : so_okl ls) (okσ : so_okσ Y σ) (hP : va_P Z.2.1 so_cl (so_w Z σ) U.heap) (hD : va_D A (so_w Z σ)) (hSS : va_S A s.heap U.heap locs) (hc : cells + σ.2.2.2 ≤ b0) (hs : slots + 6 * σ.2.2.2 ≤ n0) (hL : so_L Z (so_ml mi) ls lsv)
    (hRf : d + 1 ≤ R.frames) (hRl : 64 * (d + 1) ≤ R.locals) (hRc : b0 ≤ R.cells) (hRs : n0 ≤ R.slots) (okt : so_okl st)
    (hret0 : ∀ τ, Q' (.inl none) τ → so_J Z A Y p l e R s m args below meth c (so_ml mi) b0 n0 Qt (pc + 3) ls st τ) (hret1 : ∀ v τ, Q' (.inl (some v)) τ → so_J Z A Y p l e R s m args below meth c (so_ml mi) b0 n0 Qt (pc + 3) ls (v :: st) τ)
    (hthr : ∀ x τ, Q' (.inr x) τ → so_TJ Z A Y p l e R s m args below meth c (so_ml mi) b0 n0 Qt pc ls τ x) :
    ∃ t, Steps p.tables e below (doInvoke e (U.setTop (F0 m pc lsv rest)) [] mk asv.toArray).1 t ∧ Qt t := by
  obtain ⟨hx, hb, hml, hr, hlk, hown, hts, hG⟩ := hX
  have hsz : (F0 m pc lsv rest).locals.size = c.maxLocals := by
    obtain ⟨lv, h1, -⟩ := hL
    exact h1.1.trans hml.symm
  have hdc : decode c.code (F0 m pc lsv rest).pc = .ok (ig, 3) := by rw [hb]; exact hd
  have hpw : ∀ w ∈ so_tb, ∀ (a' : Array Value), w.before a' U = true := fun w hw a' => word_at X.warmed (good_of_word (so_tb_good hw)) (hts w hw)
  have hnU : U.methodNamed? (so_y (gc / 16384)) = some mk := X.named hn
  obtain ⟨methY, cY, hmY, hcY, -, hlY, -⟩ := so_code (hpw _ (so_f4 _ hgi) asv.toArray) hnU
  have hini : (Cond.initialized (so_y (gc / 16384)).cls).before asv.toArray U = true := by
    rw [(so_f9 (gc / 16384) (by omega)).1]
    exact hpw _ (so_f8 _ (so_ow12 _)) _
  have hcat := (so_S_cat st rest hst).1
  obtain ⟨o, s₂, hsteps, hend, hq⟩ := so_callee (g := F0 m pc lsv rest) (a := asv.toArray) X hM rfl hsz hdc hnU (fun w hw => hpw w hw _) hmY hcY hlY hini hRf
    (by show 2 * 0 + (rest.map fun v => v.category).sum + (so_ml (gc / 16384) + 11) + 64 * d ≤ R.locals; omega) (by show cells + σ.2.2.2 ≤ R.cells; omega) (by show slots + 6 * σ.2.2.2 ≤ R.slots; omega)
    ⟨⟨asv, rfl, hS⟩, hP, hD, so_G_at hG X.warmed hSS.1 hSS.2.1⟩
  obtain ⟨out, τ, L, hQ, okτ, hτ, hP', hD', hF, hW, hsm, hLA, ho⟩ := hq
  obtain ⟨X', -⟩ := so_behind (g := F0 m pc lsv rest) X rfl hW hsm
  have hF' : U.heap.size ≤ s₂.heap.size ∧ ∀ q : Nat, q < U.heap.size → ¬ A q → s₂.heap[q]? = U.heap[q]? := hF
  have hSS' : va_S A s.heap s₂.heap (locs ++ L) := by
    refine ⟨Nat.le_trans hSS.1 hF'.1, fun q hq hA => (hF'.2 q (Nat.lt_of_lt_of_le hq hSS.1) hA).trans (hSS.2.1 q hq hA), fun z hz => ?_⟩
    rcases List.mem_append.mp hz with hz | hz
    · exact hSS.2.2 z hz
    · exact hLA z hz
  rcases out with (_ | v) | x
  · have ho : o = .returned none := ho
    subst ho
    have hee := so_returned (g := F0 m pc lsv rest) X rfl hdc hW hsm hend
    obtain ⟨t, a1, b1⟩ := hret0 τ hQ okl okt okτ s₂.heap (locs ++ L) (cells + (σ.2.2.2 - τ.2.2.2)) (slots + (6 * σ.2.2.2 - 6 * τ.2.2.2)) lsv rest hP' hD' hSS' (by omega) (by omega) hL hst (({ U with heap := s₂.heap, slotsUsed := s₂.slotsUsed } : State).setVm s₂.vm) rfl X'
    rw [hee] at hsteps
    exact ⟨t, hsteps.trans a1, b1⟩
  · obtain ⟨okv, ho⟩ := ho
    subst ho
    have hee := so_returned (g := F0 m pc lsv rest) X rfl hdc hW hsm hend
    obtain ⟨t, a1, b1⟩ := hret1 v τ hQ okl (so_okl_cons okv okt) okτ s₂.heap (locs ++ L) (cells + (σ.2.2.2 - τ.2.2.2)) (slots + (6 * σ.2.2.2 - 6 * τ.2.2.2)) lsv (so_cv Z v :: rest) hP' hD' hSS' (by omega) (by omega) hL (so_S_c rfl hst) (({ U with heap := s₂.heap, slotsUsed := s₂.slotsUsed } : State).setVm s₂.vm) rfl X'
    rw [hee] at hsteps
    exact ⟨t, hsteps.trans a1, b1⟩
  · obtain ⟨q, ce, rfl, h1, h2, h3, h4, h5⟩ := ho
    have hee := so_threw (g := F0 m pc lsv rest) X rfl hW hsm hend
    have h3' : s.vm.findClass (so_en x) = some ce.cls := by
      have h3'' : U.vm.findClass (so_en x) = some ce.cls := h3
      rw [X.warmed.alike.findClass] at h3''
      exact h3''
    obtain ⟨t, a1, b1⟩ := hthr x τ hQ okl okτ h4 h5 s₂.heap (locs ++ L) (cells + (σ.2.2.2 - τ.2.2.2)) (slots + (6 * σ.2.2.2 - 6 * τ.2.2.2)) lsv rest q ce hP' hD' hSS' (by omega) (by omega) hL h1 h2 h3' (({ U with heap := s₂.heap, slotsUsed := s₂.slotsUsed } : State).setVm s₂.vm) rfl X'
    rw [hee] at hsteps
    exact ⟨t, hsteps.trans a1, b1⟩
end So6
