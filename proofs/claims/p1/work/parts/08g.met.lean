/-! A method's contract out of a run of the abstract machine -/
def so_ml (mi : Nat) : Nat := (so_mlL[mi]?).getD 0
theorem so_code {a : Array Value} {s : State} {m : MethodId} {mi : Nat} (h : (so_cw mi).before a s = true) (hn : s.methodNamed? (so_y mi) = some m) :
    ∃ meth c, s.vm.method? m = some meth ∧ meth.code = some c ∧ c.code = so_by mi ∧ c.maxLocals = so_ml mi ∧ meth.sig.returnType = so_rt mi ∧ meth.locks = false ∧ c.exceptionTable.toList.map (fun h => (h.startPc, h.endPc, h.handlerPc, h.catchType)) = so_hh mi ∧ parseMethodDescriptor (so_y mi).desc = some meth.sig := by
  unfold so_cw at h
  by_cases hh : so_hh mi = []
  · rw [if_pos hh] at h
    obtain ⟨meth, c, h1, h2, h3, h4, h5, h6, h7, h8⟩ := Cond.code_spec hn h
    exact ⟨meth, c, h1, h2, h3, h4, h5, h6, by rw [Array.isEmpty_iff.mp h7, hh]; rfl, h8⟩
  · rw [if_neg hh] at h
    obtain ⟨m9, meth, c, hn9, h1, h2, h3, h4, h5, h6, h7, h8⟩ := Cond.codeWith_spec h
    cases Option.some.inj (hn9.symm.trans hn)
    exact ⟨meth, c, h1, h2, h3, h4, h6, h7, h5, h8⟩
theorem so_ini_nil : ∀ (n i : Nat) (v : am_V), (am_ini n [])[i]? = some v → ∃ b, v = .inr (.inr (0, b))
  | 0, i, v, h => by simp [am_ini] at h
  | n + 1, 0, v, h => by
    have h1 : some am_j = some v := h
    cases h1
    exact ⟨0, rfl⟩
  | n + 1, i + 1, v, h => so_ini_nil n i v h
theorem so_cat1 {Z : so_Z} {v : am_V} {w : Value} (h : so_r Z v w) (hv : ∀ x, v ≠ .inr (.inl x)) : w.category = 1 := by
  rcases h with rfl | ⟨b, a, rfl, rfl⟩
  · rcases v with x | x | q
    · rfl
    · exact absurd rfl (hv x)
    · rfl
  · rfl
theorem so_ini {Z : so_Z} : ∀ (as : List am_V) (asv : List Value) (k n : Nat), so_S Z as asv → am_wds as ≤ n → ∀ (i : Nat) (v : am_V), (am_ini n as)[i]? = some v → (∃ b, v = .inr (.inr (0, b))) ∨ (k + i, so_cv Z v) ∈ lv_args k asv
  | [], _, k, n, _, _, i, v, h => Or.inl (so_ini_nil n i v h)
  | v0 :: as, asv, k, n, hS, hw, i, v, h => by
    obtain ⟨w, r, rfl, hr, hS'⟩ := hS
    by_cases hl : ∃ x, v0 = .inr (.inl x)
    · obtain ⟨x, rfl⟩ := hl
      have hw' : 2 + am_wds as ≤ n := hw
      obtain ⟨n, rfl⟩ : ∃ z, n = z + 2 := ⟨n - 2, by omega⟩
      have hwx : w = .long x := by
        rcases hr with rfl | ⟨b, a, h1, -⟩
        · rfl
        · cases h1
      subst hwx
      have h1 : (.inr (.inl x) :: am_j :: am_ini n as)[i]? = some v := h
      show _ ∨ (k + i, so_cv Z v) ∈ (k, Value.long x) :: lv_args (k + 2) r
      rcases i with _ | _ | i
      · cases h1
        exact Or.inr List.mem_cons_self
      · cases h1
        exact Or.inl ⟨0, rfl⟩
      · rcases so_ini as r (k + 2) n hS' (by omega) i v h1 with q | q
        · exact Or.inl q
        · refine Or.inr (List.mem_cons_of_mem _ ?_)
          have e : k + (i + 1 + 1) = k + 2 + i := by omega
          rw [e]; exact q
    · have hl' : ∀ x, v0 ≠ .inr (.inl x) := fun x q => hl ⟨x, q⟩
      have hw' : 1 + am_wds as ≤ n := by
        rcases v0 with x | x | q
        · exact hw
        · exact absurd rfl (hl' x)
        · exact hw
      obtain ⟨n, rfl⟩ : ∃ z, n = z + 1 := ⟨n - 1, by omega⟩
      have hi1 : am_ini (n + 1) (v0 :: as) = v0 :: am_ini n as := by
        rcases v0 with x | x | q
        · rfl
        · exact absurd rfl (hl' x)
        · rfl
      rw [hi1] at h
      have hc := so_cat1 hr hl'
      show _ ∨ (k + i, so_cv Z v) ∈ (k, w) :: lv_args (if w.category = 2 then k + 2 else k + 1) r
      rw [if_neg (by omega)]
      rcases i with _ | i
      · cases h
        rcases hr with rfl | ⟨b, a, rfl, rfl⟩
        · exact Or.inr List.mem_cons_self
        · exact Or.inl ⟨b, rfl⟩
      · rcases so_ini as r (k + 1) n hS' (by omega) i v h with q | q
        · exact Or.inl q
        · refine Or.inr (List.mem_cons_of_mem _ ?_)
          have e : k + (i + 1) = k + 1 + i := by omega
          rw [e]; exact q
theorem so_sl_len {Z : so_Z} : ∀ (as : List am_V) (asv : List Value), so_S Z as asv → (lg_sl asv).length = am_wds as ∧ asv.length = as.length
  | [], asv, h => by
    have h1 : asv = [] := h
    subst h1
    exact ⟨rfl, rfl⟩
  | v0 :: as, asv, h => by
    obtain ⟨w, r, rfl, hr, hS'⟩ := h
    obtain ⟨h1, h2⟩ := so_sl_len as r hS'
    refine ⟨?_, by simp [h2]⟩
    show ((if w.category = 2 then [Slot.val w, .second] else [Slot.val w]) ++ lg_sl r).length = _
    by_cases hl : ∃ x, v0 = .inr (.inl x)
    · obtain ⟨x, rfl⟩ := hl
      have hwx : w = .long x := by
        rcases hr with rfl | ⟨b, a, h1, -⟩
        · rfl
        · cases h1
      subst hwx
      show (([Slot.val (.long x), .second] : List Slot) ++ lg_sl r).length = 2 + am_wds as
      simp [h1]; omega
    · have hl' : ∀ x, v0 ≠ .inr (.inl x) := fun x q => hl ⟨x, q⟩
      have hc := so_cat1 hr hl'
      rw [if_neg (by omega)]
      have : am_wds (v0 :: as) = 1 + am_wds as := by
        rcases v0 with x | x | q
        · rfl
        · exact absurd rfl (hl' x)
        · rfl
      rw [this]
      simp [h1]; omega
def so_pre (Z : so_Z) (A : Nat → Prop) (Y : so_Y) (as : List am_V) (σ : am_S) (a : Array Value) (U : State) : Prop := (∃ asv : List Value, a = asv.toArray ∧ so_S Z as asv) ∧ va_P Z.2.1 so_cl (so_w Z σ) U.heap ∧ va_D A (so_w Z σ) ∧ so_G Z A Y U
def so_P (Z : so_Z) (A : Nat → Prop) (Y : so_Y) (l : Launch) : am_P := fun d g pc ls st σ Q => so_gs[g / 16384]? = some g → ∀ (p : Program) (e : Env) (R : Room) (s : State) (m : MethodId) (args : Array Value) (below : List Frame) (meth : Method) (c : Code) (b0 n0 : Nat),
  so_X Z A Y p s m args meth c (g / 16384) → c.exceptionTable.toList.map (fun h => (h.startPc, h.endPc, h.handlerPc, h.catchType)) = so_hh (g / 16384) → d ≤ R.frames → 64 * d ≤ R.locals → b0 ≤ R.cells → n0 ≤ R.slots →
  so_J Z A Y p l e R s m args below meth c (so_ml (g / 16384)) b0 n0 (so_E Z A Y s b0 n0 below Q) pc ls st σ
theorem so_P_mono (Z : so_Z) (A : Nat → Prop) (Y : so_Y) (l : Launch) : am_mono (so_P Z A Y l) := by
  intro d g pc ls st σ Q Q' hq h hg p e R s m args below meth c b0 n0 hX ht hd hl hb hn okl okt okσ H locs cells slots lsv stv hP hD hS hc hs hL hst
  refine so_Wm (fun t ht => ?_) (h hg p e R s m args below meth c b0 n0 hX ht hd hl hb hn okl okt okσ H locs cells slots lsv stv hP hD hS hc hs hL hst)
  obtain ⟨o, h1, h2, h3⟩ := ht
  exact ⟨o, h1, h2, so_post_mono hq h3⟩
theorem so_dig {g : Nat} (hg : so_gs[g / 16384]? = some g) (hi : g / 16384 < 208) : g / 32 % 32 = so_ml (g / 16384) ∧ ∃ l, am_tb[g / 16384]? = some (g, l) ∧ l.all (fun r => so_chk (g / 16384) r.1 r.2) = true := by
  have h := so_kall _ hi
  unfold so_mok at h
  cases ht : am_tb[g / 16384]? with
  | none => rw [ht] at h; cases h
  | some q =>
    rw [ht] at h
    have h' : (decide (q.1 / 16384 = g / 16384 ∧ q.1 / 32 % 32 = (so_mlL[g / 16384]?).getD 0 ∧ so_gs[g / 16384]? = some q.1) && q.2.all (fun r => so_chk (g / 16384) r.1 r.2)) = true := h
    rw [Bool.and_eq_true] at h'
    obtain ⟨h1, h2, h3⟩ := of_decide_eq_true h'.1
    rw [hg] at h3
    cases h3
    exact ⟨h2, q.2, rfl, h'.2⟩
set_option maxHeartbeats 1000000 in
theorem so_met {Z : so_Z} {A : Nat → Prop} {Y : so_Y} {l : Launch} {d g : Nat} {as : List am_V} {σ : am_S} {Q : am_Q} (hP : so_P Z A Y l d g 0 (am_ini (g / 32 % 32) as) [] σ Q) (hg : so_gs[g / 16384]? = some g) (hi : g / 16384 < 207) (hw : am_wds as ≤ g / 32 % 32) (oka : so_okl (am_ini (g / 32 % 32) as)) (okσ : so_okσ Y σ) :
    MetFree l (so_y (g / 16384)) (headSpec so_tb (so_rm d σ.2.2.2)) (so_pre Z A Y as σ) (fun _ _ _ _ _ => True) (fun _ st o t => so_post Z A Y st σ.2.2.2 (6 * σ.2.2.2) Q o t) := by
  obtain ⟨hdg, -⟩ := so_dig hg (by omega)
  rw [hdg] at hP hw oka
  refine MetFree.of_bodyS (code := so_by (g / 16384)) (maxLocals := so_ml (g / 16384)) (ret := so_rt (g / 16384)) (so_f9 _ (by omega)).2.1 ?_ ?_
  · intro args s m h hn
    obtain ⟨meth, c, h1, h2, h3, h4, h5, h6, -, -⟩ := so_code (atoms_spec (ws := so_tb) h _ (so_f4 _ hi)) hn
    exact ⟨meth, c, h1, h2, h3, h4, h5, h6⟩
  · intro p e s m args below meth c s₁ B hml hpre _
    obtain ⟨⟨asv, rfl, hS⟩, hPw, hD, hG⟩ := hpre
    have hts := atoms_spec (ws := so_tb) B.pre
    obtain ⟨meth', c', h1, h2, -, -, -, -, h7, -⟩ := so_code (hts _ (so_f4 _ hi)) B.named
    cases Option.some.inj (h1.symm.trans B.method)
    cases Option.some.inj (h2.symm.trans (Stand.of_body B).code)
    have hown : s.vm.findClass (sR (so_ow (g / 16384))) = some m.cls := by
      rw [← (so_f9 (g / 16384) (by omega)).1]
      exact findClass_of_methodNamed B.named
    have hX : so_X Z A Y p s m asv.toArray meth c (g / 16384) := ⟨B.exec, B.bytes, hml, B.returns, B.notSynchronized, hown, hts, hG⟩
    have hl := lv_entry asv (n := so_ml (g / 16384)) (by rw [(so_sl_len as asv hS).1]; exact hw)
    have hh0 : s₁.heap = s.heap := by rw [B.state]; rfl
    have hW := hP hg p e (so_rm d σ.2.2.2) s m asv.toArray below meth c σ.2.2.2 (6 * σ.2.2.2) hX h7 (Nat.le_refl _) (Nat.le_refl _) (Nat.le_refl _) (Nat.le_refl _) oka (fun v hv => nomatch hv) okσ s.heap [] 0 0 _ []
      hPw hD va_S.rf (by omega) (by omega) ⟨_, hl, fun i v hv => by have := so_ini as asv 0 _ hS hw i v hv; rwa [Nat.zero_add] at this⟩ rfl
    rw [← lg_entry_eq] at hW
    obtain ⟨t, a1, o, b1, b2, b3⟩ := hW s₁ hh0 (Stand.of_body B)
    exact ⟨t, o, a1, b1, b2, b3⟩
theorem so_ow12 (i : Nat) : so_ow i < 12 := by
  unfold so_ow
  cases h : so_owns[i]? with
  | none => decide
  | some k =>
    have h1 : ∀ k ∈ so_owns, k < 12 := by decide +kernel
    exact h1 k (List.mem_of_getElem? h)
theorem so_ml32 (i : Nat) : so_ml i ≤ 32 := by
  unfold so_ml
  cases h : so_mlL[i]? with
  | none => decide
  | some k =>
    have h1 : ∀ k ∈ so_mlL, k ≤ 32 := by decide +kernel
    exact h1 k (List.mem_of_getElem? h)
theorem so_S_split {Z : so_Z} : ∀ {st : List am_V} {stv : List Value} {n : Nat}, so_S Z st stv → n ≤ st.length → ∃ asv rest, stv = asv.reverse ++ rest ∧ so_S Z (st.take n).reverse asv ∧ so_S Z (st.drop n) rest := by
  have app : ∀ (a b : List am_V) (x y : List Value), so_S Z a x → so_S Z b y → so_S Z (a ++ b) (x ++ y) := by
    intro a
    induction a with
    | nil => intro b x y h1 h2; have : x = [] := h1; subst this; exact h2
    | cons v a ih =>
      intro b x y h1 h2
      obtain ⟨w, r, rfl, hr, h3⟩ := h1
      exact ⟨w, r ++ y, rfl, hr, ih b r y h3 h2⟩
  intro st
  induction st with
  | nil =>
    intro stv n h hn
    have : n = 0 := by simpa using hn
    subst this
    exact ⟨[], stv, rfl, rfl, h⟩
  | cons v st ih =>
    intro stv n h hn
    cases n with
    | zero => exact ⟨[], stv, rfl, rfl, h⟩
    | succ n =>
      obtain ⟨w, r, rfl, hr, h2⟩ := h
      obtain ⟨asv, rest, rfl, h3, h4⟩ := ih (n := n) h2 (by simpa using hn)
      refine ⟨asv ++ [w], rest, by simp, ?_, h4⟩
      rw [List.take_succ_cons, List.reverse_cons]
      exact app _ _ _ _ h3 ⟨w, [], rfl, hr, rfl⟩
theorem so_ini_ok : ∀ (n : Nat) (as : List am_V), so_okl as → so_okl (am_ini n as)
  | 0, _, _ => fun v hv => nomatch hv
  | n + 1, [], h => so_okl_cons (Or.inl rfl) (so_ini_ok n [] h)
  | n + 1, .inl x :: as, h => so_okl_cons (so_okl_hd h) (so_ini_ok n as (so_okl_tl h))
  | n + 1, .inr (.inr q) :: as, h => so_okl_cons (so_okl_hd h) (so_ini_ok n as (so_okl_tl h))
  | 0 + 1, .inr (.inl x) :: as, h => fun v hv => nomatch hv
  | (n + 1) + 1, .inr (.inl x) :: as, h => so_okl_cons trivial (so_okl_cons (Or.inl rfl) (so_ini_ok n as (so_okl_tl h)))
theorem so_cnamed {a : Array Value} {s : State} {mi : Nat} (h : (so_cw mi).before a s = true) : ∃ m, s.methodNamed? (so_y mi) = some m := by
  unfold so_cw at h
  by_cases hh : so_hh mi = []
  · rw [if_pos hh] at h
    exact Cond.code_named h
  · rw [if_neg hh] at h
    obtain ⟨m9, meth, c, hn9, -⟩ := Cond.codeWith_spec h
    exact ⟨m9, hn9⟩
set_option maxRecDepth 100000 in
theorem so_f9b : ∀ i, i < 208 → (so_y i).cls ≠ "java/lang/invoke/MethodHandle" ∧ (so_y i).cls ≠ "java/lang/invoke/VarHandle" := by decide +kernel
set_option maxRecDepth 100000 in
theorem so_f14 : ∀ i, i < 207 → (so_gs[i]?).getD 0 / 1024 % 16 ≠ 0 → (so_gs[i]?).getD 0 / 1024 % 16 = so_ow i := by decide +kernel
