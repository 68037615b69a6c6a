/-! An exception that a method of the law's catches: its table is searched, its catch types linked on the way -/
/-- the exception that a catch type of the law's names -/
def so_ce (ct : Nat) : Nat := ((so_es.find? (fun q => decide (q.1 = 0 ∧ q.2.1 = ct))).map (fun q => q.2.2.2.1)).getD 0
set_option maxRecDepth 100000 in
theorem so_f30 : ∀ i, i < 208 → (so_gs[i]?).getD 0 % 2 = 0 → so_hh i = [] := by decide +kernel
set_option maxRecDepth 100000 in
theorem so_f31 : ∀ i, i < 208 → (so_gs[i]?).getD 0 % 2 ≠ 0 → am_hs.lookup ((so_gs[i]?).getD 0) = some ((so_hh i).map (fun h => (so_ce h.2.2.2, h.2.2.1))) := by decide +kernel
set_option maxRecDepth 100000 in
theorem so_f34 : ∀ i, i < 208 → (so_gs[i]?).getD 0 % 2 ≠ 0 → so_ow i = 0 ∧ (so_hh i).all (fun h => decide (0 < so_ce h.2.2.2 ∧ so_ce h.2.2.2 < 5 ∧ h.2.2.2 ≠ 0)) = true := by decide +kernel
set_option maxRecDepth 100000 in
theorem so_f32 : ∀ q ∈ so_es, so_wd q.2.2.2.2.1 (.classLink (sR q.1) q.2.1 (so_en q.2.2.2.1)) = true := by decide +kernel
set_option maxRecDepth 100000 in
theorem so_f33 : ∀ x, x < 5 → 0 < x → so_in1 (.instantiable (so_en x) 6) = true := by decide +kernel
theorem so_ce_word {ct : Nat} (h : 0 < so_ce ct) : Cond.classLink (sR 0) ct (so_en (so_ce ct)) ∈ so_tb := by
  unfold so_ce at h ⊢
  cases hf : so_es.find? (fun q => decide (q.1 = 0 ∧ q.2.1 = ct)) with
  | none => rw [hf] at h; cases h
  | some q =>
    have h0 : decide (q.1 = 0 ∧ q.2.1 = ct) = true := by
      have h9 := List.find?_some hf
      exact h9
    have h1 := of_decide_eq_true h0
    have h2 := so_wd_in (so_f32 q (List.mem_of_find?_eq_some hf))
    rw [h1.1, h1.2] at h2
    exact h2
/-- the search through the table -/
theorem so_find {e : Env} {s₀ : State} {f : JFrame} {q : Addr} {cell : Cell} {x pc' : Nat} (hobj : ∀ k, cell.vm ≠ .statics k) (hk0 : ∃ k, s₀.vm.classes[cell.cls]? = some k) :
    ∀ (L : List ExceptionTableEntry) (S : State), s₀.WarmedH S.vm → S.heap[q]? = some cell →
      (∀ y ∈ L, covers y f.pc = true ∧ y.catchType ≠ 0 ∧ ∃ cc, s₀.vm.ClassLinks e.platform f.method.cls y.catchType cc ∧ s₀.vm.assignable cell.cls cc = decide (so_ce y.catchType = x)) →
      (L.map (fun y => (so_ce y.catchType, y.handlerPc))).lookup x = some pc' →
      ∃ vm', s₀.WarmedH vm' ∧ ∀ (Q : Handler → Pre) (E : CtlPost) (d : Bool) (acts : List Action), wp (findHandler.go f q L) Q E e d acts S ↔ Q (.found pc') d acts (S.setVm vm') := by
  obtain ⟨k0, hk0⟩ := hk0
  intro L
  induction L with
  | nil => intro S _ _ _ hl; cases hl
  | cons y L ih =>
    intro S hW hcell hall hl
    obtain ⟨hx, h0, cc, hlk, has⟩ := hall y List.mem_cons_self
    have hlS := hW.classLinks hlk
    obtain ⟨dk, _, _, kt, hdk, _, _, _, _, hkt, _, hopen⟩ := hlk.here
    have hW' : s₀.WarmedH (S.vm.noted f.method.cls y.catchType (.cls cc)) := hW.noted hdk hopen (State.rightAt_cls hlk)
    obtain ⟨ha, htr⟩ := (resolveClass_links e.toSetting hlS).op (op := VmOp.resolveClass f.method.cls y.catchType) rfl
    obtain ⟨k1, hk1, -⟩ := hW'.alike.2.2 _ _ hk0
    obtain ⟨k2, hk2, -⟩ := hW'.alike.2.2 _ _ hkt
    have has' : (S.vm.noted f.method.cls y.catchType (.cls cc)).assignable cell.cls cc = decide (so_ce y.catchType = x) := by rw [hW'.alike.assignable]; exact has
    simp only [covers] at hx
    by_cases hxy : so_ce y.catchType = x
    · rw [decide_eq_true hxy] at has'
      have hpc : y.handlerPc = pc' := by
        rw [List.map_cons, List.lookup_cons, hxy] at hl
        simpa using hl
      subst hpc
      exact ⟨_, hW', fun Q E d acts => by simp [findHandler.go, hx, h0, ha, htr, hcell, hobj, hk1, hk2, has', VmOp.dirties, VmOp.acts]⟩
    · rw [decide_eq_false hxy] at has'
      have hl' : (L.map (fun y => (so_ce y.catchType, y.handlerPc))).lookup x = some pc' := by
        rw [List.map_cons, List.lookup_cons] at hl
        have : (x == so_ce y.catchType) = false := by rw [beq_eq_false_iff_ne]; exact fun z => hxy z.symm
        rw [this] at hl
        exact hl
      obtain ⟨vm', hW2, hgo⟩ := ih (S.setVm (S.vm.noted f.method.cls y.catchType (.cls cc))) hW' hcell (fun z hz => hall z (List.mem_cons_of_mem _ hz)) hl'
      refine ⟨vm', hW2, fun Q E d acts => ?_⟩
      have h1 : wp (findHandler.go f q (y :: L)) Q E e d acts S ↔ wp (findHandler.go f q L) Q E e d acts (S.setVm (S.vm.noted f.method.cls y.catchType (.cls cc))) := by
        simp [findHandler.go, hx, h0, ha, htr, hcell, hobj, hk1, hk2, has', VmOp.dirties, VmOp.acts]
      rw [h1]
      exact hgo Q E d acts
section So11
variable {Z : so_Z} {A : Nat → Prop} {Y : so_Y} {p : Program} {l : Launch} {e : Env} {R : Room} {s : State} {m : MethodId} {args : Array Value} {below : List Frame} {meth : Method} {c : Code} {b0 n0 mi : Nat}
/-- into the handler -/
theorem so_into {T : State} {locs : List Loc} {cells slots : Nat} {q : Addr} {cell : Cell} {x pc' : Nat} {g : JFrame} (X : Stand p l e R s m args below meth c T locs cells slots) (hg : g.method = m) (hcell : T.heap[q]? = some cell) (hobj : cell.vm.isStatics = false) (hk0 : ∃ k, s.vm.classes[cell.cls]? = some k)
    (hall : ∀ y ∈ c.exceptionTable.toList, covers y g.pc = true ∧ y.catchType ≠ 0 ∧ ∃ cc, s.vm.ClassLinks e.platform m.cls y.catchType cc ∧ s.vm.assignable cell.cls cc = decide (so_ce y.catchType = x))
    (hl : (c.exceptionTable.toList.map (fun y => (so_ce y.catchType, y.handlerPc))).lookup x = some pc') :
    ∃ vm', Stand p l e R s m args below meth c (T.setVm vm') locs cells slots ∧ ∀ t, Steps p.tables e below ((T.setVm vm').setTop { g with pc := pc', stack := [.ref q] }) t → Steps p.tables e below ((T.setTop g).pushFrame (.throwing q)) t := by
  subst hg
  obtain ⟨vm', hW', hgo⟩ := so_find (e := e) (f := g) (q := q) (VmData.ne_statics_of hobj) hk0 c.exceptionTable.toList ((T.setTop g).pushFrame (.throwing q)) (by rw [throwing_vm]; exact X.warmed) (by rw [throwing_heap]; exact hcell) hall hl
  refine ⟨vm', X.noted hW', fun t hrest => ?_⟩
  obtain ⟨hgoes, hw⟩ := At.throwing (g := g) X.here q
  refine Steps.head hgoes hw ?_
  have hm1 : ((T.setTop g).pushFrame (.throwing q)).vm.method? g.method = some meth := by rw [throwing_vm]; exact X.method'
  have hfind : ∀ (Q : Handler → Pre) (E : CtlPost) (d : Bool) (acts : List Action), wp (findHandler g q) Q E e d acts ((T.setTop g).pushFrame (.throwing q)) ↔ Q (.found pc') d acts (((T.setTop g).pushFrame (.throwing q)).setVm vm') := by
    intro Q E d acts
    rw [_root_.Jvm.W.findHandler_eq hm1 X.code]
    exact hgo Q E d acts
  have hstep : (stepThrowing e ((T.setTop g).pushFrame (.throwing q)) q (.java g :: T.frames.tail)).Is ((((T.setTop g).pushFrame (.throwing q)).setVm vm').setFrames (.java { g with pc := pc', stack := [.ref q] } :: T.frames.tail)) [] := by
    simp only [stepThrowing, searchFrame, vmDo]
    generalize hr : Sem.go _ e false [] ((T.setTop g).pushFrame (.throwing q)) = res
    obtain ⟨as, rfl, ha⟩ := Sem.eq_ok_of hr (a := Handler.found pc') (s' := ((T.setTop g).pushFrame (.throwing q)).setVm vm') (acts' := []) (by
      simp [hfind])
    exact ⟨rfl, ha⟩
  rw [stepThread_throwing (frames_entered X.here.top _), hstep.1]
  obtain ⟨g₀, hfr⟩ := X.frames_eq
  have hfr' : (T.setVm vm').frames = .java g₀ :: below := hfr
  rw [State.setTop_of_frames _ hfr'] at hrest
  have e1 : (((T.setTop g).pushFrame (.throwing q)).setVm vm').setFrames (.java { g with pc := pc', stack := [.ref q] } :: T.frames.tail) = (T.setVm vm').setFrames (.java { g with pc := pc', stack := [.ref q] } :: below) := by
    rw [State.pushFrame, State.setTop_of_frames _ hfr, State.setFrames_setFrames]
    show ((T.setVm vm').setFrames _).setFrames _ = _
    rw [State.setFrames_setFrames, hfr]
    rfl
  rw [e1]
  exact hrest
end So11
