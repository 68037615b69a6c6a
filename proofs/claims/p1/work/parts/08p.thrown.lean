/-! A new exception, thrown: the walk -/
section So13
variable {Z : so_Z} {A : Nat → Prop} {Y : so_Y} {p : Program} {l : Launch} {e : Env} {R : Room} {s : State} {m : MethodId} {args : Array Value} {below : List Frame} {meth : Method} {c : Code} {b0 n0 mi pc : Nat} {σ : am_S}
/-- the frame as if it were entered here -/
theorem so_anew {T : State} {locs : List Loc} {cells slots : Nat} (X : Stand p l e R s m args below meth c T locs cells slots) {R' : Room} (hf : R'.frames ≤ R.frames) (hl : R'.locals ≤ R.locals) (hc : cells + R'.cells ≤ R.cells) (hs : slots + R'.slots ≤ R.slots) :
    Stand p l e R' ((T.setVm s.vm).setFrames (.invoking m args :: below)) m args below meth c T [] 0 0 := by
  have htop : (T.setVm s.vm).topJava?.isSome := X.here.top
  have hF : ((T.setVm s.vm).setFrames (.invoking m args :: below)).frames = .invoking m args :: below := State.frames_setFrames _ (State.cur_lt_of_top htop)
  obtain ⟨g₀, hfr⟩ := X.frames_eq
  have hl9 : e.platform.stackLimits (T.setVm s.vm).me = e.platform.stackLimits s.me := X.limits
  have hb9 : (T.setVm s.vm).me.stackBytes = s.me.stackBytes := X.bytes
  have hroom : ((T.setVm s.vm).setFrames (.invoking m args :: below)).hasRoom e.platform R' = true := by
    have h := X.room
    have hU : ((T.setVm s.vm).setFrames (.invoking m args :: below)).localsInUse = s.localsInUse := by
      rw [State.localsInUse_invoking hF (meth := meth) (c := c) X.method X.code, State.localsInUse_invoking X.frames X.method X.code]
    simp only [State.hasRoom, Bool.and_eq_true, decide_eq_true_eq] at h ⊢
    obtain ⟨⟨⟨⟨h1, h2, h3, h4, h5, h6⟩, h7⟩, h8⟩, h9⟩ := h
    rw [X.frames, List.length_cons] at h2 h3
    have q1 := X.heapSize
    have q2 := X.used
    simp only [hF, hU, List.length_cons, State.stackLimits_setFrames, State.stackBytes_setFrames, hl9, hb9]
    refine ⟨⟨⟨⟨by omega, by omega, by omega, by omega, by omega, h6⟩, ?_⟩, ?_⟩, X.book⟩
    · show T.heap.size + R'.cells ≤ e.platform.maxCells
      omega
    · show T.slotsUsed + R'.slots ≤ e.platform.maxSlots
      omega
  refine ⟨X.admits, X.cas, X.clock, hF, hroom, X.hears, X.method, X.code, X.here, X.tail, X.warmed, ?_, ?_, ?_⟩
  · rw [State.stackLimits_setFrames]; rfl
  · rw [State.stackBytes_setFrames]; rfl
  · refine ⟨?_, Nat.le_refl _, Nat.le_refl _, ?_, ?_, fun a c9 h9 => ⟨c9, h9, rfl, rfl, fun _ _ => rfl⟩⟩
    · have hr : (T.setVm s.vm).frames = .java g₀ :: below := hfr
      obtain ⟨t, ht, -⟩ := State.frames_cons hr
      show T.setVm s.vm = { ((T.setVm s.vm).setFrames (.invoking m args :: below)).setFrames (T.setVm s.vm).frames with heap := T.heap, slotsUsed := T.slotsUsed }
      rw [State.setFrames_setFrames, State.setFrames_self ht]
      rfl
    · show T.slotsUsed = T.slotsUsed + ((T.heap.toList.drop T.heap.size).map (·.slots.size)).sum
      rw [List.drop_eq_nil_of_le (Nat.le_of_eq Array.length_toList)]
      rfl
    · show ((T.heap.toList.drop T.heap.size).map (·.slots.size)).sum ≤ 0
      rw [List.drop_eq_nil_of_le (Nat.le_of_eq Array.length_toList)]
      exact Nat.le_refl _
theorem so_tS_w {n d : String} {A : Nat → Prop} {U : State} {a : Array Value} (h : so_tS n d A U) : (Cond.laysStatic "java/lang/Throwable" n d).before a U = true ∧ (Cond.isRef (.static "java/lang/Throwable" n d)).before a U = true := by
  obtain ⟨c, k, i, f, q, cell, h1, h2, h3, h4, h5, h6, h7, h8, h9, h10, h11, v, h12, h13⟩ := h
  refine ⟨Cond.laysStatic_of h1 h2 h3 h5 h6 h7 h8 h9 h10, ?_⟩
  have he : (Term.static "java/lang/Throwable" n d).eval a U none [] U = some v := by
    simp [Term.eval, State.fieldNamed?, h2, h3, h5, h6, h7, h12]
  simp only [Cond.before, Cond.holds, Cond.value, he]
  cases v <;> simp_all [Value.isRef]
theorem so_kept {U : State} {k n : Nat} (h : s.sameButNew ({ U with vm := s.vm } : State) [] k n) : s.heap.size ≤ U.heap.size ∧ ∀ q : Nat, q < s.heap.size → U.heap[q]? = s.heap[q]? := by
  obtain ⟨-, h2, -, -, -, h6⟩ := h
  refine ⟨h2, fun q hq => ?_⟩
  have hc : s.heap[q]? = some s.heap[q] := Array.getElem?_eq_getElem hq
  obtain ⟨c9, e1, e2, e3, e4⟩ := h6 q _ hc
  have e5 : U.heap[q]? = some c9 := e1
  rw [e5, hc]
  have e6 : c9.slots = (s.heap[q]).slots := Array.ext_getElem? fun j => e4 j (fun z => nomatch z)
  rw [e6] at e2
  exact congrArg some e2
set_option maxHeartbeats 2000000 in
theorem so_Thr {Q : am_Q} {d x : Nat} {ls : List am_V} (hst : l.stackTraces = false) (hX : so_X Z A Y p s m args meth c mi) (ht : c.exceptionTable.toList.map (fun h => (h.startPc, h.endPc, h.handlerPc, h.catchType)) = so_hh mi)
    (hRf : d ≤ R.frames) (hRl : 64 * d ≤ R.locals) (hRc : b0 ≤ R.cells) (hRs : n0 ≤ R.slots) (hthr : so_thr mi pc x = true) (hd8 : 8 ≤ d) (hb0 : 0 < σ.2.2.2) (hQ : so_hh mi = [] → Q (.inr x) (am_setB σ (σ.2.2.2 - 1))) :
    so_J Z A Y p l e R s m args below meth c (so_ml mi) b0 n0 (so_E Z A Y s b0 n0 below Q) pc ls [] σ := by
  intro okl okt okσ H locs cells slots lsv stv hP hD hS hc hs hL hstv
  have hs0 : stv = [] := hstv
  subst hs0
  obtain ⟨hx, hb, hml, hr, hlk, hown, hts, hG⟩ := id hX
  unfold so_thr at hthr
  rw [List.any_eq_true] at hthr
  obtain ⟨q, hq, hq1⟩ := hthr
  obtain ⟨h1, h2, h3, h4, h5, h6, hh, how⟩ := of_decide_eq_true hq1
  subst h2
  have dec : ∀ {a : Nat} {r : am_I × Nat}, (decode (so_by mi) a).toOption = some r → decode c.code a = .ok r := by
    intro a r h
    rw [hb]
    cases hdd : decode (so_by mi) a with
    | error z => rw [hdd] at h; cases h
    | ok z => rw [hdd] at h; cases h; rfl
  have d0 := dec h3
  have d3 := dec h4
  have d4 := dec h5
  have d7 := dec h6
  have hthw := so_f40 q hq
  unfold so_thw at hthw
  rw [how] at h1
  rw [Bool.or_eq_true] at hthw
  have hthw : ((Bundle.ownAtoms0 (sR 1) q.2.2.1 (so_en q.2.2.2.1) so_nm).all so_in2 && (so_in1 (.initialized (so_en q.2.2.2.1)) && (Bundle.fit (so_en q.2.2.2.1) && decide (0 < q.2.2.2.1 ∧ q.2.2.2.1 < 5)))) = true := by
    rcases hthw with z | z
    · exact absurd h1 (of_decide_eq_true z)
    · exact z
  rw [Bool.and_eq_true, Bool.and_eq_true, Bool.and_eq_true] at hthw
  obtain ⟨w1, w2, w3, w4⟩ := hthw
  have hx05 := of_decide_eq_true w4
  rw [how] at hown
  have hnil : c.exceptionTable.toList = [] := List.map_eq_nil_iff.mp (ht.trans hh)
  intro T hT X
  have htr : e.platform.stackTraces = false := (show e.platform.stackTraces = l.stackTraces by rw [X.admits.platform]).trans hst
  have Y0 := so_anew X (R' := { frames := R.frames, locals := R.locals, cells := 1, slots := 6 }) (Nat.le_refl _) (Nat.le_refl _) (by show cells + 1 ≤ R.cells; omega) (by show slots + 6 ≤ R.slots; omega)
  obtain ⟨s', hA'⟩ : ∃ z, z = (T.setVm s.vm).setFrames (.invoking m args :: below) := ⟨_, rfl⟩
  rw [← hA'] at Y0
  have hvm : s'.vm = s.vm := by rw [hA']; rfl
  have hhp : s'.heap = H := by rw [hA']; exact hT
  have hW0 : s.WarmedH s'.vm := by rw [hvm]; exact State.WarmedH.refl s
  have hG' : so_G Z A Y s' := so_G_at hG hW0 (by rw [hhp]; exact hS.1) (fun a h7 h8 => by rw [hhp]; exact hS.2.1 a h7 h8)
  obtain ⟨-, -, -, -, ⟨-, t1, t2, t3⟩, -⟩ := hG'
  have u1 := so_tS_w (a := args) t1
  have u2 := so_tS_w (a := args) t2
  have hall : ∀ w ∈ Bundle.ownAtoms0 (sR 1) q.2.2.1 (so_en q.2.2.2.1) so_nm, w.before args s' = true := by
    intro w hw
    have hin := List.all_eq_true.mp w1 w hw
    unfold so_in2 at hin
    rw [Bool.or_eq_true] at hin
    rcases hin with hin | hin
    · unfold so_hw at hin
      rw [Bool.or_eq_true, Bool.or_eq_true, Bool.or_eq_true] at hin
      rcases hin with z | z | z | z
      · rw [of_decide_eq_true z]; exact u1.2
      · rw [of_decide_eq_true z]; exact u2.2
      · rw [of_decide_eq_true z]; exact u1.1
      · rw [of_decide_eq_true z]; exact u2.1
    · rw [Bool.and_eq_true, Bool.or_eq_true] at hin
      have hm := of_decide_eq_true hin.1
      rcases hin.2 with z | z
      · exact word_at hW0 (good_of_word z) (hts w (List.mem_filter.mpr ⟨hm, z⟩))
      · have hm2 := t3 w (List.mem_filter.mpr ⟨hm, z⟩)
        rw [Bool.and_eq_true] at z
        exact va_tabs z.1 rfl hm2
  have hown' : s'.vm.findClass (sR 1) = some m.cls := by rw [hvm]; exact hown
  have hlink : (Cond.classLink (sR 1) q.2.1 (so_en q.2.2.2.1)).before args s' = true := by
    have h9 := so_tb_good (so_wd_in (so_f32 q hq))
    have h10 := hts _ (so_wd_in (so_f32 q hq))
    rw [h1] at h9 h10
    exact word_at hW0 (good_of_word h9) h10
  have hini' : (Cond.initialized (so_en q.2.2.2.1)).before args s' = true := word_at hW0 (good_of_word (so_tb_good (so_in1_in w2))) (hts _ (so_in1_in w2))
  have hins : (Cond.instantiable (so_en q.2.2.2.1) 6).before args s' = true := hall _ (by simp [Bundle.ownAtoms0])
  have hsize : lsv.size = c.maxLocals := by
    obtain ⟨lv, e1, -⟩ := hL
    exact e1.1.trans hml.symm
  obtain ⟨vm₁, cX, kX, hfX, hkX, -, -, X₁, st1⟩ := Y0.newCold hx (own := sR 1) (C := so_en q.2.2.2.1) (index := q.2.1) (n := 6) hown' hlink hins hini' (g := F0 m pc lsv []) rfl d0 (Nat.le_refl _) (Nat.le_refl _)
  generalize hT1 : (T.setVm vm₁).pushCell { cls := cX, slots := kX.instanceTypes.map defaultValue, vm := .none } = T1 at X₁ st1
  have hcellA : T1.heap[T.heap.size]? = some (freshCell cX kX) := by rw [← hT1]; exact State.heap_pushCell_size _ _
  obtain ⟨U, hsteps, hrun, hend, hW, hsame, ce, hce, hO⟩ := X₁.ctorThrow0 hx htr (own := sR 1) (cls := so_en q.2.2.2.1) (names := so_nm) (ic := q.2.2.1) hown' w3 so_f41 hall (fun z hz => nomatch hz) hfX hkX hcellA (by rw [hhp, hT]; exact Nat.le_refl _)
    (g := { method := m, pc := pc + 4, locals := lsv, stack := [.ref T.heap.size, .ref T.heap.size], locked := none }) rfl hsize rfl rfl (rest := []) rfl
    d4 d7 (fun z hz => by rw [hnil] at hz; cases hz) (by show 2 + 3 < R.frames; omega) (by show 2 * 0 + 1 + (13 * (2 + 1) + 41) ≤ R.locals; omega) hlk
  obtain ⟨f1, f2⟩ := so_kept hsame
  rw [hhp] at f1 f2
  have hWs : s.WarmedH U.vm := State.WarmedH.trans hW0 hW
  have hcl : s.vm.findClass (so_en q.2.2.2.1) = some ce.cls := by
    have h9 := hO.cls
    rw [hvm] at h9
    exact h9
  have hall2 : s.sameButNew ({ U with vm := s.vm } : State) locs (b0 - (σ.2.2.2 - 1)) (n0 - 6 * (σ.2.2.2 - 1)) := by
    subst hA'
    obtain ⟨e1, e2⟩ := hsame
    rw [State.setFrames_setFrames] at e1
    have h2 : (T.setVm s.vm).sameButNew ({ U with vm := s.vm } : State) [] (0 + 1) (0 + 6) := ⟨e1, e2⟩
    have h3 := X.same.trans h2
    rw [List.append_nil] at h3
    exact h3.mono (by omega) (by omega)
  have hlt : ∀ (k : Nat) (v : Nat × va_E), (so_w Z σ)[k]? = some v → v.1 < H.size := fun k v hv => (hP k v hv).lt
  refine ⟨U, ?_, .threw T.heap.size, hrun, hend, .inr q.2.2.2.1, am_setB σ (σ.2.2.2 - 1), locs, hQ hh, okσ, ⟨by show σ.2.2.2 - 1 ≤ b0; omega, by show 6 * (σ.2.2.2 - 1) ≤ n0; omega⟩, ?_, hD, ?_, hWs, hall2, hS.2.2, _, ce, rfl, hce, hO.vm, hcl, hx05.1, hx05.2⟩
  · refine st1 _ ?_
    show Steps p.tables e below (T1.setTop { method := m, pc := pc + 3, locals := lsv, stack := [.ref T.heap.size], locked := none }) _
    jvm_step X₁.here [X₁.here.top, hx, d3, Value.category]
    exact hsteps
  · exact hP.kept (fun k v hv => f2 _ (hlt k v hv))
  · exact ⟨Nat.le_trans hS.1 f1, fun a h7 h8 => (f2 a (Nat.lt_of_lt_of_le h7 hS.1)).trans (hS.2.1 a h7 h8)⟩
end So13
