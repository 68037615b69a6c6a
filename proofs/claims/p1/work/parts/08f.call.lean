/-! A call: what a method's contract gives its caller -/
def so_rm (d b : Nat) : Room := { frames := d, cells := b, slots := 6 * b, locals := 64 * d }
section So5
variable {Z : so_Z} {A : Nat → Prop} {Y : so_Y} {p : Program} {l : Launch} {e : Env} {R : Room} {s : State} {m : MethodId} {args : Array Value} {below : List Frame} {meth : Method} {c : Code}
/-- the callee runs to its end -/
theorem so_callee {U : State} {Ls : List Loc} {c0 s0 maxL : Nat} {g : JFrame} {ig : Instr} {mk : MethodId} {a : Array Value} {y : MethodName} {rm : Room} {P : Array Value → State → Prop} {Qp : Array Value → State → Outcome → State → Prop}
    (X : Stand p l e R s m args below meth c U Ls c0 s0) (hM : MetFree l y (headSpec so_tb rm) P (fun _ _ _ _ _ => True) Qp) (hg : g.method = m) (hsize : g.locals.size = c.maxLocals) (hdg : decode c.code g.pc = .ok (ig, 3))
    (hn : U.methodNamed? y = some mk) (hpre : ∀ w ∈ so_tb, w.before a U = true) {methY : Method} {cY : Code} (hmY : U.vm.method? mk = some methY) (hcY : methY.code = some cY) (hlY : cY.maxLocals = maxL) (hini : (Cond.initialized y.cls).before a U = true)
    (hfr : rm.frames + 1 ≤ R.frames) (hlo : 2 * g.monitorRoom + (g.stack.map fun v => v.category).sum + (maxL + 11) + rm.locals ≤ R.locals) (hce : c0 + rm.cells ≤ R.cells) (hsl : s0 + rm.slots ≤ R.slots)
    (hPc : P a (U.calling g mk a)) :
    ∃ o s₂, Steps p.tables e below (doInvoke e (U.setTop g) [] mk a).1 s₂ ∧ Ended s₂ (.java g :: U.frames.tail) o ∧ Qp a (U.calling g mk a) o s₂ := by
  obtain ⟨kY, hkY, -⟩ := className_of_methodNamed hn
  have hinitY : kY.init = .initialized := Cond.initialized_spec (findClass_of_methodNamed hn) hkY hini
  have h : At U g.method c below := by rw [hg]; exact X.here
  have happ : (headSpec so_tb rm).appliesLoose y e.platform (U.calling g mk a) = true :=
    Spec.appliesLoose_calling (g := g) h hdg hn hkY hinitY (X.room_calling (g := g) (R' := rm) hsize hmY hcY hfr (by rw [hlY]; exact hlo) hce hsl) (atoms_intro hpre)
  obtain ⟨mid, hmid⟩ := h.above
  have hfrm : (U.setTop g).frames = (.java g :: mid) ++ below := by rw [State.frames_setTop' g h.top, hmid]; rfl
  obtain ⟨o, s₂, hsteps, -, hend, hq⟩ := Steps.callFree hM p X.admits X.cas X.clock (acts := []) hfrm happ hPc trivial
  rw [State.frames_setTop' g h.top] at hend
  exact ⟨o, s₂, hsteps, hend, hq⟩
/-- behind it: what stands there -/
theorem so_behind {U : State} {Ls : List Loc} {c0 s0 : Nat} {g : JFrame} {mk : MethodId} {a : Array Value} {s₂ : State} {L : List Loc} {k n : Nat} (X : Stand p l e R s m args below meth c U Ls c0 s0) (hg : g.method = m) (hW : (U.calling g mk a).WarmedH s₂.vm) (hsm : (U.calling g mk a).sameButNew ({ s₂ with vm := (U.calling g mk a).vm } : State) L k n) :
    Stand p l e R s m args below meth c (({ U with heap := s₂.heap, slotsUsed := s₂.slotsUsed } : State).setVm s₂.vm) (Ls ++ L) (c0 + k) (s0 + n) ∧
      s₂ = ({ (U.calling g mk a).setFrames s₂.frames with heap := s₂.heap, slotsUsed := s₂.slotsUsed } : State).setVm s₂.vm := by
  obtain ⟨e2, q2, q3, q4, q5, q6⟩ := id hsm
  have h : At U g.method c below := by rw [hg]; exact X.here
  obtain ⟨g₀, hg0⟩ := Option.isSome_iff_exists.mp h.top
  obtain ⟨r, hr⟩ := State.topJava?_eq_some.mp hg0
  have hW' : U.WarmedH s₂.vm := hW
  have hsame : U.sameButNew ({ U with heap := s₂.heap, slotsUsed := s₂.slotsUsed } : State) L k n := by
    refine ⟨?_, q2, q3, q4, q5, q6⟩
    obtain ⟨t, ht, -⟩ := State.frames_cons hr
    show ({ U with heap := s₂.heap, slotsUsed := s₂.slotsUsed } : State) = { U.setFrames U.frames with heap := s₂.heap, slotsUsed := s₂.slotsUsed }
    rw [State.setFrames_self ht]
  refine ⟨⟨X.admits, X.cas, X.clock, X.frames, X.room, X.hears, X.method, X.code, (X.here.setHeapUsed s₂.heap s₂.slotsUsed).setVm hW'.alike, X.tail, State.WarmedH.trans X.warmed hW', X.limits, X.bytes, X.same.trans (hsame.setVm s.vm)⟩, ?_⟩
  have h1 : s₂ = ({ s₂ with vm := (U.calling g mk a).vm } : State).setVm s₂.vm := rfl
  rw [e2] at h1
  exact h1
theorem so_returned {U : State} {Ls : List Loc} {c0 s0 : Nat} {g : JFrame} {ig : Instr} {mk : MethodId} {a : Array Value} {s₂ : State} {L : List Loc} {k n : Nat} {v : Option Value} (X : Stand p l e R s m args below meth c U Ls c0 s0) (hg : g.method = m) (hdg : decode c.code g.pc = .ok (ig, 3)) (hW : (U.calling g mk a).WarmedH s₂.vm)
    (hsm : (U.calling g mk a).sameButNew ({ s₂ with vm := (U.calling g mk a).vm } : State) L k n) (hend : Ended s₂ (.java g :: U.frames.tail) (.returned v)) :
    s₂ = (({ U with heap := s₂.heap, slotsUsed := s₂.slotsUsed } : State).setVm s₂.vm).setTop { g with pc := g.pc + 3, stack := v.toList ++ g.stack } := by
  have h : At U g.method c below := by rw [hg]; exact X.here
  obtain ⟨g₀, hg0⟩ := Option.isSome_iff_exists.mp h.top
  obtain ⟨r, hr⟩ := State.topJava?_eq_some.mp hg0
  have hr' : (({ U with heap := s₂.heap, slotsUsed := s₂.slotsUsed } : State).setVm s₂.vm).frames = .java g₀ :: r := hr
  have hW' : U.WarmedH s₂.vm := hW
  have e3 := (so_behind X hg hW hsm).2
  obtain ⟨c₂, i₂, len₂, hc₂, hd₂, hf₂⟩ := hend
  have hcc : c₂ = c := by
    have h1 : s₂.code? g.method = U.code? g.method := by rw [State.code?_eq, State.code?_eq, hW'.alike.method?]
    exact Option.some.inj (hc₂.symm.trans (h1.trans h.code))
  subst hcc
  have hlen : len₂ = 3 := by rw [hdg] at hd₂; cases hd₂; rfl
  subst hlen
  refine e3.trans ?_
  rw [hf₂, State.calling_eq h.top, State.setFrames_setFrames, State.setTop_of_frames _ hr', hr]
  rfl
theorem so_threw {U : State} {Ls : List Loc} {c0 s0 : Nat} {g : JFrame} {mk : MethodId} {a : Array Value} {s₂ : State} {L : List Loc} {k n : Nat} {q : Addr} (X : Stand p l e R s m args below meth c U Ls c0 s0) (hg : g.method = m) (hW : (U.calling g mk a).WarmedH s₂.vm)
    (hsm : (U.calling g mk a).sameButNew ({ s₂ with vm := (U.calling g mk a).vm } : State) L k n) (hend : Ended s₂ (.java g :: U.frames.tail) (.threw q)) :
    s₂ = ((({ U with heap := s₂.heap, slotsUsed := s₂.slotsUsed } : State).setVm s₂.vm).setTop g).pushFrame (.throwing q) := by
  have h : At U g.method c below := by rw [hg]; exact X.here
  obtain ⟨g₀, hg0⟩ := Option.isSome_iff_exists.mp h.top
  obtain ⟨r, hr⟩ := State.topJava?_eq_some.mp hg0
  have hr' : (({ U with heap := s₂.heap, slotsUsed := s₂.slotsUsed } : State).setVm s₂.vm).frames = .java g₀ :: r := hr
  have e3 := (so_behind X hg hW hsm).2
  have hf₂ : s₂.frames = .throwing q :: .java g :: U.frames.tail := hend
  refine e3.trans ?_
  rw [hf₂, State.calling_eq h.top, State.setFrames_setFrames, State.pushFrame, State.frames_setTop _ hr', State.setTop_of_frames _ hr', State.setFrames_setFrames, hr]
  rfl
end So5
