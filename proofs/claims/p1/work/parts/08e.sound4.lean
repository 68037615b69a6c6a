/-! Ends of a method, branches -/
def so_out (Z : so_Z) (s : State) (out : am_O) (o : Outcome) (t : State) : Prop := match out with
  | .inl none => o = .returned none
  | .inl (some v) => so_okv v ∧ o = .returned (some (so_cv Z v))
  | .inr x => ∃ (q : Addr) (ce : Cell), o = .threw q ∧ t.heap[q]? = some ce ∧ ce.vm = .none ∧ s.vm.findClass (so_en x) = some ce.cls ∧ 0 < x ∧ x < 5
/-- how a method ends that began in s with room for b0 exceptions -/
def so_post (Z : so_Z) (A : Nat → Prop) (Y : so_Y) (s : State) (b0 n0 : Nat) (Q : am_Q) (o : Outcome) (t : State) : Prop :=
  ∃ (out : am_O) (τ : am_S) (L : List Loc), Q out τ ∧ so_okσ Y τ ∧ (τ.2.2.2 ≤ b0 ∧ 6 * τ.2.2.2 ≤ n0) ∧ va_P Z.2.1 so_cl (so_w Z τ) t.heap ∧ va_D A (so_w Z τ) ∧ va_F A s t ∧ s.WarmedH t.vm ∧
    s.sameButNew ({ t with vm := s.vm } : State) L (b0 - τ.2.2.2) (n0 - 6 * τ.2.2.2) ∧ (∀ z ∈ L, A z.base) ∧ so_out Z s out o t
def so_E (Z : so_Z) (A : Nat → Prop) (Y : so_Y) (s : State) (b0 n0 : Nat) (below : List Frame) (Q : am_Q) : State → Prop := fun t => ∃ o, t.status = .running ∧ Ended t below o ∧ so_post Z A Y s b0 n0 Q o t
theorem so_post_mono {Z : so_Z} {A : Nat → Prop} {Y : so_Y} {s : State} {b0 n0 : Nat} {Q Q' : am_Q} {o : Outcome} {t : State} (hq : ∀ o σ, Q o σ → Q' o σ) (h : so_post Z A Y s b0 n0 Q o t) : so_post Z A Y s b0 n0 Q' o t := by
  obtain ⟨out, τ, L, h1, h2⟩ := h
  exact ⟨out, τ, L, hq _ _ h1, h2⟩
section So4
variable {Z : so_Z} {A : Nat → Prop} {Y : so_Y} {p : Program} {l : Launch} {e : Env} {R : Room} {s : State} {m : MethodId} {args : Array Value} {below : List Frame} {meth : Method} {c : Code} {b0 n0 mi pc : Nat} {σ : am_S}
theorem so_Wm {Q1 Q2 : State → Prop} {H : Heap} {locs : List Loc} {cells slots : Nat} {g : JFrame} (h : ∀ t, Q1 t → Q2 t) (k : W p l e R s m args below meth c H locs cells slots Q1 g) : W p l e R s m args below meth c H locs cells slots Q2 g := by
  intro T hT X
  obtain ⟨t, a, b⟩ := k T hT X
  exact ⟨t, a, h t b⟩
theorem so_ends {Q : am_Q} {H : Heap} {locs : List Loc} {cells slots : Nat} {v : Option am_V} {w : Option Value} (okσ : so_okσ Y σ) (hP : va_P Z.2.1 so_cl (so_w Z σ) H) (hD : va_D A (so_w Z σ)) (hS : va_S A s.heap H locs) (hc : cells + σ.2.2.2 ≤ b0) (hs : slots + 6 * σ.2.2.2 ≤ n0)
    (hq : Q (.inl v) σ) (hw : so_out Z s (.inl v) (.returned w) s) (t : State) (h : MQ below (fun _ _ o t => o = .returned w ∧ t.heap = H ∧ s.WarmedH t.vm) args s cells slots A t) : so_E Z A Y s b0 n0 below Q t := by
  obtain ⟨o, h1, h2, ⟨rfl, h3, h4⟩, L, hF, hL⟩ := h
  obtain ⟨-, -, h5⟩ := hF
  refine ⟨_, h1, h2, .inl v, σ, L, hq, okσ, ⟨by omega, by omega⟩, by rw [h3]; exact hP, hD, hS.F h3, h4, h5.mono (by omega) (by omega), hL, ?_⟩
  rcases v with _ | v
  · exact hw
  · exact hw
end So4
