/-! What the abstract machine comes to, the machine comes to -/
/-- String.indexOf and charAt on the two texts: still to be walked -/
def so_str (Z : so_Z) (A : Nat → Prop) (Y : so_Y) (l : Launch) : Prop := ∀ (p : Program) (e : Env) (R : Room) (s : State) (m : MethodId) (args : Array Value) (below : List Frame) (meth : Method) (c : Code) (b0 n0 mi d : Nat) (Qt : State → Prop), so_X Z A Y p s m args meth c mi → d ≤ R.frames → 64 * d ≤ R.locals → b0 ≤ R.cells → n0 ≤ R.slots →
  ∀ pc raw len k ls st σ q, decode (so_by mi) pc = .ok (raw, len) → so_ok mi pc raw len (.invokedynamic k) = true → (k = 0 ∨ k = 1) → am_n k st σ = some q → q.1 → 8 ≤ d → st.length ≤ 6 →
    so_J Z A Y p l e R s m args below meth c (so_ml mi) b0 n0 Qt (pc + len) ls q.2.1 q.2.2 → so_J Z A Y p l e R s m args below meth c (so_ml mi) b0 n0 Qt pc ls st σ
theorem so_closed {Z : so_Z} {A : Nat → Prop} {Y : so_Y} {l : Launch} (hst : l.stackTraces = false) (hstr : so_str Z A Y l) : am_closed (so_P Z A Y l) := by
  intro d g pc ls st σ Q b hb h hg p e R s m args below meth c b0 n0 hX ht hRf hRl hRc hRs
  have hmi : g / 16384 < 208 := by
    have h1 := (List.getElem?_eq_some_iff.mp hg).1
    exact h1
  obtain ⟨-, lb, h1, h2⟩ := so_dig hg hmi
  unfold am_bk at hb
  rw [h1] at hb
  have hb1 : (if g = g then lb.lookup pc else none) = some b := hb
  rw [if_pos rfl] at hb1
  have hmem : (pc, b) ∈ lb := by
    revert hb1
    clear h1 h2 hb
    induction lb with
    | nil => intro h; cases h
    | cons z lb ih =>
      intro h
      obtain ⟨z1, z2⟩ := z
      rw [List.lookup_cons] at h
      by_cases hz : pc = z1
      · subst hz
        simp at h
        subst h
        exact List.mem_cons_self
      · have : (pc == z1) = false := by rw [beq_eq_false_iff_ne]; exact hz
        rw [this] at h
        exact List.mem_cons_of_mem _ (ih h)
  have hchk := List.all_eq_true.mp h2 _ hmem
  refine so_run hX rfl hg ht hRf hRl hRc hRs (fun pc x ls σ h3 h4 => so_XX hX rfl hmi hg ht hRf hRl hRc hRs h3 h4) (fun pc x ls σ h3 h4 h5 h6 => ?_) (fun pc raw len k ls st σ q h3 h4 h5 h6 h7 h8 h9 h10 => hstr p e R s m args below meth c b0 n0 (g / 16384) d _ hX hRf hRl hRc hRs pc raw len k ls st σ q h3 h4 h5 h6 h7 h8 h9 h10) b pc ls st σ hchk h
  refine so_Thr hst hX ht hRf hRl hRc hRs h3 h4 h5 (fun hh => ?_)
  have hg0 : (so_gs[g / 16384]?).getD 0 = g := by rw [hg]; rfl
  unfold am_X am_hd at h6
  by_cases hpar : g % 2 = 0
  · rw [if_pos hpar] at h6
    exact h6.2
  · rw [if_neg hpar] at h6
    have h31 := so_f31 (g / 16384) hmi (by rw [hg0]; exact hpar)
    rw [hg0, hh] at h31
    rw [h31] at h6
    exact absurd h6.1 hpar
/-- the whole of it: a method by its arguments -/
theorem so_sound {Z : so_Z} {A : Nat → Prop} {Y : so_Y} {l : Launch} (hst : l.stackTraces = false) (hstr : so_str Z A Y l) {d g pc : Nat} {ls st : List am_V} {σ : am_S} {Q : am_Q} (h : am_R d g pc ls st σ Q) : so_P Z A Y l d g pc ls st σ Q := h _ (so_P_mono Z A Y l) (so_closed hst hstr)
