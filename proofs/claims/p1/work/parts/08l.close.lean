/-! What the abstract machine comes to, the machine comes to -/
theorem so_chk_cons {mi pc : Nat} {i : am_I} {is : List am_I} (h : so_chk mi pc (i :: is) = true) : (∃ t, i = .goto_w t ∧ t = (pc : Int)) ∨ (∃ x, i = .new x ∧ so_thr mi pc x = true) ∨
    ∃ raw len, decode (so_by mi) pc = .ok (raw, len) ∧ so_ok mi pc raw len i = true ∧ so_chk mi (pc + len) is = true := by
  unfold so_chk at h
  split at h
  · rename_i heq
    cases heq
  · rename_i heq
    cases heq
    exact Or.inl ⟨_, rfl, of_decide_eq_true h⟩
  · rename_i heq
    cases heq
    exact Or.inr (Or.inl ⟨_, rfl, h⟩)
  · rename_i heq
    cases heq
    split at h
    · rename_i raw len hd
      rw [Bool.and_eq_true] at h
      exact Or.inr (Or.inr ⟨raw, len, hd, h.1, h.2⟩)
    · cases h
section So10
variable {Z : so_Z} {A : Nat → Prop} {Y : so_Y} {p : Program} {l : Launch} {e : Env} {R : Room} {s : State} {m : MethodId} {args : Array Value} {below : List Frame} {meth : Method} {c : Code} {b0 n0 mi : Nat}
theorem so_run {Q : am_Q} {d g : Nat} (hX : so_X Z A Y p s m args meth c mi) (hgm : g / 16384 = mi) (hgg : so_gs[g / 16384]? = some g) (ht : c.exceptionTable.toList.map (fun h => (h.startPc, h.endPc, h.handlerPc, h.catchType)) = so_hh mi)
    (hRf : d ≤ R.frames) (hRl : 64 * d ≤ R.locals) (hRc : b0 ≤ R.cells) (hRs : n0 ≤ R.slots)
    (hXX : ∀ pc x ls σ, am_X (so_P Z A Y l) d g Q x ls σ → (so_hh mi).all (fun h => decide (h.1 ≤ pc ∧ pc < h.2.1)) = true → so_TJ Z A Y p l e R s m args below meth c (so_ml mi) b0 n0 (so_E Z A Y s b0 n0 below Q) pc ls σ x)
    (hThr : ∀ pc x ls σ, so_thr mi pc x = true → 8 ≤ d → 0 < σ.2.2.2 → am_X (so_P Z A Y l) d g Q x ls (am_setB σ (σ.2.2.2 - 1)) → so_J Z A Y p l e R s m args below meth c (so_ml mi) b0 n0 (so_E Z A Y s b0 n0 below Q) pc ls [] σ)
    (h01 : ∀ pc raw len k ls st σ q, decode (so_by mi) pc = .ok (raw, len) → so_ok mi pc raw len (.invokedynamic k) = true → (k = 0 ∨ k = 1) → am_n k st σ = some q → q.1 → 8 ≤ d → st.length ≤ 6 → so_J Z A Y p l e R s m args below meth c (so_ml mi) b0 n0 (so_E Z A Y s b0 n0 below Q) (pc + len) ls q.2.1 q.2.2 → so_J Z A Y p l e R s m args below meth c (so_ml mi) b0 n0 (so_E Z A Y s b0 n0 below Q) pc ls st σ) :
    ∀ (b : List am_I) (pc : Nat) (ls st : List am_V) (σ : am_S), so_chk mi pc b = true → am_run d (am_C (so_P Z A Y l) d) (fun pc ls st σ => so_P Z A Y l d g pc ls st σ Q) (am_X (so_P Z A Y l) d g Q) (fun v σ => Q (.inl v) σ) b ls st σ →
      so_J Z A Y p l e R s m args below meth c (so_ml mi) b0 n0 (so_E Z A Y s b0 n0 below Q) pc ls st σ := by
  intro b
  induction b with
  | nil => intro pc ls st σ _ h; exact h.elim
  | cons i is ih =>
    intro pc ls st σ hc h
    rcases so_chk_cons hc with ⟨t, rfl, ht2⟩ | ⟨x, rfl, hx⟩ | ⟨raw, len, hd, hok, hcr⟩
    · have h1 : so_P Z A Y l d g t.toNat ls st σ Q := h
      have h2 := h1 hgg p e R s m args below meth c b0 n0 (by rw [hgm]; exact hX) (by rw [hgm]; exact ht) hRf hRl hRc hRs
      rw [hgm] at h2
      have e1 : t.toNat = pc := by omega
      rw [e1] at h2
      exact h2
    · cases st with
      | nil =>
        have h1 : (8 ≤ d ∧ 0 < σ.2.2.2) ∧ am_X (so_P Z A Y l) d g Q x ls (am_setB σ (σ.2.2.2 - 1)) := h
        exact hThr pc x ls σ hx h1.1.1 h1.1.2 h1.2
      | cons v st => exact h.elim
    · unfold am_run at h
      cases hp : am_p i ls st σ with
      | some q =>
        rw [hp] at h
        exact so_p1 hX hd hok hp (ih _ _ _ _ hcr h)
      | none =>
        rw [hp] at h
        cases hq : am_q i ls st σ with
        | some q =>
          simp only [hq] at h
          exact so_q1 hX hd hok hq h.1 (ih _ _ _ _ hcr h.2)
        | none =>
          simp only [hq] at h
          refine so_ctl hX hgm hgg ht hd hok hRf hRl hRc hRs (fun ls st σ hk => ih _ _ _ _ hcr hk) (fun x ls σ h1 h2 => hXX pc x ls σ h1 h2) ?_ h
          intro k hi hcn
          subst hi
          have hcn0 := hcn
          unfold am_cn at hcn0
          by_cases hlen : (st.length ≤ 6 ∨ (2 ≤ k ∧ st.length ≤ 12))
          case neg => rw [if_neg hlen] at hcn0; exact hcn0.elim
          rw [if_pos hlen] at hcn0
          refine so_jdk hX hd hok hRf hRl hRc hRs (fun ls st σ hk => ih _ _ _ _ hcr hk) (fun q hk01 hn hside hJ => ?_) hcn
          have h8 : 8 ≤ d := by
            rw [hn] at hcn0
            exact hcn0.1.1
          exact h01 pc raw len k ls st σ q hd hok hk01 hn hside h8 (by omega) hJ
end So10
