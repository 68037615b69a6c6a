/-! What the abstract machine comes to: the least predicate that is kept by the rule of blocks -/
abbrev am_P : Type := Nat → Nat → Nat → List am_V → List am_V → am_S → am_Q → Prop
def am_C (P : am_P) : Nat → Nat → List am_V → am_S → am_Q → Prop
  | 0, _, _, _, _ => False
  | d + 1, g, as, σ, Q => P d g 0 (am_ini (g / 32 % 32) as) [] σ Q
def am_X (P : am_P) (d g : Nat) (Q : am_Q) (e : Nat) (ls : List am_V) (σ : am_S) : Prop := match am_hd g e with
  | none => g % 2 = 0 ∧ Q (.inr e) σ
  | some pc => P d g pc ls [am_j] σ Q
def am_B (P : am_P) (d g : Nat) (Q : am_Q) (b : List am_I) (ls st : List am_V) (σ : am_S) : Prop :=
  am_run d (am_C P d) (fun pc ls st σ => P d g pc ls st σ Q) (am_X P d g Q) (fun v σ => Q (.inl v) σ) b ls st σ
def am_mono (P : am_P) : Prop := ∀ d g pc ls st σ (Q Q' : am_Q), (∀ o s, Q o s → Q' o s) → P d g pc ls st σ Q → P d g pc ls st σ Q'
def am_closed (P : am_P) : Prop := ∀ d g pc ls st σ (Q : am_Q) b, am_bk g pc = some b → am_B P d g Q b ls st σ → P d g pc ls st σ Q
def am_R : am_P := fun d g pc ls st σ Q => ∀ P, am_mono P → am_closed P → P d g pc ls st σ Q
theorem am_B_mono {P P' : am_P} {d g : Nat} {Q Q' : am_Q} (hP : ∀ d g pc ls st σ (Q Q' : am_Q), (∀ o s, Q o s → Q' o s) → P d g pc ls st σ Q → P' d g pc ls st σ Q') (hQ : ∀ o s, Q o s → Q' o s) {b : List am_I} {ls st : List am_V} {σ : am_S} (h : am_B P d g Q b ls st σ) : am_B P' d g Q' b ls st σ := by
  refine am_run_mono ?_ (fun pc ls st σ k => hP _ _ _ _ _ _ _ _ hQ k) ?_ (fun v σ k => hQ _ _ k) b ls st σ h
  · intro g as σ Q1 Q2 hq k
    cases d with
    | zero => exact k.elim
    | succ d => exact hP _ _ _ _ _ _ _ _ hq k
  · intro e ls σ k
    unfold am_X at k ⊢
    cases hh : am_hd g e with
    | none => rw [hh] at k; exact ⟨k.1, hQ _ _ k.2⟩
    | some pc => rw [hh] at k; exact hP _ _ _ _ _ _ _ _ hQ k
theorem am_R_mono : am_mono am_R := fun _ _ _ _ _ _ _ _ hq h P hm hc => hm _ _ _ _ _ _ _ _ hq (h P hm hc)
/-- the rule of blocks -/
theorem am_blk {d g pc : Nat} {ls st : List am_V} {σ : am_S} {Q : am_Q} {b : List am_I} (hb : am_bk g pc = some b) (h : am_B am_R d g Q b ls st σ) : am_R d g pc ls st σ Q :=
  fun P hm hc => hc _ _ _ _ _ _ _ _ hb (am_B_mono (fun _ _ _ _ _ _ _ _ hq k => hm _ _ _ _ _ _ _ _ hq (k P hm hc)) (fun _ _ q => q) h)
/-- a method by its arguments -/
def am_M (d g : Nat) (as : List am_V) (σ : am_S) (Q : am_Q) : Prop := am_R d g 0 (am_ini (g / 32 % 32) as) [] σ Q
theorem am_M_mono {d g : Nat} {as : List am_V} {σ : am_S} {Q Q' : am_Q} (h : am_M d g as σ Q) (hq : ∀ o s, Q o s → Q' o s) : am_M d g as σ Q' := am_R_mono _ _ _ _ _ _ _ _ hq h
