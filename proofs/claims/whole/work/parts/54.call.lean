/-! A call: both sides, and what each leaves of the other's -/
/-- the class's kinds of places -/
def clK (a : Nat) : Prop := a ≠ 11 ∧ a < 100 ∧ a ≠ 71 ∧ a ≠ 72
/-- the reference's -/
def moK (a : Nat) : Prop := a = 11 ∨ 100 ≤ a
def cE (σ τ : am_S) : Prop := (∀ a, ¬ clK a → τ.1 a = σ.1 a) ∧ τ.2.1 137 = σ.2.1 137
def mE (σ τ : am_S) : Prop := (∀ a, ¬ moK a → τ.1 a = σ.1 a) ∧ τ.2.1 24 = σ.2.1 24 ∧ τ.2.1 70 = σ.2.1 70 ∧ τ.2.2 = σ.2.2
theorem cE_refl (σ : am_S) : cE σ σ := ⟨fun _ _ => rfl, rfl⟩
theorem cE_trans {σ τ υ : am_S} (h1 : cE σ τ) (h2 : cE τ υ) : cE σ υ := ⟨fun a h => (h2.1 a h).trans (h1.1 a h), h2.2.trans h1.2⟩
theorem mE_refl (σ : am_S) : mE σ σ := ⟨fun _ _ => rfl, rfl, rfl, rfl⟩
theorem mE_trans {σ τ υ : am_S} (h1 : mE σ τ) (h2 : mE τ υ) : mE σ υ := ⟨fun a h => (h2.1 a h).trans (h1.1 a h), h2.2.1.trans h1.2.1, h2.2.2.1.trans h1.2.2.1, h2.2.2.2.trans h1.2.2.2⟩
theorem cE_fr {S : Nat → Nat → Prop} {σ τ : am_S} (h : fr S σ τ) (hs : ∀ a b, S a b → clK a) : cE σ τ := ⟨fun a ha => funext (fun b => h.1 a b (fun q => ha (hs a b q))), by rw [h.2]⟩
theorem cE_frD {S : Nat → Nat → Prop} {σ τ : am_S} (h : frD S σ τ) (hs : ∀ a b, S a b → clK a) : cE σ τ := ⟨fun a ha => funext (fun b => h.1 a b (fun q => ha (hs a b q))), by rw [h.2.1]⟩
theorem cE_ex (σ : am_S) : cE σ (ex σ) := ⟨fun _ _ => rfl, rfl⟩
theorem cE_out (σ : am_S) (v : Int64) : cE σ (am_setL σ 70 0 v) := ⟨fun _ _ => rfl, rfl⟩
theorem mE_fm {S : Nat → Nat → Prop} {σ τ : am_S} (h : fm S σ τ) (hs : ∀ a c, S a c → moK a) : mE σ τ := ⟨fun a ha => funext (fun b => funext (fun c => h.1 a b c (fun q => ha (hs a c q.2)))), by rw [h.2], by rw [h.2], by rw [h.2]⟩
theorem cE_K {σ τ : am_S} (h : cE σ τ) : lc_K σ τ := ⟨h.1 71 (fun q => q.2.2.1 rfl), h.1 72 (fun q => q.2.2.2 rfl)⟩
theorem mE_K {σ τ : am_S} (h : mE σ τ) : lc_K σ τ := ⟨h.1 71 (fun q => by rcases q with q | q <;> omega), h.1 72 (fun q => by rcases q with q | q <;> omega)⟩
theorem lc_K_trans {σ τ υ : am_S} (h1 : lc_K σ τ) (h2 : lc_K τ υ) : lc_K σ υ := ⟨h2.1.trans h1.1, h2.2.trans h1.2⟩
/-- what the class holds: formulas, text, draft, proofs -/
def cv (σ : am_S) (T : ftT) (X D : List Int) (L : Nat → List pfN) : Prop := ft σ T ∧ rt σ X ∧ sq σ 0 D ∧ (∃ l, sq σ 1 l) ∧ (∀ j, j < 4 → pq σ j (L j, false)) ∧ (∃ o, pq σ 4 o) ∧ stI σ
/-- what the reference holds, but for its nodes -/
def mv (σ : am_S) (T : ftT) (X D : List Int) : Prop := mt σ T ∧ mx σ X ∧ md σ D
/-- of what form that is -/
def wv (T : ftT) (X D : List Int) : Prop := ft_wf T ∧ ft_pr T ∧ (∀ c ∈ X, ty_in c) ∧ D.Pairwise (· ≤ ·) ∧ (∀ x ∈ D, 0 ≤ x ∧ x < 20 + (T.length : Int)) ∧ ft_lvs T D ≤ 8 ∧ ft_sm T
/-- the reference's nodes are as they were -/
def nsE (σ υ : am_S) : Prop := ∀ a, (118 ≤ a ∧ a ≤ 125) ∨ a = 129 → υ.1 a = σ.1 a
theorem cv_m {σ τ : am_S} {T : ftT} {X D : List Int} {L : Nat → List pfN} (h : cv σ T X D L) (hE : mE σ τ) : cv τ T X D L := by
  have e : ∀ a, a < 100 → a ≠ 11 → τ.1 a = σ.1 a := fun a h1 h2 => hE.1 a (fun q => by rcases q with q | q <;> omega)
  have e2 : τ.2.2 = σ.2.2 := hE.2.2.2
  unfold cv stI ft rt pq ndW nd sq at h ⊢
  rw [e 2 (by decide) (by decide), e 20 (by decide) (by decide), e 21 (by decide) (by decide), e 22 (by decide) (by decide), e 23 (by decide) (by decide), e 3 (by decide) (by decide), e 31 (by decide) (by decide), e 5 (by decide) (by decide), e 12 (by decide) (by decide), e 7 (by decide) (by decide), e 6 (by decide) (by decide), e2]
  exact h
theorem cv_out {σ : am_S} {T : ftT} {X D : List Int} {L : Nat → List pfN} (h : cv σ T X D L) (v : Int64) : cv (am_setL σ 70 0 v) T X D L := h
theorem cv_ex {σ : am_S} {T : ftT} {X D : List Int} {L : Nat → List pfN} (h : cv σ T X D L) : cv (ex σ) T X D L := h
theorem mv_c {σ τ : am_S} {T : ftT} {X D : List Int} (h : mv σ T X D) (hE : cE σ τ) : mv τ T X D := by
  have e : ∀ a, a = 11 ∨ 100 ≤ a → τ.1 a = σ.1 a := fun a h1 => hE.1 a (fun q => by unfold clK at q; omega)
  unfold mv mt mx md at h ⊢
  rw [e 11 (by decide), e 102 (by decide), e 103 (by decide), e 104 (by decide), e 105 (by decide), e 107 (by decide), e 117 (by decide)]
  exact h
theorem nsE_c {σ τ : am_S} (hE : cE σ τ) : nsE σ τ := fun a h => hE.1 a (fun q => by unfold clK at q; omega)
theorem nsE_trans {σ τ υ : am_S} (h1 : nsE σ τ) (h2 : nsE τ υ) : nsE σ υ := fun a h => (h2 a h).trans (h1 a h)
theorem nsE_fm {S : Nat → Nat → Prop} {σ τ : am_S} (h : fm S σ τ) (hs : ∀ a c, S a c → a < 118 ∨ (125 < a ∧ a ≠ 129)) : nsE σ τ := fun a ha => funext (fun b => funext (fun c => h.1 a b c (fun q => by have := hs a c q.2; omega)))
/-- a call's end: the script lies there as before, one exception more at most, the class's memo and the reference's nodes as before -/
def af (σ υ : am_S) : Prop := lc_K σ υ ∧ σ.2.2.2 ≤ υ.2.2.2 + 1 ∧ υ.2.1 24 = σ.2.1 24 ∧ nsE σ υ
/-- what comes behind a call -/
def aJ (σ : am_S) (T : ftT) (L : Nat → List pfN) (J : am_S → Prop) : Prop := ∀ υ T' X' D', cv υ T' X' D' L → mv υ T' X' D' → wv T' X' D' → T'.take T.length = T → af σ υ → J υ
theorem setL_same (σ : am_S) (k j : Nat) (v : Int64) : (am_setL σ k j v).2.1 k j = v := by
  unfold am_setL
  simp
theorem lb_err {σ τ : am_S} {cs : List (Nat × Int)} {e : Nat} {c : Int} {g2 : Nat} {as : List am_V} {J : am_S → Prop} (hc : cs.lookup e = some c) (hc0 : c ≠ 0) (hk : lc_K σ τ) (h : am_M 159 g2 as τ (fun o υ => ∃ b, o = .inl (some (am_i b)) ∧ υ.1 11 0 0 = c ∧ J υ)) :
    lwQ cs (fun o τ => ∃ c, o = .inl (some (am_i c)) ∧ lc_K σ τ ∧ am_M 159 g2 as τ (fun o υ => ∃ b, o = .inl (some (am_i b)) ∧ υ.1 11 0 0 = c ∧ (c = 0 → υ.2.1 70 0 = am_i2l b) ∧ J υ)) (.inr e) τ :=
  ⟨c, hc, c, rfl, hk, am_M_mono h (fun _ _ ⟨b, h1, h2, h3⟩ => ⟨b, h1, h2, fun h => absurd h hc0, h3⟩)⟩
theorem lb_ok {σ τ : am_S} {cs : List (Nat × Int)} {v : Int} {g2 : Nat} {as : List am_V} {J : am_S → Prop} (hk : lc_K σ τ) (h : am_M 159 g2 as (am_setL τ 70 0 (am_i2l v)) (fun o υ => o = .inl (some (am_i v)) ∧ υ.1 11 0 0 = 0 ∧ mE (am_setL τ 70 0 (am_i2l v)) υ ∧ J υ)) :
    lwQ cs (fun o τ => ∃ c, o = .inl (some (am_i c)) ∧ lc_K σ τ ∧ am_M 159 g2 as τ (fun o υ => ∃ b, o = .inl (some (am_i b)) ∧ υ.1 11 0 0 = c ∧ (c = 0 → υ.2.1 70 0 = am_i2l b) ∧ J υ)) (.inl (some (.inl v))) τ := by
  refine ⟨0, rfl, hk, am_M_mono h (fun o υ ⟨h1, h2, h3, h4⟩ => ⟨v, h1, h2, fun _ => ?_, h4⟩)⟩
  rw [h3.2.2.1]
  exact setL_same ..
theorem lz_err {σ τ : am_S} {cs : List (Nat × Int)} {e : Nat} {c : Int} {g2 : Nat} {as : List am_V} {J : am_S → Prop} (hc : cs.lookup e = some c) (hc0 : c ≠ 0) (hk : lc_K σ τ) (h : am_M 159 g2 as τ (fun o υ => ∃ b, o = .inl (some (am_i b)) ∧ υ.1 11 0 0 = c ∧ J υ)) :
    lwB cs (fun o τ => ∃ c, o = .inl (some (am_i c)) ∧ lc_K σ τ ∧ am_M 159 g2 as τ (fun o υ => ∃ b, o = .inl (some (am_i b)) ∧ υ.1 11 0 0 = c ∧ (c = 0 → υ.2.1 70 0 = (if b = 0 then Int64.ofInt 0 else Int64.ofInt 1)) ∧ J υ)) (.inr e) τ :=
  ⟨c, hc, c, rfl, hk, am_M_mono h (fun _ _ ⟨b, h1, h2, h3⟩ => ⟨b, h1, h2, fun h => absurd h hc0, h3⟩)⟩
theorem lz_ok {σ τ : am_S} {cs : List (Nat × Int)} {v : Int} {g2 : Nat} {as : List am_V} {J : am_S → Prop} (hk : lc_K σ τ) (h : am_M 159 g2 as (am_setL τ 70 0 (if v = 0 then Int64.ofInt 0 else Int64.ofInt 1)) (fun o υ => o = .inl (some (am_i v)) ∧ υ.1 11 0 0 = 0 ∧ mE (am_setL τ 70 0 (if v = 0 then Int64.ofInt 0 else Int64.ofInt 1)) υ ∧ J υ)) :
    lwB cs (fun o τ => ∃ c, o = .inl (some (am_i c)) ∧ lc_K σ τ ∧ am_M 159 g2 as τ (fun o υ => ∃ b, o = .inl (some (am_i b)) ∧ υ.1 11 0 0 = c ∧ (c = 0 → υ.2.1 70 0 = (if b = 0 then Int64.ofInt 0 else Int64.ofInt 1)) ∧ J υ)) (.inl (some (.inl v))) τ := by
  refine ⟨0, rfl, hk, am_M_mono h (fun o υ ⟨h1, h2, h3, h4⟩ => ⟨v, h1, h2, fun _ => ?_, h4⟩)⟩
  rw [h3.2.2.1]
  exact setL_same ..
