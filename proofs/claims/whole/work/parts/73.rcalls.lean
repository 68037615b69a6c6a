/-! The calls of the rules, both sides -/
def iv (σ : am_S) (T : ftT) (X D : List Int) (L : Nat → List pfN) : Prop := cv σ T X D L ∧ mv σ T X D ∧ wv T X D ∧ nv σ L ∧ (∀ j, j < 4 → pr T (L j)) ∧ L 4 = []
/-- what comes behind a call -/
def aK (σ : am_S) (T : ftT) (J : am_S → Prop) : Prop := ∀ υ T' X' D' L', iv υ T' X' D' L' → T'.take T.length = T → lc_K σ υ → σ.2.2.2 ≤ υ.2.2.2 + 1 → υ.2.1 24 = σ.2.1 24 → J υ
theorem aJ_of {σ : am_S} {T : ftT} {X D : List Int} {L : Nat → List pfN} {J : am_S → Prop} (h : iv σ T X D L) (hK : aK σ T J) : aJ σ T L J := fun υ T' X' D' h1 h2 h3 h4 h5 => hK υ T' X' D' L ⟨h1, h2, h3, nv_E h.2.2.2.1 h5.2.2.2, fun j hj => pr_pre h4 (h.2.2.2.2.1 j hj), h.2.2.2.2.2⟩ h4 h5.1 h5.2.1 h5.2.2.1
theorem mrS_v {σ τ : am_S} {T : ftT} {X D : List Int} (h : mv σ T X D) (hf : fm mrS σ τ) : mv τ T X D := mv_fm h hf (fun a c h => by unfold mrS at h; omega)
theorem aK_go {σ τ υ : am_S} {T : ftT} {X D : List Int} {L L' : Nat → List pfN} {J : am_S → Prop} (h : iv σ T X D L) (hK : aK σ T J) (hc : cv τ T X D L') (hE : cE σ τ) (hb : σ.2.2.2 ≤ τ.2.2.2 + 1) (h24 : τ.2.1 24 = σ.2.1 24) (hn : nv υ L') (hf : fm mrS τ υ) (hp : ∀ j, j < 4 → pr T (L' j)) (h4 : L' 4 = []) : J υ := by
  have hm := mE_fm hf mrS_m
  exact hK υ T X D L' ⟨cv_m hc hm, mrS_v (mv_c h.2.1 hE) hf, h.2.2.1, hn, hp, h4⟩ (List.take_length) (lc_K_trans (cE_K hE) (mE_K hm)) (by rw [hm.2.2.2]; exact hb) (by rw [hm.2.1]; exact h24)
/-- the class's state when a rule has failed, when it is done -/
theorem cv_fail {σ τ : am_S} {T : ftT} {X D : List Int} {L : Nat → List pfN} {o : List pfN × Bool} (h : cv σ T X D L) (ho : pq τ 4 o) (hf : fr (pfS 4) σ τ) : cv τ T X D L := by
  obtain ⟨h1, h2, h3, ⟨l, h4⟩, h5, _, h7⟩ := h
  have hp : ∀ p, p ≠ 4 → ∀ a b, pfS p a b → ¬ pfS 4 a b := fun p hp a b q => pfS_ne hp a b q
  exact ⟨ft_fr h1 hf (fun a b q1 q2 => by unfold ftS at q1; unfold pfS at q2; omega), rt_fr h2 hf (by unfold pfS; omega) (by unfold pfS; omega), sq_fr h3 hf (by unfold pfS; omega) (by unfold pfS; omega), ⟨l, sq_fr h4 hf (by unfold pfS; omega) (by unfold pfS; omega)⟩, fun j hj => pq_fr (h5 j hj) hf (hp j (by omega)), ⟨o, ho⟩, stI_fr h7 hf (hp 5 (by decide)) (hp 6 (by decide))⟩
theorem cv_done {σ τ : am_S} {T : ftT} {X D : List Int} {L : Nat → List pfN} {s : Nat} {N : List pfN} (h : cv σ T X D L) (hs : s < 4) (h0 : pq τ s (N, false)) (ho : pq τ 4 (N, false)) (hf : fr (fun a b => pfS 4 a b ∨ pfS s a b) σ τ) : cv τ T X D (ups L s N) := by
  obtain ⟨h1, h2, h3, ⟨l, h4⟩, h5, _, h7⟩ := h
  have hp : ∀ p, p ≠ 4 → p ≠ s → ∀ a b, pfS p a b → ¬ (pfS 4 a b ∨ pfS s a b) := fun p hp hp2 a b q q2 => by
    rcases q2 with q2 | q2
    · exact pfS_ne hp a b q q2
    · exact pfS_ne hp2 a b q q2
  refine ⟨ft_fr h1 hf (fun a b q1 q2 => by unfold ftS at q1; unfold pfS at q2; omega), rt_fr h2 hf (by unfold pfS; omega) (by unfold pfS; omega), sq_fr h3 hf (by unfold pfS; omega) (by unfold pfS; omega), ⟨l, sq_fr h4 hf (by unfold pfS; omega) (by unfold pfS; omega)⟩, fun j hj => ?_, ⟨_, ho⟩, stI_fr h7 hf (hp 5 (by decide) (by omega)) (hp 6 (by decide) (by omega))⟩
  by_cases e : j = s
  · subst e; rw [ups_s]; exact h0
  · rw [ups_n _ _ e]; exact pq_fr (h5 j hj) hf (hp j (by omega) e)
theorem cv_fail2 {σ τ : am_S} {T : ftT} {X D l' : List Int} {L : Nat → List pfN} {o : List pfN × Bool} (h : cv σ T X D L) (ho : pq τ 4 o) (hl : sq τ 1 l') (hf : fr S2 σ τ) : cv τ T X D L := by
  obtain ⟨h1, h2, h3, ⟨l, h4⟩, h5, _, h7⟩ := h
  have hp : ∀ p, p ≠ 4 → ∀ a b, pfS p a b → ¬ S2 a b := fun p hp a b q q2 => by
    rcases q2 with q2 | q2
    · exact pfS_ne hp a b q q2
    · unfold pfS at q; unfold sqS at q2; omega
  exact ⟨ft_fr h1 hf (fun a b q1 q2 => by unfold ftS at q1; unfold S2 pfS sqS at q2; omega), rt_fr h2 hf (by unfold S2 pfS sqS; omega) (by unfold S2 pfS sqS; omega), sq_fr h3 hf (by unfold S2 pfS sqS; omega) (by unfold S2 pfS sqS; omega), ⟨l', hl⟩, fun j hj => pq_fr (h5 j hj) hf (hp j (by omega)), ⟨o, ho⟩, stI_fr h7 hf (hp 5 (by decide)) (hp 6 (by decide))⟩
theorem cv_done2 {σ τ : am_S} {T : ftT} {X D l' : List Int} {L : Nat → List pfN} {s : Nat} {N : List pfN} (h : cv σ T X D L) (hs : s < 4) (h0 : pq τ s (N, false)) (ho : pq τ 4 (N, false)) (hl : sq τ 1 l') (hf : fr (fun a b => S2 a b ∨ pfS s a b) σ τ) : cv τ T X D (ups L s N) := by
  obtain ⟨h1, h2, h3, ⟨l, h4⟩, h5, _, h7⟩ := h
  have hp : ∀ p, p ≠ 4 → p ≠ s → ∀ a b, pfS p a b → ¬ (S2 a b ∨ pfS s a b) := fun p hp hp2 a b q q2 => by
    rcases q2 with (q2 | q2) | q2
    · exact pfS_ne hp a b q q2
    · unfold pfS at q; unfold sqS at q2; omega
    · exact pfS_ne hp2 a b q q2
  refine ⟨ft_fr h1 hf (fun a b q1 q2 => by unfold ftS at q1; unfold S2 pfS sqS at q2; omega), rt_fr h2 hf (by unfold S2 pfS sqS; omega) (by unfold S2 pfS sqS; omega), sq_fr h3 hf (by unfold S2 pfS sqS; omega) (by unfold S2 pfS sqS; omega), ⟨l', hl⟩, fun j hj => ?_, ⟨_, ho⟩, stI_fr h7 hf (hp 5 (by decide) (by omega)) (hp 6 (by decide) (by omega))⟩
  by_cases e : j = s
  · subst e; rw [ups_s]; exact h0
  · rw [ups_n _ _ e]; exact pq_fr (h5 j hj) hf (hp j (by omega) e)
theorem cE_s4 {σ τ : am_S} (h : fr (pfS 4) σ τ) : cE σ τ := cE_fr h (pfS_c 4)
theorem cE_S2 {σ τ : am_S} (h : fr S2 σ τ) : cE σ τ := cE_fr h (fun a b h => by rcases h with h | h; exact pfS_c _ a b h; exact sqS_c _ a b h)
theorem cE_S2s {σ τ : am_S} {s : Nat} (h : fr (fun a b => S2 a b ∨ pfS s a b) σ τ) : cE σ τ := cE_fr h (fun a b h => by rcases h with (h | h) | h; exact pfS_c _ a b h; exact sqS_c _ a b h; exact pfS_c _ a b h)
/-- both sides throw; the class had not begun, had begun -/
theorem rb_e0 {σ : am_S} {T : ftT} {X D : List Int} {L : Nat → List pfN} {J : am_S → Prop} {cs : List (Nat × Int)} {e : Nat} {c : Int} {g2 : Nat} {as : List am_V} (h : iv σ T X D L) (hK : aK σ T J) (hb : 0 < σ.2.2.2) (hc : cs.lookup e = some c) (hc0 : c ≠ 0) (hm : ∀ Q : am_Q, mv (ex σ) T X D → nv (ex σ) L → ro (ex σ) L 0 c Q → am_M 159 g2 as (ex σ) Q) :
    lwQ cs (fun o τ => ∃ c, o = .inl (some (am_i c)) ∧ lc_K σ τ ∧ am_M 159 g2 as τ (fun o υ => ∃ b, o = .inl (some (am_i b)) ∧ υ.1 11 0 0 = c ∧ (c = 0 → υ.2.1 70 0 = am_i2l b) ∧ J υ)) (.inr e) (ex σ) :=
  lb_err hc hc0 (cE_K (cE_ex σ)) (hm _ (mv_c h.2.1 (cE_ex σ)) (nv_E h.2.2.2.1 (nsE_c (cE_ex σ))) (fun υ a1 a2 a3 => ⟨0, rfl, a2, aK_go h hK (cv_ex h.1) (cE_ex σ) (by show σ.2.2.2 ≤ σ.2.2.2 - 1 + 1; omega) rfl a1 a3 h.2.2.2.2.1 h.2.2.2.2.2⟩))
theorem rb_e1 {σ τ : am_S} {T : ftT} {X D : List Int} {L : Nat → List pfN} {J : am_S → Prop} {cs : List (Nat × Int)} {e : Nat} {c : Int} {g2 : Nat} {as : List am_V} (h : iv σ T X D L) (hK : aK σ T J) (hb : 0 < σ.2.2.2) (hcv : cv τ T X D L) (hE : cE σ τ) (h2 : τ.2 = σ.2) (hc : cs.lookup e = some c) (hc0 : c ≠ 0) (hm : ∀ Q : am_Q, mv (ex τ) T X D → nv (ex τ) L → ro (ex τ) L 0 c Q → am_M 159 g2 as (ex τ) Q) :
    lwQ cs (fun o τ => ∃ c, o = .inl (some (am_i c)) ∧ lc_K σ τ ∧ am_M 159 g2 as τ (fun o υ => ∃ b, o = .inl (some (am_i b)) ∧ υ.1 11 0 0 = c ∧ (c = 0 → υ.2.1 70 0 = am_i2l b) ∧ J υ)) (.inr e) (ex τ) := by
  have hE2 := cE_trans hE (cE_ex τ)
  refine lb_err hc hc0 (cE_K hE2) (hm _ (mv_c h.2.1 hE2) (nv_E h.2.2.2.1 (nsE_c hE2)) (fun υ a1 a2 a3 => ⟨0, rfl, a2, aK_go h hK (cv_ex hcv) hE2 ?_ ?_ a1 a3 h.2.2.2.2.1 h.2.2.2.2.2⟩))
  · show σ.2.2.2 ≤ τ.2.2.2 - 1 + 1
    rw [h2]
    omega
  · show τ.2.1 24 = σ.2.1 24
    rw [h2]
/-- both sides are done -/
theorem rb_ok {σ τ : am_S} {T : ftT} {X D : List Int} {L L' : Nat → List pfN} {J : am_S → Prop} {cs : List (Nat × Int)} {v : Int} {g2 : Nat} {as : List am_V} (h : iv σ T X D L) (hK : aK σ T J) (hcv : cv τ T X D L') (hE : cE σ τ) (h2 : τ.2 = σ.2) (hp : ∀ j, j < 4 → pr T (L' j)) (h4 : L' 4 = []) (hm : ∀ (τ' : am_S) (Q : am_Q), mv τ' T X D → nv τ' L → ro τ' L' v 0 Q → am_M 159 g2 as τ' Q) :
    lwQ cs (fun o τ => ∃ c, o = .inl (some (am_i c)) ∧ lc_K σ τ ∧ am_M 159 g2 as τ (fun o υ => ∃ b, o = .inl (some (am_i b)) ∧ υ.1 11 0 0 = c ∧ (c = 0 → υ.2.1 70 0 = am_i2l b) ∧ J υ)) (.inl (some (.inl v))) τ := by
  have hE2 := cE_trans hE (cE_out τ (am_i2l v))
  refine lb_ok (cE_K hE) (hm _ _ (mv_c h.2.1 hE2) (nv_E h.2.2.2.1 (nsE_c hE2)) (fun υ a1 a2 a3 => ⟨rfl, a2, mE_fm a3 mrS_m, aK_go h hK (cv_out hcv _) hE2 ?_ ?_ a1 a3 hp h4⟩))
  · show σ.2.2.2 ≤ τ.2.2.2 + 1
    rw [h2]
    omega
  · show τ.2.1 24 = σ.2.1 24
    rw [h2]
theorem iv_ll {σ : am_S} {T : ftT} {X D : List Int} {L : Nat → List pfN} (h : iv σ T X D L) : ∀ j, j < 4 → ll T (rl (L j)) := fun j hj => pr_ll (h.2.2.2.2.1 j hj)
theorem iv_8 {σ : am_S} {T : ftT} {X D : List Int} {L : Nat → List pfN} (h : iv σ T X D L) : ∀ j, j < 4 → (rl (L j)).length ≤ 8 := fun j hj => (iv_ll h j hj).2.2
theorem iv_up {σ : am_S} {T : ftT} {X D : List Int} {L : Nat → List pfN} {s : Nat} {M : List pfN} (h : iv σ T X D L) (hM : pr T M) (hs : s < 4) : (∀ j, j < 4 → pr T (ups L s M j)) ∧ ups L s M 4 = [] := by
  refine ⟨fun j hj => ?_, by rw [ups_n _ _ (by omega)]; exact h.2.2.2.2.2⟩
  by_cases e : j = s
  · rw [e, ups_s]; exact hM
  · rw [ups_n _ _ e]; exact h.2.2.2.2.1 j hj
