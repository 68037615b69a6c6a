/-! The reference's proofs in their slots -/
def nL (k : Nat) : Prop := k < 640
/-- root j is the proof L, none where L is empty -/
def rv (σ : am_S) (U : Nat → Prop) (L : Nat → List pfN) (j : Nat) : Prop := (L j = [] ∧ σ.1 129 0 j = -1) ∨ ∃ k : Nat, σ.1 129 0 j = (k : Int) ∧ mn σ U (L j) k
def nv (σ : am_S) (L : Nat → List pfN) : Prop := ∀ j, j < 5 → (L j).length ≤ 100 ∧ rv σ nL L j
/-- .. behind clean, when no more than c places are used -/
def cn (σ : am_S) (L : Nat → List pfN) (c : Nat) : Prop := nu σ c ∧ ∀ j, j < 5 → rv σ (us σ) L j
theorem rv_some {σ : am_S} {U : Nat → Prop} {L : Nat → List pfN} {j : Nat} (h : rv σ U L j) (hn : L j ≠ []) : ∃ k : Nat, σ.1 129 0 j = (k : Int) ∧ mn σ U (L j) k := by
  rcases h with h | h
  · exact absurd h.1 hn
  · exact h
theorem rv_none {σ : am_S} {U : Nat → Prop} {L : Nat → List pfN} {j : Nat} (h : rv σ U L j) (hn : L j = []) : σ.1 129 0 j = -1 := by
  rcases h with h | ⟨k, _, h⟩
  · exact h.2
  · exact absurd hn (mkd_ne (mn_mk h))
theorem rv_lt {σ : am_S} {U : Nat → Prop} {L : Nat → List pfN} {j : Nat} (h : rv σ U L j) : σ.1 129 0 j < 640 := by
  rcases h with h | ⟨k, h, h2⟩
  · rw [h.2]; decide
  · have := (mn_row h2).1; omega
theorem rv_n {σ : am_S} {U : Nat → Prop} {L : Nat → List pfN} {j : Nat} (h : rv σ U L j) : mo_n σ (σ.1 129 0 j) = ((L j).length : Int) ∧ mo_c σ (σ.1 129 0 j) = ((pf_cuts (L j) : Nat) : Int) := by
  rcases h with ⟨h1, h2⟩ | ⟨k, h, h2⟩
  · rw [h1, h2, mo_n0, mo_c0]; exact ⟨rfl, rfl⟩
  · rw [h]; exact mo_n_mn h2
theorem rv_fm {S : Nat → Nat → Prop} {σ τ : am_S} {U V : Nat → Prop} {L : Nat → List pfN} {j : Nat} (h : rv σ U L j) (hf : fm S σ τ) (hn : ∀ j, U j → ∀ a c, nS j a c → ¬ S a c) (hV : ∀ j, U j → V j) (hr : ¬ S 129 j) : rv τ V L j := by
  rcases h with ⟨h1, h2⟩ | ⟨k, h, h2⟩
  · exact Or.inl ⟨h1, by rw [fm_at hf hr]; exact h2⟩
  · exact Or.inr ⟨k, by rw [fm_at hf hr]; exact h, mn_fm hf hn hV h2⟩
theorem nv_fm {S : Nat → Nat → Prop} {σ τ : am_S} {L : Nat → List pfN} (h : nv σ L) (hf : fm S σ τ) (hn : ∀ a c, S a c → a < 118 ∨ (125 < a ∧ a ≠ 129)) : nv τ L := fun j hj => ⟨(h j hj).1, rv_fm (h j hj).2 hf (fun i _ a c h1 h2 => by have := hn a c h2; unfold nS at h1; omega) (fun _ q => q) (fun q => by have := hn _ _ q; omega)⟩
theorem mn_eq {σ τ : am_S} {U : Nat → Prop} {L : List pfN} {k : Nat} (h : mn σ U L k) (he : ∀ a, (118 ≤ a ∧ a ≤ 125) → τ.1 a = σ.1 a) : mn τ U L k := by
  have e : ∀ {r n a b N c l} {k : Nat}, ni σ k r n a b N c l → ni τ k r n a b N c l := by
    intro r n a b N c l k h
    unfold ni mrow at h ⊢
    rw [he 118 (by omega), he 119 (by omega), he 120 (by omega), he 121 (by omega), he 122 (by omega), he 123 (by omega), he 124 (by omega), he 125 (by omega)]
    exact h
  exact mn_rec (P := fun L k => mn τ U L k) (fun _ _ _ k hU h => mn_z hU (e h)) (fun _ _ _ _ k _ hU h _ hA => mn_o hU (e h) hA) (fun _ _ _ _ _ k _ _ hU h _ hA _ hB => mn_t hU (e h) hA hB) h
theorem nv_E {σ τ : am_S} {L : Nat → List pfN} (h : nv σ L) (he : nsE σ τ) : nv τ L := by
  intro j hj
  refine ⟨(h j hj).1, ?_⟩
  rcases (h j hj).2 with ⟨h1, h2⟩ | ⟨k, h1, h2⟩
  · exact Or.inl ⟨h1, by rw [he 129 (Or.inr rfl)]; exact h2⟩
  · exact Or.inr ⟨k, by rw [he 129 (Or.inr rfl)]; exact h1, mn_eq h2 (fun a ha => he a (Or.inl ha))⟩
/-- the list that clean works off -/
theorem nv_cw {σ : am_S} {L : Nat → List pfN} (h : nv σ L) : ∃ W : List Nat, W.length ≤ 500 ∧ cw σ W := by
  have key : ∀ m, m ≤ 5 → ∃ W : List Nat, W.length ≤ 100 * m ∧ mcl σ nL W ∧ ∀ r, r < m → σ.1 129 0 r < 640 ∧ (0 ≤ σ.1 129 0 r → (σ.1 129 0 r).toNat ∈ W) := by
    intro m
    induction m with
    | zero => exact fun _ => ⟨[], Nat.le_refl _, fun j hj => absurd hj List.not_mem_nil, fun r hr => absurd hr (Nat.not_lt_zero _)⟩
    | succ m ih =>
      intro hm
      obtain ⟨W, h1, h2, h3⟩ := ih (by omega)
      have hl := (h m (by omega)).1
      have hlt := rv_lt (h m (by omega)).2
      rcases (h m (by omega)).2 with ⟨_, h5⟩ | ⟨k, h4, h5⟩
      · refine ⟨W, by omega, h2, fun r hr => ?_⟩
        by_cases e : r = m
        · subst e; rw [h5]; exact ⟨by decide, fun q => absurd q (by decide)⟩
        · exact h3 r (by omega)
      · obtain ⟨V, g1, g2, g3⟩ := mn_ls h5
        refine ⟨W ++ V, by rw [List.length_append]; omega, mcl_app h2 g3, fun r hr => ?_⟩
        by_cases e : r = m
        · subst e
          exact ⟨hlt, fun _ => List.mem_append_right _ (by rw [h4, Int.toNat_natCast]; exact g2)⟩
        · exact ⟨(h3 r (by omega)).1, fun q => List.mem_append_left _ ((h3 r (by omega)).2 q)⟩
  obtain ⟨W, h1, h2, h3⟩ := key 5 (Nat.le_refl _)
  exact ⟨W, h1, by omega, fun j hj => ⟨(h2 j hj).1, (h2 j hj).2.2⟩, h3⟩
theorem clS_n : ∀ a c, clS a c → a < 118 ∨ (125 < a ∧ a ≠ 129) := fun a c h => by unfold clS at h; omega
theorem sp_m_cleanF {d : Nat} {L : Nat → List pfN} {σ : am_S} {Q : am_Q} (hN : nv σ L) (h : ∀ τ, τ.1 11 0 28 = 0 → cn τ L 500 → nv τ L → fm clS σ τ → Q (.inl none) τ) : am_M d 1141954 [am_r 11 0] σ Q := by
  obtain ⟨W, hW5, hW⟩ := nv_cw hN
  refine sp_m_clean hW (fun τ hc hf => h τ hc.1 ⟨⟨⟨0, hc.1, by decide, fun j hj => absurd hj (Nat.not_lt_zero _)⟩, hc.2.1, Nat.le_trans hc.2.2.1 hW5⟩, fun j hj => ?_⟩ (nv_fm hN hf clS_n) hf)
  have hv := nv_fm hN hf clS_n
  rcases (hv j hj).2 with h1 | ⟨k, h1, h2⟩
  · exact Or.inl h1
  · refine Or.inr ⟨k, h1, mn_cl (V := us τ) (fun i hi => hc.2.2.2.1 i hi) h2 ?_⟩
    have := hc.2.2.2.2 j hj
    rw [h1, Int.toNat_natCast] at this
    exact this (by omega)
theorem sp_m_cleanN {d : Nat} {L : Nat → List pfN} {σ : am_S} {Q : am_Q} (hN : nv σ L) (h : ∀ τ, cn τ L 500 → nv τ L → fm clS σ τ → Q (.inl none) τ) : am_M d 1141954 [am_r 11 0] σ Q := sp_m_cleanF hN (fun τ _ => h τ)
/-- roots that stay behind a new node, behind work -/
theorem cn_wk {σ τ : am_S} {L : Nat → List pfN} {c : Nat} (h : cn σ L c) (hf : fm wkS σ τ) : cn τ L c := by
  refine ⟨nu_wk h.1 hf, fun j hj => ?_⟩
  rcases h.2 j hj with ⟨h1, h2⟩ | ⟨k, h1, h2⟩
  · exact Or.inl ⟨h1, by rw [fm_at hf (by unfold wkS; omega)]; exact h2⟩
  · exact Or.inr ⟨k, by rw [fm_at hf (by unfold wkS; omega)]; exact h1, mn_wk h2 hf⟩
theorem cn_br {σ τ : am_S} {L : Nat → List pfN} {c f : Nat} (h : cn σ L c) (hn : nu τ (c + 1)) (hf : fm (brS f) σ τ) (hk : ∀ {t : List pfN} {k : Nat}, mn σ (us σ) t k → mn τ (us τ) t k) : cn τ L (c + 1) := by
  refine ⟨hn, fun j hj => ?_⟩
  rcases h.2 j hj with ⟨h1, h2⟩ | ⟨k, h1, h2⟩
  · exact Or.inl ⟨h1, by rw [fm_at hf (by unfold brS wkS mnS; omega)]; exact h2⟩
  · exact Or.inr ⟨k, by rw [fm_at hf (by unfold brS wkS mnS; omega)]; exact h1, hk h2⟩
def ups (L : Nat → List pfN) (s : Nat) (M : List pfN) : Nat → List pfN := fun j => if j = s then M else L j
theorem ups_s (L : Nat → List pfN) (s : Nat) (M : List pfN) : ups L s M s = M := if_pos rfl
theorem ups_n (L : Nat → List pfN) {s j : Nat} (M : List pfN) (h : j ≠ s) : ups L s M j = L j := if_neg h
theorem us_nL {σ : am_S} {j : Nat} (h : us σ j) : nL j := h.1
/-- what comes of a node that goes into a slot -/
def it_ok (σ : am_S) (T : ftT) (L : Nat → List pfN) (s : Nat) (M : List pfN) (Q : am_Q) : Prop := M.length ≤ 100 → (rl M).length ≤ 8 → ft_lvs T (rl M) ≤ 12 → ∀ τ, nv τ (ups L s M) → τ.1 11 0 0 = σ.1 11 0 0 → fm (itS s) σ τ → Q (.inl (some (.inl (M.length : Int)))) τ
def it_no (σ : am_S) (T : ftT) (L : Nat → List pfN) (s : Nat) (M : List pfN) (much : Int) (Q : am_Q) : Prop := 100 < M.length ∨ 8 < (rl M).length ∨ 12 < ft_lvs T (rl M) → ∀ τ, nv τ L → τ.1 11 0 0 = much → fm (itS s) σ τ → Q (.inl (some (.inl 0))) τ
theorem sp_m_intoN {d f c : Nat} {s much : Int} {M : List pfN} {T : ftT} {L : Nat → List pfN} {σ : am_S} {Q : am_Q} (hT : mt σ T) (hp : ft_pr T) (ho : ft_ok T) (hs : 0 ≤ s ∧ s < 4) (hL : ∀ j, j < 5 → (L j).length ≤ 100) (hc : cn σ L c) (hM : mn σ (us σ) M f) (hr : ∀ x ∈ rl M, 0 ≤ x ∧ x < 20 + (T.length : Int))
    (h1 : it_ok σ T L s.toNat M Q) (h0 : it_no σ T L s.toNat M much Q) : am_M (d + 2) 1207432 [am_r 11 0, am_i s, am_i (f : Int), am_i much] σ Q := by
  have hx : ∀ (τ : am_S), fm (itS s.toNat) σ τ → ∀ {t : List pfN} {k : Nat}, mn σ (us σ) t k → mn τ nL t k := fun τ hf t k h => mn_fm hf (fun j _ a c h1 h2 => by unfold nS at h1; unfold itS at h2; omega) (fun j hj => us_nL hj) h
  refine sp_m_into hT hp ho hs (mn_row hM) (mn_top hM).2.2.1 hr (fun hb τ a1 a2 a3 => ?_) (fun b1 b2 b3 τ a1 a2 a3 => ?_)
  · refine h0 (by omega) τ (fun j hj => ⟨hL j hj, ?_⟩) a1 a2
    have e : τ.1 129 0 j = σ.1 129 0 j := by
      by_cases e : j = s.toNat
      · rw [e]; exact a3
      · exact fm_at a2 (by unfold itS; omega)
    rcases hc.2 j hj with ⟨q1, q2⟩ | ⟨k, q1, q2⟩
    · exact Or.inl ⟨q1, by rw [e]; exact q2⟩
    · exact Or.inr ⟨k, by rw [e]; exact q1, hx τ a2 q2⟩
  · refine h1 (by omega) (by omega) (by omega) τ (fun j hj => ?_) a2 a3
    by_cases e : j = s.toNat
    · subst e
      exact ⟨by rw [ups_s]; omega, Or.inr ⟨f, a1, by rw [ups_s]; exact hx τ a3 hM⟩⟩
    · refine ⟨by rw [ups_n _ _ e]; exact hL j hj, ?_⟩
      rcases hc.2 j hj with ⟨q1, q2⟩ | ⟨k, q1, q2⟩
      · exact Or.inl ⟨by rw [ups_n _ _ e]; exact q1, by rw [fm_at a3 (by unfold itS; omega)]; exact q2⟩
      · exact Or.inr ⟨k, by rw [fm_at a3 (by unfold itS; omega)]; exact q1, by rw [ups_n _ _ e]; exact hx τ a3 q2⟩
