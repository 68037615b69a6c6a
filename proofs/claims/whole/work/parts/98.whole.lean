/-! Every run of calls: the law's run -/
def IV (n k : Nat) (σ : am_S) : Prop := lc_S n σ ∧ 512 ≤ σ.2.2.2 + k ∧ ∃ (T : ftT) (X D : List Int) (L : Nat → List pfN), iv σ T X D L ∧ hpl T σ
theorem w_call {n k : Nat} {σ : am_S} (hk : k < 512) (h : IV n k σ) (s1 s2 s3 : Int) : ∀ c, c < 26 → lc_call c s1 s2 s3 σ (IV n (k + 1)) := by
  obtain ⟨hS, hbud, T, X, D, L, hi, hh⟩ := h
  have hb : 0 < σ.2.2.2 := by omega
  obtain ⟨wf, wp, -, -, -, -, ws⟩ := hi.2.2.1
  have hK : aK σ T (IV n (k + 1)) := fun υ T' X' D' L' a1 a2 a3 a4 a5 => ⟨S_K hS a3, by omega, T', X', D', L', a1, hpl_pre wp wf.1 wf.2.2.2 ws wf.2.2.1 a2 (hpl_eq hh a5)⟩
  have hJ := aJ_of hi hK
  have hc := hi.1
  have hm := hi.2.1
  have hw := hi.2.2.1
  intro c hc26
  match c, hc26 with
  | 0, _ => exact ca_type hc hm hw hJ
  | 1, _ => exact ca_read hc hm hw hJ
  | 2, _ => exact ca_make hb hc hm hw hJ
  | 3, _ => exact ca_formulas hc hm hw hJ
  | 4, _ => exact ca_about hb hc hm hw hJ
  | 5, _ => exact ca_written hb hc hm hw hJ
  | 6, _ => exact ca_put hb hc hm hw hJ
  | 7, _ => exact ca_take hc hm hw hJ
  | 8, _ => exact ca_draft hc hm hw hJ
  | 9, _ => exact ca_axiom hb hi hK
  | 10, _ => exact ca_one hb hi hK
  | 11, _ => exact ca_top hb hi hK
  | 12, _ => exact ca_bottom hb hi hK
  | 13, _ => exact ca_par hb hi hK
  | 14, _ => exact ca_plus hb hi hK
  | 15, _ => exact ca_with hb hi hK
  | 16, _ => exact ca_times hb hi hK
  | 17, _ => exact ca_cut hb hi hK
  | 18, _ => exact ca_drop hb hi hK
  | 19, _ => exact ca_prove hb hi hh (fun υ L' a1 a2 a3 a4 => ⟨S_K hS a3, by omega, T, X, D, L', a1, a2⟩)
  | 20, _ => exact ca_step hb hi hK
  | 21, _ => exact ca_elim hb hi hK
  | 22, _ => exact ca_nodes hb hi hK
  | 23, _ => exact ca_cuts hb hi hK
  | 24, _ => exact ca_node hb hi hK
  | 25, _ => exact ca_concl hb hi hK
  | k + 26, hk => omega
theorem w_start (L : Nat) (xs : Nat → Int32) : IV L 0 (kz_s0 L xs 512) := by
  obtain ⟨h1, h2, h3, h4, _, h6⟩ := fre_kz L xs 512 (by decide)
  exact ⟨h3, Nat.le_refl 512, [], [], [], fun _ => [], ⟨h1, h2, wv0, fun j hj => ⟨Nat.zero_le 100, Or.inl ⟨rfl, h4 j hj⟩⟩, fun _ _ => Or.inl rfl, rfl⟩, fun j => Or.inl (h6 j)⟩
theorem whole_run {L : Nat} (xs : Nat → Int32) (hL : L ≤ 2048) : am_R 160 3391714 20 [am_r 71 0, am_r 1 0, am_r 11 0, am_r 70 0, am_j, am_j, am_j] [] (kz_s0 L xs 512) (fun o _ => o = .inl (some (.inl 1))) := by
  refine lw_run (n := L) (by omega) (I := IV L) (fun k σ h => h.1) (fun k σ h => ⟨h.1, by have := h.2.1; omega, h.2.2⟩) (fun k σ hk h c s1 s2 s3 _ _ _ hc => ?_) (w_start L xs)
  exact w_call (by omega) h s1 s2 s3 c hc
