/-! One call on a fresh object: the law's run -/
theorem f_call {n : Nat} {σ : am_S} (h : fre0 n σ) {J : am_S → Prop} (hJ : ∀ υ, lc_S n υ → J υ) (s1 s2 s3 : Int) : ∀ c, c < 26 → lc_call c s1 s2 s3 σ J := by
  have hc := h.1
  have hm := h.2.1
  have hS := h.2.2.1
  have hb := h.2.2.2.2.1
  intro c hc26
  match c, hc26 with
  | 0, _ => exact lc_A_mono hJ (ca_type hc hm wv0 (S_aJ hS))
  | 1, _ => exact lc_A_mono hJ (f_read h)
  | 2, _ => exact lc_B_mono hJ (ca_make hb hc hm wv0 (S_aJ hS))
  | 3, _ => exact lc_A_mono hJ (ca_formulas hc hm wv0 (S_aJ hS))
  | 4, _ => exact lc_B_mono hJ (ca_about hb hc hm wv0 (S_aJ hS))
  | 5, _ => exact lc_B_mono hJ (f_written h)
  | 6, _ => exact lc_B_mono hJ (ca_put hb hc hm wv0 (S_aJ hS))
  | 7, _ => exact lc_A_mono hJ (ca_take hc hm wv0 (S_aJ hS))
  | 8, _ => exact lc_A_mono hJ (ca_draft hc hm wv0 (S_aJ hS))
  | 9, _ => exact lc_B_mono hJ (f_axiom h)
  | 10, _ => exact lc_B_mono hJ (f_one h)
  | 11, _ => exact lc_B_mono hJ (f_top h)
  | 12, _ => exact lc_B_mono hJ (f_bottom h)
  | 13, _ => exact lc_B_mono hJ (f_par h)
  | 14, _ => exact lc_B_mono hJ (f_plus h)
  | 15, _ => exact lc_B_mono hJ (f_with h)
  | 16, _ => exact lc_B_mono hJ (f_times h)
  | 17, _ => exact lc_B_mono hJ (f_cut h)
  | 18, _ => exact lc_B_mono hJ (f_drop h)
  | 19, _ => exact lc_Z_mono hJ (f_prove h)
  | 20, _ => exact lc_B_mono hJ (f_step h)
  | 21, _ => exact lc_B_mono hJ (f_eliminate h)
  | 22, _ => exact lc_B_mono hJ (f_nodes h)
  | 23, _ => exact lc_B_mono hJ (f_cuts h)
  | 24, _ => exact lc_B_mono hJ (f_node h)
  | 25, _ => exact lc_B_mono hJ (f_concl h)
  | k + 26, hk => omega
theorem kz_ndW (L : Nat) (xs : Nat → Int32) (nb i : Nat) : ndW (kz_s0 L xs nb) i := ⟨(0, -1, 1, []), ⟨rfl, rfl, rfl, ⟨rfl, by decide, fun j hj => absurd hj (Nat.not_lt_zero _)⟩, List.Pairwise.nil⟩, by decide, by decide⟩
theorem kz_sq (L : Nat) (xs : Nat → Int32) (nb k : Nat) : sq (kz_s0 L xs nb) k [] := ⟨rfl, by decide, fun j hj => absurd hj (Nat.not_lt_zero _)⟩
theorem kz_pq (L : Nat) (xs : Nat → Int32) (nb p : Nat) : pq (kz_s0 L xs nb) p ([], false) := ⟨rfl, rfl, by decide, fun j hj => absurd hj (Nat.not_lt_zero _), fun j _ => kz_ndW L xs nb _, fun h => by cases h⟩
theorem fre_kz (L : Nat) (xs : Nat → Int32) (nb : Nat) (hb : 0 < nb) : fre0 L (kz_s0 L xs nb) := by
  refine ⟨⟨⟨rfl, by decide, fun j hj => absurd hj (Nat.not_lt_zero _)⟩, ⟨rfl, by decide, fun j hj => absurd hj (Nat.not_lt_zero _)⟩, kz_sq L xs nb 0, ⟨[], kz_sq L xs nb 1⟩, fun j _ => kz_pq L xs nb j, ⟨_, kz_pq L xs nb 4⟩, Or.inl ⟨rfl, rfl⟩, ⟨_, kz_pq L xs nb 5⟩, ⟨_, kz_pq L xs nb 6⟩⟩, ⟨⟨by decide, rfl, fun p hp => absurd hp (Nat.not_lt_zero _)⟩, ⟨rfl, by decide, fun j hj => absurd hj (Nat.not_lt_zero _)⟩, ⟨rfl, by decide, fun j hj => absurd hj (Nat.not_lt_zero _)⟩⟩, ⟨rfl, fun j => ?_⟩, fun j hj => ?_, hb, fun _ => rfl⟩
  · show am_rg ((xs j).toInt)
    have h1 := (xs j).le_toInt
    have h2 := (xs j).toInt_lt
    exact ⟨by omega, by omega⟩
  · show (if j < 5 then (-1 : Int) else 0) = -1
    rw [if_pos hj]
theorem p1_run {L : Nat} (xs : Nat → Int32) (hL : L ≤ 4) : am_R 160 3391714 20 [am_r 71 0, am_r 1 0, am_r 11 0, am_r 70 0, am_j, am_j, am_j] [] (kz_s0 L xs 512) (fun o _ => o = .inl (some (.inl 1))) := by
  have h0 := fre_kz L xs 512 (by decide)
  refine lw_run (n := L) (by omega) (I := fun k σ => lc_S L σ ∧ (k = 0 → fre0 L σ)) (fun k σ h => h.1) (fun k σ h => ⟨h.1, fun q => absurd q (Nat.succ_ne_zero _)⟩) (fun k σ hk h c s1 s2 s3 _ _ _ hc => ?_) ⟨h0.2.2.1, fun _ => h0⟩
  have k0 : k = 0 := by omega
  exact f_call (h.2 k0) (fun υ hυ => ⟨hυ, fun q => absurd q (Nat.succ_ne_zero _)⟩) s1 s2 s3 c hc
