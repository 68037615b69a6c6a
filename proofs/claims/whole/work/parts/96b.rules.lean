/-! The reference: rules -/
def hyp (T : ftT) (σ : am_S) (S : List (List Int)) (idx : Nat) (s : List Int) : Prop := σ.1 139 0 idx = 0 ∧ (∀ c ∈ cs T s, ∀ p, cpr c p → p ∈ S) ∧ htr T σ S (wt T s)
theorem RG_ent {T : ftT} {σ τ υ : am_S} {S V S1 S2 : List (List Int)} {idx : Nat} {s p : List Int} {done : List cdt} (h : RG T σ S V idx s done τ S1) (hidx : idx < S.length) (he : ent S1 p S2) (hL : lst T υ S2) (hf : fe τ υ) (hk : kpt S1 τ υ S2) (hpV : p ∈ V) (hpS : (∀ c ∈ cs T s, ∀ p, cpr c p → p ∈ S) → p ∈ S) : RG T σ S V idx s done υ S2 := by
  obtain ⟨h1, h2, ⟨E, h3⟩, h4, h5, h6, h7, h8, h9⟩ := h
  have hle : S.length ≤ S1.length := by rw [h3, List.length_append]; omega
  have hsub : ∀ t ∈ S1, t ∈ S2 := by
    rcases he with ⟨_, rfl⟩ | ⟨_, rfl⟩
    · exact fun t ht => ht
    · exact fun t ht => List.mem_append_left _ ht
  refine ⟨hL, fe_trans h2 hf, ?_, ?_, fun c hc q hq => hsub _ (h5 c hc q hq), fun a ha ha2 j hj hne => ?_, fun a ha ha2 => ?_, fun j hj hj2 => ?_, fun g1 g2 g3 => ?_⟩
  · rcases he with ⟨_, rfl⟩ | ⟨_, rfl⟩
    · exact ⟨E, h3⟩
    · exact ⟨E ++ [p], by rw [h3, List.append_assoc]⟩
  · intro t ht
    rcases he with ⟨_, rfl⟩ | ⟨_, rfl⟩
    · exact h4 t ht
    · rcases List.mem_append.mp ht with q | q
      · exact h4 t q
      · rw [List.mem_singleton.mp q]; exact hpV
  · rw [hk.1 a ha ha2 j (by omega)]; exact h6 a ha ha2 j hj hne
  · rw [hk.1 a (by omega) ha2 idx (by omega)]; exact h7 a ha ha2
  · by_cases q : j < S1.length
    · rw [hk.1 139 (by decide) (by decide) j q, hk.1 143 (by decide) (by decide) j q]; exact h8 j hj q
    · have hne : S2 ≠ S1 := fun e => by rw [e] at hj2; exact q hj2
      have hjj : j = S1.length := by
        rcases he with ⟨_, rfl⟩ | ⟨_, rfl⟩
        · exact absurd rfl hne
        · rw [List.length_append, List.length_singleton] at hj2; omega
      rw [hjj]; exact hk.2 hne
  · obtain ⟨k1, k2⟩ := h9 g1 g2 g3
    have hpS := hpS g2
    rw [← k1] at hpS
    have : S2 = S1 := by
      rcases he with ⟨_, e⟩ | ⟨q, _⟩
      · exact e
      · exact absurd hpS q
    exact ⟨this.trans k1, dcs_eq k2 (fun a ha ha2 => hk.1 a ha (by omega) idx (by omega))⟩
theorem pv_at (τ : am_S) (idx : Nat) (r n a b : Int) (k j : Nat) (h : ¬ (139 ≤ k ∧ k ≤ 142 ∧ j = idx)) : (pvd τ idx r n a b).1 k 0 j = τ.1 k 0 j := by
  unfold pvd
  have one : ∀ (ρ : am_S) (kk : Nat) (v : Int), 139 ≤ kk → kk ≤ 142 → (am_set ρ kk 0 idx v).1 k 0 j = ρ.1 k 0 j := by
    intro ρ kk v h1 h2
    by_cases e : k = kk
    · subst e
      exact set_nj _ _ _ _ _ (fun q => h ⟨h1, h2, q⟩)
    · exact set_nk _ _ _ _ _ e
  rw [one _ 142 _ (by decide) (by decide), one _ 141 _ (by decide) (by decide), one _ 140 _ (by decide) (by decide), one _ 139 _ (by decide) (by decide)]
theorem pv_fm (τ : am_S) (idx : Nat) (r n a b : Int) : fm (fun k _ => 139 ≤ k ∧ k ≤ 142) τ (pvd τ idx r n a b) := by
  unfold pvd
  exact fm_trans (fm_set _ _ ⟨by decide, by decide⟩) (fm_trans (fm_set _ _ ⟨by decide, by decide⟩) (fm_trans (fm_set _ _ ⟨by decide, by decide⟩) (fm_set _ _ ⟨by decide, by decide⟩)))
theorem RG_step {T : ftT} {σ τ : am_S} {S V S1 : List (List Int)} {idx : Nat} {s : List Int} {done : List cdt} {r n a b : Int} {c : cdt} (h : RG T σ S V idx s done τ S1) (hidx : idx < S.length) (hr : 0 ≤ r) (hpr : ∀ p, cpr c p → p ∈ S1)
    (hv1 : hyp T σ S idx s → S1 = S → pvc τ idx a b → ∃ K, cval (FD T) s c = some (pf_mk r n s K) ∧ prem T S K a b) (hv0 : hyp T σ S idx s → S1 = S → τ.1 139 0 idx = 0 → ¬ pvc τ idx a b → cval (FD T) s c = none) : (pvc τ idx a b → RG T σ S V idx s (done ++ [c]) (pvd τ idx r n a b) S1) ∧ (¬ pvc τ idx a b → RG T σ S V idx s (done ++ [c]) τ S1) := by
  obtain ⟨h1, h2, h3, h4, h5, h6, h7, h8, h9⟩ := h
  have h5' : ∀ c' ∈ done ++ [c], ∀ p, cpr c' p → p ∈ S1 := fun c' hc' p hp => by
    rcases List.mem_append.mp hc' with q | q
    · exact h5 c' q p hp
    · rw [List.mem_singleton.mp q] at hp; exact hpr p hp
  have ec : cfst (FD T) s (done ++ [c]) = fd_or (cfst (FD T) s done) (cval (FD T) s c) := by
    rw [cfst_app]
    show fd_or _ (fd_or (cval (FD T) s c) none) = _
    rw [fd_or_n]
  constructor
  · intro hpv
    have hf := pv_fm τ idx r n a b
    refine ⟨lst_fm h1 hf (fun k c q => by omega), fe_trans h2 (fe_fm hf (fun k c q => by unfold feS; omega)), h3, h4, h5', fun k ha ha2 j hj hne => by rw [pv_at _ _ _ _ _ _ _ _ (by omega)]; exact h6 k ha ha2 j hj hne, fun k ha ha2 => by rw [pv_at _ _ _ _ _ _ _ _ (by omega)]; exact h7 k ha ha2, fun j hj hj2 => ?_, fun g1 g2 g3 => ?_⟩
    · rw [pv_at _ _ _ _ _ _ _ _ (by omega), pv_at _ _ _ _ _ _ _ _ (by omega)]; exact h8 j hj hj2
    · obtain ⟨k1, k2⟩ := h9 g1 g2 g3
      obtain ⟨K, e1, e2⟩ := hv1 ⟨g1, g2, g3⟩ k1 hpv
      have hno : cfst (FD T) s done = none := by
        cases hc : cfst (FD T) s done with
        | none => rfl
        | some L => rw [hc] at k2; exact absurd hpv.1 (dcs_pos k2)
      rw [ec, hno, e1]
      exact ⟨k1, dcs_pv hr e2⟩
  · intro hpv
    refine ⟨h1, h2, h3, h4, h5', h6, h7, h8, fun g1 g2 g3 => ?_⟩
    obtain ⟨k1, k2⟩ := h9 g1 g2 g3
    refine ⟨k1, ?_⟩
    rw [ec]
    cases hc : cfst (FD T) s done with
    | some L => rw [hc] at k2; exact k2
    | none =>
      rw [hc] at k2
      have h0 : τ.1 139 0 idx = 0 := by
        rcases k2 with ⟨_, q⟩ | ⟨r, n, a, b, K, q, _⟩
        · exact q
        · cases q
      rw [hv0 ⟨g1, g2, g3⟩ k1 h0 hpv]
      exact Or.inl ⟨rfl, h0⟩
/-- the decision on a premise -/
theorem hyp_p {T : ftT} {σ τ : am_S} {S V : List (List Int)} {idx i : Nat} {s p : List Int} {done : List cdt} (h : RG T σ S V idx s done τ S) (hs : S[idx]? = some s) (hy : hyp T σ S idx s) (hi : S[i]? = some p) (hw : wt T p < wt T s) : 0 < τ.1 139 0 i ↔ FD T p ≠ none := by
  have hne : i ≠ idx := fun e => by rw [e, hs] at hi; cases hi; omega
  have hlt := (List.getElem?_eq_some_iff.mp hi).1
  rw [h.2.2.2.2.2.1 139 (by decide) (by decide) i hlt hne]
  exact hy.2.2 i p hi hw
theorem RG_0 {T : ftT} {σ τ : am_S} {S V S1 : List (List Int)} {idx : Nat} {s : List Int} {done : List cdt} {r n : Int} (h : RG T σ S V idx s done τ S1) (hidx : idx < S.length) (hr : 0 ≤ r) : (pvc τ idx (-1) (-1) → RG T σ S V idx s (done ++ [(r, n, none, none)]) (pvd τ idx r n (-1) (-1)) S1) ∧ (¬ pvc τ idx (-1) (-1) → RG T σ S V idx s (done ++ [(r, n, none, none)]) τ S1) :=
  RG_step h hidx hr (fun p hp => by rcases hp with q | q <;> cases q) (fun _ _ _ => ⟨[], rfl, Or.inl ⟨rfl, rfl, rfl⟩⟩) (fun _ _ h0 hn => absurd ⟨h0, Or.inl (by decide), Or.inl (by decide)⟩ hn)
theorem RG_1 {T : ftT} {σ τ : am_S} {S V S1 : List (List Int)} {idx i : Nat} {s p : List Int} {done : List cdt} {r n : Int} (h : RG T σ S V idx s done τ S1) (hs : S[idx]? = some s) (hr : 0 ≤ r) (hi : S1[i]? = some p) (hw : wt T p < wt T s) : (pvc τ idx i (-1) → RG T σ S V idx s (done ++ [(r, n, some p, none)]) (pvd τ idx r n i (-1)) S1) ∧ (¬ pvc τ idx i (-1) → RG T σ S V idx s (done ++ [(r, n, some p, none)]) τ S1) := by
  have hidx := (List.getElem?_eq_some_iff.mp hs).1
  refine RG_step h hidx hr (fun q hq => ?_) (fun hy e hp => ?_) (fun hy e h0 hn => ?_)
  · rcases hq with e | e
    · cases e; exact List.mem_of_getElem? hi
    · cases e
  · subst e
    have hc := hyp_p h hs hy hi hw
    have : 0 < τ.1 139 0 i := by rcases hp.2.1 with q | q; omega; rw [Int.toNat_natCast] at q; exact q
    cases hF : FD T p with
    | none => exact absurd hF (hc.mp this)
    | some A => exact ⟨A, by show fd_1 r n s (FD T p) = _; rw [hF]; rfl, Or.inr (Or.inl ⟨i, p, rfl, rfl, hi, hF⟩)⟩
  · subst e
    have hc := hyp_p h hs hy hi hw
    show fd_1 r n s (FD T p) = none
    cases hF : FD T p with
    | none => rfl
    | some A =>
      have := hc.mpr (by rw [hF]; exact fun q => by cases q)
      exact absurd ⟨h0, Or.inr (by rw [Int.toNat_natCast]; exact this), Or.inl (by decide)⟩ hn
theorem RG_2 {T : ftT} {σ τ : am_S} {S V S1 : List (List Int)} {idx i j : Nat} {s p q : List Int} {done : List cdt} {r n : Int} (h : RG T σ S V idx s done τ S1) (hs : S[idx]? = some s) (hr : 0 ≤ r) (hi : S1[i]? = some p) (hj : S1[j]? = some q) (hw : wt T p < wt T s) (hw2 : wt T q < wt T s) : (pvc τ idx i j → RG T σ S V idx s (done ++ [(r, n, some p, some q)]) (pvd τ idx r n i j) S1) ∧ (¬ pvc τ idx i j → RG T σ S V idx s (done ++ [(r, n, some p, some q)]) τ S1) := by
  have hidx := (List.getElem?_eq_some_iff.mp hs).1
  refine RG_step h hidx hr (fun t ht => ?_) (fun hy e hp => ?_) (fun hy e h0 hn => ?_)
  · rcases ht with e | e
    · cases e; exact List.mem_of_getElem? hi
    · cases e; exact List.mem_of_getElem? hj
  · subst e
    have hc := hyp_p h hs hy hi hw
    have hc2 := hyp_p h hs hy hj hw2
    have z1 : 0 < τ.1 139 0 i := by rcases hp.2.1 with q | q; omega; rw [Int.toNat_natCast] at q; exact q
    have z2 : 0 < τ.1 139 0 j := by rcases hp.2.2 with q | q; omega; rw [Int.toNat_natCast] at q; exact q
    cases hF : FD T p with
    | none => exact absurd hF (hc.mp z1)
    | some A =>
      cases hF2 : FD T q with
      | none => exact absurd hF2 (hc2.mp z2)
      | some B => exact ⟨A ++ B, by show fd_2 r n s (FD T p) (FD T q) = _; rw [hF, hF2]; rfl, Or.inr (Or.inr ⟨i, j, p, q, A, B, rfl, rfl, hi, hj, hF, hF2, rfl⟩)⟩
  · subst e
    have hc := hyp_p h hs hy hi hw
    have hc2 := hyp_p h hs hy hj hw2
    show fd_2 r n s (FD T p) (FD T q) = none
    cases hF : FD T p with
    | none => rfl
    | some A =>
      cases hF2 : FD T q with
      | none => rfl
      | some B =>
        have z1 := hc.mpr (by rw [hF]; exact fun q => by cases q)
        have z2 := hc2.mpr (by rw [hF2]; exact fun q => by cases q)
        exact absurd ⟨h0, Or.inr (by rw [Int.toNat_natCast]; exact z1), Or.inr (by rw [Int.toNat_natCast]; exact z2)⟩ hn
