/-! Instructions that ask for something, one by one (written by our program) -/
theorem so_lnk {σ : am_S} {k : Nat} (h71 : k ≠ 71) : am_len σ k = (so_ln k : Int) := by
  unfold am_len so_ln
  by_cases h1 : k = 12
  · rw [if_pos h1, if_pos h1]; rfl
  rw [if_neg h1, if_neg h1]
  by_cases h2 : k = 13
  · rw [if_pos h2, if_pos h2]; rfl
  rw [if_neg h2, if_neg h2]
  by_cases h3 : k = 14
  · rw [if_pos h3, if_pos h3]; rfl
  rw [if_neg h3, if_neg h3]
  by_cases h4 : k = 24
  · rw [if_pos h4, if_pos h4]; rfl
  rw [if_neg h4, if_neg h4]
  by_cases h5 : k = 31
  · rw [if_pos h5, if_pos h5]; rfl
  rw [if_neg h5, if_neg h5]
  by_cases h6 : k = 41
  · rw [if_pos h6, if_pos h6]; rfl
  rw [if_neg h6, if_neg h6]
  by_cases h7 : k = 70
  · rw [if_pos h7, if_pos h7]; rfl
  rw [if_neg h7, if_neg h7, if_neg h71]
  by_cases h8 : k < 24
  · rw [if_pos h8, if_pos h8]; rfl
  rw [if_neg h8, if_neg h8]
  by_cases h9 : k < 36
  · rw [if_pos h9, if_pos h9]; rfl
  rw [if_neg h9, if_neg h9]
theorem so_ca {Z : so_Z} {σ : am_S} {k i t : Nat} (h : am_et k = t) (ht : t = 1 ∨ t = 2 ∨ t = 3) : so_cell Z σ k i = .inl (Z.2.2 t, so_ln k, .inl (fun j => Int32.ofInt (σ.1 k i j))) := by
  unfold so_cell so_at
  rw [h]
  rcases ht with rfl | rfl | rfl <;> rfl
theorem so_cl4 {Z : so_Z} {σ : am_S} {k i : Nat} (h : am_et k = 4) : so_cell Z σ k i = .inl (Z.2.2 4, so_ln k, .inr (.inl (σ.2.1 k))) := by
  unfold so_cell so_at
  rw [h]
  rfl
theorem so_okar {k i t : Nat} (h : so_okv (.inr (.inr (k, i)))) (ht : am_et k = t) (h0 : t ≠ 0) : (k ∈ so_ks ∧ i < so_num k) ∨ (k = 71 ∧ i = 0) := by
  rcases h with h | h | h | h
  · exact absurd ht (by rw [show k = 0 from h]; exact fun q => h0 q.symm)
  · exact Or.inl h
  · exact Or.inr h
  · exact absurd ht (by rw [show k = 90 from h.1]; exact fun q => h0 q.symm)
theorem so_71 : ¬ (71 : Nat) ∈ so_ks := by decide
theorem so_72 : ¬ (72 : Nat) ∈ so_ks := by decide
theorem so_upd {Z : so_Z} {σ : am_S} {k i t : Nat} {x v : Int} {w : Int32} (h : am_et k = t) (ht : t = 1 ∨ t = 2 ∨ t = 3) (hx : am_rg x) (hw : w = Int32.ofInt v) : so_cell Z (am_set σ k i x.toNat v) k i = .inl (Z.2.2 t, so_ln k, .inl (upd (fun j => Int32.ofInt (σ.1 k i j)) (Int32.ofInt x).toNatClampNeg w)) := by
  rw [so_ca h ht, so_clp hx]
  congr 4
  funext j
  show Int32.ofInt (am_up σ.1 k i x.toNat v k i j) = if j = x.toNat then w else _
  unfold am_up
  rw [if_pos rfl, if_pos rfl]
  by_cases hj : j = x.toNat
  · rw [if_pos hj, if_pos hj, hw]
  · rw [if_neg hj, if_neg hj]
theorem so_updl {Z : so_Z} {σ : am_S} {k i : Nat} {x : Int} {v : Int64} (h : am_et k = 4) (hx : am_rg x) : so_cell Z (am_setL σ k x.toNat v) k i = .inl (Z.2.2 4, so_ln k, .inr (.inl (vp_updL (σ.2.1 k) (Int32.ofInt x).toNatClampNeg v))) := by
  rw [so_cl4 h, so_clp hx]
  congr 5
  funext j
  show (if k = k then (if j = x.toNat then v else σ.2.1 k j) else σ.2.1 k j) = if j = x.toNat then v else σ.2.1 k j
  rw [if_pos rfl]
theorem so_n4k : ∀ k ∈ so_ks, am_et k = 4 → so_num k = 1 := by decide
theorem so_narz {v : Int} (h : v = 0 ∨ v = 1) : vp_nar .boolean (Int32.ofInt v) = Int32.ofInt v := by
  rcases h with rfl | rfl <;> rfl
theorem so_nc {v : Int} (h : 0 ≤ v ∧ v < 65536) : (Int32.ofInt v).toUInt32.toUInt16.toUInt32.toInt32 = Int32.ofInt v := by
  rw [← Int32.toInt_inj, so_ti ⟨by omega, by omega⟩]
  have h1 : (Int32.ofInt v).toUInt32.toNat = (v % 4294967296).toNat := BitVec.toNat_ofInt ..
  have h2 : (Int32.ofInt v).toUInt32.toUInt16.toUInt32.toNat = v.toNat := by
    rw [UInt16.toNat_toUInt32, UInt32.toNat_toUInt16, h1]
    omega
  have h3 : (Int32.ofInt v).toUInt32.toUInt16.toUInt32.toInt32.toInt = ((Int32.ofInt v).toUInt32.toUInt16.toUInt32.toNat : Int).bmod 4294967296 := BitVec.toInt_eq_toNat_bmod _
  rw [h3, h2, Int.bmod_def]
  omega
theorem so_narc {v : Int} (h : 0 ≤ v ∧ v < 65536) : vp_nar .char (Int32.ofInt v) = Int32.ofInt v := by
  rw [vp_nar_char]
  exact so_nc h
theorem so_fz {v : Int} (h : v = 0 ∨ v = 1) : fits .boolean (.int (Int32.ofInt v)) = true := by
  rcases h with rfl | rfl <;> rfl
theorem so_nzv {v : Int} (h : v = 0 ∨ v = 1) : narrow .boolean (.int (Int32.ofInt v)) = .int (Int32.ofInt v) := by
  rcases h with rfl | rfl <;> rfl
section So3
variable {Z : so_Z} {A : Nat → Prop} {Y : so_Y} {p : Program} {l : Launch} {e : Env} {R : Room} {s : State} {m : MethodId} {args : Array Value} {below : List Frame} {meth : Method} {c : Code} {b0 n0 mi pc : Nat} {Qt : State → Prop} {σ : am_S}
set_option maxHeartbeats 4000000 in
theorem so_q1 {i raw : am_I} {len : Nat} {ls st : List am_V} {q : Prop × List am_V × List am_V × am_S} (hX : so_X Z A Y p s m args meth c mi) (hd : decode (so_by mi) pc = .ok (raw, len)) (hk : so_ok mi pc raw len i = true) (hp : am_q i ls st σ = some q) (hq : q.1)
    (hn : so_J Z A Y p l e R s m args below meth c ((so_mlL[mi]?).getD 0) b0 n0 Qt (pc + len) q.2.1 q.2.2.1 q.2.2.2) : so_J Z A Y p l e R s m args below meth c ((so_mlL[mi]?).getD 0) b0 n0 Qt pc ls st σ := by
  intro okl okt okσ H locs cells slots lsv stv hP hD hS hc hs hL hst
  have hX' := hX
  obtain ⟨hx, hb, hml, hr, hlk, hown, hts, hK, hN, ⟨hV, hV1, hV2, hV3, hV4⟩, hR, hHx⟩ := hX'
  unfold am_q at hp
  split at hp
  · rename_i k n
    split at hp
    · rename_i x he
      cases hp
      have hq : am_rg (x + n) := hq
      have hk1 : decide (raw = .iinc k n ∧ len = 3 ∧ k < (so_mlL[mi]?).getD 0) = true := hk
      obtain ⟨rfl, rfl, h3⟩ := of_decide_eq_true hk1
      have hv := so_L_at hL he (fun b h => by cases h)
      obtain ⟨lv, hlv⟩ := hL
      have hm : (k, Value.int (Int32.ofInt x)) ∈ lv := by
        rcases hlv.2 k _ he with ⟨b, hb⟩ | hm
        · cases hb
        · exact hm
      obtain ⟨z, hz⟩ := List.getElem?_of_mem hm
      refine lv_iinc hx hb hd hlv.1 hz (Int32.ofInt_add x n).symm h3 rfl (fun ls' hls => ?_)
      refine hn (so_okl_set hq okl) okt okσ H locs cells slots ls' _ hP hD hS hc hs (so_L_st (Or.inl rfl) hlv.2 (fun j y h q => ?_) hls) hst
      have h5 : lsv[j]? = some (.val (.long y)) := so_L_at ⟨lv, hlv⟩ q (fun b h => by cases h)
      have h6 := hlv.1.2.1.1 j _ h5 rfl
      rw [h, hv] at h6
      cases h6
    · cases hp
  · rename_i y x st0
    cases hp
    have hq : am_rg (x + y) := hq
    have hk1 : decide (raw = .iadd ∧ len = 1) = true := hk
    obtain ⟨rfl, rfl⟩ := of_decide_eq_true hk1
    obtain ⟨r1, rfl, hq1⟩ := so_S_i hst
    obtain ⟨r2, rfl, hq2⟩ := so_S_i hq1
    refine lv_iadd hx hb hd ?_
    exact hn okl (so_okl_cons hq (so_okl_tl (so_okl_tl okt))) okσ H locs cells slots lsv _ hP hD hS hc hs hL (so_S_c (congrArg Value.int (Int32.ofInt_add x y).symm) hq2)
  · rename_i y x st0
    cases hp
    have hq : am_rg (x - y) := hq
    have hk1 : decide (raw = .isub ∧ len = 1) = true := hk
    obtain ⟨rfl, rfl⟩ := of_decide_eq_true hk1
    obtain ⟨r1, rfl, hq1⟩ := so_S_i hst
    obtain ⟨r2, rfl, hq2⟩ := so_S_i hq1
    refine lv_isub hx hb hd ?_
    exact hn okl (so_okl_cons hq (so_okl_tl (so_okl_tl okt))) okσ H locs cells slots lsv _ hP hD hS hc hs hL (so_S_c (congrArg Value.int (Int32.ofInt_sub x y).symm) hq2)
  · rename_i y x st0
    cases hp
    have hq : am_rg (x * y) := hq
    have hk1 : decide (raw = .imul ∧ len = 1) = true := hk
    obtain ⟨rfl, rfl⟩ := of_decide_eq_true hk1
    obtain ⟨r1, rfl, hq1⟩ := so_S_i hst
    obtain ⟨r2, rfl, hq2⟩ := so_S_i hq1
    refine lv_imul hx hb hd ?_
    exact hn okl (so_okl_cons hq (so_okl_tl (so_okl_tl okt))) okσ H locs cells slots lsv _ hP hD hS hc hs hL (so_S_c (congrArg Value.int (Int32.ofInt_mul x y).symm) hq2)
  · rename_i x st0
    cases hp
    have hq : am_rg (-x) := hq
    have hk1 : decide (raw = .ineg ∧ len = 1) = true := hk
    obtain ⟨rfl, rfl⟩ := of_decide_eq_true hk1
    obtain ⟨r1, rfl, hq1⟩ := so_S_i hst
    refine lv_ineg hx hb hd ?_
    exact hn okl (so_okl_cons hq (so_okl_tl okt)) okσ H locs cells slots lsv _ hP hD hS hc hs hL (so_S_c (by show Value.int _ = .int (Int32.ofInt (-x)); rw [Int32.ofInt_neg]) hq1)
  · rename_i y x st0
    cases hp
    have hq : 0 < y := hq
    have hk1 : decide (raw = .idiv ∧ len = 1) = true := hk
    obtain ⟨rfl, rfl⟩ := of_decide_eq_true hk1
    obtain ⟨r1, rfl, hq1⟩ := so_S_i hst
    obtain ⟨r2, rfl, hq2⟩ := so_S_i hq1
    refine lv_idiv hx hb hd (fun h => ?_) ?_
    · have := (so_eq (so_okl_hd okt) so_r0).mp h
      omega
    · exact hn okl (so_okl_cons (so_divr (so_okl_hd (so_okl_tl okt)) hq) (so_okl_tl (so_okl_tl okt))) okσ H locs cells slots lsv _ hP hD hS hc hs hL (so_S_c (congrArg Value.int (so_div (so_okl_hd (so_okl_tl okt)) (so_okl_hd okt) hq).symm) hq2)
  · rename_i y x st0
    cases hp
    have hq : 0 < y := hq
    have hk1 : decide (raw = .irem ∧ len = 1) = true := hk
    obtain ⟨rfl, rfl⟩ := of_decide_eq_true hk1
    obtain ⟨r1, rfl, hq1⟩ := so_S_i hst
    obtain ⟨r2, rfl, hq2⟩ := so_S_i hq1
    refine lv_irem hx hb hd (fun h => ?_) ?_
    · have := (so_eq (so_okl_hd okt) so_r0).mp h
      omega
    · exact hn okl (so_okl_cons (so_remr (so_okl_hd okt) hq) (so_okl_tl (so_okl_tl okt))) okσ H locs cells slots lsv _ hP hD hS hc hs hL (so_S_c (congrArg Value.int (so_rem (so_okl_hd (so_okl_tl okt)) (so_okl_hd okt) hq).symm) hq2)
  · rename_i g v k i st0
    split at hp
    · rename_i hkk
      subst hkk
      cases hp
      have hq : v = 0 ∨ v = 1 := hq
      have hk1 : (so_fa (so_ow mi) raw len true (g / 64) (g % 64) && decide ((so_fl (g / 64))[g % 64]? = some true ∧ (sT (g / 64) (g % 64)).2.2 = ("Z", false))) = true := hk
      rw [Bool.and_eq_true] at hk1
      obtain ⟨h2, h0, h1, -⟩ := so_fa_spec hk1.1
      obtain ⟨h3, h4⟩ := of_decide_eq_true hk1.2
      obtain ⟨r1, rfl, hq1⟩ := so_S_i hst
      obtain ⟨r2, rfl, hq2⟩ := so_S_r (by omega) hq1
      have hi := (so_okr (so_okl_hd (so_okl_tl okt)) h0 (by omega)).2
      refine so_putf (τ := am_set σ (g / 64) i (g % 64) v) (ty := .boolean) hX hd hk1.1 hP hD hS hi (by rw [h4]) (by rw [h4]; decide) (so_nzv hq) (so_fz hq) (so_fs_set h3) (fun k' i' _ h => so_oth k' i' h) (fun H1 locs1 hP1 hD1 hS1 => ?_)
      exact hn okl (so_okl_tl (so_okl_tl okt)) (so_okσ_set okσ (so_okl_hd okt) (by omega) (by omega)) H1 locs1 cells slots lsv _ hP1 hD1 hS1 hc hs hL hq2
    · cases hp
  · rename_i x k i st0
    split at hp
    · rename_i het
      cases hp
      have hq : 0 ≤ x ∧ x < am_len σ k := hq
      have hk1 : decide (raw = .iaload ∧ len = 1) = true := hk
      obtain ⟨rfl, rfl⟩ := of_decide_eq_true hk1
      have hrx : am_rg x := so_okl_hd okt
      have hk0 : k ≠ 0 := fun h => by rw [h] at het; cases het
      obtain ⟨r1, rfl, hq1⟩ := so_S_i hst
      obtain ⟨r2, rfl, hq2⟩ := so_S_r hk0 hq1
      rcases so_okar (so_okl_hd (so_okl_tl okt)) het (by decide) with hw | hw
      · obtain ⟨n, hn'⟩ := so_pos hw.1 hw.2
        have he := so_get Z σ hn'
        rw [so_ca het (by omega)] at he
        have h71 : k ≠ 71 := fun h => so_71 (h ▸ hw.1)
        rw [so_lnk h71] at hq
        refine va_iald hx hb hK hP n 0 he rfl (so_in hrx hq) hd ?_
        exact hn okl (so_okl_cons (okσ.1.1 ..) (so_okl_tl (so_okl_tl okt))) okσ H locs cells slots lsv _ hP hD hS hc hs hL (so_S_c (by show Value.int (Int32.ofInt (σ.1 k i (Int32.ofInt x).toNatClampNeg)) = _; rw [so_clp hrx]; rfl) hq2)
      · obtain ⟨rfl, rfl⟩ := hw
        have hq' : 0 ≤ x ∧ x < (Y.2.1 : Int) := by rw [← okσ.2.2]; exact hq
        rw [hV3]
        refine va_sld hx hb hV hV1 hV2 hS (so_in hrx hq') hd ?_
        exact hn okl (so_okl_cons (okσ.1.1 ..) (so_okl_tl (so_okl_tl okt))) okσ H locs cells slots lsv _ hP hD hS hc hs hL (so_S_c (by show Value.int _ = Value.int (Int32.ofInt (σ.1 71 0 x.toNat)); rw [okσ.2.1, so_clp hrx, Int32.ofInt_toInt]) hq2)
    · cases hp
  · rename_i x k i st0
    split at hp
    · rename_i het
      cases hp
      have hq : 0 ≤ x ∧ x < am_len σ k := hq
      have hk1 : decide (raw = .baload ∧ len = 1) = true := hk
      obtain ⟨rfl, rfl⟩ := of_decide_eq_true hk1
      have hrx : am_rg x := so_okl_hd okt
      have hk0 : k ≠ 0 := fun h => by rw [h] at het; cases het
      obtain ⟨r1, rfl, hq1⟩ := so_S_i hst
      obtain ⟨r2, rfl, hq2⟩ := so_S_r hk0 hq1
      rcases so_okar (so_okl_hd (so_okl_tl okt)) het (by decide) with hw | hw
      · obtain ⟨n, hn'⟩ := so_pos hw.1 hw.2
        have he := so_get Z σ hn'
        rw [so_ca het (by omega)] at he
        have h71 : k ≠ 71 := fun h => so_71 (h ▸ hw.1)
        rw [so_lnk h71] at hq
        refine va_zald hx hb hK hP n 1 he rfl (so_in hrx hq) hd ?_
        exact hn okl (so_okl_cons (okσ.1.1 ..) (so_okl_tl (so_okl_tl okt))) okσ H locs cells slots lsv _ hP hD hS hc hs hL (so_S_c (by show Value.int (Int32.ofInt (σ.1 k i (Int32.ofInt x).toNatClampNeg)) = _; rw [so_clp hrx]; rfl) hq2)
      · obtain ⟨rfl, rfl⟩ := hw
        cases het
    · cases hp
  · rename_i x k i st0
    split at hp
    · rename_i het
      cases hp
      have hq : 0 ≤ x ∧ x < am_len σ k := hq
      have hk1 : decide (raw = .caload ∧ len = 1) = true := hk
      obtain ⟨rfl, rfl⟩ := of_decide_eq_true hk1
      have hrx : am_rg x := so_okl_hd okt
      have hk0 : k ≠ 0 := fun h => by rw [h] at het; cases het
      obtain ⟨r1, rfl, hq1⟩ := so_S_i hst
      obtain ⟨r2, rfl, hq2⟩ := so_S_r hk0 hq1
      rcases so_okar (so_okl_hd (so_okl_tl okt)) het (by decide) with hw | hw
      · obtain ⟨n, hn'⟩ := so_pos hw.1 hw.2
        have he := so_get Z σ hn'
        rw [so_ca het (by omega)] at he
        have h71 : k ≠ 71 := fun h => so_71 (h ▸ hw.1)
        rw [so_lnk h71] at hq
        refine va_cald hx hb hK hP n 2 he rfl (so_in hrx hq) hd ?_
        exact hn okl (so_okl_cons (okσ.1.1 ..) (so_okl_tl (so_okl_tl okt))) okσ H locs cells slots lsv _ hP hD hS hc hs hL (so_S_c (by show Value.int (Int32.ofInt (σ.1 k i (Int32.ofInt x).toNatClampNeg)) = _; rw [so_clp hrx]; rfl) hq2)
      · obtain ⟨rfl, rfl⟩ := hw
        cases het
    · cases hp
  · rename_i x k i st0
    split at hp
    · rename_i het
      cases hp
      have hq : 0 ≤ x ∧ x < am_len σ k := hq
      have hk1 : decide (raw = .laload ∧ len = 1) = true := hk
      obtain ⟨rfl, rfl⟩ := of_decide_eq_true hk1
      have hrx : am_rg x := so_okl_hd okt
      have hk0 : k ≠ 0 := fun h => by rw [h] at het; cases het
      obtain ⟨r1, rfl, hq1⟩ := so_S_i hst
      obtain ⟨r2, rfl, hq2⟩ := so_S_r hk0 hq1
      rcases so_okar (so_okl_hd (so_okl_tl okt)) het (by decide) with hw | hw
      · obtain ⟨n, hn'⟩ := so_pos hw.1 hw.2
        have he := so_get Z σ hn'
        rw [so_cl4 het] at he
        have h71 : k ≠ 71 := fun h => so_71 (h ▸ hw.1)
        rw [so_lnk h71] at hq
        refine va_lald hx hb hK hP n 3 he rfl (so_in hrx hq) hd ?_
        exact hn okl (so_okl_cons trivial (so_okl_tl (so_okl_tl okt))) okσ H locs cells slots lsv _ hP hD hS hc hs hL (so_S_c (by show Value.long (σ.2.1 k (Int32.ofInt x).toNatClampNeg) = _; rw [so_clp hrx]; rfl) hq2)
      · obtain ⟨rfl, rfl⟩ := hw
        cases het
    · cases hp
  · rename_i x i st0
    cases hp
    have hq : 0 ≤ x ∧ x < 101 := hq
    have hk1 : decide (raw = .aaload ∧ len = 1) = true := hk
    obtain ⟨rfl, rfl⟩ := of_decide_eq_true hk1
    have hrx : am_rg x := so_okl_hd okt
    obtain ⟨r1, rfl, hq1⟩ := so_S_i hst
    obtain ⟨r2, rfl, hq2⟩ := so_S_r (by omega) hq1
    have hw := so_okr (so_okl_hd (so_okl_tl okt)) (by omega) (by omega)
    obtain ⟨n, hn'⟩ := so_pos hw.1 hw.2
    have he := so_get Z σ hn'
    refine va_aldq (C := "ProofWorkbench$Node") hx hb hK hP n 4 he rfl (so_in (n := 101) hrx hq) hd ?_
    exact hn okl (so_okl_cons (Or.inr (Or.inl ⟨by show 6 ∈ so_ks; decide, by have h7 : i < 7 := hw.2; show 101 * i + x.toNat < 707; omega⟩)) (so_okl_tl (so_okl_tl okt))) okσ H locs cells slots lsv _ hP hD hS hc hs hL (so_S_c (by show Value.ref (Z.1 6 (101 * i + (Int32.ofInt x).toNatClampNeg)) = _; rw [so_clp hrx]; rfl) hq2)
  · rename_i x i st0
    cases hp
    have hq : 0 ≤ x ∧ x < 4 := hq
    have hk1 : decide (raw = .aaload ∧ len = 1) = true := hk
    obtain ⟨rfl, rfl⟩ := of_decide_eq_true hk1
    have hrx : am_rg x := so_okl_hd okt
    obtain ⟨r1, rfl, hq1⟩ := so_S_i hst
    obtain ⟨r2, rfl, hq2⟩ := so_S_r (by omega) hq1
    have hw := so_okr (so_okl_hd (so_okl_tl okt)) (by omega) (by omega)
    obtain ⟨n, hn'⟩ := so_pos hw.1 hw.2
    have he := so_get Z σ hn'
    refine va_aldq (C := "ProofWorkbench$Proof") hx hb hK hP n 5 he rfl (so_in (n := 4) hrx hq) hd ?_
    exact hn okl (so_okl_cons (Or.inr (Or.inl ⟨by show 7 ∈ so_ks; decide, by show x.toNat < 7; omega⟩)) (so_okl_tl (so_okl_tl okt))) okσ H locs cells slots lsv _ hP hD hS hc hs hL (so_S_c (by show Value.ref (Z.1 7 (Int32.ofInt x).toNatClampNeg) = _; rw [so_clp hrx]; rfl) hq2)
  · rename_i v x k i st0
    split at hp
    · rename_i het0
      cases hp
      obtain ⟨het, hne71⟩ := het0
      have hq : 0 ≤ x ∧ x < am_len σ k := hq
      have hk1 : decide (raw = .iastore ∧ len = 1) = true := hk
      obtain ⟨rfl, rfl⟩ := of_decide_eq_true hk1
      have hrv : am_rg v := so_okl_hd okt
      have hrx : am_rg x := so_okl_hd (so_okl_tl okt)
      have hk0 : k ≠ 0 := fun h => by rw [h] at het; cases het
      obtain ⟨r1, rfl, hq1⟩ := so_S_i hst
      obtain ⟨r2, rfl, hq2⟩ := so_S_i hq1
      obtain ⟨r3, rfl, hq3⟩ := so_S_r hk0 hq2
      rcases so_okar (so_okl_hd (so_okl_tl (so_okl_tl okt))) het (by decide) with hw | hw
      · obtain ⟨n, hn'⟩ := so_pos hw.1 hw.2
        have he := so_get Z σ hn'
        rw [so_ca het (by omega)] at he
        have h71 : k ≠ 71 := fun h => so_71 (h ▸ hw.1)
        have h72 : k ≠ 72 := fun h => so_72 (h ▸ hw.1)
        rw [so_lnk h71] at hq
        have hset := so_put Z (τ := am_set σ k i x.toNat v) hD hn' (so_upd (v := v) het (by omega) hrx (rfl)) (fun k' i' _ h => so_oth k' i' h)
        refine va_iast hx hb hK hP hD hS n 0 he rfl (so_in hrx hq) hd ?_
        rw [hset]
        intro H1 locs1 hP1 hD1 hS1
        exact hn okl (so_okl_tl (so_okl_tl (so_okl_tl okt))) (so_okσ_set okσ hrv h71 h72) H1 locs1 cells slots lsv _ hP1 hD1 hS1 hc hs hL hq3
      · obtain ⟨rfl, rfl⟩ := hw
        exact absurd rfl hne71
    · cases hp
  · rename_i v x k i st0
    split at hp
    · rename_i het
      cases hp
      have hq : (0 ≤ x ∧ x < am_len σ k) ∧ (v = 0 ∨ v = 1) := hq
      have hk1 : decide (raw = .bastore ∧ len = 1) = true := hk
      obtain ⟨rfl, rfl⟩ := of_decide_eq_true hk1
      have hrv : am_rg v := so_okl_hd okt
      have hrx : am_rg x := so_okl_hd (so_okl_tl okt)
      have hk0 : k ≠ 0 := fun h => by rw [h] at het; cases het
      obtain ⟨r1, rfl, hq1⟩ := so_S_i hst
      obtain ⟨r2, rfl, hq2⟩ := so_S_i hq1
      obtain ⟨r3, rfl, hq3⟩ := so_S_r hk0 hq2
      rcases so_okar (so_okl_hd (so_okl_tl (so_okl_tl okt))) het (by decide) with hw | hw
      · obtain ⟨n, hn'⟩ := so_pos hw.1 hw.2
        have he := so_get Z σ hn'
        rw [so_ca het (by omega)] at he
        have h71 : k ≠ 71 := fun h => so_71 (h ▸ hw.1)
        have h72 : k ≠ 72 := fun h => so_72 (h ▸ hw.1)
        rw [so_lnk h71] at hq
        have hset := so_put Z (τ := am_set σ k i x.toNat v) hD hn' (so_upd (v := v) het (by omega) hrx (so_narz hq.2)) (fun k' i' _ h => so_oth k' i' h)
        refine va_zast hx hb hK hP hD hS n 1 he rfl (so_in hrx hq.1) hd ?_
        rw [hset]
        intro H1 locs1 hP1 hD1 hS1
        exact hn okl (so_okl_tl (so_okl_tl (so_okl_tl okt))) (so_okσ_set okσ hrv h71 h72) H1 locs1 cells slots lsv _ hP1 hD1 hS1 hc hs hL hq3
      · obtain ⟨rfl, rfl⟩ := hw
        cases het
    · cases hp
  · rename_i v x k i st0
    split at hp
    · rename_i het
      cases hp
      have hq : (0 ≤ x ∧ x < am_len σ k) ∧ (0 ≤ v ∧ v < 65536) := hq
      have hk1 : decide (raw = .castore ∧ len = 1) = true := hk
      obtain ⟨rfl, rfl⟩ := of_decide_eq_true hk1
      have hrv : am_rg v := so_okl_hd okt
      have hrx : am_rg x := so_okl_hd (so_okl_tl okt)
      have hk0 : k ≠ 0 := fun h => by rw [h] at het; cases het
      obtain ⟨r1, rfl, hq1⟩ := so_S_i hst
      obtain ⟨r2, rfl, hq2⟩ := so_S_i hq1
      obtain ⟨r3, rfl, hq3⟩ := so_S_r hk0 hq2
      rcases so_okar (so_okl_hd (so_okl_tl (so_okl_tl okt))) het (by decide) with hw | hw
      · obtain ⟨n, hn'⟩ := so_pos hw.1 hw.2
        have he := so_get Z σ hn'
        rw [so_ca het (by omega)] at he
        have h71 : k ≠ 71 := fun h => so_71 (h ▸ hw.1)
        have h72 : k ≠ 72 := fun h => so_72 (h ▸ hw.1)
        rw [so_lnk h71] at hq
        have hset := so_put Z (τ := am_set σ k i x.toNat v) hD hn' (so_upd (v := v) het (by omega) hrx (so_narc hq.2)) (fun k' i' _ h => so_oth k' i' h)
        refine va_cast hx hb hK hP hD hS n 2 he rfl (so_in hrx hq.1) hd ?_
        rw [hset]
        intro H1 locs1 hP1 hD1 hS1
        exact hn okl (so_okl_tl (so_okl_tl (so_okl_tl okt))) (so_okσ_set okσ hrv h71 h72) H1 locs1 cells slots lsv _ hP1 hD1 hS1 hc hs hL hq3
      · obtain ⟨rfl, rfl⟩ := hw
        cases het
    · cases hp
  · rename_i v x k i st0
    split at hp
    · rename_i het
      cases hp
      have hq : 0 ≤ x ∧ x < am_len σ k := hq
      have hk1 : decide (raw = .lastore ∧ len = 1) = true := hk
      obtain ⟨rfl, rfl⟩ := of_decide_eq_true hk1
      have hrx : am_rg x := so_okl_hd (so_okl_tl okt)
      have hk0 : k ≠ 0 := fun h => by rw [h] at het; cases het
      obtain ⟨r1, rfl, hq1⟩ := so_S_l hst
      obtain ⟨r2, rfl, hq2⟩ := so_S_i hq1
      obtain ⟨r3, rfl, hq3⟩ := so_S_r hk0 hq2
      rcases so_okar (so_okl_hd (so_okl_tl (so_okl_tl okt))) het (by decide) with hw | hw
      · obtain ⟨n, hn'⟩ := so_pos hw.1 hw.2
        have he := so_get Z σ hn'
        rw [so_cl4 het] at he
        have h71 : k ≠ 71 := fun h => so_71 (h ▸ hw.1)
        rw [so_lnk h71] at hq
        have hset := so_put Z (τ := am_setL σ k x.toNat v) hD hn' (so_updl (v := v) het hrx) (fun k' i' hi' h => so_cong Z (fun _ _ => rfl) (fun h4 => by
          have hkk : k' ≠ k := fun q => by
            subst q
            have e1 := so_n4k k' hw.1 het
            rw [e1] at hi'
            have e2 := hw.2
            rw [e1] at e2
            exact h ⟨rfl, by omega⟩
          funext j
          show (if k' = k then _ else σ.2.1 k' j) = _
          rw [if_neg hkk]) (fun _ => rfl))
        refine va_last hx hb hK hP hD hS n 3 he rfl (so_in hrx hq) hd ?_
        rw [hset]
        intro H1 locs1 hP1 hD1 hS1
        exact hn okl (so_okl_tl (so_okl_tl (so_okl_tl okt))) okσ H1 locs1 cells slots lsv _ hP1 hD1 hS1 hc hs hL hq3
      · obtain ⟨rfl, rfl⟩ := hw
        cases het
    · cases hp
  · cases hp
end So3
