/-! Instructions that ask for nothing, one by one (written by our program) -/
theorem so_S_a {Z : so_Z} {q : Nat × Nat} {st : List am_V} {ws : List Value} (h : so_S Z (.inr (.inr q) :: st) ws) : ∃ a r, ws = .ref a :: r ∧ (Value.ref a = so_cv Z (.inr (.inr q)) ∨ ∃ b, (.inr (.inr q) : am_V) = .inr (.inr (0, b))) ∧ so_S Z st r := by
  obtain ⟨w, r, rfl, h1, h2⟩ := h
  rcases h1 with rfl | ⟨b, a, h1, rfl⟩
  · exact ⟨_, r, rfl, Or.inl rfl, h2⟩
  · exact ⟨_, r, rfl, Or.inr ⟨b, h1⟩, h2⟩
set_option maxRecDepth 100000 in
theorem so_f12 : ∀ q ∈ so_ls, so_wd q.2.2.2 (.constantLong (sR q.1) q.2.1 (Int64.ofInt q.2.2.1)) = true := by decide +kernel
theorem so_rgb {n : Int} (h : am_rgb n = true) : am_rg n := (of_decide_eq_true h : -2147483648 ≤ n ∧ n ≤ 2147483647)
theorem so_f13 : ∀ q ∈ so_ss, q.2.2.1 < 2 := by decide +kernel
def so_σ0 : am_S := (fun _ _ _ => 0, fun _ _ => 0, fun _ => 0, 0)
def so_rokb (k j : Nat) : Bool := decide (k = 0 ∨ k = 5 ∨ k = 6 ∨ k = 7 ∨ k = 10) || (decide (¬ (so_fl k)[j]? = some false) || (decide ((am_ref so_σ0 k j 0).1 ∈ so_ks) && decide ((am_ref so_σ0 k j 0).2 < so_num (am_ref so_σ0 k j 0).1)))
theorem so_rok0 : ∀ k, k < 12 → ∀ j, j < 45 → so_rokb k j = true := by decide +kernel
theorem so_rok1 : ∀ k, k < 12 → (so_fl k).length ≤ 45 := by decide +kernel
theorem so_rok {Y : so_Y} {σ : am_S} (hσ : so_okσ Y σ) {k j i : Nat} (h0 : 0 < k) (h1 : k < 12) (hf : (so_fl k)[j]? = some false) (hi : i < so_num k) : (am_ref σ k j i).1 ∈ so_ks ∧ (am_ref σ k j i).2 < so_num (am_ref σ k j i).1 := by
  by_cases h5 : k = 5
  · subst h5
    exact ⟨by show 12 ∈ so_ks; decide, hi⟩
  by_cases h6 : k = 6
  · subst h6
    have hi' : i < 707 := hi
    exact ⟨by show 5 ∈ so_ks; decide, by show 3 + i < 710; omega⟩
  by_cases h7 : k = 7
  · subst h7
    exact ⟨by show 13 ∈ so_ks; decide, hi⟩
  by_cases h10 : k = 10
  · subst h10
    have hj : j < 4 := (List.getElem?_eq_some_iff.mp hf).1
    have hD2 := hσ.1.2.1
    have hD3 := hσ.1.2.2
    rcases (by omega : j = 0 ∨ j = 1 ∨ j = 2 ∨ j = 3) with rfl | rfl | rfl | rfl
    · exact ⟨by show 2 ∈ so_ks; decide, by show 0 < 1; decide⟩
    · exact ⟨by show 5 ∈ so_ks; decide, by show 2 < 710; decide⟩
    · exact ⟨by show 7 ∈ so_ks; decide, hD2⟩
    · exact ⟨by show 7 ∈ so_ks; decide, hD3⟩
  have hj : j < 45 := Nat.lt_of_lt_of_le (List.getElem?_eq_some_iff.mp hf).1 (so_rok1 k h1)
  have he : am_ref σ k j i = am_ref so_σ0 k j 0 := by
    unfold am_ref
    simp only [if_neg h5, if_neg h6, if_neg h7, if_neg h10]
  rw [he]
  have h := so_rok0 k h1 j hj
  unfold so_rokb at h
  rw [Bool.or_eq_true, Bool.or_eq_true, Bool.and_eq_true] at h
  rcases h with h | h | h
  · have := of_decide_eq_true h
    omega
  · exact absurd hf (of_decide_eq_true h)
  · exact ⟨of_decide_eq_true h.1, of_decide_eq_true h.2⟩
theorem so_oth {Z : so_Z} {σ : am_S} {k i j : Nat} {v : Int} (k' i' : Nat) (h : ¬ (k' = k ∧ i' = i)) : so_cell Z (am_set σ k i j v) k' i' = so_cell Z σ k' i' := by
  refine so_cong Z (fun _ j' => ?_) (fun _ => rfl) (fun _ => rfl)
  show am_up σ.1 k i j v k' i' j' = _
  unfold am_up
  by_cases hk : k' = k
  · rw [if_pos hk, if_neg (fun q => h ⟨hk, q⟩)]
  · rw [if_neg hk]
theorem so_fs_set {Z : so_Z} {σ : am_S} {k i j : Nat} {v : Int} (hj : (so_fl k)[j]? = some true) : so_fs Z (am_set σ k i j v) k i = (so_fs Z σ k i).set j (.int (Int32.ofInt v)) := by
  apply List.ext_getElem?
  intro n
  rw [List.getElem?_set]
  have hlen : ∀ τ, (so_fs Z τ k i).length = (so_fl k).length := fun τ => by unfold so_fs; rw [List.length_map, List.length_range]
  have hjl := (List.getElem?_eq_some_iff.mp hj).1
  by_cases hn : j = n
  · subst hn
    rw [if_pos rfl, if_pos (by rw [hlen]; exact hjl), so_fs_i hj]
    show some (Value.int (Int32.ofInt (am_up σ.1 k i j v k i j))) = _
    unfold am_up
    rw [if_pos rfl, if_pos rfl, if_pos rfl]
  · rw [if_neg hn]
    by_cases hl : n < (so_fl k).length
    · unfold so_fs
      rw [List.getElem?_map, List.getElem?_map, List.getElem?_range hl]
      show some _ = some _
      have e1 : (am_set σ k i j v).1 k i n = σ.1 k i n := by
        show am_up σ.1 k i j v k i n = _
        unfold am_up
        rw [if_pos rfl, if_pos rfl, if_neg (fun q => hn q.symm)]
      simp only [e1]
      rfl
    · rw [List.getElem?_eq_none (by rw [hlen]; omega), List.getElem?_eq_none (by rw [hlen]; omega)]
theorem so_okσ_set {Y : so_Y} {σ : am_S} {k i j : Nat} {v : Int} (h : so_okσ Y σ) (hv : am_rg v) (hk1 : k ≠ 71) (hk2 : k ≠ 72) : so_okσ Y (am_set σ k i j v) := by
  refine ⟨⟨fun a b c => ?_, h.1.2⟩, fun q => ?_, ?_⟩
  · show am_rg (am_up σ.1 k i j v a b c)
    unfold am_up
    split
    · split
      · split
        · exact hv
        · exact h.1.1 ..
      · exact h.1.1 ..
    · exact h.1.1 ..
  · show am_up σ.1 k i j v 71 0 q = _
    unfold am_up
    rw [if_neg (fun z => hk1 z.symm)]
    exact h.2.1 q
  · show am_up σ.1 k i j v 72 0 0 = _
    unfold am_up
    rw [if_neg (fun z => hk2 z.symm)]
    exact h.2.2
theorem so_okr {k i : Nat} (h : so_okv (.inr (.inr (k, i)))) (h0 : 0 < k) (h1 : k < 70) : k ∈ so_ks ∧ i < so_num k := by
  rcases h with h | h | h | h
  · exact absurd h (by show k ≠ 0; omega)
  · exact h
  · exact absurd h.1 (by show k ≠ 71; omega)
  · exact absurd h.1 (by show k ≠ 90; omega)
section So2
variable {Z : so_Z} {A : Nat → Prop} {Y : so_Y} {p : Program} {l : Launch} {e : Env} {R : Room} {s : State} {m : MethodId} {args : Array Value} {below : List Frame} {meth : Method} {c : Code} {b0 n0 mi pc : Nat} {Qt : State → Prop} {σ : am_S}
set_option maxHeartbeats 4000000 in
theorem so_p1 {i raw : am_I} {len : Nat} {ls st : List am_V} {q : List am_V × List am_V × am_S} (hX : so_X Z A Y p s m args meth c mi) (hd : decode (so_by mi) pc = .ok (raw, len)) (hk : so_ok mi pc raw len i = true) (hp : am_p i ls st σ = some q)
    (hn : so_J Z A Y p l e R s m args below meth c ((so_mlL[mi]?).getD 0) b0 n0 Qt (pc + len) q.1 q.2.1 q.2.2) : so_J Z A Y p l e R s m args below meth c ((so_mlL[mi]?).getD 0) b0 n0 Qt pc ls st σ := by
  intro okl okt okσ H locs cells slots lsv stv hP hD hS hc hs hL hst
  have hX' := hX
  obtain ⟨hx, hb, hml, hr, hlk, hown, hts, hK, hN, ⟨hV, hV1, hV2, hV3, hV4⟩, hR, hHx⟩ := hX'
  unfold am_p at hp
  split at hp
  · rename_i n
    cases hp
    have hk1 : (decide (raw = .iconst n ∧ len = 1 ∧ am_rgb n = true) || (decide (raw = .bipush n ∧ len = 2 ∧ -128 ≤ n ∧ n < 128) || decide (raw = .sipush n ∧ len = 3 ∧ -32768 ≤ n ∧ n < 32768))) = true := hk
    rw [Bool.or_eq_true, Bool.or_eq_true] at hk1
    rcases hk1 with h | h | h
    · obtain ⟨rfl, rfl, h3⟩ := of_decide_eq_true h
      refine lv_iconst hx hb hd rfl ?_
      exact hn okl (so_okl_cons (so_rgb h3) okt) okσ H locs cells slots lsv _ hP hD hS hc hs hL (so_S_c rfl hst)
    · obtain ⟨rfl, rfl, h3, h4⟩ := of_decide_eq_true h
      refine lv_bipush hx hb hd (so_i8 h3 h4) ?_
      exact hn okl (so_okl_cons (show am_rg n from ⟨by omega, by omega⟩) okt) okσ H locs cells slots lsv _ hP hD hS hc hs hL (so_S_c rfl hst)
    · obtain ⟨rfl, rfl, h3, h4⟩ := of_decide_eq_true h
      refine lv_sipush hx hb hd (so_i16 h3 h4) ?_
      exact hn okl (so_okl_cons (show am_rg n from ⟨by omega, by omega⟩) okt) okσ H locs cells slots lsv _ hP hD hS hc hs hL (so_S_c rfl hst)
  · rename_i n
    cases hp
    have hk1 : (so_n2.any (fun f => decide (raw = .lconst f ∧ len = 1 ∧ n = (f.val : Int))) || so_ls.any (fun q => decide (raw = .ldc2_w q.2.1 ∧ len = 3 ∧ q.1 = so_ow mi ∧ q.2.2.1 = n))) = true := hk
    rw [Bool.or_eq_true, List.any_eq_true, List.any_eq_true] at hk1
    rcases hk1 with ⟨f, -, h⟩ | ⟨q, hq, h⟩
    · obtain ⟨rfl, rfl, rfl⟩ := of_decide_eq_true h
      refine lv_lconst hx hb hd (v := Int64.ofInt (f.val : Int)) (by rw [Int64.ofInt_eq_ofNat]) ?_
      exact hn okl (so_okl_cons trivial okt) okσ H locs cells slots lsv _ hP hD hS hc hs hL (so_S_c rfl hst)
    · obtain ⟨rfl, rfl, h3, rfl⟩ := of_decide_eq_true h
      refine lv_ldc2 hx hb hown (v := Int64.ofInt q.2.2.1) (by rw [← h3]; exact hts _ (so_wd_in (so_f12 q hq))) hd ?_
      exact hn okl (so_okl_cons trivial okt) okσ H locs cells slots lsv _ hP hD hS hc hs hL (so_S_c rfl hst)
  · rename_i z
    cases hp
    have hk1 : so_ss.any (fun q => decide (raw = .ldc q.2.1 ∧ len = 2 ∧ q.1 = so_ow mi ∧ q.2.2.1 = z)) = true := hk
    rw [List.any_eq_true] at hk1
    obtain ⟨q, hq, h⟩ := hk1
    obtain ⟨rfl, rfl, h3, rfl⟩ := of_decide_eq_true h
    refine va_ldcS hx hb hown (by rw [← h3]; exact hR q hq) hd ?_
    exact hn okl (so_okl_cons (Or.inr (Or.inr (Or.inr ⟨rfl, so_f13 q hq⟩))) okt) okσ H locs cells slots lsv _ hP hD hS hc hs hL (so_S_c rfl hst)
  · rename_i k
    split at hp
    · rename_i x he
      cases hp
      have hk1 : (decide (raw = .iload k ∧ len = 2) || so_n4.any (fun f => decide (raw = .iload_n f ∧ len = 1 ∧ f.val = k))) = true := hk
      have hv := so_L_at hL he (fun b h => by cases h)
      rw [Bool.or_eq_true, List.any_eq_true] at hk1
      rcases hk1 with h | ⟨f, -, h⟩
      · obtain ⟨rfl, rfl⟩ := of_decide_eq_true h
        refine lv_iload hx hb hd hv ?_
        exact hn okl (so_okl_cons (so_okl_at okl he) okt) okσ H locs cells slots lsv _ hP hD hS hc hs hL (so_S_c rfl hst)
      · obtain ⟨rfl, rfl, rfl⟩ := of_decide_eq_true h
        refine lv_iload_n hx hb hd rfl hv ?_
        exact hn okl (so_okl_cons (so_okl_at okl he) okt) okσ H locs cells slots lsv _ hP hD hS hc hs hL (so_S_c rfl hst)
    · cases hp
  · rename_i k
    split at hp
    · rename_i x he
      cases hp
      have hk1 : (decide (raw = .lload k ∧ len = 2) || so_n4.any (fun f => decide (raw = .lload_n f ∧ len = 1 ∧ f.val = k))) = true := hk
      have hv := so_L_at hL he (fun b h => by cases h)
      rw [Bool.or_eq_true, List.any_eq_true] at hk1
      rcases hk1 with h | ⟨f, -, h⟩
      · obtain ⟨rfl, rfl⟩ := of_decide_eq_true h
        refine lv_lload hx hb hd hv ?_
        exact hn okl (so_okl_cons (so_okl_at okl he) okt) okσ H locs cells slots lsv _ hP hD hS hc hs hL (so_S_c rfl hst)
      · obtain ⟨rfl, rfl, rfl⟩ := of_decide_eq_true h
        refine lv_lload_n hx hb hd rfl hv ?_
        exact hn okl (so_okl_cons (so_okl_at okl he) okt) okσ H locs cells slots lsv _ hP hD hS hc hs hL (so_S_c rfl hst)
    · cases hp
  · rename_i k
    split at hp
    · rename_i a b he
      cases hp
      have hk1 : (decide (raw = .aload k ∧ len = 2) || so_n4.any (fun f => decide (raw = .aload_n f ∧ len = 1 ∧ f.val = k))) = true := hk
      have hv := so_L_at hL he (fun b h => by cases h)
      rw [Bool.or_eq_true, List.any_eq_true] at hk1
      rcases hk1 with h | ⟨f, -, h⟩
      · obtain ⟨rfl, rfl⟩ := of_decide_eq_true h
        refine lv_aload hx hb hd hv ?_
        exact hn okl (so_okl_cons (so_okl_at okl he) okt) okσ H locs cells slots lsv _ hP hD hS hc hs hL (so_S_c rfl hst)
      · obtain ⟨rfl, rfl, rfl⟩ := of_decide_eq_true h
        refine lv_aload_n hx hb hd rfl hv ?_
        exact hn okl (so_okl_cons (so_okl_at okl he) okt) okσ H locs cells slots lsv _ hP hD hS hc hs hL (so_S_c rfl hst)
    · cases hp
  · rename_i k x st0
    have okv := so_okl_hd okt
    obtain ⟨r1, rfl, hq1⟩ := so_S_i hst
    obtain ⟨lv, hlv⟩ := hL
    split at hp
    · cases hp
      have hk1 : (decide (raw = .istore 0 ∧ len = 2 ∧ 0 < (so_mlL[mi]?).getD 0) || so_n4.any (fun f => decide (raw = .istore_n f ∧ len = 1 ∧ f.val = 0 ∧ 0 < (so_mlL[mi]?).getD 0))) = true := hk
      rw [Bool.or_eq_true, List.any_eq_true] at hk1
      rcases hk1 with h | ⟨f, -, h⟩
      · obtain ⟨rfl, rfl, h3⟩ := of_decide_eq_true h
        refine lv_istore hx hb hd hlv.1 h3 rfl (fun ls' hls => ?_)
        exact hn (so_okl_set okv okl) (so_okl_tl okt) okσ H locs cells slots ls' _ hP hD hS hc hs (so_L_st (Or.inl rfl) hlv.2 (fun j x h => by omega) hls) hq1
      · obtain ⟨rfl, rfl, h4, h3⟩ := of_decide_eq_true h
        refine lv_istore_n hx hb hd h4 hlv.1 h3 rfl (fun ls' hls => ?_)
        exact hn (so_okl_set okv okl) (so_okl_tl okt) okσ H locs cells slots ls' _ hP hD hS hc hs (so_L_st (Or.inl rfl) hlv.2 (fun j x h => by omega) hls) hq1
    · rename_i k1
      split at hp
      · cases hp
      · rename_i hne
        cases hp
        have hk1 : (decide (raw = .istore (k1 + 1) ∧ len = 2 ∧ (k1 + 1) < (so_mlL[mi]?).getD 0) || so_n4.any (fun f => decide (raw = .istore_n f ∧ len = 1 ∧ f.val = (k1 + 1) ∧ (k1 + 1) < (so_mlL[mi]?).getD 0))) = true := hk
        rw [Bool.or_eq_true, List.any_eq_true] at hk1
        rcases hk1 with h | ⟨f, -, h⟩
        · obtain ⟨rfl, rfl, h3⟩ := of_decide_eq_true h
          refine lv_istore hx hb hd hlv.1 h3 rfl (fun ls' hls => ?_)
          exact hn (so_okl_set okv okl) (so_okl_tl okt) okσ H locs cells slots ls' _ hP hD hS hc hs (so_L_st (Or.inl rfl) hlv.2 (fun j x h q => hne x (by have e : j = k1 := (by omega); rw [e] at q; exact q)) hls) hq1
        · obtain ⟨rfl, rfl, h4, h3⟩ := of_decide_eq_true h
          refine lv_istore_n hx hb hd h4 hlv.1 h3 rfl (fun ls' hls => ?_)
          exact hn (so_okl_set okv okl) (so_okl_tl okt) okσ H locs cells slots ls' _ hP hD hS hc hs (so_L_st (Or.inl rfl) hlv.2 (fun j x h q => hne x (by have e : j = k1 := (by omega); rw [e] at q; exact q)) hls) hq1
  · rename_i k x st0
    have okv := so_okl_hd okt
    obtain ⟨a1, r1, rfl, hw, hq1⟩ := so_S_a hst
    obtain ⟨lv, hlv⟩ := hL
    split at hp
    · cases hp
      have hk1 : (decide (raw = .astore 0 ∧ len = 2 ∧ 0 < (so_mlL[mi]?).getD 0) || so_n4.any (fun f => decide (raw = .astore_n f ∧ len = 1 ∧ f.val = 0 ∧ 0 < (so_mlL[mi]?).getD 0))) = true := hk
      rw [Bool.or_eq_true, List.any_eq_true] at hk1
      rcases hk1 with h | ⟨f, -, h⟩
      · obtain ⟨rfl, rfl, h3⟩ := of_decide_eq_true h
        refine lv_astore hx hb hd hlv.1 h3 rfl (fun ls' hls => ?_)
        exact hn (so_okl_set okv okl) (so_okl_tl okt) okσ H locs cells slots ls' _ hP hD hS hc hs (so_L_st hw hlv.2 (fun j x h => by omega) hls) hq1
      · obtain ⟨rfl, rfl, h4, h3⟩ := of_decide_eq_true h
        refine lv_astore_n hx hb hd h4 hlv.1 h3 rfl (fun ls' hls => ?_)
        exact hn (so_okl_set okv okl) (so_okl_tl okt) okσ H locs cells slots ls' _ hP hD hS hc hs (so_L_st hw hlv.2 (fun j x h => by omega) hls) hq1
    · rename_i k1
      split at hp
      · cases hp
      · rename_i hne
        cases hp
        have hk1 : (decide (raw = .astore (k1 + 1) ∧ len = 2 ∧ (k1 + 1) < (so_mlL[mi]?).getD 0) || so_n4.any (fun f => decide (raw = .astore_n f ∧ len = 1 ∧ f.val = (k1 + 1) ∧ (k1 + 1) < (so_mlL[mi]?).getD 0))) = true := hk
        rw [Bool.or_eq_true, List.any_eq_true] at hk1
        rcases hk1 with h | ⟨f, -, h⟩
        · obtain ⟨rfl, rfl, h3⟩ := of_decide_eq_true h
          refine lv_astore hx hb hd hlv.1 h3 rfl (fun ls' hls => ?_)
          exact hn (so_okl_set okv okl) (so_okl_tl okt) okσ H locs cells slots ls' _ hP hD hS hc hs (so_L_st hw hlv.2 (fun j x h q => hne x (by have e : j = k1 := (by omega); rw [e] at q; exact q)) hls) hq1
        · obtain ⟨rfl, rfl, h4, h3⟩ := of_decide_eq_true h
          refine lv_astore_n hx hb hd h4 hlv.1 h3 rfl (fun ls' hls => ?_)
          exact hn (so_okl_set okv okl) (so_okl_tl okt) okσ H locs cells slots ls' _ hP hD hS hc hs (so_L_st hw hlv.2 (fun j x h q => hne x (by have e : j = k1 := (by omega); rw [e] at q; exact q)) hls) hq1
  · rename_i k x st0
    have okv := so_okl_hd okt
    obtain ⟨r1, rfl, hq1⟩ := so_S_l hst
    obtain ⟨lv, hlv⟩ := hL
    split at hp
    · cases hp
      have hk1 : (decide (raw = .lstore 0 ∧ len = 2 ∧ 0 + 1 < (so_mlL[mi]?).getD 0) || so_n4.any (fun f => decide (raw = .lstore_n f ∧ len = 1 ∧ f.val = 0 ∧ 0 + 1 < (so_mlL[mi]?).getD 0))) = true := hk
      rw [Bool.or_eq_true, List.any_eq_true] at hk1
      rcases hk1 with h | ⟨f, -, h⟩
      · obtain ⟨rfl, rfl, h3⟩ := of_decide_eq_true h
        refine lv_lstore hx hb hd hlv.1 h3 rfl (fun ls' hls => ?_)
        exact hn (so_okl_set (Or.inl rfl) (so_okl_set okv okl)) (so_okl_tl okt) okσ H locs cells slots ls' _ hP hD hS hc hs (so_L_stl hlv.2 (fun j x h => by omega) hls) hq1
      · obtain ⟨rfl, rfl, h4, h3⟩ := of_decide_eq_true h
        refine lv_lstore_n hx hb hd h4 hlv.1 h3 rfl (fun ls' hls => ?_)
        exact hn (so_okl_set (Or.inl rfl) (so_okl_set okv okl)) (so_okl_tl okt) okσ H locs cells slots ls' _ hP hD hS hc hs (so_L_stl hlv.2 (fun j x h => by omega) hls) hq1
    · rename_i k1
      split at hp
      · cases hp
      · rename_i hne
        cases hp
        have hk1 : (decide (raw = .lstore (k1 + 1) ∧ len = 2 ∧ (k1 + 1) + 1 < (so_mlL[mi]?).getD 0) || so_n4.any (fun f => decide (raw = .lstore_n f ∧ len = 1 ∧ f.val = (k1 + 1) ∧ (k1 + 1) + 1 < (so_mlL[mi]?).getD 0))) = true := hk
        rw [Bool.or_eq_true, List.any_eq_true] at hk1
        rcases hk1 with h | ⟨f, -, h⟩
        · obtain ⟨rfl, rfl, h3⟩ := of_decide_eq_true h
          refine lv_lstore hx hb hd hlv.1 h3 rfl (fun ls' hls => ?_)
          exact hn (so_okl_set (Or.inl rfl) (so_okl_set okv okl)) (so_okl_tl okt) okσ H locs cells slots ls' _ hP hD hS hc hs (so_L_stl hlv.2 (fun j x h q => hne x (by have e : j = k1 := (by omega); rw [e] at q; exact q)) hls) hq1
        · obtain ⟨rfl, rfl, h4, h3⟩ := of_decide_eq_true h
          refine lv_lstore_n hx hb hd h4 hlv.1 h3 rfl (fun ls' hls => ?_)
          exact hn (so_okl_set (Or.inl rfl) (so_okl_set okv okl)) (so_okl_tl okt) okσ H locs cells slots ls' _ hP hD hS hc hs (so_L_stl hlv.2 (fun j x h q => hne x (by have e : j = k1 := (by omega); rw [e] at q; exact q)) hls) hq1
  · rename_i y x st0
    cases hp
    have hk1 : decide (raw = .iand ∧ len = 1) = true := hk
    obtain ⟨rfl, rfl⟩ := of_decide_eq_true hk1
    obtain ⟨r1, rfl, hq1⟩ := so_S_i hst
    obtain ⟨r2, rfl, hq2⟩ := so_S_i hq1
    refine lv_iand hx hb hd ?_
    exact hn okl (so_okl_cons (so_rg _) (so_okl_tl (so_okl_tl okt))) okσ H locs cells slots lsv _ hP hD hS hc hs hL (so_S_c (congrArg Value.int (so_and x y).symm) hq2)
  · rename_i y x st0
    cases hp
    have hk1 : decide (raw = .ior ∧ len = 1) = true := hk
    obtain ⟨rfl, rfl⟩ := of_decide_eq_true hk1
    obtain ⟨r1, rfl, hq1⟩ := so_S_i hst
    obtain ⟨r2, rfl, hq2⟩ := so_S_i hq1
    refine lv_ior hx hb hd ?_
    exact hn okl (so_okl_cons (so_rg _) (so_okl_tl (so_okl_tl okt))) okσ H locs cells slots lsv _ hP hD hS hc hs hL (so_S_c (congrArg Value.int (so_or x y).symm) hq2)
  · rename_i y x st0
    cases hp
    have hk1 : decide (raw = .ixor ∧ len = 1) = true := hk
    obtain ⟨rfl, rfl⟩ := of_decide_eq_true hk1
    obtain ⟨r1, rfl, hq1⟩ := so_S_i hst
    obtain ⟨r2, rfl, hq2⟩ := so_S_i hq1
    refine lv_ixor hx hb hd ?_
    exact hn okl (so_okl_cons (so_rg _) (so_okl_tl (so_okl_tl okt))) okσ H locs cells slots lsv _ hP hD hS hc hs hL (so_S_c (congrArg Value.int (so_xor x y).symm) hq2)
  · rename_i y x st0
    cases hp
    have hk1 : decide (raw = .ishl ∧ len = 1) = true := hk
    obtain ⟨rfl, rfl⟩ := of_decide_eq_true hk1
    obtain ⟨r1, rfl, hq1⟩ := so_S_i hst
    obtain ⟨r2, rfl, hq2⟩ := so_S_i hq1
    refine lv_ishl hx hb hd ?_
    exact hn okl (so_okl_cons (so_rg _) (so_okl_tl (so_okl_tl okt))) okσ H locs cells slots lsv _ hP hD hS hc hs hL (so_S_c (congrArg Value.int (so_shl x y).symm) hq2)
  · rename_i y x st0
    cases hp
    have hk1 : decide (raw = .ishr ∧ len = 1) = true := hk
    obtain ⟨rfl, rfl⟩ := of_decide_eq_true hk1
    obtain ⟨r1, rfl, hq1⟩ := so_S_i hst
    obtain ⟨r2, rfl, hq2⟩ := so_S_i hq1
    refine lv_ishr hx hb hd ?_
    exact hn okl (so_okl_cons (so_rg _) (so_okl_tl (so_okl_tl okt))) okσ H locs cells slots lsv _ hP hD hS hc hs hL (so_S_c (congrArg Value.int (so_shr x y).symm) hq2)
  · rename_i x st0
    cases hp
    have hk1 : decide (raw = .i2l ∧ len = 1) = true := hk
    obtain ⟨rfl, rfl⟩ := of_decide_eq_true hk1
    obtain ⟨r1, rfl, hq1⟩ := so_S_i hst
    refine lv_i2l hx hb hd rfl ?_
    exact hn okl (so_okl_cons trivial (so_okl_tl okt)) okσ H locs cells slots lsv _ hP hD hS hc hs hL (so_S_c rfl hq1)
  · rename_i x st0
    cases hp
    have hk1 : decide (raw = .l2i ∧ len = 1) = true := hk
    obtain ⟨rfl, rfl⟩ := of_decide_eq_true hk1
    obtain ⟨r1, rfl, hq1⟩ := so_S_l hst
    refine lv_l2i hx hb hd rfl ?_
    exact hn okl (so_okl_cons (so_rg _) (so_okl_tl okt)) okσ H locs cells slots lsv _ hP hD hS hc hs hL (so_S_c (congrArg Value.int (so_l2i x).symm) hq1)
  · rename_i x st0
    cases hp
    have hk1 : decide (raw = .i2c ∧ len = 1) = true := hk
    obtain ⟨rfl, rfl⟩ := of_decide_eq_true hk1
    obtain ⟨r1, rfl, hq1⟩ := so_S_i hst
    refine lv_i2c hx hb hd (so_i2c (so_okl_hd okt)) ?_
    exact hn okl (so_okl_cons (show am_rg (x % 65536) from ⟨by omega, by omega⟩) (so_okl_tl okt)) okσ H locs cells slots lsv _ hP hD hS hc hs hL (so_S_c rfl hq1)
  · rename_i y x st0
    cases hp
    have hk1 : decide (raw = .ladd ∧ len = 1) = true := hk
    obtain ⟨rfl, rfl⟩ := of_decide_eq_true hk1
    obtain ⟨r1, rfl, hq1⟩ := so_S_l hst
    obtain ⟨r2, rfl, hq2⟩ := so_S_l hq1
    refine lv_ladd hx hb hd ?_
    exact hn okl (so_okl_cons trivial (so_okl_tl (so_okl_tl okt))) okσ H locs cells slots lsv _ hP hD hS hc hs hL (so_S_c rfl hq2)
  · rename_i y x st0
    cases hp
    have hk1 : decide (raw = .lmul ∧ len = 1) = true := hk
    obtain ⟨rfl, rfl⟩ := of_decide_eq_true hk1
    obtain ⟨r1, rfl, hq1⟩ := so_S_l hst
    obtain ⟨r2, rfl, hq2⟩ := so_S_l hq1
    refine lv_lmul hx hb hd ?_
    exact hn okl (so_okl_cons trivial (so_okl_tl (so_okl_tl okt))) okσ H locs cells slots lsv _ hP hD hS hc hs hL (so_S_c rfl hq2)
  · rename_i y x st0
    cases hp
    have hk1 : decide (raw = .land ∧ len = 1) = true := hk
    obtain ⟨rfl, rfl⟩ := of_decide_eq_true hk1
    obtain ⟨r1, rfl, hq1⟩ := so_S_l hst
    obtain ⟨r2, rfl, hq2⟩ := so_S_l hq1
    refine lv_land hx hb hd ?_
    exact hn okl (so_okl_cons trivial (so_okl_tl (so_okl_tl okt))) okσ H locs cells slots lsv _ hP hD hS hc hs hL (so_S_c rfl hq2)
  · rename_i y x st0
    cases hp
    have hk1 : decide (raw = .lor ∧ len = 1) = true := hk
    obtain ⟨rfl, rfl⟩ := of_decide_eq_true hk1
    obtain ⟨r1, rfl, hq1⟩ := so_S_l hst
    obtain ⟨r2, rfl, hq2⟩ := so_S_l hq1
    refine lv_lor hx hb hd ?_
    exact hn okl (so_okl_cons trivial (so_okl_tl (so_okl_tl okt))) okσ H locs cells slots lsv _ hP hD hS hc hs hL (so_S_c rfl hq2)
  · rename_i y x st0
    cases hp
    have hk1 : decide (raw = .lshl ∧ len = 1) = true := hk
    obtain ⟨rfl, rfl⟩ := of_decide_eq_true hk1
    obtain ⟨r1, rfl, hq1⟩ := so_S_i hst
    obtain ⟨r2, rfl, hq2⟩ := so_S_l hq1
    refine lv_lshl hx hb hd rfl ?_
    exact hn okl (so_okl_cons trivial (so_okl_tl (so_okl_tl okt))) okσ H locs cells slots lsv _ hP hD hS hc hs hL (so_S_c rfl hq2)
  · rename_i y x st0
    cases hp
    have hk1 : decide (raw = .lshr ∧ len = 1) = true := hk
    obtain ⟨rfl, rfl⟩ := of_decide_eq_true hk1
    obtain ⟨r1, rfl, hq1⟩ := so_S_i hst
    obtain ⟨r2, rfl, hq2⟩ := so_S_l hq1
    refine lv_lshr hx hb hd rfl ?_
    exact hn okl (so_okl_cons trivial (so_okl_tl (so_okl_tl okt))) okσ H locs cells slots lsv _ hP hD hS hc hs hL (so_S_c rfl hq2)
  · rename_i y x st0
    cases hp
    have hk1 : decide (raw = .lushr ∧ len = 1) = true := hk
    obtain ⟨rfl, rfl⟩ := of_decide_eq_true hk1
    obtain ⟨r1, rfl, hq1⟩ := so_S_i hst
    obtain ⟨r2, rfl, hq2⟩ := so_S_l hq1
    refine lv_lushr hx hb hd rfl ?_
    exact hn okl (so_okl_cons trivial (so_okl_tl (so_okl_tl okt))) okσ H locs cells slots lsv _ hP hD hS hc hs hL (so_S_c rfl hq2)
  · rename_i y x st0
    cases hp
    have hk1 : decide (raw = .lcmp ∧ len = 1) = true := hk
    obtain ⟨rfl, rfl⟩ := of_decide_eq_true hk1
    obtain ⟨r1, rfl, hq1⟩ := so_S_l hst
    obtain ⟨r2, rfl, hq2⟩ := so_S_l hq1
    refine W.lcmp hx hb hd ?_
    exact hn okl (so_okl_cons (so_lcmr x y) (so_okl_tl (so_okl_tl okt))) okσ H locs cells slots lsv _ hP hD hS hc hs hL (so_S_c (congrArg Value.int (so_lcm x y).symm) hq2)
  · rename_i x st0
    cases hp
    have hk1 : decide (raw = .pop ∧ len = 1) = true := hk
    obtain ⟨rfl, rfl⟩ := of_decide_eq_true hk1
    obtain ⟨r1, rfl, hq1⟩ := so_S_i hst
    refine lv_pop hx hb hd rfl ?_
    exact hn okl (so_okl_tl okt) okσ H locs cells slots lsv _ hP hD hS hc hs hL hq1
  · rename_i x st0
    cases hp
    have hk1 : decide (raw = .dup ∧ len = 1) = true := hk
    obtain ⟨rfl, rfl⟩ := of_decide_eq_true hk1
    obtain ⟨r1, rfl, hq1⟩ := so_S_i hst
    refine lv_dup hx hb hd rfl ?_
    exact hn okl (so_okl_cons (so_okl_hd okt) okt) okσ H locs cells slots lsv _ hP hD hS hc hs hL (so_S_c rfl (so_S_c rfl hq1))
  · rename_i a b st0
    cases hp
    have hk1 : decide (raw = .dup ∧ len = 1) = true := hk
    obtain ⟨rfl, rfl⟩ := of_decide_eq_true hk1
    obtain ⟨r1, rfl, hq1⟩ := so_S_r (by omega) hst
    refine lv_dup hx hb hd rfl ?_
    exact hn okl (so_okl_cons (so_okl_hd okt) okt) okσ H locs cells slots lsv _ hP hD hS hc hs hL (so_S_c rfl (so_S_c rfl hq1))
  · rename_i x a b st0
    cases hp
    have hk1 : decide (raw = .dup_x1 ∧ len = 1) = true := hk
    obtain ⟨rfl, rfl⟩ := of_decide_eq_true hk1
    obtain ⟨r1, rfl, hq1⟩ := so_S_i hst
    obtain ⟨r2, rfl, hq2⟩ := so_S_r (by omega) hq1
    refine lv_dup_x1 hx hb hd rfl rfl ?_
    exact hn okl (so_okl_cons (so_okl_hd okt) (so_okl_cons (so_okl_hd (so_okl_tl okt)) (so_okl_cons (so_okl_hd okt) (so_okl_tl (so_okl_tl okt))))) okσ H locs cells slots lsv _ hP hD hS hc hs hL (so_S_c rfl (so_S_c rfl (so_S_c rfl hq2)))
  · rename_i x a b st0
    cases hp
    have hk1 : decide (raw = .dup2 ∧ len = 1) = true := hk
    obtain ⟨rfl, rfl⟩ := of_decide_eq_true hk1
    obtain ⟨r1, rfl, hq1⟩ := so_S_i hst
    obtain ⟨r2, rfl, hq2⟩ := so_S_r (by omega) hq1
    refine lv_dup2_11 hx hb hd rfl rfl ?_
    exact hn okl (so_okl_cons (so_okl_hd okt) (so_okl_cons (so_okl_hd (so_okl_tl okt)) okt)) okσ H locs cells slots lsv _ hP hD hS hc hs hL (so_S_c rfl (so_S_c rfl (so_S_c rfl (so_S_c rfl hq2))))
  · rename_i k1 j1 k i st0
    split at hp
    · rename_i hkk
      subst hkk
      cases hp
      have hk1 : (so_fa (so_ow mi) raw len false k j1 && decide ((so_fl k)[j1]? = some true)) = true := hk
      rw [Bool.and_eq_true] at hk1
      obtain ⟨h2, h0, h1, -⟩ := so_fa_spec hk1.1
      obtain ⟨r1, rfl, hq1⟩ := so_S_r (by omega) hst
      refine so_getf hX hd hk1.1 hP (so_okr (so_okl_hd okt) h0 (by omega)).2 (so_fs_i (of_decide_eq_true hk1.2)) ?_
      exact hn okl (so_okl_cons (okσ.1.1 ..) (so_okl_tl okt)) okσ H locs cells slots lsv _ hP hD hS hc hs hL (so_S_c rfl hq1)
    · cases hp
  · rename_i g k i st0
    split at hp
    · rename_i hkk
      subst hkk
      cases hp
      have hk1 : (so_fa (so_ow mi) raw len false (g / 64) (g % 64) && decide ((so_fl (g / 64))[g % 64]? = some false)) = true := hk
      rw [Bool.and_eq_true] at hk1
      obtain ⟨h2, h0, h1, -⟩ := so_fa_spec hk1.1
      obtain ⟨r1, rfl, hq1⟩ := so_S_r (by omega) hst
      have hi := (so_okr (so_okl_hd okt) h0 (by omega)).2
      refine so_getf hX hd hk1.1 hP hi (so_fs_r (of_decide_eq_true hk1.2)) ?_
      exact hn okl (so_okl_cons (Or.inr (Or.inl (so_rok okσ h0 h1 (of_decide_eq_true hk1.2) hi))) (so_okl_tl okt)) okσ H locs cells slots lsv _ hP hD hS hc hs hL (so_S_c rfl hq1)
    · cases hp
  · rename_i k1 j1 v k i st0
    split at hp
    · rename_i hkk
      subst hkk
      cases hp
      have hk1 : (so_fa (so_ow mi) raw len true k j1 && decide ((so_fl k)[j1]? = some true ∧ (sT k j1).2.2 = ("I", false))) = true := hk
      rw [Bool.and_eq_true] at hk1
      obtain ⟨h2, h0, h1, -⟩ := so_fa_spec hk1.1
      obtain ⟨h3, h4⟩ := of_decide_eq_true hk1.2
      obtain ⟨r1, rfl, hq1⟩ := so_S_i hst
      obtain ⟨r2, rfl, hq2⟩ := so_S_r (by omega) hq1
      have hi := (so_okr (so_okl_hd (so_okl_tl okt)) h0 (by omega)).2
      refine so_putf (τ := am_set σ k i j1 v) (ty := .int) hX hd hk1.1 hP hD hS hi (by rw [h4]) (by rw [h4]; decide) rfl rfl (so_fs_set h3) (fun k' i' _ h => so_oth k' i' h) (fun H1 locs1 hP1 hD1 hS1 => ?_)
      exact hn okl (so_okl_tl (so_okl_tl okt)) (so_okσ_set okσ (so_okl_hd okt) (by omega) (by omega)) H1 locs1 cells slots lsv _ hP1 hD1 hS1 hc hs hL hq2
    · cases hp
  · rename_i g v i st0
    cases hp
    have hk1 : (so_fa (so_ow mi) raw len true 10 g && decide ((g = 2 ∨ g = 3) ∧ (sT 10 g).2.2 = ("LProofWorkbench$Proof;", false))) = true := hk
    rw [Bool.and_eq_true] at hk1
    obtain ⟨h3, h4⟩ := of_decide_eq_true hk1.2
    obtain ⟨r1, rfl, hq1⟩ := so_S_r (by omega) hst
    obtain ⟨r2, rfl, hq2⟩ := so_S_r (by omega) hq1
    have hi := (so_okr (so_okl_hd (so_okl_tl okt)) (by omega) (by omega)).2
    have hv := (so_okr (so_okl_hd okt) (by omega) (by omega)).2
    refine so_putf (τ := am_setD σ g v) (ty := .object "ProofWorkbench$Proof") hX hd hk1.1 hP hD hS hi (by rw [h4]) (by rw [h4]; decide +kernel) rfl rfl ?_ ?_ (fun H1 locs1 hP1 hD1 hS1 => ?_)
    · rcases h3 with rfl | rfl
      · rfl
      · rfl
    · intro k' i' hi' h
      refine so_cong Z (fun _ _ => rfl) (fun _ => rfl) (fun hk => ?_)
      subst hk
      have e1 : i' < 1 := hi'
      have e2 : i < 1 := hi
      exact absurd ⟨rfl, by omega⟩ h
    · refine hn okl (so_okl_tl (so_okl_tl okt)) ⟨⟨okσ.1.1, ?_, ?_⟩, okσ.2⟩ H1 locs1 cells slots lsv _ hP1 hD1 hS1 hc hs hL hq2
      · show (if 2 = g then v else σ.2.2.1 2) < 7
        split
        · exact hv
        · exact okσ.1.2.1
      · show (if 3 = g then v else σ.2.2.1 3) < 7
        split
        · exact hv
        · exact okσ.1.2.2
  · rename_i i st0
    cases hp
    have hk1 : decide (raw = .arraylength ∧ len = 1) = true := hk
    obtain ⟨rfl, rfl⟩ := of_decide_eq_true hk1
    obtain ⟨r1, rfl, hq1⟩ := so_S_r (by omega) hst
    have hi : i = 0 := by
      rcases so_okl_hd okt with h | h | h | h
      · exact absurd h (by show ¬ (71 : Nat) = 0; decide)
      · exact absurd h.1 (by show ¬ (71 : Nat) ∈ so_ks; decide)
      · exact h.2
      · exact absurd h.1 (by show ¬ (71 : Nat) = 90; decide)
    subst hi
    rw [hV3]
    refine va_slen hx hb hV hV1 hV2 hS hd ?_
    exact hn okl (so_okl_cons (okσ.1.1 ..) (so_okl_tl okt)) okσ H locs cells slots lsv _ hP hD hS hc hs hL (so_S_c (by show Value.int (Int32.ofNat Y.2.1) = .int (Int32.ofInt (σ.1 72 0 0)); rw [okσ.2.2, Int32.ofInt_eq_ofNat]) hq1)
  · cases hp
end So2
