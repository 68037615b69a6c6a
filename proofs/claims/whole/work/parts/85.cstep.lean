/-! The class's STEP is that of the proof -/
/-- M stands at k in L -/
def ats (L : List pfN) (k : Nat) (M : List pfN) : Prop := ∃ U V, L = U ++ (M ++ V) ∧ U.length = k
theorem ats_app {L : List pfN} {k : Nat} {A B : List pfN} (h : ats L k (A ++ B)) : ats L k A ∧ ats L (k + A.length) B := by
  obtain ⟨U, V, h1, h2⟩ := h
  refine ⟨⟨U, B ++ V, by rw [h1, List.append_assoc], h2⟩, ⟨U ++ A, V, by rw [h1]; simp only [List.append_assoc], by rw [List.length_append, h2]⟩⟩
theorem ats_1 {L : List pfN} {k : Nat} {r n : Int} {l : List Int} {A : List pfN} (h : ats L k (pf_mk r n l A)) : ats L (k + 1) A := by
  obtain ⟨U, V, h1, h2⟩ := h
  exact ⟨U ++ [(r, n, (A.length : Int) + 1, l)], V, by rw [h1, List.append_assoc]; rfl, by rw [List.length_append, h2]; rfl⟩
theorem ats_lt {L : List pfN} {k : Nat} {M : List pfN} (h : ats L k M) : k + M.length ≤ L.length := by
  obtain ⟨U, V, h1, h2⟩ := h
  rw [h1, List.length_append, List.length_append]
  omega
theorem ats_hd {L : List pfN} {k : Nat} {r n : Int} {l : List Int} {K : List pfN} (h : ats L k (pf_mk r n l K)) : pf_at L k = (r, n, (K.length : Int) + 1, l) := by
  obtain ⟨U, V, h1, h2⟩ := h
  unfold pf_at
  rw [h1, List.getElem?_append_right (by omega), h2, Nat.sub_self]
  rfl
theorem ats_sub {L : List pfN} {k : Nat} {M : List pfN} (hM : mkd M) (h : ats L k M) : pf_sub L k = M := by
  obtain ⟨r, n, l, K, rfl⟩ := hM
  have h3 := ats_hd h
  obtain ⟨U, V, h1, h2⟩ := h
  unfold pf_sub
  rw [h3, show ((K.length : Int) + 1).toNat = (pf_mk r n l K).length by rw [mk_len]; omega, h1, ← List.append_assoc, ← h2, ← List.length_append, List.take_left, List.drop_left]
theorem ats_in {L : List pfN} {k : Nat} {M : List pfN} (hM : mkd M) (h : ats L k M) : pf_in L k := by
  obtain ⟨r, n, l, K, rfl⟩ := hM
  have h3 := ats_hd h
  have h4 := ats_lt h
  rw [mk_len] at h4
  refine ⟨by omega, ?_, ?_⟩
  · rw [h3]; show 0 ≤ (K.length : Int) + 1; omega
  · rw [h3]; show (k : Int) + ((K.length : Int) + 1) ≤ _; omega
theorem ats_z {L : List pfN} {k : Nat} {M : List pfN} (hM : mkd M) (h : ats L k M) : pf_at L k = pf_at M 0 ∧ (pf_at L k).2.2.2 = rl M ∧ (pf_at L k).2.2.1 = (M.length : Int) := by
  obtain ⟨r, n, l, K, rfl⟩ := hM
  rw [ats_hd h]
  exact ⟨rfl, rfl, by rw [mk_len]; show (K.length : Int) + 1 = _; omega⟩
theorem ats_2 {L : List pfN} {k : Nat} {r n : Int} {l : List Int} {A B : List pfN} (hA : mkd A) (h : ats L k (pf_mk r n l (A ++ B))) : pf_2 L k = k + 1 + A.length ∧ ats L (k + 1) A ∧ ats L (pf_2 L k) B := by
  obtain ⟨h1, h2⟩ := ats_app (ats_1 h)
  have e : pf_2 L k = k + 1 + A.length := by
    unfold pf_2
    rw [(ats_z hA h1).2.2]
    omega
  exact ⟨e, h1, by rw [e]; exact h2⟩
theorem st_cut_ct {T : ftT} {L : List pfN} {n : Int} {x w : Nat} {X W : List pfN} (hX : mkd X) (hW : mkd W) (h1 : ats L x X) (h2 : ats L w W) : st_cut L n x w = ct T n X W := by
  unfold st_cut ct
  rw [(ats_z hX h1).2.1, (ats_z hW h2).2.1, ats_sub hX h1, ats_sub hW h2, b9]
theorem st_rc_rc {T : ftT} {L : List pfN} {n : Int} {x w : Nat} {X W : List pfN} {e : Bool} (hX : mkd X) (hW : mkd W) (h1 : ats L x X) (h2 : ats L w W) : st_rc L n x w e = rc T n X W e := by
  cases e
  · exact st_cut_ct hW hX h2 h1
  · exact st_cut_ct hX hW h1 h2
theorem st_cok_of {T : ftT} (ho : ft_ok T) (hT : T.length ≤ 60) {L : List pfN} {n : Int} {x w : Nat} {X W : List pfN} (hX : mkd X) (hW : mkd W) (h1 : ats L x X) (h2 : ats L w W) (hv : vl T (ct T n X W)) : st_cok L n x w := by
  obtain ⟨hl, -, -, hvt, -⟩ := vl_inv2 hX hW hv
  have hn := vt_n hvt
  have := (ft_lvs_le ho (br_l T 9 n (rl X) (rl W))).1
  rw [b9, li_insAll_length] at this
  have h20 := hl.2.2
  rw [b9] at h20
  refine ⟨by omega, ats_in hX h1, ats_in hW h2, ?_⟩
  rw [(ats_z hX h1).2.1, (ats_z hW h2).2.1]
  omega
theorem st_rok_of {T : ftT} (ho : ft_ok T) (hT : T.length ≤ 60) {L : List pfN} {n : Int} {x w : Nat} {X W : List pfN} {e : Bool} (hX : mkd X) (hW : mkd W) (h1 : ats L x X) (h2 : ats L w W) (hv : vl T (rc T n X W e)) : st_rok L n x w e := by
  cases e
  · exact st_cok_of ho hT hW hX h2 h1 hv
  · exact st_cok_of ho hT hX hW h1 h2 hv
theorem rc_mkd {T : ftT} {n : Int} {X W : List pfN} {e : Bool} : mkd (rc T n X W e) := by cases e <;> exact ⟨_, _, _, _, rfl⟩
theorem ct_mkd {T : ftT} {n : Int} {X W : List pfN} : mkd (ct T n X W) := ⟨_, _, _, _, rfl⟩
theorem bes_iff {l : List Int} {m x : Int} : (if m = x then 1 else 0) < l.count m ↔ m ∈ l.erase x := by
  constructor
  · intro h
    refine cn_in ?_
    rw [cn_er]
    unfold dl
    omega
  · intro h
    have := cn_mem h m
    rw [cn_er, dl_s] at this
    unfold dl at this
    omega
set_option maxHeartbeats 1000000 in
theorem rai_st {T : ftT} (ho : ft_ok T) (hT : T.length ≤ 60) {L : List pfN} {n z : Int} {l : List Int} {e : Bool} {ka kp kw : Nat} {S W N : List pfN} (hS : ats L kp S) (hSm : mkd S) (hW : ats L kw W) (hWm : mkd W) (hn : 0 ≤ n ∧ n < 128) (hka : ka < L.length) (ha : pf_at L ka = (9, n, z, l)) (h : rai T n l e S W N) (hv : vl T N) : st_rai T L ka kp kw e = N ∧ st_raok T L ka kp kw e := by
  have hkp : kp < L.length := (ats_in hSm hS).1
  have ea : (pf_at L ka).2.1 = n := by rw [ha]
  have el : (pf_at L ka).2.2.2 = l := by rw [ha]
  have hsa : st_m n e = sa n e := rfl
  unfold st_rai st_raok
  rw [ea, el, hsa]
  rcases h with ⟨m, k, rfl, -, rfl⟩ | ⟨m, k, P, Q, rfl, hP, hQ, -, -, rfl⟩ | ⟨m, k, P, Q, rfl, hP, hQ, -, -, hin, -, rfl⟩ | ⟨m, k, P, Q, rfl, hP, hQ, -, -, hin, rfl⟩ | ⟨r, m, k, P, rfl, hP, hr, -, rfl⟩
  · rw [ats_hd hS]
    refine ⟨rfl, hka, hkp, hn, fun q => absurd q (by show ¬ (2 : Int) = 5; decide), fun q => absurd q (by show ¬ (2 : Int) = 8; decide), fun _ _ q => absurd rfl q⟩
  · obtain ⟨e2, hsP, hsQ⟩ := ats_2 hP hS
    obtain ⟨-, v1, v2, -⟩ := vl_inv2 rc_mkd rc_mkd hv
    rw [ats_hd hS, st_rc_rc (T := T) hP hWm hsP hW, st_rc_rc (T := T) hQ hWm hsQ hW]
    exact ⟨rfl, hka, hkp, hn, fun _ => ⟨(ats_in hP hsP).1, st_rok_of ho hT hP hWm hsP hW v1, st_rok_of ho hT hQ hWm hsQ hW v2⟩, fun q => absurd q (by show ¬ (5 : Int) = 8; decide), fun q => absurd rfl q⟩
  · obtain ⟨e2, hsP, hsQ⟩ := ats_2 hP hS
    obtain ⟨-, v1, v2, -⟩ := vl_inv2 rc_mkd hQ hv
    have hb := bes_iff.mpr hin
    rw [ats_hd hS, (ats_z hP hsP).2.1, st_rc_rc (T := T) hP hWm hsP hW, ats_sub hQ hsQ]
    refine ⟨?_, hka, hkp, hn, fun q => absurd q (by show ¬ (8 : Int) = 5; decide), fun _ => ⟨ats_in hP hsP, ats_in hQ hsQ, fun _ => st_rok_of ho hT hP hWm hsP hW v1, fun q => absurd hb q⟩, fun _ q => absurd rfl q⟩
    show pf_mk 8 m l (if (8 : Int) = 5 then _ else if (8 : Int) = 8 then (if (if sa n e = ft_fst T m then 1 else 0) < (rl P).count (sa n e) then rc T n P W e ++ Q else _) else _) = _
    rw [if_neg (by decide), if_pos rfl, if_pos hb]
  · obtain ⟨e2, hsP, hsQ⟩ := ats_2 hP hS
    obtain ⟨-, v1, v2, -⟩ := vl_inv2 hP rc_mkd hv
    have hb : ¬ (if sa n e = ft_fst T m then 1 else 0) < (rl P).count (sa n e) := fun q => hin (bes_iff.mp q)
    rw [ats_hd hS, (ats_z hP hsP).2.1, st_rc_rc (T := T) hQ hWm hsQ hW, ats_sub hP hsP]
    refine ⟨?_, hka, hkp, hn, fun q => absurd q (by show ¬ (8 : Int) = 5; decide), fun _ => ⟨ats_in hP hsP, ats_in hQ hsQ, fun q => absurd q hb, fun _ => st_rok_of ho hT hQ hWm hsQ hW v2⟩, fun _ q => absurd rfl q⟩
    show pf_mk 8 m l (if (8 : Int) = 5 then _ else if (8 : Int) = 8 then (if (if sa n e = ft_fst T m then 1 else 0) < (rl P).count (sa n e) then _ else P ++ rc T n Q W e) else _) = _
    rw [if_neg (by decide), if_pos rfl, if_neg hb]
  · have hsP := ats_1 hS
    obtain ⟨-, v1, -⟩ := vl_inv1 rc_mkd hv
    have n5 : ¬ r = 5 := by omega
    have n8 : ¬ r = 8 := by omega
    have n2 : ¬ r = 2 := by omega
    rw [ats_hd hS, st_rc_rc (T := T) hP hWm hsP hW]
    refine ⟨?_, hka, hkp, hn, fun q => absurd q n5, fun q => absurd q n8, fun _ _ _ => st_rok_of ho hT hP hWm hsP hW v1⟩
    show pf_mk r m l (if r = 5 then _ else if r = 8 then _ else if r = 2 then _ else rc T n P W e) = _
    rw [if_neg n5, if_neg n8, if_neg n2]
set_option maxHeartbeats 1000000 in
theorem met_st {T : ftT} (ho : ft_ok T) (hT : T.length ≤ 60) {L : List pfN} {l : List Int} {ka ke ko : Nat} {E O N : List pfN} (hE : ats L ke E) (hEm : mkd E) (hO : ats L ko O) (hOm : mkd O) (hka : ka < L.length) (el : (pf_at L ka).2.2.2 = l) (h : met T l E O N) (hv : vl T N) : st_met T L ka ke ko = N ∧ st_mok T L ka ke ko := by
  have hke : ke < L.length := (ats_in hEm hE).1
  have hko : ko < L.length := (ats_in hOm hO).1
  unfold st_met st_mok
  rw [el]
  rcases h with ⟨k1, k2, P, rfl, rfl, hP, rfl⟩ | ⟨f, k1, k2, P, P', Q', rfl, hP, rfl, hP', hQ', -, rfl⟩ | ⟨f, k1, k2, P, P', Q', rfl, hP, rfl, hP', hQ', -, rfl⟩ | ⟨f, k1, k2, P, Q, P', rfl, hP, hQ, rfl, hP', -, rfl⟩
  · have hsP := ats_1 hO
    rw [ats_hd hE, ats_sub hP hsP]
    exact ⟨rfl, hka, hke, hko, fun _ => ats_in hP hsP, fun q => absurd q (by show ¬ (1 : Int) = 6; decide), fun q => absurd q (by show ¬ (1 : Int) = 7; decide), fun q => absurd rfl q⟩
  · have hsP := ats_1 hE
    obtain ⟨e2, hsP', hsQ'⟩ := ats_2 hP' hO
    rw [ats_hd hE]
    refine ⟨?_, hka, hke, hko, fun q => absurd q (by show ¬ (6 : Int) = 1; decide), fun _ => st_cok_of ho hT hP hP' hsP hsP' hv, fun q => absurd q (by show ¬ (6 : Int) = 7; decide), fun _ q => absurd rfl q⟩
    show (if (6 : Int) = 1 then _ else if (6 : Int) = 6 then st_cut L (ft_fst T f) (ke + 1) (ko + 1) else _) = _
    rw [if_neg (by decide), if_pos rfl]
    exact st_cut_ct hP hP' hsP hsP'
  · have hsP := ats_1 hE
    obtain ⟨e2, hsP', hsQ'⟩ := ats_2 hP' hO
    rw [ats_hd hE]
    refine ⟨?_, hka, hke, hko, fun q => absurd q (by show ¬ (7 : Int) = 1; decide), fun q => absurd q (by show ¬ (7 : Int) = 6; decide), fun _ => ⟨(ats_in hP' hsP').1, st_cok_of ho hT hP hQ' hsP hsQ' hv⟩, fun _ _ q => absurd rfl q⟩
    show (if (7 : Int) = 1 then _ else if (7 : Int) = 6 then _ else if (7 : Int) = 7 then st_cut L (ft_snd T f) (ke + 1) (pf_2 L ko) else _) = _
    rw [if_neg (by decide), if_neg (by decide), if_pos rfl]
    exact st_cut_ct hP hQ' hsP hsQ'
  · obtain ⟨e2, hsP, hsQ⟩ := ats_2 hP hE
    have hsP' := ats_1 hO
    obtain ⟨-, -, v2, -⟩ := vl_inv2 hP ct_mkd hv
    rw [ats_hd hE]
    refine ⟨?_, hka, hke, hko, fun q => absurd q (by show ¬ (8 : Int) = 1; decide), fun q => absurd q (by show ¬ (8 : Int) = 6; decide), fun q => absurd q (by show ¬ (8 : Int) = 7; decide), fun _ _ _ => ⟨ats_in hP hsP, st_cok_of ho hT hQ hP' hsQ hsP' v2⟩⟩
    show (if (8 : Int) = 1 then _ else if (8 : Int) = 6 then _ else if (8 : Int) = 7 then _ else pf_mk 9 (ft_fst T f) l (pf_sub L (ke + 1) ++ st_cut L (ft_snd T f) (pf_2 L ke) (ko + 1))) = _
    rw [if_neg (by decide), if_neg (by decide), if_neg (by decide), ats_sub hP hsP, st_cut_ct (T := T) hQ hP' hsQ hsP']
theorem cg_st {T : ftT} (ho : ft_ok T) (hT : T.length ≤ 60) {L : List pfN} {n : Int} {l : List Int} {k : Nat} {A B N : List pfN} (hC : ats L k (pf_mk 9 n l (A ++ B))) (hA : mkd A) (hB : mkd B) (hn : 0 ≤ n ∧ n < 128) (h : cg T n l A B N) (hv : vl T N) : st_chg T L k = N ∧ st_chok T L k := by
  obtain ⟨e2, hsA, hsB⟩ := ats_2 hA hC
  have hk : k < L.length := (ats_in ⟨_, _, _, _, rfl⟩ hC).1
  have ha := ats_hd hC
  have en : (pf_at L k).2.1 = n := by rw [ha]
  have el : (pf_at L k).2.2.2 = l := by rw [ha]
  have eA := (ats_z hA hsA).1
  have eB := (ats_z hB hsB).1
  unfold st_chg st_chok
  rw [eA, eB, en]
  rcases h with ⟨h0, rfl⟩ | ⟨h0, h1, rfl⟩ | ⟨⟨h0, h1⟩, h⟩
  · rw [if_pos h0]
    exact ⟨ats_sub hB hsB, hk, ats_in hA hsA, ats_in hB hsB, hn, fun q => absurd h0 q⟩
  · rw [if_neg h0, if_pos h1]
    exact ⟨ats_sub hA hsA, hk, ats_in hA hsA, ats_in hB hsB, hn, fun _ q => absurd h1 q⟩
  · rw [if_neg h0, if_neg h1]
    rcases h with ⟨f1, hr⟩ | ⟨f1, f2, hr⟩ | ⟨f1, f2, hm⟩
    · rw [if_pos f1]
      obtain ⟨q1, q2⟩ := rai_st ho hT hsA hA hsB hB hn hk ha hr hv
      exact ⟨q1, hk, ats_in hA hsA, ats_in hB hsB, hn, fun _ _ => ⟨fun _ => q2, fun q => absurd q f1, fun q => absurd q f1, fun q => absurd q f1⟩⟩
    · rw [if_neg (fun q => q f1), if_pos f2]
      obtain ⟨q1, q2⟩ := rai_st ho hT hsB hB hsA hA hn hk ha hr hv
      exact ⟨q1, hk, ats_in hA hsA, ats_in hB hsB, hn, fun _ _ => ⟨fun q => absurd f1 q, fun _ _ => q2, fun _ q => absurd q f2, fun _ q => absurd q f2⟩⟩
    · rw [if_neg (fun q => q f1), if_neg (fun q => q f2)]
      rcases hm with ⟨he, hm⟩ | ⟨he, hm⟩
      · rw [if_pos he]
        obtain ⟨q1, q2⟩ := met_st ho hT hsA hA hsB hB hk el hm hv
        exact ⟨q1, hk, ats_in hA hsA, ats_in hB hsB, hn, fun _ _ => ⟨fun q => absurd f1 q, fun _ q => absurd f2 q, fun _ _ _ => q2, fun _ _ q => absurd he q⟩⟩
      · rw [if_neg he]
        obtain ⟨q1, q2⟩ := met_st ho hT hsB hB hsA hA hk el hm hv
        exact ⟨q1, hk, ats_in hA hsA, ats_in hB hsB, hn, fun _ _ => ⟨fun q => absurd f1 q, fun _ q => absurd f2 q, fun _ _ q => absurd q he, fun _ _ _ => q2⟩⟩
