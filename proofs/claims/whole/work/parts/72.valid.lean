/-! Proofs that the rules have made -/
def lnk (T : ftT) (l : List Int) : Prop := l.Pairwise (· ≤ ·) ∧ (∀ x ∈ l, 0 ≤ x ∧ x < 20 + (T.length : Int)) ∧ ft_lvs T l ≤ 20
def vz (r n : Int) (l : List Int) : Prop := (r = 0 ∧ l = [n, n + 1] ∧ 0 ≤ n ∧ n < 16 ∧ n % 2 = 0) ∨ (r = 1 ∧ n = 16 ∧ l = [16]) ∨ (r = 2 ∧ n = 19 ∧ 19 ∈ l)
def vo (T : ftT) (r n : Int) (la : List Int) : Prop := (r = 3 ∧ n = 17) ∨ (r = 4 ∧ ft_sign T n = 1 ∧ ft_fst T n ∈ la ∧ ft_snd T n ∈ la.erase (ft_fst T n)) ∨ (r = 6 ∧ ft_sign T n = 2 ∧ ft_fst T n ∈ la) ∨ (r = 7 ∧ ft_sign T n = 2 ∧ ft_snd T n ∈ la)
def vt (T : ftT) (r n : Int) (la lb : List Int) : Prop := (r = 5 ∧ ft_sign T n = 3 ∧ ft_fst T n ∈ la ∧ ft_snd T n ∈ lb ∧ la.erase (ft_fst T n) = lb.erase (ft_snd T n)) ∨ (r = 8 ∧ ft_sign T n = 0 ∧ ft_fst T n ∈ la ∧ ft_snd T n ∈ lb) ∨ (r = 9 ∧ (0 ≤ n ∧ n < 20 + (T.length : Int)) ∧ n ∈ la ∧ du n ∈ lb ∧ ft_lvs T (br_l T 9 n la lb) + ft_lv T n ≤ 20)
def vlF (T : ftT) (R : List pfN → Prop) (L : List pfN) : Prop := ∃ (r n : Int) (l : List Int), lnk T l ∧ ((L = pf_mk r n l [] ∧ vz r n l) ∨ (∃ A, L = pf_mk r n l A ∧ R A ∧ vo T r n (rl A) ∧ l = br_l T r n (rl A) []) ∨ (∃ A B, L = pf_mk r n l (A ++ B) ∧ R A ∧ R B ∧ vt T r n (rl A) (rl B) ∧ l = br_l T r n (rl A) (rl B)))
theorem vlF_m (T : ftT) : lf_m (vlF T) := by
  rintro R S h L ⟨r, n, l, hl, q⟩
  refine ⟨r, n, l, hl, ?_⟩
  rcases q with q | ⟨A, h1, h2, h3⟩ | ⟨A, B, h1, h2, h3, h4⟩
  · exact Or.inl q
  · exact Or.inr (Or.inl ⟨A, h1, h _ h2, h3⟩)
  · exact Or.inr (Or.inr ⟨A, B, h1, h _ h2, h _ h3, h4⟩)
def vl (T : ftT) (L : List pfN) : Prop := lf (vlF T) L
theorem vl_z {T : ftT} {r n : Int} {l : List Int} (hl : lnk T l) (h : vz r n l) : vl T (pf_mk r n l []) := lf_in (vlF_m T) ⟨r, n, l, hl, Or.inl ⟨rfl, h⟩⟩
theorem vl_o {T : ftT} {r n : Int} {A : List pfN} (hA : vl T A) (hl : lnk T (br_l T r n (rl A) [])) (h : vo T r n (rl A)) : vl T (pf_mk r n (br_l T r n (rl A) []) A) := lf_in (vlF_m T) ⟨r, n, _, hl, Or.inr (Or.inl ⟨A, rfl, hA, h, rfl⟩)⟩
theorem vl_t {T : ftT} {r n : Int} {A B : List pfN} (hA : vl T A) (hB : vl T B) (hl : lnk T (br_l T r n (rl A) (rl B))) (h : vt T r n (rl A) (rl B)) : vl T (pf_mk r n (br_l T r n (rl A) (rl B)) (A ++ B)) := lf_in (vlF_m T) ⟨r, n, _, hl, Or.inr (Or.inr ⟨A, B, rfl, hA, hB, h, rfl⟩)⟩
theorem vl_rec {T : ftT} {P : List pfN → Prop} (hz : ∀ r n l, lnk T l → vz r n l → P (pf_mk r n l [])) (ho : ∀ r n A, lnk T (br_l T r n (rl A) []) → vl T A → P A → vo T r n (rl A) → P (pf_mk r n (br_l T r n (rl A) []) A))
    (ht : ∀ r n A B, lnk T (br_l T r n (rl A) (rl B)) → vl T A → P A → vl T B → P B → vt T r n (rl A) (rl B) → P (pf_mk r n (br_l T r n (rl A) (rl B)) (A ++ B))) {L : List pfN} (h : vl T L) : P L := by
  refine lf_ind (vlF_m T) (P := P) ?_ h
  rintro L ⟨r, n, l, hl, q⟩
  rcases q with ⟨h1, h2⟩ | ⟨A, h1, ⟨h2, h3⟩, h4, h5⟩ | ⟨A, B, h1, ⟨h2, h3⟩, ⟨h4, h5⟩, h6, h7⟩
  · cases h1; exact hz r n l hl h2
  · cases h1; subst h5; exact ho r n A hl h2 h3 h4
  · cases h1; subst h7; exact ht r n A B hl h2 h3 h4 h5 h6
theorem vl_out {T : ftT} {L : List pfN} (h : vl T L) : vlF T (vl T) L := lf_out (vlF_m T) h
theorem vl_lnk {T : ftT} {L : List pfN} (h : vl T L) : lnk T (rl L) := by
  obtain ⟨r, n, l, hl, q⟩ := vl_out h
  rcases q with q | ⟨A, h1, _⟩ | ⟨A, B, h1, _⟩
  · rw [q.1]; exact hl
  · rw [h1]; exact hl
  · rw [h1]; exact hl
theorem vl_mkd {T : ftT} {L : List pfN} (h : vl T L) : mkd L := by
  obtain ⟨r, n, l, hl, q⟩ := vl_out h
  rcases q with q | ⟨A, h1, _⟩ | ⟨A, B, h1, _⟩
  · exact ⟨r, n, l, _, q.1⟩
  · exact ⟨r, n, l, _, h1⟩
  · exact ⟨r, n, l, _, h1⟩
theorem pre_le {T T' : ftT} (h : T'.take T.length = T) : T.length ≤ T'.length := by
  have := congrArg List.length h
  rw [List.length_take] at this
  omega
theorem ft_sign_pre {T T' : ftT} {n : Int} (h : T'.take T.length = T) (hn : n < 20 + (T.length : Int)) : ft_sign T' n = ft_sign T n := by unfold ft_sign; rw [ft_at_pre h hn]
theorem ft_fst_pre {T T' : ftT} {n : Int} (h : T'.take T.length = T) (hn : n < 20 + (T.length : Int)) : ft_fst T' n = ft_fst T n := by unfold ft_fst; rw [ft_at_pre h hn]
theorem ft_snd_pre {T T' : ftT} {n : Int} (h : T'.take T.length = T) (hn : n < 20 + (T.length : Int)) : ft_snd T' n = ft_snd T n := by unfold ft_snd; rw [ft_at_pre h hn]
theorem br_pre {T T' : ftT} {r n : Int} {la lb : List Int} (h : T'.take T.length = T) (hn : n < 20 + (T.length : Int)) : br_l T' r n la lb = br_l T r n la lb := by unfold br_l; rw [ft_fst_pre h hn, ft_snd_pre h hn]
theorem lnk_pre {T T' : ftT} {l : List Int} (h : T'.take T.length = T) (hl : lnk T l) : lnk T' l := by
  have := pre_le h
  exact ⟨hl.1, fun x hx => by have := hl.2.1 x hx; omega, by rw [ft_lvs_pre h l (fun x hx => (hl.2.1 x hx).2)]; exact hl.2.2⟩
theorem vo_n {T : ftT} {r n : Int} {la : List Int} (h : vo T r n la) : 0 ≤ n ∧ n < 20 + (T.length : Int) := by
  rcases h with ⟨_, q⟩ | ⟨_, q, _⟩ | ⟨_, q, _⟩ | ⟨_, q, _⟩
  · omega
  · have := ft_sign_in (T := T) (n := n) (by rw [q]; decide); omega
  · have := ft_sign_in (T := T) (n := n) (by rw [q]; decide); omega
  · have := ft_sign_in (T := T) (n := n) (by rw [q]; decide); omega
theorem vt_n {T : ftT} {r n : Int} {la lb : List Int} (h : vt T r n la lb) : 0 ≤ n ∧ n < 20 + (T.length : Int) := by
  rcases h with ⟨_, q, _⟩ | ⟨_, q, _⟩ | ⟨_, q, _⟩
  · have := ft_sign_in (T := T) (n := n) (by rw [q]; decide); omega
  · have := ft_sign_in (T := T) (n := n) (by rw [q]; decide); omega
  · exact q
theorem vo_pre {T T' : ftT} {r n : Int} {la : List Int} (h : T'.take T.length = T) (hv : vo T r n la) : vo T' r n la := by
  have hn := (vo_n hv).2
  unfold vo at hv ⊢
  rw [ft_sign_pre h hn, ft_fst_pre h hn, ft_snd_pre h hn]
  exact hv
theorem vt_pre {T T' : ftT} {r n : Int} {la lb : List Int} (h : T'.take T.length = T) (hl : ∀ x ∈ la, x < 20 + (T.length : Int)) (hm : ∀ x ∈ lb, x < 20 + (T.length : Int)) (hv : vt T r n la lb) : vt T' r n la lb := by
  have hn := (vt_n hv).2
  have hle := pre_le h
  unfold vt at hv ⊢
  rw [ft_sign_pre h hn, ft_fst_pre h hn, ft_snd_pre h hn, br_pre h hn, ft_lv_pre h hn, ft_lvs_pre h _ (br_in hn hl hm)]
  rcases hv with q | q | ⟨q1, q2, q3⟩
  · exact Or.inl q
  · exact Or.inr (Or.inl q)
  · exact Or.inr (Or.inr ⟨q1, ⟨q2.1, by omega⟩, q3⟩)
theorem vl_pre {T T' : ftT} {L : List pfN} (h : T'.take T.length = T) (hv : vl T L) : vl T' L := by
  refine vl_rec (P := vl T') (fun r n l hl hz => vl_z (lnk_pre h hl) hz) (fun r n A hl hA hA' ho => ?_) (fun r n A B hl hA hA' hB hB' ht => ?_) hv
  · have hn := (vo_n ho).2
    have e := br_pre (r := r) (la := rl A) (lb := []) h hn
    rw [← e] at hl ⊢
    refine vl_o hA' ?_ (vo_pre h ho)
    rw [e] at hl ⊢
    exact lnk_pre h hl
  · have hn := (vt_n ht).2
    have e := br_pre (r := r) (la := rl A) (lb := rl B) h hn
    rw [← e] at hl ⊢
    refine vl_t hA' hB' ?_ (vt_pre h (fun x hx => ((vl_lnk hA).2.1 x hx).2) (fun x hx => ((vl_lnk hB).2.1 x hx).2) ht)
    rw [e] at hl ⊢
    exact lnk_pre h hl
theorem br_sorted {T : ftT} {r n : Int} {la lb : List Int} (h : la.Pairwise (· ≤ ·)) : (br_l T r n la lb).Pairwise (· ≤ ·) := by
  unfold br_l
  split
  · exact li_ins_sorted h
  split
  · exact li_ins_sorted (er_sorted _ (er_sorted _ h))
  split
  · exact li_ins_sorted (er_sorted _ h)
  split
  · exact li_ins_sorted (li_insAll_sorted _ (er_sorted _ h))
  split
  · exact li_insAll_sorted _ (er_sorted _ h)
  · exact li_ins_sorted (er_sorted _ h)
/-- a proof in a slot -/
def pr (T : ftT) (M : List pfN) : Prop := M = [] ∨ (vl T M ∧ (rl M).length ≤ 8 ∧ ft_lvs T (rl M) ≤ 12)
theorem pr_pre {T T' : ftT} {M : List pfN} (h : T'.take T.length = T) (hp : pr T M) : pr T' M := by
  rcases hp with q | ⟨q1, q2, q3⟩
  · exact Or.inl q
  · exact Or.inr ⟨vl_pre h q1, q2, by rw [ft_lvs_pre h _ (fun x hx => ((vl_lnk q1).2.1 x hx).2)]; exact q3⟩
theorem pr_ll {T : ftT} {M : List pfN} (h : pr T M) : ll T (rl M) := by
  rcases h with rfl | ⟨q1, q2, _⟩
  · exact ⟨List.Pairwise.nil, fun x hx => absurd hx List.not_mem_nil, Nat.zero_le _⟩
  · exact ⟨(vl_lnk q1).1, (vl_lnk q1).2.1, q2⟩
theorem pr_vl {T : ftT} {M : List pfN} (h : pr T M) (hn : M ≠ []) : vl T M := by
  rcases h with q | q
  · exact absurd q hn
  · exact q.1
theorem pr_o {T : ftT} {r n : Int} {A : List pfN} (hA : pr T A) (hne : A ≠ []) (h : vo T r n (rl A)) (h8 : (br_l T r n (rl A) []).length ≤ 8) (h12 : ft_lvs T (br_l T r n (rl A) []) ≤ 12) : pr T (pf_mk r n (br_l T r n (rl A) []) A) := by
  have hv := pr_vl hA hne
  exact Or.inr ⟨vl_o hv ⟨br_sorted (vl_lnk hv).1, br_in (vo_n h) (vl_lnk hv).2.1 (fun x hx => absurd hx List.not_mem_nil), by omega⟩ h, h8, h12⟩
theorem pr_t {T : ftT} {r n : Int} {A B : List pfN} (hA : pr T A) (hne : A ≠ []) (hB : pr T B) (hne2 : B ≠ []) (h : vt T r n (rl A) (rl B)) (h8 : (br_l T r n (rl A) (rl B)).length ≤ 8) (h12 : ft_lvs T (br_l T r n (rl A) (rl B)) ≤ 12) : pr T (pf_mk r n (br_l T r n (rl A) (rl B)) (A ++ B)) := by
  have hv := pr_vl hA hne
  have hw := pr_vl hB hne2
  exact Or.inr ⟨vl_t hv hw ⟨br_sorted (vl_lnk hv).1, br_in (vt_n h) (vl_lnk hv).2.1 (vl_lnk hw).2.1, by omega⟩ h, h8, h12⟩
theorem pr_z {T : ftT} {r n : Int} {l : List Int} (hl : l.Pairwise (· ≤ ·)) (hr : ∀ x ∈ l, 0 ≤ x ∧ x < 20 + (T.length : Int)) (h : vz r n l) (h8 : l.length ≤ 8) (h12 : ft_lvs T l ≤ 12) : pr T (pf_mk r n l []) := Or.inr ⟨vl_z ⟨hl, hr, by omega⟩ h, h8, h12⟩
