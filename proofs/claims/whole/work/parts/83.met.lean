/-! Both premises of a CUT are by rules of its formula; a STEP -/
theorem vl_inv0 {T : ftT} {r n : Int} {l : List Int} (h : vl T (pf_mk r n l [])) : lnk T l ∧ vz r n l := by
  obtain ⟨r', n', l', hl, q⟩ := vl_out h
  rcases q with ⟨h1, h2⟩ | ⟨A, h1, h2, _⟩ | ⟨A, B, h1, h2, _⟩
  · obtain ⟨rfl, rfl, rfl, -⟩ := mk_inj h1; exact ⟨hl, h2⟩
  · obtain ⟨-, -, -, e⟩ := mk_inj h1; exact absurd e.symm (mkd_ne (vl_mkd h2))
  · obtain ⟨-, -, -, e⟩ := mk_inj h1; exact absurd (List.append_eq_nil_iff.mp e.symm).1 (mkd_ne (vl_mkd h2))
theorem vl_inv1 {T : ftT} {r n : Int} {l : List Int} {A : List pfN} (hA : mkd A) (h : vl T (pf_mk r n l A)) : lnk T l ∧ vl T A ∧ vo T r n (rl A) ∧ l = br_l T r n (rl A) [] := by
  obtain ⟨r', n', l', hl, q⟩ := vl_out h
  rcases q with ⟨h1, h2⟩ | ⟨A', h1, h2, h3, h4⟩ | ⟨A', B', h1, h2, h3, h4⟩
  · obtain ⟨-, -, -, e⟩ := mk_inj h1; exact absurd e (mkd_ne hA)
  · obtain ⟨rfl, rfl, rfl, rfl⟩ := mk_inj h1; exact ⟨hl, h2, h3, h4⟩
  · obtain ⟨-, -, -, e⟩ := mk_inj h1; exact (mkd_no hA (vl_mkd h2) (vl_mkd h3) e).elim
theorem vl_inv2 {T : ftT} {r n : Int} {l : List Int} {A B : List pfN} (hA : mkd A) (hB : mkd B) (h : vl T (pf_mk r n l (A ++ B))) : lnk T l ∧ vl T A ∧ vl T B ∧ vt T r n (rl A) (rl B) ∧ l = br_l T r n (rl A) (rl B) := by
  obtain ⟨r', n', l', hl, q⟩ := vl_out h
  rcases q with ⟨h1, h2⟩ | ⟨A', h1, h2, h3, h4⟩ | ⟨A', B', h1, h2, h3, h4, h5⟩
  · obtain ⟨-, -, -, e⟩ := mk_inj h1; exact absurd (List.append_eq_nil_iff.mp e).1 (mkd_ne hA)
  · obtain ⟨-, -, -, e⟩ := mk_inj h1; exact (mkd_no (vl_mkd h2) hA hB e.symm).elim
  · obtain ⟨rfl, rfl, rfl, e⟩ := mk_inj h1
    obtain ⟨rfl, rfl⟩ := mkd_app hA (vl_mkd h2) e
    exact ⟨hl, h2, h3, h4, h5⟩
theorem du_c {T : ftT} (hp : ft_pr T) {f : Int} (he : f % 2 = 0) (hf : 20 ≤ f ∧ f < 20 + (T.length : Int)) : (20 ≤ du f ∧ du f < 20 + (T.length : Int)) ∧ ft_sign T (du f) = ft_sign T f + 1 ∧ ft_fst T (du f) = du (ft_fst T f) ∧ ft_snd T (du f) = du (ft_snd T f) ∧ (ft_sign T f = 0 ∨ ft_sign T f = 2) := by
  have hev := hp.1
  have hd : 20 ≤ du f ∧ du f < 20 + (T.length : Int) := by unfold du; rw [if_pos he]; omega
  obtain ⟨p, h1, h2, h3, h4, h5, -⟩ := ft_pair hp hf
  obtain ⟨p', g1, g2, g3, g4, -, g5⟩ := ft_pair hp hd
  have e : p' = p := by
    have : (du f - 20) / 2 = (f - 20) / 2 := by unfold du; rw [if_pos he]; omega
    omega
  subst e
  have h5 := h5 he
  have g5 := g5 (by unfold du; rw [if_pos he]; omega)
  have h6 := (hp.2 p' h1).1
  exact ⟨hd, by rw [g5.1, h5.1], by rw [g5.2.1, h5.2.1], by rw [g5.2.2, h5.2.2], by rw [h5.1]; exact h6⟩
def met (T : ftT) (l : List Int) (E O N : List pfN) : Prop :=
  (∃ k1 k2 P, E = pf_mk 1 16 k1 [] ∧ O = pf_mk 3 17 k2 P ∧ mkd P ∧ N = P) ∨
  (∃ f k1 k2 P P' Q', E = pf_mk 6 f k1 P ∧ mkd P ∧ O = pf_mk 5 (du f) k2 (P' ++ Q') ∧ mkd P' ∧ mkd Q' ∧ (20 ≤ f ∧ f < 20 + (T.length : Int)) ∧ N = ct T (ft_fst T f) P P') ∨
  (∃ f k1 k2 P P' Q', E = pf_mk 7 f k1 P ∧ mkd P ∧ O = pf_mk 5 (du f) k2 (P' ++ Q') ∧ mkd P' ∧ mkd Q' ∧ (20 ≤ f ∧ f < 20 + (T.length : Int)) ∧ N = ct T (ft_snd T f) P Q') ∨
  (∃ f k1 k2 P Q P', E = pf_mk 8 f k1 (P ++ Q) ∧ mkd P ∧ mkd Q ∧ O = pf_mk 4 (du f) k2 P' ∧ mkd P' ∧ (20 ≤ f ∧ f < 20 + (T.length : Int)) ∧ N = pf_mk 9 (ft_fst T f) l (P ++ ct T (ft_snd T f) Q P'))
theorem sign_lo {T : ftT} {n : Int} (h : n < 20) : ft_sign T n = -1 := by
  unfold ft_sign
  rw [ft_at_none (by omega)]
set_option maxHeartbeats 4000000 in
theorem met_ok {T : ftT} {l : List Int} {f : Int} {E O : List pfN} (hp : ft_pr T) (ho : ft_ok T) (hcl : ft_cl T) (hsm : ft_sm T) (hE : vl T E) (hO : vl T O) (he : f % 2 = 0) (hcE : pf_cuts E = 0) (hcO : pf_cuts O = 0) (h0 : (pf_at E 0).1 ≠ 0) (h0' : (pf_at O 0).1 ≠ 0) (hfE : (pf_at E 0).2.1 = f) (hfO : (pf_at O 0).2.1 = du f) (hlk : lnk T l) (hcn : ∀ x, l.count x = ((rl E).count x - dl f x) + ((rl O).count x - dl (du f) x)) (h20 : ft_lvs T l + ft_lv T f ≤ 20) (hlv : ft_lvs T l + 2 * ft_lv T f = ft_lvs T (rl E) + ft_lvs T (rl O)) : ∃ N, met T l E O N ∧ vl T N ∧ rl N = l := by
  obtain ⟨r, m, k, hk, q⟩ := vl_out hE
  obtain ⟨r', m', k', hk', q'⟩ := vl_out hO
  have nO := lv_nn ho (rl O)
  rcases q with ⟨rfl, hz⟩ | ⟨P, rfl, hP, hv, rfl⟩ | ⟨P, Q, rfl, hP, hQ, hv, rfl⟩
  · have hfE : m = f := hfE
    subst hfE
    rcases hz with ⟨rfl, _⟩ | ⟨rfl, rfl, rfl⟩ | ⟨rfl, rfl, _⟩
    · exact absurd rfl h0
    · -- ONE and BOTTOM
      have d16 : du 16 = 17 := rfl
      rw [d16] at hfO hcn
      rcases q' with ⟨rfl, hz'⟩ | ⟨P', rfl, hP', hv', rfl⟩ | ⟨P', Q', rfl, hP', hQ', hv', rfl⟩
      · have hfO : m' = 17 := hfO
        subst hfO
        rcases hz' with ⟨rfl, _⟩ | ⟨_, q, _⟩ | ⟨_, q, _⟩
        · exact absurd rfl h0'
        · exact absurd q (by decide)
        · exact absurd q (by decide)
      · have hfO : m' = 17 := hfO
        subst hfO
        rcases hv' with ⟨rfl, _⟩ | ⟨_, q, _⟩ | ⟨_, q, _⟩ | ⟨_, q, _⟩
        · refine ⟨P', Or.inl ⟨_, _, P', rfl, rfl, vl_mkd hP', rfl⟩, hP', sor_eq (vl_lnk hP').1 hlk.1 (fun x => ?_)⟩
          rw [hcn, rl_mk, rl_mk, b3, cn_ins]
          have e : ([16] : List Int).count x = dl 16 x := by
            unfold dl
            rw [List.count_cons, List.count_nil]
            by_cases h : x = 16
            · subst h; rfl
            · have : ((16 : Int) == x) = false := by simpa using fun q => h q.symm
              simp [this, h]
          rw [e]
          omega
        · rw [sign_lo (by decide)] at q; exact absurd q (by decide)
        · rw [sign_lo (by decide)] at q; exact absurd q (by decide)
        · rw [sign_lo (by decide)] at q; exact absurd q (by decide)
      · have hfO : m' = 17 := hfO
        subst hfO
        rcases hv' with ⟨_, q, _⟩ | ⟨_, q, _⟩ | ⟨rfl, _⟩
        · rw [sign_lo (by decide)] at q; exact absurd q (by decide)
        · rw [sign_lo (by decide)] at q; exact absurd q (by decide)
        · exact absurd rfl (cuts0 hcO).1
    · exact absurd he (by decide)
  · have hfE : m = f := hfE
    subst hfE
    -- a rule of one premise with an even formula: LEFT, RIGHT
    have hPl := vl_lnk hP
    have side : ft_sign T m = 2 → ∃ P' Q', pf_mk r' m' k' (P' ++ Q') = O ∧ r' = 5 ∧ m' = du m ∧ vl T P' ∧ vl T Q' ∧ k' = br_l T 5 (du m) (rl P') (rl Q') ∧ du (ft_fst T m) ∈ rl P' ∧ du (ft_snd T m) ∈ rl Q' ∧ (rl P').erase (du (ft_fst T m)) = (rl Q').erase (du (ft_snd T m)) := by
      intro hsg
      have hm := ft_sign_in (T := T) (n := m) (by rw [hsg]; decide)
      obtain ⟨d1, d2, d3, d4, -⟩ := du_c hp he hm
      rw [hsg] at d2
      rcases q' with ⟨rfl, hz'⟩ | ⟨P', rfl, hP', hv', rfl⟩ | ⟨P', Q', rfl, hP', hQ', hv', rfl⟩
      · have hfO : m' = du m := hfO
        rcases hz' with ⟨rfl, _⟩ | ⟨_, q, _⟩ | ⟨_, q, _⟩
        · exact absurd rfl h0'
        · omega
        · omega
      · have hfO : m' = du m := hfO
        rw [hfO] at hv'
        rcases hv' with ⟨_, q⟩ | ⟨_, q, _⟩ | ⟨_, q, _⟩ | ⟨_, q, _⟩
        · omega
        · omega
        · omega
        · omega
      · have hfO : m' = du m := hfO
        rw [hfO] at hv'
        rcases hv' with ⟨rfl, q, q1, q2, q3⟩ | ⟨_, q, _⟩ | ⟨rfl, _⟩
        · rw [d3] at q1 q3
          rw [d4] at q2 q3
          exact ⟨P', Q', rfl, rfl, hfO, hP', hQ', by have e : m' = du m := hfO; rw [e], q1, q2, q3⟩
        · omega
        · exact absurd rfl (cuts0 hcO).1
    rcases hv with ⟨rfl, rfl⟩ | ⟨rfl, hsg, _⟩ | ⟨rfl, hsg, m1⟩ | ⟨rfl, hsg, m1⟩
    · exact absurd he (by decide)
    · exfalso
      have hm := ft_sign_in (T := T) (n := m) (by rw [hsg]; decide)
      obtain ⟨-, -, -, -, d5⟩ := du_c hp he hm
      omega
    · obtain ⟨P', Q', hO', rfl, rfl, hP', hQ', rfl, n1, n2, n3⟩ := side hsg
      have hm := ft_sign_in (T := T) (n := m) (by rw [hsg]; decide)
      obtain ⟨d1, d2, d3, d4, -⟩ := du_c hp he hm
      have hs := hsm m hm
      have hr := ft_cl_at hcl hm
      have hs2 := (ft_lv_le ho (ft_snd T m)).1
      subst hO'
      have hP'l := vl_lnk hP'
      have g1 := fun x => cn_mem m1 x
      have g2 := fun x => cn_mem n1 x
      have el : br_l T 9 (ft_fst T m) (rl P) (rl P') = l := by
        refine sor_eq (br_sorted hPl.1) hlk.1 (fun x => ?_)
        have z1 := g1 x
        have z2 := g2 x
        rw [hcn, rl_mk, rl_mk, b6, b5, b9, cn_all, cn_er, cn_er, cn_ins, cn_ins, cn_er, cn_er, d3]
        omega
      have hv : vl T (ct T (ft_fst T m) P P') := vl_t hP hP' (by rw [el]; exact hlk) (Or.inr (Or.inr ⟨rfl, hr.2.1, m1, n1, by rw [el]; omega⟩))
      exact ⟨_, Or.inr (Or.inl ⟨m, _, _, P, P', Q', rfl, vl_mkd hP, rfl, vl_mkd hP', vl_mkd hQ', hm, rfl⟩), hv, by rw [← el]; rfl⟩
    · obtain ⟨P', Q', hO', rfl, rfl, hP', hQ', rfl, n1, n2, n3⟩ := side hsg
      have hm := ft_sign_in (T := T) (n := m) (by rw [hsg]; decide)
      obtain ⟨d1, d2, d3, d4, -⟩ := du_c hp he hm
      have hs := hsm m hm
      have hr := ft_cl_at hcl hm
      have hs2 := (ft_lv_le ho (ft_fst T m)).1
      subst hO'
      have hQ'l := vl_lnk hQ'
      have g1 := fun x => cn_mem m1 x
      have g2 := fun x => cn_mem n2 x
      have g3 := fun x => cn_mem n1 x
      have g5 : ∀ x, (rl P').count x - dl (du (ft_fst T m)) x = (rl Q').count x - dl (du (ft_snd T m)) x := fun x => by rw [← cn_er, ← cn_er, n3]
      have el : br_l T 9 (ft_snd T m) (rl P) (rl Q') = l := by
        refine sor_eq (br_sorted hPl.1) hlk.1 (fun x => ?_)
        have z1 := g1 x
        have z2 := g2 x
        have z3 := g3 x
        have z5 := g5 x
        rw [hcn, rl_mk, rl_mk, b7, b5, b9, cn_all, cn_er, cn_er, cn_ins, cn_ins, cn_er, cn_er, d3]
        omega
      have hv : vl T (ct T (ft_snd T m) P Q') := vl_t hP hQ' (by rw [el]; exact hlk) (Or.inr (Or.inr ⟨rfl, hr.2.2, m1, n2, by rw [el]; omega⟩))
      exact ⟨_, Or.inr (Or.inr (Or.inl ⟨m, _, _, P, P', Q', rfl, vl_mkd hP, rfl, vl_mkd hP', vl_mkd hQ', hm, rfl⟩)), hv, by rw [← el]; rfl⟩
  · have hfE : m = f := hfE
    subst hfE
    have hPl := vl_lnk hP
    have hQl := vl_lnk hQ
    rcases hv with ⟨rfl, hsg, _⟩ | ⟨rfl, hsg, m1, m2⟩ | ⟨rfl, _⟩
    · exfalso
      have hm := ft_sign_in (T := T) (n := m) (by rw [hsg]; decide)
      obtain ⟨-, -, -, -, d5⟩ := du_c hp he hm
      omega
    · have hm := ft_sign_in (T := T) (n := m) (by rw [hsg]; decide)
      obtain ⟨d1, d2, d3, d4, -⟩ := du_c hp he hm
      have hs := hsm m hm
      have hr := ft_cl_at hcl hm
      rw [hsg] at d2
      rcases q' with ⟨rfl, hz'⟩ | ⟨P', rfl, hP', hv', rfl⟩ | ⟨P', Q', rfl, hP', hQ', hv', rfl⟩
      · exfalso
        have hfO : m' = du m := hfO
        rcases hz' with ⟨rfl, _⟩ | ⟨_, q, _⟩ | ⟨_, q, _⟩
        · exact absurd rfl h0'
        · omega
        · omega
      · have hfO : m' = du m := hfO
        subst hfO
        rcases hv' with ⟨_, q⟩ | ⟨rfl, q, n1, n2⟩ | ⟨_, q, _⟩ | ⟨_, q, _⟩
        · omega
        · rw [d3] at n1 n2
          rw [d4] at n2
          have hP'l := vl_lnk hP'
          have g1 := fun x => cn_mem m1 x
          have g2 := fun x => cn_mem m2 x
          have g3 := fun x => cn_mem n1 x
          have g4 := fun x => cn_mem n2 x
          simp only [cn_er] at g4
          have n2' := List.mem_of_mem_erase n2
          have ld1 := ft_lv_du hp hr.2.1
          have ld2 := ft_lv_du hp hr.2.2
          have lQ := lv_er (T := T) m2
          have lP' := lv_er (T := T) n2'
          have lP1 := lv_er (T := T) m1
          have nP := lv_nn ho ((rl P).erase (ft_fst T m))
          -- the inner one
          have li : ft_lvs T (br_l T 9 (ft_snd T m) (rl Q) (rl P')) + ft_lv T (ft_snd T m) ≤ 20 := by
            rw [b9, lv_all]
            rw [rl_mk, rl_mk, b8, b4, ft_lvs_ins, ft_lvs_ins, lv_all, d3, d4] at hlv
            have l3 := lv_er (T := T) n1
            have l4 := lv_er (T := T) n2
            have l5 := ft_lv_du hp (n := m) ⟨by omega, hm.2⟩
            omega
          have h1 := (ft_lv_le ho (ft_snd T m)).1
          have hvi : vl T (ct T (ft_snd T m) Q P') := vl_t hQ hP' ⟨br_sorted hQl.1, br_in hr.2.2 hQl.2.1 hP'l.2.1, by omega⟩ (Or.inr (Or.inr ⟨rfl, hr.2.2, m2, n2', li⟩))
          have mi : du (ft_fst T m) ∈ br_l T 9 (ft_snd T m) (rl Q) (rl P') := by
            refine cn_in ?_
            have z3 := g3 (du (ft_fst T m))
            have z4 := g4 (du (ft_fst T m))
            rw [dl_s] at z3 z4
            rw [b9, cn_all, cn_er, cn_er]
            omega
          have el : br_l T 9 (ft_fst T m) (rl P) (rl (ct T (ft_snd T m) Q P')) = l := by
            refine sor_eq (br_sorted hPl.1) hlk.1 (fun x => ?_)
            have z1 := g1 x
            have z2 := g2 x
            have z3 := g3 x
            have z4 := g4 x
            unfold ct
            rw [hcn, rl_mk, rl_mk, rl_mk, b8, b4, b9, b9, cn_all, cn_er, cn_er, cn_all, cn_er, cn_er, cn_ins, cn_ins, cn_all, cn_er, cn_er, cn_er, cn_er, d3, d4]
            omega
          have hs2 := (ft_lv_le ho (ft_snd T m)).1
          have hv := vl_t (r := 9) (n := ft_fst T m) hP hvi (by rw [el]; exact hlk) (Or.inr (Or.inr ⟨rfl, hr.2.1, m1, mi, by rw [el]; omega⟩))
          rw [el] at hv
          exact ⟨_, Or.inr (Or.inr (Or.inr ⟨m, _, _, P, Q, P', rfl, vl_mkd hP, vl_mkd hQ, rfl, vl_mkd hP', hm, rfl⟩)), hv, rfl⟩
        · omega
        · omega
      · exfalso
        have hfO : m' = du m := hfO
        rw [hfO] at hv'
        rcases hv' with ⟨_, q, _⟩ | ⟨_, q, _⟩ | ⟨rfl, _⟩
        · omega
        · omega
        · exact absurd rfl (cuts0 hcO).1
    · exact absurd rfl (cuts0 hcE).1
