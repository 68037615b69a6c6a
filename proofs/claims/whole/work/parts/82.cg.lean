/-! What takes the place of a CUT -/
def ct (T : ftT) (n : Int) (A B : List pfN) : List pfN := pf_mk 9 n (br_l T 9 n (rl A) (rl B)) (A ++ B)
def rc (T : ftT) (n : Int) (X W : List pfN) (e : Bool) : List pfN := if e = true then ct T n X W else ct T n W X
/-- the CUT's formula on the side that is taken apart, on the other -/
def sa (n : Int) (e : Bool) : Int := if e = true then n else du n
def sb (n : Int) (e : Bool) : Int := if e = true then du n else n
def cl (T : ftT) (n : Int) (e : Bool) (la lb : List Int) : List Int := if e = true then br_l T 9 n la lb else br_l T 9 n lb la
theorem cl_cn {T : ftT} {n : Int} {e : Bool} {la lb : List Int} (x : Int) : (cl T n e la lb).count x = (la.count x - dl (sa n e) x) + (lb.count x - dl (sb n e) x) := by
  cases e
  · show (br_l T 9 n lb la).count x = (la.count x - dl (du n) x) + (lb.count x - dl n x)
    rw [b9, cn_all, cn_er, cn_er]
    omega
  · show (br_l T 9 n la lb).count x = (la.count x - dl n x) + (lb.count x - dl (du n) x)
    rw [b9, cn_all, cn_er, cn_er]
theorem cl_so {T : ftT} {n : Int} {e : Bool} {la lb : List Int} (ha : la.Pairwise (· ≤ ·)) (hb : lb.Pairwise (· ≤ ·)) : (cl T n e la lb).Pairwise (· ≤ ·) := by
  cases e
  · show (br_l T 9 n lb la).Pairwise (· ≤ ·)
    exact br_sorted hb
  · show (br_l T 9 n la lb).Pairwise (· ≤ ·)
    exact br_sorted ha
theorem cl_lv {T : ftT} (hp : ft_pr T) {n : Int} {e : Bool} {la lb : List Int} (hn : 0 ≤ n ∧ n < 20 + (T.length : Int)) (ha : sa n e ∈ la) (hb : sb n e ∈ lb) : ft_lvs T (cl T n e la lb) + 2 * ft_lv T n = ft_lvs T la + ft_lvs T lb := by
  have hd := ft_lv_du hp hn
  cases e
  · have h1 := lv_er (T := T) (show du n ∈ la from ha)
    have h2 := lv_er (T := T) (show n ∈ lb from hb)
    show ft_lvs T (br_l T 9 n lb la) + _ = _
    rw [b9, lv_all]
    omega
  · have h1 := lv_er (T := T) (show n ∈ la from ha)
    have h2 := lv_er (T := T) (show du n ∈ lb from hb)
    show ft_lvs T (br_l T 9 n la lb) + _ = _
    rw [b9, lv_all]
    omega
theorem cl_in {T : ftT} {n : Int} {e : Bool} {la lb : List Int} {P : Int → Prop} (hn : P n) (ha : ∀ x ∈ la, P x) (hb : ∀ x ∈ lb, P x) : ∀ x ∈ cl T n e la lb, P x := by
  cases e
  · show ∀ x ∈ br_l T 9 n lb la, P x
    exact br_in hn hb ha
  · show ∀ x ∈ br_l T 9 n la lb, P x
    exact br_in hn ha hb
theorem rc_l {T : ftT} {n : Int} {e : Bool} {X W : List pfN} : rl (rc T n X W e) = cl T n e (rl X) (rl W) := by cases e <;> rfl
theorem rc_vl {T : ftT} {n : Int} {e : Bool} {X W : List pfN} (hX : vl T X) (hW : vl T W) (hn : 0 ≤ n ∧ n < 20 + (T.length : Int)) (ha : sa n e ∈ rl X) (hb : sb n e ∈ rl W) (hl : ft_lvs T (cl T n e (rl X) (rl W)) + ft_lv T n ≤ 20) (ho : ft_ok T) : vl T (rc T n X W e) := by
  have h1 := (ft_lv_le ho n).1
  have q1 := vl_lnk hX
  have q2 := vl_lnk hW
  cases e
  · exact vl_t hW hX ⟨br_sorted q2.1, br_in hn q2.2.1 q1.2.1, by have : ft_lvs T (br_l T 9 n (rl W) (rl X)) + ft_lv T n ≤ 20 := hl; omega⟩ (Or.inr (Or.inr ⟨rfl, hn, hb, ha, hl⟩))
  · exact vl_t hX hW ⟨br_sorted q1.1, br_in hn q1.2.1 q2.2.1, by have : ft_lvs T (br_l T 9 n (rl X) (rl W)) + ft_lv T n ≤ 20 := hl; omega⟩ (Or.inr (Or.inr ⟨rfl, hn, ha, hb, hl⟩))
/-- the CUT goes above the last rule of S -/
def rai (T : ftT) (n : Int) (l : List Int) (e : Bool) (S W N : List pfN) : Prop :=
  (∃ m k, S = pf_mk 2 m k [] ∧ m = 19 ∧ N = pf_mk 2 m l []) ∨
  (∃ m k P Q, S = pf_mk 5 m k (P ++ Q) ∧ mkd P ∧ mkd Q ∧ (20 ≤ m ∧ m < 20 + (T.length : Int)) ∧ ft_fst T m ∈ cl T n e (rl P) (rl W) ∧ N = pf_mk 5 m l (rc T n P W e ++ rc T n Q W e)) ∨
  (∃ m k P Q, S = pf_mk 8 m k (P ++ Q) ∧ mkd P ∧ mkd Q ∧ (20 ≤ m ∧ m < 20 + (T.length : Int)) ∧ ft_fst T m ∈ rl P ∧ sa n e ∈ (rl P).erase (ft_fst T m) ∧ ft_fst T m ∈ cl T n e (rl P) (rl W) ∧ N = pf_mk 8 m l (rc T n P W e ++ Q)) ∨
  (∃ m k P Q, S = pf_mk 8 m k (P ++ Q) ∧ mkd P ∧ mkd Q ∧ (20 ≤ m ∧ m < 20 + (T.length : Int)) ∧ ft_fst T m ∈ rl P ∧ sa n e ∉ (rl P).erase (ft_fst T m) ∧ N = pf_mk 8 m l (P ++ rc T n Q W e)) ∨
  (∃ r m k P, S = pf_mk r m k P ∧ mkd P ∧ (r = 3 ∨ r = 4 ∨ r = 6 ∨ r = 7) ∧ br_1 T r m (cl T n e (rl P) (rl W)) ∧ N = pf_mk r m l (rc T n P W e))
theorem vo_1 {T : ftT} {r n : Int} {la : List Int} (h : vo T r n la) : br_1 T r n la := by
  rcases h with ⟨q, _⟩ | ⟨q, q2, q3, q4⟩ | ⟨q, q2, q3⟩ | ⟨q, q2, q3⟩
  · exact Or.inl q
  · exact Or.inr ⟨ft_sign_in (by rw [q2]; decide), Or.inl ⟨q, q3, q4⟩⟩
  · exact Or.inr ⟨ft_sign_in (by rw [q2]; decide), Or.inr (Or.inl ⟨q, q3⟩)⟩
  · exact Or.inr ⟨ft_sign_in (by rw [q2]; decide), Or.inr (Or.inr ⟨q, q3⟩)⟩
theorem cuts0 {r n : Int} {l : List Int} {K : List pfN} (h : pf_cuts (pf_mk r n l K) = 0) : r ≠ 9 ∧ pf_cuts K = 0 := by
  have := cuts_mk r n l K
  rw [h] at this
  by_cases q : r = 9
  · rw [if_pos q] at this; omega
  · rw [if_neg q] at this; exact ⟨q, by omega⟩
set_option maxHeartbeats 4000000 in
theorem rai_ok {T : ftT} {n : Int} {l : List Int} {e : Bool} {S W : List pfN} (hp : ft_pr T) (ho : ft_ok T) (hsm : ft_sm T) (hS : vl T S) (hW : vl T W) (hn : 0 ≤ n ∧ n < 20 + (T.length : Int)) (hc : pf_cuts S = 0) (h0 : (pf_at S 0).1 ≠ 0) (hf : (pf_at S 0).2.1 ≠ sa n e) (ha : sa n e ∈ rl S) (hb : sb n e ∈ rl W) (hl : l = cl T n e (rl S) (rl W)) (hlk : lnk T l) (h20 : ft_lvs T l + ft_lv T n ≤ 20) : ∃ N, rai T n l e S W N ∧ vl T N ∧ rl N = l := by
  have hlv := cl_lv hp hn ha hb
  rw [← hl] at hlv
  have hWl := vl_lnk hW
  have hcW : ∀ x, dl (sb n e) x ≤ (rl W).count x := cn_mem hb
  obtain ⟨r, m, k, hk, q⟩ := vl_out hS
  rcases q with ⟨rfl, hz⟩ | ⟨P, rfl, hP, hv, rfl⟩ | ⟨P, Q, rfl, hP, hQ, hv, rfl⟩
  · have hf : m ≠ sa n e := hf
    have ha : sa n e ∈ k := ha
    rcases hz with ⟨rfl, _⟩ | ⟨rfl, rfl, rfl⟩ | ⟨rfl, rfl, hm⟩
    · exact absurd rfl h0
    · exact absurd (List.mem_singleton.mp ha).symm hf
    · refine ⟨pf_mk 2 19 l [], Or.inl ⟨19, k, rfl, rfl, rfl⟩, vl_z hlk (Or.inr (Or.inr ⟨rfl, rfl, ?_⟩)), rfl⟩
      refine cn_in ?_
      have h1 : l.count 19 = (k.count 19 - dl (sa n e) 19) + ((rl W).count 19 - dl (sb n e) 19) := by rw [hl]; exact cl_cn 19
      rw [dl_n (show (19 : Int) ≠ sa n e from hf)] at h1
      have := cn_mem hm 19
      rw [dl_s] at this
      omega
  · have hf : m ≠ sa n e := hf
    have ha : sa n e ∈ br_l T r m (rl P) [] := ha
    have hPl := vl_lnk hP
    -- what holds of all four
    have key : ∀ (hr : r = 3 ∨ r = 4 ∨ r = 6 ∨ r = 7), sa n e ∈ rl P → ft_lvs T (rl P) ≤ ft_lvs T (br_l T r m (rl P) []) → vo T r m (cl T n e (rl P) (rl W)) → (∀ x, (br_l T r m (cl T n e (rl P) (rl W)) []).count x = (cl T n e (br_l T r m (rl P) []) (rl W)).count x) → ∃ N, rai T n l e (pf_mk r m (br_l T r m (rl P) []) P) W N ∧ vl T N ∧ rl N = l := by
      intro hr haP hle hvo hcn
      have hlv2 := cl_lv hp hn haP hb
      have hlv1 : ft_lvs T l + 2 * ft_lv T n = ft_lvs T (br_l T r m (rl P) []) + ft_lvs T (rl W) := hlv
      have hC := rc_vl (e := e) hP hW hn haP hb (by omega) ho
      have el : br_l T r m (rl (rc T n P W e)) [] = l := by
        rw [rc_l, hl]
        exact sor_eq (br_sorted (cl_so hPl.1 hWl.1)) (cl_so (br_sorted hPl.1) hWl.1) hcn
      refine ⟨pf_mk r m l (rc T n P W e), Or.inr (Or.inr (Or.inr (Or.inr ⟨r, m, _, P, rfl, vl_mkd hP, hr, vo_1 hvo, rfl⟩))), ?_, rfl⟩
      have := vl_o (r := r) (n := m) hC (by rw [el]; exact hlk) (by rw [rc_l]; exact hvo)
      rw [el] at this
      exact this
    rcases hv with ⟨rfl, rfl⟩ | ⟨rfl, hsg, m1, m2⟩ | ⟨rfl, hsg, m1⟩ | ⟨rfl, hsg, m1⟩
    · rw [b3] at ha
      have haP : sa n e ∈ rl P := by
        rcases li_ins_mem.mp ha with q | q
        · exact absurd q.symm hf
        · exact q
      refine key (Or.inl rfl) haP ?_ (Or.inl ⟨rfl, rfl⟩) (fun x => ?_)
      · rw [b3, ft_lvs_ins]
        have := (ft_lv_le ho 17).1
        omega
      · have z1 := cn_mem haP x
        have z2 := hcW x
        rw [b3, cn_ins, cl_cn, cl_cn, b3, cn_ins]
        omega
    · have hm := ft_sign_in (T := T) (n := m) (by rw [hsg]; decide)
      have hs := hsm m hm
      rw [b4] at ha
      have haP : sa n e ∈ ((rl P).erase (ft_fst T m)).erase (ft_snd T m) := by
        rcases li_ins_mem.mp ha with q | q
        · exact absurd q.symm hf
        · exact q
      have g1 := fun x => cn_mem m1 x
      have g2 := fun x => cn_mem m2 x
      have g3 := fun x => cn_mem haP x
      simp only [cn_er] at g2 g3
      have l1 := lv_er (T := T) m1
      have l2 := lv_er (T := T) m2
      refine key (Or.inr (Or.inl rfl)) (List.mem_of_mem_erase (List.mem_of_mem_erase haP)) ?_ (Or.inr (Or.inl ⟨rfl, hsg, ?_, ?_⟩)) (fun x => ?_)
      · rw [b4, ft_lvs_ins]
        omega
      · refine cn_in ?_
        rw [cl_cn]
        have z1 := g1 (ft_fst T m)
        have z2 := g2 (ft_fst T m)
        have z3 := g3 (ft_fst T m)
        have z4 := hcW (ft_fst T m)
        rw [dl_s] at z1 z2 z3
        omega
      · refine cn_in ?_
        rw [cn_er, cl_cn]
        have z1 := g1 (ft_snd T m)
        have z2 := g2 (ft_snd T m)
        have z3 := g3 (ft_snd T m)
        have z4 := hcW (ft_snd T m)
        rw [dl_s] at z2 z3
        omega
      · have z1 := g1 x
        have z2 := g2 x
        have z3 := g3 x
        have z4 := hcW x
        rw [b4, cn_ins, cn_er, cn_er, cl_cn, cl_cn, b4, cn_ins, cn_er, cn_er]
        omega
    · have hm := ft_sign_in (T := T) (n := m) (by rw [hsg]; decide)
      have hs := hsm m hm
      have hs1 := (ft_lv_le ho (ft_snd T m)).1
      rw [b6] at ha
      have haP : sa n e ∈ (rl P).erase (ft_fst T m) := by
        rcases li_ins_mem.mp ha with q | q
        · exact absurd q.symm hf
        · exact q
      have g1 := fun x => cn_mem m1 x
      have g3 := fun x => cn_mem haP x
      simp only [cn_er] at g3
      have l1 := lv_er (T := T) m1
      refine key (Or.inr (Or.inr (Or.inl rfl))) (List.mem_of_mem_erase haP) ?_ (Or.inr (Or.inr (Or.inl ⟨rfl, hsg, ?_⟩))) (fun x => ?_)
      · rw [b6, ft_lvs_ins]
        omega
      · refine cn_in ?_
        rw [cl_cn]
        have z1 := g1 (ft_fst T m)
        have z3 := g3 (ft_fst T m)
        have z4 := hcW (ft_fst T m)
        rw [dl_s] at z1 z3
        omega
      · have z1 := g1 x
        have z3 := g3 x
        have z4 := hcW x
        rw [b6, cn_ins, cn_er, cl_cn, cl_cn, b6, cn_ins, cn_er]
        omega
    · have hm := ft_sign_in (T := T) (n := m) (by rw [hsg]; decide)
      have hs := hsm m hm
      have hs1 := (ft_lv_le ho (ft_fst T m)).1
      rw [b7] at ha
      have haP : sa n e ∈ (rl P).erase (ft_snd T m) := by
        rcases li_ins_mem.mp ha with q | q
        · exact absurd q.symm hf
        · exact q
      have g1 := fun x => cn_mem m1 x
      have g3 := fun x => cn_mem haP x
      simp only [cn_er] at g3
      have l1 := lv_er (T := T) m1
      refine key (Or.inr (Or.inr (Or.inr rfl))) (List.mem_of_mem_erase haP) ?_ (Or.inr (Or.inr (Or.inr ⟨rfl, hsg, ?_⟩))) (fun x => ?_)
      · rw [b7, ft_lvs_ins]
        omega
      · refine cn_in ?_
        rw [cl_cn]
        have z1 := g1 (ft_snd T m)
        have z3 := g3 (ft_snd T m)
        have z4 := hcW (ft_snd T m)
        rw [dl_s] at z1 z3
        omega
      · have z1 := g1 x
        have z3 := g3 x
        have z4 := hcW x
        rw [b7, cn_ins, cn_er, cl_cn, cl_cn, b7, cn_ins, cn_er]
        omega
  · have hf : m ≠ sa n e := hf
    have ha : sa n e ∈ br_l T r m (rl P) (rl Q) := ha
    have hPl := vl_lnk hP
    have hQl := vl_lnk hQ
    have hr9 := (cuts0 hc).1
    have hlv1 : ft_lvs T l + 2 * ft_lv T n = ft_lvs T (br_l T r m (rl P) (rl Q)) + ft_lvs T (rl W) := hlv
    have nP := lv_nn ho (rl P)
    have nQ := lv_nn ho (rl Q)
    rcases hv with ⟨rfl, hsg, m1, m2, heq⟩ | ⟨rfl, hsg, m1, m2⟩ | ⟨rfl, _⟩
    · have hm := ft_sign_in (T := T) (n := m) (by rw [hsg]; decide)
      have hs := hsm m hm
      have hs1 := (ft_lv_le ho (ft_fst T m)).1
      have hs2 := (ft_lv_le ho (ft_snd T m)).1
      rw [b5] at ha hlv1
      have haP : sa n e ∈ (rl P).erase (ft_fst T m) := by
        rcases li_ins_mem.mp ha with q | q
        · exact absurd q.symm hf
        · exact q
      have haQ : sa n e ∈ (rl Q).erase (ft_snd T m) := by rw [← heq]; exact haP
      have g1 := fun x => cn_mem m1 x
      have g2 := fun x => cn_mem m2 x
      have g3 := fun x => cn_mem haP x
      have g4 := fun x => cn_mem haQ x
      have g5 : ∀ x, (rl P).count x - dl (ft_fst T m) x = (rl Q).count x - dl (ft_snd T m) x := fun x => by rw [← cn_er, ← cn_er, heq]
      simp only [cn_er] at g3 g4
      have l1 := lv_er (T := T) m1
      have l2 := lv_er (T := T) m2
      rw [ft_lvs_ins] at hlv1
      have haP' := List.mem_of_mem_erase haP
      have haQ' := List.mem_of_mem_erase haQ
      have lP := cl_lv hp hn haP' hb
      have lQ := cl_lv hp hn haQ' hb
      have heq2 : ft_lvs T ((rl P).erase (ft_fst T m)) = ft_lvs T ((rl Q).erase (ft_snd T m)) := by rw [heq]
      have hC := rc_vl (e := e) hP hW hn haP' hb (by omega) ho
      have hD := rc_vl (e := e) hQ hW hn haQ' hb (by omega) ho
      have f1 : ft_fst T m ∈ cl T n e (rl P) (rl W) := by
        refine cn_in ?_
        rw [cl_cn]
        have z1 := g1 (ft_fst T m)
        have z3 := g3 (ft_fst T m)
        rw [dl_s] at z1 z3
        omega
      have f2 : ft_snd T m ∈ cl T n e (rl Q) (rl W) := by
        refine cn_in ?_
        rw [cl_cn]
        have z1 := g2 (ft_snd T m)
        have z3 := g4 (ft_snd T m)
        rw [dl_s] at z1 z3
        omega
      have f3 : (cl T n e (rl P) (rl W)).erase (ft_fst T m) = (cl T n e (rl Q) (rl W)).erase (ft_snd T m) := by
        refine sor_eq (er_sorted _ (cl_so hPl.1 hWl.1)) (er_sorted _ (cl_so hQl.1 hWl.1)) (fun x => ?_)
        have z1 := g1 x
        have z2 := g2 x
        have z3 := g3 x
        have z4 := g4 x
        have z5 := g5 x
        rw [cn_er, cn_er, cl_cn, cl_cn]
        omega
      have el : br_l T 5 m (rl (rc T n P W e)) (rl (rc T n Q W e)) = l := by
        rw [rc_l, rc_l, hl, rl_mk]
        refine sor_eq (br_sorted (cl_so hPl.1 hWl.1)) (cl_so (br_sorted hPl.1) hWl.1) (fun x => ?_)
        have z1 := g1 x
        have z3 := g3 x
        have z4 := hcW x
        rw [b5, cn_ins, cn_er, cl_cn, cl_cn, b5, cn_ins, cn_er]
        omega
      refine ⟨pf_mk 5 m l (rc T n P W e ++ rc T n Q W e), Or.inr (Or.inl ⟨m, _, P, Q, rfl, vl_mkd hP, vl_mkd hQ, hm, f1, rfl⟩), ?_, rfl⟩
      have := vl_t (r := 5) (n := m) hC hD (by rw [el]; exact hlk) (Or.inl ⟨rfl, hsg, by rw [rc_l]; exact f1, by rw [rc_l]; exact f2, by rw [rc_l, rc_l]; exact f3⟩)
      rw [el] at this
      exact this
    · have hm := ft_sign_in (T := T) (n := m) (by rw [hsg]; decide)
      have hs := hsm m hm
      rw [b8] at ha hlv1
      rw [ft_lvs_ins, lv_all] at hlv1
      have l1 := lv_er (T := T) m1
      have l2 := lv_er (T := T) m2
      have g1 := fun x => cn_mem m1 x
      have g2 := fun x => cn_mem m2 x
      by_cases hin : sa n e ∈ (rl P).erase (ft_fst T m)
      · have haP' := List.mem_of_mem_erase hin
        have g3 := fun x => cn_mem hin x
        simp only [cn_er] at g3
        have lP := cl_lv hp hn haP' hb
        have hC := rc_vl (e := e) hP hW hn haP' hb (by omega) ho
        have f1 : ft_fst T m ∈ cl T n e (rl P) (rl W) := by
          refine cn_in ?_
          rw [cl_cn]
          have z1 := g1 (ft_fst T m)
          have z3 := g3 (ft_fst T m)
          rw [dl_s] at z1 z3
          omega
        have el : br_l T 8 m (rl (rc T n P W e)) (rl Q) = l := by
          rw [rc_l, hl, rl_mk]
          refine sor_eq (br_sorted (cl_so hPl.1 hWl.1)) (cl_so (br_sorted hPl.1) hWl.1) (fun x => ?_)
          have z1 := g1 x
          have z2 := g2 x
          have z3 := g3 x
          have z4 := hcW x
          rw [b8, cn_ins, cn_all, cn_er, cn_er, cl_cn, cl_cn, b8, cn_ins, cn_all, cn_er, cn_er]
          omega
        refine ⟨pf_mk 8 m l (rc T n P W e ++ Q), Or.inr (Or.inr (Or.inl ⟨m, _, P, Q, rfl, vl_mkd hP, vl_mkd hQ, hm, m1, hin, f1, rfl⟩)), ?_, rfl⟩
        have := vl_t (r := 8) (n := m) hC hQ (by rw [el]; exact hlk) (Or.inr (Or.inl ⟨rfl, hsg, by rw [rc_l]; exact f1, m2⟩))
        rw [el] at this
        exact this
      · have haQ : sa n e ∈ (rl Q).erase (ft_snd T m) := by
          rcases li_ins_mem.mp ha with q | q
          · exact absurd q.symm hf
          · rcases (ia_mem _ _).mp q with q | q
            · exact absurd q hin
            · exact q
        have haQ' := List.mem_of_mem_erase haQ
        have g3 := fun x => cn_mem haQ x
        simp only [cn_er] at g3
        have lQ := cl_lv hp hn haQ' hb
        have hC := rc_vl (e := e) hQ hW hn haQ' hb (by omega) ho
        have f1 : ft_snd T m ∈ cl T n e (rl Q) (rl W) := by
          refine cn_in ?_
          rw [cl_cn]
          have z1 := g2 (ft_snd T m)
          have z3 := g3 (ft_snd T m)
          rw [dl_s] at z1 z3
          omega
        have el : br_l T 8 m (rl P) (rl (rc T n Q W e)) = l := by
          rw [rc_l, hl, rl_mk]
          refine sor_eq (br_sorted hPl.1) (cl_so (br_sorted hPl.1) hWl.1) (fun x => ?_)
          have z1 := g1 x
          have z2 := g2 x
          have z3 := g3 x
          have z4 := hcW x
          rw [b8, cn_ins, cn_all, cn_er, cn_er, cl_cn, cl_cn, b8, cn_ins, cn_all, cn_er, cn_er]
          omega
        refine ⟨pf_mk 8 m l (P ++ rc T n Q W e), Or.inr (Or.inr (Or.inr (Or.inl ⟨m, _, P, Q, rfl, vl_mkd hP, vl_mkd hQ, hm, m1, hin, rfl⟩))), ?_, rfl⟩
        have := vl_t (r := 8) (n := m) hP hC (by rw [el]; exact hlk) (Or.inr (Or.inl ⟨rfl, hsg, m1, by rw [rc_l]; exact f1⟩))
        rw [el] at this
        exact this
    · exact absurd rfl hr9
