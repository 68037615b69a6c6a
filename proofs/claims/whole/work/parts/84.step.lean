/-! A STEP of a proof -/
def cg (T : ftT) (n : Int) (l : List Int) (A B N : List pfN) : Prop :=
  ((pf_at A 0).1 = 0 ∧ N = B) ∨ ((pf_at A 0).1 ≠ 0 ∧ (pf_at B 0).1 = 0 ∧ N = A) ∨
  (((pf_at A 0).1 ≠ 0 ∧ (pf_at B 0).1 ≠ 0) ∧ (((pf_at A 0).2.1 ≠ n ∧ rai T n l true A B N) ∨ ((pf_at A 0).2.1 = n ∧ (pf_at B 0).2.1 ≠ du n ∧ rai T n l false B A N) ∨
   ((pf_at A 0).2.1 = n ∧ (pf_at B 0).2.1 = du n ∧ ((n % 2 = 0 ∧ met T l A B N) ∨ (n % 2 ≠ 0 ∧ met T l B A N)))))
theorem ax_cn {m : Int} (x : Int) : ([m, m + 1] : List Int).count x = dl m x + dl (m + 1) x := by
  have c1 : ∀ a : Int, (if (a == x) = true then 1 else 0) = dl a x := by
    intro a
    unfold dl
    by_cases h : x = a
    · subst h; simp
    · have : (a == x) = false := by simpa using fun q => h q.symm
      simp [this, h]
  rw [List.count_cons, List.count_cons, List.count_nil, c1, c1]
  omega
/-- an axiom on one side: the other side's conclusion is the CUT's -/
theorem ax_l {T : ftT} {n : Int} {e : Bool} {l : List Int} {S W : List pfN} (hS : vl T S) (hW : vl T W) (h0 : (pf_at S 0).1 = 0) (ha : sa n e ∈ rl S) (hb : sb n e ∈ rl W) (hl : l = cl T n e (rl S) (rl W)) (hlk : lnk T l) : rl W = l := by
  obtain ⟨r, m, k, hk, q⟩ := vl_out hS
  rcases q with ⟨rfl, hz⟩ | ⟨P, rfl, hP, hv, rfl⟩ | ⟨P, Q, rfl, hP, hQ, hv, rfl⟩
  · have h0 : r = 0 := h0
    rcases hz with ⟨rfl, rfl, h1, h2, h3⟩ | ⟨rfl, _⟩ | ⟨rfl, _⟩
    · refine sor_eq (vl_lnk hW).1 hlk.1 (fun x => ?_)
      have z := cn_mem hb x
      rw [hl, cl_cn, rl_mk, ax_cn]
      have ha : sa n e ∈ [m, m + 1] := ha
      have hd : (sa n e = m ∧ sb n e = m + 1) ∨ (sa n e = m + 1 ∧ sb n e = m) := by
        have h5 : sb n e = du (sa n e) := by
          cases e
          · show n = du (du n); rw [du_du]
          · rfl
        rcases List.mem_cons.mp ha with q | q
        · exact Or.inl ⟨q, by rw [h5, q]; unfold du; rw [if_pos h3]⟩
        · have q := List.mem_singleton.mp q
          exact Or.inr ⟨q, by rw [h5, q]; unfold du; rw [if_neg (by omega)]; omega⟩
      rcases hd with ⟨q1, q2⟩ | ⟨q1, q2⟩
      · rw [q2] at z; rw [q1, q2]; omega
      · rw [q2] at z; rw [q1, q2]; omega
    · exact absurd h0 (by decide)
    · exact absurd h0 (by decide)
  · have h0 : r = 0 := h0
    rcases hv with ⟨q, _⟩ | ⟨q, _⟩ | ⟨q, _⟩ | ⟨q, _⟩ <;> omega
  · have h0 : r = 0 := h0
    rcases hv with ⟨q, _⟩ | ⟨q, _⟩ | ⟨q, _⟩ <;> omega
theorem cg_ok {T : ftT} {n : Int} {l : List Int} {A B : List pfN} (hp : ft_pr T) (ho : ft_ok T) (hcl : ft_cl T) (hsm : ft_sm T) (hA : vl T A) (hB : vl T B) (hcA : pf_cuts A = 0) (hcB : pf_cuts B = 0) (h : vt T 9 n (rl A) (rl B)) (hl : l = br_l T 9 n (rl A) (rl B)) (hlk : lnk T l) : ∃ N, cg T n l A B N ∧ vl T N ∧ rl N = l := by
  rcases h with ⟨q, _⟩ | ⟨q, _⟩ | ⟨-, hn, m1, m2, h20⟩
  · exact absurd q (by decide)
  · exact absurd q (by decide)
  rw [← hl] at h20
  have hlv : ft_lvs T l + 2 * ft_lv T n = ft_lvs T (rl A) + ft_lvs T (rl B) := by
    have := cl_lv (e := true) hp hn m1 m2
    rw [hl]
    exact this
  by_cases h0 : (pf_at A 0).1 = 0
  · exact ⟨B, Or.inl ⟨h0, rfl⟩, hB, ax_l (e := true) hA hB h0 m1 m2 hl hlk⟩
  by_cases h0' : (pf_at B 0).1 = 0
  · exact ⟨A, Or.inr (Or.inl ⟨h0, h0', rfl⟩), hA, ax_l (e := false) hB hA h0' m2 m1 hl hlk⟩
  by_cases hfA : (pf_at A 0).2.1 = n
  · by_cases hfB : (pf_at B 0).2.1 = du n
    · have hcn : ∀ x, l.count x = ((rl A).count x - dl n x) + ((rl B).count x - dl (du n) x) := fun x => by rw [hl, b9, cn_all, cn_er, cn_er]
      by_cases he : n % 2 = 0
      · obtain ⟨N, q1, q2, q3⟩ := met_ok hp ho hcl hsm hA hB he hcA hcB h0 h0' hfA hfB hlk hcn h20 hlv
        exact ⟨N, Or.inr (Or.inr ⟨⟨h0, h0'⟩, Or.inr (Or.inr ⟨hfA, hfB, Or.inl ⟨he, q1⟩⟩)⟩), q2, q3⟩
      · have hdn := ft_lv_du hp hn
        obtain ⟨N, q1, q2, q3⟩ := met_ok (f := du n) hp ho hcl hsm hB hA (by unfold du; rw [if_neg he]; omega) hcB hcA h0' h0 hfB (by rw [du_du]; exact hfA) hlk (fun x => by rw [hcn, du_du]; omega) (by omega) (by omega)
        exact ⟨N, Or.inr (Or.inr ⟨⟨h0, h0'⟩, Or.inr (Or.inr ⟨hfA, hfB, Or.inr ⟨he, q1⟩⟩)⟩), q2, q3⟩
    · obtain ⟨N, q1, q2, q3⟩ := rai_ok (e := false) hp ho hsm hB hA hn hcB h0' hfB m2 m1 hl hlk h20
      exact ⟨N, Or.inr (Or.inr ⟨⟨h0, h0'⟩, Or.inr (Or.inl ⟨hfA, hfB, q1⟩)⟩), q2, q3⟩
  · obtain ⟨N, q1, q2, q3⟩ := rai_ok (e := true) hp ho hsm hA hB hn hcA h0 hfA m1 m2 hl hlk h20
    exact ⟨N, Or.inr (Or.inr ⟨⟨h0, h0'⟩, Or.inl ⟨hfA, q1⟩⟩), q2, q3⟩
/-- a STEP: the first CUT without a CUT above it is changed -/
def stF (T : ftT) (R : List pfN × List pfN → Prop) (q : List pfN × List pfN) : Prop :=
  (∃ n l A B, q.1 = pf_mk 9 n l (A ++ B) ∧ mkd A ∧ mkd B ∧ pf_cuts A = 0 ∧ pf_cuts B = 0 ∧ cg T n l A B q.2) ∨
  (∃ r n l A A', q.1 = pf_mk r n l A ∧ r ≠ 9 ∧ mkd A ∧ R (A, A') ∧ q.2 = pf_mk r n l A') ∨
  (∃ r n l A A' B, q.1 = pf_mk r n l (A ++ B) ∧ mkd A ∧ mkd B ∧ 0 < pf_cuts A ∧ R (A, A') ∧ q.2 = pf_mk r n l (A' ++ B)) ∨
  (∃ r n l A B B', q.1 = pf_mk r n l (A ++ B) ∧ mkd A ∧ mkd B ∧ pf_cuts A = 0 ∧ 0 < pf_cuts B ∧ R (B, B') ∧ q.2 = pf_mk r n l (A ++ B'))
theorem stF_m (T : ftT) : lf_m (stF T) := by
  rintro R S h ⟨L, N⟩ q
  rcases q with q | ⟨r, n, l, A, A', h1, h2, h3, h4, h5⟩ | ⟨r, n, l, A, A', B, h1, h2, h3, h4, h5, h6⟩ | ⟨r, n, l, A, B, B', h1, h2, h3, h4, h5, h6, h7⟩
  · exact Or.inl q
  · exact Or.inr (Or.inl ⟨r, n, l, A, A', h1, h2, h3, h _ h4, h5⟩)
  · exact Or.inr (Or.inr (Or.inl ⟨r, n, l, A, A', B, h1, h2, h3, h4, h _ h5, h6⟩))
  · exact Or.inr (Or.inr (Or.inr ⟨r, n, l, A, B, B', h1, h2, h3, h4, h5, h _ h6, h7⟩))
def stp (T : ftT) (L N : List pfN) : Prop := lf (stF T) (L, N)
theorem stp_rec {T : ftT} {P : List pfN → List pfN → Prop} (h1 : ∀ n l A B N, mkd A → mkd B → pf_cuts A = 0 → pf_cuts B = 0 → cg T n l A B N → P (pf_mk 9 n l (A ++ B)) N) (h2 : ∀ r n l A A', r ≠ 9 → mkd A → stp T A A' → P A A' → P (pf_mk r n l A) (pf_mk r n l A')) (h3 : ∀ r n l A A' B, mkd A → mkd B → 0 < pf_cuts A → stp T A A' → P A A' → P (pf_mk r n l (A ++ B)) (pf_mk r n l (A' ++ B))) (h4 : ∀ r n l A B B', mkd A → mkd B → pf_cuts A = 0 → 0 < pf_cuts B → stp T B B' → P B B' → P (pf_mk r n l (A ++ B)) (pf_mk r n l (A ++ B'))) {L N : List pfN} (h : stp T L N) : P L N := by
  refine lf_ind (stF_m T) (P := fun q => P q.1 q.2) ?_ h
  rintro ⟨L, N⟩ q
  rcases q with ⟨n, l, A, B, q1, q2, q3, q4, q5, q6⟩ | ⟨r, n, l, A, A', q1, q2, q3, ⟨q4, q4'⟩, q5⟩ | ⟨r, n, l, A, A', B, q1, q2, q3, q4, ⟨q5, q5'⟩, q6⟩ | ⟨r, n, l, A, B, B', q1, q2, q3, q4, q5, ⟨q6, q6'⟩, q7⟩
  · have q1 : L = _ := q1
    subst q1
    exact h1 n l A B N q2 q3 q4 q5 q6
  · have q1 : L = _ := q1
    have q5 : N = _ := q5
    subst q1 q5
    exact h2 r n l A A' q2 q3 q4 q4'
  · have q1 : L = _ := q1
    have q6 : N = _ := q6
    subst q1 q6
    exact h3 r n l A A' B q2 q3 q4 q5 q5'
  · have q1 : L = _ := q1
    have q7 : N = _ := q7
    subst q1 q7
    exact h4 r n l A B B' q2 q3 q4 q5 q6 q6'
theorem cuts_t (r n : Int) (l : List Int) (A B : List pfN) : pf_cuts (pf_mk r n l (A ++ B)) = (if r = 9 then 1 else 0) + pf_cuts A + pf_cuts B := by
  have h1 := cuts_mk r n l (A ++ B)
  have h2 := cuts_app A B
  split at h1 <;> rename_i q
  · rw [if_pos q]; omega
  · rw [if_neg q]; omega
theorem cuts_o (r n : Int) (l : List Int) (A : List pfN) : pf_cuts (pf_mk r n l A) = (if r = 9 then 1 else 0) + pf_cuts A := by
  have h1 := cuts_mk r n l A
  split at h1 <;> rename_i q
  · rw [if_pos q]; omega
  · rw [if_neg q]; omega
theorem stp_ex {T : ftT} (hp : ft_pr T) (ho : ft_ok T) (hcl : ft_cl T) (hsm : ft_sm T) {L : List pfN} (hv : vl T L) (hc : 0 < pf_cuts L) : ∃ N, stp T L N ∧ vl T N ∧ rl N = rl L := by
  refine vl_rec (P := fun L => 0 < pf_cuts L → ∃ N, stp T L N ∧ vl T N ∧ rl N = rl L) (fun r n l hl hz hc => ?_) (fun r n A hl hA ih ho' hc => ?_) (fun r n A B hl hA ihA hB ihB ht hc => ?_) hv hc
  · exfalso
    have h1 := cuts_o r n l []
    have h2 : pf_cuts ([] : List pfN) = 0 := rfl
    have hr : r ≠ 9 := by rcases hz with ⟨q, _⟩ | ⟨q, _⟩ | ⟨q, _⟩ <;> omega
    rw [if_neg hr] at h1
    omega
  · have h1 := cuts_o r n (br_l T r n (rl A) []) A
    have hr : r ≠ 9 := by rcases ho' with ⟨q, _⟩ | ⟨q, _⟩ | ⟨q, _⟩ | ⟨q, _⟩ <;> omega
    rw [if_neg hr] at h1
    obtain ⟨A', q1, q2, q3⟩ := ih (by omega)
    refine ⟨pf_mk r n (br_l T r n (rl A) []) A', lf_in (stF_m T) (Or.inr (Or.inl ⟨r, n, _, A, A', rfl, hr, vl_mkd hA, q1, rfl⟩)), ?_, rfl⟩
    have := vl_o (r := r) (n := n) q2 (by rw [q3]; exact hl) (by rw [q3]; exact ho')
    rw [q3] at this
    exact this
  · have h1 := cuts_t r n (br_l T r n (rl A) (rl B)) A B
    by_cases hcA : 0 < pf_cuts A
    · obtain ⟨A', q1, q2, q3⟩ := ihA hcA
      refine ⟨pf_mk r n (br_l T r n (rl A) (rl B)) (A' ++ B), lf_in (stF_m T) (Or.inr (Or.inr (Or.inl ⟨r, n, _, A, A', B, rfl, vl_mkd hA, vl_mkd hB, hcA, q1, rfl⟩))), ?_, rfl⟩
      have := vl_t (r := r) (n := n) q2 hB (by rw [q3]; exact hl) (by rw [q3]; exact ht)
      rw [q3] at this
      exact this
    · by_cases hcB : 0 < pf_cuts B
      · obtain ⟨B', q1, q2, q3⟩ := ihB hcB
        refine ⟨pf_mk r n (br_l T r n (rl A) (rl B)) (A ++ B'), lf_in (stF_m T) (Or.inr (Or.inr (Or.inr ⟨r, n, _, A, B, B', rfl, vl_mkd hA, vl_mkd hB, by omega, hcB, q1, rfl⟩))), ?_, rfl⟩
        have := vl_t (r := r) (n := n) hA q2 (by rw [q3]; exact hl) (by rw [q3]; exact ht)
        rw [q3] at this
        exact this
      · have hr : r = 9 := by
          by_cases q : r = 9
          · exact q
          · rw [if_neg q] at h1; omega
        subst hr
        obtain ⟨N, q1, q2, q3⟩ := cg_ok hp ho hcl hsm hA hB (by omega) (by omega) ht rfl hl
        exact ⟨N, lf_in (stF_m T) (Or.inl ⟨n, _, A, B, rfl, vl_mkd hA, vl_mkd hB, by omega, by omega, q1⟩), q2, q3⟩
