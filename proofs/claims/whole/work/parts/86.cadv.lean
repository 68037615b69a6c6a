/-! The class's STEP: which CUT, and the sizes below it -/
def gm (c : Nat) (more : Int) : Nat → List pfN → List pfN
  | _, [] => []
  | o, q :: X => (if (c : Int) < o + q.2.2.1 then (q.1, q.2.1, q.2.2.1 + more, q.2.2.2) else q) :: gm c more (o + 1) X
theorem gm_len (c : Nat) (more : Int) : ∀ (X : List pfN) (o : Nat), (gm c more o X).length = X.length
  | [], _ => rfl
  | q :: X, o => by show (gm c more (o + 1) X).length + 1 = X.length + 1; rw [gm_len c more X]
theorem gm_sh (c d : Nat) (more : Int) : ∀ (X : List pfN) (o : Nat), gm (c + d) more (o + d) X = gm c more o X
  | [], _ => rfl
  | q :: X, o => by
    have h := gm_sh c d more X (o + 1)
    rw [show o + 1 + d = o + d + 1 by omega] at h
    show (if ((c + d : Nat) : Int) < ((o + d : Nat) : Int) + q.2.2.1 then _ else _) :: gm (c + d) more (o + d + 1) X = (if (c : Int) < (o : Int) + q.2.2.1 then _ else _) :: gm c more (o + 1) X
    rw [h]
    by_cases hc : (c : Int) < (o : Int) + q.2.2.1
    · rw [if_pos hc, if_pos (by omega)]
    · rw [if_neg hc, if_neg (by omega)]
theorem gm_app (c : Nat) (more : Int) : ∀ (X Y : List pfN) (o : Nat), gm c more o (X ++ Y) = gm c more o X ++ gm c more (o + X.length) Y
  | [], Y, o => rfl
  | q :: X, Y, o => by
    have h := gm_app c more X Y (o + 1)
    show _ :: gm c more (o + 1) (X ++ Y) = (_ :: gm c more (o + 1) X) ++ gm c more (o + (X.length + 1)) Y
    rw [h, show o + 1 + X.length = o + (X.length + 1) by omega]
    rfl
/-- nodes end within their row -/
def ws (A : List pfN) : Prop := ∀ (i : Nat) (q : pfN), A[i]? = some q → 1 ≤ q.2.2.1 ∧ (i : Int) + q.2.2.1 ≤ A.length
theorem gm_id (c : Nat) (more : Int) : ∀ (X : List pfN) (o : Nat), (∀ (i : Nat) (q : pfN), X[i]? = some q → (o : Int) + i + q.2.2.1 ≤ c) → gm c more o X = X
  | [], _, _ => rfl
  | q :: X, o, h => by
    have h0 := h 0 q rfl
    show (if (c : Int) < o + q.2.2.1 then _ else q) :: gm c more (o + 1) X = q :: X
    rw [if_neg (by omega), gm_id c more X (o + 1) (fun i p hp => by have := h (i + 1) p hp; omega)]
theorem ws_mk {r n : Int} {l : List Int} {K : List pfN} (h : ∀ (i : Nat) (q : pfN), K[i]? = some q → 1 ≤ q.2.2.1 ∧ (i : Int) + q.2.2.1 ≤ K.length) : ws (pf_mk r n l K) := by
  intro i q hq
  rw [mk_len]
  cases i with
  | zero => cases hq; exact ⟨by show (1 : Int) ≤ (K.length : Int) + 1; omega, by show ((0 : Nat) : Int) + ((K.length : Int) + 1) ≤ _; omega⟩
  | succ i => have := h i q hq; exact ⟨this.1, by omega⟩
theorem ws_app {A B : List pfN} (hA : ws A) (hB : ws B) : ∀ (i : Nat) (q : pfN), (A ++ B)[i]? = some q → 1 ≤ q.2.2.1 ∧ (i : Int) + q.2.2.1 ≤ ((A ++ B).length : Int) := by
  intro i q hq
  rw [List.length_append]
  by_cases h : i < A.length
  · rw [List.getElem?_append_left h] at hq
    have := hA i q hq
    exact ⟨this.1, by omega⟩
  · rw [List.getElem?_append_right (by omega)] at hq
    have := hB _ q hq
    exact ⟨this.1, by omega⟩
theorem vl_ws {T : ftT} {L : List pfN} (h : vl T L) : ws L :=
  vl_rec (P := ws) (fun r n l _ _ => ws_mk (fun i q hq => by cases hq)) (fun r n A _ _ hA _ => ws_mk hA) (fun r n A B _ _ hA _ hB _ => ws_mk (ws_app hA hB)) h
/-- the grown row -/
theorem pf_gr_gm (X Y : List pfN) (c : Nat) (more : Int) : ∀ j, j ≤ X.length → pf_gr (X ++ Y) c more j = gm c more 0 (X.take j) ++ (X.drop j ++ Y)
  | 0, _ => rfl
  | j + 1, hj => by
    have ih := pf_gr_gm X Y c more j (by omega)
    have hlt : j < X.length := by omega
    have e1 : (X ++ Y)[j]? = some X[j] := by rw [List.getElem?_append_left hlt, List.getElem?_eq_getElem hlt]
    have e2 : X.take (j + 1) = X.take j ++ [X[j]] := by rw [List.take_succ_eq_append_getElem hlt]
    have e3 : X.drop j = X[j] :: X.drop (j + 1) := List.drop_eq_getElem_cons hlt
    have e4 : (gm c more 0 (X.take j)).length = j := by rw [gm_len, List.length_take]; omega
    unfold pf_gr
    simp only [e1]
    rw [ih, e2, gm_app, List.length_take, Nat.min_eq_left (by omega), e3, Nat.zero_add]
    show (if (c : Int) < (j : Int) + X[j].2.2.1 then pf_sz (gm c more 0 (X.take j) ++ (X[j] :: X.drop (j + 1) ++ Y)) j (X[j].2.2.1 + more) else _) = (gm c more 0 (X.take j) ++ [if (c : Int) < (j : Int) + X[j].2.2.1 then (X[j].1, X[j].2.1, X[j].2.2.1 + more, X[j].2.2.2) else X[j]]) ++ _
    split
    · have h5 := pf_sz_at (gm c more 0 (X.take j)) (X.drop (j + 1) ++ Y) X[j].1 X[j].2.1 X[j].2.2.1 (X[j].2.2.1 + more) X[j].2.2.2
      rw [e4] at h5
      rw [List.append_assoc]
      exact h5
    · rw [List.append_assoc]
      rfl
theorem bare_s (L : List pfN) (m j : Nat) (f e : Int) : pf_bare L (m + 1) j f e = if e ≤ (j : Int) then f else match L[j]? with
    | some q => if q.1 = 9 then pf_bare L m (j + 1) j (j + q.2.2.1) else pf_bare L m (j + 1) f e
    | none => f := rfl
theorem bare_skip {L : List pfN} {f e : Int} : ∀ (S : List pfN) (m k : Nat), (∀ q ∈ S, q.1 ≠ 9) → ats L k S → (k : Int) + S.length ≤ e → pf_bare L (m + S.length) k f e = pf_bare L m (k + S.length) f e
  | [], m, k, _, _, _ => rfl
  | q :: S, m, k, hq, ha, he => by
    obtain ⟨h1, h2⟩ := ats_app (A := [q]) (B := S) ha
    have e1 : L[k]? = some q := by
      obtain ⟨U, V, g1, g2⟩ := ha
      rw [g1, List.getElem?_append_right (by omega), g2, Nat.sub_self]
      rfl
    rw [List.length_cons] at he
    have h2 : ats L (k + 1) S := h2
    have ih := bare_skip (L := L) (f := f) (e := e) S m (k + 1) (fun p hp => hq p (List.mem_cons_of_mem _ hp)) h2 (by omega)
    show pf_bare L (m + S.length + 1) k f e = _
    rw [bare_s, if_neg (by omega)]
    simp only [e1]
    rw [if_neg (hq q List.mem_cons_self), ih, List.length_cons, show k + 1 + S.length = k + (S.length + 1) by omega]
theorem bare_end {L : List pfN} {f e : Int} {k : Nat} (h : e ≤ k) : ∀ m, pf_bare L m k f e = f
  | 0 => rfl
  | m + 1 => by
    unfold pf_bare
    rw [if_pos h]
theorem cuts_no {S : List pfN} (h : pf_cuts S = 0) : ∀ q ∈ S, q.1 ≠ 9 := by
  intro q hq h9
  have : q ∈ S.filter (fun q => decide (q.1 = 9)) := List.mem_filter.mpr ⟨hq, decide_eq_true h9⟩
  unfold pf_cuts at h
  rw [List.length_eq_zero_iff.mp h] at this
  exact absurd this List.not_mem_nil
theorem cg_mkd {T : ftT} {n : Int} {l : List Int} {A B N : List pfN} (hA : mkd A) (hB : mkd B) (h : cg T n l A B N) : mkd N := by
  have hr : ∀ {e S W}, rai T n l e S W N → mkd N := by
    intro e S W h
    rcases h with ⟨m, k, -, -, rfl⟩ | ⟨m, k, P, Q, -, -, -, -, -, rfl⟩ | ⟨m, k, P, Q, -, -, -, -, -, -, -, rfl⟩ | ⟨m, k, P, Q, -, -, -, -, -, -, rfl⟩ | ⟨r, m, k, P, -, -, -, -, rfl⟩ <;> exact ⟨_, _, _, _, rfl⟩
  have hm : ∀ {E O}, met T l E O N → mkd N := by
    intro E O h
    rcases h with ⟨k1, k2, P, -, -, hP, rfl⟩ | ⟨f, k1, k2, P, P', Q', -, -, -, -, -, -, rfl⟩ | ⟨f, k1, k2, P, P', Q', -, -, -, -, -, -, rfl⟩ | ⟨f, k1, k2, P, Q, P', -, -, -, -, -, -, rfl⟩
    · exact hP
    · exact ct_mkd
    · exact ct_mkd
    · exact ⟨_, _, _, _, rfl⟩
  rcases h with ⟨-, rfl⟩ | ⟨-, -, rfl⟩ | ⟨-, ⟨-, h⟩ | ⟨-, -, h⟩ | ⟨-, -, ⟨-, h⟩ | ⟨-, h⟩⟩⟩
  · exact hB
  · exact hA
  · exact hr h
  · exact hr h
  · exact hm h
  · exact hm h
theorem stp_mkd {T : ftT} {L N : List pfN} (h : stp T L N) : mkd N :=
  stp_rec (P := fun _ N => mkd N) (fun n l A B N hA hB _ _ hc => cg_mkd hA hB hc) (fun r n l A A' _ _ _ _ => ⟨_, _, _, _, rfl⟩) (fun r n l A A' B _ _ _ _ _ => ⟨_, _, _, _, rfl⟩) (fun r n l A B B' _ _ _ _ _ _ => ⟨_, _, _, _, rfl⟩) h
/-- where the CUT stands, and what the STEP makes of the row -/
def psn (T : ftT) (S N : List pfN) : Prop := ∃ (U V : List pfN) (n : Int) (l : List Int) (A B M : List pfN), S = U ++ (pf_mk 9 n l (A ++ B) ++ V) ∧ mkd A ∧ mkd B ∧ cg T n l A B M ∧ vl T M ∧ (0 ≤ n ∧ n < 20 + (T.length : Int)) ∧
  N = gm U.length ((M.length : Int) - (pf_mk 9 n l (A ++ B)).length) 0 U ++ (M ++ V) ∧
  (∀ (L : List pfN) (k m : Nat) (f e : Int), ats L k S → (k : Int) + S.length ≤ e → pf_bare L (m + S.length) k f e = (k : Int) + U.length) ∧
  (∀ (j : Nat) (q : pfN), U[j]? = some q → (U.length : Int) < j + q.2.2.1 → (U.length : Int) + (pf_mk 9 n l (A ++ B)).length ≤ j + q.2.2.1)
theorem gm_hd {c : Nat} {more : Int} {r n : Int} {l : List Int} {K : List pfN} {U : List pfN} (h : (c : Int) < (K.length : Int) + 1) : gm c more 0 ((r, n, (K.length : Int) + 1, l) :: U) = (r, n, (K.length : Int) + 1 + more, l) :: gm c more 1 U := by
  show (if (c : Int) < ((0 : Nat) : Int) + ((K.length : Int) + 1) then (r, n, (K.length : Int) + 1 + more, l) else _) :: gm c more 1 U = _
  rw [if_pos (by omega)]
set_option maxHeartbeats 2000000 in
theorem stp_psn {T : ftT} {S N : List pfN} (h : stp T S N) : vl T S → vl T N → psn T S N := by
  refine stp_rec (P := fun S N => vl T S → vl T N → psn T S N) (fun n l A B N hA hB hcA hcB hc hS hN => ?_) (fun r n l A A' hr hA hst ih hS hN => ?_) (fun r n l A A' B hA hB hcA hst ih hS hN => ?_) (fun r n l A B B' hA hB hcA hcB hst ih hS hN => ?_) h
  · obtain ⟨-, -, -, hvt, -⟩ := vl_inv2 hA hB hS
    refine ⟨[], [], n, l, A, B, N, by rw [List.append_nil]; rfl, hA, hB, hc, hN, vt_n hvt, by rw [List.append_nil]; rfl, fun L k m f e ha he => ?_, fun j q hq => by cases hq⟩
    have e0 := ats_hd ha
    have e1 : L[k]? = some (pf_at L k) := by
      have := (ats_in ⟨_, _, _, _, rfl⟩ ha).1
      unfold pf_at
      rw [List.getElem?_eq_getElem this]
      rfl
    rw [mk_len] at he ⊢
    show pf_bare L (m + (A ++ B).length + 1) k f e = _
    unfold pf_bare
    rw [if_neg (by omega)]
    simp only [e1, e0]
    rw [if_pos trivial]
    rw [bare_skip (A ++ B) m (k + 1) (cuts_no (by have := cuts_app A B; omega)) (ats_1 ha) (by rw [Int.natCast_add]; omega)]
    rw [bare_end (by rw [Int.natCast_add, Int.natCast_add]; omega)]
    show (k : Int) = (k : Int) + ((0 : Nat) : Int)
    omega
  · obtain ⟨-, vA, -⟩ := vl_inv1 hA hS
    obtain ⟨-, vA', -⟩ := vl_inv1 (stp_mkd hst) hN
    obtain ⟨U, V, n', l', P, Q, M, e, hP, hQ, hc, hM, hn, eN, hb, hanc⟩ := ih vA vA'
    have eA := congrArg List.length e
    have eA' := congrArg List.length eN
    rw [List.length_append, List.length_append] at eA eA'
    rw [gm_len] at eA'
    rw [mk_len] at eA
    refine ⟨(r, n, (A.length : Int) + 1, l) :: U, V, n', l', P, Q, M, ?_, hP, hQ, hc, hM, hn, ?_, fun L k m f e' ha he => ?_, fun j q hq hj => ?_⟩
    · show (r, n, (A.length : Int) + 1, l) :: A = (r, n, (A.length : Int) + 1, l) :: (U ++ _)
      rw [← e]
    · rw [List.length_cons, gm_hd (by omega), show (1 : Nat) = 0 + 1 from rfl, gm_sh]
      show (r, n, (A'.length : Int) + 1, l) :: A' = (r, n, (A.length : Int) + 1 + _, l) :: (gm U.length _ 0 U ++ (M ++ V))
      rw [← eN]
      have : (A'.length : Int) + 1 = (A.length : Int) + 1 + ((M.length : Int) - ((pf_mk 9 n' l' (P ++ Q)).length : Nat)) := by rw [mk_len]; omega
      rw [this]
    · have e0 := ats_hd ha
      have e1 : L[k]? = some (pf_at L k) := by
        have := (ats_in ⟨_, _, _, _, rfl⟩ ha).1
        unfold pf_at
        rw [List.getElem?_eq_getElem this]
        rfl
      rw [mk_len] at he ⊢
      show pf_bare L (m + A.length + 1) k f e' = _
      unfold pf_bare
      rw [if_neg (by omega)]
      simp only [e1, e0]
      rw [if_neg hr, hb L (k + 1) m f e' (ats_1 ha) (by omega), List.length_cons]
      omega
    · rw [List.length_cons] at hj ⊢
      rw [mk_len]
      cases j with
      | zero =>
        cases hq
        show ((U.length + 1 : Nat) : Int) + (((P ++ Q).length + 1 : Nat) : Int) ≤ ((0 : Nat) : Int) + ((A.length : Int) + 1)
        omega
      | succ j =>
        have := hanc j q hq (by omega)
        rw [mk_len] at this
        omega
  · obtain ⟨-, vA, -⟩ := vl_inv2 hA hB hS
    obtain ⟨-, vA', -⟩ := vl_inv2 (stp_mkd hst) hB hN
    obtain ⟨U, V, n', l', P, Q, M, e, hP, hQ, hc, hM, hn, eN, hb, hanc⟩ := ih vA vA'
    have eA := congrArg List.length e
    have eA' := congrArg List.length eN
    rw [List.length_append, List.length_append] at eA eA'
    rw [gm_len] at eA'
    rw [mk_len] at eA
    refine ⟨(r, n, ((A ++ B).length : Int) + 1, l) :: U, V ++ B, n', l', P, Q, M, ?_, hP, hQ, hc, hM, hn, ?_, fun L k m f e' ha he => ?_, fun j q hq hj => ?_⟩
    · show (r, n, ((A ++ B).length : Int) + 1, l) :: (A ++ B) = (r, n, ((A ++ B).length : Int) + 1, l) :: (U ++ _)
      rw [← List.append_assoc _ V B, ← List.append_assoc U, ← e]
    · rw [List.length_cons, gm_hd (by rw [List.length_append]; omega), show (1 : Nat) = 0 + 1 from rfl, gm_sh]
      show (r, n, ((A' ++ B).length : Int) + 1, l) :: (A' ++ B) = (r, n, ((A ++ B).length : Int) + 1 + _, l) :: (gm U.length _ 0 U ++ (M ++ (V ++ B)))
      rw [← List.append_assoc M V B, ← List.append_assoc (gm _ _ _ _), ← eN]
      have : ((A' ++ B).length : Int) + 1 = ((A ++ B).length : Int) + 1 + ((M.length : Int) - ((pf_mk 9 n' l' (P ++ Q)).length : Nat)) := by rw [mk_len, List.length_append, List.length_append]; omega
      rw [this]
    · have e0 := ats_hd ha
      have e1 : L[k]? = some (pf_at L k) := by
        have := (ats_in ⟨_, _, _, _, rfl⟩ ha).1
        unfold pf_at
        rw [List.getElem?_eq_getElem this]
        rfl
      have hsA := (ats_app (ats_1 ha)).1
      rw [mk_len, List.length_append] at he ⊢
      show pf_bare L (m + (A.length + B.length) + 1) k f e' = _
      unfold pf_bare
      rw [if_neg (by omega)]
      simp only [e1, e0]
      have em : m + (A.length + B.length) = (m + B.length) + A.length := by omega
      rw [em, List.length_cons]
      split
      · rw [hb L (k + 1) (m + B.length) k _ hsA (by rw [List.length_append]; omega)]
        omega
      · rw [hb L (k + 1) (m + B.length) f e' hsA (by omega)]
        omega
    · rw [List.length_cons] at hj ⊢
      rw [mk_len]
      cases j with
      | zero =>
        cases hq
        show ((U.length + 1 : Nat) : Int) + (((P ++ Q).length + 1 : Nat) : Int) ≤ ((0 : Nat) : Int) + (((A ++ B).length : Int) + 1)
        rw [List.length_append (as := A)]
        omega
      | succ j =>
        have := hanc j q hq (by omega)
        rw [mk_len] at this
        omega
  · obtain ⟨-, vA, vB, -⟩ := vl_inv2 hA hB hS
    obtain ⟨-, -, vB', -⟩ := vl_inv2 hA (stp_mkd hst) hN
    obtain ⟨U, V, n', l', P, Q, M, e, hP, hQ, hc, hM, hn, eN, hb, hanc⟩ := ih vB vB'
    have eA := congrArg List.length e
    have eA' := congrArg List.length eN
    rw [List.length_append, List.length_append] at eA eA'
    rw [gm_len] at eA'
    rw [mk_len] at eA
    have wA := vl_ws vA
    refine ⟨(r, n, ((A ++ B).length : Int) + 1, l) :: (A ++ U), V, n', l', P, Q, M, ?_, hP, hQ, hc, hM, hn, ?_, fun L k m f e' ha he => ?_, fun j q hq hj => ?_⟩
    · show (r, n, ((A ++ B).length : Int) + 1, l) :: (A ++ B) = (r, n, ((A ++ B).length : Int) + 1, l) :: ((A ++ U) ++ _)
      rw [List.append_assoc A U, ← e]
    · rw [List.length_cons, gm_hd (by rw [List.length_append, List.length_append]; omega), gm_app]
      have i1 : gm ((A ++ U).length + 1) ((M.length : Int) - ((pf_mk 9 n' l' (P ++ Q)).length : Nat)) 1 A = A := gm_id _ _ A 1 (fun i q hq => by have := (wA i q hq).2; rw [List.length_append]; omega)
      have i2 : gm ((A ++ U).length + 1) ((M.length : Int) - ((pf_mk 9 n' l' (P ++ Q)).length : Nat)) (1 + A.length) U = gm U.length ((M.length : Int) - ((pf_mk 9 n' l' (P ++ Q)).length : Nat)) 0 U := by
        have := gm_sh U.length (A.length + 1) ((M.length : Int) - ((pf_mk 9 n' l' (P ++ Q)).length : Nat)) U 0
        rw [show (A ++ U).length + 1 = U.length + (A.length + 1) by rw [List.length_append]; omega, show 1 + A.length = 0 + (A.length + 1) by omega]
        exact this
      rw [i1, i2]
      show (r, n, ((A ++ B').length : Int) + 1, l) :: (A ++ B') = (r, n, ((A ++ B).length : Int) + 1 + _, l) :: ((A ++ gm U.length _ 0 U) ++ (M ++ V))
      rw [List.append_assoc A, ← eN]
      have : ((A ++ B').length : Int) + 1 = ((A ++ B).length : Int) + 1 + ((M.length : Int) - ((pf_mk 9 n' l' (P ++ Q)).length : Nat)) := by rw [mk_len, List.length_append, List.length_append]; omega
      rw [this]
    · have e0 := ats_hd ha
      have e1 : L[k]? = some (pf_at L k) := by
        have := (ats_in ⟨_, _, _, _, rfl⟩ ha).1
        unfold pf_at
        rw [List.getElem?_eq_getElem this]
        rfl
      obtain ⟨hsA, hsB⟩ := ats_app (ats_1 ha)
      rw [mk_len, List.length_append] at he ⊢
      show pf_bare L (m + (A.length + B.length) + 1) k f e' = _
      unfold pf_bare
      rw [if_neg (by omega)]
      simp only [e1, e0]
      have em : m + (A.length + B.length) = (m + B.length) + A.length := by omega
      have eu := List.length_append (as := A) (bs := U)
      have eu2 := List.length_append (as := A) (bs := B)
      rw [em, List.length_cons]
      split
      · rw [bare_skip A (m + B.length) (k + 1) (cuts_no hcA) hsA (by omega), hb L (k + 1 + A.length) m k _ hsB (by omega)]
        omega
      · rw [bare_skip A (m + B.length) (k + 1) (cuts_no hcA) hsA (by omega), hb L (k + 1 + A.length) m f e' hsB (by omega)]
        omega
    · rw [List.length_cons, List.length_append] at hj ⊢
      rw [mk_len]
      cases j with
      | zero =>
        cases hq
        show ((A.length + U.length + 1 : Nat) : Int) + (((P ++ Q).length + 1 : Nat) : Int) ≤ ((0 : Nat) : Int) + (((A ++ B).length : Int) + 1)
        rw [List.length_append (as := A)]
        omega
      | succ j =>
        have hq : (A ++ U)[j]? = some q := hq
        by_cases hjA : j < A.length
        · rw [List.getElem?_append_left hjA] at hq
          have := (wA j q hq).2
          omega
        · rw [List.getElem?_append_right (by omega)] at hq
          have := hanc _ q hq (by omega)
          rw [mk_len] at this
          omega
/-- so the class makes this STEP -/
theorem stp_cls {T : ftT} (ho : ft_ok T) (hT : T.length ≤ 60) {L N : List pfN} (h : stp T L N) (hL : vl T L) (hN : vl T N) (h100 : L.length ≤ 100) : ∃ k : Nat, pf_b L = k ∧ st_aok T L k ∧ st_adv T L k = N := by
  obtain ⟨U, V, n, l, A, B, M, e, hA, hB, hc, hM, hn, eN, hb, hanc⟩ := stp_psn h hL hN
  have hats : ats L U.length (pf_mk 9 n l (A ++ B)) := ⟨U, V, e, rfl⟩
  have wL := vl_ws hL
  obtain ⟨q1, q2⟩ := cg_st ho hT hats hA hB (by omega) hc hM
  have eb : pf_b L = (U.length : Int) := by
    have := hb L 0 0 (-1) L.length ⟨[], [], by rw [List.append_nil]; rfl, rfl⟩ (by omega)
    unfold pf_b
    rw [Nat.zero_add] at this
    rw [this]
    omega
  refine ⟨U.length, eb, ⟨q2, ats_in ⟨_, _, _, _, rfl⟩ hats, fun q hq => ?_, fun j q hq hj hlt => ?_⟩, ?_⟩
  · obtain ⟨i, hi⟩ := List.getElem?_of_mem hq
    have := wL i q hi
    omega
  · rw [(ats_z ⟨_, _, _, _, rfl⟩ hats).2.2]
    refine hanc j q ?_ hlt
    rw [e, List.getElem?_append_left hj] at hq
    exact hq
  · unfold st_adv st_row
    rw [q1, (ats_z ⟨_, _, _, _, rfl⟩ hats).2.2, Int.toNat_natCast, eN]
    have e1 : L.take U.length = U := by rw [e, List.take_left]
    have e2 : L.drop (U.length + (pf_mk 9 n l (A ++ B)).length) = V := by rw [e, ← List.append_assoc, ← List.length_append, List.drop_left]
    have e3 : (L.length : Int) = U.length + (pf_mk 9 n l (A ++ B)).length + V.length := by rw [e, List.length_append, List.length_append]; omega
    rw [e1, e2, List.append_assoc]
    have := pf_gr_gm U (M ++ V) U.length (((U ++ (M ++ V)).length : Int) - L.length) U.length (Nat.le_refl _)
    rw [List.take_length, List.drop_length] at this
    rw [this, show ((U ++ (M ++ V)).length : Int) - L.length = (M.length : Int) - ((pf_mk 9 n l (A ++ B)).length : Nat) by rw [List.length_append, List.length_append, e3]; omega]
    rfl
