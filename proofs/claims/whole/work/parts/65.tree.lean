/-! Proofs as rows; the reference's nodes -/
/-- the least predicate closed under F -/
def lf {α : Type} (F : (α → Prop) → α → Prop) (a : α) : Prop := ∀ R : α → Prop, (∀ a, F R a → R a) → R a
def lf_m {α : Type} (F : (α → Prop) → α → Prop) : Prop := ∀ R S : α → Prop, (∀ a, R a → S a) → ∀ a, F R a → F S a
theorem lf_in {α : Type} {F : (α → Prop) → α → Prop} (hm : lf_m F) {a : α} (h : F (lf F) a) : lf F a := fun R hR => hR a (hm _ _ (fun b hb => hb R hR) a h)
theorem lf_ind {α : Type} {F : (α → Prop) → α → Prop} (hm : lf_m F) {P : α → Prop} (hP : ∀ a, F (fun b => lf F b ∧ P b) a → P a) {a : α} (h : lf F a) : P a := (h (fun b => lf F b ∧ P b) (fun b hb => ⟨lf_in hm (hm _ _ (fun _ q => q.1) b hb), hP b hb⟩)).2
theorem lf_out {α : Type} {F : (α → Prop) → α → Prop} (hm : lf_m F) {a : α} (h : lf F a) : F (lf F) a := lf_ind hm (fun b hb => hm _ _ (fun _ q => q.1) b hb) h
theorem rl_mk (r n : Int) (l : List Int) (K : List pfN) : rl (pf_mk r n l K) = l := rfl
theorem mk_len (r n : Int) (l : List Int) (K : List pfN) : (pf_mk r n l K).length = K.length + 1 := rfl
theorem cuts_cons (q : pfN) (L : List pfN) : ((pf_cuts (q :: L) : Nat) : Int) = (if q.1 = 9 then 1 else 0) + (pf_cuts L : Nat) := by
  unfold pf_cuts
  rw [List.filter_cons]
  by_cases h : q.1 = 9
  · rw [if_pos (decide_eq_true h), if_pos h, List.length_cons]
    omega
  · rw [if_neg (by simpa using h), if_neg h]
    omega
theorem cuts_app (L M : List pfN) : ((pf_cuts (L ++ M) : Nat) : Int) = (pf_cuts L : Nat) + (pf_cuts M : Nat) := by
  unfold pf_cuts
  rw [List.filter_append, List.length_append]
  omega
theorem cuts_le (L : List pfN) : pf_cuts L ≤ L.length := List.length_filter_le _ _
theorem cuts_mk (r n : Int) (l : List Int) (K : List pfN) : ((pf_cuts (pf_mk r n l K) : Nat) : Int) = (if r = 9 then 1 else 0) + (pf_cuts K : Nat) := cuts_cons _ _
/-- what node k holds -/
def ni (σ : am_S) (k : Nat) (r n a b N c : Int) (l : List Int) : Prop := σ.1 118 0 k = r ∧ σ.1 119 0 k = n ∧ σ.1 120 0 k = a ∧ σ.1 121 0 k = b ∧ σ.1 122 0 k = N ∧ σ.1 123 0 k = c ∧ mrow σ k l
/-- the places of node j -/
def nS (j : Nat) : Nat → Nat → Prop := fun a c => (118 ≤ a ∧ a ≤ 124 ∧ c = j) ∨ (a = 125 ∧ 24 * j ≤ c ∧ c < 24 * j + 24)
theorem ni_fm {S : Nat → Nat → Prop} {σ τ : am_S} {k : Nat} {r n a b N c : Int} {l : List Int} (h : ni σ k r n a b N c l) (hf : fm S σ τ) (hn : ∀ a c, nS k a c → ¬ S a c) : ni τ k r n a b N c l := by
  obtain ⟨h1, h2, h3, h4, h5, h6, h7⟩ := h
  have e : ∀ q, 118 ≤ q → q ≤ 124 → ¬ S q k := fun q h1 h2 => hn q k (Or.inl ⟨h1, h2, rfl⟩)
  exact ⟨by rw [fm_at hf (e _ (by decide) (by decide))]; exact h1, by rw [fm_at hf (e _ (by decide) (by decide))]; exact h2, by rw [fm_at hf (e _ (by decide) (by decide))]; exact h3, by rw [fm_at hf (e _ (by decide) (by decide))]; exact h4, by rw [fm_at hf (e _ (by decide) (by decide))]; exact h5, by rw [fm_at hf (e _ (by decide) (by decide))]; exact h6, mrow_fm h7 hf (e _ (by decide) (by decide)) (fun j hj => hn _ _ (Or.inr ⟨rfl, by omega, by omega⟩))⟩
/-- node k, all whose nodes are in U, unfolds to the row -/
def mnF (σ : am_S) (U : Nat → Prop) (R : List pfN × Nat → Prop) (q : List pfN × Nat) : Prop := U q.2 ∧ ∃ (r n : Int) (l : List Int), (q.1 = pf_mk r n l [] ∧ ni σ q.2 r n (-1) (-1) q.1.length (pf_cuts q.1 : Nat) l) ∨ (∃ (A : List pfN) (i : Nat), q.1 = pf_mk r n l A ∧ ni σ q.2 r n i (-1) q.1.length (pf_cuts q.1 : Nat) l ∧ R (A, i)) ∨ (∃ (A B : List pfN) (i j : Nat), q.1 = pf_mk r n l (A ++ B) ∧ ni σ q.2 r n i j q.1.length (pf_cuts q.1 : Nat) l ∧ R (A, i) ∧ R (B, j))
theorem mnF_m (σ : am_S) (U : Nat → Prop) : lf_m (mnF σ U) := by
  rintro R S h ⟨L, k⟩ ⟨hU, r, n, l, q⟩
  refine ⟨hU, r, n, l, ?_⟩
  rcases q with q | ⟨A, i, h1, h2, h3⟩ | ⟨A, B, i, j, h1, h2, h3, h4⟩
  · exact Or.inl q
  · exact Or.inr (Or.inl ⟨A, i, h1, h2, h _ h3⟩)
  · exact Or.inr (Or.inr ⟨A, B, i, j, h1, h2, h _ h3, h _ h4⟩)
def mn (σ : am_S) (U : Nat → Prop) (L : List pfN) (k : Nat) : Prop := lf (mnF σ U) (L, k)
theorem mn_z {σ : am_S} {U : Nat → Prop} {r n : Int} {l : List Int} {k : Nat} (hU : U k) (h : ni σ k r n (-1) (-1) (pf_mk r n l []).length (pf_cuts (pf_mk r n l []) : Nat) l) : mn σ U (pf_mk r n l []) k := lf_in (mnF_m σ U) ⟨hU, r, n, l, Or.inl ⟨rfl, h⟩⟩
theorem mn_o {σ : am_S} {U : Nat → Prop} {r n : Int} {l : List Int} {A : List pfN} {k i : Nat} (hU : U k) (h : ni σ k r n i (-1) (pf_mk r n l A).length (pf_cuts (pf_mk r n l A) : Nat) l) (hA : mn σ U A i) : mn σ U (pf_mk r n l A) k := lf_in (mnF_m σ U) ⟨hU, r, n, l, Or.inr (Or.inl ⟨A, i, rfl, h, hA⟩)⟩
theorem mn_t {σ : am_S} {U : Nat → Prop} {r n : Int} {l : List Int} {A B : List pfN} {k i j : Nat} (hU : U k) (h : ni σ k r n i j (pf_mk r n l (A ++ B)).length (pf_cuts (pf_mk r n l (A ++ B)) : Nat) l) (hA : mn σ U A i) (hB : mn σ U B j) : mn σ U (pf_mk r n l (A ++ B)) k := lf_in (mnF_m σ U) ⟨hU, r, n, l, Or.inr (Or.inr ⟨A, B, i, j, rfl, h, hA, hB⟩)⟩
theorem mn_rec {σ : am_S} {U : Nat → Prop} {P : List pfN → Nat → Prop} (hz : ∀ r n l k, U k → ni σ k r n (-1) (-1) (pf_mk r n l []).length (pf_cuts (pf_mk r n l []) : Nat) l → P (pf_mk r n l []) k)
    (ho : ∀ r n l A k i, U k → ni σ k r n (i : Nat) (-1) (pf_mk r n l A).length (pf_cuts (pf_mk r n l A) : Nat) l → mn σ U A i → P A i → P (pf_mk r n l A) k)
    (ht : ∀ r n l A B k i j, U k → ni σ k r n (i : Nat) (j : Nat) (pf_mk r n l (A ++ B)).length (pf_cuts (pf_mk r n l (A ++ B)) : Nat) l → mn σ U A i → P A i → mn σ U B j → P B j → P (pf_mk r n l (A ++ B)) k) {L : List pfN} {k : Nat} (h : mn σ U L k) : P L k := by
  refine lf_ind (mnF_m σ U) (P := fun q => P q.1 q.2) ?_ h
  rintro ⟨L, k⟩ ⟨hU, r, n, l, q⟩
  rcases q with ⟨h1, h2⟩ | ⟨A, i, h1, h2, h3, h4⟩ | ⟨A, B, i, j, h1, h2, ⟨h3, h4⟩, h5, h6⟩
  · cases h1; exact hz r n l k hU h2
  · cases h1; exact ho r n l A k i hU h2 h3 h4
  · cases h1; exact ht r n l A B k i j hU h2 h3 h4 h5 h6
theorem mn_fm {S : Nat → Nat → Prop} {σ τ : am_S} {U V : Nat → Prop} (hf : fm S σ τ) (hn : ∀ j, U j → ∀ a c, nS j a c → ¬ S a c) (hV : ∀ j, U j → V j) {L : List pfN} {k : Nat} (h : mn σ U L k) : mn τ V L k :=
  mn_rec (P := fun L k => mn τ V L k) (fun _ _ _ k hU h => mn_z (hV k hU) (ni_fm h hf (hn k hU))) (fun _ _ _ _ k _ hU h _ hA => mn_o (hV k hU) (ni_fm h hf (hn k hU)) hA) (fun _ _ _ _ _ k _ _ hU h _ hA _ hB => mn_t (hV k hU) (ni_fm h hf (hn k hU)) hA hB) h
theorem mn_mono {σ : am_S} {U V : Nat → Prop} (hU : ∀ j, U j → V j) {L : List pfN} {k : Nat} (h : mn σ U L k) : mn σ V L k :=
  mn_rec (P := fun L k => mn σ V L k) (fun _ _ _ k h1 h => mn_z (hU k h1) h) (fun _ _ _ _ k _ h1 h _ hA => mn_o (hU k h1) h hA) (fun _ _ _ _ _ k _ _ h1 h _ hA _ hB => mn_t (hU k h1) h hA hB) h
/-- a set that holds node k and the premises of all it holds -/
theorem mn_cl {σ : am_S} {U V : Nat → Prop} (hV : ∀ j, V j → (0 ≤ σ.1 120 0 j → V (σ.1 120 0 j).toNat) ∧ (0 ≤ σ.1 121 0 j → V (σ.1 121 0 j).toNat)) {L : List pfN} {k : Nat} (h : mn σ U L k) (hk : V k) : mn σ V L k := by
  have e : ∀ i : Nat, ((i : Int)).toNat = i := fun i => Int.toNat_natCast i
  refine mn_rec (P := fun L k => V k → mn σ V L k) (fun _ _ _ k _ h hk => mn_z hk h) (fun _ _ _ _ k i _ h _ hA hk => mn_o hk h (hA ?_)) (fun _ _ _ _ _ k i j _ h _ hA _ hB hk => mn_t hk h (hA ?_) (hB ?_)) h hk
  · have h9 := (hV k hk).1
    rw [h.2.2.1, e] at h9
    exact h9 (by omega)
  · have h9 := (hV k hk).1
    rw [h.2.2.1, e] at h9
    exact h9 (by omega)
  · have h9 := (hV k hk).2
    rw [h.2.2.2.1, e] at h9
    exact h9 (by omega)
/-- what is at the root -/
theorem mn_top {σ : am_S} {U : Nat → Prop} {L : List pfN} {k : Nat} (h : mn σ U L k) : U k ∧ mrow σ k (rl L) ∧ σ.1 122 0 k = (L.length : Int) ∧ σ.1 123 0 k = ((pf_cuts L : Nat) : Int) ∧ ∃ r n l K, L = pf_mk r n l K ∧ σ.1 118 0 k = r ∧ σ.1 119 0 k = n := by
  refine mn_rec (P := fun L k => U k ∧ mrow σ k (rl L) ∧ σ.1 122 0 k = (L.length : Int) ∧ σ.1 123 0 k = ((pf_cuts L : Nat) : Int) ∧ ∃ r n l K, L = pf_mk r n l K ∧ σ.1 118 0 k = r ∧ σ.1 119 0 k = n) (fun r n l k hU h => ⟨hU, h.2.2.2.2.2.2, h.2.2.2.2.1, h.2.2.2.2.2.1, r, n, l, _, rfl, h.1, h.2.1⟩) (fun r n l A k i hU h _ _ => ⟨hU, h.2.2.2.2.2.2, h.2.2.2.2.1, h.2.2.2.2.2.1, r, n, l, _, rfl, h.1, h.2.1⟩) (fun r n l A B k i j hU h _ _ _ _ => ⟨hU, h.2.2.2.2.2.2, h.2.2.2.2.1, h.2.2.2.2.2.1, r, n, l, _, rfl, h.1, h.2.1⟩) h
theorem mn_U {σ : am_S} {U : Nat → Prop} {L : List pfN} {k : Nat} (h : mn σ U L k) : U k := (mn_top h).1
theorem mn_row {σ : am_S} {U : Nat → Prop} {L : List pfN} {k : Nat} (h : mn σ U L k) : mrow σ k (rl L) := (mn_top h).2.1
theorem mn_mk {σ : am_S} {U : Nat → Prop} {L : List pfN} {k : Nat} (h : mn σ U L k) : ∃ r n l K, L = pf_mk r n l K := by
  obtain ⟨_, _, _, _, r, n, l, K, e, _⟩ := mn_top h
  exact ⟨r, n, l, K, e⟩
theorem mn_pos {σ : am_S} {U : Nat → Prop} {L : List pfN} {k : Nat} (h : mn σ U L k) : 0 < L.length := by
  obtain ⟨r, n, l, K, e⟩ := mn_mk h
  rw [e]
  exact Nat.succ_pos _
theorem mo_n_mn {σ : am_S} {U : Nat → Prop} {L : List pfN} {k : Nat} (h : mn σ U L k) : mo_n σ (k : Int) = (L.length : Int) ∧ mo_c σ (k : Int) = ((pf_cuts L : Nat) : Int) := by
  unfold mo_n mo_c
  rw [if_neg (by omega), if_neg (by omega), Int.toNat_natCast]
  exact ⟨(mn_top h).2.2.1, (mn_top h).2.2.2.1⟩
/-- rows of the form of a proof: where two of them stand one behind the other, the first is known -/
def mkd (L : List pfN) : Prop := ∃ r n l K, L = pf_mk r n l K
theorem mkd_app {A B A' B' : List pfN} (hA : mkd A) (hA' : mkd A') (h : A ++ B = A' ++ B') : A = A' ∧ B = B' := by
  obtain ⟨r, n, l, K, rfl⟩ := hA
  obtain ⟨r', n', l', K', rfl⟩ := hA'
  have e : (pf_mk r n l K).length = (pf_mk r' n' l' K').length := by
    have h1 := (List.cons.inj h).1
    have h2 : (K.length : Int) + 1 = (K'.length : Int) + 1 := congrArg (fun q : pfN => q.2.2.1) h1
    rw [mk_len, mk_len]
    omega
  exact List.append_inj h e
theorem mkd_no {A A' B' : List pfN} (hA : mkd A) (hA' : mkd A') (hB : mkd B') (h : A = A' ++ B') : False := by
  have h1 := (mkd_app (B := []) hA hA' (by rw [List.append_nil]; exact h)).2
  obtain ⟨r, n, l, K, rfl⟩ := hB
  cases h1
theorem mkd_ne {A : List pfN} (hA : mkd A) : A ≠ [] := by
  obtain ⟨r, n, l, K, rfl⟩ := hA
  exact List.cons_ne_nil _ _
theorem mk_inj {r n r' n' : Int} {l l' : List Int} {K K' : List pfN} (h : pf_mk r n l K = pf_mk r' n' l' K') : r = r' ∧ n = n' ∧ l = l' ∧ K = K' := by
  obtain ⟨h1, h2⟩ := List.cons.inj h
  have a := Prod.mk.inj h1
  have b := Prod.mk.inj a.2
  have c := Prod.mk.inj b.2
  exact ⟨a.1, b.1, c.2, h2⟩
/-- a node of no premise, of one, of two: its premises -/
theorem mn_inv {σ : am_S} {U : Nat → Prop} {r n : Int} {l : List Int} {K : List pfN} {k : Nat} (h : mn σ U (pf_mk r n l K) k) : σ.1 118 0 k = r ∧ σ.1 119 0 k = n ∧ ((K = [] ∧ σ.1 120 0 k = -1 ∧ σ.1 121 0 k = -1) ∨ (∃ i : Nat, σ.1 120 0 k = i ∧ σ.1 121 0 k = -1 ∧ mn σ U K i) ∨ (∃ (A B : List pfN) (i j : Nat), K = A ++ B ∧ σ.1 120 0 k = i ∧ σ.1 121 0 k = j ∧ mn σ U A i ∧ mn σ U B j)) := by
  obtain ⟨hU, r', n', l', q⟩ := lf_out (mnF_m σ U) h
  rcases q with ⟨h1, h2⟩ | ⟨A, i, h1, h2, h3⟩ | ⟨A, B, i, j, h1, h2, h3, h4⟩
  · obtain ⟨e1, e2, -, e4⟩ := mk_inj h1
    exact ⟨by rw [e1]; exact h2.1, by rw [e2]; exact h2.2.1, Or.inl ⟨e4, h2.2.2.1, h2.2.2.2.1⟩⟩
  · obtain ⟨e1, e2, -, e4⟩ := mk_inj h1
    exact ⟨by rw [e1]; exact h2.1, by rw [e2]; exact h2.2.1, Or.inr (Or.inl ⟨i, h2.2.2.1, h2.2.2.2.1, by rw [e4]; exact h3⟩)⟩
  · obtain ⟨e1, e2, -, e4⟩ := mk_inj h1
    exact ⟨by rw [e1]; exact h2.1, by rw [e2]; exact h2.2.1, Or.inr (Or.inr ⟨A, B, i, j, e4, h2.2.2.1, h2.2.2.2.1, h3, h4⟩)⟩
theorem mn_inv0 {σ : am_S} {U : Nat → Prop} {r n : Int} {l : List Int} {k : Nat} (h : mn σ U (pf_mk r n l []) k) : σ.1 120 0 k = -1 ∧ σ.1 121 0 k = -1 := by
  rcases (mn_inv h).2.2 with q | ⟨i, _, _, q⟩ | ⟨A, B, i, j, q, _, _, q2, _⟩
  · exact q.2
  · exact absurd rfl (mkd_ne (mn_mk q))
  · exact absurd (List.append_eq_nil_iff.mp q.symm).1 (mkd_ne (mn_mk q2))
theorem mn_inv1 {σ : am_S} {U : Nat → Prop} {r n : Int} {l : List Int} {A : List pfN} {k : Nat} (h : mn σ U (pf_mk r n l A) k) (hA : mkd A) : ∃ i : Nat, σ.1 120 0 k = i ∧ σ.1 121 0 k = -1 ∧ mn σ U A i := by
  rcases (mn_inv h).2.2 with q | q | ⟨A', B', i, j, q, _, _, q2, q3⟩
  · exact absurd q.1 (mkd_ne hA)
  · exact q
  · exact (mkd_no hA (mn_mk q2) (mn_mk q3) q).elim
theorem mn_inv2 {σ : am_S} {U : Nat → Prop} {r n : Int} {l : List Int} {A B : List pfN} {k : Nat} (h : mn σ U (pf_mk r n l (A ++ B)) k) (hA : mkd A) (hB : mkd B) : ∃ i j : Nat, σ.1 120 0 k = i ∧ σ.1 121 0 k = j ∧ mn σ U A i ∧ mn σ U B j := by
  rcases (mn_inv h).2.2 with q | ⟨i, _, _, q⟩ | ⟨A', B', i, j, q, h1, h2, q2, q3⟩
  · exact absurd (List.append_eq_nil_iff.mp q.1).1 (mkd_ne hA)
  · exact (mkd_no (mn_mk q) hA hB rfl).elim
  · obtain ⟨e1, e2⟩ := mkd_app hA (mn_mk q2) q
    exact ⟨i, j, h1, h2, by rw [e1]; exact q2, by rw [e2]; exact q3⟩
/-- the nodes in a list, that holds with each its premises -/
def mcl (σ : am_S) (U : Nat → Prop) (W : List Nat) : Prop := ∀ j ∈ W, j < 640 ∧ U j ∧ (σ.1 120 0 j < 640 ∧ (0 ≤ σ.1 120 0 j → (σ.1 120 0 j).toNat ∈ W)) ∧ (σ.1 121 0 j < 640 ∧ (0 ≤ σ.1 121 0 j → (σ.1 121 0 j).toNat ∈ W))
theorem mcl_app {σ : am_S} {U : Nat → Prop} {W V : List Nat} (h1 : mcl σ U W) (h2 : mcl σ U V) : mcl σ U (W ++ V) := by
  intro j hj
  rcases List.mem_append.mp hj with hj | hj
  · obtain ⟨q1, q2, q3, q4⟩ := h1 j hj
    exact ⟨q1, q2, ⟨q3.1, fun h => List.mem_append_left _ (q3.2 h)⟩, ⟨q4.1, fun h => List.mem_append_left _ (q4.2 h)⟩⟩
  · obtain ⟨q1, q2, q3, q4⟩ := h2 j hj
    exact ⟨q1, q2, ⟨q3.1, fun h => List.mem_append_right _ (q3.2 h)⟩, ⟨q4.1, fun h => List.mem_append_right _ (q4.2 h)⟩⟩
theorem mcl_cons {σ : am_S} {U : Nat → Prop} {W : List Nat} {k : Nat} (h1 : mcl σ U W) (hk : k < 640) (hU : U k) (ha : σ.1 120 0 k < 640 ∧ (0 ≤ σ.1 120 0 k → (σ.1 120 0 k).toNat ∈ W)) (hb : σ.1 121 0 k < 640 ∧ (0 ≤ σ.1 121 0 k → (σ.1 121 0 k).toNat ∈ W)) : mcl σ U (k :: W) := by
  intro j hj
  rcases List.mem_cons.mp hj with rfl | hj
  · exact ⟨hk, hU, ⟨ha.1, fun h => List.mem_cons_of_mem _ (ha.2 h)⟩, ⟨hb.1, fun h => List.mem_cons_of_mem _ (hb.2 h)⟩⟩
  · obtain ⟨q1, q2, q3, q4⟩ := h1 j hj
    exact ⟨q1, q2, ⟨q3.1, fun h => List.mem_cons_of_mem _ (q3.2 h)⟩, ⟨q4.1, fun h => List.mem_cons_of_mem _ (q4.2 h)⟩⟩
theorem mn_ls {σ : am_S} {U : Nat → Prop} {L : List pfN} {k : Nat} (h : mn σ U L k) : ∃ W : List Nat, W.length = L.length ∧ k ∈ W ∧ mcl σ U W := by
  refine mn_rec (P := fun L k => ∃ W : List Nat, W.length = L.length ∧ k ∈ W ∧ mcl σ U W) (fun r n l k hU h => ?_) (fun r n l A k i hU h hm hA => ?_) (fun r n l A B k i j hU h hm hA hm2 hB => ?_) h
  · refine ⟨[k], rfl, List.mem_singleton.mpr rfl, mcl_cons (fun j hj => absurd hj List.not_mem_nil) h.2.2.2.2.2.2.1 hU ?_ ?_⟩
    · rw [h.2.2.1]; exact ⟨by decide, fun h => absurd h (by decide)⟩
    · rw [h.2.2.2.1]; exact ⟨by decide, fun h => absurd h (by decide)⟩
  · obtain ⟨W, h1, h2, h3⟩ := hA
    have h6 := (h3 i h2).1
    refine ⟨k :: W, by rw [List.length_cons, h1]; rfl, List.mem_cons_self, mcl_cons h3 h.2.2.2.2.2.2.1 hU ?_ ?_⟩
    · rw [h.2.2.1, Int.toNat_natCast]; exact ⟨by omega, fun _ => h2⟩
    · rw [h.2.2.2.1]; exact ⟨by decide, fun h => absurd h (by decide)⟩
  · obtain ⟨W, h1, h2, h3⟩ := hA
    obtain ⟨V, g1, g2, g3⟩ := hB
    have h6 := (h3 i h2).1
    have g6 := (g3 j g2).1
    refine ⟨k :: (W ++ V), by rw [List.length_cons, List.length_append, h1, g1, mk_len, List.length_append], List.mem_cons_self, mcl_cons (mcl_app h3 g3) h.2.2.2.2.2.2.1 hU ?_ ?_⟩
    · rw [h.2.2.1, Int.toNat_natCast]; exact ⟨by omega, fun _ => List.mem_append_left _ h2⟩
    · rw [h.2.2.2.1, Int.toNat_natCast]; exact ⟨by omega, fun _ => List.mem_append_right _ g2⟩
/-- how many places are used -/
def uc (σ : am_S) : Nat → Nat
  | 0 => 0
  | n + 1 => uc σ n + (if σ.1 126 0 n = 1 then 1 else 0)
theorem uc_le (σ : am_S) : ∀ n, uc σ n ≤ n
  | 0 => Nat.le_refl _
  | n + 1 => by
    unfold uc
    have := uc_le σ n
    split <;> omega
theorem uc_0 (σ : am_S) : ∀ n, (∀ j, j < n → σ.1 126 0 j = 0) → uc σ n = 0
  | 0, _ => rfl
  | n + 1, h => by
    unfold uc
    rw [uc_0 σ n (fun j hj => h j (by omega)), h n (by omega)]
    rfl
theorem uc_free {σ : am_S} : ∀ n, uc σ n < n → (∀ j, j < n → σ.1 126 0 j = 0 ∨ σ.1 126 0 j = 1) → ∃ f, f < n ∧ σ.1 126 0 f = 0
  | 0, h, _ => absurd h (Nat.not_lt_zero _)
  | n + 1, h, h01 => by
    rcases h01 n (by omega) with h0 | h1
    · exact ⟨n, by omega, h0⟩
    · unfold uc at h
      rw [if_pos h1] at h
      obtain ⟨f, hf, h0⟩ := uc_free n (by omega) (fun j hj => h01 j (by omega))
      exact ⟨f, by omega, h0⟩
theorem uc_same {σ τ : am_S} : ∀ n, (∀ j, j < n → τ.1 126 0 j = σ.1 126 0 j) → uc τ n = uc σ n
  | 0, _ => rfl
  | n + 1, h => by
    unfold uc
    rw [uc_same n (fun j hj => h j (by omega)), h n (by omega)]
theorem uc_set {σ τ : am_S} {f : Nat} (hf : σ.1 126 0 f = 0) (ht : τ.1 126 0 f = 1) (hn : ∀ j, j ≠ f → τ.1 126 0 j = σ.1 126 0 j) : ∀ n, f < n → uc τ n = uc σ n + 1
  | 0, h => absurd h (Nat.not_lt_zero _)
  | n + 1, h => by
    unfold uc
    by_cases e : f = n
    · subst e
      rw [uc_same f (fun j hj => hn j (by omega)), ht, hf]
      rfl
    · rw [uc_set hf ht hn n (by omega), hn n (by omega)]
      omega
/-- the used places are among those of a list -/
theorem uc_sub {σ : am_S} : ∀ (n : Nat) (W : List Nat), (∀ j, j < n → σ.1 126 0 j = 1 → j ∈ W) → uc σ n ≤ W.length
  | 0, _, _ => Nat.zero_le _
  | n + 1, W, h => by
    unfold uc
    by_cases h1 : σ.1 126 0 n = 1
    · rw [if_pos h1]
      have hm := h n (by omega) h1
      have h2 := uc_sub n (W.erase n) (fun j hj hu => (List.mem_erase_of_ne (by omega)).mpr (h j (by omega) hu))
      have h3 := List.length_erase_of_mem hm
      have h4 : 0 < W.length := List.length_pos_of_mem hm
      omega
    · rw [if_neg h1]
      exact uc_sub n W (fun j hj hu => h j (by omega) hu)
