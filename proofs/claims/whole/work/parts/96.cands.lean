/-! The rules that may be tried, in their order -/
abbrev cdt : Type := Int × Int × Option (List Int) × Option (List Int)
def cs_t (T : ftT) (s : List Int) (x : Int) : Nat → Nat → List cdt
  | 0, _ => []
  | k + 1, m => (8, x, some (tm1 T s x m), some (tm2' T s x m)) :: cs_t T s x k (m + 1)
def cs_x (T : ftT) (s : List Int) (x : Int) : List cdt := if ft_sign T x = 2 then [(6, x, some (pm1 T s x), none), (7, x, some (pm2 T s x), none)] else if ft_sign T x = 0 then cs_t T s x (2 ^ (s.length - 1)) 0 else []
def cs_e (T : ftT) (s : List Int) : List Int → List cdt
  | [] => []
  | x :: xs => cs_x T s x ++ cs_e T s xs
def cs_o (T : ftT) (s : List Int) (n : Int) : List cdt := if n = 19 then [(2, 19, none, none)] else if n = 17 then [(3, 17, some (s.erase 17), none)] else if ft_sign T n = 1 then [(4, n, some (pm3 T s n), none)] else [(5, n, some (pm1 T s n), some (pm2 T s n))]
def cs_a (s : List Int) : List cdt := match axf s with
  | some a => [(0, a, none, none)]
  | none => []
def cs_1 (s : List Int) : List cdt := if s = [16] then [(1, 16, none, none)] else []
def cs (T : ftT) (s : List Int) : List cdt := if li_odd 17 s ≠ -1 then cs_o T s (li_odd 17 s) else cs_a s ++ (cs_1 s ++ cs_e T s s)
def cval (g : List Int → Option (List pfN)) (s : List Int) (c : cdt) : Option (List pfN) := match c.2.2.1, c.2.2.2 with
  | none, _ => some (pf_mk c.1 c.2.1 s [])
  | some p, none => fd_1 c.1 c.2.1 s (g p)
  | some p, some q => fd_2 c.1 c.2.1 s (g p) (g q)
def cfst (g : List Int → Option (List pfN)) (s : List Int) : List cdt → Option (List pfN)
  | [] => none
  | c :: l => fd_or (cval g s c) (cfst g s l)
theorem fd_or_n (a : Option (List pfN)) : fd_or a none = a := by cases a <;> rfl
theorem fd_or_as (a b c : Option (List pfN)) : fd_or (fd_or a b) c = fd_or a (fd_or b c) := by cases a <;> rfl
theorem cfst_app (g : List Int → Option (List pfN)) (s : List Int) : ∀ l m : List cdt, cfst g s (l ++ m) = fd_or (cfst g s l) (cfst g s m)
  | [], m => rfl
  | c :: l, m => by
    show fd_or (cval g s c) (cfst g s (l ++ m)) = fd_or (fd_or (cval g s c) (cfst g s l)) (cfst g s m)
    rw [cfst_app g s l m, fd_or_as]
theorem cfst_t (g : List Int → Option (List pfN)) (T : ftT) (s : List Int) (x : Int) : ∀ k m, cfst g s (cs_t T s x k m) = fd_t g T s x k m
  | 0, _ => rfl
  | k + 1, m => by
    show fd_or (cval g s (8, x, some (tm1 T s x m), some (tm2' T s x m))) (cfst g s (cs_t T s x k (m + 1))) = _
    rw [cfst_t g T s x k (m + 1)]
    rfl
theorem cfst_x (g : List Int → Option (List pfN)) (T : ftT) (s : List Int) (x : Int) : cfst g s (cs_x T s x) = fd_x g T s x := by
  unfold cs_x fd_x
  split
  · show fd_or (fd_1 6 x s (g (pm1 T s x))) (fd_or (fd_1 7 x s (g (pm2 T s x))) none) = _
    rw [fd_or_n]
  · split
    · exact cfst_t g T s x _ _
    · rfl
theorem cfst_e (g : List Int → Option (List pfN)) (T : ftT) (s : List Int) : ∀ xs, cfst g s (cs_e T s xs) = fd_e g T s xs
  | [] => rfl
  | x :: xs => by
    show cfst g s (cs_x T s x ++ cs_e T s xs) = fd_or (fd_x g T s x) (fd_e g T s xs)
    rw [cfst_app, cfst_x, cfst_e g T s xs]
theorem cfst_s (g : List Int → Option (List pfN)) (T : ftT) (s : List Int) : cfst g s (cs T s) = fd_s g T s := by
  unfold cs fd_s
  by_cases h : li_odd 17 s = -1
  · have hn : ¬ (li_odd 17 s ≠ -1) := fun q => q h
    rw [if_neg hn, if_neg hn, cfst_app, cfst_app, cfst_e]
    unfold cs_1
    by_cases h16 : s = [16]
    · rw [if_pos h16, if_pos h16]
      have ea : cs_a s = [] := by unfold cs_a; rw [h16]; rfl
      rw [ea]
      rfl
    · rw [if_neg h16, if_neg h16]
      unfold cs_a
      cases axf s <;> rfl
  · rw [if_pos h, if_pos h]
    unfold cs_o fd_o
    split
    · rfl
    · split
      · show fd_or (fd_1 3 17 s (g (s.erase 17))) none = _
        rw [fd_or_n]
      · split
        · show fd_or (fd_1 4 _ s (g (pm3 T s _))) none = _
          rw [fd_or_n]
        · show fd_or (fd_2 5 _ s (g (pm1 T s _)) (g (pm2 T s _))) none = _
          rw [fd_or_n]
/-- the premises of a candidate -/
def cpr (c : cdt) (p : List Int) : Prop := c.2.2.1 = some p ∨ c.2.2.2 = some p
/-- the decisions on lighter sequents are right -/
def htr (T : ftT) (σ : am_S) (S : List (List Int)) (w : Int) : Prop := ∀ (j : Nat) (t : List Int), S[j]? = some t → wt T t < w → (0 < σ.1 139 0 j ↔ FD T t ≠ none)
/-- the decision on sequent idx -/
def prem (T : ftT) (S : List (List Int)) (K : List pfN) (a b : Int) : Prop := (a = -1 ∧ b = -1 ∧ K = []) ∨ (∃ (i : Nat) (p : List Int), a = i ∧ b = -1 ∧ S[i]? = some p ∧ FD T p = some K) ∨ (∃ (i j : Nat) (p q : List Int) (A B : List pfN), a = i ∧ b = j ∧ S[i]? = some p ∧ S[j]? = some q ∧ FD T p = some A ∧ FD T q = some B ∧ K = A ++ B)
def dcs (T : ftT) (σ : am_S) (S : List (List Int)) (idx : Nat) (s : List Int) (o : Option (List pfN)) : Prop := (o = none ∧ σ.1 139 0 idx = 0) ∨ (∃ (r n a b : Int) (K : List pfN), o = some (pf_mk r n s K) ∧ σ.1 139 0 idx = r + 1 ∧ σ.1 140 0 idx = n ∧ σ.1 141 0 idx = a ∧ σ.1 142 0 idx = b ∧ 0 ≤ r ∧ prem T S K a b)
theorem dcs_pv {T : ftT} {σ : am_S} {S : List (List Int)} {idx : Nat} {s : List Int} {r n a b : Int} {K : List pfN} (hr : 0 ≤ r) (hp : prem T S K a b) : dcs T (pvd σ idx r n a b) S idx s (some (pf_mk r n s K)) := by
  refine Or.inr ⟨r, n, a, b, K, rfl, ?_, ?_, ?_, ?_, hr, hp⟩
  · show (pvd σ idx r n a b).1 139 0 idx = _
    unfold pvd
    rw [set_nk _ _ _ _ _ (by decide), set_nk _ _ _ _ _ (by decide), set_nk _ _ _ _ _ (by decide)]; exact set_same ..
  · unfold pvd
    rw [set_nk _ _ _ _ _ (by decide), set_nk _ _ _ _ _ (by decide)]; exact set_same ..
  · unfold pvd
    rw [set_nk _ _ _ _ _ (by decide)]; exact set_same ..
  · unfold pvd
    exact set_same ..
theorem dcs_eq {T : ftT} {σ τ : am_S} {S : List (List Int)} {idx : Nat} {s : List Int} {o : Option (List pfN)} (h : dcs T σ S idx s o) (he : ∀ a, 139 ≤ a → a ≤ 142 → τ.1 a 0 idx = σ.1 a 0 idx) : dcs T τ S idx s o := by
  rcases h with ⟨h1, h2⟩ | ⟨r, n, a, b, K, h1, h2, h3, h4, h5, h6⟩
  · exact Or.inl ⟨h1, by rw [he 139 (by decide) (by decide)]; exact h2⟩
  · exact Or.inr ⟨r, n, a, b, K, h1, by rw [he 139 (by decide) (by decide)]; exact h2, by rw [he 140 (by decide) (by decide)]; exact h3, by rw [he 141 (by decide) (by decide)]; exact h4, by rw [he 142 (by decide) (by decide)]; exact h5, h6⟩
theorem dcs_pos {T : ftT} {σ : am_S} {S : List (List Int)} {idx : Nat} {s : List Int} {L : List pfN} (h : dcs T σ S idx s (some L)) : σ.1 139 0 idx ≠ 0 := by
  rcases h with ⟨h1, _⟩ | ⟨r, n, a, b, K, _, h2, _, _, _, hr, _⟩
  · cases h1
  · omega
/-- how far the rules of idx have been gone through -/
def RG (T : ftT) (σ : am_S) (S : List (List Int)) (V : List (List Int)) (idx : Nat) (s : List Int) (done : List cdt) (τ : am_S) (S' : List (List Int)) : Prop :=
  lst T τ S' ∧ fe σ τ ∧ (∃ E, S' = S ++ E) ∧ (∀ t ∈ S', t ∈ V) ∧ (∀ c ∈ done, ∀ p, cpr c p → p ∈ S') ∧
  (∀ a, 139 ≤ a → a ≤ 144 → ∀ j, j < S.length → j ≠ idx → τ.1 a 0 j = σ.1 a 0 j) ∧ (∀ a, 143 ≤ a → a ≤ 144 → τ.1 a 0 idx = σ.1 a 0 idx) ∧ (∀ j, S.length ≤ j → j < S'.length → τ.1 139 0 j = 0 ∧ τ.1 143 0 j = 0) ∧
  (σ.1 139 0 idx = 0 → (∀ c ∈ cs T s, ∀ p, cpr c p → p ∈ S) → htr T σ S (wt T s) → S' = S ∧ dcs T τ S idx s (cfst (FD T) s done))
theorem nd_len {α : Type} [BEq α] [LawfulBEq α] : ∀ {S V : List α}, S.Nodup → (∀ x ∈ S, x ∈ V) → S.length ≤ V.length
  | [], _, _, _ => Nat.zero_le _
  | x :: S, V, hn, hs => by
    rw [List.nodup_cons] at hn
    have hx := hs x List.mem_cons_self
    have := nd_len (S := S) (V := V.erase x) hn.2 (fun y hy => (List.mem_erase_of_ne (fun q => hn.1 (by rw [← q]; exact hy))).mpr (hs y (List.mem_cons_of_mem _ hy)))
    have h2 := List.length_erase_of_mem hx
    have h3 : 0 < V.length := List.length_pos_of_mem hx
    rw [List.length_cons]
    omega
theorem lst_lt {T : ftT} {τ : am_S} {S V : List (List Int)} {p : List Int} (hL : lst T τ S) (hV : V.length ≤ 680) (hS : ∀ t ∈ S, t ∈ V) (hp : p ∈ V) (hn : p ∉ S) : S.length < 680 := by
  have := nd_len (S := p :: S) (V := V) (List.nodup_cons.mpr ⟨hn, hL.2.2.1⟩) (fun x hx => by
    rcases List.mem_cons.mp hx with q | q
    · rw [q]; exact hp
    · exact hS x q)
  rw [List.length_cons] at this
  omega
