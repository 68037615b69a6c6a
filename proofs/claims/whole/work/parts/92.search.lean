/-! The search for a proof, as one function -/
def kpl (b : Int) (l : List Int) : List Int := li_keep b l l.length
def kb (b : Int) (j : Nat) : Prop := am_and (am_shr b j) 1 = 1
def axf (s : List Int) : Option Int := match s with
  | [a, b] => if a < 16 ∧ a % 2 = 0 ∧ b = a + 1 then some a else none
  | _ => none
/-- the two premises of a TIMES of x by the bits of m -/
def tm1 (T : ftT) (s : List Int) (x m : Int) : List Int := li_ins (ft_fst T x) (kpl m (s.erase x))
def tm2' (T : ftT) (s : List Int) (x m : Int) : List Int := li_ins (ft_snd T x) (kpl (am_xor m (-1)) (s.erase x))
def fd_2 (r n : Int) (s : List Int) (a b : Option (List pfN)) : Option (List pfN) := match a, b with
  | some A, some B => some (pf_mk r n s (A ++ B))
  | _, _ => none
def fd_1 (r n : Int) (s : List Int) (a : Option (List pfN)) : Option (List pfN) := match a with
  | some A => some (pf_mk r n s A)
  | none => none
def fd_or (a b : Option (List pfN)) : Option (List pfN) := match a with
  | some A => some A
  | none => b
def fd_t (g : List Int → Option (List pfN)) (T : ftT) (s : List Int) (x : Int) : Nat → Nat → Option (List pfN)
  | 0, _ => none
  | k + 1, m => fd_or (fd_2 8 x s (g (tm1 T s x m)) (g (tm2' T s x m))) (fd_t g T s x k (m + 1))
def pm1 (T : ftT) (s : List Int) (x : Int) : List Int := li_ins (ft_fst T x) (s.erase x)
def pm2 (T : ftT) (s : List Int) (x : Int) : List Int := li_ins (ft_snd T x) (s.erase x)
def pm3 (T : ftT) (s : List Int) (x : Int) : List Int := li_ins (ft_snd T x) (li_ins (ft_fst T x) (s.erase x))
def fd_x (g : List Int → Option (List pfN)) (T : ftT) (s : List Int) (x : Int) : Option (List pfN) :=
  if ft_sign T x = 2 then fd_or (fd_1 6 x s (g (pm1 T s x))) (fd_1 7 x s (g (pm2 T s x)))
  else if ft_sign T x = 0 then fd_t g T s x (2 ^ (s.length - 1)) 0 else none
def fd_e (g : List Int → Option (List pfN)) (T : ftT) (s : List Int) : List Int → Option (List pfN)
  | [] => none
  | x :: xs => fd_or (fd_x g T s x) (fd_e g T s xs)
def fd_o (g : List Int → Option (List pfN)) (T : ftT) (s : List Int) (n : Int) : Option (List pfN) :=
  if n = 19 then some (pf_mk 2 19 s []) else if n = 17 then fd_1 3 17 s (g (s.erase 17))
  else if ft_sign T n = 1 then fd_1 4 n s (g (pm3 T s n)) else fd_2 5 n s (g (pm1 T s n)) (g (pm2 T s n))
def fd_s (g : List Int → Option (List pfN)) (T : ftT) (s : List Int) : Option (List pfN) :=
  if li_odd 17 s ≠ -1 then fd_o g T s (li_odd 17 s) else if s = [16] then some (pf_mk 1 16 s []) else match axf s with
    | some a => some (pf_mk 0 a s [])
    | none => fd_e g T s s
def fd (T : ftT) : Nat → List Int → Option (List pfN)
  | 0, _ => none
  | f + 1, s => fd_s (fd T f) T s
def FD (T : ftT) (s : List Int) : Option (List pfN) := fd T 16 s
/-- weights -/
def wt (T : ftT) : List Int → Int
  | [] => 0
  | x :: l => 2 * ft_lv T x - 1 + wt T l
theorem wt_eq (T : ftT) : ∀ l : List Int, wt T l = 2 * ft_lvs T l - l.length
  | [] => rfl
  | x :: l => by
    show 2 * ft_lv T x - 1 + wt T l = 2 * (ft_lv T x + ft_lvs T l) - ((l.length + 1 : Nat) : Int)
    rw [wt_eq T l]
    omega
/-- a sequent that may be searched for -/
def sv (T : ftT) (s : List Int) : Prop := s.Pairwise (· ≤ ·) ∧ (∀ x ∈ s, 0 ≤ x ∧ x < 20 + (T.length : Int)) ∧ ft_lvs T s ≤ 8
theorem sv_wt {T : ftT} (ho : ft_ok T) {s : List Int} (h : sv T s) : 0 ≤ wt T s ∧ wt T s ≤ 15 ∧ s.length ≤ 8 := by
  have h1 := (ft_lvs_le ho s).1
  have h2 := h.2.2
  rw [wt_eq]
  cases s with
  | nil => exact ⟨by show (0 : Int) ≤ 2 * 0 - ((0 : Nat) : Int); decide, by show 2 * 0 - ((0 : Nat) : Int) ≤ 15; decide, by decide⟩
  | cons x l => rw [List.length_cons] at h1 ⊢; exact ⟨by omega, by omega, by omega⟩
theorem kpl_at (b : Int) (l : List Int) : ∀ (j : Nat), j ≤ l.length → ∀ x, (li_keep b l j).count x ≤ (l.take j).count x
  | 0, _, x => by show ([] : List Int).count x ≤ _; rw [List.count_nil]; omega
  | j + 1, hj, x => by
    have ih := kpl_at b l j (by omega) x
    have hlt : j < l.length := by omega
    have e : l.take (j + 1) = l.take j ++ [l[j]] := li_take hlt
    have e2 : (l[j]?).getD 0 = l[j] := by rw [List.getElem?_eq_getElem hlt]; rfl
    unfold li_keep
    rw [e, List.count_append]
    split
    · rw [List.count_append, e2]; omega
    · omega
theorem kpl_cn (b : Int) (l : List Int) (x : Int) : (kpl b l).count x ≤ l.count x := by
  have := kpl_at b l l.length (Nat.le_refl _) x
  rw [List.take_length] at this
  exact this
theorem kp_sub (b : Int) (l : List Int) : ∀ (j : Nat), j ≤ l.length → (li_keep b l j).Sublist (l.take j)
  | 0, _ => List.nil_sublist _
  | j + 1, hj => by
    have ih := kp_sub b l j (by omega)
    have hlt : j < l.length := by omega
    have e : l.take (j + 1) = l.take j ++ [l[j]] := li_take hlt
    have e2 : (l[j]?).getD 0 = l[j] := by rw [List.getElem?_eq_getElem hlt]; rfl
    unfold li_keep
    rw [e]
    split
    · rw [e2]; exact ih.append (List.Sublist.refl _)
    · exact ih.trans (List.sublist_append_left _ _)
theorem kpl_sub (b : Int) (l : List Int) : (kpl b l).Sublist l := by
  have := kp_sub b l l.length (Nat.le_refl _)
  rw [List.take_length] at this
  exact this
theorem lvs_sub {T : ftT} (ho : ft_ok T) {l m : List Int} (h : l.Sublist m) : ft_lvs T l ≤ ft_lvs T m ∧ wt T l ≤ wt T m := by
  induction h with
  | slnil => exact ⟨Int.le_refl _, Int.le_refl _⟩
  | cons x _ ih =>
    have := (ft_lv_le ho x).1
    exact ⟨by show _ ≤ ft_lv T x + _; omega, by show _ ≤ 2 * ft_lv T x - 1 + _; omega⟩
  | cons_cons x _ ih => exact ⟨by show ft_lv T x + _ ≤ ft_lv T x + _; omega, by show 2 * ft_lv T x - 1 + _ ≤ 2 * ft_lv T x - 1 + _; omega⟩
theorem wt_ins (T : ftT) (n : Int) (l : List Int) : wt T (li_ins n l) = wt T l + 2 * ft_lv T n - 1 := by
  rw [wt_eq, wt_eq, ft_lvs_ins, li_ins_length]
  omega
theorem wt_er {T : ftT} {n : Int} {l : List Int} (h : n ∈ l) : wt T (l.erase n) + 2 * ft_lv T n - 1 = wt T l := by
  have h1 := lv_er (T := T) h
  have h2 := List.length_erase_of_mem h
  have h3 : 0 < l.length := List.length_pos_of_mem h
  rw [wt_eq, wt_eq]
  omega
/-- the premises are valid, and lighter -/
theorem sv_er {T : ftT} (ho : ft_ok T) {s : List Int} {x : Int} (h : sv T s) (hx : x ∈ s) : sv T (s.erase x) ∧ wt T (s.erase x) < wt T s := by
  have h1 := lv_er (T := T) hx
  have h2 := wt_er (T := T) hx
  have h3 := (ft_lv_le ho x).1
  have h4 := h.2.2
  exact ⟨⟨er_sorted _ h.1, fun y hy => h.2.1 y (List.mem_of_mem_erase hy), by omega⟩, by omega⟩
theorem sv_p1 {T : ftT} (ho : ft_ok T) (hcl : ft_cl T) (hsm : ft_sm T) {s t : List Int} {x : Int} (h : sv T s) (hx : x ∈ s) (hc : 20 ≤ x ∧ x < 20 + (T.length : Int)) (ht : t.Sublist (s.erase x)) : (sv T (li_ins (ft_fst T x) t) ∧ wt T (li_ins (ft_fst T x) t) < wt T s) ∧ (sv T (li_ins (ft_snd T x) t) ∧ wt T (li_ins (ft_snd T x) t) < wt T s) := by
  have h1 := lv_er (T := T) hx
  have h2 := wt_er (T := T) hx
  have h3 := hsm x hc
  have h4 := ft_cl_at hcl hc
  have h5 := (ft_lv_le ho (ft_fst T x)).1
  have h6 := (ft_lv_le ho (ft_snd T x)).1
  have h7 := lvs_sub ho ht
  have h8 := h.2.2
  have hso : t.Pairwise (· ≤ ·) := (er_sorted x h.1).sublist ht
  have hr : ∀ y ∈ t, 0 ≤ y ∧ y < 20 + (T.length : Int) := fun y hy => h.2.1 y (List.mem_of_mem_erase (ht.subset hy))
  refine ⟨⟨⟨li_ins_sorted hso, fun y hy => ?_, by rw [ft_lvs_ins]; omega⟩, by rw [wt_ins]; omega⟩, ⟨⟨li_ins_sorted hso, fun y hy => ?_, by rw [ft_lvs_ins]; omega⟩, by rw [wt_ins]; omega⟩⟩
  · rcases li_ins_mem.mp hy with q | q
    · rw [q]; exact h4.2.1
    · exact hr y q
  · rcases li_ins_mem.mp hy with q | q
    · rw [q]; exact h4.2.2
    · exact hr y q
theorem sv_p3 {T : ftT} (ho : ft_ok T) (hcl : ft_cl T) (hsm : ft_sm T) {s : List Int} {x : Int} (h : sv T s) (hx : x ∈ s) (hc : 20 ≤ x ∧ x < 20 + (T.length : Int)) : sv T (pm3 T s x) ∧ wt T (pm3 T s x) < wt T s := by
  have h1 := lv_er (T := T) hx
  have h2 := wt_er (T := T) hx
  have h3 := hsm x hc
  have h4 := ft_cl_at hcl hc
  have h8 := h.2.2
  unfold pm3
  refine ⟨⟨li_ins_sorted (li_ins_sorted (er_sorted x h.1)), fun y hy => ?_, by rw [ft_lvs_ins, ft_lvs_ins]; omega⟩, by rw [wt_ins, wt_ins]; omega⟩
  rcases li_ins_mem.mp hy with q | q
  · rw [q]; exact h4.2.2
  · rcases li_ins_mem.mp q with q | q
    · rw [q]; exact h4.2.1
    · exact h.2.1 y (List.mem_of_mem_erase q)
theorem odd_in {l : List Int} {n : Int} (h : li_odd 17 l = n) (hn : n ≠ -1) : n ∈ l ∧ 17 ≤ n ∧ am_and n 1 = 1 := by
  unfold li_odd at h
  cases hf : l.find? (fun x => decide (17 ≤ x) && decide (am_and x 1 = 1)) with
  | none => rw [hf] at h; exact absurd h.symm hn
  | some x =>
    rw [hf] at h
    have h : x = n := h
    subst h
    have := List.find?_some hf
    rw [Bool.and_eq_true, decide_eq_true_eq, decide_eq_true_eq] at this
    exact ⟨List.mem_of_find?_eq_some hf, this.1, this.2⟩
theorem odd_no {l : List Int} (h : li_odd 17 l = -1) (hr : ∀ x ∈ l, 0 ≤ x) : ∀ x ∈ l, ¬ (17 ≤ x ∧ am_and x 1 = 1) := by
  intro x hx hc
  unfold li_odd at h
  cases hf : l.find? (fun x => decide (17 ≤ x) && decide (am_and x 1 = 1)) with
  | none =>
    have := List.find?_eq_none.mp hf x hx
    rw [Bool.and_eq_true, decide_eq_true_eq, decide_eq_true_eq] at this
    exact this hc
  | some y =>
    rw [hf] at h
    have h : y = -1 := h
    have := hr y (List.mem_of_find?_eq_some hf)
    omega
/-- an odd formula of a valid sequent: 17, 19, or of two parts -/
theorem odd_sg {T : ftT} (hp : ft_pr T) {n : Int} (h17 : 17 ≤ n) (h1 : am_and n 1 = 1) (hr : n < 20 + (T.length : Int)) (hT : T.length ≤ 60) (h19 : n ≠ 19) (h17' : n ≠ 17) : (20 ≤ n ∧ n < 20 + (T.length : Int)) ∧ (ft_sign T n = 1 ∨ ft_sign T n = 3) := by
  have hm : n % 2 = 1 := by rw [← an_mod (by omega) (by omega)]; exact h1
  have hn : 20 ≤ n ∧ n < 20 + (T.length : Int) := ⟨by omega, hr⟩
  obtain ⟨p, g1, g2, g3, g4, -, g5⟩ := ft_pair hp hn
  have g5 := (g5 (by omega)).1
  have g6 := (hp.2 p g1).1
  exact ⟨hn, by omega⟩
theorem even_sg {T : ftT} (hp : ft_pr T) {n : Int} (h0 : 0 ≤ n) (h17 : ¬ (17 ≤ n ∧ am_and n 1 = 1)) (hr : n < 20 + (T.length : Int)) (hT : T.length ≤ 60) : (ft_sign T n = 2 ∨ ft_sign T n = 0) ↔ (20 ≤ n ∧ n % 2 = 0) := by
  constructor
  · intro h
    have hn := ft_sign_in (T := T) (n := n) (by omega)
    refine ⟨hn.1, ?_⟩
    by_cases hm : n % 2 = 0
    · exact hm
    · exact absurd ⟨by omega, by rw [an_mod (by omega) (by omega)]; omega⟩ h17
  · rintro ⟨h1, h2⟩
    obtain ⟨p, g1, g2, g3, g4, g5, -⟩ := ft_pair hp ⟨h1, hr⟩
    have g5 := (g5 h2).1
    have g6 := (hp.2 p g1).1
    omega
