/-! How many nodes a search may have open (written by our program) -/
def ptL : List (List Nat) := [[0], [1], [9, 2], [81, 10, 3], [729, 82, 18, 11, 4], [6561, 730, 90, 83, 19, 12, 5], [59049, 6562, 738, 731, 162, 91, 84, 27, 20, 13, 6], [531441, 59050, 6570, 6563, 810, 739, 732, 163, 99, 92, 85, 28, 21, 14, 7], [4782969, 531442, 59058, 59051, 6642, 6571, 6564, 1458, 811, 747, 740, 733, 171, 164, 100, 93, 86, 36, 29, 22, 15, 8]]
def tbL : List (Nat × Nat) := [(0, 0), (1, 1), (9, 3), (2, 2), (81, 6), (10, 5), (3, 3), (729, 12), (82, 8), (18, 11), (11, 7), (4, 4), (6561, 18), (730, 16), (90, 17), (83, 11), (19, 15), (12, 9), (5, 5), (59049, 34), (6562, 24), (738, 33), (731, 20), (162, 26), (91, 23), (84, 14), (27, 31), (20, 19), (13, 11), (6, 6), (531441, 51), (59050, 42), (6570, 49), (6563, 30), (810, 50), (739, 41), (732, 24), (163, 35), (99, 47), (92, 29), (85, 17), (28, 39), (21, 23), (14, 13), (7, 7), (4782969, 86), (531442, 63), (59058, 85), (59051, 50), (6642, 74), (6571, 61), (6564, 36), (1458, 84), (811, 62), (747, 83), (740, 49), (733, 28), (171, 71), (164, 44), (100, 59), (93, 35), (86, 20), (36, 79), (29, 47), (22, 27), (15, 15), (8, 8)]
def tb (c : Nat) : Nat := (tbL.lookup c).getD 0
def tcL : List (Nat × Nat) := [(0, 1), (1, 2), (9, 4), (2, 3), (81, 7), (10, 6), (3, 4), (729, 13), (82, 9), (18, 12), (11, 8), (4, 5), (6561, 19), (730, 17), (90, 18), (83, 12), (19, 16), (12, 10), (5, 6), (59049, 35), (6562, 25), (738, 34), (731, 21), (162, 27), (91, 24), (84, 15), (27, 32), (20, 20), (13, 12), (6, 7), (531441, 52), (59050, 43), (6570, 50), (6563, 31), (810, 51), (739, 42), (732, 25), (163, 36), (99, 48), (92, 30), (85, 18), (28, 40), (21, 24), (14, 14), (7, 8), (4782969, 87), (531442, 64), (59058, 86), (59051, 51), (6642, 75), (6571, 62), (6564, 37), (1458, 85), (811, 63), (747, 84), (740, 50), (733, 29), (171, 72), (164, 45), (100, 60), (93, 36), (86, 21), (36, 80), (29, 48), (22, 28), (15, 16), (8, 9)]
def tc (c : Nat) : Nat := (tcL.lookup c).getD 0
def PT (n : Nat) : List Nat := (ptL[n]?).getD []
def el (l : Nat) : Nat := 9 ^ (l - 1)
theorem pt_in : (List.range 9).all (fun n => (List.range 9).all (fun l => if 1 ≤ l ∧ n + l ≤ 8 then (PT n).all (fun c => (PT (n + l)).contains (c + el l)) else true)) = true := by decide +kernel
theorem tb_le : ptL.all (fun p => p.all (fun c => decide (1 ≤ tc c ∧ tc c ≤ 90 ∧ tb c ≤ 90))) = true := by decide +kernel
theorem tb_nz : (List.range 9).all (fun n => (PT n).all (fun c => if n = 0 then true else decide (1 ≤ tb c))) = true := by decide +kernel
theorem tb_bot : (List.range 8).all (fun n => (PT n).all (fun c => decide (1 + tb c ≤ tb (c + 1) ∧ 1 + tc c ≤ tc (c + 1)))) = true := by decide +kernel
theorem tb_two : (List.range 9).all (fun n => (PT n).all (fun c => (List.range 9).all (fun a => (List.range 9).all (fun b => if 1 ≤ a ∧ 1 ≤ b ∧ n + a + b ≤ 8 then decide ((1 + tb (c + el a + el b) ≤ tb (c + el (a + b)) ∧ 1 + tb (c + el a) + tb (c + el b) ≤ tb (c + el (a + b))) ∧ 1 + tc (c + el a + el b) ≤ tc (c + el (a + b)) ∧ 1 + tc (c + el a) ≤ tc (c + el (a + b)) ∧ 1 + tc (c + el b) ≤ tc (c + el (a + b)) ∧ 1 + tb (c + el a) + tc (c + el b) ≤ tc (c + el (a + b))) else true)))) = true := by decide +kernel
theorem tb_tim : (List.range 9).all (fun n => (PT n).all (fun c => (List.range 9).all (fun n' => if n + n' ≤ 6 then (PT n').all (fun c' => (List.range 9).all (fun a => (List.range 9).all (fun b => if 1 ≤ a ∧ 1 ≤ b ∧ n + n' + a + b ≤ 8 then decide (1 + tb (c + el a) + tb (c' + el b) ≤ tb (c + c' + el (a + b)) ∧ 1 + tc (c + el a) ≤ tc (c + c' + el (a + b)) ∧ 1 + tb (c + el a) + tc (c' + el b) ≤ tc (c + c' + el (a + b))) else true))) else true))) = true := by decide +kernel
theorem al {α : Type} {l : List α} {p : α → Bool} (h : l.all p = true) {x : α} (hx : x ∈ l) : p x = true := List.all_eq_true.mp h x hx
theorem PT_mem {n c : Nat} (hn : n ≤ 8) (h : c ∈ PT n) : 1 ≤ tc c ∧ tc c ≤ 90 ∧ tb c ≤ 90 := by
  have h1 : PT n ∈ ptL := by
    have : n < ptL.length := by show n < 9; omega
    unfold PT
    rw [List.getElem?_eq_getElem this]
    exact List.getElem_mem this
  exact of_decide_eq_true (al (al tb_le h1) h)
theorem PT_ins {n l c : Nat} (h1 : 1 ≤ l) (h8 : n + l ≤ 8) (h : c ∈ PT n) : c + el l ∈ PT (n + l) := by
  have := al (al pt_in (List.mem_range.mpr (show n < 9 by omega))) (List.mem_range.mpr (show l < 9 by omega))
  rw [if_pos ⟨h1, h8⟩] at this
  exact List.contains_iff_mem.mp (al this h)
/-- the code of a sequent -/
def cd (T : ftT) : List Int → Nat
  | [] => 0
  | x :: l => el (ft_lv T x).toNat + cd T l
theorem cd_in {T : ftT} (ho : ft_ok T) : ∀ l : List Int, ft_lvs T l ≤ 8 → cd T l ∈ PT (ft_lvs T l).toNat
  | [], _ => by show 0 ∈ PT 0; decide
  | x :: l, h => by
    have h1 := (ft_lv_le ho x).1
    have h2 := lv_nn ho l
    have h : ft_lv T x + ft_lvs T l ≤ 8 := h
    have ih := cd_in ho l (by omega)
    have := PT_ins (l := (ft_lv T x).toNat) (by omega) (by omega) ih
    show el (ft_lv T x).toNat + cd T l ∈ PT (ft_lv T x + ft_lvs T l).toNat
    rw [Nat.add_comm, show (ft_lv T x + ft_lvs T l).toNat = (ft_lvs T l).toNat + (ft_lv T x).toNat by omega]
    exact this
theorem cd_ins (T : ftT) (n : Int) : ∀ l : List Int, cd T (li_ins n l) = cd T l + el (ft_lv T n).toNat
  | [] => by show el _ + 0 = 0 + el _; omega
  | y :: l => by
    unfold li_ins
    split
    · show el _ + (el _ + cd T l) = el _ + cd T l + el _; omega
    · show el _ + cd T (li_ins n l) = el _ + cd T l + el _; rw [cd_ins T n l]; omega
theorem cd_er {T : ftT} {n : Int} : ∀ {l : List Int}, n ∈ l → cd T (l.erase n) + el (ft_lv T n).toNat = cd T l
  | [], h => absurd h List.not_mem_nil
  | y :: l, h => by
    by_cases e : y = n
    · subst e
      rw [List.erase_cons_head]
      show _ = el _ + cd T l
      omega
    · rw [List.erase_cons_tail (by simpa using e)]
      have hm : n ∈ l := by
        rcases List.mem_cons.mp h with q | q
        · exact absurd q.symm e
        · exact q
      have ih := cd_er (T := T) hm
      show el _ + cd T (l.erase n) + el _ = el _ + cd T l
      omega
theorem cd_app (T : ftT) : ∀ l m : List Int, cd T (l ++ m) = cd T l + cd T m
  | [], m => by show cd T m = 0 + cd T m; omega
  | x :: l, m => by show el _ + cd T (l ++ m) = el _ + cd T l + cd T m; rw [cd_app T l m]; omega
theorem kp_cd {T : ftT} {m : Nat} (hm : m < 128) (l : List Int) (hl : l.length ≤ 8) : ∀ j, j ≤ l.length → cd T (li_keep (m : Int) l j) + cd T (li_keep (am_xor (m : Int) (-1)) l j) = cd T (l.take j) ∧ ft_lvs T (li_keep (m : Int) l j) + ft_lvs T (li_keep (am_xor (m : Int) (-1)) l j) = ft_lvs T (l.take j)
  | 0, _ => ⟨rfl, rfl⟩
  | j + 1, hj => by
    have ih := kp_cd (T := T) hm l hl j (by omega)
    have hlt : j < l.length := by omega
    have e : l.take (j + 1) = l.take j ++ [l[j]] := li_take hlt
    have e2 : (l[j]?).getD 0 = l[j] := by rw [List.getElem?_eq_getElem hlt]; rfl
    have hc : (am_and (am_shr (am_xor (m : Int) (-1)) (j : Int)) 1 = 1) ↔ ¬ (am_and (am_shr (m : Int) (j : Int)) 1 = 1) := kb_c ⟨m, hm⟩ ⟨j, by omega⟩
    unfold li_keep
    rw [e, cd_app, ft_lvs_app, e2]
    by_cases hb : am_and (am_shr (m : Int) (j : Int)) 1 = 1
    · rw [if_pos hb, if_neg (fun q => (hc.mp q) hb), cd_app, ft_lvs_app]
      exact ⟨by omega, by omega⟩
    · rw [if_neg hb, if_pos (hc.mpr hb), cd_app, ft_lvs_app]
      exact ⟨by omega, by omega⟩
/-- the bounds, of a proof and of a half-built one: they fall to the premises -/
def nb (T : ftT) (s : List Int) : Nat := tb (cd T s)
def nc' (T : ftT) (s : List Int) : Nat := tc (cd T s)
theorem nb_le {T : ftT} (ho : ft_ok T) {s : List Int} (h : sv T s) : 1 ≤ nc' T s ∧ nc' T s ≤ 90 ∧ nb T s ≤ 90 := PT_mem (by have := h.2.2; omega) (cd_in ho s h.2.2)
theorem nb_bot {T : ftT} (ho : ft_ok T) {s : List Int} (h : sv T s) (hx : (17 : Int) ∈ s) : 1 + nb T (s.erase 17) ≤ nb T s ∧ 1 + nc' T (s.erase 17) ≤ nc' T s := by
  have h1 := cd_er (T := T) hx
  have h2 := lv_er (T := T) hx
  have e : ft_lv T 17 = 1 := ft_lv_at (by decide)
  have h8 := h.2.2
  have hn := lv_nn ho (s.erase 17)
  rw [e] at h1 h2
  have := of_decide_eq_true (al (al tb_bot (List.mem_range.mpr (show (ft_lvs T (s.erase 17)).toNat < 8 by omega))) (cd_in ho (s.erase 17) (by omega)))
  unfold nb nc'
  rw [← h1]
  exact this
theorem nb_two {T : ftT} (ho : ft_ok T) (hsm : ft_sm T) {s : List Int} {x : Int} (h : sv T s) (hx : x ∈ s) (hc : 20 ≤ x ∧ x < 20 + (T.length : Int)) : (1 + nb T (pm3 T s x) ≤ nb T s ∧ 1 + nb T (pm1 T s x) + nb T (pm2 T s x) ≤ nb T s) ∧ 1 + nc' T (pm3 T s x) ≤ nc' T s ∧ 1 + nc' T (pm1 T s x) ≤ nc' T s ∧ 1 + nc' T (pm2 T s x) ≤ nc' T s ∧ 1 + nb T (pm1 T s x) + nc' T (pm2 T s x) ≤ nc' T s := by
  have h1 := cd_er (T := T) hx
  have h2 := lv_er (T := T) hx
  have h3 := hsm x hc
  have h5 := (ft_lv_le ho (ft_fst T x)).1
  have h6 := (ft_lv_le ho (ft_snd T x)).1
  have h8 := h.2.2
  have hn := lv_nn ho (s.erase x)
  have := al (al (al (al tb_two (List.mem_range.mpr (show (ft_lvs T (s.erase x)).toNat < 9 by omega))) (cd_in ho (s.erase x) (by omega))) (List.mem_range.mpr (show (ft_lv T (ft_fst T x)).toNat < 9 by omega))) (List.mem_range.mpr (show (ft_lv T (ft_snd T x)).toNat < 9 by omega))
  rw [if_pos ⟨by omega, by omega, by omega⟩] at this
  have := of_decide_eq_true this
  unfold nb nc' pm1 pm2 pm3
  rw [show (ft_lv T (ft_fst T x)).toNat + (ft_lv T (ft_snd T x)).toNat = (ft_lv T x).toNat by omega, h1] at this
  simp only [cd_ins]
  exact this
theorem nb_tim {T : ftT} (ho : ft_ok T) (hsm : ft_sm T) {s : List Int} {x : Int} {m : Nat} (h : sv T s) (hx : x ∈ s) (hc : 20 ≤ x ∧ x < 20 + (T.length : Int)) (hm : m < 128) : 1 + nb T (tm1 T s x m) + nb T (tm2' T s x m) ≤ nb T s ∧ 1 + nc' T (tm1 T s x m) ≤ nc' T s ∧ 1 + nb T (tm1 T s x m) + nc' T (tm2' T s x m) ≤ nc' T s := by
  have h1 := cd_er (T := T) hx
  have h2 := lv_er (T := T) hx
  have h3 := hsm x hc
  have h5 := (ft_lv_le ho (ft_fst T x)).1
  have h6 := (ft_lv_le ho (ft_snd T x)).1
  have h8 := h.2.2
  have hl8 := (sv_wt ho h).2.2
  have hle := er_len (l := s) x
  obtain ⟨k1, k2⟩ := kp_cd (T := T) hm (s.erase x) (by omega) (s.erase x).length (Nat.le_refl _)
  rw [List.take_length] at k1 k2
  have n1 := lv_nn ho (li_keep (m : Int) (s.erase x) (s.erase x).length)
  have n2 := lv_nn ho (li_keep (am_xor (m : Int) (-1)) (s.erase x) (s.erase x).length)
  have := al (al (al tb_tim (List.mem_range.mpr (show (ft_lvs T (li_keep (m : Int) (s.erase x) (s.erase x).length)).toNat < 9 by omega))) (cd_in ho _ (by omega))) (List.mem_range.mpr (show (ft_lvs T (li_keep (am_xor (m : Int) (-1)) (s.erase x) (s.erase x).length)).toNat < 9 by omega))
  rw [if_pos (by omega)] at this
  have := al (al (al this (cd_in ho _ (by omega))) (List.mem_range.mpr (show (ft_lv T (ft_fst T x)).toNat < 9 by omega))) (List.mem_range.mpr (show (ft_lv T (ft_snd T x)).toNat < 9 by omega))
  rw [if_pos ⟨by omega, by omega, by omega⟩] at this
  have := of_decide_eq_true this
  rw [show (ft_lv T (ft_fst T x)).toNat + (ft_lv T (ft_snd T x)).toNat = (ft_lv T x).toNat by omega, k1, h1] at this
  unfold nb nc' tm1 tm2' kpl
  simp only [cd_ins]
  exact this
theorem nb_pos {T : ftT} (ho : ft_ok T) {s : List Int} (h : sv T s) (hne : s ≠ []) : 1 ≤ nb T s := by
  have hd := al (al tb_nz (List.mem_range.mpr (show (ft_lvs T s).toNat < 9 by have := h.2.2; have := lv_nn ho s; omega))) (cd_in ho s h.2.2)
  have hp : (ft_lvs T s).toNat ≠ 0 := by
    have := (ft_lvs_le ho s).1
    have h0 : 0 < s.length := List.length_pos_iff.mpr hne
    omega
  rw [if_neg hp] at hd
  exact of_decide_eq_true hd
/-- the proof found is within the bound -/
theorem fd_len {T : ftT} (hp : ft_pr T) (ho : ft_ok T) (hcl : ft_cl T) (hsm : ft_sm T) (hT : T.length ≤ 60) : ∀ (f : Nat) (s : List Int) (L : List pfN), sv T s → fd T f s = some L → L.length ≤ nb T s
  | 0, s, L, _, h => by cases h
  | f + 1, s, L, hs, h => by
    have ih := fd_len hp ho hcl hsm hT f
    have h : fd_s (fd T f) T s = some L := h
    unfold fd_s at h
    by_cases hodd : li_odd 17 s = -1
    · have hn : ¬ (li_odd 17 s ≠ -1) := fun q => q hodd
      rw [if_neg hn] at h
      split at h
      · rename_i e
        cases h
        exact nb_pos ho hs (by rw [e]; exact List.cons_ne_nil _ _)
      split at h
      · rename_i a e
        cases h
        refine nb_pos ho hs (fun q => ?_)
        rw [q] at e
        cases e
      · have key : ∀ xs : List Int, (∀ x ∈ xs, x ∈ s) → fd_e (fd T f) T s xs = some L → L.length ≤ nb T s := by
          intro xs
          induction xs with
          | nil => intro _ h; cases h
          | cons x xs ihx =>
            intro hx h
            unfold fd_e at h
            rcases fd_or_s h with h | h
            · have hxs := hx x List.mem_cons_self
              unfold fd_x at h
              split at h
              · rename_i h2
                have hc := ft_sign_in (T := T) (n := x) (by rw [h2]; decide)
                obtain ⟨⟨a1, a2⟩, b1, b2⟩ := sv_p1 ho hcl hsm hs hxs hc (List.Sublist.refl _)
                have hb := (nb_two ho hsm hs hxs hc).1.2
                rcases fd_or_s h with h | h
                · obtain ⟨A, e1, rfl⟩ := fd_1_s h
                  have := ih _ A a1 e1
                  rw [mk_len]
                  unfold pm1 at hb
                  omega
                · obtain ⟨A, e1, rfl⟩ := fd_1_s h
                  have := ih _ A b1 e1
                  rw [mk_len]
                  unfold pm2 at hb
                  omega
              · split at h
                · rename_i h0
                  have hc := ft_sign_in (T := T) (n := x) (by rw [h0]; decide)
                  obtain ⟨i, A, B, i1, i2, e1, e2, rfl⟩ := fd_t_s _ _ h
                  have hl8 := (sv_wt ho hs).2.2
                  have hi : i < 128 := by have := pow_le hl8; omega
                  obtain ⟨⟨a1, a2⟩, -⟩ := sv_p1 ho hcl hsm hs hxs hc (kpl_sub (i : Int) (s.erase x))
                  obtain ⟨-, b1, b2⟩ := sv_p1 ho hcl hsm hs hxs hc (kpl_sub (am_xor (i : Int) (-1)) (s.erase x))
                  have hb := (nb_tim ho hsm hs hxs hc hi).1
                  have q1 := ih _ A a1 e1
                  have q2 := ih _ B b1 e2
                  rw [mk_len, List.length_append]
                  unfold tm1 tm2' at hb
                  omega
                · cases h
            · exact ihx (fun y hy => hx y (List.mem_cons_of_mem _ hy)) h
        exact key s (fun x hx => hx) h
    · rw [if_pos hodd] at h
      obtain ⟨m1, m2, m3⟩ := odd_in rfl hodd
      unfold fd_o at h
      split at h
      · cases h
        exact nb_pos ho hs (List.ne_nil_of_mem m1)
      rename_i h19
      split at h
      · rename_i h17
        rw [h17] at m1
        obtain ⟨A, e1, rfl⟩ := fd_1_s h
        have := ih _ A (sv_er ho hs m1).1 e1
        have := (nb_bot ho hs m1).1
        rw [mk_len]
        omega
      rename_i h17
      obtain ⟨hc, hsg⟩ := odd_sg hp m2 m3 (hs.2.1 _ m1).2 hT h19 h17
      obtain ⟨⟨a1, a2⟩, b1, b2⟩ := sv_p1 ho hcl hsm hs m1 hc (List.Sublist.refl _)
      have hb := (nb_two ho hsm hs m1 hc).1
      split at h
      · obtain ⟨A, e1, rfl⟩ := fd_1_s h
        have := ih _ A (sv_p3 ho hcl hsm hs m1 hc).1 e1
        rw [mk_len]
        omega
      · obtain ⟨A, B, e1, e2, rfl⟩ := fd_2_s h
        have q1 := ih _ A a1 e1
        have q2 := ih _ B b1 e2
        rw [mk_len, List.length_append]
        unfold pm1 pm2 at hb
        omega
