/-! The search: it asks for lighter sequents only; what it finds is a proof -/
theorem er_pm {T : ftT} {s : List Int} {x : Int} : pm1 T s x = li_ins (ft_fst T x) (s.erase x) ∧ pm2 T s x = li_ins (ft_snd T x) (s.erase x) := ⟨rfl, rfl⟩
theorem fd_t_cg {g g' : List Int → Option (List pfN)} {T : ftT} {s : List Int} {x : Int} (h : ∀ m : Nat, g (tm1 T s x m) = g' (tm1 T s x m) ∧ g (tm2' T s x m) = g' (tm2' T s x m)) : ∀ k m, fd_t g T s x k m = fd_t g' T s x k m
  | 0, _ => rfl
  | k + 1, m => by
    unfold fd_t
    rw [(h m).1, (h m).2, fd_t_cg h k (m + 1)]
theorem fd_x_cg {g g' : List Int → Option (List pfN)} {T : ftT} (ho : ft_ok T) (hcl : ft_cl T) (hsm : ft_sm T) {s : List Int} (hs : sv T s) (h : ∀ p, sv T p → wt T p < wt T s → g p = g' p) {x : Int} (hx : x ∈ s) : fd_x g T s x = fd_x g' T s x := by
  unfold fd_x
  by_cases h2 : ft_sign T x = 2
  · have hc := ft_sign_in (T := T) (n := x) (by rw [h2]; decide)
    obtain ⟨⟨a1, a2⟩, b1, b2⟩ := sv_p1 ho hcl hsm hs hx hc (List.Sublist.refl _)
    unfold pm1 pm2
    rw [if_pos h2, if_pos h2, h _ a1 a2, h _ b1 b2]
  · rw [if_neg h2, if_neg h2]
    by_cases h0 : ft_sign T x = 0
    · have hc := ft_sign_in (T := T) (n := x) (by rw [h0]; decide)
      rw [if_pos h0, if_pos h0]
      refine fd_t_cg (fun m => ⟨?_, ?_⟩) _ _
      · obtain ⟨⟨a1, a2⟩, -⟩ := sv_p1 ho hcl hsm hs hx hc (kpl_sub (m : Int) (s.erase x))
        exact h _ a1 a2
      · obtain ⟨-, b1, b2⟩ := sv_p1 ho hcl hsm hs hx hc (kpl_sub (am_xor (m : Int) (-1)) (s.erase x))
        exact h _ b1 b2
    · rw [if_neg h0, if_neg h0]
theorem fd_e_cg {g g' : List Int → Option (List pfN)} {T : ftT} (ho : ft_ok T) (hcl : ft_cl T) (hsm : ft_sm T) {s : List Int} (hs : sv T s) (h : ∀ p, sv T p → wt T p < wt T s → g p = g' p) : ∀ xs : List Int, (∀ x ∈ xs, x ∈ s) → fd_e g T s xs = fd_e g' T s xs
  | [], _ => rfl
  | x :: xs, hx => by
    unfold fd_e
    rw [fd_x_cg ho hcl hsm hs h (hx x List.mem_cons_self), fd_e_cg ho hcl hsm hs h xs (fun y hy => hx y (List.mem_cons_of_mem _ hy))]
theorem fd_s_cg {g g' : List Int → Option (List pfN)} {T : ftT} (hp : ft_pr T) (ho : ft_ok T) (hcl : ft_cl T) (hsm : ft_sm T) (hT : T.length ≤ 60) {s : List Int} (hs : sv T s) (h : ∀ p, sv T p → wt T p < wt T s → g p = g' p) : fd_s g T s = fd_s g' T s := by
  unfold fd_s
  by_cases hodd : li_odd 17 s = -1
  · have hn : ¬ (li_odd 17 s ≠ -1) := fun q => q hodd
    rw [fd_e_cg ho hcl hsm hs h s (fun x hx => hx), if_neg hn, if_neg hn]
  · rw [if_pos hodd, if_pos hodd]
    obtain ⟨m1, m2, m3⟩ := odd_in rfl hodd
    unfold fd_o
    by_cases h19 : li_odd 17 s = 19
    · rw [if_pos h19, if_pos h19]
    rw [if_neg h19, if_neg h19]
    by_cases h17 : li_odd 17 s = 17
    · rw [if_pos h17, if_pos h17]
      rw [h17] at m1
      obtain ⟨a1, a2⟩ := sv_er ho hs m1
      rw [h _ a1 a2]
    rw [if_neg h17, if_neg h17]
    obtain ⟨hc, hsg⟩ := odd_sg hp m2 m3 (hs.2.1 _ m1).2 hT h19 h17
    obtain ⟨⟨a1, a2⟩, b1, b2⟩ := sv_p1 ho hcl hsm hs m1 hc (List.Sublist.refl _)
    obtain ⟨c1, c2⟩ := sv_p3 ho hcl hsm hs m1 hc
    rw [h _ c1 c2]
    unfold pm1 pm2
    rw [h _ a1 a2, h _ b1 b2]
theorem fd_fuel {T : ftT} (hp : ft_pr T) (ho : ft_ok T) (hcl : ft_cl T) (hsm : ft_sm T) (hT : T.length ≤ 60) : ∀ (f g : Nat) (s : List Int), sv T s → wt T s < f → wt T s < g → fd T f s = fd T g s
  | 0, g, s, hs, h, _ => absurd h (by have := (sv_wt ho hs).1; omega)
  | f + 1, 0, s, hs, _, h => absurd h (by have := (sv_wt ho hs).1; omega)
  | f + 1, g + 1, s, hs, h1, h2 => fd_s_cg hp ho hcl hsm hT hs (fun p hp' hw => fd_fuel hp ho hcl hsm hT f g p hp' (by omega) (by omega))
theorem FD_eq {T : ftT} (hp : ft_pr T) (ho : ft_ok T) (hcl : ft_cl T) (hsm : ft_sm T) (hT : T.length ≤ 60) {s : List Int} (hs : sv T s) : FD T s = fd_s (FD T) T s := by
  have hw := (sv_wt ho hs).2.1
  show fd_s (fd T 15) T s = fd_s (fd T 16) T s
  exact fd_s_cg hp ho hcl hsm hT hs (fun p hp' hw' => fd_fuel hp ho hcl hsm hT 15 16 p hp' (by omega) (by omega))
/-- more formulas change nothing -/
theorem sv_pre {T T' : ftT} {s : List Int} (h : T'.take T.length = T) (hs : sv T s) : sv T' s := by
  have := pre_le h
  exact ⟨hs.1, fun x hx => by have := hs.2.1 x hx; omega, by rw [ft_lvs_pre h s (fun x hx => (hs.2.1 x hx).2)]; exact hs.2.2⟩
theorem fd_t_pre {g : List Int → Option (List pfN)} {T T' : ftT} {s : List Int} {x : Int} (h : T'.take T.length = T) (hx : x < 20 + (T.length : Int)) : ∀ k m, fd_t g T' s x k m = fd_t g T s x k m
  | 0, _ => rfl
  | k + 1, m => by
    unfold fd_t tm1 tm2'
    rw [ft_fst_pre h hx, ft_snd_pre h hx, fd_t_pre h hx k (m + 1)]
theorem fd_e_pre {g : List Int → Option (List pfN)} {T T' : ftT} {s : List Int} (h : T'.take T.length = T) : ∀ xs : List Int, (∀ x ∈ xs, x < 20 + (T.length : Int)) → fd_e g T' s xs = fd_e g T s xs
  | [], _ => rfl
  | x :: xs, hx => by
    have hx1 := hx x List.mem_cons_self
    unfold fd_e fd_x pm1 pm2
    rw [ft_sign_pre h hx1, ft_fst_pre h hx1, ft_snd_pre h hx1, fd_t_pre h hx1, fd_e_pre h xs (fun y hy => hx y (List.mem_cons_of_mem _ hy))]
theorem fd_s_pre {g : List Int → Option (List pfN)} {T T' : ftT} {s : List Int} (h : T'.take T.length = T) (hr : ∀ x ∈ s, x < 20 + (T.length : Int)) : fd_s g T' s = fd_s g T s := by
  unfold fd_s
  rw [fd_e_pre h s hr]
  by_cases hodd : li_odd 17 s = -1
  · have hn : ¬ (li_odd 17 s ≠ -1) := fun q => q hodd
    rw [if_neg hn, if_neg hn]
  · have hx1 := hr _ (odd_in rfl hodd).1
    rw [if_pos hodd, if_pos hodd]
    unfold fd_o pm1 pm2 pm3
    rw [ft_sign_pre h hx1, ft_fst_pre h hx1, ft_snd_pre h hx1]
theorem fd_pre {T T' : ftT} (hp : ft_pr T) (ho : ft_ok T) (hcl : ft_cl T) (hsm : ft_sm T) (hT : T.length ≤ 60) (h : T'.take T.length = T) : ∀ (f : Nat) (s : List Int), sv T s → fd T' f s = fd T f s
  | 0, _, _ => rfl
  | f + 1, s, hs => by
    show fd_s (fd T' f) T' s = fd_s (fd T f) T s
    rw [fd_s_pre h (fun x hx => (hs.2.1 x hx).2)]
    exact fd_s_cg hp ho hcl hsm hT hs (fun p hp' _ => fd_pre hp ho hcl hsm hT h f p hp')
/-- what is found -/
theorem sv_lnk {T : ftT} {s : List Int} (h : sv T s) : lnk T s := ⟨h.1, h.2.1, by have := h.2.2; omega⟩
def okp (T : ftT) (s : List Int) (L : List pfN) : Prop := vl T L ∧ rl L = s ∧ pf_cuts L = 0
theorem ins_er {s : List Int} {x : Int} (hs : s.Pairwise (· ≤ ·)) (hx : x ∈ s) : li_ins x (s.erase x) = s := by
  refine sor_eq (li_ins_sorted (er_sorted x hs)) hs (fun y => ?_)
  rw [cn_ins, cn_er]
  have := cn_mem hx y
  omega
theorem er_ins {s : List Int} {x : Int} (hs : s.Pairwise (· ≤ ·)) : (li_ins x s).erase x = s := by
  refine sor_eq (er_sorted x (li_ins_sorted hs)) hs (fun y => ?_)
  rw [cn_er, cn_ins]
  omega
theorem vl_n1 {T : ftT} {s : List Int} {r n : Int} {A : List pfN} {p : List Int} (hs : sv T s) (hA : okp T p A) (hr : r ≠ 9) (hvo : vo T r n p) (he : br_l T r n p [] = s) : okp T s (pf_mk r n s A) := by
  obtain ⟨a1, a2, a3⟩ := hA
  have := vl_o (r := r) (n := n) a1 (by rw [a2, he]; exact sv_lnk hs) (by rw [a2]; exact hvo)
  rw [a2, he] at this
  exact ⟨this, rfl, by rw [cuts_o, if_neg hr, a3]⟩
theorem vl_n2 {T : ftT} {s : List Int} {r n : Int} {A B : List pfN} {p q : List Int} (hs : sv T s) (hA : okp T p A) (hB : okp T q B) (hr : r ≠ 9) (hvt : vt T r n p q) (he : br_l T r n p q = s) : okp T s (pf_mk r n s (A ++ B)) := by
  obtain ⟨a1, a2, a3⟩ := hA
  obtain ⟨b1, b2, b3⟩ := hB
  have := vl_t (r := r) (n := n) a1 b1 (by rw [a2, b2, he]; exact sv_lnk hs) (by rw [a2, b2]; exact hvt)
  rw [a2, b2, he] at this
  exact ⟨this, rfl, by rw [cuts_t, if_neg hr, a3, b3]⟩
theorem fd_or_s {a b : Option (List pfN)} {L : List pfN} (h : fd_or a b = some L) : a = some L ∨ b = some L := by
  unfold fd_or at h
  split at h
  · exact Or.inl h
  · exact Or.inr h
theorem fd_1_s {r n : Int} {s : List Int} {a : Option (List pfN)} {L : List pfN} (h : fd_1 r n s a = some L) : ∃ A, a = some A ∧ L = pf_mk r n s A := by
  unfold fd_1 at h
  split at h
  · cases h; exact ⟨_, rfl, rfl⟩
  · cases h
theorem fd_2_s {r n : Int} {s : List Int} {a b : Option (List pfN)} {L : List pfN} (h : fd_2 r n s a b = some L) : ∃ A B, a = some A ∧ b = some B ∧ L = pf_mk r n s (A ++ B) := by
  unfold fd_2 at h
  split at h
  · cases h; exact ⟨_, _, rfl, rfl, rfl⟩
  · cases h
/-- m and its complement share out a list -/
theorem kb_c : ∀ m : Fin 128, ∀ j : Fin 8, (am_and (am_shr (am_xor (m.val : Int) (-1)) (j.val : Int)) 1 = 1) ↔ ¬ (am_and (am_shr (m.val : Int) (j.val : Int)) 1 = 1) := by decide +kernel
theorem kp_sum {m : Nat} (hm : m < 128) (l : List Int) (hl : l.length ≤ 8) : ∀ j, j ≤ l.length → ∀ x, (li_keep (m : Int) l j).count x + (li_keep (am_xor (m : Int) (-1)) l j).count x = (l.take j).count x
  | 0, _, x => by
    show ([] : List Int).count x + ([] : List Int).count x = _
    rw [List.count_nil, List.take_zero, List.count_nil]
  | j + 1, hj, x => by
    have ih := kp_sum hm l hl j (by omega) x
    have hlt : j < l.length := by omega
    have e : l.take (j + 1) = l.take j ++ [l[j]] := li_take hlt
    have e2 : (l[j]?).getD 0 = l[j] := by rw [List.getElem?_eq_getElem hlt]; rfl
    have hc := kb_c ⟨m, hm⟩ ⟨j, by omega⟩
    have hc : (am_and (am_shr (am_xor (m : Int) (-1)) (j : Int)) 1 = 1) ↔ ¬ (am_and (am_shr (m : Int) (j : Int)) 1 = 1) := hc
    unfold li_keep
    rw [e, List.count_append, e2]
    by_cases hb : am_and (am_shr (m : Int) (j : Int)) 1 = 1
    · rw [if_pos hb, if_neg (fun q => (hc.mp q) hb), List.count_append]
      omega
    · rw [if_neg hb, if_pos (hc.mpr hb), List.count_append]
      omega
theorem kpl_sum {m : Nat} (hm : m < 128) {l : List Int} (hl : l.length ≤ 8) (x : Int) : (kpl (m : Int) l).count x + (kpl (am_xor (m : Int) (-1)) l).count x = l.count x := by
  have := kp_sum hm l hl l.length (Nat.le_refl _) x
  rw [List.take_length] at this
  exact this
theorem fd_t_s {g : List Int → Option (List pfN)} {T : ftT} {s : List Int} {x : Int} {L : List pfN} : ∀ k m, fd_t g T s x k m = some L → ∃ i A B, m ≤ i ∧ i < m + k ∧ g (tm1 T s x (i : Nat)) = some A ∧ g (tm2' T s x (i : Nat)) = some B ∧ L = pf_mk 8 x s (A ++ B)
  | 0, m, h => by cases h
  | k + 1, m, h => by
    unfold fd_t at h
    rcases fd_or_s h with h | h
    · obtain ⟨A, B, h1, h2, h3⟩ := fd_2_s h
      exact ⟨m, A, B, Nat.le_refl _, by omega, h1, h2, h3⟩
    · obtain ⟨i, A, B, h0, h1, h2⟩ := fd_t_s k (m + 1) h
      exact ⟨i, A, B, by omega, by omega, h2⟩
theorem pow_le {n : Nat} (h : n ≤ 8) : 2 ^ (n - 1) ≤ 128 := by
  have : n = 0 ∨ n = 1 ∨ n = 2 ∨ n = 3 ∨ n = 4 ∨ n = 5 ∨ n = 6 ∨ n = 7 ∨ n = 8 := by omega
  rcases this with rfl | rfl | rfl | rfl | rfl | rfl | rfl | rfl | rfl <;> decide
set_option maxHeartbeats 1000000 in
theorem fd_ok {T : ftT} (hp : ft_pr T) (ho : ft_ok T) (hcl : ft_cl T) (hsm : ft_sm T) (hT : T.length ≤ 60) : ∀ (f : Nat) (s : List Int) (L : List pfN), sv T s → fd T f s = some L → okp T s L
  | 0, s, L, _, h => by cases h
  | f + 1, s, L, hs, h => by
    have ih := fd_ok hp ho hcl hsm hT f
    have h : fd_s (fd T f) T s = some L := h
    unfold fd_s at h
    by_cases hodd : li_odd 17 s = -1
    · have hn : ¬ (li_odd 17 s ≠ -1) := fun q => q hodd
      rw [if_neg hn] at h
      split at h
      · rename_i e
        cases h
        subst e
        exact ⟨vl_z (sv_lnk hs) (Or.inr (Or.inl ⟨rfl, rfl, rfl⟩)), rfl, rfl⟩
      split at h
      · rename_i a e
        cases h
        unfold axf at e
        split at e
        · split at e
          · rename_i a' b' hc
            cases e
            have h0 := (hs.2.1 a List.mem_cons_self).1
            exact ⟨vl_z (sv_lnk hs) (Or.inl ⟨rfl, by rw [hc.2.2], h0, hc.1, hc.2.1⟩), rfl, rfl⟩
          · cases e
        · cases e
      · -- the even ones
        have key : ∀ xs : List Int, (∀ x ∈ xs, x ∈ s) → fd_e (fd T f) T s xs = some L → okp T s L := by
          intro xs
          induction xs with
          | nil => intro _ h; cases h
          | cons x xs ihx =>
            intro hx h
            unfold fd_e at h
            rcases fd_or_s h with h | h
            · have hxs := hx x List.mem_cons_self
              have gx := fun y => cn_mem hxs y
              unfold fd_x at h
              split at h
              · rename_i h2
                have hc := ft_sign_in (T := T) (n := x) (by rw [h2]; decide)
                obtain ⟨⟨a1, a2⟩, b1, b2⟩ := sv_p1 ho hcl hsm hs hxs hc (List.Sublist.refl _)
                rcases fd_or_s h with h | h
                · obtain ⟨A, e1, rfl⟩ := fd_1_s h
                  refine vl_n1 hs (ih _ A a1 e1) (by decide) (Or.inr (Or.inr (Or.inl ⟨rfl, h2, li_ins_mem.mpr (Or.inl rfl)⟩))) ?_
                  rw [b6, er_ins (er_sorted x hs.1), ins_er hs.1 hxs]
                · obtain ⟨A, e1, rfl⟩ := fd_1_s h
                  refine vl_n1 hs (ih _ A b1 e1) (by decide) (Or.inr (Or.inr (Or.inr ⟨rfl, h2, li_ins_mem.mpr (Or.inl rfl)⟩))) ?_
                  rw [b7, er_ins (er_sorted x hs.1), ins_er hs.1 hxs]
              · split at h
                · rename_i h0
                  have hc := ft_sign_in (T := T) (n := x) (by rw [h0]; decide)
                  obtain ⟨i, A, B, i1, i2, e1, e2, rfl⟩ := fd_t_s _ _ h
                  have hl8 := (sv_wt ho hs).2.2
                  have hi : i < 128 := by have := pow_le hl8; omega
                  obtain ⟨⟨a1, a2⟩, -⟩ := sv_p1 ho hcl hsm hs hxs hc (kpl_sub (i : Int) (s.erase x))
                  obtain ⟨-, b1, b2⟩ := sv_p1 ho hcl hsm hs hxs hc (kpl_sub (am_xor (i : Int) (-1)) (s.erase x))
                  refine vl_n2 hs (ih _ A a1 e1) (ih _ B b1 e2) (by decide) (Or.inr (Or.inl ⟨rfl, h0, li_ins_mem.mpr (Or.inl rfl), li_ins_mem.mpr (Or.inl rfl)⟩)) ?_
                  have so1 : (kpl (i : Int) (s.erase x)).Pairwise (· ≤ ·) := (er_sorted x hs.1).sublist (kpl_sub _ _)
                  have so2 : (kpl (am_xor (i : Int) (-1)) (s.erase x)).Pairwise (· ≤ ·) := (er_sorted x hs.1).sublist (kpl_sub _ _)
                  rw [b8, er_ins so1, er_ins so2]
                  refine sor_eq (li_ins_sorted (li_insAll_sorted _ so1)) hs.1 (fun y => ?_)
                  have z1 := kpl_sum hi (l := s.erase x) (by have := er_len (l := s) x; omega) y
                  have z2 := gx y
                  rw [cn_er] at z1
                  rw [cn_ins, cn_all]
                  omega
                · cases h
            · exact ihx (fun y hy => hx y (List.mem_cons_of_mem _ hy)) h
        exact key s (fun x hx => hx) h
    · rw [if_pos hodd] at h
      obtain ⟨m1, m2, m3⟩ := odd_in rfl hodd
      unfold fd_o at h
      split at h
      · rename_i h19
        cases h
        rw [h19] at m1
        exact ⟨vl_z (sv_lnk hs) (Or.inr (Or.inr ⟨rfl, rfl, m1⟩)), rfl, rfl⟩
      rename_i h19
      split at h
      · rename_i h17
        rw [h17] at m1
        obtain ⟨A, e1, rfl⟩ := fd_1_s h
        refine vl_n1 hs (ih _ A (sv_er ho hs m1).1 e1) (by decide) (Or.inl ⟨rfl, rfl⟩) ?_
        rw [b3, ins_er hs.1 m1]
      rename_i h17
      obtain ⟨hc, hsg⟩ := odd_sg hp m2 m3 (hs.2.1 _ m1).2 hT h19 h17
      obtain ⟨⟨a1, a2⟩, b1, b2⟩ := sv_p1 ho hcl hsm hs m1 hc (List.Sublist.refl _)
      have gx := fun y => cn_mem m1 y
      split at h
      · rename_i h1
        obtain ⟨A, e1, rfl⟩ := fd_1_s h
        refine vl_n1 hs (ih _ A (sv_p3 ho hcl hsm hs m1 hc).1 e1) (by decide) (Or.inr (Or.inl ⟨rfl, h1, ?_, ?_⟩)) ?_
        · exact li_ins_mem.mpr (Or.inr (li_ins_mem.mpr (Or.inl rfl)))
        · refine cn_in ?_
          unfold pm3
          rw [cn_er, cn_ins, cn_ins, dl_s]
          omega
        · unfold pm3
          refine sor_eq (br_sorted (li_ins_sorted (li_ins_sorted (er_sorted _ hs.1)))) hs.1 (fun y => ?_)
          have z := gx y
          rw [b4, cn_ins, cn_er, cn_er, cn_ins, cn_ins, cn_er]
          omega
      · rename_i h1
        have h3 : ft_sign T (li_odd 17 s) = 3 := by omega
        obtain ⟨A, B, e1, e2, rfl⟩ := fd_2_s h
        refine vl_n2 hs (ih _ A a1 e1) (ih _ B b1 e2) (by decide) (Or.inl ⟨rfl, h3, li_ins_mem.mpr (Or.inl rfl), li_ins_mem.mpr (Or.inl rfl), ?_⟩) ?_
        · rw [er_ins (er_sorted _ hs.1), er_ins (er_sorted _ hs.1)]
        · rw [b5, er_ins (er_sorted _ hs.1), ins_er hs.1 m1]
