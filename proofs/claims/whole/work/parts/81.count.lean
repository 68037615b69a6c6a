/-! Counting in conclusions -/
def dl (a x : Int) : Nat := if x = a then 1 else 0
theorem cn_ins (a x : Int) : ∀ l : List Int, (li_ins a l).count x = l.count x + dl a x
  | [] => by
    show ([a] : List Int).count x = 0 + dl a x
    unfold dl
    rw [List.count_cons, List.count_nil]
    by_cases h : x = a
    · subst h; simp
    · have : (a == x) = false := by simpa using fun q => h q.symm
      simp [this, h]
  | y :: l => by
    unfold li_ins
    split
    · rw [List.count_cons (b := a)]
      unfold dl
      by_cases h : x = a
      · subst h; simp
      · have : (a == x) = false := by simpa using fun q => h q.symm
        simp [this, h]
    · rw [List.count_cons, List.count_cons, cn_ins a x l]
      omega
theorem cn_er (a x : Int) (l : List Int) : (l.erase a).count x = l.count x - dl a x := by
  rw [List.count_erase]
  unfold dl
  by_cases h : x = a
  · subst h; simp
  · have : (a == x) = false := by simpa using fun q => h q.symm
    simp [this, h]
theorem cn_all (x : Int) (m : List Int) : ∀ l : List Int, (li_insAll l m).count x = l.count x + m.count x := by
  induction m with
  | nil => exact fun l => by rw [List.count_nil]; rfl
  | cons y m ih =>
    intro l
    show (li_insAll (li_ins y l) m).count x = _
    rw [ih, cn_ins, List.count_cons]
    unfold dl
    by_cases h : x = y
    · subst h; simp; omega
    · have : (y == x) = false := by simpa using fun q => h q.symm
      simp [this, h]
theorem cn_mem {a : Int} {l : List Int} (h : a ∈ l) (x : Int) : dl a x ≤ l.count x := by
  unfold dl
  split
  · rename_i e
    rw [e]
    exact List.count_pos_iff.mpr h
  · exact Nat.zero_le _
theorem cn_in {a : Int} {l : List Int} (h : 1 ≤ l.count a) : a ∈ l := List.count_pos_iff.mp h
theorem dl_s (a : Int) : dl a a = 1 := if_pos rfl
theorem dl_n {a x : Int} (h : x ≠ a) : dl a x = 0 := if_neg h
theorem dl_le (a x : Int) : dl a x ≤ 1 := by unfold dl; split <;> omega
theorem sor_eq : ∀ {l m : List Int}, l.Pairwise (· ≤ ·) → m.Pairwise (· ≤ ·) → (∀ x, l.count x = m.count x) → l = m
  | [], [], _, _, _ => rfl
  | [], b :: m, _, _, h => by have := h b; rw [List.count_nil, List.count_cons_self] at this; omega
  | a :: l, [], _, _, h => by have := h a; rw [List.count_nil, List.count_cons_self] at this; omega
  | a :: l, b :: m, h1, h2, h => by
    rw [List.pairwise_cons] at h1 h2
    have e : a = b := by
      have ha : a ∈ b :: m := cn_in (by rw [← h a, List.count_cons_self]; omega)
      have hb : b ∈ a :: l := cn_in (by rw [h b, List.count_cons_self]; omega)
      have q1 : b ≤ a := by
        rcases List.mem_cons.mp ha with q | q
        · omega
        · exact h2.1 a q
      have q2 : a ≤ b := by
        rcases List.mem_cons.mp hb with q | q
        · omega
        · exact h1.1 b q
      omega
    subst e
    rw [sor_eq h1.2 h2.2 (fun x => by have := h x; rw [List.count_cons, List.count_cons] at this; omega)]
theorem lv_er {T : ftT} {a : Int} : ∀ {l : List Int}, a ∈ l → ft_lvs T (l.erase a) + ft_lv T a = ft_lvs T l
  | [], h => absurd h List.not_mem_nil
  | y :: l, h => by
    by_cases e : y = a
    · subst e
      rw [List.erase_cons_head]
      show _ = ft_lv T y + ft_lvs T l
      omega
    · rw [List.erase_cons_tail (by simpa using e)]
      have hm : a ∈ l := by
        rcases List.mem_cons.mp h with q | q
        · exact absurd q.symm e
        · exact q
      show ft_lv T y + ft_lvs T (l.erase a) + ft_lv T a = ft_lv T y + ft_lvs T l
      have := lv_er (T := T) hm
      omega
theorem lv_all {T : ftT} (m : List Int) : ∀ l : List Int, ft_lvs T (li_insAll l m) = ft_lvs T l + ft_lvs T m := by
  induction m with
  | nil => exact fun l => by show ft_lvs T l = ft_lvs T l + 0; omega
  | cons y m ih =>
    intro l
    show ft_lvs T (li_insAll (li_ins y l) m) = ft_lvs T l + (ft_lv T y + ft_lvs T m)
    rw [ih, ft_lvs_ins]
    omega
theorem lv_nn {T : ftT} (ho : ft_ok T) (l : List Int) : 0 ≤ ft_lvs T l := by have := (ft_lvs_le ho l).1; omega
/-- the conclusions of the rules, one by one -/
theorem b3 (T : ftT) (n : Int) (la lb : List Int) : br_l T 3 n la lb = li_ins n la := rfl
theorem b4 (T : ftT) (n : Int) (la lb : List Int) : br_l T 4 n la lb = li_ins n ((la.erase (ft_fst T n)).erase (ft_snd T n)) := rfl
theorem b5 (T : ftT) (n : Int) (la lb : List Int) : br_l T 5 n la lb = li_ins n (la.erase (ft_fst T n)) := rfl
theorem b6 (T : ftT) (n : Int) (la lb : List Int) : br_l T 6 n la lb = li_ins n (la.erase (ft_fst T n)) := rfl
theorem b7 (T : ftT) (n : Int) (la lb : List Int) : br_l T 7 n la lb = li_ins n (la.erase (ft_snd T n)) := rfl
theorem b8 (T : ftT) (n : Int) (la lb : List Int) : br_l T 8 n la lb = li_ins n (li_insAll (la.erase (ft_fst T n)) (lb.erase (ft_snd T n))) := rfl
theorem b9 (T : ftT) (n : Int) (la lb : List Int) : br_l T 9 n la lb = li_insAll (la.erase n) (lb.erase (du n)) := rfl
