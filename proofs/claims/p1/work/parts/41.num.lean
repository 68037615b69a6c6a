/-! The number of a formula of two parts, as one function -/
def ft_num (T : ftT) (s a b : Int) : Option (Int × ftT) := match T.findIdx? (fun q => decide (q.1 = s ∧ q.2.1 = a ∧ q.2.2.1 = b)) with
  | some j => some (20 + (j : Int), T)
  | none => if 8 < ft_lv T a + ft_lv T b ∨ 60 < T.length + 2 then none else some (20 + (T.length : Int) + s % 2, ft_new T s a b (ft_lv T a + ft_lv T b))
theorem ft_num_at {T : ftT} {s a b : Int} {j : Nat} (h : j < T.length) (hm : ft_m s a b T[j]) (hn : ∀ (i : Nat) (h : i < T.length), i < j → ¬ ft_m s a b T[i]) : ft_num T s a b = some (20 + (j : Int), T) := by
  have e : T.findIdx? (fun q => decide (q.1 = s ∧ q.2.1 = a ∧ q.2.2.1 = b)) = some j := by
    rw [List.findIdx?_eq_some_iff_getElem]
    refine ⟨h, decide_eq_true hm, fun i hi => ?_⟩
    intro h9
    have h8 : T[i].1 = s ∧ T[i].2.1 = a ∧ T[i].2.2.1 = b := of_decide_eq_true h9
    exact hn i (by omega) hi h8
  unfold ft_num
  rw [e]
theorem ft_num_no {T : ftT} {s a b : Int} (hn : ∀ q ∈ T, ¬ ft_m s a b q) : ft_num T s a b = if 8 < ft_lv T a + ft_lv T b ∨ 60 < T.length + 2 then none else some (20 + (T.length : Int) + s % 2, ft_new T s a b (ft_lv T a + ft_lv T b)) := by
  have e : T.findIdx? (fun q => decide (q.1 = s ∧ q.2.1 = a ∧ q.2.2.1 = b)) = none := by
    rw [List.findIdx?_eq_none_iff]
    intro q hq
    rw [decide_eq_false_iff_not]
    exact hn q hq
  unfold ft_num
  rw [e]
theorem sp_ft_numB {d : Nat} {s a b : Int} {σ : am_S} {T : ftT} {Q : am_Q} (hT : ft σ T) (ho : ft_ok T) (he : T.length % 2 = 0) (hs : 0 ≤ s ∧ s < 4) (ha : 0 ≤ a ∧ a < 80) (hb : 0 ≤ b ∧ b < 80)
    (h1 : ∀ m T', ft_num T s a b = some (m, T') → ∀ τ, ft τ T' → fr ftS σ τ → Q (.inl (some (.inl m))) τ) (h0 : ft_num T s a b = none → Q (.inl (some (.inl (-1)))) σ) : am_M (d + 2) 2115784 [am_r 2 0, am_i s, am_i a, am_i b] σ Q := by
  refine sp_ft_num hT ho he hs ha hb (fun j hj hm hn => ?_) (fun hn hx => ?_) (fun hn hx1 hx2 τ g1 g2 => ?_)
  · exact h1 _ _ (ft_num_at hj hm hn) σ hT (fr_refl _ _)
  · refine h0 ?_
    rw [ft_num_no hn, if_pos hx]
  · refine h1 _ _ ?_ τ g1 g2
    rw [ft_num_no hn, if_neg (by omega)]
/-- a table as calls leave it -/
def ft_wf (T : ftT) : Prop := ft_ok T ∧ T.length % 2 = 0 ∧ T.length ≤ 60 ∧ ft_cl T
theorem ft_m_new {T : ftT} {s a b v : Int} {q : Int × Int × Int × Int} (h : q ∈ ft_new T s a b v) : q ∈ T ∨ q = (s, a, b, v) ∨ q = (du s, du a, du b, v) := by
  unfold ft_new at h
  split at h
  · rcases List.mem_append.mp h with h | h
    · exact Or.inl h
    · rcases List.mem_cons.mp h with h | h
      · exact Or.inr (Or.inl h)
      · exact Or.inr (Or.inr (List.mem_singleton.mp h))
  · rcases List.mem_append.mp h with h | h
    · exact Or.inl h
    · rcases List.mem_cons.mp h with h | h
      · exact Or.inr (Or.inr h)
      · exact Or.inr (Or.inl (List.mem_singleton.mp h))
theorem du_rg {n m : Int} (hm : m % 2 = 0) (h : 0 ≤ n ∧ n < m) : 0 ≤ du n ∧ du n < m := by
  unfold du
  split <;> omega
/-- a made formula: its number and the table behind it -/
theorem ft_num_wf {T T' : ftT} {s a b m : Int} (h : ft_wf T) (hs : 0 ≤ s ∧ s < 4) (ha : 0 ≤ a ∧ a < 20 + (T.length : Int)) (hb : 0 ≤ b ∧ b < 20 + (T.length : Int)) (he : ft_num T s a b = some (m, T')) : ft_wf T' ∧ (20 ≤ m ∧ m < 20 + (T'.length : Int)) ∧ T.length ≤ T'.length ∧ T'.take T.length = T := by
  unfold ft_num at he
  cases hf : T.findIdx? (fun q => decide (q.1 = s ∧ q.2.1 = a ∧ q.2.2.1 = b)) with
  | some j =>
    rw [hf] at he
    have hj : j < T.length := by
      have := (List.findIdx?_eq_some_iff_getElem.mp hf).1
      exact this
    have e1 : (20 + (j : Int), T) = (m, T') := Option.some.inj he
    have e2 : 20 + (j : Int) = m := congrArg Prod.fst e1
    have e3 : T = T' := congrArg Prod.snd e1
    subst e3
    exact ⟨h, by omega, Nat.le_refl _, List.take_length⟩
  | none =>
    rw [hf] at he
    have he2 : (if 8 < ft_lv T a + ft_lv T b ∨ 60 < T.length + 2 then none else some (20 + (T.length : Int) + s % 2, ft_new T s a b (ft_lv T a + ft_lv T b))) = some (m, T') := he
    by_cases hc : 8 < ft_lv T a + ft_lv T b ∨ 60 < T.length + 2
    · rw [if_pos hc] at he2
      cases he2
    · rw [if_neg hc] at he2
      have e1 := Option.some.inj he2
      have e2 : 20 + (T.length : Int) + s % 2 = m := congrArg Prod.fst e1
      have e3 : ft_new T s a b (ft_lv T a + ft_lv T b) = T' := congrArg Prod.snd e1
      obtain ⟨h1, h2, h3, h4⟩ := h
      have l1 := ft_lv_le h1 a
      have l2 := ft_lv_le h1 b
      have hl : T'.length = T.length + 2 := by rw [← e3, ft_new_length]
      have hev : ((20 : Int) + (T'.length : Int)) % 2 = 0 := by omega
      refine ⟨⟨fun q hq => ?_, by omega, by omega, fun q hq => ?_⟩, by omega, by omega, ?_⟩
      · rw [← e3] at hq
        rcases ft_m_new hq with hq | hq | hq
        · exact h1 q hq
        · rw [hq]
          exact ⟨by show 1 ≤ ft_lv T a + ft_lv T b; omega, by show ft_lv T a + ft_lv T b ≤ 8; omega⟩
        · rw [hq]
          exact ⟨by show 1 ≤ ft_lv T a + ft_lv T b; omega, by show ft_lv T a + ft_lv T b ≤ 8; omega⟩
      · rw [← e3] at hq
        rcases ft_m_new hq with hq | hq | hq
        · have h5 := h4 q hq
          exact ⟨h5.1, by omega, by omega⟩
        · rw [hq]
          exact ⟨hs, by show 0 ≤ a ∧ a < _; omega, by show 0 ≤ b ∧ b < _; omega⟩
        · rw [hq]
          exact ⟨du_rg (by decide) hs, du_rg hev (by omega), du_rg hev (by omega)⟩
      · rw [← e3]
        unfold ft_new
        split
        · rw [List.take_append_of_le_length (Nat.le_refl _), List.take_length]
        · rw [List.take_append_of_le_length (Nat.le_refl _), List.take_length]
