/-! The leaves of a formula are those of its parts -/
def ft_sm (T : ftT) : Prop := ∀ n : Int, 20 ≤ n ∧ n < 20 + (T.length : Int) → ft_lv T n = ft_lv T (ft_fst T n) + ft_lv T (ft_snd T n)
theorem at_app {T S : ftT} {n : Int} (hn : n < 20 + (T.length : Int)) : ft_at (T ++ S) n = ft_at T n := by
  unfold ft_at
  by_cases h : 20 ≤ n
  · rw [if_pos h, if_pos h, List.getElem?_append_left (by omega)]
  · rw [if_neg h, if_neg h]
theorem at_new {T S : ftT} {n : Int} {j : Nat} (hn : n = 20 + (T.length : Int) + j) : ft_at (T ++ S) n = S[j]? := by
  unfold ft_at
  rw [if_pos (by omega), List.getElem?_append_right (by omega)]
  congr 1
  omega
theorem lv_app {T S : ftT} {n : Int} (hn : n < 20 + (T.length : Int)) : ft_lv (T ++ S) n = ft_lv T n := by unfold ft_lv; rw [at_app hn]
theorem sm_one {T S : ftT} {n : Int} {q : Int × Int × Int × Int} (h : ft_at (T ++ S) n = some q) (h1 : q.2.1 < 20 + (T.length : Int)) (h2 : q.2.2.1 < 20 + (T.length : Int)) (h3 : q.2.2.2 = ft_lv T q.2.1 + ft_lv T q.2.2.1) : ft_lv (T ++ S) n = ft_lv (T ++ S) (ft_fst (T ++ S) n) + ft_lv (T ++ S) (ft_snd (T ++ S) n) := by
  have e1 : ft_lv (T ++ S) n = q.2.2.2 := by unfold ft_lv; rw [h]
  have e2 : ft_fst (T ++ S) n = q.2.1 := by unfold ft_fst; rw [h]
  have e3 : ft_snd (T ++ S) n = q.2.2.1 := by unfold ft_snd; rw [h]
  rw [e1, e2, e3, lv_app h1, lv_app h2]
  exact h3
theorem sm_app {T : ftT} {x y : Int × Int × Int × Int} (hs : ft_sm T) (hc : ft_cl T) (hx : x.2.1 < 20 + (T.length : Int) ∧ x.2.2.1 < 20 + (T.length : Int) ∧ x.2.2.2 = ft_lv T x.2.1 + ft_lv T x.2.2.1) (hy : y.2.1 < 20 + (T.length : Int) ∧ y.2.2.1 < 20 + (T.length : Int) ∧ y.2.2.2 = ft_lv T y.2.1 + ft_lv T y.2.2.1) : ft_sm (T ++ [x, y]) := by
  intro n hn
  by_cases h : n < 20 + (T.length : Int)
  · have hn' : 20 ≤ n ∧ n < 20 + (T.length : Int) := ⟨hn.1, h⟩
    have hr := ft_cl_at hc hn'
    have e2 : ft_fst (T ++ [x, y]) n = ft_fst T n := by unfold ft_fst; rw [at_app h]
    have e3 : ft_snd (T ++ [x, y]) n = ft_snd T n := by unfold ft_snd; rw [at_app h]
    rw [lv_app h, e2, e3, lv_app hr.2.1.2, lv_app hr.2.2.2]
    exact hs n hn'
  · rw [List.length_append] at hn
    have e : (([x, y] : ftT).length : Int) = 2 := rfl
    by_cases h1 : n = 20 + (T.length : Int)
    · exact sm_one (q := x) (by rw [at_new (j := 0) (by omega)]; rfl) hx.1 hx.2.1 hx.2.2
    · exact sm_one (q := y) (by rw [at_new (j := 1) (by have := hn.2; rw [show ([x, y] : ftT).length = 2 from rfl] at this; omega)]; rfl) hy.1 hy.2.1 hy.2.2
theorem ft_lv_du {T : ftT} (hp : ft_pr T) {n : Int} (hn : 0 ≤ n ∧ n < 20 + (T.length : Int)) : ft_lv T (du n) = ft_lv T n := by
  have he := hp.1
  by_cases h : 20 ≤ n
  · have hd : 20 ≤ du n ∧ du n < 20 + (T.length : Int) := by unfold du; split <;> omega
    obtain ⟨p, h1, h2, h3, h4, _⟩ := ft_pair hp ⟨h, hn.2⟩
    obtain ⟨p', g1, g2, g3, g4, _⟩ := ft_pair hp hd
    have e : p' = p := by
      have : (du n - 20) / 2 = (n - 20) / 2 := by unfold du; split <;> omega
      omega
    subst e
    rw [h4, g4]
  · have hd : ¬ (20 ≤ du n ∧ du n < 20 + (T.length : Int)) := by unfold du; split <;> omega
    unfold ft_lv
    rw [ft_at_none hd, ft_at_none (fun q => h q.1)]
theorem ft_num_sm {T T' : ftT} {s a b m : Int} (hs : ft_sm T) (h : ft_wf T) (hp : ft_pr T) (ha : 0 ≤ a ∧ a < 20 + (T.length : Int)) (hb : 0 ≤ b ∧ b < 20 + (T.length : Int)) (he : ft_num T s a b = some (m, T')) : ft_sm T' := by
  have hev := hp.1
  have da : du a < 20 + (T.length : Int) := by unfold du; split <;> omega
  have db : du b < 20 + (T.length : Int) := by unfold du; split <;> omega
  have ea := ft_lv_du hp ha
  have eb := ft_lv_du hp hb
  unfold ft_num at he
  split at he
  · have e1 := Option.some.inj he
    have e3 : T = T' := congrArg Prod.snd e1
    rw [← e3]
    exact hs
  · split at he
    · cases he
    · have e1 := Option.some.inj he
      have e3 : ft_new T s a b (ft_lv T a + ft_lv T b) = T' := congrArg Prod.snd e1
      rw [← e3]
      unfold ft_new
      split
      · exact sm_app hs h.2.2.2 ⟨ha.2, hb.2, rfl⟩ ⟨da, db, by show _ = ft_lv T (du a) + ft_lv T (du b); rw [ea, eb]⟩
      · exact sm_app hs h.2.2.2 ⟨da, db, by show _ = ft_lv T (du a) + ft_lv T (du b); rw [ea, eb]⟩ ⟨ha.2, hb.2, rfl⟩
theorem sm_nil : ft_sm [] := fun n hn => absurd hn (by simp)
