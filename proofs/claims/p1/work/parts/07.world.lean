/-! The heap that holds a state of the abstract machine: every place a cell, at an address of its own -/
def so_num (k : Nat) : Nat := if k = 5 then 710 else if k = 12 then 710 else if k = 6 then 707 else if k = 7 then 7 else if k = 13 then 7 else if k = 90 then 2 else 1
def so_ks : List Nat := [1, 2, 3, 4, 5, 6, 7, 8, 9, 10, 11, 12, 13, 14, 20, 21, 22, 23, 24, 31, 33, 34, 35, 41, 70, 102, 103, 104, 105, 107, 108, 109, 110, 111, 114, 115, 117, 118, 119, 120, 121, 122, 123, 124, 125, 126, 127, 129, 130, 131, 133, 135, 136, 137, 138, 139, 140, 141, 142, 143, 144]
def so_pl : List (Nat × Nat) := so_ks.flatMap (fun k => (List.range (so_num k)).map (fun i => (k, i)))
theorem so_mem {k i : Nat} (hk : k ∈ so_ks) (hi : i < so_num k) : (k, i) ∈ so_pl :=
  List.mem_flatMap.mpr ⟨k, hk, List.mem_map.mpr ⟨i, List.mem_range.mpr hi, rfl⟩⟩
/-- the fields of the classes: true where an int or a boolean, false where a reference -/
def so_fl (k : Nat) : List Bool :=
  if k = 1 then [false, false, false, false, false, false, false, false, false] else if k = 2 then [false, false, false, false, true]
  else if k = 3 then [false, false, true, false, false, false, true, true, true, true, true] else if k = 4 then [false, false, true]
  else if k = 5 then [false, true] else if k = 6 then [false, true, true, true] else if k = 7 then [false, true, true] else if k = 8 then [false, false, false]
  else if k = 9 then [false] else if k = 10 then [false, false, false, false]
  else [true, true, false, false, false, false, true, false, false, false, false, false, true, true, false, false, true, false, false, false, false, false, false, false, false, false, false, false, true, false, false, false, true, false, true, false, false, false, false, false, false, false, false, false, false]
/-- Z: the addresses; the classes' numbers and slots; the arrays' classes, by what they hold (1 int, 2 boolean, 3 char, 4 long; 13 and 14 by their own kinds) -/
abbrev so_Z : Type := (Nat → Nat → Nat) × va_G × (Nat → ClassId)
def so_fs (Z : so_Z) (σ : am_S) (k i : Nat) : List Value := (List.range (so_fl k).length).map (fun j => if (so_fl k)[j]? = some true then .int (Int32.ofInt (σ.1 k i j)) else .ref (Z.1 (am_ref σ k j i).1 (am_ref σ k j i).2))
def so_at (k : Nat) : Nat := if am_et k = 5 then k else am_et k
def so_ln (k : Nat) : Nat :=
  if k = 12 then 20 else if k = 13 then 101 else if k = 14 then 4 else if k = 24 then 1024 else if k = 31 then 60 else if k = 41 then 37 else if k = 70 then 1
  else if k < 24 then 80 else if k < 36 then 8 else (am_lnM[k - 100]?).getD 0
def so_cell (Z : so_Z) (σ : am_S) (k i : Nat) : va_E :=
  if am_et k = 0 then .inr (k - 1, so_fs Z σ k i)
  else .inl (Z.2.2 (so_at k), so_ln k, if am_et k = 4 then .inr (.inl (σ.2.1 k)) else if am_et k = 5 then .inr (.inr (.inr (.inr (fun j => some (if k = 13 then Z.1 6 (101 * i + j) else Z.1 7 j))))) else .inl (fun j => Int32.ofInt (σ.1 k i j)))
def so_w (Z : so_Z) (σ : am_S) : va_W := so_pl.map (fun q => (Z.1 q.1 q.2, so_cell Z σ q.1 q.2))
theorem so_pos {k i : Nat} (hk : k ∈ so_ks) (hi : i < so_num k) : ∃ n : Nat, so_pl[n]? = some (k, i) := List.getElem?_of_mem (so_mem hk hi)
theorem so_get (Z : so_Z) (σ : am_S) {k i n : Nat} (h : so_pl[n]? = some (k, i)) : (so_w Z σ)[n]? = some (Z.1 k i, so_cell Z σ k i) := by
  unfold so_w
  rw [List.getElem?_map, h]
  rfl
theorem so_cong (Z : so_Z) {σ τ : am_S} {k i : Nat} (h1 : am_et k ≠ 4 → ∀ j, τ.1 k i j = σ.1 k i j) (h2 : am_et k = 4 → τ.2.1 k = σ.2.1 k) (h3 : k = 10 → τ.2.2.1 = σ.2.2.1) : so_cell Z τ k i = so_cell Z σ k i := by
  unfold so_cell
  by_cases h0 : am_et k = 0
  · rw [if_pos h0, if_pos h0]
    have h4 : am_et k ≠ 4 := by rw [h0]; decide
    have hr : ∀ j, am_ref τ k j i = am_ref σ k j i := by
      intro j
      unfold am_ref
      by_cases hk : k = 10
      · rw [h3 hk]
      · simp only [if_neg hk]
    unfold so_fs
    simp only [h1 h4, hr]
  · rw [if_neg h0, if_neg h0]
    by_cases h4 : am_et k = 4
    · rw [if_pos h4, if_pos h4, h2 h4]
    · rw [if_neg h4, if_neg h4]
      simp only [h1 h4]
theorem so_pl_num {k i : Nat} (h : (k, i) ∈ so_pl) : i < so_num k := by
  obtain ⟨k', -, h2⟩ := List.mem_flatMap.mp h
  obtain ⟨i', h3, h4⟩ := List.mem_map.mp h2
  cases h4
  exact List.mem_range.mp h3
theorem so_put (Z : so_Z) {A : Nat → Prop} {σ τ : am_S} {k i n : Nat} {c : va_E} (hD : va_D A (so_w Z σ)) (h : so_pl[n]? = some (k, i)) (hc : so_cell Z τ k i = c) (ho : ∀ k' i', i' < so_num k' → ¬ (k' = k ∧ i' = i) → so_cell Z τ k' i' = so_cell Z σ k' i') :
    (so_w Z σ).set n (Z.1 k i, c) = so_w Z τ := by
  apply List.ext_getElem?
  intro m
  rw [List.getElem?_set]
  by_cases hm : n = m
  · subst hm
    rw [if_pos rfl, so_get Z τ h, hc]
    have h1 := (List.getElem?_eq_some_iff.mp (so_get Z σ h)).1
    rw [if_pos h1]
  · rw [if_neg hm]
    cases hp : so_pl[m]? with
    | none =>
      unfold so_w
      rw [List.getElem?_map, List.getElem?_map, hp]
      rfl
    | some q =>
      obtain ⟨k', i'⟩ := q
      rw [so_get Z σ hp, so_get Z τ hp]
      have hne : ¬ (k' = k ∧ i' = i) := by
        rintro ⟨rfl, rfl⟩
        exact hm (hD.1 n m _ _ (so_get Z σ h) (so_get Z σ hp) rfl)
      rw [ho k' i' (so_pl_num (List.mem_of_getElem? hp)) hne]
