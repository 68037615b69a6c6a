/-! A run of the abstract machine is a run of the machine: values, locals, stacks -/
def so_cv (Z : so_Z) : am_V → Value
  | .inl x => .int (Int32.ofInt x)
  | .inr (.inl x) => .long x
  | .inr (.inr q) => .ref (Z.1 q.1 q.2)
/-- a value of ours and one of the machine's; of kind 0 any reference will do -/
def so_r (Z : so_Z) (v : am_V) (w : Value) : Prop := w = so_cv Z v ∨ ∃ b a, v = .inr (.inr (0, b)) ∧ w = .ref a
def so_S (Z : so_Z) : List am_V → List Value → Prop
  | [], ws => ws = []
  | v :: vs, ws => ∃ w r, ws = w :: r ∧ so_r Z v w ∧ so_S Z vs r
def so_L (Z : so_Z) (nL : Nat) (ls : List am_V) (lsv : Array Slot) : Prop := ∃ lv, lv_has lsv nL lv ∧ ∀ (i : Nat) (v : am_V), ls[i]? = some v → (∃ b, v = .inr (.inr (0, b))) ∨ (i, so_cv Z v) ∈ lv
def so_okv (v : am_V) : Prop := match v with
  | .inl x => am_rg x
  | .inr (.inl _) => True
  | .inr (.inr q) => q.1 = 0 ∨ (q.1 ∈ so_ks ∧ q.2 < so_num q.1) ∨ (q.1 = 71 ∧ q.2 = 0) ∨ (q.1 = 90 ∧ q.2 < 2)
def so_okl (l : List am_V) : Prop := ∀ v ∈ l, so_okv v
def so_oks (σ : am_S) : Prop := (∀ k i j, am_rg (σ.1 k i j)) ∧ σ.2.2.1 2 < 7 ∧ σ.2.2.1 3 < 7
theorem so_okl_cons {v : am_V} {l : List am_V} (h : so_okv v) (hl : so_okl l) : so_okl (v :: l) := by
  intro w hw
  rcases List.mem_cons.mp hw with rfl | hw
  · exact h
  · exact hl w hw
theorem so_okl_hd {v : am_V} {l : List am_V} (h : so_okl (v :: l)) : so_okv v := h v List.mem_cons_self
theorem so_okl_tl {v : am_V} {l : List am_V} (h : so_okl (v :: l)) : so_okl l := fun w hw => h w (List.mem_cons_of_mem _ hw)
theorem so_okl_set {l : List am_V} {i : Nat} {v : am_V} (h : so_okv v) (hl : so_okl l) : so_okl (l.set i v) := by
  intro w hw
  rcases List.mem_or_eq_of_mem_set hw with hw | rfl
  · exact hl w hw
  · exact h
theorem so_okl_at {l : List am_V} {i : Nat} {v : am_V} (hl : so_okl l) (h : l[i]? = some v) : so_okv v := hl v (List.mem_of_getElem? h)
theorem so_S_i {Z : so_Z} {x : Int} {st : List am_V} {ws : List Value} (h : so_S Z (.inl x :: st) ws) : ∃ r, ws = .int (Int32.ofInt x) :: r ∧ so_S Z st r := by
  obtain ⟨w, r, rfl, h1, h2⟩ := h
  rcases h1 with rfl | ⟨b, a, h1, -⟩
  · exact ⟨r, rfl, h2⟩
  · cases h1
theorem so_S_l {Z : so_Z} {x : Int64} {st : List am_V} {ws : List Value} (h : so_S Z (.inr (.inl x) :: st) ws) : ∃ r, ws = .long x :: r ∧ so_S Z st r := by
  obtain ⟨w, r, rfl, h1, h2⟩ := h
  rcases h1 with rfl | ⟨b, a, h1, -⟩
  · exact ⟨r, rfl, h2⟩
  · cases h1
theorem so_S_r {Z : so_Z} {k i : Nat} {st : List am_V} {ws : List Value} (hk : k ≠ 0) (h : so_S Z (.inr (.inr (k, i)) :: st) ws) : ∃ r, ws = .ref (Z.1 k i) :: r ∧ so_S Z st r := by
  obtain ⟨w, r, rfl, h1, h2⟩ := h
  rcases h1 with rfl | ⟨b, a, h1, -⟩
  · exact ⟨r, rfl, h2⟩
  · cases h1; exact absurd rfl hk
theorem so_S_any {Z : so_Z} {q : Nat × Nat} {st : List am_V} {ws : List Value} (h : so_S Z (.inr (.inr q) :: st) ws) : ∃ a r, ws = .ref a :: r ∧ so_S Z st r := by
  obtain ⟨w, r, rfl, h1, h2⟩ := h
  rcases h1 with rfl | ⟨b, a, h1, rfl⟩
  · exact ⟨_, r, rfl, h2⟩
  · exact ⟨_, r, rfl, h2⟩
theorem so_S_c {Z : so_Z} {v : am_V} {w : Value} {st : List am_V} {r : List Value} (hw : w = so_cv Z v) (h : so_S Z st r) : so_S Z (v :: st) (w :: r) := ⟨w, r, rfl, Or.inl hw, h⟩
/-- a local of category 1 stored -/
theorem so_L_st {Z : so_Z} {nL i : Nat} {ls : List am_V} {lv : List (Nat × Value)} {v : am_V} {w : Value} {lsv' : Array Slot} (hw : w = so_cv Z v ∨ ∃ b, v = .inr (.inr (0, b)))
    (hl : ∀ (i : Nat) (v : am_V), ls[i]? = some v → (∃ b, v = .inr (.inr (0, b))) ∨ (i, so_cv Z v) ∈ lv) (hn : ∀ j x, j + 1 = i → ls[j]? ≠ some (.inr (.inl x)))
    (h : lv_has lsv' nL ((i, w) :: lv.filter (fun q => !(q.1 == i) && !(q.1 + 1 == i && q.2.category == 2)))) : so_L Z nL (ls.set i v) lsv' := by
  refine ⟨_, h, fun j u hu => ?_⟩
  rw [List.getElem?_set] at hu
  by_cases hj : i = j
  · subst hj
    rw [if_pos rfl] at hu
    split at hu
    · cases hu
      rcases hw with rfl | hb
      · exact Or.inr List.mem_cons_self
      · exact Or.inl hb
    · cases hu
  · rw [if_neg hj] at hu
    rcases hl j u hu with hb | hm
    · exact Or.inl hb
    · refine Or.inr (List.mem_cons_of_mem _ (List.mem_filter.mpr ⟨hm, ?_⟩))
      have h1 : (j == i) = false := by rw [beq_eq_false_iff_ne]; exact fun q => hj q.symm
      show (!(j == i) && !(j + 1 == i && (so_cv Z u).category == 2)) = true
      rw [h1]
      by_cases h2 : j + 1 = i
      · have h3 : ((so_cv Z u).category == 2) = false := by
          rcases u with x | x | q
          · rfl
          · exact absurd hu (hn j x h2)
          · rfl
        rw [h3]; simp
      · have h4 : (j + 1 == i) = false := by rw [beq_eq_false_iff_ne]; exact h2
        rw [h4]; simp
theorem so_L_stl {Z : so_Z} {nL i : Nat} {ls : List am_V} {lv : List (Nat × Value)} {x : Int64} {lsv' : Array Slot}
    (hl : ∀ (i : Nat) (v : am_V), ls[i]? = some v → (∃ b, v = .inr (.inr (0, b))) ∨ (i, so_cv Z v) ∈ lv) (hn : ∀ j x, j + 1 = i → ls[j]? ≠ some (.inr (.inl x)))
    (h : lv_has lsv' nL ((i, Value.long x) :: lv.filter (fun q => !(q.1 == i) && (!(q.1 == i + 1) && !(q.1 + 1 == i && q.2.category == 2))))) : so_L Z nL ((ls.set i (.inr (.inl x))).set (i + 1) am_j) lsv' := by
  refine ⟨_, h, fun j u hu => ?_⟩
  rw [List.getElem?_set] at hu
  by_cases hj1 : i + 1 = j
  · rw [if_pos hj1] at hu
    split at hu
    · cases hu; exact Or.inl ⟨0, rfl⟩
    · cases hu
  · rw [if_neg hj1, List.getElem?_set] at hu
    by_cases hj : i = j
    · subst hj
      rw [if_pos rfl] at hu
      split at hu
      · cases hu; exact Or.inr List.mem_cons_self
      · cases hu
    · rw [if_neg hj] at hu
      rcases hl j u hu with hb | hm
      · exact Or.inl hb
      · refine Or.inr (List.mem_cons_of_mem _ (List.mem_filter.mpr ⟨hm, ?_⟩))
        have h1 : (j == i) = false := by rw [beq_eq_false_iff_ne]; exact fun q => hj q.symm
        have h5 : (j == i + 1) = false := by rw [beq_eq_false_iff_ne]; exact fun q => hj1 q.symm
        show (!(j == i) && (!(j == i + 1) && !(j + 1 == i && (so_cv Z u).category == 2))) = true
        rw [h1, h5]
        by_cases h2 : j + 1 = i
        · have h3 : ((so_cv Z u).category == 2) = false := by
            rcases u with x | x | q
            · rfl
            · exact absurd hu (hn j x h2)
            · rfl
          rw [h3]; simp
        · have h4 : (j + 1 == i) = false := by rw [beq_eq_false_iff_ne]; exact h2
          rw [h4]; simp
theorem so_L_at {Z : so_Z} {nL i : Nat} {ls : List am_V} {lsv : Array Slot} {v : am_V} (h : so_L Z nL ls lsv) (hi : ls[i]? = some v) (hv : ∀ b, v ≠ .inr (.inr (0, b))) : lsv[i]? = some (.val (so_cv Z v)) := by
  obtain ⟨lv, h1, h2⟩ := h
  rcases h2 i v hi with ⟨b, hb⟩ | hm
  · exact absurd hb (hv b)
  · exact h1.2.2 _ hm
def so_tys (Z : so_Z) : List (ClassId × FieldType) := [(Z.2.2 1, .int), (Z.2.2 2, .boolean), (Z.2.2 3, .char), (Z.2.2 4, .long), (Z.2.2 13, .object "ProofWorkbench$Node"), (Z.2.2 14, .object "ProofWorkbench$Proof")]
