/-! What may be left of a sequent: at most 677 lists -/
def pd (A B : List (List Int)) : List (List Int) := A.flatMap (fun u => B.map (fun v => u ++ v))
theorem pd_mem {A B : List (List Int)} {w : List Int} : w ∈ pd A B ↔ ∃ u ∈ A, ∃ v ∈ B, w = u ++ v := by
  unfold pd
  rw [List.mem_flatMap]
  constructor
  · rintro ⟨u, hu, h⟩
    obtain ⟨v, hv, e⟩ := List.mem_map.mp h
    exact ⟨u, hu, v, hv, e.symm⟩
  · rintro ⟨u, hu, v, hv, e⟩
    exact ⟨u, hu, List.mem_map.mpr ⟨v, hv, e.symm⟩⟩
theorem pd_len (A B : List (List Int)) : (pd A B).length = A.length * B.length := by
  unfold pd
  induction A with
  | nil => rw [List.flatMap_nil, List.length_nil, Nat.zero_mul]
  | cons u A ih => rw [List.flatMap_cons, List.length_append, List.length_map, ih, List.length_cons, Nat.add_mul, Nat.one_mul, Nat.add_comm]
/-- what may be left of formula x -/
def fo (T : ftT) : Nat → Int → List (List Int)
  | 0, x => [[x], []]
  | f + 1, x => if 20 ≤ x ∧ x < 20 + (T.length : Int) then [x] :: pd (fo T f (ft_fst T x)) (fo T f (ft_snd T x)) else [[x], []]
theorem fo_s (T : ftT) (f : Nat) (x : Int) : fo T (f + 1) x = if 20 ≤ x ∧ x < 20 + (T.length : Int) then [x] :: pd (fo T f (ft_fst T x)) (fo T f (ft_snd T x)) else [[x], []] := rfl
def un (T : ftT) : List Int → List (List Int)
  | [] => [[]]
  | x :: l => pd (fo T 8 x) (un T l)
def fT (k : Nat) : Nat := ([1, 2, 5, 11, 26, 56, 131, 287, 677][k]?).getD 0
theorem fT_mul : ∀ i : Fin 9, ∀ j : Fin 9, i.val + j.val ≤ 8 → fT i.val * fT j.val ≤ fT (i.val + j.val) := by decide +kernel
theorem fT_mul1 : ∀ i : Fin 9, ∀ j : Fin 9, 1 ≤ i.val → 1 ≤ j.val → i.val + j.val ≤ 8 → 1 + fT i.val * fT j.val ≤ fT (i.val + j.val) := by decide +kernel
theorem fT_2 : ∀ i : Fin 9, 1 ≤ i.val → 2 ≤ fT i.val := by decide +kernel
theorem fT_le : ∀ i : Fin 9, fT i.val ≤ 680 := by decide +kernel
theorem fo_len {T : ftT} (ho : ft_ok T) (hsm : ft_sm T) : ∀ (f : Nat) (x : Int), (fo T f x).length ≤ fT (ft_lv T x).toNat
  | 0, x => by
    have h := ft_lv_le ho x
    exact fT_2 ⟨(ft_lv T x).toNat, by omega⟩ (by show 1 ≤ (ft_lv T x).toNat; omega)
  | f + 1, x => by
    have h := ft_lv_le ho x
    rw [fo_s]
    by_cases hc : 20 ≤ x ∧ x < 20 + (T.length : Int)
    · rw [if_pos hc]
      have e := hsm x hc
      have h1 := ft_lv_le ho (ft_fst T x)
      have h2 := ft_lv_le ho (ft_snd T x)
      have i1 := fo_len ho hsm f (ft_fst T x)
      have i2 := fo_len ho hsm f (ft_snd T x)
      have m : 1 + fT (ft_lv T (ft_fst T x)).toNat * fT (ft_lv T (ft_snd T x)).toNat ≤ fT ((ft_lv T (ft_fst T x)).toNat + (ft_lv T (ft_snd T x)).toNat) := fT_mul1 ⟨(ft_lv T (ft_fst T x)).toNat, by omega⟩ ⟨(ft_lv T (ft_snd T x)).toNat, by omega⟩ (by show 1 ≤ (ft_lv T (ft_fst T x)).toNat; omega) (by show 1 ≤ (ft_lv T (ft_snd T x)).toNat; omega) (by show (ft_lv T (ft_fst T x)).toNat + (ft_lv T (ft_snd T x)).toNat ≤ 8; omega)
      have e2 : (ft_lv T x).toNat = (ft_lv T (ft_fst T x)).toNat + (ft_lv T (ft_snd T x)).toNat := by omega
      rw [List.length_cons, pd_len, e2]
      have i3 := Nat.mul_le_mul i1 i2
      exact Nat.le_trans (Nat.add_le_add_right i3 1) (by rw [Nat.add_comm]; exact m)
    · rw [if_neg hc]
      exact fT_2 ⟨(ft_lv T x).toNat, by omega⟩ (by show 1 ≤ (ft_lv T x).toNat; omega)
theorem un_len {T : ftT} (ho : ft_ok T) (hsm : ft_sm T) : ∀ l : List Int, ft_lvs T l ≤ 8 → (un T l).length ≤ fT (ft_lvs T l).toNat
  | [], _ => by show 1 ≤ fT 0; decide
  | x :: l, h => by
    have h1 := ft_lv_le ho x
    have h2 := (ft_lvs_le ho l).1
    have h : ft_lv T x + ft_lvs T l ≤ 8 := h
    have i1 := fo_len ho hsm 8 x
    have i2 := un_len ho hsm l (by omega)
    have m : fT (ft_lv T x).toNat * fT (ft_lvs T l).toNat ≤ fT ((ft_lv T x).toNat + (ft_lvs T l).toNat) := fT_mul ⟨(ft_lv T x).toNat, by omega⟩ ⟨(ft_lvs T l).toNat, by omega⟩ (by show (ft_lv T x).toNat + (ft_lvs T l).toNat ≤ 8; omega)
    have e2 : (ft_lvs T (x :: l)).toNat = (ft_lv T x).toNat + (ft_lvs T l).toNat := by show (ft_lv T x + ft_lvs T l).toNat = _; omega
    rw [e2]
    show (pd (fo T 8 x) (un T l)).length ≤ _
    rw [pd_len]
    exact Nat.le_trans (Nat.mul_le_mul i1 i2) m
theorem fo_nil (T : ftT) : ∀ (f : Nat) (x : Int), [] ∈ fo T f x
  | 0, x => List.mem_cons_of_mem _ List.mem_cons_self
  | f + 1, x => by
    rw [fo_s]
    by_cases hc : 20 ≤ x ∧ x < 20 + (T.length : Int)
    · rw [if_pos hc]
      exact List.mem_cons_of_mem _ (pd_mem.mpr ⟨[], fo_nil T f _, [], fo_nil T f _, rfl⟩)
    · rw [if_neg hc]
      exact List.mem_cons_of_mem _ List.mem_cons_self
theorem fo_self (T : ftT) : ∀ (f : Nat) (x : Int), [x] ∈ fo T f x
  | 0, x => List.mem_cons_self
  | f + 1, x => by
    rw [fo_s]
    by_cases hc : 20 ≤ x ∧ x < 20 + (T.length : Int)
    · rw [if_pos hc]; exact List.mem_cons_self
    · rw [if_neg hc]; exact List.mem_cons_self
theorem un_self (T : ftT) : ∀ l : List Int, l ∈ un T l
  | [] => List.mem_cons_self
  | x :: l => pd_mem.mpr ⟨[x], fo_self T 8 x, l, un_self T l, rfl⟩
theorem sub_one {x : Int} {t : List Int} (h : t.Sublist [x]) : t = [] ∨ t = [x] := by
  cases h with
  | cons _ h => exact Or.inl (List.sublist_nil.mp h)
  | cons_cons _ h => exact Or.inr (by rw [List.sublist_nil.mp h])
theorem leaf_sub {x : Int} {u t : List Int} (hu : u ∈ [[x], []]) (ht : t.Sublist u) : t ∈ [[x], ([] : List Int)] := by
  rcases List.mem_cons.mp hu with e | hu
  · rw [e] at ht
    rcases sub_one ht with e2 | e2
    · rw [e2]; exact List.mem_cons_of_mem _ List.mem_cons_self
    · rw [e2]; exact List.mem_cons_self
  · rw [List.mem_singleton.mp hu] at ht
    rw [List.sublist_nil.mp ht]
    exact List.mem_cons_of_mem _ List.mem_cons_self
theorem fo_sub {T : ftT} : ∀ (f : Nat) (x : Int) (u t : List Int), u ∈ fo T f x → t.Sublist u → t ∈ fo T f x
  | 0, x, u, t, hu, ht => leaf_sub hu ht
  | f + 1, x, u, t, hu, ht => by
    have hn := fo_nil T (f + 1) x
    rw [fo_s] at hu hn ⊢
    by_cases hc : 20 ≤ x ∧ x < 20 + (T.length : Int)
    · rw [if_pos hc] at hu hn ⊢
      rcases List.mem_cons.mp hu with e | hu
      · rw [e] at ht
        rcases sub_one ht with e2 | e2
        · rw [e2]; exact hn
        · rw [e2]; exact List.mem_cons_self
      · obtain ⟨p, hp, q, hq, e⟩ := pd_mem.mp hu
        rw [e] at ht
        obtain ⟨t1, t2, e2, h1, h2⟩ := List.sublist_append_iff.mp ht
        exact List.mem_cons_of_mem _ (pd_mem.mpr ⟨t1, fo_sub f _ p t1 hp h1, t2, fo_sub f _ q t2 hq h2, e2⟩)
    · rw [if_neg hc] at hu ⊢
      exact leaf_sub hu ht
theorem un_sub {T : ftT} : ∀ (l u t : List Int), u ∈ un T l → t.Sublist u → t ∈ un T l
  | [], u, t, hu, ht => by
    rw [List.mem_singleton.mp hu] at ht
    rw [List.sublist_nil.mp ht]
    exact List.mem_cons_self
  | x :: l, u, t, hu, ht => by
    obtain ⟨p, hp, q, hq, e⟩ := pd_mem.mp hu
    rw [e] at ht
    obtain ⟨t1, t2, e2, h1, h2⟩ := List.sublist_append_iff.mp ht
    exact pd_mem.mpr ⟨t1, fo_sub 8 x p t1 hp h1, t2, un_sub l q t2 hq h2, e2⟩
theorem pd_rep {A B : List (List Int)} {x : Int} {w : List Int} (hA : ∀ u1 u2, u1 ++ x :: u2 ∈ A → u1 ++ (w ++ u2) ∈ A) (hB : ∀ u1 u2, u1 ++ x :: u2 ∈ B → u1 ++ (w ++ u2) ∈ B) {u1 u2 : List Int} (h : u1 ++ x :: u2 ∈ pd A B) : u1 ++ (w ++ u2) ∈ pd A B := by
  obtain ⟨p, hp, q, hq, e⟩ := pd_mem.mp h
  rcases List.append_eq_append_iff.mp e with ⟨as, e1, e2⟩ | ⟨bs, e1, e2⟩
  · cases as with
    | nil =>
      have e2 : x :: u2 = q := e2
      rw [List.append_nil] at e1
      have h3 : w ++ u2 ∈ B := hB [] u2 (by rw [List.nil_append, e2]; exact hq)
      exact pd_mem.mpr ⟨p, hp, w ++ u2, h3, by rw [e1]⟩
    | cons z as =>
      have e3 : x = z ∧ u2 = as ++ q := List.cons.inj e2
      have h3 : u1 ++ (w ++ as) ∈ A := hA u1 as (by rw [e3.1, ← e1]; exact hp)
      exact pd_mem.mpr ⟨u1 ++ (w ++ as), h3, q, hq, by rw [e3.2]; simp only [List.append_assoc]⟩
  · have h3 : bs ++ (w ++ u2) ∈ B := hB bs u2 (by rw [← e2]; exact hq)
    exact pd_mem.mpr ⟨p, hp, bs ++ (w ++ u2), h3, by rw [e1, List.append_assoc]⟩
theorem one_mid {x y : Int} {u1 u2 : List Int} (h : u1 ++ x :: u2 = [y]) : u1 = [] ∧ x = y ∧ u2 = [] := by
  cases u1 with
  | nil => exact ⟨rfl, List.cons.inj h⟩
  | cons z u1 =>
    have h2 : u1 ++ x :: u2 = [] := (List.cons.inj h).2
    rw [List.append_eq_nil_iff] at h2
    exact absurd h2.2 (List.cons_ne_nil _ _)
theorem leaf_mid {x y : Int} {u1 u2 : List Int} (h : u1 ++ x :: u2 ∈ [[y], ([] : List Int)]) : x = y := by
  rcases List.mem_cons.mp h with e | h
  · exact (one_mid e).2.1
  · have h2 := List.mem_singleton.mp h
    rw [List.append_eq_nil_iff] at h2
    exact absurd h2.2 (List.cons_ne_nil _ _)
/-- what may come for x -/
def abw (T : ftT) (x : Int) (w : List Int) : Prop := w = [ft_fst T x] ∨ w = [ft_snd T x] ∨ w = [ft_fst T x, ft_snd T x]
theorem fo_rep {T : ftT} (ho : ft_ok T) (hsm : ft_sm T) {x : Int} {w : List Int} (hx : 20 ≤ x ∧ x < 20 + (T.length : Int)) (hw : abw T x w) : ∀ (f : Nat) (y : Int) (u1 u2 : List Int), ft_lv T y ≤ (f : Int) + 1 → u1 ++ x :: u2 ∈ fo T f y → u1 ++ (w ++ u2) ∈ fo T f y
  | 0, y, u1, u2, hy, h => by
    have e := leaf_mid h
    have h1 := hsm x hx
    have h2 := (ft_lv_le ho (ft_fst T x)).1
    have h3 := (ft_lv_le ho (ft_snd T x)).1
    rw [← e] at hy
    exact absurd hy (by omega)
  | f + 1, y, u1, u2, hy, h => by
    rw [fo_s] at h ⊢
    by_cases hc : 20 ≤ y ∧ y < 20 + (T.length : Int)
    · rw [if_pos hc] at h ⊢
      have h1 := hsm y hc
      have h2 := (ft_lv_le ho (ft_fst T y)).1
      have h3 := (ft_lv_le ho (ft_snd T y)).1
      rcases List.mem_cons.mp h with e | h
      · obtain ⟨e1, e2, e3⟩ := one_mid e
        subst e2
        rw [e1, e3, List.nil_append, List.append_nil]
        refine List.mem_cons_of_mem _ ?_
        rcases hw with e | e | e
        · exact pd_mem.mpr ⟨[ft_fst T x], fo_self T f _, [], fo_nil T f _, by rw [e]; rfl⟩
        · exact pd_mem.mpr ⟨[], fo_nil T f _, [ft_snd T x], fo_self T f _, by rw [e]; rfl⟩
        · exact pd_mem.mpr ⟨[ft_fst T x], fo_self T f _, [ft_snd T x], fo_self T f _, by rw [e]; rfl⟩
      · refine List.mem_cons_of_mem _ (pd_rep (fun v1 v2 => fo_rep ho hsm hx hw f _ v1 v2 (by omega)) (fun v1 v2 => fo_rep ho hsm hx hw f _ v1 v2 (by omega)) h)
    · rw [if_neg hc] at h
      exact absurd (leaf_mid h ▸ hx) hc
theorem un_rep {T : ftT} (ho : ft_ok T) (hsm : ft_sm T) {x : Int} {w : List Int} (hx : 20 ≤ x ∧ x < 20 + (T.length : Int)) (hw : abw T x w) : ∀ (l u1 u2 : List Int), u1 ++ x :: u2 ∈ un T l → u1 ++ (w ++ u2) ∈ un T l
  | [], u1, u2, h => by
    have h2 := List.mem_singleton.mp h
    rw [List.append_eq_nil_iff] at h2
    exact absurd h2.2 (List.cons_ne_nil _ _)
  | y :: l, u1, u2, h => pd_rep (fun v1 v2 => fo_rep ho hsm hx hw 8 y v1 v2 (by have := (ft_lv_le ho y).2; omega)) (fun v1 v2 => un_rep ho hsm hx hw l v1 v2) h
theorem fo_in {T : ftT} (hcl : ft_cl T) : ∀ (f : Nat) (x : Int), (0 ≤ x ∧ x < 20 + (T.length : Int)) → ∀ u ∈ fo T f x, ∀ y ∈ u, 0 ≤ y ∧ y < 20 + (T.length : Int) := by
  have leaf : ∀ x : Int, (0 ≤ x ∧ x < 20 + (T.length : Int)) → ∀ u ∈ [[x], ([] : List Int)], ∀ y ∈ u, 0 ≤ y ∧ y < 20 + (T.length : Int) := by
    intro x hx u hu y hy
    rcases List.mem_cons.mp hu with e | hu
    · rw [e] at hy; rw [List.mem_singleton.mp hy]; exact hx
    · rw [List.mem_singleton.mp hu] at hy; exact absurd hy List.not_mem_nil
  intro f
  induction f with
  | zero => exact leaf
  | succ f ih =>
    intro x hx u hu y hy
    rw [fo_s] at hu
    by_cases hc : 20 ≤ x ∧ x < 20 + (T.length : Int)
    · rw [if_pos hc] at hu
      have h4 := ft_cl_at hcl hc
      rcases List.mem_cons.mp hu with e | hu
      · rw [e] at hy; rw [List.mem_singleton.mp hy]; exact hx
      · obtain ⟨p, hp, q, hq, e⟩ := pd_mem.mp hu
        rw [e] at hy
        rcases List.mem_append.mp hy with hy | hy
        · exact ih _ h4.2.1 p hp y hy
        · exact ih _ h4.2.2 q hq y hy
    · rw [if_neg hc] at hu
      exact leaf x hx u hu y hy
theorem un_in {T : ftT} (hcl : ft_cl T) : ∀ (l : List Int), (∀ x ∈ l, 0 ≤ x ∧ x < 20 + (T.length : Int)) → ∀ u ∈ un T l, ∀ y ∈ u, 0 ≤ y ∧ y < 20 + (T.length : Int)
  | [], _, u, hu, y, hy => by rw [List.mem_singleton.mp hu] at hy; exact absurd hy List.not_mem_nil
  | x :: l, h, u, hu, y, hy => by
    obtain ⟨p, hp, q, hq, e⟩ := pd_mem.mp hu
    rw [e] at hy
    rcases List.mem_append.mp hy with hy | hy
    · exact fo_in hcl 8 x (h x List.mem_cons_self) p hp y hy
    · exact un_in hcl l (fun z hz => h z (List.mem_cons_of_mem _ hz)) q hq y hy
theorem fo_lv {T : ftT} (ho : ft_ok T) (hsm : ft_sm T) : ∀ (f : Nat) (x : Int), ∀ u ∈ fo T f x, ft_lvs T u ≤ ft_lv T x := by
  have leaf : ∀ x : Int, ∀ u ∈ [[x], ([] : List Int)], ft_lvs T u ≤ ft_lv T x := by
    intro x u hu
    have h1 := (ft_lv_le ho x).1
    rcases List.mem_cons.mp hu with e | hu
    · rw [e]; show ft_lv T x + 0 ≤ ft_lv T x; omega
    · rw [List.mem_singleton.mp hu]; show (0 : Int) ≤ ft_lv T x; omega
  intro f
  induction f with
  | zero => exact leaf
  | succ f ih =>
    intro x u hu
    rw [fo_s] at hu
    by_cases hc : 20 ≤ x ∧ x < 20 + (T.length : Int)
    · rw [if_pos hc] at hu
      have h4 := hsm x hc
      rcases List.mem_cons.mp hu with e | hu
      · rw [e]; show ft_lv T x + 0 ≤ ft_lv T x; omega
      · obtain ⟨p, hp, q, hq, e⟩ := pd_mem.mp hu
        have h1 := ih _ p hp
        have h2 := ih _ q hq
        rw [e, ft_lvs_app]
        omega
    · rw [if_neg hc] at hu
      exact leaf x u hu
theorem un_lv {T : ftT} (ho : ft_ok T) (hsm : ft_sm T) : ∀ (l : List Int), ∀ u ∈ un T l, ft_lvs T u ≤ ft_lvs T l
  | [], u, hu => by rw [List.mem_singleton.mp hu]; exact Int.le_refl _
  | x :: l, u, hu => by
    obtain ⟨p, hp, q, hq, e⟩ := pd_mem.mp hu
    have h1 := fo_lv ho hsm 8 x p hp
    have h2 := un_lv ho hsm l q hq
    rw [e, ft_lvs_app]
    show _ ≤ ft_lv T x + ft_lvs T l
    omega
theorem ins_pm (n : Int) : ∀ l : List Int, (li_ins n l).Perm (n :: l)
  | [] => List.Perm.refl _
  | x :: l => by
    unfold li_ins
    split
    · exact List.Perm.refl _
    · exact ((ins_pm n l).cons x).trans (List.Perm.swap n x l)
theorem insAll_pm : ∀ (m l : List Int), (li_insAll l m).Perm (l ++ m)
  | [], l => by rw [List.append_nil]; exact List.Perm.refl _
  | x :: m, l => (insAll_pm m (li_ins x l)).trans (((ins_pm x l).append_right m).trans List.perm_middle.symm)
theorem lvs_pm {T : ftT} {l m : List Int} (h : l.Perm m) : ft_lvs T l = ft_lvs T m := by
  induction h with
  | nil => rfl
  | cons x _ ih => show ft_lv T x + _ = ft_lv T x + _; rw [ih]
  | swap x y l => show ft_lv T y + (ft_lv T x + ft_lvs T l) = ft_lv T x + (ft_lv T y + ft_lvs T l); omega
  | trans _ _ i1 i2 => exact i1.trans i2
def uv (T : ftT) (D : List Int) : List (List Int) := (un T D).map (fun r => li_insAll [] r)
theorem srt_pm (r : List Int) : (li_insAll [] r).Perm r := insAll_pm r []
theorem uv_mem {T : ftT} {D p r : List Int} (hp : p.Pairwise (· ≤ ·)) (hr : r ∈ un T D) (h : p.Perm r) : p ∈ uv T D :=
  List.mem_map.mpr ⟨r, hr, List.Perm.eq_of_pairwise (le := fun a b : Int => a ≤ b) (fun _ _ _ _ h1 h2 => Int.le_antisymm h1 h2) (li_insAll_sorted r List.Pairwise.nil) hp ((srt_pm r).trans h.symm)⟩
theorem cs_t_inv {T : ftT} {s : List Int} {x : Int} {c : cdt} : ∀ (k m : Nat), c ∈ cs_t T s x k m → ∃ i : Nat, c = (8, x, some (tm1 T s x i), some (tm2' T s x i))
  | 0, _, h => absurd h List.not_mem_nil
  | k + 1, m, h => by
    rcases List.mem_cons.mp h with e | h
    · exact ⟨m, e⟩
    · exact cs_t_inv k (m + 1) h
theorem cs_e_inv {T : ftT} {s : List Int} {c : cdt} : ∀ xs : List Int, c ∈ cs_e T s xs → ∃ x ∈ xs, c ∈ cs_x T s x
  | [], h => absurd h List.not_mem_nil
  | x :: xs, h => by
    rcases List.mem_append.mp h with h | h
    · exact ⟨x, List.mem_cons_self, h⟩
    · obtain ⟨y, hy, hc⟩ := cs_e_inv xs h
      exact ⟨y, List.mem_cons_of_mem _ hy, hc⟩
theorem cpr_none {r n : Int} {p : List Int} (h : cpr (r, n, none, none) p) : False := by
  rcases h with h | h <;> cases h
theorem cpr_one {r n : Int} {a p : List Int} (h : cpr (r, n, some a, none) p) : p = a := by
  rcases h with h | h
  · exact (Option.some.inj h).symm
  · cases h
theorem cpr_two {r n : Int} {a b p : List Int} (h : cpr (r, n, some a, some b) p) : p = a ∨ p = b := by
  rcases h with h | h
  · exact Or.inl (Option.some.inj h).symm
  · exact Or.inr (Option.some.inj h).symm
/-- of what form a premise is -/
def pfm (T : ftT) (s p : List Int) (x : Int) (t : List Int) : Prop := x ∈ s ∧ t.Sublist (s.erase x) ∧ (p = t ∨ ((20 ≤ x ∧ x < 20 + (T.length : Int)) ∧ (p = li_ins (ft_fst T x) t ∨ p = li_ins (ft_snd T x) t ∨ p = li_ins (ft_snd T x) (li_ins (ft_fst T x) t))))
theorem cs_fm {T : ftT} (hp : ft_pr T) (hTl : T.length ≤ 60) {s : List Int} (hs : sv T s) {c : cdt} (hc : c ∈ cs T s) {p : List Int} (hcp : cpr c p) : ∃ (x : Int) (t : List Int), pfm T s p x t := by
  unfold cs at hc
  by_cases hod : li_odd 17 s ≠ -1
  · rw [if_pos hod] at hc
    obtain ⟨n, hn⟩ : ∃ n, n = li_odd 17 s := ⟨_, rfl⟩
    rw [← hn] at hc hod
    obtain ⟨n_in, n17, n1⟩ := odd_in hn.symm hod
    unfold cs_o at hc
    by_cases e19 : n = 19
    · rw [if_pos e19] at hc
      rw [List.mem_singleton.mp hc] at hcp
      exact (cpr_none hcp).elim
    · rw [if_neg e19] at hc
      by_cases e17 : n = 17
      · rw [if_pos e17] at hc
        rw [List.mem_singleton.mp hc] at hcp
        exact ⟨17, s.erase 17, by rw [← e17]; exact n_in, List.Sublist.refl _, Or.inl (cpr_one hcp)⟩
      · rw [if_neg e17] at hc
        have hr := (odd_sg hp n17 n1 (hs.2.1 n n_in).2 hTl e19 e17).1
        by_cases e1 : ft_sign T n = 1
        · rw [if_pos e1] at hc
          rw [List.mem_singleton.mp hc] at hcp
          exact ⟨n, s.erase n, n_in, List.Sublist.refl _, Or.inr ⟨hr, Or.inr (Or.inr (cpr_one hcp))⟩⟩
        · rw [if_neg e1] at hc
          rw [List.mem_singleton.mp hc] at hcp
          rcases cpr_two hcp with e | e
          · exact ⟨n, s.erase n, n_in, List.Sublist.refl _, Or.inr ⟨hr, Or.inl e⟩⟩
          · exact ⟨n, s.erase n, n_in, List.Sublist.refl _, Or.inr ⟨hr, Or.inr (Or.inl e)⟩⟩
  · rw [if_neg hod] at hc
    rcases List.mem_append.mp hc with hc | hc
    · unfold cs_a at hc
      cases ha : axf s with
      | none => rw [ha] at hc; exact absurd hc List.not_mem_nil
      | some a =>
        rw [ha] at hc
        rw [List.mem_singleton.mp hc] at hcp
        exact (cpr_none hcp).elim
    · rcases List.mem_append.mp hc with hc | hc
      · unfold cs_1 at hc
        by_cases e : s = [16]
        · rw [if_pos e] at hc
          rw [List.mem_singleton.mp hc] at hcp
          exact (cpr_none hcp).elim
        · rw [if_neg e] at hc; exact absurd hc List.not_mem_nil
      · obtain ⟨x, hx, hc⟩ := cs_e_inv s hc
        unfold cs_x at hc
        by_cases e2 : ft_sign T x = 2
        · rw [if_pos e2] at hc
          have hr := ft_sign_in (T := T) (n := x) (by omega)
          rcases List.mem_cons.mp hc with e | hc
          · rw [e] at hcp
            exact ⟨x, s.erase x, hx, List.Sublist.refl _, Or.inr ⟨hr, Or.inl (cpr_one hcp)⟩⟩
          · rw [List.mem_singleton.mp hc] at hcp
            exact ⟨x, s.erase x, hx, List.Sublist.refl _, Or.inr ⟨hr, Or.inr (Or.inl (cpr_one hcp))⟩⟩
        · rw [if_neg e2] at hc
          by_cases e0 : ft_sign T x = 0
          · rw [if_pos e0] at hc
            have hr := ft_sign_in (T := T) (n := x) (by omega)
            obtain ⟨i, e⟩ := cs_t_inv _ _ hc
            rw [e] at hcp
            rcases cpr_two hcp with e | e
            · exact ⟨x, _, hx, kpl_sub _ _, Or.inr ⟨hr, Or.inl e⟩⟩
            · exact ⟨x, _, hx, kpl_sub _ _, Or.inr ⟨hr, Or.inr (Or.inl e)⟩⟩
          · rw [if_neg e0] at hc; exact absurd hc List.not_mem_nil
theorem uv_cl {T : ftT} (ho : ft_ok T) (hsm : ft_sm T) {D r p t : List Int} {x : Int} (hr : r ∈ un T D) (h : pfm T (li_insAll [] r) p x t) : p ∈ uv T D := by
  obtain ⟨hx, hts, hpf⟩ := h
  have hso : (li_insAll [] r).Pairwise (· ≤ ·) := li_insAll_sorted r List.Pairwise.nil
  have hsr := srt_pm r
  obtain ⟨r1, r2, e⟩ := List.append_of_mem (hsr.mem_iff.mp hx)
  have h1 : ((li_insAll [] r).erase x).Perm (r1 ++ r2) := by
    have a := List.perm_cons_erase hx
    have b : r.Perm (x :: (r1 ++ r2)) := by rw [e]; exact List.perm_middle
    exact List.Perm.cons_inv (a.symm.trans (hsr.trans b))
  have hto : t.Pairwise (· ≤ ·) := (er_sorted x hso).sublist hts
  obtain ⟨t', ht', hsub⟩ := List.exists_perm_sublist hts h1
  obtain ⟨t1, t2, e2, s1, s2⟩ := List.sublist_append_iff.mp hsub
  rw [e2] at ht'
  rw [e] at hr
  have key : ∀ w : List Int, p.Pairwise (· ≤ ·) → p.Perm (w ++ t) → t1 ++ (w ++ t2) ∈ un T D → p ∈ uv T D := by
    intro w hpo hpw hm
    refine uv_mem hpo hm (hpw.trans ((ht'.symm.append_left w).trans ?_))
    rw [← List.append_assoc, ← List.append_assoc]
    exact List.perm_append_comm.append_right t2
  rcases hpf with hpf | ⟨hc, hpf | hpf | hpf⟩
  · refine key [] (by rw [hpf]; exact hto) (by rw [hpf]; exact List.Perm.refl _) (un_sub D _ _ hr (s1.append (s2.cons x)))
  · refine key [ft_fst T x] (by rw [hpf]; exact li_ins_sorted hto) (by rw [hpf]; exact ins_pm _ _) (un_sub D _ _ (un_rep ho hsm hc (Or.inl rfl) D r1 r2 hr) (s1.append ((List.Sublist.refl _).append s2)))
  · refine key [ft_snd T x] (by rw [hpf]; exact li_ins_sorted hto) (by rw [hpf]; exact ins_pm _ _) (un_sub D _ _ (un_rep ho hsm hc (Or.inr (Or.inl rfl)) D r1 r2 hr) (s1.append ((List.Sublist.refl _).append s2)))
  · refine key [ft_fst T x, ft_snd T x] (by rw [hpf]; exact li_ins_sorted (li_ins_sorted hto)) ?_ (un_sub D _ _ (un_rep ho hsm hc (Or.inr (Or.inr rfl)) D r1 r2 hr) (s1.append ((List.Sublist.refl _).append s2)))
    rw [hpf]
    exact (ins_pm _ _).trans (((ins_pm _ _).cons _).trans (List.Perm.swap _ _ _))
theorem uni_ex {T : ftT} (hp : ft_pr T) (ho : ft_ok T) (hcl : ft_cl T) (hsm : ft_sm T) (hTl : T.length ≤ 60) {D : List Int} (hD : sv T D) : ∃ V, uni T V ∧ D ∈ V := by
  have h0 := (ft_lvs_le ho D).1
  have h8 := hD.2.2
  refine ⟨uv T D, ⟨?_, fun t ht => ?_⟩, uv_mem hD.1 (un_self T D) (List.Perm.refl _)⟩
  · unfold uv
    rw [List.length_map]
    exact Nat.le_trans (un_len ho hsm D h8) (fT_le ⟨(ft_lvs T D).toNat, by omega⟩)
  · obtain ⟨r, hr, e⟩ := List.mem_map.mp ht
    have e : li_insAll [] r = t := e
    have hsv : sv T t := by
      rw [← e]
      refine ⟨li_insAll_sorted r List.Pairwise.nil, fun x hx => un_in hcl D hD.2.1 r hr x ((srt_pm r).mem_iff.mp hx), ?_⟩
      rw [lvs_pm (srt_pm r)]
      exact Int.le_trans (un_lv ho hsm D r hr) h8
    refine ⟨hsv, fun c hc p hcp => ?_⟩
    obtain ⟨x, t2, h⟩ := cs_fm hp hTl hsv hc hcp
    rw [← e] at h
    exact uv_cl ho hsm hr h
