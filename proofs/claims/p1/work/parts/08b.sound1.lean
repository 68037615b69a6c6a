/-! A run of the abstract machine is a run of the machine: instructions that ask for nothing -/
/-- Y: the script's cell, its length, its numbers -/
abbrev so_Y : Type := Nat × Nat × (Nat → Int32)
def so_okσ (Y : so_Y) (σ : am_S) : Prop := so_oks σ ∧ (∀ j, σ.1 71 0 j = (Y.2.2 j).toInt) ∧ σ.1 72 0 0 = (Y.2.1 : Int)
def so_en (e : Nat) : String := if e = 1 then "java/lang/IllegalArgumentException" else if e = 2 then "java/lang/IllegalStateException" else if e = 3 then "java/lang/UnsupportedOperationException" else "java/lang/IndexOutOfBoundsException"
/-- a static reference of Throwable's, in a cell that nobody writes -/
def so_tS (n d : String) (A : Nat → Prop) (U : State) : Prop := ∃ (c : ClassId) (k : Class) (i : Nat) (f : Field) (a : Nat) (cell : Cell), U.vm.findClass "java/lang/Throwable" = some c ∧ U.fieldFound? "java/lang/Throwable" n d = some (c, k, i, f) ∧ f.isStatic = true ∧ k.init = .initialized ∧ k.statics = some a ∧ U.heap[a]? = some cell ∧ cell.vm.isStatics = true ∧ cell.cls = c ∧
  f.slot < cell.slots.size ∧ k.staticTypes[f.slot]? = some f.type ∧ ¬ A a ∧ ∃ v, cell.slots[f.slot]? = some v ∧ v.isRef = true
/-- words of the tables on casts and declarations -/
def so_xw : List Cond := lw_tbl.filter (fun w => w.onTables && (w.castAtom || w.faceAtom))
/-- what exceptions lean on -/
def so_H (A : Nat → Prop) (U : State) : Prop := (∀ a b, 0 < a → a < 5 → 0 < b → b < 5 → a ≠ b → va_Nc (so_en a) (so_en b) U) ∧ so_tS "UNASSIGNED_STACK" "[Ljava/lang/StackTraceElement;" A U ∧ so_tS "SUPPRESSED_SENTINEL" "Ljava/util/List;" A U ∧ ∀ w ∈ so_xw, va_Nw w U
/-- the two texts as they lie in the heap, and String's and Preconditions' statics -/
def so_txt (i : Nat) : List Int32 := if i = 0 then [42, 37, 43, 38] else [49, 70, 48, 84]
def so_T1 (h0 v0 : Nat) (f : Nat → Int32) (A : Nat → Prop) (U : State) (H : Heap) : Prop := va_O "java/lang/String" h0 A U H ∧ va_OF "java/lang/String" "coder" "B" (.int 0) h0 A U H ∧ va_OF "java/lang/String" "value" "[B" (.ref v0) h0 A U H ∧ va_T .byte v0 4 (fun j => .int (f j)) A U H
def so_T2 (A : Nat → Prop) (U : State) (H : Heap) : Prop := va_Z "java/lang/String" "COMPACT_STRINGS" "Z" (.int 1) A U H ∧ ∃ v : Value, v.category = 1 ∧ v.isRef = true ∧ va_Z "jdk/internal/util/Preconditions" "SIOOBE_FORMATTER" "Ljava/util/function/BiFunction;" v A U H
def so_T (Z : so_Z) (A : Nat → Prop) (U : State) (H : Heap) : Prop := (∃ v0 : Nat → Nat, ∀ i, i < 2 → so_T1 (Z.1 90 i) (v0 i) (fun j => (so_txt i).getD j 0) A U H) ∧ so_T2 A U H
theorem so_T_at {Z : so_Z} {A : Nat → Prop} {u U : State} {H H1 : Heap} (hvm : u.vm.Alike U.vm) (hq : ∀ a : Nat, a < H.size → ¬ A a → H1[a]? = H[a]?) (h : so_T Z A u H) : so_T Z A U H1 := by
  obtain ⟨⟨v0, h1⟩, h2, v, h3, h4, h5⟩ := h
  exact ⟨⟨v0, fun i hi => ⟨((h1 i hi).1.moved hvm).kept hq, ((h1 i hi).2.1.moved hvm).kept hq, ((h1 i hi).2.2.1.moved hvm).kept hq, ((h1 i hi).2.2.2.moved hvm).kept hq⟩⟩, (h2.moved hvm).kept hq, v, h3, h4, (h5.moved hvm).kept hq⟩
/-- what is so in every method: the tables, and the cells that nobody writes -/
def so_G (Z : so_Z) (A : Nat → Prop) (Y : so_Y) (U : State) : Prop := va_K Z.2.1 so_cl (so_tys Z) U ∧ (∀ q ∈ so_fn, va_Nw (so_fnw q) U) ∧ (va_X Y.1 Y.2.1 Y.2.2 U U.heap ∧ Y.1 < U.heap.size ∧ ¬ A Y.1 ∧ Z.1 71 0 = Y.1 ∧ Y.2.1 < 2147483648) ∧
  (∀ q ∈ so_ss, vk_R (sR q.1) q.2.1 (if q.2.2.1 = 0 then "*%+&" else "1F0T") (Z.1 90 q.2.2.1) U) ∧ so_H A U ∧ so_T Z A U U.heap
/-- a method's frame: mi is its place among ours -/
def so_X (Z : so_Z) (A : Nat → Prop) (Y : so_Y) (p : Program) (s : State) (m : MethodId) (args : Array Value) (meth : Method) (c : Code) (mi : Nat) : Prop :=
  p.tables.exec = Jvm.exec ∧ c.code = so_by mi ∧ c.maxLocals = (so_mlL[mi]?).getD 0 ∧ meth.sig.returnType = so_rt mi ∧ meth.locks = false ∧ s.vm.findClass (sR (so_ow mi)) = some m.cls ∧ (∀ w ∈ so_tb, w.before args s = true) ∧ so_G Z A Y s
def so_J (Z : so_Z) (A : Nat → Prop) (Y : so_Y) (p : Program) (l : Launch) (e : Env) (R : Room) (s : State) (m : MethodId) (args : Array Value) (below : List Frame) (meth : Method) (c : Code) (nL b0 n0 : Nat) (Qt : State → Prop) (pc : Nat) (ls st : List am_V) (σ : am_S) : Prop :=
  so_okl ls → so_okl st → so_okσ Y σ → ∀ (H : Heap) (locs : List Loc) (cells slots : Nat) (lsv : Array Slot) (stv : List Value),
    va_P Z.2.1 so_cl (so_w Z σ) H → va_D A (so_w Z σ) → va_S A s.heap H locs → cells + σ.2.2.2 ≤ b0 → slots + 6 * σ.2.2.2 ≤ n0 → so_L Z nL ls lsv → so_S Z st stv →
    W p l e R s m args below meth c H locs cells slots Qt (F0 m pc lsv stv)
theorem so_i8 {n : Int} (h1 : -128 ≤ n) (h2 : n < 128) : (Int8.ofInt n).toInt32 = Int32.ofInt n := by
  rw [← Int32.toInt_inj, Int8.toInt_toInt32, Int8.toInt_ofInt_of_le (by omega) (by omega), so_ti ⟨by omega, by omega⟩]
theorem so_i16 {n : Int} (h1 : -32768 ≤ n) (h2 : n < 32768) : (Int16.ofInt n).toInt32 = Int32.ofInt n := by
  rw [← Int32.toInt_inj, Int16.toInt_toInt32, Int16.toInt_ofInt_of_le (by omega) (by omega), so_ti ⟨by omega, by omega⟩]
section So1
variable {Z : so_Z} {A : Nat → Prop} {Y : so_Y} {p : Program} {l : Launch} {e : Env} {R : Room} {s : State} {m : MethodId} {args : Array Value} {below : List Frame} {meth : Method} {c : Code} {nL b0 n0 mi pc : Nat} {Qt : State → Prop} {ls st : List am_V} {σ : am_S}
theorem so_fa_spec {own len : Nat} {raw : am_I} {put : Bool} {cc j : Nat} (h : so_fa own raw len put cc j = true) : len = 3 ∧ 0 < cc ∧ cc < 12 ∧ j < sN cc ∧
    ∃ q : Nat × Nat × Nat × Nat × Nat, raw = (if put then .putfield q.2.1 else .getfield q.2.1) ∧ q.1 = own ∧ q.2.2.1 = cc ∧ q.2.2.2.1 = j ∧ (q ∈ so_fd ∨ q ∈ so_fn) := by
  unfold so_fa at h
  rw [Bool.or_eq_true, List.any_eq_true, List.any_eq_true] at h
  rcases h with ⟨q, hq, h⟩ | ⟨q, hq, h⟩
  · obtain ⟨h1, h2, h3, h4, h5, h6, h7, h8⟩ := of_decide_eq_true h
    exact ⟨h2, h6, h7, h8, q, h1, h3, h4, h5, Or.inl (List.mem_filter.mp hq).1⟩
  · obtain ⟨h1, h2, h3, h4, h5, h6, h7, h8⟩ := of_decide_eq_true h
    exact ⟨h2, h6, h7, h8, q, h1, h3, h4, h5, Or.inr (List.mem_filter.mp hq).1⟩
theorem so_clat {k : Nat} (h0 : 0 < k) (h1 : k < 12) : so_cl[k - 1]? = some (sR k, sT k, sN k) := by
  unfold so_cl
  rw [List.getElem?_map, List.getElem?_range (by omega)]
  obtain ⟨k, rfl⟩ : ∃ z, k = z + 1 := ⟨k - 1, by omega⟩
  rfl
theorem so_fll : ∀ k, k < 12 → 0 < k → (so_fl k).length = sN k ∧ am_et k = 0 ∧ k ∈ so_ks := by decide +kernel
theorem so_fs_len {σ : am_S} {k i : Nat} (h0 : 0 < k) (h1 : k < 12) : (so_fs Z σ k i).length = sN k := by
  unfold so_fs
  rw [List.length_map, List.length_range]
  exact (so_fll k h1 h0).1
theorem so_fs_i {σ : am_S} {k i j : Nat} (hj : (so_fl k)[j]? = some true) : (so_fs Z σ k i)[j]? = some (.int (Int32.ofInt (σ.1 k i j))) := by
  unfold so_fs
  rw [List.getElem?_map, List.getElem?_range (List.getElem?_eq_some_iff.mp hj).1]
  show some (if _ then _ else _) = _
  rw [if_pos hj]
theorem so_fs_r {σ : am_S} {k i j : Nat} (hj : (so_fl k)[j]? = some false) : (so_fs Z σ k i)[j]? = some (.ref (Z.1 (am_ref σ k j i).1 (am_ref σ k j i).2)) := by
  unfold so_fs
  rw [List.getElem?_map, List.getElem?_range (List.getElem?_eq_some_iff.mp hj).1]
  show some (if _ then _ else _) = _
  rw [if_neg (by rw [hj]; decide)]
/-- a field read -/
theorem so_getf {H : Heap} {locs : List Loc} {cells slots : Nat} {lsv : Array Slot} {rest : List Value} {raw : am_I} {len k i j : Nat} {v : Value} (hX : so_X Z A Y p s m args meth c mi) (hd : decode (so_by mi) pc = .ok (raw, len)) (hf : so_fa (so_ow mi) raw len false k j = true)
    (hP : va_P Z.2.1 so_cl (so_w Z σ) H) (hi : i < so_num k) (hv : (so_fs Z σ k i)[j]? = some v) (kk : W p l e R s m args below meth c H locs cells slots Qt (F0 m (pc + len) lsv (v :: rest))) :
    W p l e R s m args below meth c H locs cells slots Qt (F0 m pc lsv (.ref (Z.1 k i) :: rest)) := by
  obtain ⟨hx, hb, hml, hr, hlk, hown, hts, hK, hN, -⟩ := hX
  obtain ⟨rfl, h0, h1, hj, q, rfl, q1, q2, q3, hq⟩ := so_fa_spec hf
  obtain ⟨n, hn⟩ := so_pos (so_fll k h1 h0).2.2 hi
  have he := so_get Z σ hn
  have hce : so_cell Z σ k i = .inr (k - 1, so_fs Z σ k i) := by unfold so_cell; rw [if_pos (so_fll k h1 h0).2.1]
  rw [hce] at he
  have hd' : decode (so_by mi) pc = .ok (.getfield q.2.1, 3) := hd
  rcases hq with hq | hq
  · have hl : (so_fw q).before args s = true := hts _ (so_wd_in (so_f1 q hq))
    unfold so_fw at hl
    rw [q1, q2, q3] at hl
    exact va_get hx hb (own := sR (so_ow mi)) (ref := sR k) (C := sR k) (T := sT k) (N := sN k) (index := q.2.1) hts (so_f3 k h1) hown hK hP n he (so_clat h0 h1) j hj hl (fun x hx => by rw [← (so_f10 k h1 j hj).1]; exact hx) hv hd' kk
  · have hl : (so_fnw q).before args s = true := va_Nw.use rfl (hN q hq)
    unfold so_fnw at hl
    rw [q1, q2, q3] at hl
    exact va_getN hx hb (own := sR (so_ow mi)) (ref := sR k) (C := sR k) (T := sT k) (N := sN k) (index := q.2.1) hts (so_f3 k h1) hown hK hP n he (so_clat h0 h1) j hj hl (fun x hx => by rw [← (so_f10 k h1 j hj).1]; exact hx) hv hd' kk
/-- a field written -/
theorem so_putf {H : Heap} {locs : List Loc} {cells slots : Nat} {lsv : Array Slot} {rest : List Value} {raw : am_I} {len k i j : Nat} {v : Value} {ty : FieldType} {τ : am_S} (hX : so_X Z A Y p s m args meth c mi) (hd : decode (so_by mi) pc = .ok (raw, len)) (hf : so_fa (so_ow mi) raw len true k j = true)
    (hP : va_P Z.2.1 so_cl (so_w Z σ) H) (hD : va_D A (so_w Z σ)) (hS : va_S A s.heap H locs) (hi : i < so_num k) (hfin : (sT k j).2.2.2 = false) (hty : parseFieldDescriptor (sT k j).2.2.1 = some ty) (hn : narrow ty v = v) (hfit : fits ty v = true)
    (hc : so_fs Z τ k i = (so_fs Z σ k i).set j v) (ho : ∀ k' i', i' < so_num k' → ¬ (k' = k ∧ i' = i) → so_cell Z τ k' i' = so_cell Z σ k' i')
    (kk : ∀ (H1 : Heap) (locs1 : List Loc), va_P Z.2.1 so_cl (so_w Z τ) H1 → va_D A (so_w Z τ) → va_S A s.heap H1 locs1 → W p l e R s m args below meth c H1 locs1 cells slots Qt (F0 m (pc + len) lsv rest)) :
    W p l e R s m args below meth c H locs cells slots Qt (F0 m pc lsv (v :: .ref (Z.1 k i) :: rest)) := by
  obtain ⟨hx, hb, hml, hr, hlk, hown, hts, hK, hN, -⟩ := hX
  obtain ⟨rfl, h0, h1, hj, q, rfl, q1, q2, q3, hq⟩ := so_fa_spec hf
  obtain ⟨n, hn'⟩ := so_pos (so_fll k h1 h0).2.2 hi
  have he := so_get Z σ hn'
  have hce : ∀ τ, so_cell Z τ k i = .inr (k - 1, so_fs Z τ k i) := fun τ => by unfold so_cell; rw [if_pos (so_fll k h1 h0).2.1]
  rw [hce] at he
  have hd' : decode (so_by mi) pc = .ok (.putfield q.2.1, 3) := hd
  have hset : (so_w Z σ).set n (Z.1 k i, .inr (k - 1, (so_fs Z σ k i).set j v)) = so_w Z τ := so_put Z hD hn' (by rw [hce, hc]) ho
  have hlen : j < (so_fs Z σ k i).length := by rw [so_fs_len h0 h1]; exact hj
  have kk' : ∀ (H1 : Heap) (locs1 : List Loc), va_P Z.2.1 so_cl ((so_w Z σ).set n (Z.1 k i, .inr (k - 1, (so_fs Z σ k i).set j v))) H1 → va_D A ((so_w Z σ).set n (Z.1 k i, .inr (k - 1, (so_fs Z σ k i).set j v))) → va_S A s.heap H1 locs1 → W p l e R s m args below meth c H1 locs1 cells slots Qt (F0 m (pc + 3) lsv rest) := by
    rw [hset]; exact kk
  have hpd : ∀ z, z < sN k → parseFieldDescriptor (sT k z).2.2.1 = some ((parseFieldDescriptor (sT k z).2.2.1).getD .int) := by
    intro z hz
    have := (so_f10 k h1 z hz).2
    cases hq : parseFieldDescriptor (sT k z).2.2.1 with
    | none => rw [hq] at this; cases this
    | some t => rfl
  rcases hq with hq | hq
  · have hl : (so_fw q).before args s = true := hts _ (so_wd_in (so_f1 q hq))
    unfold so_fw at hl
    rw [q1, q2, q3] at hl
    exact va_put hx hb (own := sR (so_ow mi)) (ref := sR k) (C := sR k) (T := sT k) (N := sN k) (index := q.2.1) hts (so_f3 k h1) (fun z => (parseFieldDescriptor (sT k z).2.2.1).getD .int) hpd (so_f11 k h1) hown hK hP hD hS n he (so_clat h0 h1) j hj hl (fun x hx => by rw [← (so_f10 k h1 j hj).1]; exact hx) hfin hty hn hfit hlen hd' kk'
  · have hl : (so_fnw q).before args s = true := va_Nw.use rfl (hN q hq)
    unfold so_fnw at hl
    rw [q1, q2, q3] at hl
    exact va_putN hx hb (own := sR (so_ow mi)) (ref := sR k) (C := sR k) (T := sT k) (N := sN k) (index := q.2.1) hts (so_f3 k h1) (fun z => (parseFieldDescriptor (sT k z).2.2.1).getD .int) hpd (so_f11 k h1) hown hK hP hD hS n he (so_clat h0 h1) j hj hl (fun x hx => by rw [← (so_f10 k h1 j hj).1]; exact hx) hfin hty hn hfit hlen hd' kk'
end So1
