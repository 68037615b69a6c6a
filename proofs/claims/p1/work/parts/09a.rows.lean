/-! Constructors: rows for an object at the head of its world -/
/-- what constructors lean on -/
def kn_w : List Cond := [.methodLinkNest "ProofWorkbench" 11 ⟨"ProofWorkbench$FormulaTable", "<init>", "()V"⟩ "ProofWorkbench", .methodLinkNest "ProofWorkbench" 34 ⟨"ProofWorkbench$Sequent", "<init>", "()V"⟩ "ProofWorkbench", .methodLinkNest "ProofWorkbench$Proof" 25 ⟨"ProofWorkbench$Node", "<init>", "()V"⟩ "ProofWorkbench", .methodLinkNest "ProofWorkbench$Node" 11 ⟨"ProofWorkbench$Sequent", "<init>", "()V"⟩ "ProofWorkbench", .methodLinkNest "ProofWorkbench$Finder" 11 ⟨"ProofWorkbench$Hopeless", "<init>", "()V"⟩ "ProofWorkbench", .methodLinkNest "ProofWorkbench$Stepper" 11 ⟨"ProofWorkbench$Sequent", "<init>", "()V"⟩ "ProofWorkbench"]
def kn_G (Z : so_Z) (U : State) : Prop := va_K Z.2.1 so_cl (so_tys Z) U ∧ (∀ w ∈ kn_w, va_Nw w U) ∧ va_AO "ProofWorkbench$Proof" U ∧ va_AO "ProofWorkbench$Node" U
theorem kn_form {w : Cond} (h : w ∈ kn_w) : ∃ a i x, w = .methodLinkNest a i x "ProofWorkbench" := by
  unfold kn_w at h
  simp only [List.mem_cons, List.not_mem_nil, or_false] at h
  rcases h with h | h | h | h | h | h <;> exact ⟨_, _, _, h⟩
theorem kn_warm {Z : so_Z} {s U : State} (hW : s.WarmedH U.vm) (h : kn_G Z s) : kn_G Z U := by
  refine ⟨va_K.moved hW.alike h.1, fun w hw => ?_, h.2.2.1.moved hW.alike, h.2.2.2.moved hW.alike⟩
  obtain ⟨a, i, x, rfl⟩ := kn_form hw
  exact va_Nw.warmM hW (h.2.1 _ hw)
theorem kn_call {Z : so_Z} {U : State} {g : JFrame} {mk : MethodId} {a : Array Value} (h : kn_G Z U) : kn_G Z (U.calling g mk a) := by
  refine ⟨va_K.moved (u := U) (U := U.calling g mk a) (Vm.Alike.refl U.vm) h.1, fun w hw => ?_, va_AO.moved (u := U) (U := U.calling g mk a) (Vm.Alike.refl U.vm) h.2.2.1, va_AO.moved (u := U) (U := U.calling g mk a) (Vm.Alike.refl U.vm) h.2.2.2⟩
  obtain ⟨b, i, x, rfl⟩ := kn_form hw
  exact va_Nw.same (u := U) rfl rfl (h.2.1 _ hw)
/-- a constructor's contract: from the new object e at q to the world w -/
def kc_pre (Z : so_Z) (q : Nat) (e : va_E) (sz : Nat) (U : State) : Prop := U.heap.size = sz ∧ va_P Z.2.1 so_cl [(q, e)] U.heap ∧ va_D (fun _ => True) [(q, e)] ∧ kn_G Z U
def kc_B (Z : so_Z) (q : Nat) (e : va_E) (sz : Nat) (w : va_W) (t : State) : Prop := va_P Z.2.1 so_cl w t.heap ∧ va_D (va_A [(q, e)] sz) w
def KC (l : Launch) (Z : so_Z) (y : MethodName) (ws : List Cond) (rm : Room) (mc ms : Nat) (As : List Value) (e : va_E) (post : Nat → va_W → Prop) : Prop :=
  ∀ q sz : Nat, Met l y ws rm (va_Pc (.ref q :: As) (kc_pre Z q e sz)) (va_Qv (fun w : va_W => post q w) (kc_B Z q e sz) (va_A [(q, e)] sz)) mc ms (va_A [(q, e)] sz)
theorem kc_A {q : Nat} {e : va_E} {sz q' : Nat} (h : va_A [(q, e)] sz q') : q' = q ∨ sz ≤ q' := by
  rcases h with ⟨k, e', hk⟩ | h
  · have hz : k < 1 := (List.getElem?_eq_some_iff.mp hk).1
    rw [show k = 0 by omega] at hk
    cases hk
    exact Or.inl rfl
  · exact Or.inr h
theorem kc_preS {Z : so_Z} {s : State} {H : Heap} {q : Nat} {e : va_E} {X : va_W} {A : Nat → Prop} {As : List Value} (hG : kn_G Z s) (hP : va_P Z.2.1 so_cl (X ++ [(q, e)]) H) : PreS s H (va_Pc (.ref q :: As) (kc_pre Z q e H.size)) (.ref q :: As) := by
  refine ⟨fun a U g mk h => ⟨h.1, h.2.1, h.2.2.1, h.2.2.2.1, kn_call h.2.2.2.2⟩, fun U hU hW => ⟨rfl, by rw [hU], ?_, ?_, kn_warm hW hG⟩⟩
  · rw [hU]
    intro k x hk
    have hz : k < 1 := (List.getElem?_eq_some_iff.mp hk).1
    rw [show k = 0 by omega] at hk
    cases hk
    exact hP X.length _ (by rw [List.getElem?_append_right (Nat.le_refl _), Nat.sub_self]; rfl)
  · refine ⟨fun i j p q' hi hj _ => ?_, fun _ _ _ => trivial⟩
    have h1 : i < 1 := (List.getElem?_eq_some_iff.mp hi).1
    have h2 : j < 1 := (List.getElem?_eq_some_iff.mp hj).1
    omega
theorem kc_join {Z : so_Z} {A : Nat → Prop} {X w : va_W} {q : Nat} {e : va_E} {H H1 : Heap} (hP : va_P Z.2.1 so_cl (X ++ [(q, e)]) H) (hD : va_D A (X ++ [(q, e)])) (hA : ∀ q', H.size ≤ q' → A q') (hk : ∀ q' : Nat, q' < H.size → ¬ va_A [(q, e)] H.size q' → H1[q']? = H[q']?) (hw : va_P Z.2.1 so_cl w H1) (hwD : va_D (va_A [(q, e)] H.size) w) : va_P Z.2.1 so_cl (X ++ w) H1 ∧ va_D A (X ++ w) := by
  have hq : (X ++ [(q, e)])[X.length]? = some (q, e) := by rw [List.getElem?_append_right (Nat.le_refl _), Nat.sub_self]; rfl
  have hX : ∀ (k : Nat) (x : Nat × va_E), X[k]? = some x → (X ++ [(q, e)])[k]? = some x := fun k x hx => by
    rw [List.getElem?_append_left (List.getElem?_eq_some_iff.mp hx).1]; exact hx
  have hne : ∀ (k : Nat) (x : Nat × va_E), X[k]? = some x → x.1 ≠ q ∧ x.1 < H.size := fun k x hx => by
    refine ⟨fun h => ?_, (hP k x (hX k x hx)).lt⟩
    have h1 := hD.1 k X.length x (q, e) (hX k x hx) hq h
    have h2 := (List.getElem?_eq_some_iff.mp hx).1
    omega
  have hna : ∀ (k : Nat) (x : Nat × va_E), X[k]? = some x → ¬ va_A [(q, e)] H.size x.1 := fun k x hx h => by
    have h1 := hne k x hx
    rcases kc_A h with h | h
    · exact h1.1 h
    · omega
  refine ⟨va_P.app (fun k x hx => ?_) hw, va_D.app ⟨fun i j a b hi hj hab => hD.1 i j a b (hX i a hi) (hX j b hj) hab, fun k x hx => hD.2 k x (hX k x hx)⟩ (hwD.weaken (fun k x _ h => ?_)) (fun i j a b ha hb hab => hna i a ha (by rw [hab]; exact hwD.2 j b hb))⟩
  · exact (hP k x (hX k x hx)).kept (hk x.1 (hne k x hx).2 (hna k x hx))
  · rcases kc_A h with h | h
    · rw [h]
      exact hD.2 X.length (q, e) hq
    · exact hA _ h
section KRows
variable {Z : so_Z} {A : Nat → Prop} {p : Program} {l : Launch} {e : Env} {R : Room} {s : State} {m : MethodId} {args : Array Value} {below : List Frame} {meth : Method} {c : Code} {H : Heap} {locs : List Loc} {cells slots : Nat} {Q : State → Prop} {cc : ByteArray} {pc : Nat} {ls : Array Slot} {rest : List Value} {Ts : List Cond} {Y : va_W} {fs : List Value} {h0 k : Nat}
theorem kr_call {mc ms q : Nat} {e0 : va_E} {st0 : List Value} {a : Array Value} {post : Nat → va_W → Prop} {X : va_W} (hr : va_Run p l e R s m args below meth c H locs cells slots mc ms (F0 m pc ls st0) rest (va_Qv (fun w : va_W => post q w) (kc_B Z q e0 H.size) (va_A [(q, e0)] H.size) a) (va_A [(q, e0)] H.size))
    (hP : va_P Z.2.1 so_cl (X ++ [(q, e0)]) H) (hD : va_D A (X ++ [(q, e0)])) (hS : va_S A s.heap H locs) (hA : ∀ q', s.heap.size ≤ q' → A q')
    (kk : ∀ (w : va_W) (H1 : Heap) (locs1 : List Loc), post q w → va_P Z.2.1 so_cl (X ++ w) H1 → va_D A (X ++ w) → va_S A s.heap H1 locs1 → W p l e R s m args below meth c H1 locs1 (cells + mc) (slots + ms) Q (F0 m (pc + 3) ls rest)) : W p l e R s m args below meth c H locs cells slots Q (F0 m pc ls st0) := by
  have hq : (X ++ [(q, e0)])[X.length]? = some (q, e0) := by rw [List.getElem?_append_right (Nat.le_refl _), Nat.sub_self]; rfl
  have hAA : ∀ q', va_A [(q, e0)] H.size q' → A q' := fun q' h => by
    rcases kc_A h with h | h
    · rw [h]
      exact hD.2 X.length (q, e0) hq
    · exact hA _ (Nat.le_trans hS.1 h)
  refine va_callv hr hS (fun q' _ h => hAA q' h) hAA (fun w t H1 locs1 ht hvm hpost hB hz hk hS1 => ?_)
  obtain ⟨hB1, hB2⟩ := hB
  rw [ht] at hB1
  obtain ⟨hP1, hD1⟩ := kc_join hP hD (fun q' h => hA _ (Nat.le_trans hS.1 h)) hk hB1 hB2
  exact kk w H1 locs1 hpost hP1 hD1 hS1
theorem kr_put {j idx : Nat} {ty : FieldType} {v : Value} (hx : p.tables.exec = Jvm.exec) (hb : c.code = cc) (hts : ∀ w ∈ Ts, w.before args s = true) (hsub : ∀ w ∈ so_tb, w ∈ Ts) (hk0 : 0 < k) (hk : k < 12) (hown : s.vm.findClass (sR k) = some m.cls) (hin : meth.name = "<init>") (hK : va_K Z.2.1 so_cl (so_tys Z) s)
    (hP : va_P Z.2.1 so_cl ((h0, .inr (k - 1, fs)) :: Y) H) (hD : va_D A ((h0, .inr (k - 1, fs)) :: Y)) (hS : va_S A s.heap H locs) (hj : j < sN k) (hlink : so_in1 (.fieldLink (sR k) idx (sR k) (sT k j).2.1 (sT k j).2.2.1) = true) (hty : parseFieldDescriptor (sT k j).2.2.1 = some ty) (hn : narrow ty v = v) (hfit : fits ty v = true) (hl : j < fs.length)
    (hdg : decode cc pc = .ok (.putfield idx, 3)) (kk : ∀ (H1 : Heap) (locs1 : List Loc), va_P Z.2.1 so_cl ((h0, .inr (k - 1, fs.set j v)) :: Y) H1 → va_D A ((h0, .inr (k - 1, fs.set j v)) :: Y) → va_S A s.heap H1 locs1 → W p l e R s m args below meth c H1 locs1 cells slots Q (F0 m (pc + 3) ls rest)) : W p l e R s m args below meth c H locs cells slots Q (F0 m pc ls (v :: .ref h0 :: rest)) := by
  have hpd : ∀ z, z < sN k → parseFieldDescriptor (sT k z).2.2.1 = some ((parseFieldDescriptor (sT k z).2.2.1).getD .int) := by
    intro z hz
    have h1 := (so_f10 k hk z hz).2
    cases hq : parseFieldDescriptor (sT k z).2.2.1 with
    | none => rw [hq] at h1; cases h1
    | some x => rfl
  have e1 := (so_f10 k hk j hj).1
  have hlk := hts _ (hsub _ (so_in1_in hlink))
  by_cases hf : (sT k j).2.2.2 = true
  · exact va_putF hx hb (own := sR k) (ref := sR k) (C := sR k) (T := sT k) (N := sN k) (index := idx) hts (fun w hw => hsub w (so_f3 k hk w hw)) (fun z => (parseFieldDescriptor (sT k z).2.2.1).getD .int) hpd (so_f11 k hk) hown hK hP hD hS 0 rfl (so_clat hk0 hk) j hj hlk (fun x hx => by rw [← e1]; exact hx) hf hin e1 hty hn hfit hl hdg kk
  · exact va_put hx hb (own := sR k) (ref := sR k) (C := sR k) (T := sT k) (N := sN k) (index := idx) hts (fun w hw => hsub w (so_f3 k hk w hw)) (fun z => (parseFieldDescriptor (sT k z).2.2.1).getD .int) hpd (so_f11 k hk) hown hK hP hD hS 0 rfl (so_clat hk0 hk) j hj hlk (fun x hx => by rw [← e1]; exact hx) (by simpa using hf) hty hn hfit hl hdg kk
theorem kr_get {j idx : Nat} {v : Value} (hx : p.tables.exec = Jvm.exec) (hb : c.code = cc) (hts : ∀ w ∈ Ts, w.before args s = true) (hsub : ∀ w ∈ so_tb, w ∈ Ts) (hk0 : 0 < k) (hk : k < 12) (hown : s.vm.findClass (sR k) = some m.cls) (hK : va_K Z.2.1 so_cl (so_tys Z) s)
    (hP : va_P Z.2.1 so_cl ((h0, .inr (k - 1, fs)) :: Y) H) (hj : j < sN k) (hlink : so_in1 (.fieldLink (sR k) idx (sR k) (sT k j).2.1 (sT k j).2.2.1) = true) (hv : fs[j]? = some v) (hdg : decode cc pc = .ok (.getfield idx, 3))
    (kk : W p l e R s m args below meth c H locs cells slots Q (F0 m (pc + 3) ls (v :: rest))) : W p l e R s m args below meth c H locs cells slots Q (F0 m pc ls (.ref h0 :: rest)) :=
  va_get hx hb (own := sR k) (ref := sR k) (C := sR k) (T := sT k) (N := sN k) (index := idx) hts (fun w hw => hsub w (so_f3 k hk w hw)) hown hK hP 0 rfl (so_clat hk0 hk) j hj (hts _ (hsub _ (so_in1_in hlink))) (fun x hx => by rw [← (so_f10 k hk j hj).1]; exact hx) hv hdg kk
theorem kr_new {k' idx N : Nat} {fs' : List Value} {ws : va_W} (hx : p.tables.exec = Jvm.exec) (hb : c.code = cc) (hts : ∀ w ∈ Ts, w.before args s = true) (hsub : ∀ w ∈ so_tb, w ∈ Ts) (hk0 : 0 < k') (hk' : k' < 12) (hown : s.vm.findClass (sR k) = some m.cls) (hK : va_K Z.2.1 so_cl (so_tys Z) s)
    (hP : va_P Z.2.1 so_cl ws H) (hD : va_D A ws) (hS : va_S A s.heap H locs) (hA : ∀ q', s.heap.size ≤ q' → A q') (hcl : so_in1 (.classLink (sR k) idx (sR k')) = true) (hinst : so_in1 (.instantiable (sR k') N) = true) (hNN : sN k' = N) (hfs : ∀ j, j < N → defaultValue ((parseFieldDescriptor (sT k' j).2.2.1).getD .int) = vp_V fs' j) (hc1 : cells + 1 ≤ R.cells) (hs1 : slots + N ≤ R.slots)
    (hdg : decode cc pc = .ok (.new idx, 3)) (kk : ∀ (q : Nat) (H1 : Heap), va_P Z.2.1 so_cl (ws ++ [(q, .inr (k' - 1, fs'))]) H1 → va_D A (ws ++ [(q, .inr (k' - 1, fs'))]) → va_S A s.heap H1 locs → W p l e R s m args below meth c H1 locs (cells + 1) (slots + N) Q (F0 m (pc + 3) ls (.ref q :: rest))) : W p l e R s m args below meth c H locs cells slots Q (F0 m pc ls rest) := by
  subst hNN
  have hpd : ∀ z, z < sN k' → parseFieldDescriptor (sT k' z).2.2.1 = some ((parseFieldDescriptor (sT k' z).2.2.1).getD .int) := by
    intro z hz
    have h1 := (so_f10 k' hk' z hz).2
    cases hq : parseFieldDescriptor (sT k' z).2.2.1 with
    | none => rw [hq] at h1; cases h1
    | some x => rfl
  exact va_new (ci := k' - 1) (fs := fs') (C := sR k') (T := sT k') (N := sN k') hx hb hts (fun w hw => hsub w (so_f3 k' hk' w hw)) (fun z => (parseFieldDescriptor (sT k' z).2.2.1).getD .int) hpd hown (hts _ (hsub _ (so_in1_in hcl))) (hts _ (hsub _ (so_in1_in hinst))) (hts _ (hsub _ (so_f8 k' hk'))) hK hP hD hS hA (so_clat hk0 hk') hfs hc1 hs1 hdg kk
theorem kr_newa {atype : ArrayType} {t N t0 : Nat} {n : Int32} {a0 : vp_A} {ws : va_W} {ty : FieldType} (hx : p.tables.exec = Jvm.exec) (hb : c.code = cc) (hts : ∀ w ∈ Ts, w.before args s = true) (hsub : ∀ w ∈ so_tb, w ∈ Ts) (hty : newarray.typeOf atype = ty) (harr : so_in1 (.arrayClass (newarray.typeOf atype)) = true) (hK : va_K Z.2.1 so_cl (so_tys Z) s)
    (hP : va_P Z.2.1 so_cl ws H) (hD : va_D A ws) (hS : va_S A s.heap H locs) (hA : ∀ q', s.heap.size ≤ q' → A q') (ht0 : (so_tys Z)[t0]? = some (Z.2.2 t, ty)) (hra : ∀ cA, va_RA s cA ty = (s.vm.findClass ("[" ++ ty.toString) = some cA)) (ha : ∀ cA : ClassId, vp_cell cA a0 = arrV cA N (fun _ => defaultValue ty)) (hn : ¬ n < 0) (hN : n.toNatClampNeg = N) (hbytes : N * componentBytes ty ≤ 536870912) (hc1 : cells + 1 ≤ R.cells) (hs1 : slots + N ≤ R.slots)
    (hdg : decode cc pc = .ok (.newarray atype, 2)) (kk : ∀ (q : Nat) (H1 : Heap), va_P Z.2.1 so_cl (ws ++ [(q, .inl (Z.2.2 t, a0))]) H1 → va_D A (ws ++ [(q, .inl (Z.2.2 t, a0))]) → va_S A s.heap H1 locs → W p l e R s m args below meth c H1 locs (cells + 1) (slots + N) Q (F0 m (pc + 2) ls (.ref q :: rest))) : W p l e R s m args below meth c H locs cells slots Q (F0 m pc ls (.int n :: rest)) := by
  refine va_newa hx hb (hts _ (hsub _ (so_in1_in harr))) hty hK hP hD hS hA ha hn hN hbytes hc1 hs1 hdg (fun q cA H1 hK1 hP1 hD1 hS1 => ?_)
  have r1 : va_RA s cA ty := (hK1.2 (so_tys Z).length (cA, ty) (by rw [List.getElem?_append_right (Nat.le_refl _), Nat.sub_self]; rfl)).2
  have r2 : va_RA s (Z.2.2 t) ty := (hK.2 t0 _ ht0).2
  rw [hra] at r1 r2
  have e1 : cA = Z.2.2 t := Option.some.inj (r1.symm.trans r2)
  subst e1
  exact kk q H1 hP1 hD1 hS1
theorem kr_newq {t N t0 idx : Nat} {C : String} {n : Int32} {ws : va_W} (hx : p.tables.exec = Jvm.exec) (hb : c.code = cc) (hts : ∀ w ∈ Ts, w.before args s = true) (hsub : ∀ w ∈ so_tb, w ∈ Ts) (hown : s.vm.findClass (sR k) = some m.cls) (hcl : so_in1 (.classLink (sR k) idx C) = true) (hover : va_AO C s) (hK : va_K Z.2.1 so_cl (so_tys Z) s)
    (hP : va_P Z.2.1 so_cl ws H) (hD : va_D A ws) (hS : va_S A s.heap H locs) (hA : ∀ q', s.heap.size ≤ q' → A q') (ht0 : (so_tys Z)[t0]? = some (Z.2.2 t, .object C)) (hn : ¬ n < 0) (hN : n.toNatClampNeg = N) (hbytes : N * 4 ≤ 536870912) (hc1 : cells + 1 ≤ R.cells) (hs1 : slots + N ≤ R.slots)
    (hdg : decode cc pc = .ok (.anewarray idx, 3)) (kk : ∀ (q : Nat) (H1 : Heap), va_P Z.2.1 so_cl (ws ++ [(q, .inl (Z.2.2 t, N, .inr (.inr (.inr (.inr (fun _ => none))))))]) H1 → va_D A (ws ++ [(q, .inl (Z.2.2 t, N, .inr (.inr (.inr (.inr (fun _ => none))))))]) → va_S A s.heap H1 locs → W p l e R s m args below meth c H1 locs (cells + 1) (slots + N) Q (F0 m (pc + 3) ls (.ref q :: rest))) : W p l e R s m args below meth c H locs cells slots Q (F0 m pc ls (.int n :: rest)) := by
  refine va_newq hx hb hown (hts _ (hsub _ (so_in1_in hcl))) hover hK hP hD hS hA hn hN hbytes hc1 hs1 hdg (fun q cA H1 hK1 hP1 hD1 hS1 => ?_)
  have r1 : va_RA s cA (.object C) := (hK1.2 (so_tys Z).length (cA, .object C) (by rw [List.getElem?_append_right (Nat.le_refl _), Nat.sub_self]; rfl)).2
  have r2 : va_RA s (Z.2.2 t) (.object C) := (hK.2 t0 _ ht0).2
  obtain ⟨-, -, -, -, -, q1⟩ := r1
  obtain ⟨-, -, -, -, -, q2⟩ := r2
  have e1 : cA = Z.2.2 t := Option.some.inj (q1.symm.trans q2)
  subst e1
  exact kk q H1 hP1 hD1 hS1
end KRows
