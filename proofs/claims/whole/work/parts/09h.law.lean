/-! The law from its entry to its loop (written by our program) -/
theorem ld_0 : decode code 0 = .ok (.new 8, 3) := by decide +kernel
theorem ld_3 : decode code 3 = .ok (.dup, 1) := by decide +kernel
theorem ld_4 : decode code 4 = .ok (.invokespecial 86, 3) := by decide +kernel
theorem ld_7 : decode code 7 = .ok (.astore_n 1, 1) := by decide +kernel
theorem ld_8 : decode code 8 = .ok (.new 87, 3) := by decide +kernel
theorem ld_11 : decode code 11 = .ok (.dup, 1) := by decide +kernel
theorem ld_12 : decode code 12 = .ok (.invokespecial 89, 3) := by decide +kernel
theorem ld_15 : decode code 15 = .ok (.astore_n 2, 1) := by decide +kernel
theorem ld_16 : decode code 16 = .ok (.iconst 1, 1) := by decide +kernel
theorem ld_17 : decode code 17 = .ok (.newarray .long, 2) := by decide +kernel
theorem ld_19 : decode code 19 = .ok (.astore_n 3, 1) := by decide +kernel
def ld_l : List Cond := [.classLink (sR 0) 8 (sR 1), .instantiable (sR 1) 9, .methodLink (sR 0) 86 ky_pw, .instanceMethod ky_pw, .code ky_pw prog_1_method_1_code 2 none, .classLink (sR 0) 87 (sR 11), .instantiable (sR 11) 45, .methodLink (sR 0) 89 ky_mo, .instanceMethod ky_mo, .code ky_mo prog_12_method_1_code 2 none, .arrayClass .long]
set_option maxRecDepth 100000 in
theorem ld_lok : ld_l.all so_in1 = true := by decide +kernel
theorem ld_at {w : Cond} (i : Nat) (h : ld_l[i]? = some w) : so_in1 w = true := List.all_eq_true.mp ld_lok w (List.mem_of_getElem? h)
theorem ld_forget {s t : State} {L : List Loc} {k n : Nat} (h : s.sameButNew t L k n) (hL : ∀ z ∈ L, s.heap.size ≤ z.base) : s.sameButNew t [] k n := by
  obtain ⟨h1, h2, h3, h4, h5, h6⟩ := h
  refine ⟨h1, h2, h3, h4, h5, fun a c hc => ?_⟩
  obtain ⟨c', g1, g2, g3, g4⟩ := h6 a c hc
  refine ⟨c', g1, g2, g3, fun i _ => g4 i (fun hm => ?_)⟩
  have e1 := hL _ hm
  have e2 := (Array.getElem?_eq_some_iff.mp hc).1
  exact absurd e2 (Nat.not_lt.mpr e1)
set_option maxHeartbeats 16000000 in
set_option maxRecDepth 100000 in
theorem law_start {p : Program} {e : Env} {s : State} {m : MethodId} {below : List Frame} {meth : Method} {c : Code} (l : Launch) (hst : l.stackTraces = false) {b L : Nat} {xs : Nat → Int32} (hL : L < 2147483648) (C0 : lw_At p s m meth c b L xs) (htab : c.exceptionTable.toList.map (fun h => (h.startPc, h.endPc, h.handlerPc, h.catchType)) = [])
    (hrun : am_R 160 3391714 20 [am_r 71 0, am_r 1 0, am_r 11 0, am_r 70 0, am_j, am_j, am_j] [] (kz_s0 L xs 512) (fun o _ => o = .inl (some (.inl 1)))) : W p l e room_1 s m #[Value.ref b] below meth c s.heap [] 0 0 (lw_Z below #[Value.ref b] s) (entryFrame m ([Value.ref b] : List Value).toArray 7) := by
  obtain ⟨hx, hb, hr, hml, hown, hts, hX, hbl, hlk, hgv⟩ := C0
  have htb : ∀ w ∈ so_tb, w.before #[Value.ref b] s = true := fun w hw => hts w (so_tb_in hw)
  have hself : ∀ w ∈ so_tb, w ∈ so_tb := fun _ h => h
  have hown : s.vm.findClass (sR 0) = some m.cls := hown
  obtain ⟨D, ca, hKf⟩ := st_K hts
  obtain ⟨A, hAe⟩ : ∃ A : Nat → Prop, A = fun q => s.heap.size ≤ q := ⟨_, rfl⟩
  have hA0 : ∀ a : Nat, a < s.heap.size → ¬ A a := fun a h => by rw [hAe]; exact Nat.not_le.mpr h
  have hA : ∀ q : Nat, s.heap.size ≤ q → A q := fun q h => by rw [hAe]; exact h
  obtain ⟨adK, adV, hS1, hS2⟩ := st_str (A := A) hgv hA0
  obtain ⟨Z, hZ⟩ : ∃ Z : so_Z, Z = (fun _ _ => 0, D, ca) := ⟨_, rfl⟩
  have hK : va_K Z.2.1 so_cl (so_tys Z) s := by rw [hZ]; exact hKf _
  have hG : kn_G Z s := st_G hts hK
  have hP : va_P Z.2.1 so_cl [] s.heap := fun k q h => by cases h
  have hD : va_D A [] := ⟨fun i j a b h => (by cases h), fun k q h => by cases h⟩
  have hS : va_S A s.heap s.heap [] := va_S.rf
  have hl := lv_entry ([.ref b]) (n := 7) (Nat.le_of_ble_eq_true rfl)
  rw [lg_entry_eq]
  generalize (lg_sl ([.ref b]) ++ List.replicate (7 - (lg_sl ([.ref b])).length) Slot.unset).toArray = ls at hl ⊢
  have hl : lv_has ls 7 [(0, .ref b)] := hl
  refine kr_new (k := 0) (k' := 1) (idx := 8) (N := 9) (fs' := [.null, .null, .null, .null, .null, .null, .null, .null, .null]) hx hb htb hself (by decide) (by decide) hown hK hP hD hS hA (ld_at 0 rfl) (ld_at 1 rfl) rfl (by decide +kernel) (Nat.le_of_ble_eq_true rfl) (Nat.le_of_ble_eq_true rfl) ld_0 (fun x H hP hD hS => ?_)
  have hP : va_P Z.2.1 so_cl ([] ++ [(x, .inr (0, [.null, .null, .null, .null, .null, .null, .null, .null, .null]))]) H := hP
  have hD : va_D A ([] ++ [(x, .inr (0, [.null, .null, .null, .null, .null, .null, .null, .null, .null]))]) := hD
  refine lv_dup hx hb ld_3 rfl ?_
  refine kr_call (post := kc_pw_post Z) (e0 := .inr (0, [.null, .null, .null, .null, .null, .null, .null, .null, .null])) (mc := 2158) (ms := 20672) (q := x) (X := []) (va_runI (rm := ({ frames := 5, cells := 2158, slots := 20672, locals := 200 })) (mc := 2158) (ms := 20672) (As := []) (rest := [.ref x]) ⟨hx, hb, hml, hown, htb⟩ (kc_pw l Z x H.size) ⟨callB_of 0 htb (jk_good hself (ld_at 4 rfl)) rfl rfl rfl (htb _ (so_f8 1 (by decide))) (htb _ (so_in1_in (ld_at 2 rfl))) ⟨by decide, by decide, by decide +kernel⟩ ⟨Nat.le_of_ble_eq_true rfl, Nat.le_of_ble_eq_true rfl⟩, rfl, htb _ (so_in1_in (ld_at 3 rfl))⟩ (kc_preS (X := []) (A := A) hG hP) rfl rfl hl.1 rfl (lv_room (Nat.le_of_ble_eq_true rfl)) ld_4 ⟨Nat.le_of_ble_eq_true rfl, Nat.le_of_ble_eq_true rfl⟩) hP hD hS hA (fun w1 H locs hw1 hP hD hS => ?_)
  have hP : va_P Z.2.1 so_cl w1 H := hP
  have hD : va_D A w1 := hD
  refine W.widen (k := 2159) (n := 20681) (Nat.le_of_ble_eq_true rfl) (Nat.le_of_ble_eq_true rfl) ?_
  refine lv_astore_n (i := 1) (lv' := [(1, .ref x), (0, .ref b)]) hx hb ld_7 rfl hl (by decide) rfl (fun ls hl => ?_)
  refine kr_new (k := 0) (k' := 11) (idx := 87) (N := 45) (fs' := [.int 0, .int 0, .null, .null, .null, .null, .int 0, .null, .null, .null, .null, .null, .int 0, .int 0, .null, .null, .int 0, .null, .null, .null, .null, .null, .null, .null, .null, .null, .null, .null, .int 0, .null, .null, .null, .int 0, .null, .int 0, .null, .null, .null, .null, .null, .null, .null, .null, .null, .null]) hx hb htb hself (by decide) (by decide) hown hK hP hD hS hA (ld_at 5 rfl) (ld_at 6 rfl) rfl (by decide +kernel) (Nat.le_of_ble_eq_true rfl) (Nat.le_of_ble_eq_true rfl) ld_8 (fun y H hP hD hS => ?_)
  have hP : va_P Z.2.1 so_cl (w1 ++ [(y, .inr (10, [.int 0, .int 0, .null, .null, .null, .null, .int 0, .null, .null, .null, .null, .null, .int 0, .int 0, .null, .null, .int 0, .null, .null, .null, .null, .null, .null, .null, .null, .null, .null, .null, .int 0, .null, .null, .null, .int 0, .null, .int 0, .null, .null, .null, .null, .null, .null, .null, .null, .null, .null]))]) H := hP
  have hD : va_D A (w1 ++ [(y, .inr (10, [.int 0, .int 0, .null, .null, .null, .null, .int 0, .null, .null, .null, .null, .null, .int 0, .int 0, .null, .null, .int 0, .null, .null, .null, .null, .null, .null, .null, .null, .null, .null, .null, .int 0, .null, .null, .null, .int 0, .null, .int 0, .null, .null, .null, .null, .null, .null, .null, .null, .null, .null]))]) := hD
  refine lv_dup hx hb ld_11 rfl ?_
  refine kr_call (post := kc_mo_post Z) (e0 := .inr (10, [.int 0, .int 0, .null, .null, .null, .null, .int 0, .null, .null, .null, .null, .null, .int 0, .int 0, .null, .null, .int 0, .null, .null, .null, .null, .null, .null, .null, .null, .null, .null, .null, .int 0, .null, .null, .null, .int 0, .null, .int 0, .null, .null, .null, .null, .null, .null, .null, .null, .null, .null])) (mc := 36) (ms := 33305) (q := y) (X := w1) (va_runI (rm := ({ frames := 1, cells := 36, slots := 33305, locals := 20 })) (mc := 36) (ms := 33305) (As := []) (rest := [.ref y]) ⟨hx, hb, hml, hown, htb⟩ (kc_mo l Z y H.size) ⟨callB_of 0 htb (jk_good hself (ld_at 9 rfl)) rfl rfl rfl (htb _ (so_f8 11 (by decide))) (htb _ (so_in1_in (ld_at 7 rfl))) ⟨by decide, by decide, by decide +kernel⟩ ⟨Nat.le_of_ble_eq_true rfl, Nat.le_of_ble_eq_true rfl⟩, rfl, htb _ (so_in1_in (ld_at 8 rfl))⟩ (kc_preS (X := w1) (A := A) hG hP) rfl rfl hl.1 rfl (lv_room (Nat.le_of_ble_eq_true rfl)) ld_12 ⟨Nat.le_of_ble_eq_true rfl, Nat.le_of_ble_eq_true rfl⟩) hP hD hS hA (fun w2 H locs hw2 hP hD hS => ?_)
  refine W.widen (k := 2196) (n := 54031) (Nat.le_of_ble_eq_true rfl) (Nat.le_of_ble_eq_true rfl) ?_
  refine lv_astore_n (i := 2) (lv' := [(2, .ref y), (1, .ref x), (0, .ref b)]) hx hb ld_15 rfl hl (by decide) rfl (fun ls hl => ?_)
  refine lv_iconst (v := 1) hx hb ld_16 (by decide) ?_
  refine kr_newa (atype := .long) (t := 4) (t0 := 3) (N := 1) (a0 := (1, .inr (.inl (fun _ => 0)))) hx hb htb hself rfl (ld_at 10 rfl) hK hP hD hS hA rfl (fun _ => rfl) (fun _ => rfl) (by decide) (by decide) (Nat.le_of_ble_eq_true rfl) (Nat.le_of_ble_eq_true rfl) (Nat.le_of_ble_eq_true rfl) ld_17 (fun ou H hP hD hS => ?_)
  refine lv_astore_n (i := 3) (lv' := [(3, .ref ou), (2, .ref y), (1, .ref x), (0, .ref b)]) hx hb ld_19 rfl hl (by decide) rfl (fun ls hl => ?_)
  refine W.widen (k := 2197) (n := 54032) (Nat.le_of_ble_eq_true rfl) (Nat.le_of_ble_eq_true rfl) ?_
  -- the world is the first state's
  obtain ⟨q1, q2, q3, q4, q5, q6, q7, q8, q9, q10, q11, q12, q13, q14, q15, q16, q17, q18, q20, q21, q22, q23, q25, q27, q29, q31, w19, w24, w26, w28, w30, w32, h19, ⟨sa, sb, f5, t6, wf, wt, hf5, ht6, e24⟩, h26, h28, h30, h32, ew1⟩ := hw1
  obtain ⟨m1, m2, m3, m4, m5, m6, m7, m8, m9, m10, m11, m12, m13, m14, m15, m16, m17, m18, m19, m20, m21, m22, m23, m24, m25, m26, m27, m28, m29, m30, m31, m32, m33, m34, m35, m36, ew2⟩ := hw2
  obtain ⟨r19, B19, b19, e19⟩ := h19
  obtain ⟨r26, B26, b26, e26⟩ := h26
  obtain ⟨r28, B28, b28, e28⟩ := h28
  obtain ⟨r30, B30, b30, e30⟩ := h30
  obtain ⟨r32, B32, b32, e32⟩ := h32
  obtain ⟨r5, B5, b5, e5⟩ := hf5
  obtain ⟨r6, B6, b6, e6⟩ := ht6
  obtain ⟨pr, hpr⟩ : ∃ pr : kz_R, pr = fun j => if j = 0 then (q25, r26, B26) else if j = 1 then (q27, r28, B28) else if j = 2 then (q29, r30, B30) else if j = 3 then (q31, r32, B32) else if j = 4 then (q18, r19, B19) else if j = 5 then (f5, r5, B5) else (t6, r6, B6) := ⟨_, rfl⟩
  obtain ⟨wp, hwp⟩ : ∃ wp : Nat → va_W, wp = fun j => if j = 0 then w26 else if j = 1 then w28 else if j = 2 then w30 else if j = 3 then w32 else if j = 4 then w19 else if j = 5 then wf else wt := ⟨_, rfl⟩
  obtain ⟨Z1, hZ1⟩ : ∃ Z1 : so_Z, Z1 = (kz_ad (kz_tb q1 q2 q3 q4 q5 q6 q7 q8 q9 q10 q11 q12 q13 q14 q15 q16 q17 q20 q21 q22 q23 sa sb x y ou m1 m2 m3 m4 m5 m6 m7 m8 m9 m10 m11 m12 m13 m14 m15 m16 m17 m18 m19 m20 m21 m22 m23 m24 m25 m26 m27 m28 m29 m30 m31 m32 m33 m34 m35 m36 b (adK 0) (adK 1)) pr, D, ca) := ⟨_, rfl⟩
  have h2 : Z.2 = Z1.2 := by rw [hZ, hZ1]
  have hw : ∀ j, j < 7 → kz_w Z1 (pr j) (wp j) := by
    intro j hj
    have c : j = 0 ∨ j = 1 ∨ j = 2 ∨ j = 3 ∨ j = 4 ∨ j = 5 ∨ j = 6 := by omega
    unfold kz_w kc_ar kc_bl kc_it
    unfold kc_ar kc_bl kc_it at e19 e26 e28 e30 e32 e5 e6
    rw [h2] at e19 e26 e28 e30 e32 e5 e6
    rw [hpr, hwp]
    rcases c with rfl | rfl | rfl | rfl | rfl | rfl | rfl
    · exact ⟨b26, e26⟩
    · exact ⟨b28, e28⟩
    · exact ⟨b30, e30⟩
    · exact ⟨b32, e32⟩
    · exact ⟨b19, e19⟩
    · exact ⟨b5, e5⟩
    · exact ⟨b6, e6⟩
  have eW : (w1 ++ w2) ++ [(ou, .inl (Z.2.2 4, (1, .inr (.inl (fun _ => 0)))))] = kz_W Z1 pr wp q1 q2 q3 q4 q5 q6 q7 q8 q9 q10 q11 q12 q13 q14 q15 q16 q17 q20 q21 q22 q23 sa sb x y ou m1 m2 m3 m4 m5 m6 m7 m8 m9 m10 m11 m12 m13 m14 m15 m16 m17 m18 m19 m20 m21 m22 m23 m24 m25 m26 m27 m28 m29 m30 m31 m32 m33 m34 m35 m36 := by
    rw [ew1, ew2, e24]
    unfold kz_W kz_L0 kz_L1 kz_M kc_it
    rw [h2, hpr, hwp]
    simp only [List.append_assoc, List.cons_append, List.nil_append]
    rfl
  rw [eW, h2] at hP
  rw [eW] at hD
  rw [hZ1] at hw hP hD
  have hall : ∀ q ∈ so_pl, ∃ e, (kz_W (kz_ad (kz_tb q1 q2 q3 q4 q5 q6 q7 q8 q9 q10 q11 q12 q13 q14 q15 q16 q17 q20 q21 q22 q23 sa sb x y ou m1 m2 m3 m4 m5 m6 m7 m8 m9 m10 m11 m12 m13 m14 m15 m16 m17 m18 m19 m20 m21 m22 m23 m24 m25 m26 m27 m28 m29 m30 m31 m32 m33 m34 m35 m36 b (adK 0) (adK 1)) pr, D, ca) pr wp q1 q2 q3 q4 q5 q6 q7 q8 q9 q10 q11 q12 q13 q14 q15 q16 q17 q20 q21 q22 q23 sa sb x y ou m1 m2 m3 m4 m5 m6 m7 m8 m9 m10 m11 m12 m13 m14 m15 m16 m17 m18 m19 m20 m21 m22 m23 m24 m25 m26 m27 m28 m29 m30 m31 m32 m33 m34 m35 m36)[kz_pos q.1 q.2]? = some ((kz_ad (kz_tb q1 q2 q3 q4 q5 q6 q7 q8 q9 q10 q11 q12 q13 q14 q15 q16 q17 q20 q21 q22 q23 sa sb x y ou m1 m2 m3 m4 m5 m6 m7 m8 m9 m10 m11 m12 m13 m14 m15 m16 m17 m18 m19 m20 m21 m22 m23 m24 m25 m26 m27 m28 m29 m30 m31 m32 m33 m34 m35 m36 b (adK 0) (adK 1)) pr) q.1 q.2, e) ∧ (va_at D so_cl ((kz_ad (kz_tb q1 q2 q3 q4 q5 q6 q7 q8 q9 q10 q11 q12 q13 q14 q15 q16 q17 q20 q21 q22 q23 sa sb x y ou m1 m2 m3 m4 m5 m6 m7 m8 m9 m10 m11 m12 m13 m14 m15 m16 m17 m18 m19 m20 m21 m22 m23 m24 m25 m26 m27 m28 m29 m30 m31 m32 m33 m34 m35 m36 b (adK 0) (adK 1)) pr) q.1 q.2, e) H → va_at D so_cl ((kz_ad (kz_tb q1 q2 q3 q4 q5 q6 q7 q8 q9 q10 q11 q12 q13 q14 q15 q16 q17 q20 q21 q22 q23 sa sb x y ou m1 m2 m3 m4 m5 m6 m7 m8 m9 m10 m11 m12 m13 m14 m15 m16 m17 m18 m19 m20 m21 m22 m23 m24 m25 m26 m27 m28 m29 m30 m31 m32 m33 m34 m35 m36 b (adK 0) (adK 1)) pr) q.1 q.2, so_cell (kz_ad (kz_tb q1 q2 q3 q4 q5 q6 q7 q8 q9 q10 q11 q12 q13 q14 q15 q16 q17 q20 q21 q22 q23 sa sb x y ou m1 m2 m3 m4 m5 m6 m7 m8 m9 m10 m11 m12 m13 m14 m15 m16 m17 m18 m19 m20 m21 m22 m23 m24 m25 m26 m27 m28 m29 m30 m31 m32 m33 m34 m35 m36 b (adK 0) (adK 1)) pr, D, ca) (kz_s0 L xs 512) q.1 q.2) H) := kz_all (D := (D, ca)) hw
  have hP1 : va_P Z1.2.1 so_cl (so_w Z1 (kz_s0 L xs 512)) H := by
    rw [hZ1]
    exact kz_P hP hall
  have hD1 : va_D A (so_w Z1 (kz_s0 L xs 512)) := by
    rw [hZ1]
    exact kz_D hD (fun q hq => by obtain ⟨e, h1, -⟩ := hall q hq; exact ⟨e, h1⟩)
  have hK1 : va_K Z1.2.1 so_cl (so_tys Z1) s := by rw [hZ1]; exact hKf _
  have hGs : so_G Z1 A (b, L, xs) s := by
    refine st_so hts hgv hA0 hK1 hX hbl (by rw [hZ1]; rfl) hL adV (fun i hi => ?_) (fun i hi => ?_)
    · have h3 := hS1 i hi
      have c : i = 0 ∨ i = 1 := by omega
      rw [hZ1]
      rcases c with rfl | rfl <;> exact h3
    · have h3 := hS2 i hi
      have c : i = 0 ∨ i = 1 := by omega
      rw [hZ1]
      rcases c with rfl | rfl <;> exact h3
  have hsnd := so_sound (Z := Z1) (A := A) (Y := (b, L, xs)) hst so_strA hrun (by decide) p e room_1 s m #[Value.ref b] below meth c 601024 7293034 ⟨hx, hb, hml, hr, hlk, hown, htb, hGs⟩ htab (Nat.le_of_ble_eq_true rfl) (Nat.le_of_ble_eq_true rfl) (Nat.le_refl _) (Nat.le_refl _)
  have hok : so_okσ (b, L, xs) (kz_s0 L xs 512) := by
    refine ⟨⟨fun k i j => ?_, by show 5 < 7; decide, by show 6 < 7; decide⟩, fun j => rfl, rfl⟩
    show am_rg (if k = 2 then _ else _)
    repeat' split
    all_goals first | exact ⟨by decide, by decide⟩ | exact ⟨by omega, by omega⟩ | exact ⟨Int32.le_toInt _, Int32.toInt_le _⟩
  have hfin := hsnd (fun v hv => ?_) (fun v hv => by cases hv) hok H locs 2197 54032 ls [] hP1 hD1 hS (by show 2197 + 512 ≤ 601024; decide) (by show 54032 + 6 * 512 ≤ 7293034; decide) ⟨_, hl, fun i v hv => ?_⟩ rfl
  · refine so_Wm (fun t ht => ?_) hfin
    obtain ⟨o, h1, h2, out, τ, Lc, hq, -, hb1, -, -, -, hW, hsame, hLA, hout⟩ := ht
    have hq : out = .inl (some (.inl 1)) := hq
    subst hq
    obtain ⟨-, hout⟩ := hout
    refine ⟨o, h1, h2, hout, ⟨_, hout⟩, hW, ld_forget (hsame.mono (Nat.sub_le _ _) (Nat.sub_le _ _)) (fun z hz => ?_)⟩
    have h3 := hLA z hz
    rw [hAe] at h3
    exact h3
  · simp only [List.mem_cons, List.not_mem_nil, or_false] at hv
    rcases hv with rfl | rfl | rfl | rfl | rfl | rfl | rfl
    · exact Or.inr (Or.inr (Or.inl ⟨rfl, rfl⟩))
    · exact Or.inr (Or.inl ⟨by decide, by decide⟩)
    · exact Or.inr (Or.inl ⟨by decide, by decide⟩)
    · exact Or.inr (Or.inl ⟨by decide, by decide⟩)
    · exact Or.inl rfl
    · exact Or.inl rfl
    · exact Or.inl rfl
  · have hi : i < 7 := (List.getElem?_eq_some_iff.mp hv).1
    have cc : i = 0 ∨ i = 1 ∨ i = 2 ∨ i = 3 ∨ i = 4 ∨ i = 5 ∨ i = 6 := by omega
    rw [hZ1]
    rcases cc with rfl | rfl | rfl | rfl | rfl | rfl | rfl <;> cases hv
    · exact Or.inr (List.mem_of_getElem? (i := 3) rfl)
    · exact Or.inr (List.mem_of_getElem? (i := 2) rfl)
    · exact Or.inr (List.mem_of_getElem? (i := 1) rfl)
    · exact Or.inr (List.mem_of_getElem? (i := 0) rfl)
    · exact Or.inl ⟨0, rfl⟩
    · exact Or.inl ⟨0, rfl⟩
    · exact Or.inl ⟨0, rfl⟩
