/-! Branches, ends, calls: one by one (written by our program) -/
section So8
variable {Z : so_Z} {A : Nat → Prop} {Y : so_Y} {p : Program} {l : Launch} {e : Env} {R : Room} {s : State} {m : MethodId} {args : Array Value} {below : List Frame} {meth : Method} {c : Code} {b0 n0 mi pc : Nat} {σ : am_S}
theorem so_z0 : Int32.ofInt 0 = (0 : Int32) := rfl
/-- nobody here catches it -/
theorem so_uncaught {Q : am_Q} {ls : List am_V} {x : Nat} (hX : so_X Z A Y p s m args meth c mi) (ht : c.exceptionTable.toList.map (fun h => (h.startPc, h.endPc, h.handlerPc, h.catchType)) = []) (hQ : Q (.inr x) σ) : so_TJ Z A Y p l e R s m args below meth c (so_ml mi) b0 n0 (so_E Z A Y s b0 n0 below Q) pc ls σ x := by
  intro okl okσ hx0 hx5 H locs cells slots lsv rest q ce hP hD hS hc hs hL hq hv hcl T hT X
  obtain ⟨hx, hb, hml, hr, hlk, hown, hts, hG⟩ := hX
  have hnil : c.exceptionTable.toList = [] := List.map_eq_nil_iff.mp ht
  obtain ⟨st1, hrun, hend, hW, hsm⟩ := X.leaveThrown q (g := F0 m pc lsv rest) rfl rfl rfl (fun z hz => by rw [hnil] at hz; cases hz) hlk
  refine ⟨_, st1, .threw q, hrun, hend, .inr x, σ, locs, hQ, okσ, ⟨by omega, by omega⟩, ?_, hD, hS.F (show (T.setFrames (.throwing q :: below)).heap = H from hT), hW, hsm.mono (by omega) (by omega), hS.2.2, q, ce, rfl, ?_, hv, hcl, hx0, hx5⟩
  · show va_P _ _ _ T.heap
    rw [hT]; exact hP
  · show T.heap[q]? = some ce
    rw [hT]; exact hq
set_option maxHeartbeats 4000000 in
theorem so_ctl {Q : am_Q} {i raw : am_I} {len d g : Nat} {ls st : List am_V} {K : List am_V → List am_V → am_S → Prop} (hX : so_X Z A Y p s m args meth c mi) (hgm : g / 16384 = mi) (hgg : so_gs[g / 16384]? = some g) (ht : c.exceptionTable.toList.map (fun h => (h.startPc, h.endPc, h.handlerPc, h.catchType)) = so_hh mi) (hd : decode (so_by mi) pc = .ok (raw, len)) (hk : so_ok mi pc raw len i = true)
    (hRf : d ≤ R.frames) (hRl : 64 * d ≤ R.locals) (hRc : b0 ≤ R.cells) (hRs : n0 ≤ R.slots)
    (hK : ∀ ls st σ, K ls st σ → so_J Z A Y p l e R s m args below meth c (so_ml mi) b0 n0 (so_E Z A Y s b0 n0 below Q) (pc + len) ls st σ)
    (hXX : ∀ x ls σ, am_X (so_P Z A Y l) d g Q x ls σ → (so_hh mi).all (fun h => decide (h.1 ≤ pc ∧ pc < h.2.1)) = true → so_TJ Z A Y p l e R s m args below meth c (so_ml mi) b0 n0 (so_E Z A Y s b0 n0 below Q) pc ls σ x)
    (hJdk : ∀ k, i = .invokedynamic k → am_cn d K k ls st σ → so_J Z A Y p l e R s m args below meth c (so_ml mi) b0 n0 (so_E Z A Y s b0 n0 below Q) pc ls st σ)
    (h : am_c d (am_C (so_P Z A Y l) d) (fun pc ls st σ => so_P Z A Y l d g pc ls st σ Q) (am_X (so_P Z A Y l) d g Q) (fun v σ => Q (.inl v) σ) K i ls st σ) : so_J Z A Y p l e R s m args below meth c (so_ml mi) b0 n0 (so_E Z A Y s b0 n0 below Q) pc ls st σ := by
  have hJ : ∀ pc' ls st σ, so_P Z A Y l d g pc' ls st σ Q → so_J Z A Y p l e R s m args below meth c (so_ml mi) b0 n0 (so_E Z A Y s b0 n0 below Q) pc' ls st σ := by
    intro pc' ls st σ h
    have h1 := h hgg p e R s m args below meth c b0 n0 (by rw [hgm]; exact hX) (by rw [hgm]; exact ht) hRf hRl hRc hRs
    rw [hgm] at h1
    exact h1
  obtain ⟨hx, hb, hml, hr, hlk, hown, hts, hG⟩ := id hX
  unfold am_c at h
  split at h
  · rename_i cc t y x st0
    have hk1 : decide (raw = .if_icmp cc (t - (pc : Int)) ∧ len = 3 ∧ 0 ≤ t) = true := hk
    obtain ⟨rfl, rfl, h0⟩ := of_decide_eq_true hk1
    have htg : (pc : Int) + (t - (pc : Int)) = (t.toNat : Int) := by omega
    intro okl okt okσ H locs cells slots lsv stv hP hD hS hc hs hL hst
    have hry := so_okl_hd okt
    have hrx := so_okl_hd (so_okl_tl okt)
    obtain ⟨r1, rfl, hq1⟩ := so_S_i hst
    obtain ⟨r2, rfl, hq2⟩ := so_S_i hq1
    cases cc
    · refine lv_icmp_eq hx hb hd htg (fun hm => ?_) (fun hm => ?_)
      · exact hJ _ _ _ _ (h.1 ((so_eq hrx hry).mp hm)) okl (so_okl_tl (so_okl_tl okt)) okσ H locs cells slots lsv _ hP hD hS hc hs hL hq2
      · exact hK _ _ _ (h.2 (fun q => hm ((so_eq hrx hry).mpr q))) okl (so_okl_tl (so_okl_tl okt)) okσ H locs cells slots lsv _ hP hD hS hc hs hL hq2
    · refine lv_icmp_ne hx hb hd htg (fun hm => ?_) (fun hm => ?_)
      · exact hJ _ _ _ _ (h.1 (fun q => hm ((so_eq hrx hry).mpr q))) okl (so_okl_tl (so_okl_tl okt)) okσ H locs cells slots lsv _ hP hD hS hc hs hL hq2
      · exact hK _ _ _ (h.2 (fun q => q ((so_eq hrx hry).mp hm))) okl (so_okl_tl (so_okl_tl okt)) okσ H locs cells slots lsv _ hP hD hS hc hs hL hq2
    · refine lv_icmp_lt hx hb hd htg (fun hm => ?_) (fun hm => ?_)
      · exact hJ _ _ _ _ (h.1 ((so_lt hrx hry).mp hm)) okl (so_okl_tl (so_okl_tl okt)) okσ H locs cells slots lsv _ hP hD hS hc hs hL hq2
      · exact hK _ _ _ (h.2 (fun q => hm ((so_lt hrx hry).mpr q))) okl (so_okl_tl (so_okl_tl okt)) okσ H locs cells slots lsv _ hP hD hS hc hs hL hq2
    · refine lv_icmp_ge hx hb hd htg (fun hm => ?_) (fun hm => ?_)
      · exact hJ _ _ _ _ (h.1 ((so_le hry hrx).mp hm)) okl (so_okl_tl (so_okl_tl okt)) okσ H locs cells slots lsv _ hP hD hS hc hs hL hq2
      · exact hK _ _ _ (h.2 (fun q => hm ((so_le hry hrx).mpr q))) okl (so_okl_tl (so_okl_tl okt)) okσ H locs cells slots lsv _ hP hD hS hc hs hL hq2
    · refine lv_icmp_gt hx hb hd htg (fun hm => ?_) (fun hm => ?_)
      · exact hJ _ _ _ _ (h.1 ((so_lt hry hrx).mp hm)) okl (so_okl_tl (so_okl_tl okt)) okσ H locs cells slots lsv _ hP hD hS hc hs hL hq2
      · exact hK _ _ _ (h.2 (fun q => hm ((so_lt hry hrx).mpr q))) okl (so_okl_tl (so_okl_tl okt)) okσ H locs cells slots lsv _ hP hD hS hc hs hL hq2
    · refine lv_icmp_le hx hb hd htg (fun hm => ?_) (fun hm => ?_)
      · exact hJ _ _ _ _ (h.1 ((so_le hrx hry).mp hm)) okl (so_okl_tl (so_okl_tl okt)) okσ H locs cells slots lsv _ hP hD hS hc hs hL hq2
      · exact hK _ _ _ (h.2 (fun q => hm ((so_le hrx hry).mpr q))) okl (so_okl_tl (so_okl_tl okt)) okσ H locs cells slots lsv _ hP hD hS hc hs hL hq2
  · rename_i cc t x st0
    have hk1 : decide (raw = .ifCond cc (t - (pc : Int)) ∧ len = 3 ∧ 0 ≤ t) = true := hk
    obtain ⟨rfl, rfl, h0⟩ := of_decide_eq_true hk1
    have htg : (pc : Int) + (t - (pc : Int)) = (t.toNat : Int) := by omega
    intro okl okt okσ H locs cells slots lsv stv hP hD hS hc hs hL hst
    have hrx := so_okl_hd okt
    obtain ⟨r1, rfl, hq2⟩ := so_S_i hst
    cases cc
    · refine lv_if_eq hx hb hd htg (fun hm => ?_) (fun hm => ?_)
      · exact hJ _ _ _ _ (h.1 ((so_eq hrx so_r0).mp hm)) okl (so_okl_tl okt) okσ H locs cells slots lsv _ hP hD hS hc hs hL hq2
      · exact hK _ _ _ (h.2 (fun q => hm ((so_eq hrx so_r0).mpr q))) okl (so_okl_tl okt) okσ H locs cells slots lsv _ hP hD hS hc hs hL hq2
    · refine lv_if_ne hx hb hd htg (fun hm => ?_) (fun hm => ?_)
      · exact hJ _ _ _ _ (h.1 (fun q => hm ((so_eq hrx so_r0).mpr q))) okl (so_okl_tl okt) okσ H locs cells slots lsv _ hP hD hS hc hs hL hq2
      · exact hK _ _ _ (h.2 (fun q => q ((so_eq hrx so_r0).mp hm))) okl (so_okl_tl okt) okσ H locs cells slots lsv _ hP hD hS hc hs hL hq2
    · refine lv_if_lt hx hb hd htg (fun hm => ?_) (fun hm => ?_)
      · exact hJ _ _ _ _ (h.1 ((so_lt hrx so_r0).mp hm)) okl (so_okl_tl okt) okσ H locs cells slots lsv _ hP hD hS hc hs hL hq2
      · exact hK _ _ _ (h.2 (fun q => hm ((so_lt hrx so_r0).mpr q))) okl (so_okl_tl okt) okσ H locs cells slots lsv _ hP hD hS hc hs hL hq2
    · refine lv_if_ge hx hb hd htg (fun hm => ?_) (fun hm => ?_)
      · exact hJ _ _ _ _ (h.1 ((so_le so_r0 hrx).mp hm)) okl (so_okl_tl okt) okσ H locs cells slots lsv _ hP hD hS hc hs hL hq2
      · exact hK _ _ _ (h.2 (fun q => hm ((so_le so_r0 hrx).mpr q))) okl (so_okl_tl okt) okσ H locs cells slots lsv _ hP hD hS hc hs hL hq2
    · refine lv_if_gt hx hb hd htg (fun hm => ?_) (fun hm => ?_)
      · exact hJ _ _ _ _ (h.1 ((so_lt so_r0 hrx).mp hm)) okl (so_okl_tl okt) okσ H locs cells slots lsv _ hP hD hS hc hs hL hq2
      · exact hK _ _ _ (h.2 (fun q => hm ((so_lt so_r0 hrx).mpr q))) okl (so_okl_tl okt) okσ H locs cells slots lsv _ hP hD hS hc hs hL hq2
    · refine lv_if_le hx hb hd htg (fun hm => ?_) (fun hm => ?_)
      · exact hJ _ _ _ _ (h.1 ((so_le hrx so_r0).mp hm)) okl (so_okl_tl okt) okσ H locs cells slots lsv _ hP hD hS hc hs hL hq2
      · exact hK _ _ _ (h.2 (fun q => hm ((so_le hrx so_r0).mpr q))) okl (so_okl_tl okt) okσ H locs cells slots lsv _ hP hD hS hc hs hL hq2
  · rename_i t
    have hk1 : decide (raw = .goto (t - (pc : Int)) ∧ len = 3 ∧ 0 ≤ t) = true := hk
    obtain ⟨rfl, rfl, h0⟩ := of_decide_eq_true hk1
    intro okl okt okσ H locs cells slots lsv stv hP hD hS hc hs hL hst
    refine lv_goto (tgt := t.toNat) hx hb hd (by omega) ?_
    exact hJ _ _ _ _ h okl okt okσ H locs cells slots lsv _ hP hD hS hc hs hL hst
  · cases hk
  · rename_i df lo hi ts x st0
    have hk1 : decide (raw = .tableswitch (df - (pc : Int)) lo hi (ts.map (fun t => t - (pc : Int))) ∧ 0 ≤ df ∧ (ts.toList.all (fun t => decide (0 ≤ t))) = true ∧ (ts.size : Int) = hi - lo + 1) = true := hk
    obtain ⟨rfl, h0, hall, hsz⟩ := of_decide_eq_true hk1
    intro okl okt okσ H locs cells slots lsv stv hP hD hS hc hs hL hst
    have hrx := so_okl_hd okt
    obtain ⟨r1, rfl, hq1⟩ := so_S_i hst
    by_cases ho : x < lo ∨ hi < x
    · refine lv_tableOut (tgt := df.toNat) hx hb hd (by rw [so_ti hrx]; exact ho) (by omega) ?_
      exact hJ _ _ _ _ (h.1 ho) okl (so_okl_tl okt) okσ H locs cells slots lsv _ hP hD hS hc hs hL hq1
    · have hlt : (x - lo).toNat < ts.size := by omega
      have hg0 : ts.toList[(x - lo).toNat]? = some ts[(x - lo).toNat] := by rw [Array.getElem?_toList]; exact Array.getElem?_eq_getElem hlt
      have hpos : 0 ≤ ts[(x - lo).toNat] := by
        have h1 := List.all_eq_true.mp hall _ (List.mem_of_getElem? hg0)
        exact of_decide_eq_true h1
      have h2 := h.2 ho
      rw [hg0] at h2
      refine lv_tableIn (off := ts[(x - lo).toNat] - (pc : Int)) (tgt := (ts[(x - lo).toNat]).toNat) hx hb hd (by rw [so_ti hrx]; omega) (by rw [so_ti hrx]; omega) (by rw [so_ti hrx, Array.getElem?_map, Array.getElem?_eq_getElem hlt]; rfl) (by omega) ?_
      exact hJ _ _ _ _ h2 okl (so_okl_tl okt) okσ H locs cells slots lsv _ hP hD hS hc hs hL hq1
  · rename_i x
    have hk1 : decide (raw = .ireturn ∧ len = 1 ∧ so_rt mi = some .int) = true := hk
    obtain ⟨rfl, rfl, hrt⟩ := of_decide_eq_true hk1
    intro okl okt okσ H locs cells slots lsv stv hP hD hS hc hs hL hst
    obtain ⟨r1, rfl, hq1⟩ := so_S_i hst
    have hr1 : r1 = [] := hq1
    subst hr1
    refine so_Wm (so_ends (args := args) (v := (some (.inl x))) (w := (some (Value.int (Int32.ofInt x)))) okσ hP hD hS hc hs h (⟨so_okl_hd okt, rfl⟩)) ?_
    exact W.iret (free := A) hx hb (hr.trans hrt) (fun t h1 h2 => ⟨rfl, h1, h2⟩) hS.2.2 hd hlk
  · rename_i x
    have hk1 : decide (raw = .ireturn ∧ len = 1 ∧ so_rt mi = some .boolean) = true := hk
    obtain ⟨rfl, rfl, hrt⟩ := of_decide_eq_true hk1
    intro okl okt okσ H locs cells slots lsv stv hP hD hS hc hs hL hst
    obtain ⟨r1, rfl, hq1⟩ := so_S_i hst
    have hr1 : r1 = [] := hq1
    subst hr1
    refine so_Wm (so_ends (args := args) (v := (some (.inl x))) (w := (some (Value.int (Int32.ofInt x)))) okσ hP hD hS hc hs h.2 (⟨so_okl_hd okt, rfl⟩)) ?_
    exact W.zret (free := A) hx hb (hr.trans hrt) (so_nzv h.1) (fun t h1 h2 => ⟨rfl, h1, h2⟩) hS.2.2 hd hlk
  · rename_i x
    have hk1 : decide (raw = .ireturn ∧ len = 1 ∧ so_rt mi = some .char) = true := hk
    obtain ⟨rfl, rfl, hrt⟩ := of_decide_eq_true hk1
    intro okl okt okσ H locs cells slots lsv stv hP hD hS hc hs hL hst
    obtain ⟨r1, rfl, hq1⟩ := so_S_i hst
    have hr1 : r1 = [] := hq1
    subst hr1
    refine so_Wm (so_ends (args := args) (v := (some (.inl x))) (w := (some (Value.int (Int32.ofInt x)))) okσ hP hD hS hc hs h.2 (⟨so_okl_hd okt, rfl⟩)) ?_
    exact W.zret (free := A) hx hb (hr.trans hrt) (congrArg Value.int (so_nc h.1)) (fun t h1 h2 => ⟨rfl, h1, h2⟩) hS.2.2 hd hlk
  · rename_i x
    have hk1 : decide (raw = .lreturn ∧ len = 1 ∧ so_rt mi = some .long) = true := hk
    obtain ⟨rfl, rfl, hrt⟩ := of_decide_eq_true hk1
    intro okl okt okσ H locs cells slots lsv stv hP hD hS hc hs hL hst
    obtain ⟨r1, rfl, hq1⟩ := so_S_l hst
    have hr1 : r1 = [] := hq1
    subst hr1
    refine so_Wm (so_ends (args := args) (v := (some (.inr (.inl x)))) (w := (some (Value.long x))) okσ hP hD hS hc hs h (⟨trivial, rfl⟩)) ?_
    exact W.lret (free := A) hx hb (hr.trans hrt) (fun t h1 h2 => ⟨rfl, h1, h2⟩) hS.2.2 hd hlk
  · rename_i a b
    have hk1 : (decide (raw = .areturn ∧ len = 1) && (match so_rt mi with
      | some (.object _) => true
      | _ => false)) = true := hk
    rw [Bool.and_eq_true] at hk1
    obtain ⟨rfl, rfl⟩ := of_decide_eq_true hk1.1
    have hrt : ∃ C, so_rt mi = some (.object C) := by
      have h2 := hk1.2
      split at h2
      · rename_i C hC
        exact ⟨C, hC⟩
      · cases h2
    obtain ⟨C, hC⟩ := hrt
    intro okl okt okσ H locs cells slots lsv stv hP hD hS hc hs hL hst
    obtain ⟨r1, rfl, hq1⟩ := so_S_r (by omega) hst
    have hr1 : r1 = [] := hq1
    subst hr1
    refine so_Wm (so_ends (args := args) (v := some (.inr (.inr (a + 1, b)))) (w := some (Value.ref (Z.1 (a + 1) b))) okσ hP hD hS hc hs h (⟨so_okl_hd okt, rfl⟩)) ?_
    exact W.aret (free := A) hx hb (hr.trans hC) (Or.inl ⟨C, rfl⟩) (Or.inr ⟨_, rfl⟩) (fun t h1 h2 => ⟨rfl, h1, h2⟩) hS.2.2 hd hlk
  · have hk1 : decide (raw = .return_ ∧ len = 1 ∧ so_rt mi = none) = true := hk
    obtain ⟨rfl, rfl, hrt⟩ := of_decide_eq_true hk1
    intro okl okt okσ H locs cells slots lsv stv hP hD hS hc hs hL hst
    have hr1 : stv = [] := hst
    subst hr1
    refine so_Wm (so_ends (args := args) (v := none) (w := none) okσ hP hD hS hc hs h rfl) ?_
    exact W.vret (free := A) hx hb (hr.trans hrt) (fun t h1 h2 => ⟨rfl, h1, h2⟩) hS.2.2 hd hlk
  · cases hk
  · rename_i gc
    unfold am_cv at h
    rcases hrc : (st.take (gc / 2 % 16)).reverse with _ | ⟨x | x | ⟨k0, i0⟩, r⟩
    · rw [hrc] at h; exact h.elim
    · rw [hrc] at h; exact h.elim
    · rw [hrc] at h; exact h.elim
    · rw [hrc] at h
      have h1 : if k0 = gc / 1024 % 16 then am_cs (am_C (so_P Z A Y l) d) (am_X (so_P Z A Y l) d g Q) K gc ls st σ else False := h
      by_cases hk0 : k0 = gc / 1024 % 16
      · rw [if_pos hk0] at h1
        unfold am_cs at h1
        by_cases hcnd : (gc / 2 % 16 ≤ st.length ∧ st.length ≤ gc / 2 % 16 + 8) ∧ am_wds (st.take (gc / 2 % 16)).reverse ≤ gc / 32 % 32
        · rw [if_pos hcnd] at h1
          cases d with
          | zero => exact h1.elim
          | succ d =>
            have hk1 : (so_cs.filter (fun q => decide (q.2.2.1 = gc ∧ q.1 = so_ow mi))).any (fun q => decide (raw = .invokevirtual q.2.1 ∧ len = 3 ∧ q.1 = so_ow mi ∧ q.2.2.1 = gc ∧ gc / 1024 % 16 ≠ 0 ∧ (so_gs[gc / 16384]?) = some gc ∧ gc / 16384 < 207 ∧ (parseMethodDescriptor (so_y (gc / 16384)).desc).map (fun d => d.parameters.length + 1) = some (gc / 2 % 16) ∧ (so_hh mi).all (fun h => decide (h.1 ≤ pc ∧ pc < h.2.1)) = true)) = true := hk
            rw [List.any_eq_true] at hk1
            obtain ⟨q, hq, hh⟩ := hk1
            obtain ⟨-, hl3, -, -, -, -, -, -, hcov⟩ := of_decide_eq_true hh
            refine so_cV hX hd hk hrc hk0 hcnd.1 hcnd.2 h1 hRf hRl hRc hRs (fun τ hτ => ?_) (fun v τ hτ => ?_) (fun x τ hτ => hXX x ls τ hτ hcov)
            · have := hK ls (st.drop (gc / 2 % 16)) τ hτ
              rwa [hl3] at this
            · have := hK ls (v :: st.drop (gc / 2 % 16)) τ hτ
              rwa [hl3] at this
        · rw [if_neg hcnd] at h1
          exact h1.elim
      · rw [if_neg hk0] at h1
        exact h1.elim
  · rename_i gc
    have h1 : am_cs (am_C (so_P Z A Y l) d) (am_X (so_P Z A Y l) d g Q) K gc ls st σ := h
    unfold am_cs at h1
    by_cases hcnd : (gc / 2 % 16 ≤ st.length ∧ st.length ≤ gc / 2 % 16 + 8) ∧ am_wds (st.take (gc / 2 % 16)).reverse ≤ gc / 32 % 32
    · rw [if_pos hcnd] at h1
      cases d with
      | zero => exact h1.elim
      | succ d =>
        have hk1 : (so_cs.filter (fun q => decide (q.2.2.1 = gc ∧ q.1 = so_ow mi))).any (fun q => decide (raw = .invokestatic q.2.1 ∧ len = 3 ∧ q.1 = so_ow mi ∧ q.2.2.1 = gc ∧ gc / 1024 % 16 = 0 ∧ (so_gs[gc / 16384]?) = some gc ∧ gc / 16384 < 207 ∧ (parseMethodDescriptor (so_y (gc / 16384)).desc).map (fun d => d.parameters.length) = some (gc / 2 % 16) ∧ (so_hh mi).all (fun h => decide (h.1 ≤ pc ∧ pc < h.2.1)) = true)) = true := hk
        rw [List.any_eq_true] at hk1
        obtain ⟨q, hq, hh⟩ := hk1
        obtain ⟨-, hl3, -, -, -, -, -, -, hcov⟩ := of_decide_eq_true hh
        refine so_cS hX hd hk hcnd.1 hcnd.2 h1 hRf hRl hRc hRs (fun τ hτ => ?_) (fun v τ hτ => ?_) (fun x τ hτ => hXX x ls τ hτ hcov)
        · have := hK ls (st.drop (gc / 2 % 16)) τ hτ
          rwa [hl3] at this
        · have := hK ls (v :: st.drop (gc / 2 % 16)) τ hτ
          rwa [hl3] at this
    · rw [if_neg hcnd] at h1
      exact h1.elim
  · rename_i k
    exact hJdk k rfl h
  · exact h.elim
end So8
