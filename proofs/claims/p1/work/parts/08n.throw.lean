/-! A thrown exception, caught or not -/
section So12
variable {Z : so_Z} {A : Nat → Prop} {Y : so_Y} {p : Program} {l : Launch} {e : Env} {R : Room} {s : State} {m : MethodId} {args : Array Value} {below : List Frame} {meth : Method} {c : Code} {b0 n0 mi pc : Nat} {σ : am_S}
theorem so_XX {Q : am_Q} {d g x : Nat} {ls : List am_V} (hX : so_X Z A Y p s m args meth c mi) (hgm : g / 16384 = mi) (hmi : mi < 208) (hgg : so_gs[g / 16384]? = some g) (ht : c.exceptionTable.toList.map (fun h => (h.startPc, h.endPc, h.handlerPc, h.catchType)) = so_hh mi)
    (hRf : d ≤ R.frames) (hRl : 64 * d ≤ R.locals) (hRc : b0 ≤ R.cells) (hRs : n0 ≤ R.slots) (h : am_X (so_P Z A Y l) d g Q x ls σ) (hcov : (so_hh mi).all (fun h => decide (h.1 ≤ pc ∧ pc < h.2.1)) = true) :
    so_TJ Z A Y p l e R s m args below meth c (so_ml mi) b0 n0 (so_E Z A Y s b0 n0 below Q) pc ls σ x := by
  have hg0 : (so_gs[mi]?).getD 0 = g := by rw [← hgm, hgg]; rfl
  unfold am_X at h
  cases hh : am_hd g x with
  | none =>
    rw [hh] at h
    have h1 := so_f30 mi hmi (by rw [hg0]; exact h.1)
    exact so_uncaught hX (ht.trans h1) h.2
  | some pc' =>
    rw [hh] at h
    have hP := h hgg p e R s m args below meth c b0 n0 (by rw [hgm]; exact hX) (by rw [hgm]; exact ht) hRf hRl hRc hRs
    rw [hgm] at hP
    unfold am_hd at hh
    by_cases hpar : g % 2 = 0
    · rw [if_pos hpar] at hh; cases hh
    rw [if_neg hpar] at hh
    have h31 := so_f31 mi hmi (by rw [hg0]; exact hpar)
    obtain ⟨how, hall0⟩ := so_f34 mi hmi (by rw [hg0]; exact hpar)
    rw [hg0] at h31
    rw [h31] at hh
    have hlk : ((so_hh mi).map (fun h => (so_ce h.2.2.2, h.2.2.1))).lookup x = some pc' := hh
    intro okl okσ hx0 hx5 H locs cells slots lsv rest q ce hPw hD hS hc hs hL hq hv hcl T hT X
    obtain ⟨hx, hb, hml, hr, hlk2, hown, hts, hG⟩ := id hX
    have hpl : e.platform.magicAccessors = ({} : Platform).magicAccessors := by rw [X.admits.platform]
    have hin : ∀ y ∈ c.exceptionTable.toList, (y.startPc, y.endPc, y.handlerPc, y.catchType) ∈ so_hh mi := fun y hy => by rw [← ht]; exact List.mem_map.mpr ⟨y, hy, rfl⟩
    have hlook : (c.exceptionTable.toList.map (fun y => (so_ce y.catchType, y.handlerPc))).lookup x = some pc' := by
      rw [← hlk, ← ht, List.map_map]
      rfl
    obtain ⟨cX, hcX⟩ := classAt_of (hts _ (so_in1_in (so_f33 x hx5 hx0)))
    have hcXe : cX = ce.cls := Option.some.inj (hcX.1.symm.trans hcl)
    subst hcXe
    obtain ⟨vm', X', st⟩ := so_into (g := F0 m pc lsv rest) (x := x) (pc' := pc') X rfl (by rw [hT]; exact hq) (by rw [hv]; rfl) (by obtain ⟨-, k, hk, -⟩ := hcX; exact ⟨k, hk⟩) (fun y hy => by
      have h1 := of_decide_eq_true (List.all_eq_true.mp hcov _ (hin y hy))
      have h2 := of_decide_eq_true (List.all_eq_true.mp hall0 _ (hin y hy))
      have hw := hts _ (so_ce_word h2.1)
      rw [← how] at hw
      obtain ⟨cc, hcc, hcl5⟩ := Cond.classLink_spec hown hw e.platform hpl
      refine ⟨?_, h2.2.2, cc, hcl5, ?_⟩
      · show (decide _ && decide _) = true
        rw [Bool.and_eq_true]
        exact ⟨decide_eq_true h1.1, decide_eq_true h1.2⟩
      · by_cases hxe : so_ce y.catchType = x
        · rw [decide_eq_true hxe]
          rw [hxe] at hcc
          cases Option.some.inj (hcc.symm.trans hcl)
          exact va_assign hcX
        · rw [decide_eq_false hxe]
          obtain ⟨a8, b8, e1, e2, e3⟩ := hG.2.2.2.2.1.1 x (so_ce y.catchType) hx0 hx5 h2.1 h2.2.1 (fun z => hxe z.symm)
          cases Option.some.inj (e1.symm.trans hcl)
          cases Option.some.inj (e2.symm.trans hcc)
          exact e3) hlook
    obtain ⟨t, a1, b1⟩ := hP okl (fun v hv => by rw [List.mem_singleton.mp hv]; exact Or.inl rfl) okσ H locs cells slots lsv [.ref q] hPw hD hS hc hs hL ⟨_, [], rfl, Or.inr ⟨0, q, rfl, rfl⟩, rfl⟩ (T.setVm vm') hT X'
    exact ⟨t, st t a1, b1⟩
end So12
