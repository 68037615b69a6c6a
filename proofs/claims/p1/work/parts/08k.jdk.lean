/-! Calls of the JDK's: max, min, arraycopy -/
set_option maxRecDepth 100000 in
theorem so_f20 : ∀ q ∈ so_js, (q.2.2.1 = 2 → so_wd q.2.2.2 (.methodLink (sR q.1) q.2.1 Lib.Math.max.name) = true) ∧ (q.2.2.1 = 3 → so_wd q.2.2.2 (.methodLink (sR q.1) q.2.1 Lib.Math.min.name) = true) ∧ (q.2.2.1 = 4 → so_wd q.2.2.2 (.methodLink (sR q.1) q.2.1 arraycopyName) = true) := by decide +kernel
def so_in1 (w : Cond) : Bool := decide (w ∈ lw_tbl) && goodWord w
theorem so_in1_in {w : Cond} (h : so_in1 w = true) : w ∈ so_tb := by
  unfold so_in1 at h
  rw [Bool.and_eq_true] at h
  exact List.mem_filter.mpr ⟨of_decide_eq_true h.1, h.2⟩
set_option maxRecDepth 100000 in
theorem so_f21 : so_in1 (.static Lib.Math.max.name) = true ∧ so_in1 (.static Lib.Math.min.name) = true ∧ so_in1 (.initialized "java/lang/Math") = true ∧ so_in1 (.static arraycopyName) = true ∧ so_in1 (.native arraycopyName) = true ∧ so_in1 (.initialized "java/lang/System") = true := by decide +kernel
set_option maxRecDepth 100000 in
theorem so_f22 : so_in1 (.code Lib.Math.max.name Lib.Math.max.code 2 (some .int)) = true ∧ so_in1 (.code Lib.Math.min.name Lib.Math.min.code 2 (some .int)) = true := by decide +kernel
theorem so_max {x y : Int} (hx : am_rg x) (hy : am_rg y) : (if Int32.ofInt x < Int32.ofInt y then Int32.ofInt y else Int32.ofInt x) = Int32.ofInt (max x y) := by
  by_cases h : x < y
  · rw [if_pos ((so_lt hx hy).mpr h), Int.max_eq_right (by omega)]
  · rw [if_neg (fun q => h ((so_lt hx hy).mp q)), Int.max_eq_left (by omega)]
theorem so_min {x y : Int} (hx : am_rg x) (hy : am_rg y) : (if Int32.ofInt y < Int32.ofInt x then Int32.ofInt y else Int32.ofInt x) = Int32.ofInt (min x y) := by
  by_cases h : y < x
  · rw [if_pos ((so_lt hy hx).mpr h), Int.min_eq_right (by omega)]
  · rw [if_neg (fun q => h ((so_lt hy hx).mp q)), Int.min_eq_left (by omega)]
theorem so_cpyc {Z : so_Z} {σ : am_S} {i i' sp dp n : Nat} : so_cell Z (am_cpy σ i sp i' dp n) 12 i' = .inl (Z.2.2 1, 20, .inl (va_cpy (fun j => Int32.ofInt (σ.1 12 i j)) (fun j => Int32.ofInt (σ.1 12 i' j)) sp dp n)) := by
  rw [so_ca (t := 1) rfl (Or.inl rfl)]
  show (Sum.inl (_, 20, Sum.inl _) : va_E) = _
  congr 4
  funext j
  show Int32.ofInt (if (12 : Nat) = 12 then (if i' = i' then (if dp ≤ j ∧ j < dp + n then σ.1 12 i (sp + (j - dp)) else σ.1 12 i' j) else σ.1 12 i' j) else σ.1 12 i' j) = if dp ≤ j ∧ j < dp + n then _ else _
  rw [if_pos rfl, if_pos rfl]
  by_cases h : dp ≤ j ∧ j < dp + n
  · rw [if_pos h, if_pos h]
  · rw [if_neg h, if_neg h]
section So9
variable {Z : so_Z} {A : Nat → Prop} {Y : so_Y} {p : Program} {l : Launch} {e : Env} {R : Room} {s : State} {m : MethodId} {args : Array Value} {below : List Frame} {meth : Method} {c : Code} {b0 n0 mi pc : Nat} {σ : am_S} {Qt : State → Prop}
set_option maxHeartbeats 2000000 in
theorem so_jdk {raw : am_I} {len d k : Nat} {ls st : List am_V} {K : List am_V → List am_V → am_S → Prop} (hX : so_X Z A Y p s m args meth c mi) (hd : decode (so_by mi) pc = .ok (raw, len)) (hk : so_ok mi pc raw len (.invokedynamic k) = true)
    (hRf : d ≤ R.frames) (hRl : 64 * d ≤ R.locals) (hRc : b0 ≤ R.cells) (hRs : n0 ≤ R.slots)
    (hK : ∀ ls st σ, K ls st σ → so_J Z A Y p l e R s m args below meth c (so_ml mi) b0 n0 Qt (pc + len) ls st σ)
    (h01 : ∀ q, (k = 0 ∨ k = 1) → am_n k st σ = some q → q.1 → so_J Z A Y p l e R s m args below meth c (so_ml mi) b0 n0 Qt (pc + len) ls q.2.1 q.2.2 → so_J Z A Y p l e R s m args below meth c (so_ml mi) b0 n0 Qt pc ls st σ)
    (h : am_cn d K k ls st σ) : so_J Z A Y p l e R s m args below meth c (so_ml mi) b0 n0 Qt pc ls st σ := by
  unfold am_cn at h
  by_cases hlen : (st.length ≤ 6 ∨ (2 ≤ k ∧ st.length ≤ 12))
  case neg => rw [if_neg hlen] at h; exact h.elim
  rw [if_pos hlen] at h
  cases hq : am_n k st σ with
  | none => rw [hq] at h; exact h.elim
  | some q =>
    rw [hq] at h
    obtain ⟨⟨h8, hside⟩, hKK⟩ := h
    have hn := hK _ _ _ hKK
    by_cases hk01 : k = 0 ∨ k = 1
    · exact h01 q hk01 hq hside hn
    obtain ⟨hx, hb, hml, hr, hlk, hown, hts, hG⟩ := id hX
    have hk1 : (decide (so_hh mi = []) && so_js.any (fun q => decide (raw = (if k < 2 then .invokevirtual q.2.1 else .invokestatic q.2.1) ∧ len = 3 ∧ q.1 = so_ow mi ∧ q.2.2.1 = k))) = true := hk
    rw [Bool.and_eq_true, List.any_eq_true] at hk1
    obtain ⟨-, z, hz, hz1⟩ := hk1
    obtain ⟨h1, h2, h3, h4⟩ := of_decide_eq_true hz1
    rw [if_neg (by omega)] at h1
    subst h1
    subst h2
    obtain ⟨f1, f2, f3⟩ := so_f20 z hz
    intro okl okt okσ H locs cells slots lsv stv hP hD hS hc hs hL hst
    have hsz : c.maxLocals = lsv.size := by
      obtain ⟨lv, e1, -⟩ := hL
      exact hml.trans e1.1.symm
    have hcat := (so_S_cat st stv hst).1
    unfold am_n at hq
    split at hq
    · exact absurd (Or.inl rfl) hk01
    · exact absurd (Or.inr rfl) hk01
    · rename_i y x st0
      cases hq
      have hry := so_okl_hd okt
      have hrx := so_okl_hd (so_okl_tl okt)
      obtain ⟨r1, rfl, hq1⟩ := so_S_i hst
      obtain ⟨r2, rfl, hq2⟩ := so_S_i hq1
      simp only [List.map_cons, List.sum_cons, List.length_cons] at hcat hlen
      refine va_mmax hx hb hsz hown (by rw [← h3]; exact hts _ (so_wd_in (f1 h4))) (hts _ (so_in1_in so_f21.1)) (hts _ (so_in1_in so_f21.2.2.1)) (hts _ (so_in1_in so_f22.1)) (by omega) (by omega) (by omega) (by omega) hd ?_
      rw [so_max hrx hry]
      exact hn okl (so_okl_cons (show am_rg (max x y) by rcases Int.le_total x y with q | q; rw [Int.max_eq_right q]; exact hry; rw [Int.max_eq_left q]; exact hrx) (so_okl_tl (so_okl_tl okt))) okσ H locs cells slots lsv _ hP hD hS hc hs hL (so_S_c rfl hq2)
    · rename_i y x st0
      cases hq
      have hry := so_okl_hd okt
      have hrx := so_okl_hd (so_okl_tl okt)
      obtain ⟨r1, rfl, hq1⟩ := so_S_i hst
      obtain ⟨r2, rfl, hq2⟩ := so_S_i hq1
      simp only [List.map_cons, List.sum_cons, List.length_cons] at hcat hlen
      refine va_mmin hx hb hsz hown (by rw [← h3]; exact hts _ (so_wd_in (f2 h4))) (hts _ (so_in1_in so_f21.2.1)) (hts _ (so_in1_in so_f21.2.2.1)) (hts _ (so_in1_in so_f22.2)) (by omega) (by omega) (by omega) (by omega) hd ?_
      rw [so_min hrx hry]
      exact hn okl (so_okl_cons (show am_rg (min x y) by rcases Int.le_total x y with q | q; rw [Int.min_eq_left q]; exact hrx; rw [Int.min_eq_right q]; exact hry) (so_okl_tl (so_okl_tl okt))) okσ H locs cells slots lsv _ hP hD hS hc hs hL (so_S_c rfl hq2)
    · rename_i n dp i' sp i st0
      cases hq
      have hside : 0 ≤ n ∧ 0 ≤ sp ∧ 0 ≤ dp ∧ sp + n ≤ 20 ∧ dp + n ≤ 20 := hside
      have hrn := so_okl_hd okt
      have hrd := so_okl_hd (so_okl_tl okt)
      have hrs := so_okl_hd (so_okl_tl (so_okl_tl (so_okl_tl okt)))
      have hi' := so_okr (so_okl_hd (so_okl_tl (so_okl_tl okt))) (by omega) (by omega)
      have hi := so_okr (so_okl_hd (so_okl_tl (so_okl_tl (so_okl_tl (so_okl_tl okt))))) (by omega) (by omega)
      obtain ⟨r1, rfl, hq1⟩ := so_S_i hst
      obtain ⟨r2, rfl, hq2⟩ := so_S_i hq1
      obtain ⟨r3, rfl, hq3⟩ := so_S_r (by omega) hq2
      obtain ⟨r4, rfl, hq4⟩ := so_S_i hq3
      obtain ⟨r5, rfl, hq5⟩ := so_S_r (by omega) hq4
      simp only [List.map_cons, List.sum_cons, List.length_cons] at hcat hlen
      obtain ⟨n1, hn1⟩ := so_pos hi.1 hi.2
      obtain ⟨n2, hn2⟩ := so_pos hi'.1 hi'.2
      have he1 := so_get Z σ hn1
      have he2 := so_get Z σ hn2
      rw [so_ca (t := 1) rfl (Or.inl rfl)] at he1 he2
      have nn : ∀ z : Int, 0 ≤ z → am_rg z → ¬ Int32.ofInt z < 0 := fun z h1 h2 q => by
        have := (so_lt h2 so_r0).mp q
        omega
      have hset := so_put Z (τ := am_cpy σ i sp.toNat i' dp.toNat n.toNat) hD hn2 so_cpyc (fun k' j' _ hne => so_cong Z (fun _ j => by
          show (if k' = 12 then (if j' = i' then _ else σ.1 k' j' j) else σ.1 k' j' j) = _
          by_cases hk : k' = 12
          · rw [if_pos hk, if_neg (fun q => hne ⟨hk, q⟩)]
          · rw [if_neg hk]) (fun _ => rfl) (fun _ => rfl))
      have hnw : nativeFrameWords "java/lang/System" "arraycopy" 5 ≤ 100 := by decide +kernel
      refine va_copyi (ty := .int) hx hb hsz hown (by rw [← h3]; exact hts _ (so_wd_in (f3 h4))) (hts _ (so_in1_in so_f21.2.2.2.2.1)) (hts _ (so_in1_in so_f21.2.2.2.1)) (hts _ (so_in1_in so_f21.2.2.2.2.2)) hG.1 hP hD hS n1 n2 0 0 he1 he2 rfl rfl rfl (nn _ hside.2.1 hrs) (nn _ hside.2.2.1 hrd) (nn _ hside.1 hrn)
        (by rw [so_clp hrs, so_clp hrn]; show _ ≤ 20; omega) (by rw [so_clp hrd, so_clp hrn]; show _ ≤ 20; omega) (fun _ _ => rfl) (by omega) (by omega) hd ?_
      rw [so_clp hrs, so_clp hrn, so_clp hrd]
      rw [show so_ln 12 = 20 from rfl, hset]
      intro H1 locs1 hP1 hD1 hS1
      refine hn okl (so_okl_tl (so_okl_tl (so_okl_tl (so_okl_tl (so_okl_tl okt))))) ⟨⟨fun a b j => ?_, okσ.1.2⟩, okσ.2.1, okσ.2.2⟩ H1 locs1 cells slots lsv _ hP1 hD1 hS1 hc hs hL hq5
      show am_rg (if a = 12 then (if b = i' then (if dp.toNat ≤ j ∧ j < dp.toNat + n.toNat then _ else _) else _) else _)
      split
      · split
        · split
          · exact okσ.1.1 ..
          · exact okσ.1.1 ..
        · exact okσ.1.1 ..
      · exact okσ.1.1 ..
    · cases hq
end So9
