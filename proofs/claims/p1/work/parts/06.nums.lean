/-! Numbers of the machine and integers -/
theorem so_ti {x : Int} (h : am_rg x) : (Int32.ofInt x).toInt = x := Int32.toInt_ofInt_of_le (by have := h.1; omega) (by have := h.2; omega)
theorem so_rg (x : Int32) : am_rg x.toInt := ⟨by have := Int32.le_toInt x; omega, by have := Int32.toInt_lt x; omega⟩
theorem so_eq {x y : Int} (hx : am_rg x) (hy : am_rg y) : Int32.ofInt x = Int32.ofInt y ↔ x = y := by
  rw [← Int32.toInt_inj, so_ti hx, so_ti hy]
theorem so_lt {x y : Int} (hx : am_rg x) (hy : am_rg y) : Int32.ofInt x < Int32.ofInt y ↔ x < y := by
  rw [Int32.lt_iff_toInt_lt, so_ti hx, so_ti hy]
theorem so_le {x y : Int} (hx : am_rg x) (hy : am_rg y) : Int32.ofInt x ≤ Int32.ofInt y ↔ x ≤ y := by
  rw [Int32.le_iff_toInt_le, so_ti hx, so_ti hy]
theorem so_r0 : am_rg 0 := ⟨by omega, by omega⟩
theorem so_clp {x : Int} (hx : am_rg x) : (Int32.ofInt x).toNatClampNeg = x.toNat := Int32.toNatClampNeg_ofInt_of_le (by have := hx.1; omega) (by have := hx.2; omega)
theorem so_in {x : Int} {n : Nat} (hx : am_rg x) (h : 0 ≤ x ∧ x < (n : Int)) : vp_in (Int32.ofInt x) n := by
  unfold vp_in
  rw [so_clp hx]
  have h0 : Int32.ofInt 0 = (0 : Int32) := rfl
  rw [← h0, so_lt hx so_r0]
  omega
theorem so_and (x y : Int) : Int32.ofInt (am_and x y) = Int32.ofInt x &&& Int32.ofInt y := Int32.ofInt_toInt _
theorem so_or (x y : Int) : Int32.ofInt (am_or x y) = Int32.ofInt x ||| Int32.ofInt y := Int32.ofInt_toInt _
theorem so_xor (x y : Int) : Int32.ofInt (am_xor x y) = Int32.ofInt x ^^^ Int32.ofInt y := Int32.ofInt_toInt _
theorem so_shl (x y : Int) : Int32.ofInt (am_shl x y) = Int32.ofInt x <<< (Int32.ofInt y &&& 31) := Int32.ofInt_toInt _
theorem so_shr (x y : Int) : Int32.ofInt (am_shr x y) = Int32.ofInt x >>> (Int32.ofInt y &&& 31) := Int32.ofInt_toInt _
theorem so_l2i (x : Int64) : Int32.ofInt (am_l2i x) = x.toInt32 := Int32.ofInt_toInt _
theorem so_lcm (x y : Int64) : Int32.ofInt (am_lcm x y) = lg_cmp x y := by
  unfold am_lcm lg_cmp
  by_cases h : y < x
  · rw [if_pos h, if_pos h]; rfl
  · rw [if_neg h, if_neg h]
    by_cases h2 : x = y
    · rw [if_pos h2, if_pos h2]; rfl
    · rw [if_neg h2, if_neg h2]; rfl
theorem so_lcmr (x y : Int64) : am_rg (am_lcm x y) := by
  unfold am_lcm am_rg
  split
  · omega
  · split <;> omega
theorem so_tle {x y : Int} (hx : 0 ≤ x) : x.tdiv y ≤ x := by
  rw [Int.tdiv_eq_ediv_of_nonneg hx]
  exact Int.ediv_le_self _ hx
theorem so_divr {x y : Int} (hx : am_rg x) (h : 0 < y) : am_rg (x.tdiv y) := by
  have q1 := hx.1
  have q2 := hx.2
  rcases Int.lt_or_le x 0 with h0 | h0
  · have h1 : (-x).tdiv y = -(x.tdiv y) := Int.neg_tdiv ..
    have h2 : 0 ≤ (-x).tdiv y := Int.tdiv_nonneg (by omega) (by omega)
    have h3 : (-x).tdiv y ≤ -x := so_tle (by omega)
    exact ⟨by omega, by omega⟩
  · have h2 : 0 ≤ x.tdiv y := Int.tdiv_nonneg h0 (by omega)
    have h3 : x.tdiv y ≤ x := so_tle h0
    exact ⟨by omega, by omega⟩
theorem so_div {x y : Int} (hx : am_rg x) (hy : am_rg y) (h : 0 < y) : Int32.ofInt (x.tdiv y) = Int32.ofInt x / Int32.ofInt y := by
  rw [← Int32.toInt_inj, Int32.toInt_div_of_ne_right _ _ (fun q => by
    have h1 := (so_eq (y := -1) hy ⟨by omega, by omega⟩).mp (q.trans (by decide))
    omega), so_ti hx, so_ti hy, so_ti (so_divr hx h)]
theorem so_rem {x y : Int} (hx : am_rg x) (hy : am_rg y) (h : 0 < y) : Int32.ofInt (x.tmod y) = Int32.ofInt x - Int32.ofInt x / Int32.ofInt y * Int32.ofInt y := by
  rw [← so_div hx hy h, ← Int32.ofInt_mul, ← Int32.ofInt_sub, Int.tmod_def, Int.mul_comm]
theorem so_remr {x y : Int} (hy : am_rg y) (h : 0 < y) : am_rg (x.tmod y) := by
  have h1 := Int.tmod_lt_of_pos x h
  have h2 := Int.lt_tmod_of_pos x h
  exact ⟨by have := hy.2; omega, by have := hy.2; omega⟩
theorem so_i2c {x : Int} (_hx : am_rg x) : ((Int32.ofInt x).toUInt32 % 65536).toInt32 = Int32.ofInt (x % 65536) := by
  rw [← Int32.toInt_inj, so_ti ⟨by omega, by omega⟩]
  have h1 : (Int32.ofInt x).toUInt32.toNat = (x % 4294967296).toNat := BitVec.toNat_ofInt ..
  have h2 : ((Int32.ofInt x).toUInt32 % 65536).toNat = (x % 65536).toNat := by
    rw [UInt32.toNat_mod, h1]
    show (x % 4294967296).toNat % 65536 = _
    omega
  have h3 : ((Int32.ofInt x).toUInt32 % 65536).toInt32.toInt = (((Int32.ofInt x).toUInt32 % 65536).toNat : Int).bmod 4294967296 := BitVec.toInt_eq_toNat_bmod _
  rw [h3, h2, Int.bmod_def]
  omega
