/-! The bits of a typed word, and the place of a key -/
def hp_at (key : Int64) : Int := am_l2i (am_lur (key * Int64.ofInt (-7046029254386353131)) 54)
theorem hp_at_rg (key : Int64) : 0 ≤ hp_at key ∧ hp_at key < 1024 := by
  unfold hp_at
  generalize key * Int64.ofInt (-7046029254386353131) = x
  have h1 : ((Int32.ofInt 54).toInt64.toUInt64 &&& Int64.toUInt64 63) = 54 := by decide
  unfold am_lur am_l2i
  rw [h1]
  have h2 : (x.toUInt64 >>> 54).toNat < 1024 := by
    rw [UInt64.toNat_shiftRight, Nat.shiftRight_eq_div_pow]
    have := x.toUInt64.toNat_lt
    have e : UInt64.toNat 54 % 64 = 54 := rfl
    rw [e]
    omega
  generalize x.toUInt64 >>> 54 = y at h2
  have e0 : y.toInt64.toInt = (y.toNat : Int) := by
    show y.toBitVec.toInt = _
    rw [BitVec.toInt_eq_toNat_bmod]
    show Int.bmod (y.toNat : Int) (2 ^ 64) = _
    exact Int.bmod_eq_of_le_mul_two (by omega) (by omega)
  have e : y.toInt64.toInt32.toInt = (y.toNat : Int) := by
    rw [Int64.toInt_toInt32, e0]
    exact Int.bmod_eq_of_le_mul_two (by omega) (by omega)
  rw [e]
  omega
/-- the two shifts give the same character -/
theorem ty_bits (w : BitVec 64) (k : Nat) (hk : k ≤ 56) : ((w >>> k).setWidth 32 &&& 255#32) = (w.sshiftRight k &&& 255#64).setWidth 32 := by
  apply BitVec.eq_of_getLsbD_eq
  intro i hi
  simp only [BitVec.getLsbD_and, BitVec.getLsbD_setWidth, BitVec.getLsbD_ushiftRight, BitVec.getLsbD_sshiftRight]
  by_cases h8 : i < 8
  · have : ¬ 64 ≤ i := by omega
    have : k + i < 64 := by omega
    simp [*]
    have e32 : ∀ i, i < 8 → (255#32).getLsbD i = true := by decide
    have e64 : ∀ i, i < 8 → (255#64).getLsbD i = true := by decide
    have h3 : i < 32 := by omega
    simp [e32 i h8, e64 i h8, h3]
  · have e32 : ∀ i, i < 32 → ¬ i < 8 → (255#32).getLsbD i = false := by decide
    have e64 : ∀ i, i < 32 → ¬ i < 8 → (255#64).getLsbD i = false := by decide
    simp [e32 i hi h8, e64 i hi h8]
theorem ty_zero (w : BitVec 64) (h : (w &&& 255#64).setWidth 32 = 0#32) : w &&& 255#64 = 0#64 := by
  apply BitVec.eq_of_getLsbD_eq
  intro i hi
  by_cases h8 : i < 8
  · have h1 : ((w &&& 255#64).setWidth 32).getLsbD i = false := by rw [h]; simp
    rw [BitVec.getLsbD_setWidth] at h1
    have h3 : i < 32 := by omega
    simp [h3] at h1 ⊢
    exact h1
  · have e64 : ∀ i, i < 64 → ¬ i < 8 → (255#64).getLsbD i = false := by decide
    rw [BitVec.getLsbD_and, e64 i hi h8]
    simp
theorem ty_sr (w : Int64) : ∀ n : Nat, n < 8 → (am_lsr w (8 * (n : Int))).toBitVec = w.toBitVec.sshiftRight (8 * n)
  | 0, _ => rfl
  | 1, _ => rfl
  | 2, _ => rfl
  | 3, _ => rfl
  | 4, _ => rfl
  | 5, _ => rfl
  | 6, _ => rfl
  | 7, _ => rfl
  | n + 8, h => by omega
theorem ty_ur (w : Int64) : ∀ n : Nat, n < 8 → (am_lur w (8 * (n : Int))).toBitVec = w.toBitVec >>> (8 * n)
  | 0, _ => rfl
  | 1, _ => rfl
  | 2, _ => rfl
  | 3, _ => rfl
  | 4, _ => rfl
  | 5, _ => rfl
  | 6, _ => rfl
  | 7, _ => rfl
  | n + 8, h => by omega
theorem ty_l2i (w : Int64) (n : Nat) (hn : n < 8) : am_l2i (am_lsr w (8 * (n : Int)) &&& Int64.ofInt 255) = ty_c w n := by
  unfold ty_c am_and am_l2i
  rw [Int32.ofInt_toInt]
  congr 1
  apply Int32.toBitVec_inj.mp
  show ((am_lsr w (8 * (n : Int))).toBitVec &&& 255#64).signExtend 32 = ((am_lur w (8 * (n : Int))).toBitVec).signExtend 32 &&& 255#32
  rw [ty_sr w n hn, ty_ur w n hn, BitVec.signExtend_eq_setWidth_of_le _ (by decide), BitVec.signExtend_eq_setWidth_of_le _ (by decide)]
  exact (ty_bits _ _ (by omega)).symm
theorem ty_nz (w : Int64) (n : Nat) (hn : n < 8) : am_lcm (am_lsr w (8 * (n : Int)) &&& Int64.ofInt 255) (Int64.ofInt 0) = 0 ↔ ty_c w n = 0 := by
  rw [← ty_l2i w n hn]
  generalize hx : am_lsr w (8 * (n : Int)) = x
  constructor
  · intro h
    unfold am_lcm at h
    by_cases h1 : Int64.ofInt 0 < x &&& Int64.ofInt 255
    · rw [if_pos h1] at h
      cases h
    · rw [if_neg h1] at h
      by_cases h2 : x &&& Int64.ofInt 255 = Int64.ofInt 0
      · rw [h2]
        rfl
      · rw [if_neg h2] at h
        cases h
  · intro h
    have h3 : (x &&& Int64.ofInt 255) = Int64.ofInt 0 := by
      apply Int64.toBitVec_inj.mp
      show x.toBitVec &&& 255#64 = 0#64
      apply ty_zero
      have h4 : (x &&& Int64.ofInt 255).toInt32 = 0 := by
        apply Int32.toInt_inj.mp
        exact h
      rw [← BitVec.signExtend_eq_setWidth_of_le _ (by decide)]
      exact congrArg Int32.toBitVec h4
    rw [h3]
    decide
theorem ty_rg (w : Int64) (n : Int) : 0 ≤ ty_c w n ∧ ty_c w n ≤ 255 := by
  unfold ty_c am_and
  generalize Int32.ofInt (am_l2i (am_lur w (8 * n))) = x
  have e : (x &&& Int32.ofInt 255).toBitVec.toNat ≤ 255 := by
    show (x.toBitVec &&& 255#32).toNat ≤ 255
    rw [BitVec.toNat_and]
    exact Nat.and_le_right
  have e2 : (x &&& Int32.ofInt 255).toInt = ((x &&& Int32.ofInt 255).toBitVec.toNat : Int) := by
    show (x &&& Int32.ofInt 255).toBitVec.toInt = _
    rw [BitVec.toInt_eq_toNat_bmod]
    exact Int.bmod_eq_of_le_mul_two (by omega) (by omega)
  rw [e2]
  omega
