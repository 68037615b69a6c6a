/-! The keys of sequents -/
def hv (l : List Int) : Nat := l.foldl (fun a x => 128 * a + x.toNat) 1
theorem hv_app (l : List Int) (x : Int) : hv (l ++ [x]) = 128 * hv l + x.toNat := by
  unfold hv
  rw [List.foldl_append]
  rfl
theorem hv_pos (l : List Int) : 1 ≤ hv l := by
  rcases List.eq_nil_or_concat l with rfl | ⟨m, x, rfl⟩
  · exact Nat.le_refl _
  · rw [List.concat_eq_append, hv_app]
    have : ∀ n : Nat, ∀ l : List Int, l.length = n → 1 ≤ hv l := by
      intro n
      induction n with
      | zero => intro l hl; rw [List.length_eq_zero_iff.mp hl]; exact Nat.le_refl _
      | succ n ih =>
        intro l hl
        rcases List.eq_nil_or_concat l with rfl | ⟨m, x, rfl⟩
        · cases hl
        · rw [List.concat_eq_append] at hl ⊢
          rw [List.length_append, List.length_singleton] at hl
          rw [hv_app]
          have := ih m (by omega)
          omega
    have := this m.length m rfl
    omega
def dg (l : List Int) : Prop := ∀ x ∈ l, 0 ≤ x ∧ x < 128
theorem hv_inj : ∀ (n : Nat) (l m : List Int), l.length = n → dg l → dg m → hv l = hv m → l = m
  | 0, l, m, hn, _, _, h => by
    rw [List.length_eq_zero_iff.mp hn] at h ⊢
    rcases List.eq_nil_or_concat m with rfl | ⟨m', x, rfl⟩
    · rfl
    · rw [List.concat_eq_append, hv_app] at h
      have := hv_pos m'
      have h : 1 = 128 * hv m' + x.toNat := h
      omega
  | n + 1, l, m, hn, hl, hm, h => by
    rcases List.eq_nil_or_concat l with rfl | ⟨l', x, rfl⟩
    · cases hn
    rcases List.eq_nil_or_concat m with rfl | ⟨m', y, rfl⟩
    · rw [List.concat_eq_append, hv_app] at h
      have := hv_pos l'
      have h : 128 * hv l' + x.toNat = 1 := h
      omega
    rw [List.concat_eq_append] at hn hl h
    rw [List.concat_eq_append] at hm h
    rw [List.concat_eq_append, List.concat_eq_append]
    rw [hv_app, hv_app] at h
    rw [List.length_append, List.length_singleton] at hn
    have hx := hl x (List.mem_append_right _ (List.mem_singleton.mpr rfl))
    have hy := hm y (List.mem_append_right _ (List.mem_singleton.mpr rfl))
    have e1 : hv l' = hv m' := by omega
    have e2 : x = y := by omega
    rw [hv_inj n l' m' (by omega) (fun z hz => hl z (List.mem_append_left _ hz)) (fun z hz => hm z (List.mem_append_left _ hz)) e1, e2]
theorem hv_lt : ∀ (n : Nat) (l : List Int), l.length = n → dg l → hv l < 2 ^ (7 * n + 1)
  | 0, l, hn, _ => by rw [List.length_eq_zero_iff.mp hn]; decide
  | n + 1, l, hn, hl => by
    rcases List.eq_nil_or_concat l with rfl | ⟨l', x, rfl⟩
    · cases hn
    rw [List.concat_eq_append] at hn hl ⊢
    rw [List.length_append, List.length_singleton] at hn
    have hx := hl x (List.mem_append_right _ (List.mem_singleton.mpr rfl))
    have ih := hv_lt n l' (by omega) (fun z hz => hl z (List.mem_append_left _ hz))
    rw [hv_app, show 7 * (n + 1) + 1 = (7 * n + 1) + 7 by omega, Nat.pow_add]
    have e : (2 : Nat) ^ 7 = 128 := by decide
    rw [e]
    omega
theorem i2l_s : ∀ x : Fin 128, am_i2l (x.val : Int) = Int64.ofNat x.val := by decide +kernel
theorem i2l_n {x : Int} (h : 0 ≤ x ∧ x < 128) : am_i2l x = Int64.ofNat x.toNat := by
  have := i2l_s ⟨x.toNat, by omega⟩
  have e : ((x.toNat : Nat) : Int) = x := by omega
  show am_i2l x = _
  rw [show (((⟨x.toNat, by omega⟩ : Fin 128).val : Nat) : Int) = x from e] at this
  exact this
theorem key_st {a : Nat} {x : Int} (ha : a < 2 ^ 50) (hx : 0 ≤ x ∧ x < 128) : am_lsl (Int64.ofNat a) 7 ||| am_i2l x = Int64.ofNat (128 * a + x.toNat) := by
  rw [i2l_n hx]
  apply Int64.toBitVec_inj.mp
  have e0 : ((Int32.ofInt 7).toInt64 &&& 63) = (7 : Int64) := by decide
  have e1 : (am_lsl (Int64.ofNat a) 7).toBitVec = BitVec.ofNat 64 a <<< 7 := by
    unfold am_lsl
    rw [e0, Int64.toBitVec_shiftLeft]
    rfl
  rw [Int64.toBitVec_or, e1]
  apply BitVec.eq_of_toNat_eq
  show (BitVec.ofNat 64 a <<< 7 ||| BitVec.ofNat 64 x.toNat).toNat = (BitVec.ofNat 64 (128 * a + x.toNat)).toNat
  have h2 : x.toNat < 2 ^ 7 := by have : (2 : Nat) ^ 7 = 128 := by decide
                                  omega
  have e64 : (2 : Nat) ^ 64 = 18446744073709551616 := by decide
  have e50 : (2 : Nat) ^ 50 = 1125899906842624 := by decide
  have e7 : (2 : Nat) ^ 7 = 128 := by decide
  rw [BitVec.toNat_or, BitVec.toNat_shiftLeft, BitVec.toNat_ofNat, BitVec.toNat_ofNat, BitVec.toNat_ofNat, Nat.mod_eq_of_lt (show a < 2 ^ 64 by omega), Nat.mod_eq_of_lt (show x.toNat < 2 ^ 64 by omega), Nat.shiftLeft_eq, Nat.mod_eq_of_lt (show a * 2 ^ 7 < 2 ^ 64 by omega), ← Nat.shiftLeft_eq, ← Nat.shiftLeft_add_eq_or_of_lt h2, Nat.shiftLeft_eq, Nat.mod_eq_of_lt (show 128 * a + x.toNat < 2 ^ 64 by omega)]
  omega
theorem hk_hv : ∀ (n : Nat) (l : List Int), l.length = n → n ≤ 8 → dg l → hk l = Int64.ofNat (hv l)
  | 0, l, hn, _, _ => by rw [List.length_eq_zero_iff.mp hn]; rfl
  | n + 1, l, hn, h8, hl => by
    rcases List.eq_nil_or_concat l with rfl | ⟨l', x, rfl⟩
    · cases hn
    rw [List.concat_eq_append] at hn hl ⊢
    rw [List.length_append, List.length_singleton] at hn
    have hx := hl x (List.mem_append_right _ (List.mem_singleton.mpr rfl))
    have hl' : dg l' := fun z hz => hl z (List.mem_append_left _ hz)
    have ih := hk_hv n l' (by omega) (by omega) hl'
    have hlt := hv_lt n l' (by omega) hl'
    have h50 : hv l' < 2 ^ 50 := Nat.lt_of_lt_of_le hlt (Nat.pow_le_pow_right (by decide) (by omega))
    have e : hk (l' ++ [x]) = am_lsl (hk l') 7 ||| am_i2l x := by
      unfold hk
      rw [List.foldl_append]
      rfl
    rw [e, ih, key_st h50 hx, hv_app]
theorem of_inj {a b : Nat} (ha : a < 2 ^ 63) (hb : b < 2 ^ 63) (h : Int64.ofNat a = Int64.ofNat b) : a = b := by
  have h1 := congrArg (fun q : Int64 => q.toBitVec.toNat) h
  have h1 : (BitVec.ofNat 64 a).toNat = (BitVec.ofNat 64 b).toNat := h1
  have e64 : (2 : Nat) ^ 64 = 18446744073709551616 := by decide
  have e63 : (2 : Nat) ^ 63 = 9223372036854775808 := by decide
  rw [BitVec.toNat_ofNat, BitVec.toNat_ofNat, Nat.mod_eq_of_lt (by omega), Nat.mod_eq_of_lt (by omega)] at h1
  exact h1
theorem sv_dg {T : ftT} (hT : T.length ≤ 60) {s : List Int} (h : sv T s) : dg s := fun x hx => by have := h.2.1 x hx; omega
theorem hv_57 {l : List Int} (h8 : l.length ≤ 8) (hd : dg l) : hv l < 2 ^ 63 := Nat.lt_of_lt_of_le (hv_lt _ l rfl hd) (Nat.pow_le_pow_right (by decide) (by omega))
theorem hk_inj {s t : List Int} (hs : s.length ≤ 8) (ds : dg s) (ht : t.length ≤ 8) (dt : dg t) (h : hk s = hk t) : s = t := by
  rw [hk_hv _ s rfl hs ds, hk_hv _ t rfl ht dt] at h
  exact hv_inj _ s t rfl ds dt (of_inj (hv_57 hs ds) (hv_57 ht dt) h)
theorem hk_nz {s : List Int} (hs : s.length ≤ 8) (ds : dg s) : hk s ≠ 0 := by
  intro h
  rw [hk_hv _ s rfl hs ds] at h
  have h0 : Int64.ofNat (hv s) = Int64.ofNat 0 := h
  have := of_inj (hv_57 hs ds) (by decide) h0
  have := hv_pos s
  omega
