/-! The check, on windows of the bytes -/
theorem wi_dec {c w : ByteArray} {pc : Nat} {raw : am_I} {len : Nat} (he : wi_eq 5 c w pc 0) (hop : ∀ b, w.data[0]? = some b → wi_sp b.toNat = false) (h : decode w 0 = .ok (raw, len)) : decode c pc = .ok (raw, len) := by
  have e1 : ∀ (x : ByteArray) (z : Nat), decode x z = (match (Decoder.instr z).runAt x z with
    | .ok (i, n) => .ok (i, n - z)
    | .error e => .error e) := by
    intro x z
    show Except.bind ((Decoder.instr z).runAt x z) (fun v => Except.ok (v.1, v.2 - z)) = _
    cases (Decoder.instr z).runAt x z with
    | error e => rfl
    | ok v => rfl
  rw [e1] at h ⊢
  cases hr : (Decoder.instr 0).runAt w 0 with
  | error z => rw [hr] at h; cases h
  | ok v =>
    obtain ⟨i, n⟩ := v
    rw [hr] at h
    have h1 : (Except.ok (i, n - 0) : Except DecodeError (am_I × Nat)) = .ok (raw, len) := h
    obtain ⟨t, h2, h3, h4⟩ := wi_instr pc c w pc 0 i n he hop hr
    rw [h4]
    show (Except.ok (i, pc + t - pc) : Except DecodeError (am_I × Nat)) = .ok (raw, len)
    rw [← h1, h3]
    congr 2
    omega
def so_win (bs : List UInt8) : ByteArray := ⟨(bs.take 5).toArray⟩
theorem so_win_eq {c : ByteArray} {pc : Nat} {bs : List UInt8} (h : c.data.toList.drop pc = bs) : wi_eq 5 c (so_win bs) pc 0 := by
  intro i hi
  show ((bs.take 5).toArray)[0 + i]? = c.data[pc + i]?
  rw [List.getElem?_toArray, Nat.zero_add, List.getElem?_take, if_pos hi, ← h, List.getElem?_drop, Array.getElem?_toList]
def so_d1 (mi pc : Nat) (bs : List UInt8) : Option (am_I × Nat) := match bs with
  | [] => none
  | b :: _ => if wi_sp b.toNat then (decode (so_by mi) pc).toOption else (decode (so_win bs) 0).toOption
theorem so_d1_ok {mi pc : Nat} {bs : List UInt8} {r : am_I × Nat} (hbs : (so_by mi).data.toList.drop pc = bs) (h : so_d1 mi pc bs = some r) : decode (so_by mi) pc = .ok r := by
  have opt : ∀ {x : Except DecodeError (am_I × Nat)} {r : am_I × Nat}, x.toOption = some r → x = .ok r := by
    intro x r h
    cases x with
    | error z => cases h
    | ok z => cases h; rfl
  cases bs with
  | nil => cases h
  | cons b bs0 =>
    have h3 : (if wi_sp b.toNat then (decode (so_by mi) pc).toOption else (decode (so_win (b :: bs0)) 0).toOption) = some r := h
    by_cases hs : wi_sp b.toNat = true
    · rw [if_pos hs] at h3
      exact opt h3
    · rw [if_neg hs] at h3
      refine wi_dec (so_win_eq hbs) (fun b' hb => ?_) (opt h3)
      have hb' : some b = some b' := hb
      cases hb'
      exact Bool.eq_false_iff.mpr hs
def so_chw (mi : Nat) : Nat → List UInt8 → List am_I → Bool
  | _, _, [] => true
  | pc, _, .goto_w t :: _ => decide (t = (pc : Int))
  | pc, _, .new e :: _ => so_thr mi pc e
  | pc, bs, i :: is => match so_d1 mi pc bs with
    | some (raw, len) => so_ok mi pc raw len i && so_chw mi (pc + len) (bs.drop len) is
    | none => false
theorem so_chw_ok {mi : Nat} : ∀ (b : List am_I) (pc : Nat) (bs : List UInt8), (so_by mi).data.toList.drop pc = bs → so_chw mi pc bs b = true → so_chk mi pc b = true := by
  intro b
  induction b with
  | nil => intro pc bs _ _; rfl
  | cons i is ih =>
    intro pc bs hbs h
    by_cases h1 : ∃ t, i = .goto_w t
    · obtain ⟨t, rfl⟩ := h1
      exact h
    by_cases h2 : ∃ x, i = .new x
    · obtain ⟨x, rfl⟩ := h2
      exact h
    unfold so_chw at h
    split at h
    · rename_i heq; cases heq
    · rename_i heq; cases heq; exact absurd ⟨_, rfl⟩ h1
    · rename_i heq; cases heq; exact absurd ⟨_, rfl⟩ h2
    · rename_i heq
      cases heq
      split at h
      · rename_i raw len hd
        rw [Bool.and_eq_true] at h
        have hd' := so_d1_ok hbs hd
        have hr := ih _ _ (by rw [← hbs, List.drop_drop]) h.2
        rw [so_chk]
        · rw [hd']
          show (so_ok mi _ raw len _ && so_chk mi _ _) = true
          rw [Bool.and_eq_true]
          exact ⟨h.1, hr⟩
        · intro t q; exact h1 ⟨t, q⟩
        · intro t q; exact h2 ⟨t, q⟩
      · cases h
/-- a method's blocks from number a on, so many of them -/
def so_mow (mi a n : Nat) : Bool := match am_tb[mi]? with
  | some q => ((q.2.drop a).take n).all (fun r => so_chw mi r.1 ((so_by mi).data.toList.drop r.1) r.2)
  | none => false
