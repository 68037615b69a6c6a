/-! An instruction is decoded out of the few bytes from its place on -/
def wi_eq (n : Nat) (c w : ByteArray) (p q : Nat) : Prop := ∀ i, i < n → w.data[q + i]? = c.data[p + i]?
/-- what r' reads in w from q on, r reads in c from p on, if n bytes are the same there -/
def wi_rd {α : Type} (n : Nat) (r r' : Decoder α) : Prop := ∀ (c w : ByteArray) (p q : Nat) (a : α) (q' : Nat), wi_eq n c w p q → r'.runAt w q = .ok (a, q') → ∃ t, t ≤ n ∧ q' = q + t ∧ r.runAt c p = .ok (a, p + t)
theorem wi_mono {α : Type} {n k : Nat} {r r' : Decoder α} (h : wi_rd n r r') (hn : n ≤ k) : wi_rd k r r' := by
  intro c w p q a q' he hr
  obtain ⟨t, h1, h2, h3⟩ := h c w p q a q' (fun i hi => he i (by omega)) hr
  exact ⟨t, by omega, h2, h3⟩
theorem wi_pure {α : Type} (x : α) : wi_rd 0 (Pure.pure x) (Pure.pure x) := by
  intro c w p q a q' _ hr
  cases hr
  exact ⟨0, Nat.le_refl _, rfl, rfl⟩
theorem wi_u1 : wi_rd 1 Reader.u1 Reader.u1 := by
  intro c w p q a q' he hr
  have h0 := he 0 (by omega)
  simp only [Nat.add_zero] at h0
  have e1 : ∀ (x : ByteArray) (z : Nat), (Reader.u1 : Decoder Nat).runAt x z = if h : z < x.size then .ok (x[z].toNat, z + 1) else .error (DecodeError.truncated z) := by
    intro x z
    have e2 : (Reader.u1 : Decoder Nat).runAt x z = (if h : z < x.size then (fun (_ : ByteArray) (_ : Nat) => (Except.ok (x[z].toNat, z + 1) : Except DecodeError (Nat × Nat))) else (fun (_ : ByteArray) (_ : Nat) => Except.error (DecodeError.truncated z))) x z := rfl
    rw [e2]
    by_cases h : z < x.size
    · rw [dif_pos h, dif_pos h]
    · rw [dif_neg h, dif_neg h]
  rw [e1] at hr
  by_cases h : q < w.size
  · rw [dif_pos h] at hr
    have hw : w.data[q]? = some w.data[q] := Array.getElem?_eq_getElem h
    rw [hw] at h0
    have hp : p < c.size := by
      have := (Array.getElem?_eq_some_iff.mp h0.symm).1
      exact this
    have hv : c.data[p] = w.data[q] := (Array.getElem?_eq_some_iff.mp h0.symm).2
    cases hr
    refine ⟨1, Nat.le_refl _, rfl, ?_⟩
    rw [e1, dif_pos hp]
    show Except.ok ((c.data[p]).toNat, p + 1) = Except.ok ((w.data[q]).toNat, p + 1)
    rw [hv]
  · rw [dif_neg h] at hr
    cases hr
theorem wi_bind {α β : Type} {n k : Nat} {r r' : Decoder α} {f f' : α → Decoder β} (h : wi_rd n r r') (hf : ∀ a, wi_rd k (f a) (f' a)) : wi_rd (n + k) (r >>= f) (r' >>= f') := by
  intro c w p q b q' he hr
  have e1 : ∀ (x : ByteArray) (z : Nat) (r : Decoder α) (f : α → Decoder β), (r >>= f).runAt x z = (match r.runAt x z with
    | .ok (a, z1) => (f a).runAt x z1
    | .error e => .error e) := by
    intro x z r f
    show Except.bind (r x z) (fun v => f v.1 x v.2) = (match (r x z : Except DecodeError (α × Nat)) with
      | .ok (a, z1) => f a x z1
      | .error e => .error e)
    cases r x z with
    | error e => rfl
    | ok v => rfl
  rw [e1] at hr
  cases hr1 : r'.runAt w q with
  | error e => rw [hr1] at hr; cases hr
  | ok y =>
    obtain ⟨a, z1⟩ := y
    rw [hr1] at hr
    obtain ⟨t, h1, h2, h3⟩ := h c w p q a z1 (fun i hi => he i (by omega)) hr1
    subst h2
    obtain ⟨t2, h4, h5, h6⟩ := hf a c w (p + t) (q + t) b q' (fun i hi => by have := he (t + i) (by omega); rw [← Nat.add_assoc, ← Nat.add_assoc] at this; exact this) hr
    refine ⟨t + t2, by omega, by omega, ?_⟩
    rw [e1, h3]
    show (f a).runAt c (p + t) = _
    rw [h6, Nat.add_assoc]
theorem wi_map {α β : Type} {n : Nat} {r r' : Decoder α} (g : α → β) (h : wi_rd n r r') : wi_rd n (g <$> r) (g <$> r') := by
  have := wi_bind (k := 0) h (fun a => wi_pure (g a))
  exact this
theorem wi_u2 : wi_rd 2 Reader.u2 Reader.u2 := wi_bind wi_u1 (fun _ => wi_bind (k := 0) wi_u1 (fun _ => wi_pure _))
theorem wi_u4 : wi_rd 4 Reader.u4 Reader.u4 := wi_bind wi_u2 (fun _ => wi_bind (k := 0) wi_u2 (fun _ => wi_pure _))
theorem wi_s1 : wi_rd 1 Reader.s1 Reader.s1 := wi_map _ wi_u1
theorem wi_s2 : wi_rd 2 Reader.s2 Reader.s2 := wi_map _ wi_u2
theorem wi_s4 : wi_rd 4 Reader.s4 Reader.s4 := wi_map _ wi_u4
theorem wi_throw {α : Type} (n : Nat) (r : Decoder α) (x : DecodeError) : wi_rd n r (MonadExcept.throw x) := by
  intro c w p q a q' _ hr
  cases hr
/-- opcodes that are read otherwise -/
def wi_sp (op : Nat) : Bool := op == 170 || (op == 171 || (op == 185 || (op == 186 || (op == 188 || (op == 196 || op == 197)))))
theorem wi_run_bind {α β : Type} (x : ByteArray) (z : Nat) (r : Decoder α) (f : α → Decoder β) : (r >>= f).runAt x z = (match r.runAt x z with
    | .ok (a, z1) => (f a).runAt x z1
    | .error e => .error e) := by
  show Except.bind (r x z) (fun v => f v.1 x v.2) = (match (r x z : Except DecodeError (α × Nat)) with
      | .ok (a, z1) => f a x z1
      | .error e => .error e)
  cases r x z with
  | error e => rfl
  | ok v => rfl
theorem wi_op {w : ByteArray} {q op q1 : Nat} (h : (Reader.u1 : Decoder Nat).runAt w q = .ok (op, q1)) : ∃ b, w.data[q]? = some b ∧ op = b.toNat := by
  have e2 : (Reader.u1 : Decoder Nat).runAt w q = (if h : q < w.size then (fun (_ : ByteArray) (_ : Nat) => (Except.ok (w[q].toNat, q + 1) : Except DecodeError (Nat × Nat))) else (fun (_ : ByteArray) (_ : Nat) => Except.error (DecodeError.truncated q))) w q := rfl
  rw [e2] at h
  by_cases hq : q < w.size
  · rw [dif_pos hq] at h
    cases h
    exact ⟨w.data[q], Array.getElem?_eq_getElem hq, rfl⟩
  · rw [dif_neg hq] at h
    cases h
theorem wi_fin {r r' : Decoder am_I} {c w : ByteArray} {p q : Nat} {a : am_I} {q' : Nat} (h : wi_rd 4 r r') (he : wi_eq 4 c w (p + 1) (q + 1)) (hr : r'.runAt w (q + 1) = .ok (a, q')) : ∃ t, t ≤ 5 ∧ q' = q + t ∧ r.runAt c (p + 1) = .ok (a, p + t) := by
  obtain ⟨t, h1, h2, h3⟩ := h c w (p + 1) (q + 1) a q' he hr
  exact ⟨1 + t, by omega, by omega, by rw [h3, Nat.add_assoc]⟩
set_option maxHeartbeats 4000000 in
set_option maxRecDepth 100000 in
theorem wi_instr (pc : Nat) (c w : ByteArray) (p q : Nat) (a : am_I) (q' : Nat) (he : wi_eq 5 c w p q) (hop : ∀ b, w.data[q]? = some b → wi_sp b.toNat = false) (h : (Decoder.instr 0).runAt w q = .ok (a, q')) : ∃ t, t ≤ 5 ∧ q' = q + t ∧ (Decoder.instr pc).runAt c p = .ok (a, p + t) := by
  unfold Decoder.instr at h ⊢
  rw [wi_run_bind] at h ⊢
  cases hu : (Reader.u1 : Decoder Nat).runAt w q with
  | error z => rw [hu] at h; cases h
  | ok v =>
    obtain ⟨op, q1⟩ := v
    rw [hu] at h
    obtain ⟨t, h1, h2, h3⟩ := wi_u1 c w p q op q1 (fun i hi => he i (by omega)) hu
    have hsp : wi_sp op = false := by
      obtain ⟨b, hb, rfl⟩ := wi_op hu
      exact hop b hb
    have ht : t = 1 := by
      have e2 : (Reader.u1 : Decoder Nat).runAt w q = (if h : q < w.size then (fun (_ : ByteArray) (_ : Nat) => (Except.ok (w[q].toNat, q + 1) : Except DecodeError (Nat × Nat))) else (fun (_ : ByteArray) (_ : Nat) => Except.error (DecodeError.truncated q))) w q := rfl
      rw [e2] at hu
      by_cases hq : q < w.size
      · rw [dif_pos hq] at hu
        cases hu
        omega
      · rw [dif_neg hq] at hu
        cases hu
    subst ht
    subst h2
    rw [h3]
    have he1 : wi_eq 4 c w (p + 1) (q + 1) := fun i hi => by
      have := he (1 + i) (by omega)
      rw [← Nat.add_assoc, ← Nat.add_assoc] at this
      exact this
    clear hu h3 hop he
    dsimp only at h ⊢
    split at h
    all_goals first
      | exact wi_fin (wi_mono (wi_pure _) (by omega)) he1 h
      | exact wi_fin (wi_mono (wi_bind (k := 0) wi_u1 (fun _ => wi_pure _)) (by omega)) he1 h
      | exact wi_fin (wi_mono (wi_bind (k := 0) wi_u2 (fun _ => wi_pure _)) (by omega)) he1 h
      | exact wi_fin (wi_mono (wi_bind (k := 0) wi_s1 (fun _ => wi_pure _)) (by omega)) he1 h
      | exact wi_fin (wi_mono (wi_bind (k := 0) wi_s2 (fun _ => wi_pure _)) (by omega)) he1 h
      | exact wi_fin (wi_mono (wi_bind (k := 0) wi_s4 (fun _ => wi_pure _)) (by omega)) he1 h
      | exact wi_fin (wi_mono (wi_bind wi_u1 (fun _ => wi_bind (k := 0) wi_s1 (fun _ => wi_pure _))) (by omega)) he1 h
      | exact absurd hsp (by decide)
      | exact wi_fin (wi_throw 4 _ _) he1 h
