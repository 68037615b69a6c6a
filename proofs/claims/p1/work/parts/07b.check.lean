/-! Our blocks are those of the bytecode: what a program checks -/
def so_n4 : List (Fin 4) := [0, 1, 2, 3]
def so_n2 : List (Fin 2) := [0, 1]
def so_fi (own : Nat) (raw : am_I) (len : Nat) (put : Bool) (c j : Nat) (q : Nat × Nat × Nat × Nat × Nat) : Bool := decide (raw = (if put then .putfield q.2.1 else .getfield q.2.1) ∧ len = 3 ∧ q.1 = own ∧ q.2.2.1 = c ∧ q.2.2.2.1 = j ∧ 0 < c ∧ c < 12 ∧ j < sN c)
def so_fa (own : Nat) (raw : am_I) (len : Nat) (put : Bool) (c j : Nat) : Bool := (so_fd.filter (fun q => decide (q.2.2.2.1 = j ∧ q.2.2.1 = c ∧ q.1 = own))).any (so_fi own raw len put c j) || (so_fn.filter (fun q => decide (q.2.2.2.1 = j ∧ q.2.2.1 = c ∧ q.1 = own))).any (so_fi own raw len put c j)
/-- mi: the method's place -/
def so_ok (mi pc : Nat) (raw : am_I) (len : Nat) (i : am_I) : Bool :=
  match i with
  | .iconst n => decide (raw = .iconst n ∧ len = 1 ∧ am_rgb n = true) || (decide (raw = .bipush n ∧ len = 2 ∧ -128 ≤ n ∧ n < 128) || decide (raw = .sipush n ∧ len = 3 ∧ -32768 ≤ n ∧ n < 32768))
  | .jsr_w n => so_n2.any (fun f => decide (raw = .lconst f ∧ len = 1 ∧ n = (f.val : Int))) || so_ls.any (fun q => decide (raw = .ldc2_w q.2.1 ∧ len = 3 ∧ q.1 = so_ow mi ∧ q.2.2.1 = n))
  | .ldc s => so_ss.any (fun q => decide (raw = .ldc q.2.1 ∧ len = 2 ∧ q.1 = so_ow mi ∧ q.2.2.1 = s))
  | .iload k => decide (raw = .iload k ∧ len = 2) || so_n4.any (fun f => decide (raw = .iload_n f ∧ len = 1 ∧ f.val = k))
  | .lload k => decide (raw = .lload k ∧ len = 2) || so_n4.any (fun f => decide (raw = .lload_n f ∧ len = 1 ∧ f.val = k))
  | .aload k => decide (raw = .aload k ∧ len = 2) || so_n4.any (fun f => decide (raw = .aload_n f ∧ len = 1 ∧ f.val = k))
  | .istore k => decide (raw = .istore k ∧ len = 2 ∧ k < (so_mlL[mi]?).getD 0) || so_n4.any (fun f => decide (raw = .istore_n f ∧ len = 1 ∧ f.val = k ∧ k < (so_mlL[mi]?).getD 0))
  | .lstore k => decide (raw = .lstore k ∧ len = 2 ∧ k + 1 < (so_mlL[mi]?).getD 0) || so_n4.any (fun f => decide (raw = .lstore_n f ∧ len = 1 ∧ f.val = k ∧ k + 1 < (so_mlL[mi]?).getD 0))
  | .astore k => decide (raw = .astore k ∧ len = 2 ∧ k < (so_mlL[mi]?).getD 0) || so_n4.any (fun f => decide (raw = .astore_n f ∧ len = 1 ∧ f.val = k ∧ k < (so_mlL[mi]?).getD 0))
  | .iinc k n => decide (raw = .iinc k n ∧ len = 3 ∧ k < (so_mlL[mi]?).getD 0)
  | .invokeinterface c j => so_fa (so_ow mi) raw len false c j && decide ((so_fl c)[j]? = some true)
  | .getstatic g => so_fa (so_ow mi) raw len false (g / 64) (g % 64) && decide ((so_fl (g / 64))[g % 64]? = some false)
  | .multianewarray c j => so_fa (so_ow mi) raw len true c j && decide ((so_fl c)[j]? = some true ∧ (sT c j).2.2 = ("I", false))
  | .instanceof g => so_fa (so_ow mi) raw len true (g / 64) (g % 64) && decide ((so_fl (g / 64))[g % 64]? = some true ∧ (sT (g / 64) (g % 64)).2.2 = ("Z", false))
  | .putstatic j => so_fa (so_ow mi) raw len true 10 j && decide ((j = 2 ∨ j = 3) ∧ (sT 10 j).2.2 = ("LProofWorkbench$Proof;", false))
  | .if_icmp c t => decide (raw = .if_icmp c (t - (pc : Int)) ∧ len = 3 ∧ 0 ≤ t)
  | .ifCond c t => decide (raw = .ifCond c (t - (pc : Int)) ∧ len = 3 ∧ 0 ≤ t)
  | .goto t => decide (raw = .goto (t - (pc : Int)) ∧ len = 3 ∧ 0 ≤ t)
  | .tableswitch df lo hi ts => decide (raw = .tableswitch (df - (pc : Int)) lo hi (ts.map (fun t => t - (pc : Int))) ∧ 0 ≤ df ∧ (ts.toList.all (fun t => decide (0 ≤ t))) = true ∧ (ts.size : Int) = hi - lo + 1)
  | .ireturn => decide (raw = .ireturn ∧ len = 1 ∧ so_rt mi = some .int)
  | .freturn => decide (raw = .ireturn ∧ len = 1 ∧ so_rt mi = some .boolean)
  | .dreturn => decide (raw = .ireturn ∧ len = 1 ∧ so_rt mi = some .char)
  | .lreturn => decide (raw = .lreturn ∧ len = 1 ∧ so_rt mi = some .long)
  | .areturn => decide (raw = .areturn ∧ len = 1) && (match so_rt mi with
    | some (.object _) => true
    | _ => false)
  | .return_ => decide (raw = .return_ ∧ len = 1 ∧ so_rt mi = none)
  | .invokevirtual g => (so_cs.filter (fun q => decide (q.2.2.1 = g ∧ q.1 = so_ow mi))).any (fun q => decide (raw = .invokevirtual q.2.1 ∧ len = 3 ∧ q.1 = so_ow mi ∧ q.2.2.1 = g ∧ g / 1024 % 16 ≠ 0 ∧ (so_gs[g / 16384]?) = some g ∧ g / 16384 < 207 ∧ (parseMethodDescriptor (so_y (g / 16384)).desc).map (fun d => d.parameters.length + 1) = some (g / 2 % 16) ∧ (so_hh mi).all (fun h => decide (h.1 ≤ pc ∧ pc < h.2.1)) = true))
  | .invokestatic g => (so_cs.filter (fun q => decide (q.2.2.1 = g ∧ q.1 = so_ow mi))).any (fun q => decide (raw = .invokestatic q.2.1 ∧ len = 3 ∧ q.1 = so_ow mi ∧ q.2.2.1 = g ∧ g / 1024 % 16 = 0 ∧ (so_gs[g / 16384]?) = some g ∧ g / 16384 < 207 ∧ (parseMethodDescriptor (so_y (g / 16384)).desc).map (fun d => d.parameters.length) = some (g / 2 % 16) ∧ (so_hh mi).all (fun h => decide (h.1 ≤ pc ∧ pc < h.2.1)) = true))
  | .invokedynamic k => decide (so_hh mi = []) && so_js.any (fun q => decide (raw = (if k < 2 then .invokevirtual q.2.1 else .invokestatic q.2.1) ∧ len = 3 ∧ q.1 = so_ow mi ∧ q.2.2.1 = k))
  | .iand | .ior | .ixor | .ishl | .ishr | .i2l | .l2i | .i2c | .ladd | .lmul | .land | .lor | .lshl | .lshr | .lushr | .lcmp | .pop | .dup | .dup_x1 | .dup2 | .arraylength
  | .iadd | .isub | .imul | .ineg | .idiv | .irem | .iaload | .baload | .caload | .laload | .aaload | .iastore | .bastore | .castore | .lastore => decide (raw = i ∧ len = 1)
  | _ => false
def so_thr (mi pc e : Nat) : Bool := so_es.any (fun q => decide (q.1 = so_ow mi ∧ q.2.2.2.1 = e ∧ (decode (so_by mi) pc).toOption = some (.new q.2.1, 3) ∧ (decode (so_by mi) (pc + 3)).toOption = some (.dup, 1) ∧ (decode (so_by mi) (pc + 4)).toOption = some (.invokespecial q.2.2.1, 3) ∧ (decode (so_by mi) (pc + 7)).toOption = some (.athrow, 1) ∧ so_hh mi = [] ∧ so_ow mi = 1))
def so_chk (mi : Nat) : Nat → List am_I → Bool
  | _, [] => true
  | pc, .goto_w t :: _ => decide (t = (pc : Int))
  | pc, .new e :: _ => so_thr mi pc e
  | pc, i :: is => match decode (so_by mi) pc with
    | .ok (raw, len) => so_ok mi pc raw len i && so_chk mi (pc + len) is
    | .error _ => false
def so_mok (mi : Nat) : Bool := match am_tb[mi]? with
  | some q => decide (q.1 / 16384 = mi ∧ q.1 / 32 % 32 = (so_mlL[mi]?).getD 0 ∧ so_gs[mi]? = some q.1) && q.2.all (fun r => so_chk mi r.1 r.2)
  | none => false
