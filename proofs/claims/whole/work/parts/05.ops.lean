/-! How an instruction is resolved to an op; every printed op is the resolved instruction at its place. -/
def condNo (c : ClassFile.Cond) : Nat := match c with
  | .eq => 0
  | .ne => 1
  | .lt => 2
  | .ge => 3
  | .gt => 4
  | .le => 5
def atNo (a : ArrayType) : Nat := match a with
  | .int => 10
  | .byte => 11
  | .long => 12
  | .boolean => 13
  | _ => 99
def look2 {α : Type} (l : List ((Nat × Nat) × α)) (a b : Nat) : Option α := (l.find? (fun q => q.1.1 == a && q.1.2 == b)).map (fun q => q.2)
def opLdc (ow idx n : Nat) : Op := match look2 ldcL ow idx with
  | some (k, v, s) => (k, v, s, 0, n, [])
  | none => (99, 0, 0, 0, 0, [])
def opCal (ow kind idx n : Nat) : Op := match look2 calL ow idx with
  | some (k, x, na) => (k, kind, x, na, n, [])
  | none => (99, 0, 0, 0, 0, [])
def opFld (k ow idx n : Nat) : Op := match look2 fldL ow idx with
  | some (ci, s) => (k, 0, s, ci, n, [])
  | none => (99, 0, 0, 0, 0, [])
def opNew (ow idx n : Nat) : Op := match look2 newL ow idx with
  | some (k, x) => (k, 0, x, 0, n, [])
  | none => (99, 0, 0, 0, 0, [])
def opAne (ow idx n : Nat) : Op := match look2 aneL ow idx with
  | some x => (30, 0, x, 0, n, [])
  | none => (99, 0, 0, 0, 0, [])
def opMul (ow idx n : Nat) : Op := match look2 aneL ow idx with
  | some x => (31, 0, x, 0, n, [])
  | none => (99, 0, 0, 0, 0, [])
def opOf (ow pc : Nat) (i : Instr) (len : Nat) : Op := match i with
  | .iconst v => (0, v, 0, 0, pc + len, [])
  | .bipush v => (0, v, 0, 0, pc + len, [])
  | .sipush v => (0, v, 0, 0, pc + len, [])
  | .ldc idx => opLdc ow idx (pc + len)
  | .ldc_w idx => opLdc ow idx (pc + len)
  | .ldc2_w idx => opLdc ow idx (pc + len)
  | .lconst k => (1, (k : Nat), 0, 0, pc + len, [])
  | .iload_n k => (2, 0, k, 0, pc + len, [])
  | .aload_n k => (2, 0, k, 1, pc + len, [])
  | .lload_n k => (2, 0, k, 2, pc + len, [])
  | .iload k => (2, 0, k, 0, pc + len, [])
  | .aload k => (2, 0, k, 1, pc + len, [])
  | .lload k => (2, 0, k, 2, pc + len, [])
  | .istore_n k => (3, 0, k, 0, pc + len, [])
  | .astore_n k => (3, 0, k, 1, pc + len, [])
  | .lstore_n k => (3, 0, k, 2, pc + len, [])
  | .istore k => (3, 0, k, 0, pc + len, [])
  | .astore k => (3, 0, k, 1, pc + len, [])
  | .lstore k => (3, 0, k, 2, pc + len, [])
  | .iinc b a => (4, a, b, 0, pc + len, [])
  | .iadd => (5, 0, 0, 0, pc + len, [])
  | .isub => (5, 0, 1, 0, pc + len, [])
  | .imul => (5, 0, 2, 0, pc + len, [])
  | .iand => (5, 0, 3, 0, pc + len, [])
  | .ishr => (5, 0, 4, 0, pc + len, [])
  | .idiv => (35, 0, 0, 0, pc + len, [])
  | .irem => (35, 0, 1, 0, pc + len, [])
  | .ladd => (6, 0, 0, 0, pc + len, [])
  | .lsub => (6, 0, 1, 0, pc + len, [])
  | .lmul => (6, 0, 2, 0, pc + len, [])
  | .ldiv => (36, 0, 0, 0, pc + len, [])
  | .lrem => (36, 0, 1, 0, pc + len, [])
  | .ineg => (7, 0, 0, 0, pc + len, [])
  | .i2l => (8, 0, 0, 0, pc + len, [])
  | .l2i => (9, 0, 0, 0, pc + len, [])
  | .i2b => (10, 0, 0, 0, pc + len, [])
  | .lcmp => (11, 0, 0, 0, pc + len, [])
  | .dup => (12, 0, 0, 0, pc + len, [])
  | .dup2 => (13, 0, 0, 0, pc + len, [])
  | .ifCond c off => (14, 0, condNo c, ((pc : Int) + off).toNat, pc + len, [])
  | .if_icmp c off => (15, 0, condNo c, ((pc : Int) + off).toNat, pc + len, [])
  | .goto off => (16, 0, 0, ((pc : Int) + off).toNat, pc + len, [])
  | .tableswitch d lo _ offs => (17, lo, ((pc : Int) + d).toNat, 0, pc + len, offs.toList.map (fun o => ((pc : Int) + o).toNat))
  | .getfield idx => opFld 18 ow idx (pc + len)
  | .putfield idx => opFld 19 ow idx (pc + len)
  | .iaload => (20, 0, 0, 0, pc + len, [])
  | .baload => (20, 0, 1, 0, pc + len, [])
  | .laload => (20, 0, 2, 0, pc + len, [])
  | .aaload => (20, 0, 3, 0, pc + len, [])
  | .iastore => (21, 0, 0, 0, pc + len, [])
  | .bastore => (21, 0, 1, 0, pc + len, [])
  | .lastore => (21, 0, 2, 0, pc + len, [])
  | .aastore => (21, 0, 3, 0, pc + len, [])
  | .arraylength => (22, 0, 0, 0, pc + len, [])
  | .return_ => (23, 0, 0, 0, pc + len, [])
  | .ireturn => (24, 0, 0, 0, pc + len, [])
  | .lreturn => (24, 0, 1, 0, pc + len, [])
  | .areturn => (24, 0, 2, 0, pc + len, [])
  | .athrow => (39, 0, 0, 0, pc + len, [])
  | .invokevirtual idx => opCal ow 0 idx (pc + len)
  | .invokestatic idx => opCal ow 1 idx (pc + len)
  | .invokespecial idx => opCal ow 2 idx (pc + len)
  | .new idx => opNew ow idx (pc + len)
  | .newarray a => (29, 0, atNo a, 0, pc + len, [])
  | .anewarray idx => opAne ow idx (pc + len)
  | .multianewarray idx _ => opMul ow idx (pc + len)
  | _ => (99, 0, 0, 0, 0, [])
def natsEq : List Nat → List Nat → Bool
  | [], [] => true
  | a :: l, b :: m => Nat.beq a b && natsEq l m
  | _, _ => false
theorem natsEq_eq : ∀ (l m : List Nat), natsEq l m = true → l = m
  | [], [], _ => rfl
  | [], _ :: _, h => by simp [natsEq] at h
  | _ :: _, [], h => by simp [natsEq] at h
  | a :: l, b :: m, h => by
    simp only [natsEq, Bool.and_eq_true] at h
    rw [Nat.eq_of_beq_eq_true h.1, natsEq_eq l m h.2]
def opEq (a b : Op) : Bool := Nat.beq a.1 b.1 && (decide (a.2.1 = b.2.1) && (Nat.beq a.2.2.1 b.2.2.1 && (Nat.beq a.2.2.2.1 b.2.2.2.1 && (Nat.beq a.2.2.2.2.1 b.2.2.2.2.1 && natsEq a.2.2.2.2.2 b.2.2.2.2.2))))
theorem opEq_eq {a b : Op} (h : opEq a b = true) : a = b := by
  obtain ⟨a1, a2, a3, a4, a5, a6⟩ := a
  obtain ⟨b1, b2, b3, b4, b5, b6⟩ := b
  simp only [opEq, Bool.and_eq_true, decide_eq_true_eq] at h
  obtain ⟨h1, h2, h3, h4, h5, h6⟩ := h
  rw [Nat.eq_of_beq_eq_true h1, h2, Nat.eq_of_beq_eq_true h3, Nat.eq_of_beq_eq_true h4, Nat.eq_of_beq_eq_true h5, natsEq_eq _ _ h6]
/-- the instruction has its length; a branch stays in the method; a pushed number is what it says -/
def insOk (pc : Nat) (i : Instr) (len : Nat) : Bool := match i with
  | .iconst _ => Nat.beq len 1
  | .bipush n => Nat.beq len 2 && decide ((Int8.ofInt n).toInt32 = Int32.ofInt n)
  | .sipush n => Nat.beq len 3 && decide ((Int16.ofInt n).toInt32 = Int32.ofInt n)
  | .lconst _ => Nat.beq len 1
  | .ifCond _ off => Nat.beq len 3 && decide (0 ≤ (pc : Int) + off)
  | .if_icmp _ off => Nat.beq len 3 && decide (0 ≤ (pc : Int) + off)
  | .goto off => Nat.beq len 3 && decide (0 ≤ (pc : Int) + off)
  | .tableswitch d lo hi offs => decide (0 ≤ (pc : Int) + d) && (decide (hi = lo + (offs.toList.length : Int) - 1) && offs.toList.all (fun o => decide (0 ≤ (pc : Int) + o)))
  | .multianewarray _ d => Nat.beq len 4 && Nat.beq d 2
  | .iload_n _ => Nat.beq len 1
  | .aload_n _ => Nat.beq len 1
  | .lload_n _ => Nat.beq len 1
  | .istore_n _ => Nat.beq len 1
  | .astore_n _ => Nat.beq len 1
  | .lstore_n _ => Nat.beq len 1
  | .iadd => Nat.beq len 1
  | .isub => Nat.beq len 1
  | .imul => Nat.beq len 1
  | .iand => Nat.beq len 1
  | .ishr => Nat.beq len 1
  | .idiv => Nat.beq len 1
  | .irem => Nat.beq len 1
  | .ladd => Nat.beq len 1
  | .lsub => Nat.beq len 1
  | .lmul => Nat.beq len 1
  | .ldiv => Nat.beq len 1
  | .lrem => Nat.beq len 1
  | .ineg => Nat.beq len 1
  | .i2l => Nat.beq len 1
  | .l2i => Nat.beq len 1
  | .i2b => Nat.beq len 1
  | .lcmp => Nat.beq len 1
  | .dup => Nat.beq len 1
  | .dup2 => Nat.beq len 1
  | .iaload => Nat.beq len 1
  | .baload => Nat.beq len 1
  | .laload => Nat.beq len 1
  | .aaload => Nat.beq len 1
  | .iastore => Nat.beq len 1
  | .bastore => Nat.beq len 1
  | .lastore => Nat.beq len 1
  | .aastore => Nat.beq len 1
  | .arraylength => Nat.beq len 1
  | .return_ => Nat.beq len 1
  | .ireturn => Nat.beq len 1
  | .lreturn => Nat.beq len 1
  | .areturn => Nat.beq len 1
  | .athrow => Nat.beq len 1
  | .iload _ => Nat.beq len 2
  | .aload _ => Nat.beq len 2
  | .lload _ => Nat.beq len 2
  | .istore _ => Nat.beq len 2
  | .astore _ => Nat.beq len 2
  | .lstore _ => Nat.beq len 2
  | .ldc _ => Nat.beq len 2
  | .newarray _ => Nat.beq len 2
  | .iinc _ _ => Nat.beq len 3
  | .ldc_w _ => Nat.beq len 3
  | .ldc2_w _ => Nat.beq len 3
  | .getfield _ => Nat.beq len 3
  | .putfield _ => Nat.beq len 3
  | .invokevirtual _ => Nat.beq len 3
  | .invokestatic _ => Nat.beq len 3
  | .invokespecial _ => Nat.beq len 3
  | .new _ => Nat.beq len 3
  | .anewarray _ => Nat.beq len 3
  | _ => false
/-- at pc the decoded instruction, resolved, is the printed op -/
def opChk (code : ByteArray) (ow : Nat) (f : Nat → Option Op) (pc : Nat) : Bool := match decode code pc with
  | .ok (i, len) => insOk pc i len && (match f pc with
    | some o => opEq o (opOf ow pc i len)
    | none => false)
  | .error _ => false
theorem opChk_spec {code : ByteArray} {ow : Nat} {f : Nat → Option Op} {pc : Nat} (h : opChk code ow f pc = true) : ∃ (i : Instr) (len : Nat), decode code pc = .ok (i, len) ∧ insOk pc i len = true ∧ f pc = some (opOf ow pc i len) := by
  unfold opChk at h
  split at h
  · rename_i i len hd
    rw [Bool.and_eq_true] at h
    obtain ⟨h1, h⟩ := h
    split at h
    · rename_i o ho
      exact ⟨i, len, hd, h1, by rw [ho, opEq_eq h]⟩
    · cases h
  · cases h
