/-! Throws and catches, where they stand. -/
def thrD (mi pc : Nat) : Option (Nat × Nat × Nat × Bool) := match decode (mCode mi) pc, decode (mCode mi) (pc + 3), decode (mCode mi) (pc + 4) with
  | .ok (.new ik, 3), .ok (.dup, 1), .ok (.ldc is, 2) => (match decode (mCode mi) (pc + 6), decode (mCode mi) (pc + 9) with
    | .ok (.invokespecial ic, 3), .ok (.athrow, 1) => some (ik, is, ic, false)
    | _, _ => none)
  | .ok (.new ik, 3), .ok (.dup, 1), .ok (.ldc_w is, 3) => (match decode (mCode mi) (pc + 7), decode (mCode mi) (pc + 10) with
    | .ok (.invokespecial ic, 3), .ok (.athrow, 1) => some (ik, is, ic, true)
    | _, _ => none)
  | _, _, _ => none
theorem thrD_spec {mi pc ik is ic : Nat} {b : Bool} (h : thrD mi pc = some (ik, is, ic, b)) : decode (mCode mi) pc = .ok (.new ik, 3) ∧ decode (mCode mi) (pc + 3) = .ok (.dup, 1) ∧ ((decode (mCode mi) (pc + 4) = .ok (.ldc is, 2) ∧ decode (mCode mi) (pc + 6) = .ok (.invokespecial ic, 3) ∧ decode (mCode mi) (pc + 9) = .ok (.athrow, 1)) ∨ (decode (mCode mi) (pc + 4) = .ok (.ldc_w is, 3) ∧ decode (mCode mi) (pc + 7) = .ok (.invokespecial ic, 3) ∧ decode (mCode mi) (pc + 10) = .ok (.athrow, 1))) := by
  unfold thrD at h
  split at h
  · rename_i h1 h2 h3
    split at h
    · rename_i h4 h5
      cases h
      exact ⟨h1, h2, Or.inl ⟨h3, h4, h5⟩⟩
    · cases h
  · rename_i h1 h2 h3
    split at h
    · rename_i h4 h5
      cases h
      exact ⟨h1, h2, Or.inr ⟨h3, h4, h5⟩⟩
    · cases h
  · cases h
def thrL : List (Nat × Nat × Nat) := [(58, 11, 0), (58, 30, 2), (59, 16, 1), (59, 41, 0), (59, 60, 2), (60, 8, 1), (60, 38, 0), (60, 57, 2), (64, 11, 0), (65, 8, 1), (65, 92, 3), (66, 8, 1), (66, 112, 3), (67, 16, 1), (68, 16, 1), (69, 11, 1), (69, 106, 3), (70, 11, 1), (70, 32, 0), (71, 8, 1), (71, 27, 0), (72, 11, 0), (78, 16, 1), (78, 49, 0)]
def thrOk (q : Nat × Nat × Nat) : Bool := Nat.beq (mOwnNo q.1) 6 && (Nat.ble 6 (mFr q.1) && (Nat.ble 96 (mLo q.1) && (decide (mHh q.1 = []) && (match thrD q.1 q.2.1 with
  | some (ik, is, ic, _) => decide (look2 newL 6 ik = some (32, q.2.2)) && (decide (look2 calL 6 ic = some (38, q.2.2, 2)) && (match look2 ldcL 6 is with
    | some (k, _, _) => Nat.beq k 33
    | none => false))
  | none => false))))
theorem thrL_ok : thrL.all thrOk = true := by decide +kernel
theorem thrL_all : (List.range 163).all (fun mi => (List.range (mLen mi)).all (fun pc => match opU mi pc with
  | some (32, _, x, _, _, _) => decide ((mi, pc, x) ∈ thrL)
  | _ => true)) = true := by decide +kernel
theorem opU_lt {mi pc : Nat} {o : Op} (h : opU mi pc = some o) : mi < 163 ∧ pc < mLen mi := by
  refine ⟨(opU_spec h).1, ?_⟩
  rcases Nat.lt_or_ge pc (mLen mi) with q | q
  · exact q
  · unfold opU at h
    rw [Nat.ble_eq_true_of_le q] at h
    cases hb : Nat.ble 163 mi <;> rw [hb] at h <;> cases h
theorem thr_ok {mi pc x c n : Nat} {a : Int} {l : List Nat} (h : opU mi pc = some (32, a, x, c, n, l)) : mOwnNo mi = 6 ∧ 6 ≤ mFr mi ∧ 96 ≤ mLo mi ∧ mHh mi = [] ∧ ∃ ik is ic b v sno, thrD mi pc = some (ik, is, ic, b) ∧ look2 newL 6 ik = some (32, x) ∧ look2 calL 6 ic = some (38, x, 2) ∧ look2 ldcL 6 is = some (33, v, sno) := by
  obtain ⟨h1, h2⟩ := opU_lt h
  have h3 := List.all_eq_true.mp (List.all_eq_true.mp thrL_all mi (List.mem_range.mpr h1)) pc (List.mem_range.mpr h2)
  rw [h] at h3
  have h4 := List.all_eq_true.mp thrL_ok _ (of_decide_eq_true h3)
  unfold thrOk at h4
  simp only [Bool.and_eq_true, decide_eq_true_eq] at h4
  obtain ⟨g1, g2, g3, g4, g5⟩ := h4
  refine ⟨Nat.eq_of_beq_eq_true g1, Nat.le_of_ble_eq_true g2, Nat.le_of_ble_eq_true g3, g4, ?_⟩
  split at g5
  · rename_i ik is ic b hd
    simp only [Bool.and_eq_true, decide_eq_true_eq] at g5
    obtain ⟨g6, g7, g8⟩ := g5
    split at g8
    · rename_i k v sno hl
      rw [Nat.eq_of_beq_eq_true g8] at hl
      exact ⟨ik, is, ic, b, v, sno, hd, g6, g7, hl⟩
    · cases g8
  · cases g5
def isAst (mi pc : Nat) : Option (Nat × Nat) := match decode (mCode mi) pc with
  | .ok (.astore_n k, 1) => some ((k : Nat), pc + 1)
  | .ok (.astore k, 2) => some (k, pc + 2)
  | _ => none
theorem isAst_spec {mi pc b n : Nat} (h : isAst mi pc = some (b, n)) : (∃ k : Fin 4, decode (mCode mi) pc = .ok (.astore_n k, 1) ∧ (k : Nat) = b ∧ n = pc + 1) ∨ (decode (mCode mi) pc = .ok (.astore b, 2) ∧ n = pc + 2) := by
  unfold isAst at h
  split at h
  · rename_i k hd
    cases h
    exact Or.inl ⟨k, hd, rfl, rfl⟩
  · rename_i k hd
    cases h
    exact Or.inr ⟨hd, rfl⟩
  · cases h
def isIc (mi pc : Nat) : Option Int := match decode (mCode mi) pc with
  | .ok (.iconst z, 1) => some z
  | _ => none
theorem isIc_spec {mi pc : Nat} {z : Int} (h : isIc mi pc = some z) : decode (mCode mi) pc = .ok (.iconst z, 1) := by
  unfold isIc at h
  split at h
  · rename_i k hd
    cases h
    exact hd
  · cases h
def isIret (mi pc : Nat) : Bool := match decode (mCode mi) pc with
  | .ok (.ireturn, 1) => true
  | _ => false
theorem isIret_spec {mi pc : Nat} (h : isIret mi pc = true) : decode (mCode mi) pc = .ok (.ireturn, 1) := by
  unfold isIret at h
  split at h
  · rename_i hd
    exact hd
  · cases h
/-- every catch: store, constant, return; its class's word -/
def catOk (q : Nat × Nat × Nat × Nat × Nat × Nat × Int) : Bool := Nat.ble (q.1 + 1) 162 && (Nat.beq (mRetNo q.1) 1 && (Nat.beq (mOwnNo q.1) 8 && (Nat.ble 1 q.2.2.2.2.1 && (Nat.ble (q.2.2.2.2.2.1 + 1) 4 && (decide (Cond.classLink RL q.2.2.2.2.1 (excN q.2.2.2.2.2.1) ∈ lw_tbl) && (match isAst q.1 q.2.2.2.1 with
  | some (b, n) => Nat.ble (b + 1) (mMaxL q.1) && (decide (isIc q.1 n = some q.2.2.2.2.2.2) && isIret q.1 (n + 1))
  | none => false))))))
theorem catL_ok : catL.all catOk = true := by decide +kernel
def hhOf (q : Nat × Nat × Nat × Nat × Nat × Nat × Int) : Nat × Nat × Nat × Nat := (q.2.1, q.2.2.1, q.2.2.2.1, q.2.2.2.2.1)
theorem catL_hh : ∀ mi, mi < 163 → (catL.filter (fun q => Nat.beq q.1 mi)).map hhOf = mHh mi := by
  have h : (List.range 163).all (fun mi => decide ((catL.filter (fun q => Nat.beq q.1 mi)).map hhOf = mHh mi)) = true := by decide +kernel
  intro mi hm
  exact of_decide_eq_true (List.all_eq_true.mp h mi (List.mem_range.mpr hm))
