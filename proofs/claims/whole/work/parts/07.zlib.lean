/-! The words of calls into the library. -/
def mathN (b : Nat) : MethodName := bif Nat.beq b 0 then Lib.Math.max.name else bif Nat.beq b 1 then Lib.Math.min.name else Lib.MathLoose.min_long.x
def libN (k b : Nat) : MethodName := bif Nat.beq k 26 then mathN b else bif Nat.beq k 27 then arraycopyName else Lib.objectInit
theorem lib_words0 : calL.all (fun q => !(Nat.beq q.2.1 26 || (Nat.beq q.2.1 27 || Nat.beq q.2.1 37)) || (decide (Cond.methodLink (ownN q.1.1) q.1.2 (libN q.2.1 q.2.2.1) ∈ lw_tbl) && Nat.ble q.2.2.1 2)) = true := by decide +kernel
theorem lib_words {ow idx k b na : Nat} (h : look2 calL ow idx = some (k, b, na)) (hk : k = 26 ∨ k = 27 ∨ k = 37) : Cond.methodLink (ownN ow) idx (libN k b) ∈ wG ∧ b ≤ 2 := by
  have h1 := List.all_eq_true.mp lib_words0 _ (look2_mem h)
  have hb : (Nat.beq k 26 || (Nat.beq k 27 || Nat.beq k 37)) = true := by rcases hk with rfl | rfl | rfl <;> rfl
  simp only [hb, Bool.not_true, Bool.false_or, Bool.and_eq_true, decide_eq_true_eq] at h1
  exact ⟨List.mem_filter.mpr ⟨h1.1, rfl⟩, Nat.le_of_ble_eq_true h1.2⟩
theorem math_w : ∀ w ∈ ([.static Lib.Math.max.name, .static Lib.Math.min.name, .static Lib.MathLoose.min_long.x, .initialized "java/lang/Math", .code Lib.Math.max.name Lib.Math.max.code 2 (some .int), .code Lib.Math.min.name Lib.Math.min.code 2 (some .int), .code Lib.MathLoose.min_long.x Lib.MathLoose.min_long.code 4 (some .long), .native arraycopyName, .static arraycopyName, .initialized "java/lang/System", .instanceMethod Lib.objectInit, .code Lib.objectInit ⟨#[0xb1]⟩ 1 none] : List Cond), w ∈ wG := by
  have h : ([.static Lib.Math.max.name, .static Lib.Math.min.name, .static Lib.MathLoose.min_long.x, .initialized "java/lang/Math", .code Lib.Math.max.name Lib.Math.max.code 2 (some .int), .code Lib.Math.min.name Lib.Math.min.code 2 (some .int), .code Lib.MathLoose.min_long.x Lib.MathLoose.min_long.code 4 (some .long), .native arraycopyName, .static arraycopyName, .initialized "java/lang/System", .instanceMethod Lib.objectInit, .code Lib.objectInit ⟨#[0xb1]⟩ 1 none] : List Cond).all (fun w => decide (w ∈ lw_tbl) && goodWord w) = true := by decide +kernel
  intro w hw
  have h1 := List.all_eq_true.mp h w hw
  simp only [Bool.and_eq_true, decide_eq_true_eq] at h1
  exact List.mem_filter.mpr h1
/-- the constants of the classes' pools -/
theorem ldc_words0 : ldcL.all (fun q => match q.2.1 with
  | 0 => decide (Cond.constant (ownN q.1.1) q.1.2 (Int32.ofInt q.2.2.1) ∈ lw_tbl)
  | 1 => decide (Cond.constantLong (ownN q.1.1) q.1.2 (Int64.ofInt q.2.2.1) ∈ lw_tbl)
  | 33 => true
  | _ => false) = true := by decide +kernel
theorem ldc_kind {ow idx k s : Nat} {v : Int} (h : look2 ldcL ow idx = some (k, v, s)) : (k = 0 ∧ Cond.constant (ownN ow) idx (Int32.ofInt v) ∈ wG) ∨ (k = 1 ∧ Cond.constantLong (ownN ow) idx (Int64.ofInt v) ∈ wG) ∨ k = 33 := by
  have h1 := List.all_eq_true.mp ldc_words0 _ (look2_mem h)
  split at h1
  · rename_i e
    exact Or.inl ⟨e, List.mem_filter.mpr ⟨of_decide_eq_true h1, rfl⟩⟩
  · rename_i e
    exact Or.inr (Or.inl ⟨e, List.mem_filter.mpr ⟨of_decide_eq_true h1, rfl⟩⟩)
  · rename_i e
    exact Or.inr (Or.inr e)
  · cases h1
theorem cal_kind {ow idx k b na : Nat} (h : look2 calL ow idx = some (k, b, na)) : k = 25 ∨ k = 26 ∨ k = 27 ∨ k = 34 ∨ k = 37 ∨ k = 38 := by
  have h0 : calL.all (fun q => Nat.beq q.2.1 25 || (Nat.beq q.2.1 26 || (Nat.beq q.2.1 27 || (Nat.beq q.2.1 34 || (Nat.beq q.2.1 37 || Nat.beq q.2.1 38))))) = true := by decide +kernel
  have h1 := List.all_eq_true.mp h0 _ (look2_mem h)
  simp only [Bool.or_eq_true] at h1
  rcases h1 with q | q | q | q | q | q <;> have := Nat.eq_of_beq_eq_true q <;> simp_all
theorem new_kind {ow idx k b : Nat} (h : look2 newL ow idx = some (k, b)) : k = 28 ∨ k = 31 ∨ k = 32 := by
  have h0 : newL.all (fun q => Nat.beq q.2.1 28 || (Nat.beq q.2.1 31 || Nat.beq q.2.1 32)) = true := by decide +kernel
  have h1 := List.all_eq_true.mp h0 _ (look2_mem h)
  simp only [Bool.or_eq_true] at h1
  rcases h1 with q | q | q <;> have := Nat.eq_of_beq_eq_true q <;> simp_all
