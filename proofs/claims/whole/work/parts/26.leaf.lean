/-! Small methods of the class. -/
theorem no_cut {Γ : GG} {mi : Nat} {Q : Out → Mem → Prop} : ∀ (pc : Nat) (P : LV → List MV → Mem → Nat × Nat → Prop) (lv : LV) (st : List MV) (σ : Mem) (cnt : Nat × Nat), (fun _ => none : Nat → Option (LV → List MV → Mem → Nat × Nat → Prop)) pc = some P → P lv st σ cnt → Go Γ mi pc lv st σ cnt Q := fun _ _ _ _ _ _ h => nomatch h
/-- a method without loops: its condition gives it -/
theorem gm_of {Γ : GG} {mi : Nat} {as : List MV} {σ : Mem} {Q : Out → Mem → Prop} (f : Nat) (h : vc (gN Γ) (gS Γ) (Gm Γ) (fun _ => none) Q mi f 0 (argL 0 as) [] σ (0, 0)) : Gm Γ mi as σ Q := vc_sound no_cut f 0 _ _ _ _ h
section LEAF
variable {Γ : GG} {σ : Mem} {Q : Out → Mem → Prop}
theorem go_roomForWater {i : Nat} (h : Q (.inl (some (.inl (.int (10 * mI σ 15 i 2 - mI σ 15 i 4))))) σ) : Gm Γ M_X0_roomForWater [.inr (15, i)] σ Q := gm_of 30 h
theorem go_roomForSlabs {i : Nat} (h : Q (.inl (some (.inl (.int (4 * mI σ 15 i 2 - mI σ 15 i 3))))) σ) : Gm Γ M_X0_roomForSlabs [.inr (15, i)] σ Q := gm_of 30 h
theorem go_isWithin {n a b : Int32} (h : Q (.inl (some (.inl (.int (if a ≤ n ∧ n ≤ b then 1 else 0))))) σ) : Gm Γ M_X6_isWithin [.inl (.int n), .inl (.int a), .inl (.int b)] σ Q := by
  refine gm_of 30 ?_
  refine ⟨fun c1 => ?_, fun c1 => ?_⟩
  · refine ⟨Or.inl rfl, ?_⟩
    have c1 : n < a := c1
    rw [if_neg (fun e => Int32.not_lt.mpr e.1 c1)] at h
    exact h
  · have c1 : ¬ n < a := c1
    refine ⟨fun c2 => ?_, fun c2 => ?_⟩
    · have c2 : b < n := c2
      refine ⟨Or.inl rfl, ?_⟩
      rw [if_neg (fun e => Int32.not_lt.mpr e.2 c2)] at h
      exact h
    · have c2 : ¬ b < n := c2
      refine ⟨Or.inr rfl, ?_⟩
      rw [if_pos ⟨Int32.not_lt.mp c1, Int32.not_lt.mp c2⟩] at h
      exact h
theorem go_hasStation {n : Int32} (h : Q (.inl (some (.inl (.int (if 0 ≤ n ∧ n < mI σ 0 0 5 then 1 else 0))))) σ) : Gm Γ M_X6_hasStation [.inr (0, 0), .inl (.int n)] σ Q := by
  refine gm_of 30 ?_
  refine ⟨fun c1 => ?_, fun c1 => ?_⟩
  · refine ⟨Or.inl rfl, ?_⟩
    have c1 : n < 0 := c1
    rw [if_neg (fun e => Int32.not_lt.mpr e.1 c1)] at h
    exact h
  · have c1 : ¬ n < 0 := c1
    refine ⟨fun c2 => ?_, fun c2 => ?_⟩
    · have c2 : mI σ 0 0 5 ≤ n := c2
      refine ⟨Or.inl rfl, ?_⟩
      rw [if_neg (fun e => Int32.not_le.mpr e.2 c2)] at h
      exact h
    · have c2 : ¬ mI σ 0 0 5 ≤ n := c2
      refine ⟨Or.inr rfl, ?_⟩
      rw [if_pos ⟨Int32.not_lt.mp c1, Int32.not_le.mp c2⟩] at h
      exact h
end LEAF
