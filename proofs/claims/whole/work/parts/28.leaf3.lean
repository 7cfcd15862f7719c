/-! Small methods of a caravan. -/
section LEAH
variable {Γ : GG} {σ : Mem} {Q : Out → Mem → Prop}
theorem go_isAt {i : Nat} {w : Int32} (h : Q (.inl (some (.inl (.int (if mI σ 15 i 5 = 0 ∧ mI σ 15 i 6 = w then 1 else 0))))) σ) : Gm Γ M_X0_isAt [.inr (15, i), .inl (.int w)] σ Q := by
  refine gm_of 30 ?_
  refine ⟨fun c1 => ?_, fun c1 => ?_⟩
  · have c1 : ¬ mI σ 15 i 5 = 0 := c1
    refine ⟨Or.inl rfl, ?_⟩
    rw [if_neg (fun e => c1 e.1)] at h
    exact h
  · have c1 : ¬ ¬ mI σ 15 i 5 = 0 := c1
    refine ⟨fun c2 => ?_, fun c2 => ?_⟩
    · have c2 : ¬ mI σ 15 i 6 = w := c2
      refine ⟨Or.inl rfl, ?_⟩
      rw [if_neg (fun e => c2 e.2)] at h
      exact h
    · have c2 : ¬ ¬ mI σ 15 i 6 = w := c2
      refine ⟨Or.inr rfl, ?_⟩
      rw [if_pos ⟨Decidable.not_not.mp c1, Decidable.not_not.mp c2⟩] at h
      exact h
theorem go_gather {i : Nat} {a b w d : Int32} (h : Q (.inl none) (pI (pI (pI (pI (pI (pI (pI σ 15 i 1 a) 15 i 2 b) 15 i 4 (10 * b)) 15 i 5 0) 15 i 6 w) 15 i 7 w) 15 i 9 d)) : Gm Γ M_X0_gather [.inr (15, i), .inl (.int a), .inl (.int b), .inl (.int w), .inl (.int d)] σ Q := gm_of 60 h
end LEAH
