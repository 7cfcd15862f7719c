/-! More small methods. -/
section LEAG
variable {Γ : GG} {σ : Mem} {Q : Out → Mem → Prop}
theorem go_hasCaravan {n : Int32} (h : Q (.inl (some (.inl (.int (if 0 ≤ n ∧ n < mI σ 0 0 9 then 1 else 0))))) σ) : Gm Γ M_X6_hasCaravan [.inr (0, 0), .inl (.int n)] σ Q := by
  refine gm_of 30 ?_
  refine ⟨fun c1 => ?_, fun c1 => ?_⟩
  · refine ⟨Or.inl rfl, ?_⟩
    have c1 : n < 0 := c1
    rw [if_neg (fun e => Int32.not_lt.mpr e.1 c1)] at h
    exact h
  · have c1 : ¬ n < 0 := c1
    refine ⟨fun c2 => ?_, fun c2 => ?_⟩
    · have c2 : mI σ 0 0 9 ≤ n := c2
      refine ⟨Or.inl rfl, ?_⟩
      rw [if_neg (fun e => Int32.not_le.mpr e.2 c2)] at h
      exact h
    · have c2 : ¬ mI σ 0 0 9 ≤ n := c2
      refine ⟨Or.inr rfl, ?_⟩
      rw [if_pos ⟨Int32.not_lt.mp c1, Int32.not_le.mp c2⟩] at h
      exact h
theorem go_digWell {i : Nat} {a b c : Int32} (h : Q (.inl none) (pI (pI (pI (pI σ 13 i 2 a) 13 i 3 b) 13 i 1 c) 13 i 4 b)) : Gm Γ M_X4_digWell [.inr (13, i), .inl (.int a), .inl (.int b), .inl (.int c)] σ Q := gm_of 40 h
theorem go_openMarket {i : Nat} {a b : Int32} (h : Q (.inl none) (pI (pI σ 13 i 5 a) 13 i 6 b)) : Gm Γ M_X4_openMarket [.inr (13, i), .inl (.int a), .inl (.int b)] σ Q := gm_of 40 h
theorem go_price {i : Nat} (h : Q (.inl (some (.inl (.int (if mI σ 13 i 6 ≤ 0 then 0 else if 0 < mI σ 13 i 5 - mI σ 13 i 7 / mI σ 13 i 6 then mI σ 13 i 5 - mI σ 13 i 7 / mI σ 13 i 6 else 0))))) σ) : Gm Γ M_X4_price [.inr (13, i)] σ Q := by
  refine gm_of 40 ?_
  refine ⟨fun c1 => ?_, fun c1 => ?_⟩
  · have c1 : 0 < mI σ 13 i 6 := c1
    rw [if_neg (Int32.not_le.mpr c1)] at h
    exact ⟨fun e => Int32.lt_irrefl (a := 0) (by rw [show mI σ 13 i 6 = 0 from e] at c1; exact c1), h⟩
  · have c1 : ¬ 0 < mI σ 13 i 6 := c1
    rw [if_pos (Int32.not_lt.mp c1)] at h
    exact h
theorem go_slabsOfPrice {i : Nat} {p : Int32} (h : Q (.inl (some (.inl (.int (if 0 < (mI σ 13 i 5 - p + 1) * mI σ 13 i 6 - mI σ 13 i 7 then (mI σ 13 i 5 - p + 1) * mI σ 13 i 6 - mI σ 13 i 7 else 0))))) σ) : Gm Γ M_X4_slabsOfPrice [.inr (13, i), .inl (.int p)] σ Q := gm_of 40 h
theorem go_fault (h : Q (.inl (some (.inl (.int (mI σ 0 0 3))))) σ) : Gm Γ M_X6_fault [.inr (0, 0)] σ Q := gm_of 10 h
theorem go_mthrown (h : Q (.inl (some (.inl (.int (mI σ 44 0 0))))) σ) : Gm Γ M_X7_thrown [.inr (44, 0)] σ Q := gm_of 10 h
end LEAG
