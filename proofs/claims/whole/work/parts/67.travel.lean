/-! A caravan travels alike: its fields. -/
section TRAV
variable {A B : MM} {c : Nat}
theorem trD15 : (cTrD c A).1 15 = (cTrB c A).1 15 := by
  unfold cTrD
  split
  · rfl
  · funext i j
    rw [(fr_loss (cTrC c A) c _ _).2 15 i j (by unfold pE; omega)]
    rfl
theorem trD13 : (cTrD c A).1 0 0 13 = A.1 0 0 13 := by
  unfold cTrD
  split
  · rfl
  · rw [(fr_loss (cTrC c A) c _ _).2 0 0 13 (by unfold pE; omega)]
    rfl
/-- what is left behind -/
def tOv (A : MM) (c : Nat) : Int32 := mx0 (A.1 15 c 3 - 4 * (A.1 15 c 2 - cDied A c))
theorem over_eq : cOver (cTrA c A) c = tOv A c := by
  unfold cOver tOv
  have e3 : (cTrA c A).1 15 c 3 = A.1 15 c 3 := rfl
  have e2 : (cTrA c A).1 15 c 2 = A.1 15 c 2 - cDied A c := by unfold cTrA cDrink; simp [uI_1, uJ_1]
  rw [e3, e2]
theorem trB_at (i j : Nat) : (cTrB c A).1 15 i j = if i = c ∧ j = 3 then A.1 15 c 3 - tOv A c else if i = c ∧ j = 2 then A.1 15 c 2 - cDied A c else if i = c ∧ j = 4 then mx0 (A.1 15 c 4 - A.1 15 c 2) else A.1 15 i j := by
  unfold cTrB cDrop
  rw [over_eq]
  have e3 : (cTrA c A).1 15 c 3 = A.1 15 c 3 := rfl
  rw [e3]
  unfold cTrA cDrink
  simp [uI_1, uJ_1]
/-- a caravan's fields behind a day on a stage -/
theorem trav_at (i j : Nat) : (cTravel c A).1 15 i j =
    if i = c ∧ j = 5 then (if 0 < A.1 15 c 2 - cDied A c then (if 0 < A.1 15 c 8 - 1 then A.1 15 c 5 else 0) else 2)
    else if i = c ∧ j = 8 then (if 0 < A.1 15 c 2 - cDied A c then A.1 15 c 8 - 1 else 0)
    else if i = c ∧ j = 9 then (if 0 < A.1 15 c 2 - cDied A c then (if 0 < A.1 15 c 8 - 1 then A.1 15 c 9 else A.1 0 0 13) else A.1 15 c 9)
    else (cTrB c A).1 15 i j := by
  unfold cTravel cGoOn
  rw [trD13, trD15]
  have e2 : (cTrB c A).1 15 c 2 = A.1 15 c 2 - cDied A c := by rw [trB_at]; simp
  have e8 : (cTrB c A).1 15 c 8 = A.1 15 c 8 := by rw [trB_at]; simp
  have e5 : (cTrB c A).1 15 c 5 = A.1 15 c 5 := by rw [trB_at]; simp
  have e9 : (cTrB c A).1 15 c 9 = A.1 15 c 9 := by rw [trB_at]; simp
  rw [e2, e8]
  have hD : ∀ i j, (cTrD c A).1 15 i j = (cTrB c A).1 15 i j := fun i j => by rw [trD15]
  by_cases h1 : 0 < A.1 15 c 2 - cDied A c
  · rw [if_pos h1, if_pos h1, if_pos h1, if_pos h1]
    by_cases h2 : 0 < A.1 15 c 8 - 1
    · rw [if_pos h2, if_pos h2, if_pos h2, uI_1, hD]
      by_cases hi : i = c
      · subst hi
        by_cases j5 : j = 5
        · subst j5; simp [e5]
        · by_cases j8 : j = 8
          · subst j8; simp
          · by_cases j9 : j = 9
            · subst j9; simp [e9]
            · simp [j5, j8, j9]
      · simp [hi]
    · rw [if_neg h2, if_neg h2, if_neg h2, uI_1, uI_1, uI_1, hD]
      by_cases hi : i = c
      · subst hi
        by_cases j5 : j = 5
        · subst j5; simp
        · by_cases j8 : j = 8
          · subst j8; simp
          · by_cases j9 : j = 9
            · subst j9; simp
            · simp [j5, j8, j9]
      · simp [hi]
  · rw [if_neg h1, if_neg h1, if_neg h1, if_neg h1, uI_1, uI_1, hD]
    by_cases hi : i = c
    · subst hi
      by_cases j5 : j = 5
      · subst j5; simp
      · by_cases j8 : j = 8
        · subst j8; simp
        · by_cases j9 : j = 9
          · subst j9; simp [e9]
          · simp [j5, j8, j9]
    · simp [hi]
end TRAV
