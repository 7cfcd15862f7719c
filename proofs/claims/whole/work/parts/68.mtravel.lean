/-! A caravan travels alike: the reference's fields. -/
section MTRV
variable {A B : MM} {c : Nat}
theorem fr_mloss (x : Int32) (M : MM) (g : Int32) : Fr pMW M (mLoss x M g) := by
  unfold mLoss; split
  · exact Fr.rfl'
  · split
    · exact Fr.rfl'
    · exact fr_mWr _ _ _ _
def tOvM (B : MM) (c : Nat) : Int32 := mx0 (B.1 56 0 c - 4 * (B.1 55 0 c - mDied B (nI c)))
theorem mover_eq (hc : c < 12) : mOver (mTrA (nI c) B) (nI c) = tOvM B c := by
  have ec : cl (nI c) = c := nI_clamp (by omega)
  unfold mOver tOvM
  rw [ec]
  have e3 : (mTrA (nI c) B).1 56 0 c = B.1 56 0 c := rfl
  have e2 : (mTrA (nI c) B).1 55 0 c = B.1 55 0 c - mDied B (nI c) := by unfold mTrA; rw [ec]; simp [uI_1, uJ_1]
  rw [e3, e2]
theorem mx0_le {v : Int32} (h : mx0 v ≤ 0) : mx0 v = 0 := by
  unfold mx0 at h ⊢
  split
  · rename_i g
    rw [if_pos g] at h
    exact absurd g (Int32.not_lt.mpr h)
  · rfl
/-- tags of a caravan but the slabs, behind water, camels and losses -/
theorem mtrD_at (hc : c < 12) (t j : Nat) (ht : 54 ≤ t) (ht2 : t ≤ 64) : (mTrD (nI c) B).1 t 0 j = if t = 56 ∧ j = c then B.1 56 0 c - tOvM B c else if t = 55 ∧ j = c then B.1 55 0 c - mDied B (nI c) else if t = 57 ∧ j = c then mx0 (B.1 57 0 c - B.1 55 0 c) else B.1 t 0 j := by
  have ec : cl (nI c) = c := nI_clamp (by omega)
  have hA : ∀ t j, (mTrA (nI c) B).1 t 0 j = if t = 55 ∧ j = c then B.1 55 0 c - mDied B (nI c) else if t = 57 ∧ j = c then mx0 (B.1 57 0 c - B.1 55 0 c) else B.1 t 0 j := fun t j => by
    unfold mTrA; rw [ec]; simp [uI_1, uJ_1]
  unfold mTrD
  rw [mover_eq hc]
  by_cases g : tOvM B c ≤ 0
  · rw [if_pos g, hA]
    have e : tOvM B c = 0 := mx0_le g
    by_cases h : t = 56 ∧ j = c
    · rw [if_pos h, if_neg (by omega), if_neg (by omega), e, Int32.sub_zero, h.1, h.2]
    · rw [if_neg h]
  · rw [if_neg g, (fr_mloss _ _ _).2 t 0 j (by unfold pMW; omega)]
    have hC : (mTrC (nI c) (mTrA (nI c) B) (tOvM B c)).1 t 0 j = if t = 56 ∧ j = c then (mTrA (nI c) B).1 56 0 c - tOvM B c else (mTrA (nI c) B).1 t 0 j := by
      unfold mTrC; rw [ec, uI_1, if_neg (by omega), uJ_1, uI_1]
      by_cases h : t = 56 ∧ j = c
      · rw [if_pos h, if_pos ⟨h.1, rfl, h.2⟩]
      · rw [if_neg h, if_neg (fun z => h ⟨z.1, z.2.2⟩)]
    have h56 : (mTrA (nI c) B).1 56 0 c = B.1 56 0 c := rfl
    rw [hC, h56, hA]
theorem mtrD1 (hc : c < 12) : (mTrD (nI c) B).1 44 0 1 = B.1 44 0 1 := by
  unfold mTrD
  split
  · rfl
  · rw [(fr_mloss _ _ _).2 44 0 1 (by unfold pMW; omega)]
    rfl
/-- a caravan's fields behind a day on a stage, in the reference -/
theorem mtrav_at (hc : c < 12) (t j : Nat) (ht : 54 ≤ t) (ht2 : t ≤ 64) : (mTravel (nI c) B).1 t 0 j =
    if t = 58 ∧ j = c then (if B.1 55 0 c - mDied B (nI c) = 0 then 2 else if B.1 61 0 c - 1 ≤ 0 then 0 else B.1 58 0 c)
    else if t = 61 ∧ j = c then (if B.1 55 0 c - mDied B (nI c) = 0 then 0 else B.1 61 0 c - 1)
    else if t = 62 ∧ j = c then (if B.1 55 0 c - mDied B (nI c) = 0 then B.1 62 0 c else if B.1 61 0 c - 1 ≤ 0 then B.1 44 0 1 else B.1 62 0 c)
    else (mTrD (nI c) B).1 t 0 j := by
  have ec : cl (nI c) = c := nI_clamp (by omega)
  have e55 : (mTrD (nI c) B).1 55 0 c = B.1 55 0 c - mDied B (nI c) := by rw [mtrD_at hc 55 c (by decide) (by decide)]; simp
  have e61 : (mTrD (nI c) B).1 61 0 c = B.1 61 0 c := by rw [mtrD_at hc 61 c (by decide) (by decide)]; simp
  have e58 : (mTrD (nI c) B).1 58 0 c = B.1 58 0 c := by rw [mtrD_at hc 58 c (by decide) (by decide)]; simp
  have e62 : (mTrD (nI c) B).1 62 0 c = B.1 62 0 c := by rw [mtrD_at hc 62 c (by decide) (by decide)]; simp
  unfold mTravel mGo
  rw [ec, e55, e61, mtrD1 hc]
  generalize B.1 55 0 c - mDied B (nI c) = k
  by_cases h1 : k = 0
  · rw [if_pos h1, if_pos h1, if_pos h1, if_pos h1, uI_1, uI_1]
    by_cases t58 : t = 58
    · subst t58; by_cases hj : j = c <;> simp [hj]
    · by_cases t61 : t = 61
      · subst t61; by_cases hj : j = c <;> simp [hj]
      · by_cases t62 : t = 62
        · subst t62
          by_cases hj : j = c
          · subst hj; simp [e62]
          · simp [hj]
        · simp [t58, t61, t62]
  · rw [if_neg h1, if_neg h1, if_neg h1, if_neg h1]
    by_cases h2 : B.1 61 0 c - 1 ≤ 0
    · rw [if_pos h2, if_pos h2, if_pos h2, uI_1, uI_1, uI_1]
      by_cases t58 : t = 58
      · subst t58; by_cases hj : j = c <;> simp [hj]
      · by_cases t61 : t = 61
        · subst t61; by_cases hj : j = c <;> simp [hj]
        · by_cases t62 : t = 62
          · subst t62; by_cases hj : j = c <;> simp [hj]
          · simp [t58, t61, t62]
    · rw [if_neg h2, if_neg h2, if_neg h2, uI_1]
      by_cases t58 : t = 58
      · subst t58
        by_cases hj : j = c
        · subst hj; simp [e58]
        · simp [hj]
      · by_cases t61 : t = 61
        · subst t61; by_cases hj : j = c <;> simp [hj]
        · by_cases t62 : t = 62
          · subst t62
            by_cases hj : j = c
            · subst hj; simp [e62]
            · simp [hj]
          · simp [t58, t61, t62]
end MTRV
