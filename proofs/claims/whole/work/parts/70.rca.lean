/-! A caravan travels alike. -/
section RCAT
variable {A B : MM} {c nc : Nat}
theorem died_eq (h : rCa nc A B) (hc : c < nc) (hn : nc ≤ 12) : cDied A c = mDied B (nI c) := by
  obtain ⟨-, e2, -, e4, -⟩ := h.2.1 c hc
  unfold cDied mDied
  rw [show cl (nI c) = c from nI_clamp (by omega), e2, e4]
theorem tOv_eq (h : rCa nc A B) (hc : c < nc) (hn : nc ≤ 12) : tOv A c = tOvM B c := by
  obtain ⟨-, e2, e3, -⟩ := h.2.1 c hc
  unfold tOv tOvM
  rw [died_eq h hc hn, e2, e3]
theorem alive_iff (hb : rBd nc A) (hc : c < nc) : (0 < A.1 15 c 2 - cDied A c ↔ ¬ A.1 15 c 2 - cDied A c = 0) := by
  obtain ⟨k, l, u, hk, hl, hu, h2, h3, h4⟩ := hb c hc
  obtain ⟨hd, hle⟩ := died_nat (c := c) hk hu h2 h4
  rw [h2, hd, pk_sub hle]
  have hm : k - (k - u + 1) / 2 < 2 ^ 31 := by omega
  generalize k - (k - u + 1) / 2 = m at hm ⊢
  constructor
  · intro z e
    rw [e] at z
    exact absurd z (by decide)
  · intro z
    exact nI_lt (a := 0) (Nat.pos_of_ne_zero (fun y => z (by rw [y]; rfl))) hm
theorem rCa.trav1 (h : rCa nc A B) (hb : rBd nc A) (hc : c < nc) (hn : nc ≤ 12) (ht : B.1 44 0 1 = A.1 0 0 13) : ∀ i, i < nc → (cTravel c A).1 15 i 1 = (mTravel (nI c) B).1 54 0 i ∧ (cTravel c A).1 15 i 2 = (mTravel (nI c) B).1 55 0 i ∧ (cTravel c A).1 15 i 3 = (mTravel (nI c) B).1 56 0 i ∧ (cTravel c A).1 15 i 4 = (mTravel (nI c) B).1 57 0 i ∧ (cTravel c A).1 15 i 5 = (mTravel (nI c) B).1 58 0 i ∧ (cTravel c A).1 15 i 6 = (mTravel (nI c) B).1 59 0 i ∧ (cTravel c A).1 15 i 8 = (mTravel (nI c) B).1 61 0 i ∧ (cTravel c A).1 15 i 9 = (mTravel (nI c) B).1 62 0 i ∧ (cTravel c A).1 15 i 10 = (mTravel (nI c) B).1 63 0 i ∧ (cTravel c A).1 15 i 11 = (mTravel (nI c) B).1 64 0 i := by
  intro i hi
  have hc12 : c < 12 := by omega
  have ha := alive_iff hb hc
  have ed := died_eq h hc hn
  have eo := tOv_eq h hc hn
  obtain ⟨f1, f2, f3, f4, f5, f6, -, f8, f9, f10, f11, -⟩ := h.2.1 i hi
  obtain ⟨-, c2, c3, c4, c5, -, -, c8, c9, -⟩ := h.2.1 c hc
  simp only [trav_at, trB_at, mtrav_at hc12 _ _ (by decide : 54 ≤ 54) (by decide), mtrav_at hc12 _ _ (by decide : 54 ≤ 55) (by decide), mtrav_at hc12 _ _ (by decide : 54 ≤ 56) (by decide), mtrav_at hc12 _ _ (by decide : 54 ≤ 57) (by decide), mtrav_at hc12 _ _ (by decide : 54 ≤ 58) (by decide), mtrav_at hc12 _ _ (by decide : 54 ≤ 59) (by decide), mtrav_at hc12 _ _ (by decide : 54 ≤ 61) (by decide), mtrav_at hc12 _ _ (by decide : 54 ≤ 62) (by decide), mtrav_at hc12 _ _ (by decide : 54 ≤ 63) (by decide), mtrav_at hc12 _ _ (by decide : 54 ≤ 64) (by decide), mtrD_at hc12 _ _ (by decide : 54 ≤ 54) (by decide), mtrD_at hc12 _ _ (by decide : 54 ≤ 55) (by decide), mtrD_at hc12 _ _ (by decide : 54 ≤ 56) (by decide), mtrD_at hc12 _ _ (by decide : 54 ≤ 57) (by decide), mtrD_at hc12 _ _ (by decide : 54 ≤ 58) (by decide), mtrD_at hc12 _ _ (by decide : 54 ≤ 59) (by decide), mtrD_at hc12 _ _ (by decide : 54 ≤ 61) (by decide), mtrD_at hc12 _ _ (by decide : 54 ≤ 62) (by decide), mtrD_at hc12 _ _ (by decide : 54 ≤ 63) (by decide), mtrD_at hc12 _ _ (by decide : 54 ≤ 64) (by decide)]
  by_cases e : i = c
  · subst e
    rw [ed, c2] at ha
    simp only [ed, eo, c2, c3, c4, c5, c8, c9, ha]
    simp [f1, f6, f10, f11, ht]
    by_cases g : B.1 55 0 i - mDied B (nI i) = 0
    · simp [g]
    · by_cases g2 : B.1 61 0 i - 1 ≤ 0
      · simp [g, g2, Int32.not_lt.mpr g2]
      · simp [g, g2, Int32.not_le.mp g2]
  · simp [e, f1, f2, f3, f4, f5, f6, f8, f9, f10, f11]
end RCAT
