/-! Stages of both sides. -/
theorem mWayF_symm {B : MM} {f t : Int32} : ∀ m k, mWayF B f t m k = mWayF B t f m k
  | 0, _ => rfl
  | m + 1, k => by
    unfold mWayF
    rw [mWayF_symm m (k + 1)]
    by_cases h : (B.1 50 0 k = f ∧ B.1 51 0 k = t) ∨ (B.1 50 0 k = t ∧ B.1 51 0 k = f)
    · rw [if_pos h, if_pos h.symm]
    · rw [if_neg h, if_neg (fun z => h z.symm)]
/-- one stage more -/
theorem mWayF_app {B B' : MM} {f t : Int32} {g : Nat} (hB : ∀ k, k < g → B'.1 50 0 k = B.1 50 0 k ∧ B'.1 51 0 k = B.1 51 0 k ∧ B'.1 52 0 k = B.1 52 0 k) (hd : ∀ k, k < g → ¬ B.1 52 0 k = 0) : ∀ m k, k + m = g → mWayF B' f t (m + 1) k = if mWayF B f t m k = 0 then (if (B'.1 50 0 g = f ∧ B'.1 51 0 g = t) ∨ (B'.1 50 0 g = t ∧ B'.1 51 0 g = f) then B'.1 52 0 g else 0) else mWayF B f t m k
  | 0, k, hk => by
    rw [show k = g by omega]
    show mWayF B' f t 1 g = if (0 : Int32) = 0 then _ else _
    rw [if_pos rfl]
    rfl
  | m + 1, k, hk => by
    obtain ⟨e1, e2, e3⟩ := hB k (by omega)
    rw [show mWayF B' f t (m + 1 + 1) k = if (B'.1 50 0 k = f ∧ B'.1 51 0 k = t) ∨ (B'.1 50 0 k = t ∧ B'.1 51 0 k = f) then B'.1 52 0 k else mWayF B' f t (m + 1) (k + 1) from rfl, show mWayF B f t (m + 1) k = if (B.1 50 0 k = f ∧ B.1 51 0 k = t) ∨ (B.1 50 0 k = t ∧ B.1 51 0 k = f) then B.1 52 0 k else mWayF B f t m (k + 1) from rfl, e1, e2, e3]
    by_cases h : (B.1 50 0 k = f ∧ B.1 51 0 k = t) ∨ (B.1 50 0 k = t ∧ B.1 51 0 k = f)
    · rw [if_pos h, if_pos h, if_neg (hd k (by omega))]
    · rw [if_neg h, if_neg h]
      exact mWayF_app hB hd m (k + 1) (by omega)
section STGS
variable {A B : MM} {g : Nat}
theorem rSg.stage {f t : Nat} {d : Int32} (h : rSg g A B) (hg : g < 30) (hf : f < 12) (ht : t < 12) (hne : f ≠ t) (hd : ∃ w, 1 ≤ w ∧ w ≤ 9 ∧ d = nI w) : rSg (g + 1) (cStage A f t d) (mStage B (nI g) (nI f) (nI t) d) := by
  have ec : cl (nI g) = g := nI_clamp (by omega)
  have e50 : ∀ k, (mStage B (nI g) (nI f) (nI t) d).1 50 0 k = if k = g then nI f else B.1 50 0 k := fun k => by unfold mStage; rw [ec]; simp [uI_1]
  have e51 : ∀ k, (mStage B (nI g) (nI f) (nI t) d).1 51 0 k = if k = g then nI t else B.1 51 0 k := fun k => by unfold mStage; rw [ec]; simp [uI_1]
  have e52 : ∀ k, (mStage B (nI g) (nI f) (nI t) d).1 52 0 k = if k = g then d else B.1 52 0 k := fun k => by unfold mStage; rw [ec]; simp [uI_1]
  have hw : ∀ k, k < g → ¬ B.1 52 0 k = 0 := fun k hk => by
    obtain ⟨⟨w, w1, w2, e⟩, -⟩ := h.2 k hk
    rw [e]; exact nI_ne0 (by omega) (by omega)
  refine ⟨fun i j hi hj => ?_, fun k hk => ?_⟩
  · rw [mWayF_app (B := B) (fun k hk => ⟨by rw [e50, if_neg (by omega)], by rw [e51, if_neg (by omega)], by rw [e52, if_neg (by omega)]⟩) hw g 0 (by omega), e50, e51, e52, if_pos rfl, if_pos rfl, if_pos rfl, ← h.1 i j hi hj]
    have hs : A.1 32 f t = A.1 32 t f := by rw [h.1 f t hf ht, h.1 t f ht hf]; exact mWayF_symm g 0
    have heq : ((nI f = nI i ∧ nI t = nI j) ∨ (nI f = nI j ∧ nI t = nI i)) ↔ ((i = f ∧ j = t) ∨ (i = t ∧ j = f)) := by
      rw [nI_eq (by omega) (by omega), nI_eq (by omega) (by omega), nI_eq (by omega) (by omega), nI_eq (by omega) (by omega)]
      omega
    unfold cStage
    by_cases z : A.1 32 f t = 0
    · rw [if_pos z]
      by_cases y : (i = f ∧ j = t) ∨ (i = t ∧ j = f)
      · have z2 : A.1 32 i j = 0 := by
          rcases y with ⟨rfl, rfl⟩ | ⟨rfl, rfl⟩
          · exact z
          · rw [← hs]; exact z
        rw [if_pos z2, if_pos (heq.mpr y)]
        rcases y with ⟨rfl, rfl⟩ | ⟨rfl, rfl⟩ <;> simp [uI_1]
      · rw [if_neg (fun q => y (heq.mp q))]
        have : (uI (uI (uI A 32 f t d) 32 t f d) 0 0 7 (A.1 0 0 7 + 1)).1 32 i j = A.1 32 i j := by
          rw [uI_1, if_neg (by omega), uI_1, if_neg (by omega), uI_1, if_neg (by omega)]
        rw [this]
        by_cases z2 : A.1 32 i j = 0
        · rw [if_pos z2, z2]
        · rw [if_neg z2]
    · rw [if_neg z]
      have : (uI A 0 0 7 (A.1 0 0 7 + 1)).1 32 i j = A.1 32 i j := by rw [uI_1, if_neg (by omega)]
      rw [this]
      by_cases z2 : A.1 32 i j = 0
      · rw [if_pos z2, if_neg (fun q => ?_), z2]
        rcases heq.mp q with ⟨rfl, rfl⟩ | ⟨rfl, rfl⟩
        · exact z z2
        · exact z (by rw [hs]; exact z2)
      · rw [if_neg z2]
  · rw [e50, e51, e52]
    by_cases ek : k = g
    · rw [if_pos ek, if_pos ek, if_pos ek]
      exact ⟨hd, fun q => hne ((nI_eq (by omega) (by omega)).mp q)⟩
    · rw [if_neg ek, if_neg ek, if_neg ek]
      exact h.2 k (by omega)
end STGS
