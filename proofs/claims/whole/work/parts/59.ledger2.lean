/-! Entries of both sides: another day, putting right, balance. -/
section LED2
variable {e r : Nat} {A B A' B' : MM}
theorem rLe.day (h : rLe e r A B) (hA : ∀ t, 35 ≤ t → t ≤ 43 → A'.1 t 0 = A.1 t 0) (hJ : A'.2 43 0 = A.2 43 0) (h13 : A.1 0 0 13 ≤ A'.1 0 0 13) (hB : ∀ t, 72 ≤ t → t ≤ 78 → B'.1 t 0 = B.1 t 0) (h36 : B'.1 44 0 36 = B.1 44 0 36) (h40 : B'.1 44 0 40 = B.1 44 0 40) : rLe e r A' B' := by
  have mm : ∀ x d k, mMoney B' x d k = mMoney B x d k := fun x d k => mMoney_congr k (fun j _ => ⟨by rw [hB 76 (by decide) (by decide)], by rw [hB 77 (by decide) (by decide)], by rw [hB 78 (by decide) (by decide)]⟩) (by rw [hB 75 (by decide) (by decide)])
  obtain ⟨h0, h1, h2, h3, h4⟩ := h
  refine ⟨h0, by rw [hA 35 (by decide) (by decide), h36, h40]; exact h1, fun i hi => ?_, fun k hk => ?_, by rw [hA 42 (by decide) (by decide)]; exact h4⟩
  · rw [hA 36 (by decide) (by decide), hA 37 (by decide) (by decide), hA 38 (by decide) (by decide), hA 39 (by decide) (by decide), hA 40 (by decide) (by decide), hB 72 (by decide) (by decide), hB 73 (by decide) (by decide), hB 74 (by decide) (by decide), hB 75 (by decide) (by decide), mm]
    obtain ⟨y1, y2, y3, y4, y5, y6⟩ := h2 i hi
    refine ⟨y1, y2, y3, y4, Int32.le_trans y5 h13, ?_⟩
    rw [y6]
    exact mMoney_day r (fun k hk => by
      obtain ⟨-, z2, z3, -⟩ := h3 k hk
      rw [← z2]
      exact ⟨z3, Int32.le_trans z3 h13⟩)
  · rw [hA 38 (by decide) (by decide), hA 41 (by decide) (by decide), hA 42 (by decide) (by decide), hB 76 (by decide) (by decide), hB 77 (by decide) (by decide), hB 78 (by decide) (by decide), hJ]
    simp only [mm]
    obtain ⟨y1, y2, y3, y4⟩ := h3 k hk
    exact ⟨y1, y2, Int32.le_trans y3 h13, y4⟩
theorem rLe.put {i : Nat} {m : Int32} (h : rLe e r A B) (hi : i < e) (hr : r < 100) (ht : B.1 44 0 1 = A.1 0 0 13) : rLe e (r + 1) (cPut A i m (A.1 0 0 13)) (mPut B (nI i) m) := by
  obtain ⟨⟨he, hr2⟩, ⟨a0, b0, a6, b6⟩, h1, h2, h3⟩ := h
  have ec : cl (nI r) = r := nI_clamp (by omega)
  unfold cPut mPut
  rw [a6, b6, ec, ht]
  have tA : ∀ t j, t ≠ 35 → t ≠ 40 → t ≠ 41 → t ≠ 42 → (uI (uI (uJ (uI (uI A 41 0 r (nI i)) 42 0 r (A.1 0 0 13)) 43 0 r (m.toInt64 - (A.1 40 0 i).toInt64)) 40 0 i m) 35 0 6 (nI r + 1)).1 t 0 j = A.1 t 0 j := fun t j a b c d => by simp [uI_1, uJ_1, a, b, c, d]
  have c40 : ∀ j, (uI (uI (uJ (uI (uI A 41 0 r (nI i)) 42 0 r (A.1 0 0 13)) 43 0 r (m.toInt64 - (A.1 40 0 i).toInt64)) 40 0 i m) 35 0 6 (nI r + 1)).1 40 0 j = if j = i then m else A.1 40 0 j := fun j => by simp [uI_1, uJ_1]
  have c41 : ∀ j, (uI (uI (uJ (uI (uI A 41 0 r (nI i)) 42 0 r (A.1 0 0 13)) 43 0 r (m.toInt64 - (A.1 40 0 i).toInt64)) 40 0 i m) 35 0 6 (nI r + 1)).1 41 0 j = if j = r then nI i else A.1 41 0 j := fun j => by simp [uI_1, uJ_1]
  have c42 : ∀ j, (uI (uI (uJ (uI (uI A 41 0 r (nI i)) 42 0 r (A.1 0 0 13)) 43 0 r (m.toInt64 - (A.1 40 0 i).toInt64)) 40 0 i m) 35 0 6 (nI r + 1)).1 42 0 j = if j = r then A.1 0 0 13 else A.1 42 0 j := fun j => by simp [uI_1, uJ_1]
  have c43 : ∀ j, (uI (uI (uJ (uI (uI A 41 0 r (nI i)) 42 0 r (A.1 0 0 13)) 43 0 r (m.toInt64 - (A.1 40 0 i).toInt64)) 40 0 i m) 35 0 6 (nI r + 1)).2 43 0 j = if j = r then m.toInt64 - (A.1 40 0 i).toInt64 else A.2 43 0 j := fun j => by simp [uI_2, uJ_2]
  have q0 : (uI (uI (uJ (uI (uI A 41 0 r (nI i)) 42 0 r (A.1 0 0 13)) 43 0 r (m.toInt64 - (A.1 40 0 i).toInt64)) 40 0 i m) 35 0 6 (nI r + 1)).1 35 0 0 = A.1 35 0 0 := rfl
  have q6 : (uI (uI (uJ (uI (uI A 41 0 r (nI i)) 42 0 r (A.1 0 0 13)) 43 0 r (m.toInt64 - (A.1 40 0 i).toInt64)) 40 0 i m) 35 0 6 (nI r + 1)).1 35 0 6 = nI (r + 1) := nI_1 r
  have h13 : (uI (uI (uJ (uI (uI A 41 0 r (nI i)) 42 0 r (A.1 0 0 13)) 43 0 r (m.toInt64 - (A.1 40 0 i).toInt64)) 40 0 i m) 35 0 6 (nI r + 1)).1 0 0 13 = A.1 0 0 13 := rfl
  have tB : ∀ t j, t ≠ 44 → t ≠ 76 → t ≠ 77 → t ≠ 78 → (uI (uI (uI (uI B 76 0 r (nI i)) 77 0 r (A.1 0 0 13)) 78 0 r m) 44 0 40 (nI r + 1)).1 t 0 j = B.1 t 0 j := fun t j a b c d => by simp [uI_1, a, b, c, d]
  have d76 : ∀ j, (uI (uI (uI (uI B 76 0 r (nI i)) 77 0 r (A.1 0 0 13)) 78 0 r m) 44 0 40 (nI r + 1)).1 76 0 j = if j = r then nI i else B.1 76 0 j := fun j => by simp [uI_1]
  have d77 : ∀ j, (uI (uI (uI (uI B 76 0 r (nI i)) 77 0 r (A.1 0 0 13)) 78 0 r m) 44 0 40 (nI r + 1)).1 77 0 j = if j = r then A.1 0 0 13 else B.1 77 0 j := fun j => by simp [uI_1]
  have d78 : ∀ j, (uI (uI (uI (uI B 76 0 r (nI i)) 77 0 r (A.1 0 0 13)) 78 0 r m) 44 0 40 (nI r + 1)).1 78 0 j = if j = r then m else B.1 78 0 j := fun j => by simp [uI_1]
  have p36 : (uI (uI (uI (uI B 76 0 r (nI i)) 77 0 r (A.1 0 0 13)) 78 0 r m) 44 0 40 (nI r + 1)).1 44 0 36 = B.1 44 0 36 := rfl
  have p40 : (uI (uI (uI (uI B 76 0 r (nI i)) 77 0 r (A.1 0 0 13)) 78 0 r m) 44 0 40 (nI r + 1)).1 44 0 40 = nI (r + 1) := nI_1 r
  generalize uI (uI (uJ (uI (uI A 41 0 r (nI i)) 42 0 r (A.1 0 0 13)) 43 0 r (m.toInt64 - (A.1 40 0 i).toInt64)) 40 0 i m) 35 0 6 (nI r + 1) = A' at *
  generalize uI (uI (uI (uI B 76 0 r (nI i)) 77 0 r (A.1 0 0 13)) 78 0 r m) 44 0 40 (nI r + 1) = B' at *
  have mm : ∀ x d k, k ≤ r → mMoney B' x d k = mMoney B x d k := fun x d k hk => mMoney_congr k (fun j hj => ⟨by rw [d76, if_neg (by omega)], by rw [d77, if_neg (by omega)], by rw [d78, if_neg (by omega)]⟩) (tB 75 _ (by decide) (by decide) (by decide) (by decide))
  refine ⟨⟨he, by omega⟩, ⟨q0.trans a0, p36.trans b0, q6, p40⟩, fun j hj => ?_, fun k hk => ?_, fun k j hkj hj => ?_⟩
  · rw [tA 36 j (by decide) (by decide) (by decide) (by decide), tA 37 j (by decide) (by decide) (by decide) (by decide), tA 38 j (by decide) (by decide) (by decide) (by decide), tA 39 j (by decide) (by decide) (by decide) (by decide), tB 72 j (by decide) (by decide) (by decide) (by decide), tB 73 j (by decide) (by decide) (by decide) (by decide), tB 74 j (by decide) (by decide) (by decide) (by decide), tB 75 j (by decide) (by decide) (by decide) (by decide), h13, c40]
    obtain ⟨y1, y2, y3, y4, y5, y6⟩ := h1 j hj
    refine ⟨y1, y2, y3, y4, y5, ?_⟩
    unfold mMoney
    rw [d76, d77, d78, if_pos rfl, if_pos rfl, if_pos rfl, mm _ _ r (Nat.le_refl _)]
    by_cases ej : j = i
    · subst ej
      rw [if_pos rfl, if_pos ⟨rfl, Int32.le_refl _⟩]
    · rw [if_neg ej, if_neg (fun z => ej ((nI_eq (by omega) (by omega)).mp z.1.symm))]
      exact y6
  · by_cases ek : k = r
    · subst ek
      rw [c41, c42, c43, d76, d77, d78, h13, if_pos rfl, if_pos rfl, if_pos rfl, if_pos rfl, if_pos rfl, if_pos rfl]
      obtain ⟨-, -, -, -, y5, y6⟩ := h1 i hi
      refine ⟨rfl, rfl, Int32.le_refl _, i, hi, rfl, ?_, ?_⟩
      · rw [tA 38 i (by decide) (by decide) (by decide) (by decide)]; exact y5
      · rw [mm _ _ k (Nat.le_refl _), y6]
    · obtain ⟨y1, y2, y3, j, hj, y4, y5, y6⟩ := h2 k (by omega)
      rw [c41, c42, c43, d76, d77, d78, h13, if_neg ek, if_neg ek, if_neg ek, if_neg ek, if_neg ek, if_neg ek]
      refine ⟨y1, y2, y3, j, hj, y4, ?_, ?_⟩
      · rw [tA 38 j (by decide) (by decide) (by decide) (by decide)]; exact y5
      · rw [mm _ _ k (by omega)]; exact y6
  · rw [c42, c42, if_neg (by omega)]
    by_cases ej : j = r
    · rw [if_pos ej]; exact (h2 k (by omega)).2.2.1
    · rw [if_neg ej]; exact h3 k j hkj (by omega)
/-- a sum of which one part changes -/
def sm64 (f : Nat → Int64) : Nat → Int64
  | 0 => 0
  | n + 1 => sm64 f n + f n
theorem sm64_congr {f g : Nat → Int64} : ∀ n, (∀ i, i < n → f i = g i) → sm64 f n = sm64 g n
  | 0, _ => rfl
  | n + 1, h => by unfold sm64; rw [sm64_congr n (fun i hi => h i (by omega)), h n (by omega)]
theorem sm64_up {f g : Nat → Int64} {j : Nat} : ∀ n, j < n → (∀ i, i < n → i ≠ j → g i = f i) → sm64 g n = sm64 f n + (g j - f j)
  | 0, h, _ => absurd h (Nat.not_lt_zero _)
  | n + 1, h, hf => by
    unfold sm64
    by_cases e : j = n
    · subst e
      rw [sm64_congr j (fun i hi => hf i (by omega) (by omega)), Int64.add_assoc (sm64 f j) (f j), Int64.add_comm (f j) (g j - f j), Int64.sub_add_cancel]
    · rw [sm64_up n (by omega) (fun i hi hne => hf i (by omega) hne), hf n (by omega) (fun z => e z.symm), Int64.add_assoc, Int64.add_assoc, Int64.add_comm (g j - f j) (f n)]
end LED2
