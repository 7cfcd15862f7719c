/-! Behind the making: the memory as the calls find it. -/
theorem rL_c (i k : Nat) (q : Nat × Nat) (l : List (Nat × Nat)) : rL i k (q :: l) = if q.1 = k then some (q.2, i) else rL i k l := by
  show (bif Nat.beq q.1 k then some (q.2, i) else rL i k l) = _
  by_cases h : q.1 = k
  · rw [if_pos h, h, Nat.beq_refl k]; rfl
  · rw [if_neg h]
    cases hb : Nat.beq q.1 k with
    | false => rfl
    | true => exact absurd (Nat.eq_of_beq_eq_true hb) h
def Rn : RT := fun _ _ _ => none
section STRT
variable {R : RT} {t a j i k : Nat}
theorem u_o {u b c : Nat} {x : Option (Nat × Nat)} (h : t ≠ u) : up3 R u b c x t a j = R t a j := by rw [up3_eq, if_neg (fun z => h z.1)]
theorem u_a {u b c : Nat} {x : Option (Nat × Nat)} (h : a ≠ b) : up3 R u b c x t a j = R t a j := by rw [up3_eq, if_neg (fun z => h z.2.1)]
theorem rCar_at (hR : ∀ t j, 15 ≤ t → t ≤ 29 → R t i j = none) (h1 : 15 ≤ t) (h2 : t ≤ 29) : rCar i R t a j = if a = i then R0 t i j else R t a j := by
  by_cases ha : a = i
  · subst ha
    rw [if_pos rfl]
    have hN := hR t j h1 h2
    have ht : t = 15 ∨ t = 16 ∨ t = 22 ∨ t = 25 ∨ (t ≠ 15 ∧ t ≠ 16 ∧ t ≠ 22 ∧ t ≠ 25) := by omega
    rcases ht with rfl | rfl | rfl | rfl | ht
    · show rCar a R 15 a j = rL a j [(12, 16), (13, 22), (14, 25), (15, 28), (16, 29)]
      unfold rCar rCo rOL
      simp only [rL_c]
      by_cases j2 : j = 12
      · subst j2; simp [up3_eq]
      by_cases j3 : j = 13
      · subst j3; simp [up3_eq]
      by_cases j4 : j = 14
      · subst j4; simp [up3_eq]
      by_cases j5 : j = 15
      · subst j5; simp [up3_eq]
      by_cases j6 : j = 16
      · subst j6; simp [up3_eq]
      have e1 : ¬ 12 = j := fun z => j2 z.symm
      have e2 : ¬ 13 = j := fun z => j3 z.symm
      have e3 : ¬ 14 = j := fun z => j4 z.symm
      have e4 : ¬ 15 = j := fun z => j5 z.symm
      have e5 : ¬ 16 = j := fun z => j6 z.symm
      simp [up3_eq, j2, j3, j4, j5, j6, e1, e2, e3, e4, e5, hN, rL]
    · show rCar a R 16 a j = rL a j [(1, 17), (2, 18), (3, 19), (4, 20), (5, 21)]
      unfold rCar rCo rOL
      simp only [rL_c]
      by_cases j2 : j = 1
      · subst j2; simp [up3_eq]
      by_cases j3 : j = 2
      · subst j3; simp [up3_eq]
      by_cases j4 : j = 3
      · subst j4; simp [up3_eq]
      by_cases j5 : j = 4
      · subst j5; simp [up3_eq]
      by_cases j6 : j = 5
      · subst j6; simp [up3_eq]
      have e1 : ¬ 1 = j := fun z => j2 z.symm
      have e2 : ¬ 2 = j := fun z => j3 z.symm
      have e3 : ¬ 3 = j := fun z => j4 z.symm
      have e4 : ¬ 4 = j := fun z => j5 z.symm
      have e5 : ¬ 5 = j := fun z => j6 z.symm
      simp [up3_eq, j2, j3, j4, j5, j6, e1, e2, e3, e4, e5, hN, rL]
    · show rCar a R 22 a j = rL a j [(1, 23), (2, 24)]
      unfold rCar rCo rOL
      simp only [rL_c]
      by_cases j2 : j = 1
      · subst j2; simp [up3_eq]
      by_cases j3 : j = 2
      · subst j3; simp [up3_eq]
      have e1 : ¬ 1 = j := fun z => j2 z.symm
      have e2 : ¬ 2 = j := fun z => j3 z.symm
      simp [up3_eq, j2, j3, e1, e2, hN, rL]
    · show rCar a R 25 a j = rL a j [(1, 26), (2, 27)]
      unfold rCar rCo rOL
      simp only [rL_c]
      by_cases j2 : j = 1
      · subst j2; simp [up3_eq]
      by_cases j3 : j = 2
      · subst j3; simp [up3_eq]
      have e1 : ¬ 1 = j := fun z => j2 z.symm
      have e2 : ¬ 2 = j := fun z => j3 z.symm
      simp [up3_eq, j2, j3, e1, e2, hN, rL]
    · obtain ⟨n1, n2, n3, n4⟩ := ht
      have e0 : R0 t a j = none := by
        have : t = 17 ∨ t = 18 ∨ t = 19 ∨ t = 20 ∨ t = 21 ∨ t = 23 ∨ t = 24 ∨ t = 26 ∨ t = 27 ∨ t = 28 ∨ t = 29 := by omega
        rcases this with rfl | rfl | rfl | rfl | rfl | rfl | rfl | rfl | rfl | rfl | rfl <;> rfl
      unfold rCar rCo rOL
      rw [e0, u_o n1, u_o n1, u_o n1, u_o n4, u_o n4, u_o n1, u_o n3, u_o n3, u_o n1, u_o n2, u_o n2, u_o n2, u_o n2, u_o n2, hN]
  · rw [if_neg ha]
    unfold rCar rCo rOL
    rw [u_a ha, u_a ha, u_a ha, u_a ha, u_a ha, u_a ha, u_a ha, u_a ha, u_a ha, u_a ha, u_a ha, u_a ha, u_a ha, u_a ha]
theorem rCars_at (hR : ∀ t i j, 15 ≤ t → t ≤ 29 → R t i j = none) : ∀ k t a j, 15 ≤ t → t ≤ 29 → rCars k R t a j = if a < k then R0 t a j else none
  | 0, t, a, j, h1, h2 => by rw [if_neg (Nat.not_lt_zero _)]; exact hR t a j h1 h2
  | k + 1, t, a, j, h1, h2 => by
    show up3 (rCar k (rCars k R)) 14 0 k (some (15, k)) t a j = _
    rw [u_o (by omega), rCar_at (fun t j x1 x2 => by rw [rCars_at hR k t k j x1 x2, if_neg (Nat.lt_irrefl _)]) h1 h2, rCars_at hR k t a j h1 h2]
    by_cases z : a = k
    · subst z; rw [if_pos rfl, if_pos (Nat.lt_succ_self _)]
    · rw [if_neg z]
      by_cases y : a < k
      · rw [if_pos y, if_pos (by omega)]
      · rw [if_neg y, if_neg (by omega)]
theorem rCars_14 (hR : ∀ j, R 14 0 j = none) : ∀ k, k ≤ 12 → ∀ j, rCars k R 14 0 j = if j < k then some (15, j) else none
  | 0, _, j => by rw [if_neg (Nat.not_lt_zero _)]; exact hR j
  | k + 1, hk, j => by
    show up3 (rCar k (rCars k R)) 14 0 k (some (15, k)) 14 0 j = _
    rw [up3_eq]
    by_cases z : j = k
    · rw [if_pos ⟨rfl, rfl, z⟩, if_pos (by omega), z]
    · rw [if_neg (fun y => z y.2.2), rCar_o (by omega), rCars_14 hR k (by omega) j]
      by_cases y : j < k
      · rw [if_pos y, if_pos (by omega)]
      · rw [if_neg y, if_neg (by omega)]
theorem rSts_12 (hR : ∀ j, R 12 0 j = none) : ∀ k, k ≤ 12 → ∀ j, rSts k R 12 0 j = if j < k then some (13, j) else none
  | 0, _, j => by rw [if_neg (Nat.not_lt_zero _)]; exact hR j
  | k + 1, hk, j => by
    show up3 (rSts k R) 12 0 k (some (13, k)) 12 0 j = _
    rw [up3_eq]
    by_cases z : j = k
    · rw [if_pos ⟨rfl, rfl, z⟩, if_pos (by omega), z]
    · rw [if_neg (fun y => z y.2.2), rSts_12 hR k (by omega) j]
      by_cases y : j < k
      · rw [if_pos y, if_pos (by omega)]
      · rw [if_neg y, if_neg (by omega)]
theorem rA_if (u j : Nat) : rA u j = if j < 12 then some (u, j) else none := by
  by_cases h : j < 12
  · rw [if_pos h]; exact rA_at h
  · rw [if_neg h]
    unfold rA
    rw [Nat.ble_eq_true_of_le (by omega : 12 ≤ j)]
    rfl
theorem rMod_o (h : t ≠ 44) : rMod R t a j = R t a j := by
  unfold rMod
  rw [u_o h, u_o h, u_o h, u_o h, u_o h, u_o h, u_o h, u_o h, u_o h, u_o h, u_o h, u_o h, u_o h, u_o h, u_o h, u_o h, u_o h, u_o h, u_o h, u_o h, u_o h, u_o h, u_o h, u_o h, u_o h, u_o h, u_o h, u_o h, u_o h, u_o h, u_o h, u_o h, u_o h, u_o h, u_o h, u_o h, u_o h, u_o h, u_o h]
theorem rLed_o (h : t ≠ 35) : rLed R t a j = R t a j := by
  unfold rLed
  rw [u_o h, u_o h, u_o h, u_o h, u_o h, u_o h, u_o h, u_o h]
theorem rMu_o {u : Nat} (h : t ≠ u) : rMu u R t a j = R t a j := if_neg (fun z => h z.1)
theorem rOL_o {u b : Nat} (h : t ≠ u) : rOL u b R t a j = R t a j := by
  unfold rOL
  rw [u_o h, u_o h, u_o h, u_o h, u_o h]
theorem rCo_o {u b : Nat} (h : t ≠ u) : rCo u b R t a j = R t a j := by
  unfold rCo
  rw [u_o h, u_o h]
theorem rA1_o (h0 : t ≠ 0) (h1 : t ≠ 1) (h3 : t ≠ 3) (h9 : t ≠ 9) : rA1 R t a j = R t a j := by
  unfold rA1
  rw [u_o h0, u_o h0, rCo_o h9, u_o h0, rOL_o h3, u_o h0, u_o h1]
theorem rA2_o (h0 : t ≠ 0) (h12 : t ≠ 12) : rA2 R t a j = rA1 R t a j := by
  unfold rA2
  rw [u_o h0, rSts_o h12]
theorem rA3_o (h0 : t ≠ 0) (h1 : t ≠ 31) (h2 : t ≠ 33) (h3 : t ≠ 35) : rA3 R t a j = rCars 12 (rA2 R) t a j := by
  unfold rA3
  rw [u_o h0, rLed_o h3, u_o h0, rMu_o h2, u_o h0, rMu_o h1, u_o h0]
theorem rMod_44 (hN : ∀ j, R 44 0 j = none) : ∀ j, rMod R 44 0 j = R0 44 0 j
  | 0 => hN 0
  | 1 => hN 1
  | 2 => rfl
  | 3 => rfl
  | 4 => rfl
  | 5 => rfl
  | 6 => rfl
  | 7 => hN 7
  | 8 => rfl
  | 9 => rfl
  | 10 => rfl
  | 11 => hN 11
  | 12 => rfl
  | 13 => rfl
  | 14 => rfl
  | 15 => rfl
  | 16 => rfl
  | 17 => rfl
  | 18 => rfl
  | 19 => rfl
  | 20 => rfl
  | 21 => rfl
  | 22 => rfl
  | 23 => rfl
  | 24 => rfl
  | 25 => rfl
  | 26 => hN 26
  | 27 => rfl
  | 28 => rfl
  | 29 => rfl
  | 30 => rfl
  | 31 => rfl
  | 32 => rfl
  | 33 => rfl
  | 34 => rfl
  | 35 => rfl
  | 36 => hN 36
  | 37 => rfl
  | 38 => rfl
  | 39 => rfl
  | 40 => hN 40
  | 41 => rfl
  | 42 => rfl
  | 43 => rfl
  | 44 => hN 44
  | 45 => rfl
  | 46 => hN 46
  | 47 => hN 47
  | 48 => hN 48
  | 49 => hN 49
  | 50 => rfl
  | j + 51 => hN (j + 51)
theorem rLed_35 (hN : ∀ j, R 35 0 j = none) : ∀ j, rLed R 35 0 j = R0 35 0 j
  | 0 => hN 0
  | 1 => rfl
  | 2 => rfl
  | 3 => rfl
  | 4 => rfl
  | 5 => rfl
  | 6 => hN 6
  | 7 => rfl
  | 8 => rfl
  | 9 => rfl
  | j + 10 => hN (j + 10)
theorem rOL_3 (hN : ∀ j, R 3 0 j = none) : ∀ j, rOL 3 0 R 3 0 j = R0 3 0 j
  | 0 => hN 0
  | 1 => rfl
  | 2 => rfl
  | 3 => rfl
  | 4 => rfl
  | 5 => rfl
  | j + 6 => hN (j + 6)
theorem rCo_9 (hN : ∀ j, R 9 0 j = none) : ∀ j, rCo 9 0 R 9 0 j = R0 9 0 j
  | 0 => hN 0
  | 1 => rfl
  | 2 => rfl
  | j + 3 => hN (j + 3)
theorem r1_1 (hN : ∀ j, R 1 0 j = none) : ∀ j, up3 R 1 0 0 (some (2, 0)) 1 0 j = R0 1 0 j
  | 0 => rfl
  | j + 1 => hN (j + 1)
theorem r0_0 : ∀ j, rA3 Rn 0 0 j = R0 0 0 j := by
  intro j
  have hb : ∀ j, rCars 12 (rA2 Rn) 0 0 j = rA2 Rn 0 0 j := fun j => rCars_o (by omega) 12
  have hs : ∀ j, rSts 12 (rA1 Rn) 0 0 j = rA1 Rn 0 0 j := fun j => rSts_o (by decide) 12
  unfold rA3
  rw [up3_eq, rLed_o (by decide), up3_eq, rMu_o (by decide), up3_eq, rMu_o (by decide), up3_eq, hb]
  unfold rA2
  rw [up3_eq, hs]
  unfold rA1
  rw [up3_eq, up3_eq, rCo_o (by decide), up3_eq, rOL_o (by decide), up3_eq, u_o (by decide)]
  show _ = rL 0 j [(4, 12), (8, 14), (11, 35), (0, 1), (6, 31), (12, 33), (10, 30), (1, 3), (2, 9)]
  simp only [rL_c]
  by_cases j4 : j = 4
  · subst j4; simp
  by_cases j8 : j = 8
  · subst j8; simp
  by_cases j11 : j = 11
  · subst j11; simp
  by_cases j0 : j = 0
  · subst j0; simp
  by_cases j6 : j = 6
  · subst j6; simp
  by_cases j12 : j = 12
  · subst j12; simp
  by_cases j10 : j = 10
  · subst j10; simp
  by_cases j1 : j = 1
  · subst j1; simp
  by_cases j2 : j = 2
  · subst j2; simp
  have e4 : ¬ 4 = j := fun z => j4 z.symm
  have e8 : ¬ 8 = j := fun z => j8 z.symm
  have e11 : ¬ 11 = j := fun z => j11 z.symm
  have e0 : ¬ 0 = j := fun z => j0 z.symm
  have e6 : ¬ 6 = j := fun z => j6 z.symm
  have e12 : ¬ 12 = j := fun z => j12 z.symm
  have e10 : ¬ 10 = j := fun z => j10 z.symm
  have e1 : ¬ 1 = j := fun z => j1 z.symm
  have e2 : ¬ 2 = j := fun z => j2 z.symm
  simp [j4, j8, j11, j0, j6, j12, j10, j1, j2, e4, e8, e11, e0, e6, e12, e10, e1, e2, Rn, rL]
/-- the references are as they should be -/
theorem refs_ok : ∀ t i j, i < cntT t → rMod (rA3 Rn) t i j = R0 t i j := by
  intro t i j hi
  have hA1 : ∀ t a j, t ≠ 0 → t ≠ 1 → t ≠ 3 → t ≠ 9 → t ≠ 12 → rA2 Rn t a j = none := fun t a j h0 h1 h3 h9 h12 => by
    rw [rA2_o h0 h12, rA1_o h0 h1 h3 h9]; rfl
  have hC : ∀ k t a j, 15 ≤ t → t ≤ 29 → rCars k (rA2 Rn) t a j = if a < k then R0 t a j else none := rCars_at (fun t i j h1 h2 => hA1 t i j (by omega) (by omega) (by omega) (by omega) (by omega))
  have i0 : ∀ {u : Nat}, t = u → cntT u = 1 → i = 0 := fun {u} h1 h2 => by
    subst h1; rw [h2] at hi; omega
  by_cases h44 : t = 44
  · subst h44
    cases i0 rfl rfl
    refine rMod_44 (fun j => ?_) j
    rw [rA3_o (by decide) (by decide) (by decide) (by decide), rCars_o (by omega), hA1 44 0 j (by decide) (by decide) (by decide) (by decide) (by decide)]
  rw [rMod_o h44]
  by_cases h0 : t = 0
  · subst h0
    cases i0 rfl rfl
    exact r0_0 j
  by_cases h35 : t = 35
  · subst h35
    cases i0 rfl rfl
    unfold rA3
    rw [u_o (by decide)]
    refine rLed_35 (fun j => ?_) j
    rw [u_o (by decide), rMu_o (by decide), u_o (by decide), rMu_o (by decide), u_o (by decide), rCars_o (by omega), hA1 35 0 j (by decide) (by decide) (by decide) (by decide) (by decide)]
  by_cases h31 : t = 31
  · subst h31
    cases i0 rfl rfl
    unfold rA3
    rw [u_o (by decide), rLed_o (by decide), u_o (by decide), rMu_o (by decide), u_o (by decide)]
    show (if (31 : Nat) = 31 ∧ (0 : Nat) = 0 ∧ j < 12 then some (31 + 1, j) else up3 (rCars 12 (rA2 Rn)) 0 0 10 (some (30, 0)) 31 0 j) = rA 32 j
    rw [rA_if, u_o (by decide), rCars_o (by omega), hA1 31 0 j (by decide) (by decide) (by decide) (by decide) (by decide)]
    by_cases y : j < 12
    · rw [if_pos ⟨rfl, rfl, y⟩, if_pos y]
    · rw [if_neg (fun z => y z.2.2), if_neg y]
  by_cases h33 : t = 33
  · subst h33
    cases i0 rfl rfl
    unfold rA3
    rw [u_o (by decide), rLed_o (by decide), u_o (by decide)]
    show (if (33 : Nat) = 33 ∧ (0 : Nat) = 0 ∧ j < 12 then some (33 + 1, j) else up3 (rMu 31 (up3 (rCars 12 (rA2 Rn)) 0 0 10 (some (30, 0)))) 0 0 6 (some (31, 0)) 33 0 j) = rA 34 j
    rw [rA_if, u_o (by decide), rMu_o (by decide), u_o (by decide), rCars_o (by omega), hA1 33 0 j (by decide) (by decide) (by decide) (by decide) (by decide)]
    by_cases y : j < 12
    · rw [if_pos ⟨rfl, rfl, y⟩, if_pos y]
    · rw [if_neg (fun z => y z.2.2), if_neg y]
  rw [rA3_o h0 h31 h33 h35]
  by_cases hc : 15 ≤ t ∧ t ≤ 29
  · have h12 : i < 12 := by
      have : t = 15 ∨ t = 16 ∨ t = 17 ∨ t = 18 ∨ t = 19 ∨ t = 20 ∨ t = 21 ∨ t = 22 ∨ t = 23 ∨ t = 24 ∨ t = 25 ∨ t = 26 ∨ t = 27 ∨ t = 28 ∨ t = 29 := by omega
      rcases this with rfl | rfl | rfl | rfl | rfl | rfl | rfl | rfl | rfl | rfl | rfl | rfl | rfl | rfl | rfl <;> exact hi
    rw [hC 12 t i j hc.1 hc.2, if_pos h12]
  by_cases h14 : t = 14
  · subst h14
    cases i0 rfl rfl
    rw [rCars_14 (fun j => hA1 14 0 j (by decide) (by decide) (by decide) (by decide) (by decide)) 12 (Nat.le_refl _) j]
    show _ = rA 15 j
    rw [rA_if]
  rw [rCars_o (by omega)]
  by_cases h12 : t = 12
  · subst h12
    cases i0 rfl rfl
    unfold rA2
    rw [u_o (by decide), rSts_12 (fun j => by rw [rA1_o (by decide) (by decide) (by decide) (by decide)]; rfl) 12 (Nat.le_refl _) j]
    show _ = rA 13 j
    rw [rA_if]
  rw [rA2_o h0 h12]
  by_cases h1 : t = 1
  · subst h1
    cases i0 rfl rfl
    unfold rA1
    rw [u_o (by decide), u_o (by decide), rCo_o (by decide), u_o (by decide), rOL_o (by decide), u_o (by decide)]
    exact r1_1 (fun j => rfl) j
  by_cases h3 : t = 3
  · subst h3
    cases i0 rfl rfl
    unfold rA1
    rw [u_o (by decide), u_o (by decide), rCo_o (by decide), u_o (by decide)]
    refine rOL_3 (fun j => ?_) j
    rw [u_o (by decide), u_o (by decide)]; rfl
  by_cases h9 : t = 9
  · subst h9
    cases i0 rfl rfl
    unfold rA1
    rw [u_o (by decide), u_o (by decide)]
    refine rCo_9 (fun j => ?_) j
    rw [u_o (by decide), rOL_o (by decide), u_o (by decide), u_o (by decide)]; rfl
  rw [rA1_o h0 h1 h3 h9]
  have e : ∀ u, Nat.beq t u = false ∨ t = u := fun u => by
    cases hb : Nat.beq t u with
    | false => exact Or.inl rfl
    | true => exact Or.inr (Nat.eq_of_beq_eq_true hb)
  have f : ∀ u, t ≠ u → Nat.beq t u = false := fun u hu => by
    rcases e u with z | z
    · exact z
    · exact absurd z hu
  unfold R0
  rw [f 0 h0, f 15 (by omega), f 44 h44, f 12 h12, f 14 h14, f 35 h35, f 1 h1, f 3 h3, f 16 (by omega), f 9 h9, f 22 (by omega), f 25 (by omega), f 31 h31, f 33 h33]
  rfl
end STRT
