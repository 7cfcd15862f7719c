/-! The first memory: both agree. -/
section FRST
variable {Γ : GG} {Q : Out → Mem → Prop} {I : IT} {J : JT} {R : RT} {t a j i k : Nat}
theorem R0_ok {b : Nat × Nat} (hi : i < cntT t) (h : R0 t i j = some b) : b.1 < 85 ∧ b.2 < cntT b.1 := by
  have hl : ∀ (l : List (Nat × Nat)), (∀ q ∈ l, q.2 < 85 ∧ i < cntT q.2) → rL i j l = some b → b.1 < 85 ∧ b.2 < cntT b.1 := by
    intro l
    induction l with
    | nil => intro _ h; cases h
    | cons q l ih =>
      intro hq h
      rw [rL_c] at h
      split at h
      · cases h; exact hq q List.mem_cons_self
      · exact ih (fun q' hq' => hq q' (List.mem_cons_of_mem _ hq')) h
  have ha : ∀ u, cntT u = 12 → u < 85 → rA u j = some b → b.1 < 85 ∧ b.2 < cntT b.1 := by
    intro u hu hu2 h
    rw [rA_if] at h
    split at h
    · rename_i y
      cases h
      exact ⟨hu2, by rw [hu]; exact y⟩
    · cases h
  unfold R0 at h
  have c1 : ∀ (u : Nat) (X Y : Option (Nat × Nat)), (bif Nat.beq t u then X else Y) = some b → (t = u ∧ X = some b) ∨ Y = some b := by
    intro u X Y h
    cases hb : Nat.beq t u with
    | true => rw [hb] at h; exact Or.inl ⟨Nat.eq_of_beq_eq_true hb, h⟩
    | false => rw [hb] at h; exact Or.inr h
  rcases c1 _ _ _ h with ⟨rfl, h⟩ | h
  · have : i = 0 := by have : i < 1 := hi; omega
    subst this
    exact hl _ (by decide) h
  rcases c1 _ _ _ h with ⟨rfl, h⟩ | h
  · have hi : i < 12 := hi
    refine hl _ ?_ h
    intro q hq
    have : ∀ q ∈ [(12, 16), (13, 22), (14, 25), (15, 28), (16, 29)], q.2 < 85 ∧ cntT q.2 = 12 := by decide
    obtain ⟨x1, x2⟩ := this q hq
    exact ⟨x1, by rw [x2]; exact hi⟩
  rcases c1 _ _ _ h with ⟨rfl, h⟩ | h
  · have : i = 0 := by have : i < 1 := hi; omega
    subst this
    exact hl _ (by decide) h
  rcases c1 _ _ _ h with ⟨rfl, h⟩ | h
  · exact ha 13 rfl (by decide) h
  rcases c1 _ _ _ h with ⟨rfl, h⟩ | h
  · exact ha 15 rfl (by decide) h
  rcases c1 _ _ _ h with ⟨rfl, h⟩ | h
  · have : i = 0 := by have : i < 1 := hi; omega
    subst this
    exact hl _ (by decide) h
  rcases c1 _ _ _ h with ⟨rfl, h⟩ | h
  · have : i = 0 := by have : i < 1 := hi; omega
    subst this
    exact hl _ (by decide) h
  rcases c1 _ _ _ h with ⟨rfl, h⟩ | h
  · have : i = 0 := by have : i < 1 := hi; omega
    subst this
    exact hl _ (by decide) h
  rcases c1 _ _ _ h with ⟨rfl, h⟩ | h
  · have hi : i < 12 := hi
    refine hl _ ?_ h
    intro q hq
    have : ∀ q ∈ [(1, 17), (2, 18), (3, 19), (4, 20), (5, 21)], q.2 < 85 ∧ cntT q.2 = 12 := by decide
    obtain ⟨x1, x2⟩ := this q hq
    exact ⟨x1, by rw [x2]; exact hi⟩
  rcases c1 _ _ _ h with ⟨rfl, h⟩ | h
  · have : i = 0 := by have : i < 1 := hi; omega
    subst this
    exact hl _ (by decide) h
  rcases c1 _ _ _ h with ⟨rfl, h⟩ | h
  · have hi : i < 12 := hi
    refine hl _ ?_ h
    intro q hq
    have : ∀ q ∈ [(1, 23), (2, 24)], q.2 < 85 ∧ cntT q.2 = 12 := by decide
    obtain ⟨x1, x2⟩ := this q hq
    exact ⟨x1, by rw [x2]; exact hi⟩
  rcases c1 _ _ _ h with ⟨rfl, h⟩ | h
  · have hi : i < 12 := hi
    refine hl _ ?_ h
    intro q hq
    have : ∀ q ∈ [(1, 26), (2, 27)], q.2 < 85 ∧ cntT q.2 = 12 := by decide
    obtain ⟨x1, x2⟩ := this q hq
    exact ⟨x1, by rw [x2]; exact hi⟩
  rcases c1 _ _ _ h with ⟨rfl, h⟩ | h
  · exact ha 32 rfl (by decide) h
  rcases c1 _ _ _ h with ⟨rfl, h⟩ | h
  · exact ha 34 rfl (by decide) h
  cases h
theorem allO_ok : ∀ q ∈ allO, q.2 < cntT q.1 := by decide +kernel
theorem wd_switch {H : Heap} (hR : ∀ t i j, i < cntT t → R t i j = R0 t i j) (h : Wd Γ (mo 283 I J R) H) : Wd Γ (none, I, J, R0) H := by
  have hw : wsOf Γ (none, I, J, R0) = wsOf Γ (mo 283 I J R) := by
    unfold wsOf
    have e1 : liveO (mo 283 I J R) = allO := by
      show allO.take 283 = allO
      decide +kernel
    have e2 : liveO ((none, I, J, R0) : Mem) = allO := rfl
    rw [e1, e2]
    refine List.map_congr_left (fun q hq => ?_)
    have hq2 := allO_ok q hq
    have e3 : ∀ j, mR ((none, I, J, R0) : Mem) q.1 q.2 j = mR (mo 283 I J R) q.1 q.2 j := fun j => (hR q.1 q.2 j hq2).symm
    have e4 : cellE Γ (none, I, J, R0) q = cellE Γ (mo 283 I J R) q := by
      unfold cellE
      have f1 : fldV Γ ((none, I, J, R0) : Mem) (kdK q.1) q = fldV Γ (mo 283 I J R) (kdK q.1) q := by
        funext j
        unfold fldV
        split
        · rfl
        · rfl
        · rw [e3 j]
      rw [f1]
      have f2 : (fun j => refV Γ (mR ((none, I, J, R0) : Mem) q.1 q.2 j)) = fun j => refV Γ (mR (mo 283 I J R) q.1 q.2 j) := by
        funext j; rw [e3 j]
      rw [f2]
      rfl
    rw [e4]
  obtain ⟨h1, h2, h3, h4, h5, h6⟩ := h
  refine ⟨by rw [hw]; exact h1, by rw [hw]; exact h2, h3, fun k hk => (by cases hk), fun t i j b hal hb => ?_, fun k hk => (by cases hk)⟩
  obtain ⟨x1, x2⟩ := R0_ok hal.1 hb
  exact ⟨x1, x2, fun k hk => by cases hk⟩
theorem okV_switch {v : MV} (h : okV (mo 283 I J R) v) : okV ((none, I, J, R0) : Mem) v := by
  rcases v with x | q
  · exact h
  · intro hq
    exact ⟨(h hq).1, fun k hk => by cases hk⟩
theorem go_switch {mi pc : Nat} {lv : LV} {st : List MV} {cnt : Nat × Nat} (hR : ∀ t i j, i < cntT t → R t i j = R0 t i j) (h : Go Γ mi pc lv st ((none, I, J, R0) : Mem) cnt Q) : Go Γ mi pc lv st (mo 283 I J R) cnt Q := by
  intro n0 p e s m args below meth c H locs ls hn hM hl hW hS hL hst h162
  exact h n0 p e s m args below meth c H locs ls (fun k hk => by cases hk) hM hl (wd_switch hR hW) hS (fun q hq => okV_switch (hL q hq)) (fun v hv => okV_switch (hst v hv)) h162
/-- what a caravan's numbers are at first -/
def cvI (a t j : Nat) (x : Int32) : Int32 := if t = 15 ∧ j = 0 then nI a else if (t = 22 ∨ t = 25) ∧ (j = 0 ∨ j = 3) then 1 else if (t = 22 ∨ t = 25) ∧ j = 4 then -1 else if (t = 23 ∨ t = 26) ∧ j = 0 then 0 else if (t = 24 ∨ t = 27) ∧ j = 0 then 1 else if (t = 28 ∨ t = 29) ∧ j < 12 then -1 else x
theorem iKn_at : ∀ k t a j, iKn i k I t a j = if (t = 28 ∨ t = 29) ∧ a = i ∧ j < k then -1 else I t a j
  | 0, t, a, j => by rw [if_neg (fun z => Nat.not_lt_zero _ z.2.2)]; rfl
  | k + 1, t, a, j => by
    show up3 (up3 (iKn i k I) 28 i k (-1)) 29 i k (-1) t a j = _
    rw [up3_eq, up3_eq, iKn_at k t a j]
    by_cases z : (t = 28 ∨ t = 29) ∧ a = i ∧ j < k + 1
    · rw [if_pos z]
      by_cases y : t = 29 ∧ a = i ∧ j = k
      · rw [if_pos y]
      · rw [if_neg y]
        by_cases x : t = 28 ∧ a = i ∧ j = k
        · rw [if_pos x]
        · rw [if_neg x, if_pos ⟨z.1, z.2.1, by omega⟩]
    · rw [if_neg z, if_neg (by omega), if_neg (by omega), if_neg (by omega)]
theorem iCo_at {u : Nat} : iCo u i I t a j = if a = i ∧ t = u ∧ (j = 0 ∨ j = 3) then 1 else if a = i ∧ t = u ∧ j = 4 then -1 else if a = i ∧ t = u + 1 ∧ j = 0 then 0 else if a = i ∧ t = u + 2 ∧ j = 0 then 1 else I t a j := by
  unfold iCo
  simp only [up3_eq]
  by_cases ha : a = i
  · by_cases h0 : t = u
    · subst h0
      by_cases j4 : j = 4
      · subst j4; simp [ha]
      by_cases j3 : j = 3
      · subst j3; simp [ha]
      by_cases j0 : j = 0
      · subst j0; simp [ha]
      · simp [ha, j4, j3, j0]
    · by_cases h1 : t = u + 1
      · subst h1; simp [ha]
      · by_cases h2 : t = u + 2
        · subst h2; simp [ha]
        · simp [ha, h0, h1, h2]
  · simp [ha]
theorem iCar_at : iCar i I t a j = if a = i then cvI a t j (I t a j) else I t a j := by
  unfold iCar
  rw [iKn_at, iCo_at, iCo_at, up3_eq]
  unfold cvI
  by_cases ha : a = i
  · subst ha
    rw [if_pos rfl]
    by_cases t15 : t = 15
    · subst t15; simp
    by_cases t22 : t = 22
    · subst t22; simp
    by_cases t23 : t = 23
    · subst t23; simp
    by_cases t24 : t = 24
    · subst t24; simp
    by_cases t25 : t = 25
    · subst t25; simp
    by_cases t26 : t = 26
    · subst t26; simp
    by_cases t27 : t = 27
    · subst t27; simp
    simp [t15, t22, t23, t24, t25, t26, t27]
  · rw [if_neg ha]
    simp [ha]
theorem iCars_at : ∀ k t a j, iCars k I t a j = if a < k then cvI a t j (I t a j) else I t a j
  | 0, t, a, j => by rw [if_neg (Nat.not_lt_zero _)]; rfl
  | k + 1, t, a, j => by
    show iCar k (iCars k I) t a j = _
    rw [iCar_at, iCars_at k t a j]
    by_cases z : a = k
    · subst z; rw [if_pos rfl, if_neg (Nat.lt_irrefl _), if_pos (Nat.lt_succ_self _)]
    · rw [if_neg z]
      by_cases y : a < k
      · rw [if_pos y, if_pos (by omega)]
      · rw [if_neg y, if_neg (by omega)]
def In0 : IT := fun _ _ _ => 0
def Jn0 : JT := fun _ _ _ => 0
def M00 : MM := (up3 (iCars 12 (iA1 In0)) 44 0 49 (-1), Jn0)
theorem m00_o (h : t < 15 ∨ (16 ≤ t ∧ t ≤ 21) ∨ 29 < t) (h2 : ¬ (t = 44 ∧ j = 49)) : M00.1 t a j = iA1 In0 t a j := by
  show up3 (iCars 12 (iA1 In0)) 44 0 49 (-1) t a j = _
  rw [up3_eq, if_neg (fun z => h2 ⟨z.1, z.2.2⟩), iCars_at]
  have : cvI a t j (iA1 In0 t a j) = iA1 In0 t a j := by
    unfold cvI
    rw [if_neg (by omega), if_neg (by omega), if_neg (by omega), if_neg (by omega), if_neg (by omega), if_neg (by omega)]
  rw [this, ite_self]
theorem m00_0 (h : t < 15 ∨ (16 ≤ t ∧ t ≤ 21) ∨ 29 < t) (h2 : ¬ (t = 44 ∧ j = 49)) (h3 : ¬ (9 ≤ t ∧ t ≤ 11)) (h4 : ¬ (t = 0 ∧ j = 3)) : M00.1 t a j = 0 := by
  rw [m00_o h h2]
  unfold iA1
  rw [up3_eq, if_neg (by omega), iCo_at, if_neg (by omega), if_neg (by omega), if_neg (by omega), if_neg (by omega)]
  rfl
theorem m00_c (h : 15 ≤ t) (h2 : t ≤ 29) (ha : a < 12) : M00.1 t a j = cvI a t j 0 := by
  show up3 (iCars 12 (iA1 In0)) 44 0 49 (-1) t a j = _
  rw [up3_eq, if_neg (by omega), iCars_at, if_pos ha]
  have : iA1 In0 t a j = 0 := by
    unfold iA1
    rw [up3_eq, if_neg (by omega), iCo_at, if_neg (by omega), if_neg (by omega), if_neg (by omega), if_neg (by omega)]
    rfl
  rw [this]
theorem jn_first : Jn 0 M00 := by
  have z : ∀ t a j, (t < 15 ∨ (16 ≤ t ∧ t ≤ 21) ∨ 29 < t) → ¬ (t = 44 ∧ j = 49) → ¬ (9 ≤ t ∧ t ≤ 11) → ¬ (t = 0 ∧ j = 3) → M00.1 t a j = 0 := fun t a j h1 h2 h3 h4 => m00_0 h1 h2 h3 h4
  have c15 : ∀ c k, c < 12 → M00.1 15 c k = if k = 0 then nI c else 0 := fun c k hc => by rw [m00_c (by decide) (by decide) hc]; unfold cvI; simp
  have j0 : ∀ t i k, M00.2 t i k = 0 := fun _ _ _ => rfl
  refine ⟨0, 0, 0, 0, 0, 0, 0, 0, ⟨⟨?_, ?_, ⟨by decide, z 44 0 11 (by omega) (by omega) (by omega) (by omega)⟩, z 0 0 7 (by omega) (by omega) (by omega) (by omega)⟩, ⟨z 0 0 13 (by omega) (by omega) (by omega) (by omega), z 44 0 1 (by omega) (by omega) (by omega) (by omega), by decide, Nat.le_refl _⟩, ?_, ?_, ?_, ?_, ?_, ?_, ?_, ?_, ?_, ?_, ?_, ?_, ?_⟩, by decide⟩
  · refine ⟨⟨by decide, by decide⟩, ⟨z 0 0 5 (by omega) (by omega) (by omega) (by omega), z 0 0 9 (by omega) (by omega) (by omega) (by omega)⟩, fun c hc => absurd hc (Nat.not_lt_zero _), fun c hc => absurd hc (Nat.not_lt_zero _), fun c hc => absurd hc (Nat.not_lt_zero _), ?_⟩
    rw [z 35 0 0 (by omega) (by omega) (by omega) (by omega)]; decide
  · exact ⟨⟨by decide, by decide⟩, ⟨z 44 0 7 (by omega) (by omega) (by omega) (by omega), z 44 0 26 (by omega) (by omega) (by omega) (by omega)⟩, ⟨⟨0, by decide, z 44 0 11 (by omega) (by omega) (by omega) (by omega)⟩, 0, by decide, z 44 0 36 (by omega) (by omega) (by omega) (by omega)⟩, fun c hc => absurd hc (Nat.not_lt_zero _), fun c hc => absurd hc (Nat.not_lt_zero _), fun c hc => absurd hc (Nat.not_lt_zero _), fun c hc => absurd hc (Nat.not_lt_zero _)⟩
  · exact ⟨fun c hc => absurd hc (Nat.not_lt_zero _), fun s _ => ⟨z 13 s 5 (by omega) (by omega) (by omega) (by omega), z 13 s 6 (by omega) (by omega) (by omega) (by omega), z 13 s 7 (by omega) (by omega) (by omega) (by omega)⟩⟩
  · exact fun c hc => absurd hc (Nat.not_lt_zero _)
  · exact ⟨fun i j _ _ => z 32 i j (by omega) (by omega) (by omega) (by omega), fun c hc => absurd hc (Nat.not_lt_zero _)⟩
  · intro i j _ _
    rw [z 34 i j (by omega) (by omega) (by omega) (by omega), z 53 0 _ (by omega) (by omega) (by omega) (by omega)]
  · refine ⟨fun c hc => by rw [c15 c 0 hc]; simp, fun c hc => absurd hc (Nat.not_lt_zero _), fun c _ hc => ?_⟩
    rw [c15 c 3 hc, c15 c 8 hc, c15 c 10 hc, c15 c 11 hc]
    refine ⟨⟨by simp, by simp, by simp, by simp, z 16 c 0 (by omega) (by omega) (by omega) (by omega)⟩, z 56 0 c (by omega) (by omega) (by omega) (by omega), z 58 0 c (by omega) (by omega) (by omega) (by omega), z 60 0 c (by omega) (by omega) (by omega) (by omega), z 61 0 c (by omega) (by omega) (by omega) (by omega), z 63 0 c (by omega) (by omega) (by omega) (by omega), z 64 0 c (by omega) (by omega) (by omega) (by omega), z 68 0 c (by omega) (by omega) (by omega) (by omega), z 69 0 _ (by omega) (by omega) (by omega) (by omega), z 70 0 _ (by omega) (by omega) (by omega) (by omega)⟩
  · exact fun c hc => absurd hc (Nat.not_lt_zero _)
  · refine ⟨fun c m hc => absurd hc (Nat.not_lt_zero _), fun c m _ hc hm => ?_, fun _ _ => 0, fun c m hc => absurd hc (Nat.not_lt_zero _)⟩
    rw [m00_c (by decide) (by decide) hc, m00_c (by decide) (by decide) hc]
    unfold cvI
    simp [hm]
  · exact fun c hc => absurd hc (Nat.not_lt_zero _)
  · refine ⟨fun c hc => absurd hc (Nat.not_lt_zero _), fun c _ hc => ?_⟩
    simp only [m00_c (by decide : 15 ≤ 22) (by decide) hc, m00_c (by decide : 15 ≤ 23) (by decide) hc, m00_c (by decide : 15 ≤ 24) (by decide) hc, m00_c (by decide : 15 ≤ 25) (by decide) hc, m00_c (by decide : 15 ≤ 26) (by decide) hc, m00_c (by decide : 15 ≤ 27) (by decide) hc]
    unfold cvI
    simp
  · refine ⟨⟨by decide, by decide⟩, ⟨z 35 0 0 (by omega) (by omega) (by omega) (by omega), z 44 0 36 (by omega) (by omega) (by omega) (by omega), z 35 0 6 (by omega) (by omega) (by omega) (by omega), z 44 0 40 (by omega) (by omega) (by omega) (by omega)⟩, fun c hc => absurd hc (Nat.not_lt_zero _), fun c hc => absurd hc (Nat.not_lt_zero _), fun c j _ hj => absurd hj (Nat.not_lt_zero _)⟩
  · exact ⟨rfl, rfl, rfl, rfl, rfl⟩
  · refine ⟨by decide, z 1 0 1 (by omega) (by omega) (by omega) (by omega), z 44 0 44 (by omega) (by omega) (by omega) (by omega), ?_, ?_, 0, by decide, z 44 0 48 (by omega) (by omega) (by omega) (by omega)⟩
    · funext q
      rw [z 2 0 q (by omega) (by omega) (by omega) (by omega), z 81 0 q (by omega) (by omega) (by omega) (by omega)]
    · rw [m00_o (by omega) (by omega)]
      rfl
  · exact fun c hc => absurd hc (Nat.not_lt_zero _)
/-- the law, from its first op -/
theorem law_whole {N : Nat} (hL : N ≤ 3072) (hN : gN Γ = N) : Go Γ M_L_law 0 [(0, vr 201 0)] [] (mo 0 In0 Jn0 Rn) (0, 0) Q := by
  refine law_start (go_switch refs_ok ?_)
  show Go Γ 162 23 (lv0 0) [] (mk M00) (283, 8043) Q
  exact law_loop hL hN 513 0 M00 283 8043 (by omega) jn_first (by decide) (by decide) (by decide)
end FRST
