/-! A day begins; stations pass it. -/
section DAY1
variable {A A' B B' : MM} {ns nc g e r n D S X s : Nat}
theorem rIn.d1 (h : rIn ns nc g e r n D S X A B) (hD : D + 1 ≤ 102400) : rIn ns nc g e r n (D + 1) S X (cD1 A) (mD1 B) := by
  have fA : Fe (fun t k => t = 0 ∧ k = 13) A (cD1 A) := Fe.rfl'.u ⟨rfl, rfl⟩
  have fB : Fe (fun t k => t = 44 ∧ k = 1) B (mD1 B) := Fe.rfl'.u ⟨rfl, rfl⟩
  have a13 : (cD1 A).1 0 0 13 = nI (D + 1) := by
    show A.1 0 0 13 + 1 = _
    rw [h.da, nI_1]
  have b1 : (mD1 B).1 44 0 1 = nI (D + 1) := by
    show B.1 44 0 1 + 1 = _
    rw [h.db, nI_1]
  have hle : A.1 0 0 13 ≤ (cD1 A).1 0 0 13 := by rw [a13, h.da]; exact nI_le (by omega) (by omega)
  have tA : ∀ t, t ≠ 0 → (cD1 A).1 t = A.1 t := fun t ht => fA.tag (fun k => by omega)
  have tB : ∀ t, t ≠ 44 → (mD1 B).1 t = B.1 t := fun t ht => fB.tag (fun k => by omega)
  refine ⟨⟨h.wc.d1, h.wm.md1, h.sg.md1, h.a7⟩, ⟨a13, b1, hD, ?_⟩, ?_, ?_, ?_, ?_, ?_, ?_, ?_, ?_, ?_, ?_, ?_, ?_, ?_⟩
  · rw [carr_of (A := A) (fun c => by rw [tA 15 (by decide)])]; exact h.bx
  · exact h.st.of (tA 13 (by decide)) (tB 45 (by decide)) (tB 46 (by decide)) (tB 47 (by decide)) (tB 48 (by decide)) (tB 49 (by decide))
  · exact h.mkt.of (fun s k _ => by rw [tA 13 (by decide)])
  · exact h.sg'.of (tA 32 (by decide)) (tB 50 (by decide)) (tB 51 (by decide)) (tB 52 (by decide))
  · exact h.lo.of (tA 34 (by decide)) (tB 53 (by decide))
  · exact h.ca.of (tA 15 (by decide)) (tA 16 (by decide)) (fun t h1 h2 _ _ _ => tB t (by omega))
  · exact h.bd.of (tA 15 (by decide))
  · exact h.kn.of (tA 28 (by decide)) (tA 29 (by decide)) hle (tB 65 (by decide)) (tB 66 (by decide))
  · exact h.or.of (fun t h1 h2 => tA t (by omega)) (tB 67 (by decide))
  · exact h.ds.of (fun t h1 h2 => tA t (by omega)) (tB 69 (by decide)) (tB 70 (by decide))
  · exact h.le.day (fun t h1 h2 => by rw [tA t (by omega)]) rfl hle (fun t h1 h2 => by rw [tB t (by omega)]) rfl rfl
  · exact h.su.of rfl rfl
  · exact h.ta.of (by rw [tA 1 (by decide)]) (tA 2 (by decide)) rfl (tB 81 (by decide)) rfl rfl rfl
  · exact h.wl.of (tA 13 (by decide))
theorem rWl.pass (h : rWl ns A) : rWl ns (cPassSt A s) := fun u hu h0 => by
  have e0 : ∀ k, k ≠ 4 → k ≠ 7 → (cPassSt A s).1 13 u k = A.1 13 u k := fun k h1 h2 => by unfold cPassSt; simp [uI_1, h1, h2]
  have e4 : (cPassSt A s).1 13 u 4 = if u = s then mn (A.1 13 s 3) (A.1 13 s 4 + A.1 13 s 2) else A.1 13 u 4 := by unfold cPassSt; simp [uI_1]
  rw [e0 0 (by decide) (by decide)] at h0
  obtain ⟨a, b, k, ha, hb, hk, h2, h3, h4⟩ := h u hu h0
  rw [e0 2 (by decide) (by decide), e0 3 (by decide) (by decide), e4]
  by_cases q : u = s
  · subst q
    rw [if_pos rfl]
    refine ⟨a, b, min b (k + a), ha, hb, Nat.min_le_left _ _, h2, h3, ?_⟩
    rw [h2, h3, h4, nI_add]
    unfold mn
    by_cases z : k + a < b
    · rw [if_pos (nI_lt z (by omega)), Nat.min_eq_right (by omega)]
    · rw [if_neg (nI_nlt (by omega) (by omega)), Nat.min_eq_left (by omega)]
  · rw [if_neg q]
    exact ⟨a, b, k, ha, hb, hk, h2, h3, h4⟩
theorem mx0_sub' {t d : Nat} (ht : t < 2 ^ 31) (hd : d < 2 ^ 31) : mx0 (nI t - nI d) = nI (t - d) := by
  unfold mx0
  rcases Nat.lt_or_ge d t with h | h
  · rw [pk_sub (by omega), if_pos]
    have := nI_lt (a := 0) (b := t - d) (by omega) (by omega)
    exact this
  · rw [Nat.sub_eq_zero_of_le h, if_neg]
    · rfl
    · rw [Int32.not_lt, Int32.le_iff_toInt_le, Int32.toInt_sub, nI_toInt ht, nI_toInt hd]
      have e0 : (0 : Int32).toInt = 0 := rfl
      rw [e0]
      show Int.bmod ((t : Int) - (d : Int)) (2 ^ 32) ≤ 0
      rw [Int.bmod_eq_of_le (by omega) (by omega)]
      omega
theorem rMk.pass (h : rMk ns S A) (hS : S < 2 ^ 31) : rMk ns S (cPassSt A s) := fun u hu h0 => by
  have e0 : (cPassSt A s).1 13 u 0 = A.1 13 u 0 := by unfold cPassSt; simp [uI_1]
  have e5 : (cPassSt A s).1 13 u 5 = A.1 13 u 5 := by unfold cPassSt; simp [uI_1]
  have e6 : (cPassSt A s).1 13 u 6 = A.1 13 u 6 := by unfold cPassSt; simp [uI_1]
  have e7 : (cPassSt A s).1 13 u 7 = if u = s then mx0 (A.1 13 s 7 - A.1 13 s 6) else A.1 13 u 7 := by unfold cPassSt; simp [uI_1]
  rw [e0] at h0
  obtain ⟨t, f, k, ht, hf, hk, h5, h6, h7⟩ := h u hu h0
  rw [e5, e6, e7]
  by_cases q : u = s
  · subst q
    rw [if_pos rfl]
    refine ⟨t, f, k - f, ht, hf, by omega, h5, h6, ?_⟩
    rw [h6, h7, mx0_sub' (by omega) (by omega)]
  · rw [if_neg q]
    exact ⟨t, f, k, ht, hf, hk, h5, h6, h7⟩
theorem rIn.pass (h : rIn ns nc g e r n D S X A B) (hs : s < ns) (hX : X < 2 ^ 32) : rIn ns nc g e r n D S X (cPassSt A s) (mPass2 (nI s) (mPass1 (nI s) B)) := by
  have hb := h.bx
  have fA : Fe (fun t k => t = 13 ∧ (k = 4 ∨ k = 7)) A (cPassSt A s) := (Fe.rfl'.u (by omega)).u (by omega)
  have fB : Fe (fun t _ => t = 49) B (mPass2 (nI s) (mPass1 (nI s) B)) := by
    have f1 : Fe (fun t _ => t = 49) B (mPass1 (nI s) B) := by
      unfold mPass1; split
      · exact Fe.rfl'.u rfl
      · exact Fe.rfl'
    refine f1.trans ?_
    unfold mPass2; split
    · exact Fe.rfl'.u rfl
    · exact Fe.rfl'
  have jB : (mPass2 (nI s) (mPass1 (nI s) B)).2 = B.2 := by
    unfold mPass2 mPass1
    split <;> split <;> rfl
  have tA : ∀ t, t ≠ 13 → (cPassSt A s).1 t = A.1 t := fun t ht => fA.tag (fun k => by omega)
  have tB : ∀ t, t ≠ 49 → (mPass2 (nI s) (mPass1 (nI s) B)).1 t = B.1 t := fun t ht => fB.tag (fun k => by omega)
  have d13 : (cPassSt A s).1 0 0 13 = A.1 0 0 13 := by rw [tA 0 (by decide)]
  refine ⟨⟨h.wc.pass, h.wm.pass, h.sg.pass, by rw [tA 0 (by decide)]; exact h.a7⟩, ⟨d13.trans h.da, by rw [tB 44 (by decide)]; exact h.db, h.dl, ?_⟩, ?_, ?_, ?_, ?_, ?_, ?_, ?_, ?_, ?_, ?_, ?_, ?_, ?_⟩
  · rw [carr_of (A := A) (fun c => by rw [tA 15 (by decide)])]; exact h.bx
  · exact h.st.pass hs h.wc.ls
  · exact h.mkt.pass (by omega)
  · exact h.sg'.of (tA 32 (by decide)) (tB 50 (by decide)) (tB 51 (by decide)) (tB 52 (by decide))
  · exact h.lo.of (tA 34 (by decide)) (tB 53 (by decide))
  · exact h.ca.of (tA 15 (by decide)) (tA 16 (by decide)) (fun t h1 h2 _ _ _ => tB t (by omega))
  · exact h.bd.of (tA 15 (by decide))
  · exact h.kn.of (tA 28 (by decide)) (tA 29 (by decide)) (by rw [d13]; exact Int32.le_refl _) (tB 65 (by decide)) (tB 66 (by decide))
  · exact h.or.of (fun t h1 h2 => tA t (by omega)) (tB 67 (by decide))
  · exact h.ds.of (fun t h1 h2 => tA t (by omega)) (tB 69 (by decide)) (tB 70 (by decide))
  · exact h.le.fr (fun t h1 h2 => by rw [tA t (by omega)]) rfl d13 (fun t h1 h2 => by rw [tB t (by omega)]) (by rw [tB 44 (by decide)]) (by rw [tB 44 (by decide)])
  · exact h.su.of rfl (by rw [jB])
  · exact h.ta.of (by rw [tA 1 (by decide)]) (tA 2 (by decide)) (by rw [tA 0 (by decide)]) (tB 81 (by decide)) (by rw [tB 44 (by decide)]) (by rw [tB 44 (by decide)]) (by rw [tB 44 (by decide)])
  · exact h.wl.pass
theorem rIn.d2 (h : rIn ns nc g e r n D S X A B) (hX : X < 2 ^ 32) : rIn ns nc g e r n D S X (cD2 ns A) (mD2 ns B) :=
  rep_rel (R := fun A B => rIn ns nc g e r n D S X A B) h (fun i _ _ hi h => h.pass hi hX)
end DAY1
