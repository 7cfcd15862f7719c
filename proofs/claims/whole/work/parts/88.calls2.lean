/-! Other calls keep what agrees: a caravan, putting right, the tape. -/
section CAL2
variable {A A' B B' : MM} {ns nc g e r n D S X c : Nat}
theorem no_at {x : Int32} (hc : c < 12) (hx : x = nI c) (B : MM) : ∀ k, k ≤ 12 → ∀ t i j, (rep (mNo x) k B).1 t i j = if t = 66 ∧ i = 0 ∧ 12 * c ≤ j ∧ j < 12 * c + k then -1 else B.1 t i j
  | 0, _, t, i, j => by rw [if_neg (by omega)]; rfl
  | k + 1, hk, t, i, j => by
    show (uI (rep (mNo x) k B) 66 0 (cl (12 * x + nI k)) (-1)).1 t i j = _
    rw [(v144 (c := c) (k := k) (x := x) (y := nI k) hc (by omega) hx rfl).2, uI_1, no_at hc hx B k (by omega) t i j]
    by_cases h : t = 66 ∧ i = 0 ∧ j = 12 * c + k
    · rw [if_pos h, if_pos (by omega)]
    · rw [if_neg h]
      by_cases h2 : t = 66 ∧ i = 0 ∧ 12 * c ≤ j ∧ j < 12 * c + k
      · rw [if_pos h2, if_pos (by omega)]
      · rw [if_neg h2, if_neg (by omega)]
theorem no_j {x : Int32} (B : MM) : ∀ k, (rep (mNo x) k B).2 = B.2
  | 0 => rfl
  | k + 1 => no_j B k
theorem mCaravan_at (hc : c < 12) (B : MM) (a b w : Int32) : (∀ t, t ≠ 44 → t ≠ 54 → t ≠ 55 → t ≠ 57 → t ≠ 59 → t ≠ 62 → t ≠ 66 → t ≠ 69 → (mCaravan B (nI c) a b w).1 t = B.1 t) ∧ (∀ k, k ≠ 26 → (mCaravan B (nI c) a b w).1 44 0 k = B.1 44 0 k) ∧ (mCaravan B (nI c) a b w).1 44 0 26 = B.1 44 0 26 + 1 ∧ (∀ k, (mCaravan B (nI c) a b w).1 54 0 k = if k = c then a else B.1 54 0 k) ∧ (∀ k, (mCaravan B (nI c) a b w).1 55 0 k = if k = c then b else B.1 55 0 k) ∧ (∀ k, (mCaravan B (nI c) a b w).1 57 0 k = if k = c then 10 * b else B.1 57 0 k) ∧ (∀ k, (mCaravan B (nI c) a b w).1 59 0 k = if k = c then w else B.1 59 0 k) ∧ (∀ k, (mCaravan B (nI c) a b w).1 62 0 k = if k = c then B.1 44 0 1 else B.1 62 0 k) ∧ (∀ k, (mCaravan B (nI c) a b w).1 66 0 k = if 12 * c ≤ k ∧ k < 12 * c + 12 then -1 else B.1 66 0 k) ∧ (∀ k, (mCaravan B (nI c) a b w).1 69 0 k = if k = 9 * c then 0 else B.1 69 0 k) ∧ (mCaravan B (nI c) a b w).2 = B.2 := by
  have ec : cl (nI c) = c := nI_clamp (by omega)
  have e9 : cl (9 * nI c) = 9 * c := by rw [show (9 : Int32) = nI 9 from rfl, pk_mul]; exact nI_clamp (by omega)
  have hj : (mCaravan B (nI c) a b w).2 = B.2 := by
    unfold mCaravan; rw [uI_2, uI_2, no_j]; rfl
  unfold mCaravan at hj ⊢
  rw [e9] at hj ⊢
  have e := no_at hc (x := nI c) rfl (mCarA B (nI c) a b w) 12 (Nat.le_refl _)
  generalize rep (mNo (nI c)) 12 (mCarA B (nI c) a b w) = N at e hj ⊢
  have bA : ∀ t i k, (mCarA B (nI c) a b w).1 t i k = if t = 62 ∧ i = 0 ∧ k = c then B.1 44 0 1 else if t = 59 ∧ i = 0 ∧ k = c then w else if t = 57 ∧ i = 0 ∧ k = c then 10 * b else if t = 55 ∧ i = 0 ∧ k = c then b else if t = 54 ∧ i = 0 ∧ k = c then a else B.1 t i k := fun t i k => by
    unfold mCarA; rw [ec]; simp only [uI_1]
  have eN : ∀ t i k, t ≠ 66 → N.1 t i k = (mCarA B (nI c) a b w).1 t i k := fun t i k ht => by rw [e, if_neg (by omega)]
  refine ⟨fun t h1 h2 h3 h4 h5 h6 h7 h8 => funext fun i => funext fun k => ?_, fun k hk => ?_, ?_, fun k => ?_, fun k => ?_, fun k => ?_, fun k => ?_, fun k => ?_, fun k => ?_, fun k => ?_, hj⟩
  · rw [uI_1, if_neg (by omega), uI_1, if_neg (by omega), eN t i k h7, bA, if_neg (by omega), if_neg (by omega), if_neg (by omega), if_neg (by omega), if_neg (by omega)]
  · rw [uI_1, if_neg (by omega), uI_1, if_neg (by omega), eN 44 0 k (by decide), bA, if_neg (by omega), if_neg (by omega), if_neg (by omega), if_neg (by omega), if_neg (by omega)]
  · rw [uI_1, if_pos ⟨rfl, rfl, rfl⟩, eN 44 0 26 (by decide), bA, if_neg (by omega), if_neg (by omega), if_neg (by omega), if_neg (by omega), if_neg (by omega)]
  · rw [uI_1, if_neg (by omega), uI_1, if_neg (by omega), eN 54 0 k (by decide), bA]; simp
  · rw [uI_1, if_neg (by omega), uI_1, if_neg (by omega), eN 55 0 k (by decide), bA]; simp
  · rw [uI_1, if_neg (by omega), uI_1, if_neg (by omega), eN 57 0 k (by decide), bA]; simp
  · rw [uI_1, if_neg (by omega), uI_1, if_neg (by omega), eN 59 0 k (by decide), bA]; simp
  · rw [uI_1, if_neg (by omega), uI_1, if_neg (by omega), eN 62 0 k (by decide), bA]; simp
  · rw [uI_1, if_neg (by omega), uI_1, if_neg (by omega), e, bA, if_neg (by omega : ¬ (66 = 62 ∧ _)), if_neg (by omega : ¬ (66 = 59 ∧ _)), if_neg (by omega : ¬ (66 = 57 ∧ _)), if_neg (by omega : ¬ (66 = 55 ∧ _)), if_neg (by omega : ¬ (66 = 54 ∧ _))]; simp
  · rw [uI_1, if_neg (by omega), uI_1, eN 69 0 k (by decide), bA, if_neg (by omega : ¬ (69 = 62 ∧ _)), if_neg (by omega : ¬ (69 = 59 ∧ _)), if_neg (by omega : ¬ (69 = 57 ∧ _)), if_neg (by omega : ¬ (69 = 55 ∧ _)), if_neg (by omega : ¬ (69 = 54 ∧ _))]; simp
theorem cCaravan_at (A : MM) (c : Nat) (a b w : Int32) : (∀ t, t ≠ 0 → t ≠ 15 → (cCaravan A c a b w).1 t = A.1 t) ∧ (∀ k, k ≠ 9 → (cCaravan A c a b w).1 0 0 k = A.1 0 0 k) ∧ (cCaravan A c a b w).1 0 0 9 = nI (c + 1) ∧ (∀ i k, (cCaravan A c a b w).1 15 i k = if i = c ∧ k = 9 then A.1 0 0 13 else if i = c ∧ k = 7 then w else if i = c ∧ k = 6 then w else if i = c ∧ k = 5 then 0 else if i = c ∧ k = 4 then 10 * b else if i = c ∧ k = 2 then b else if i = c ∧ k = 1 then a else A.1 15 i k) ∧ (cCaravan A c a b w).2 = A.2 := by
  unfold cCaravan cGather
  refine ⟨fun t x y => ?_, fun k x => ?_, ?_, fun i k => ?_, rfl⟩
  · rw [uI_t x, uI_t y, uI_t y, uI_t y, uI_t y, uI_t y, uI_t y, uI_t y]
  · simp [uI_1, x]
  · simp [uI_1]
  · simp [uI_1]
theorem rIn.caravan {a : Int32} {b w : Nat} (h : rIn ns nc g e r n D S X A B) (hn : nc < 12) (hw : w < ns) (hb : b ≤ 500) : rIn ns (nc + 1) g e r n D S X (cCaravan A nc a (nI b) (nI w)) (mCaravan B (nI nc) a (nI b) (nI w)) := by
  have hns := h.wc.ls
  obtain ⟨tA, a0, a9, a15, jA⟩ := cCaravan_at A nc a (nI b) (nI w)
  obtain ⟨tB, b44, b26, b54, b55, b57, b59, b62, b66, b69, jB⟩ := mCaravan_at hn B a (nI b) (nI w)
  rw [h.wm.n26, nI_1] at b26
  generalize cCaravan A nc a (nI b) (nI w) = A' at *
  generalize mCaravan B (nI nc) a (nI b) (nI w) = B' at *
  obtain ⟨⟨z3, z8, z10, z11, z16⟩, y56, y58, y60, y61, y63, y64, y68, y69, y70⟩ := h.ca.2.2 nc (Nat.le_refl _) hn
  have o15 : ∀ i k, i ≠ nc → A'.1 15 i k = A.1 15 i k := fun i k hi => by
    rw [a15, if_neg (by omega), if_neg (by omega), if_neg (by omega), if_neg (by omega), if_neg (by omega), if_neg (by omega), if_neg (by omega)]
  have s15 : ∀ i k, k ≠ 1 → k ≠ 2 → k ≠ 4 → k ≠ 5 → k ≠ 6 → k ≠ 7 → k ≠ 9 → A'.1 15 i k = A.1 15 i k := fun i k h1 h2 h3 h4 h5 h6 h7 => by
    rw [a15, if_neg (by omega), if_neg (by omega), if_neg (by omega), if_neg (by omega), if_neg (by omega), if_neg (by omega), if_neg (by omega)]
  have tA' : ∀ t, ¬ (t = 0 ∨ t = 15) → A'.1 t = A.1 t := fun t ht => tA t (by omega) (by omega)
  have tB' : ∀ t, ¬ (t = 44 ∨ t = 54 ∨ t = 55 ∨ t = 57 ∨ t = 59 ∨ t = 62 ∨ t = 66 ∨ t = 69) → B'.1 t = B.1 t := fun t ht => tB t (by omega) (by omega) (by omega) (by omega) (by omega) (by omega) (by omega) (by omega)
  have c6 : A'.1 15 nc 6 = nI w := by rw [a15]; simp
  have c7 : A'.1 15 nc 7 = nI w := by rw [a15]; simp
  have wc : WC ns (nc + 1) A' := by
    refine ⟨⟨h.wc.ls, by omega⟩, ⟨by rw [a0 5 (by decide)]; exact h.wc.n5, a9⟩, fun i hi => ?_, fun i hi => ?_, fun i hi => ?_, by rw [tA' 35 (by decide)]; exact h.wc.en⟩
    · by_cases z : i = nc
      · subst z
        rw [c6, c7]
        exact ⟨⟨w, hw, rfl⟩, w, hw, rfl⟩
      · rw [o15 i 6 z, o15 i 7 z]
        exact ⟨h.wc.at (by omega), h.wc.fr (by omega)⟩
    · rw [tA' 16 (by decide)]
      by_cases z : i = nc
      · rw [z, z16]; decide
      · exact h.wc.oc (by omega)
    · rw [tA' 25 (by decide), tA' 22 (by decide)]
      by_cases z : i = nc
      · subst z
        obtain ⟨x1, x2, -⟩ := h.ds.2 i (Nat.le_refl _) hn
        exact ⟨⟨1, by decide, x2⟩, 1, by decide, x1.1⟩
      · exact ⟨h.wc.sh (by omega), h.wc.st (by omega)⟩
  have wm : WM ns (nc + 1) B' := by
    refine ⟨⟨h.wm.ls, by omega⟩, ⟨by rw [b44 7 (by decide)]; exact h.wm.n7, b26⟩, ⟨by rw [b44 11 (by decide)]; exact h.wm.ng, by rw [b44 36 (by decide)]; exact h.wm.en⟩, fun i hi => ?_, ?_, fun i hi => ?_, fun i hi => ?_⟩
    · rw [b59, tB' 60 (by decide)]
      by_cases z : i = nc
      · rw [if_pos z, z, y60]
        exact ⟨⟨w, hw, rfl⟩, 0, by decide, rfl⟩
      · rw [if_neg z]
        exact ⟨h.wm.at (by omega), h.wm.fr (by omega)⟩
    · rw [tB' 45 (by decide), tB' 47 (by decide)]
      exact h.wm.2.2.2.2.1
    · rw [tB' 70 (by decide)]
      by_cases z : i = nc
      · subst z
        exact ⟨⟨0, by decide, y70, fun q => absurd rfl q⟩, 0, by decide, by rw [b69, if_pos rfl]; rfl, fun q => absurd rfl q⟩
      · refine ⟨h.wm.dk (by omega), (h.wm.dt (by omega)).congr (fun k hk => ?_)⟩
        rw [b69, if_neg (by omega)]
    · rw [tB' 68 (by decide), tB' 63 (by decide), tB' 64 (by decide)]
      by_cases z : i = nc
      · rw [z, y68, y63, y64]
        exact ⟨by decide, ⟨0, by decide, rfl⟩, fun q => absurd q (by decide)⟩
      · exact h.wm.2.2.2.2.2.2 i (by omega)
  refine ⟨⟨wc, wm, ⟨h.sg.1, by rw [b44 11 (by decide)]; exact h.sg.2⟩, by rw [a0 7 (by decide)]; exact h.a7⟩, ⟨by rw [a0 13 (by decide)]; exact h.da, by rw [b44 1 (by decide)]; exact h.db, h.dl, ?_⟩, ?_, ?_, ?_, ?_, ?_, ?_, ?_, ?_, ?_, ?_, ?_, ?_, ?_⟩
  · have e3 : ∀ i, A'.1 15 i 3 = A.1 15 i 3 := fun i => s15 i 3 (by decide) (by decide) (by decide) (by decide) (by decide) (by decide) (by decide)
    rw [carr_of e3]
    show 2 * S + (carr A nc + cl (A.1 15 nc 3)) ≤ X
    rw [z3]
    exact h.bx
  · exact h.st.of (tA' 13 (by decide)) (tB' 45 (by decide)) (tB' 46 (by decide)) (tB' 47 (by decide)) (tB' 48 (by decide)) (tB' 49 (by decide))
  · exact h.mkt.of (fun s k _ => by rw [tA' 13 (by decide)])
  · exact h.sg'.of (tA' 32 (by decide)) (tB' 50 (by decide)) (tB' 51 (by decide)) (tB' 52 (by decide))
  · exact h.lo.of (tA' 34 (by decide)) (tB' 53 (by decide))
  · refine ⟨fun i hi => by rw [s15 i 0 (by decide) (by decide) (by decide) (by decide) (by decide) (by decide) (by decide)]; exact h.ca.1 i hi, fun i hi => ?_, fun i hi hi2 => ?_⟩
    · rw [tA' 16 (by decide), b54, b55, tB' 56 (by decide), b57, tB' 58 (by decide), b59, tB' 60 (by decide), tB' 61 (by decide), b62, tB' 63 (by decide), tB' 64 (by decide), tB' 68 (by decide)]
      by_cases z : i = nc
      · subst z
        simp only [if_pos, a15]
        refine ⟨by simp, by simp, by simp [z3, y56], by simp, by simp [y58], by simp, fun q => ?_, by simp [z8, y61], by simp [h.t], by simp [z10, y63], by simp [z11, y64], by rw [z16, y68]⟩
        simp at q
      · rw [if_neg z, if_neg z, if_neg z, if_neg z, if_neg z]
        simp only [o15 i _ z]
        exact h.ca.2.1 i (by omega)
    · have z : i ≠ nc := by omega
      simp only [o15 i _ z]
      rw [tA' 16 (by decide), tB' 56 (by decide), tB' 58 (by decide), tB' 60 (by decide), tB' 61 (by decide), tB' 63 (by decide), tB' 64 (by decide), tB' 68 (by decide), b69, if_neg (by omega), tB' 70 (by decide)]
      exact h.ca.2.2 i (by omega) hi2
  · intro i hi
    by_cases z : i = nc
    · subst z
      refine ⟨b, 0, 10 * b, hb, Nat.zero_le _, Nat.le_refl _, by rw [a15]; simp, ?_, ?_⟩
      · rw [s15 i 3 (by decide) (by decide) (by decide) (by decide) (by decide) (by decide) (by decide)]; exact z3
      · rw [a15, show nI (10 * b) = 10 * nI b from by rw [show (10 : Int32) = nI 10 from rfl, pk_mul]]; simp
    · simp only [o15 i _ z]
      exact h.bd i (by omega)
  · obtain ⟨k1, k2, f, k3⟩ := h.kn
    unfold rKn
    rw [tA' 28 (by decide), tA' 29 (by decide), tB' 65 (by decide), a0 13 (by decide)]
    refine ⟨fun i m hi hm => ?_, fun i m hi hi2 hm => k2 i m (by omega) hi2 hm, f, fun i m hi hm h0 => ?_⟩
    · rw [b66]
      by_cases z : i = nc
      · subst z
        obtain ⟨q1, q2⟩ := k2 i m (Nat.le_refl _) hn hm
        rw [if_pos (by omega), q1, q2]
        exact ⟨rfl, Or.inl ⟨rfl, rfl⟩⟩
      · rw [if_neg (by omega)]
        exact k1 i m (by omega) hm
    · by_cases z : i = nc
      · subst z
        obtain ⟨q1, q2⟩ := k2 i m (Nat.le_refl _) hn hm
        rw [q1] at h0
        exact absurd h0 (by decide)
      · exact k3 i m (by omega) hm h0
  · intro i hi
    by_cases z : i = nc
    · subst z
      refine ⟨[], Nat.zero_le _, ?_, fun j hj => absurd hj (Nat.not_lt_zero _)⟩
      rw [tA' 16 (by decide)]
      exact z16
    · obtain ⟨l, x1, x2, x3⟩ := h.or i (by omega)
      exact ⟨l, x1, by rw [tA' 16 (by decide)]; exact x2, fun j hj => ⟨(x3 j hj).1, (x3 j hj).2.1.of (fun t p q => tA' t (by omega)), (x3 j hj).2.2.of (fun k _ => by rw [tB' 67 (by decide)])⟩⟩
  · have aa : ∀ t, 22 ≤ t → t ≤ 27 → A'.1 t = A.1 t := fun t p q => tA' t (by omega)
    refine ⟨fun i hi => ?_, fun i hi hi2 => ?_⟩
    · by_cases z : i = nc
      · subst z
        obtain ⟨⟨x1, x2, x3, x4, x5⟩, w1, w2, w3, w4, w5⟩ := h.ds.2 i (Nat.le_refl _) hn
        refine ⟨Or.inl ⟨by rw [b69, if_pos rfl], ?_⟩, Or.inl ⟨by rw [tB' 70 (by decide)]; exact y70, ?_⟩⟩
        · rw [aa 22 (by decide) (by decide), aa (22 + 1) (by decide) (by decide), aa (22 + 2) (by decide) (by decide)]
          exact ⟨x1, x2, x3, x4, x5⟩
        · rw [aa 25 (by decide) (by decide), aa (25 + 1) (by decide) (by decide), aa (25 + 2) (by decide) (by decide)]
          exact ⟨w1, w2, w3, w4, w5⟩
      · refine ⟨(h.ds.1 i (by omega)).1.cell (by rw [aa 22 (by decide) (by decide)]) (by rw [aa 22 (by decide) (by decide)]) (by rw [aa 22 (by decide) (by decide)]) (by rw [aa 22 (by decide) (by decide)]) (fun k _ => by rw [aa (22 + 1) (by decide) (by decide)]) (fun k _ => by rw [aa (22 + 2) (by decide) (by decide)]) (fun k hk => by rw [b69, if_neg (by omega)]), (h.ds.1 i (by omega)).2.of (aa 25 (by decide) (by decide)) (aa 26 (by decide) (by decide)) (aa 27 (by decide) (by decide)) (tB' 70 (by decide))⟩
    · rw [aa 22 (by decide) (by decide), aa 23 (by decide) (by decide), aa 24 (by decide) (by decide), aa 25 (by decide) (by decide), aa 26 (by decide) (by decide), aa 27 (by decide) (by decide)]
      exact h.ds.2 i (by omega) hi2
  · exact h.le.fr (fun t h1 h2 => by rw [tA' t (by omega)]) (by rw [jA]) (a0 13 (by decide)) (fun t h1 h2 => by rw [tB' t (by omega)]) (b44 36 (by decide)) (b44 40 (by decide))
  · exact h.su.of (by rw [jA]) (by rw [jB])
  · exact h.ta.of (by rw [tA' 1 (by decide)]) (tA' 2 (by decide)) (a0 3 (by decide)) (tB' 81 (by decide)) (b44 44 (by decide)) (b44 48 (by decide)) (b44 49 (by decide))
  · exact h.wl.of (tA' 13 (by decide))
/-- an entry is put right -/
theorem rIn.put {i : Nat} {m : Int32} (h : rIn ns nc g e r n D S X A B) (hi : i < e) (hr : r < 100) : rIn ns nc g e (r + 1) n D S X (cPut A i m (A.1 0 0 13)) (mPut B (nI i) m) := by
  have hl := rLe.put (m := m) h.le hi hr h.t
  have fA : Fe (fun t k => t = 40 ∨ t = 41 ∨ t = 42 ∨ (t = 35 ∧ k = 6)) A (cPut A i m (A.1 0 0 13)) := by
    unfold cPut
    exact ((((Fe.rfl'.u (by omega)).u (by omega)).j).u (by omega)).u (by omega)
  have j0 : (cPut A i m (A.1 0 0 13)).2 0 = A.2 0 := by unfold cPut; rw [uI_2, uI_2, uJ_t (by decide)]; rfl
  have fB : Fe (fun t k => t = 76 ∨ t = 77 ∨ t = 78 ∨ (t = 44 ∧ k = 40)) B (mPut B (nI i) m) := by
    unfold mPut
    exact (((Fe.rfl'.u (by omega)).u (by omega)).u (by omega)).u (by omega)
  have jB : (mPut B (nI i) m).2 = B.2 := rfl
  generalize cPut A i m (A.1 0 0 13) = A' at *
  generalize mPut B (nI i) m = B' at *
  have tA : ∀ t, ¬ (t = 35 ∨ t = 40 ∨ t = 41 ∨ t = 42) → A'.1 t = A.1 t := fun t ht => fA.tag (fun _ => by omega)
  have tB : ∀ t, ¬ (t = 44 ∨ t = 76 ∨ t = 77 ∨ t = 78) → B'.1 t = B.1 t := fun t ht => fB.tag (fun _ => by omega)
  have b44 : ∀ k, k ≠ 40 → B'.1 44 0 k = B.1 44 0 k := fun k hk => fB 44 0 k (by omega)
  have a0 : A'.1 0 = A.1 0 := tA 0 (by omega)
  have wc : WC ns nc A' := h.wc.of (by rw [a0]) (by rw [a0]) (fun c => by rw [tA 15 (by omega)]) (fun c => by rw [tA 15 (by omega)]) (fun c => by rw [tA 16 (by omega)]) (fun c => by rw [tA 25 (by omega)]) (fun c => by rw [tA 22 (by omega)]) (by rw [fA 35 0 0 (by omega)]; exact h.wc.en)
  have wm : WM ns nc B' := h.wm.of (fun t k hp => by
    unfold pWM at hp
    exact fB t 0 k (by omega))
  refine ⟨⟨wc, wm, ⟨h.sg.1, by rw [b44 11 (by decide)]; exact h.sg.2⟩, by rw [a0]; exact h.a7⟩, ⟨by rw [a0]; exact h.da, by rw [b44 1 (by decide)]; exact h.db, h.dl, ?_⟩, ?_, ?_, ?_, ?_, ?_, ?_, ?_, ?_, ?_, hl, ?_, ?_, ?_⟩
  · rw [carr_of (A := A) (fun c => by rw [tA 15 (by omega)])]; exact h.bx
  · exact h.st.of (tA 13 (by omega)) (tB 45 (by omega)) (tB 46 (by omega)) (tB 47 (by omega)) (tB 48 (by omega)) (tB 49 (by omega))
  · exact h.mkt.of (fun s k _ => by rw [tA 13 (by omega)])
  · exact h.sg'.of (tA 32 (by omega)) (tB 50 (by omega)) (tB 51 (by omega)) (tB 52 (by omega))
  · exact h.lo.of (tA 34 (by omega)) (tB 53 (by omega))
  · exact h.ca.of (tA 15 (by omega)) (tA 16 (by omega)) (fun t h1 h2 h3 h4 h5 => tB t (by omega))
  · exact h.bd.of (tA 15 (by omega))
  · exact h.kn.of (tA 28 (by omega)) (tA 29 (by omega)) (by rw [a0]; exact Int32.le_refl _) (tB 65 (by omega)) (tB 66 (by omega))
  · exact h.or.of (fun t h1 h2 => tA t (by omega)) (tB 67 (by omega))
  · exact h.ds.of (fun t h1 h2 => tA t (by omega)) (tB 69 (by omega)) (tB 70 (by omega))
  · exact h.su.of (by rw [j0]) (by rw [jB])
  · exact h.ta.of (by rw [tA 1 (by omega)]) (tA 2 (by omega)) (by rw [a0]) (tB 81 (by omega)) (b44 44 (by decide)) (b44 48 (by decide)) (b44 49 (by decide))
  · exact h.wl.of (tA 13 (by omega))
/-- another tape -/
theorem rIn.tape {n' : Nat} (h : rIn ns nc g e r n D S X A B) (tA : ∀ t, (t = 13 ∨ (15 ≤ t ∧ t ≤ 29) ∨ t = 32 ∨ (34 ≤ t ∧ t ≤ 43)) → A'.1 t = A.1 t) (a0 : ∀ k, k ≠ 3 → A'.1 0 0 k = A.1 0 0 k) (j0 : A'.2 0 = A.2 0) (j43 : A'.2 43 = A.2 43)
    (tB : ∀ t, ((45 ≤ t ∧ t ≤ 66) ∨ (68 ≤ t ∧ t ≤ 70) ∨ (72 ≤ t ∧ t ≤ 78)) → B'.1 t = B.1 t) (b67 : ∀ k, k < 720 → B'.1 67 0 k = B.1 67 0 k) (b44 : ∀ k, (k = 1 ∨ k = 7 ∨ k = 11 ∨ k = 26 ∨ k = 36 ∨ k = 40) → B'.1 44 0 k = B.1 44 0 k) (j79 : B'.2 79 = B.2 79) (ta : rTa n' A' B') : rIn ns nc g e r n' D S X A' B' := by
  have wc : WC ns nc A' := h.wc.of (a0 5 (by decide)) (a0 9 (by decide)) (fun c => by rw [tA 15 (by omega)]) (fun c => by rw [tA 15 (by omega)]) (fun c => by rw [tA 16 (by omega)]) (fun c => by rw [tA 25 (by omega)]) (fun c => by rw [tA 22 (by omega)]) (by rw [tA 35 (by omega)]; exact h.wc.en)
  have wm : WM ns nc B' := h.wm.of (fun t k hp => by
    unfold pWM at hp
    by_cases z : t = 44
    · subst z; exact b44 k (by omega)
    · rw [tB t (by omega)])
  refine ⟨⟨wc, wm, ⟨h.sg.1, by rw [b44 11 (by omega)]; exact h.sg.2⟩, by rw [a0 7 (by decide)]; exact h.a7⟩, ⟨by rw [a0 13 (by decide)]; exact h.da, by rw [b44 1 (by omega)]; exact h.db, h.dl, ?_⟩, ?_, ?_, ?_, ?_, ?_, ?_, ?_, ?_, ?_, ?_, ?_, ta, ?_⟩
  · rw [carr_of (A := A) (fun c => by rw [tA 15 (by omega)])]; exact h.bx
  · exact h.st.of (tA 13 (by omega)) (tB 45 (by omega)) (tB 46 (by omega)) (tB 47 (by omega)) (tB 48 (by omega)) (tB 49 (by omega))
  · exact h.mkt.of (fun s k _ => by rw [tA 13 (by omega)])
  · exact h.sg'.of (tA 32 (by omega)) (tB 50 (by omega)) (tB 51 (by omega)) (tB 52 (by omega))
  · exact h.lo.of (tA 34 (by omega)) (tB 53 (by omega))
  · exact h.ca.of (tA 15 (by omega)) (tA 16 (by omega)) (fun t h1 h2 h3 h4 h5 => tB t (by omega))
  · exact h.bd.of (tA 15 (by omega))
  · exact h.kn.of (tA 28 (by omega)) (tA 29 (by omega)) (by rw [a0 13 (by decide)]; exact Int32.le_refl _) (tB 65 (by omega)) (tB 66 (by omega))
  · exact h.or.of' h.wc.lc (fun t h1 h2 => tA t (by omega)) b67
  · exact h.ds.of (fun t h1 h2 => tA t (by omega)) (tB 69 (by omega)) (tB 70 (by omega))
  · exact h.le.fr (fun t h1 h2 => by rw [tA t (by omega)]) (by rw [j43]) (a0 13 (by decide)) (fun t h1 h2 => by rw [tB t (by omega)]) (b44 36 (by omega)) (b44 40 (by omega))
  · exact h.su.of (by rw [j0]) (by rw [j79])
  · exact h.wl.of (tA 13 (by omega))
end CAL2
