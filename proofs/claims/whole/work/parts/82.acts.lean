/-! Orders are done alike: turns, loading, setting out. -/
section ACT1
variable {A A' B B' : MM} {ns nc g e e' r n D S S' X X' c : Nat}
theorem rIn.build (h : rIn ns nc g e r n D S X A B) (wc : WC ns nc A') (wm : WM ns nc B') (hA : ∀ t, (t ≤ 2 ∨ (16 ≤ t ∧ t ≤ 21) ∨ t = 28 ∨ t = 29 ∨ t = 32 ∨ t = 34) → A'.1 t = A.1 t) (hB : ∀ t, ((50 ≤ t ∧ t ≤ 53) ∨ (65 ≤ t ∧ t ≤ 67) ∨ t = 81) → B'.1 t = B.1 t) (h44 : ∀ k, k ≠ 36 → B'.1 44 0 k = B.1 44 0 k)
    (bx : 2 * S' + carr A' nc ≤ X') (st : rSt ns A' B') (mkt : rMk ns S' A') (ca : rCa nc A' B') (bd : rBd nc A') (ds : rDs nc A' B') (le : rLe e' r A' B') (su : rSu A' B') (wl : rWl ns A') : rIn ns nc g e' r n D S' X' A' B' := by
  have a0 : A'.1 0 = A.1 0 := hA 0 (by omega)
  refine ⟨⟨wc, wm, ⟨h.sg.1, by rw [h44 11 (by decide)]; exact h.sg.2⟩, by rw [a0]; exact h.a7⟩, ⟨by rw [a0]; exact h.da, by rw [h44 1 (by decide)]; exact h.db, h.dl, bx⟩, st, mkt, ?_, ?_, ca, bd, ?_, ?_, ds, le, su, ?_, wl⟩
  · exact h.sg'.of (hA 32 (by omega)) (hB 50 (by omega)) (hB 51 (by omega)) (hB 52 (by omega))
  · exact h.lo.of (hA 34 (by omega)) (hB 53 (by omega))
  · exact h.kn.of (hA 28 (by omega)) (hA 29 (by omega)) (by rw [a0]; exact Int32.le_refl _) (hB 65 (by omega)) (hB 66 (by omega))
  · exact h.or.of (fun t h1 h2 => hA t (by omega)) (hB 67 (by omega))
  · exact h.ta.of (by rw [hA 1 (by omega)]) (hA 2 (by omega)) (by rw [a0]) (hB 81 (by omega)) (h44 44 (by decide)) (h44 48 (by decide)) (h44 49 (by decide))
/-- another turn and waiting of one caravan -/
theorem rIn.tw (h : rIn ns nc g e r n D S X A B) (hc : c < nc) (fA : ∀ t i k, ¬ (t = 15 ∧ i = c ∧ (k = 10 ∨ k = 11)) → A'.1 t i k = A.1 t i k) (jA : A'.2 = A.2) (fB : ∀ t i k, ¬ (i = 0 ∧ k = c ∧ (t = 63 ∨ t = 64)) → B'.1 t i k = B.1 t i k) (jB : B'.2 = B.2) (wm : WM ns nc B') (e10 : A'.1 15 c 10 = B'.1 63 0 c) (e11 : A'.1 15 c 11 = B'.1 64 0 c) : rIn ns nc g e r n D S X A' B' := by
  have tA : ∀ t, t ≠ 15 → A'.1 t = A.1 t := fun t ht => funext fun i => funext fun k => fA t i k (by omega)
  have tB : ∀ t, t ≠ 63 → t ≠ 64 → B'.1 t = B.1 t := fun t h1 h2 => funext fun i => funext fun k => fB t i k (by omega)
  have f15 : ∀ i k, k ≠ 10 → k ≠ 11 → A'.1 15 i k = A.1 15 i k := fun i k h1 h2 => fA 15 i k (by omega)
  have wc : WC ns nc A' := h.wc.of (by rw [tA 0 (by decide)]) (by rw [tA 0 (by decide)]) (fun c => f15 c 6 (by decide) (by decide)) (fun c => f15 c 7 (by decide) (by decide)) (fun c => by rw [tA 16 (by decide)]) (fun c => by rw [tA 25 (by decide)]) (fun c => by rw [tA 22 (by decide)]) (by rw [tA 35 (by decide)]; exact h.wc.en)
  refine h.build wc wm (fun t ht => tA t (by omega)) (fun t ht => tB t (by omega) (by omega)) (fun k _ => by rw [tB 44 (by decide) (by decide)]) ?_ ?_ ?_ ?_ ?_ ?_ ?_ ?_ ?_
  · rw [carr_of (A := A) (fun c => f15 c 3 (by decide) (by decide))]; exact h.bx
  · exact h.st.of (tA 13 (by decide)) (tB 45 (by decide) (by decide)) (tB 46 (by decide) (by decide)) (tB 47 (by decide) (by decide)) (tB 48 (by decide) (by decide)) (tB 49 (by decide) (by decide))
  · exact h.mkt.of (fun s k _ => by rw [tA 13 (by decide)])
  · refine ⟨fun i hi => by rw [f15 i 0 (by decide) (by decide)]; exact h.ca.1 i hi, fun i hi => ?_, fun i hi hi2 => ?_⟩
    · obtain ⟨g1, g2, g3, g4, g5, g6, g7, g8, g9, g10, g11, g12⟩ := h.ca.2.1 i hi
      rw [f15 i 1 (by decide) (by decide), f15 i 2 (by decide) (by decide), f15 i 3 (by decide) (by decide), f15 i 4 (by decide) (by decide), f15 i 5 (by decide) (by decide), f15 i 6 (by decide) (by decide), f15 i 7 (by decide) (by decide), f15 i 8 (by decide) (by decide), f15 i 9 (by decide) (by decide), tA 16 (by decide), tB 54 (by decide) (by decide), tB 55 (by decide) (by decide), tB 56 (by decide) (by decide), tB 57 (by decide) (by decide), tB 58 (by decide) (by decide), tB 59 (by decide) (by decide), tB 60 (by decide) (by decide), tB 61 (by decide) (by decide), tB 62 (by decide) (by decide), tB 68 (by decide) (by decide)]
      refine ⟨g1, g2, g3, g4, g5, g6, g7, g8, g9, ?_, ?_, g12⟩
      · by_cases z : i = c
        · rw [z]; exact e10
        · rw [fA 15 i 10 (by omega), fB 63 0 i (by omega)]; exact g10
      · by_cases z : i = c
        · rw [z]; exact e11
        · rw [fA 15 i 11 (by omega), fB 64 0 i (by omega)]; exact g11
    · rw [f15 i 3 (by decide) (by decide), f15 i 8 (by decide) (by decide), fA 15 i 10 (by omega), fA 15 i 11 (by omega), tA 16 (by decide), tB 56 (by decide) (by decide), tB 58 (by decide) (by decide), tB 60 (by decide) (by decide), tB 61 (by decide) (by decide), fB 63 0 i (by omega), fB 64 0 i (by omega), tB 68 (by decide) (by decide), tB 69 (by decide) (by decide), tB 70 (by decide) (by decide)]
      exact h.ca.2.2 i hi hi2
  · intro i hi
    rw [f15 i 2 (by decide) (by decide), f15 i 3 (by decide) (by decide), f15 i 4 (by decide) (by decide)]
    exact h.bd i hi
  · exact h.ds.of (fun t h1 h2 => tA t (by omega)) (tB 69 (by decide) (by decide)) (tB 70 (by decide) (by decide))
  · exact h.le.fr (fun t h1 h2 => by rw [tA t (by omega)]) (by rw [jA]) (by rw [tA 0 (by decide)]) (fun t h1 h2 => by rw [tB t (by omega) (by omega)]) (by rw [tB 44 (by decide) (by decide)]) (by rw [tB 44 (by decide) (by decide)])
  · exact h.su.of (by rw [jA]) (by rw [jB])
  · exact h.wl.of (tA 13 (by decide))
theorem carr_one {v : Nat} (a : ∀ i, i ≠ c → A'.1 15 i 3 = A.1 15 i 3) (hv : cl (A'.1 15 c 3) ≤ cl (A.1 15 c 3) + v) : ∀ k, carr A' k ≤ carr A k + v
  | 0 => Nat.zero_le _
  | k + 1 => by
    unfold carr
    by_cases z : k = c
    · subst z
      have : carr A' k = carr A k := by
        have key : ∀ j, j ≤ k → carr A' j = carr A j := by
          intro j
          induction j with
          | zero => intro _; rfl
          | succ j ih =>
            intro hj
            show carr A' j + cl (A'.1 15 j 3) = carr A j + cl (A.1 15 j 3)
            rw [ih (by omega), a j (by omega)]
        exact key k (Nat.le_refl _)
      omega
    · have := carr_one a hv k
      rw [a k z]
      omega
/-- loading -/
theorem rIn.load (h : rIn ns nc g e r n D S X A B) (hc : c < nc) {w : Nat} (hw : w < 1000000) : rIn ns nc g e r n D S (X + 2000) (uJ (uI A 15 c 3 (A.1 15 c 3 + mn (nI w) (4 * A.1 15 c 2 - A.1 15 c 3))) 0 0 14 (A.2 0 0 14 + (mn (nI w) (4 * A.1 15 c 2 - A.1 15 c 3)).toInt64)) (mLoad (nI c) (nI w) B) := by
  have hn := h.wc.lc
  have ec : cl (nI c) = c := nI_clamp (by omega)
  obtain ⟨k, l, u, hk, hl, hu, h2, h3, h4⟩ := h.bd c hc
  obtain ⟨-, q2, q3, -⟩ := h.ca.2.1 c hc
  have em : mn (nI w) (4 * A.1 15 c 2 - A.1 15 c 3) = nI (min w (4 * k - l)) := by
    rw [h2, h3, show (4 : Int32) = nI 4 from rfl, pk_mul, pk_sub (by omega), mn_nat (by omega) (by omega)]
  unfold mLoad
  rw [ec, ← q2, ← q3, em, h3, nI_add]
  have hm : min w (4 * k - l) ≤ 4 * k - l := Nat.min_le_right _ _
  generalize min w (4 * k - l) = v at hm
  have wm : WM ns nc (uJ (uI B 56 0 c (nI (l + v))) 79 0 0 (B.2 79 0 0 + (nI v).toInt64)) := (h.wm.u (fun k => by unfold pWM; omega)).j
  have f : Fe (fun t k => t = 15 ∧ k = 3) A (uJ (uI A 15 c 3 (nI (l + v))) 0 0 14 (A.2 0 0 14 + (nI v).toInt64)) := (Fe.rfl'.u (by omega)).j
  have f2 : Fe (fun t _ => t = 56) B (uJ (uI B 56 0 c (nI (l + v))) 79 0 0 (B.2 79 0 0 + (nI v).toInt64)) := (Fe.rfl'.u (by omega)).j
  have c3 : ∀ i, (uJ (uI A 15 c 3 (nI (l + v))) 0 0 14 (A.2 0 0 14 + (nI v).toInt64)).1 15 i 3 = if i = c then nI (l + v) else A.1 15 i 3 := fun i => by rw [uJ_1, uI_1]; simp
  have d6 : ∀ i, (uJ (uI B 56 0 c (nI (l + v))) 79 0 0 (B.2 79 0 0 + (nI v).toInt64)).1 56 0 i = if i = c then nI (l + v) else B.1 56 0 i := fun i => by rw [uJ_1, uI_1]; simp
  have su : rSu (uJ (uI A 15 c 3 (nI (l + v))) 0 0 14 (A.2 0 0 14 + (nI v).toInt64)) (uJ (uI B 56 0 c (nI (l + v))) 79 0 0 (B.2 79 0 0 + (nI v).toInt64)) := by
    obtain ⟨k1, k2, k3, k4, k5⟩ := h.su
    unfold rSu
    simp only [uJ_2, uI_2]
    simp [k1, k2, k3, k4, k5]
  have j43 : (uJ (uI A 15 c 3 (nI (l + v))) 0 0 14 (A.2 0 0 14 + (nI v).toInt64)).2 43 0 = A.2 43 0 := rfl
  generalize uJ (uI A 15 c 3 (nI (l + v))) 0 0 14 (A.2 0 0 14 + (nI v).toInt64) = A' at *
  generalize uJ (uI B 56 0 c (nI (l + v))) 79 0 0 (B.2 79 0 0 + (nI v).toInt64) = B' at *
  have tA : ∀ t, t ≠ 15 → A'.1 t = A.1 t := fun t ht => f.tag (fun _ => by omega)
  have tB : ∀ t, t ≠ 56 → B'.1 t = B.1 t := fun t ht => f2.tag (fun _ => by omega)
  have f15 : ∀ i k, k ≠ 3 → A'.1 15 i k = A.1 15 i k := fun i k h1 => f 15 i k (by omega)
  have wc : WC ns nc A' := h.wc.of (by rw [tA 0 (by decide)]) (by rw [tA 0 (by decide)]) (fun c => f15 c 6 (by decide)) (fun c => f15 c 7 (by decide)) (fun c => by rw [tA 16 (by decide)]) (fun c => by rw [tA 25 (by decide)]) (fun c => by rw [tA 22 (by decide)]) (by rw [tA 35 (by decide)]; exact h.wc.en)
  refine h.build wc wm (fun t ht => tA t (by omega)) (fun t ht => tB t (by omega)) (fun k _ => by rw [tB 44 (by decide)]) ?_ ?_ ?_ ?_ ?_ ?_ ?_ su ?_
  · have := carr_one (A := A) (A' := A') (c := c) (v := v) (fun i hi => by rw [c3, if_neg hi]) (by rw [c3, if_pos rfl, h3, show cl (nI (l + v)) = l + v from nI_clamp (by omega), show cl (nI l) = l from nI_clamp (by omega)]; omega) nc
    have := h.bx
    omega
  · exact h.st.of (tA 13 (by decide)) (tB 45 (by decide)) (tB 46 (by decide)) (tB 47 (by decide)) (tB 48 (by decide)) (tB 49 (by decide))
  · exact h.mkt.of (fun s k _ => by rw [tA 13 (by decide)])
  · refine ⟨fun i hi => by rw [f15 i 0 (by decide)]; exact h.ca.1 i hi, fun i hi => ?_, fun i hi hi2 => ?_⟩
    · obtain ⟨g1, g2, g3, g4, g5, g6, g7, g8, g9, g10, g11, g12⟩ := h.ca.2.1 i hi
      rw [f15 i 1 (by decide), f15 i 2 (by decide), f15 i 4 (by decide), f15 i 5 (by decide), f15 i 6 (by decide), f15 i 7 (by decide), f15 i 8 (by decide), f15 i 9 (by decide), f15 i 10 (by decide), f15 i 11 (by decide), tA 16 (by decide), tB 54 (by decide), tB 55 (by decide), tB 57 (by decide), tB 58 (by decide), tB 59 (by decide), tB 60 (by decide), tB 61 (by decide), tB 62 (by decide), tB 63 (by decide), tB 64 (by decide), tB 68 (by decide)]
      refine ⟨g1, g2, ?_, g4, g5, g6, g7, g8, g9, g10, g11, g12⟩
      rw [c3, d6]
      by_cases z : i = c
      · rw [if_pos z, if_pos z]
      · rw [if_neg z, if_neg z]; exact g3
    · have z : i ≠ c := by omega
      rw [c3, if_neg z, f15 i 8 (by decide), f15 i 10 (by decide), f15 i 11 (by decide), tA 16 (by decide), d6, if_neg z, tB 58 (by decide), tB 60 (by decide), tB 61 (by decide), tB 63 (by decide), tB 64 (by decide), tB 68 (by decide), tB 69 (by decide), tB 70 (by decide)]
      exact h.ca.2.2 i hi hi2
  · intro i hi
    rw [f15 i 2 (by decide), f15 i 4 (by decide), c3]
    by_cases z : i = c
    · subst z
      rw [if_pos rfl]
      exact ⟨k, l + v, u, hk, by omega, hu, h2, rfl, h4⟩
    · rw [if_neg z]; exact h.bd i hi
  · exact h.ds.of (fun t h1 h2 => tA t (by omega)) (tB 69 (by decide)) (tB 70 (by decide))
  · exact h.le.fr (fun t h1 h2 => by rw [tA t (by omega)]) j43 (by rw [tA 0 (by decide)]) (fun t h1 h2 => by rw [tB t (by omega)]) (by rw [tB 44 (by decide)]) (by rw [tB 44 (by decide)])
  · exact h.wl.of (tA 13 (by decide))
end ACT1
