/-! Orders are done alike: selling. -/
section ACT3
variable {A A' B B' : MM} {ns nc g e r n D S X c : Nat}
theorem gsum_bound {t f k v : Nat} (ht : t ≤ 1000) (hv : v ≤ 2000) : gsum t f (k + v) - gsum t f k ≤ 2000000 := by
  have := gsum_part (t := t) (f := f) (k := k) v
  have : v * t ≤ 2000 * 1000 := Nat.mul_le_mul hv ht
  omega
theorem incs2 {s : Int32} : ∀ j (B : MM), (mIncs s j B).2 = B.2
  | 0, _ => rfl
  | j + 1, B => by
    show (mInc s (mIncs s j B)).2 = B.2
    exact incs2 j B
/-- what is sold -/
theorem rIn.sellM (h : rIn ns nc g e r n D S X A B) (hc : c < nc) (h3 : A.1 13 (cl (A.1 15 c 6)) 0 = 3) {w : Nat} (hw : w < 1000000) (hX : X + 4000 < 2 ^ 32) : ∃ m v, m ≤ 2000000 ∧ v ≤ 2000 ∧ cNext A (cl (A.1 15 c 6)) (mn (nI w) (A.1 15 c 3)) = lN m ∧ mMon B (B.1 59 0 c) (cl (mn (nI w) (B.1 56 0 c))) = nI m ∧ rIn ns nc g e r n D (S + v) (X + 2000) (cSellM A c (nI w)) (mSellM (nI c) (nI w) B) := by
  have hn := h.wc.lc
  have hns := h.wc.ls
  have hbx := h.bx
  have ec : cl (nI c) = c := nI_clamp (by omega)
  obtain ⟨k, l, u, hk, hl, hu, h2, hl3, h4⟩ := h.bd c hc
  obtain ⟨-, q2, q3, -, -, q6, -⟩ := h.ca.2.1 c hc
  obtain ⟨s, hs, e6⟩ := h.wc.at hc
  have es : cl (A.1 15 c 6) = s := by rw [e6]; exact nI_clamp (by omega)
  have es' : cl (nI s) = s := nI_clamp (by omega)
  rw [es] at h3 ⊢
  obtain ⟨t, f, j, ht, hf, hj, m5, m6, m7⟩ := h.mkt s hs h3
  obtain ⟨g0, -, g3, -⟩ := h.st.1 s hs
  have h45 : B.1 45 0 s = 3 := by rw [← g0]; exact h3
  obtain ⟨n5, n6, n7⟩ := g3 h45
  have em : mn (nI w) (A.1 15 c 3) = nI (min w l) := by rw [hl3, mn_nat (by omega) (by omega)]
  have em2 : mn (nI w) (B.1 56 0 c) = nI (min w l) := by rw [← q3]; exact em
  have hv : min w l ≤ l := Nat.min_le_right _ _
  have e59 : B.1 59 0 c = nI s := by rw [← q6]; exact e6
  have eM := mMon_eq (B := B) (s := s) (t := t) (f := f) (k := j) (by omega) (n5.symm.trans m5) (n6.symm.trans m6) (n7.symm.trans m7) ht.2 hf (min w l) (by omega)
  have eC := cNext_eq (A := A) (s := s) (t := t) (f := f) (k := j) (v := min w l) m5 m6 m7 ht.2 hf (by omega) (by omega)
  have hgb := gsum_bound (t := t) (f := f) (k := j) (v := min w l) ht.2 (by omega)
  have ecv : cl (nI (min w l)) = min w l := nI_clamp (by omega)
  have hmIn := mIncs_at (B := B) (s := s) (k := j) (j := min w l) (by omega) (n7.symm.trans m7)
  have hj2 := incs2 (s := nI s) (min w l) B
  unfold cSellM mSellM
  rw [es, em, ec, em2, e59, ecv, eM, eC]
  generalize min w l = v at *
  refine ⟨gsum t f (j + v) - gsum t f j, v, hgb, by omega, rfl, rfl, ?_⟩
  generalize gsum t f (j + v) - gsum t f j = m at *
  have e56 : (mIncs (nI s) v B).1 56 0 c = nI l := by rw [hmIn.2 56 0 c (by omega), ← q3]; exact hl3
  rw [e56, hj2, hl3, m7, nI_add, pk_sub hv]
  have wm : WM ns nc (uJ (uJ (uI (mIncs (nI s) v B) 56 0 c (nI (l - v))) 79 0 1 (B.2 79 0 1 + (nI v).toInt64)) 79 0 4 (B.2 79 0 4 + (nI m).toInt64)) := (((h.wm.incs v).u (fun k => by unfold pWM; omega)).j).j
  have wc : WC ns nc (uJ (uJ (uI (uI A 13 s 7 (nI (j + v))) 15 c 3 (nI (l - v))) 0 0 15 (A.2 0 0 15 + (nI v).toInt64)) 0 0 18 (A.2 0 0 18 + lN m)) := h.wc.of rfl rfl (fun _ => rfl) (fun _ => rfl) (fun _ => rfl) (fun _ => rfl) (fun _ => rfl) h.wc.en
  have fA : ∀ t i k, ¬ (t = 13 ∧ i = s ∧ k = 7) → ¬ (t = 15 ∧ i = c ∧ k = 3) → (uJ (uJ (uI (uI A 13 s 7 (nI (j + v))) 15 c 3 (nI (l - v))) 0 0 15 (A.2 0 0 15 + (nI v).toInt64)) 0 0 18 (A.2 0 0 18 + lN m)).1 t i k = A.1 t i k := fun t i k h1 h2 => by
    rw [uJ_1, uJ_1, uI_1, if_neg h2, uI_1, if_neg h1]
  have cA : (uJ (uJ (uI (uI A 13 s 7 (nI (j + v))) 15 c 3 (nI (l - v))) 0 0 15 (A.2 0 0 15 + (nI v).toInt64)) 0 0 18 (A.2 0 0 18 + lN m)).1 15 c 3 = nI (l - v) := by
    rw [uJ_1, uJ_1, uI_1, if_pos ⟨rfl, rfl, rfl⟩]
  have dA' : (uJ (uJ (uI (uI A 13 s 7 (nI (j + v))) 15 c 3 (nI (l - v))) 0 0 15 (A.2 0 0 15 + (nI v).toInt64)) 0 0 18 (A.2 0 0 18 + lN m)).1 13 s 7 = nI (j + v) := by
    rw [uJ_1, uJ_1, uI_1, if_neg (fun z => absurd z.1 (by decide)), uI_1, if_pos ⟨rfl, rfl, rfl⟩]
  have fB : ∀ t i k, ¬ (t = 49 ∧ i = 0 ∧ k = s) → ¬ (t = 56 ∧ i = 0 ∧ k = c) → (uJ (uJ (uI (mIncs (nI s) v B) 56 0 c (nI (l - v))) 79 0 1 (B.2 79 0 1 + (nI v).toInt64)) 79 0 4 (B.2 79 0 4 + (nI m).toInt64)).1 t i k = B.1 t i k := fun t i k h1 h2 => by
    rw [uJ_1, uJ_1, uI_1, if_neg h2, hmIn.2 t i k h1]
  have cB : (uJ (uJ (uI (mIncs (nI s) v B) 56 0 c (nI (l - v))) 79 0 1 (B.2 79 0 1 + (nI v).toInt64)) 79 0 4 (B.2 79 0 4 + (nI m).toInt64)).1 56 0 c = nI (l - v) := by
    rw [uJ_1, uJ_1, uI_1, if_pos ⟨rfl, rfl, rfl⟩]
  have dB' : (uJ (uJ (uI (mIncs (nI s) v B) 56 0 c (nI (l - v))) 79 0 1 (B.2 79 0 1 + (nI v).toInt64)) 79 0 4 (B.2 79 0 4 + (nI m).toInt64)).1 49 0 s = nI (j + v) := by
    rw [uJ_1, uJ_1, uI_1, if_neg (fun z => absurd z.1 (by decide)), hmIn.1]
  have su : rSu (uJ (uJ (uI (uI A 13 s 7 (nI (j + v))) 15 c 3 (nI (l - v))) 0 0 15 (A.2 0 0 15 + (nI v).toInt64)) 0 0 18 (A.2 0 0 18 + lN m)) (uJ (uJ (uI (mIncs (nI s) v B) 56 0 c (nI (l - v))) 79 0 1 (B.2 79 0 1 + (nI v).toInt64)) 79 0 4 (B.2 79 0 4 + (nI m).toInt64)) := by
    obtain ⟨k1, k2, k3, k4, k5⟩ := h.su
    unfold rSu
    simp only [uJ_2, uI_2, hj2]
    rw [nI_l (n := m) (by omega)]
    simp [k1, k2, k3, k4, k5]
  have j43 : (uJ (uJ (uI (uI A 13 s 7 (nI (j + v))) 15 c 3 (nI (l - v))) 0 0 15 (A.2 0 0 15 + (nI v).toInt64)) 0 0 18 (A.2 0 0 18 + lN m)).2 43 0 = A.2 43 0 := rfl
  generalize uJ (uJ (uI (uI A 13 s 7 (nI (j + v))) 15 c 3 (nI (l - v))) 0 0 15 (A.2 0 0 15 + (nI v).toInt64)) 0 0 18 (A.2 0 0 18 + lN m) = A' at *
  generalize uJ (uJ (uI (mIncs (nI s) v B) 56 0 c (nI (l - v))) 79 0 1 (B.2 79 0 1 + (nI v).toInt64)) 79 0 4 (B.2 79 0 4 + (nI m).toInt64) = B' at *
  have tA : ∀ t, t ≠ 15 → t ≠ 13 → A'.1 t = A.1 t := fun t h1 h2 => funext fun i => funext fun k => fA t i k (by omega) (by omega)
  have tB : ∀ t, t ≠ 56 → t ≠ 49 → B'.1 t = B.1 t := fun t h1 h2 => funext fun i => funext fun k => fB t i k (by omega) (by omega)
  have f15 : ∀ i k, k ≠ 3 → A'.1 15 i k = A.1 15 i k := fun i k hk => fA 15 i k (by omega) (by omega)
  have f13 : ∀ i k, k ≠ 7 → A'.1 13 i k = A.1 13 i k := fun i k hk => fA 13 i k (by omega) (by omega)
  refine h.build wc wm (fun t ht => tA t (by omega) (by omega)) (fun t ht => tB t (by omega) (by omega)) (fun k _ => by rw [tB 44 (by decide) (by decide)]) ?_ ?_ ?_ ?_ ?_ ?_ ?_ su ?_
  · have hlt : carr A' nc + v ≤ carr A nc := by
      have key : ∀ i, i ≤ nc → carr A' i + (if c < i then v else 0) ≤ carr A i := by
        intro i
        induction i with
        | zero => intro _; rw [if_neg (Nat.not_lt_zero _)]; exact Nat.le_refl _
        | succ i ih =>
          intro hi
          have ih := ih (by omega)
          show carr A' i + cl (A'.1 15 i 3) + _ ≤ carr A i + cl (A.1 15 i 3)
          by_cases z : i = c
          · subst z
            rw [if_neg (Nat.lt_irrefl _)] at ih
            rw [if_pos (Nat.lt_succ_self _), cA, hl3, show cl (nI (l - v)) = l - v from nI_clamp (by omega), show cl (nI l) = l from nI_clamp (by omega)]
            omega
          · rw [fA 15 i 3 (by omega) (by omega)]
            by_cases y : c < i
            · rw [if_pos y] at ih; rw [if_pos (by omega)]; omega
            · rw [if_neg y] at ih; rw [if_neg (by omega)]; omega
      have := key nc (Nat.le_refl _)
      rw [if_pos hc] at this
      exact this
    omega
  · refine ⟨fun i hi => ?_, fun i hi => ?_⟩
    · obtain ⟨y0, y2, y3, y4⟩ := h.st.1 i hi
      rw [f13 i 0 (by decide), f13 i 1 (by decide), f13 i 2 (by decide), f13 i 3 (by decide), f13 i 4 (by decide), f13 i 5 (by decide), f13 i 6 (by decide), tB 45 (by decide) (by decide), tB 46 (by decide) (by decide), tB 47 (by decide) (by decide), tB 48 (by decide) (by decide)]
      by_cases z : i = s
      · subst z
        refine ⟨y0, fun y => ?_, fun y => ⟨(y3 y).1, (y3 y).2.1, by rw [dA', dB']⟩, fun y => absurd h45 y⟩
        rw [h45] at y; exact absurd y (by decide)
      · rw [fA 13 i 7 (by omega) (by omega), fB 49 0 i (by omega) (by omega)]
        exact ⟨y0, y2, y3, y4⟩
    · rw [f13 i 5 (by decide), f13 i 6 (by decide), fA 13 i 7 (by omega) (by omega)]
      exact h.st.2 i hi
  · intro i hi h0
    rw [f13 i 0 (by decide)] at h0
    rw [f13 i 5 (by decide), f13 i 6 (by decide)]
    by_cases z : i = s
    · subst z
      exact ⟨t, f, j + v, ht, hf, by omega, m5, m6, dA'⟩
    · rw [fA 13 i 7 (by omega) (by omega)]
      obtain ⟨t', f', j', a1, a2, a3, a4⟩ := h.mkt i hi h0
      exact ⟨t', f', j', a1, a2, by omega, a4⟩
  · have nf : ∀ i k, k ≠ 3 → A'.1 15 i k = A.1 15 i k := f15
    refine ⟨fun i hi => by rw [nf i 0 (by decide)]; exact h.ca.1 i hi, fun i hi => ?_, fun i hi hi2 => ?_⟩
    · obtain ⟨g1, g2, g3, g4, g5, g6, g7, g8, g9, g10, g11, g12⟩ := h.ca.2.1 i hi
      rw [f15 i 1 (by decide), f15 i 2 (by decide), f15 i 4 (by decide), f15 i 5 (by decide), f15 i 6 (by decide), f15 i 7 (by decide), f15 i 8 (by decide), f15 i 9 (by decide), f15 i 10 (by decide), f15 i 11 (by decide), tA 16 (by decide) (by decide), tB 54 (by decide) (by decide), tB 55 (by decide) (by decide), tB 57 (by decide) (by decide), tB 58 (by decide) (by decide), tB 59 (by decide) (by decide), tB 60 (by decide) (by decide), tB 61 (by decide) (by decide), tB 62 (by decide) (by decide), tB 63 (by decide) (by decide), tB 64 (by decide) (by decide), tB 68 (by decide) (by decide)]
      refine ⟨g1, g2, ?_, g4, g5, g6, g7, g8, g9, g10, g11, g12⟩
      by_cases z : i = c
      · subst z; rw [cA, cB]
      · rw [fA 15 i 3 (by omega) (by omega), fB 56 0 i (by omega) (by omega)]; exact g3
    · rw [fA 15 i 3 (by omega) (by omega), f15 i 8 (by decide), f15 i 10 (by decide), f15 i 11 (by decide), tA 16 (by decide) (by decide), fB 56 0 i (by omega) (by omega), tB 58 (by decide) (by decide), tB 60 (by decide) (by decide), tB 61 (by decide) (by decide), tB 63 (by decide) (by decide), tB 64 (by decide) (by decide), tB 68 (by decide) (by decide), tB 69 (by decide) (by decide), tB 70 (by decide) (by decide)]
      exact h.ca.2.2 i hi hi2
  · intro i hi
    rw [f15 i 2 (by decide), f15 i 4 (by decide)]
    by_cases z : i = c
    · subst z
      exact ⟨k, l - v, u, hk, by omega, hu, h2, cA, h4⟩
    · rw [fA 15 i 3 (by omega) (by omega)]; exact h.bd i hi
  · exact h.ds.of (fun t h1 h2 => tA t (by omega) (by omega)) (tB 69 (by decide) (by decide)) (tB 70 (by decide) (by decide))
  · exact h.le.fr (fun t h1 h2 => by rw [tA t (by omega) (by omega)]) j43 (by rw [tA 0 (by decide) (by decide)]) (fun t h1 h2 => by rw [tB t (by omega) (by omega)]) (by rw [tB 44 (by decide) (by decide)]) (by rw [tB 44 (by decide) (by decide)])
  · intro i hi h0
    rw [f13 i 0 (by decide)] at h0
    rw [f13 i 2 (by decide), f13 i 3 (by decide), f13 i 4 (by decide)]
    exact h.wl i hi h0
/-- other entries -/
theorem rIn.les {e' : Nat} (h : rIn ns nc g e r n D S X A B) (fA : Fr pE A A') (fB : Fr pMW B B') (wc : WC ns nc A') (wm : WM ns nc B') (hl : rLe e' r A' B') : rIn ns nc g e' r n D S X A' B' := by
  have tA : ∀ t, ¬ (35 ≤ t ∧ t ≤ 40) → A'.1 t = A.1 t := fun t ht => fA.fe.tag (fun _ => by unfold pE; omega)
  have tB : ∀ t, ¬ (t = 72 ∨ t = 73 ∨ t = 74 ∨ t = 75 ∨ t = 44) → B'.1 t = B.1 t := fun t ht => fB.fe.tag (fun _ => by unfold pMW; omega)
  refine h.build wc wm (fun t ht => tA t (by omega)) (fun t ht => tB t (by omega)) (fun k hk => fB.2 44 0 k (by unfold pMW; omega)) ?_ ?_ ?_ ?_ ?_ ?_ hl ?_ ?_
  · rw [carr_of (A := A) (fun c => by rw [tA 15 (by decide)])]; exact h.bx
  · exact h.st.of (tA 13 (by decide)) (tB 45 (by decide)) (tB 46 (by decide)) (tB 47 (by decide)) (tB 48 (by decide)) (tB 49 (by decide))
  · exact h.mkt.of (fun s k _ => by rw [tA 13 (by decide)])
  · exact h.ca.of (tA 15 (by decide)) (tA 16 (by decide)) (fun t h1 h2 _ _ _ => tB t (by omega))
  · exact h.bd.of (tA 15 (by decide))
  · exact h.ds.of (fun t h1 h2 => tA t (by omega)) (tB 69 (by decide)) (tB 70 (by decide))
  · exact h.su.of (by rw [fA.1]) (by rw [fB.1])
  · exact h.wl.of (tA 13 (by decide))
theorem fr_mPays {x m : Int32} (M : MM) : Fr pMW M (mPays M x m) := by
  unfold mPays; split
  · exact fr_mWr _ _ _ _
  · exact Fr.rep (fr_mPay1 _ _ _ _) _ _
theorem rIn.sell (h : rIn ns nc g e r n D S X A B) (hc : c < nc) (h3 : A.1 13 (cl (A.1 15 c 6)) 0 = 3) {w : Nat} (hw : w < 1000000) (hX : X + 4000 < 2 ^ 32) : ∃ e' S', e ≤ e' ∧ rIn ns nc g e' r n D S' (X + 2000) (cShares (cSellM A c (nI w)) c (cNext A (cl (A.1 15 c 6)) (mn (nI w) (A.1 15 c 3))) (A.1 0 0 13)) (mSell (nI c) (nI w) B) := by
  have hn := h.wc.lc
  have ec : cl (nI c) = c := nI_clamp (by omega)
  obtain ⟨m, v, hm, hv, e1, e2, h'⟩ := h.sellM hc h3 hw hX
  unfold mSell
  rw [ec, e2, e1]
  have d13 : (cSellM A c (nI w)).1 0 0 13 = A.1 0 0 13 := rfl
  rw [← d13]
  generalize cSellM A c (nI w) = A1 at *
  generalize mSellM (nI c) (nI w) B = B1 at *
  rcases Nat.eq_zero_or_pos m with rfl | hpos
  · rw [if_pos (by decide), show lN 0 = 0 from rfl, cShares_0]
    exact ⟨e, S + v, Nat.le_refl _, h'⟩
  · rw [if_neg (nI_nle hpos (by omega))]
    obtain ⟨e', he, hl⟩ := h'.le.shares h'.t (c := c) (m := m) (by omega) (h'.ca.1 c (by omega)) (h'.ds.1 c hc).2 hm
    exact ⟨e', S + v, he, h'.les (fr_shares _ _ _ _) (fr_mPays _) h'.wc.shares h'.wm.pays hl⟩
end ACT3
