/-! Orders are done alike: setting out. -/
section ACT2
variable {A A' B B' : MM} {ns nc g e r n D S X c : Nat}
theorem rDe.cell {u v u' v' : Nat} (h : rDe u v c A B) (a0 : A'.1 u' c 0 = A.1 u c 0) (a3 : A'.1 u' c 3 = A.1 u c 3) (a4 : A'.1 u' c 4 = A.1 u c 4) (a5 : A'.1 u' c 5 = A.1 u c 5) (p : ∀ k, k < 3 → A'.1 (u' + 1) c k = A.1 (u + 1) c k) (q : ∀ k, k < 3 → A'.1 (u' + 2) c k = A.1 (u + 2) c k) (b : ∀ k, k < 9 → B'.1 v' 0 (9 * c + k) = B.1 v 0 (9 * c + k)) : rDe u' v' c A' B' := by
  have b0 : B'.1 v' 0 (9 * c) = B.1 v 0 (9 * c) := b 0 (by decide)
  rcases h with ⟨h1, h2, h3, h4, h5, h6⟩ | ⟨l, w, hok, hl1, hl3, hpos, hw, hr, ⟨c0, c3, c4, c5, cw⟩, d0, d7, d8, dw⟩
  · left
    rw [b0, a0, a3, a4, p 0 (by decide), q 0 (by decide)]
    exact ⟨h1, h2, h3, h4, h5, h6⟩
  · right
    refine ⟨l, w, hok, hl1, hl3, hpos, hw, hr, ⟨a0.trans c0, a3.trans c3, a4.trans c4, fun z => a5.trans (c5 z), fun i hi => ?_⟩, b0.trans d0, (b 7 (by decide)).trans d7, fun z => (b 8 (by decide)).trans (d8 z), fun i hi => ?_⟩
    · rw [p i (by omega), q i (by omega)]; exact cw i hi
    · have e1 := b (1 + i) (by omega)
      have e4 := b (4 + i) (by omega)
      rw [← Nat.add_assoc] at e1 e4
      rw [e1, e4]; exact dw i hi
theorem goA_at {m : Int32} (hc : c < 12) (M : MM) : (∀ t, t ≠ 58 → t ≠ 59 → t ≠ 60 → t ≠ 61 → t ≠ 70 → (mGoA g (nI c) m M).1 t = M.1 t) ∧ (∀ k, (mGoA g (nI c) m M).1 58 0 k = if k = c then 1 else M.1 58 0 k) ∧ (∀ k, (mGoA g (nI c) m M).1 59 0 k = if k = c then m else M.1 59 0 k) ∧ (∀ k, (mGoA g (nI c) m M).1 60 0 k = if k = c then M.1 59 0 c else M.1 60 0 k) ∧ (∀ k, (mGoA g (nI c) m M).1 61 0 k = if k = c then mWayF M (M.1 59 0 c) m g 0 else M.1 61 0 k) ∧ (∀ k, (mGoA g (nI c) m M).1 70 0 k = if 9 * c ≤ k ∧ k < 9 * c + 9 then M.1 69 0 k else M.1 70 0 k) ∧ (mGoA g (nI c) m M).2 = M.2 := by
  have ec : cl (nI c) = c := nI_clamp (by omega)
  have j : ∀ k N, (rep (mCp1 (nI c)) k N).2 = N.2 := by
    intro k
    induction k with
    | zero => intro N; rfl
    | succ k ih => intro N; exact ih N
  have hj : (mGoA g (nI c) m M).2 = M.2 := by unfold mGoA; rw [j]; rfl
  have e3 : mWayF (mGo3 (nI c) m M) (M.1 59 0 (cl (nI c))) m g 0 = mWayF M (M.1 59 0 (cl (nI c))) m g 0 := by
    refine mWayF_of ?_ ?_ ?_ _ _ _ _
    · unfold mGo3; rw [uI_t (by decide), uI_t (by decide), uI_t (by decide)]
    · unfold mGo3; rw [uI_t (by decide), uI_t (by decide), uI_t (by decide)]
    · unfold mGo3; rw [uI_t (by decide), uI_t (by decide), uI_t (by decide)]
  unfold mGoA at hj ⊢
  rw [e3, ec] at hj ⊢
  have e := cp_at hc (x := nI c) rfl (uI (mGo3 (nI c) m M) 61 0 c (mWayF M (M.1 59 0 c) m g 0)) 9 (Nat.le_refl _)
  generalize rep (mCp1 (nI c)) 9 (uI (mGo3 (nI c) m M) 61 0 c (mWayF M (M.1 59 0 c) m g 0)) = N at e hj ⊢
  generalize mWayF M (M.1 59 0 c) m g 0 = w at e ⊢
  have b : ∀ t k, (uI (mGo3 (nI c) m M) 61 0 c w).1 t 0 k = if t = 61 ∧ k = c then w else if t = 59 ∧ k = c then m else if t = 60 ∧ k = c then M.1 59 0 c else if t = 58 ∧ k = c then 1 else M.1 t 0 k := fun t k => by
    unfold mGo3
    rw [ec]
    simp [uI_1]
  refine ⟨fun t h1 h2 h3 h4 h5 => funext fun i => funext fun k => ?_, fun k => ?_, fun k => ?_, fun k => ?_, fun k => ?_, fun k => ?_, hj⟩
  · rw [e, if_neg (by omega)]
    unfold mGo3
    simp [uI_1, h1, h2, h3, h4]
  · rw [e, if_neg (by omega), b, if_neg (by omega), if_neg (by omega), if_neg (by omega)]; simp
  · rw [e, if_neg (by omega), b, if_neg (by omega)]; simp
  · rw [e, if_neg (by omega), b, if_neg (by omega), if_neg (by omega)]; simp
  · rw [e, if_neg (by omega), b]; simp
  · have b9 : (uI (mGo3 (nI c) m M) 61 0 c w).1 69 0 k = M.1 69 0 k := by rw [b]; simp
    have b0 : (uI (mGo3 (nI c) m M) 61 0 c w).1 70 0 k = M.1 70 0 k := by rw [b]; simp
    rw [e, b9, b0]
    simp
theorem setOut_at {to d : Int32} (M : MM) : (∀ t, t ≠ 15 → t ≠ 25 → t ≠ 26 → t ≠ 27 → (cSetOut M c to d).1 t = M.1 t) ∧ (∀ i k, (cSetOut M c to d).1 15 i k = if i = c ∧ k = 8 then d else if i = c ∧ k = 5 then 1 else if i = c ∧ k = 6 then to else if i = c ∧ k = 7 then M.1 15 c 6 else M.1 15 i k) ∧ (∀ i k, (cSetOut M c to d).1 25 i k = if i = c ∧ (k = 0 ∨ k = 3 ∨ k = 4 ∨ k = 5) then M.1 22 c k else M.1 25 i k) ∧ (∀ i k, (cSetOut M c to d).1 26 i k = if i = c ∧ k < 3 then M.1 23 c k else M.1 26 i k) ∧ (∀ i k, (cSetOut M c to d).1 27 i k = if i = c ∧ k < 3 then M.1 24 c k else M.1 27 i k) ∧ (cSetOut M c to d).2 = M.2 := by
  refine ⟨fun t h1 h2 h3 h4 => funext fun i => funext fun k => ?_, fun i k => ?_, fun i k => ?_, fun i k => ?_, fun i k => ?_, rfl⟩
  · unfold cSetOut cCount
    simp [uI_1, uC_1, h1, h2, h3, h4]
  · unfold cSetOut cCount
    simp [uI_1, uC_1]
  · unfold cSetOut cCount
    simp only [uI_1, uC_1]
    by_cases hi : i = c
    · subst hi
      by_cases k0 : k = 0
      · subst k0; simp
      · by_cases k3 : k = 3
        · subst k3; simp
        · by_cases k4 : k = 4
          · subst k4; simp
          · by_cases k5 : k = 5
            · subst k5; simp
            · simp [k0, k3, k4, k5]
    · simp [hi]
  · unfold cSetOut cCount
    simp [uI_1, uC_1]
  · unfold cSetOut cCount
    simp [uI_1, uC_1]
theorem way_self {B : MM} {x : Int32} : ∀ m k, (∀ j, k ≤ j → j < k + m → ¬ B.1 50 0 j = B.1 51 0 j) → mWayF B x x m k = 0
  | 0, _, _ => rfl
  | m + 1, k, h => by
    unfold mWayF
    rw [if_neg, way_self m (k + 1) (fun j h1 h2 => h j (by omega) (by omega))]
    have := h k (Nat.le_refl _) (by omega)
    rintro (⟨a, b⟩ | ⟨a, b⟩)
    · exact this (a.trans b.symm)
    · exact this (a.trans b.symm)
/-- setting out -/
theorem rIn.go (h : rIn ns nc g e r n D S X A B) (hc : c < nc) {t : Nat} (ht : t < ns) : rIn ns nc g e r n D S X (cSetOut A c (nI t) (A.1 32 (cl (A.1 15 c 6)) t)) (mGoA g (nI c) (nI t) B) := by
  have hn := h.wc.lc
  have hns := h.wc.ls
  obtain ⟨s, hs, e6⟩ := h.wc.at hc
  have q6 := (h.ca.2.1 c hc).2.2.2.2.2.1
  have es : cl (A.1 15 c 6) = s := by rw [e6]; exact nI_clamp (by omega)
  have ew : A.1 32 s t = mWayF B (B.1 59 0 c) (nI t) g 0 := by rw [← q6, e6]; exact h.sg'.1 s t (by omega) (by omega)
  have wc : WC ns nc (cSetOut A c (nI t) (A.1 32 s t)) := h.wc.setOut hc (nI_pos' (by omega)) (nI_lt ht (by omega))
  have wm : WM ns nc (mGoA g (nI c) (nI t) B) := h.wm.goA hc rfl (nI_pos' (by omega)) (nI_lt ht (by omega))
  obtain ⟨p0, p58, p59, p60, p61, p70, pj⟩ := goA_at (g := g) (m := nI t) (c := c) (by omega) B
  obtain ⟨a0, a15, a25, a26, a27, aj⟩ := setOut_at (c := c) (to := nI t) (d := A.1 32 s t) A
  rw [es]
  rw [← ew] at p61
  generalize cSetOut A c (nI t) (A.1 32 s t) = A' at *
  generalize mGoA g (nI c) (nI t) B = B' at *
  have tB : ∀ t, t ≠ 58 → t ≠ 59 → t ≠ 60 → t ≠ 61 → t ≠ 70 → B'.1 t = B.1 t := p0
  have f15 : ∀ i k, k ≠ 5 → k ≠ 6 → k ≠ 7 → k ≠ 8 → A'.1 15 i k = A.1 15 i k := fun i k h1 h2 h3 h4 => by
    rw [a15, if_neg (by omega), if_neg (by omega), if_neg (by omega), if_neg (by omega)]
  have g15 : ∀ i k, i ≠ c → A'.1 15 i k = A.1 15 i k := fun i k h1 => by
    rw [a15, if_neg (by omega), if_neg (by omega), if_neg (by omega), if_neg (by omega)]
  have tA : ∀ t, ¬ (t = 15 ∨ t = 25 ∨ t = 26 ∨ t = 27) → A'.1 t = A.1 t := fun t ht => a0 t (by omega) (by omega) (by omega) (by omega)
  have t44 : B'.1 44 = B.1 44 := tB 44 (by decide) (by decide) (by decide) (by decide) (by decide)
  refine h.build wc wm (fun t ht => tA t (by omega)) (fun t ht => tB t (by omega) (by omega) (by omega) (by omega) (by omega)) (fun k _ => by rw [t44]) ?_ ?_ ?_ ?_ ?_ ?_ ?_ ?_ ?_
  · rw [carr_of (A := A) (fun c => f15 c 3 (by decide) (by decide) (by decide) (by decide))]; exact h.bx
  · exact h.st.of (tA 13 (by decide)) (tB 45 (by decide) (by decide) (by decide) (by decide) (by decide)) (tB 46 (by decide) (by decide) (by decide) (by decide) (by decide)) (tB 47 (by decide) (by decide) (by decide) (by decide) (by decide)) (tB 48 (by decide) (by decide) (by decide) (by decide) (by decide)) (tB 49 (by decide) (by decide) (by decide) (by decide) (by decide))
  · exact h.mkt.of (fun s k _ => by rw [tA 13 (by decide)])
  · have tb : ∀ t, (t = 54 ∨ t = 55 ∨ t = 56 ∨ t = 57 ∨ t = 62 ∨ t = 63 ∨ t = 64 ∨ t = 68 ∨ t = 69) → B'.1 t = B.1 t := fun t ht => tB t (by omega) (by omega) (by omega) (by omega) (by omega)
    have nf : ∀ i k, (k = 0 ∨ k = 1 ∨ k = 2 ∨ k = 3 ∨ k = 4 ∨ k = 9 ∨ k = 10 ∨ k = 11) → A'.1 15 i k = A.1 15 i k := fun i k hk => f15 i k (by omega) (by omega) (by omega) (by omega)
    refine ⟨fun i hi => by rw [nf i 0 (by omega)]; exact h.ca.1 i hi, fun i hi => ?_, fun i hi hi2 => ?_⟩
    · obtain ⟨g1, g2, g3, g4, g5, g6, g7, g8, g9, g10, g11, g12⟩ := h.ca.2.1 i hi
      rw [nf i 1 (by omega), nf i 2 (by omega), nf i 3 (by omega), nf i 4 (by omega), nf i 9 (by omega), nf i 10 (by omega), nf i 11 (by omega), tA 16 (by decide), tb 54 (by omega), tb 55 (by omega), tb 56 (by omega), tb 57 (by omega), tb 62 (by omega), tb 63 (by omega), tb 64 (by omega), tb 68 (by omega), p58, p59, p60, p61]
      by_cases z : i = c
      · subst z
        rw [if_pos rfl, if_pos rfl, if_pos rfl, if_pos rfl, a15, a15, a15, a15]
        exact ⟨g1, g2, g3, g4, by simp, by simp, fun _ => by simp [q6], by simp, g9, g10, g11, g12⟩
      · rw [if_neg z, if_neg z, if_neg z, if_neg z, g15 i 5 z, g15 i 6 z, g15 i 7 z, g15 i 8 z]
        exact ⟨g1, g2, g3, g4, g5, g6, g7, g8, g9, g10, g11, g12⟩
    · have z : i ≠ c := by omega
      rw [nf i 3 (by omega), g15 i 8 z, nf i 10 (by omega), nf i 11 (by omega), tA 16 (by decide), tb 56 (by omega), p58, if_neg z, p60, if_neg z, p61, if_neg z, tb 63 (by omega), tb 64 (by omega), tb 68 (by omega), tb 69 (by omega), p70, if_neg (by omega)]
      exact h.ca.2.2 i hi hi2
  · intro i hi
    rw [f15 i 2 (by decide) (by decide) (by decide) (by decide), f15 i 3 (by decide) (by decide) (by decide) (by decide), f15 i 4 (by decide) (by decide) (by decide) (by decide)]
    exact h.bd i hi
  · refine ⟨fun i hi => ⟨(h.ds.1 i hi).1.of (tA 22 (by decide)) (tA 23 (by decide)) (tA 24 (by decide)) (tB 69 (by decide) (by decide) (by decide) (by decide) (by decide)), ?_⟩, fun i hi hi2 => ?_⟩
    · by_cases z : i = c
      · subst z
        refine (h.ds.1 i hi).1.cell ?_ ?_ ?_ ?_ (fun k hk => ?_) (fun k hk => ?_) (fun k hk => ?_)
        · rw [a25]; simp
        · rw [a25]; simp
        · rw [a25]; simp
        · rw [a25]; simp
        · rw [a26, if_pos ⟨rfl, hk⟩]
        · rw [a27, if_pos ⟨rfl, hk⟩]
        · rw [p70, if_pos (by omega)]
      · refine (h.ds.1 i hi).2.cell ?_ ?_ ?_ ?_ (fun k hk => ?_) (fun k hk => ?_) (fun k hk => ?_)
        · rw [a25, if_neg (fun y => z y.1)]
        · rw [a25, if_neg (fun y => z y.1)]
        · rw [a25, if_neg (fun y => z y.1)]
        · rw [a25, if_neg (fun y => z y.1)]
        · rw [a26, if_neg (fun y => z y.1)]
        · rw [a27, if_neg (fun y => z y.1)]
        · rw [p70, if_neg (by omega)]
    · have z : i ≠ c := by omega
      rw [tA 22 (by decide), tA 23 (by decide), tA 24 (by decide), a25, if_neg (fun y => z y.1), a25, if_neg (fun y => z y.1), a25, if_neg (fun y => z y.1), a26, if_neg (fun y => z y.1), a27, if_neg (fun y => z y.1)]
      exact h.ds.2 i hi hi2
  · exact h.le.fr (fun t h1 h2 => by rw [tA t (by omega)]) (by rw [aj]) (by rw [tA 0 (by decide)]) (fun t h1 h2 => by rw [tB t (by omega) (by omega) (by omega) (by omega) (by omega)]) (by rw [t44]) (by rw [t44])
  · exact h.su.of (by rw [aj]) (by rw [pj])
  · exact h.wl.of (tA 13 (by decide))
end ACT2
