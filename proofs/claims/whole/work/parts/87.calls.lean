/-! Other calls keep what agrees: a station, a stage, a caravan. -/
section CAL1
variable {A A' B B' : MM} {ns nc g e r n D S X : Nat}
theorem pS2 {s a b d : Int32} (h : stOk s a b d) (hs : s = 2) : (∃ a', a' ≤ 1000 ∧ a = nI a') ∧ ∃ b', 1 ≤ b' ∧ b' ≤ 10000 ∧ b = nI b' := by
  unfold stOk at h
  rw [if_pos hs] at h
  obtain ⟨⟨h1, h2⟩, ⟨h3, h4⟩, -⟩ := h
  obtain ⟨j, hj, rfl⟩ := nI_of (Int32.not_lt.mpr h1)
  obtain ⟨k, hk, rfl⟩ := nI_of (x := b) (Int32.not_lt.mpr (Int32.le_trans (by decide) h3))
  exact ⟨⟨j, (nI_leI (b := 1000) hj (by decide)).mp h2, rfl⟩, k, (nI_leI (a := 1) (by decide) hk).mp h3, (nI_leI (b := 10000) hk (by decide)).mp h4, rfl⟩
theorem pS3 {s a b d : Int32} (h : stOk s a b d) (hs : s = 3) : (∃ a', (1 ≤ a' ∧ a' ≤ 1000) ∧ a = nI a') ∧ ∃ b', (1 ≤ b' ∧ b' ≤ 100) ∧ b = nI b' := by
  unfold stOk at h
  rw [if_neg (by rw [hs]; decide), if_pos hs] at h
  obtain ⟨⟨h1, h2⟩, ⟨h3, h4⟩⟩ := h
  obtain ⟨j, hj, rfl⟩ := nI_of (x := a) (Int32.not_lt.mpr (Int32.le_trans (by decide) h1))
  obtain ⟨k, hk, rfl⟩ := nI_of (x := b) (Int32.not_lt.mpr (Int32.le_trans (by decide) h3))
  exact ⟨⟨j, ⟨(nI_leI (a := 1) (by decide) hj).mp h1, (nI_leI (b := 1000) hj (by decide)).mp h2⟩, rfl⟩, k, ⟨(nI_leI (a := 1) (by decide) hk).mp h3, (nI_leI (b := 100) hk (by decide)).mp h4⟩, rfl⟩
theorem cStation_at (A : MM) (i : Nat) (s a b d : Int32) : (∀ t, t ≠ 0 → t ≠ 13 → (cStation A i s a b d).1 t = A.1 t) ∧ (∀ k, k ≠ 5 → (cStation A i s a b d).1 0 0 k = A.1 0 0 k) ∧ (cStation A i s a b d).1 0 0 5 = nI (i + 1) ∧ (∀ u k, u ≠ i → (cStation A i s a b d).1 13 u k = A.1 13 u k) ∧ (cStation A i s a b d).1 13 i 0 = s ∧ (s = 2 → (cStation A i s a b d).1 13 i 1 = d ∧ (cStation A i s a b d).1 13 i 2 = a ∧ (cStation A i s a b d).1 13 i 3 = b ∧ (cStation A i s a b d).1 13 i 4 = b) ∧ (s = 3 → (cStation A i s a b d).1 13 i 5 = a ∧ (cStation A i s a b d).1 13 i 6 = b ∧ (cStation A i s a b d).1 13 i 7 = A.1 13 i 7) ∧ (¬ s = 3 → ∀ k, k ≠ 0 → 5 ≤ k → (cStation A i s a b d).1 13 i k = A.1 13 i k) ∧ (cStation A i s a b d).2 = A.2 := by
  unfold cStation cStat2 cStat1
  by_cases h2 : s = 2
  · have h3 : ¬ s = 3 := by rw [h2]; decide
    rw [if_neg h3, if_pos h2]
    refine ⟨fun t x y => ?_, fun k x => ?_, ?_, fun u k x => ?_, ?_, fun _ => ?_, fun x => absurd x h3, fun _ k x y => ?_, rfl⟩
    · rw [uI_t x, uI_t y, uI_t y, uI_t y, uI_t y, uI_t y]
    · simp [uI_1, x]
    · simp [uI_1]
    · simp [uI_1, x]
    · simp [uI_1]
    · simp [uI_1]
    · have x1 : k ≠ 1 := by omega
      have x2 : k ≠ 2 := by omega
      have x3 : k ≠ 3 := by omega
      have x4 : k ≠ 4 := by omega
      simp [uI_1, x, x1, x2, x3, x4]
  · rw [if_neg h2]
    by_cases h3 : s = 3
    · rw [if_pos h3]
      refine ⟨fun t x y => ?_, fun k x => ?_, ?_, fun u k x => ?_, ?_, fun x => absurd x h2, fun _ => ?_, fun x => absurd h3 x, rfl⟩
      · rw [uI_t x, uI_t y, uI_t y, uI_t y]
      · simp [uI_1, x]
      · simp [uI_1]
      · simp [uI_1, x]
      · simp [uI_1]
      · simp [uI_1]
    · rw [if_neg h3]
      refine ⟨fun t x y => ?_, fun k x => ?_, ?_, fun u k x => ?_, ?_, fun x => absurd x h2, fun x => absurd x h3, fun _ k x y => ?_, rfl⟩
      · rw [uI_t x, uI_t y]
      · simp [uI_1, x]
      · simp [uI_1]
      · simp [uI_1, x]
      · simp [uI_1]
      · simp [uI_1, x]
theorem rIn.station {s a b d : Int32} (h : rIn ns nc g e r n D S X A B) (hn : ns < 12) (ok : stOk s a b d) : rIn (ns + 1) nc g e r n D S X (cStation A ns s a b d) (mStation B (nI ns) s a b d) := by
  obtain ⟨tA, a0, a5, u13, n0, n2, n3, n4, jA⟩ := cStation_at A ns s a b d
  have ec : cl (nI ns) = ns := nI_clamp (by omega)
  have tB : ∀ t, t ≠ 44 → t ≠ 45 → t ≠ 46 → t ≠ 47 → t ≠ 48 → t ≠ 49 → (mStation B (nI ns) s a b d).1 t = B.1 t := fun t x0 x1 x2 x3 x4 x5 => by
    unfold mStation; rw [uI_t x0, uI_t x5, uI_t x4, uI_t x3, uI_t x2, uI_t x1]
  have b44 : ∀ k, k ≠ 7 → (mStation B (nI ns) s a b d).1 44 0 k = B.1 44 0 k := fun k hk => by unfold mStation; simp [uI_1, hk]
  have b7 : (mStation B (nI ns) s a b d).1 44 0 7 = nI (ns + 1) := by
    unfold mStation; rw [uI_1, if_pos ⟨rfl, rfl, rfl⟩, nI_1]
  have b45 : ∀ k, (mStation B (nI ns) s a b d).1 45 0 k = if k = ns then s else B.1 45 0 k := fun k => by unfold mStation; rw [ec]; simp [uI_1]
  have b46 : ∀ k, (mStation B (nI ns) s a b d).1 46 0 k = if k = ns then a else B.1 46 0 k := fun k => by unfold mStation; rw [ec]; simp [uI_1]
  have b47 : ∀ k, (mStation B (nI ns) s a b d).1 47 0 k = if k = ns then b else B.1 47 0 k := fun k => by unfold mStation; rw [ec]; simp [uI_1]
  have b48 : ∀ k, (mStation B (nI ns) s a b d).1 48 0 k = if k = ns then d else B.1 48 0 k := fun k => by unfold mStation; rw [ec]; simp [uI_1]
  have b49 : ∀ k, (mStation B (nI ns) s a b d).1 49 0 k = if k = ns then (if s = 2 then b else 0) else B.1 49 0 k := fun k => by unfold mStation; rw [ec]; simp [uI_1]
  have jB : (mStation B (nI ns) s a b d).2 = B.2 := rfl
  generalize cStation A ns s a b d = A' at *
  generalize mStation B (nI ns) s a b d = B' at *
  have z0 := h.st.2 ns (Nat.le_refl _)
  have tB' : ∀ t, 50 ≤ t → B'.1 t = B.1 t := fun t ht => tB t (by omega) (by omega) (by omega) (by omega) (by omega) (by omega)
  have wc : WC (ns + 1) nc A' := by
    refine ⟨⟨by omega, h.wc.lc⟩, ⟨a5, by rw [a0 9 (by decide)]; exact h.wc.n9⟩, fun c hc => ?_, fun c hc => by rw [tA 16 (by decide) (by decide)]; exact h.wc.oc hc, fun c hc => ⟨by rw [tA 25 (by decide) (by decide)]; exact h.wc.sh hc, by rw [tA 22 (by decide) (by decide)]; exact h.wc.st hc⟩, by rw [tA 35 (by decide) (by decide)]; exact h.wc.en⟩
    rw [tA 15 (by decide) (by decide)]
    obtain ⟨x, hx, ex⟩ := h.wc.at hc
    obtain ⟨y, hy, ey⟩ := h.wc.fr hc
    exact ⟨⟨x, by omega, ex⟩, y, by omega, ey⟩
  have wm : WM (ns + 1) nc B' := by
    refine ⟨⟨by omega, h.wm.lc⟩, ⟨b7, by rw [b44 26 (by decide)]; exact h.wm.n26⟩, ⟨by rw [b44 11 (by decide)]; exact h.wm.ng, by rw [b44 36 (by decide)]; exact h.wm.en⟩, fun c hc => ?_, fun u hu h3 => ?_, fun c hc => ?_, fun c hc => ?_⟩
    · rw [tB' 59 (by decide), tB' 60 (by decide)]
      obtain ⟨x, hx, ex⟩ := h.wm.at hc
      exact ⟨⟨x, by omega, ex⟩, h.wm.fr hc⟩
    · rw [b45] at h3
      rw [b47]
      by_cases z : u = ns
      · rw [if_pos z] at h3 ⊢
        obtain ⟨-, b', hb', eb⟩ := pS3 ok h3
        rw [eb]; exact nI_ne0 (by omega) (by omega)
      · rw [if_neg z] at h3 ⊢
        exact h.wm.b0 (by omega) h3
    · rw [tB' 70 (by decide), tB' 69 (by decide)]; exact ⟨h.wm.dk hc, h.wm.dt hc⟩
    · rw [tB' 68 (by decide), tB' 63 (by decide), tB' 64 (by decide)]; exact h.wm.2.2.2.2.2.2 c hc
  refine ⟨⟨wc, wm, ⟨h.sg.1, by rw [b44 11 (by decide)]; exact h.sg.2⟩, by rw [a0 7 (by decide)]; exact h.a7⟩, ⟨by rw [a0 13 (by decide)]; exact h.da, by rw [b44 1 (by decide)]; exact h.db, h.dl, ?_⟩, ?_, ?_, ?_, ?_, ?_, ?_, ?_, ?_, ?_, ?_, ?_, ?_, ?_⟩
  · rw [carr_of (A := A) (fun c => by rw [tA 15 (by decide) (by decide)])]; exact h.bx
  · refine ⟨fun u hu => ?_, fun u hu => ?_⟩
    · rw [b45, b46, b47, b48, b49]
      by_cases z : u = ns
      · subst z
        rw [if_pos rfl, if_pos rfl, if_pos rfl, if_pos rfl, if_pos rfl, n0]
        refine ⟨rfl, fun q => ?_, fun q => ?_, fun q => ?_⟩
        · obtain ⟨x1, x2, x3, x4⟩ := n2 q
          rw [if_pos q]
          exact ⟨x1, x2, x3, x4⟩
        · obtain ⟨x1, x2, x3⟩ := n3 q
          rw [if_neg (by rw [q]; decide)]
          exact ⟨x1, x2, x3.trans z0.2.2⟩
        · rw [n4 q 5 (by decide) (by decide), n4 q 6 (by decide) (by decide), n4 q 7 (by decide) (by decide)]
          exact z0
      · simp only [u13 u _ z, if_neg z]
        exact h.st.1 u (by omega)
    · have z : u ≠ ns := by omega
      simp only [u13 u _ z]
      exact h.st.2 u (by omega)
  · intro u hu h0
    by_cases z : u = ns
    · subst z
      rw [n0] at h0
      obtain ⟨x1, x2, x3⟩ := n3 h0
      obtain ⟨⟨a', ha', ea⟩, b', hb', eb⟩ := pS3 ok h0
      exact ⟨a', b', 0, ha', hb', Nat.zero_le _, x1.trans ea, x2.trans eb, x3.trans z0.2.2⟩
    · rw [u13 u _ z] at h0
      simp only [u13 u _ z]
      exact h.mkt u (by omega) h0
  · exact h.sg'.of (tA 32 (by decide) (by decide)) (tB' 50 (by decide)) (tB' 51 (by decide)) (tB' 52 (by decide))
  · exact h.lo.of (tA 34 (by decide) (by decide)) (tB' 53 (by decide))
  · exact h.ca.of (tA 15 (by decide) (by decide)) (tA 16 (by decide) (by decide)) (fun t h1 h2 _ _ _ => tB' t (by omega))
  · exact h.bd.of (tA 15 (by decide) (by decide))
  · exact h.kn.of (tA 28 (by decide) (by decide)) (tA 29 (by decide) (by decide)) (by rw [a0 13 (by decide)]; exact Int32.le_refl _) (tB' 65 (by decide)) (tB' 66 (by decide))
  · exact h.or.of (fun t h1 h2 => tA t (by omega) (by omega)) (tB' 67 (by decide))
  · exact h.ds.of (fun t h1 h2 => tA t (by omega) (by omega)) (tB' 69 (by decide)) (tB' 70 (by decide))
  · exact h.le.fr (fun t h1 h2 => by rw [tA t (by omega) (by omega)]) (by rw [jA]) (a0 13 (by decide)) (fun t h1 h2 => by rw [tB' t (by omega)]) (b44 36 (by decide)) (b44 40 (by decide))
  · exact h.su.of (by rw [jA]) (by rw [jB])
  · exact h.ta.of (by rw [tA 1 (by decide) (by decide)]) (tA 2 (by decide) (by decide)) (a0 3 (by decide)) (tB' 81 (by decide)) (b44 44 (by decide)) (b44 48 (by decide)) (b44 49 (by decide))
  · intro u hu h0
    by_cases z : u = ns
    · subst z
      rw [n0] at h0
      obtain ⟨x1, x2, x3, x4⟩ := n2 h0
      obtain ⟨⟨a', ha', ea⟩, b', hb', hb2, eb⟩ := pS2 ok h0
      exact ⟨a', b', b', ha', hb2, Nat.le_refl _, x2.trans ea, x3.trans eb, x4.trans eb⟩
    · rw [u13 u _ z] at h0
      simp only [u13 u _ z]
      exact h.wl u (by omega) h0
theorem rIn.stage {f t : Nat} {d : Int32} (h : rIn ns nc g e r n D S X A B) (hg : g < 30) (hf : f < ns) (ht : t < ns) (hne : f ≠ t) (hd : ∃ w, 1 ≤ w ∧ w ≤ 9 ∧ d = nI w) : rIn ns nc (g + 1) e r n D S X (cStage A f t d) (mStage B (nI g) (nI f) (nI t) d) := by
  have hns := h.wc.ls
  have hs := rSg.stage h.sg' hg (f := f) (t := t) (by omega) (by omega) hne hd
  have fA : Fe (fun t k => t = 32 ∨ (t = 0 ∧ k = 7)) A (cStage A f t d) := by
    unfold cStage; split
    · exact ((Fe.rfl'.u (by omega)).u (by omega)).u (by omega)
    · exact Fe.rfl'.u (by omega)
  have jA : (cStage A f t d).2 = A.2 := by
    unfold cStage; split <;> rfl
  have a7 : (cStage A f t d).1 0 0 7 = nI (g + 1) := by
    unfold cStage; rw [uI_1, if_pos ⟨rfl, rfl, rfl⟩, h.a7, nI_1]
  have fB : Fe (fun t k => t = 50 ∨ t = 51 ∨ t = 52 ∨ (t = 44 ∧ k = 11)) B (mStage B (nI g) (nI f) (nI t) d) := by
    unfold mStage
    exact (((Fe.rfl'.u (by omega)).u (by omega)).u (by omega)).u (by omega)
  have jB : (mStage B (nI g) (nI f) (nI t) d).2 = B.2 := rfl
  have b11 : (mStage B (nI g) (nI f) (nI t) d).1 44 0 11 = nI (g + 1) := by
    unfold mStage; rw [uI_1, if_pos ⟨rfl, rfl, rfl⟩, nI_1]
  generalize cStage A f t d = A' at *
  generalize mStage B (nI g) (nI f) (nI t) d = B' at *
  have tA : ∀ t, t ≠ 0 → t ≠ 32 → A'.1 t = A.1 t := fun t x y => fA.tag (fun _ => by omega)
  have a0 : ∀ k, k ≠ 7 → A'.1 0 0 k = A.1 0 0 k := fun k hk => fA 0 0 k (by omega)
  have tB : ∀ t, t ≠ 44 → t ≠ 50 → t ≠ 51 → t ≠ 52 → B'.1 t = B.1 t := fun t x1 x2 x3 x4 => fB.tag (fun _ => by omega)
  have b44 : ∀ k, k ≠ 11 → B'.1 44 0 k = B.1 44 0 k := fun k hk => fB 44 0 k (by omega)
  have wc : WC ns nc A' := h.wc.of (a0 5 (by decide)) (a0 9 (by decide)) (fun c => by rw [tA 15 (by decide) (by decide)]) (fun c => by rw [tA 15 (by decide) (by decide)]) (fun c => by rw [tA 16 (by decide) (by decide)]) (fun c => by rw [tA 25 (by decide) (by decide)]) (fun c => by rw [tA 22 (by decide) (by decide)]) (by rw [tA 35 (by decide) (by decide)]; exact h.wc.en)
  have wm : WM ns nc B' := by
    refine ⟨h.wm.1, ⟨by rw [b44 7 (by decide)]; exact h.wm.n7, by rw [b44 26 (by decide)]; exact h.wm.n26⟩, ⟨⟨g + 1, by omega, b11⟩, by rw [b44 36 (by decide)]; exact h.wm.en⟩, ?_⟩
    rw [tB 59 (by decide) (by decide) (by decide) (by decide), tB 60 (by decide) (by decide) (by decide) (by decide), tB 45 (by decide) (by decide) (by decide) (by decide), tB 47 (by decide) (by decide) (by decide) (by decide), tB 70 (by decide) (by decide) (by decide) (by decide), tB 69 (by decide) (by decide) (by decide) (by decide), tB 68 (by decide) (by decide) (by decide) (by decide), tB 63 (by decide) (by decide) (by decide) (by decide), tB 64 (by decide) (by decide) (by decide) (by decide)]
    exact h.wm.2.2.2
  have tB' : ∀ t, ¬ (t = 44 ∨ t = 50 ∨ t = 51 ∨ t = 52) → B'.1 t = B.1 t := fun t ht => tB t (by omega) (by omega) (by omega) (by omega)
  refine ⟨⟨wc, wm, ⟨by omega, b11⟩, a7⟩, ⟨by rw [a0 13 (by decide)]; exact h.da, by rw [b44 1 (by decide)]; exact h.db, h.dl, ?_⟩, ?_, ?_, hs, ?_, ?_, ?_, ?_, ?_, ?_, ?_, ?_, ?_, ?_⟩
  · rw [carr_of (A := A) (fun c => by rw [tA 15 (by decide) (by decide)])]; exact h.bx
  · exact h.st.of (tA 13 (by decide) (by decide)) (tB' 45 (by decide)) (tB' 46 (by decide)) (tB' 47 (by decide)) (tB' 48 (by decide)) (tB' 49 (by decide))
  · exact h.mkt.of (fun s k _ => by rw [tA 13 (by decide) (by decide)])
  · exact h.lo.of (tA 34 (by decide) (by decide)) (tB' 53 (by decide))
  · exact h.ca.of (tA 15 (by decide) (by decide)) (tA 16 (by decide) (by decide)) (fun t h1 h2 _ _ _ => tB' t (by omega))
  · exact h.bd.of (tA 15 (by decide) (by decide))
  · exact h.kn.of (tA 28 (by decide) (by decide)) (tA 29 (by decide) (by decide)) (by rw [a0 13 (by decide)]; exact Int32.le_refl _) (tB' 65 (by decide)) (tB' 66 (by decide))
  · exact h.or.of (fun t h1 h2 => tA t (by omega) (by omega)) (tB' 67 (by decide))
  · exact h.ds.of (fun t h1 h2 => tA t (by omega) (by omega)) (tB' 69 (by decide)) (tB' 70 (by decide))
  · exact h.le.fr (fun t h1 h2 => by rw [tA t (by omega) (by omega)]) (by rw [jA]) (a0 13 (by decide)) (fun t h1 h2 => by rw [tB' t (by omega)]) (b44 36 (by decide)) (b44 40 (by decide))
  · exact h.su.of (by rw [jA]) (by rw [jB])
  · exact h.ta.of (by rw [tA 1 (by decide) (by decide)]) (tA 2 (by decide) (by decide)) (a0 3 (by decide)) (tB' 81 (by decide)) (b44 44 (by decide)) (b44 48 (by decide)) (b44 49 (by decide))
  · exact h.wl.of (tA 13 (by decide) (by decide))
end CAL1
