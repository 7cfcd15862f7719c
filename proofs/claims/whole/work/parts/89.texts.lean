/-! Orders and contracts are taken alike. -/
section TEXT
variable {A A' B B' : MM} {ns nc g e r n D S X c : Nat} {b : Nat → Int32}
theorem aTest_ok {p q m : Nat} {t : Int32 × Int32 × Int32} (h : aTest b m p = .ok (t, q)) : (t.1 = 0 ∨ t.1 = 1 ∨ t.1 = 2) ∧ (¬ t.1 = 0 → ∃ w, w < 1000000 ∧ t.2.1 = nI w) := by
  unfold aTest at h
  split at h
  · split at h
    · cases h
    · rename_i hn
      cases h2 : aTest2 b m (nn b m (nw b m p)) with
      | error e => rw [h2] at h; cases h
      | ok z =>
        rw [h2] at h
        obtain ⟨z1, z2⟩ := z
        cases h
        obtain ⟨w, ew, hw⟩ := (nmb_ok hn).1
        refine ⟨?_, fun _ => ⟨w, hw, ew⟩⟩
        unfold aTest2 at h2
        split at h2
        · split at h2
          · cases h2
          · cases h2; exact Or.inr (Or.inl rfl)
        · split at h2
          · split at h2
            · cases h2
            · cases h2; exact Or.inr (Or.inr rfl)
          · cases h2
  · cases h
    exact ⟨Or.inl rfl, fun z => absurd rfl z⟩
theorem pAct_ok {m p : Nat} (h : ¬ pAct b m p = -1) : ∃ k, k < 5 ∧ pAct b m p = nI k := by
  unfold pAct at h ⊢
  split
  · exact ⟨0, by decide, rfl⟩
  · split
    · exact ⟨1, by decide, rfl⟩
    · split
      · exact ⟨2, by decide, rfl⟩
      · split
        · exact ⟨3, by decide, rfl⟩
        · split
          · exact ⟨4, by decide, rfl⟩
          · rename_i h1 h2 h3 h4 h5
            rw [if_neg h1, if_neg h2, if_neg h3, if_neg h4, if_neg h5] at h
            exact absurd rfl h
theorem aAct_ok {m p q : Nat} {a : Int32 × Int32} (h : aAct b m p = .ok (a, q)) : (∃ k, k < 5 ∧ a.1 = nI k) ∧ (¬ a.1 = 4 → ∃ w, w < 1000000 ∧ a.2 = nI w) := by
  unfold aAct at h
  split at h
  · cases h
  · rename_i h1
    split at h
    · cases h
      exact ⟨⟨4, by decide, rfl⟩, fun z => absurd rfl z⟩
    · split at h
      · cases h
      · rename_i hn
        cases h
        obtain ⟨w, ew, hw⟩ := (nmb_ok hn).1
        exact ⟨pAct_ok h1, fun _ => ⟨w, hw, ew⟩⟩
theorem aOrd_ok {m p q : Nat} {w : Row} (h : aOrd b m p = .ok (w, q)) : rowOk w := by
  unfold aOrd at h
  cases h1 : aTest b m p with
  | error e => rw [h1] at h; cases h
  | ok t =>
    rw [h1] at h
    obtain ⟨t, q1⟩ := t
    have h : (match aAct b m q1 with | .error e => .error e | .ok (a, e) => .ok ((t, a), e)) = (Except.ok (w, q) : Except Nat (Row × Nat)) := h
    cases h2 : aAct b m q1 with
    | error e => rw [h2] at h; cases h
    | ok a =>
      rw [h2] at h
      obtain ⟨a, q2⟩ := a
      cases h
      exact ⟨(aTest_ok h1).1, (aAct_ok h2).1, (aAct_ok h2).2, (aTest_ok h1).2⟩
theorem aList_ok {m : Nat} : ∀ k p l, aList b m k p = .ok l → ∀ w ∈ l, rowOk w
  | 0, p, l, h => by cases h
  | k + 1, p, l, h => by
    rw [show aList b m (k + 1) p = match aOrd b m p with
      | .error e => .error e
      | .ok (r, q) => if tSign b m q 59 = true then (match aList b m k (sk b m (q + 1)) with
          | .error e => .error e
          | .ok l => .ok (r :: l))
        else if q = m then .ok [r] else .error q from rfl] at h
    cases h1 : aOrd b m p with
    | error e => rw [h1] at h; cases h
    | ok z =>
      rw [h1] at h
      obtain ⟨w0, q⟩ := z
      have h : (if tSign b m q 59 = true then (match aList b m k (sk b m (q + 1)) with
          | .error e => .error e
          | .ok l => .ok (w0 :: l))
        else if q = m then .ok [w0] else .error q) = (Except.ok l : Except Nat (List Row)) := h
      have hw0 := aOrd_ok h1
      split at h
      · cases h2 : aList b m k (sk b m (q + 1)) with
        | error e => rw [h2] at h; cases h
        | ok l2 =>
          rw [h2] at h
          cases h
          intro w hw
          rcases List.mem_cons.mp hw with rfl | hw
          · exact hw0
          · exact aList_ok k _ l2 h2 w hw
      · split at h
        · cases h
          intro w hw
          rcases List.mem_cons.mp hw with rfl | hw
          · exact hw0
          · cases hw
        · cases h
theorem rowM.mv {o o' : Nat} {w : Row} (h : rowM B o w) (hb : ∀ k, k < 5 → B'.1 67 0 (o' + k) = B.1 67 0 (o + k)) : rowM B' o' w := by
  unfold rowM at h ⊢
  have h0 := hb 0 (by decide)
  have h0 : B'.1 67 0 o' = B.1 67 0 o := h0
  rw [h0, hb 1 (by decide), hb 2 (by decide), hb 3 (by decide), hb 4 (by decide)]
  exact h
theorem cTakeO_at (A : MM) (c : Nat) : (∀ t, ¬ (t = 15 ∨ (16 ≤ t ∧ t ≤ 21)) → (cTakeO A c).1 t = A.1 t) ∧ (∀ i k, (cTakeO A c).1 15 i k = if i = c ∧ k = 11 then 0 else if i = c ∧ k = 10 then 0 else A.1 15 i k) ∧ (∀ i, (cTakeO A c).1 16 i 0 = if i = c then A.1 3 0 0 else A.1 16 i 0) ∧ (∀ u, u < 5 → ∀ i k, (cTakeO A c).1 (17 + u) i k = if i = c ∧ k < 12 then A.1 (4 + u) 0 k else A.1 (17 + u) i k) ∧ (cTakeO A c).2 = A.2 := by
  unfold cTakeO cCopyO
  refine ⟨fun t ht => funext fun i => funext fun k => ?_, fun i k => ?_, fun i => ?_, fun u hu i k => ?_, rfl⟩
  · simp only [uI_1, uC_1]
    rw [if_neg (by omega), if_neg (by omega), if_neg (by omega), if_neg (by omega), if_neg (by omega), if_neg (by omega), if_neg (by omega), if_neg (by omega)]
  · simp [uI_1, uC_1]
  · simp [uI_1, uC_1]
  · have : u = 0 ∨ u = 1 ∨ u = 2 ∨ u = 3 ∨ u = 4 := by omega
    rcases this with rfl | rfl | rfl | rfl | rfl
    · simp [uI_1, uC_1]
    · simp [uI_1, uC_1]
    · simp [uI_1, uC_1]
    · simp [uI_1, uC_1]
    · simp [uI_1, uC_1]
theorem cpO_j {x : Int32} (B : MM) : ∀ k, (rep (mCpO x) k B).2 = B.2
  | 0 => rfl
  | k + 1 => cpO_j B k
theorem mTakeO_at (hc : c < 12) (B : MM) {m : Nat} (hm : m ≤ 12) : (∀ t, t ≠ 67 → t ≠ 68 → t ≠ 63 → t ≠ 64 → (mTakeO B (nI c) m).1 t = B.1 t) ∧ (∀ k, (mTakeO B (nI c) m).1 67 0 k = if 60 * c ≤ k ∧ k < 60 * c + 5 * m then B.1 67 0 (720 + (k - 60 * c)) else B.1 67 0 k) ∧ (∀ k, (mTakeO B (nI c) m).1 68 0 k = if k = c then nI m else B.1 68 0 k) ∧ (∀ k, (mTakeO B (nI c) m).1 63 0 k = if k = c then 0 else B.1 63 0 k) ∧ (∀ k, (mTakeO B (nI c) m).1 64 0 k = if k = c then 0 else B.1 64 0 k) ∧ (mTakeO B (nI c) m).2 = B.2 := by
  have ec : cl (nI c) = c := nI_clamp (by omega)
  have hj : (mTakeO B (nI c) m).2 = B.2 := by unfold mTakeO; rw [uI_2, uI_2, uI_2, cpO_j]
  unfold mTakeO at hj ⊢
  rw [ec] at hj ⊢
  have e := cpO_at hc (x := nI c) rfl B (5 * m) (by omega)
  generalize rep (mCpO (nI c)) (5 * m) B = N at e hj ⊢
  refine ⟨fun t h1 h2 h3 h4 => funext fun i => funext fun k => ?_, fun k => ?_, fun k => ?_, fun k => ?_, fun k => ?_, hj⟩
  · rw [uI_1, if_neg (by omega), uI_1, if_neg (by omega), uI_1, if_neg (by omega), e, if_neg (by omega)]
  · rw [uI_1, if_neg (by omega), uI_1, if_neg (by omega), uI_1, if_neg (by omega), e]
    simp
  · rw [uI_1, if_neg (by omega), uI_1, if_neg (by omega), uI_1, e, if_neg (by omega : ¬ ((68 : Nat) = 67 ∧ _))]
    simp
  · have e3 : N.1 63 0 k = B.1 63 0 k := by rw [e, if_neg (by omega)]
    simp [uI_1, e3]
  · have e4 : N.1 64 0 k = B.1 64 0 k := by rw [e, if_neg (by omega)]
    simp [uI_1, e4]
theorem rIn.orders {l : List Row} (h : rIn ns nc g e r n D S X A B) (hc : c < nc) (hl : l.length ≤ 12) (ok : ∀ w ∈ l, rowOk w) (a3 : A.1 3 0 0 = nI l.length) (ra : ∀ j (hj : j < l.length), rowC A j l[j]) (rb : ∀ i (hi : i < l.length), rowM B (720 + 5 * i) l[i]) : rIn ns nc g e r n D S X (cTakeO A c) (mTakeO B (nI c) l.length) := by
  have hn := h.wc.lc
  obtain ⟨tA, a15, a16, a17, jA⟩ := cTakeO_at A c
  obtain ⟨tB, b67, b68, b63, b64, jB⟩ := mTakeO_at (c := c) (by omega) B hl
  generalize cTakeO A c = A' at *
  generalize mTakeO B (nI c) l.length = B' at *
  have o15 : ∀ i k, i ≠ c → A'.1 15 i k = A.1 15 i k := fun i k hi => by rw [a15, if_neg (by omega), if_neg (by omega)]
  have s15 : ∀ i k, k ≠ 10 → k ≠ 11 → A'.1 15 i k = A.1 15 i k := fun i k h1 h2 => by rw [a15, if_neg (by omega), if_neg (by omega)]
  have tB' : ∀ t, ¬ (t = 63 ∨ t = 64 ∨ t = 67 ∨ t = 68) → B'.1 t = B.1 t := fun t ht => tB t (by omega) (by omega) (by omega) (by omega)
  have t44 : B'.1 44 = B.1 44 := tB' 44 (by decide)
  have wc : WC ns nc A' := by
    refine ⟨h.wc.1, ⟨by rw [tA 0 (by omega)]; exact h.wc.n5, by rw [tA 0 (by omega)]; exact h.wc.n9⟩, fun i hi => ?_, fun i hi => ?_, fun i hi => ?_, by rw [tA 35 (by omega)]; exact h.wc.en⟩
    · rw [s15 i 6 (by decide) (by decide), s15 i 7 (by decide) (by decide)]; exact ⟨h.wc.at hi, h.wc.fr hi⟩
    · rw [a16]
      by_cases z : i = c
      · rw [if_pos z, a3]; exact nI_le (b := 12) hl (by decide)
      · rw [if_neg z]; exact h.wc.oc hi
    · rw [tA 25 (by omega), tA 22 (by omega)]; exact ⟨h.wc.sh hi, h.wc.st hi⟩
  have wm : WM ns nc B' := by
    refine ⟨h.wm.1, ⟨by rw [t44]; exact h.wm.n7, by rw [t44]; exact h.wm.n26⟩, ⟨by rw [t44]; exact h.wm.ng, by rw [t44]; exact h.wm.en⟩, ?_, ?_, ?_, fun i hi => ?_⟩
    · rw [tB' 59 (by decide), tB' 60 (by decide)]; exact h.wm.2.2.2.1
    · rw [tB' 45 (by decide), tB' 47 (by decide)]; exact h.wm.2.2.2.2.1
    · rw [tB' 70 (by decide), tB' 69 (by decide)]; exact h.wm.2.2.2.2.2.1
    · rw [b68, b63, b64]
      by_cases z : i = c
      · rw [if_pos z, if_pos z, if_pos z]
        exact ⟨nI_le (b := 12) hl (by decide), ⟨0, by decide, rfl⟩, fun q => absurd q (by decide)⟩
      · rw [if_neg z, if_neg z, if_neg z]; exact h.wm.2.2.2.2.2.2 i hi
  refine ⟨⟨wc, wm, ⟨h.sg.1, by rw [t44]; exact h.sg.2⟩, by rw [tA 0 (by omega)]; exact h.a7⟩, ⟨by rw [tA 0 (by omega)]; exact h.da, by rw [t44]; exact h.db, h.dl, ?_⟩, ?_, ?_, ?_, ?_, ?_, ?_, ?_, ?_, ?_, ?_, ?_, ?_, ?_⟩
  · rw [carr_of (A := A) (fun c => s15 c 3 (by decide) (by decide))]; exact h.bx
  · exact h.st.of (tA 13 (by omega)) (tB' 45 (by omega)) (tB' 46 (by omega)) (tB' 47 (by omega)) (tB' 48 (by omega)) (tB' 49 (by omega))
  · exact h.mkt.of (fun s k _ => by rw [tA 13 (by omega)])
  · exact h.sg'.of (tA 32 (by omega)) (tB' 50 (by omega)) (tB' 51 (by omega)) (tB' 52 (by omega))
  · exact h.lo.of (tA 34 (by omega)) (tB' 53 (by omega))
  · refine ⟨fun i hi => by rw [s15 i 0 (by decide) (by decide)]; exact h.ca.1 i hi, fun i hi => ?_, fun i hi hi2 => ?_⟩
    · obtain ⟨g1, g2, g3, g4, g5, g6, g7, g8, g9, g10, g11, g12⟩ := h.ca.2.1 i hi
      rw [s15 i 1 (by decide) (by decide), s15 i 2 (by decide) (by decide), s15 i 3 (by decide) (by decide), s15 i 4 (by decide) (by decide), s15 i 5 (by decide) (by decide), s15 i 6 (by decide) (by decide), s15 i 7 (by decide) (by decide), s15 i 8 (by decide) (by decide), s15 i 9 (by decide) (by decide), a16, tB' 54 (by omega), tB' 55 (by omega), tB' 56 (by omega), tB' 57 (by omega), tB' 58 (by omega), tB' 59 (by omega), tB' 60 (by omega), tB' 61 (by omega), tB' 62 (by omega), b63, b64, b68]
      by_cases z : i = c
      · subst z
        rw [if_pos rfl, if_pos rfl, if_pos rfl, if_pos rfl, a3, a15, a15]
        exact ⟨g1, g2, g3, g4, g5, g6, g7, g8, g9, by simp, by simp, rfl⟩
      · rw [if_neg z, if_neg z, if_neg z, if_neg z, o15 i 10 z, o15 i 11 z]
        exact ⟨g1, g2, g3, g4, g5, g6, g7, g8, g9, g10, g11, g12⟩
    · have z : i ≠ c := by omega
      rw [o15 i 3 z, o15 i 8 z, o15 i 10 z, o15 i 11 z, a16, if_neg z, tB' 56 (by omega), tB' 58 (by omega), tB' 60 (by omega), tB' 61 (by omega), b63, if_neg z, b64, if_neg z, b68, if_neg z, tB' 69 (by omega), tB' 70 (by omega)]
      exact h.ca.2.2 i hi hi2
  · intro i hi
    rw [s15 i 2 (by decide) (by decide), s15 i 3 (by decide) (by decide), s15 i 4 (by decide) (by decide)]
    exact h.bd i hi
  · exact h.kn.of (tA 28 (by omega)) (tA 29 (by omega)) (by rw [tA 0 (by omega)]; exact Int32.le_refl _) (tB' 65 (by omega)) (tB' 66 (by omega))
  · intro i hi
    by_cases z : i = c
    · subst z
      refine ⟨l, hl, by rw [a16, if_pos rfl]; exact a3, fun j hj => ⟨ok _ (List.getElem_mem hj), ?_, ?_⟩⟩
      · obtain ⟨r1, r2, r3, r4⟩ := ra j hj
        have q7 : A'.1 17 i j = A.1 4 0 j := by rw [a17 0 (by decide), if_pos ⟨rfl, by omega⟩]
        have q8 : A'.1 18 i j = A.1 5 0 j := by rw [a17 1 (by decide), if_pos ⟨rfl, by omega⟩]
        have q9 : A'.1 19 i j = A.1 6 0 j := by rw [a17 2 (by decide), if_pos ⟨rfl, by omega⟩]
        have q10 : A'.1 20 i j = A.1 7 0 j := by rw [a17 3 (by decide), if_pos ⟨rfl, by omega⟩]
        have q11 : A'.1 21 i j = A.1 8 0 j := by rw [a17 4 (by decide), if_pos ⟨rfl, by omega⟩]
        unfold rowA
        rw [q7, q8, q9, q10, q11]
        exact ⟨r1, r2, r3, r4⟩
      · refine (rb j hj).mv (fun k hk => ?_)
        rw [b67, if_pos (by omega), show 720 + (60 * i + 5 * j + k - 60 * i) = 720 + 5 * j + k by omega]
    · obtain ⟨l', x1, x2, x3⟩ := h.or i hi
      refine ⟨l', x1, by rw [a16, if_neg z]; exact x2, fun j hj => ⟨(x3 j hj).1, ?_, (x3 j hj).2.2.mv (fun k hk => by rw [b67, if_neg (by omega)])⟩⟩
      obtain ⟨r1, r2, r3, r4⟩ := (x3 j hj).2.1
      have q7 : A'.1 17 i j = A.1 17 i j := by rw [a17 0 (by decide), if_neg (fun y => z y.1)]
      have q8 : A'.1 18 i j = A.1 18 i j := by rw [a17 1 (by decide), if_neg (fun y => z y.1)]
      have q9 : A'.1 19 i j = A.1 19 i j := by rw [a17 2 (by decide), if_neg (fun y => z y.1)]
      have q10 : A'.1 20 i j = A.1 20 i j := by rw [a17 3 (by decide), if_neg (fun y => z y.1)]
      have q11 : A'.1 21 i j = A.1 21 i j := by rw [a17 4 (by decide), if_neg (fun y => z y.1)]
      unfold rowA
      rw [q7, q8, q9, q10, q11]
      exact ⟨r1, r2, r3, r4⟩
  · exact h.ds.of (fun t h1 h2 => tA t (by omega)) (tB' 69 (by omega)) (tB' 70 (by omega))
  · exact h.le.fr (fun t h1 h2 => by rw [tA t (by omega)]) (by rw [jA]) (by rw [tA 0 (by omega)]) (fun t h1 h2 => by rw [tB' t (by omega)]) (by rw [t44]) (by rw [t44])
  · exact h.su.of (by rw [jA]) (by rw [jB])
  · exact h.ta.of (by rw [tA 1 (by omega)]) (tA 2 (by omega)) (by rw [tA 0 (by omega)]) (tB' 81 (by omega)) (by rw [t44]) (by rw [t44]) (by rw [t44])
  · exact h.wl.of (tA 13 (by omega))
end TEXT
