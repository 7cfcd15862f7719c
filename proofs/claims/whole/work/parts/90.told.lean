/-! Contracts are taken alike. -/
section TOLD
variable {A A' B B' : MM} {ns nc g e r n D S X c : Nat} {b : Nat → Int32}
/-- numbers of shares -/
def numOk (l : List Shr) : Prop := ∀ i (hi : i < l.length), ∃ w, w ≤ 99 ∧ l[i].2 = nI w
theorem numOk.app {l : List Shr} {s : Shr} (h : numOk l) (hs : ∃ w, w ≤ 99 ∧ s.2 = nI w) : numOk (l ++ [s]) := fun i hi => by
  rw [List.length_append] at hi
  by_cases z : i < l.length
  · rw [List.getElem_append_left z]; exact h i z
  · have hi : i < l.length + 1 := hi
    have z : i = l.length := by omega
    subst z
    rw [List.getElem_append_right (Nat.le_refl _)]
    simp only [Nat.sub_self, List.getElem_cons_zero]
    exact hs
theorem aShare_ok {m p q : Nat} {l : List Shr} {s : Shr} (h : aShare b m l p = .ok (s, q)) : ∃ w, w ≤ 99 ∧ s.2 = nI w := by
  unfold aShare at h
  split at h
  · cases h
  · split at h
    · cases h
    · split at h
      · cases h
      · rename_i hn
        cases h
        obtain ⟨⟨w, ew, hw⟩, hle⟩ := nmb_ok hn
        refine ⟨w, ?_, ew⟩
        rw [ew] at hle
        exact (nI_leI (b := 99) (by omega) (by decide)).mp hle
theorem aLost_ok {m p q : Nat} {s : Int32 × Int32} (h : aLost b m p = .ok (s, q)) : s.1 = -1 ∨ s.1 = 0 ∨ s.1 = 1 ∨ s.1 = 2 := by
  unfold aLost at h
  split at h
  · split at h
    · cases h
    · split at h
      · cases h
      · cases h
        exact pty_cases _ _ _
  · cases h
    exact Or.inl rfl
theorem aDeal_ok {m : Nat} : ∀ k l p L s, numOk l → aDeal b m k l p = .ok (L, s) → numOk L ∧ (s.1 = -1 ∨ s.1 = 0 ∨ s.1 = 1 ∨ s.1 = 2) ∧ 1 ≤ L.length
  | 0, l, p, L, s, _, h => by cases h
  | k + 1, l, p, L, s, hl, h => by
    rw [show aDeal b m (k + 1) l p = match aShare b m l p with
      | .error e => .error e
      | .ok (s, q) => if tSign b m q 44 = true then aDeal b m k (l ++ [s]) (sk b m (q + 1)) else
        if smS (l ++ [s]) 0 ≤ 0 then .error q else (match aLost b m q with
        | .error e => .error e
        | .ok (r, e) => if e = m then .ok (l ++ [s], r) else .error e) from rfl] at h
    cases h1 : aShare b m l p with
    | error e => rw [h1] at h; cases h
    | ok z =>
      rw [h1] at h
      obtain ⟨s1, q⟩ := z
      have h : (if tSign b m q 44 = true then aDeal b m k (l ++ [s1]) (sk b m (q + 1)) else
        if smS (l ++ [s1]) 0 ≤ 0 then .error q else (match aLost b m q with
        | .error e => .error e
        | .ok (r, e) => if e = m then .ok (l ++ [s1], r) else .error e)) = (Except.ok (L, s) : Except Nat (List Shr × (Int32 × Int32))) := h
      have hl1 := hl.app (aShare_ok h1)
      split at h
      · exact aDeal_ok k _ _ L s hl1 h
      · split at h
        · cases h
        · cases h2 : aLost b m q with
          | error e => rw [h2] at h; cases h
          | ok z2 =>
            rw [h2] at h
            obtain ⟨r1, q2⟩ := z2
            have h : (if q2 = m then Except.ok (l ++ [s1], r1) else .error q2) = (Except.ok (L, s) : Except Nat (List Shr × (Int32 × Int32))) := h
            split at h
            · cases h
              refine ⟨hl1, aLost_ok h2, ?_⟩
              rw [List.length_append]
              exact Nat.le_add_left 1 _
            · cases h
theorem told_at {x : Int32} (hc : c < 12) (hx : x = nI c) (B : MM) : ∀ k, k ≤ 9 → ∀ t i j, (rep (mTold1 x) k B).1 t i j = if t = 69 ∧ i = 0 ∧ 9 * c ≤ j ∧ j < 9 * c + k then B.1 71 0 (j - 9 * c) else B.1 t i j
  | 0, _, t, i, j => by rw [if_neg (by omega)]; rfl
  | k + 1, hk, t, i, j => by
    show (uI (rep (mTold1 x) k B) 69 0 (cl (9 * x + nI k)) ((rep (mTold1 x) k B).1 71 0 (cl (nI k)))).1 t i j = _
    rw [(v108 (c := c) (k := k) (x := x) (y := nI k) hc (by omega) hx rfl).2, show cl (nI k) = k from nI_clamp (by omega), uI_1, told_at hc hx B k (by omega) 71 0, told_at hc hx B k (by omega) t i j, if_neg (by omega : ¬ ((71 : Nat) = 69 ∧ _))]
    by_cases h : t = 69 ∧ i = 0 ∧ j = 9 * c + k
    · rw [if_pos h, if_pos (by omega), h.2.2, show 9 * c + k - 9 * c = k by omega]
    · rw [if_neg h]
      by_cases h2 : t = 69 ∧ i = 0 ∧ 9 * c ≤ j ∧ j < 9 * c + k
      · rw [if_pos h2, if_pos (by omega)]
      · rw [if_neg h2, if_neg (by omega)]
theorem told_j {x : Int32} (B : MM) : ∀ k, (rep (mTold1 x) k B).2 = B.2
  | 0 => rfl
  | k + 1 => told_j B k
theorem cTold_at (A : MM) (c : Nat) : (∀ t, t ≠ 22 → t ≠ 23 → t ≠ 24 → (cTold A c).1 t = A.1 t) ∧ (∀ i k, (cTold A c).1 22 i k = if i = c ∧ (k = 0 ∨ k = 3 ∨ k = 4 ∨ k = 5) then A.1 9 0 k else A.1 22 i k) ∧ (∀ i k, (cTold A c).1 23 i k = if i = c ∧ k < 3 then A.1 10 0 k else A.1 23 i k) ∧ (∀ i k, (cTold A c).1 24 i k = if i = c ∧ k < 3 then A.1 11 0 k else A.1 24 i k) ∧ (cTold A c).2 = A.2 := by
  unfold cTold
  refine ⟨fun t h1 h2 h3 => funext fun i => funext fun k => ?_, fun i k => ?_, fun i k => ?_, fun i k => ?_, rfl⟩
  · simp [uI_1, uC_1, h1, h2, h3]
  · simp only [uI_1, uC_1]
    by_cases hi : i = c
    · subst hi
      by_cases k0 : k = 0
      · subst k0; simp
      · by_cases k3 : k = 3
        · subst k3; simp
        · by_cases k4 : k = 4
          · subst k4; simp
          · by_cases k5 : k = 5
            · subst k5; simp
            · simp [k0, k3, k4, k5]
    · simp [hi]
  · simp [uI_1, uC_1]
  · simp [uI_1, uC_1]
theorem rIn.told {l : List Shr} {s : Int32 × Int32} (h : rIn ns nc g e r n D S X A B) (hc : c < nc) (h1 : 1 ≤ l.length) (h3 : l.length ≤ 3) (ok : shOk l) (num : numOk l) (hpos : ¬ smS l 0 ≤ 0) (hs : s.1 = -1 ∨ s.1 = 0 ∨ s.1 = 1 ∨ s.1 = 2)
    (dA : dC A l) (a4 : A.1 9 0 4 = s.1) (a5 : ¬ s.1 = -1 → A.1 9 0 5 = s.2) (dB : dM B l) (b0 : B.1 71 0 0 = nI l.length) (b7 : B.1 71 0 7 = s.1) (b8 : ¬ s.1 = -1 → B.1 71 0 8 = s.2) : rIn ns nc g e r n D S X (cTold A c) (rep (mTold1 (nI c)) 9 B) := by
  have hn := h.wc.lc
  obtain ⟨tA, a22, a23, a24, jA⟩ := cTold_at A c
  have bat := told_at (c := c) (by omega) (x := nI c) rfl B 9 (Nat.le_refl _)
  have jB := told_j (x := nI c) B 9
  generalize cTold A c = A' at *
  generalize rep (mTold1 (nI c)) 9 B = B' at *
  have tA' : ∀ t, ¬ (t = 22 ∨ t = 23 ∨ t = 24) → A'.1 t = A.1 t := fun t ht => tA t (by omega) (by omega) (by omega)
  have tB : ∀ t, t ≠ 69 → B'.1 t = B.1 t := fun t ht => funext fun i => funext fun k => by rw [bat, if_neg (by omega)]
  have t44 : B'.1 44 = B.1 44 := tB 44 (by decide)
  have b69 : ∀ k, k < 9 → B'.1 69 0 (9 * c + k) = B.1 71 0 k := fun k hk => by rw [bat, if_pos (by omega), show 9 * c + k - 9 * c = k by omega]
  have o69 : ∀ i k, i ≠ c → k < 9 → B'.1 69 0 (9 * i + k) = B.1 69 0 (9 * i + k) := fun i k hi hk => by rw [bat, if_neg (by omega)]
  have hde : rDe 22 69 c A' B' := by
    refine Or.inr ⟨l, s, ok, h1, h3, hpos, num, hs, ⟨?_, ?_, ?_, fun z => ?_, fun i hi => ?_⟩, ?_, ?_, fun z => ?_, fun i hi => ?_⟩
    · rw [a22]; simp [dA.1]
    · rw [a22]; simp [dA.2.1]
    · rw [a22]; simp [a4]
    · rw [a22]; simp [a5 z]
    · have q3 : A'.1 (22 + 1) c i = A.1 10 0 i := by rw [a23, if_pos ⟨rfl, by omega⟩]
      have q4 : A'.1 (22 + 2) c i = A.1 11 0 i := by rw [a24, if_pos ⟨rfl, by omega⟩]
      rw [q3, q4]
      exact dA.2.2 i hi
    · have := b69 0 (by decide)
      exact this.trans b0
    · rw [b69 7 (by decide)]; exact b7
    · rw [b69 8 (by decide)]; exact b8 z
    · have e1 := b69 (1 + i) (by omega)
      have e4 := b69 (4 + i) (by omega)
      rw [← Nat.add_assoc] at e1 e4
      rw [e1, e4]
      exact dB i hi
  have wc : WC ns nc A' := by
    refine ⟨h.wc.1, ⟨by rw [tA' 0 (by omega)]; exact h.wc.n5, by rw [tA' 0 (by omega)]; exact h.wc.n9⟩, fun i hi => ?_, fun i hi => ?_, fun i hi => ?_, by rw [tA' 35 (by omega)]; exact h.wc.en⟩
    · rw [tA' 15 (by omega)]; exact ⟨h.wc.at hi, h.wc.fr hi⟩
    · rw [tA' 16 (by omega)]; exact h.wc.oc hi
    · rw [tA' 25 (by omega), a22]
      by_cases z : i = c
      · rw [if_pos ⟨z, Or.inl rfl⟩, dA.1]
        exact ⟨h.wc.sh hi, l.length, h3, rfl⟩
      · rw [if_neg (fun y => z y.1)]
        exact ⟨h.wc.sh hi, h.wc.st hi⟩
  have wm : WM ns nc B' := by
    refine ⟨h.wm.1, ⟨by rw [t44]; exact h.wm.n7, by rw [t44]; exact h.wm.n26⟩, ⟨by rw [t44]; exact h.wm.ng, by rw [t44]; exact h.wm.en⟩, ?_, ?_, fun i hi => ?_, ?_⟩
    · rw [tB 59 (by decide), tB 60 (by decide)]; exact h.wm.2.2.2.1
    · rw [tB 45 (by decide), tB 47 (by decide)]; exact h.wm.2.2.2.2.1
    · rw [tB 70 (by decide)]
      by_cases z : i = c
      · subst z
        refine ⟨h.wm.dk hi, l.length, h3, (b69 0 (by decide)).trans b0, fun _ => ?_⟩
        rw [sumD_smS (l := l) l.length (Nat.le_refl _) (fun j hj => ?_), List.take_length]
        · exact fun y => hpos (by rw [y]; decide)
        · have e4 := b69 (4 + j) (by omega)
          rw [← Nat.add_assoc] at e4
          rw [e4]
          exact (dB j hj).2
      · exact ⟨h.wm.dk hi, (h.wm.dt hi).congr (fun k hk => o69 i k z hk)⟩
    · rw [tB 68 (by decide), tB 63 (by decide), tB 64 (by decide)]; exact h.wm.2.2.2.2.2.2
  refine ⟨⟨wc, wm, ⟨h.sg.1, by rw [t44]; exact h.sg.2⟩, by rw [tA' 0 (by omega)]; exact h.a7⟩, ⟨by rw [tA' 0 (by omega)]; exact h.da, by rw [t44]; exact h.db, h.dl, ?_⟩, ?_, ?_, ?_, ?_, ?_, ?_, ?_, ?_, ?_, ?_, ?_, ?_, ?_⟩
  · rw [carr_of (A := A) (fun c => by rw [tA' 15 (by omega)])]; exact h.bx
  · exact h.st.of (tA' 13 (by omega)) (tB 45 (by omega)) (tB 46 (by omega)) (tB 47 (by omega)) (tB 48 (by omega)) (tB 49 (by omega))
  · exact h.mkt.of (fun s k _ => by rw [tA' 13 (by omega)])
  · exact h.sg'.of (tA' 32 (by omega)) (tB 50 (by omega)) (tB 51 (by omega)) (tB 52 (by omega))
  · exact h.lo.of (tA' 34 (by omega)) (tB 53 (by omega))
  · refine ⟨fun i hi => by rw [tA' 15 (by omega)]; exact h.ca.1 i hi, ?_, fun i hi hi2 => ?_⟩
    · rw [tA' 15 (by omega), tA' 16 (by omega), tB 54 (by omega), tB 55 (by omega), tB 56 (by omega), tB 57 (by omega), tB 58 (by omega), tB 59 (by omega), tB 60 (by omega), tB 61 (by omega), tB 62 (by omega), tB 63 (by omega), tB 64 (by omega), tB 68 (by omega)]
      exact h.ca.2.1
    · have := o69 i 0 (by omega) (by decide)
      have q : B'.1 69 0 (9 * i) = B.1 69 0 (9 * i) := this
      rw [tA' 15 (by omega), tA' 16 (by omega), tB 56 (by omega), tB 58 (by omega), tB 60 (by omega), tB 61 (by omega), tB 63 (by omega), tB 64 (by omega), tB 68 (by omega), q, tB 70 (by omega)]
      exact h.ca.2.2 i hi hi2
  · exact h.bd.of (tA' 15 (by omega))
  · exact h.kn.of (tA' 28 (by omega)) (tA' 29 (by omega)) (by rw [tA' 0 (by omega)]; exact Int32.le_refl _) (tB 65 (by omega)) (tB 66 (by omega))
  · exact h.or.of (fun t h1 h2 => tA' t (by omega)) (tB 67 (by omega))
  · refine ⟨fun i hi => ⟨?_, (h.ds.1 i hi).2.of (tA' 25 (by omega)) (tA' 26 (by omega)) (tA' 27 (by omega)) (tB 70 (by omega))⟩, fun i hi hi2 => ?_⟩
    · by_cases z : i = c
      · rw [z]; exact hde
      · refine (h.ds.1 i hi).1.cell ?_ ?_ ?_ ?_ (fun k hk => ?_) (fun k hk => ?_) (fun k hk => o69 i k z hk)
        · rw [a22, if_neg (fun y => z y.1)]
        · rw [a22, if_neg (fun y => z y.1)]
        · rw [a22, if_neg (fun y => z y.1)]
        · rw [a22, if_neg (fun y => z y.1)]
        · rw [a23, if_neg (fun y => z y.1)]
        · rw [a24, if_neg (fun y => z y.1)]
    · have z : i ≠ c := by omega
      rw [a22, if_neg (fun y => z y.1), a22, if_neg (fun y => z y.1), a22, if_neg (fun y => z y.1), a23, if_neg (fun y => z y.1), a24, if_neg (fun y => z y.1), tA' 25 (by omega), tA' 26 (by omega), tA' 27 (by omega)]
      exact h.ds.2 i hi hi2
  · exact h.le.fr (fun t h1 h2 => by rw [tA' t (by omega)]) (by rw [jA]) (by rw [tA' 0 (by omega)]) (fun t h1 h2 => by rw [tB t (by omega)]) (by rw [t44]) (by rw [t44])
  · exact h.su.of (by rw [jA]) (by rw [jB])
  · exact h.ta.of (by rw [tA' 1 (by omega)]) (tA' 2 (by omega)) (by rw [tA' 0 (by omega)]) (tB 81 (by omega)) (by rw [t44]) (by rw [t44]) (by rw [t44])
  · exact h.wl.of (tA' 13 (by omega))
end TOLD
