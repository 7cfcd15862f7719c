/-! Orders are done alike: a turn, a day, days. -/
section TURN
variable {A A' B B' : MM} {ns nc g e r n D S X c : Nat}
theorem rIn.mono {X' : Nat} (h : rIn ns nc g e r n D S X A B) (hX : X ≤ X') : rIn ns nc g e r n D S X' A B := by
  refine ⟨h.1, ⟨h.da, h.db, h.dl, ?_⟩, h.2.2⟩
  have := h.bx
  omega
theorem v60 {t k : Nat} (hc : c < 12) (ht : t < 12) (hk : k < 5) : cl (5 * (12 * nI c + nI t) + nI k) = 60 * c + 5 * t + k := by
  rw [show (5 : Int32) = nI 5 from rfl, show (12 : Int32) = nI 12 from rfl, pk_mul, nI_add, pk_mul, nI_add, show cl (nI _) = _ from nI_clamp (by omega)]
  omega
theorem v60' {t : Nat} (hc : c < 12) (ht : t < 12) : cl (5 * (12 * nI c + nI t)) = 60 * c + 5 * t := by
  rw [show (5 : Int32) = nI 5 from rfl, show (12 : Int32) = nI 12 from rfl, pk_mul, nI_add, pk_mul, show cl (nI _) = _ from nI_clamp (by omega)]
  omega
theorem holds_eq (h : rIn ns nc g e r n D S X A B) (hc : c < nc) {t : Nat} (ht : t < 12) {w : Row} (ok : rowOk w) (ra : rowA A c t w) (rm : rowM B (60 * c + 5 * t) w) : cHoldsB A c (nI t) = mHoldsB ns B (nI c) (5 * (12 * nI c + nI t)) := by
  have hn := h.wc.lc
  have hns := h.wc.ls
  have et : cl (nI t) = t := nI_clamp (by omega)
  have o2 : cl (5 * (12 * nI c + nI t) + 2) = 60 * c + 5 * t + 2 := v60 (k := 2) (by omega) ht (by decide)
  have o3 : cl (5 * (12 * nI c + nI t) + 3) = 60 * c + 5 * t + 3 := v60 (k := 3) (by omega) ht (by decide)
  have o4 : cl (5 * (12 * nI c + nI t) + 4) = 60 * c + 5 * t + 4 := v60 (k := 4) (by omega) ht (by decide)
  obtain ⟨a17, a18, -, -⟩ := ra
  obtain ⟨-, -, b2, b3⟩ := rm
  unfold cHoldsB mHoldsB
  rw [et, o2, o3, o4, a17]
  by_cases z : w.1.1 = 0
  · rw [if_pos z, b2 z, if_neg (by decide)]
  · obtain ⟨x18, x19⟩ := a18 z
    obtain ⟨y2, y3, y4⟩ := b3 z
    obtain ⟨m, hm, em⟩ := ok.2.2.2 z
    rw [if_neg z, y2, y3, y4, x18, x19, em, if_pos (nI_pos' (by omega)), h.wc.n5]
    by_cases q : m < ns
    · have q' : 0 ≤ nI m ∧ nI m < nI ns := ⟨nI_pos' (by omega), nI_lt q (by omega)⟩
      rw [if_pos q', if_pos q', show cl (nI m) = m from nI_clamp (by omega), (v144 (c := c) (k := m) (by omega) (by omega) rfl rfl).2]
      obtain ⟨k1, k2⟩ := h.kn.1 c m hc (by omega)
      rw [← k1]
      rcases k2 with ⟨k2, -⟩ | ⟨k2, k3⟩
      · rw [if_pos k2, if_neg (by rw [k2]; decide)]
      · rw [if_neg (fun y => by rw [y] at k2; exact absurd k2 (by decide)), if_pos k2, k3]
        by_cases p : w.1.1 = 1
        · rw [if_pos p, if_pos p, if_neg (by decide)]
        · rw [if_neg p, if_neg p, if_pos rfl]
    · have q' : ¬ (0 ≤ nI m ∧ nI m < nI ns) := fun y => q ((nI_ltI (by omega) (by omega)).mp y.2)
      rw [if_neg q', if_neg q']
theorem rIn.acts (h : rIn ns nc g e r n D S X A B) (hc : c < nc) {k w : Nat} (hk : k < 4) (hw : w < 1000000) (h3 : k = 3 → nI w ≤ 1) (hX : X + 4000 < 2 ^ 32) : ∃ e' S', e ≤ e' ∧ rIn ns nc g e' r n D S' (X + 2000) (cAct A c (nI k) (nI w)) (mActs ns g (nI c) (nI k) (nI w) B) := by
  have hn := h.wc.lc
  have hns := h.wc.ls
  have ec : cl (nI c) = c := nI_clamp (by omega)
  have ew : cl (nI w) = w := nI_clamp (by omega)
  obtain ⟨s, hs, e6⟩ := h.wc.at hc
  have q6 := (h.ca.2.1 c hc).2.2.2.2.2.1
  have es : cl (A.1 15 c 6) = s := by rw [e6]; exact nI_clamp (by omega)
  have e59 : B.1 59 0 c = nI s := by rw [← q6]; exact e6
  have es' : cl (nI s) = s := nI_clamp (by omega)
  have e0 := (h.st.1 s hs).1
  unfold mActs
  rw [ec, e59, es']
  have hk4 : k = 0 ∨ k = 1 ∨ k = 2 ∨ k = 3 := by omega
  rcases hk4 with rfl | rfl | rfl | rfl
  · show ∃ e' S', e ≤ e' ∧ rIn ns nc g e' r n D S' (X + 2000) (cSet A c (nI w)) _
    unfold cSet
    rw [h.wc.n5, ew]
    have d1 : ¬ (nI 0 = 1 ∧ B.1 45 0 s = 1) := fun y => absurd y.1 (by decide)
    have d2 : ¬ (nI 0 = 2 ∧ B.1 45 0 s = 3) := fun y => absurd y.1 (by decide)
    by_cases q : w < ns
    · have q' : 0 ≤ nI w ∧ nI w < nI ns := ⟨nI_pos' (by omega), nI_lt q (by omega)⟩
      rw [if_pos q', es]
      have e32 : A.1 32 s w = mWayF B (nI s) (nI w) g 0 := h.sg'.1 s w (by omega) (by omega)
      by_cases z : A.1 32 s w ≤ 0
      · rw [if_pos z, if_neg (fun y => y.2.2.2 (by rw [← e32]; exact z)), if_neg d1, if_neg d2]
        exact ⟨e, S, Nat.le_refl _, h.mono (by omega)⟩
      · have hne : ¬ nI w = nI s := fun y => z (by rw [e32, y, way_self g 0 (fun j _ hj => (h.sg'.2 j (by omega)).2)]; decide)
        rw [if_neg z, if_pos ⟨rfl, q', hne, by rw [← e32]; exact z⟩]
        have := h.go hc q
        rw [es] at this
        exact ⟨e, S, Nat.le_refl _, this.mono (by omega)⟩
    · have q' : ¬ (0 ≤ nI w ∧ nI w < nI ns) := fun y => q ((nI_ltI (by omega) (by omega)).mp y.2)
      rw [if_neg q', if_neg (fun y => q' y.2.1), if_neg d1, if_neg d2]
      exact ⟨e, S, Nat.le_refl _, h.mono (by omega)⟩
  · show ∃ e' S', e ≤ e' ∧ rIn ns nc g e' r n D S' (X + 2000) (cLoad A c (nI w)) _
    unfold cLoad
    have d0 : ¬ (nI 1 = 0 ∧ (0 ≤ nI w ∧ nI w < nI ns) ∧ ¬ nI w = nI s ∧ ¬ mWayF B (nI s) (nI w) g 0 ≤ 0) := fun y => absurd y.1 (by decide)
    have d2 : ¬ (nI 1 = 2 ∧ B.1 45 0 s = 3) := fun y => absurd y.1 (by decide)
    rw [es, e0, if_neg d0]
    by_cases z : B.1 45 0 s = 1
    · rw [if_pos z, if_pos ⟨rfl, z⟩]
      exact ⟨e, S, Nat.le_refl _, h.load hc hw⟩
    · rw [if_neg z, if_neg (fun y => z y.2), if_neg d2]
      exact ⟨e, S, Nat.le_refl _, h.mono (by omega)⟩
  · show ∃ e' S', e ≤ e' ∧ rIn ns nc g e' r n D S' (X + 2000) (cSell A c (nI w)) _
    unfold cSell
    have d0 : ¬ (nI 2 = 0 ∧ (0 ≤ nI w ∧ nI w < nI ns) ∧ ¬ nI w = nI s ∧ ¬ mWayF B (nI s) (nI w) g 0 ≤ 0) := fun y => absurd y.1 (by decide)
    have d1 : ¬ (nI 2 = 1 ∧ B.1 45 0 s = 1) := fun y => absurd y.1 (by decide)
    rw [if_neg d0, if_neg d1]
    by_cases z : B.1 45 0 s = 3
    · have z' : A.1 13 (cl (A.1 15 c 6)) 0 = 3 := by rw [es, e0]; exact z
      rw [if_pos z', if_pos ⟨rfl, z⟩]
      exact h.sell hc z' hw hX
    · have z' : ¬ A.1 13 (cl (A.1 15 c 6)) 0 = 3 := by rw [es, e0]; exact z
      rw [if_neg z', if_neg (fun y => z y.2)]
      exact ⟨e, S, Nat.le_refl _, h.mono (by omega)⟩
  · show ∃ e' S', e ≤ e' ∧ rIn ns nc g e' r n D S' (X + 2000) (cStartWait A c (nI w)) _
    unfold cStartWait
    have d0 : ¬ (nI 3 = 0 ∧ (0 ≤ nI w ∧ nI w < nI ns) ∧ ¬ nI w = nI s ∧ ¬ mWayF B (nI s) (nI w) g 0 ≤ 0) := fun y => absurd y.1 (by decide)
    have d1 : ¬ (nI 3 = 1 ∧ B.1 45 0 s = 1) := fun y => absurd y.1 (by decide)
    have d2 : ¬ (nI 3 = 2 ∧ B.1 45 0 s = 3) := fun y => absurd y.1 (by decide)
    rw [if_pos (h3 rfl), if_neg d0, if_neg d1, if_neg d2]
    exact ⟨e, S, Nat.le_refl _, h.mono (by omega)⟩
theorem pos_pred {x : Int32} (h : 0 < x) : (0 < x - 1 ↔ ¬ x - 1 = 0) := by
  obtain ⟨j, hj, rfl⟩ := nI_of (Int32.not_lt.mpr (Int32.le_of_lt h))
  cases j with
  | zero => exact absurd h (by decide)
  | succ j =>
    rw [nI_pred]
    constructor
    · intro z y; rw [y] at z; exact absurd z (by decide)
    · intro z
      exact nI_lt (a := 0) (Nat.pos_of_ne_zero (fun y => z (by rw [y]; rfl))) (by omega)
theorem rIn.turn (h : rIn ns nc g e r n D S X A B) (hc : c < nc) (hX : X + 4000 < 2 ^ 32) : ∃ e' S', e ≤ e' ∧ rIn ns nc g e' r n D S' (X + 2000) (cOrd1 c A) (mTurn1 ns g (nI c) B) := by
  have hn := h.wc.lc
  have hns := h.wc.ls
  have ec : cl (nI c) = c := nI_clamp (by omega)
  obtain ⟨-, -, -, -, q5, -, -, -, -, q10, q11, q12⟩ := h.ca.2.1 c hc
  obtain ⟨t, ht, et⟩ := h.wm.tu hc
  have a10 : A.1 15 c 10 = nI t := q10.trans et
  have ect : cl (nI t) = t := nI_clamp (by omega)
  have same : ∃ e' S', e ≤ e' ∧ rIn ns nc g e' r n D S' (X + 2000) A B := ⟨e, S, Nat.le_refl _, h.mono (by omega)⟩
  unfold cOrd1 mTurn1
  rw [ec, ← q5]
  by_cases h5 : A.1 15 c 5 = 0
  · rw [if_pos h5, if_pos h5]
    unfold cOrder mTurns
    rw [ec, ← q11, ← q12, a10, et, ect, if_neg (nI_pos (by omega))]
    by_cases w0 : A.1 15 c 11 ≤ 0
    · rw [if_pos w0, if_pos w0]
      by_cases lt : nI t < A.1 16 c 0
      · rw [if_pos lt, if_pos lt]
        obtain ⟨l, hl, el, hr⟩ := h.or c hc
        have htl : t < l.length := by rw [el] at lt; exact (nI_ltI (by omega) (by omega)).mp lt
        have ht12 : t < 12 := by omega
        obtain ⟨ok, ra, rm⟩ := hr t htl
        have eh := holds_eq h hc ht12 ok ra rm
        have eh2 : cHoldsB (uI A 15 c 10 (nI t + 1)) c (nI t) = cHoldsB A c (nI t) := rfl
        have h1 : rIn ns nc g e r n D S X (uI A 15 c 10 (nI t + 1)) (uI B 63 0 c (nI t + 1)) := by
          refine h.tw hc (fun t i k q => ?_) rfl (fun t i k q => ?_) rfl ?_ ?_ ?_
          · rw [uI_1, if_neg (by omega)]
          · rw [uI_1, if_neg (by omega)]
          · have := h.wm.next (x := nI c) hc rfl (by rw [← q11]; exact w0) (by rw [et, ← q12]; exact lt)
            rw [ec, et] at this
            exact this
          · rw [uI_1, uI_1, if_pos ⟨rfl, rfl, rfl⟩, if_pos ⟨rfl, rfl, rfl⟩]
          · rw [uI_1, uI_1, if_neg (by omega), if_neg (by omega)]; exact q11
        rw [eh2, eh]
        by_cases z : mHoldsB ns B (nI c) (5 * (12 * nI c + nI t)) = true
        · rw [if_pos z, if_pos z, v60' (by omega) ht12]
          have o1 : cl (5 * (12 * nI c + nI t) + 1) = 60 * c + 5 * t + 1 := v60 (k := 1) (by omega) ht12 (by decide)
          rw [o1, rm.1, ra.2.2.1]
          obtain ⟨k, hk, ek⟩ := ok.2.1
          rw [ek]
          by_cases k4 : k = 4
          · subst k4
            rw [if_pos (show nI 4 = 4 from rfl)]
            show ∃ e' S', e ≤ e' ∧ rIn ns nc g e' r n D S' (X + 2000) (uI (uI A 15 c 10 (nI t + 1)) 15 c 10 0) _
            refine ⟨e, S, Nat.le_refl _, rIn.mono (X := X) ?_ (Nat.le_add_right X 2000)⟩
            refine h.tw hc (fun t i k q => ?_) rfl (fun t i k q => ?_) rfl ?_ ?_ ?_
            · rw [uI_1, if_neg (by omega), uI_1, if_neg (by omega)]
            · rw [uI_1, if_neg (by omega)]
            · have := h.wm.tw (M' := uI B 63 0 c 0) (c := c) (fun t k q => by rw [uI_1, if_neg (by omega)]) ⟨0, by omega, up3_self⟩ (fun q => by
                have e64 : (uI B 63 0 c 0).1 64 0 c = B.1 64 0 c := by rw [uI_1, if_neg (by omega)]
                rw [e64, ← q11] at q
                exact absurd q (Int32.not_lt.mpr w0))
              exact this
            · rw [uI_1, if_pos ⟨rfl, rfl, rfl⟩, uI_1, if_pos ⟨rfl, rfl, rfl⟩]
            · rw [uI_1, uI_1, uI_1, if_neg (by omega), if_neg (by omega), if_neg (by omega)]; exact q11
          · have hn4 : ¬ nI k = 4 := fun y => k4 ((nI_eq (b := 4) (by omega) (by decide)).mp y)
            have hn4' : ¬ l[t].2.1 = 4 := by rw [ek]; exact hn4
            obtain ⟨v, hv, ev⟩ := ok.2.2.1 hn4'
            rw [if_neg hn4, rm.2.1 hn4', ra.2.2.2 hn4', ev]
            by_cases k3 : k = 3 ∧ ¬ nI v ≤ 1
            · obtain ⟨rfl, k3⟩ := k3
              rw [if_pos ⟨show nI 3 = 3 from rfl, k3⟩]
              show ∃ e' S', e ≤ e' ∧ rIn ns nc g e' r n D S' (X + 2000) (cStartWait (uI A 15 c 10 (nI t + 1)) c (nI v)) _
              unfold cStartWait
              rw [if_neg k3]
              have e1 : (uI A 15 c 10 (nI t + 1)).1 15 c 10 - 1 = nI t := by rw [uI_1, if_pos ⟨rfl, rfl, rfl⟩, nI_1, nI_pred]
              rw [e1]
              refine ⟨e, S, Nat.le_refl _, rIn.mono (X := X) ?_ (Nat.le_add_right X 2000)⟩
              refine h.tw hc (fun t i k q => ?_) rfl (fun t i k q => ?_) rfl ?_ ?_ ?_
              · rw [uI_1, if_neg (by omega), uI_1, if_neg (by omega), uI_1, if_neg (by omega)]
              · rw [uI_1, if_neg (by omega)]
              · refine h.wm.tw (c := c) (fun t k q => by rw [uI_1, if_neg (by omega)]) ⟨t, ht, ?_⟩ (fun _ => ?_)
                · rw [uI_1, if_neg (by omega)]; exact et
                · rw [uI_1, if_neg (by omega), et, ← q12]; exact lt
              · rw [uI_1, if_pos ⟨rfl, rfl, rfl⟩, uI_1, if_neg (by omega)]; exact et.symm
              · rw [uI_1, if_neg (by omega), uI_1, if_pos ⟨rfl, rfl, rfl⟩, uI_1, if_pos ⟨rfl, rfl, rfl⟩]
            · have k3' : ¬ (nI k = 3 ∧ ¬ nI v ≤ 1) := fun y => k3 ⟨(nI_eq (b := 3) (by omega) (by decide)).mp y.1, y.2⟩
              rw [if_neg k3']
              exact h1.acts hc (k := k) (w := v) (by omega) hv (fun y => Decidable.byContradiction (fun x => k3 ⟨y, x⟩)) hX
        · rw [if_neg z, if_neg z]
          exact ⟨e, S, Nat.le_refl _, h1.mono (by omega)⟩
      · rw [if_neg lt, if_neg lt]
        exact same
    · rw [if_neg w0, if_neg w0]
      have hp : 0 < A.1 15 c 11 := Int32.not_le.mp w0
      have hlt : B.1 63 0 c < B.1 68 0 c := h.wm.wt hc (by rw [← q11]; exact hp)
      rw [et, ← q12] at hlt
      have ht12 : t < 12 := by
        have := Int32.lt_of_lt_of_le hlt (h.wc.oc hc)
        exact (nI_ltI (b := 12) (by omega) (by decide)).mp this
      rw [if_pos hlt]
      unfold cWaitOn
      rw [a10]
      have hpp := pos_pred hp
      by_cases z : A.1 15 c 11 - 1 = 0
      · rw [if_pos z, if_neg (fun y => hpp.mp y z)]
        refine ⟨e, S, Nat.le_refl _, rIn.mono (X := X) ?_ (Nat.le_add_right X 2000)⟩
        refine h.tw hc (fun t i k q => ?_) rfl (fun t i k q => ?_) rfl ?_ ?_ ?_
        · rw [uI_1, if_neg (by omega), uI_1, if_neg (by omega)]
        · rw [uI_1, if_neg (by omega), uI_1, if_neg (by omega)]
        · refine h.wm.tw (c := c) (fun t k q => by rw [uI_1, if_neg (by omega), uI_1, if_neg (by omega)]) ⟨t + 1, by omega, ?_⟩ (fun q => ?_)
          · rw [nI_1]; exact up3_self
          · rw [uI_1, if_neg (by omega), uI_1, if_pos ⟨rfl, rfl, rfl⟩, z] at q
            exact absurd q (by decide)
        · rw [uI_1, if_pos ⟨rfl, rfl, rfl⟩, uI_1, if_pos ⟨rfl, rfl, rfl⟩]
        · rw [uI_1, if_neg (by omega), uI_1, if_pos ⟨rfl, rfl, rfl⟩, uI_1, if_neg (by omega), uI_1, if_pos ⟨rfl, rfl, rfl⟩]
      · rw [if_neg z, if_pos (hpp.mpr z)]
        refine ⟨e, S, Nat.le_refl _, rIn.mono (X := X) ?_ (Nat.le_add_right X 2000)⟩
        refine h.tw hc (fun t i k q => ?_) rfl (fun t i k q => ?_) rfl ?_ ?_ ?_
        · rw [uI_1, if_neg (by omega)]
        · rw [uI_1, if_neg (by omega)]
        · refine h.wm.tw (c := c) (fun t k q => by rw [uI_1, if_neg (by omega)]) ⟨t, ht, ?_⟩ (fun _ => ?_)
          · rw [uI_1, if_neg (by omega)]; exact et
          · rw [uI_1, if_neg (by omega), et, ← q12]; exact hlt
        · rw [uI_1, if_neg (by omega), uI_1, if_neg (by omega)]; exact q10
        · rw [uI_1, if_pos ⟨rfl, rfl, rfl⟩, uI_1, if_pos ⟨rfl, rfl, rfl⟩]
  · rw [if_neg h5, if_neg h5]
    exact same
theorem rIn.d7 (h : rIn ns nc g e r n D S X A B) (hX : X + 30000 < 2 ^ 32) : ∀ k, k ≤ nc → ∃ e' S', e ≤ e' ∧ rIn ns nc g e' r n D S' (X + 2000 * k) (cD7 k A) (mD7 ns g k B)
  | 0, _ => ⟨e, S, Nat.le_refl _, h⟩
  | k + 1, hk => by
    have hn := h.wc.lc
    obtain ⟨e1, S1, he1, h1⟩ := rIn.d7 h hX k (by omega)
    obtain ⟨e2, S2, he2, h2⟩ := h1.turn (c := k) (by omega) (by omega)
    refine ⟨e2, S2, by omega, ?_⟩
    rw [show X + 2000 * (k + 1) = X + 2000 * k + 2000 by omega]
    exact h2
/-- a day passes alike -/
theorem rIn.day (h : rIn ns nc g e r n D S (24000 * D) A B) (hD : D + 1 ≤ 102400) : ∃ e' S', e ≤ e' ∧ rIn ns nc g e' r n (D + 1) S' (24000 * (D + 1)) (cDay ns nc A) (mDay ns nc g B) := by
  have hn := h.wc.lc
  have h1 := h.d1 hD
  have h2 := h1.d2 (by omega)
  obtain ⟨e3, he3, h3⟩ := h2.d3 nc (Nat.le_refl _)
  have hk : ∀ c m, c < nc → m < 12 → (cD3 nc (cD2 ns (cD1 A))).1 29 c m < (cD3 nc (cD2 ns (cD1 A))).1 0 0 13 := fun c m hc hm => by
    have f3 : Fe pT (cD2 ns (cD1 A)) (cD3 nc (cD2 ns (cD1 A))) := Fe.rep (fun i M => by
      unfold cTrav1; split
      · exact fe_travel
      · exact Fe.rfl') nc _
    have f2 : Fe (fun t k => t = 13 ∧ (k = 4 ∨ k = 7)) (cD1 A) (cD2 ns (cD1 A)) := Fe.rep (fun i M => (Fe.rfl'.u (by omega)).u (by omega)) ns _
    rw [f3 29 c m (by unfold pT; omega), f2 29 c m (by omega), h3.da]
    show A.1 29 c m < _
    obtain ⟨k1, k2⟩ := h.kn.1 c m hc hm
    rcases k2 with ⟨k2, -⟩ | ⟨k2, -⟩
    · rw [k2]
      exact Int32.lt_of_lt_of_le (show (-1 : Int32) < 0 by decide) (nI_pos' (by omega))
    · obtain ⟨f, hf⟩ := h.kn.2.2
      have := (hf c m hc hm k2).2
      rw [h.da] at this
      exact Int32.lt_of_le_of_lt this (nI_lt (by omega) (by omega))
  have h4 := h3.d4 hk
  have h5 := h4.d5
  have h6 := h5.d6
  obtain ⟨e7, S7, he7, h7⟩ := h6.d7 (by omega) nc (Nat.le_refl _)
  exact ⟨e7, S7, by omega, h7.mono (by omega)⟩
/-- days pass alike -/
theorem rIn.days (h : rIn ns nc g e r n D S (24000 * D) A B) : ∀ k, D + k ≤ 102400 → ∃ e' S', e ≤ e' ∧ rIn ns nc g e' r n (D + k) S' (24000 * (D + k)) (cDays ns nc k A) (mDays ns nc g k B)
  | 0, _ => ⟨e, S, Nat.le_refl _, h⟩
  | k + 1, hk => by
    obtain ⟨e1, S1, he1, h1⟩ := rIn.days h k (by omega)
    obtain ⟨e2, S2, he2, h2⟩ := h1.day (by omega)
    exact ⟨e2, S2, by omega, h2⟩
end TURN
