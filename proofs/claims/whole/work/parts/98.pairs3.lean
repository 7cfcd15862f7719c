/-! Pairs of calls: orders and contracts. -/
section PAI3
variable {Γ : GG} {M A B : MM} {Q : Out → Mem → Prop} {k ns nc g e r n D S X : Nat}
/-- behind a text: what agreed agrees, the tape is empty -/
theorem tape_in (h : rIn ns nc g e r n D S X M M) (fa : ∀ t i q, t ≠ 1 → ¬ (3 ≤ t ∧ t ≤ 11) → ¬ (t = 0 ∧ q = 3) → t < 44 → A.1 t i q = M.1 t i q) (j0 : A.2 0 = M.2 0) (j43 : A.2 43 = M.2 43) (a1 : A.1 1 0 1 = 0)
    (fb : ∀ t i q, 44 ≤ t → ¬ (t = 44 ∧ (q = 0 ∨ q = 44 ∨ (46 ≤ q ∧ q ≤ 49))) → ¬ (t = 67 ∧ 720 ≤ q) → t ≠ 71 → B.1 t i q = M.1 t i q) (jb : B.2 79 = M.2 79) (b44 : B.1 44 0 44 = 0) (bf : A.1 0 0 3 = B.1 44 0 49) (bq : ∃ q, q ≤ 400 ∧ B.1 44 0 48 = nI q) : rIn ns nc g e r 0 D S X A B := by
  have ta : ∀ t, t ≠ 0 → t ≠ 1 → ¬ (3 ≤ t ∧ t ≤ 11) → t < 44 → A.1 t = M.1 t := fun t x0 x1 x2 x3 => funext fun i => funext fun q => fa t i q x1 x2 (by omega) x3
  have tb : ∀ t, 45 ≤ t → t ≠ 67 → t ≠ 71 → B.1 t = M.1 t := fun t x0 x1 x2 => funext fun i => funext fun q => fb t i q (by omega) (by omega) (by omega) x2
  refine h.tape (fun t ht => ta t (by omega) (by omega) (by omega) (by omega)) (fun q hq => fa 0 0 q (by decide) (by omega) (by omega) (by decide)) j0 j43 (fun t ht => tb t (by omega) (by omega) (by omega)) (fun q hq => fb 67 0 q (by decide) (by omega) (by omega) (by decide)) (fun q hq => fb 44 0 q (by decide) (by omega) (by omega) (by decide)) jb ⟨by decide, a1, b44, ?_, bf, bq⟩
  rw [ta 2 (by decide) (by decide) (by decide) (by decide), tb 81 (by decide) (by decide) (by decide)]
  exact h.ta.2.2.2.1
theorem pair_orders (hJ : Jn k M) {x : Int32} : PairI Γ M_L_orders M_X7_orders [vr 0 0, vi x, vr 84 0] [vr 44 0, vi x] k M := by
  obtain ⟨ns, nc, g, e, r, n, D, S, h, hD⟩ := hJ
  have hnc := h.wc.lc
  obtain ⟨hn, t1, t2, t3, t4, q0, hq0, t5⟩ := h.ta
  intro Q' hQ
  refine gh_orders h.wc hn t1 rfl (fun N z f => hQ 1 _ (fun Q2 h2 => ?_)) (fun N e1 z el f => hQ 2 _ (fun Q2 h2 => ?_)) (fun N l z el f hl n3 rows => hQ 0 _ (fun Q2 h2 => ?_))
  · have c44 : ∀ t, 12 ≤ t → (uI N 1 0 1 0).1 t = M.1 t := fun t ht => (uI_t (by omega)).trans (f.fe.tag (fun _ => by unfold pScr; omega))
    refine go_morders (M := uI N 1 0 1 0) (by rw [c44 44 (by decide)]; exact h.wm.n26) hnc hn (by rw [c44 44 (by decide)]; exact t2) hq0 (by rw [c44 44 (by decide)]; exact t5) (by rw [c44 81 (by decide)]) (fun _ => h2 0 _ ?_ rfl (no1 (by decide))) (fun _ _ _ y => absurd y z) (fun _ _ _ _ y => absurd y z)
    have fN : ∀ t i q, ¬ (t = 1 ∧ (q = 1 ∨ q = 2)) → ¬ (3 ≤ t ∧ t ≤ 11) → ¬ (t = 44 ∧ (q = 0 ∨ q = 44 ∨ q = 47)) → (uI (mUses (uI N 1 0 1 0)) 44 0 0 1).1 t i q = M.1 t i q := fun t i q x1 x2 x3 => by
      unfold mUses
      rw [uI_1, if_neg (by omega), uI_1, if_neg (by omega), uI_1, if_neg (by omega), uI_1, if_neg (by omega), uI_1, if_neg (by omega), f.2 t i q (by unfold pScr; omega)]
    have jN : (uI (mUses (uI N 1 0 1 0)) 44 0 0 1).2 = M.2 := f.1
    refine ⟨ns, nc, g, e, r, 0, D, S, tape_in h (fun t i q x1 x2 x3 x4 => fN t i q (by omega) x2 (by omega)) (by rw [jN]) (by rw [jN]) rfl (fun t i q x1 x2 x3 x4 => fN t i q (by omega) (by omega) (by omega)) (by rw [jN]) rfl ?_ ?_, by omega⟩
    · rw [fN 0 0 3 (by omega) (by omega) (by omega), fN 44 0 49 (by omega) (by omega) (by omega)]; exact t4
    · rw [fN 44 0 48 (by omega) (by omega) (by omega)]; exact ⟨q0, hq0, t5⟩
  · have c44 : ∀ t, 12 ≤ t → (uI (uI N 1 0 1 0) 0 0 3 (nI e1)).1 t = M.1 t := fun t ht => (uI_t (by omega)).trans ((uI_t (by omega)).trans (f.fe.tag (fun _ => by unfold pScr; omega)))
    rw [t3] at el
    refine go_morders (M := uI (uI N 1 0 1 0) 0 0 3 (nI e1)) (b := M.1 81 0) (by rw [c44 44 (by decide)]; exact h.wm.n26) hnc hn (by rw [c44 44 (by decide)]; exact t2) hq0 (by rw [c44 44 (by decide)]; exact t5) (by rw [c44 81 (by decide)]) (fun y => absurd z y) (fun e2 r2 N2 _ el2 f2 hT => ?_) (fun _ _ _ _ _ y => by rw [el] at y; cases y)
    rw [el] at el2
    cases el2
    refine h2 0 _ ?_ rfl (no1 (by decide))
    have fN : ∀ t i q, ¬ (t = 1 ∧ (q = 1 ∨ q = 2)) → ¬ (3 ≤ t ∧ t ≤ 11) → ¬ (t = 0 ∧ q = 3) → ¬ (t = 44 ∧ (q = 0 ∨ q = 44 ∨ (46 ≤ q ∧ q ≤ 49))) → ¬ (t = 67 ∧ 720 ≤ q) → (uI (uI N2 44 0 49 (nI e1)) 44 0 0 2).1 t i q = M.1 t i q := fun t i q x1 x2 x0 x3 x4 => by
      rw [uI_1, if_neg (by omega), uI_1, if_neg (by omega), f2.2 t i q (by unfold pOS; omega)]
      unfold mUses
      rw [uI_1, if_neg (by omega), uI_1, if_neg (by omega), uI_1, if_neg (by omega), uI_1, if_neg (by omega), uI_1, if_neg (by omega), f.2 t i q (by unfold pScr; omega)]
    have jN : (uI (uI N2 44 0 49 (nI e1)) 44 0 0 2).2 = M.2 := by
      show N2.2 = _
      rw [f2.1]; exact f.1
    have o1 : ∀ t i q, ¬ pOS t q → t ≠ 44 → N2.1 t i q = (uI (uI N 1 0 1 0) 0 0 3 (nI e1)).1 t i q := fun t i q x1 x2 => by
      rw [f2.2 t i q x1]; unfold mUses
      rw [uI_1, if_neg (by omega), uI_1, if_neg (by omega), uI_1, if_neg (by omega)]
    refine ⟨ns, nc, g, e, r, 0, D, S, tape_in h (fun t i q x1 x2 x3 x4 => fN t i q (by omega) x2 x3 (by omega) (by omega)) (by rw [jN]) (by rw [jN]) ?_ (fun t i q x1 x2 x3 x4 => fN t i q (by omega) (by omega) (by omega) x2 x3) (by rw [jN]) ?_ ?_ ?_, by omega⟩
    · show N2.1 1 0 1 = 0
      rw [o1 1 0 1 (by unfold pOS; omega) (by decide)]
      rfl
    · show N2.1 44 0 44 = 0
      rw [f2.2 44 0 44 (by unfold pOS; omega)]
      rfl
    · show N2.1 0 0 3 = nI e1
      rw [o1 0 0 3 (by unfold pOS; omega) (by decide)]
      rfl
    · obtain ⟨-, -, x3, -, -, x6⟩ := hT
      exact ⟨e1, x3, x6⟩
  · obtain ⟨c, hc, rfl, ecc⟩ := in_nat (by omega) z
    rw [ecc]
    have hok := aList_ok _ _ _ el
    rw [t3] at el
    generalize hv : (nI l.length).toInt64 = v
    have fcA : FC N (cTakeO (uI (uI N 1 0 1 0) 0 0 3 (-1)) c) := by
      unfold cTakeO cCopyO
      exact (((((((((FC.rfl'.u (by decide)).u (by decide)).u (by decide)).c (by decide)).c (by decide)).c (by decide)).c (by decide)).c (by decide)).u (by decide)).u (by decide)
    have fcM : FC M N := FC.fr f (fun t q hp => by unfold pScr at hp; omega)
    have c44 : ∀ t, 44 ≤ t → (oJ (cTakeO (uI (uI N 1 0 1 0) 0 0 3 (-1)) c) v).1 t = M.1 t := fun t ht => (fcA.1 t ht).trans (fcM.1 t ht)
    refine go_morders (M := oJ (cTakeO (uI (uI N 1 0 1 0) 0 0 3 (-1)) c) v) (b := M.1 81 0) (by rw [c44 44 (by decide)]; exact h.wm.n26) hnc hn (by rw [c44 44 (by decide)]; exact t2) hq0 (by rw [c44 44 (by decide)]; exact t5) (by rw [c44 81 (by decide)]) (fun y => absurd z y) (fun _ _ _ _ y => by rw [el] at y; cases y) (fun l2 r2 e2 N2 _ el2 f2 hT hl2 rows2 => ?_)
    rw [el] at el2
    cases el2
    have hIn : rIn ns nc g e r 0 D S (24000 * D) (uI (uI N 1 0 1 0) 0 0 3 (-1)) (uI N2 44 0 49 (-1)) := by
      refine tape_in h (fun t i q x1 x2 x3 x4 => ?_) (by show N.2 0 = _; rw [f.1]) (by show N.2 43 = _; rw [f.1]) rfl (fun t i q x1 x2 x3 x4 => ?_) ?_ ?_ rfl ?_
      · rw [uI_1, if_neg (by omega), uI_1, if_neg (by omega), f.2 t i q (by unfold pScr; omega)]
      · rw [uI_1, if_neg (by omega), f2.2 t i q (by unfold pOS; omega)]
        unfold mUses
        rw [uI_1, if_neg (by omega), uI_1, if_neg (by omega), uI_1, if_neg (by omega), c44 t x1]
      · show N2.2 79 = _
        rw [f2.1]
        show (oJ (cTakeO (uI (uI N 1 0 1 0) 0 0 3 (-1)) c) v).2 79 = _
        unfold oJ
        rw [uJ_t (by decide)]
        exact (fcA.2 79 (by decide)).trans (fcM.2 79 (by decide))
      · show N2.1 44 0 44 = 0
        rw [f2.2 44 0 44 (by unfold pOS; omega)]
        rfl
      · obtain ⟨-, -, x3, -, -, x6⟩ := hT
        exact ⟨e2, x3, x6⟩
    have hR := hIn.orders hc hl hok (by rw [uI_1, if_neg (by omega), uI_1, if_neg (by omega)]; exact n3) (fun j hj => by
      obtain ⟨q1, q2, q3, q4⟩ := rows j hj
      exact ⟨q1, q2, q3, q4⟩) (fun i hi => (rows2 i hi).mv (fun q hq => rfl))
    obtain ⟨tB, -, -, -, -, jB⟩ := mTakeO_at (c := c) (by omega) (uI N2 44 0 49 (-1)) hl
    have fm1 : FM (oJ (cTakeO (uI (uI N 1 0 1 0) 0 0 3 (-1)) c) v) N2 := FM.trans (by unfold mUses; exact ((FM.rfl'.u (by decide)).u (by decide)).u (by decide)) (FM.fr f2 (fun t q hp => by unfold pOS at hp; omega))
    refine h2 _ _ (jn_st hR (by omega) ((ec_oJ (x := v)).trans (FM.eqC (FM.trans fm1 ?_)))) ?_ (fun _ => ?_)
    · refine ⟨fun t ht => (tB t (by omega) (by omega) (by omega) (by omega)).trans (uI_t (by omega)), fun t ht => by rw [jB]; rfl⟩
    · rw [tB 44 (by decide) (by decide) (by decide) (by decide)]
      show N2.1 44 0 0 = 0
      rw [f2.2 44 0 0 (by unfold pOS; omega)]
      rfl
    · rw [jB]
      show N2.2 84 0 0 = _
      rw [f2.1, hv]
      rfl
theorem pair_contract (hJ : Jn k M) {x : Int32} : PairI Γ M_L_contract M_X7_contract [vr 0 0, vi x, vr 84 0] [vr 44 0, vi x] k M := by
  obtain ⟨ns, nc, g, e, r, n, D, S, h, hD⟩ := hJ
  have hnc := h.wc.lc
  obtain ⟨hn, t1, t2, t3, t4, q0, hq0, t5⟩ := h.ta
  intro Q' hQ
  refine gh_contract h.wc hn t1 rfl (fun N z f => hQ 1 _ (fun Q2 h2 => ?_)) (fun N e1 z el f => hQ 2 _ (fun Q2 h2 => ?_)) (fun N l s z el f hl3 dCN n4 n5 => hQ 0 _ (fun Q2 h2 => ?_))
  · have c44 : ∀ t, 12 ≤ t → (uI N 1 0 1 0).1 t = M.1 t := fun t ht => (uI_t (by omega)).trans (f.fe.tag (fun _ => by unfold pScr; omega))
    refine go_mcontract (M := uI N 1 0 1 0) (by rw [c44 44 (by decide)]; exact h.wm.n26) hnc hn (by rw [c44 44 (by decide)]; exact t2) hq0 (by rw [c44 44 (by decide)]; exact t5) (by rw [c44 81 (by decide)]) (fun _ => h2 0 _ ?_ rfl (no1 (by decide))) (fun _ _ _ y => absurd y z) (fun _ _ _ _ _ y => absurd y z)
    have fN : ∀ t i q, ¬ (t = 1 ∧ (q = 1 ∨ q = 2)) → ¬ (3 ≤ t ∧ t ≤ 11) → ¬ (t = 44 ∧ (q = 0 ∨ q = 44 ∨ q = 47)) → (uI (mUses (uI N 1 0 1 0)) 44 0 0 1).1 t i q = M.1 t i q := fun t i q x1 x2 x3 => by
      unfold mUses
      rw [uI_1, if_neg (by omega), uI_1, if_neg (by omega), uI_1, if_neg (by omega), uI_1, if_neg (by omega), uI_1, if_neg (by omega), f.2 t i q (by unfold pScr; omega)]
    have jN : (uI (mUses (uI N 1 0 1 0)) 44 0 0 1).2 = M.2 := f.1
    refine ⟨ns, nc, g, e, r, 0, D, S, tape_in h (fun t i q x1 x2 x3 x4 => fN t i q (by omega) x2 (by omega)) (by rw [jN]) (by rw [jN]) rfl (fun t i q x1 x2 x3 x4 => fN t i q (by omega) (by omega) (by omega)) (by rw [jN]) rfl ?_ ?_, by omega⟩
    · rw [fN 0 0 3 (by omega) (by omega) (by omega), fN 44 0 49 (by omega) (by omega) (by omega)]; exact t4
    · rw [fN 44 0 48 (by omega) (by omega) (by omega)]; exact ⟨q0, hq0, t5⟩
  · have c44 : ∀ t, 12 ≤ t → (uI (uI N 1 0 1 0) 0 0 3 (nI e1)).1 t = M.1 t := fun t ht => (uI_t (by omega)).trans ((uI_t (by omega)).trans (f.fe.tag (fun _ => by unfold pScr; omega)))
    rw [t3] at el
    refine go_mcontract (M := uI (uI N 1 0 1 0) 0 0 3 (nI e1)) (b := M.1 81 0) (by rw [c44 44 (by decide)]; exact h.wm.n26) hnc hn (by rw [c44 44 (by decide)]; exact t2) hq0 (by rw [c44 44 (by decide)]; exact t5) (by rw [c44 81 (by decide)]) (fun y => absurd z y) (fun e2 r2 N2 _ el2 f2 hT => ?_) (fun _ _ _ _ _ _ y => by rw [el] at y; cases y)
    rw [el] at el2
    cases el2
    refine h2 0 _ ?_ rfl (no1 (by decide))
    have fN : ∀ t i q, ¬ (t = 1 ∧ (q = 1 ∨ q = 2)) → ¬ (3 ≤ t ∧ t ≤ 11) → ¬ (t = 0 ∧ q = 3) → ¬ (t = 44 ∧ (q = 0 ∨ q = 44 ∨ (46 ≤ q ∧ q ≤ 49))) → t ≠ 71 → (uI (uI N2 44 0 49 (nI e1)) 44 0 0 2).1 t i q = M.1 t i q := fun t i q x1 x2 x0 x3 x4 => by
      rw [uI_1, if_neg (by omega), uI_1, if_neg (by omega), f2.2 t i q (by unfold pDS; omega)]
      unfold mUses
      rw [uI_1, if_neg (by omega), uI_1, if_neg (by omega), uI_1, if_neg (by omega), uI_1, if_neg (by omega), uI_1, if_neg (by omega), f.2 t i q (by unfold pScr; omega)]
    have jN : (uI (uI N2 44 0 49 (nI e1)) 44 0 0 2).2 = M.2 := by
      show N2.2 = _
      rw [f2.1]; exact f.1
    have o1 : ∀ t i q, ¬ pDS t q → t ≠ 44 → N2.1 t i q = (uI (uI N 1 0 1 0) 0 0 3 (nI e1)).1 t i q := fun t i q x1 x2 => by
      rw [f2.2 t i q x1]; unfold mUses
      rw [uI_1, if_neg (by omega), uI_1, if_neg (by omega), uI_1, if_neg (by omega)]
    refine ⟨ns, nc, g, e, r, 0, D, S, tape_in h (fun t i q x1 x2 x3 x4 => fN t i q (by omega) x2 x3 (by omega) (by omega)) (by rw [jN]) (by rw [jN]) ?_ (fun t i q x1 x2 x3 x4 => fN t i q (by omega) (by omega) (by omega) x2 x4) (by rw [jN]) ?_ ?_ ?_, by omega⟩
    · show N2.1 1 0 1 = 0
      rw [o1 1 0 1 (by unfold pDS; omega) (by decide)]
      rfl
    · show N2.1 44 0 44 = 0
      rw [f2.2 44 0 44 (by unfold pDS; omega)]
      rfl
    · show N2.1 0 0 3 = nI e1
      rw [o1 0 0 3 (by unfold pDS; omega) (by decide)]
      rfl
    · obtain ⟨-, -, x3, -, -, x6⟩ := hT
      exact ⟨e1, x3, x6⟩
  · obtain ⟨c, hc, rfl, ecc⟩ := in_nat (by omega) z
    rw [ecc]
    obtain ⟨num, hs, h1⟩ := aDeal_ok _ _ _ _ _ (fun i hi => absurd hi (Nat.not_lt_zero _)) el
    rw [t3] at el
    generalize hv : (nI l.length).toInt64 = v
    have fcA : FC N (cTold (uI (uI N 1 0 1 0) 0 0 3 (-1)) c) := by
      unfold cTold
      exact (((((((FC.rfl'.u (by decide)).u (by decide)).u (by decide)).u (by decide)).u (by decide)).u (by decide)).c (by decide)).c (by decide)
    have fcM : FC M N := FC.fr f (fun t q hp => by unfold pScr at hp; omega)
    have c44 : ∀ t, 44 ≤ t → (oJ (cTold (uI (uI N 1 0 1 0) 0 0 3 (-1)) c) v).1 t = M.1 t := fun t ht => (fcA.1 t ht).trans (fcM.1 t ht)
    refine go_mcontract (M := oJ (cTold (uI (uI N 1 0 1 0) 0 0 3 (-1)) c) v) (b := M.1 81 0) (by rw [c44 44 (by decide)]; exact h.wm.n26) hnc hn (by rw [c44 44 (by decide)]; exact t2) hq0 (by rw [c44 44 (by decide)]; exact t5) (by rw [c44 81 (by decide)]) (fun y => absurd z y) (fun _ _ _ _ y => by rw [el] at y; cases y) (fun l2 s2 e2 q2 N2 _ el2 f2 hT hl2 hsh dMN m0 m7 m8 hpos => ?_)
    rw [el] at el2
    cases el2
    have hIn : rIn ns nc g e r 0 D S (24000 * D) (uI (uI N 1 0 1 0) 0 0 3 (-1)) (uI N2 44 0 49 (-1)) := by
      refine tape_in h (fun t i q x1 x2 x3 x4 => ?_) (by show N.2 0 = _; rw [f.1]) (by show N.2 43 = _; rw [f.1]) rfl (fun t i q x1 x2 x3 x4 => ?_) ?_ ?_ rfl ?_
      · rw [uI_1, if_neg (by omega), uI_1, if_neg (by omega), f.2 t i q (by unfold pScr; omega)]
      · rw [uI_1, if_neg (by omega), f2.2 t i q (by unfold pDS; omega)]
        unfold mUses
        rw [uI_1, if_neg (by omega), uI_1, if_neg (by omega), uI_1, if_neg (by omega), c44 t x1]
      · show N2.2 79 = _
        rw [f2.1]
        show (oJ (cTold (uI (uI N 1 0 1 0) 0 0 3 (-1)) c) v).2 79 = _
        unfold oJ
        rw [uJ_t (by decide)]
        exact (fcA.2 79 (by decide)).trans (fcM.2 79 (by decide))
      · show N2.1 44 0 44 = 0
        rw [f2.2 44 0 44 (by unfold pDS; omega)]
        rfl
      · obtain ⟨-, -, x3, -, -, x6⟩ := hT
        exact ⟨q2, x3, x6⟩
    have hR := hIn.told (l := l) (s := s) hc h1 hl3 hsh num hpos hs dCN n4 n5 dMN m0 m7 m8
    have bat := told_at (c := c) (by omega) (x := nI c) rfl (uI N2 44 0 49 (-1)) 9 (Nat.le_refl _)
    have jB := told_j (x := nI c) (uI N2 44 0 49 (-1)) 9
    have fm1 : FM (oJ (cTold (uI (uI N 1 0 1 0) 0 0 3 (-1)) c) v) N2 := FM.trans (by unfold mUses; exact ((FM.rfl'.u (by decide)).u (by decide)).u (by decide)) (FM.fr f2 (fun t q hp => by unfold pDS at hp; omega))
    refine h2 _ _ (jn_st hR (by omega) ((ec_oJ (x := v)).trans (FM.eqC (FM.trans fm1 ?_)))) ?_ (fun _ => ?_)
    · exact FM.trans (FM.rfl'.u (by decide)) (FM.rep (fun i M => FM.rfl'.u (by decide)) 9 _)
    · rw [bat, if_neg (by omega)]
      show N2.1 44 0 0 = 0
      rw [f2.2 44 0 0 (by unfold pDS; omega)]
      rfl
    · rw [jB]
      show N2.2 84 0 0 = _
      rw [f2.1, hv]
      rfl
end PAI3
