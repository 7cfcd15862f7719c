/-! Pairs of calls: those that only ask, and those that are refused. -/
section PAIR
variable {Γ : GG} {M M2 A' : MM} {Q : Out → Mem → Prop} {k ns nc g e r n D S : Nat}
theorem eqC.trans {A B C : MM} (h : eqC A B) (h2 : eqC B C) : eqC A C := ⟨fun t ht => (h2.1 t ht).trans (h.1 t ht), h2.2.1.trans h.2.1, h2.2.2.1.trans h.2.2.1, h2.2.2.2.trans h.2.2.2⟩
theorem jn_of (h : rIn ns nc g e r n D S (24000 * D) M M) (hD : D ≤ 200 * k) (hc : eqC M M2) (hm : eqM M M2) : Jn (k + 1) M2 := ⟨ns, nc, g, e, r, n, D, S, h.cong hc hm, by omega⟩
theorem jn_st (h : rIn ns nc g e r n D S (24000 * D) A' M2) (hD : D ≤ 200 * (k + 1)) (hc : eqC A' M2) : Jn (k + 1) M2 := ⟨ns, nc, g, e, r, n, D, S, h.cong hc eqM.rfl', hD⟩
theorem ec_th {x : Int32} : eqC M (uI (t0 M) 44 0 0 x) := FM.eqC (FM.tz.u (by decide))
theorem em_th {x : Int32} : eqM M (uI (t0 M) 44 0 0 x) := eqM.tz.trans eqM.thr
theorem ec_tz : eqC M (t0 M) := FM.eqC FM.tz
theorem em_oJ {x : Int64} : eqM M (oJ M x) := fc_oJ FC.rfl'
/-- both refuse -/
theorem jn_th {x : Int32} (h : rIn ns nc g e r n D S (24000 * D) M M) (hD : D ≤ 200 * k) : Jn (k + 1) (uI (t0 M) 44 0 0 x) := jn_of h hD ec_th em_th
/-- both answer and nothing changes -/
theorem jn_tz {x : Int64} (h : rIn ns nc g e r n D S (24000 * D) M M) (hD : D ≤ 200 * k) : Jn (k + 1) (t0 (oJ M x)) := jn_of h hD (ec_oJ.trans ec_tz) (em_oJ.trans eqM.tz)
theorem jn_t0 (h : rIn ns nc g e r n D S (24000 * D) M M) (hD : D ≤ 200 * k) : Jn (k + 1) (t0 M) := jn_of h hD ec_tz eqM.tz
theorem no1 {c : Int32} {P : Prop} (h : ¬ c = 0) : c = 0 → P := fun z => absurd z h
theorem in_nat {x : Int32} {m : Nat} (hm : m ≤ 400) (h : 0 ≤ x ∧ x < nI m) : ∃ j, j < m ∧ x = nI j ∧ cl x = j := by
  obtain ⟨j, hj, rfl⟩ := nI_of (Int32.not_lt.mpr h.1)
  exact ⟨j, (nI_ltI hj (by omega)).mp h.2, rfl, nI_clamp hj⟩
theorem pair_look (hJ : Jn k M) {s x : Int32} : PairI Γ M_L_look M_X7_look [vr 0 0, vi s, vi x, vr 84 0] [vr 44 0, vi s, vi x] k M := by
  obtain ⟨ns, nc, g, e, r, n, D, S, h, hD⟩ := hJ
  have hns := h.wc.ls
  have hnc := h.wc.lc
  intro Q' hQ
  refine gh_look h.wc (fun z => hQ 1 M (fun Q2 h2 => ?_)) (fun z z0 z1 z2 z3 => hQ 2 M (fun Q2 h2 => ?_)) (fun z zx => hQ 0 _ (fun Q2 h2 => ?_)) (fun z zx => hQ 0 _ (fun Q2 h2 => ?_)) (fun z zx => hQ 0 _ (fun Q2 h2 => ?_)) (fun z zx => hQ 0 _ (fun Q2 h2 => ?_))
  · exact go_mlook h.wm (fun _ => h2 0 _ (jn_th h hD) rfl (no1 (by decide))) (fun y => absurd y z) (fun y => absurd y z) (fun y => absurd y z) (fun y => absurd y z) (fun y => absurd y z)
  · exact go_mlook h.wm (fun y => absurd z y) (fun _ _ _ _ _ => h2 0 _ (jn_th h hD) rfl (no1 (by decide))) (fun _ y => absurd y z0) (fun _ y => absurd y z1) (fun _ y => absurd y z2) (fun _ y => absurd y z3)
  · obtain ⟨j, hj, rfl, ej⟩ := in_nat (by omega) z
    rw [ej]
    refine go_mlook (M := oJ M _) (show WM ns nc (oJ M _) from h.wm) (fun y => absurd z y) (fun _ y => absurd zx y) (fun _ _ => h2 _ _ (jn_tz h hD) rfl (fun _ => ?_)) (fun _ y => by rw [zx] at y; exact absurd y (by decide)) (fun _ y => by rw [zx] at y; exact absurd y (by decide)) (fun _ y => by rw [zx] at y; exact absurd y (by decide))
    rw [ej]
    show (M.1 13 j 0).toInt64 = (M.1 45 0 j).toInt64
    rw [(h.st.1 j hj).1]
  · obtain ⟨j, hj, rfl, ej⟩ := in_nat (by omega) z
    rw [ej]
    refine go_mlook (M := oJ M _) (show WM ns nc (oJ M _) from h.wm) (fun y => absurd z y) (fun _ _ y => absurd zx y) (fun _ y => by rw [zx] at y; exact absurd y (by decide)) (fun _ _ => h2 _ _ (jn_tz h hD) rfl (fun _ => ?_)) (fun _ y => by rw [zx] at y; exact absurd y (by decide)) (fun _ y => by rw [zx] at y; exact absurd y (by decide))
    rw [ej]
    show (if M.1 13 j 0 = 2 then M.1 13 j 4 else cPrice M j).toInt64 = (if M.1 45 0 j = 2 then M.1 49 0 j else if M.1 45 0 j = 3 then mPrice M (nI j) else 0).toInt64
    obtain ⟨q0, q2, q3, q4⟩ := h.st.1 j hj
    rw [q0]
    by_cases y2 : M.1 45 0 j = 2
    · rw [if_pos y2, if_pos y2, (q2 y2).2.2.2]
    · rw [if_neg y2, if_neg y2]
      by_cases y3 : M.1 45 0 j = 3
      · rw [if_pos y3, price_eq h.st h.mkt hj hns y3]
      · rw [if_neg y3]
        unfold cPrice
        rw [(q4 y3).2.1, if_pos (by decide)]
  · obtain ⟨j, hj, rfl, ej⟩ := in_nat (by omega) z
    rw [ej]
    refine go_mlook (M := oJ M _) (show WM ns nc (oJ M _) from h.wm) (fun y => absurd z y) (fun _ _ _ y => absurd zx y) (fun _ y => by rw [zx] at y; exact absurd y (by decide)) (fun _ y => by rw [zx] at y; exact absurd y (by decide)) (fun _ _ => h2 _ _ (jn_tz h hD) rfl (fun _ => ?_)) (fun _ y => by rw [zx] at y; exact absurd y (by decide))
    rw [ej]
    show (M.1 13 j 7).toInt64 = (if M.1 45 0 j = 3 then M.1 49 0 j else 0).toInt64
    obtain ⟨q0, q2, q3, q4⟩ := h.st.1 j hj
    by_cases y3 : M.1 45 0 j = 3
    · rw [if_pos y3, (q3 y3).2.2]
    · rw [if_neg y3, (q4 y3).2.2]
  · refine go_mlook (M := oJ M _) (show WM ns nc (oJ M _) from h.wm) (fun y => absurd z y) (fun _ _ _ _ y => absurd zx y) (fun _ y => by rw [zx] at y; exact absurd y (by decide)) (fun _ y => by rw [zx] at y; exact absurd y (by decide)) (fun _ y => by rw [zx] at y; exact absurd y (by decide)) (fun _ _ => h2 _ _ (jn_tz h hD) rfl (fun _ => ?_))
    show (cAt M s nc).toInt64 = (mAtN (oJ M _) s nc).toInt64
    have key : ∀ m, m ≤ nc → cAt M s m = mAtN M s m := by
      intro m
      induction m with
      | zero => intro _; rfl
      | succ m ih =>
        intro hm
        obtain ⟨-, -, -, -, q5, q6, -⟩ := h.ca.2.1 m (by omega)
        unfold cAt mAtN
        rw [ih (by omega), q5, q6, Int32.add_zero]
    have e2 : ∀ v m, mAtN (oJ M v) s m = mAtN M s m := by
      intro v m
      induction m with
      | zero => rfl
      | succ m ih => unfold mAtN; rw [ih]; rfl
    rw [e2, key nc (Nat.le_refl _)]
theorem st_pair {c : Nat} (h : rCa nc M M) (hc : c < nc) (x : Int32) : (stSlot x = none ∧ mstTag x = none) ∨ ∃ a t, stSlot x = some a ∧ mstTag x = some t ∧ M.1 15 c a = M.1 t 0 c := by
  obtain ⟨g1, g2, g3, g4, g5, g6, g7, g8, g9, g10, g11, g12⟩ := h.2.1 c hc
  unfold stSlot mstTag
  by_cases x0 : x = 0
  · rw [if_pos x0, if_pos x0]; exact Or.inr ⟨_, _, rfl, rfl, g5⟩
  rw [if_neg x0, if_neg x0]
  by_cases x0 : x = 1
  · rw [if_pos x0, if_pos x0]; exact Or.inr ⟨_, _, rfl, rfl, g6⟩
  rw [if_neg x0, if_neg x0]
  by_cases x0 : x = 2
  · rw [if_pos x0, if_pos x0]; exact Or.inr ⟨_, _, rfl, rfl, g2⟩
  rw [if_neg x0, if_neg x0]
  by_cases x0 : x = 3
  · rw [if_pos x0, if_pos x0]; exact Or.inr ⟨_, _, rfl, rfl, g3⟩
  rw [if_neg x0, if_neg x0]
  by_cases x0 : x = 4
  · rw [if_pos x0, if_pos x0]; exact Or.inr ⟨_, _, rfl, rfl, g4⟩
  rw [if_neg x0, if_neg x0]
  by_cases x0 : x = 5
  · rw [if_pos x0, if_pos x0]; exact Or.inr ⟨_, _, rfl, rfl, g8⟩
  rw [if_neg x0, if_neg x0]
  by_cases x0 : x = 6
  · rw [if_pos x0, if_pos x0]; exact Or.inr ⟨_, _, rfl, rfl, g9⟩
  rw [if_neg x0, if_neg x0]
  by_cases x0 : x = 7
  · rw [if_pos x0, if_pos x0]; exact Or.inr ⟨_, _, rfl, rfl, g10⟩
  rw [if_neg x0, if_neg x0]
  exact Or.inl ⟨rfl, rfl⟩
theorem pair_state (hJ : Jn k M) {i x : Int32} : PairI Γ M_L_state M_X7_state [vr 0 0, vi i, vi x, vr 84 0] [vr 44 0, vi i, vi x] k M := by
  obtain ⟨ns, nc, g, e, r, n, D, S, h, hD⟩ := hJ
  have hnc := h.wc.lc
  intro Q' hQ
  refine gh_state h.wc (fun z => hQ 1 M (fun Q2 h2 => ?_)) (fun z z0 => hQ 2 M (fun Q2 h2 => ?_)) (fun a z za => hQ 0 _ (fun Q2 h2 => ?_))
  · exact go_mstate h.wm.n26 hnc (fun _ => h2 0 _ (jn_th h hD) rfl (no1 (by decide))) (fun y => absurd y z) (fun _ y => absurd y z)
  · obtain ⟨j, hj, rfl, ej⟩ := in_nat (by omega) z
    rcases st_pair h.ca hj x with ⟨-, q⟩ | ⟨a, t, q, -⟩
    · exact go_mstate h.wm.n26 hnc (fun y => absurd z y) (fun _ _ => h2 0 _ (jn_th h hD) rfl (no1 (by decide))) (fun t _ y => by rw [q] at y; cases y)
    · rw [q] at z0; cases z0
  · obtain ⟨j, hj, rfl, ej⟩ := in_nat (by omega) z
    rcases st_pair h.ca hj x with ⟨q, -⟩ | ⟨a', t, q1, q2, q3⟩
    · rw [q] at za; cases za
    · rw [q1] at za
      cases za
      rw [ej]
      refine go_mstate (M := oJ M _) h.wm.n26 hnc (fun y => absurd z y) (fun _ y => by rw [q2] at y; cases y) (fun t' _ y => h2 _ _ (jn_tz h hD) rfl (fun _ => ?_))
      rw [q2] at y
      cases y
      rw [ej]
      show (M.1 15 j a).toInt64 = (M.1 t 0 j).toInt64
      rw [q3]
theorem pair_knows (hJ : Jn k M) {i s x : Int32} : PairI Γ M_L_knows M_X7_knows [vr 0 0, vi i, vi s, vi x, vr 84 0] [vr 44 0, vi i, vi s, vi x] k M := by
  obtain ⟨ns, nc, g, e, r, n, D, S, h, hD⟩ := hJ
  have hnc := h.wc.lc
  have hns := h.wc.ls
  intro Q' hQ
  refine gh_knows h.wc (fun z => hQ 1 M (fun Q2 h2 => ?_)) (fun z zs => hQ 0 _ (fun Q2 h2 => ?_))
  · exact go_mknows h.wm.n26 hnc h.wm.n7 hns (fun _ => h2 0 _ (jn_th h hD) rfl (no1 (by decide))) (fun y y2 => absurd ⟨y, y2⟩ z)
  · refine go_mknows (M := oJ M _) h.wm.n26 hnc h.wm.n7 hns (fun y => absurd ⟨z, zs⟩ y) (fun _ _ => h2 _ _ (jn_tz h hD) rfl (fun _ => ?_))
    obtain ⟨j, hj, rfl, ej⟩ := in_nat (by omega) z
    obtain ⟨m, hm, rfl, em⟩ := in_nat (by omega) zs
    rw [ej, em]
    show (if x = 0 then M.1 28 j m else M.1 29 j m).toInt64 = (if 0 ≤ M.1 66 0 (12 * j + m) then (if x = 0 then M.1 65 0 (12 * j + m) else M.1 66 0 (12 * j + m)) else -1).toInt64
    obtain ⟨k1, k2⟩ := h.kn.1 j m hj (by omega)
    rw [← k1]
    rcases k2 with ⟨k2, k3⟩ | ⟨k2, k3⟩
    · rw [k2, k3, if_neg (show ¬ (0 : Int32) ≤ -1 by decide)]
      split <;> rfl
    · rw [if_pos k2, k3]
theorem pair_lost (hJ : Jn k M) {f t : Int32} : PairI Γ M_L_lost M_X7_lost [vr 0 0, vi f, vi t, vr 84 0] [vr 44 0, vi f, vi t] k M := by
  obtain ⟨ns, nc, g, e, r, n, D, S, h, hD⟩ := hJ
  have hns := h.wc.ls
  intro Q' hQ
  refine gh_lost h.wc (fun z => hQ 1 M (fun Q2 h2 => ?_)) (fun z zs => hQ 0 _ (fun Q2 h2 => ?_))
  · exact go_mlost h.wm.n7 hns (fun _ => h2 0 _ (jn_th h hD) rfl (no1 (by decide))) (fun y y2 => absurd ⟨y, y2⟩ z)
  · refine go_mlost (M := oJ M _) h.wm.n7 hns (fun y => absurd ⟨z, zs⟩ y) (fun _ _ => h2 _ _ (jn_tz h hD) rfl (fun _ => ?_))
    obtain ⟨j, hj, rfl, ej⟩ := in_nat (by omega) z
    obtain ⟨m, hm, rfl, em⟩ := in_nat (by omega) zs
    rw [ej, em]
    show (M.1 34 j m).toInt64 = (M.1 53 0 (12 * j + m)).toInt64
    rw [h.lo j m (by omega) (by omega)]
theorem pair_entry (hJ : Jn k M) {x y : Int32} : PairI Γ M_L_entry M_X7_entry [vr 0 0, vi x, vi y, vr 84 0] [vr 44 0, vi x, vi y] k M := by
  obtain ⟨ns, nc, g, e, r, n, D, S, h, hD⟩ := hJ
  obtain ⟨⟨he, hr⟩, ⟨a0, b0, a6, b6⟩, l1, l2, l3⟩ := h.le
  intro Q' hQ
  have nz : ∀ {a b : Int32}, y = a → ¬ a = b → ¬ y = b := fun p q z => q (p.symm.trans z)
  refine gh_entry a0 he (fun z => hQ 1 M (fun Q2 h2 => ?_)) (fun z z0 => hQ 2 M (fun Q2 h2 => ?_)) (fun t z za => hQ 0 _ (fun Q2 h2 => ?_))
  · exact go_mentry b0 he b6 hr (fun _ => h2 0 _ (jn_th h hD) rfl (no1 (by decide))) (fun w => absurd w z) (fun w => absurd w z) (fun w => absurd w z) (fun w => absurd w z) (fun w => absurd w z) (fun w => absurd w z)
  · have hz : ¬ y = 0 ∧ ¬ y = 1 ∧ ¬ y = 2 ∧ ¬ y = 3 ∧ ¬ y = 4 := by
      refine ⟨fun q => ?_, fun q => ?_, fun q => ?_, fun q => ?_, fun q => ?_⟩ <;> (rw [q] at z0; exact absurd z0 (by decide))
    exact go_mentry b0 he b6 hr (fun w => absurd z w) (fun _ _ _ _ _ _ => h2 0 _ (jn_th h hD) rfl (no1 (by decide))) (fun _ w => absurd w hz.1) (fun _ w => absurd w hz.2.1) (fun _ w => absurd w hz.2.2.1) (fun _ w => absurd w hz.2.2.2.1) (fun _ w => absurd w hz.2.2.2.2)
  · obtain ⟨j, hj, rfl, ej⟩ := in_nat (by omega) z
    obtain ⟨m1, m2, m3, m4, m5, m6⟩ := l1 j hj
    rw [ej]
    refine go_mentry (M := oJ M _) b0 he b6 hr (fun w => absurd z w) (fun _ w0 w1 w2 w3 w4 => ?_) (fun _ w => h2 _ _ (jn_tz h hD) rfl (fun _ => ?_)) (fun _ w => h2 _ _ (jn_tz h hD) rfl (fun _ => ?_)) (fun _ w => h2 _ _ (jn_tz h hD) rfl (fun _ => ?_)) (fun _ w => h2 _ _ (jn_tz h hD) rfl (fun _ => ?_)) (fun _ w => h2 _ _ (jn_tz h hD) rfl (fun _ => ?_))
    · exfalso
      unfold enTag at za
      rw [if_neg w0, if_neg w1, if_neg w2, if_neg w3, if_neg w4] at za
      cases za
    · rw [w] at za
      cases (show some 36 = some t from za)
      rw [ej]
      show (M.1 36 0 j).toInt64 = (M.1 72 0 j).toInt64
      rw [m1]
    · rw [w] at za
      cases (show some 37 = some t from za)
      rw [ej]
      show (M.1 37 0 j).toInt64 = (M.1 73 0 j).toInt64
      rw [m2]
    · rw [w] at za
      cases (show some 38 = some t from za)
      rw [ej]
      show (M.1 38 0 j).toInt64 = (M.1 74 0 j).toInt64
      rw [m3]
    · rw [w] at za
      cases (show some 40 = some t from za)
      show (M.1 40 0 j).toInt64 = (mMoney (t0 (oJ M _)) (nI j) (M.1 44 0 1) r).toInt64
      rw [m6, h.t, mMoney_congr (B := M) (B' := t0 (oJ M _)) r (fun q _ => ⟨rfl, rfl, rfl⟩) rfl]
    · rw [w] at za
      cases (show some 39 = some t from za)
      rw [ej]
      show (M.1 39 0 j).toInt64 = (M.1 75 0 j).toInt64
      rw [m4]
theorem pair_balance (hJ : Jn k M) {i p u v : Int32} : PairJ Γ M_L_balance M_X7_balance [vr 0 0, vi i, vi p, vi u, vi v, vr 84 0] [vr 44 0, vi i, vi p, vi u, vi v] k M := by
  obtain ⟨ns, nc, g, e, r, n, D, S, h, hD⟩ := hJ
  have hnc := h.wc.lc
  obtain ⟨⟨he, hr⟩, ⟨a0, b0, a6, b6⟩, -⟩ := h.le
  intro Q' hQ
  refine gh_balance h.wc a0 he a6 hr (fun z => hQ 1 M (fun Q2 h2 => ?_)) (fun z zp => hQ 2 M (fun Q2 h2 => ?_)) (fun z zp => hQ 0 _ (fun Q2 h2 => ?_))
  · exact go_mbalance h.wm.n26 hnc b0 he b6 hr (fun _ => h2 0 _ (jn_th h hD) rfl (no1 (by decide))) (fun y => absurd y z) (fun y => absurd y z)
  · exact go_mbalance h.wm.n26 hnc b0 he b6 hr (fun y => absurd z y) (fun _ _ => h2 0 _ (jn_th h hD) rfl (no1 (by decide))) (fun _ y => absurd y zp)
  · refine go_mbalance (M := oJ M _) h.wm.n26 hnc b0 he b6 hr (fun y => absurd z y) (fun _ y => absurd zp y) (fun _ _ => h2 _ _ (jn_tz h hD) rfl (fun _ => ?_))
    show cSum2 M i p u v (cSum1 M i p u v e) r = _
    have hl : rLe e r M (t0 (oJ M (cSum2 M i p u v (cSum1 M i p u v e) r))) := (h.cong eqC.rfl' (em_oJ.trans eqM.tz)).le
    exact bal_eq hl
theorem pair_split (hJ : Jn k M) {x : Int32} : PairI Γ M_L_split M_X7_split [vr 0 0, vi x, vr 84 0] [vr 44 0, vi x] k M := by
  obtain ⟨ns, nc, g, e, r, n, D, S, h, hD⟩ := hJ
  intro Q' hQ
  refine gh_split h.wc (fun z => hQ 1 M (fun Q2 h2 => ?_)) (fun z => hQ 0 _ (fun Q2 h2 => ?_))
  · exact go_msplit h.wm (fun _ => h2 0 _ (jn_th h hD) rfl (no1 (by decide))) (fun y => absurd y z)
  · obtain ⟨j, hj, rfl⟩ := nI_of (Int32.not_lt.mpr z.1)
    have hj2 : j ≤ 5000 := (nI_leI (b := 5000) hj (by decide)).mp z.2
    have ej : cl (nI j) = j := nI_clamp hj
    generalize hv : (cSplit M ns (nI j)).toInt64 = v
    have h' : rIn ns nc g e r n D S (24000 * D) M (oJ M v) := h.cong eqC.rfl' em_oJ
    refine go_msplit (M := oJ M v) (show WM ns nc (oJ M v) from h.wm) (fun y => absurd z y) (fun _ => h2 _ _ ?_ ?_ (fun _ => ?_))
    · rw [ej]
      have fr : ∀ x N m, FM N (mSpl ns x N m).2 ∧ eqM N (mSpl ns x N m).2 := by
        intro x
        induction x with
        | zero => intro N m; exact ⟨FM.rfl', eqM.rfl'⟩
        | succ x ih =>
          intro N m
          rw [show mSpl ns (x + 1) N m = if (mSpB N ns).1 < 0 then (m, N) else mSpl ns x (uI N 83 0 (cl (mSpB N ns).1) (N.1 83 0 (cl (mSpB N ns).1) + 1)) (m + (mSpB N ns).2) from rfl]
          split
          · exact ⟨FM.rfl', eqM.rfl'⟩
          · obtain ⟨i1, i2⟩ := ih (uI N 83 0 (cl (mSpB N ns).1) (N.1 83 0 (cl (mSpB N ns).1) + 1)) (m + (mSpB N ns).2)
            refine ⟨FM.trans (FM.rfl'.u (by decide)) i1, eqM.trans ?_ i2⟩
            exact ⟨fun t ht => uI_t (by omega), fun _ _ => rfl, fun _ _ => rfl, rfl⟩
      obtain ⟨t1, t2, t3⟩ := mTry_at (t0 (oJ M v)) ns
      obtain ⟨f1, f2⟩ := fr j (rep mTry1 ns (t0 (oJ M v))) 0
      have g1 : FM (t0 (oJ M v)) (rep mTry1 ns (t0 (oJ M v))) := ⟨fun t ht => t2 t (by omega), fun t ht => by rw [t3]⟩
      have g2 : eqM (t0 (oJ M v)) (rep mTry1 ns (t0 (oJ M v))) := ⟨fun t ht => t2 t (by omega), fun _ _ => by rw [t2 67 (by decide)], fun _ _ => by rw [t2 44 (by decide)], by rw [t3]⟩
      exact jn_of h hD (((ec_oJ.trans ec_tz).trans g1.eqC).trans f1.eqC) (((em_oJ.trans eqM.tz).trans g2).trans f2)
    · rw [ej]
      have fr : ∀ x N m, (mSpl ns x N m).2.1 44 0 0 = N.1 44 0 0 := by
        intro x
        induction x with
        | zero => intro N m; rfl
        | succ x ih =>
          intro N m
          rw [show mSpl ns (x + 1) N m = if (mSpB N ns).1 < 0 then (m, N) else mSpl ns x (uI N 83 0 (cl (mSpB N ns).1) (N.1 83 0 (cl (mSpB N ns).1) + 1)) (m + (mSpB N ns).2) from rfl]
          split
          · rfl
          · rw [ih]; rfl
      rw [fr, (mTry_at (t0 (oJ M v)) ns).2.1 44 (by decide)]
      rfl
    · rw [ej]
      have fr : ∀ x N m, (mSpl ns x N m).2.2 = N.2 := by
        intro x
        induction x with
        | zero => intro N m; rfl
        | succ x ih =>
          intro N m
          rw [show mSpl ns (x + 1) N m = if (mSpB N ns).1 < 0 then (m, N) else mSpl ns x (uI N 83 0 (cl (mSpB N ns).1) (N.1 83 0 (cl (mSpB N ns).1) + 1)) (m + (mSpB N ns).2) from rfl]
          split
          · rfl
          · rw [ih]; rfl
      rw [fr, (mTry_at (t0 (oJ M v)) ns).2.2, ← split_eq h' hj2]
      show v = _
      rw [← hv]
theorem same_fault (hJ : Jn k M) : SameI Γ M_X6_fault M_X7_fault [vr 0 0] [vr 44 0] k M := by
  obtain ⟨ns, nc, g, e, r, n, D, S, h, hD⟩ := hJ
  intro Q' hQ
  refine go_fault (hQ _ _ (fun Q2 h2 => go_mfault ?_))
  have e3 : M.1 0 0 3 = M.1 44 0 49 := h.ta.2.2.2.2.1
  rw [← e3]
  exact h2 _ (jn_t0 h hD)
theorem same_count (hJ : Jn k M) {x : Int32} : SameJ Γ M_X6_count M_X7_count [vr 0 0, vi x] [vr 44 0, vi x] k M := by
  obtain ⟨ns, nc, g, e, r, n, D, S, h, hD⟩ := hJ
  intro Q' hQ
  refine go_count h.wc (hQ _ _ (fun Q2 h2 => go_mcount h.wm ?_))
  have key : cCnt M nc x = mCnt M nc x := by
    obtain ⟨⟨he, hr⟩, ⟨a0, b0, a6, b6⟩, -⟩ := h.le
    obtain ⟨k1, k2, k3, k4, k5⟩ := h.su
    have kc : ∀ m, m ≤ nc → cCarr M m = mCarr M m := by
      intro m
      induction m with
      | zero => intro _; rfl
      | succ m ih =>
        intro hm
        unfold cCarr mCarr
        rw [ih (by omega), (h.ca.2.1 m (by omega)).2.2.1]
    unfold cCnt mCnt
    rw [h.da, h.db, h.wc.n5, h.wm.n7, h.a7, h.sg.2, h.wc.n9, h.wm.n26, k1, k2, k3, k4, k5, kc nc (Nat.le_refl _), a0, b0, a6, b6]
  rw [← key]
  exact h2 _ (jn_t0 h hD)
end PAIR
