/-! Pairs of calls that change something. -/
/-- what the law looks at itself stays -/
def FO (M M' : MM) : Prop := M'.1 44 0 0 = M.1 44 0 0 ∧ M'.2 84 0 0 = M.2 84 0 0
section FOSE
variable {A A' A2 M : MM} {ns nc g : Nat}
theorem FO.rfl' : FO M M := ⟨rfl, rfl⟩
theorem FO.trans (h : FO A A') (h2 : FO A' A2) : FO A A2 := ⟨h2.1.trans h.1, h2.2.trans h.2⟩
theorem FO.u {t i k : Nat} {x : Int32} (h : FO A A') (ht : ¬ (t = 44 ∧ k = 0)) : FO A (uI A' t i k x) := ⟨by rw [uI_1, if_neg (by omega)]; exact h.1, h.2⟩
theorem FO.j {t i k : Nat} {x : Int64} (h : FO A A') (ht : t ≠ 84) : FO A (uJ A' t i k x) := ⟨h.1, by rw [uJ_2, if_neg (by omega)]; exact h.2⟩
theorem FO.rep {f : Nat → MM → MM} (hf : ∀ i M, FO M (f i M)) (n : Nat) (M : MM) : FO M (rep f n M) := rep_inv (P := fun A => FO M A) FO.rfl' (fun i A _ h => h.trans (hf i A))
theorem FO.fr {P : Nat → Nat → Prop} (h : Fr P A A') (hp : ¬ P 44 0) : FO A A' := ⟨h.2 44 0 0 hp, by rw [h.1]⟩
theorem FO.know (h : eqKM A A') : FO A A' := ⟨by rw [h.2 44 (by decide) (by decide)], by rw [h.1]⟩
theorem fo_trav {x : Int32} : FO M (mTrav1 x M) := by
  have hA : FO M (mTrA x M) := by unfold mTrA; exact ((FO.rfl'.u (by omega)).u (by omega)).j (by decide)
  have hD : FO M (mTrD x M) := by
    unfold mTrD; split
    · exact hA
    · refine FO.trans ?_ (FO.fr (fr_mloss _ _ _) (by unfold pMW; omega))
      unfold mTrC
      exact ((hA.u (by omega)).j (by decide)).u (by omega)
  unfold mTrav1; split
  · unfold mTravel mGo; split
    · exact (hD.u (by omega)).u (by omega)
    · split
      · exact ((hD.u (by omega)).u (by omega)).u (by omega)
      · exact hD.u (by omega)
  · exact FO.rfl'
theorem fo_dr {a : Nat} : ∀ k (M : MM), FO M (mDr a k M)
  | 0, M => FO.rfl'
  | k + 1, M => by
    rw [show mDr a (k + 1) M = if mDb M a < 0 then M else mDr a k (mDr2 M (mDb M a)) from rfl]
    split
    · exact FO.rfl'
    · refine FO.trans ?_ (fo_dr k _)
      unfold mDr2
      exact ((FO.rfl'.u (by omega)).u (by omega)).u (by omega)
theorem fo_acts {a m x : Int32} : FO M (mActs ns g x a m M) := by
  unfold mActs; split
  · unfold mGoA
    refine FO.trans ?_ (FO.rep (fun i M => FO.rfl'.u (by omega)) 9 _)
    unfold mGo3
    exact (((FO.rfl'.u (by omega)).u (by omega)).u (by omega)).u (by omega)
  · split
    · unfold mLoad
      exact (FO.rfl'.u (by omega)).j (by decide)
    · split
      · have h1 : ∀ s k (M : MM), FO M (mIncs s k M) := fun s k M => FO.rep (fun i M => FO.rfl'.u (by omega)) k M
        have h2 : FO M (mSellM x m M) := by
          unfold mSellM
          exact (((h1 _ _ M).u (by omega)).j (by decide)).j (by decide)
        unfold mSell; split
        · exact h2
        · exact h2.trans (FO.fr (fr_mPays _) (by unfold pMW; omega))
      · exact FO.rfl'
theorem fo_turn {x : Int32} : FO M (mTurn1 ns g x M) := by
  unfold mTurn1; split
  · unfold mTurns; split
    · split
      · split
        · split
          · exact FO.rfl'.u (by omega)
          · split
            · exact FO.rfl'.u (by omega)
            · exact FO.trans (FO.rfl'.u (by omega)) fo_acts
        · exact FO.rfl'.u (by omega)
      · exact FO.rfl'
    · split
      · exact (FO.rfl'.u (by omega)).u (by omega)
      · exact FO.rfl'.u (by omega)
  · exact FO.rfl'
theorem fo_pass {x : Int32} : FO M (mPass2 x (mPass1 x M)) := by
  have h1 : FO M (mPass1 x M) := by
    unfold mPass1; split
    · exact FO.rfl'.u (by omega)
    · exact FO.rfl'
  refine h1.trans ?_
  unfold mPass2; split
  · exact FO.rfl'.u (by omega)
  · exact FO.rfl'
theorem fo_share {k : Nat} {s m : Int32} : FO M (mShares k s m M) := by
  unfold mShares; split
  · exact FO.rfl'
  · exact FO.know (eqKM_rep (fun i M => eqKM_copy _ _ _ i M) k M)
theorem fo_day : FO M (mDay ns nc g M) := by
  unfold mDay
  have h1 : FO M (mD1 M) := FO.rfl'.u (by omega)
  have h2 : ∀ M, FO M (mD2 ns M) := FO.rep (fun i M => fo_pass) ns
  have h3 : ∀ M, FO M (mD3 nc M) := FO.rep (fun i M => fo_trav) nc
  have h4 : ∀ M, FO M (mD4 nc M) := fun M => FO.know (eqKM_rep (fun _ M => eqKM_see _ M) nc M)
  have h5 : ∀ M, FO M (mLet ns nc M) := FO.rep (fun i M => FO.rep (fun i M => fo_share) ns M) ns
  have h6 : ∀ M, FO M (mD6 nc M) := fun M => FO.trans (FO.rep (fun i M => by
    unfold mDr1; split
    · split
      · exact FO.rfl'.u (by omega)
      · exact (FO.rfl'.u (by omega)).u (by omega)
    · exact FO.rfl'.u (by omega)) nc M) (fo_dr nc _)
  have h7 : ∀ M, FO M (mD7 ns g nc M) := FO.rep (fun i M => fo_turn) nc
  exact (((((h1.trans (h2 _)).trans (h3 _)).trans (h4 _)).trans (h5 _)).trans (h6 _)).trans (h7 _)
theorem fo_days : ∀ k, FO M (mDays ns nc g k M)
  | 0 => FO.rfl'
  | k + 1 => (fo_days k).trans fo_day
end FOSE
section PAI2
variable {Γ : GG} {M : MM} {Q : Out → Mem → Prop} {k : Nat}
theorem pair_station (hJ : Jn k M) {s a b d : Int32} : PairI Γ M_L_station M_X7_station [vr 0 0, vi s, vi a, vi b, vi d, vr 84 0] [vr 44 0, vi s, vi a, vi b, vi d] k M := by
  obtain ⟨ns, nc, g, e, r, n, D, S, h, hD⟩ := hJ
  intro Q' hQ
  refine gh_station h.wc (fun ok => hQ 1 M (fun Q2 h2 => ?_)) (fun ok h12 => hQ 2 M (fun Q2 h2 => ?_)) (fun ok h12 => hQ 0 _ (fun Q2 h2 => ?_))
  · exact go_mstation h.wm.n7 h.wm.ls (fun _ => h2 0 _ (jn_th h hD) rfl (no1 (by decide))) (fun y => absurd y ok) (fun y => absurd y ok)
  · exact go_mstation h.wm.n7 h.wm.ls (fun y => absurd ok y) (fun _ _ => h2 0 _ (jn_th h hD) rfl (no1 (by decide))) (fun _ y => by omega)
  · have fc : FC M (cStation M ns s a b d) := by
      unfold cStation cStat2 cStat1
      split
      · split
        · exact (((((((FC.rfl'.u (by decide)).u (by decide)).u (by decide)).u (by decide)).u (by decide)).u (by decide)).u (by decide)).u (by decide)
        · exact (((FC.rfl'.u (by decide)).u (by decide)).u (by decide)).u (by decide)
      · split
        · exact (((((FC.rfl'.u (by decide)).u (by decide)).u (by decide)).u (by decide)).u (by decide)).u (by decide)
        · exact (FC.rfl'.u (by decide)).u (by decide)
    have hB : rIn ns nc g e r n D S (24000 * D) M (t0 (oJ (cStation M ns s a b d) (nI ns).toInt64)) := h.cong eqC.rfl' ((fc_oJ fc).trans eqM.tz)
    refine go_mstation (M := oJ (cStation M ns s a b d) (nI ns).toInt64) hB.wm.n7 h.wm.ls (fun y => absurd ok y) (fun _ y => by omega) (fun _ _ => h2 _ _ (jn_st (hB.station h12 ok) (by omega) ?_) rfl (fun _ => rfl))
    refine (ec_oJ (x := (nI ns).toInt64)).trans (FM.eqC ?_)
    unfold mStation
    exact (((((FM.tz.u (by decide)).u (by decide)).u (by decide)).u (by decide)).u (by decide)).u (by decide)
theorem pair_stage (hJ : Jn k M) {f t d : Int32} : PairI Γ M_L_stage M_X7_stage [vr 0 0, vi f, vi t, vi d, vr 84 0] [vr 44 0, vi f, vi t, vi d] k M := by
  obtain ⟨ns, nc, g, e, r, n, D, S, h, hD⟩ := hJ
  have hns := h.wc.ls
  have hg := h.sg.1
  intro Q' hQ
  refine gh_stage h.wc (fun z => hQ 1 M (fun Q2 h2 => ?_)) (fun z z2 z3 => hQ 2 M (fun Q2 h2 => ?_)) (fun z z2 z3 z4 => hQ 3 M (fun Q2 h2 => ?_)) (fun z z2 z3 z4 => hQ 0 _ (fun Q2 h2 => ?_))
  · exact go_mstage h.wm.n7 hns h.sg.2 hg (fun _ => h2 0 _ (jn_th h hD) rfl (no1 (by decide))) (fun y y2 => absurd ⟨y, y2⟩ z) (fun y y2 => absurd ⟨y, y2⟩ z) (fun y y2 => absurd ⟨y, y2⟩ z)
  · exact go_mstage h.wm.n7 hns h.sg.2 hg (fun y => absurd ⟨z, z2⟩ y) (fun _ _ _ => h2 0 _ (jn_th h hD) rfl (no1 (by decide))) (fun _ _ y => absurd z3 y) (fun _ _ y => absurd z3 y)
  · rw [h.a7] at z4
    have hg30 : ¬ g < 30 := fun y => z4 (nI_lt (b := 30) y (by decide))
    exact go_mstage h.wm.n7 hns h.sg.2 hg (fun y => absurd ⟨z, z2⟩ y) (fun _ _ y => absurd y z3) (fun _ _ _ _ => h2 0 _ (jn_th h hD) rfl (no1 (by decide))) (fun _ _ _ y => absurd y hg30)
  · rw [h.a7] at z4 ⊢
    have hg30 : g < 30 := (nI_ltI (b := 30) (by omega) (by decide)).mp z4
    obtain ⟨f', hf', rfl, ef⟩ := in_nat (by omega) z
    obtain ⟨t', ht', rfl, et⟩ := in_nat (by omega) z2
    rw [ef, et]
    have hne : f' ≠ t' := fun y => z3 (Or.inl (by rw [y]))
    have hd9 : 1 ≤ d ∧ d ≤ 9 := Decidable.byContradiction (fun y => z3 (Or.inr y))
    have hdn : ∃ w, 1 ≤ w ∧ w ≤ 9 ∧ d = nI w := by
      obtain ⟨j, hj, rfl⟩ := nI_of (x := d) (Int32.not_lt.mpr (Int32.le_trans (by decide) hd9.1))
      exact ⟨j, (nI_leI (a := 1) (by decide) hj).mp hd9.1, (nI_leI (b := 9) hj (by decide)).mp hd9.2, rfl⟩
    have fc : FC M (cStage M f' t' d) := by
      unfold cStage; split
      · exact ((FC.rfl'.u (by decide)).u (by decide)).u (by decide)
      · exact FC.rfl'.u (by decide)
    have hB : rIn ns nc g e r n D S (24000 * D) M (t0 (oJ (cStage M f' t' d) (nI g + 1).toInt64)) := h.cong eqC.rfl' ((fc_oJ fc).trans eqM.tz)
    refine go_mstage (M := oJ (cStage M f' t' d) (nI g + 1).toInt64) hB.wm.n7 hns hB.sg.2 hg (fun y => absurd ⟨z, z2⟩ y) (fun _ _ y => absurd y z3) (fun _ _ _ y => by omega) (fun _ _ _ _ => h2 _ _ (jn_st (hB.stage hg30 hf' ht' hne hdn) (by omega) ?_) rfl (fun _ => rfl))
    refine (ec_oJ (x := (nI g + 1).toInt64)).trans (FM.eqC ?_)
    unfold mStage
    exact (((FM.tz.u (by decide)).u (by decide)).u (by decide)).u (by decide)
theorem pair_caravan (hJ : Jn k M) {a b w : Int32} : PairI Γ M_L_caravan M_X7_caravan [vr 0 0, vi a, vi b, vi w, vr 84 0] [vr 44 0, vi a, vi b, vi w] k M := by
  obtain ⟨ns, nc, g, e, r, n, D, S, h, hD⟩ := hJ
  have hns := h.wc.ls
  have hnc := h.wc.lc
  intro Q' hQ
  refine gh_caravan h.wc (fun z => hQ 1 M (fun Q2 h2 => ?_)) (fun z z2 => hQ 2 M (fun Q2 h2 => ?_)) (fun z z2 z3 => hQ 3 M (fun Q2 h2 => ?_)) (fun z z2 z3 => hQ 0 _ (fun Q2 h2 => ?_))
  · exact go_mcaravan h.wm.n7 hns h.wm.n26 hnc (fun _ => h2 0 _ (jn_th h hD) rfl (no1 (by decide))) (fun y => absurd y z) (fun y => absurd y z) (fun y => absurd y z)
  · exact go_mcaravan h.wm.n7 hns h.wm.n26 hnc (fun y => absurd z y) (fun _ _ => h2 0 _ (jn_th h hD) rfl (no1 (by decide))) (fun _ y => absurd y z2) (fun _ y => absurd y z2)
  · exact go_mcaravan h.wm.n7 hns h.wm.n26 hnc (fun y => absurd z y) (fun _ y => absurd z2 y) (fun _ _ _ => h2 0 _ (jn_th h hD) rfl (no1 (by decide))) (fun _ _ y => by omega)
  · obtain ⟨w', hw', rfl, ew⟩ := in_nat (by omega) z
    obtain ⟨b', hb', rfl⟩ := nI_of (x := b) (Int32.not_lt.mpr (Int32.le_trans (by decide) z2.2.1))
    have hb5 : b' ≤ 500 := (nI_leI (b := 500) hb' (by decide)).mp z2.2.2
    have fc : FC M (cCaravan M nc a (nI b') (nI w')) := by
      unfold cCaravan cGather
      exact (((((((FC.rfl'.u (by decide)).u (by decide)).u (by decide)).u (by decide)).u (by decide)).u (by decide)).u (by decide)).u (by decide)
    have hB : rIn ns nc g e r n D S (24000 * D) M (t0 (oJ (cCaravan M nc a (nI b') (nI w')) (nI nc).toInt64)) := h.cong eqC.rfl' ((fc_oJ fc).trans eqM.tz)
    obtain ⟨-, m44, -, -, -, -, -, -, -, -, mj⟩ := mCaravan_at z3 (t0 (oJ (cCaravan M nc a (nI b') (nI w')) (nI nc).toInt64)) a (nI b') (nI w')
    refine go_mcaravan (M := oJ (cCaravan M nc a (nI b') (nI w')) (nI nc).toInt64) hB.wm.n7 hns hB.wm.n26 hnc (fun y => absurd z y) (fun _ y => absurd z2 y) (fun _ _ y => by omega) (fun _ _ _ => h2 _ _ (jn_st (hB.caravan z3 hw' hb5) (by omega) ?_) ?_ (fun _ => ?_))
    · refine (ec_oJ (x := (nI nc).toInt64)).trans (FM.eqC ?_)
      unfold mCaravan
      refine FM.u (FM.u (FM.trans ?_ (FM.rep (fun i M => FM.rfl'.u (by decide)) 12 _)) (by decide)) (by decide)
      unfold mCarA
      exact ((((FM.tz.u (by decide)).u (by decide)).u (by decide)).u (by decide)).u (by decide)
    · rw [m44 0 (by decide)]; rfl
    · rw [mj]; rfl
theorem pair_days (hJ : Jn k M) (hk : k < 512) {x : Int32} : PairI Γ M_L_days M_X7_days [vr 0 0, vi x, vr 84 0] [vr 44 0, vi x] k M := by
  obtain ⟨ns, nc, g, e, r, n, D, S, h, hD⟩ := hJ
  intro Q' hQ
  refine gh_days h.wc (fun z => hQ 1 M (fun Q2 h2 => ?_)) (fun j ej hj => hQ 0 _ (fun Q2 h2 => ?_))
  · exact go_mdays_bad z (h2 0 _ (jn_th h hD) rfl (no1 (by decide)))
  · subst ej
    generalize hv : ((cDays ns nc j M).1 0 0 13).toInt64 = v
    have hB : rIn ns nc g e r n D S (24000 * D) M (t0 (oJ (cDays ns nc j M) v)) := h.cong eqC.rfl' ((fc_oJ (fc_days j)).trans eqM.tz)
    obtain ⟨e', S', -, hR⟩ := hB.days j (by omega)
    have fo := fo_days (ns := ns) (nc := nc) (g := g) (M := t0 (oJ (cDays ns nc j M) v)) j
    have wm' : WM ns nc (oJ (cDays ns nc j M) v) := (h.cong eqC.rfl' (fc_oJ (x := v) (fc_days (ns := ns) (nc := nc) j))).wm
    have sg' : SG g (oJ (cDays ns nc j M) v) := (h.cong eqC.rfl' (fc_oJ (x := v) (fc_days (ns := ns) (nc := nc) j))).sg
    refine go_mdays (M := oJ (cDays ns nc j M) v) wm' sg' hj (h2 _ _ (jn_st hR (by omega) ?_) ?_ (fun _ => ?_))
    · exact ec_oJ.trans (ec_tz.trans (FM.eqC (fm_days j)))
    · exact fo.1
    · refine fo.2.trans ?_
      show v = ((mDays ns nc g j (t0 (oJ (cDays ns nc j M) v))).1 44 0 1).toInt64
      rw [hR.db, ← hv, hR.da]
theorem pair_correct (hJ : Jn k M) {x m : Int32} : PairZ Γ M_L_correct M_X7_correct [vr 0 0, vi x, vi m, vr 84 0] [vr 44 0, vi x, vi m] k M := by
  obtain ⟨ns, nc, g, e, r, n, D, S, h, hD⟩ := hJ
  obtain ⟨⟨he, hr⟩, ⟨a0, b0, a6, b6⟩, -⟩ := h.le
  intro Q' hQ
  refine gh_correct a0 he a6 hr (fun z => hQ 1 M (fun Q2 h2 => ?_)) (fun z z2 => hQ 2 M (fun Q2 h2 => ?_)) (fun z z2 z3 => hQ 0 _ (fun Q2 h2 => ?_)) (fun z z2 z3 => hQ 0 _ (fun Q2 h2 => ?_))
  · exact go_mcorrect b0 he b6 hr (fun _ => h2 0 _ (jn_th h hD) rfl (no1 (by decide))) (fun y => absurd y z) (fun y => absurd y z) (fun y => absurd y z)
  · exact go_mcorrect b0 he b6 hr (fun y => absurd z y) (fun _ _ => h2 0 _ (jn_th h hD) rfl (no1 (by decide))) (fun _ y => absurd y z2) (fun _ y => absurd y z2)
  · exact go_mcorrect (M := oJ M 0) b0 he b6 hr (fun y => absurd z y) (fun _ y => absurd z2 y) (fun _ _ _ => h2 0 _ (jn_tz h hD) rfl (fun _ => rfl)) (fun _ _ y => by omega)
  · obtain ⟨j, hj, rfl, ej⟩ := in_nat (by omega) z
    rw [ej]
    have fc : FC M (cPut M j m (M.1 0 0 13)) := by
      unfold cPut
      exact ((((FC.rfl'.u (by decide)).u (by decide)).j (by decide)).u (by decide)).u (by decide)
    have hB : rIn ns nc g e r n D S (24000 * D) M (t0 (oJ (cPut M j m (M.1 0 0 13)) 1)) := h.cong eqC.rfl' ((fc_oJ fc).trans eqM.tz)
    obtain ⟨-, ⟨-, b0', -, b6'⟩, -⟩ := hB.le
    refine go_mcorrect (M := oJ (cPut M j m (M.1 0 0 13)) 1) b0' he b6' hr (fun y => absurd z y) (fun _ y => absurd z2 y) (fun _ _ y => by omega) (fun _ _ _ => h2 1 _ (jn_st (hB.put hj z3) (by omega) ?_) rfl (fun _ => rfl))
    refine (ec_oJ (x := 1)).trans (FM.eqC ?_)
    unfold mPut
    exact (((FM.tz.u (by decide)).u (by decide)).u (by decide)).u (by decide)
theorem same_end (hJ : Jn k M) {x : Int32} : SameI Γ M_X6_end M_X7_end [vr 0 0, vi x] [vr 44 0, vi x] k M := by
  obtain ⟨ns, nc, g, e, r, n, D, S, h, hD⟩ := hJ
  intro Q' hQ
  obtain ⟨hn, t1, t2, t3, t4, t5⟩ := h.ta
  have et : M.1 1 0 1 = M.1 44 0 44 := t1.trans t2.symm
  refine go_end (fun z => hQ 0 M (fun Q2 h2 => ?_)) (fun z => hQ 1 _ (fun Q2 h2 => ?_))
  · rw [et] at z
    exact go_mend (fun _ => h2 _ (jn_t0 h hD)) (fun y => absurd z y)
  · rw [et] at z
    refine go_mend (M := uI M 1 0 1 x) (fun y => absurd y z) (fun _ => h2 _ ?_)
    rw [t2] at z
    obtain ⟨j, hj, rfl⟩ := nI_of (x := x) (fun y => z (Or.inl y))
    have hjn : j ≤ n := Nat.not_lt.mp (fun y => z (Or.inr (nI_lt y hj)))
    have tA : ∀ t, t ≠ 1 → t ≠ 44 → (uI (t0 (uI M 1 0 1 (nI j))) 44 0 44 (nI j)).1 t = M.1 t := fun t x1 x2 => by
      unfold t0; rw [uI_t x2, uI_t x2, uI_t x1]
    have b44 : ∀ q, q ≠ 0 → q ≠ 44 → (uI (t0 (uI M 1 0 1 (nI j))) 44 0 44 (nI j)).1 44 0 q = M.1 44 0 q := fun q x1 x2 => by
      unfold t0; rw [uI_1, if_neg (by omega), uI_1, if_neg (by omega), uI_1, if_neg (by omega)]
    have hT : rTa j (uI (t0 (uI M 1 0 1 (nI j))) 44 0 44 (nI j)) (uI (t0 (uI M 1 0 1 (nI j))) 44 0 44 (nI j)) := by
      refine ⟨by omega, rfl, rfl, ?_, ?_, ?_⟩
      · rw [tA 2 (by decide) (by decide), tA 81 (by decide) (by decide)]; exact t3
      · rw [tA 0 (by decide) (by decide), b44 49 (by decide) (by decide)]; exact t4
      · rw [b44 48 (by decide) (by decide)]; exact t5
    exact ⟨ns, nc, g, e, r, j, D, S, h.tape (fun t ht => tA t (by omega) (by omega)) (fun q _ => by rw [tA 0 (by decide) (by decide)]) rfl rfl (fun t ht => tA t (by omega) (by omega)) (fun q _ => by rw [tA 67 (by decide) (by decide)]) (fun q hq => b44 q (by omega) (by omega)) rfl hT, by omega⟩
theorem same_feed (hJ : Jn k M) {a b c d f : Int32} : SameI Γ M_X6_feed M_X7_feed [vr 0 0, vi a, vi b, vi c, vi d, vi f] [vr 44 0, vi a, vi b, vi c, vi d, vi f] k M := by
  obtain ⟨ns, nc, g, e, r, n, D, S, h, hD⟩ := hJ
  intro Q' hQ
  obtain ⟨hn, t1, t2, t3, t4, t5⟩ := h.ta
  by_cases hb : n ≤ 380
  · refine go_feed t1 hb (fun M1 f1 e1 e2 => hQ _ M1 (fun Q2 h2 => ?_))
    have g44 : M1.1 44 = M.1 44 := f1.fe.tag (fun _ => by unfold pTape; omega)
    have g81 : M1.1 81 = M.1 81 := f1.fe.tag (fun _ => by unfold pTape; omega)
    refine go_mfeed (by rw [g44]; exact t2) hb (fun M2 f2 e0 e3 e4 => h2 M2 ?_)
    have tA : ∀ t, ¬ (t = 1 ∨ t = 2 ∨ t = 44 ∨ t = 81 ∨ t = 82) → M2.1 t = M.1 t := fun t ht => (f2.fe.tag (fun _ => by unfold pFeedM; omega)).trans (f1.fe.tag (fun _ => by unfold pTape; omega))
    have b44 : ∀ q, q ≠ 0 → q ≠ 44 → M2.1 44 0 q = M.1 44 0 q := fun q x1 x2 => by rw [f2.2 44 0 q (by unfold pFeedM; omega), g44]
    have j2 : M2.2 = M.2 := f2.1.trans f1.1
    have hT : rTa (n + 20) M2 M2 := by
      refine ⟨by omega, ?_, e3, ?_, ?_, ?_⟩
      · rw [f2.2 1 0 1 (by unfold pFeedM; omega)]; exact e1
      · rw [e4, f2.fe.tag (t := 2) (fun _ => by unfold pFeedM; omega), e2, fed_eq, t3, g81]
      · rw [tA 0 (by omega), b44 49 (by decide) (by decide)]; exact t4
      · rw [b44 48 (by decide) (by decide)]; exact t5
    exact ⟨ns, nc, g, e, r, n + 20, D, S, h.tape (fun t ht => tA t (by omega)) (fun q _ => by rw [tA 0 (by omega)]) (by rw [j2]) (by rw [j2]) (fun t ht => tA t (by omega)) (fun q _ => by rw [tA 67 (by omega)]) (fun q hq => b44 q (by omega) (by omega)) (by rw [j2]) hT, by omega⟩
  · refine go_feed_no t1 hn (by omega) (hQ _ M (fun Q2 h2 => ?_))
    exact go_mfeed_no t2 hn (by omega) (h2 _ (jn_t0 h hD))
end PAI2
