/-! What agrees in one memory: other parts of it don't matter; which parts a call reaches. -/
def eqC (A A' : MM) : Prop := (∀ t, (t = 0 ∨ t = 2 ∨ t = 13 ∨ (15 ≤ t ∧ t ≤ 29) ∨ t = 32 ∨ (34 ≤ t ∧ t ≤ 43)) → A'.1 t = A.1 t) ∧ A'.1 1 0 1 = A.1 1 0 1 ∧ A'.2 0 = A.2 0 ∧ A'.2 43 = A.2 43
def eqM (B B' : MM) : Prop := (∀ t, ((45 ≤ t ∧ t ≤ 66) ∨ (68 ≤ t ∧ t ≤ 70) ∨ (72 ≤ t ∧ t ≤ 78) ∨ t = 81) → B'.1 t = B.1 t) ∧ (∀ k, k < 720 → B'.1 67 0 k = B.1 67 0 k) ∧ (∀ k, (k = 1 ∨ k = 7 ∨ k = 11 ∨ k = 26 ∨ k = 36 ∨ k = 40 ∨ k = 44 ∨ k = 48 ∨ k = 49) → B'.1 44 0 k = B.1 44 0 k) ∧ B'.2 79 = B.2 79
/-- the class's parts alone are reached -/
def FC (M M' : MM) : Prop := (∀ t, 44 ≤ t → M'.1 t = M.1 t) ∧ ∀ t, 44 ≤ t → M'.2 t = M.2 t
/-- the reference's parts alone are reached -/
def FM (M M' : MM) : Prop := (∀ t, t < 44 → M'.1 t = M.1 t) ∧ ∀ t, t < 44 → M'.2 t = M.2 t
theorem uJ_t {M : MM} {t i k : Nat} {x : Int64} {a : Nat} (h : a ≠ t) : (uJ M t i k x).2 a = M.2 a := by
  funext b c
  rw [uJ_2, if_neg (fun z => h z.1)]
section CONG
variable {A A' A2 B B' M M' : MM} {ns nc g e r n D S X : Nat}
theorem eqC.rfl' : eqC A A := ⟨fun _ _ => rfl, rfl, rfl, rfl⟩
theorem eqM.rfl' : eqM A A := ⟨fun _ _ => rfl, fun _ _ => rfl, fun _ _ => rfl, rfl⟩
theorem rOr.of' (h : rOr nc A B) (hn : nc ≤ 12) (a : ∀ t, 16 ≤ t → t ≤ 21 → A'.1 t = A.1 t) (b : ∀ k, k < 720 → B'.1 67 0 k = B.1 67 0 k) : rOr nc A' B' := fun c hc => by
  obtain ⟨l, h1, h2, h3⟩ := h c hc
  exact ⟨l, h1, by rw [a 16 (by decide) (by decide)]; exact h2, fun i hi => ⟨(h3 i hi).1, (h3 i hi).2.1.of (fun t x y => a t (by omega) y), (h3 i hi).2.2.of (fun k hk => b _ (by omega))⟩⟩
theorem rIn.cong (h : rIn ns nc g e r n D S X A B) (hA : eqC A A') (hB : eqM B B') : rIn ns nc g e r n D S X A' B' := by
  obtain ⟨tA, a1, j0, j43⟩ := hA
  obtain ⟨tB, b67, b44, j79⟩ := hB
  have a0 : A'.1 0 = A.1 0 := tA 0 (by omega)
  have wc : WC ns nc A' := h.wc.of (by rw [a0]) (by rw [a0]) (fun c => by rw [tA 15 (by omega)]) (fun c => by rw [tA 15 (by omega)]) (fun c => by rw [tA 16 (by omega)]) (fun c => by rw [tA 25 (by omega)]) (fun c => by rw [tA 22 (by omega)]) (by rw [tA 35 (by omega)]; exact h.wc.en)
  have wm : WM ns nc B' := h.wm.of (fun t k hp => by
    unfold pWM at hp
    by_cases z : t = 44
    · subst z; exact b44 k (by omega)
    · rw [tB t (by omega)])
  refine ⟨⟨wc, wm, ⟨h.sg.1, by rw [b44 11 (by omega)]; exact h.sg.2⟩, by rw [a0]; exact h.a7⟩, ⟨by rw [a0]; exact h.da, by rw [b44 1 (by omega)]; exact h.db, h.dl, ?_⟩, ?_, ?_, ?_, ?_, ?_, ?_, ?_, ?_, ?_, ?_, ?_, ?_, ?_⟩
  · rw [carr_of (A := A) (fun c => by rw [tA 15 (by omega)])]; exact h.bx
  · exact h.st.of (tA 13 (by omega)) (tB 45 (by omega)) (tB 46 (by omega)) (tB 47 (by omega)) (tB 48 (by omega)) (tB 49 (by omega))
  · exact h.mkt.of (fun s k _ => by rw [tA 13 (by omega)])
  · exact h.sg'.of (tA 32 (by omega)) (tB 50 (by omega)) (tB 51 (by omega)) (tB 52 (by omega))
  · exact h.lo.of (tA 34 (by omega)) (tB 53 (by omega))
  · exact h.ca.of (tA 15 (by omega)) (tA 16 (by omega)) (fun t h1 h2 h3 h4 h5 => tB t (by omega))
  · exact h.bd.of (tA 15 (by omega))
  · exact h.kn.of (tA 28 (by omega)) (tA 29 (by omega)) (by rw [a0]; exact Int32.le_refl _) (tB 65 (by omega)) (tB 66 (by omega))
  · exact h.or.of' h.wc.lc (fun t h1 h2 => tA t (by omega)) b67
  · exact h.ds.of (fun t h1 h2 => tA t (by omega)) (tB 69 (by omega)) (tB 70 (by omega))
  · exact h.le.fr (fun t h1 h2 => by rw [tA t (by omega)]) (by rw [j43]) (by rw [a0]) (fun t h1 h2 => by rw [tB t (by omega)]) (b44 36 (by omega)) (b44 40 (by omega))
  · exact h.su.of (by rw [j0]) (by rw [j79])
  · exact h.ta.of a1 (tA 2 (by omega)) (by rw [a0]) (tB 81 (by omega)) (b44 44 (by omega)) (b44 48 (by omega)) (b44 49 (by omega))
  · exact h.wl.of (tA 13 (by omega))
theorem FC.rfl' : FC M M := ⟨fun _ _ => rfl, fun _ _ => rfl⟩
theorem FM.rfl' : FM M M := ⟨fun _ _ => rfl, fun _ _ => rfl⟩
theorem FC.trans (h : FC A A') (h2 : FC A' A2) : FC A A2 := ⟨fun t ht => (h2.1 t ht).trans (h.1 t ht), fun t ht => (h2.2 t ht).trans (h.2 t ht)⟩
theorem FM.trans (h : FM A A') (h2 : FM A' A2) : FM A A2 := ⟨fun t ht => (h2.1 t ht).trans (h.1 t ht), fun t ht => (h2.2 t ht).trans (h.2 t ht)⟩
theorem FC.u {t i k : Nat} {x : Int32} (h : FC A A') (ht : t < 44) : FC A (uI A' t i k x) := ⟨fun a ha => (uI_t (by omega)).trans (h.1 a ha), fun a ha => h.2 a ha⟩
theorem FC.j {t i k : Nat} {x : Int64} (h : FC A A') (ht : t < 44) : FC A (uJ A' t i k x) := ⟨fun a ha => h.1 a ha, fun a ha => (uJ_t (by omega)).trans (h.2 a ha)⟩
theorem FC.c {t i u j n : Nat} (h : FC A A') (hu : u < 44) : FC A (uC A' t i u j n) := ⟨fun a ha => (funext fun b => funext fun c => by rw [uC_1, if_neg (fun z => by omega)] : (uC A' t i u j n).1 a = A'.1 a).trans (h.1 a ha), fun a ha => h.2 a ha⟩
theorem FM.u {t i k : Nat} {x : Int32} (h : FM A A') (ht : 44 ≤ t) : FM A (uI A' t i k x) := ⟨fun a ha => (uI_t (by omega)).trans (h.1 a ha), fun a ha => h.2 a ha⟩
theorem FM.j {t i k : Nat} {x : Int64} (h : FM A A') (ht : 44 ≤ t) : FM A (uJ A' t i k x) := ⟨fun a ha => h.1 a ha, fun a ha => (uJ_t (by omega)).trans (h.2 a ha)⟩
theorem FC.rep {f : Nat → MM → MM} (hf : ∀ i M, FC M (f i M)) (n : Nat) (M : MM) : FC M (rep f n M) := rep_inv (P := fun A => FC M A) FC.rfl' (fun i A _ h => h.trans (hf i A))
theorem FM.rep {f : Nat → MM → MM} (hf : ∀ i M, FM M (f i M)) (n : Nat) (M : MM) : FM M (rep f n M) := rep_inv (P := fun A => FM M A) FM.rfl' (fun i A _ h => h.trans (hf i A))
theorem FC.fr {P : Nat → Nat → Prop} (h : Fr P A A') (hp : ∀ t k, P t k → t < 44) : FC A A' := ⟨fun t ht => h.fe.tag (fun k z => by have := hp t k z; omega), fun t _ => by rw [h.1]⟩
theorem FM.fr {P : Nat → Nat → Prop} (h : Fr P A A') (hp : ∀ t k, P t k → 44 ≤ t) : FM A A' := ⟨fun t ht => h.fe.tag (fun k z => by have := hp t k z; omega), fun t _ => by rw [h.1]⟩
theorem FC.know (h : eqK A A') : FC A A' := ⟨fun t ht => h.2 t (by omega) (by omega), fun t _ => by rw [h.1]⟩
theorem FM.know (h : eqKM A A') : FM A A' := ⟨fun t ht => h.2 t (by omega) (by omega), fun t _ => by rw [h.1]⟩
theorem FC.eqM (h : FC M M') : eqM M M' := ⟨fun t ht => h.1 t (by omega), fun k _ => by rw [h.1 67 (by decide)], fun k _ => by rw [h.1 44 (by decide)], h.2 79 (by decide)⟩
theorem FM.eqC (h : FM M M') : eqC M M' := ⟨fun t ht => h.1 t (by omega), by rw [h.1 1 (by decide)], h.2 0 (by decide), h.2 43 (by decide)⟩
theorem eqM.tz : eqM M (t0 M) := ⟨fun t ht => uI_t (by omega), fun k _ => rfl, fun k hk => by unfold t0; rw [uI_1, if_neg (by omega)], rfl⟩
theorem eqM.trans (h : eqM A A') (h2 : eqM A' A2) : eqM A A2 := ⟨fun t ht => (h2.1 t ht).trans (h.1 t ht), fun k hk => (h2.2.1 k hk).trans (h.2.1 k hk), fun k hk => (h2.2.2.1 k hk).trans (h.2.2.1 k hk), h2.2.2.2.trans h.2.2.2⟩
theorem eqM.thr {x : Int32} : eqM M (uI M 44 0 0 x) := ⟨fun t ht => uI_t (by omega), fun k _ => rfl, fun k hk => by rw [uI_1, if_neg (by omega)], rfl⟩
theorem FM.tz : FM M (t0 M) := FM.rfl'.u (by decide)
theorem fc_trav {c : Nat} : FC M (cTrav1 c M) := by
  have hA : FC M (cTrA c M) := by unfold cTrA cDrink; exact ((FC.rfl'.u (by decide)).u (by decide)).j (by decide)
  have hB : FC M (cTrB c M) := by unfold cTrB cDrop; exact hA.u (by decide)
  have hC : FC M (cTrC c M) := by unfold cTrC; exact (hB.j (by decide)).u (by decide)
  have hD : FC M (cTrD c M) := by
    unfold cTrD; split
    · exact hB
    · exact hC.trans (FC.fr (fr_loss _ _ _ _) (fun t k h => by unfold pE at h; omega))
  unfold cTrav1; split
  · unfold cTravel cGoOn; split
    · split
      · exact hD.u (by decide)
      · exact ((hD.u (by decide)).u (by decide)).u (by decide)
    · exact (hD.u (by decide)).u (by decide)
  · exact FC.rfl'
theorem fc_ord {c : Nat} : FC M (cOrd1 c M) := by
  unfold cOrd1; split
  · unfold cOrder; split
    · exact FC.rfl'
    · split
      · split
        · have h1 : FC M (uI M 15 c 10 (M.1 15 c 10 + 1)) := FC.rfl'.u (by decide)
          split
          · refine h1.trans ?_
            generalize uI M 15 c 10 (M.1 15 c 10 + 1) = N
            unfold cAct; split
            · unfold cSet; split
              · split
                · exact FC.rfl'
                · unfold cSetOut cCount
                  exact (((((((((FC.rfl'.u (by decide)).u (by decide)).u (by decide)).u (by decide)).u (by decide)).u (by decide)).u (by decide)).u (by decide)).c (by decide)).c (by decide)
              · exact FC.rfl'
            · split
              · unfold cLoad; split
                · exact (FC.rfl'.u (by decide)).j (by decide)
                · exact FC.rfl'
              · split
                · unfold cSell; split
                  · refine FC.trans ?_ (FC.fr (fr_shares _ _ _ _) (fun t k h => by unfold pE at h; omega))
                    unfold cSellM
                    exact (((FC.rfl'.u (by decide)).u (by decide)).j (by decide)).j (by decide)
                  · exact FC.rfl'
                · split
                  · unfold cStartWait; split
                    · exact FC.rfl'
                    · exact (FC.rfl'.u (by decide)).u (by decide)
                  · split
                    · exact FC.rfl'.u (by decide)
                    · exact FC.rfl'
          · exact h1
        · unfold cWaitOn; split
          · exact FC.rfl'.u (by decide)
          · exact (FC.rfl'.u (by decide)).u (by decide)
      · exact FC.rfl'
  · exact FC.rfl'
theorem fc_day : FC M (cDay ns nc M) := by
  unfold cDay
  have h1 : FC M (cD1 M) := FC.rfl'.u (by decide)
  have h2 : ∀ M, FC M (cD2 ns M) := FC.rep (fun i M => (FC.rfl'.u (by decide)).u (by decide)) ns
  have h3 : ∀ M, FC M (cD3 nc M) := FC.rep (fun i M => fc_trav) nc
  have h4 : ∀ M, FC M (cD4 nc M) := fun M => FC.know (eqK_rep eqK_see nc M)
  have h5 : ∀ M, FC M (cD5 ns nc M) := fun M => FC.know (eqK_rep (eqK_let ns nc) nc M)
  have h6 : ∀ M, FC M (cD6 ns nc M) := fun M => FC.fr ((Fr.rep fr_cRoom1 nc M).trans (Fr.rep (fr_cWell1 nc) ns _)) (fun t k h => by unfold pW at h; omega)
  have h7 : ∀ M, FC M (cD7 nc M) := FC.rep (fun i M => fc_ord) nc
  exact (((((h1.trans (h2 _)).trans (h3 _)).trans (h4 _)).trans (h5 _)).trans (h6 _)).trans (h7 _)
theorem fc_days : ∀ k, FC M (cDays ns nc k M)
  | 0 => FC.rfl'
  | k + 1 => (fc_days k).trans fc_day
theorem fm_trav {x : Int32} : FM M (mTrav1 x M) := by
  have hA : FM M (mTrA x M) := by unfold mTrA; exact ((FM.rfl'.u (by decide)).u (by decide)).j (by decide)
  have hD : FM M (mTrD x M) := by
    unfold mTrD; split
    · exact hA
    · refine FM.trans ?_ (FM.fr (fr_mloss _ _ _) (fun t k h => by unfold pMW at h; omega))
      unfold mTrC
      exact ((hA.u (by decide)).j (by decide)).u (by decide)
  unfold mTrav1; split
  · unfold mTravel mGo; split
    · exact (hD.u (by decide)).u (by decide)
    · split
      · exact ((hD.u (by decide)).u (by decide)).u (by decide)
      · exact hD.u (by decide)
  · exact FM.rfl'
theorem fm_dr {a : Nat} : ∀ k (M : MM), FM M (mDr a k M)
  | 0, M => FM.rfl'
  | k + 1, M => by
    rw [show mDr a (k + 1) M = if mDb M a < 0 then M else mDr a k (mDr2 M (mDb M a)) from rfl]
    split
    · exact FM.rfl'
    · refine FM.trans ?_ (fm_dr k _)
      unfold mDr2
      exact ((FM.rfl'.u (by decide)).u (by decide)).u (by decide)
theorem fm_acts {a m x : Int32} : FM M (mActs ns g x a m M) := by
  unfold mActs; split
  · unfold mGoA
    refine FM.trans ?_ (FM.rep (fun i M => FM.rfl'.u (by decide)) 9 _)
    unfold mGo3
    exact (((FM.rfl'.u (by decide)).u (by decide)).u (by decide)).u (by decide)
  · split
    · unfold mLoad
      exact (FM.rfl'.u (by decide)).j (by decide)
    · split
      · have h1 : ∀ s k (M : MM), FM M (mIncs s k M) := fun s k M => FM.rep (fun i M => FM.rfl'.u (by decide)) k M
        have h2 : FM M (mSellM x m M) := by
          unfold mSellM
          exact (((h1 _ _ M).u (by decide)).j (by decide)).j (by decide)
        unfold mSell; split
        · exact h2
        · exact h2.trans (FM.fr (fr_mPays _) (fun t k h => by unfold pMW at h; omega))
      · exact FM.rfl'
theorem fm_turn {x : Int32} : FM M (mTurn1 ns g x M) := by
  unfold mTurn1; split
  · unfold mTurns; split
    · split
      · split
        · split
          · exact FM.rfl'.u (by decide)
          · split
            · exact FM.rfl'.u (by decide)
            · exact FM.trans (FM.rfl'.u (by decide)) fm_acts
        · exact FM.rfl'.u (by decide)
      · exact FM.rfl'
    · split
      · exact (FM.rfl'.u (by decide)).u (by decide)
      · exact FM.rfl'.u (by decide)
  · exact FM.rfl'
theorem fm_pass {x : Int32} : FM M (mPass2 x (mPass1 x M)) := by
  have h1 : FM M (mPass1 x M) := by
    unfold mPass1; split
    · exact FM.rfl'.u (by decide)
    · exact FM.rfl'
  refine h1.trans ?_
  unfold mPass2; split
  · exact FM.rfl'.u (by decide)
  · exact FM.rfl'
theorem fm_share {k : Nat} {s m : Int32} : FM M (mShares k s m M) := by
  unfold mShares; split
  · exact FM.rfl'
  · exact FM.know (eqKM_rep (fun i M => eqKM_copy _ _ _ i M) k M)
theorem fm_day : FM M (mDay ns nc g M) := by
  unfold mDay
  have h1 : FM M (mD1 M) := FM.rfl'.u (by decide)
  have h2 : ∀ M, FM M (mD2 ns M) := FM.rep (fun i M => fm_pass) ns
  have h3 : ∀ M, FM M (mD3 nc M) := FM.rep (fun i M => fm_trav) nc
  have h4 : ∀ M, FM M (mD4 nc M) := fun M => FM.know (eqKM_rep (fun _ M => eqKM_see _ M) nc M)
  have h5 : ∀ M, FM M (mLet ns nc M) := FM.rep (fun i M => FM.rep (fun i M => fm_share) ns M) ns
  have h6 : ∀ M, FM M (mD6 nc M) := fun M => FM.trans (FM.rep (fun i M => by
    unfold mDr1; split
    · split
      · exact FM.rfl'.u (by decide)
      · exact (FM.rfl'.u (by decide)).u (by decide)
    · exact FM.rfl'.u (by decide)) nc M) (fm_dr nc _)
  have h7 : ∀ M, FM M (mD7 ns g nc M) := FM.rep (fun i M => fm_turn) nc
  exact (((((h1.trans (h2 _)).trans (h3 _)).trans (h4 _)).trans (h5 _)).trans (h6 _)).trans (h7 _)
theorem fm_days : ∀ k, FM M (mDays ns nc g k M)
  | 0 => FM.rfl'
  | k + 1 => (fm_days k).trans fm_day
end CONG
