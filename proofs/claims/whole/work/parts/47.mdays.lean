/-! The reference: days. -/
section SGS
variable {M : MM} {c ns nc n p g : Nat} {x : Int32}
theorem SG.u {t i k : Nat} {y : Int32} (h : SG g M) (hp : ¬ (t = 44 ∧ k = 11)) : SG g (uI M t i k y) := ⟨h.1, by rw [uI_1, if_neg (fun e => hp ⟨e.1.symm, e.2.2.symm⟩)]; exact h.2⟩
theorem SG.j {t i k : Nat} {y : Int64} (h : SG g M) : SG g (uJ M t i k y) := h
theorem rep_SG {f : Nat → MM → MM} {n : Nat} (h : SG g M) (hf : ∀ i A, SG g A → SG g (f i A)) : SG g (rep f n M) := rep_inv h (fun i A _ => hf i A)
theorem SG.wr {y p m : Int32} (h : SG g M) : SG g (mWr M y p m) := h.frame (fr_mWr M y p m) (by unfold pMW; omega)
theorem SG.trA (h : SG g M) : SG g (mTrA x M) := ((h.u (by omega)).u (by omega)).j
theorem SG.trC {y : Int32} (h : SG g M) : SG g (mTrC x M y) := ((h.u (by omega)).j).u (by omega)
theorem SG.loss {y : Int32} (h : SG g M) : SG g (mLoss x M y) := by
  unfold mLoss; split
  · exact h
  · split
    · exact h
    · exact h.wr
theorem SG.go (h : SG g M) : SG g (mGo x M) := by
  unfold mGo; split
  · exact (h.u (by omega)).u (by omega)
  · split
    · exact ((h.u (by omega)).u (by omega)).u (by omega)
    · exact h.u (by omega)
theorem SG.trav (h : SG g M) : SG g (mTrav1 x M) := by
  unfold mTrav1; split
  · unfold mTravel mTrD; split
    · exact h.trA.go
    · exact h.trA.trC.loss.go
  · exact h
theorem SG.see (h : SG g M) : SG g (mSee1 x M) := by
  unfold mSee1; split
  · split
    · exact (h.u (by omega)).u (by omega)
    · exact h
  · exact h
theorem SG.copy {s m b : Int32} {i : Nat} (h : SG g M) : SG g (mCopy s m b i M) := by
  unfold mCopy; split
  · exact (h.u (by omega)).u (by omega)
  · exact h
theorem SG.shares {k : Nat} {s m : Int32} (h : SG g M) : SG g (mShares k s m M) := by
  unfold mShares; split
  · exact h
  · exact rep_SG h (fun _ _ h => h.copy)
theorem SG.let' {a b : Nat} (h : SG g M) : SG g (mLet a b M) := rep_SG h (fun _ _ h => rep_SG h (fun _ _ h => h.shares))
theorem SG.dr1 (h : SG g M) : SG g (mDr1 x M) := by
  unfold mDr1; split
  · split
    · exact h.u (by omega)
    · exact (h.u (by omega)).u (by omega)
  · exact h.u (by omega)
theorem SG.dr {a : Nat} : ∀ (k : Nat) {M : MM}, SG g M → SG g (mDr a k M)
  | 0, _, h => h
  | k + 1, _, h => by
    unfold mDr; split
    · exact h
    · exact SG.dr k (((h.u (by omega)).u (by omega)).u (by omega))
theorem SG.pass (h : SG g M) : SG g (mPass2 x (mPass1 x M)) := by
  have h1 : SG g (mPass1 x M) := by
    unfold mPass1; split
    · exact h.u (by omega)
    · exact h
  unfold mPass2; split
  · exact h1.u (by omega)
  · exact h1
theorem SG.pays {m : Int32} (h : SG g M) : SG g (mPays M x m) := by
  unfold mPays; split
  · exact h.wr
  · exact rep_SG h (fun _ _ h => h.wr)
theorem SG.sellM {n : Int32} (h : SG g M) : SG g (mSellM x n M) := (((rep_SG h (fun _ _ h => h.u (by omega))).u (by omega)).j).j
theorem SG.acts {a n : Int32} {g' : Nat} (h : SG g M) : SG g (mActs ns g' x a n M) := by
  unfold mActs; split
  · exact rep_SG ((((h.u (by omega)).u (by omega)).u (by omega)).u (by omega)) (fun _ _ h => h.u (by omega))
  · split
    · exact (h.u (by omega)).j
    · split
      · unfold mSell; split
        · exact h.sellM
        · exact h.sellM.pays
      · exact h
theorem SG.turn {g' : Nat} (h : SG g M) : SG g (mTurn1 ns g' x M) := by
  unfold mTurn1; split
  · unfold mTurns; split
    · split
      · split
        · split
          · exact h.u (by omega)
          · split
            · exact h.u (by omega)
            · exact (h.u (by omega)).acts
        · exact h.u (by omega)
      · exact h
    · split
      · exact (h.u (by omega)).u (by omega)
      · exact h.u (by omega)
  · exact h
theorem WM.trav (h : WM ns nc M) : WM ns nc (mTrav1 x M) := by
  unfold mTrav1; split
  · exact h.travel
  · exact h
theorem WM.turn1 (h : WM ns nc M) (hc : c < nc) (hx : x = nI c) : WM ns nc (mTurn1 ns g x M) := by
  unfold mTurn1; split
  · exact h.turns hc hx
  · exact h
theorem WM.pass1 (h : WM ns nc M) : WM ns nc (mPass1 x M) := by
  unfold mPass1; split
  · exact h.u (fun k => by unfold pWM; omega)
  · exact h
theorem WM.pass (h : WM ns nc M) : WM ns nc (mPass2 x (mPass1 x M)) := by
  unfold mPass2; split
  · exact h.pass1.u (fun k => by unfold pWM; omega)
  · exact h.pass1
theorem WM.md1 (h : WM ns nc M) : WM ns nc (mD1 M) := h.of (fun t k hk => by unfold pWM at hk; unfold mD1; rw [uI_1, if_neg (by omega)])
theorem WM.md2 (h : WM ns nc M) (k : Nat) : WM ns nc (mD2 k M) := rep_WM h (fun _ _ _ h => h.pass)
theorem WM.md3 (h : WM ns nc M) (k : Nat) : WM ns nc (mD3 k M) := rep_WM h (fun _ _ _ h => h.trav)
theorem WM.md4 (h : WM ns nc M) (k : Nat) : WM ns nc (mD4 k M) := rep_WM h (fun _ _ _ h => h.see)
theorem WM.mlet (h : WM ns nc M) : WM ns nc (mLet ns nc M) := rep_WM h (fun _ _ _ h => h.letS)
theorem WM.md6 (h : WM ns nc M) : WM ns nc (mD6 nc M) := WM.dr nc (rep_WM h (fun _ _ _ h => h.dr1))
theorem WM.md7 (h : WM ns nc M) (k : Nat) (hk : k ≤ nc) : WM ns nc (mD7 ns g k M) := rep_WM h (fun i _ hi h => h.turn1 (c := i) (by omega) rfl)
theorem WM.mday (h : WM ns nc M) : WM ns nc (mDay ns nc g M) := (((((h.md1).md2 ns).md3 nc).md4 nc).mlet.md6).md7 nc (Nat.le_refl _)
theorem WM.mdays (h : WM ns nc M) : ∀ k, WM ns nc (mDays ns nc g k M)
  | 0 => h
  | k + 1 => (WM.mdays h k).mday
theorem SG.md1 (h : SG g M) : SG g (mD1 M) := h.u (by omega)
theorem SG.md2 (h : SG g M) (k : Nat) : SG g (mD2 k M) := rep_SG h (fun _ _ h => h.pass)
theorem SG.md3 (h : SG g M) (k : Nat) : SG g (mD3 k M) := rep_SG h (fun _ _ h => h.trav)
theorem SG.md4 (h : SG g M) (k : Nat) : SG g (mD4 k M) := rep_SG h (fun _ _ h => h.see)
theorem SG.md6 {a : Nat} (h : SG g M) : SG g (mD6 a M) := SG.dr a (rep_SG h (fun _ _ h => h.dr1))
theorem SG.md7 {g' : Nat} (h : SG g M) (k : Nat) : SG g (mD7 ns g' k M) := rep_SG h (fun _ _ h => h.turn)
theorem SG.mday {g' : Nat} (h : SG g M) : SG g (mDay ns nc g' M) := (((((h.md1).md2 ns).md3 nc).md4 nc).let'.md6).md7 nc
theorem SG.mdays {g' : Nat} (h : SG g M) : ∀ k, SG g (mDays ns nc g' k M)
  | 0 => h
  | k + 1 => (SG.mdays h k).mday
end SGS
section MDYS
variable {Γ : GG} {M : MM} {Q : Out → Mem → Prop} {c ns nc n p g : Nat} {σ : Mem} {x : Int32}
/-- one day of the reference's days: from its loop's head (34) with a day left -/
theorem go_mday {k n : Int32} (hW : WM ns nc M) (hS : SG g M) (hk : ¬ n ≤ k) (h : Go Γ M_X7_days 34 [(2, vi (k + 1)), (1, vi n), (0, vr 44 0)] [] (mk (mDay ns nc g M)) (0, 0) Q) : Go Γ M_X7_days 34 [(2, vi k), (1, vi n), (0, vr 44 0)] [] (mk M) (0, 0) Q := by
  have hlc := hW.lc
  have hls := hW.ls
  unfold mDay at h
  refine go_step [51] 60 ?_; intro G K hG hK
  refine ⟨fun (q : n ≤ k) => absurd q hk, fun _ => ?_⟩
  refine hK _ _ _ _ _ (go_bus (lv' := [(3, vi (nI 0)), (2, vi k), (1, vi n), (0, vr 44 0)]) ?_ ⟨rfl, rfl, rfl, rfl, trivial⟩)
  have hW1 : WM ns nc (mD1 M) := hW.md1
  have hS1 : SG g (mD1 M) := hS.md1
  show Go Γ M_X7_days 51 _ [] (mk (mD1 M)) (0, 0) Q
  generalize mD1 M = M1 at h hW1 hS1 ⊢
  refine loop_up (P := fun i => Go Γ M_X7_days 51 [(3, vi (nI i)), (2, vi k), (1, vi n), (0, vr 44 0)] [] (mk (mD2 i M1)) (0, 0) Q) (n := ns) (fun i hi ih => ?_) ?_
  · have hW' : WM ns nc (mD2 i M1) := hW1.md2 i
    have ih : Go Γ M_X7_days 51 [(3, vi (nI (i + 1))), (2, vi k), (1, vi n), (0, vr 44 0)] [] (mk (mPass2 (nI i) (mPass1 (nI i) (mD2 i M1)))) (0, 0) Q := ih
    generalize mD2 i M1 = A at ih hW' ⊢
    have hv : vp_in (nI i) 12 := in12 (n := i) (by omega) rfl
    have h97 : ∀ B : MM, Go Γ M_X7_days 51 [(3, vi (nI (i + 1))), (2, vi k), (1, vi n), (0, vr 44 0)] [] (mk (mPass2 (nI i) B)) (0, 0) Q → Go Γ M_X7_days 97 [(3, vi (nI i)), (2, vi k), (1, vi n), (0, vr 44 0)] [] (mk B) (0, 0) Q := fun B ih => by
      unfold mPass2 at ih
      refine go_step [51] 60 ?_; intro G K hG hK
      refine ⟨hv, ?_⟩
      refine ⟨fun (g1 : ¬ B.1 45 0 (cl (nI i)) = 3) => ?_, fun (g1 : ¬ ¬ B.1 45 0 (cl (nI i)) = 3) => ?_⟩
      · rw [if_neg g1] at ih
        exact hK _ _ _ _ _ (go_bus ih ⟨lvi (nI_1 i), rfl, rfl, rfl, trivial⟩)
      · rw [if_pos (Decidable.not_not.mp g1)] at ih
        exact ⟨hv, hv, hv, hK _ _ _ _ _ (go_bus ih ⟨lvi (nI_1 i), rfl, rfl, rfl, trivial⟩)⟩
    have ih := h97 _ ih
    unfold mPass1 at ih
    refine go_step [97] 60 ?_; intro G K hG hK
    refine ⟨fun (q : A.1 44 0 7 ≤ nI i) => ?_, fun _ => ?_⟩
    · rw [hW'.n7] at q; exact absurd q (nI_ge hi (by omega))
    refine ⟨hv, ?_⟩
    refine ⟨fun (g1 : ¬ A.1 45 0 (cl (nI i)) = 2) => ?_, fun (g1 : ¬ ¬ A.1 45 0 (cl (nI i)) = 2) => ?_⟩
    · rw [if_neg g1] at ih
      exact hK _ _ _ _ _ (go_bus ih ⟨rfl, rfl, rfl, rfl, trivial⟩)
    · rw [if_pos (Decidable.not_not.mp g1)] at ih
      exact ⟨hv, hv, hv, hv, hK _ _ _ _ _ (go_bus ih ⟨rfl, rfl, rfl, rfl, trivial⟩)⟩
  have hW2 : WM ns nc (mD2 ns M1) := hW1.md2 ns
  have hS2 : SG g (mD2 ns M1) := hS1.md2 ns
  generalize mD2 ns M1 = M2 at h hW2 hS2 ⊢
  refine go_step [138] 60 ?_; intro G K hG hK
  refine ⟨fun _ => ?_, fun (q : ¬ M2.1 44 0 7 ≤ nI ns) => ?_⟩
  rotate_left
  · rw [hW2.n7] at q; exact absurd (Int32.le_refl _) q
  refine hK _ _ _ _ _ (go_bus (lv' := [(3, vi (nI 0)), (2, vi k), (1, vi n), (0, vr 44 0)]) ?_ ⟨rfl, rfl, rfl, rfl, trivial⟩)
  refine loop_up (P := fun i => Go Γ M_X7_days 138 [(3, vi (nI i)), (2, vi k), (1, vi n), (0, vr 44 0)] [] (mk (mD3 i M2)) (0, 0) Q) (n := nc) (fun i hi ih => ?_) ?_
  · have hW' : WM ns nc (mD3 i M2) := hW2.md3 i
    have ih : Go Γ M_X7_days 138 [(3, vi (nI (i + 1))), (2, vi k), (1, vi n), (0, vr 44 0)] [] (mk (mTrav1 (nI i) (mD3 i M2))) (0, 0) Q := ih
    generalize mD3 i M2 = A at ih hW' ⊢
    have hv : vp_in (nI i) 12 := in12 (n := i) (by omega) rfl
    unfold mTrav1 at ih
    refine go_step [138] 60 ?_; intro G K hG hK
    refine ⟨fun (q : A.1 44 0 26 ≤ nI i) => ?_, fun _ => ?_⟩
    · rw [hW'.n26] at q; exact absurd q (nI_ge hi (by omega))
    refine ⟨hv, ?_⟩
    refine ⟨fun (g1 : ¬ A.1 58 0 (cl (nI i)) = 1) => ?_, fun (g1 : ¬ ¬ A.1 58 0 (cl (nI i)) = 1) => ?_⟩
    · rw [if_neg g1] at ih
      exact hK _ _ _ _ _ (go_bus ih ⟨lvi (nI_1 i), rfl, rfl, rfl, trivial⟩)
    · rw [if_pos (Decidable.not_not.mp g1)] at ih
      refine hG _ _ _ _ (go_travels hW' hi rfl ?_)
      exact hK _ _ _ _ _ (go_bus ih ⟨lvi (nI_1 i), rfl, rfl, rfl, trivial⟩)
  have hW3 : WM ns nc (mD3 nc M2) := hW2.md3 nc
  have hS3 : SG g (mD3 nc M2) := hS2.md3 nc
  generalize mD3 nc M2 = M3 at h hW3 hS3 ⊢
  refine go_step [177] 60 ?_; intro G K hG hK
  refine ⟨fun _ => ?_, fun (q : ¬ M3.1 44 0 26 ≤ nI nc) => ?_⟩
  rotate_left
  · rw [hW3.n26] at q; exact absurd (Int32.le_refl _) q
  refine hG _ _ _ _ (go_mletters hW3 ?_)
  refine hG _ _ _ _ (go_drinks (hW3.md4 nc).mlet ?_)
  refine hK _ _ _ _ _ (go_bus (lv' := [(3, vi (nI 0)), (2, vi k), (1, vi n), (0, vr 44 0)]) ?_ ⟨rfl, rfl, rfl, rfl, trivial⟩)
  have hW6 : WM ns nc (mD6 nc (mLet ns nc (mD4 nc M3))) := (hW3.md4 nc).mlet.md6
  have hS6 : SG g (mD6 nc (mLet ns nc (mD4 nc M3))) := (hS3.md4 nc).let'.md6
  show Go Γ M_X7_days 177 _ [] (mk (mD6 nc (mLet ns nc (mD4 nc M3)))) (0, 0) Q
  generalize mD6 nc (mLet ns nc (mD4 nc M3)) = M6 at h hW6 hS6 ⊢
  refine loop_up (P := fun i => Go Γ M_X7_days 177 [(3, vi (nI i)), (2, vi k), (1, vi n), (0, vr 44 0)] [] (mk (mD7 ns g i M6)) (0, 0) Q) (n := nc) (fun i hi ih => ?_) ?_
  · have hW' : WM ns nc (mD7 ns g i M6) := hW6.md7 i (by omega)
    have hS' : SG g (mD7 ns g i M6) := hS6.md7 i
    have ih : Go Γ M_X7_days 177 [(3, vi (nI (i + 1))), (2, vi k), (1, vi n), (0, vr 44 0)] [] (mk (mTurn1 ns g (nI i) (mD7 ns g i M6))) (0, 0) Q := ih
    generalize mD7 ns g i M6 = A at ih hW' hS' ⊢
    have hv : vp_in (nI i) 12 := in12 (n := i) (by omega) rfl
    unfold mTurn1 at ih
    refine go_step [177] 60 ?_; intro G K hG hK
    refine ⟨fun (q : A.1 44 0 26 ≤ nI i) => ?_, fun _ => ?_⟩
    · rw [hW'.n26] at q; exact absurd q (nI_ge hi (by omega))
    refine ⟨hv, ?_⟩
    refine ⟨fun (g1 : ¬ A.1 58 0 (cl (nI i)) = 0) => ?_, fun (g1 : ¬ ¬ A.1 58 0 (cl (nI i)) = 0) => ?_⟩
    · rw [if_neg g1] at ih
      exact hK _ _ _ _ _ (go_bus ih ⟨lvi (nI_1 i), rfl, rfl, rfl, trivial⟩)
    · rw [if_pos (Decidable.not_not.mp g1)] at ih
      refine hG _ _ _ _ (go_turns hW' hS' hi rfl ?_)
      exact hK _ _ _ _ _ (go_bus ih ⟨lvi (nI_1 i), rfl, rfl, rfl, trivial⟩)
  · have hW' : WM ns nc (mD7 ns g nc M6) := hW6.md7 nc (Nat.le_refl _)
    refine go_step [34] 60 ?_; intro G K hG hK
    refine ⟨fun _ => ?_, fun (q : ¬ (mD7 ns g nc M6).1 44 0 26 ≤ nI nc) => ?_⟩
    · exact hK _ _ _ _ _ (go_bus h ⟨rfl, rfl, rfl, trivial⟩)
    · rw [hW'.n26] at q; exact absurd (Int32.le_refl _) q
theorem go_mdays_bad {n : Int32} (hb : ¬ (0 ≤ n ∧ n ≤ 200)) (h : Q (rI 0) (mk (uI (uI M 44 0 0 0) 44 0 0 1))) : Gm Γ M_X7_days [vr 44 0, vi n] (mk M) Q := by
  refine gm_step [] 60 ?_; intro G K hG hK
  refine hG _ _ _ _ (gm_in (x := n) (lo := 0) (hi := 200) ?_)
  refine br_n (fun g => absurd g hb) (fun _ => ?_)
  refine hG _ _ _ _ (gm_throws1 (M := uI M 44 0 0 0) ?_)
  exact br1z h
theorem go_mdays {n : Nat} (hW : WM ns nc M) (hS : SG g M) (hb : n ≤ 200) (h : Q (rI ((mDays ns nc g n (uI M 44 0 0 0)).1 44 0 1)) (mk (mDays ns nc g n (uI M 44 0 0 0)))) : Gm Γ M_X7_days [vr 44 0, vi (nI n)] (mk M) Q := by
  have hW0 : WM ns nc (uI M 44 0 0 0) := hW.of (fun t k hk => by unfold pWM at hk; rw [uI_1, if_neg (by omega)])
  have hS0 : SG g (uI M 44 0 0 0) := hS.u (by omega)
  refine gm_step [34] 60 ?_; intro G K hG hK
  refine hG _ _ _ _ (gm_in (x := nI n) (lo := 0) (hi := 200) ?_)
  refine br_n (fun _ => ?_) (fun g => absurd ⟨nI_pos' (by omega), nI_le hb (by decide)⟩ g)
  refine hG _ _ _ _ (gm_throws0 (M := uI M 44 0 0 0) ?_)
  refine br0z ?_
  refine hK _ _ _ _ _ (go_bus (lv' := [(2, vi (nI 0)), (1, vi (nI n)), (0, vr 44 0)]) ?_ ⟨rfl, rfl, rfl, trivial⟩)
  show Go Γ M_X7_days 34 _ [] (mk (uI M 44 0 0 0)) (0, 0) Q
  generalize uI M 44 0 0 0 = M0 at h hW0 hS0 ⊢
  refine loop_up (P := fun i => Go Γ M_X7_days 34 [(2, vi (nI i)), (1, vi (nI n)), (0, vr 44 0)] [] (mk (mDays ns nc g i M0)) (0, 0) Q) (n := n) (fun i hi ih => ?_) ?_
  · refine go_mday (hW0.mdays i) (hS0.mdays i) (nI_ge hi (by omega)) ?_
    rw [nI_1]
    exact ih
  · refine go_step [] 60 ?_; intro G K hG hK
    exact ⟨fun _ => h, fun (q : ¬ nI n ≤ nI n) => absurd (Int32.le_refl _) q⟩
end MDYS
