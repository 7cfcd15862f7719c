/-! The reference: letters and water. -/
def mSee1 (x : Int32) (M : MM) : MM :=
  if M.1 58 0 (cl x) = 0 then if M.1 45 0 (cl (M.1 59 0 (cl x))) = 3 then
    uI (uI M 65 0 (cl (12 * x + M.1 59 0 (cl x))) (mPrice M (M.1 59 0 (cl x)))) 66 0 (cl (12 * x + M.1 59 0 (cl x))) (M.1 44 0 1) else M else M
def mBest (M : MM) (s m : Int32) : Nat → Int32
  | 0 => -1
  | i + 1 => if (M.1 58 0 i = 0 ∧ M.1 59 0 i = s) ∧ ¬ M.1 66 0 (cl (12 * nI i + m)) < 0 ∧ (mBest M s m i < 0 ∨ ¬ M.1 66 0 (cl (12 * nI i + m)) ≤ M.1 66 0 (cl (12 * mBest M s m i + m))) then nI i else mBest M s m i
theorem mBest_or (M : MM) (s m : Int32) : ∀ i, mBest M s m i = -1 ∨ ∃ j, j < i ∧ mBest M s m i = nI j
  | 0 => Or.inl rfl
  | i + 1 => by
    unfold mBest; split
    · exact Or.inr ⟨i, by omega, rfl⟩
    · rcases mBest_or M s m i with h | ⟨j, hj, h⟩
      · exact Or.inl h
      · exact Or.inr ⟨j, by omega, h⟩
def mCopy (s m b : Int32) (i : Nat) (M : MM) : MM := if M.1 58 0 i = 0 ∧ M.1 59 0 i = s then uI (uI M 65 0 (cl (12 * nI i + m)) (M.1 65 0 (cl (12 * b + m)))) 66 0 (cl (12 * nI i + m)) (M.1 66 0 (cl (12 * b + m))) else M
def mShares (nc : Nat) (s m : Int32) (M : MM) : MM := if mBest M s m nc < 0 then M else rep (mCopy s m (mBest M s m nc)) nc M
def mLetS (ns nc : Nat) (s : Nat) (M : MM) : MM := rep (fun m A => mShares nc (nI s) (nI m) A) ns M
def mLet (ns nc : Nat) (M : MM) : MM := rep (mLetS ns nc) ns M
def mAhead (M : MM) (s x y : Int32) : Prop := if (M.1 54 0 (cl x) = M.1 48 0 (cl s) ↔ M.1 54 0 (cl y) = M.1 48 0 (cl s)) then M.1 62 0 (cl x) < M.1 62 0 (cl y) else M.1 54 0 (cl x) = M.1 48 0 (cl s)
def mAheadD (M : MM) (s x y : Int32) : Decidable (mAhead M s x y) := by unfold mAhead; exact inferInstance
def mAheadB (M : MM) (s x y : Int32) : Bool := @decide (mAhead M s x y) (mAheadD M s x y)
theorem mAheadB_iff (M : MM) (s x y : Int32) : mAheadB M s x y = true ↔ mAhead M s x y := by unfold mAheadB; exact @decide_eq_true_iff _ (mAheadD M s x y)
def mDr1 (x : Int32) (M : MM) : MM :=
  if M.1 58 0 (cl x) = 0 then if M.1 45 0 (cl (M.1 59 0 (cl x))) = 2 then uI M 80 0 (cl x) 0 else uI (uI M 80 0 (cl x) 1) 57 0 (cl x) (10 * M.1 55 0 (cl x)) else uI M 80 0 (cl x) 1
def mDb (M : MM) : Nat → Int32
  | 0 => -1
  | i + 1 => if M.1 80 0 i = 0 ∧ (mDb M i < 0 ∨ (M.1 59 0 i = M.1 59 0 (cl (mDb M i)) ∧ mAheadB M (M.1 59 0 i) (nI i) (mDb M i) = true)) then nI i else mDb M i
theorem mDb_or (M : MM) : ∀ i, mDb M i = -1 ∨ ∃ j, j < i ∧ mDb M i = nI j
  | 0 => Or.inl rfl
  | i + 1 => by
    unfold mDb; split
    · exact Or.inr ⟨i, by omega, rfl⟩
    · rcases mDb_or M i with h | ⟨j, hj, h⟩
      · exact Or.inl h
      · exact Or.inr ⟨j, by omega, h⟩
def mTake (M : MM) (b : Int32) : Int32 := mn (10 * M.1 55 0 (cl b) - M.1 57 0 (cl b)) (M.1 49 0 (cl (M.1 59 0 (cl b))))
def mDr2 (M : MM) (b : Int32) : MM := uI (uI (uI M 80 0 (cl b) 1) 57 0 (cl b) (M.1 57 0 (cl b) + mTake M b)) 49 0 (cl (M.1 59 0 (cl b))) (M.1 49 0 (cl (M.1 59 0 (cl b))) - mTake M b)
def mDr (nc : Nat) : Nat → MM → MM
  | 0, M => M
  | k + 1, M => if mDb M nc < 0 then M else mDr nc k (mDr2 M (mDb M nc))
theorem rep_WM {ns nc : Nat} {f : Nat → MM → MM} {n : Nat} {M : MM} (h : WM ns nc M) (hf : ∀ i A, i < n → WM ns nc A → WM ns nc (f i A)) : WM ns nc (rep f n M) := rep_inv h hf
section MLET
variable {Γ : GG} {M : MM} {Q : Out → Mem → Prop} {c ns nc n p : Nat} {σ : Mem}
theorem WM.see {x : Int32} (h : WM ns nc M) : WM ns nc (mSee1 x M) := by
  unfold mSee1; split
  · split
    · exact (h.u (fun k => by unfold pWM; omega)).u (fun k => by unfold pWM; omega)
    · exact h
  · exact h
theorem WM.copy {s m b : Int32} {i : Nat} (h : WM ns nc M) : WM ns nc (mCopy s m b i M) := by
  unfold mCopy; split
  · exact (h.u (fun k => by unfold pWM; omega)).u (fun k => by unfold pWM; omega)
  · exact h
theorem WM.shares {k : Nat} {s m : Int32} (h : WM ns nc M) : WM ns nc (mShares k s m M) := by
  unfold mShares; split
  · exact h
  · exact rep_WM h (fun _ _ _ h => h.copy)
theorem WM.letS {a b s : Nat} (h : WM ns nc M) : WM ns nc (mLetS a b s M) := rep_WM h (fun _ _ _ h => h.shares)
theorem WM.dr1 {x : Int32} (h : WM ns nc M) : WM ns nc (mDr1 x M) := by
  unfold mDr1; split
  · split
    · exact h.u (fun k => by unfold pWM; omega)
    · exact (h.u (fun k => by unfold pWM; omega)).u (fun k => by unfold pWM; omega)
  · exact h.u (fun k => by unfold pWM; omega)
theorem WM.dr2 {b : Int32} (h : WM ns nc M) : WM ns nc (mDr2 M b) := ((h.u (fun k => by unfold pWM; omega)).u (fun k => by unfold pWM; omega)).u (fun k => by unfold pWM; omega)
theorem WM.dr {a : Nat} : ∀ (k : Nat) {M : MM}, WM ns nc M → WM ns nc (mDr a k M)
  | 0, _, h => h
  | k + 1, _, h => by
    unfold mDr; split
    · exact h
    · exact WM.dr k h.dr2
theorem go_mshares {s m : Nat} (hW : WM ns nc M) (hm : m < 12) (h : Q rV (mk (mShares nc (nI s) (nI m) M))) : Gm Γ M_X7_shares [vr 44 0, vi (nI s), vi (nI m)] (mk M) Q := by
  have hlc := hW.lc
  unfold mShares at h
  refine gm_step [5] 60 ?_; intro G K hG hK
  refine hK _ _ _ _ _ (go_bus (lv' := [(4, vi (nI 0)), (3, vi (mBest M (nI s) (nI m) 0)), (2, vi (nI m)), (1, vi (nI s)), (0, vr 44 0)]) ?_ ⟨rfl, rfl, rfl, rfl, rfl, trivial⟩)
  refine loop_up (P := fun i => Go Γ M_X7_shares 5 [(4, vi (nI i)), (3, vi (mBest M (nI s) (nI m) i)), (2, vi (nI m)), (1, vi (nI s)), (0, vr 44 0)] [] (mk M) (0, 0) Q) (n := nc) (fun i hi ih => ?_) ?_
  · have ec : cl (nI i) = i := nI_clamp (by omega)
    have hv : vp_in (nI i) 12 := in12 (n := i) (by omega) rfl
    obtain ⟨v1, -⟩ := v144 (c := i) (k := m) (x := nI i) (y := nI m) (by omega) hm rfl rfl
    unfold mBest at ih
    have hor := mBest_or M (nI s) (nI m) i
    generalize mBest M (nI s) (nI m) i = b at ih hor ⊢
    have skip : ¬ ((M.1 58 0 i = 0 ∧ M.1 59 0 i = nI s) ∧ ¬ M.1 66 0 (cl (12 * nI i + nI m)) < 0 ∧ (b < 0 ∨ ¬ M.1 66 0 (cl (12 * nI i + nI m)) ≤ M.1 66 0 (cl (12 * b + nI m)))) → Go Γ M_X7_shares 83 [(4, vi (nI i)), (3, vi b), (2, vi (nI m)), (1, vi (nI s)), (0, vr 44 0)] [] (mk M) (0, 0) Q := fun q => by
      rw [if_neg q] at ih
      refine go_step [5] 60 ?_; intro G K hG hK
      exact hK _ _ _ _ _ (go_bus ih ⟨lvi (nI_1 i), rfl, rfl, rfl, rfl, trivial⟩)
    have take : ((M.1 58 0 i = 0 ∧ M.1 59 0 i = nI s) ∧ ¬ M.1 66 0 (cl (12 * nI i + nI m)) < 0 ∧ (b < 0 ∨ ¬ M.1 66 0 (cl (12 * nI i + nI m)) ≤ M.1 66 0 (cl (12 * b + nI m)))) → Go Γ M_X7_shares 80 [(4, vi (nI i)), (3, vi b), (2, vi (nI m)), (1, vi (nI s)), (0, vr 44 0)] [] (mk M) (0, 0) Q := fun q => by
      rw [if_pos q] at ih
      refine go_step [5] 60 ?_; intro G K hG hK
      exact hK _ _ _ _ _ (go_bus ih ⟨lvi (nI_1 i), rfl, rfl, rfl, rfl, trivial⟩)
    refine go_step [80, 83] 60 ?_; intro G K hG hK
    refine ⟨fun (g : M.1 44 0 26 ≤ nI i) => ?_, fun _ => ?_⟩
    · rw [hW.n26] at g; exact absurd g (nI_ge hi (by omega))
    refine ⟨hv, ?_⟩
    refine ⟨fun (g : ¬ M.1 58 0 (cl (nI i)) = 0) => hK _ _ _ _ _ (skip (fun z => g (by rw [ec]; exact z.1.1))), fun (g : ¬ ¬ M.1 58 0 (cl (nI i)) = 0) => ?_⟩
    refine ⟨hv, ?_⟩
    refine ⟨fun (g2 : ¬ M.1 59 0 (cl (nI i)) = nI s) => hK _ _ _ _ _ (skip (fun z => g2 (by rw [ec]; exact z.1.2))), fun (g2 : ¬ ¬ M.1 59 0 (cl (nI i)) = nI s) => ?_⟩
    rw [ec] at g g2
    refine ⟨v1, ?_⟩
    refine ⟨fun (g3 : M.1 66 0 (cl (12 * nI i + nI m)) < 0) => hK _ _ _ _ _ (skip (fun z => z.2.1 g3)), fun (g3 : ¬ M.1 66 0 (cl (12 * nI i + nI m)) < 0) => ?_⟩
    refine ⟨fun (g4 : b < 0) => hK _ _ _ _ _ (take ⟨⟨Decidable.not_not.mp g, Decidable.not_not.mp g2⟩, g3, Or.inl g4⟩), fun (g4 : ¬ b < 0) => ?_⟩
    rcases hor with rfl | ⟨j, hj, rfl⟩
    · exact absurd (by decide) g4
    obtain ⟨v2, -⟩ := v144 (c := j) (k := m) (x := nI j) (y := nI m) (by omega) hm rfl rfl
    refine ⟨v1, v2, ?_⟩
    exact ⟨fun (g5 : M.1 66 0 (cl (12 * nI i + nI m)) ≤ M.1 66 0 (cl (12 * nI j + nI m))) => hK _ _ _ _ _ (skip (fun z => z.2.2.elim g4 (fun z => z g5))), fun (g5 : ¬ M.1 66 0 (cl (12 * nI i + nI m)) ≤ M.1 66 0 (cl (12 * nI j + nI m))) => hK _ _ _ _ _ (take ⟨⟨Decidable.not_not.mp g, Decidable.not_not.mp g2⟩, g3, Or.inr g5⟩)⟩
  have hor := mBest_or M (nI s) (nI m) nc
  generalize mBest M (nI s) (nI m) nc = b at h hor ⊢
  refine go_step [92] 60 ?_; intro G K hG hK
  refine ⟨fun _ => ?_, fun (g : ¬ M.1 44 0 26 ≤ nI nc) => ?_⟩
  rotate_left
  · rw [hW.n26] at g; exact absurd (Int32.le_refl _) g
  refine hK _ _ _ _ _ (go_bus (lv' := [(4, vi (nI 0)), (3, vi b), (2, vi (nI m)), (1, vi (nI s)), (0, vr 44 0)]) ?_ ⟨rfl, rfl, rfl, rfl, rfl, trivial⟩)
  rcases hor with rfl | ⟨j, hj, rfl⟩
  · rw [if_pos (by decide)] at h
    refine go_step [92] 60 ?_; intro G K hG hK
    exact ⟨fun _ => h, fun _ => ⟨fun _ => h, fun (g : ¬ (-1 : Int32) < 0) => absurd (by decide) g⟩⟩
  rw [if_neg (nI_pos (by omega))] at h
  obtain ⟨v2, -⟩ := v144 (c := j) (k := m) (x := nI j) (y := nI m) (by omega) hm rfl rfl
  refine loop_up (P := fun i => Go Γ M_X7_shares 92 [(4, vi (nI i)), (3, vi (nI j)), (2, vi (nI m)), (1, vi (nI s)), (0, vr 44 0)] [] (mk (rep (mCopy (nI s) (nI m) (nI j)) i M)) (0, 0) Q) (n := nc) (fun i hi ih => ?_) ?_
  · have hW' : WM ns nc (rep (mCopy (nI s) (nI m) (nI j)) i M) := rep_WM hW (fun _ _ _ h => h.copy)
    have ih : Go Γ M_X7_shares 92 [(4, vi (nI (i + 1))), (3, vi (nI j)), (2, vi (nI m)), (1, vi (nI s)), (0, vr 44 0)] [] (mk (mCopy (nI s) (nI m) (nI j) i (rep (mCopy (nI s) (nI m) (nI j)) i M))) (0, 0) Q := ih
    generalize rep (mCopy (nI s) (nI m) (nI j)) i M = A at ih hW' ⊢
    have ec : cl (nI i) = i := nI_clamp (by omega)
    have hv : vp_in (nI i) 12 := in12 (n := i) (by omega) rfl
    obtain ⟨v1, -⟩ := v144 (c := i) (k := m) (x := nI i) (y := nI m) (by omega) hm rfl rfl
    unfold mCopy at ih
    refine go_step [92] 60 ?_; intro G K hG hK
    refine ⟨fun (g : A.1 44 0 26 ≤ nI i) => ?_, fun _ => ?_⟩
    · rw [hW'.n26] at g; exact absurd g (nI_ge hi (by omega))
    refine ⟨fun (g : nI j < 0) => absurd g (nI_pos (by omega)), fun _ => ?_⟩
    refine ⟨hv, ?_⟩
    refine ⟨fun (g : ¬ A.1 58 0 (cl (nI i)) = 0) => ?_, fun (g : ¬ ¬ A.1 58 0 (cl (nI i)) = 0) => ?_⟩
    · rw [ec] at g
      rw [if_neg (fun z => g z.1)] at ih
      exact hK _ _ _ _ _ (go_bus ih ⟨lvi (nI_1 i), rfl, rfl, rfl, rfl, trivial⟩)
    rw [ec] at g
    refine ⟨hv, ?_⟩
    refine ⟨fun (g2 : A.1 59 0 (cl (nI i)) = nI s) => ?_, fun (g2 : ¬ A.1 59 0 (cl (nI i)) = nI s) => ?_⟩
    · rw [ec] at g2
      rw [if_pos ⟨Decidable.not_not.mp g, g2⟩] at ih
      refine ⟨v2, v1, v2, v1, ?_⟩
      exact hK _ _ _ _ _ (go_bus ih ⟨lvi (nI_1 i), rfl, rfl, rfl, rfl, trivial⟩)
    · rw [ec] at g2
      rw [if_neg (fun z => g2 z.2)] at ih
      exact hK _ _ _ _ _ (go_bus ih ⟨lvi (nI_1 i), rfl, rfl, rfl, rfl, trivial⟩)
  · have hW' : WM ns nc (rep (mCopy (nI s) (nI m) (nI j)) nc M) := rep_WM hW (fun _ _ _ h => h.copy)
    refine go_step [92] 60 ?_; intro G K hG hK
    refine ⟨fun _ => h, fun (g : ¬ (rep (mCopy (nI s) (nI m) (nI j)) nc M).1 44 0 26 ≤ nI nc) => ?_⟩
    rw [hW'.n26] at g; exact absurd (Int32.le_refl _) g
theorem go_mletters (hW : WM ns nc M) (h : Q rV (mk (mLet ns nc (rep (fun i => mSee1 (nI i)) nc M)))) : Gm Γ M_X7_letters [vr 44 0] (mk M) Q := by
  have hlc := hW.lc
  have hls := hW.ls
  refine gm_step [2] 60 ?_; intro G K hG hK
  refine hK _ _ _ _ _ (go_bus (lv' := [(1, vi (nI 0)), (0, vr 44 0)]) ?_ ⟨rfl, rfl, trivial⟩)
  refine loop_up (P := fun i => Go Γ M_X7_letters 2 [(1, vi (nI i)), (0, vr 44 0)] [] (mk (rep (fun i => mSee1 (nI i)) i M)) (0, 0) Q) (n := nc) (fun i hi ih => ?_) ?_
  · have hW' : WM ns nc (rep (fun i => mSee1 (nI i)) i M) := rep_WM hW (fun _ _ _ h => h.see)
    have ih : Go Γ M_X7_letters 2 [(1, vi (nI (i + 1))), (0, vr 44 0)] [] (mk (mSee1 (nI i) (rep (fun i => mSee1 (nI i)) i M))) (0, 0) Q := ih
    generalize rep (fun i => mSee1 (nI i)) i M = A at ih hW' ⊢
    have ec : cl (nI i) = i := nI_clamp (by omega)
    have hv : vp_in (nI i) 12 := in12 (n := i) (by omega) rfl
    obtain ⟨s, hs, es⟩ := hW'.at hi
    have es : A.1 59 0 (cl (nI i)) = nI s := by rw [ec]; exact es
    have hsv : vp_in (A.1 59 0 (cl (nI i))) 12 := in12 (by omega) es
    have ecs : cl (A.1 59 0 (cl (nI i))) = s := by rw [es]; exact nI_clamp (by omega)
    obtain ⟨v1, -⟩ := v144 (c := i) (k := s) (x := nI i) (y := A.1 59 0 (cl (nI i))) (by omega) (by omega) rfl es
    unfold mSee1 at ih
    refine go_step [2] 60 ?_; intro G K hG hK
    refine ⟨fun (g : A.1 44 0 26 ≤ nI i) => ?_, fun _ => ?_⟩
    · rw [hW'.n26] at g; exact absurd g (nI_ge hi (by omega))
    refine ⟨hv, ?_⟩
    refine ⟨fun (g : ¬ A.1 58 0 (cl (nI i)) = 0) => ?_, fun (g : ¬ ¬ A.1 58 0 (cl (nI i)) = 0) => ?_⟩
    · rw [if_neg g] at ih
      exact hK _ _ _ _ _ (go_bus ih ⟨lvi (nI_1 i), rfl, trivial⟩)
    rw [if_pos (Decidable.not_not.mp g)] at ih
    refine ⟨hv, hsv, ?_⟩
    refine ⟨fun (g2 : A.1 45 0 (cl (A.1 59 0 (cl (nI i)))) = 3) => ?_, fun (g2 : ¬ A.1 45 0 (cl (A.1 59 0 (cl (nI i)))) = 3) => ?_⟩
    · rw [if_pos g2] at ih
      refine ⟨hv, hv, ?_⟩
      refine hG _ _ _ _ (gm_priceOf (x := A.1 59 0 (cl (nI i))) hsv (by rw [ecs]; exact hW'.b0 hs (by rw [← ecs]; exact g2)) ?_)
      refine ⟨v1, hv, v1, ?_⟩
      exact hK _ _ _ _ _ (go_bus ih ⟨lvi (nI_1 i), rfl, trivial⟩)
    · rw [if_neg g2] at ih
      exact hK _ _ _ _ _ (go_bus ih ⟨lvi (nI_1 i), rfl, trivial⟩)
  have hW1 : WM ns nc (rep (fun i => mSee1 (nI i)) nc M) := rep_WM hW (fun _ _ _ h => h.see)
  generalize rep (fun i => mSee1 (nI i)) nc M = M1 at h hW1 ⊢
  unfold mLet at h
  refine go_step [91] 60 ?_; intro G K hG hK
  refine ⟨fun _ => ?_, fun (g : ¬ M1.1 44 0 26 ≤ nI nc) => ?_⟩
  rotate_left
  · rw [hW1.n26] at g; exact absurd (Int32.le_refl _) g
  refine hK _ _ _ _ _ (go_bus (lv' := [(1, vi (nI 0)), (0, vr 44 0)]) ?_ ⟨rfl, rfl, trivial⟩)
  refine loop_up (P := fun i => Go Γ M_X7_letters 91 [(1, vi (nI i)), (0, vr 44 0)] [] (mk (rep (mLetS ns nc) i M1)) (0, 0) Q) (n := ns) (fun i hi ih => ?_) ?_
  · have hW' : WM ns nc (rep (mLetS ns nc) i M1) := rep_WM hW1 (fun _ _ _ h => h.letS)
    have ih : Go Γ M_X7_letters 91 [(1, vi (nI (i + 1))), (0, vr 44 0)] [] (mk (mLetS ns nc i (rep (mLetS ns nc) i M1))) (0, 0) Q := ih
    generalize rep (mLetS ns nc) i M1 = A at ih hW' ⊢
    unfold mLetS at ih
    refine go_step [101] 60 ?_; intro G K hG hK
    refine ⟨fun (g : A.1 44 0 7 ≤ nI i) => ?_, fun _ => ?_⟩
    · rw [hW'.n7] at g; exact absurd g (nI_ge hi (by omega))
    refine hK _ _ _ _ _ (go_bus (lv' := [(2, vi (nI 0)), (1, vi (nI i)), (0, vr 44 0)]) ?_ ⟨rfl, rfl, rfl, trivial⟩)
    refine loop_up (P := fun m => Go Γ M_X7_letters 101 [(2, vi (nI m)), (1, vi (nI i)), (0, vr 44 0)] [] (mk (rep (fun m A => mShares nc (nI i) (nI m) A) m A)) (0, 0) Q) (n := ns) (fun m hm ih2 => ?_) ?_
    · have hW2 : WM ns nc (rep (fun m A => mShares nc (nI i) (nI m) A) m A) := rep_WM hW' (fun _ _ _ h => h.shares)
      have ih2 : Go Γ M_X7_letters 101 [(2, vi (nI (m + 1))), (1, vi (nI i)), (0, vr 44 0)] [] (mk (mShares nc (nI i) (nI m) (rep (fun m A => mShares nc (nI i) (nI m) A) m A))) (0, 0) Q := ih2
      generalize rep (fun m A => mShares nc (nI i) (nI m) A) m A = B at ih2 hW2 ⊢
      refine go_step [101] 60 ?_; intro G K hG hK
      refine ⟨fun (g : B.1 44 0 7 ≤ nI m) => ?_, fun _ => ?_⟩
      · rw [hW2.n7] at g; exact absurd g (nI_ge hm (by omega))
      refine hG _ _ _ _ (go_mshares hW2 (by omega) ?_)
      exact hK _ _ _ _ _ (go_bus ih2 ⟨lvi (nI_1 m), rfl, rfl, trivial⟩)
    · have hW2 : WM ns nc (rep (fun m A => mShares nc (nI i) (nI m) A) ns A) := rep_WM hW' (fun _ _ _ h => h.shares)
      refine go_step [91] 60 ?_; intro G K hG hK
      refine ⟨fun _ => hK _ _ _ _ _ (go_bus ih ⟨lvi (nI_1 i), rfl, trivial⟩), fun (g : ¬ (rep (fun m A => mShares nc (nI i) (nI m) A) ns A).1 44 0 7 ≤ nI ns) => ?_⟩
      rw [hW2.n7] at g; exact absurd (Int32.le_refl _) g
  · have hW' : WM ns nc (rep (mLetS ns nc) ns M1) := rep_WM hW1 (fun _ _ _ h => h.letS)
    refine go_step [91] 60 ?_; intro G K hG hK
    refine ⟨fun _ => h, fun (g : ¬ (rep (mLetS ns nc) ns M1).1 44 0 7 ≤ nI ns) => ?_⟩
    rw [hW'.n7] at g; exact absurd (Int32.le_refl _) g
theorem go_misAhead {s x y : Int32} (hs : vp_in s 12) (hx : vp_in x 12) (hy : vp_in y 12) (h : Q (rI (b32 (mAheadB M s x y = true))) (mk M)) : Gm Γ M_X7_isAhead [vr 44 0, vi s, vi x, vi y] (mk M) Q := by
  have fin : ∀ u v : Int32, (u = 0 ∧ ¬ M.1 54 0 (cl x) = M.1 48 0 (cl s) ∨ u = 1 ∧ M.1 54 0 (cl x) = M.1 48 0 (cl s)) → (v = 0 ∧ ¬ M.1 54 0 (cl y) = M.1 48 0 (cl s) ∨ v = 1 ∧ M.1 54 0 (cl y) = M.1 48 0 (cl s)) → Go Γ M_X7_isAhead 44 [(5, vi v), (4, vi u), (3, vi y), (2, vi x), (1, vi s), (0, vr 44 0)] [] (mk M) (0, 0) Q := by
    intro u v hu hv
    refine go_step [] 60 ?_; intro G K hG hK
    refine ⟨fun (g : u = v) => ?_, fun (g : ¬ u = v) => ?_⟩
    · have e : (M.1 54 0 (cl x) = M.1 48 0 (cl s) ↔ M.1 54 0 (cl y) = M.1 48 0 (cl s)) := by
        rcases hu with ⟨rfl, a1⟩ | ⟨rfl, a1⟩ <;> rcases hv with ⟨rfl, a2⟩ | ⟨rfl, a2⟩
        · exact ⟨fun q => absurd q a1, fun q => absurd q a2⟩
        · exact absurd g (by decide)
        · exact absurd g (by decide)
        · exact ⟨fun _ => a2, fun _ => a1⟩
      refine ⟨hx, hy, ?_⟩
      exact ⟨fun (g3 : M.1 62 0 (cl y) ≤ M.1 62 0 (cl x)) => rb_f (fun q => by rw [mAheadB_iff, mAhead, if_pos e] at q; exact Int32.not_lt.mpr g3 q) h, fun (g3 : ¬ M.1 62 0 (cl y) ≤ M.1 62 0 (cl x)) => rb_t (by rw [mAheadB_iff, mAhead, if_pos e]; exact Int32.not_le.mp g3) h⟩
    · have e : ¬ (M.1 54 0 (cl x) = M.1 48 0 (cl s) ↔ M.1 54 0 (cl y) = M.1 48 0 (cl s)) := fun e => by
        rcases hu with ⟨rfl, a1⟩ | ⟨rfl, a1⟩ <;> rcases hv with ⟨rfl, a2⟩ | ⟨rfl, a2⟩
        · exact g rfl
        · exact a1 (e.mpr a2)
        · exact a2 (e.mp a1)
        · exact g rfl
      rcases hu with ⟨rfl, a1⟩ | ⟨rfl, a1⟩
      · exact rb_f (fun q => by rw [mAheadB_iff, mAhead, if_neg e] at q; exact a1 q) h
      · exact rb_t (by rw [mAheadB_iff, mAhead, if_neg e]; exact a1) h
  refine gm_step [44] 60 ?_; intro G K hG hK
  refine ⟨hx, hs, ?_⟩
  refine ⟨fun (g : ¬ M.1 54 0 (cl x) = M.1 48 0 (cl s)) => ?_, fun (g : ¬ ¬ M.1 54 0 (cl x) = M.1 48 0 (cl s)) => ?_⟩
  · refine ⟨hy, hs, ?_⟩
    exact ⟨fun (g2 : ¬ M.1 54 0 (cl y) = M.1 48 0 (cl s)) => hK _ _ _ _ _ (go_bus (fin 0 0 (Or.inl ⟨rfl, g⟩) (Or.inl ⟨rfl, g2⟩)) ⟨rfl, rfl, rfl, rfl, rfl, rfl, trivial⟩), fun (g2 : ¬ ¬ M.1 54 0 (cl y) = M.1 48 0 (cl s)) => hK _ _ _ _ _ (go_bus (fin 0 1 (Or.inl ⟨rfl, g⟩) (Or.inr ⟨rfl, Decidable.not_not.mp g2⟩)) ⟨rfl, rfl, rfl, rfl, rfl, rfl, trivial⟩)⟩
  · refine ⟨hy, hs, ?_⟩
    exact ⟨fun (g2 : ¬ M.1 54 0 (cl y) = M.1 48 0 (cl s)) => hK _ _ _ _ _ (go_bus (fin 1 0 (Or.inr ⟨rfl, Decidable.not_not.mp g⟩) (Or.inl ⟨rfl, g2⟩)) ⟨rfl, rfl, rfl, rfl, rfl, rfl, trivial⟩), fun (g2 : ¬ ¬ M.1 54 0 (cl y) = M.1 48 0 (cl s)) => hK _ _ _ _ _ (go_bus (fin 1 1 (Or.inr ⟨rfl, Decidable.not_not.mp g⟩) (Or.inr ⟨rfl, Decidable.not_not.mp g2⟩)) ⟨rfl, rfl, rfl, rfl, rfl, rfl, trivial⟩)⟩
theorem go_drinks (hW : WM ns nc M) (h : Q rV (mk (mDr nc nc (rep (fun i => mDr1 (nI i)) nc M)))) : Gm Γ M_X7_drinks [vr 44 0] (mk M) Q := by
  have hlc := hW.lc
  have hls := hW.ls
  refine gm_step [2] 60 ?_; intro G K hG hK
  refine hK _ _ _ _ _ (go_bus (lv' := [(1, vi (nI 0)), (0, vr 44 0)]) ?_ ⟨rfl, rfl, trivial⟩)
  refine loop_up (P := fun i => Go Γ M_X7_drinks 2 [(1, vi (nI i)), (0, vr 44 0)] [] (mk (rep (fun i => mDr1 (nI i)) i M)) (0, 0) Q) (n := nc) (fun i hi ih => ?_) ?_
  · have hW' : WM ns nc (rep (fun i => mDr1 (nI i)) i M) := rep_WM hW (fun _ _ _ h => h.dr1)
    have ih : Go Γ M_X7_drinks 2 [(1, vi (nI (i + 1))), (0, vr 44 0)] [] (mk (mDr1 (nI i) (rep (fun i => mDr1 (nI i)) i M))) (0, 0) Q := ih
    generalize rep (fun i => mDr1 (nI i)) i M = A at ih hW' ⊢
    have ec : cl (nI i) = i := nI_clamp (by omega)
    have hv : vp_in (nI i) 12 := in12 (n := i) (by omega) rfl
    have hsv : vp_in (A.1 59 0 (cl (nI i))) 12 := by rw [ec]; exact (hW'.iv hi).1
    unfold mDr1 at ih
    refine go_step [2] 60 ?_; intro G K hG hK
    refine ⟨fun (g : A.1 44 0 26 ≤ nI i) => ?_, fun _ => ?_⟩
    · rw [hW'.n26] at g; exact absurd g (nI_ge hi (by omega))
    refine ⟨hv, ?_⟩
    refine ⟨fun (g : ¬ A.1 58 0 (cl (nI i)) = 0) => ?_, fun (g : ¬ ¬ A.1 58 0 (cl (nI i)) = 0) => ?_⟩
    · rw [if_neg g] at ih
      refine ⟨hv, hv, ?_⟩
      refine ⟨fun _ => hK _ _ _ _ _ (go_bus ih ⟨lvi (nI_1 i), rfl, trivial⟩), fun (q : ¬ ¬ A.1 58 0 (cl (nI i)) = 0) => absurd g q⟩
    rw [if_pos (Decidable.not_not.mp g)] at ih
    refine ⟨hv, hsv, ?_⟩
    refine ⟨fun (g2 : A.1 45 0 (cl (A.1 59 0 (cl (nI i)))) = 2) => ?_, fun (g2 : ¬ A.1 45 0 (cl (A.1 59 0 (cl (nI i)))) = 2) => ?_⟩
    · rw [if_pos g2] at ih
      refine ⟨hv, hv, ?_⟩
      refine ⟨fun (q : ¬ A.1 58 0 (cl (nI i)) = 0) => absurd q g, fun _ => ?_⟩
      refine ⟨hv, ?_⟩
      refine br_of (P' := True) (by show up3 _ 80 0 (cl (nI i)) _ 80 0 (cl (nI i)) = 0 ↔ _; rw [up3_self]; exact ⟨fun _ => trivial, fun _ => rfl⟩) (fun _ => ?_) (fun q => absurd trivial q)
      exact hK _ _ _ _ _ (go_bus ih ⟨lvi (nI_1 i), rfl, trivial⟩)
    · rw [if_neg g2] at ih
      refine ⟨hv, hv, ?_⟩
      refine ⟨fun (q : ¬ A.1 58 0 (cl (nI i)) = 0) => absurd q g, fun _ => ?_⟩
      refine ⟨hv, ?_⟩
      refine br_of (P' := False) (by show up3 _ 80 0 (cl (nI i)) _ 80 0 (cl (nI i)) = 0 ↔ _; rw [up3_self]; exact ⟨fun (q : (1 : Int32) = 0) => absurd q (by decide), fun q => q.elim⟩) (fun q => q.elim) (fun _ => ?_)
      refine ⟨hv, hv, ?_⟩
      exact hK _ _ _ _ _ (go_bus ih ⟨lvi (nI_1 i), rfl, trivial⟩)
  have hW1 : WM ns nc (rep (fun i => mDr1 (nI i)) nc M) := rep_WM hW (fun _ _ _ h => h.dr1)
  generalize rep (fun i => mDr1 (nI i)) nc M = M1 at h hW1 ⊢
  refine go_step [86] 60 ?_; intro G K hG hK
  refine ⟨fun _ => ?_, fun (g : ¬ M1.1 44 0 26 ≤ nI nc) => ?_⟩
  rotate_left
  · rw [hW1.n26] at g; exact absurd (Int32.le_refl _) g
  have key : ∀ m k (A : MM), k + m = nc → WM ns nc A → Q rV (mk (mDr nc m A)) → Go Γ M_X7_drinks 86 [(1, vi (nI k)), (0, vr 44 0)] [] (mk A) (0, 0) Q := by
    intro m
    induction m with
    | zero =>
      intro k A hk hA h
      refine go_step [86] 60 ?_; intro G K hG hK
      refine ⟨fun _ => h, fun (g : ¬ A.1 44 0 26 ≤ nI k) => ?_⟩
      rw [hA.n26, show nc = k by omega] at g; exact absurd (Int32.le_refl _) g
    | succ m ih =>
      intro k A hk hA h
      unfold mDr at h
      refine go_step [98] 60 ?_; intro G K hG hK
      refine ⟨fun (g : A.1 44 0 26 ≤ nI k) => ?_, fun _ => ?_⟩
      · rw [hA.n26] at g; exact absurd g (nI_ge (by omega) (by omega))
      refine hK _ _ _ _ _ (go_bus (lv' := [(3, vi (nI 0)), (2, vi (mDb A 0)), (1, vi (nI k)), (0, vr 44 0)]) ?_ ⟨rfl, rfl, rfl, rfl, trivial⟩)
      refine loop_up (P := fun i => Go Γ M_X7_drinks 98 [(3, vi (nI i)), (2, vi (mDb A i)), (1, vi (nI k)), (0, vr 44 0)] [] (mk A) (0, 0) Q) (n := nc) (fun i hi ih2 => ?_) ?_
      · have ec : cl (nI i) = i := nI_clamp (by omega)
        have hv : vp_in (nI i) 12 := in12 (n := i) (by omega) rfl
        have hsv : vp_in (A.1 59 0 (cl (nI i))) 12 := by rw [ec]; exact (hA.iv hi).1
        unfold mDb at ih2
        have hor := mDb_or A i
        generalize mDb A i = b at ih2 hor ⊢
        rw [show A.1 80 0 i = A.1 80 0 (cl (nI i)) from by rw [ec], show A.1 59 0 i = A.1 59 0 (cl (nI i)) from by rw [ec]] at ih2
        have skip : ¬ (A.1 80 0 (cl (nI i)) = 0 ∧ (b < 0 ∨ (A.1 59 0 (cl (nI i)) = A.1 59 0 (cl b) ∧ mAheadB A (A.1 59 0 (cl (nI i))) (nI i) b = true))) → Go Γ M_X7_drinks 154 [(3, vi (nI i)), (2, vi b), (1, vi (nI k)), (0, vr 44 0)] [] (mk A) (0, 0) Q := fun q => by
          rw [if_neg q] at ih2
          refine go_step [98] 60 ?_; intro G K hG hK
          exact hK _ _ _ _ _ (go_bus ih2 ⟨lvi (nI_1 i), rfl, rfl, rfl, trivial⟩)
        have take : (A.1 80 0 (cl (nI i)) = 0 ∧ (b < 0 ∨ (A.1 59 0 (cl (nI i)) = A.1 59 0 (cl b) ∧ mAheadB A (A.1 59 0 (cl (nI i))) (nI i) b = true))) → Go Γ M_X7_drinks 152 [(3, vi (nI i)), (2, vi b), (1, vi (nI k)), (0, vr 44 0)] [] (mk A) (0, 0) Q := fun q => by
          rw [if_pos q] at ih2
          refine go_step [98] 60 ?_; intro G K hG hK
          exact hK _ _ _ _ _ (go_bus ih2 ⟨lvi (nI_1 i), rfl, rfl, rfl, trivial⟩)
        refine go_step [152, 154] 60 ?_; intro G K hG hK
        refine ⟨fun (g : A.1 44 0 26 ≤ nI i) => ?_, fun _ => ?_⟩
        · rw [hA.n26] at g; exact absurd g (nI_ge hi (by omega))
        refine ⟨hv, ?_⟩
        refine ⟨fun (g : A.1 80 0 (cl (nI i)) = 0) => ?_, fun (g : ¬ A.1 80 0 (cl (nI i)) = 0) => hK _ _ _ _ _ (skip (fun z => g z.1))⟩
        refine ⟨fun (g2 : b < 0) => hK _ _ _ _ _ (take ⟨g, Or.inl g2⟩), fun (g2 : ¬ b < 0) => ?_⟩
        rcases hor with rfl | ⟨j, hj, rfl⟩
        · exact absurd (by decide) g2
        have hvj : vp_in (nI j) 12 := in12 (n := j) (by omega) rfl
        refine ⟨hv, hvj, ?_⟩
        refine ⟨fun (g3 : ¬ A.1 59 0 (cl (nI i)) = A.1 59 0 (cl (nI j))) => hK _ _ _ _ _ (skip (fun z => z.2.elim g2 (fun z => g3 z.1))), fun (g3 : ¬ ¬ A.1 59 0 (cl (nI i)) = A.1 59 0 (cl (nI j))) => ?_⟩
        refine ⟨hv, ?_⟩
        refine hG _ _ _ _ (go_misAhead (s := A.1 59 0 (cl (nI i))) hsv hv hvj ?_)
        exact br_z (fun g4 => hK _ _ _ _ _ (skip (fun z => z.2.elim g2 (fun z => g4 z.2)))) (fun g4 => hK _ _ _ _ _ (take ⟨g, Or.inr ⟨Decidable.not_not.mp g3, g4⟩⟩))
      · have hor := mDb_or A nc
        generalize mDb A nc = b at h hor ⊢
        refine go_step [86] 60 ?_; intro G K hG hK
        refine ⟨fun _ => ?_, fun (g : ¬ A.1 44 0 26 ≤ nI nc) => ?_⟩
        rotate_left
        · rw [hA.n26] at g; exact absurd (Int32.le_refl _) g
        rcases hor with rfl | ⟨j, hj, rfl⟩
        · rw [if_pos (by decide)] at h
          exact ⟨fun (g : (0 : Int32) ≤ -1) => absurd g (by decide), fun _ => h⟩
        rw [if_neg (nI_pos (by omega))] at h
        have hvj : vp_in (nI j) 12 := in12 (n := j) (by omega) rfl
        have ecj : cl (nI j) = j := nI_clamp (by omega)
        have hsv : vp_in (A.1 59 0 (cl (nI j))) 12 := by rw [ecj]; exact (hA.iv hj).1
        refine ⟨fun _ => ?_, fun (g : ¬ 0 ≤ nI j) => absurd (nI_pos' (by omega)) g⟩
        refine ⟨hvj, hvj, hvj, hvj, hsv, hvj, hvj, hsv, hsv, ?_⟩
        exact hK _ _ _ _ _ (go_bus (ih (k + 1) (mDr2 A (nI j)) (by omega) hA.dr2 h) ⟨lvi (nI_1 k), rfl, trivial⟩)
  exact hK _ _ _ _ _ (go_bus (key nc 0 M1 (by omega) hW1 h) ⟨rfl, rfl, trivial⟩)
end MLET
