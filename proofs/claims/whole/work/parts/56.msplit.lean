/-! The reference: split. -/
theorem mSpB_or (M : MM) : ∀ i, (mSpB M i).1 = -1 ∨ ∃ j, j < i ∧ (mSpB M i).1 = nI j
  | 0 => Or.inl rfl
  | i + 1 => by
    unfold mSpB; split
    · exact Or.inr ⟨i, by omega, rfl⟩
    · rcases mSpB_or M i with h | ⟨j, hj, h⟩
      · exact Or.inl h
      · exact Or.inr ⟨j, by omega, h⟩
section MSPL
variable {Γ : GG} {M : MM} {Q : Out → Mem → Prop} {n p q ns nc : Nat} {x : Int32} {σ : Mem}
theorem go_msplit {x : Int32} (hW : WM ns nc M) (h0 : ¬ (0 ≤ x ∧ x ≤ 5000) → Q (rI 0) (mk (uI (t0 M) 44 0 0 1))) (h : (0 ≤ x ∧ x ≤ 5000) → Q (rI (mSpl ns (cl x) (rep mTry1 ns (t0 M)) 0).1) (mk (mSpl ns (cl x) (rep mTry1 ns (t0 M)) 0).2)) : Gm Γ M_X7_split [vr 44 0, vi x] (mk M) Q := by
  have hls := hW.ls
  have hW0 : WM ns nc (t0 M) := hW.of (fun t k hk => by unfold pWM at hk; unfold t0; rw [uI_1, if_neg (by omega)])
  refine gm_step [34] 60 ?_; intro G K hG hK
  refine hG _ _ _ _ (gm_in (x := x) (lo := 0) (hi := 5000) ?_)
  refine br_n (fun g => ?_) (fun g => ?_)
  rotate_left
  · refine hG _ _ _ _ (gm_throws1 (M := t0 M) ?_)
    exact br1z (h0 g)
  refine hG _ _ _ _ (gm_throws0 (M := t0 M) ?_)
  refine br0z ?_
  have h := h g
  refine hK _ _ _ _ _ (go_bus (lv' := [(2, vi (nI 0)), (1, vi x), (0, vr 44 0)]) ?_ ⟨rfl, rfl, rfl, trivial⟩)
  show Go Γ M_X7_split 34 _ [] (mk (t0 M)) (0, 0) Q
  generalize t0 M = A at h hW0 ⊢
  refine loop_up (P := fun i => Go Γ M_X7_split 34 [(2, vi (nI i)), (1, vi x), (0, vr 44 0)] [] (mk (rep mTry1 i A)) (0, 0) Q) (n := ns) (fun i hi ih => ?_) ?_
  · have hW' : WM ns nc (rep mTry1 i A) := rep_WM hW0 (fun _ _ _ h => h.u (fun k => by unfold pWM; omega))
    have ih : Go Γ M_X7_split 34 [(2, vi (nI (i + 1))), (1, vi x), (0, vr 44 0)] [] (mk (mTry1 i (rep mTry1 i A))) (0, 0) Q := ih
    generalize rep mTry1 i A = B at ih hW' ⊢
    have ec : cl (nI i) = i := nI_clamp (by omega)
    have hv : vp_in (nI i) 12 := in12 (n := i) (by omega) rfl
    unfold mTry1 at ih
    rw [← ec] at ih
    refine go_step [34] 60 ?_; intro G K hG hK
    refine ⟨fun (z : B.1 44 0 7 ≤ nI i) => ?_, fun _ => ?_⟩
    · rw [hW'.n7] at z; exact absurd z (nI_ge hi (by omega))
    refine ⟨hv, hv, ?_⟩
    exact hK _ _ _ _ _ (go_bus ih ⟨lvi (by rw [ec]; exact nI_1 i), rfl, rfl, trivial⟩)
  have hW1 : WM ns nc (rep mTry1 ns A) := rep_WM hW0 (fun _ _ _ h => h.u (fun k => by unfold pWM; omega))
  generalize rep mTry1 ns A = B at h hW1 ⊢
  have hxn : x = nI (cl x) ∧ cl x < 2 ^ 31 := by
    rcases cl_many (m := x) with ⟨q1, q2⟩ | q
    · have e : x = 0 := Int32.le_antisymm q1 g.1
      rw [e]; exact ⟨rfl, by decide⟩
    · exact q
  have key : ∀ m k (C : MM) (mo : Int32), k + m = cl x → WM ns nc C → Q (rI (mSpl ns m C mo).1) (mk (mSpl ns m C mo).2) → Go Γ M_X7_split 64 [(3, vi (nI k)), (2, vi mo), (1, vi x), (0, vr 44 0)] [] (mk C) (0, 0) Q := by
    intro m
    induction m with
    | zero =>
      intro k C mo hk hC h
      refine go_step [] 60 ?_; intro G K hG hK
      refine ⟨fun _ => h, fun (z : ¬ x ≤ nI k) => ?_⟩
      rw [hxn.1, show cl x = k by omega] at z; exact absurd (Int32.le_refl _) z
    | succ m ih =>
      intro k C mo hk hC h
      unfold mSpl at h
      refine go_step [78] 60 ?_; intro G K hG hK
      refine ⟨fun (z : x ≤ nI k) => ?_, fun _ => ?_⟩
      · rw [hxn.1] at z; exact absurd z (nI_ge (by omega) (by omega))
      refine hK _ _ _ _ _ (go_bus (lv' := [(6, vi (nI 0)), (5, vi (mSpB C 0).2), (4, vi (mSpB C 0).1), (3, vi (nI k)), (2, vi mo), (1, vi x), (0, vr 44 0)]) ?_ ⟨rfl, rfl, rfl, rfl, rfl, rfl, rfl, trivial⟩)
      refine loop_up (P := fun i => Go Γ M_X7_split 78 [(6, vi (nI i)), (5, vi (mSpB C i).2), (4, vi (mSpB C i).1), (3, vi (nI k)), (2, vi mo), (1, vi x), (0, vr 44 0)] [] (mk C) (0, 0) Q) (n := ns) (fun i hi ih2 => ?_) ?_
      · have ec : cl (nI i) = i := nI_clamp (by omega)
        have hv : vp_in (nI i) 12 := in12 (n := i) (by omega) rfl
        unfold mSpB at ih2
        generalize mSpB C i = r at ih2 ⊢
        have h148 : ∀ u v : Int32, Go Γ M_X7_split 78 [(6, vi (nI (i + 1))), (5, vi u), (4, vi v), (3, vi (nI k)), (2, vi mo), (1, vi x), (0, vr 44 0)] [] (mk C) (0, 0) Q → Go Γ M_X7_split 148 [(6, vi (nI i)), (5, vi u), (4, vi v), (3, vi (nI k)), (2, vi mo), (1, vi x), (0, vr 44 0)] [] (mk C) (0, 0) Q := fun u v ih => by
          refine go_step [78] 60 ?_; intro G K hG hK
          exact hK _ _ _ _ _ (go_bus ih ⟨lvi (nI_1 i), rfl, rfl, rfl, rfl, rfl, rfl, trivial⟩)
        have skip : ¬ (C.1 45 0 i = 3 ∧ r.2 < mPr C i) → Go Γ M_X7_split 148 [(6, vi (nI i)), (5, vi r.2), (4, vi r.1), (3, vi (nI k)), (2, vi mo), (1, vi x), (0, vr 44 0)] [] (mk C) (0, 0) Q := fun z => by
          rw [if_neg z] at ih2
          exact h148 _ _ ih2
        refine go_step [148] 60 ?_; intro G K hG hK
        refine ⟨fun (z : C.1 44 0 7 ≤ nI i) => ?_, fun _ => ?_⟩
        · rw [hC.n7] at z; exact absurd z (nI_ge hi (by omega))
        refine ⟨hv, ?_⟩
        refine ⟨fun (z1 : C.1 45 0 (cl (nI i)) = 3) => ?_, fun (z1 : ¬ C.1 45 0 (cl (nI i)) = 3) => ?_⟩
        rotate_left
        · rw [ec] at z1
          exact hK _ _ _ _ _ (skip (fun y => z1 y.1))
        rw [ec] at z1
        have hb := hC.b0 hi z1
        have epr : mx0 (C.1 46 0 (cl (nI i)) - C.1 83 0 (cl (nI i)) / C.1 47 0 (cl (nI i))) = mPr C i := by rw [ec]; rfl
        refine ⟨hv, hv, hv, by show ¬ C.1 47 0 (cl (nI i)) = 0; rw [ec]; exact hb, ?_⟩
        refine ⟨fun (z2 : r.2 < mx0 (C.1 46 0 (cl (nI i)) - C.1 83 0 (cl (nI i)) / C.1 47 0 (cl (nI i)))) => ?_, fun (z2 : ¬ r.2 < mx0 (C.1 46 0 (cl (nI i)) - C.1 83 0 (cl (nI i)) / C.1 47 0 (cl (nI i)))) => ?_⟩
        · rw [epr] at z2
          rw [if_pos ⟨z1, z2⟩] at ih2
          exact hK _ _ _ _ _ (go_bus (h148 _ _ ih2) ⟨rfl, lvi epr, rfl, rfl, rfl, rfl, rfl, trivial⟩)
        · rw [epr] at z2
          exact hK _ _ _ _ _ (go_bus (skip (fun y => z2 y.2)) ⟨rfl, rfl, rfl, rfl, rfl, rfl, rfl, trivial⟩)
      · have hor := mSpB_or C ns
        generalize mSpB C ns = r at h hor ⊢
        obtain ⟨r1, r2⟩ := r
        refine go_step [64] 60 ?_; intro G K hG hK
        refine ⟨fun _ => ?_, fun (z : ¬ C.1 44 0 7 ≤ nI ns) => ?_⟩
        rotate_left
        · rw [hC.n7] at z; exact absurd (Int32.le_refl _) z
        rcases hor with e | ⟨j, hj, e⟩
        · have e : r1 = -1 := e
          subst e
          rw [if_pos (show (-1 : Int32) < 0 by decide)] at h
          exact ⟨fun (z : (0 : Int32) ≤ -1) => absurd z (by decide), fun _ => h⟩
        · have e : r1 = nI j := e
          subst e
          rw [if_neg (nI_pos (by omega))] at h
          have hvj : vp_in (nI j) 12 := in12 (n := j) (by omega) rfl
          refine ⟨fun _ => ?_, fun (z : ¬ 0 ≤ nI j) => absurd (nI_pos' (by omega)) z⟩
          refine ⟨hvj, hvj, ?_⟩
          exact hK _ _ _ _ _ (go_bus (ih (k + 1) (uI C 83 0 (cl (nI j)) (C.1 83 0 (cl (nI j)) + 1)) (mo + r2) (by omega) (hC.u (fun k => by unfold pWM; omega)) h) ⟨lvi (nI_1 k), rfl, rfl, rfl, trivial⟩)
  refine go_step [64] 60 ?_; intro G K hG hK
  refine ⟨fun _ => ?_, fun (z : ¬ B.1 44 0 7 ≤ nI ns) => ?_⟩
  rotate_left
  · rw [hW1.n7] at z; exact absurd (Int32.le_refl _) z
  exact hK _ _ _ _ _ (go_bus (key (cl x) 0 B 0 (by omega) hW1 h) ⟨rfl, rfl, rfl, rfl, trivial⟩)
end MSPL
