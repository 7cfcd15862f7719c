/-! The class: water. -/
/-- memories that differ in the slots P alone -/
def Fr (P : Nat → Nat → Prop) (M M' : MM) : Prop := M'.2 = M.2 ∧ ∀ t i k, ¬ P t k → M'.1 t i k = M.1 t i k
section FRS
variable {P : Nat → Nat → Prop} {A B C : MM}
theorem Fr.rfl' : Fr P A A := ⟨rfl, fun _ _ _ _ => rfl⟩
theorem Fr.trans (h : Fr P A B) (h2 : Fr P B C) : Fr P A C := ⟨h2.1.trans h.1, fun t i k a => (h2.2 t i k a).trans (h.2 t i k a)⟩
theorem Fr.u {t i k : Nat} {x : Int32} (hp : P t k) : Fr P A (uI A t i k x) := ⟨rfl, fun a b c h => by
  show up3 A.1 t i k x a b c = _
  rw [up3_eq, if_neg (fun e => h (by rw [e.1, e.2.2]; exact hp))]⟩
theorem Fr.rep {f : Nat → MM → MM} (hf : ∀ i M, Fr P M (f i M)) (n : Nat) (M : MM) : Fr P M (rep f n M) := rep_inv (P := fun A => Fr P M A) Fr.rfl' (fun i A _ h => h.trans (hf i A))
theorem Fr.mono {P' : Nat → Nat → Prop} (hp : ∀ t k, P t k → P' t k) (h : Fr P A B) : Fr P' A B := ⟨h.1, fun t i k a => h.2 t i k (fun q => a (hp t k q))⟩
end FRS
def pW (t k : Nat) : Prop := t = 30 ∨ (t = 15 ∧ k = 4) ∨ (t = 13 ∧ k = 4)
theorem WC.fr_pW {ns nc : Nat} {M M' : MM} (h : WC ns nc M) (e : Fr pW M M') : WC ns nc M' :=
  h.of (e.2 _ _ _ (by unfold pW; omega)) (e.2 _ _ _ (by unfold pW; omega)) (fun c => e.2 _ _ _ (by unfold pW; omega)) (fun c => e.2 _ _ _ (by unfold pW; omega)) (fun c => e.2 _ _ _ (by unfold pW; omega)) (fun c => e.2 _ _ _ (by unfold pW; omega)) (fun c => e.2 _ _ _ (by unfold pW; omega)) (by rw [e.2 35 0 0 (by unfold pW; omega)]; exact h.en)
def cQ (p : Int32) (x : Nat) : Nat → MM → MM
  | 0, M => uI M 30 0 0 (nI x)
  | k + 1, M => if cAheadB M p x (cl (M.1 30 0 k)) = true then cQ p x k (uI M 30 0 (k + 1) (M.1 30 0 k)) else uI M 30 0 (k + 1) (nI x)
def cQs (s : Nat) : Nat → MM → MM × Nat
  | 0, M => (M, 0)
  | i + 1, M => if (cQs s i M).1.1 15 i 5 = 0 ∧ (cQs s i M).1.1 15 i 6 = nI s then (cQ ((cQs s i M).1.1 13 s 1) i (cQs s i M).2 (cQs s i M).1, (cQs s i M).2 + 1) else cQs s i M
def cTake (s : Nat) (c : Nat) (M : MM) : Int32 := mn (10 * M.1 15 c 2 - M.1 15 c 4) (M.1 13 s 4)
def cGive (s c : Nat) (M : MM) : MM := uI (uI M 15 c 4 (M.1 15 c 4 + cTake s c M)) 13 s 4 (M.1 13 s 4 - cTake s c M)
def cGive1 (s i : Nat) (M : MM) : MM := cGive s (cl (M.1 30 0 i)) M
def cWell (nc s : Nat) (M : MM) : MM := rep (cGive1 s) (cQs s nc M).2 (cQs s nc M).1
def cRoom1 (c : Nat) (M : MM) : MM := if M.1 15 c 5 = 0 then if M.1 13 (cl (M.1 15 c 6)) 0 = 2 then M else uI M 15 c 4 (M.1 15 c 4 + (10 * M.1 15 c 2 - M.1 15 c 4)) else M
def cWell1 (nc s : Nat) (M : MM) : MM := if M.1 13 s 0 = 2 then cWell nc s M else M
theorem fr_cQ (p : Int32) (x : Nat) : ∀ (k : Nat) (M : MM), Fr (fun t _ => t = 30) M (cQ p x k M)
  | 0, M => Fr.u rfl
  | k + 1, M => by
    unfold cQ; split
    · exact Fr.trans (Fr.u (P := fun t _ => t = 30) rfl) (fr_cQ p x k _)
    · exact Fr.u rfl
theorem fr_cQs (s : Nat) : ∀ (i : Nat) (M : MM), Fr (fun t _ => t = 30) M (cQs s i M).1
  | 0, M => Fr.rfl'
  | i + 1, M => by
    unfold cQs; split
    · exact (fr_cQs s i M).trans (fr_cQ _ _ _ _)
    · exact fr_cQs s i M
theorem fr_cGive (s c : Nat) (M : MM) : Fr (fun t k => (t = 15 ∧ k = 4) ∨ (t = 13 ∧ k = 4)) M (cGive s c M) := (Fr.u (Or.inl ⟨rfl, rfl⟩)).trans (Fr.u (Or.inr ⟨rfl, rfl⟩))
theorem fr_cGive1 (s i : Nat) (M : MM) : Fr (fun t k => (t = 15 ∧ k = 4) ∨ (t = 13 ∧ k = 4)) M (cGive1 s i M) := fr_cGive _ _ _
theorem fr_cWell (nc s : Nat) (M : MM) : Fr pW M (cWell nc s M) := (Fr.mono (fun _ _ h => Or.inl h) (fr_cQs s nc M)).trans (Fr.mono (fun _ _ h => Or.inr h) (Fr.rep (fr_cGive1 s) _ _))
theorem fr_cRoom1 (c : Nat) (M : MM) : Fr pW M (cRoom1 c M) := by
  unfold cRoom1; split
  · split
    · exact Fr.rfl'
    · exact Fr.u (Or.inr (Or.inl ⟨rfl, rfl⟩))
  · exact Fr.rfl'
theorem fr_cWell1 (nc s : Nat) (M : MM) : Fr pW M (cWell1 nc s M) := by
  unfold cWell1; split
  · exact fr_cWell _ _ _
  · exact Fr.rfl'
/-- the queue's first w places hold numbers of caravans -/
def qOk (n w : Nat) (M : MM) : Prop := ∀ k, k < w → ∃ d, d < n ∧ M.1 30 0 k = nI d
theorem qOk_up {n w : Nat} {M : MM} {d k : Nat} (h : qOk n w M) (hd : d < n) : qOk n w (uI M 30 0 k (nI d)) := fun j hj => by
  by_cases e : j = k
  · subst e; exact ⟨d, hd, up3_self⟩
  · obtain ⟨a, ha, h2⟩ := h j hj
    refine ⟨a, ha, ?_⟩
    rw [← h2]
    show up3 M.1 30 0 k (nI d) 30 0 j = _
    rw [up3_eq, if_neg (fun q => e q.2.2)]
theorem qOk_cQ' {n : Nat} {p : Int32} {x : Nat} (hx : x < n) : ∀ (k : Nat) (M : MM) (w : Nat), k ≤ w → (∀ j, j ≤ w → j ≠ k → ∃ d, d < n ∧ M.1 30 0 j = nI d) → qOk n (w + 1) (cQ p x k M)
  | 0, M, w, hk, h => fun j hj => by
    by_cases e : j = 0
    · subst e; exact ⟨x, hx, rfl⟩
    · obtain ⟨d, hd, h2⟩ := h j (by omega) e
      refine ⟨d, hd, ?_⟩
      rw [← h2]
      show up3 M.1 30 0 0 (nI x) 30 0 j = _
      rw [up3_eq, if_neg (fun q => e q.2.2)]
  | k + 1, M, w, hk, h => by
    unfold cQ
    split
    · refine qOk_cQ' hx k _ w (by omega) (fun j hj hne => ?_)
      by_cases e : j = k + 1
      · subst e
        obtain ⟨d, hd, h2⟩ := h k (by omega) (by omega)
        exact ⟨d, hd, by rw [← h2]; exact up3_self⟩
      · obtain ⟨d, hd, h2⟩ := h j hj e
        refine ⟨d, hd, ?_⟩
        rw [← h2]
        show up3 M.1 30 0 (k + 1) _ 30 0 j = _
        rw [up3_eq, if_neg (fun q => e q.2.2)]
    · intro j hj
      by_cases e : j = k + 1
      · subst e; exact ⟨x, hx, up3_self⟩
      · obtain ⟨d, hd, h2⟩ := h j (by omega) e
        refine ⟨d, hd, ?_⟩
        rw [← h2]
        show up3 M.1 30 0 (k + 1) (nI x) 30 0 j = _
        rw [up3_eq, if_neg (fun q => e q.2.2)]
theorem qOk_cQs (s : Nat) (M : MM) {n : Nat} : ∀ i, i ≤ n → qOk n (cQs s i M).2 (cQs s i M).1 ∧ (cQs s i M).2 ≤ i
  | 0, _ => ⟨fun _ h => absurd h (Nat.not_lt_zero _), Nat.le_refl 0⟩
  | i + 1, hi => by
    obtain ⟨h1, h2⟩ := qOk_cQs s M (n := n) i (by omega)
    unfold cQs
    split
    · exact ⟨qOk_cQ' (by omega) _ _ _ (Nat.le_refl _) (fun j hj hne => h1 j (by omega)), by show (cQs s i M).2 + 1 ≤ i + 1; omega⟩
    · exact ⟨h1, by omega⟩
section WATR
variable {Γ : GG} {M : MM} {Q : Out → Mem → Prop} {c ns nc : Nat}
theorem gm_roomForWater (h : Q (rI (10 * M.1 15 c 2 - M.1 15 c 4)) (mk M)) : Gm Γ M_X0_roomForWater [vr 15 c] (mk M) Q := go_roomForWater h
theorem go_queueUp {x w : Nat} {p : Int32} (hW : WC ns nc M) (hx : x < nc) (hw : w < 12) (hq : qOk nc w M) (h : Q rV (mk (cQ p x w M))) : Gm Γ M_X6_queueUp [vr 0 0, vi (nI x), vi (nI w), vi p] (mk M) Q := by
  have hn := hW.lc
  refine gm_step [3] 60 ?_; intro G K hG hK
  refine hK _ _ _ _ _ (go_sub (lv' := [(4, vi (nI w)), (3, vi p), (2, vi (nI w)), (1, vi (nI x)), (0, vr 0 0)]) ⟨rfl, rfl, rfl, rfl, rfl, trivial⟩ ?_)
  have key : ∀ (k : Nat) (A : MM), k < 12 → WC ns nc A → qOk nc k A → Q rV (mk (cQ p x k A)) → Go Γ M_X6_queueUp 3 [(4, vi (nI k)), (3, vi p), (2, vi (nI w)), (1, vi (nI x)), (0, vr 0 0)] [] (mk A) (0, 0) Q := by
    intro k
    induction k with
    | zero =>
      intro A _ hA hqA h
      refine go_step [3] 60 ?_; intro G K hG hK
      exact ⟨fun _ => ⟨in12 (n := 0) (by omega) rfl, h⟩, fun (g : ¬ nI 0 ≤ 0) => absurd (by decide) g⟩
    | succ k ih =>
      intro A hk hA hqA h
      have e1 : nI (k + 1) - 1 = nI k := nI_pred k
      have e2 : cl (nI (k + 1) - 1) = k := by rw [e1]; exact nI_clamp (by omega)
      have e3 : cl (nI (k + 1)) = k + 1 := nI_clamp (by omega)
      have hv1 : vp_in (nI (k + 1) - 1) 12 := in12 (n := k) (by omega) e1
      have hv : vp_in (nI (k + 1)) 12 := in12 (n := k + 1) hk rfl
      obtain ⟨d, hd, hqd⟩ := hqA k (by omega)
      have ed : cl (A.1 30 0 k) = d := by rw [hqd]; exact nI_clamp (by omega)
      refine go_step [3] 60 ?_; intro G K hG hK
      refine ⟨fun (g : nI (k + 1) ≤ 0) => absurd g (nI_nle (by omega) (by omega)), fun _ => ?_⟩
      refine ⟨in12 (n := x) (by omega) rfl, (15, x), R0_ca (by omega) rfl, hv1, in12 (n := d) (by omega) ?_, (15, d), R0_ca (by omega) ?_, ?_⟩
      · show A.1 30 0 (cl (nI (k + 1) - 1)) = nI d
        rw [e2]; exact hqd
      · show A.1 30 0 (cl (nI (k + 1) - 1)) = nI d
        rw [e2]; exact hqd
      · refine hG _ _ _ _ (go_isAheadOf ?_)
        unfold cQ at h
        rw [ed] at h
        refine br_z (fun g => ?_) (fun g => ?_)
        · rw [if_neg g] at h
          refine ⟨hv, ?_⟩
          show Q rV (mk (uI A 30 0 (cl (nI (k + 1))) (nI x)))
          rw [e3]; exact h
        · rw [if_pos g] at h
          refine ⟨hv1, hv, ?_⟩
          refine hK _ _ _ _ _ (go_sub (lv' := [(4, vi (nI k)), (3, vi p), (2, vi (nI w)), (1, vi (nI x)), (0, vr 0 0)]) ⟨lvi (pk_m1 k), rfl, rfl, rfl, rfl, trivial⟩ ?_)
          show Go Γ M_X6_queueUp 3 _ [] (mk (uI A 30 0 (cl (nI (k + 1))) (A.1 30 0 (cl (nI (k + 1) - 1))))) (0, 0) Q
          rw [e2, e3]
          refine ih _ (by omega) (hA.fr_pW (Fr.u (Or.inl rfl))) (fun j hj => ?_) h
          obtain ⟨a, ha, h2⟩ := hqA j (by omega)
          refine ⟨a, ha, ?_⟩
          rw [← h2]
          show up3 A.1 30 0 (k + 1) _ 30 0 j = _
          rw [up3_eq, if_neg (fun q => absurd q.2.2 (by omega))]
  exact key w M hw hW hq h
theorem go_wellWater {s : Nat} (hW : WC ns nc M) (hs : s < ns) (h : Q rV (mk (cWell nc s M))) : Gm Γ M_X6_giveWaterOfWell [vr 0 0, vi (nI s)] (mk M) Q := by
  have hn := hW.lc
  have hns := hW.ls
  refine gm_step [12] 60 ?_; intro G K hG hK
  refine ⟨in12 (n := s) (by omega) rfl, (13, s), R0_st (by omega) rfl, ?_⟩
  refine hK _ _ _ _ _ (go_sub (lv' := [(4, vi (nI 0)), (3, vi (nI (cQs s 0 M).2)), (2, vr 13 s), (1, vi (nI s)), (0, vr 0 0)]) ⟨rfl, rfl, rfl, rfl, rfl, trivial⟩ ?_)
  refine loop_up (P := fun i => Go Γ M_X6_giveWaterOfWell 12 [(4, vi (nI i)), (3, vi (nI (cQs s i M).2)), (2, vr 13 s), (1, vi (nI s)), (0, vr 0 0)] [] (mk (cQs s i M).1) (0, 0) Q) (n := nc) (fun i hi ih => ?_) ?_
  · have hW' : WC ns nc (cQs s i M).1 := hW.fr_pW (Fr.mono (fun _ _ h => Or.inl h) (fr_cQs s i M))
    obtain ⟨hq1, hq2⟩ := qOk_cQs s M (n := nc) i (by omega)
    unfold cQs at ih
    generalize cQs s i M = A at ih hW' hq1 hq2 ⊢
    refine go_step [12] 60 ?_; intro G K hG hK
    refine ⟨fun (g : A.1.1 0 0 9 ≤ nI i) => ?_, fun _ => ?_⟩
    · rw [hW'.n9] at g; exact absurd g (nI_ge hi (by omega))
    · refine ⟨in12 (n := i) (by omega) rfl, (15, i), R0_ca (by omega) rfl, ?_⟩
      refine hG _ _ _ _ (gm_isAt ?_)
      refine br_z (fun g => ?_) (fun g => ?_)
      · rw [if_neg g] at ih
        exact hK _ _ _ _ _ (go_bus ih ⟨lvi (nI_1 i), rfl, rfl, rfl, rfl, trivial⟩)
      · rw [if_pos g] at ih
        refine hG _ _ _ _ (go_queueUp hW' hi (by omega) hq1 ?_)
        exact hK _ _ _ _ _ (go_bus ih ⟨lvi (nI_1 i), lvi (nI_1 _), rfl, rfl, rfl, trivial⟩)
  · have hW' : WC ns nc (cQs s nc M).1 := hW.fr_pW (Fr.mono (fun _ _ h => Or.inl h) (fr_cQs s nc M))
    obtain ⟨hq1, hq2⟩ := qOk_cQs s M (n := nc) nc (Nat.le_refl _)
    unfold cWell at h
    generalize cQs s nc M = A at h hW' hq1 hq2 ⊢
    obtain ⟨B, w⟩ := A
    have h : Q rV (mk (rep (cGive1 s) w B)) := h
    have hW' : WC ns nc B := hW'
    have hq1 : qOk nc w B := hq1
    have hq2 : w ≤ nc := hq2
    refine go_step [12, 58] 60 ?_; intro G K hG hK
    refine ⟨fun _ => ?_, fun (g : ¬ B.1 0 0 9 ≤ nI nc) => ?_⟩
    rotate_left
    · rw [hW'.n9] at g; exact absurd (Int32.le_refl _) g
    refine hK _ _ _ _ _ (go_sub (lv' := [(4, vi (nI 0)), (3, vi (nI w)), (2, vr 13 s), (1, vi (nI s)), (0, vr 0 0)]) ⟨rfl, rfl, rfl, rfl, rfl, trivial⟩ ?_)
    refine loop_up (P := fun i => Go Γ M_X6_giveWaterOfWell 58 [(4, vi (nI i)), (3, vi (nI w)), (2, vr 13 s), (1, vi (nI s)), (0, vr 0 0)] [] (mk (rep (cGive1 s) i B)) (0, 0) Q) (n := w) (fun i hi ih => ?_) ?_
    · have hf : Fr (fun t k => (t = 15 ∧ k = 4) ∨ (t = 13 ∧ k = 4)) B (rep (cGive1 s) i B) := Fr.rep (fr_cGive1 s) i B
      obtain ⟨d, hd, hqd⟩ := hq1 i hi
      have hqd : (rep (cGive1 s) i B).1 30 0 i = nI d := (hf.2 30 0 i (by omega)).trans hqd
      have ih : Go Γ M_X6_giveWaterOfWell 58 [(4, vi (nI (i + 1))), (3, vi (nI w)), (2, vr 13 s), (1, vi (nI s)), (0, vr 0 0)] [] (mk (cGive s (cl ((rep (cGive1 s) i B).1 30 0 i)) (rep (cGive1 s) i B))) (0, 0) Q := ih
      generalize rep (cGive1 s) i B = C at ih hqd ⊢
      rw [show cl (C.1 30 0 i) = d by rw [hqd]; exact nI_clamp (by omega)] at ih
      have e : cl (nI i) = i := nI_clamp (by omega)
      refine go_step [58] 60 ?_; intro G K hG hK
      refine ⟨fun (g : nI w ≤ nI i) => absurd g (nI_ge hi (by omega)), fun _ => ?_⟩
      refine ⟨in12 (n := i) (by omega) rfl, in12 (n := d) (by omega) ?_, (15, d), R0_ca (by omega) ?_, ?_⟩
      · show C.1 30 0 (cl (nI i)) = nI d
        rw [e]; exact hqd
      · show C.1 30 0 (cl (nI i)) = nI d
        rw [e]; exact hqd
      · refine hG _ _ _ _ (gm_roomForWater ?_)
        exact hK _ _ _ _ _ (go_bus ih ⟨lvi (nI_1 i), rfl, rfl, rfl, rfl, trivial⟩)
    · refine go_step [58] 60 ?_; intro G K hG hK
      exact ⟨fun _ => h, fun (g : ¬ nI w ≤ nI w) => absurd (Int32.le_refl _) g⟩
theorem go_giveWater (hW : WC ns nc M) (h : Q rV (mk (rep (cWell1 nc) ns (rep cRoom1 nc M)))) : Gm Γ M_X6_giveWater [vr 0 0] (mk M) Q := by
  have hn := hW.lc
  have hns := hW.ls
  refine gm_step [2] 60 ?_; intro G K hG hK
  refine hK _ _ _ _ _ (go_sub (lv' := [(1, vi (nI 0)), (0, vr 0 0)]) ⟨rfl, rfl, trivial⟩ ?_)
  refine loop_up (P := fun i => Go Γ M_X6_giveWater 2 [(1, vi (nI i)), (0, vr 0 0)] [] (mk (rep cRoom1 i M)) (0, 0) Q) (n := nc) (fun i hi ih => ?_) ?_
  · have hW' : WC ns nc (rep cRoom1 i M) := hW.fr_pW (Fr.rep fr_cRoom1 i M)
    have ih : Go Γ M_X6_giveWater 2 [(1, vi (nI (i + 1))), (0, vr 0 0)] [] (mk (cRoom1 i (rep cRoom1 i M))) (0, 0) Q := ih
    generalize rep cRoom1 i M = A at ih hW' ⊢
    refine go_step [2] 60 ?_; intro G K hG hK
    refine ⟨fun (g : A.1 0 0 9 ≤ nI i) => ?_, fun _ => ?_⟩
    · rw [hW'.n9] at g; exact absurd g (nI_ge hi (by omega))
    · refine ⟨in12 (n := i) (by omega) rfl, (15, i), R0_ca (by omega) rfl, ?_⟩
      unfold cRoom1 at ih
      refine ⟨fun (g : ¬ A.1 15 i 5 = 0) => ?_, fun (g : ¬ ¬ A.1 15 i 5 = 0) => ?_⟩
      · rw [if_neg g] at ih
        exact hK _ _ _ _ _ (go_bus ih ⟨lvi (nI_1 i), rfl, trivial⟩)
      · rw [if_pos (Decidable.not_not.mp g)] at ih
        refine ⟨hW'.iv hi, (13, cl (A.1 15 i 6)), hW'.r12 hi, ?_⟩
        refine ⟨fun (g2 : A.1 13 (cl (A.1 15 i 6)) 0 = 2) => ?_, fun (g2 : ¬ A.1 13 (cl (A.1 15 i 6)) 0 = 2) => ?_⟩
        · rw [if_pos g2] at ih
          exact hK _ _ _ _ _ (go_bus ih ⟨lvi (nI_1 i), rfl, trivial⟩)
        · rw [if_neg g2] at ih
          refine hG _ _ _ _ (gm_roomForWater ?_)
          exact hK _ _ _ _ _ (go_bus ih ⟨lvi (nI_1 i), rfl, trivial⟩)
  · have hW1 : WC ns nc (rep cRoom1 nc M) := hW.fr_pW (Fr.rep fr_cRoom1 nc M)
    generalize rep cRoom1 nc M = M1 at h hW1 ⊢
    refine go_step [2, 61] 60 ?_; intro G K hG hK
    refine ⟨fun _ => ?_, fun (g : ¬ M1.1 0 0 9 ≤ nI nc) => ?_⟩
    rotate_left
    · rw [hW1.n9] at g; exact absurd (Int32.le_refl _) g
    refine hK _ _ _ _ _ (go_sub (lv' := [(1, vi (nI 0)), (0, vr 0 0)]) ⟨rfl, rfl, trivial⟩ ?_)
    refine loop_up (P := fun i => Go Γ M_X6_giveWater 61 [(1, vi (nI i)), (0, vr 0 0)] [] (mk (rep (cWell1 nc) i M1)) (0, 0) Q) (n := ns) (fun i hi ih => ?_) ?_
    · have hW' : WC ns nc (rep (cWell1 nc) i M1) := hW1.fr_pW (Fr.rep (fr_cWell1 nc) i M1)
      have ih : Go Γ M_X6_giveWater 61 [(1, vi (nI (i + 1))), (0, vr 0 0)] [] (mk (cWell1 nc i (rep (cWell1 nc) i M1))) (0, 0) Q := ih
      generalize rep (cWell1 nc) i M1 = A at ih hW' ⊢
      refine go_step [61] 60 ?_; intro G K hG hK
      refine ⟨fun (g : A.1 0 0 5 ≤ nI i) => ?_, fun _ => ?_⟩
      · rw [hW'.n5] at g; exact absurd g (nI_ge hi (by omega))
      · refine ⟨in12 (n := i) (by omega) rfl, (13, i), R0_st (by omega) rfl, ?_⟩
        unfold cWell1 at ih
        refine ⟨fun (g2 : ¬ A.1 13 i 0 = 2) => ?_, fun (g2 : ¬ ¬ A.1 13 i 0 = 2) => ?_⟩
        · rw [if_neg g2] at ih
          exact hK _ _ _ _ _ (go_bus ih ⟨lvi (nI_1 i), rfl, trivial⟩)
        · rw [if_pos (Decidable.not_not.mp g2)] at ih
          refine hG _ _ _ _ (go_wellWater hW' hi ?_)
          exact hK _ _ _ _ _ (go_bus ih ⟨lvi (nI_1 i), rfl, trivial⟩)
    · have hW' : WC ns nc (rep (cWell1 nc) ns M1) := hW1.fr_pW (Fr.rep (fr_cWell1 nc) ns M1)
      refine go_step [61] 60 ?_; intro G K hG hK
      refine ⟨fun _ => h, fun (g : ¬ (rep (cWell1 nc) ns M1).1 0 0 5 ≤ nI ns) => ?_⟩
      rw [hW'.n5] at g; exact absurd (Int32.le_refl _) g
end WATR
