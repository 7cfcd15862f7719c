/-! The class: a day. -/
theorem uI_1 (M : MM) (t i k : Nat) (x : Int32) (a b c : Nat) : (uI M t i k x).1 a b c = if a = t ∧ b = i ∧ c = k then x else M.1 a b c := up3_eq _ _ _ _ _ _ _ _
theorem uI_2 (M : MM) (t i k : Nat) (x : Int32) : (uI M t i k x).2 = M.2 := rfl
theorem uJ_1 (M : MM) (t i k : Nat) (x : Int64) : (uJ M t i k x).1 = M.1 := rfl
theorem uJ_2 (M : MM) (t i k : Nat) (x : Int64) (a b c : Nat) : (uJ M t i k x).2 a b c = if a = t ∧ b = i ∧ c = k then x else M.2 a b c := up3_eq _ _ _ _ _ _ _ _
theorem uC_1 (M : MM) (t i u j n : Nat) (a b c : Nat) : (uC M t i u j n).1 a b c = if a = u ∧ b = j ∧ c < n then M.1 t i c else M.1 a b c := rfl
theorem uC_2 (M : MM) (t i u j n : Nat) : (uC M t i u j n).2 = M.2 := rfl
def cTrA (c : Nat) (M : MM) : MM := uJ (cDrink M c) 0 0 17 (M.2 0 0 17 + (cDied M c).toInt64)
def cTrB (c : Nat) (M : MM) : MM := cDrop (cTrA c M) c
def cTrC (c : Nat) (M : MM) : MM := uI (uJ (cTrB c M) 0 0 16 ((cTrB c M).2 0 0 16 + (cOver (cTrA c M) c).toInt64)) 34 (cl (M.1 15 c 7)) (cl (M.1 15 c 6)) (M.1 34 (cl (M.1 15 c 7)) (cl (M.1 15 c 6)) + cOver (cTrA c M) c)
def cTrD (c : Nat) (M : MM) : MM := if cOver (cTrA c M) c ≤ 0 then cTrB c M else cLoss (cTrC c M) c (cOver (cTrA c M) c) (M.1 0 0 13)
def cTravel (c : Nat) (M : MM) : MM := cGoOn (cTrD c M) c ((cTrD c M).1 0 0 13)
def cTrav1 (c : Nat) (M : MM) : MM := if M.1 15 c 5 = 1 then cTravel c M else M
def cOrd1 (c : Nat) (M : MM) : MM := if M.1 15 c 5 = 0 then cOrder c M else M
def cD1 (M : MM) : MM := uI M 0 0 13 (M.1 0 0 13 + 1)
def cD2 (ns : Nat) (M : MM) : MM := rep (fun s A => cPassSt A s) ns M
def cD3 (nc : Nat) (M : MM) : MM := rep cTrav1 nc M
def cD4 (nc : Nat) (M : MM) : MM := rep cSee1 nc M
def cD5 (ns nc : Nat) (M : MM) : MM := rep (cLet1 ns nc) nc M
def cD6 (ns nc : Nat) (M : MM) : MM := rep (cWell1 nc) ns (rep cRoom1 nc M)
def cD7 (nc : Nat) (M : MM) : MM := rep cOrd1 nc M
def cDay (ns nc : Nat) (M : MM) : MM := cD7 nc (cD6 ns nc (cD5 ns nc (cD4 nc (cD3 nc (cD2 ns (cD1 M))))))
def cDays (ns nc : Nat) : Nat → MM → MM
  | 0, M => M
  | k + 1, M => cDay ns nc (cDays ns nc k M)
section DAYW
variable {ns nc c : Nat} {M : MM}
theorem WC.goOn {d : Int32} (h : WC ns nc M) : WC ns nc (cGoOn M c d) := by
  unfold cGoOn; split
  · split
    · exact h.of rfl rfl (fun _ => rfl) (fun _ => rfl) (fun _ => rfl) (fun _ => rfl) (fun _ => rfl) h.en
    · exact h.of rfl rfl (fun _ => rfl) (fun _ => rfl) (fun _ => rfl) (fun _ => rfl) (fun _ => rfl) h.en
  · exact h.of rfl rfl (fun _ => rfl) (fun _ => rfl) (fun _ => rfl) (fun _ => rfl) (fun _ => rfl) h.en
theorem WC.trA (h : WC ns nc M) : WC ns nc (cTrA c M) := h.of rfl rfl (fun _ => rfl) (fun _ => rfl) (fun _ => rfl) (fun _ => rfl) (fun _ => rfl) h.en
theorem WC.trB (h : WC ns nc M) : WC ns nc (cTrB c M) := h.of rfl rfl (fun _ => rfl) (fun _ => rfl) (fun _ => rfl) (fun _ => rfl) (fun _ => rfl) h.en
theorem WC.trC (h : WC ns nc M) : WC ns nc (cTrC c M) := h.of rfl rfl (fun _ => rfl) (fun _ => rfl) (fun _ => rfl) (fun _ => rfl) (fun _ => rfl) h.en
theorem WC.trD (h : WC ns nc M) : WC ns nc (cTrD c M) := by
  unfold cTrD; split
  · exact h.trB
  · exact h.trC.loss
theorem WC.trav (h : WC ns nc M) : WC ns nc (cTrav1 c M) := by
  unfold cTrav1; split
  · exact h.trD.goOn
  · exact h
theorem WC.pass {s : Nat} (h : WC ns nc M) : WC ns nc (cPassSt M s) := h.of rfl rfl (fun _ => rfl) (fun _ => rfl) (fun _ => rfl) (fun _ => rfl) (fun _ => rfl) h.en
theorem WC.setOut {to d : Int32} (h : WC ns nc M) (hc : c < nc) (h0 : 0 ≤ to) (h1 : to < nI ns) : WC ns nc (cSetOut M c to d) := by
  obtain ⟨-, hi, hx⟩ := in_of h.ls h0 h1
  have e6 : ∀ b, (cSetOut M c to d).1 15 b 6 = if b = c then to else M.1 15 b 6 := fun b => by simp [cSetOut, cCount, uI_1, uC_1]
  have e7 : ∀ b, (cSetOut M c to d).1 15 b 7 = if b = c then M.1 15 c 6 else M.1 15 b 7 := fun b => by simp [cSetOut, cCount, uI_1, uC_1]
  have e25 : ∀ b, (cSetOut M c to d).1 25 b 0 = if b = c then M.1 22 c 0 else M.1 25 b 0 := fun b => by simp [cSetOut, cCount, uI_1, uC_1]
  have e22 : ∀ b, (cSetOut M c to d).1 22 b 0 = M.1 22 b 0 := fun b => by simp [cSetOut, cCount, uI_1, uC_1]
  have e16 : ∀ b, (cSetOut M c to d).1 16 b 0 = M.1 16 b 0 := fun b => by simp [cSetOut, cCount, uI_1, uC_1]
  have e35 : (cSetOut M c to d).1 35 0 0 = M.1 35 0 0 := by simp [cSetOut, cCount, uI_1, uC_1]
  have e05 : (cSetOut M c to d).1 0 0 5 = M.1 0 0 5 := by simp [cSetOut, cCount, uI_1, uC_1]
  have e09 : (cSetOut M c to d).1 0 0 9 = M.1 0 0 9 := by simp [cSetOut, cCount, uI_1, uC_1]
  refine ⟨h.1, ⟨e05.trans h.n5, e09.trans h.n9⟩, fun b hb => ⟨?_, ?_⟩, fun b hb => by rw [e16]; exact h.oc hb, fun b hb => ⟨?_, by rw [e22]; exact h.st hb⟩, by rw [e35]; exact h.en⟩
  · rw [e6]
    by_cases e : b = c
    · rw [if_pos e]; exact ⟨cl to, hi, hx⟩
    · rw [if_neg e]; exact h.at hb
  · rw [e7]
    by_cases e : b = c
    · rw [if_pos e]; exact h.at hc
    · rw [if_neg e]; exact h.fr hb
  · rw [e25]
    by_cases e : b = c
    · rw [if_pos e]; exact h.st hc
    · rw [if_neg e]; exact h.sh hb
theorem WC.set {to : Int32} (h : WC ns nc M) (hc : c < nc) : WC ns nc (cSet M c to) := by
  unfold cSet; split
  · rename_i g
    split
    · exact h
    · exact h.setOut hc g.1 (by rw [← h.n5]; exact g.2)
  · exact h
theorem WC.load {n : Int32} (h : WC ns nc M) : WC ns nc (cLoad M c n) := by
  unfold cLoad; split
  · exact h.of rfl rfl (fun _ => rfl) (fun _ => rfl) (fun _ => rfl) (fun _ => rfl) (fun _ => rfl) h.en
  · exact h
theorem WC.sell {n : Int32} (h : WC ns nc M) : WC ns nc (cSell M c n) := by
  unfold cSell; split
  · exact h.sellM.shares
  · exact h
theorem WC.wait {n : Int32} (h : WC ns nc M) : WC ns nc (cStartWait M c n) := by
  unfold cStartWait; split
  · exact h
  · exact h.of rfl rfl (fun _ => rfl) (fun _ => rfl) (fun _ => rfl) (fun _ => rfl) (fun _ => rfl) h.en
theorem WC.waitOn (h : WC ns nc M) : WC ns nc (cWaitOn M c) := by
  unfold cWaitOn; split
  · exact h.of rfl rfl (fun _ => rfl) (fun _ => rfl) (fun _ => rfl) (fun _ => rfl) (fun _ => rfl) h.en
  · exact h.of rfl rfl (fun _ => rfl) (fun _ => rfl) (fun _ => rfl) (fun _ => rfl) (fun _ => rfl) h.en
theorem WC.act {a n : Int32} (h : WC ns nc M) (hc : c < nc) : WC ns nc (cAct M c a n) := by
  unfold cAct
  split
  · exact h.set hc
  · split
    · exact h.load
    · split
      · exact h.sell
      · split
        · exact h.wait
        · split
          · exact h.turn
          · exact h
theorem WC.order (h : WC ns nc M) (hc : c < nc) : WC ns nc (cOrder c M) := by
  unfold cOrder
  split
  · exact h
  · split
    · split
      · split
        · exact h.turn.act hc
        · exact h.turn
      · exact h.waitOn
    · exact h
theorem WC.ord1 (h : WC ns nc M) (hc : c < nc) : WC ns nc (cOrd1 c M) := by
  unfold cOrd1; split
  · exact h.order hc
  · exact h
theorem WC.d1 (h : WC ns nc M) : WC ns nc (cD1 M) := h.of rfl rfl (fun _ => rfl) (fun _ => rfl) (fun _ => rfl) (fun _ => rfl) (fun _ => rfl) h.en
theorem WC.d2 (h : WC ns nc M) (n : Nat) : WC ns nc (cD2 n M) := rep_inv (P := fun A => WC ns nc A) h (fun _ _ _ h => h.pass)
theorem WC.d3 (h : WC ns nc M) (n : Nat) : WC ns nc (cD3 n M) := rep_inv (P := fun A => WC ns nc A) h (fun _ _ _ h => h.trav)
theorem WC.d4 (h : WC ns nc M) (n : Nat) : WC ns nc (cD4 n M) := h.eqK (eqK_rep eqK_see n M)
theorem WC.d5 (h : WC ns nc M) : WC ns nc (cD5 ns nc M) := h.eqK (eqK_rep (eqK_let ns nc) nc M)
theorem WC.d6 (h : WC ns nc M) : WC ns nc (cD6 ns nc M) := (h.fr_pW (Fr.rep fr_cRoom1 nc M)).fr_pW (Fr.rep (fr_cWell1 nc) ns _)
theorem WC.d7 (h : WC ns nc M) (n : Nat) (hn : n ≤ nc) : WC ns nc (cD7 n M) := rep_inv (P := fun A => WC ns nc A) h (fun i _ hi h => h.ord1 (by omega))
theorem WC.day (h : WC ns nc M) : WC ns nc (cDay ns nc M) := (((((h.d1).d2 ns).d3 nc).d4 nc).d5.d6).d7 nc (Nat.le_refl _)
theorem WC.days (h : WC ns nc M) : ∀ k, WC ns nc (cDays ns nc k M)
  | 0 => h
  | k + 1 => (WC.days h k).day
end DAYW
section DAYS
variable {Γ : GG} {M : MM} {Q : Out → Mem → Prop} {c ns nc : Nat}
theorem go_travel (hW : WC ns nc M) (hc : c < nc) (h : Q rV (mk (cTravel c M))) : Gm Γ M_X6_travel [vr 0 0, vr 15 c] (mk M) Q := by
  refine gm_step [] 100 ?_; intro G K hG hK
  refine hG _ _ _ _ (go_drink ?_)
  refine hG _ _ _ _ (go_dropSlabs (M := cTrA c M) ?_)
  unfold cTravel cTrD at h
  have hr : R0 33 0 (cl (M.1 15 c 7)) = some (34, cl (M.1 15 c 7)) := rA_at (Nat.lt_of_lt_of_le (hW.fx hc) hW.ls)
  refine ⟨fun (g : cOver (cTrA c M) c ≤ 0) => ?_, fun (g : ¬ cOver (cTrA c M) c ≤ 0) => ?_⟩
  · rw [if_pos g] at h
    refine hG _ _ _ _ (go_goOn (M := cTrB c M) ?_)
    exact h
  · rw [if_neg g] at h
    refine ⟨hW.fv hc, (34, cl (M.1 15 c 7)), hr, hW.iv hc, hW.iv hc, ?_⟩
    refine hG _ _ _ _ (go_writeLoss (M := cTrC c M) hW.en ?_)
    refine hG _ _ _ _ (go_goOn ?_)
    exact h
theorem go_passDay (hW : WC ns nc M) (h : Q rV (mk (cDay ns nc M))) : Gm Γ M_X6_passDay [vr 0 0] (mk M) Q := by
  have hn := hW.lc
  have hns := hW.ls
  refine gm_step [12] 60 ?_; intro G K hG hK
  refine hK _ _ _ _ _ (go_sub (lv' := [(1, vi (nI 0)), (0, vr 0 0)]) ⟨rfl, rfl, trivial⟩ ?_)
  unfold cDay at h
  have hW1 : WC ns nc (cD1 M) := hW.d1
  show Go Γ M_X6_passDay 12 _ [] (mk (cD1 M)) (0, 0) Q
  generalize cD1 M = M1 at h hW1 ⊢
  refine loop_up (P := fun i => Go Γ M_X6_passDay 12 [(1, vi (nI i)), (0, vr 0 0)] [] (mk (cD2 i M1)) (0, 0) Q) (n := ns) (fun i hi ih => ?_) ?_
  · have hW' : WC ns nc (cD2 i M1) := hW1.d2 i
    have ih : Go Γ M_X6_passDay 12 [(1, vi (nI (i + 1))), (0, vr 0 0)] [] (mk (cPassSt (cD2 i M1) i)) (0, 0) Q := ih
    generalize cD2 i M1 = A at ih hW' ⊢
    refine go_step [12] 60 ?_; intro G K hG hK
    refine ⟨fun (g : A.1 0 0 5 ≤ nI i) => ?_, fun _ => ?_⟩
    · rw [hW'.n5] at g; exact absurd g (nI_ge hi (by omega))
    · refine ⟨in12 (n := i) (by omega) rfl, (13, i), R0_st (by omega) rfl, ?_⟩
      refine hG _ _ _ _ (go_stPassDay ?_)
      exact hK _ _ _ _ _ (go_bus ih ⟨lvi (nI_1 i), rfl, trivial⟩)
  have hW2 : WC ns nc (cD2 ns M1) := hW1.d2 ns
  generalize cD2 ns M1 = M2 at h hW2 ⊢
  refine go_step [37] 60 ?_; intro G K hG hK
  refine ⟨fun _ => ?_, fun (g : ¬ M2.1 0 0 5 ≤ nI ns) => ?_⟩
  rotate_left
  · rw [hW2.n5] at g; exact absurd (Int32.le_refl _) g
  refine hK _ _ _ _ _ (go_sub (lv' := [(1, vi (nI 0)), (0, vr 0 0)]) ⟨rfl, rfl, trivial⟩ ?_)
  refine loop_up (P := fun i => Go Γ M_X6_passDay 37 [(1, vi (nI i)), (0, vr 0 0)] [] (mk (cD3 i M2)) (0, 0) Q) (n := nc) (fun i hi ih => ?_) ?_
  · have hW' : WC ns nc (cD3 i M2) := hW2.d3 i
    have ih : Go Γ M_X6_passDay 37 [(1, vi (nI (i + 1))), (0, vr 0 0)] [] (mk (cTrav1 i (cD3 i M2))) (0, 0) Q := ih
    generalize cD3 i M2 = A at ih hW' ⊢
    refine go_step [37] 60 ?_; intro G K hG hK
    refine ⟨fun (g : A.1 0 0 9 ≤ nI i) => ?_, fun _ => ?_⟩
    · rw [hW'.n9] at g; exact absurd g (nI_ge hi (by omega))
    · refine ⟨in12 (n := i) (by omega) rfl, (15, i), R0_ca (by omega) rfl, ?_⟩
      unfold cTrav1 at ih
      refine ⟨fun (g : ¬ A.1 15 i 5 = 1) => ?_, fun (g : ¬ ¬ A.1 15 i 5 = 1) => ?_⟩
      · rw [if_neg g] at ih
        exact hK _ _ _ _ _ (go_bus ih ⟨lvi (nI_1 i), rfl, trivial⟩)
      · rw [if_pos (Decidable.not_not.mp g)] at ih
        refine ⟨in12 (n := i) (by omega) rfl, (15, i), R0_ca (by omega) rfl, ?_⟩
        refine hG _ _ _ _ (go_travel hW' hi ?_)
        exact hK _ _ _ _ _ (go_bus ih ⟨lvi (nI_1 i), rfl, trivial⟩)
  have hW3 : WC ns nc (cD3 nc M2) := hW2.d3 nc
  generalize cD3 nc M2 = M3 at h hW3 ⊢
  refine go_step [88] 60 ?_; intro G K hG hK
  refine ⟨fun _ => ?_, fun (g : ¬ M3.1 0 0 9 ≤ nI nc) => ?_⟩
  rotate_left
  · rw [hW3.n9] at g; exact absurd (Int32.le_refl _) g
  refine hG _ _ _ _ (go_seePrices hW3 ?_)
  refine hG _ _ _ _ (go_tellLetters (hW3.d4 nc) ?_)
  refine hG _ _ _ _ (go_giveWater (hW3.d4 nc).d5 ?_)
  refine hK _ _ _ _ _ (go_sub (lv' := [(1, vi (nI 0)), (0, vr 0 0)]) ⟨rfl, rfl, trivial⟩ ?_)
  have hW6 : WC ns nc (cD6 ns nc (cD5 ns nc (cD4 nc M3))) := (hW3.d4 nc).d5.d6
  show Go Γ M_X6_passDay 88 _ [] (mk (cD6 ns nc (cD5 ns nc (cD4 nc M3)))) (0, 0) Q
  generalize cD6 ns nc (cD5 ns nc (cD4 nc M3)) = M6 at h hW6 ⊢
  refine loop_up (P := fun i => Go Γ M_X6_passDay 88 [(1, vi (nI i)), (0, vr 0 0)] [] (mk (cD7 i M6)) (0, 0) Q) (n := nc) (fun i hi ih => ?_) ?_
  · have hW' : WC ns nc (cD7 i M6) := hW6.d7 i (by omega)
    have ih : Go Γ M_X6_passDay 88 [(1, vi (nI (i + 1))), (0, vr 0 0)] [] (mk (cOrd1 i (cD7 i M6))) (0, 0) Q := ih
    generalize cD7 i M6 = A at ih hW' ⊢
    refine go_step [88] 60 ?_; intro G K hG hK
    refine ⟨fun (g : A.1 0 0 9 ≤ nI i) => ?_, fun _ => ?_⟩
    · rw [hW'.n9] at g; exact absurd g (nI_ge hi (by omega))
    · refine ⟨in12 (n := i) (by omega) rfl, (15, i), R0_ca (by omega) rfl, ?_⟩
      unfold cOrd1 at ih
      refine ⟨fun (g : ¬ A.1 15 i 5 = 0) => ?_, fun (g : ¬ ¬ A.1 15 i 5 = 0) => ?_⟩
      · rw [if_neg g] at ih
        exact hK _ _ _ _ _ (go_bus ih ⟨lvi (nI_1 i), rfl, trivial⟩)
      · rw [if_pos (Decidable.not_not.mp g)] at ih
        refine ⟨in12 (n := i) (by omega) rfl, (15, i), R0_ca (by omega) rfl, ?_⟩
        refine hG _ _ _ _ (go_order hW' hi ?_)
        exact hK _ _ _ _ _ (go_bus ih ⟨lvi (nI_1 i), rfl, trivial⟩)
  · have hW' : WC ns nc (cD7 nc M6) := hW6.d7 nc (Nat.le_refl _)
    refine go_step [88] 60 ?_; intro G K hG hK
    refine ⟨fun _ => h, fun (g : ¬ (cD7 nc M6).1 0 0 9 ≤ nI nc) => ?_⟩
    rw [hW'.n9] at g; exact absurd (Int32.le_refl _) g
theorem go_days_bad {n : Int32} (hb : ¬ (0 ≤ n ∧ n ≤ 200)) (h : Q (rX 0) (mk M)) : Gm Γ M_X6_days [vr 0 0, vi n] (mk M) Q := by
  refine gm_step [] 60 ?_; intro G K hG hK
  refine hG _ _ _ _ (gm_isWithin ?_)
  exact br_n (fun g => absurd g hb) (fun _ => h)
theorem go_days {n : Nat} (hW : WC ns nc M) (hb : n ≤ 200) (h : Q (rI ((cDays ns nc n M).1 0 0 13)) (mk (cDays ns nc n M))) : Gm Γ M_X6_days [vr 0 0, vi (nI n)] (mk M) Q := by
  refine gm_step [23] 60 ?_; intro G K hG hK
  refine hG _ _ _ _ (gm_isWithin ?_)
  refine br_n (fun g => ?_) (fun g => absurd ⟨nI_pos' (by omega), nI_le hb (by decide)⟩ g)
  refine hK _ _ _ _ _ (go_sub (lv' := [(2, vi (nI 0)), (1, vi (nI n)), (0, vr 0 0)]) ⟨rfl, rfl, rfl, trivial⟩ ?_)
  refine loop_up (P := fun i => Go Γ M_X6_days 23 [(2, vi (nI i)), (1, vi (nI n)), (0, vr 0 0)] [] (mk (cDays ns nc i M)) (0, 0) Q) (n := n) (fun i hi ih => ?_) ?_
  · refine go_step [23] 60 ?_; intro G K hG hK
    refine ⟨fun (g : nI n ≤ nI i) => absurd g (nI_ge hi (by omega)), fun _ => ?_⟩
    refine hG _ _ _ _ (go_passDay (hW.days i) ?_)
    exact hK _ _ _ _ _ (go_bus ih ⟨lvi (nI_1 i), rfl, rfl, trivial⟩)
  · refine go_step [23] 60 ?_; intro G K hG hK
    exact ⟨fun _ => h, fun (g : ¬ nI n ≤ nI n) => absurd (Int32.le_refl _) g⟩
end DAYS
