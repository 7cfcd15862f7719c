/-! The class: prices seen, letters. -/
section WCI
variable {ns nc : Nat} {M : MM} {c : Nat}
theorem cl_lt {x : Int32} {s n : Nat} (h : s < n) (hn : n ≤ 12) (e : x = nI s) : cl x < n := by subst e; rw [show cl (nI s) = s from nI_clamp (by omega)]; exact h
theorem WC.ix (h : WC ns nc M) (hc : c < nc) : cl (M.1 15 c 6) < ns := by
  obtain ⟨s, hs, e⟩ := h.at hc
  exact cl_lt hs h.ls e
theorem WC.iv (h : WC ns nc M) (hc : c < nc) : vp_in (M.1 15 c 6) 12 := by
  obtain ⟨s, hs, e⟩ := h.at hc
  exact in12 (Nat.lt_of_lt_of_le hs h.ls) e
theorem WC.r12 (h : WC ns nc M) (hc : c < nc) : R0 12 0 (cl (M.1 15 c 6)) = some (13, cl (M.1 15 c 6)) := rA_at (Nat.lt_of_lt_of_le (h.ix hc) h.ls)
theorem WC.fx (h : WC ns nc M) (hc : c < nc) : cl (M.1 15 c 7) < ns := by
  obtain ⟨s, hs, e⟩ := h.fr hc
  exact cl_lt hs h.ls e
theorem WC.fv (h : WC ns nc M) (hc : c < nc) : vp_in (M.1 15 c 7) 12 := by
  obtain ⟨s, hs, e⟩ := h.fr hc
  exact in12 (Nat.lt_of_lt_of_le hs h.ls) e
end WCI
def cPrice (M : MM) (s : Nat) : Int32 := if M.1 13 s 6 ≤ 0 then 0 else mx0 (M.1 13 s 5 - M.1 13 s 7 / M.1 13 s 6)
def cSee1 (c : Nat) (M : MM) : MM :=
  if M.1 15 c 5 = 0 then if M.1 13 (cl (M.1 15 c 6)) 0 = 3 then
    uI (uI M 28 c (cl (M.1 15 c 6)) (cPrice M (cl (M.1 15 c 6)))) 29 c (cl (M.1 15 c 6)) (M.1 0 0 13) else M else M
def cHear1 (c d i : Nat) (M : MM) : MM := if M.1 29 d i ≤ M.1 29 c i then M else uI (uI M 29 c i (M.1 29 d i)) 28 c i (M.1 28 d i)
def cHear (ns c d : Nat) (M : MM) : MM := rep (cHear1 c d) ns M
def cTellA (ns n i : Nat) (M : MM) : MM := if M.1 15 i 5 = 0 ∧ M.1 15 i 6 = M.1 15 n 6 then cHear ns n i M else M
def cTellB (ns n i : Nat) (M : MM) : MM := if M.1 15 i 5 = 0 ∧ M.1 15 i 6 = M.1 15 n 6 then cHear ns i n M else M
def cTellAt (ns nc n : Nat) (M : MM) : MM := rep (fun k => cTellB ns n (n + 1 + k)) (nc - (n + 1)) (rep (fun k => cTellA ns n (n + 1 + k)) (nc - (n + 1)) M)
def cFstB (M : MM) (s : Int32) : Nat → Bool
  | 0 => true
  | n + 1 => cFstB M s n && !decide (M.1 15 n 5 = 0 ∧ M.1 15 n 6 = s)
theorem cFstB_iff {M : MM} {s : Int32} : ∀ {n : Nat}, cFstB M s n = true ↔ cFst M s n
  | 0 => ⟨fun _ _ hi => absurd hi (Nat.not_lt_zero _), fun _ => rfl⟩
  | n + 1 => by
    unfold cFstB
    rw [Bool.and_eq_true, cFstB_iff, Bool.not_eq_true', decide_eq_false_iff_not]
    refine ⟨fun h i hi => ?_, fun h => ⟨fun i hi => h i (by omega), h n (by omega)⟩⟩
    rcases Nat.lt_or_ge i n with q | q
    · exact h.1 i q
    · rw [show i = n by omega]; exact h.2
def cLet1 (ns nc i : Nat) (M : MM) : MM := if M.1 15 i 5 = 0 then if cFstB M (M.1 15 i 6) i = true then cTellAt ns nc i M else M else M
/-- memories that differ in what caravans know alone -/
def eqK (M M' : MM) : Prop := M'.2 = M.2 ∧ ∀ t, t ≠ 28 → t ≠ 29 → M'.1 t = M.1 t
theorem eqK.rfl' {M : MM} : eqK M M := ⟨rfl, fun _ _ _ => rfl⟩
theorem eqK.trans {A B C : MM} (h : eqK A B) (h2 : eqK B C) : eqK A C := ⟨h2.1.trans h.1, fun t a b => (h2.2 t a b).trans (h.2 t a b)⟩
theorem uI_t {M : MM} {t i k : Nat} {x : Int32} {a : Nat} (h : a ≠ t) : (uI M t i k x).1 a = M.1 a := by
  funext b c
  show up3 M.1 t i k x a b c = _
  rw [up3_eq, if_neg (fun e => h e.1)]
theorem eqK.u28 {M : MM} {i k : Nat} {x : Int32} : eqK M (uI M 28 i k x) := ⟨rfl, fun _ a _ => uI_t a⟩
theorem eqK.u29 {M : MM} {i k : Nat} {x : Int32} : eqK M (uI M 29 i k x) := ⟨rfl, fun _ _ a => uI_t a⟩
theorem eqK_see (c : Nat) (M : MM) : eqK M (cSee1 c M) := by
  unfold cSee1; split
  · split
    · exact eqK.u28.trans eqK.u29
    · exact eqK.rfl'
  · exact eqK.rfl'
theorem eqK_hear1 (c d i : Nat) (M : MM) : eqK M (cHear1 c d i M) := by
  unfold cHear1; split
  · exact eqK.rfl'
  · exact eqK.u29.trans eqK.u28
theorem eqK_rep {f : Nat → MM → MM} (hf : ∀ i M, eqK M (f i M)) (n : Nat) (M : MM) : eqK M (rep f n M) := rep_inv (P := fun A => eqK M A) eqK.rfl' (fun i A _ h => h.trans (hf i A))
theorem eqK_hear (ns c d : Nat) (M : MM) : eqK M (cHear ns c d M) := eqK_rep (eqK_hear1 c d) ns M
theorem eqK_tellA (ns n i : Nat) (M : MM) : eqK M (cTellA ns n i M) := by
  unfold cTellA; split
  · exact eqK_hear _ _ _ _
  · exact eqK.rfl'
theorem eqK_tellB (ns n i : Nat) (M : MM) : eqK M (cTellB ns n i M) := by
  unfold cTellB; split
  · exact eqK_hear _ _ _ _
  · exact eqK.rfl'
theorem eqK_tellAt (ns nc n : Nat) (M : MM) : eqK M (cTellAt ns nc n M) := (eqK_rep (fun i M => eqK_tellA ns n _ M) _ M).trans (eqK_rep (fun i M => eqK_tellB ns n _ M) _ _)
theorem eqK_let (ns nc i : Nat) (M : MM) : eqK M (cLet1 ns nc i M) := by
  unfold cLet1; split
  · split
    · exact eqK_tellAt _ _ _ _
    · exact eqK.rfl'
  · exact eqK.rfl'
theorem WC.eqK {ns nc : Nat} {M M' : MM} (h : WC ns nc M) (e : eqK M M') : WC ns nc M' := by
  have e0 := e.2 0 (by decide) (by decide)
  have e15 := e.2 15 (by decide) (by decide)
  have e16 := e.2 16 (by decide) (by decide)
  have e25 := e.2 25 (by decide) (by decide)
  have e22 := e.2 22 (by decide) (by decide)
  have e35 := e.2 35 (by decide) (by decide)
  exact h.of (by rw [e0]) (by rw [e0]) (fun c => by rw [e15]) (fun c => by rw [e15]) (fun c => by rw [e16]) (fun c => by rw [e25]) (fun c => by rw [e22]) (by rw [e35]; exact h.en)
section LETT
variable {Γ : GG} {M : MM} {Q : Out → Mem → Prop} {c ns nc : Nat}
theorem gm_price {s : Nat} (h : Q (rI (cPrice M s)) (mk M)) : Gm Γ M_X4_price [vr 13 s] (mk M) Q := go_price h
theorem go_seePrices (hW : WC ns nc M) (h : Q rV (mk (rep cSee1 nc M))) : Gm Γ M_X6_seePrices [vr 0 0] (mk M) Q := by
  have hn := hW.lc
  refine gm_step [2] 60 ?_; intro G K hG hK
  refine hK _ _ _ _ _ (go_sub (lv' := [(1, vi (nI 0)), (0, vr 0 0)]) ⟨rfl, rfl, trivial⟩ ?_)
  refine loop_up (P := fun i => Go Γ M_X6_seePrices 2 [(1, vi (nI i)), (0, vr 0 0)] [] (mk (rep cSee1 i M)) (0, 0) Q) (n := nc) (fun i hi ih => ?_) ?_
  · have hW' : WC ns nc (rep cSee1 i M) := hW.eqK (eqK_rep eqK_see i M)
    have ih : Go Γ M_X6_seePrices 2 [(1, vi (nI (i + 1))), (0, vr 0 0)] [] (mk (cSee1 i (rep cSee1 i M))) (0, 0) Q := ih
    generalize rep cSee1 i M = A at ih hW' ⊢
    refine go_step [2] 60 ?_; intro G K hG hK
    refine ⟨fun (g : A.1 0 0 9 ≤ nI i) => ?_, fun _ => ?_⟩
    · rw [hW'.n9] at g; exact absurd g (nI_ge hi (by omega))
    · refine ⟨in12 (n := i) (by omega) rfl, (15, i), R0_ca (by omega) rfl, ?_⟩
      unfold cSee1 at ih
      refine ⟨fun (g : ¬ A.1 15 i 5 = 0) => ?_, fun (g : ¬ ¬ A.1 15 i 5 = 0) => ?_⟩
      · rw [if_neg g] at ih
        exact hK _ _ _ _ _ (go_bus ih ⟨lvi (nI_1 i), rfl, trivial⟩)
      · rw [if_pos (Decidable.not_not.mp g)] at ih
        refine ⟨hW'.iv hi, (13, cl (A.1 15 i 6)), hW'.r12 hi, ?_⟩
        refine ⟨fun (g2 : ¬ A.1 13 (cl (A.1 15 i 6)) 0 = 3) => ?_, fun (g2 : ¬ ¬ A.1 13 (cl (A.1 15 i 6)) 0 = 3) => ?_⟩
        · rw [if_neg g2] at ih
          exact hK _ _ _ _ _ (go_bus ih ⟨lvi (nI_1 i), rfl, trivial⟩)
        · rw [if_pos (Decidable.not_not.mp g2)] at ih
          refine ⟨hW'.iv hi, (13, cl (A.1 15 i 6)), hW'.r12 hi, ?_⟩
          refine hG _ _ _ _ (gm_price ?_)
          refine ⟨hW'.iv hi, hW'.iv hi, ?_⟩
          exact hK _ _ _ _ _ (go_bus ih ⟨lvi (nI_1 i), rfl, trivial⟩)
  · have hW' : WC ns nc (rep cSee1 nc M) := hW.eqK (eqK_rep eqK_see nc M)
    refine go_step [2] 60 ?_; intro G K hG hK
    refine ⟨fun _ => h, fun (g : ¬ (rep cSee1 nc M).1 0 0 9 ≤ nI nc) => ?_⟩
    rw [hW'.n9] at g; exact absurd (Int32.le_refl _) g
theorem go_hear {d : Nat} (hn : ns ≤ 12) (h : Q rV (mk (cHear ns c d M))) : Gm Γ M_X0_hear [vr 15 c, vr 15 d, vi (nI ns)] (mk M) Q := by
  refine gm_step [2] 60 ?_; intro G K hG hK
  refine hK _ _ _ _ _ (go_sub (lv' := [(3, vi (nI 0)), (2, vi (nI ns)), (1, vr 15 d), (0, vr 15 c)]) ⟨rfl, rfl, rfl, rfl, trivial⟩ ?_)
  refine loop_up (P := fun i => Go Γ M_X0_hear 2 [(3, vi (nI i)), (2, vi (nI ns)), (1, vr 15 d), (0, vr 15 c)] [] (mk (rep (cHear1 c d) i M)) (0, 0) Q) (n := ns) (fun i hi ih => ?_) ?_
  · have ih : Go Γ M_X0_hear 2 [(3, vi (nI (i + 1))), (2, vi (nI ns)), (1, vr 15 d), (0, vr 15 c)] [] (mk (cHear1 c d i (rep (cHear1 c d) i M))) (0, 0) Q := ih
    generalize rep (cHear1 c d) i M = A at ih ⊢
    have e : cl (nI i) = i := nI_clamp (by omega)
    have hv : vp_in (nI i) 12 := in12 (n := i) (by omega) rfl
    refine go_step [2] 60 ?_; intro G K hG hK
    refine ⟨fun (g : nI ns ≤ nI i) => absurd g (nI_ge hi (by omega)), fun _ => ?_⟩
    refine ⟨fun (g : nI 12 ≤ nI i) => absurd g (nI_ge (by omega) (by omega)), fun _ => ?_⟩
    refine ⟨hv, hv, ?_⟩
    unfold cHear1 at ih
    refine ⟨fun (g : A.1 29 d (cl (nI i)) ≤ A.1 29 c (cl (nI i))) => ?_, fun (g : ¬ A.1 29 d (cl (nI i)) ≤ A.1 29 c (cl (nI i))) => ?_⟩
    · rw [e] at g
      rw [if_pos g] at ih
      exact hK _ _ _ _ _ (go_bus ih ⟨lvi (nI_1 i), rfl, rfl, rfl, trivial⟩)
    · refine ⟨hv, hv, hv, hv, ?_⟩
      rw [e] at g
      rw [if_neg g] at ih
      have ih2 : Go Γ M_X0_hear 2 [(3, vi (nI (i + 1))), (2, vi (nI ns)), (1, vr 15 d), (0, vr 15 c)] [] (mk (uI (uI A 29 c (cl (nI i)) (A.1 29 d (cl (nI i)))) 28 c (cl (nI i)) (A.1 28 d (cl (nI i))))) (0, 0) Q := by rw [e]; exact ih
      exact hK _ _ _ _ _ (go_bus ih2 ⟨lvi (nI_1 i), rfl, rfl, rfl, trivial⟩)
  · refine go_step [2] 60 ?_; intro G K hG hK
    exact ⟨fun _ => h, fun (g : ¬ nI ns ≤ nI ns) => absurd (Int32.le_refl _) g⟩
theorem go_tellAt {n : Nat} (hW : WC ns nc M) (hc : n < nc) (h : Q rV (mk (cTellAt ns nc n M))) : Gm Γ M_X6_tellLettersAt [vr 0 0, vi (nI n)] (mk M) Q := by
  have hn := hW.lc
  have hs := hW.ls
  refine gm_step [11] 60 ?_; intro G K hG hK
  refine ⟨in12 (n := n) (by omega) rfl, (15, n), R0_ca (by omega) rfl, ?_⟩
  refine hK _ _ _ _ _ (go_sub (lv' := [(3, vi (nI (n + 1 + 0))), (2, vr 15 n), (1, vi (nI n)), (0, vr 0 0)]) ⟨lvi (nI_1 n), rfl, rfl, rfl, trivial⟩ ?_)
  refine loop_up (P := fun k => Go Γ M_X6_tellLettersAt 11 [(3, vi (nI (n + 1 + k))), (2, vr 15 n), (1, vi (nI n)), (0, vr 0 0)] [] (mk (rep (fun k => cTellA ns n (n + 1 + k)) k M)) (0, 0) Q) (n := nc - (n + 1)) (fun k hk ih => ?_) ?_
  · have hW' : WC ns nc (rep (fun k => cTellA ns n (n + 1 + k)) k M) := hW.eqK (eqK_rep (fun i M => eqK_tellA ns n _ M) k M)
    have ih : Go Γ M_X6_tellLettersAt 11 [(3, vi (nI (n + 1 + k + 1))), (2, vr 15 n), (1, vi (nI n)), (0, vr 0 0)] [] (mk (cTellA ns n (n + 1 + k) (rep (fun k => cTellA ns n (n + 1 + k)) k M))) (0, 0) Q := ih
    generalize rep (fun k => cTellA ns n (n + 1 + k)) k M = A at ih hW' ⊢
    refine go_step [11] 60 ?_; intro G K hG hK
    refine ⟨fun (g : A.1 0 0 9 ≤ nI (n + 1 + k)) => ?_, fun _ => ?_⟩
    · rw [hW'.n9] at g; exact absurd g (nI_ge (by omega) (by omega))
    · refine ⟨in12 (n := n + 1 + k) (by omega) rfl, (15, n + 1 + k), R0_ca (by omega) rfl, ?_⟩
      refine hG _ _ _ _ (gm_isAt (w := A.1 15 n 6) ?_)
      unfold cTellA at ih
      refine br_z (fun g => ?_) (fun g => ?_)
      · rw [if_neg g] at ih
        exact hK _ _ _ _ _ (go_bus ih ⟨lvi (nI_1 _), rfl, rfl, rfl, trivial⟩)
      · rw [if_pos g] at ih
        refine ⟨in12 (n := n + 1 + k) (by omega) rfl, (15, n + 1 + k), R0_ca (by omega) rfl, ?_⟩
        show G M_X0_hear [vr 15 n, vr 15 (n + 1 + k), vi (A.1 0 0 5)] (mk A) _
        rw [hW'.n5]
        refine hG _ _ _ _ (go_hear hs ?_)
        exact hK _ _ _ _ _ (go_bus ih ⟨lvi (nI_1 _), rfl, rfl, rfl, trivial⟩)
  · have hW1 : WC ns nc (rep (fun k => cTellA ns n (n + 1 + k)) (nc - (n + 1)) M) := hW.eqK (eqK_rep (fun i M => eqK_tellA ns n _ M) _ M)
    have h : Q rV (mk (rep (fun k => cTellB ns n (n + 1 + k)) (nc - (n + 1)) (rep (fun k => cTellA ns n (n + 1 + k)) (nc - (n + 1)) M))) := h
    generalize rep (fun k => cTellA ns n (n + 1 + k)) (nc - (n + 1)) M = M1 at h hW1 ⊢
    refine go_step [11, 59] 60 ?_; intro G K hG hK
    refine ⟨fun _ => ?_, fun (g : ¬ M1.1 0 0 9 ≤ nI (n + 1 + (nc - (n + 1)))) => ?_⟩
    rotate_left
    · rw [hW1.n9, show n + 1 + (nc - (n + 1)) = nc by omega] at g; exact absurd (Int32.le_refl _) g
    refine hK _ _ _ _ _ (go_sub (lv' := [(3, vi (nI (n + 1 + 0))), (2, vr 15 n), (1, vi (nI n)), (0, vr 0 0)]) ⟨lvi (nI_1 n), rfl, rfl, rfl, trivial⟩ ?_)
    refine loop_up (P := fun k => Go Γ M_X6_tellLettersAt 59 [(3, vi (nI (n + 1 + k))), (2, vr 15 n), (1, vi (nI n)), (0, vr 0 0)] [] (mk (rep (fun k => cTellB ns n (n + 1 + k)) k M1)) (0, 0) Q) (n := nc - (n + 1)) (fun k hk ih => ?_) ?_
    · have hW' : WC ns nc (rep (fun k => cTellB ns n (n + 1 + k)) k M1) := hW1.eqK (eqK_rep (fun i M => eqK_tellB ns n _ M) k M1)
      have ih : Go Γ M_X6_tellLettersAt 59 [(3, vi (nI (n + 1 + k + 1))), (2, vr 15 n), (1, vi (nI n)), (0, vr 0 0)] [] (mk (cTellB ns n (n + 1 + k) (rep (fun k => cTellB ns n (n + 1 + k)) k M1))) (0, 0) Q := ih
      generalize rep (fun k => cTellB ns n (n + 1 + k)) k M1 = A at ih hW' ⊢
      refine go_step [59] 60 ?_; intro G K hG hK
      refine ⟨fun (g : A.1 0 0 9 ≤ nI (n + 1 + k)) => ?_, fun _ => ?_⟩
      · rw [hW'.n9] at g; exact absurd g (nI_ge (by omega) (by omega))
      · refine ⟨in12 (n := n + 1 + k) (by omega) rfl, (15, n + 1 + k), R0_ca (by omega) rfl, ?_⟩
        refine hG _ _ _ _ (gm_isAt (w := A.1 15 n 6) ?_)
        unfold cTellB at ih
        refine br_z (fun g => ?_) (fun g => ?_)
        · rw [if_neg g] at ih
          exact hK _ _ _ _ _ (go_bus ih ⟨lvi (nI_1 _), rfl, rfl, rfl, trivial⟩)
        · rw [if_pos g] at ih
          refine ⟨in12 (n := n + 1 + k) (by omega) rfl, (15, n + 1 + k), R0_ca (by omega) rfl, ?_⟩
          show G M_X0_hear [vr 15 (n + 1 + k), vr 15 n, vi (A.1 0 0 5)] (mk A) _
          rw [hW'.n5]
          refine hG _ _ _ _ (go_hear hs ?_)
          exact hK _ _ _ _ _ (go_bus ih ⟨lvi (nI_1 _), rfl, rfl, rfl, trivial⟩)
    · have hW' : WC ns nc (rep (fun k => cTellB ns n (n + 1 + k)) (nc - (n + 1)) M1) := hW1.eqK (eqK_rep (fun i M => eqK_tellB ns n _ M) _ M1)
      refine go_step [59] 60 ?_; intro G K hG hK
      refine ⟨fun _ => h, fun (g : ¬ (rep (fun k => cTellB ns n (n + 1 + k)) (nc - (n + 1)) M1).1 0 0 9 ≤ nI (n + 1 + (nc - (n + 1)))) => ?_⟩
      rw [hW'.n9, show n + 1 + (nc - (n + 1)) = nc by omega] at g; exact absurd (Int32.le_refl _) g
theorem go_tellLetters (hW : WC ns nc M) (h : Q rV (mk (rep (cLet1 ns nc) nc M))) : Gm Γ M_X6_tellLetters [vr 0 0] (mk M) Q := by
  have hn := hW.lc
  refine gm_step [2] 60 ?_; intro G K hG hK
  refine hK _ _ _ _ _ (go_sub (lv' := [(1, vi (nI 0)), (0, vr 0 0)]) ⟨rfl, rfl, trivial⟩ ?_)
  refine loop_up (P := fun i => Go Γ M_X6_tellLetters 2 [(1, vi (nI i)), (0, vr 0 0)] [] (mk (rep (cLet1 ns nc) i M)) (0, 0) Q) (n := nc) (fun i hi ih => ?_) ?_
  · have hW' : WC ns nc (rep (cLet1 ns nc) i M) := hW.eqK (eqK_rep (eqK_let ns nc) i M)
    have ih : Go Γ M_X6_tellLetters 2 [(1, vi (nI (i + 1))), (0, vr 0 0)] [] (mk (cLet1 ns nc i (rep (cLet1 ns nc) i M))) (0, 0) Q := ih
    generalize rep (cLet1 ns nc) i M = A at ih hW' ⊢
    refine go_step [2] 60 ?_; intro G K hG hK
    refine ⟨fun (g : A.1 0 0 9 ≤ nI i) => ?_, fun _ => ?_⟩
    · rw [hW'.n9] at g; exact absurd g (nI_ge hi (by omega))
    · refine ⟨in12 (n := i) (by omega) rfl, (15, i), R0_ca (by omega) rfl, ?_⟩
      unfold cLet1 at ih
      refine ⟨fun (g : ¬ A.1 15 i 5 = 0) => ?_, fun (g : ¬ ¬ A.1 15 i 5 = 0) => ?_⟩
      · rw [if_neg g] at ih
        exact hK _ _ _ _ _ (go_bus ih ⟨lvi (nI_1 i), rfl, trivial⟩)
      · rw [if_pos (Decidable.not_not.mp g)] at ih
        refine hG _ _ _ _ (go_isFirst hW' hi (fun b _ hb => ?_))
        refine br_z (fun g => ?_) (fun g => ?_)
        · rw [if_neg (fun q => g (hb.mpr (cFstB_iff.mp q)))] at ih
          exact hK _ _ _ _ _ (go_bus ih ⟨lvi (nI_1 i), rfl, trivial⟩)
        · rw [if_pos (cFstB_iff.mpr (hb.mp g))] at ih
          refine hG _ _ _ _ (go_tellAt hW' hi ?_)
          exact hK _ _ _ _ _ (go_bus ih ⟨lvi (nI_1 i), rfl, trivial⟩)
  · have hW' : WC ns nc (rep (cLet1 ns nc) nc M) := hW.eqK (eqK_rep (eqK_let ns nc) nc M)
    refine go_step [2] 60 ?_; intro G K hG hK
    refine ⟨fun _ => h, fun (g : ¬ (rep (cLet1 ns nc) nc M).1 0 0 9 ≤ nI nc) => ?_⟩
    rw [hW'.n9] at g; exact absurd (Int32.le_refl _) g
end LETT
