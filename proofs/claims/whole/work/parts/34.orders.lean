/-! The class: what an order does. -/
theorem in_of {x : Int32} {n : Nat} (hn : n ≤ 12) (h0 : 0 ≤ x) (h1 : x < nI n) : vp_in x 12 ∧ cl x < n ∧ x = nI (cl x) := by
  obtain ⟨j, hj, rfl⟩ := nI_of (Int32.not_lt.mpr h0)
  have hjn : j < n := (nI_ltI hj (by omega)).mp h1
  have e : cl (nI j) = j := nI_clamp hj
  exact ⟨in12 (n := j) (by omega) rfl, by rw [e]; exact hjn, by rw [e]⟩
theorem inc300 {x : Int32} (h0 : ¬ x < 0) (h1 : x < 300) : ¬ x + 1 < 0 := by
  obtain ⟨j, hj, rfl⟩ := nI_of h0
  rw [nI_1]
  have : j < 300 := (nI_ltI hj (by decide)).mp h1
  exact nI_pos (by omega)
def pE (t _ : Nat) : Prop := 35 ≤ t ∧ t ≤ 40
theorem fr_write (M : MM) (a p d m : Int32) : Fr pE M (cWrite M a p d m) := by
  unfold cWrite; split
  · exact Fr.rfl'
  · split
    · exact (((((Fr.u (by unfold pE; omega)).trans (Fr.u (by unfold pE; omega))).trans (Fr.u (by unfold pE; omega))).trans (Fr.u (by unfold pE; omega))).trans (Fr.u (by unfold pE; omega))).trans (Fr.u (by unfold pE; omega))
    · exact Fr.rfl'
theorem en_write {M : MM} {a p d m : Int32} (h : ¬ M.1 35 0 0 < 0) : ¬ (cWrite M a p d m).1 35 0 0 < 0 := by
  unfold cWrite; split
  · exact h
  · split
    · rename_i g; show ¬ M.1 35 0 0 + 1 < 0; exact inc300 h g
    · exact h
theorem WC.fr_pE {ns nc : Nat} {M M' : MM} (h : WC ns nc M) (e : Fr pE M M') (he : ¬ M'.1 35 0 0 < 0) : WC ns nc M' :=
  h.of (e.2 _ _ _ (by unfold pE; omega)) (e.2 _ _ _ (by unfold pE; omega)) (fun c => e.2 _ _ _ (by unfold pE; omega)) (fun c => e.2 _ _ _ (by unfold pE; omega)) (fun c => e.2 _ _ _ (by unfold pE; omega)) (fun c => e.2 _ _ _ (by unfold pE; omega)) (fun c => e.2 _ _ _ (by unfold pE; omega)) he
theorem WC.write {ns nc : Nat} {M : MM} {a p d m : Int32} (h : WC ns nc M) : WC ns nc (cWrite M a p d m) := h.fr_pE (fr_write M a p d m) (en_write h.en)
theorem WC.loss {ns nc : Nat} {M : MM} {c : Nat} {l d : Int32} (h : WC ns nc M) : WC ns nc (cLoss M c l d) := by
  unfold cLoss; split
  · exact h
  · exact h.write
theorem fr_loss (M : MM) (c : Nat) (l d : Int32) : Fr pE M (cLoss M c l d) := by
  unfold cLoss; split
  · exact Fr.rfl'
  · exact fr_write _ _ _ _ _
def cRest (M : MM) (c : Nat) (m : Int64) : Nat → Int64
  | 0 => m
  | k + 1 => cRest M c m k - cPart M c m (nI k)
def cShr1 (c : Nat) (m r : Int64) (d : Int32) (k : Nat) (M : MM) : MM := cWrite M (M.1 15 c 0) (M.1 26 c k) d (cPart M c m (nI k) + (if nI k = 0 then r else 0)).toInt32
def cShares (M : MM) (c : Nat) (m : Int64) (d : Int32) : MM := rep (cShr1 c m (cRest M c m (cl (M.1 25 c 0))) d) (cl (M.1 25 c 0)) M
theorem fr_shr1 (c : Nat) (m r : Int64) (d : Int32) (k : Nat) (M : MM) : Fr pE M (cShr1 c m r d k M) := fr_write _ _ _ _ _
theorem WC.shr {ns nc : Nat} {M : MM} {c : Nat} {m r : Int64} {d : Int32} (h : WC ns nc M) (n : Nat) : WC ns nc (rep (cShr1 c m r d) n M) := rep_inv (P := fun A => WC ns nc A) h (fun _ _ _ h => h.write)
theorem WC.shares {ns nc : Nat} {M : MM} {c : Nat} {m : Int64} {d : Int32} (h : WC ns nc M) : WC ns nc (cShares M c m d) := h.shr _
theorem fr_shares (M : MM) (c : Nat) (m : Int64) (d : Int32) : Fr pE M (cShares M c m d) := Fr.rep (fr_shr1 c m _ d) _ M
theorem cPart_fr {M M' : MM} (e : Fr pE M M') (c : Nat) (m : Int64) (k : Int32) : cPart M' c m k = cPart M c m k := by
  unfold cPart
  rw [e.2 25 c 3 (by unfold pE; omega), e.2 27 c _ (by unfold pE; omega)]
def cFirst (M : MM) (s : Nat) (x : Int64) : Int64 :=
  if 0 < M.1 13 s 6 then
    let f := (M.1 13 s 6).toInt64
    let t := (M.1 13 s 5).toInt64
    let paid := if t * f < x then t * f else x
    f * (paid / f * t - paid / f * (paid / f - 1) / 2) + (paid - paid / f * f) * (t - paid / f)
  else 0
def cNext (M : MM) (s : Nat) (n : Int32) : Int64 := cFirst M s ((M.1 13 s 7).toInt64 + n.toInt64) - cFirst M s (M.1 13 s 7).toInt64
def cHoldsB (M : MM) (c : Nat) (o : Int32) : Bool :=
  if M.1 17 c (cl o) = 0 then true else
  if 0 ≤ M.1 18 c (cl o) ∧ M.1 18 c (cl o) < M.1 0 0 5 then
    if M.1 29 c (cl (M.1 18 c (cl o))) = -1 then false else
    if M.1 17 c (cl o) = 1 then decide (M.1 28 c (cl (M.1 18 c (cl o))) < M.1 19 c (cl o)) else decide (M.1 19 c (cl o) < M.1 28 c (cl (M.1 18 c (cl o))))
  else false
def cSet (M : MM) (c : Nat) (to : Int32) : MM :=
  if 0 ≤ to ∧ to < M.1 0 0 5 then if M.1 32 (cl (M.1 15 c 6)) (cl to) ≤ 0 then M else cSetOut M c to (M.1 32 (cl (M.1 15 c 6)) (cl to)) else M
def cLoad (M : MM) (c : Nat) (n : Int32) : MM :=
  if M.1 13 (cl (M.1 15 c 6)) 0 = 1 then
    uJ (uI M 15 c 3 (M.1 15 c 3 + mn n (4 * M.1 15 c 2 - M.1 15 c 3))) 0 0 14 (M.2 0 0 14 + (mn n (4 * M.1 15 c 2 - M.1 15 c 3)).toInt64)
  else M
def cSellM (M : MM) (c : Nat) (n : Int32) : MM :=
  uJ (uJ (uI (uI M 13 (cl (M.1 15 c 6)) 7 (M.1 13 (cl (M.1 15 c 6)) 7 + mn n (M.1 15 c 3))) 15 c 3 (M.1 15 c 3 - mn n (M.1 15 c 3))) 0 0 15 (M.2 0 0 15 + (mn n (M.1 15 c 3)).toInt64)) 0 0 18 (M.2 0 0 18 + cNext M (cl (M.1 15 c 6)) (mn n (M.1 15 c 3)))
def cSell (M : MM) (c : Nat) (n : Int32) : MM :=
  if M.1 13 (cl (M.1 15 c 6)) 0 = 3 then cShares (cSellM M c n) c (cNext M (cl (M.1 15 c 6)) (mn n (M.1 15 c 3))) (M.1 0 0 13) else M
def cAct (M : MM) (c : Nat) (a n : Int32) : MM :=
  if a = 0 then cSet M c n else if a = 1 then cLoad M c n else if a = 2 then cSell M c n else if a = 3 then cStartWait M c n else if a = 4 then uI M 15 c 10 0 else M
def cOrder (c : Nat) (M : MM) : MM :=
  if M.1 15 c 10 < 0 then M else if M.1 15 c 10 < M.1 16 c 0 then
    if M.1 15 c 11 ≤ 0 then
      if cHoldsB (uI M 15 c 10 (M.1 15 c 10 + 1)) c (M.1 15 c 10) = true then cAct (uI M 15 c 10 (M.1 15 c 10 + 1)) c (M.1 20 c (cl (M.1 15 c 10))) (M.1 21 c (cl (M.1 15 c 10))) else uI M 15 c 10 (M.1 15 c 10 + 1)
    else cWaitOn M c
  else M
section ORDS
variable {Γ : GG} {M : MM} {Q : Out → Mem → Prop} {c ns nc : Nat}
theorem gm_roomForSlabs (h : Q (rI (4 * M.1 15 c 2 - M.1 15 c 3)) (mk M)) : Gm Γ M_X0_roomForSlabs [vr 15 c] (mk M) Q := go_roomForSlabs h
theorem go_writeShares {m : Int64} {d : Int32} (hW : WC ns nc M) (hc : c < nc) (h : Q rV (mk (cShares M c m d))) : Gm Γ M_X2_writeShares [vr 35 0, vr 15 c, vj m, vi d] (mk M) Q := by
  obtain ⟨n, hn, en⟩ := hW.sh hc
  have ec : cl (M.1 25 c 0) = n := by rw [en]; exact nI_clamp (by omega)
  unfold cShares at h
  rw [ec] at h
  refine gm_step [12] 60 ?_; intro G K hG hK
  refine hK _ _ _ _ _ (go_sub (lv' := [(8, vi (nI 0)), (6, vj (cRest M c m 0)), (5, vr 25 c), (4, vi d), (2, vj m), (1, vr 15 c), (0, vr 35 0)]) ⟨rfl, rfl, rfl, rfl, rfl, rfl, rfl, trivial⟩ ?_)
  refine loop_up (P := fun i => Go Γ M_X2_writeShares 12 [(8, vi (nI i)), (6, vj (cRest M c m i)), (5, vr 25 c), (4, vi d), (2, vj m), (1, vr 15 c), (0, vr 35 0)] [] (mk M) (0, 0) Q) (n := n) (fun i hi ih => ?_) ?_
  · have hv : vp_in (nI i) 3 := vp_in_nI (by omega) (by decide)
    refine go_step [12] 60 ?_; intro G K hG hK
    refine ⟨fun (g : M.1 25 c 0 ≤ nI i) => ?_, fun _ => ?_⟩
    · rw [en] at g; exact absurd g (nI_ge hi (by omega))
    · refine hG _ _ _ _ (go_partOf hv ?_)
      exact hK _ _ _ _ _ (go_bus ih ⟨lvi (nI_1 i), rfl, rfl, rfl, rfl, rfl, rfl, trivial⟩)
  · refine go_step [12, 44] 60 ?_; intro G K hG hK
    refine ⟨fun _ => ?_, fun (g : ¬ M.1 25 c 0 ≤ nI n) => ?_⟩
    rotate_left
    · rw [en] at g; exact absurd (Int32.le_refl _) g
    generalize cRest M c m n = r at h ⊢
    refine hK _ _ _ _ _ (go_sub (lv' := [(8, vi (nI 0)), (6, vj r), (5, vr 25 c), (4, vi d), (2, vj m), (1, vr 15 c), (0, vr 35 0)]) ⟨rfl, rfl, rfl, rfl, rfl, rfl, rfl, trivial⟩ ?_)
    refine loop_up (P := fun i => Go Γ M_X2_writeShares 44 [(8, vi (nI i)), (6, vj r), (5, vr 25 c), (4, vi d), (2, vj m), (1, vr 15 c), (0, vr 35 0)] [] (mk (rep (cShr1 c m r d) i M)) (0, 0) Q) (n := n) (fun i hi ih => ?_) ?_
    · have hv : vp_in (nI i) 3 := vp_in_nI (by omega) (by decide)
      have hW' : WC ns nc (rep (cShr1 c m r d) i M) := hW.shr i
      have hf : Fr pE M (rep (cShr1 c m r d) i M) := Fr.rep (fr_shr1 c m r d) i M
      have e25 : (rep (cShr1 c m r d) i M).1 25 c 0 = nI n := (hf.2 25 c 0 (by unfold pE; omega)).trans en
      have ih : Go Γ M_X2_writeShares 44 [(8, vi (nI (i + 1))), (6, vj r), (5, vr 25 c), (4, vi d), (2, vj m), (1, vr 15 c), (0, vr 35 0)] [] (mk (cShr1 c m r d i (rep (cShr1 c m r d) i M))) (0, 0) Q := ih
      generalize rep (cShr1 c m r d) i M = A at ih hW' e25 ⊢
      have e : cl (nI i) = i := nI_clamp (by omega)
      have ih : Go Γ M_X2_writeShares 44 [(8, vi (nI (i + 1))), (6, vj r), (5, vr 25 c), (4, vi d), (2, vj m), (1, vr 15 c), (0, vr 35 0)] [] (mk (cWrite A (A.1 15 c 0) (A.1 26 c (cl (nI i))) d (cPart A c m (nI i) + (if nI i = 0 then r else 0)).toInt32)) (0, 0) Q := by rw [e]; exact ih
      refine go_step [44] 60 ?_; intro G K hG hK
      refine ⟨fun (g : A.1 25 c 0 ≤ nI i) => ?_, fun _ => ?_⟩
      · rw [e25] at g; exact absurd g (nI_ge hi (by omega))
      · refine hG _ _ _ _ (go_partOf hv ?_)
        refine ⟨fun (g : ¬ nI i = 0) => ?_, fun (g : ¬ ¬ nI i = 0) => ?_⟩
        · rw [if_neg g] at ih
          refine ⟨hv, ?_⟩
          refine hG _ _ _ _ (go_writeEntry hW'.en ?_)
          exact hK _ _ _ _ _ (go_bus ih ⟨lvi (nI_1 i), rfl, rfl, rfl, rfl, rfl, rfl, trivial⟩)
        · rw [if_pos (Decidable.not_not.mp g)] at ih
          refine ⟨hv, ?_⟩
          refine hG _ _ _ _ (go_writeEntry hW'.en ?_)
          exact hK _ _ _ _ _ (go_bus ih ⟨lvi (nI_1 i), rfl, rfl, rfl, rfl, rfl, rfl, trivial⟩)
    · have hf : Fr pE M (rep (cShr1 c m r d) n M) := Fr.rep (fr_shr1 c m r d) n M
      refine go_step [44] 60 ?_; intro G K hG hK
      refine ⟨fun _ => h, fun (g : ¬ (rep (cShr1 c m r d) n M).1 25 c 0 ≤ nI n) => ?_⟩
      rw [hf.2 25 c 0 (by unfold pE; omega), en] at g; exact absurd (Int32.le_refl _) g
theorem go_moneyOfFirst {s : Nat} {x : Int64} (h : Q (rJ (cFirst M s x)) (mk M)) : Gm Γ M_X4_moneyOfFirst [vr 13 s, vj x] (mk M) Q := by
  refine gm_step [] 100 ?_; intro G K hG hK
  unfold cFirst at h
  refine ⟨fun (g : 0 < M.1 13 s 6) => ?_, fun (g : ¬ 0 < M.1 13 s 6) => ?_⟩
  · rw [if_pos g] at h
    exact ⟨pos64 g, pos64 g, by decide, h⟩
  · rw [if_neg g] at h; exact h
theorem go_moneyOfNext {s : Nat} {n : Int32} (h : Q (rJ (cNext M s n)) (mk M)) : Gm Γ M_X4_moneyOfNext [vr 13 s, vi n] (mk M) Q := by
  refine gm_step [] 60 ?_; intro G K hG hK
  refine hG _ _ _ _ (go_moneyOfFirst ?_)
  refine hG _ _ _ _ (go_moneyOfFirst ?_)
  exact h
theorem go_holds {o : Int32} (hW : WC ns nc M) (ho : vp_in o 12) (h : Q (rI (b32 (cHoldsB M c o = true))) (mk M)) : Gm Γ M_X6_holds [vr 0 0, vr 15 c, vi o] (mk M) Q := by
  refine gm_step [] 100 ?_; intro G K hG hK
  refine ⟨ho, ?_⟩
  refine ⟨fun (g : ¬ M.1 17 c (cl o) = 0) => ?_, fun (g : ¬ ¬ M.1 17 c (cl o) = 0) => ?_⟩
  rotate_left
  · exact rb_t (by unfold cHoldsB; rw [if_pos (Decidable.not_not.mp g)]) h
  refine ⟨ho, ?_⟩
  refine hG _ _ _ _ (gm_hasStation (n := M.1 18 c (cl o)) ?_)
  refine br_z (fun g2 => ?_) (fun g2 => ?_)
  · exact rb_f (by unfold cHoldsB; rw [if_neg g, if_neg g2]; decide) h
  have hv : vp_in (M.1 18 c (cl o)) 12 := (in_of hW.ls g2.1 (by rw [← hW.n5]; exact g2.2)).1
  refine ⟨hv, ?_⟩
  refine ⟨fun (g3 : ¬ M.1 29 c (cl (M.1 18 c (cl o))) = -1) => ?_, fun (g3 : ¬ ¬ M.1 29 c (cl (M.1 18 c (cl o))) = -1) => ?_⟩
  rotate_left
  · exact rb_f (by unfold cHoldsB; rw [if_neg g, if_pos g2, if_pos (Decidable.not_not.mp g3)]; decide) h
  refine ⟨hv, ho, ?_⟩
  have e : cHoldsB M c o = if M.1 17 c (cl o) = 1 then decide (M.1 28 c (cl (M.1 18 c (cl o))) < M.1 19 c (cl o)) else decide (M.1 19 c (cl o) < M.1 28 c (cl (M.1 18 c (cl o)))) := by unfold cHoldsB; rw [if_neg g, if_pos g2, if_neg g3]
  refine ⟨fun (g4 : ¬ M.1 17 c (cl o) = 1) => ?_, fun (g4 : ¬ ¬ M.1 17 c (cl o) = 1) => ?_⟩
  · rw [if_neg g4] at e
    refine ⟨fun (g5 : M.1 28 c (cl (M.1 18 c (cl o))) ≤ M.1 19 c (cl o)) => rb_f (by rw [e, decide_eq_true_iff]; exact Int32.not_lt.mpr g5) h, fun (g5 : ¬ M.1 28 c (cl (M.1 18 c (cl o))) ≤ M.1 19 c (cl o)) => rb_t (by rw [e, decide_eq_true_iff]; exact Int32.not_le.mp g5) h⟩
  · rw [if_pos (Decidable.not_not.mp g4)] at e
    refine ⟨fun (g5 : M.1 19 c (cl o) ≤ M.1 28 c (cl (M.1 18 c (cl o)))) => rb_f (by rw [e, decide_eq_true_iff]; exact Int32.not_lt.mpr g5) h, fun (g5 : ¬ M.1 19 c (cl o) ≤ M.1 28 c (cl (M.1 18 c (cl o)))) => rb_t (by rw [e, decide_eq_true_iff]; exact Int32.not_le.mp g5) h⟩
theorem go_set {to : Int32} (hW : WC ns nc M) (hc : c < nc) (h : Q rV (mk (cSet M c to))) : Gm Γ M_X6_setOut [vr 0 0, vr 15 c, vi to] (mk M) Q := by
  refine gm_step [] 100 ?_; intro G K hG hK
  refine hG _ _ _ _ (gm_hasStation ?_)
  unfold cSet at h
  refine br_z (fun g => ?_) (fun g => ?_)
  · rw [if_neg g] at h; exact h
  rw [if_pos g] at h
  have hv : vp_in to 12 := (in_of hW.ls g.1 (by rw [← hW.n5]; exact g.2)).1
  have hr : R0 31 0 (cl (M.1 15 c 6)) = some (32, cl (M.1 15 c 6)) := rA_at (Nat.lt_of_lt_of_le (hW.ix hc) hW.ls)
  refine ⟨hW.iv hc, (32, cl (M.1 15 c 6)), hr, hv, ?_⟩
  refine ⟨fun (g2 : M.1 32 (cl (M.1 15 c 6)) (cl to) ≤ 0) => ?_, fun (g2 : ¬ M.1 32 (cl (M.1 15 c 6)) (cl to) ≤ 0) => ?_⟩
  · rw [if_pos g2] at h; exact h
  · rw [if_neg g2] at h
    refine ⟨hW.iv hc, (32, cl (M.1 15 c 6)), hr, hv, ?_⟩
    refine hG _ _ _ _ (go_setOut ?_)
    exact h
theorem go_load {n : Int32} (hW : WC ns nc M) (hc : c < nc) (h : Q rV (mk (cLoad M c n))) : Gm Γ M_X6_loadSlabs [vr 0 0, vr 15 c, vi n] (mk M) Q := by
  refine gm_step [] 100 ?_; intro G K hG hK
  refine ⟨hW.iv hc, (13, cl (M.1 15 c 6)), hW.r12 hc, ?_⟩
  unfold cLoad at h
  refine ⟨fun (g2 : ¬ M.1 13 (cl (M.1 15 c 6)) 0 = 1) => ?_, fun (g2 : ¬ ¬ M.1 13 (cl (M.1 15 c 6)) 0 = 1) => ?_⟩
  · rw [if_neg g2] at h; exact h
  · rw [if_pos (Decidable.not_not.mp g2)] at h
    refine hG _ _ _ _ (gm_roomForSlabs ?_)
    exact h
theorem WC.sellM {n : Int32} (h : WC ns nc M) : WC ns nc (cSellM M c n) := h.of rfl rfl (fun _ => rfl) (fun _ => rfl) (fun _ => rfl) (fun _ => rfl) (fun _ => rfl) h.en
theorem go_sell {n : Int32} (hW : WC ns nc M) (hc : c < nc) (h : Q rV (mk (cSell M c n))) : Gm Γ M_X6_sellSlabs [vr 0 0, vr 15 c, vi n] (mk M) Q := by
  refine gm_step [] 100 ?_; intro G K hG hK
  refine ⟨hW.iv hc, (13, cl (M.1 15 c 6)), hW.r12 hc, ?_⟩
  unfold cSell at h
  refine ⟨fun (g2 : ¬ M.1 13 (cl (M.1 15 c 6)) 0 = 3) => ?_, fun (g2 : ¬ ¬ M.1 13 (cl (M.1 15 c 6)) 0 = 3) => ?_⟩
  · rw [if_neg g2] at h; exact h
  · rw [if_pos (Decidable.not_not.mp g2)] at h
    refine hG _ _ _ _ (go_moneyOfNext ?_)
    refine hG _ _ _ _ (go_writeShares (M := cSellM M c n) hW.sellM hc ?_)
    exact h
theorem go_act {a n : Int32} (hW : WC ns nc M) (hc : c < nc) (h : Q rV (mk (cAct M c a n))) : Gm Γ M_X6_doAct [vr 0 0, vr 15 c, vi a, vi n] (mk M) Q := by
  refine gm_step [] 100 ?_; intro G K hG hK
  unfold cAct at h
  refine ⟨⟨fun (g : a = 0) => ?_, fun (g : a = 1) => ?_, fun (g : a = 2) => ?_, fun (g : a = 3) => ?_, fun (g : a = 4) => ?_, trivial⟩, fun (g : a.toInt < 0 ∨ 4 < a.toInt) => ?_⟩
  · rw [if_pos g] at h
    refine hG _ _ _ _ (go_set hW hc ?_)
    exact h
  · rw [if_neg (by rw [g]; decide), if_pos g] at h
    refine hG _ _ _ _ (go_load hW hc ?_)
    exact h
  · rw [if_neg (by rw [g]; decide), if_neg (by rw [g]; decide), if_pos g] at h
    refine hG _ _ _ _ (go_sell hW hc ?_)
    exact h
  · rw [if_neg (by rw [g]; decide), if_neg (by rw [g]; decide), if_neg (by rw [g]; decide), if_pos g] at h
    refine hG _ _ _ _ (go_startWait ?_)
    exact h
  · rw [if_neg (by rw [g]; decide), if_neg (by rw [g]; decide), if_neg (by rw [g]; decide), if_neg (by rw [g]; decide), if_pos g] at h
    exact h
  · have hne : ∀ k : Int32, 0 ≤ k.toInt → k.toInt ≤ 4 → ¬ a = k := fun k h0 h4 e => by rw [e] at g; omega
    rw [if_neg (hne 0 (by decide) (by decide)), if_neg (hne 1 (by decide) (by decide)), if_neg (hne 2 (by decide) (by decide)), if_neg (hne 3 (by decide) (by decide)), if_neg (hne 4 (by decide) (by decide))] at h
    exact h
theorem WC.turn {x : Int32} (h : WC ns nc M) : WC ns nc (uI M 15 c 10 x) := h.of rfl rfl (fun _ => rfl) (fun _ => rfl) (fun _ => rfl) (fun _ => rfl) (fun _ => rfl) h.en
theorem go_order (hW : WC ns nc M) (hc : c < nc) (h : Q rV (mk (cOrder c M))) : Gm Γ M_X6_doOrder [vr 0 0, vr 15 c] (mk M) Q := by
  refine gm_step [] 100 ?_; intro G K hG hK
  unfold cOrder at h
  refine ⟨fun (g : M.1 15 c 10 < 0) => ?_, fun (g : ¬ M.1 15 c 10 < 0) => ?_⟩
  · rw [if_pos g] at h; exact h
  rw [if_neg g] at h
  refine ⟨fun (g2 : M.1 15 c 10 < M.1 16 c 0) => ?_, fun (g2 : ¬ M.1 15 c 10 < M.1 16 c 0) => ?_⟩
  rotate_left
  · rw [if_neg g2] at h; exact h
  rw [if_pos g2] at h
  have ho : vp_in (M.1 15 c 10) 12 := (in_of (x := M.1 15 c 10) (n := 12) (Nat.le_refl _) (Int32.not_lt.mp g) (Int32.lt_of_lt_of_le g2 (hW.oc hc))).1
  refine ⟨fun (g3 : M.1 15 c 11 ≤ 0) => ?_, fun (g3 : ¬ M.1 15 c 11 ≤ 0) => ?_⟩
  rotate_left
  · rw [if_neg g3] at h
    refine hG _ _ _ _ (go_waitOn ?_)
    exact h
  rw [if_pos g3] at h
  refine hG _ _ _ _ (go_holds (M := uI M 15 c 10 (M.1 15 c 10 + 1)) (o := M.1 15 c 10) hW.turn ho ?_)
  refine br_z (fun g4 => ?_) (fun g4 => ?_)
  · rw [if_neg g4] at h; exact h
  · rw [if_pos g4] at h
    refine ⟨ho, ho, ?_⟩
    refine hG _ _ _ _ (go_act (M := uI M 15 c 10 (M.1 15 c 10 + 1)) hW.turn hc ?_)
    exact h
end ORDS
