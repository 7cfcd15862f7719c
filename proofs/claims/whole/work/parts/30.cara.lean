/-! Methods of a caravan, of a station, of the ledger: what they do to the memory. -/
theorem up3_self {α : Type} {f : Nat → Nat → Nat → α} {t i k : Nat} {x : α} : up3 f t i k x t i k = x := by rw [up3_eq, if_pos ⟨rfl, rfl, rfl⟩]
theorem e300 {x y : Int32} {n : Nat} (hy : y.toInt = n) (h0 : ¬ x < 0) (h1 : x < y) : vp_in x n := by
  obtain ⟨j, hj, rfl⟩ := nI_of h0
  have : j < n := by
    have := Int32.lt_iff_toInt_lt.mp h1
    rw [nI_toInt hj, hy] at this
    omega
  unfold vp_in
  rw [nI_clamp hj]
  intro h
  rcases h with h | h
  · exact h0 h
  · omega
def cDied (M : MM) (c : Nat) : Int32 := (mx0 (M.1 15 c 2 - M.1 15 c 4) + 1) / 2
def cDrink (M : MM) (c : Nat) : MM := uI (uI M 15 c 4 (mx0 (M.1 15 c 4 - M.1 15 c 2))) 15 c 2 (M.1 15 c 2 - cDied M c)
def cOver (M : MM) (c : Nat) : Int32 := mx0 (M.1 15 c 3 - 4 * M.1 15 c 2)
def cDrop (M : MM) (c : Nat) : MM := uI M 15 c 3 (M.1 15 c 3 - cOver M c)
def cGoOn (M : MM) (c : Nat) (d : Int32) : MM :=
  if 0 < M.1 15 c 2 then
    if 0 < M.1 15 c 8 - 1 then uI M 15 c 8 (M.1 15 c 8 - 1)
    else uI (uI (uI M 15 c 8 (M.1 15 c 8 - 1)) 15 c 5 0) 15 c 9 d
  else uI (uI M 15 c 5 2) 15 c 8 0
def cStartWait (M : MM) (c : Nat) (n : Int32) : MM := if n ≤ 1 then M else uI (uI M 15 c 11 (n - 1)) 15 c 10 (M.1 15 c 10 - 1)
def cWaitOn (M : MM) (c : Nat) : MM :=
  if 0 < M.1 15 c 11 - 1 then uI M 15 c 11 (M.1 15 c 11 - 1)
  else uI (uI M 15 c 11 (M.1 15 c 11 - 1)) 15 c 10 (M.1 15 c 10 + 1)
def cAhead (M : MM) (p : Int32) (c d : Nat) : Prop := if (M.1 15 c 1 = p ↔ M.1 15 d 1 = p) then M.1 15 c 9 < M.1 15 d 9 else M.1 15 c 1 = p
def cAheadD (M : MM) (p : Int32) (c d : Nat) : Decidable (cAhead M p c d) := by unfold cAhead; exact inferInstance
def cAheadB (M : MM) (p : Int32) (c d : Nat) : Bool := @decide (cAhead M p c d) (cAheadD M p c d)
theorem cAheadB_iff (M : MM) (p : Int32) (c d : Nat) : cAheadB M p c d = true ↔ cAhead M p c d := by unfold cAheadB; exact @decide_eq_true_iff _ (cAheadD M p c d)
def cCopyO (M : MM) (c : Nat) : MM := uC (uC (uC (uC (uC (uI M 16 c 0 (M.1 3 0 0)) 4 0 17 c 12) 5 0 18 c 12) 6 0 19 c 12) 7 0 20 c 12) 8 0 21 c 12
def cTakeO (M : MM) (c : Nat) : MM := uI (uI (cCopyO M c) 15 c 10 0) 15 c 11 0
def cCount (M : MM) (c : Nat) : MM := uC (uC (uI (uI (uI (uI M 25 c 0 (M.1 22 c 0)) 25 c 3 (M.1 22 c 3)) 25 c 4 (M.1 22 c 4)) 25 c 5 (M.1 22 c 5)) 23 c 26 c 3) 24 c 27 c 3
def cTold (M : MM) (c : Nat) : MM := uC (uC (uI (uI (uI (uI M 22 c 0 (M.1 9 0 0)) 22 c 3 (M.1 9 0 3)) 22 c 4 (M.1 9 0 4)) 22 c 5 (M.1 9 0 5)) 10 0 23 c 3) 11 0 24 c 3
def cSetOut (M : MM) (c : Nat) (to days : Int32) : MM := cCount (uI (uI (uI (uI M 15 c 7 (M.1 15 c 6)) 15 c 6 to) 15 c 5 1) 15 c 8 days) c
def cPart (M : MM) (c : Nat) (m : Int64) (k : Int32) : Int64 := if 0 < M.1 25 c 3 then m * (M.1 27 c (cl k)).toInt64 / (M.1 25 c 3).toInt64 else 0
def cWrite (M : MM) (a p d m : Int32) : MM :=
  if m = 0 then M else if M.1 35 0 0 < 300 then
    uI (uI (uI (uI (uI (uI M 36 0 (cl (M.1 35 0 0)) a) 37 0 (cl (M.1 35 0 0)) p) 38 0 (cl (M.1 35 0 0)) d) 39 0 (cl (M.1 35 0 0)) m) 40 0 (cl (M.1 35 0 0)) m) 35 0 0 (M.1 35 0 0 + 1)
  else M
def cLoss (M : MM) (c : Nat) (l d : Int32) : MM := if M.1 25 c 4 = -1 then M else cWrite M (M.1 15 c 0) (M.1 25 c 4) d (-l * M.1 25 c 5)
def cPassSt (M : MM) (s : Nat) : MM := uI (uI M 13 s 4 (mn (M.1 13 s 3) (M.1 13 s 4 + M.1 13 s 2))) 13 s 7 (mx0 (M.1 13 s 7 - M.1 13 s 6))
section CARA
variable {Γ : GG} {M : MM} {Q : Out → Mem → Prop} {c : Nat}
theorem go_drink (h : Q (rI (cDied M c)) (mk (cDrink M c))) : Gm Γ M_X0_drink [vr 15 c] (mk M) Q := by
  refine gm_step [] 60 ?_; intro G K hG hK
  exact ⟨by decide, h⟩
theorem go_dropSlabs (h : Q (rI (cOver M c)) (mk (cDrop M c))) : Gm Γ M_X0_dropSlabs [vr 15 c] (mk M) Q := by
  refine gm_step [] 60 ?_; intro G K hG hK
  exact h
theorem go_goOn {d : Int32} (h : Q rV (mk (cGoOn M c d))) : Gm Γ M_X0_goOn [vr 15 c, vi d] (mk M) Q := by
  refine gm_step [] 60 ?_; intro G K hG hK
  unfold cGoOn at h
  refine ⟨fun (g : 0 < M.1 15 c 2) => ?_, fun (g : ¬ 0 < M.1 15 c 2) => ?_⟩
  · rw [if_pos g] at h
    refine br_of (P' := 0 < M.1 15 c 8 - 1) (by show 0 < up3 _ 15 c 8 _ 15 c 8 ↔ _; rw [up3_self]; exact Iff.rfl) (fun g2 => ?_) (fun g2 => ?_)
    · rw [if_pos g2] at h; exact h
    · rw [if_neg g2] at h; exact h
  · rw [if_neg g] at h; exact h
theorem go_startWait {n : Int32} (h : Q rV (mk (cStartWait M c n))) : Gm Γ M_X0_startWait [vr 15 c, vi n] (mk M) Q := by
  refine gm_step [] 60 ?_; intro G K hG hK
  unfold cStartWait at h
  refine ⟨fun (g : n ≤ 1) => ?_, fun (g : ¬ n ≤ 1) => ?_⟩
  · rw [if_pos g] at h; exact h
  · rw [if_neg g] at h; exact h
theorem go_waitOn (h : Q rV (mk (cWaitOn M c))) : Gm Γ M_X0_waitOn [vr 15 c] (mk M) Q := by
  refine gm_step [] 60 ?_; intro G K hG hK
  unfold cWaitOn at h
  refine br_of (P' := 0 < M.1 15 c 11 - 1) (by show 0 < up3 _ 15 c 11 _ 15 c 11 ↔ _; rw [up3_self]; exact Iff.rfl) (fun g2 => ?_) (fun g2 => ?_)
  · rw [if_pos g2] at h; exact h
  · rw [if_neg g2] at h; exact h
theorem go_isAheadOf {d : Nat} {p : Int32} (h : Q (rI (b32 (cAheadB M p c d = true))) (mk M)) : Gm Γ M_X0_isAheadOf [vr 15 c, vr 15 d, vi p] (mk M) Q := by
  refine gm_step [] 60 ?_; intro G K hG hK
  refine ⟨fun (g : ¬ M.1 15 c 1 = p) => ?_, fun (g : ¬ ¬ M.1 15 c 1 = p) => ?_⟩ <;> refine ⟨fun (g2 : ¬ M.1 15 d 1 = p) => ?_, fun (g2 : ¬ ¬ M.1 15 d 1 = p) => ?_⟩
  · refine ⟨fun q => absurd rfl q, fun _ => ?_⟩
    refine ⟨fun (g3 : M.1 15 d 9 ≤ M.1 15 c 9) => rb_f (fun q => ?_) h, fun (g3 : ¬ M.1 15 d 9 ≤ M.1 15 c 9) => rb_t ?_ h⟩
    · rw [cAheadB_iff, cAhead, if_pos ⟨fun q => absurd q g, fun q => absurd q g2⟩] at q; exact Int32.not_lt.mpr g3 q
    · rw [cAheadB_iff, cAhead, if_pos ⟨fun q => absurd q g, fun q => absurd q g2⟩]; exact Int32.not_le.mp g3
  · refine ⟨fun _ => rb_f (fun q => ?_) h, fun (q : ¬ ¬ (0 : Int32) = 1) => absurd q (by decide)⟩
    rw [cAheadB_iff, cAhead, if_neg (fun e => g2 (fun _ => g (e.mpr (Decidable.not_not.mp g2))))] at q; exact g q
  · refine ⟨fun _ => rb_t ?_ h, fun (q : ¬ ¬ (1 : Int32) = 0) => absurd q (by decide)⟩
    rw [cAheadB_iff, cAhead, if_neg (fun e => g2 (e.mp (Decidable.not_not.mp g)))]; exact Decidable.not_not.mp g
  · refine ⟨fun q => absurd rfl q, fun _ => ?_⟩
    have e : (M.1 15 c 1 = p ↔ M.1 15 d 1 = p) := ⟨fun _ => Decidable.not_not.mp g2, fun _ => Decidable.not_not.mp g⟩
    refine ⟨fun (g3 : M.1 15 d 9 ≤ M.1 15 c 9) => rb_f (fun q => ?_) h, fun (g3 : ¬ M.1 15 d 9 ≤ M.1 15 c 9) => rb_t ?_ h⟩
    · rw [cAheadB_iff, cAhead, if_pos e] at q; exact Int32.not_lt.mpr g3 q
    · rw [cAheadB_iff, cAhead, if_pos e]; exact Int32.not_le.mp g3
theorem go_copyO (h : Q rV (mk (cCopyO M c))) : Gm Γ M_X3_copyFrom [vr 16 c, vr 3 0] (mk M) Q := by
  refine gm_step [] 100 ?_; intro G K hG hK
  exact ⟨rfl, rfl, by decide, by decide, by decide, rfl, rfl, by decide, by decide, by decide, rfl, rfl, by decide, by decide, by decide, rfl, rfl, by decide, by decide, by decide, rfl, rfl, by decide, by decide, by decide, h⟩
theorem go_takeOrders (h : Q rV (mk (cTakeO M c))) : Gm Γ M_X0_takeOrders [vr 15 c, vr 3 0] (mk M) Q := by
  refine gm_step [] 60 ?_; intro G K hG hK
  refine hG _ _ _ _ (go_copyO ?_)
  exact h
theorem go_copyCount (h : Q rV (mk (cCount M c))) : Gm Γ M_X1_copyFrom [vr 25 c, vr 22 c] (mk M) Q := by
  refine gm_step [] 100 ?_; intro G K hG hK
  exact ⟨rfl, rfl, by decide, by decide, by decide, rfl, rfl, by decide, by decide, by decide, h⟩
theorem go_copyTold (h : Q rV (mk (cTold M c))) : Gm Γ M_X1_copyFrom [vr 22 c, vr 9 0] (mk M) Q := by
  refine gm_step [] 100 ?_; intro G K hG hK
  exact ⟨rfl, rfl, by decide, by decide, by decide, rfl, rfl, by decide, by decide, by decide, h⟩
theorem go_setOut {to days : Int32} (h : Q rV (mk (cSetOut M c to days))) : Gm Γ M_X0_setOut [vr 15 c, vi to, vi days] (mk M) Q := by
  refine gm_step [] 100 ?_; intro G K hG hK
  refine hG _ _ _ _ (go_copyCount (M := uI (uI (uI (uI M 15 c 7 (M.1 15 c 6)) 15 c 6 to) 15 c 5 1) 15 c 8 days) ?_)
  exact h
theorem pos64 {x : Int32} (h : 0 < x) : ¬ x.toInt64 = 0 := fun e => by
  have h1 := Int32.lt_iff_toInt_lt.mp h
  have h2 : x.toInt64.toInt = 0 := by rw [e]; rfl
  rw [Int32.toInt_toInt64] at h2
  rw [h2] at h1
  exact absurd h1 (by decide)
theorem go_partOf {m : Int64} {k : Int32} (hk : vp_in k 3) (h : Q (rJ (cPart M c m k)) (mk M)) : Gm Γ M_X1_partOf [vr 25 c, vj m, vi k] (mk M) Q := by
  refine gm_step [] 60 ?_; intro G K hG hK
  unfold cPart at h
  refine ⟨fun (g : 0 < M.1 25 c 3) => ?_, fun (g : ¬ 0 < M.1 25 c 3) => ?_⟩
  · rw [if_pos g] at h; exact ⟨hk, pos64 g, h⟩
  · rw [if_neg g] at h; exact h
theorem go_writeEntry {a p d m : Int32} (he : ¬ M.1 35 0 0 < 0) (h : Q rV (mk (cWrite M a p d m))) : Gm Γ M_X2_writeEntry [vr 35 0, vi a, vi p, vi d, vi m] (mk M) Q := by
  refine gm_step [] 100 ?_; intro G K hG hK
  unfold cWrite at h
  refine ⟨fun (g : m = 0) => ?_, fun (g : ¬ m = 0) => ?_⟩
  · rw [if_pos g] at h; exact h
  · rw [if_neg g] at h
    refine ⟨fun (g2 : M.1 35 0 0 < 300) => ?_, fun (g2 : ¬ M.1 35 0 0 < 300) => ?_⟩
    · rw [if_pos g2] at h
      have hi : vp_in (M.1 35 0 0) 300 := e300 (by decide) he g2
      exact ⟨hi, hi, hi, hi, hi, h⟩
    · rw [if_neg g2] at h; exact h
theorem go_writeLoss {l d : Int32} (he : ¬ M.1 35 0 0 < 0) (h : Q rV (mk (cLoss M c l d))) : Gm Γ M_X2_writeLoss [vr 35 0, vr 15 c, vi l, vi d] (mk M) Q := by
  refine gm_step [] 100 ?_; intro G K hG hK
  unfold cLoss at h
  refine ⟨fun (g : M.1 25 c 4 = -1) => ?_, fun (g : ¬ M.1 25 c 4 = -1) => ?_⟩
  · rw [if_pos g] at h; exact h
  · rw [if_neg g] at h
    refine hG _ _ _ _ (go_writeEntry he ?_)
    exact h
theorem go_stPassDay {s : Nat} (h : Q rV (mk (cPassSt M s))) : Gm Γ M_X4_passDay [vr 13 s] (mk M) Q := by
  refine gm_step [] 60 ?_; intro G K hG hK
  exact h
end CARA
