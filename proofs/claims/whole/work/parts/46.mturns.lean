/-! The reference: turns, a day, days. -/
theorem cp_at {x : Int32} {c : Nat} (hc : c < 12) (hx : x = nI c) (B : MM) : ∀ k, k ≤ 9 → ∀ t i j, (rep (mCp1 x) k B).1 t i j = if t = 70 ∧ i = 0 ∧ 9 * c ≤ j ∧ j < 9 * c + k then B.1 69 0 j else B.1 t i j
  | 0, _, t, i, j => by rw [if_neg (by omega)]; rfl
  | k + 1, hk, t, i, j => by
    show (uI (rep (mCp1 x) k B) 70 0 (cl (9 * x + nI k)) ((rep (mCp1 x) k B).1 69 0 (cl (9 * x + nI k)))).1 t i j = _
    rw [(v108 (c := c) (k := k) (x := x) (y := nI k) hc (by omega) hx rfl).2, uI_1, cp_at hc hx B k (by omega) 69 0, cp_at hc hx B k (by omega) t i j, if_neg (by omega : ¬ ((69 : Nat) = 70 ∧ _))]
    by_cases h : t = 70 ∧ i = 0 ∧ j = 9 * c + k
    · rw [if_pos h, if_pos (by omega), h.2.2]
    · rw [if_neg h]
      by_cases h2 : t = 70 ∧ i = 0 ∧ 9 * c ≤ j ∧ j < 9 * c + k
      · rw [if_pos h2, if_pos (by omega)]
      · rw [if_neg h2, if_neg (by omega)]
def mTurns (ns g : Nat) (x : Int32) (M : MM) : MM :=
  if M.1 64 0 (cl x) ≤ 0 then
    if M.1 63 0 (cl x) < M.1 68 0 (cl x) then
      if mHoldsB ns M x (5 * (12 * x + M.1 63 0 (cl x))) = true then
        if M.1 67 0 (cl (5 * (12 * x + M.1 63 0 (cl x)))) = 4 then uI M 63 0 (cl x) 0
        else if M.1 67 0 (cl (5 * (12 * x + M.1 63 0 (cl x)))) = 3 ∧ ¬ M.1 67 0 (cl (5 * (12 * x + M.1 63 0 (cl x)) + 1)) ≤ 1 then uI M 64 0 (cl x) (M.1 67 0 (cl (5 * (12 * x + M.1 63 0 (cl x)) + 1)) - 1)
        else mActs ns g x (M.1 67 0 (cl (5 * (12 * x + M.1 63 0 (cl x))))) (M.1 67 0 (cl (5 * (12 * x + M.1 63 0 (cl x)) + 1))) (uI M 63 0 (cl x) (M.1 63 0 (cl x) + 1))
      else uI M 63 0 (cl x) (M.1 63 0 (cl x) + 1)
    else M
  else if M.1 64 0 (cl x) - 1 = 0 then uI (uI M 64 0 (cl x) (M.1 64 0 (cl x) - 1)) 63 0 (cl x) (M.1 63 0 (cl x) + 1) else uI M 64 0 (cl x) (M.1 64 0 (cl x) - 1)
def mPass1 (x : Int32) (M : MM) : MM := if M.1 45 0 (cl x) = 2 then uI M 49 0 (cl x) (mn (M.1 47 0 (cl x)) (M.1 49 0 (cl x) + M.1 46 0 (cl x))) else M
def mPass2 (x : Int32) (M : MM) : MM := if M.1 45 0 (cl x) = 3 then uI M 49 0 (cl x) (mx0 (M.1 49 0 (cl x) - M.1 47 0 (cl x))) else M
def mTrav1 (x : Int32) (M : MM) : MM := if M.1 58 0 (cl x) = 1 then mTravel x M else M
def mTurn1 (ns g : Nat) (x : Int32) (M : MM) : MM := if M.1 58 0 (cl x) = 0 then mTurns ns g x M else M
def mD1 (M : MM) : MM := uI M 44 0 1 (M.1 44 0 1 + 1)
def mD2 (n : Nat) (M : MM) : MM := rep (fun i A => mPass2 (nI i) (mPass1 (nI i) A)) n M
def mD3 (n : Nat) (M : MM) : MM := rep (fun i => mTrav1 (nI i)) n M
def mD4 (n : Nat) (M : MM) : MM := rep (fun i => mSee1 (nI i)) n M
def mD6 (nc : Nat) (M : MM) : MM := mDr nc nc (rep (fun i => mDr1 (nI i)) nc M)
def mD7 (ns g n : Nat) (M : MM) : MM := rep (fun i => mTurn1 ns g (nI i)) n M
def mDay (ns nc g : Nat) (M : MM) : MM := mD7 ns g nc (mD6 nc (mLet ns nc (mD4 nc (mD3 nc (mD2 ns (mD1 M))))))
def mDays (ns nc g : Nat) : Nat → MM → MM
  | 0, M => M
  | k + 1, M => mDay ns nc g (mDays ns nc g k M)
section MTRN
variable {Γ : GG} {M : MM} {Q : Out → Mem → Prop} {c ns nc n p g : Nat} {σ : Mem} {x : Int32}
/-- the same stages -/
def SG (g : Nat) (M : MM) : Prop := g ≤ 30 ∧ M.1 44 0 11 = nI g
theorem WM.goA {n : Int32} (h : WM ns nc M) (hc : c < nc) (hx : x = nI c) (h0 : 0 ≤ n) (h1 : n < nI ns) : WM ns nc (mGoA g x n M) := by
  have hlc := h.lc
  have hls := h.ls
  have hc12 : c < 12 := by omega
  have ec : cl x = c := by rw [hx]; exact nI_clamp (by omega)
  obtain ⟨-, hi, hn⟩ := in_of h.ls h0 h1
  unfold mGoA
  have e := cp_at hc12 hx (uI (mGo3 x n M) 61 0 (cl x) (mWayF (mGo3 x n M) (M.1 59 0 (cl x)) n g 0)) 9 (Nat.le_refl _)
  generalize rep (mCp1 x) 9 (uI (mGo3 x n M) 61 0 (cl x) (mWayF (mGo3 x n M) (M.1 59 0 (cl x)) n g 0)) = A at e ⊢
  generalize mWayF (mGo3 x n M) (M.1 59 0 (cl x)) n g 0 = w at e
  have eo : ∀ t k, t ≠ 58 → t ≠ 59 → t ≠ 60 → t ≠ 61 → t ≠ 70 → A.1 t 0 k = M.1 t 0 k := fun t k a1 a2 a3 a4 a5 => by
    rw [e, if_neg (by omega)]
    unfold mGo3
    simp only [uI_1]
    rw [if_neg (by omega), if_neg (by omega), if_neg (by omega), if_neg (by omega)]
  have e59 : ∀ b, A.1 59 0 b = if b = c then n else M.1 59 0 b := fun b => by
    rw [e, if_neg (by omega)]
    unfold mGo3
    simp only [uI_1, ec]
    simp
  have e60 : ∀ b, A.1 60 0 b = if b = c then M.1 59 0 c else M.1 60 0 b := fun b => by
    rw [e, if_neg (by omega)]
    unfold mGo3
    simp only [uI_1, ec]
    simp
  have e70 : ∀ j, A.1 70 0 j = if 9 * c ≤ j ∧ j < 9 * c + 9 then M.1 69 0 j else M.1 70 0 j := fun j => by
    rw [e]
    unfold mGo3
    simp [uI_1]
  refine ⟨h.1, ⟨(eo 44 7 (by omega) (by omega) (by omega) (by omega) (by omega)).trans h.n7, (eo 44 26 (by omega) (by omega) (by omega) (by omega) (by omega)).trans h.n26⟩, ⟨by rw [eo 44 11 (by omega) (by omega) (by omega) (by omega) (by omega)]; exact h.ng, by rw [eo 44 36 (by omega) (by omega) (by omega) (by omega) (by omega)]; exact h.en⟩, fun b hb => ⟨?_, ?_⟩, fun s hs => ?_, fun b hb => ⟨?_, ?_⟩, fun b hb => ?_⟩
  · rw [e59]
    by_cases q : b = c
    · rw [if_pos q]; exact ⟨cl n, hi, hn⟩
    · rw [if_neg q]; exact h.at hb
  · rw [e60]
    by_cases q : b = c
    · rw [if_pos q]
      obtain ⟨s, hs, es⟩ := h.at hc
      exact ⟨s, by omega, es⟩
    · rw [if_neg q]; exact h.fr hb
  · rw [eo 45 s (by omega) (by omega) (by omega) (by omega) (by omega), eo 47 s (by omega) (by omega) (by omega) (by omega) (by omega)]; exact h.b0 hs
  · by_cases q : b = c
    · subst q
      exact (h.dt hb).congr (fun k hk => by rw [e70, if_pos (by omega)])
    · exact (h.dk hb).congr (fun k hk => by rw [e70, if_neg (by omega)])
  · exact (h.dt hb).congr (fun k hk => eo 69 _ (by omega) (by omega) (by omega) (by omega) (by omega))
  · rw [eo 68 b (by omega) (by omega) (by omega) (by omega) (by omega), eo 63 b (by omega) (by omega) (by omega) (by omega) (by omega), eo 64 b (by omega) (by omega) (by omega) (by omega) (by omega)]
    exact h.2.2.2.2.2.2 b hb
theorem WM.acts {a n : Int32} (h : WM ns nc M) (hc : c < nc) (hx : x = nI c) : WM ns nc (mActs ns g x a n M) := by
  unfold mActs; split
  · rename_i q
    exact h.goA hc hx q.2.1.1 q.2.1.2
  · split
    · exact (h.u (fun k => by unfold pWM; omega)).j
    · split
      · exact h.sell
      · exact h
/-- another turn and waiting of one caravan -/
theorem WM.tw {M' : MM} (h : WM ns nc M) (he : ∀ t k, ¬ (k = c ∧ (t = 63 ∨ t = 64)) → M'.1 t 0 k = M.1 t 0 k) (ht : ∃ t, t ≤ 12 ∧ M'.1 63 0 c = nI t) (hw : 0 < M'.1 64 0 c → M'.1 63 0 c < M.1 68 0 c) : WM ns nc M' := by
  have k : ∀ t, t ≠ 63 → t ≠ 64 → ∀ k, M'.1 t 0 k = M.1 t 0 k := fun t a b k => he t k (by omega)
  have f70 : M'.1 70 0 = M.1 70 0 := funext (k 70 (by omega) (by omega))
  have f69 : M'.1 69 0 = M.1 69 0 := funext (k 69 (by omega) (by omega))
  refine ⟨h.1, ⟨(k 44 (by omega) (by omega) 7).trans h.n7, (k 44 (by omega) (by omega) 26).trans h.n26⟩, ⟨by rw [k 44 (by omega) (by omega)]; exact h.ng, by rw [k 44 (by omega) (by omega)]; exact h.en⟩, fun b hb => ?_, fun s hs => ?_, fun b hb => ?_, fun b hb => ?_⟩
  · rw [k 59 (by omega) (by omega), k 60 (by omega) (by omega)]; exact h.2.2.2.1 b hb
  · rw [k 45 (by omega) (by omega), k 47 (by omega) (by omega)]; exact h.b0 hs
  · rw [f70, f69]; exact h.2.2.2.2.2.1 b hb
  · rw [k 68 (by omega) (by omega)]
    by_cases e : b = c
    · subst e; exact ⟨h.oc hb, ht, hw⟩
    · rw [he 63 b (by omega), he 64 b (by omega)]; exact h.2.2.2.2.2.2 b hb
theorem up63 {y : Int32} (hc : c < 12) (hx : x = nI c) {t k : Nat} (h : ¬ (k = c ∧ (t = 63 ∨ t = 64))) : (uI M 63 0 (cl x) y).1 t 0 k = M.1 t 0 k := by
  rw [uI_1, show cl x = c from by rw [hx]; exact nI_clamp (by omega), if_neg (by omega)]
theorem up64 {y : Int32} (hc : c < 12) (hx : x = nI c) {t k : Nat} (h : ¬ (k = c ∧ (t = 63 ∨ t = 64))) : (uI M 64 0 (cl x) y).1 t 0 k = M.1 t 0 k := by
  rw [uI_1, show cl x = c from by rw [hx]; exact nI_clamp (by omega), if_neg (by omega)]
theorem WM.next (h : WM ns nc M) (hc : c < nc) (hx : x = nI c) (hw : M.1 64 0 c ≤ 0) (ht : M.1 63 0 c < M.1 68 0 c) : WM ns nc (uI M 63 0 (cl x) (M.1 63 0 (cl x) + 1)) := by
  have hlc := h.lc
  have ec : cl x = c := by rw [hx]; exact nI_clamp (by omega)
  obtain ⟨t, ht1, et⟩ := h.tu hc
  have hlt : t < 12 := by
    have := Int32.lt_of_lt_of_le ht (h.oc hc)
    rw [et] at this
    exact (nI_ltI (b := 12) (by omega) (by decide)).mp this
  refine h.tw (c := c) (fun t k q => up63 (by omega) hx q) ⟨t + 1, by omega, ?_⟩ (fun q => ?_)
  · rw [ec, et, nI_1]; exact up3_self
  · have e64 : (uI M 63 0 (cl x) (M.1 63 0 (cl x) + 1)).1 64 0 c = M.1 64 0 c := by rw [uI_1, if_neg (by omega)]
    rw [e64] at q; exact absurd q (Int32.not_lt.mpr hw)
theorem SG.frame {P : Nat → Nat → Prop} {M' : MM} (h : SG g M) (f : Fr P M M') (hp : ¬ P 44 11) : SG g M' := ⟨h.1, (f.2 44 0 11 hp).trans h.2⟩
theorem go_turns (hW : WM ns nc M) (hS : SG g M) (hc : c < nc) (hx : x = nI c) (h : Q rV (mk (mTurns ns g x M))) : Gm Γ M_X7_turns [vr 44 0, vi x] (mk M) Q := by
  have hlc := hW.lc
  have hv : vp_in x 12 := in12 (by omega) hx
  have ec : cl x = c := by rw [hx]; exact nI_clamp (by omega)
  unfold mTurns at h
  refine gm_step [] 100 ?_; intro G K hG hK
  refine ⟨hv, ?_⟩
  refine ⟨fun (g1 : M.1 64 0 (cl x) ≤ 0) => ?_, fun (g1 : ¬ M.1 64 0 (cl x) ≤ 0) => ?_⟩
  rotate_left
  · rw [if_neg g1] at h
    refine ⟨hv, hv, hv, ?_⟩
    refine br_of (P' := ¬ M.1 64 0 (cl x) - 1 = 0) (by show ¬ up3 _ 64 0 (cl x) _ 64 0 (cl x) = 0 ↔ _; rw [up3_self]; exact Iff.rfl) (fun g2 => ?_) (fun g2 => ?_)
    · rw [if_neg g2] at h; exact h
    · rw [if_pos (Decidable.not_not.mp g2)] at h
      exact ⟨hv, hv, h⟩
  rw [if_pos g1] at h
  refine ⟨hv, hv, ?_⟩
  refine ⟨fun (g2 : M.1 63 0 (cl x) < M.1 68 0 (cl x)) => ?_, fun (g2 : ¬ M.1 63 0 (cl x) < M.1 68 0 (cl x)) => ?_⟩
  rotate_left
  · rw [if_neg g2] at h; exact h
  rw [if_pos g2] at h
  obtain ⟨t, ht1, et⟩ := hW.tu hc
  have hlt : t < 12 := by
    have := Int32.lt_of_lt_of_le (by rw [ec] at g2; exact g2) (hW.oc hc)
    rw [et] at this
    exact (nI_ltI (b := 12) (by omega) (by decide)).mp this
  have eo : 5 * (12 * x + M.1 63 0 (cl x)) = nI (5 * (12 * c + t)) := by rw [ec, et, hx, (ix12 (by omega) hlt).1, show (5 : Int32) = nI 5 from rfl, pk_mul]
  have vo : vp_in (5 * (12 * x + M.1 63 0 (cl x))) 780 := by rw [eo]; exact vp_in_nI (by omega) (by decide)
  have vo1 : vp_in (5 * (12 * x + M.1 63 0 (cl x)) + 1) 780 := by rw [eo, nI_1]; exact vp_in_nI (by omega) (by decide)
  refine ⟨hv, ?_⟩
  refine hG _ _ _ _ (go_mholds (o := 5 * (12 * x + M.1 63 0 (cl x))) (q := 5 * (12 * c + t)) hW hc hx eo (by omega) ?_)
  by_cases g3 : mHoldsB ns M x (5 * (12 * x + M.1 63 0 (cl x))) = true
  · rw [b32_t g3]
    rw [if_pos g3] at h
    refine br1z ?_
    refine ⟨vo, ?_⟩
    have hWn := hW.next hc hx (by rw [← ec]; exact g1) (by rw [← ec]; exact g2)
    refine ⟨fun (g4 : ¬ M.1 67 0 (cl (5 * (12 * x + M.1 63 0 (cl x)))) = 4) => ?_, fun (g4 : ¬ ¬ M.1 67 0 (cl (5 * (12 * x + M.1 63 0 (cl x)))) = 4) => ?_⟩
    rotate_left
    · rw [if_pos (Decidable.not_not.mp g4)] at h
      exact ⟨hv, h⟩
    refine br1z ?_
    refine ⟨vo, ?_⟩
    refine ⟨fun (g5 : ¬ M.1 67 0 (cl (5 * (12 * x + M.1 63 0 (cl x)))) = 3) => ?_, fun (g5 : ¬ ¬ M.1 67 0 (cl (5 * (12 * x + M.1 63 0 (cl x)))) = 3) => ?_⟩
    · refine ⟨hv, hv, ?_⟩
      refine br1z ?_
      refine ⟨vo, vo1, ?_⟩
      rw [if_neg g4, if_neg (fun z => g5 z.1)] at h
      refine hG _ _ _ _ (go_acts (M := uI M 63 0 (cl x) (M.1 63 0 (cl x) + 1)) hWn hc hx hS.2 hS.1 ?_)
      exact h
    refine ⟨vo1, ?_⟩
    refine ⟨fun (g6 : M.1 67 0 (cl (5 * (12 * x + M.1 63 0 (cl x)) + 1)) ≤ 1) => ?_, fun (g6 : ¬ M.1 67 0 (cl (5 * (12 * x + M.1 63 0 (cl x)) + 1)) ≤ 1) => ?_⟩
    · refine ⟨hv, hv, ?_⟩
      refine br1z ?_
      refine ⟨vo, vo1, ?_⟩
      rw [if_neg g4, if_neg (fun z => z.2 g6)] at h
      refine hG _ _ _ _ (go_acts (M := uI M 63 0 (cl x) (M.1 63 0 (cl x) + 1)) hWn hc hx hS.2 hS.1 ?_)
      exact h
    · rw [if_neg g4, if_pos ⟨Decidable.not_not.mp g5, g6⟩] at h
      exact ⟨vo1, hv, h⟩
  · rw [b32_f g3]
    rw [if_neg g3] at h
    refine br0z ?_
    refine br0z ?_
    refine ⟨hv, hv, ?_⟩
    exact br0z h
theorem WM.turns (h : WM ns nc M) (hc : c < nc) (hx : x = nI c) : WM ns nc (mTurns ns g x M) := by
  have hlc := h.lc
  have ec : cl x = c := by rw [hx]; exact nI_clamp (by omega)
  unfold mTurns
  rw [ec]
  split
  · rename_i g1
    split
    · rename_i g2
      have hn := h.next hc hx g1 g2
      rw [ec] at hn
      split
      · split
        · refine h.tw (c := c) (fun t k q => by have := up63 (M := M) (y := 0) (by omega) hx q; rw [ec] at this; exact this) ⟨0, by omega, up3_self⟩ (fun q => ?_)
          have e64 : (uI M 63 0 c 0).1 64 0 c = M.1 64 0 c := by rw [uI_1, if_neg (by omega)]
          rw [e64] at q; exact absurd q (Int32.not_lt.mpr g1)
        · split
          · refine h.tw (c := c) (fun t k q => by have := up64 (M := M) (y := M.1 67 0 (cl (5 * (12 * x + M.1 63 0 c) + 1)) - 1) (by omega) hx q; rw [ec] at this; exact this) (h.tu hc) (fun _ => ?_)
            have e63 : ∀ y, (uI M 64 0 c y).1 63 0 c = M.1 63 0 c := fun y => by rw [uI_1, if_neg (by omega)]
            rw [e63]; exact g2
          · exact hn.acts hc hx
      · exact hn
    · exact h
  · rename_i g1
    have g1 : 0 < M.1 64 0 c := Int32.not_le.mp g1
    have g2 := h.wt hc g1
    obtain ⟨t, ht1, et⟩ := h.tu hc
    have hlt : t < 12 := by
      have := Int32.lt_of_lt_of_le g2 (h.oc hc)
      rw [et] at this
      exact (nI_ltI (b := 12) (by omega) (by decide)).mp this
    split
    · rename_i g3
      refine h.tw (c := c) (fun t k q => ?_) ⟨t + 1, by omega, ?_⟩ (fun q => ?_)
      · rw [uI_1, uI_1, if_neg (by omega), if_neg (by omega)]
      · rw [et, nI_1]; exact up3_self
      · have e64 : ∀ y z, (uI (uI M 64 0 c z) 63 0 c y).1 64 0 c = z := fun y z => by rw [uI_1, if_neg (by omega), uI_1, if_pos ⟨rfl, rfl, rfl⟩]
        rw [e64, g3] at q
        exact absurd q (by decide)
    · refine h.tw (c := c) (fun t k q => ?_) (h.tu hc) (fun _ => ?_)
      · rw [uI_1, if_neg (by omega)]
      · have e63 : ∀ y, (uI M 64 0 c y).1 63 0 c = M.1 63 0 c := fun y => by rw [uI_1, if_neg (by omega)]
        rw [e63]; exact g2
end MTRN
