/-! The class: texts told, accounts, split. -/
def mP : Int32 := Int32.ofInt 1000000
def mN : Int32 := Int32.ofInt (-1000000)
def cCounts (M : MM) (e a p u : Int32) : Prop := (0 ≤ e ∧ e < M.1 35 0 0) ∧ M.1 36 0 (cl e) = a ∧ M.1 37 0 (cl e) = p ∧ M.1 38 0 (cl e) ≤ u
def cCountsD (M : MM) (e a p u : Int32) : Decidable (cCounts M e a p u) := by unfold cCounts; exact inferInstance
def cCountsB (M : MM) (e a p u : Int32) : Bool := @decide (cCounts M e a p u) (cCountsD M e a p u)
theorem cCountsB_iff {M : MM} {e a p u : Int32} : cCountsB M e a p u = true ↔ cCounts M e a p u := by unfold cCountsB; exact @decide_eq_true_iff _ (cCountsD M e a p u)
def cSum1 (M : MM) (a p u k : Int32) : Nat → Int64
  | 0 => 0
  | i + 1 => if cCountsB M (nI i) a p u = true ∧ M.1 38 0 i ≤ k then cSum1 M a p u k i + (M.1 39 0 i).toInt64 else cSum1 M a p u k i
def cSum2 (M : MM) (a p u k : Int32) (s : Int64) : Nat → Int64
  | 0 => s
  | i + 1 => if cCountsB M (M.1 41 0 i) a p u = true ∧ M.1 42 0 i ≤ k then cSum2 M a p u k s i + M.2 43 0 i else cSum2 M a p u k s i
def cPL (M : MM) (ns : Nat) (x : Int32) (p s : Int32) : Int32 := if cAllP M (p + s) ns ≤ x then p else p + s
def cLast (M : MM) (ns : Nat) (x : Int32) : Int32 := cPL M ns x (cPL M ns x (cPL M ns x (cPL M ns x (cPL M ns x (cPL M ns x (cPL M ns x (cPL M ns x (cPL M ns x (cPL M ns x 0 512) 256) 128) 64) 32) 16) 8) 4) 2) 1
def cSplM (M : MM) (p : Int32) : Nat → Int64
  | 0 => 0
  | i + 1 => cSplM M p i + cNext M i (cOfP M (p + 1) i)
def cSplL (M : MM) (p : Int32) (x : Int64) : Nat → Int64
  | 0 => x
  | i + 1 => cSplL M p x i - (cOfP M (p + 1) i).toInt64
def cSplit (M : MM) (ns : Nat) (x : Int32) : Int32 := (cSplM M (cLast M ns x) ns + cSplL M (cLast M ns x) x.toInt64 ns * (cLast M ns x).toInt64).toInt32
section FAC2
variable {Γ : GG} {M : MM} {Q : Out → Mem → Prop} {c ns nc n p : Nat} {b : Nat → Int32}
theorem go_counts {e a p u : Int32} (he : M.1 35 0 0 = nI n) (hn : n ≤ 300) (h : Q (rI (b32 (cCountsB M e a p u = true))) (mk M)) : Gm Γ M_X2_counts [vr 35 0, vi e, vi a, vi p, vi u] (mk M) Q := by
  refine gm_step [] 60 ?_; intro G K hG hK
  refine hG _ _ _ _ (gm_has ?_)
  refine br_z (fun g => rb_f (fun q => g (cCountsB_iff.mp q).1) h) (fun g => ?_)
  obtain ⟨v1, l1, -⟩ := in_le hn (by decide) g.1 (by rw [← he]; exact g.2)
  refine ⟨v1, ?_⟩
  refine ⟨fun (g2 : ¬ M.1 36 0 (cl e) = a) => rb_f (fun q => g2 (cCountsB_iff.mp q).2.1) h, fun (g2 : ¬ ¬ M.1 36 0 (cl e) = a) => ?_⟩
  refine ⟨v1, ?_⟩
  refine ⟨fun (g3 : ¬ M.1 37 0 (cl e) = p) => rb_f (fun q => g3 (cCountsB_iff.mp q).2.2.1) h, fun (g3 : ¬ ¬ M.1 37 0 (cl e) = p) => ?_⟩
  refine ⟨v1, ?_⟩
  exact ⟨fun (g4 : u < M.1 38 0 (cl e)) => rb_f (fun q => Int32.not_lt.mpr (cCountsB_iff.mp q).2.2.2 g4) h, fun (g4 : ¬ u < M.1 38 0 (cl e)) => rb_t (cCountsB_iff.mpr ⟨g, Decidable.not_not.mp g2, Decidable.not_not.mp g3, Int32.not_lt.mp g4⟩) h⟩
theorem go_sumOf {a p u k : Int32} {r : Nat} (he : M.1 35 0 0 = nI n) (hn : n ≤ 300) (hr : M.1 35 0 6 = nI r) (hr2 : r ≤ 100) (h : Q (rJ (cSum2 M a p u k (cSum1 M a p u k n) r)) (mk M)) : Gm Γ M_X2_sumOf [vr 35 0, vi a, vi p, vi u, vi k] (mk M) Q := by
  refine gm_step [6] 60 ?_; intro G K hG hK
  refine hK _ _ _ _ _ (go_bus (lv' := [(7, vi (nI 0)), (5, vj (cSum1 M a p u k 0)), (4, vi k), (3, vi u), (2, vi p), (1, vi a), (0, vr 35 0)]) ?_ ⟨rfl, rfl, rfl, rfl, rfl, rfl, rfl, trivial⟩)
  refine loop_up (P := fun i => Go Γ M_X2_sumOf 6 [(7, vi (nI i)), (5, vj (cSum1 M a p u k i)), (4, vi k), (3, vi u), (2, vi p), (1, vi a), (0, vr 35 0)] [] (mk M) (0, 0) Q) (n := n) (fun i hi ih => ?_) ?_
  · have ec : cl (nI i) = i := nI_clamp (by omega)
    have hv : vp_in (nI i) 300 := vp_in_nI (by omega) (by decide)
    unfold cSum1 at ih
    refine go_step [6] 60 ?_; intro G K hG hK
    refine ⟨fun (g : M.1 35 0 0 ≤ nI i) => ?_, fun _ => ?_⟩
    · rw [he] at g; exact absurd g (nI_ge hi (by omega))
    refine hG _ _ _ _ (go_counts he hn ?_)
    refine br_z (fun g => ?_) (fun g => ?_)
    · rw [if_neg (fun q => g q.1)] at ih
      exact hK _ _ _ _ _ (go_bus ih ⟨lvi (nI_1 i), rfl, rfl, rfl, rfl, rfl, rfl, trivial⟩)
    refine ⟨hv, ?_⟩
    refine ⟨fun (g2 : k < M.1 38 0 (cl (nI i))) => ?_, fun (g2 : ¬ k < M.1 38 0 (cl (nI i))) => ?_⟩
    · rw [ec] at g2
      rw [if_neg (fun q => Int32.not_lt.mpr q.2 g2)] at ih
      exact hK _ _ _ _ _ (go_bus ih ⟨lvi (nI_1 i), rfl, rfl, rfl, rfl, rfl, rfl, trivial⟩)
    · rw [ec] at g2
      rw [if_pos ⟨g, Int32.not_lt.mp g2⟩] at ih
      refine ⟨hv, ?_⟩
      exact hK _ _ _ _ _ (go_bus ih ⟨lvi (nI_1 i), lvj (by show cSum1 M a p u k i + (M.1 39 0 (cl (nI i))).toInt64 = _; rw [ec]), rfl, rfl, rfl, rfl, rfl, trivial⟩)
  generalize cSum1 M a p u k n = s at h ⊢
  refine go_step [61] 60 ?_; intro G K hG hK
  refine ⟨fun _ => ?_, fun (g : ¬ M.1 35 0 0 ≤ nI n) => ?_⟩
  rotate_left
  · rw [he] at g; exact absurd (Int32.le_refl _) g
  refine hK _ _ _ _ _ (go_bus (lv' := [(7, vi (nI 0)), (5, vj (cSum2 M a p u k s 0)), (4, vi k), (3, vi u), (2, vi p), (1, vi a), (0, vr 35 0)]) ?_ ⟨rfl, rfl, rfl, rfl, rfl, rfl, rfl, trivial⟩)
  refine loop_up (P := fun i => Go Γ M_X2_sumOf 61 [(7, vi (nI i)), (5, vj (cSum2 M a p u k s i)), (4, vi k), (3, vi u), (2, vi p), (1, vi a), (0, vr 35 0)] [] (mk M) (0, 0) Q) (n := r) (fun i hi ih => ?_) ?_
  · have ec : cl (nI i) = i := nI_clamp (by omega)
    have hv : vp_in (nI i) 100 := vp_in_nI (by omega) (by decide)
    unfold cSum2 at ih
    rw [← ec] at ih
    refine go_step [61] 60 ?_; intro G K hG hK
    refine ⟨fun (g : M.1 35 0 6 ≤ nI i) => ?_, fun _ => ?_⟩
    · rw [hr] at g; exact absurd g (nI_ge hi (by omega))
    refine ⟨hv, ?_⟩
    refine hG _ _ _ _ (go_counts (e := M.1 41 0 (cl (nI i))) he hn ?_)
    refine br_z (fun g => ?_) (fun g => ?_)
    · rw [if_neg (fun q => g q.1), ec] at ih
      exact hK _ _ _ _ _ (go_bus ih ⟨lvi (nI_1 i), rfl, rfl, rfl, rfl, rfl, rfl, trivial⟩)
    refine ⟨hv, ?_⟩
    refine ⟨fun (g2 : k < M.1 42 0 (cl (nI i))) => ?_, fun (g2 : ¬ k < M.1 42 0 (cl (nI i))) => ?_⟩
    · rw [if_neg (fun q => Int32.not_lt.mpr q.2 g2), ec] at ih
      exact hK _ _ _ _ _ (go_bus ih ⟨lvi (nI_1 i), rfl, rfl, rfl, rfl, rfl, rfl, trivial⟩)
    · rw [if_pos ⟨g, Int32.not_lt.mp g2⟩, ec] at ih
      refine ⟨hv, ?_⟩
      exact hK _ _ _ _ _ (go_bus ih ⟨lvi (nI_1 i), lvj (by show cSum2 M a p u k s i + M.2 43 0 (cl (nI i)) = _; rw [ec]), rfl, rfl, rfl, rfl, rfl, trivial⟩)
  · refine go_step [61] 60 ?_; intro G K hG hK
    refine ⟨fun _ => h, fun (g : ¬ M.1 35 0 6 ≤ nI r) => ?_⟩
    rw [hr] at g; exact absurd (Int32.le_refl _) g
theorem go_balance {i p u k : Int32} {r : Nat} (hW : WC ns nc M) (he : M.1 35 0 0 = nI n) (hn : n ≤ 300) (hr : M.1 35 0 6 = nI r) (hr2 : r ≤ 100)
    (h1 : ¬ (0 ≤ i ∧ i < nI nc) → Q (rX 1) (mk M)) (h0 : (0 ≤ i ∧ i < nI nc) → ¬ (0 ≤ p ∧ p ≤ 2) → Q (rX 0) (mk M))
    (h : (0 ≤ i ∧ i < nI nc) → (0 ≤ p ∧ p ≤ 2) → Q (rJ (cSum2 M i p u k (cSum1 M i p u k n) r)) (mk M)) : Gm Γ M_X6_balance [vr 0 0, vi i, vi p, vi u, vi k] (mk M) Q := by
  refine gm_step [] 60 ?_; intro G K hG hK
  refine hG _ _ _ _ (gm_hasCaravan ?_)
  rw [hW.n9]
  refine br_n (fun gf => ?_) (fun g => h1 g)
  refine hG _ _ _ _ (gm_isWithin (n := p) (a := 0) (b := 2) ?_)
  refine br_n (fun g2 => ?_) (fun g => h0 gf g)
  refine hG _ _ _ _ (go_sumOf he hn hr hr2 ?_)
  exact h gf g2
theorem go_putRight {e m d : Int32} {r : Nat} (he : M.1 35 0 0 = nI n) (hn : n ≤ 300) (hr : M.1 35 0 6 = nI r) (hr2 : r ≤ 100) (hg : 0 ≤ e ∧ e < nI n)
    (h0 : r = 100 → Q (rI 0) (mk M)) (h : r < 100 → Q (rI 1) (mk (cPut M (cl e) m d))) : Gm Γ M_X2_putRight [vr 35 0, vi e, vi m, vi d] (mk M) Q := by
  obtain ⟨v1, l1, e1⟩ := in_le hn (by decide) hg.1 hg.2
  refine gm_step [] 60 ?_; intro G K hG hK
  refine hG _ _ _ _ (gm_has ?_)
  rw [he]
  refine br_z (fun g => absurd hg g) (fun _ => ?_)
  refine ⟨fun (g2 : M.1 35 0 6 < 100) => ?_, fun (g2 : ¬ M.1 35 0 6 < 100) => ?_⟩
  · rw [hr] at g2
    have hlt : r < 100 := (nI_ltI (b := 100) (by omega) (by decide)).mp g2
    have h := h hlt
    unfold cPut at h
    rw [← e1] at h
    have v2 : vp_in (M.1 35 0 6) 100 := by rw [hr]; exact vp_in_nI hlt (by decide)
    exact ⟨v2, v2, v1, v2, v1, rb1 h⟩
  · rw [hr] at g2
    exact rb0 (h0 (Nat.le_antisymm hr2 (Nat.not_lt.mp fun q => g2 (nI_lt q (by decide)))))
theorem go_correct {e m : Int32} {r : Nat} (he : M.1 35 0 0 = nI n) (hn : n ≤ 300) (hr : M.1 35 0 6 = nI r) (hr2 : r ≤ 100)
    (h1 : ¬ (0 ≤ e ∧ e < nI n) → Q (rX 1) (mk M)) (h0 : (0 ≤ e ∧ e < nI n) → ¬ (mN ≤ m ∧ m ≤ mP) → Q (rX 0) (mk M))
    (hf : (0 ≤ e ∧ e < nI n) → (mN ≤ m ∧ m ≤ mP) → r = 100 → Q (rI 0) (mk M))
    (h : (0 ≤ e ∧ e < nI n) → (mN ≤ m ∧ m ≤ mP) → r < 100 → Q (rI 1) (mk (cPut M (cl e) m (M.1 0 0 13)))) : Gm Γ M_X6_correct [vr 0 0, vi e, vi m] (mk M) Q := by
  refine gm_step [] 60 ?_; intro G K hG hK
  refine hG _ _ _ _ (gm_has ?_)
  rw [he]
  refine br_n (fun gf => ?_) (fun g => h1 g)
  refine hG _ _ _ _ (gm_isWithin (n := m) (a := mN) (b := mP) ?_)
  refine br_n (fun g2 => ?_) (fun g => h0 gf g)
  exact hG _ _ _ _ (go_putRight he hn hr hr2 gf (fun q => rb0 (hf gf g2 q)) (fun q => rb1 (h gf g2 q)))
theorem go_priceOfLast {x : Int32} (hW : WC ns nc M) (h : Q (rI (cLast M ns x)) (mk M)) : Gm Γ M_X6_priceOfLast [vr 0 0, vi x] (mk M) Q := by
  have step : ∀ (p s t : Int32), ¬ s ≤ 0 → s / 2 = t → Go Γ M_X6_priceOfLast 6 [(3, vi t), (2, vi (cPL M ns x p s)), (1, vi x), (0, vr 0 0)] [] (mk M) (0, 0) Q → Go Γ M_X6_priceOfLast 6 [(3, vi s), (2, vi p), (1, vi x), (0, vr 0 0)] [] (mk M) (0, 0) Q := by
    intro p s t hs ht hk
    unfold cPL at hk
    refine go_step [6] 60 ?_; intro G K hG hK
    refine ⟨fun (g : s ≤ 0) => absurd g hs, fun _ => ?_⟩
    refine hG _ _ _ _ (go_allPrice hW ?_)
    refine ⟨fun (g : cAllP M (p + s) ns ≤ x) => ?_, fun (g : ¬ cAllP M (p + s) ns ≤ x) => ?_⟩
    · rw [if_pos g] at hk
      exact ⟨by decide, hK _ _ _ _ _ (go_bus hk ⟨lvi ht, rfl, rfl, rfl, trivial⟩)⟩
    · rw [if_neg g] at hk
      exact ⟨by decide, hK _ _ _ _ _ (go_bus hk ⟨lvi ht, rfl, rfl, rfl, trivial⟩)⟩
  unfold cLast at h
  refine gm_step [6] 60 ?_; intro G K hG hK
  refine hK _ _ _ _ _ (go_bus (lv' := [(3, vi 512), (2, vi 0), (1, vi x), (0, vr 0 0)]) ?_ ⟨rfl, rfl, rfl, rfl, trivial⟩)
  refine step 0 512 256 (by decide) (by decide) ?_
  refine step _ 256 128 (by decide) (by decide) ?_
  refine step _ 128 64 (by decide) (by decide) ?_
  refine step _ 64 32 (by decide) (by decide) ?_
  refine step _ 32 16 (by decide) (by decide) ?_
  refine step _ 16 8 (by decide) (by decide) ?_
  refine step _ 8 4 (by decide) (by decide) ?_
  refine step _ 4 2 (by decide) (by decide) ?_
  refine step _ 2 1 (by decide) (by decide) ?_
  refine step _ 1 0 (by decide) (by decide) ?_
  refine go_step [6] 60 ?_; intro G K hG hK
  exact ⟨fun _ => h, fun (g : ¬ (0 : Int32) ≤ 0) => absurd (by decide) g⟩
theorem go_split {x : Int32} (hW : WC ns nc M) (h0 : ¬ (0 ≤ x ∧ x ≤ 5000) → Q (rX 0) (mk M)) (h : (0 ≤ x ∧ x ≤ 5000) → Q (rI (cSplit M ns x)) (mk M)) : Gm Γ M_X6_split [vr 0 0, vi x] (mk M) Q := by
  have hns := hW.ls
  refine gm_step [37] 60 ?_; intro G K hG hK
  refine hG _ _ _ _ (gm_isWithin (n := x) (a := 0) (b := 5000) ?_)
  refine br_n (fun gf => ?_) (fun g => h0 g)
  refine hG _ _ _ _ (go_priceOfLast hW ?_)
  have h := h gf
  unfold cSplit at h
  generalize cLast M ns x = p at h ⊢
  refine hK _ _ _ _ _ (go_bus (lv' := [(7, vi (nI 0)), (5, vj (cSplL M p x.toInt64 0)), (3, vj (cSplM M p 0)), (2, vi p), (1, vi x), (0, vr 0 0)]) ?_ ⟨rfl, rfl, rfl, rfl, rfl, rfl, trivial⟩)
  refine loop_up (P := fun i => Go Γ M_X6_split 37 [(7, vi (nI i)), (5, vj (cSplL M p x.toInt64 i)), (3, vj (cSplM M p i)), (2, vi p), (1, vi x), (0, vr 0 0)] [] (mk M) (0, 0) Q) (n := ns) (fun i hi ih => ?_) ?_
  · refine go_step [37] 60 ?_; intro G K hG hK
    refine ⟨fun (g : M.1 0 0 5 ≤ nI i) => ?_, fun _ => ?_⟩
    · rw [hW.n5] at g; exact absurd g (nI_ge hi (by omega))
    refine ⟨in12 (n := i) (by omega) rfl, (13, i), R0_st (by omega) rfl, ?_⟩
    refine hG _ _ _ _ (gm_ofPrice (p := p + 1) ?_)
    refine ⟨in12 (n := i) (by omega) rfl, (13, i), R0_st (by omega) rfl, ?_⟩
    refine hG _ _ _ _ (go_moneyOfNext ?_)
    exact hK _ _ _ _ _ (go_bus ih ⟨lvi (nI_1 i), rfl, rfl, rfl, rfl, rfl, trivial⟩)
  · refine go_step [37] 60 ?_; intro G K hG hK
    refine ⟨fun _ => h, fun (g : ¬ M.1 0 0 5 ≤ nI ns) => ?_⟩
    rw [hW.n5] at g; exact absurd (Int32.le_refl _) g
theorem go_judge {i r : Int32} (hW : WC ns nc M) (hr : r = 0 ∨ r = 1)
    (h1 : ¬ (0 ≤ i ∧ i < nI nc) → Q (rX 1) (mk (uI M 1 0 1 0)))
    (h0 : (0 ≤ i ∧ i < nI nc) → r = 0 → Q (rX 0) (mk (uI (uI M 1 0 1 0) 0 0 3 (M.1 1 0 2))))
    (h : (0 ≤ i ∧ i < nI nc) → r = 1 → Q rV (mk (uI (uI M 1 0 1 0) 0 0 3 (-1)))) : Gm Γ M_X6_judgeText [vr 0 0, vi i, vi r] (mk M) Q := by
  refine gm_step [] 60 ?_; intro G K hG hK
  refine hG _ _ _ _ (gm_hasCaravan (M := uI M 1 0 1 0) ?_)
  have e9 : (uI M 1 0 1 0).1 0 0 9 = nI nc := hW.n9
  rw [e9]
  refine br_n (fun gf => ?_) (fun g => h1 g)
  rcases hr with rfl | rfl
  · exact br0z (br0n (h0 gf rfl))
  · exact br1z (br1n (h gf rfl))
theorem WC.scr {M' : MM} (h : WC ns nc M) (f : Fr pScr M M') : WC ns nc M' :=
  h.of (f.2 _ _ _ (by unfold pScr; omega)) (f.2 _ _ _ (by unfold pScr; omega)) (fun c => f.2 _ _ _ (by unfold pScr; omega)) (fun c => f.2 _ _ _ (by unfold pScr; omega)) (fun c => f.2 _ _ _ (by unfold pScr; omega)) (fun c => f.2 _ _ _ (by unfold pScr; omega)) (fun c => f.2 _ _ _ (by unfold pScr; omega)) (by rw [f.2 35 0 0 (by unfold pScr; omega)]; exact h.en)
theorem go_orders {i : Int32} (hW : WC ns nc M) (hn : n ≤ 400) (hl : M.1 1 0 1 = nI n) (hb : M.1 2 0 = b)
    (h1 : ∀ M', ¬ (0 ≤ i ∧ i < nI nc) → Fr pScr M M' → Q (rX 1) (mk (uI M' 1 0 1 0)))
    (h0 : ∀ M' e, (0 ≤ i ∧ i < nI nc) → aList b n 12 (sk b n 0) = .error e → Fr pScr M M' → Q (rX 0) (mk (uI (uI M' 1 0 1 0) 0 0 3 (nI e))))
    (h : ∀ M' l, (0 ≤ i ∧ i < nI nc) → aList b n 12 (sk b n 0) = .ok l → Fr pScr M M' → l.length ≤ 12 → M'.1 3 0 0 = nI l.length → (∀ j (hj : j < l.length), rowC M' j l[j]) → Q (rI (nI l.length)) (mk (cTakeO (uI (uI M' 1 0 1 0) 0 0 3 (-1)) (cl i)))) : Gm Γ M_X6_orders [vr 0 0, vi i] (mk M) Q := by
  refine gm_step [] 60 ?_; intro G K hG hK
  refine hG _ _ _ _ (go_readFrom0 hn hl hb (fun e M' g1 f t => ?_) (fun l M' g1 f t hll w1 w2 => ?_))
  · refine hG _ _ _ _ (go_judge (hW.scr f) (Or.inl rfl) (fun g => h1 M' g f) (fun g _ => ?_) (fun _ q => absurd q (by decide)))
    have h := h0 M' e g g1 f
    rw [← t.2.2.2] at h
    exact h
  · refine hG _ _ _ _ (go_judge (hW.scr f) (Or.inr rfl) (fun g => h1 M' g f) (fun _ q => absurd q (by decide)) (fun g _ => ?_))
    have h := h M' l g g1 f hll w1 w2
    obtain ⟨v1, l1, -⟩ := in_of hW.lc g.1 g.2
    refine ⟨v1, (15, cl i), rA_at (Nat.lt_of_lt_of_le l1 hW.lc), ?_⟩
    refine hG _ _ _ _ (go_takeOrders (M := uI (uI M' 1 0 1 0) 0 0 3 (-1)) ?_)
    rw [← w1] at h
    exact h
theorem go_contract {i : Int32} (hW : WC ns nc M) (hn : n ≤ 400) (hl : M.1 1 0 1 = nI n) (hb : M.1 2 0 = b)
    (h1 : ∀ M', ¬ (0 ≤ i ∧ i < nI nc) → Fr pScr M M' → Q (rX 1) (mk (uI M' 1 0 1 0)))
    (h0 : ∀ M' e, (0 ≤ i ∧ i < nI nc) → aDeal b n 3 [] (sk b n 0) = .error e → Fr pScr M M' → Q (rX 0) (mk (uI (uI M' 1 0 1 0) 0 0 3 (nI e))))
    (h : ∀ M' l r, (0 ≤ i ∧ i < nI nc) → aDeal b n 3 [] (sk b n 0) = .ok (l, r) → Fr pScr M M' → l.length ≤ 3 → dC M' l → M'.1 9 0 4 = r.1 → (¬ r.1 = -1 → M'.1 9 0 5 = r.2) → Q (rI (nI l.length)) (mk (cTold (uI (uI M' 1 0 1 0) 0 0 3 (-1)) (cl i)))) : Gm Γ M_X6_contract [vr 0 0, vi i] (mk M) Q := by
  refine gm_step [] 60 ?_; intro G K hG hK
  refine hG _ _ _ _ (go_readFrom1 hn hl hb (fun e M' g1 f t => ?_) (fun l r M' g1 f t hll dl w1 w2 => ?_))
  · refine hG _ _ _ _ (go_judge (hW.scr f) (Or.inl rfl) (fun g => h1 M' g f) (fun g _ => ?_) (fun _ q => absurd q (by decide)))
    have h := h0 M' e g g1 f
    rw [← t.2.2.2] at h
    exact h
  · refine hG _ _ _ _ (go_judge (hW.scr f) (Or.inr rfl) (fun g => h1 M' g f) (fun _ q => absurd q (by decide)) (fun g _ => ?_))
    have h := h M' l r g g1 f hll dl w1 w2
    obtain ⟨v1, l1, -⟩ := in_of hW.lc g.1 g.2
    refine ⟨v1, (15, cl i), rA_at (Nat.lt_of_lt_of_le l1 hW.lc), ?_⟩
    refine hG _ _ _ _ (go_copyTold (M := uI (uI M' 1 0 1 0) 0 0 3 (-1)) ?_)
    rw [← dl.1] at h
    exact h
end FAC2
