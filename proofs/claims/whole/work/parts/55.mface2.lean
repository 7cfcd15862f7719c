/-! The reference: entries, balance, split, count, feed. -/
theorem eN64 : Int64.ofInt (-1000000) = mN.toInt64 := by decide +kernel
theorem eP64 : Int64.ofInt 1000000 = mP.toInt64 := by decide +kernel
def pFeedM (t k : Nat) : Prop := t = 81 ∨ t = 82 ∨ (t = 44 ∧ (k = 44 ∨ k = 0))
/-- k bytes g behind the first n -/
def fedK (f : Nat → Int32) (n : Nat) (g : Nat → Int32) (k : Nat) : Nat → Int32 := fun j => if n ≤ j ∧ j < n + k then g (j - n) else f j
def fiv (a b c d e : Int32) (k : Nat) : Int32 := if k = 0 then a else if k = 1 then b else if k = 2 then c else if k = 3 then d else e
def fb (a b c d e : Int32) (i : Nat) : Int32 := byt (fiv a b c d e (i / 4)) (24 - 8 * nI (i % 4))
theorem fed_eq (f : Nat → Int32) (n : Nat) (a b c d e : Int32) : add4 (add4 (add4 (add4 (add4 f n a) (n + 4) b) (n + 8) c) (n + 12) d) (n + 16) e = fedK f n (fb a b c d e) 20 := by
  funext j
  unfold fedK
  by_cases h : n ≤ j ∧ j < n + 20
  · rw [if_pos h]
    obtain ⟨i, rfl⟩ : ∃ i, j = n + i := ⟨j - n, by omega⟩
    rw [show n + i - n = i by omega]
    rcases (show i = 0 ∨ i = 1 ∨ i = 2 ∨ i = 3 ∨ i = 4 ∨ i = 5 ∨ i = 6 ∨ i = 7 ∨ i = 8 ∨ i = 9 ∨ i = 10 ∨ i = 11 ∨ i = 12 ∨ i = 13 ∨ i = 14 ∨ i = 15 ∨ i = 16 ∨ i = 17 ∨ i = 18 ∨ i = 19 by omega) with rfl | rfl | rfl | rfl | rfl | rfl | rfl | rfl | rfl | rfl | rfl | rfl | rfl | rfl | rfl | rfl | rfl | rfl | rfl | rfl <;> (unfold add4; repeat (first | rw [if_neg (by omega)] | rw [if_pos (by omega)])) <;> rfl
  · rw [if_neg h]
    unfold add4
    repeat rw [if_neg (by omega)]
section MFA2
variable {Γ : GG} {M : MM} {Q : Out → Mem → Prop} {n p q ns nc : Nat} {b : Nat → Int32} {x : Int32} {σ : Mem}
theorem go_mentry {e x : Int32} {r : Nat} (he : M.1 44 0 36 = nI n) (hn : n ≤ 300) (hr : M.1 44 0 40 = nI r) (hr2 : r ≤ 100)
    (h1 : ¬ (0 ≤ e ∧ e < nI n) → Q (rI 0) (mk (uI (t0 M) 44 0 0 1)))
    (h3 : (0 ≤ e ∧ e < nI n) → ¬ x = 0 → ¬ x = 1 → ¬ x = 2 → ¬ x = 3 → ¬ x = 4 → Q (rI 0) (mk (uI (t0 M) 44 0 0 2)))
    (g0 : (0 ≤ e ∧ e < nI n) → x = 0 → Q (rI (M.1 72 0 (cl e))) (mk (t0 M)))
    (g1 : (0 ≤ e ∧ e < nI n) → x = 1 → Q (rI (M.1 73 0 (cl e))) (mk (t0 M)))
    (g2 : (0 ≤ e ∧ e < nI n) → x = 2 → Q (rI (M.1 74 0 (cl e))) (mk (t0 M)))
    (g3 : (0 ≤ e ∧ e < nI n) → x = 3 → Q (rI (mMoney (t0 M) e (M.1 44 0 1) r)) (mk (t0 M)))
    (g4 : (0 ≤ e ∧ e < nI n) → x = 4 → Q (rI (M.1 75 0 (cl e))) (mk (t0 M))) : Gm Γ M_X7_entry [vr 44 0, vi e, vi x] (mk M) Q := by
  refine gm_step [] 60 ?_; intro G K hG hK
  refine hG _ _ _ _ (gm_in (x := e) (lo := 0) (hi := M.1 44 0 36 - 1) ?_)
  refine br_n (fun g => ?_) (fun g => ?_)
  rotate_left
  · rw [he, lt_pred (by omega)] at g
    refine hG _ _ _ _ (gm_throws1 (M := t0 M) ?_)
    exact br1z (h1 g)
  rw [he, lt_pred (by omega)] at g
  refine hG _ _ _ _ (gm_throws0 (M := t0 M) ?_)
  refine br0z ?_
  obtain ⟨v1, l1, -⟩ := in_le hn (by decide) g.1 g.2
  refine ⟨⟨fun (y : x = 0) => ⟨v1, g0 g y⟩, fun (y : x = 1) => ⟨v1, g1 g y⟩, fun (y : x = 2) => ⟨v1, g2 g y⟩, fun (y : x = 3) => ?_, fun (y : x = 4) => ⟨v1, g4 g y⟩, trivial⟩, fun (y : x.toInt < 0 ∨ ((4 : Nat) : Int) < x.toInt) => h3 g (tsw (k := 0) y (by decide) (by decide)) (tsw (k := 1) y (by decide) (by decide)) (tsw (k := 2) y (by decide) (by decide)) (tsw (k := 3) y (by decide) (by decide)) (tsw (k := 4) y (by decide) (by decide))⟩
  refine hG _ _ _ _ (go_moneyOf (M := t0 M) (d := M.1 44 0 1) v1 hr hr2 ?_)
  exact g3 g y
theorem go_mcorrect {e m : Int32} {r : Nat} (he : M.1 44 0 36 = nI n) (hn : n ≤ 300) (hr : M.1 44 0 40 = nI r) (hr2 : r ≤ 100)
    (h1 : ¬ (0 ≤ e ∧ e < nI n) → Q (rI 0) (mk (uI (t0 M) 44 0 0 1))) (h0 : (0 ≤ e ∧ e < nI n) → ¬ (mN ≤ m ∧ m ≤ mP) → Q (rI 0) (mk (uI (t0 M) 44 0 0 2)))
    (hf : (0 ≤ e ∧ e < nI n) → (mN ≤ m ∧ m ≤ mP) → r = 100 → Q (rI 0) (mk (t0 M)))
    (h : (0 ≤ e ∧ e < nI n) → (mN ≤ m ∧ m ≤ mP) → r < 100 → Q (rI 1) (mk (mPut (t0 M) e m))) : Gm Γ M_X7_correct [vr 44 0, vi e, vi m] (mk M) Q := by
  refine gm_step [] 60 ?_; intro G K hG hK
  refine hG _ _ _ _ (gm_in (x := e) (lo := 0) (hi := M.1 44 0 36 - 1) ?_)
  refine br_n (fun g => ?_) (fun g => ?_)
  rotate_left
  · rw [he, lt_pred (by omega)] at g
    refine hG _ _ _ _ (gm_throws1 (M := t0 M) ?_)
    exact br1n (rb0 (h1 g))
  rw [he, lt_pred (by omega)] at g
  refine hG _ _ _ _ (gm_throws0 (M := t0 M) ?_)
  refine br0n ?_
  refine hG _ _ _ _ (gm_inJ (v := m.toInt64) (lo := Int64.ofInt (-1000000)) (hi := Int64.ofInt 1000000) ?_)
  refine br_n (fun g2 => ?_) (fun g2 => ?_)
  rotate_left
  · rw [eN64, eP64, w_le, w_le] at g2
    refine hG _ _ _ _ (gm_throws1 (M := t0 M) ?_)
    exact br1n (rb0 (h0 g g2))
  rw [eN64, eP64, w_le, w_le] at g2
  refine hG _ _ _ _ (gm_throws0 (M := t0 M) ?_)
  refine br0n ?_
  refine ⟨fun (g5 : ¬ M.1 44 0 40 = 100) => ?_, fun (g5 : ¬ ¬ M.1 44 0 40 = 100) => ?_⟩
  · rw [hr, show (100 : Int32) = nI 100 from rfl, nI_eq (by omega) (by omega)] at g5
    have hv : vp_in (M.1 44 0 40) 100 := by rw [hr]; exact vp_in_nI (by omega) (by decide)
    exact ⟨hv, hv, hv, rb1 (h g g2 (by omega))⟩
  · rw [hr, show (100 : Int32) = nI 100 from rfl, nI_eq (by omega) (by omega)] at g5
    exact rb0 (hf g g2 (Decidable.not_not.mp g5))
theorem go_mbalance {i p d k : Int32} {r : Nat} (hc : M.1 44 0 26 = nI nc) (hlc : nc ≤ 12) (he : M.1 44 0 36 = nI n) (hn : n ≤ 300) (hr : M.1 44 0 40 = nI r) (hr2 : r ≤ 100)
    (h1 : ¬ (0 ≤ i ∧ i < nI nc) → Q (rJ 0) (mk (uI (t0 M) 44 0 0 1))) (h0 : (0 ≤ i ∧ i < nI nc) → ¬ (0 ≤ p ∧ p ≤ 2) → Q (rJ 0) (mk (uI (t0 M) 44 0 0 2)))
    (h : (0 ≤ i ∧ i < nI nc) → (0 ≤ p ∧ p ≤ 2) → Q (rJ (mBal (t0 M) i p d k r n)) (mk (t0 M))) : Gm Γ M_X7_balance [vr 44 0, vi i, vi p, vi d, vi k] (mk M) Q := by
  refine gm_step [51] 60 ?_; intro G K hG hK
  refine hG _ _ _ _ (gm_noCaravan (M := t0 M) (x := i) hc hlc ?_)
  refine hG _ _ _ _ (gm_throws (M := t0 M) (fun g => br1n (h1 g)) (fun g => ?_))
  have g := Decidable.not_not.mp g
  refine br0n ?_
  refine hG _ _ _ _ (gm_in (x := p) (lo := 0) (hi := 2) ?_)
  refine br_n (fun g2 => ?_) (fun g2 => ?_)
  rotate_left
  · refine hG _ _ _ _ (gm_throws1 (M := t0 M) ?_)
    exact br1z (h0 g g2)
  refine hG _ _ _ _ (gm_throws0 (M := t0 M) ?_)
  refine br0z ?_
  have h := h g g2
  have he : (t0 M).1 44 0 36 = nI n := he
  have hr : (t0 M).1 44 0 40 = nI r := hr
  refine hK _ _ _ _ _ (go_bus (lv' := [(7, vi (nI 0)), (5, vj (mBal (t0 M) i p d k r 0)), (4, vi k), (3, vi d), (2, vi p), (1, vi i), (0, vr 44 0)]) ?_ ⟨rfl, rfl, rfl, rfl, rfl, rfl, rfl, trivial⟩)
  show Go Γ M_X7_balance 51 _ [] (mk (t0 M)) (0, 0) Q
  generalize t0 M = A at h he hr ⊢
  refine loop_up (P := fun e => Go Γ M_X7_balance 51 [(7, vi (nI e)), (5, vj (mBal A i p d k r e)), (4, vi k), (3, vi d), (2, vi p), (1, vi i), (0, vr 44 0)] [] (mk A) (0, 0) Q) (n := n) (fun e hi ih => ?_) ?_
  · have ec : cl (nI e) = e := nI_clamp (by omega)
    have hv : vp_in (nI e) 300 := vp_in_nI (by omega) (by decide)
    unfold mBal at ih
    rw [show A.1 72 0 e = A.1 72 0 (cl (nI e)) by rw [ec], show A.1 73 0 e = A.1 73 0 (cl (nI e)) by rw [ec], show A.1 74 0 e = A.1 74 0 (cl (nI e)) by rw [ec]] at ih
    have h119 : ∀ v : Int64, Go Γ M_X7_balance 51 [(7, vi (nI (e + 1))), (5, vj v), (4, vi k), (3, vi d), (2, vi p), (1, vi i), (0, vr 44 0)] [] (mk A) (0, 0) Q → Go Γ M_X7_balance 119 [(7, vi (nI e)), (5, vj v), (4, vi k), (3, vi d), (2, vi p), (1, vi i), (0, vr 44 0)] [] (mk A) (0, 0) Q := fun v ih => by
      refine go_step [51] 60 ?_; intro G K hG hK
      exact hK _ _ _ _ _ (go_bus ih ⟨lvi (nI_1 e), rfl, rfl, rfl, rfl, rfl, rfl, trivial⟩)
    have skip : ¬ (A.1 72 0 (cl (nI e)) = i ∧ A.1 73 0 (cl (nI e)) = p ∧ A.1 74 0 (cl (nI e)) ≤ d ∧ A.1 74 0 (cl (nI e)) ≤ k) → Go Γ M_X7_balance 119 [(7, vi (nI e)), (5, vj (mBal A i p d k r e)), (4, vi k), (3, vi d), (2, vi p), (1, vi i), (0, vr 44 0)] [] (mk A) (0, 0) Q := fun z => by
      rw [if_neg z] at ih
      exact h119 _ ih
    refine go_step [119] 60 ?_; intro G K hG hK
    refine ⟨fun (z : A.1 44 0 36 ≤ nI e) => ?_, fun _ => ?_⟩
    · rw [he] at z; exact absurd z (nI_ge hi (by omega))
    refine ⟨hv, ?_⟩
    refine ⟨fun (z1 : ¬ A.1 72 0 (cl (nI e)) = i) => hK _ _ _ _ _ (skip (fun y => z1 y.1)), fun (z1 : ¬ ¬ A.1 72 0 (cl (nI e)) = i) => ?_⟩
    refine ⟨hv, ?_⟩
    refine ⟨fun (z2 : ¬ A.1 73 0 (cl (nI e)) = p) => hK _ _ _ _ _ (skip (fun y => z2 y.2.1)), fun (z2 : ¬ ¬ A.1 73 0 (cl (nI e)) = p) => ?_⟩
    refine ⟨hv, ?_⟩
    refine ⟨fun (z3 : d < A.1 74 0 (cl (nI e))) => hK _ _ _ _ _ (skip (fun y => Int32.not_lt.mpr y.2.2.1 z3)), fun (z3 : ¬ d < A.1 74 0 (cl (nI e))) => ?_⟩
    refine ⟨hv, ?_⟩
    refine ⟨fun (z4 : k < A.1 74 0 (cl (nI e))) => hK _ _ _ _ _ (skip (fun y => Int32.not_lt.mpr y.2.2.2 z4)), fun (z4 : ¬ k < A.1 74 0 (cl (nI e))) => ?_⟩
    rw [if_pos ⟨Decidable.not_not.mp z1, Decidable.not_not.mp z2, Int32.not_lt.mp z3, Int32.not_lt.mp z4⟩] at ih
    refine hG _ _ _ _ (go_moneyOf (M := A) hv hr hr2 ?_)
    exact hK _ _ _ _ _ (go_bus (h119 _ ih) ⟨rfl, rfl, rfl, rfl, rfl, rfl, rfl, trivial⟩)
  · refine go_step [] 60 ?_; intro G K hG hK
    refine ⟨fun _ => h, fun (z : ¬ A.1 44 0 36 ≤ nI n) => ?_⟩
    rw [he] at z; exact absurd (Int32.le_refl _) z
theorem go_mcount {x : Int32} (hW : WM ns nc M) (h : Q (rJ (mCnt M nc x)) (mk (t0 M))) : Gm Γ M_X7_count [vr 44 0, vi x] (mk M) Q := by
  have hlc := hW.lc
  have vs : ∀ k, k < 5 → vp_in (nI k) 5 := fun k hk => vp_in_nI hk (by decide)
  refine gm_step [118] 60 ?_; intro G K hG hK
  refine ⟨⟨fun (g : x = 0) => ?_, fun (g : x = 1) => ?_, fun (g : x = 2) => ?_, fun (g : x = 3) => ?_, fun (g : x = 4) => ?_, fun (g : x = 5) => ?_, fun (g : x = 6) => ?_, fun (g : x = 7) => ?_, fun (g : x = 8) => ?_, fun (g : x = 9) => ?_, fun (g : x = 10) => ?_, fun (g : x = 11) => ?_, trivial⟩, fun (g : x.toInt < 0 ∨ ((11 : Nat) : Int) < x.toInt) => ?_⟩
  · subst g; exact h
  · subst g; exact h
  · subst g; exact h
  · subst g; exact h
  · subst g; exact ⟨vs 0 (by decide), h⟩
  · subst g; exact ⟨vs 1 (by decide), h⟩
  · subst g; exact ⟨vs 2 (by decide), h⟩
  · subst g
    have h : Q (rJ (mCarr M nc)) (mk (t0 M)) := h
    refine hK _ _ _ _ _ (go_bus (lv' := [(4, vi (nI 0)), (2, vj (mCarr M 0)), (0, vr 44 0)]) ?_ ⟨rfl, rfl, rfl, trivial⟩)
    refine loop_up (P := fun i => Go Γ M_X7_count 118 [(4, vi (nI i)), (2, vj (mCarr M i)), (0, vr 44 0)] [] (mk (t0 M)) (0, 0) Q) (n := nc) (fun i hi ih => ?_) ?_
    · have ec : cl (nI i) = i := nI_clamp (by omega)
      refine go_step [118] 60 ?_; intro G K hG hK
      refine ⟨fun (z : M.1 44 0 26 ≤ nI i) => ?_, fun _ => ?_⟩
      · rw [hW.n26] at z; exact absurd z (nI_ge hi (by omega))
      refine ⟨in12 (n := i) (by omega) rfl, ?_⟩
      exact hK _ _ _ _ _ (go_bus ih ⟨lvi (nI_1 i), lvj (by show mCarr M i + (M.1 56 0 (cl (nI i))).toInt64 = _; rw [ec]; rfl), rfl, trivial⟩)
    · refine go_step [] 60 ?_; intro G K hG hK
      refine ⟨fun _ => h, fun (z : ¬ M.1 44 0 26 ≤ nI nc) => ?_⟩
      rw [hW.n26] at z; exact absurd (Int32.le_refl _) z
  · subst g; exact ⟨vs 3 (by decide), h⟩
  · subst g; exact h
  · subst g; exact ⟨vs 4 (by decide), h⟩
  · subst g; exact h
  · unfold mCnt at h
    rw [if_neg (show ¬ x = 0 from tsw (k := 0) g (by decide) (by decide)), if_neg (show ¬ x = 1 from tsw (k := 1) g (by decide) (by decide)), if_neg (show ¬ x = 2 from tsw (k := 2) g (by decide) (by decide)), if_neg (show ¬ x = 3 from tsw (k := 3) g (by decide) (by decide)), if_neg (show ¬ x = 4 from tsw (k := 4) g (by decide) (by decide)), if_neg (show ¬ x = 5 from tsw (k := 5) g (by decide) (by decide)), if_neg (show ¬ x = 6 from tsw (k := 6) g (by decide) (by decide)), if_neg (show ¬ x = 7 from tsw (k := 7) g (by decide) (by decide)), if_neg (show ¬ x = 8 from tsw (k := 8) g (by decide) (by decide)), if_neg (show ¬ x = 9 from tsw (k := 9) g (by decide) (by decide)), if_neg (show ¬ x = 10 from tsw (k := 10) g (by decide) (by decide)), if_neg (show ¬ x = 11 from tsw (k := 11) g (by decide) (by decide))] at h
    exact h
theorem go_mfeed_no {a b c d e : Int32} (hl : M.1 44 0 44 = nI n) (hn : n ≤ 400) (hb : 380 < n) (h : Q (rI (-1)) (mk (t0 M))) : Gm Γ M_X7_feed [vr 44 0, vi a, vi b, vi c, vi d, vi e] (mk M) Q := by
  refine gm_step [] 60 ?_; intro G K hG hK
  refine ⟨fun (g : M.1 44 0 44 + 20 ≤ 400) => ?_, fun _ => h⟩
  rw [hl, show (20 : Int32) = nI 20 from rfl, nI_add, show (400 : Int32) = nI 400 from rfl, nI_leI (by omega) (by omega)] at g
  omega
theorem go_mfeed {a b c d e : Int32} (hl : M.1 44 0 44 = nI n) (hb : n ≤ 380) (h : ∀ M', Fr pFeedM M M' → M'.1 44 0 0 = 0 → M'.1 44 0 44 = nI (n + 20) → M'.1 81 0 = fedK (M.1 81 0) n (fb a b c d e) 20 → Q (rI (nI (n + 20))) (mk M')) : Gm Γ M_X7_feed [vr 44 0, vi a, vi b, vi c, vi d, vi e] (mk M) Q := by
  refine gm_step [60] 60 ?_; intro G K hG hK
  refine ⟨fun _ => ?_, fun (g : ¬ M.1 44 0 44 + 20 ≤ 400) => ?_⟩
  rotate_left
  · rw [hl, show (20 : Int32) = nI 20 from rfl, nI_add, show (400 : Int32) = nI 400 from rfl, nI_leI (by omega) (by omega)] at g
    omega
  have v5 : ∀ k, k < 5 → vp_in (nI k) 5 := fun k hk => vp_in_nI hk (by decide)
  refine ⟨v5 0 (by decide), v5 1 (by decide), v5 2 (by decide), v5 3 (by decide), v5 4 (by decide), ?_⟩
  have key : ∀ m k (A : MM), k + m = 20 → Fr pFeedM M A → A.1 44 0 0 = 0 → A.1 44 0 44 = nI n → (∀ j, j < 5 → A.1 82 0 j = fiv a b c d e j) → A.1 81 0 = fedK (M.1 81 0) n (fb a b c d e) k → Go Γ M_X7_feed 60 [(6, vi (nI k)), (0, vr 44 0)] [] (mk A) (0, 0) Q := by
    intro m
    induction m with
    | zero =>
      intro k A hk fA h0 h44 h82 h81
      rw [show k = 20 by omega] at h81
      refine go_step [60] 60 ?_; intro G K hG hK
      refine ⟨fun _ => ?_, fun (z : ¬ nI 20 ≤ nI k) => ?_⟩
      · have e20 : nI (n + 20) = A.1 44 0 44 + 20 := by rw [h44, show (20 : Int32) = nI 20 from rfl, nI_add]
        have h := h (uI A 44 0 44 (A.1 44 0 44 + 20)) (fA.trans (Fr.u (Or.inr (Or.inr ⟨rfl, Or.inl rfl⟩)))) h0 e20.symm h81
        rw [e20] at h
        exact h
      · rw [show k = 20 by omega] at z; exact absurd (Int32.le_refl _) z
    | succ m ih =>
      intro k A hk fA h0 h44 h82 h81
      have ed : nI k / 4 = nI (k / 4) := by rw [show (4 : Int32) = nI 4 from rfl]; exact pk_div (by omega) (by decide) (by decide)
      have er' : nI k - nI k / 4 * 4 = nI (k % 4) := by rw [show (4 : Int32) = nI 4 from rfl]; exact pk_rem (by omega) (by decide) (by decide)
      have v1 : vp_in (A.1 44 0 44 + nI k) 400 := by rw [h44, nI_add]; exact vp_in_nI (by omega) (by decide)
      have c1 : cl (A.1 44 0 44 + nI k) = n + k := by rw [h44, nI_add]; exact nI_clamp (by omega)
      have v2 : vp_in (nI k / 4) 5 := by rw [ed]; exact vp_in_nI (by omega) (by decide)
      have c2 : cl (nI k / 4) = k / 4 := by rw [ed]; exact nI_clamp (by omega)
      have ev : byt (A.1 82 0 (cl (nI k / 4))) (24 - 8 * (nI k - nI k / 4 * 4)) = fb a b c d e k := by rw [c2, er', h82 _ (by omega)]; rfl
      refine go_step [60] 60 ?_; intro G K hG hK
      refine ⟨fun (z : nI 20 ≤ nI k) => absurd z (nI_ge (by omega) (by decide)), fun _ => ?_⟩
      refine ⟨by decide, v2, by decide, v1, ?_⟩
      have h2 := ih (k + 1) (uI A 81 0 (cl (A.1 44 0 44 + nI k)) (byt (A.1 82 0 (cl (nI k / 4))) (24 - 8 * (nI k - nI k / 4 * 4)))) (by omega) (fA.trans (Fr.u (Or.inl rfl))) h0 h44 h82 (by
        funext j
        rw [c1, ev, uI_1, h81]
        unfold fedK
        by_cases y : j = n + k
        · rw [if_pos ⟨rfl, rfl, y⟩, if_pos (by omega), y, show n + k - n = k by omega]
        · rw [if_neg (fun z => y z.2.2)]
          by_cases y2 : n ≤ j ∧ j < n + k
          · rw [if_pos y2, if_pos (by omega)]
          · rw [if_neg y2, if_neg (by omega)])
      exact hK _ _ _ _ _ (go_bus h2 ⟨lvi (nI_1 k), rfl, trivial⟩)
  refine hK _ _ _ _ _ (go_bus (key 20 0 (uI (uI (uI (uI (uI (t0 M) 82 0 0 a) 82 0 1 b) 82 0 2 c) 82 0 3 d) 82 0 4 e) (by omega) ((((((Fr.u (Or.inr (Or.inr ⟨rfl, Or.inr rfl⟩))).trans (Fr.u (Or.inr (Or.inl rfl)))).trans (Fr.u (Or.inr (Or.inl rfl)))).trans (Fr.u (Or.inr (Or.inl rfl)))).trans (Fr.u (Or.inr (Or.inl rfl)))).trans (Fr.u (Or.inr (Or.inl rfl)))) rfl hl (fun j hj => ?_) ?_) ⟨rfl, rfl, trivial⟩)
  · rcases (show j = 0 ∨ j = 1 ∨ j = 2 ∨ j = 3 ∨ j = 4 by omega) with rfl | rfl | rfl | rfl | rfl <;> rfl
  · funext j
    unfold fedK
    rw [if_neg (by omega)]
    rfl
end MFA2
