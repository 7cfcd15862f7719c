/-! The balance is the same on both sides. -/
section BALA
variable {e r : Nat} {A B : MM} {a p u k : Int32}
theorem bal_eq (h : rLe e r A B) : cSum2 A a p u k (cSum1 A a p u k e) r = mBal B a p u k r e := by
  obtain ⟨⟨he, hr⟩, ⟨a0, b0, a6, b6⟩, h1, h2, h3⟩ := h
  have hT : ∀ n r', mBal B a p u k r' n = sm64 (fun i => if B.1 72 0 i = a ∧ B.1 73 0 i = p ∧ B.1 74 0 i ≤ u ∧ B.1 74 0 i ≤ k then (mMoney B (nI i) k r').toInt64 else 0) n := by
    intro n r'
    induction n with
    | zero => rfl
    | succ n ih =>
      unfold mBal sm64
      rw [ih]
      by_cases g : B.1 72 0 n = a ∧ B.1 73 0 n = p ∧ B.1 74 0 n ≤ u ∧ B.1 74 0 n ≤ k
      · rw [if_pos g, if_pos g]
      · rw [if_neg g, if_neg g, Int64.add_zero]
  have hcnt : ∀ i, i < e → (cCountsB A (nI i) a p u = true ↔ (B.1 72 0 i = a ∧ B.1 73 0 i = p ∧ B.1 74 0 i ≤ u)) := by
    intro i hi
    obtain ⟨y1, y2, y3, -⟩ := h1 i hi
    rw [cCountsB_iff]
    unfold cCounts
    rw [show cl (nI i) = i from nI_clamp (by omega), y1, y2, y3, a0]
    exact ⟨fun z => z.2, fun z => ⟨⟨nI_pos' (by omega), nI_lt hi (by omega)⟩, z⟩⟩
  have h0 : ∀ n, n ≤ e → cSum1 A a p u k n = mBal B a p u k 0 n := by
    intro n
    induction n with
    | zero => intro _; rfl
    | succ n ih =>
      intro hn
      unfold cSum1 mBal
      rw [ih (by omega)]
      obtain ⟨y1, y2, y3, y4, -⟩ := h1 n (by omega)
      have em : mMoney B (nI n) k 0 = B.1 75 0 n := by unfold mMoney; rw [show cl (nI n) = n from nI_clamp (by omega)]
      rw [em, ← y4]
      by_cases g : cCountsB A (nI n) a p u = true ∧ A.1 38 0 n ≤ k
      · have g1 := (hcnt n (by omega)).mp g.1
        rw [if_pos g, if_pos ⟨g1.1, g1.2.1, g1.2.2, by rw [← y3]; exact g.2⟩]
      · rw [if_neg g, if_neg (fun z => g ⟨(hcnt n (by omega)).mpr ⟨z.1, z.2.1, z.2.2.1⟩, by rw [y3]; exact z.2.2.2⟩)]
  rw [h0 e (Nat.le_refl _)]
  have hstep : ∀ n, n ≤ r → cSum2 A a p u k (mBal B a p u k 0 e) n = mBal B a p u k n e := by
    intro n
    induction n with
    | zero => intro _; rfl
    | succ n ih =>
      intro hn
      unfold cSum2
      rw [ih (by omega)]
      obtain ⟨z1, z2, z3, i, hi, z4, z5, z6⟩ := h2 n (by omega)
      have hm : ∀ j, mMoney B (nI j) k (n + 1) = if B.1 76 0 n = nI j ∧ B.1 77 0 n ≤ k then B.1 78 0 n else mMoney B (nI j) k n := fun j => rfl
      have hci := hcnt i hi
      rw [z4, hT e n, hT e (n + 1)]
      by_cases g : A.1 42 0 n ≤ k
      · by_cases g2 : cCountsB A (nI i) a p u = true
        · rw [if_pos ⟨g2, g⟩, z6]
          have g1 := hci.mp g2
          have hk : B.1 74 0 i ≤ k := by rw [← (h1 i hi).2.2.1]; exact Int32.le_trans z5 g
          rw [sm64_up (f := fun i => if B.1 72 0 i = a ∧ B.1 73 0 i = p ∧ B.1 74 0 i ≤ u ∧ B.1 74 0 i ≤ k then (mMoney B (nI i) k n).toInt64 else 0) (g := fun i => if B.1 72 0 i = a ∧ B.1 73 0 i = p ∧ B.1 74 0 i ≤ u ∧ B.1 74 0 i ≤ k then (mMoney B (nI i) k (n + 1)).toInt64 else 0) (j := i) e hi (fun j hj hne => ?_)]
          · congr 1
            show _ = (if _ then _ else _) - (if _ then _ else _)
            rw [if_pos ⟨g1.1, g1.2.1, g1.2.2, hk⟩, if_pos ⟨g1.1, g1.2.1, g1.2.2, hk⟩, hm i, if_pos ⟨by rw [← z1, z4], by rw [← z2]; exact g⟩, mMoney_day (d := k) (d' := A.1 42 0 n) n (fun j hj => ?_)]
            have hd := h3 j n hj (by omega)
            rw [← (h2 j (by omega)).2.1]
            exact ⟨Int32.le_trans hd g, hd⟩
          · show (if _ then _ else _) = (if _ then _ else _)
            rw [hm j, if_neg (fun (y : B.1 76 0 n = nI j ∧ B.1 77 0 n ≤ k) => hne ((nI_eq (by omega) (by omega)).mp (by rw [← y.1, ← z1, z4])))]
        · rw [if_neg (fun y => g2 y.1)]
          refine sm64_congr e (fun j hj => ?_)
          show (if _ then _ else _) = (if _ then _ else _)
          by_cases ej : j = i
          · subst ej
            rw [if_neg (fun y => g2 (hci.mpr ⟨y.1, y.2.1, y.2.2.1⟩)), if_neg (fun y => g2 (hci.mpr ⟨y.1, y.2.1, y.2.2.1⟩))]
          · rw [hm j, if_neg (fun (y : B.1 76 0 n = nI j ∧ B.1 77 0 n ≤ k) => ej ((nI_eq (by omega) (by omega)).mp (by rw [← y.1, ← z1, z4])))]
      · rw [if_neg (fun y => g y.2)]
        refine sm64_congr e (fun j hj => ?_)
        show (if _ then _ else _) = (if _ then _ else _)
        rw [hm j, if_neg (fun (y : B.1 76 0 n = nI j ∧ B.1 77 0 n ≤ k) => g (by rw [z2]; exact y.2))]
  exact hstep r (Nat.le_refl _)
end BALA
