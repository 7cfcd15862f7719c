/-! No money is shared as nothing; losses are paid alike. -/
section LOSS
variable {A B : MM} {c e r : Nat}
theorem cPart_0 (k : Int32) : cPart A c 0 k = 0 := by
  unfold cPart
  split
  · rw [Int64.zero_mul, Int64.zero_div]
  · rfl
theorem cRest_0 : ∀ n, cRest A c 0 n = 0
  | 0 => rfl
  | n + 1 => by unfold cRest; rw [cRest_0 n, cPart_0]; rfl
theorem cShares_0 {d : Int32} : cShares A c 0 d = A := by
  unfold cShares
  rw [cRest_0]
  generalize cl (A.1 25 c 0) = n
  have key : ∀ n, rep (cShr1 c 0 0 d) n A = A := by
    intro n
    induction n with
    | zero => rfl
    | succ n ih =>
      show cShr1 c 0 0 d n (rep (cShr1 c 0 0 d) n A) = A
      rw [ih]
      unfold cShr1 cWrite
      rw [cPart_0, if_pos]
      split <;> rfl
  exact key n
theorem rLe.loss {o : Int32} (h : rLe e r A B) (ht : B.1 44 0 1 = A.1 0 0 13) (hc : c < 12) (hnum : A.1 15 c 0 = nI c) (hd : rDe 25 70 c A B) : ∃ e', e ≤ e' ∧ rLe e' r (cLoss A c o (A.1 0 0 13)) (mLoss (nI c) B o) := by
  have c9 : cl (9 * nI c) = 9 * c := by rw [show (9 : Int32) = nI 9 from rfl, pk_mul]; exact nI_clamp (by omega)
  have c7 : cl (9 * nI c + 7) = 9 * c + 7 := (v108 (c := c) (k := 7) (x := nI c) (y := 7) hc (by decide) rfl rfl).2
  have c8 : cl (9 * nI c + 8) = 9 * c + 8 := (v108 (c := c) (k := 8) (x := nI c) (y := 8) hc (by decide) rfl rfl).2
  unfold cLoss mLoss
  rw [c9, c7, c8, hnum]
  rcases hd with ⟨b0, a0, a3, a4, -, -⟩ | ⟨l, q, hok, h1, hl3, hpos, hw, hq, ⟨a0, a3, a4, a5, aw⟩, b0, b7, b8, bw⟩
  · rw [if_pos a4, if_pos (by rw [b0]; decide)]
    exact ⟨e, Nat.le_refl _, h⟩
  · have hb : ¬ B.1 70 0 (9 * c) ≤ 0 := by rw [b0]; exact nI_nle (by omega) (by omega)
    rw [if_neg hb, a4, b7]
    by_cases g : q.1 = -1
    · rw [if_pos g, if_pos (by rw [g]; decide)]
      exact ⟨e, Nat.le_refl _, h⟩
    · have hnn : ¬ q.1 < 0 := by
        rcases hq with y | y | y | y
        · exact absurd y g
        · rw [y]; decide
        · rw [y]; decide
        · rw [y]; decide
      rw [if_neg g, if_neg hnn, a5 g, b8 g, Int32.neg_mul, Int32.neg_mul, Int32.mul_comm o]
      exact h.write ht
end LOSS
