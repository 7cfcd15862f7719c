/-! Money is shared alike. -/
theorem part_eq {m w s : Nat} (hm : m ≤ 2000000) (hw : w ≤ 99) (h0 : 0 < s) (hs : s ≤ 297) : (lN m * lN w / lN s).toInt32 = nI m * nI w / nI s := by
  have hmw : m * w ≤ 198000000 := by
    calc m * w ≤ 2000000 * 99 := Nat.mul_le_mul hm hw
      _ = 198000000 := rfl
  rw [lN_mul, pk_lDiv (by omega) h0 (by omega), lN_i, pk_mul, pk_div (by omega) h0 (by omega)]
section SHAR
variable {A B : MM} {c e r m s : Nat}
theorem cPart_eq {k w : Nat} (hk : k < 3) (hA : A.1 27 c k = nI w) (h3 : A.1 25 c 3 = nI s) (h0 : 0 < s) (hs : s ≤ 297) (hw : w ≤ 99) : cPart A c (lN m) (nI k) = lN m * lN w / lN s := by
  unfold cPart
  rw [h3, if_pos (show 0 < nI s from nI_lt (a := 0) h0 (by omega)), show cl (nI k) = k from nI_clamp (by omega), hA, nI_l (by omega), nI_l (by omega)]
theorem rest_eq (hc : c < 12) (hm : m ≤ 2000000) (h3 : A.1 25 c 3 = nI s) (h0 : 0 < s) (hs : s ≤ 297) : ∀ n, n ≤ 3 → (∀ k, k < n → ∃ w, w ≤ 99 ∧ A.1 27 c k = nI w ∧ B.1 70 0 (9 * c + 4 + k) = nI w) → (cRest A c (lN m) n).toInt32 = mRst B (nI c) (nI m) (nI s) n
  | 0, _, _ => lN_i m
  | n + 1, hn, h => by
    obtain ⟨w, hw, hA, hB⟩ := h n (by omega)
    unfold cRest mRst
    rw [Int64.toInt32_sub, rest_eq hc hm h3 h0 hs n (by omega) (fun k hk => h k (by omega)), cPart_eq (by omega) hA h3 h0 hs hw, part_eq hm hw h0 hs, show (4 : Int32) = nI 4 from rfl, (v9a hc rfl (by omega)).2, hB]
/-- the same shares are written -/
theorem rLe.shr {n : Nat} (h : rLe e r A B) (ht : B.1 44 0 1 = A.1 0 0 13) (hc : c < 12) (hnum : A.1 15 c 0 = nI c) (hm : m ≤ 2000000) (h3 : A.1 25 c 3 = nI s) (h0 : 0 < s) (hs : s ≤ 297)
    {R : Int64} (hw : ∀ k, k < n → ∃ w, w ≤ 99 ∧ A.1 27 c k = nI w ∧ B.1 70 0 (9 * c + 4 + k) = nI w ∧ A.1 26 c k = B.1 70 0 (9 * c + 1 + k)) (hn : n ≤ 3) : ∀ j, j ≤ n → ∃ e', e ≤ e' ∧ rLe e' r (rep (cShr1 c (lN m) R (A.1 0 0 13)) j A) (rep (mPay1 (nI c) (nI m) (nI s) R.toInt32) j B)
  | 0, _ => ⟨e, Nat.le_refl _, h⟩
  | j + 1, hj => by
    obtain ⟨e1, he1, h1⟩ := rLe.shr h ht hc hnum hm h3 h0 hs hw hn j (by omega)
    have fA : Fr pE A (rep (cShr1 c (lN m) R (A.1 0 0 13)) j A) := Fr.rep (fr_shr1 c (lN m) R (A.1 0 0 13)) j A
    have fB : Fr pMW B (rep (mPay1 (nI c) (nI m) (nI s) R.toInt32) j B) := Fr.rep (fr_mPay1 (nI c) (nI m) (nI s) R.toInt32) j B
    obtain ⟨w, hw1, hA, hB, hP⟩ := hw j (by omega)
    show ∃ e', e ≤ e' ∧ rLe e' r (cShr1 c (lN m) R (A.1 0 0 13) j (rep (cShr1 c (lN m) R (A.1 0 0 13)) j A)) (mPay1 (nI c) (nI m) (nI s) R.toInt32 j (rep (mPay1 (nI c) (nI m) (nI s) R.toInt32) j B))
    generalize rep (cShr1 c (lN m) R (A.1 0 0 13)) j A = A1 at h1 fA ⊢
    generalize rep (mPay1 (nI c) (nI m) (nI s) R.toInt32) j B = B1 at h1 fB ⊢
    have t1 : A1.1 0 0 13 = A.1 0 0 13 := fA.2 0 0 13 (by unfold pE; omega)
    have t2 : B1.1 44 0 1 = A1.1 0 0 13 := by rw [t1, fB.2 44 0 1 (by unfold pMW; omega), ht]
    have q15 : A1.1 15 c 0 = nI c := (fA.2 15 c 0 (by unfold pE; omega)).trans hnum
    have q26 : A1.1 26 c j = B.1 70 0 (9 * c + 1 + j) := (fA.2 26 c j (by unfold pE; omega)).trans hP
    have q27 : A1.1 27 c j = nI w := (fA.2 27 c j (by unfold pE; omega)).trans hA
    have q25 : A1.1 25 c 3 = nI s := (fA.2 25 c 3 (by unfold pE; omega)).trans h3
    have q70 : ∀ i, B1.1 70 0 i = B.1 70 0 i := fun i => fB.2 70 0 i (by unfold pMW; omega)
    unfold cShr1 mPay1
    rw [q15, q26, cPart_eq (by omega) q27 q25 h0 hs hw1, q70, q70, show (4 : Int32) = nI 4 from rfl, show (1 : Int32) = nI 1 from rfl, (v9a (a := 4) (k := j) hc rfl (by omega)).2, (v9a (a := 1) (k := j) hc rfl (by omega)).2, hB, Int64.toInt32_add, part_eq hm hw1 h0 hs, ← t1]
    have ei : (if nI j = 0 then R else 0).toInt32 = if nI j = 0 then R.toInt32 else 0 := by split <;> rfl
    rw [ei]
    obtain ⟨e2, he2, h2⟩ := h1.write (x := nI c) (p := B.1 70 0 (9 * c + 1 + j)) (m := nI m * nI w / nI s + if nI j = 0 then R.toInt32 else 0) t2
    exact ⟨e2, by omega, h2⟩
end SHAR
