/-! Rows that are still owed: what makes objects, the texts' length and charAt, the fourth exception, a text by a wide entry. -/
section SNO
variable {Γ : GG} {mi pc : Nat} {lv : LV} {r : List MV} {σ : Mem} {cnt : Nat × Nat} {Q : Out → Mem → Prop}
theorem so_multi {idx b t : Nat} {y z : Int32} (hm : mi < 163) (hd : decode (mCode mi) pc = .ok (.multianewarray idx 2, 4)) (hf : look2 aneL (mOwnNo mi) idx = some b) (hσ : σ.1 = some (ordT t 0)) (ht : t = 31 ∨ t = 33) (hz : z = 12) (hy : y = 12) (hc : cnt.1 + 13 ≤ mMc mi) (hs : cnt.2 + 156 ≤ mMs mi) (h : Go Γ mi (pc + 4) lv (.inr (t, 0) :: r) (pN (pM σ t 12) (some (ordT t 0 + 13))) (cnt.1 + 1 + 12, cnt.2 + 12 + 12 * 12) Q) : Go Γ mi pc lv (.inl (.int y) :: .inl (.int z) :: r) σ cnt Q := by
  sorry
theorem so_strlen {idx na s9 u : Nat} (hu : u = 200 ∨ u = 202) (hm : mi < 163) (hd : decode (mCode mi) pc = .ok (.invokevirtual idx, 3)) (hf : look2 calL (mOwnNo mi) idx = some (34, 0, na)) (h9 : s9 < 28) (hfr : 5 ≤ mFr mi) (hlo : 110 ≤ mLo mi) (hok : natOk mi cnt r = true) (h : Go Γ mi (pc + 3) lv (.inl (.int (nI (strB.getD s9 []).length)) :: r) σ cnt Q) : Go Γ mi pc lv (.inr (u, s9) :: r) σ cnt Q := by
  sorry
theorem so_charAt {idx na s9 u : Nat} {j : Int32} (hu : u = 200 ∨ u = 202) (hm : mi < 163) (hd : decode (mCode mi) pc = .ok (.invokevirtual idx, 3)) (hf : look2 calL (mOwnNo mi) idx = some (34, 1, na)) (h9 : s9 < 28) (hfr : 5 ≤ mFr mi) (hlo : 110 ≤ mLo mi) (hok : natOk mi cnt r = true) (hj : vp_in j (strB.getD s9 []).length) (h : Go Γ mi (pc + 3) lv (.inl (.int ((strB.getD s9 []).getD j.toNatClampNeg 0)) :: r) σ cnt Q) : Go Γ mi pc lv (.inl (.int j) :: .inr (u, s9) :: r) σ cnt Q := by
  sorry
theorem so_throwN {ik is ic sno na : Nat} {v : Int} (hm : mi < 163) (hne : mi ≠ 162) (ho : mOwnNo mi = 6) (hfr : 6 ≤ mFr mi) (hlo : 96 ≤ mLo mi) (hh : mHh mi = [])
    (d0 : decode (mCode mi) pc = .ok (.new ik, 3)) (hnew : look2 newL 6 ik = some (32, 3)) (d3 : decode (mCode mi) (pc + 3) = .ok (.dup, 1)) (hldc : look2 ldcL 6 is = some (33, v, sno)) (hcal : look2 calL 6 ic = some (38, 3, na))
    (d4 : (decode (mCode mi) (pc + 4) = .ok (.ldc is, 2) ∧ decode (mCode mi) (pc + 6) = .ok (.invokespecial ic, 3) ∧ decode (mCode mi) (pc + 9) = .ok (.athrow, 1)) ∨ (decode (mCode mi) (pc + 4) = .ok (.ldc_w is, 3) ∧ decode (mCode mi) (pc + 7) = .ok (.invokespecial ic, 3) ∧ decode (mCode mi) (pc + 10) = .ok (.athrow, 1)))
    (hn9 : σ.1 = none) (hr : sumC r ≤ 8) (hc : cnt.1 + 1 ≤ mMc mi) (hs : cnt.2 + 6 ≤ mMs mi) (hq : Q (.inr 3) σ) : Go Γ mi pc lv r σ cnt Q := by
  sorry
end SNO
