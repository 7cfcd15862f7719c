/-! What slabs bring: the class's formula and the reference's loop give the same. -/
theorem mx0_sub {t d : Nat} (ht : t < 2 ^ 30) (hd : d < 2 ^ 31) : mx0 (nI t - nI d) = nI (t - d) := by
  unfold mx0
  rcases Nat.lt_or_ge d t with h | h
  · rw [pk_sub (by omega), if_pos]
    have := nI_lt (a := 0) (b := t - d) (by omega) (by omega)
    exact this
  · rw [Nat.sub_eq_zero_of_le h, if_neg]
    · rfl
    · rw [Int32.not_lt, Int32.le_iff_toInt_le, Int32.toInt_sub, nI_toInt (by omega), nI_toInt hd]
      have e0 : (0 : Int32).toInt = 0 := rfl
      rw [e0]
      show Int.bmod ((t : Int) - (d : Int)) (2 ^ 32) ≤ 0
      rw [Int.bmod_eq_of_le (by omega) (by omega)]
      omega
section MON2
variable {A B : MM} {s t f k : Nat}
theorem cFirst_eq {x : Nat} (h5 : A.1 13 s 5 = nI t) (h6 : A.1 13 s 6 = nI f) (ht : t ≤ 1000) (hf : 1 ≤ f ∧ f ≤ 100) (hx : x < 2 ^ 32) : cFirst A s (lN x) = lN (gsum t f x) := by
  have hf0 : 0 < f := hf.1
  unfold cFirst
  rw [h5, h6, if_pos (show 0 < nI f from nI_lt (a := 0) hf0 (by omega)), nI_l (by omega), nI_l (by omega)]
  have htf : t * f ≤ 100000 := by
    calc t * f ≤ 1000 * 100 := Nat.mul_le_mul ht hf.2
      _ = 100000 := rfl
  have hp : (if lN t * lN f < lN x then lN t * lN f else lN x) = lN (min x (t * f)) := by
    rw [lN_mul]
    by_cases g : t * f < x
    · rw [if_pos ((pk_lLT (by omega) (by omega)).mpr g), Nat.min_eq_right (by omega)]
    · rw [if_neg (fun z => g ((pk_lLT (by omega) (by omega)).mp z)), Nat.min_eq_left (by omega)]
  show lN f * ((if lN t * lN f < lN x then lN t * lN f else lN x) / lN f * lN t - (if lN t * lN f < lN x then lN t * lN f else lN x) / lN f * ((if lN t * lN f < lN x then lN t * lN f else lN x) / lN f - 1) / 2) + ((if lN t * lN f < lN x then lN t * lN f else lN x) - (if lN t * lN f < lN x then lN t * lN f else lN x) / lN f * lN f) * (lN t - (if lN t * lN f < lN x then lN t * lN f else lN x) / lN f) = _
  rw [hp, gsum_min hf0 x, gsum_eq hf0]
  have hm : min x (t * f) ≤ t * f := Nat.min_le_right _ _
  generalize min x (t * f) = y at hm
  have hy : y ≤ 100000 := by omega
  rw [pk_lRem (by omega) hf0 (by omega), pk_lDiv (by omega) hf0 (by omega)]
  have hq : y / f ≤ t := by
    have := Nat.div_le_div_right (c := f) hm
    rw [Nat.mul_div_cancel _ hf0] at this
    exact this
  generalize y / f = q at hq
  have hqq : q * (q - 1) ≤ 1000000 := by
    calc q * (q - 1) ≤ 1000 * 1000 := Nat.mul_le_mul (by omega) (by omega)
      _ = 1000000 := rfl
  have e1 : lN q * (lN q - 1) = lN (q * (q - 1)) := by
    rcases Nat.eq_zero_or_pos q with rfl | hpos
    · rw [Nat.zero_mul]; rfl
    · rw [show (1 : Int64) = lN 1 from rfl, lN_sub hpos, lN_mul]
  have e2 : lN (q * (q - 1)) / 2 = lN (q * (q - 1) / 2) := by
    rw [show (2 : Int64) = lN 2 from rfl]
    exact pk_lDiv (by omega) (by decide) (by decide)
  have hh := hsum_eq (t := t) q hq
  rw [e1, e2, lN_mul, lN_sub (by omega), lN_mul, lN_sub hq, lN_mul, lN_add, show q * t - q * (q - 1) / 2 = hsum t q by omega]
theorem cNext_eq {v : Nat} (h5 : A.1 13 s 5 = nI t) (h6 : A.1 13 s 6 = nI f) (h7 : A.1 13 s 7 = nI k) (ht : t ≤ 1000) (hf : 1 ≤ f ∧ f ≤ 100) (hk : k < 2 ^ 31) (hv : v < 2 ^ 31) : cNext A s (nI v) = lN (gsum t f (k + v) - gsum t f k) := by
  unfold cNext
  rw [h7, nI_l hk, nI_l hv, lN_add, cFirst_eq h5 h6 ht hf (by omega), cFirst_eq h5 h6 ht hf (by omega), lN_sub (gsum_mono k v)]
theorem mIncs_at {j : Nat} (hs : s < 12) (h9 : B.1 49 0 s = nI k) : (mIncs (nI s) j B).1 49 0 s = nI (k + j) ∧ ∀ a b c, ¬ (a = 49 ∧ b = 0 ∧ c = s) → (mIncs (nI s) j B).1 a b c = B.1 a b c := by
  have ec : cl (nI s) = s := nI_clamp (by omega)
  induction j with
  | zero => exact ⟨h9, fun _ _ _ _ => rfl⟩
  | succ j ih =>
    have e : mIncs (nI s) (j + 1) B = uI (mIncs (nI s) j B) 49 0 (cl (nI s)) ((mIncs (nI s) j B).1 49 0 (cl (nI s)) + 1) := rfl
    rw [e, ec]
    refine ⟨?_, fun a b c h => ?_⟩
    · rw [ih.1, nI_1]; exact up3_self
    · rw [uI_1, if_neg h]; exact ih.2 a b c h
theorem mMon_eq (hs : s < 12) (h6 : B.1 46 0 s = nI t) (h7 : B.1 47 0 s = nI f) (h9 : B.1 49 0 s = nI k) (ht : t ≤ 1000) (hf : 1 ≤ f ∧ f ≤ 100) : ∀ v, k + v < 2 ^ 31 → mMon B (nI s) v = nI (gsum t f (k + v) - gsum t f k)
  | 0, _ => by rw [Nat.add_zero, Nat.sub_self]; rfl
  | v + 1, hv => by
    have ec : cl (nI s) = s := nI_clamp (by omega)
    obtain ⟨i1, i2⟩ := mIncs_at (j := v) hs h9
    unfold mMon
    rw [mMon_eq hs h6 h7 h9 ht hf v (by omega)]
    unfold mPrice
    rw [ec, i1, i2 46 0 s (by omega), i2 47 0 s (by omega), h6, h7, pk_div (by omega) hf.1 (by omega)]
    have hd : (k + v) / f ≤ k + v := Nat.div_le_self _ _
    rw [mx0_sub (by omega) (by omega), nI_add]
    congr 1
    have h2 := gsum_mono (t := t) (f := f) k v
    show gsum t f (k + v) - gsum t f k + (t - (k + v) / f) = gsum t f (k + v) + (t - (k + v) / f) - gsum t f k
    omega
end MON2
