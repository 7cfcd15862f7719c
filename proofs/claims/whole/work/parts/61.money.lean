/-! What slabs bring, in numbers: the sum of prices, and the class's formula by steps. -/
/-- what the first x slabs bring, one by one -/
def gsum (t f : Nat) : Nat → Nat
  | 0 => 0
  | x + 1 => gsum t f x + (t - x / f)
/-- the sum of the first q prices -/
def hsum (t : Nat) : Nat → Nat
  | 0 => 0
  | q + 1 => hsum t q + (t - q)
theorem gsum_eq {t f : Nat} (hf : 0 < f) : ∀ x, gsum t f x = f * hsum t (x / f) + (x % f) * (t - x / f)
  | 0 => by simp [gsum, hsum]
  | x + 1 => by
    unfold gsum
    rw [gsum_eq hf x]
    have hlt := Nat.mod_lt x hf
    have hd := Nat.div_add_mod x f
    by_cases h : x % f + 1 < f
    · have e1 : (x + 1) / f = x / f := by
        rw [Nat.div_eq_iff hf]
        constructor
        · rw [Nat.mul_comm]; omega
        · rw [Nat.mul_comm]; omega
      have e2 : (x + 1) % f = x % f + 1 := by
        have := Nat.div_add_mod (x + 1) f
        rw [e1] at this
        omega
      rw [e1, e2, Nat.add_mul, Nat.one_mul, Nat.add_assoc]
    · have hr : x % f + 1 = f := by omega
      have e1 : (x + 1) / f = x / f + 1 := by
        rw [Nat.div_eq_iff hf]
        have e3 : f * (x / f + 1) = f * (x / f) + f := by rw [Nat.mul_add, Nat.mul_one]
        constructor
        · rw [Nat.mul_comm]; omega
        · rw [Nat.mul_comm]; omega
      have e2 : (x + 1) % f = 0 := by
        have := Nat.div_add_mod (x + 1) f
        rw [e1, Nat.mul_add, Nat.mul_one] at this
        omega
      rw [e1, e2, Nat.zero_mul, Nat.add_zero]
      show f * hsum t (x / f) + x % f * (t - x / f) + (t - x / f) = f * (hsum t (x / f) + (t - x / f))
      rw [Nat.mul_add, Nat.add_assoc]
      congr 1
      have : (x % f + 1) * (t - x / f) = f * (t - x / f) := by rw [hr]
      rw [Nat.add_mul, Nat.one_mul] at this
      exact this
theorem hsum_eq {t : Nat} : ∀ q, q ≤ t → 2 * hsum t q + q * (q - 1) = 2 * (q * t)
  | 0, _ => by simp [hsum]
  | q + 1, h => by
    have ih := hsum_eq (t := t) q (by omega)
    unfold hsum
    have e1 : (q + 1) * (q + 1 - 1) = q * (q - 1) + 2 * q := by
      rw [Nat.add_sub_cancel]
      cases q with
      | zero => rfl
      | succ q =>
        rw [Nat.add_sub_cancel, Nat.mul_comm (q + 1 + 1) (q + 1), show q + 1 + 1 = q + 2 from rfl, Nat.mul_add, Nat.mul_comm (q + 1) 2]
    have e2 : (q + 1) * t = q * t + t := by rw [Nat.add_mul, Nat.one_mul]
    rw [e1, e2]
    omega
/-- behind the last price nothing is brought -/
theorem gsum_top {t f : Nat} (hf : 0 < f) : ∀ d, gsum t f (t * f + d) = gsum t f (t * f)
  | 0 => rfl
  | d + 1 => by
    show gsum t f (t * f + d) + (t - (t * f + d) / f) = _
    have : t ≤ (t * f + d) / f := by rw [Nat.le_div_iff_mul_le hf]; omega
    rw [gsum_top hf d, Nat.sub_eq_zero_of_le this, Nat.add_zero]
theorem gsum_min {t f : Nat} (hf : 0 < f) (x : Nat) : gsum t f x = gsum t f (min x (t * f)) := by
  rcases Nat.le_total x (t * f) with h | h
  · rw [Nat.min_eq_left h]
  · rw [Nat.min_eq_right h]
    obtain ⟨d, rfl⟩ := Nat.le.dest h
    exact gsum_top hf d
theorem gsum_mono {t f : Nat} (x : Nat) : ∀ v, gsum t f x ≤ gsum t f (x + v)
  | 0 => Nat.le_refl _
  | v + 1 => Nat.le_trans (gsum_mono x v) (Nat.le_add_right _ _)
theorem gsum_le {t f : Nat} : ∀ x, gsum t f x ≤ x * t
  | 0 => Nat.zero_le _
  | x + 1 => by
    unfold gsum
    rw [Nat.add_mul, Nat.one_mul]
    exact Nat.add_le_add (gsum_le x) (Nat.sub_le _ _)
/-- what v slabs bring behind k -/
theorem gsum_part {t f k : Nat} : ∀ v, gsum t f (k + v) - gsum t f k ≤ v * t
  | 0 => by rw [Nat.add_zero, Nat.sub_self]; exact Nat.zero_le _
  | v + 1 => by
    have h := gsum_part (t := t) (f := f) (k := k) v
    have h2 := gsum_mono (t := t) (f := f) k v
    show gsum t f (k + v) + (t - (k + v) / f) - gsum t f k ≤ _
    rw [Nat.add_mul, Nat.one_mul]
    have := Nat.sub_le t ((k + v) / f)
    omega
