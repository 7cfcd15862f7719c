/-! Calls into the library; constants out of the pools. -/
theorem natOk_spec {mi : Nat} {cnt : Nat × Nat} {r : List MV} (h : natOk mi cnt r = true) : sumC r ≤ 8 ∧ sumC r + 18 ≤ mLo mi ∧ 1 ≤ mFr mi ∧ cnt.1 ≤ mMc mi ∧ cnt.2 ≤ mMs mi := by
  unfold natOk at h
  simp only [Bool.and_eq_true] at h
  exact ⟨Nat.le_of_ble_eq_true h.1, Nat.le_of_ble_eq_true h.2.1, Nat.le_of_ble_eq_true h.2.2.1, Nat.le_of_ble_eq_true h.2.2.2.1, Nat.le_of_ble_eq_true h.2.2.2.2⟩
section SNL
variable {Γ : GG} {mi pc : Nat} {lv : LV} {r : List MV} {σ : Mem} {cnt : Nat × Nat} {Q : Out → Mem → Prop}
theorem so_max {idx na : Nat} {x y : Int32} (hm : mi < 163) (hd : decode (mCode mi) pc = .ok (.invokestatic idx, 3)) (hf : look2 calL (mOwnNo mi) idx = some (26, 0, na)) (hok : natOk mi cnt r = true) (h : Go Γ mi (pc + 3) lv (.inl (.int (if x < y then y else x)) :: r) σ cnt Q) : Go Γ mi pc lv (.inl (.int y) :: .inl (.int x) :: r) σ cnt Q := by
  intro n0 p e s m args below meth c H locs ls hn M hl hW hS hlv hst h1
  obtain ⟨k1, k2, k3, k4, k5⟩ := natOk_spec hok
  have w := M.2.2.2.2.2.1
  exact va_mmax M.1 M.2.1 (M.2.2.1.trans hl.1.symm) M.2.2.2.2.1 (w _ (by rw [mOwn_eq mi hm]; exact (lib_words hf (Or.inl rfl)).1)) (w _ (math_w _ (by simp))) (w _ (math_w _ (by simp))) (w _ (math_w _ (by simp))) k3 (by rw [sumC_cat]; show _ ≤ mLo mi; omega) k4 k5 hd (h n0 p e s m args below meth c H locs ls hn M hl hW hS hlv (okS_cons okV_int (okS_tl (okS_tl hst))) h1)
theorem so_min {idx na : Nat} {x y : Int32} (hm : mi < 163) (hd : decode (mCode mi) pc = .ok (.invokestatic idx, 3)) (hf : look2 calL (mOwnNo mi) idx = some (26, 1, na)) (hok : natOk mi cnt r = true) (h : Go Γ mi (pc + 3) lv (.inl (.int (if y < x then y else x)) :: r) σ cnt Q) : Go Γ mi pc lv (.inl (.int y) :: .inl (.int x) :: r) σ cnt Q := by
  intro n0 p e s m args below meth c H locs ls hn M hl hW hS hlv hst h1
  obtain ⟨k1, k2, k3, k4, k5⟩ := natOk_spec hok
  have w := M.2.2.2.2.2.1
  exact va_mmin M.1 M.2.1 (M.2.2.1.trans hl.1.symm) M.2.2.2.2.1 (w _ (by rw [mOwn_eq mi hm]; exact (lib_words hf (Or.inl rfl)).1)) (w _ (math_w _ (by simp))) (w _ (math_w _ (by simp))) (w _ (math_w _ (by simp))) k3 (by rw [sumC_cat]; show _ ≤ mLo mi; omega) k4 k5 hd (h n0 p e s m args below meth c H locs ls hn M hl hW hS hlv (okS_cons okV_int (okS_tl (okS_tl hst))) h1)
theorem so_minL {idx na : Nat} {x y : Int64} (hm : mi < 163) (hd : decode (mCode mi) pc = .ok (.invokestatic idx, 3)) (hf : look2 calL (mOwnNo mi) idx = some (26, 2, na)) (hok : natOk mi cnt r = true) (h : Go Γ mi (pc + 3) lv (.inl (.long (if y < x then y else x)) :: r) σ cnt Q) : Go Γ mi pc lv (.inl (.long y) :: .inl (.long x) :: r) σ cnt Q := by
  intro n0 p e s m args below meth c H locs ls hn M hl hW hS hlv hst h1
  obtain ⟨k1, k2, k3, k4, k5⟩ := natOk_spec hok
  have w := M.2.2.2.2.2.1
  exact va_mmin_long M.1 M.2.1 (M.2.2.1.trans hl.1.symm) M.2.2.2.2.1 (w _ (by rw [mOwn_eq mi hm]; exact (lib_words hf (Or.inl rfl)).1)) (w _ (math_w _ (by simp))) (w _ (math_w _ (by simp))) (w _ (math_w _ (by simp))) k3 (by rw [sumC_cat]; show _ ≤ mLo mi; omega) k4 k5 hd (h n0 p e s m args below meth c H locs ls hn M hl hW hS hlv (okS_cons okV_long (okS_tl (okS_tl hst))) h1)
theorem so_objInit {idx b na t i : Nat} (hm : mi < 163) (hd : decode (mCode mi) pc = .ok (.invokespecial idx, 3)) (hf : look2 calL (mOwnNo mi) idx = some (37, b, na)) (hlo : sumC r + 12 ≤ mLo mi) (hfr : 1 ≤ mFr mi) (h : Go Γ mi (pc + 3) lv r σ cnt Q) : Go Γ mi pc lv (.inr (t, i) :: r) σ cnt Q := by
  intro n0 p e s m args below meth c H locs ls hn M hl hW hS hlv hst h1
  have w := M.2.2.2.2.2.1
  refine W.objInit M.1 M.2.1 M.2.2.2.2.1 (w _ (by rw [mOwn_eq mi hm]; exact (lib_words hf (Or.inr (Or.inr rfl))).1)) (w _ (math_w _ (by simp))) (w _ (math_w _ (by simp))) rfl (hl.1.trans M.2.2.1.symm) rfl hd hfr ?_ (h n0 p e s m args below meth c H locs ls hn M hl hW hS hlv (okS_tl hst) h1)
  show 2 * 0 + _ + 12 ≤ mLo mi
  rw [sumC_cat]
  omega
theorem so_ldcI {idx s9 : Nat} {v : Int} (hm : mi < 163) (hd : decode (mCode mi) pc = .ok (.ldc idx, 2) ∨ decode (mCode mi) pc = .ok (.ldc_w idx, 3)) {n : Nat} (hn9 : (decode (mCode mi) pc = .ok (.ldc idx, 2) → n = pc + 2) ∧ (decode (mCode mi) pc = .ok (.ldc_w idx, 3) → n = pc + 3)) (hf : look2 ldcL (mOwnNo mi) idx = some (0, v, s9)) (h : Go Γ mi n lv (.inl (.int (Int32.ofInt v)) :: r) σ cnt Q) : Go Γ mi pc lv r σ cnt Q := by
  intro n0 p e s m args below meth c H locs ls hn M hl hW hS hlv hst h1
  have hw : (Cond.constant (mOwn mi) idx (Int32.ofInt v)).before args s = true := M.2.2.2.2.2.1 _ (by
    rw [mOwn_eq mi hm]
    rcases ldc_kind hf with q | q | q
    · exact q.2
    · cases q.1
    · cases q)
  rcases hd with hd | hd
  · have e := hn9.1 hd
    subst e
    exact lv_ldc M.1 M.2.1 M.2.2.2.2.1 hw hd (h n0 p e s m args below meth c H locs ls hn M hl hW hS hlv (okS_cons okV_int hst) h1)
  · have e := hn9.2 hd
    subst e
    exact lv_ldcw M.1 M.2.1 M.2.2.2.2.1 hw hd (h n0 p e s m args below meth c H locs ls hn M hl hW hS hlv (okS_cons okV_int hst) h1)
theorem so_ldcL {idx s9 : Nat} {v : Int} (hm : mi < 163) (hd : decode (mCode mi) pc = .ok (.ldc2_w idx, 3)) (hf : look2 ldcL (mOwnNo mi) idx = some (1, v, s9)) (h : Go Γ mi (pc + 3) lv (.inl (.long (Int64.ofInt v)) :: r) σ cnt Q) : Go Γ mi pc lv r σ cnt Q := by
  intro n0 p e s m args below meth c H locs ls hn M hl hW hS hlv hst h1
  have hw : (Cond.constantLong (mOwn mi) idx (Int64.ofInt v)).before args s = true := M.2.2.2.2.2.1 _ (by
    rw [mOwn_eq mi hm]
    rcases ldc_kind hf with q | q | q
    · cases q.1
    · exact q.2
    · cases q)
  exact lv_ldc2 M.1 M.2.1 M.2.2.2.2.1 hw hd (h n0 p e s m args below meth c H locs ls hn M hl hW hS hlv (okS_cons okV_long hst) h1)
theorem so_ldcS {idx s9 : Nat} {v : Int} (hm : mi < 163) (hne7 : (!Nat.beq (mOwnNo mi) 7) = true) (hd : decode (mCode mi) pc = .ok (.ldc idx, 2)) (hf : look2 ldcL (mOwnNo mi) idx = some (33, v, s9)) (h : Go Γ mi (pc + 2) lv (.inr (200, s9) :: r) σ cnt Q) : Go Γ mi pc lv r σ cnt Q := by
  intro n0 p e s m args below meth c H locs ls hn M hl hW hS hlv hst h1
  have F := M.2.2.2.2.2.2.2.2
  have hstr := F.2.2.2.2.1 _ (look2_mem hf) rfl
  have hs7 : sT (mOwnNo mi) = 200 := by
    unfold sT
    cases hb : Nat.beq (mOwnNo mi) 7 with
    | false => rfl
    | true => rw [hb] at hne7; cases hne7
  rw [show sT ((mOwnNo mi, idx), 33, v, s9).1.1 = sT (mOwnNo mi) from rfl, hs7] at hstr
  refine va_ldcS M.1 M.2.1 (own := mOwn mi) M.2.2.2.2.1 (by rw [mOwn_eq mi hm]; exact hstr) hd ?_
  exact h n0 p e s m args below meth c H locs ls hn M hl hW hS hlv (okS_cons (fun hq => absurd hq (by show ¬ (200 < 85); omega)) hst) h1
end SNL
