/-! The words of a throw, of the four exceptions. -/
def exUp : List String := ["java/lang/RuntimeException", "java/lang/Exception"]
def icN (x : Nat) : Nat := bif Nat.beq x 0 then 83 else bif Nat.beq x 1 then 113 else bif Nat.beq x 2 then 93 else 188
def ikN (x : Nat) : Nat := bif Nat.beq x 0 then 79 else bif Nat.beq x 1 then 109 else bif Nat.beq x 2 then 89 else 184
theorem tw_0 : ∀ w ∈ (vx_atS RX6 83 "java/lang/IllegalArgumentException" exUp).filter goodWord, w ∈ lw_tbl := by decide +kernel
theorem tx_0 : ∀ w ∈ (vx_atS RX6 83 "java/lang/IllegalArgumentException" exUp).filter (fun w => !goodWord w), w ∈ ([.castable "java/lang/IllegalArgumentException" "java/lang/IllegalArgumentException", .declares (Bundle.initS "java/lang/RuntimeException"), .declares (Bundle.initS "java/lang/Exception"), .declares (Bundle.initS "java/lang/Throwable")] : List Cond) := by decide +kernel
theorem ty_0 : ∀ w ∈ Cond.classLink RX6 79 "java/lang/IllegalArgumentException" :: Cond.initialized "java/lang/IllegalArgumentException" :: vx_atS RX6 83 "java/lang/IllegalArgumentException" exUp, vx_ot w = true := by decide +kernel
theorem tz_0 : Cond.classLink RX6 79 "java/lang/IllegalArgumentException" ∈ lw_tbl ∧ Cond.initialized "java/lang/IllegalArgumentException" ∈ lw_tbl := ⟨by decide +kernel, by decide +kernel⟩
theorem tw_1 : ∀ w ∈ (vx_atS RX6 113 "java/lang/IndexOutOfBoundsException" exUp).filter goodWord, w ∈ lw_tbl := by decide +kernel
theorem tx_1 : ∀ w ∈ (vx_atS RX6 113 "java/lang/IndexOutOfBoundsException" exUp).filter (fun w => !goodWord w), w ∈ ([.castable "java/lang/IndexOutOfBoundsException" "java/lang/IndexOutOfBoundsException", .declares (Bundle.initS "java/lang/RuntimeException"), .declares (Bundle.initS "java/lang/Exception"), .declares (Bundle.initS "java/lang/Throwable")] : List Cond) := by decide +kernel
theorem ty_1 : ∀ w ∈ Cond.classLink RX6 109 "java/lang/IndexOutOfBoundsException" :: Cond.initialized "java/lang/IndexOutOfBoundsException" :: vx_atS RX6 113 "java/lang/IndexOutOfBoundsException" exUp, vx_ot w = true := by decide +kernel
theorem tz_1 : Cond.classLink RX6 109 "java/lang/IndexOutOfBoundsException" ∈ lw_tbl ∧ Cond.initialized "java/lang/IndexOutOfBoundsException" ∈ lw_tbl := ⟨by decide +kernel, by decide +kernel⟩
theorem tw_2 : ∀ w ∈ (vx_atS RX6 93 "java/lang/UnsupportedOperationException" exUp).filter goodWord, w ∈ lw_tbl := by decide +kernel
theorem tx_2 : ∀ w ∈ (vx_atS RX6 93 "java/lang/UnsupportedOperationException" exUp).filter (fun w => !goodWord w), w ∈ ([.castable "java/lang/UnsupportedOperationException" "java/lang/UnsupportedOperationException", .declares (Bundle.initS "java/lang/RuntimeException"), .declares (Bundle.initS "java/lang/Exception"), .declares (Bundle.initS "java/lang/Throwable")] : List Cond) := by decide +kernel
theorem ty_2 : ∀ w ∈ Cond.classLink RX6 89 "java/lang/UnsupportedOperationException" :: Cond.initialized "java/lang/UnsupportedOperationException" :: vx_atS RX6 93 "java/lang/UnsupportedOperationException" exUp, vx_ot w = true := by decide +kernel
theorem tz_2 : Cond.classLink RX6 89 "java/lang/UnsupportedOperationException" ∈ lw_tbl ∧ Cond.initialized "java/lang/UnsupportedOperationException" ∈ lw_tbl := ⟨by decide +kernel, by decide +kernel⟩
theorem thr_words : ∀ x, x < 3 → (∀ w ∈ (vx_atS RX6 (icN x) (excN x) exUp).filter goodWord, w ∈ lw_tbl) ∧ (∀ w ∈ (vx_atS RX6 (icN x) (excN x) exUp).filter (fun w => !goodWord w), w ∈ ([.castable (excN x) (excN x), .declares (Bundle.initS "java/lang/RuntimeException"), .declares (Bundle.initS "java/lang/Exception"), .declares (Bundle.initS "java/lang/Throwable")] : List Cond)) ∧ (∀ w ∈ Cond.classLink RX6 (ikN x) (excN x) :: Cond.initialized (excN x) :: vx_atS RX6 (icN x) (excN x) exUp, vx_ot w = true) ∧ (Cond.classLink RX6 (ikN x) (excN x) ∈ lw_tbl ∧ Cond.initialized (excN x) ∈ lw_tbl)
  | 0, _ => ⟨tw_0, tx_0, ty_0, tz_0⟩
  | 1, _ => ⟨tw_1, tx_1, ty_1, tz_1⟩
  | 2, _ => ⟨tw_2, tx_2, ty_2, tz_2⟩
  | n + 3, h => absurd h (by omega)
theorem ic_ok {ic x na : Nat} (h : look2 calL 6 ic = some (38, x, na)) : ic = icN x ∧ x < 4 := by
  have h0 : calL.all (fun q => !(Nat.beq q.2.1 38) || (Nat.beq q.1.2 (icN q.2.2.1) && Nat.ble (q.2.2.1 + 1) 4)) = true := by decide +kernel
  have h1 := List.all_eq_true.mp h0 _ (look2_mem h)
  simp only [Bool.or_eq_true, Bool.and_eq_true] at h1
  rcases h1 with q | q
  · cases q
  · exact ⟨Nat.eq_of_beq_eq_true q.1, Nat.le_of_ble_eq_true q.2⟩
theorem ik_ok {ik x : Nat} (h : look2 newL 6 ik = some (32, x)) : ik = ikN x := by
  have h0 : newL.all (fun q => !(Nat.beq q.2.1 32 && Nat.beq q.1.1 6) || Nat.beq q.1.2 (ikN q.2.2)) = true := by decide +kernel
  have h1 := List.all_eq_true.mp h0 _ (look2_mem h)
  simp only [Bool.or_eq_true] at h1
  rcases h1 with q | q
  · cases q
  · exact Nat.eq_of_beq_eq_true q
