def opU (mi pc : Nat) : Option Op := bif Nat.ble 163 mi then none else bif Nat.ble (mLen mi) pc then none else opT mi pc
theorem opU_spec {mi pc : Nat} {o : Op} (h : opU mi pc = some o) : mi < 163 ∧ ∃ (i : Instr) (len : Nat), decode (mCode mi) pc = .ok (i, len) ∧ insOk pc i len = true ∧ o = opOf (mOwnNo mi) pc i len := by
  unfold opU at h
  by_cases h1 : 163 ≤ mi
  · rw [Nat.ble_eq_true_of_le h1] at h
    cases h
  · have e1 : Nat.ble 163 mi = false := by
      cases hb : Nat.ble 163 mi with
      | false => rfl
      | true => exact absurd (Nat.le_of_ble_eq_true hb) h1
    rw [e1] at h
    by_cases h2 : mLen mi ≤ pc
    · rw [Nat.ble_eq_true_of_le h2] at h
      cases h
    · have e2 : Nat.ble (mLen mi) pc = false := by
        cases hb : Nat.ble (mLen mi) pc with
        | false => rfl
        | true => exact absurd (Nat.le_of_ble_eq_true hb) h2
      rw [e2] at h
      have h : opT mi pc = some o := h
      have hok := opsOk_all mi (by omega)
      unfold opsOk at hok
      have := List.all_eq_true.mp hok pc (List.mem_range.mpr (by omega))
      rw [h] at this
      obtain ⟨i, len, h3, h4, h5⟩ := opChk_spec (f := opT mi) (by simpa using this)
      exact ⟨by omega, i, len, h3, h4, Option.some.inj (h.symm.trans h5)⟩
