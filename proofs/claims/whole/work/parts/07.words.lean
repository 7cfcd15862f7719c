def wG : List Cond := lw_tbl.filter goodWord
def ownN (k : Nat) : String := bif Nat.beq k 0 then RX0 else bif Nat.beq k 1 then RX1 else bif Nat.beq k 2 then RX2 else bif Nat.beq k 3 then RX3 else bif Nat.beq k 4 then RX4 else bif Nat.beq k 5 then RX5 else bif Nat.beq k 6 then RX6 else bif Nat.beq k 7 then RX7 else RL
/-! Reads and stores over the memory. -/
def clsR (c : Nat) : String := bif Nat.beq c 0 then RX0 else bif Nat.beq c 1 then RX1 else bif Nat.beq c 2 then RX2 else bif Nat.beq c 3 then RX3 else bif Nat.beq c 4 then RX4 else bif Nat.beq c 5 then RX5 else bif Nat.beq c 6 then RX6 else RX7
def clsT (c : Nat) : u_T := bif Nat.beq c 0 then TX0 else bif Nat.beq c 1 then TX1 else bif Nat.beq c 2 then TX2 else bif Nat.beq c 3 then TX3 else bif Nat.beq c 4 then TX4 else bif Nat.beq c 5 then TX5 else bif Nat.beq c 6 then TX6 else TX7
def clsY (c : Nat) : Nat → FieldType := bif Nat.beq c 0 then tyX0 else bif Nat.beq c 1 then tyX1 else bif Nat.beq c 2 then tyX2 else bif Nat.beq c 3 then tyX3 else bif Nat.beq c 4 then tyX4 else bif Nat.beq c 5 then tyX5 else bif Nat.beq c 6 then tyX6 else tyX7
theorem lt8 {P : Nat → Prop} {c : Nat} (h : c < 8) (h0 : P 0) (h1 : P 1) (h2 : P 2) (h3 : P 3) (h4 : P 4) (h5 : P 5) (h6 : P 6) (h7 : P 7) : P c := by
  match c, h with
  | 0, _ => exact h0
  | 1, _ => exact h1
  | 2, _ => exact h2
  | 3, _ => exact h3
  | 4, _ => exact h4
  | 5, _ => exact h5
  | 6, _ => exact h6
  | 7, _ => exact h7
theorem cls_at {c : Nat} (h : c < 8) : vwCl[c]? = some (clsR c, clsT c, nFld c) := lt8 (P := fun c => vwCl[c]? = some (clsR c, clsT c, nFld c)) h rfl rfl rfl rfl rfl rfl rfl rfl
theorem cls_ws {c : Nat} (h : c < 8) : ∀ w ∈ u_ws (clsR c) (clsT c) (nFld c), w ∈ wG := by
  have key : ∀ c, c < 8 → (u_ws (clsR c) (clsT c) (nFld c)).all (fun w => decide (w ∈ lw_tbl) && goodWord w) = true := fun c h => lt8 (P := fun c => (u_ws (clsR c) (clsT c) (nFld c)).all (fun w => decide (w ∈ lw_tbl) && goodWord w) = true) h (by decide +kernel) (by decide +kernel) (by decide +kernel) (by decide +kernel) (by decide +kernel) (by decide +kernel) (by decide +kernel) (by decide +kernel)
  intro w hw
  have h1 := List.all_eq_true.mp (key c h) w hw
  simp only [Bool.and_eq_true, decide_eq_true_eq] at h1
  exact List.mem_filter.mpr h1
theorem cls_ty {c : Nat} (h : c < 8) : ∀ k, k < nFld c → parseFieldDescriptor (clsT c k).2.2.1 = some (clsY c k) := lt8 (P := fun c => ∀ k, k < nFld c → parseFieldDescriptor (clsT c k).2.2.1 = some (clsY c k)) h tyX0_ok tyX1_ok tyX2_ok tyX3_ok tyX4_ok tyX5_ok tyX6_ok tyX7_ok
theorem cls_nm {c : Nat} (h : c < 8) : ∀ a, a < nFld c → ∀ b, b < nFld c → a ≠ b → (clsT c a).2.1 ≠ (clsT c b).2.1 := lt8 (P := fun c => ∀ a, a < nFld c → ∀ b, b < nFld c → a ≠ b → (clsT c a).2.1 ≠ (clsT c b).2.1) h nmX0 nmX1 nmX2 nmX3 nmX4 nmX5 nmX6 nmX7
/-- every resolved field: its class, its place, its word -/
def fldChk (q : (Nat × Nat) × (Nat × Nat)) : Bool := Nat.ble (q.2.1 + 1) 8 && (Nat.ble (q.2.2 + 1) (nFld q.2.1) && (decide (Cond.fieldLink (ownN q.1.1) q.1.2 (clsT q.2.1 q.2.2).1 (clsT q.2.1 q.2.2).2.1 (clsT q.2.1 q.2.2).2.2.1 ∈ lw_tbl)))
theorem fldL_ok : fldL.all fldChk = true := by decide +kernel
theorem look2_mem {α : Type} {l : List ((Nat × Nat) × α)} {a b : Nat} {x : α} (h : look2 l a b = some x) : ((a, b), x) ∈ l := by
  unfold look2 at h
  cases hf : l.find? (fun q => q.1.1 == a && q.1.2 == b) with
  | none => rw [hf] at h; cases h
  | some q =>
    rw [hf] at h
    have h : some q.2 = some x := h
    cases h
    have h1 := List.find?_some hf
    simp only [Bool.and_eq_true, beq_iff_eq] at h1
    have h2 := List.mem_of_find?_eq_some hf
    have e : q = ((a, b), q.2) := by rw [← h1.1, ← h1.2]
    rw [← e]
    exact h2
theorem fld_ok {ow idx ci k : Nat} (h : look2 fldL ow idx = some (ci, k)) : ci < 8 ∧ k < nFld ci ∧ Cond.fieldLink (ownN ow) idx (clsT ci k).1 (clsT ci k).2.1 (clsT ci k).2.2.1 ∈ wG := by
  have h1 := List.all_eq_true.mp fldL_ok _ (look2_mem h)
  simp only [fldChk, Bool.and_eq_true, decide_eq_true_eq] at h1
  exact ⟨Nat.le_of_ble_eq_true h1.1, Nat.le_of_ble_eq_true h1.2.1, List.mem_filter.mpr ⟨h1.2.2, rfl⟩⟩
theorem mOwn_eq : ∀ mi, mi < 163 → mOwn mi = ownN (mOwnNo mi) := by
  have h : (List.range 163).all (fun mi => decide (mOwn mi = ownN (mOwnNo mi))) = true := by decide +kernel
  intro mi hm
  exact of_decide_eq_true (List.all_eq_true.mp h mi (List.mem_range.mpr hm))
