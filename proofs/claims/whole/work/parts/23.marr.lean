/-! Arrays that are made. -/
theorem lenT_le (t : Nat) : lenT t ≤ 1000 := by
  have h : (List.range 85).all (fun t => Nat.ble (lenT t) 1000) = true := by decide +kernel
  rcases Nat.lt_or_ge t 85 with q | q
  · exact Nat.le_of_ble_eq_true (List.all_eq_true.mp h t (List.mem_range.mpr q))
  · unfold lenT
    rw [List.getD_eq_getElem?_getD, List.getElem?_eq_none (by rw [kdL_len]; exact q)]
    exact Nat.zero_le _
theorem arr_w : ∀ w ∈ ([.arrayClass .int, .arrayClass .byte, .arrayClass .long, .arrayClass .boolean] : List Cond), w ∈ wG := by
  have h : ([.arrayClass .int, .arrayClass .byte, .arrayClass .long, .arrayClass .boolean] : List Cond).all (fun w => decide (w ∈ lw_tbl) && goodWord w) = true := by decide +kernel
  intro w hw
  have h1 := List.all_eq_true.mp h w hw
  simp only [Bool.and_eq_true, decide_eq_true_eq] at h1
  exact List.mem_filter.mpr h1
theorem nI_len (t : Nat) : ¬ Int32.ofNat (lenT t) < 0 ∧ (Int32.ofNat (lenT t)).toNatClampNeg = lenT t := by
  have := lenT_le t
  exact ⟨nI_pos (by omega), nI_clamp (by omega)⟩
section SNA
variable {Γ : GG} {mi pc : Nat} {lv : LV} {r : List MV} {σ : Mem} {cnt : Nat × Nat} {Q : Out → Mem → Prop}
theorem so_newI {a : ArrayType} {ty : FieldType} {k0 kd t i : Nat} {z : Int32} (hd : decode (mCode mi) pc = .ok (.newarray a, 2)) (hty : newarray.typeOf a = ty) (h0 : (tysOf Γ)[k0]? = some (gC Γ kd, ty)) (hdv : defaultValue ty = .int 0) (hkd : 8 ≤ kd ∧ kd ≠ 12 ∧ kd < 14) (hcb : componentBytes ty ≤ 8) (hw : Cond.arrayClass ty ∈ wG) (hra : ∀ (U : State) (c1 c2 : ClassId), va_RA U c1 ty → va_RA U c2 ty → c1 = c2)
    (hσ : σ.1 = some (ordT t i)) (hi : i < cntT t) (hk : kdK t = kd) (hz : z = Int32.ofNat (lenT t)) (hc : cnt.1 + 1 ≤ mMc mi) (hs : cnt.2 + lenT t ≤ mMs mi) (h : Go Γ mi (pc + 2) lv (.inr (t, i) :: r) (pN σ (some (ordT t i + 1))) (cnt.1 + 1, cnt.2 + lenT t) Q) : Go Γ mi pc lv (.inl (.int z) :: r) σ cnt Q := by
  intro n0 p e s m args below meth c H locs ls hn M hl hW hS hlv hst h1
  subst hz
  have w := M.2.2.2.2.2.1
  have F := M.2.2.2.2.2.2.2.2
  have e1 := adr_new hW hσ hi
  have hle : leN σ.1 (pN σ (some (ordT t i + 1))).1 := by rw [hσ]; exact leN_step _
  have hzero : mI σ t i = fun _ => 0 := funext fun j => (hW.2.2.2.2.2 _ hσ t i (not_alive hσ) j).1
  have hlen := lenT_le t
  refine vz_newa (a0 := (lenT t, .inl (mI σ t i))) M.1 M.2.1 (by rw [hty]; exact w _ hw) hty F.1 hW.1 hW.2.1 hS (fun q hq => Nat.le_trans F.2.1 hq) (fun cA => by rw [hzero, hdv]; rfl) (nI_len t).1 (nI_len t).2 (Nat.le_trans (Nat.mul_le_mul hlen hcb) (by omega)) hc hs hd (fun q cA H1 hq hz hK1 hP1 hD1 hS1 => ?_)
  subst hq
  have hcA : cA = gC Γ kd := hra s _ _ (hK1.2 (tysOf Γ).length (cA, ty) (by rw [List.getElem?_append_right (Nat.le_refl _), Nat.sub_self]; rfl)).2 (F.1.2 k0 _ h0).2
  subst hcA
  rw [← cell_num hk hkd.1 hkd.2.1 hkd.2.2, ← e1, ← ws_new hσ hi] at hP1 hD1
  rw [← e1]
  exact h n0 p e s m args below meth c H1 locs ls (leN_trans hn hle) M hl (Wd_new hW hσ hi hP1 hD1 hz) hS1 (fun q hq => okV_mono hle (hlv q hq)) (okS_cons (fun _ => ⟨hi, fun k hk2 => by cases hk2; exact Nat.lt_succ_self _⟩) (fun q hq => okV_mono hle (okS_tl hst q hq))) h1
theorem so_newL {t i : Nat} {z : Int32} (hd : decode (mCode mi) pc = .ok (.newarray .long, 2))
    (hσ : σ.1 = some (ordT t i)) (hi : i < cntT t) (hk : kdK t = 12) (hz : z = Int32.ofNat (lenT t)) (hc : cnt.1 + 1 ≤ mMc mi) (hs : cnt.2 + lenT t ≤ mMs mi) (h : Go Γ mi (pc + 2) lv (.inr (t, i) :: r) (pN σ (some (ordT t i + 1))) (cnt.1 + 1, cnt.2 + lenT t) Q) : Go Γ mi pc lv (.inl (.int z) :: r) σ cnt Q := by
  intro n0 p e s m args below meth c H locs ls hn M hl hW hS hlv hst h1
  subst hz
  have w := M.2.2.2.2.2.1
  have F := M.2.2.2.2.2.2.2.2
  have e1 := adr_new hW hσ hi
  have hle : leN σ.1 (pN σ (some (ordT t i + 1))).1 := by rw [hσ]; exact leN_step _
  have hzero : mJ σ t i = fun _ => 0 := funext fun j => (hW.2.2.2.2.2 _ hσ t i (not_alive hσ) j).2.1
  have hlen := lenT_le t
  refine vz_newa (ty := .long) (a0 := (lenT t, .inr (.inl (mJ σ t i)))) M.1 M.2.1 (w _ (arr_w _ (by simp [newarray.typeOf]))) rfl F.1 hW.1 hW.2.1 hS (fun q hq => Nat.le_trans F.2.1 hq) (fun cA => by rw [hzero]; rfl) (nI_len t).1 (nI_len t).2 (by show lenT t * 8 ≤ 536870912; omega) hc hs hd (fun q cA H1 hq hz hK1 hP1 hD1 hS1 => ?_)
  subst hq
  have hcA : cA = gC Γ 12 := by
    have r1 : s.vm.findClass ("[" ++ FieldType.long.toString) = some cA := (hK1.2 (tysOf Γ).length (cA, .long) (by rw [List.getElem?_append_right (Nat.le_refl _), Nat.sub_self]; rfl)).2
    have r2 : s.vm.findClass ("[" ++ FieldType.long.toString) = some (gC Γ 12) := (F.1.2 2 (gC Γ 12, .long) rfl).2
    exact Option.some.inj (r1.symm.trans r2)
  subst hcA
  rw [← cell_long hk, ← e1, ← ws_new hσ hi] at hP1 hD1
  rw [← e1]
  exact h n0 p e s m args below meth c H1 locs ls (leN_trans hn hle) M hl (Wd_new hW hσ hi hP1 hD1 hz) hS1 (fun q hq => okV_mono hle (hlv q hq)) (okS_cons (fun _ => ⟨hi, fun k hk2 => by cases hk2; exact Nat.lt_succ_self _⟩) (fun q hq => okV_mono hle (okS_tl hst q hq))) h1
end SNA
