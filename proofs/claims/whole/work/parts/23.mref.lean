/-! Arrays of references that are made; newarray of any sort. -/
theorem kd_ne99 {t i : Nat} (hi : i < cntT t) : kdK t ≠ 99 := by
  have h : (List.range 85).all (fun t => !Nat.beq (kdK t) 99) = true := by decide +kernel
  have ht : t < 85 := by
    rcases Nat.lt_or_ge t 85 with q | q
    · exact q
    · rw [cntT_out q] at hi; exact absurd hi (Nat.not_lt_zero _)
  intro e
  have h1 := List.all_eq_true.mp h t (List.mem_range.mpr ht)
  rw [e] at h1
  cases h1
theorem ane_words0 : aneL.all (fun q => Nat.beq q.2 16 || (bif Nat.beq q.2 14 then decide (Cond.classLink (ownN q.1.1) q.1.2 RX4 ∈ lw_tbl) else Nat.beq q.2 15 && decide (Cond.classLink (ownN q.1.1) q.1.2 RX0 ∈ lw_tbl))) = true := by decide +kernel
theorem ane_words {ow idx b : Nat} (h : look2 aneL ow idx = some b) (hb : b = 14 ∨ b = 15) : Cond.classLink (ownN ow) idx (bif Nat.beq b 14 then RX4 else RX0) ∈ wG := by
  have h1 := List.all_eq_true.mp ane_words0 _ (look2_mem h)
  rcases hb with rfl | rfl
  · exact List.mem_filter.mpr ⟨of_decide_eq_true h1, rfl⟩
  · have h2 : Cond.classLink (ownN ow) idx RX0 ∈ lw_tbl := by simpa using h1
    exact List.mem_filter.mpr ⟨h2, rfl⟩
theorem ane16_0 : (List.range 163).all (fun mi => (List.range (mLen mi)).all (fun pc => match opU mi pc with
  | some (30, _, b, _, _, _) => Nat.beq b 14 || Nat.beq b 15
  | _ => true)) = true := by decide +kernel
theorem ane16 {mi pc b c n : Nat} {a : Int} {l : List Nat} (h : opU mi pc = some (30, a, b, c, n, l)) : b = 14 ∨ b = 15 := by
  obtain ⟨h1, h2⟩ := opU_lt h
  have h3 := List.all_eq_true.mp (List.all_eq_true.mp ane16_0 mi (List.mem_range.mpr h1)) pc (List.mem_range.mpr h2)
  rw [h] at h3
  have h3 : (Nat.beq b 14 || Nat.beq b 15) = true := h3
  rw [Bool.or_eq_true] at h3
  exact h3.imp Nat.eq_of_beq_eq_true Nat.eq_of_beq_eq_true
section SNB
variable {Γ : GG} {mi pc : Nat} {lv : LV} {r : List MV} {σ : Mem} {cnt : Nat × Nat} {Q : Out → Mem → Prop}
theorem so_newarray {a : ArrayType} {t i : Nat} {z : Int32} (hm : mi < 163) (hd : decode (mCode mi) pc = .ok (.newarray a, 2)) (hσ : σ.1 = some (ordT t i)) (hi : i < cntT t) (hk : kdK t = atNo a) (hz : z = Int32.ofNat (lenT t)) (hc : cnt.1 + 1 ≤ mMc mi) (hs : cnt.2 + lenT t ≤ mMs mi) (h : Go Γ mi (pc + 2) lv (.inr (t, i) :: r) (pN σ (some (ordT t i + 1))) (cnt.1 + 1, cnt.2 + lenT t) Q) : Go Γ mi pc lv (.inl (.int z) :: r) σ cnt Q := by
  cases a with
  | int => exact so_newI (ty := .int) (k0 := 0) (kd := 10) hd rfl rfl rfl (by decide) (by decide) (arr_w _ (by simp)) (fun U c1 c2 g1 g2 => Option.some.inj (Eq.trans (Eq.symm g1) g2)) hσ hi hk hz hc hs h
  | byte => exact so_newI (ty := .byte) (k0 := 1) (kd := 11) hd rfl rfl rfl (by decide) (by decide) (arr_w _ (by simp)) (fun U c1 c2 g1 g2 => Option.some.inj (Eq.trans (Eq.symm g1) g2)) hσ hi hk hz hc hs h
  | boolean => exact so_newI (ty := .boolean) (k0 := 3) (kd := 13) hd rfl rfl rfl (by decide) (by decide) (arr_w _ (by simp)) (fun U c1 c2 g1 g2 => Option.some.inj (Eq.trans (Eq.symm g1) g2)) hσ hi hk hz hc hs h
  | long => exact so_newL hd hσ hi hk hz hc hs h
  | _ => exact absurd hk (kd_ne99 hi)
theorem so_anewarray {idx b t i : Nat} {z : Int32} (hm : mi < 163) (hd : decode (mCode mi) pc = .ok (.anewarray idx, 3)) (hf : look2 aneL (mOwnNo mi) idx = some b) (hb : b = 14 ∨ b = 15) (hσ : σ.1 = some (ordT t i)) (hi : i < cntT t) (hk : kdK t = b) (hz : z = Int32.ofNat (lenT t)) (hc : cnt.1 + 1 ≤ mMc mi) (hs : cnt.2 + lenT t ≤ mMs mi) (h : Go Γ mi (pc + 3) lv (.inr (t, i) :: r) (pN σ (some (ordT t i + 1))) (cnt.1 + 1, cnt.2 + lenT t) Q) : Go Γ mi pc lv (.inl (.int z) :: r) σ cnt Q := by
  intro n0 p e s m args below meth c H locs ls hn M hl hW hS hlv hst h1
  subst hz
  have w := M.2.2.2.2.2.1
  have F := M.2.2.2.2.2.2.2.2
  have e1 := adr_new hW hσ hi
  have hle : leN σ.1 (pN σ (some (ordT t i + 1))).1 := by rw [hσ]; exact leN_step _
  have hzero : (fun j => refV Γ (mR σ t i j)) = fun _ => none := funext fun j => by rw [(hW.2.2.2.2.2 _ hσ t i (not_alive hσ) j).2.2]; rfl
  have hlen := lenT_le t
  have hao : va_AO (bif Nat.beq b 14 then RX4 else RX0) s := by
    rcases hb with rfl | rfl
    · exact F.2.2.2.2.2.2.2.2.2.2.1
    · exact F.2.2.2.2.2.2.2.2.2.2.2.1
  obtain ⟨k0, h0⟩ : ∃ k0 : Nat, (tysOf Γ)[k0]? = some (gC Γ b, FieldType.object (bif Nat.beq b 14 then RX4 else RX0)) := by
    rcases hb with rfl | rfl
    · exact ⟨4, rfl⟩
    · exact ⟨5, rfl⟩
  refine vz_newq (C := bif Nat.beq b 14 then RX4 else RX0) M.1 M.2.1 M.2.2.2.2.1 (w _ (by rw [mOwn_eq mi hm]; exact ane_words hf hb)) hao F.1 hW.1 hW.2.1 hS (fun q hq => Nat.le_trans F.2.1 hq) (nI_len t).1 (nI_len t).2 (by omega) hc hs hd (fun q cA H1 hq hz hK1 hP1 hD1 hS1 => ?_)
  subst hq
  have hcA : cA = gC Γ b := by
    obtain ⟨-, -, -, -, -, r1⟩ := (hK1.2 (tysOf Γ).length (cA, FieldType.object (bif Nat.beq b 14 then RX4 else RX0)) (by rw [List.getElem?_append_right (Nat.le_refl _), Nat.sub_self]; rfl)).2
    obtain ⟨-, -, -, -, -, r2⟩ := (F.1.2 k0 _ h0).2
    exact Option.some.inj (r1.symm.trans r2)
  subst hcA
  rw [← hzero, ← cell_ref hk (by omega), ← e1, ← ws_new hσ hi] at hP1 hD1
  rw [← e1]
  exact h n0 p e s m args below meth c H1 locs ls (leN_trans hn hle) M hl (Wd_new hW hσ hi hP1 hD1 hz) hS1 (fun q hq => okV_mono hle (hlv q hq)) (okS_cons (fun _ => ⟨hi, fun k hk2 => by cases hk2; exact Nat.lt_succ_self _⟩) (fun q hq => okV_mono hle (okS_tl hst q hq))) h1
end SNB
