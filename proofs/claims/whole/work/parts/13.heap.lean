/-! Reads over the memory. -/
theorem cell_obj {Γ : GG} {σ : Mem} {t i c : Nat} (h : kdK t = c) (hc : c < 8) : cellE Γ σ (t, i) = .inr (c, (List.range (nFld c)).map (fldV Γ σ c (t, i))) := by
  unfold cellE
  rw [if_pos (by show kdK t < 8; rw [h]; exact hc)]
  show Sum.inr (kdK t, _) = _
  rw [h]
theorem cell_num {Γ : GG} {σ : Mem} {t i c : Nat} (h : kdK t = c) (hc : 8 ≤ c) (h2 : c ≠ 12) (h3 : c < 14) : cellE Γ σ (t, i) = .inl (gC Γ c, lenT t, .inl (mI σ t i)) := by
  unfold cellE
  rw [if_neg (by show ¬ kdK t < 8; rw [h]; omega), if_neg (by show ¬ kdK t = 12; rw [h]; exact h2), if_pos (by show kdK t < 14; rw [h]; exact h3)]
  show Sum.inl (gC Γ (kdK t), _) = _
  rw [h]
theorem cell_long {Γ : GG} {σ : Mem} {t i : Nat} (h : kdK t = 12) : cellE Γ σ (t, i) = .inl (gC Γ 12, lenT t, .inr (.inl (mJ σ t i))) := by
  unfold cellE
  rw [if_neg (by show ¬ kdK t < 8; rw [h]; omega), if_pos (show kdK t = 12 from h)]
theorem cell_ref {Γ : GG} {σ : Mem} {t i c : Nat} (h : kdK t = c) (hc : 14 ≤ c) : cellE Γ σ (t, i) = .inl (gC Γ c, lenT t, .inr (.inr (.inr (.inr (fun j => refV Γ (mR σ t i j)))))) := by
  unfold cellE
  rw [if_neg (by show ¬ kdK t < 8; rw [h]; omega), if_neg (by show ¬ kdK t = 12; rw [h]; omega), if_neg (by show ¬ kdK t < 14; rw [h]; omega)]
  show Sum.inl (gC Γ (kdK t), _) = _
  rw [h]
section SNH
variable {Γ : GG} {mi pc : Nat} {lv : LV} {r : List MV} {σ : Mem} {cnt : Nat × Nat} {Q : Out → Mem → Prop}
theorem so_getfield {idx ci k t i : Nat} {v : MV} (hm : mi < 163) (hd : decode (mCode mi) pc = .ok (.getfield idx, 3)) (hf : look2 fldL (mOwnNo mi) idx = some (ci, k)) (hk : kdK t = ci) (hv : ∀ H, Wd Γ σ H → alive σ t i → fldV Γ σ ci (t, i) k = toV Γ v ∧ okV σ v) (h : Go Γ mi (pc + 3) lv (v :: r) σ cnt Q) : Go Γ mi pc lv (.inr (t, i) :: r) σ cnt Q := by
  intro n0 p e s m args below meth c H locs ls hn M hl hW hS hlv hst h1
  obtain ⟨f1, f2, f3⟩ := fld_ok hf
  have ht : t < 85 := kdK_in hk (by omega)
  have ha : alive σ t i := okS_hd hst ht
  obtain ⟨v1, v2⟩ := hv H hW ha
  have hcell := ws_get (Γ := Γ) ha
  rw [cell_obj hk f1] at hcell
  exact va_get M.1 M.2.1 M.2.2.2.2.2.1 (cls_ws f1) M.2.2.2.2.1 M.2.2.2.2.2.2.2.2.1 hW.1 (ordT t i) hcell (cls_at f1) k f2 (M.2.2.2.2.2.1 _ (by rw [mOwn_eq mi hm]; exact f3)) (fun x hx => hx) (by rw [rng_at _ f2, v1]) hd (h n0 p e s m args below meth c H locs ls hn M hl hW hS hlv (okS_cons v2 (okS_tl hst)) h1)
theorem so_getI {idx ci k t i : Nat} (hm : mi < 163) (hd : decode (mCode mi) pc = .ok (.getfield idx, 3)) (hf : look2 fldL (mOwnNo mi) idx = some (ci, k)) (hk : kdK t = ci) (hy : ftT ci k = 0) (h : Go Γ mi (pc + 3) lv (.inl (.int (mI σ t i k)) :: r) σ cnt Q) : Go Γ mi pc lv (.inr (t, i) :: r) σ cnt Q :=
  so_getfield hm hd hf hk (fun _ _ _ => ⟨by unfold fldV; rw [hy]; rfl, okV_int⟩) h
theorem so_getJ {idx ci k t i : Nat} (hm : mi < 163) (hd : decode (mCode mi) pc = .ok (.getfield idx, 3)) (hf : look2 fldL (mOwnNo mi) idx = some (ci, k)) (hk : kdK t = ci) (hy : ftT ci k = 1) (h : Go Γ mi (pc + 3) lv (.inl (.long (mJ σ t i k)) :: r) σ cnt Q) : Go Γ mi pc lv (.inr (t, i) :: r) σ cnt Q :=
  so_getfield hm hd hf hk (fun _ _ _ => ⟨by unfold fldV; rw [hy]; rfl, okV_long⟩) h
theorem so_getR {idx ci k t i n : Nat} {q : Nat × Nat} (hm : mi < 163) (hd : decode (mCode mi) pc = .ok (.getfield idx, 3)) (hf : look2 fldL (mOwnNo mi) idx = some (ci, k)) (hk : kdK t = ci) (hy : ftT ci k = n + 2) (hq : mR σ t i k = some q) (h : Go Γ mi (pc + 3) lv (.inr q :: r) σ cnt Q) : Go Γ mi pc lv (.inr (t, i) :: r) σ cnt Q :=
  so_getfield (v := .inr q) hm hd hf hk (fun H hW hal => ⟨by unfold fldV; rw [hy]; show va_rf (refV Γ (mR σ t i k)) = _; rw [hq]; rfl, fun _ => (hW.2.2.2.2.1 t i k q hal hq).2⟩) h
theorem mo_I {σ : Mem} {t i k : Nat} {x : Int32} {v : MV} (h : okV σ v) : okV (pI σ t i k x) v := by
  rcases v with v | q
  · exact h
  · exact fun hq => (alive_of rfl).mpr (h hq)
theorem mo_J {σ : Mem} {t i k : Nat} {x : Int64} {v : MV} (h : okV σ v) : okV (pJ σ t i k x) v := by
  rcases v with v | q
  · exact h
  · exact fun hq => (alive_of rfl).mpr (h hq)
theorem mo_R {σ : Mem} {t i k : Nat} {x : Nat × Nat} {v : MV} (h : okV σ v) : okV (pR σ t i k x) v := by
  rcases v with v | q
  · exact h
  · exact fun hq => (alive_of rfl).mpr (h hq)
theorem so_iaload {t i : Nat} {j : Int32} (hd : decode (mCode mi) pc = .ok (.iaload, 1)) (hk : kdK t = 10) (hj : vp_in j (lenT t)) (h : Go Γ mi (pc + 1) lv (.inl (.int (mI σ t i j.toNatClampNeg)) :: r) σ cnt Q) : Go Γ mi pc lv (.inl (.int j) :: .inr (t, i) :: r) σ cnt Q := by
  intro n0 p e s m args below meth c H locs ls hn M hl hW hS hlv hst h1
  have ha : alive σ t i := okS_hd (okS_tl hst) (kdK_in hk (by decide))
  have hcell := ws_get (Γ := Γ) ha
  rw [cell_num hk (by decide) (by decide) (by decide)] at hcell
  exact va_iald M.1 M.2.1 M.2.2.2.2.2.2.2.2.1 hW.1 (ordT t i) 0 hcell rfl hj hd (h n0 p e s m args below meth c H locs ls hn M hl hW hS hlv (okS_cons okV_int (okS_tl (okS_tl hst))) h1)
theorem so_script {j : Int32} (hd : decode (mCode mi) pc = .ok (.iaload, 1)) (hj : vp_in j (gN Γ)) {i : Nat} (hi : i = 0) (h : Go Γ mi (pc + 1) lv (.inl (.int (gS Γ j.toNatClampNeg)) :: r) σ cnt Q) : Go Γ mi pc lv (.inl (.int j) :: .inr (201, i) :: r) σ cnt Q := by
  subst hi
  intro n0 p e s m args below meth c H locs ls hn M hl hW hS hlv hst h1
  have F := M.2.2.2.2.2.2.2.2
  have hb : ¬ gA Γ (gX Γ 201 0) := Nat.not_le.mpr F.2.2.1.2
  exact va_sld M.1 M.2.1 F.2.2.1.1 (Nat.lt_of_lt_of_le F.2.2.1.2 F.2.1) hb hS hj hd (h n0 p e s m args below meth c H locs ls hn M hl hW hS hlv (okS_cons okV_int (okS_tl (okS_tl hst))) h1)
theorem so_alen (hd : decode (mCode mi) pc = .ok (.arraylength, 1)) (h : Go Γ mi (pc + 1) lv (.inl (.int (Int32.ofNat (gN Γ))) :: r) σ cnt Q) : Go Γ mi pc lv (.inr (201, 0) :: r) σ cnt Q := by
  intro n0 p e s m args below meth c H locs ls hn M hl hW hS hlv hst h1
  have F := M.2.2.2.2.2.2.2.2
  have hb : ¬ gA Γ (gX Γ 201 0) := Nat.not_le.mpr F.2.2.1.2
  exact va_slen M.1 M.2.1 F.2.2.1.1 (Nat.lt_of_lt_of_le F.2.2.1.2 F.2.1) hb hS hd (h n0 p e s m args below meth c H locs ls hn M hl hW hS hlv (okS_cons okV_int (okS_tl hst)) h1)
theorem so_baload {t i : Nat} {j : Int32} (hd : decode (mCode mi) pc = .ok (.baload, 1)) (hk : kdK t = 11) (hj : vp_in j (lenT t)) (h : Go Γ mi (pc + 1) lv (.inl (.int (mI σ t i j.toNatClampNeg)) :: r) σ cnt Q) : Go Γ mi pc lv (.inl (.int j) :: .inr (t, i) :: r) σ cnt Q := by
  intro n0 p e s m args below meth c H locs ls hn M hl hW hS hlv hst h1
  have ha : alive σ t i := okS_hd (okS_tl hst) (kdK_in hk (by decide))
  have hcell := ws_get (Γ := Γ) ha
  rw [cell_num hk (by decide) (by decide) (by decide)] at hcell
  exact va_bald M.1 M.2.1 M.2.2.2.2.2.2.2.2.1 hW.1 (ordT t i) 1 hcell rfl hj hd (h n0 p e s m args below meth c H locs ls hn M hl hW hS hlv (okS_cons okV_int (okS_tl (okS_tl hst))) h1)
theorem so_zaload {t i : Nat} {j : Int32} (hd : decode (mCode mi) pc = .ok (.baload, 1)) (hk : kdK t = 13) (hj : vp_in j (lenT t)) (h : Go Γ mi (pc + 1) lv (.inl (.int (mI σ t i j.toNatClampNeg)) :: r) σ cnt Q) : Go Γ mi pc lv (.inl (.int j) :: .inr (t, i) :: r) σ cnt Q := by
  intro n0 p e s m args below meth c H locs ls hn M hl hW hS hlv hst h1
  have ha : alive σ t i := okS_hd (okS_tl hst) (kdK_in hk (by decide))
  have hcell := ws_get (Γ := Γ) ha
  rw [cell_num hk (by decide) (by decide) (by decide)] at hcell
  exact va_zald M.1 M.2.1 M.2.2.2.2.2.2.2.2.1 hW.1 (ordT t i) 3 hcell rfl hj hd (h n0 p e s m args below meth c H locs ls hn M hl hW hS hlv (okS_cons okV_int (okS_tl (okS_tl hst))) h1)
theorem so_laload {t i : Nat} {j : Int32} (hd : decode (mCode mi) pc = .ok (.laload, 1)) (hk : kdK t = 12) (hj : vp_in j (lenT t)) (h : Go Γ mi (pc + 1) lv (.inl (.long (mJ σ t i j.toNatClampNeg)) :: r) σ cnt Q) : Go Γ mi pc lv (.inl (.int j) :: .inr (t, i) :: r) σ cnt Q := by
  intro n0 p e s m args below meth c H locs ls hn M hl hW hS hlv hst h1
  have ha : alive σ t i := okS_hd (okS_tl hst) (kdK_in hk (by decide))
  have hcell := ws_get (Γ := Γ) ha
  rw [cell_long hk] at hcell
  exact va_lald M.1 M.2.1 M.2.2.2.2.2.2.2.2.1 hW.1 (ordT t i) 2 hcell rfl hj hd (h n0 p e s m args below meth c H locs ls hn M hl hW hS hlv (okS_cons okV_long (okS_tl (okS_tl hst))) h1)
theorem tys_ref {Γ : GG} {c : Nat} (h1 : 14 ≤ c) (h2 : c ≤ 16) : ∃ (k : Nat) (ty : FieldType), (tysOf Γ)[k]? = some (gC Γ c, ty) ∧ ((∃ n, ty = .object n) ∨ ∃ t, ty = .array t) := by
  rcases (show c = 14 ∨ c = 15 ∨ c = 16 by omega) with rfl | rfl | rfl
  · exact ⟨4, _, rfl, Or.inl ⟨_, rfl⟩⟩
  · exact ⟨5, _, rfl, Or.inl ⟨_, rfl⟩⟩
  · exact ⟨6, _, rfl, Or.inr ⟨_, rfl⟩⟩
theorem so_aaload {t i : Nat} {j : Int32} {q : Nat × Nat} (hd : decode (mCode mi) pc = .ok (.aaload, 1)) (hk1 : 14 ≤ kdK t) (hk2 : kdK t ≤ 16) (hj : vp_in j (lenT t)) (hq : mR σ t i j.toNatClampNeg = some q) (h : Go Γ mi (pc + 1) lv (.inr q :: r) σ cnt Q) : Go Γ mi pc lv (.inl (.int j) :: .inr (t, i) :: r) σ cnt Q := by
  intro n0 p e s m args below meth c H locs ls hn M hl hW hS hlv hst h1
  have ha : alive σ t i := okS_hd (okS_tl hst) (kdK_in (t := t) rfl (by omega))
  have hcell := ws_get (Γ := Γ) ha
  rw [cell_ref rfl hk1] at hcell
  obtain ⟨t0, ty, ht, hty⟩ := tys_ref (Γ := Γ) hk1 hk2
  have hK := M.2.2.2.2.2.2.2.2.1
  have hlt : j.toNatClampNeg < lenT t := Nat.not_le.mp fun q => hj (Or.inr q)
  refine W.aald (v := .ref (adr Γ q.1 q.2)) (ty := ty) M.1 M.2.1 (hW.1 (ordT t i) _ hcell) ((hK.2 t0 _ ht).1 (lenT t) (fun j => va_rf (refV Γ (mR σ t i j)))) ?_ (fun q => by cases q) (by show ¬ (j < 0 ∨ (arrV _ _ _).slots.size ≤ _); rw [arrV_size]; exact hj) (by show (arrV _ _ _).slots[_]? = _; rw [arrV_read _ _ hlt]; show some (va_rf (refV Γ (mR σ t i j.toNatClampNeg))) = _; rw [hq]; rfl) rfl rfl hd (h n0 p e s m args below meth c H locs ls hn M hl hW hS hlv (okS_cons (fun _ => (hW.2.2.2.2.1 t i _ q ha hq).2) (okS_tl (okS_tl hst))) h1)
  rcases hty with ⟨n, rfl⟩ | ⟨n, rfl⟩ <;> rfl
end SNH
