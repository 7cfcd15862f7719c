/-! Stores over the memory. -/
theorem Wd_pI0 {Γ : GG} {σ : Mem} {H H1 : Heap} {t i k : Nat} {x : Int32} (h : Wd Γ σ H) (ha : alive σ t i) (hP : va_P (gD Γ) vwCl (wsOf Γ (pI σ t i k x)) H1) (hD : va_D (gA Γ) (wsOf Γ (pI σ t i k x))) (hz : gB Γ ≤ H1.size) (hn : σ.1 = none) : Wd Γ (pI σ t i k x) H1 := by
  obtain ⟨-, -, h3, h4, h5, h6⟩ := h
  refine ⟨hP, hD, hz, fun n hn2 => ?_, fun a b c d hl hd => h5 a b c d hl hd, fun k0 hk0 a b hab j => ?_⟩
  · rw [show σ.1 = some n from hn2] at hn; cases hn
  · have hne : ¬ (a = t ∧ b = i) := fun e => hab (by rw [e.1, e.2]; exact ha)
    have h7 := h6 k0 hk0 a b hab j
    refine ⟨?_, h7.2⟩
    show up3 (mI σ) t i k x a b j = 0
    rw [up3_eq]
    rw [if_neg (fun e => hne ⟨e.1, e.2.1⟩)]
    exact h7.1
theorem Wd_pJ0 {Γ : GG} {σ : Mem} {H H1 : Heap} {t i k : Nat} {x : Int64} (h : Wd Γ σ H) (ha : alive σ t i) (hP : va_P (gD Γ) vwCl (wsOf Γ (pJ σ t i k x)) H1) (hD : va_D (gA Γ) (wsOf Γ (pJ σ t i k x))) (hz : gB Γ ≤ H1.size) (hn : σ.1 = none) : Wd Γ (pJ σ t i k x) H1 := by
  obtain ⟨-, -, h3, h4, h5, h6⟩ := h
  refine ⟨hP, hD, hz, fun n hn2 => ?_, fun a b c d hl hd => h5 a b c d hl hd, fun k0 hk0 a b hab j => ?_⟩
  · rw [show σ.1 = some n from hn2] at hn; cases hn
  · have hne : ¬ (a = t ∧ b = i) := fun e => hab (by rw [e.1, e.2]; exact ha)
    have h7 := h6 k0 hk0 a b hab j
    refine ⟨h7.1, ?_, h7.2.2⟩
    show up3 (mJ σ) t i k x a b j = 0
    rw [up3_eq]
    rw [if_neg (fun e => hne ⟨e.1, e.2.1⟩)]
    exact h7.2.1
section SNT
variable {Γ : GG} {mi pc : Nat} {lv : LV} {r : List MV} {σ : Mem} {cnt : Nat × Nat} {Q : Out → Mem → Prop}
theorem fs_pI {Γ : GG} {σ : Mem} {c t i k : Nat} {x : Int32} (hy : ftT c k = 0) : ((List.range (nFld c)).map (fldV Γ σ c (t, i))).set k (.int x) = (List.range (nFld c)).map (fldV Γ (pI σ t i k x) c (t, i)) := by
  rw [rng_set]
  apply List.map_congr_left
  intro j _
  show (if j = k then Value.int x else fldV Γ σ c (t, i) j) = fldV Γ (pI σ t i k x) c (t, i) j
  unfold fldV
  show _ = (match ftT c j with | 0 => Value.int (up3 (mI σ) t i k x t i j) | 1 => .long (mJ σ t i j) | _ => va_rf (refV Γ (mR σ t i j)))
  rw [up3_at]
  by_cases h : j = k
  · subst h; rw [hy]; simp
  · rw [if_neg h, if_neg h]
    rfl
theorem fs_pJ {Γ : GG} {σ : Mem} {c t i k : Nat} {x : Int64} (hy : ftT c k = 1) : ((List.range (nFld c)).map (fldV Γ σ c (t, i))).set k (.long x) = (List.range (nFld c)).map (fldV Γ (pJ σ t i k x) c (t, i)) := by
  rw [rng_set]
  apply List.map_congr_left
  intro j _
  show (if j = k then Value.long x else fldV Γ σ c (t, i) j) = fldV Γ (pJ σ t i k x) c (t, i) j
  unfold fldV
  show _ = (match ftT c j with | 0 => Value.int (mI σ t i j) | 1 => .long (up3 (mJ σ) t i k x t i j) | _ => va_rf (refV Γ (mR σ t i j)))
  rw [up3_at]
  by_cases h : j = k
  · subst h; rw [hy]; simp
  · rw [if_neg h, if_neg h]
    rfl
theorem fs_pR {Γ : GG} {σ : Mem} {c t i k : Nat} {x : Nat × Nat} (hy : ftT c k = 2) : ((List.range (nFld c)).map (fldV Γ σ c (t, i))).set k (.ref (adr Γ x.1 x.2)) = (List.range (nFld c)).map (fldV Γ (pR σ t i k x) c (t, i)) := by
  rw [rng_set]
  apply List.map_congr_left
  intro j _
  show (if j = k then Value.ref (adr Γ x.1 x.2) else fldV Γ σ c (t, i) j) = fldV Γ (pR σ t i k x) c (t, i) j
  unfold fldV
  show _ = (match ftT c j with | 0 => Value.int (mI σ t i j) | 1 => .long (mJ σ t i j) | _ => va_rf (refV Γ (up3 (mR σ) t i k (some x) t i j)))
  rw [up3_at]
  by_cases h : j = k
  · subst h; rw [hy]; simp [refV, va_rf]
  · rw [if_neg h, if_neg h]
    rfl
/-- the fields' types, as the tables have them -/
theorem fty_ok : ∀ c, c < 8 → ∀ k, k < nFld c → (ftT c k = 0 → clsY c k = .int) ∧ (ftT c k = 1 → clsY c k = .long) ∧ (ftT c k = 2 → (∃ n, clsY c k = .object n) ∨ ∃ n, clsY c k = .array n) ∧ (ftT c k = 1 → (clsT c k).2.2.2 = false) := by
  have key : ∀ c, c < 8 → ∀ k, k < nFld c → (match ftT c k, clsY c k with
    | 0, .int => true
    | 1, .long => !(clsT c k).2.2.2
    | 2, .object _ => true
    | 2, .array _ => true
    | _, _ => false) = true := fun c h => lt8 (P := fun c => ∀ k, k < nFld c → (match ftT c k, clsY c k with
    | 0, .int => true
    | 1, .long => !(clsT c k).2.2.2
    | 2, .object _ => true
    | 2, .array _ => true
    | _, _ => false) = true) h (by decide +kernel) (by decide +kernel) (by decide +kernel) (by decide +kernel) (by decide +kernel) (by decide +kernel) (by decide +kernel) (by decide +kernel)
  intro c hc k hk
  have h := key c hc k hk
  split at h <;> simp_all
/-- a final field is stored in its own class's constructor alone -/
theorem so_putfield {idx ci k t i : Nat} {v : MV} {σ' : Mem} (hm : mi < 163) (hd : decode (mCode mi) pc = .ok (.putfield idx, 3)) (hf : look2 fldL (mOwnNo mi) idx = some (ci, k)) (hk : kdK t = ci)
    (hnar : narrow (clsY ci k) (toV Γ v) = toV Γ v) (hfit : fits (clsY ci k) (toV Γ v) = true)
    (hfin : (clsT ci k).2.2.2 = true → mOwn mi = clsR ci ∧ (mName mi).name = "<init>" ∧ (clsT ci k).1 = clsR ci)
    (hs : ((List.range (nFld ci)).map (fldV Γ σ ci (t, i))).set k (toV Γ v) = (List.range (nFld ci)).map (fldV Γ σ' ci (t, i)))
    (hn1 : σ'.1 = σ.1) (ho : ∀ q : Nat × Nat, q ≠ (t, i) → cellE Γ σ' q = cellE Γ σ q)
    (hw : ∀ H H1, Wd Γ σ H → alive σ t i → okV σ v → va_P (gD Γ) vwCl (wsOf Γ σ') H1 → va_D (gA Γ) (wsOf Γ σ') → H1.size = H.size → Wd Γ σ' H1) (hmo : ∀ w, okV σ w → okV σ' w)
    (h : Go Γ mi (pc + 3) lv r σ' cnt Q) : Go Γ mi pc lv (v :: .inr (t, i) :: r) σ cnt Q := by
  intro n0 p e s m args below meth c H locs ls hn M hl hW hS hlv hst h1
  obtain ⟨f1, f2, f3⟩ := fld_ok hf
  have ht : t < 85 := kdK_in hk (by omega)
  have ha : alive σ t i := okS_hd (okS_tl hst) ht
  have hcell := ws_get (Γ := Γ) ha
  rw [cell_obj hk f1] at hcell
  have hset : (wsOf Γ σ).set (ordT t i) (adr Γ t i, .inr (ci, ((List.range (nFld ci)).map (fldV Γ σ ci (t, i))).set k (toV Γ v))) = wsOf Γ σ' := by
    rw [hs, ← cell_obj hk f1]
    exact ws_set ha hn1 ho
  have hlen : k < ((List.range (nFld ci)).map (fldV Γ σ ci (t, i))).length := by rw [List.length_map, List.length_range]; exact f2
  have kk : ∀ (H1 : Heap) (locs1 : List Loc), H1.size = H.size → va_P (gD Γ) vwCl ((wsOf Γ σ).set (ordT t i) (adr Γ t i, .inr (ci, ((List.range (nFld ci)).map (fldV Γ σ ci (t, i))).set k (toV Γ v)))) H1 → va_D (gA Γ) ((wsOf Γ σ).set (ordT t i) (adr Γ t i, .inr (ci, ((List.range (nFld ci)).map (fldV Γ σ ci (t, i))).set k (toV Γ v)))) → va_S (gA Γ) s.heap H1 locs1 → W p (gL Γ) e (mRm mi) s m args below meth c H1 locs1 cnt.1 cnt.2 (ZOf Γ n0 mi Q below args s) (F0 m (pc + 3) ls (r.map (toV Γ))) := by
    intro H1 locs1 hz hP1 hD1 hS1
    rw [hset] at hP1 hD1
    exact h n0 p e s m args below meth c H1 locs1 ls (by rw [hn1]; exact hn) M hl (hw H H1 hW ha (okS_hd hst) hP1 hD1 hz) hS1 (fun q hq => hmo _ (hlv q hq)) (fun q hq => hmo _ (okS_tl (okS_tl hst) q hq)) h1
  by_cases hfi : (clsT ci k).2.2.2 = true
  · obtain ⟨g1, g2, g3⟩ := hfin hfi
    exact vz_putF M.1 M.2.1 M.2.2.2.2.2.1 (cls_ws f1) (clsY ci) (cls_ty f1) (cls_nm f1) M.2.2.2.2.1 M.2.2.2.2.2.2.2.2.1 hW.1 hW.2.1 hS (ordT t i) hcell (cls_at f1) k f2 (M.2.2.2.2.2.1 _ (by rw [mOwn_eq mi hm]; exact f3)) (fun x hx => hx) hfi (M.2.2.2.2.2.2.2.1.2.trans g2) (g3.trans g1.symm) (cls_ty f1 k f2) hnar hfit hlen hd kk
  · exact vz_put M.1 M.2.1 M.2.2.2.2.2.1 (cls_ws f1) (clsY ci) (cls_ty f1) (cls_nm f1) M.2.2.2.2.1 M.2.2.2.2.2.2.2.2.1 hW.1 hW.2.1 hS (ordT t i) hcell (cls_at f1) k f2 (M.2.2.2.2.2.1 _ (by rw [mOwn_eq mi hm]; exact f3)) (fun x hx => hx) (by simpa using hfi) (cls_ty f1 k f2) hnar hfit hlen hd kk
/-- a final field is stored by its own class's constructor alone: at every such op -/
def finOk (mi pc : Nat) : Bool := match opU mi pc with
  | some (19, _, b, c, _, _) => !(clsT c b).2.2.2 || (decide (mOwn mi = clsR c) && (decide ((mName mi).name = "<init>") && decide ((clsT c b).1 = clsR c)))
  | _ => true
theorem finOk_all0 : (List.range 163).all (fun mi => (List.range (mLen mi)).all (finOk mi)) = true := by decide +kernel
theorem fin_ok {mi pc ci k n : Nat} {a : Int} {l : List Nat} (h : opU mi pc = some (19, a, k, ci, n, l)) (hf : (clsT ci k).2.2.2 = true) : mOwn mi = clsR ci ∧ (mName mi).name = "<init>" ∧ (clsT ci k).1 = clsR ci := by
  have hm := (opU_spec h).1
  have hp : pc < mLen mi := by
    rcases Nat.lt_or_ge pc (mLen mi) with q | q
    · exact q
    · unfold opU at h
      rw [Nat.ble_eq_true_of_le q] at h
      cases hb : Nat.ble 163 mi <;> rw [hb] at h <;> cases h
  have h1 := List.all_eq_true.mp (List.all_eq_true.mp finOk_all0 mi (List.mem_range.mpr hm)) pc (List.mem_range.mpr hp)
  unfold finOk at h1
  rw [h] at h1
  simp only [hf, Bool.not_true, Bool.false_or, Bool.and_eq_true, decide_eq_true_eq] at h1
  exact h1
theorem so_putI {idx ci k t i n : Nat} {a : Int} {l : List Nat} {x : Int32} (hop : opU mi pc = some (19, a, k, ci, n, l)) (hd : decode (mCode mi) pc = .ok (.putfield idx, 3)) (hf : look2 fldL (mOwnNo mi) idx = some (ci, k)) (hk : kdK t = ci) (hy : ftT ci k = 0) (h : Go Γ mi (pc + 3) lv r (pI σ t i k x) cnt Q) : Go Γ mi pc lv (.inl (.int x) :: .inr (t, i) :: r) σ cnt Q := by
  obtain ⟨f1, f2, f3⟩ := fld_ok hf
  have e := (fty_ok ci f1 k f2).1 hy
  exact so_putfield (v := .inl (.int x)) (opU_spec hop).1 hd hf hk (by rw [e]; rfl) (by rw [e]; rfl) (fin_ok hop) (fs_pI hy) rfl cellE_pI (fun H H1 hW ha _ hP1 hD1 hz => Wd_pI hW ha hP1 hD1 (Nat.le_of_eq hz.symm) (Or.inr hz)) (fun w => mo_I) h
theorem so_putJ {idx ci k t i n : Nat} {a : Int} {l : List Nat} {x : Int64} (hop : opU mi pc = some (19, a, k, ci, n, l)) (hd : decode (mCode mi) pc = .ok (.putfield idx, 3)) (hf : look2 fldL (mOwnNo mi) idx = some (ci, k)) (hk : kdK t = ci) (hy : ftT ci k = 1) (h : Go Γ mi (pc + 3) lv r (pJ σ t i k x) cnt Q) : Go Γ mi pc lv (.inl (.long x) :: .inr (t, i) :: r) σ cnt Q := by
  obtain ⟨f1, f2, f3⟩ := fld_ok hf
  have e := (fty_ok ci f1 k f2).2.1 hy
  exact so_putfield (v := .inl (.long x)) (opU_spec hop).1 hd hf hk (by rw [e]; rfl) (by rw [e]; rfl) (fin_ok hop) (fs_pJ hy) rfl cellE_pJ (fun H H1 hW ha _ hP1 hD1 hz => Wd_pJ hW ha hP1 hD1 (Nat.le_of_eq hz.symm) (Or.inr hz)) (fun w => mo_J) h
theorem so_putR {idx ci k t i n : Nat} {a : Int} {l : List Nat} {q : Nat × Nat} (hop : opU mi pc = some (19, a, k, ci, n, l)) (hd : decode (mCode mi) pc = .ok (.putfield idx, 3)) (hf : look2 fldL (mOwnNo mi) idx = some (ci, k)) (hk : kdK t = ci) (hy : ftT ci k = 2) (hq : q.1 < 85) (h : Go Γ mi (pc + 3) lv r (pR σ t i k q) cnt Q) : Go Γ mi pc lv (.inr q :: .inr (t, i) :: r) σ cnt Q := by
  obtain ⟨f1, f2, f3⟩ := fld_ok hf
  have e := (fty_ok ci f1 k f2).2.2.1 hy
  exact so_putfield (v := .inr q) (opU_spec hop).1 hd hf hk (by rcases e with ⟨z, e⟩ | ⟨z, e⟩ <;> rw [e] <;> rfl) (by rcases e with ⟨z, e⟩ | ⟨z, e⟩ <;> rw [e] <;> rfl) (fin_ok hop) (fs_pR hy) rfl cellE_pR (fun H H1 hW ha hv hP1 hD1 hz => Wd_pR hW ha ⟨hq, hv hq⟩ hP1 hD1 (Nat.le_of_eq hz.symm) (Or.inr hz)) (fun w => mo_R) h
theorem so_iastore {t i : Nat} {j x : Int32} (hd : decode (mCode mi) pc = .ok (.iastore, 1)) (hk : kdK t = 10) (hj : vp_in j (lenT t)) (h : Go Γ mi (pc + 1) lv r (pI σ t i j.toNatClampNeg x) cnt Q) : Go Γ mi pc lv (.inl (.int x) :: .inl (.int j) :: .inr (t, i) :: r) σ cnt Q := by
  intro n0 p e s m args below meth c H locs ls hn M hl hW hS hlv hst h1
  have ha : alive σ t i := okS_hd (okS_tl (okS_tl hst)) (kdK_in hk (by decide))
  have hcell := ws_get (Γ := Γ) ha
  rw [cell_num hk (by decide) (by decide) (by decide)] at hcell
  refine vz_iast M.1 M.2.1 M.2.2.2.2.2.2.2.2.1 hW.1 hW.2.1 hS (ordT t i) 0 hcell rfl hj hd (fun H1 locs1 hz hP1 hD1 hS1 => ?_)
  have hset : (wsOf Γ σ).set (ordT t i) (adr Γ t i, .inl (gC Γ 10, lenT t, .inl (upd (mI σ t i) j.toNatClampNeg x))) = wsOf Γ (pI σ t i j.toNatClampNeg x) := by
    rw [← ws_set (Γ := Γ) (σ' := pI σ t i j.toNatClampNeg x) ha rfl cellE_pI, cell_num hk (by decide) (by decide) (by decide)]
    have e : mI (pI σ t i j.toNatClampNeg x) t i = upd (mI σ t i) j.toNatClampNeg x := by
      funext q
      show up3 (mI σ) t i j.toNatClampNeg x t i q = _
      rw [up3_at]; rfl
    rw [e]
  rw [hset] at hP1 hD1
  exact h n0 p e s m args below meth c H1 locs1 ls hn M hl (Wd_pI hW ha hP1 hD1 (Nat.le_of_eq hz.symm) (Or.inr hz)) hS1 (fun q hq => mo_I (hlv q hq)) (fun q hq => mo_I (okS_tl (okS_tl (okS_tl hst)) q hq)) h1
theorem so_bastore {t i : Nat} {j x : Int32} (hd : decode (mCode mi) pc = .ok (.bastore, 1)) (hk : kdK t = 11) (hn9 : σ.1 = none) (hj : vp_in j (lenT t)) (h : Go Γ mi (pc + 1) lv r (pI σ t i j.toNatClampNeg (vp_nar .byte x)) cnt Q) : Go Γ mi pc lv (.inl (.int x) :: .inl (.int j) :: .inr (t, i) :: r) σ cnt Q := by
  intro n0 p e s m args below meth c H locs ls hn M hl hW hS hlv hst h1
  have ha : alive σ t i := okS_hd (okS_tl (okS_tl hst)) (kdK_in hk (by decide))
  have hcell := ws_get (Γ := Γ) ha
  rw [cell_num hk (by decide) (by decide) (by decide)] at hcell
  have hz : ∀ H1 locs1, va_S (gA Γ) s.heap H1 locs1 → gB Γ ≤ H1.size := fun H1 _ q => Nat.le_trans M.2.2.2.2.2.2.2.2.2.1 q.1
  refine va_bast M.1 M.2.1 M.2.2.2.2.2.2.2.2.1 hW.1 hW.2.1 hS (ordT t i) 1 hcell rfl hj hd (fun H1 locs1 hP1 hD1 hS1 => ?_)
  have hset : (wsOf Γ σ).set (ordT t i) (adr Γ t i, .inl (gC Γ 11, lenT t, .inl (upd (mI σ t i) j.toNatClampNeg (vp_nar .byte x)))) = wsOf Γ (pI σ t i j.toNatClampNeg (vp_nar .byte x)) := by
    rw [← ws_set (Γ := Γ) (σ' := pI σ t i j.toNatClampNeg (vp_nar .byte x)) ha rfl cellE_pI, cell_num hk (by decide) (by decide) (by decide)]
    have e : mI (pI σ t i j.toNatClampNeg (vp_nar .byte x)) t i = upd (mI σ t i) j.toNatClampNeg (vp_nar .byte x) := by
      funext q
      show up3 (mI σ) t i j.toNatClampNeg (vp_nar .byte x) t i q = _
      rw [up3_at]; rfl
    rw [e]
  rw [hset] at hP1 hD1
  refine h n0 p e s m args below meth c H1 locs1 ls hn M hl ?_ hS1 (fun q hq => mo_I (hlv q hq)) (fun q hq => mo_I (okS_tl (okS_tl (okS_tl hst)) q hq)) h1
  exact Wd_pI0 hW ha hP1 hD1 (hz H1 locs1 hS1) hn9
theorem so_zastore {t i : Nat} {j x : Int32} (hd : decode (mCode mi) pc = .ok (.bastore, 1)) (hk : kdK t = 13) (hn9 : σ.1 = none) (hj : vp_in j (lenT t)) (h : Go Γ mi (pc + 1) lv r (pI σ t i j.toNatClampNeg (vp_nar .boolean x)) cnt Q) : Go Γ mi pc lv (.inl (.int x) :: .inl (.int j) :: .inr (t, i) :: r) σ cnt Q := by
  intro n0 p e s m args below meth c H locs ls hn M hl hW hS hlv hst h1
  have ha : alive σ t i := okS_hd (okS_tl (okS_tl hst)) (kdK_in hk (by decide))
  have hcell := ws_get (Γ := Γ) ha
  rw [cell_num hk (by decide) (by decide) (by decide)] at hcell
  have hz : ∀ H1 locs1, va_S (gA Γ) s.heap H1 locs1 → gB Γ ≤ H1.size := fun H1 _ q => Nat.le_trans M.2.2.2.2.2.2.2.2.2.1 q.1
  refine va_zast M.1 M.2.1 M.2.2.2.2.2.2.2.2.1 hW.1 hW.2.1 hS (ordT t i) 3 hcell rfl hj hd (fun H1 locs1 hP1 hD1 hS1 => ?_)
  have hset : (wsOf Γ σ).set (ordT t i) (adr Γ t i, .inl (gC Γ 13, lenT t, .inl (upd (mI σ t i) j.toNatClampNeg (vp_nar .boolean x)))) = wsOf Γ (pI σ t i j.toNatClampNeg (vp_nar .boolean x)) := by
    rw [← ws_set (Γ := Γ) (σ' := pI σ t i j.toNatClampNeg (vp_nar .boolean x)) ha rfl cellE_pI, cell_num hk (by decide) (by decide) (by decide)]
    have e : mI (pI σ t i j.toNatClampNeg (vp_nar .boolean x)) t i = upd (mI σ t i) j.toNatClampNeg (vp_nar .boolean x) := by
      funext q
      show up3 (mI σ) t i j.toNatClampNeg (vp_nar .boolean x) t i q = _
      rw [up3_at]; rfl
    rw [e]
  rw [hset] at hP1 hD1
  refine h n0 p e s m args below meth c H1 locs1 ls hn M hl ?_ hS1 (fun q hq => mo_I (hlv q hq)) (fun q hq => mo_I (okS_tl (okS_tl (okS_tl hst)) q hq)) h1
  exact Wd_pI0 hW ha hP1 hD1 (hz H1 locs1 hS1) hn9
theorem so_lastore {t i : Nat} {j : Int32} {x : Int64} (hd : decode (mCode mi) pc = .ok (.lastore, 1)) (hk : kdK t = 12) (hn9 : σ.1 = none) (hj : vp_in j (lenT t)) (h : Go Γ mi (pc + 1) lv r (pJ σ t i j.toNatClampNeg x) cnt Q) : Go Γ mi pc lv (.inl (.long x) :: .inl (.int j) :: .inr (t, i) :: r) σ cnt Q := by
  intro n0 p e s m args below meth c H locs ls hn M hl hW hS hlv hst h1
  have ha : alive σ t i := okS_hd (okS_tl (okS_tl hst)) (kdK_in hk (by decide))
  have hcell := ws_get (Γ := Γ) ha
  rw [cell_long hk] at hcell
  have hz : ∀ H1 locs1, va_S (gA Γ) s.heap H1 locs1 → gB Γ ≤ H1.size := fun H1 _ q => Nat.le_trans M.2.2.2.2.2.2.2.2.2.1 q.1
  refine va_last M.1 M.2.1 M.2.2.2.2.2.2.2.2.1 hW.1 hW.2.1 hS (ordT t i) 2 hcell rfl hj hd (fun H1 locs1 hP1 hD1 hS1 => ?_)
  have hset : (wsOf Γ σ).set (ordT t i) (adr Γ t i, .inl (gC Γ 12, lenT t, .inr (.inl (vp_updL (mJ σ t i) j.toNatClampNeg x)))) = wsOf Γ (pJ σ t i j.toNatClampNeg x) := by
    rw [← ws_set (Γ := Γ) (σ' := pJ σ t i j.toNatClampNeg x) ha rfl cellE_pJ, cell_long hk]
    have e : mJ (pJ σ t i j.toNatClampNeg x) t i = vp_updL (mJ σ t i) j.toNatClampNeg x := by
      funext q
      show up3 (mJ σ) t i j.toNatClampNeg x t i q = _
      rw [up3_at]; rfl
    rw [e]
  rw [hset] at hP1 hD1
  refine h n0 p e s m args below meth c H1 locs1 ls hn M hl ?_ hS1 (fun q hq => mo_J (hlv q hq)) (fun q hq => mo_J (okS_tl (okS_tl (okS_tl hst)) q hq)) h1
  exact Wd_pJ0 hW ha hP1 hD1 (hz H1 locs1 hS1) hn9
end SNT
