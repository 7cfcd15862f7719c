/-! Every op, and so every stretch of ops, is sound. -/
theorem so_aastore {Γ : GG} {mi pc : Nat} {lv : LV} {r : List MV} {σ : Mem} {cnt : Nat × Nat} {Q : Out → Mem → Prop} {t i u g : Nat} {j : Int32} (hd : decode (mCode mi) pc = .ok (.aastore, 1)) (hk : (kdK t = 14 ∧ kdK u = 4) ∨ (kdK t = 15 ∧ kdK u = 0)) (hj : vp_in j (lenT t)) (h : Go Γ mi (pc + 1) lv r (pR σ t i j.toNatClampNeg (u, g)) cnt Q) : Go Γ mi pc lv (.inr (u, g) :: .inl (.int j) :: .inr (t, i) :: r) σ cnt Q := by
  intro n0 p e s m args below meth c H locs ls hn M hl hW hS hlv hst h1
  have ht : t < 85 := kdK_in (t := t) rfl (by omega)
  have hu : u < 85 := kdK_in (t := u) rfl (by omega)
  have ha : alive σ t i := okS_hd (okS_tl (okS_tl hst)) ht
  have hb : alive σ u g := okS_hd hst hu
  have h14 : 14 ≤ kdK t := by omega
  have h8 : kdK u < 8 := by omega
  have hcell := ws_get (Γ := Γ) ha
  rw [cell_ref rfl h14] at hcell
  have hcu := ws_get (Γ := Γ) hb
  rw [cell_obj rfl h8] at hcu
  obtain ⟨t0, ht0⟩ : ∃ t0 : Nat, (tysOf Γ)[t0]? = some (gC Γ (kdK t), FieldType.object (clsR (kdK u))) := by
    rcases hk with ⟨e1, e2⟩ | ⟨e1, e2⟩
    · rw [e1, e2]; exact ⟨4, rfl⟩
    · rw [e1, e2]; exact ⟨5, rfl⟩
  refine vz_astq M.1 M.2.1 M.2.2.2.2.2.2.2.2.1 hW.1 hW.2.1 hS (ordT t i) t0 (ordT u g) (kdK u) hcell ht0 hcu (cls_at h8) hj hd (fun H1 locs1 hz hP1 hD1 hS1 => ?_)
  have hset : (wsOf Γ σ).set (ordT t i) (adr Γ t i, .inl (gC Γ (kdK t), lenT t, .inr (.inr (.inr (.inr (va_up (fun j => refV Γ (mR σ t i j)) j.toNatClampNeg (some (adr Γ u g)))))))) = wsOf Γ (pR σ t i j.toNatClampNeg (u, g)) := by
    rw [← ws_set (Γ := Γ) (σ' := pR σ t i j.toNatClampNeg (u, g)) ha rfl cellE_pR, cell_ref rfl h14]
    have e2 : (fun q => refV Γ (mR (pR σ t i j.toNatClampNeg (u, g)) t i q)) = va_up (fun j => refV Γ (mR σ t i j)) j.toNatClampNeg (some (adr Γ u g)) := by
      funext q
      show refV Γ (up3 (mR σ) t i j.toNatClampNeg (some (u, g)) t i q) = if q = j.toNatClampNeg then some (adr Γ u g) else refV Γ (mR σ t i q)
      rw [up3_at]
      by_cases hq : q = j.toNatClampNeg
      · rw [if_pos hq, if_pos hq]; rfl
      · rw [if_neg hq, if_neg hq]
    rw [e2]
  rw [hset] at hP1 hD1
  exact h n0 p e s m args below meth c H1 locs1 ls hn M hl (Wd_pR hW ha ⟨hu, hb⟩ hP1 hD1 (Nat.le_of_eq hz.symm) (Or.inr hz)) hS1 (fun q hq => mo_R (hlv q hq)) (fun q hq => mo_R (okS_tl (okS_tl (okS_tl hst)) q hq)) h1
theorem so_lawret9 {Γ : GG} {pc : Nat} {lv : LV} {σ : Mem} {cnt : Nat × Nat} {Q : Out → Mem → Prop} {x : Int32} (hx : x = 1) (hd : decode (mCode 162) pc = .ok (.ireturn, 1)) (hc : cnt.1 ≤ mMc 162) (hs : cnt.2 ≤ mMs 162) : Go Γ 162 pc lv [.inl (.int x)] σ cnt Q := by
  rw [hx]
  exact so_lawret hd hc hs
theorem no31_0 : (List.range 163).all (fun mi => (List.range (mLen mi)).all (fun pc => match opU mi pc with
  | some (31, _, _, _, _, _) => (match decode (mCode mi) pc with
    | .ok (.multianewarray _ _, _) => true
    | _ => false)
  | _ => true)) = true := by decide +kernel
theorem no31 {mi pc idx len b c n : Nat} {a : Int} {l : List Nat} (h : opU mi pc = some (31, a, b, c, n, l)) (hd : decode (mCode mi) pc = .ok (.new idx, len)) : False := by
  obtain ⟨h1, h2⟩ := opU_lt h
  have h3 := List.all_eq_true.mp (List.all_eq_true.mp no31_0 mi (List.mem_range.mpr h1)) pc (List.mem_range.mpr h2)
  rw [h, hd] at h3
  cases h3
def is2w (mi pc : Nat) : Bool := match decode (mCode mi) pc with
  | .ok (.ldc2_w _, _) => true
  | _ => false
def ldcOk (mi pc : Nat) : Bool := match opU mi pc with
  | some (1, _, _, _, n, _) => Nat.beq n (pc + 1) || is2w mi pc
  | some (0, _, _, _, n, _) => !Nat.beq n (pc + 3) || !is2w mi pc
  | some (33, _, _, _, n, _) => !Nat.beq n (pc + 3) || !is2w mi pc
  | _ => true
theorem ldcOk_all : (List.range 163).all (fun mi => (List.range (mLen mi)).all (ldcOk mi)) = true := by decide +kernel
theorem ldcOk_at {mi pc : Nat} {o : Op} (h : opU mi pc = some o) : ldcOk mi pc = true := by
  obtain ⟨h1, h2⟩ := opU_lt h
  exact List.all_eq_true.mp (List.all_eq_true.mp ldcOk_all mi (List.mem_range.mpr h1)) pc (List.mem_range.mpr h2)
theorem ldc_no1 {mi pc b c n : Nat} {a : Int} {l : List Nat} (h : opU mi pc = some (1, a, b, c, n, l)) (h2 : is2w mi pc = false) (hn : n ≠ pc + 1) : False := by
  have h3 := ldcOk_at h
  unfold ldcOk at h3
  rw [h] at h3
  have h3 : (Nat.beq n (pc + 1) || is2w mi pc) = true := h3
  rw [h2, Bool.or_false] at h3
  exact hn (Nat.eq_of_beq_eq_true h3)
theorem ldc2_no {mi pc b c k : Nat} {a : Int} {l : List Nat} (h : opU mi pc = some (k, a, b, c, pc + 3, l)) (h2 : is2w mi pc = true) (hk : k = 0 ∨ k = 33) : False := by
  have h3 := ldcOk_at h
  unfold ldcOk at h3
  rw [h] at h3
  rcases hk with rfl | rfl
  · have h3 : (!Nat.beq (pc + 3) (pc + 3) || !is2w mi pc) = true := h3
    rw [h2, Nat.beq_refl] at h3
    cases h3
  · have h3 : (!Nat.beq (pc + 3) (pc + 3) || !is2w mi pc) = true := h3
    rw [h2, Nat.beq_refl] at h3
    cases h3
theorem swA_mono {x : Int32} {k k' : Nat → Prop} (h : ∀ t, k t → k' t) : ∀ {ts : List Nat} {lo : Int}, swA x k lo ts → swA x k' lo ts
  | [], _, _ => trivial
  | t :: ts, lo, q => ⟨fun e => h t (q.1 e), swA_mono h q.2⟩
set_option maxHeartbeats 4000000 in
theorem vs_sound {Γ : GG} {mi pc : Nat} {o : Op} {lv : LV} {st : List MV} {σ : Mem} {cnt : Nat × Nat} {Q : Out → Mem → Prop} {k : Nat → LV → List MV → Mem → Nat × Nat → Prop} (ho : opU mi pc = some o) (hk : ∀ pc' lv' st' σ' cnt', k pc' lv' st' σ' cnt' → Go Γ mi pc' lv' st' σ' cnt' Q)
    (h : vs (gN Γ) (gS Γ) (Gm Γ) Q mi k o pc lv st σ cnt) : Go Γ mi pc lv st σ cnt Q := by
  obtain ⟨hm, i, len, hd, hok, rfl⟩ := opU_spec ho
  cases i with
  | iconst v =>
    have e := Nat.eq_of_beq_eq_true hok
    subst e
    exact so_iconst hd (hk _ _ _ _ _ h)
  | bipush v =>
    simp only [insOk, Bool.and_eq_true, decide_eq_true_eq] at hok
    have e := Nat.eq_of_beq_eq_true hok.1
    subst e
    exact so_bipush hok.2 hd (hk _ _ _ _ _ h)
  | sipush v =>
    simp only [insOk, Bool.and_eq_true, decide_eq_true_eq] at hok
    have e := Nat.eq_of_beq_eq_true hok.1
    subst e
    exact so_sipush hok.2 hd (hk _ _ _ _ _ h)
  | lconst v =>
    have e := Nat.eq_of_beq_eq_true hok
    subst e
    exact so_lconst hd (hk _ _ _ _ _ h)
  | ldc idx =>
    have e := Nat.eq_of_beq_eq_true hok
    subst e
    have h : vs (gN Γ) (gS Γ) (Gm Γ) Q mi k (opLdc (mOwnNo mi) idx (pc + 2)) pc lv st σ cnt := h
    have ho : opU mi pc = some (opLdc (mOwnNo mi) idx (pc + 2)) := ho
    unfold opLdc at h ho
    split at h
    · rename_i kk v s9 hl
      rw [hl] at ho
      rcases ldc_kind hl with ⟨rfl, -⟩ | ⟨rfl, -⟩ | rfl
      · exact so_ldcI hm (Or.inl hd) ⟨fun q => rfl, fun q => (by rw [hd] at q; cases q)⟩ hl (hk _ _ _ _ _ h)
      · exact (ldc_no1 ho (by unfold is2w; rw [hd]) (by omega)).elim
      · obtain ⟨h1, h⟩ := isTrue_spec h
        exact so_ldcS hm (by rw [Bool.and_eq_true] at h1; exact h1.2) hd hl (hk _ _ _ _ _ h)
    · exact h.elim
  | ldc_w idx =>
    have e := Nat.eq_of_beq_eq_true hok
    subst e
    have h : vs (gN Γ) (gS Γ) (Gm Γ) Q mi k (opLdc (mOwnNo mi) idx (pc + 3)) pc lv st σ cnt := h
    have ho : opU mi pc = some (opLdc (mOwnNo mi) idx (pc + 3)) := ho
    unfold opLdc at h ho
    split at h
    · rename_i kk v s9 hl
      rw [hl] at ho
      rcases ldc_kind hl with ⟨rfl, -⟩ | ⟨rfl, -⟩ | rfl
      · exact so_ldcI hm (Or.inr hd) ⟨fun q => (by rw [hd] at q; cases q), fun q => rfl⟩ hl (hk _ _ _ _ _ h)
      · exact (ldc_no1 ho (by unfold is2w; rw [hd]) (by omega)).elim
      · obtain ⟨h1, h⟩ := isTrue_spec h
        exact absurd (Nat.eq_of_beq_eq_true (show Nat.beq _ _ = true by rw [Bool.and_eq_true] at h1; exact h1.1)) (by omega)
    · exact h.elim
  | ldc2_w idx =>
    have e := Nat.eq_of_beq_eq_true hok
    subst e
    have h : vs (gN Γ) (gS Γ) (Gm Γ) Q mi k (opLdc (mOwnNo mi) idx (pc + 3)) pc lv st σ cnt := h
    have ho : opU mi pc = some (opLdc (mOwnNo mi) idx (pc + 3)) := ho
    unfold opLdc at h ho
    split at h
    · rename_i kk v s9 hl
      rw [hl] at ho
      rcases ldc_kind hl with ⟨rfl, -⟩ | ⟨rfl, -⟩ | rfl
      · exact (ldc2_no ho (by unfold is2w; rw [hd]) (Or.inl rfl)).elim
      · exact so_ldcL hm hd hl (hk _ _ _ _ _ h)
      · exact (ldc2_no ho (by unfold is2w; rw [hd]) (Or.inr rfl)).elim
    · exact h.elim
  | iload_n b =>
    have e := Nat.eq_of_beq_eq_true hok
    subst e
    have h : (match (generalizing := false) (0 : Nat), getL lv (b : Nat) with | 0, some (.inl (.int x)) => k (pc + 1) lv (.inl (.int x) :: st) σ cnt | 1, some (.inr q) => k (pc + 1) lv (.inr q :: st) σ cnt | 2, some (.inl (.long x)) => k (pc + 1) lv (.inl (.long x) :: st) σ cnt | _, _ => False) := h
    split at h
    all_goals first | exact h.elim | contradiction | (rename_i hg; exact so_iload_n hd hg (hk _ _ _ _ _ h))
  | iload b =>
    have e := Nat.eq_of_beq_eq_true hok
    subst e
    have h : (match (generalizing := false) (0 : Nat), getL lv (b : Nat) with | 0, some (.inl (.int x)) => k (pc + 2) lv (.inl (.int x) :: st) σ cnt | 1, some (.inr q) => k (pc + 2) lv (.inr q :: st) σ cnt | 2, some (.inl (.long x)) => k (pc + 2) lv (.inl (.long x) :: st) σ cnt | _, _ => False) := h
    split at h
    all_goals first | exact h.elim | contradiction | (rename_i hg; exact so_iload hd hg (hk _ _ _ _ _ h))
  | aload_n b =>
    have e := Nat.eq_of_beq_eq_true hok
    subst e
    have h : (match (generalizing := false) (1 : Nat), getL lv (b : Nat) with | 0, some (.inl (.int x)) => k (pc + 1) lv (.inl (.int x) :: st) σ cnt | 1, some (.inr q) => k (pc + 1) lv (.inr q :: st) σ cnt | 2, some (.inl (.long x)) => k (pc + 1) lv (.inl (.long x) :: st) σ cnt | _, _ => False) := h
    split at h
    all_goals first | exact h.elim | contradiction | (rename_i hg; exact so_aload_n hd hg (hk _ _ _ _ _ h))
  | aload b =>
    have e := Nat.eq_of_beq_eq_true hok
    subst e
    have h : (match (generalizing := false) (1 : Nat), getL lv (b : Nat) with | 0, some (.inl (.int x)) => k (pc + 2) lv (.inl (.int x) :: st) σ cnt | 1, some (.inr q) => k (pc + 2) lv (.inr q :: st) σ cnt | 2, some (.inl (.long x)) => k (pc + 2) lv (.inl (.long x) :: st) σ cnt | _, _ => False) := h
    split at h
    all_goals first | exact h.elim | contradiction | (rename_i hg; exact so_aload hd hg (hk _ _ _ _ _ h))
  | lload_n b =>
    have e := Nat.eq_of_beq_eq_true hok
    subst e
    have h : (match (generalizing := false) (2 : Nat), getL lv (b : Nat) with | 0, some (.inl (.int x)) => k (pc + 1) lv (.inl (.int x) :: st) σ cnt | 1, some (.inr q) => k (pc + 1) lv (.inr q :: st) σ cnt | 2, some (.inl (.long x)) => k (pc + 1) lv (.inl (.long x) :: st) σ cnt | _, _ => False) := h
    split at h
    all_goals first | exact h.elim | contradiction | (rename_i hg; exact so_lload_n hd hg (hk _ _ _ _ _ h))
  | lload b =>
    have e := Nat.eq_of_beq_eq_true hok
    subst e
    have h : (match (generalizing := false) (2 : Nat), getL lv (b : Nat) with | 0, some (.inl (.int x)) => k (pc + 2) lv (.inl (.int x) :: st) σ cnt | 1, some (.inr q) => k (pc + 2) lv (.inr q :: st) σ cnt | 2, some (.inl (.long x)) => k (pc + 2) lv (.inl (.long x) :: st) σ cnt | _, _ => False) := h
    split at h
    all_goals first | exact h.elim | contradiction | (rename_i hg; exact so_lload hd hg (hk _ _ _ _ _ h))
  | istore_n b =>
    have e := Nat.eq_of_beq_eq_true hok
    subst e
    have h : (match (generalizing := false) (0 : Nat), st with | 0, .inl (.int x) :: r => isTrue (Nat.ble ((b : Nat) + 1) (mMaxL mi)) (k (pc + 1) (((b : Nat), .inl (.int x)) :: dropL lv b) r σ cnt) | 1, .inr q :: r => isTrue (Nat.ble ((b : Nat) + 1) (mMaxL mi)) (k (pc + 1) (((b : Nat), .inr q) :: dropL lv b) r σ cnt) | 2, .inl (.long x) :: r => isTrue (Nat.ble ((b : Nat) + 2) (mMaxL mi)) (k (pc + 1) (((b : Nat), .inl (.long x)) :: dropL2 lv b) r σ cnt) | _, _ => False) := h
    split at h
    all_goals first | exact h.elim | contradiction | exact so_istore_n hd (Nat.le_of_ble_eq_true (isTrue_spec h).1) (hk _ _ _ _ _ (isTrue_spec h).2)
  | istore b =>
    have e := Nat.eq_of_beq_eq_true hok
    subst e
    have h : (match (generalizing := false) (0 : Nat), st with | 0, .inl (.int x) :: r => isTrue (Nat.ble ((b : Nat) + 1) (mMaxL mi)) (k (pc + 2) (((b : Nat), .inl (.int x)) :: dropL lv b) r σ cnt) | 1, .inr q :: r => isTrue (Nat.ble ((b : Nat) + 1) (mMaxL mi)) (k (pc + 2) (((b : Nat), .inr q) :: dropL lv b) r σ cnt) | 2, .inl (.long x) :: r => isTrue (Nat.ble ((b : Nat) + 2) (mMaxL mi)) (k (pc + 2) (((b : Nat), .inl (.long x)) :: dropL2 lv b) r σ cnt) | _, _ => False) := h
    split at h
    all_goals first | exact h.elim | contradiction | exact so_istore hd (Nat.le_of_ble_eq_true (isTrue_spec h).1) (hk _ _ _ _ _ (isTrue_spec h).2)
  | astore_n b =>
    have e := Nat.eq_of_beq_eq_true hok
    subst e
    have h : (match (generalizing := false) (1 : Nat), st with | 0, .inl (.int x) :: r => isTrue (Nat.ble ((b : Nat) + 1) (mMaxL mi)) (k (pc + 1) (((b : Nat), .inl (.int x)) :: dropL lv b) r σ cnt) | 1, .inr q :: r => isTrue (Nat.ble ((b : Nat) + 1) (mMaxL mi)) (k (pc + 1) (((b : Nat), .inr q) :: dropL lv b) r σ cnt) | 2, .inl (.long x) :: r => isTrue (Nat.ble ((b : Nat) + 2) (mMaxL mi)) (k (pc + 1) (((b : Nat), .inl (.long x)) :: dropL2 lv b) r σ cnt) | _, _ => False) := h
    split at h
    all_goals first | exact h.elim | contradiction | exact so_astore_n hd (Nat.le_of_ble_eq_true (isTrue_spec h).1) (hk _ _ _ _ _ (isTrue_spec h).2)
  | astore b =>
    have e := Nat.eq_of_beq_eq_true hok
    subst e
    have h : (match (generalizing := false) (1 : Nat), st with | 0, .inl (.int x) :: r => isTrue (Nat.ble ((b : Nat) + 1) (mMaxL mi)) (k (pc + 2) (((b : Nat), .inl (.int x)) :: dropL lv b) r σ cnt) | 1, .inr q :: r => isTrue (Nat.ble ((b : Nat) + 1) (mMaxL mi)) (k (pc + 2) (((b : Nat), .inr q) :: dropL lv b) r σ cnt) | 2, .inl (.long x) :: r => isTrue (Nat.ble ((b : Nat) + 2) (mMaxL mi)) (k (pc + 2) (((b : Nat), .inl (.long x)) :: dropL2 lv b) r σ cnt) | _, _ => False) := h
    split at h
    all_goals first | exact h.elim | contradiction | exact so_astore hd (Nat.le_of_ble_eq_true (isTrue_spec h).1) (hk _ _ _ _ _ (isTrue_spec h).2)
  | lstore_n b =>
    have e := Nat.eq_of_beq_eq_true hok
    subst e
    have h : (match (generalizing := false) (2 : Nat), st with | 0, .inl (.int x) :: r => isTrue (Nat.ble ((b : Nat) + 1) (mMaxL mi)) (k (pc + 1) (((b : Nat), .inl (.int x)) :: dropL lv b) r σ cnt) | 1, .inr q :: r => isTrue (Nat.ble ((b : Nat) + 1) (mMaxL mi)) (k (pc + 1) (((b : Nat), .inr q) :: dropL lv b) r σ cnt) | 2, .inl (.long x) :: r => isTrue (Nat.ble ((b : Nat) + 2) (mMaxL mi)) (k (pc + 1) (((b : Nat), .inl (.long x)) :: dropL2 lv b) r σ cnt) | _, _ => False) := h
    split at h
    all_goals first | exact h.elim | contradiction | exact so_lstore_n hd (Nat.le_of_ble_eq_true (isTrue_spec h).1) (hk _ _ _ _ _ (isTrue_spec h).2)
  | lstore b =>
    have e := Nat.eq_of_beq_eq_true hok
    subst e
    have h : (match (generalizing := false) (2 : Nat), st with | 0, .inl (.int x) :: r => isTrue (Nat.ble ((b : Nat) + 1) (mMaxL mi)) (k (pc + 2) (((b : Nat), .inl (.int x)) :: dropL lv b) r σ cnt) | 1, .inr q :: r => isTrue (Nat.ble ((b : Nat) + 1) (mMaxL mi)) (k (pc + 2) (((b : Nat), .inr q) :: dropL lv b) r σ cnt) | 2, .inl (.long x) :: r => isTrue (Nat.ble ((b : Nat) + 2) (mMaxL mi)) (k (pc + 2) (((b : Nat), .inl (.long x)) :: dropL2 lv b) r σ cnt) | _, _ => False) := h
    split at h
    all_goals first | exact h.elim | contradiction | exact so_lstore hd (Nat.le_of_ble_eq_true (isTrue_spec h).1) (hk _ _ _ _ _ (isTrue_spec h).2)
  | iinc b a =>
    have e := Nat.eq_of_beq_eq_true hok
    subst e
    have h : (match (generalizing := false) getL lv b with | some (.inl (.int x)) => isTrue (Nat.ble (b + 1) (mMaxL mi)) (k (pc + 3) ((b, .inl (.int (x + Int32.ofInt a))) :: dropL lv b) st σ cnt) | _ => False) := h
    split at h
    · rename_i hg; obtain ⟨h1, h⟩ := isTrue_spec h
      exact so_iinc hd hg (Nat.le_of_ble_eq_true h1) (hk _ _ _ _ _ h)
    · exact h.elim
  | iadd =>
    have e := Nat.eq_of_beq_eq_true hok
    subst e
    have h : (match (generalizing := false) st with | .inl (.int y) :: .inl (.int x) :: r => k (pc + 1) lv (.inl (.int (arI 0 x y)) :: r) σ cnt | _ => False) := h
    split at h
    · exact so_iadd hd (hk _ _ _ _ _ h)
    · exact h.elim
  | isub =>
    have e := Nat.eq_of_beq_eq_true hok
    subst e
    have h : (match (generalizing := false) st with | .inl (.int y) :: .inl (.int x) :: r => k (pc + 1) lv (.inl (.int (arI 1 x y)) :: r) σ cnt | _ => False) := h
    split at h
    · exact so_isub hd (hk _ _ _ _ _ h)
    · exact h.elim
  | imul =>
    have e := Nat.eq_of_beq_eq_true hok
    subst e
    have h : (match (generalizing := false) st with | .inl (.int y) :: .inl (.int x) :: r => k (pc + 1) lv (.inl (.int (arI 2 x y)) :: r) σ cnt | _ => False) := h
    split at h
    · exact so_imul hd (hk _ _ _ _ _ h)
    · exact h.elim
  | iand =>
    have e := Nat.eq_of_beq_eq_true hok
    subst e
    have h : (match (generalizing := false) st with | .inl (.int y) :: .inl (.int x) :: r => k (pc + 1) lv (.inl (.int (arI 3 x y)) :: r) σ cnt | _ => False) := h
    split at h
    · exact so_iand hd (hk _ _ _ _ _ h)
    · exact h.elim
  | ishr =>
    have e := Nat.eq_of_beq_eq_true hok
    subst e
    have h : (match (generalizing := false) st with | .inl (.int y) :: .inl (.int x) :: r => k (pc + 1) lv (.inl (.int (arI 4 x y)) :: r) σ cnt | _ => False) := h
    split at h
    · exact so_ishr hd (hk _ _ _ _ _ h)
    · exact h.elim
  | idiv =>
    have e := Nat.eq_of_beq_eq_true hok
    subst e
    have h : (match (generalizing := false) st with | .inl (.int y) :: .inl (.int x) :: r => ¬ y = 0 ∧ k (pc + 1) lv (.inl (.int (bif Nat.beq 0 0 then x / y else x - x / y * y)) :: r) σ cnt | _ => False) := h
    split at h
    · exact so_idiv h.1 hd (hk _ _ _ _ _ h.2)
    · exact h.elim
  | irem =>
    have e := Nat.eq_of_beq_eq_true hok
    subst e
    have h : (match (generalizing := false) st with | .inl (.int y) :: .inl (.int x) :: r => ¬ y = 0 ∧ k (pc + 1) lv (.inl (.int (bif Nat.beq 1 0 then x / y else x - x / y * y)) :: r) σ cnt | _ => False) := h
    split at h
    · exact so_irem h.1 hd (hk _ _ _ _ _ h.2)
    · exact h.elim
  | ladd =>
    have e := Nat.eq_of_beq_eq_true hok
    subst e
    have h : (match (generalizing := false) st with | .inl (.long y) :: .inl (.long x) :: r => k (pc + 1) lv (.inl (.long (arL 0 x y)) :: r) σ cnt | _ => False) := h
    split at h
    · exact so_ladd hd (hk _ _ _ _ _ h)
    · exact h.elim
  | lsub =>
    have e := Nat.eq_of_beq_eq_true hok
    subst e
    have h : (match (generalizing := false) st with | .inl (.long y) :: .inl (.long x) :: r => k (pc + 1) lv (.inl (.long (arL 1 x y)) :: r) σ cnt | _ => False) := h
    split at h
    · exact so_lsub hd (hk _ _ _ _ _ h)
    · exact h.elim
  | lmul =>
    have e := Nat.eq_of_beq_eq_true hok
    subst e
    have h : (match (generalizing := false) st with | .inl (.long y) :: .inl (.long x) :: r => k (pc + 1) lv (.inl (.long (arL 2 x y)) :: r) σ cnt | _ => False) := h
    split at h
    · exact so_lmul hd (hk _ _ _ _ _ h)
    · exact h.elim
  | ldiv =>
    have e := Nat.eq_of_beq_eq_true hok
    subst e
    have h : (match (generalizing := false) st with | .inl (.long y) :: .inl (.long x) :: r => ¬ y = 0 ∧ k (pc + 1) lv (.inl (.long (bif Nat.beq 0 0 then x / y else x - x / y * y)) :: r) σ cnt | _ => False) := h
    split at h
    · exact so_ldiv h.1 hd (hk _ _ _ _ _ h.2)
    · exact h.elim
  | lrem =>
    have e := Nat.eq_of_beq_eq_true hok
    subst e
    have h : (match (generalizing := false) st with | .inl (.long y) :: .inl (.long x) :: r => ¬ y = 0 ∧ k (pc + 1) lv (.inl (.long (bif Nat.beq 1 0 then x / y else x - x / y * y)) :: r) σ cnt | _ => False) := h
    split at h
    · exact so_lrem h.1 hd (hk _ _ _ _ _ h.2)
    · exact h.elim
  | ineg =>
    have e := Nat.eq_of_beq_eq_true hok
    subst e
    have h : (match (generalizing := false) st with | .inl (.int x) :: r => k (pc + 1) lv (.inl (.int (-x)) :: r) σ cnt | _ => False) := h
    split at h
    · exact so_ineg hd (hk _ _ _ _ _ h)
    · exact h.elim
  | i2l =>
    have e := Nat.eq_of_beq_eq_true hok
    subst e
    have h : (match (generalizing := false) st with | .inl (.int x) :: r => k (pc + 1) lv (.inl (.long x.toInt64) :: r) σ cnt | _ => False) := h
    split at h
    · exact so_i2l hd (hk _ _ _ _ _ h)
    · exact h.elim
  | l2i =>
    have e := Nat.eq_of_beq_eq_true hok
    subst e
    have h : (match (generalizing := false) st with | .inl (.long x) :: r => k (pc + 1) lv (.inl (.int x.toInt32) :: r) σ cnt | _ => False) := h
    split at h
    · exact so_l2i hd (hk _ _ _ _ _ h)
    · exact h.elim
  | i2b =>
    have e := Nat.eq_of_beq_eq_true hok
    subst e
    have h : (match (generalizing := false) st with | .inl (.int x) :: r => k (pc + 1) lv (.inl (.int x.toInt8.toInt32) :: r) σ cnt | _ => False) := h
    split at h
    · exact so_i2b hd (hk _ _ _ _ _ h)
    · exact h.elim
  | lcmp =>
    have e := Nat.eq_of_beq_eq_true hok
    subst e
    have h : (match (generalizing := false) st with | .inl (.long y) :: .inl (.long x) :: r => k (pc + 1) lv (.inl (.int (lg_cmp x y)) :: r) σ cnt | _ => False) := h
    split at h
    · exact so_lcmp hd (hk _ _ _ _ _ h)
    · exact h.elim
  | dup =>
    have e := Nat.eq_of_beq_eq_true hok
    subst e
    have h : (match (generalizing := false) st with | v :: r => isTrue (Nat.beq (catV v) 1) (k (pc + 1) lv (v :: v :: r) σ cnt) | _ => False) := h
    split at h
    · exact so_dup (Nat.eq_of_beq_eq_true (isTrue_spec h).1) hd (hk _ _ _ _ _ (isTrue_spec h).2)
    · exact h.elim
  | dup2 =>
    have e := Nat.eq_of_beq_eq_true hok
    subst e
    have h : (match (generalizing := false) st with | v :: w :: r => isTrue (Nat.beq (catV v) 1 && Nat.beq (catV w) 1) (k (pc + 1) lv (v :: w :: v :: w :: r) σ cnt) | _ => False) := h
    split at h
    · obtain ⟨h1, h⟩ := isTrue_spec h
      rw [Bool.and_eq_true] at h1
      exact so_dup2 (Nat.eq_of_beq_eq_true h1.1) (Nat.eq_of_beq_eq_true h1.2) hd (hk _ _ _ _ _ h)
    · exact h.elim
  | ifCond c off =>
    simp only [insOk, Bool.and_eq_true, decide_eq_true_eq] at hok
    have e := Nat.eq_of_beq_eq_true hok.1
    subst e
    have h : (match (generalizing := false) st with | .inl (.int x) :: r => (brC (condNo c) x 0 → k ((pc : Int) + off).toNat lv r σ cnt) ∧ (¬ brC (condNo c) x 0 → k (pc + 3) lv r σ cnt) | _ => False) := h
    split at h
    · have h2 := And.intro (fun q => hk _ _ _ _ _ (h.1 q)) (fun q => hk _ _ _ _ _ (h.2 q))
      cases c
      all_goals first | exact so_if_eq hd hok.2 h2 | exact so_if_ne hd hok.2 h2 | exact so_if_lt hd hok.2 h2 | exact so_if_ge hd hok.2 h2 | exact so_if_gt hd hok.2 h2 | exact so_if_le hd hok.2 h2
    · exact h.elim
  | if_icmp c off =>
    simp only [insOk, Bool.and_eq_true, decide_eq_true_eq] at hok
    have e := Nat.eq_of_beq_eq_true hok.1
    subst e
    have h : (match (generalizing := false) st with | .inl (.int y) :: .inl (.int x) :: r => (brC (condNo c) x y → k ((pc : Int) + off).toNat lv r σ cnt) ∧ (¬ brC (condNo c) x y → k (pc + 3) lv r σ cnt) | _ => False) := h
    split at h
    · have h2 := And.intro (fun q => hk _ _ _ _ _ (h.1 q)) (fun q => hk _ _ _ _ _ (h.2 q))
      cases c
      all_goals first | exact so_icmp_eq hd hok.2 h2 | exact so_icmp_ne hd hok.2 h2 | exact so_icmp_lt hd hok.2 h2 | exact so_icmp_ge hd hok.2 h2 | exact so_icmp_gt hd hok.2 h2 | exact so_icmp_le hd hok.2 h2
    · exact h.elim
  | goto off =>
    simp only [insOk, Bool.and_eq_true, decide_eq_true_eq] at hok
    have e := Nat.eq_of_beq_eq_true hok.1
    subst e
    exact so_goto hd hok.2 (hk _ _ _ _ _ h)
  | tableswitch d lo hi offs =>
    simp only [insOk, Bool.and_eq_true, decide_eq_true_eq, List.all_eq_true] at hok
    have h : (match (generalizing := false) st with | .inl (.int x) :: r => swA x (fun t => k t lv r σ cnt) lo (offs.toList.map (fun o => ((pc : Int) + o).toNat)) ∧ ((x.toInt < lo ∨ lo + ((offs.toList.map (fun o => ((pc : Int) + o).toNat)).length : Int) - 1 < x.toInt) → k ((pc : Int) + d).toNat lv r σ cnt) | _ => False) := h
    split at h
    · refine so_switch hd hok.1 hok.2.1 hok.2.2 (swA_mono (fun t q => hk _ _ _ _ _ q) h.1) (fun q => hk _ _ _ _ _ (h.2 (by rw [List.length_map]; exact q)))
    · exact h.elim
  | getfield idx =>
    have e := Nat.eq_of_beq_eq_true hok
    subst e
    have h : vs (gN Γ) (gS Γ) (Gm Γ) Q mi k (opFld 18 (mOwnNo mi) idx (pc + 3)) pc lv st σ cnt := h
    unfold opFld at h
    split at h
    · rename_i ci s9 hl
      have h : (match (generalizing := false) st with | .inr (t, i) :: r => isTrue (Nat.beq (kdK t) ci && Nat.ble (t + 1) 85) (match (generalizing := false) ftT ci s9 with | 0 => k (pc + 3) lv (.inl (.int (mI σ t i s9)) :: r) σ cnt | 1 => k (pc + 3) lv (.inl (.long (mJ σ t i s9)) :: r) σ cnt | _ => (match (generalizing := false) mR σ t i s9 with | some q => k (pc + 3) lv (.inr q :: r) σ cnt | none => False)) | _ => False) := h
      split at h
      · obtain ⟨h1, h⟩ := isTrue_spec h
        rw [Bool.and_eq_true] at h1
        have h1 := Nat.eq_of_beq_eq_true h1.1
        split at h
        · rename_i hy; exact so_getI hm hd hl h1 hy (hk _ _ _ _ _ h)
        · rename_i hy; exact so_getJ hm hd hl h1 hy (hk _ _ _ _ _ h)
        · rename_i hy0 hy1
          split at h
          · rename_i q hq
            obtain ⟨n9, hn9⟩ : ∃ n9, ftT ci s9 = n9 + 2 := ⟨ftT ci s9 - 2, by
              have a0 : ftT ci s9 ≠ 0 := hy0
              have a1 : ftT ci s9 ≠ 1 := hy1
              omega⟩
            exact so_getR hm hd hl h1 hn9 hq (hk _ _ _ _ _ h)
          · exact h.elim
      · exact h.elim
    · exact h.elim
  | putfield idx =>
    have e := Nat.eq_of_beq_eq_true hok
    subst e
    have h : vs (gN Γ) (gS Γ) (Gm Γ) Q mi k (opFld 19 (mOwnNo mi) idx (pc + 3)) pc lv st σ cnt := h
    have ho : opU mi pc = some (opFld 19 (mOwnNo mi) idx (pc + 3)) := ho
    unfold opFld at h ho
    split at h
    · rename_i ci s9 hl
      rw [hl] at ho
      have h : (match (generalizing := false) st with | v :: .inr (t, i) :: r => isTrue (Nat.beq (kdK t) ci && Nat.ble (t + 1) 85) (match (generalizing := false) ftT ci s9, v with | 0, .inl (.int x) => k (pc + 3) lv r (pI σ t i s9 x) cnt | 1, .inl (.long x) => k (pc + 3) lv r (pJ σ t i s9 x) cnt | 2, .inr q => isTrue (Nat.ble (q.1 + 1) 85) (k (pc + 3) lv r (pR σ t i s9 q) cnt) | _, _ => False) | _ => False) := h
      split at h
      · obtain ⟨h1, h⟩ := isTrue_spec h
        rw [Bool.and_eq_true] at h1
        have h1 := Nat.eq_of_beq_eq_true h1.1
        split at h
        · exact so_putI ho hd hl h1 (by assumption) (hk _ _ _ _ _ h)
        · exact so_putJ ho hd hl h1 (by assumption) (hk _ _ _ _ _ h)
        · obtain ⟨h2, h⟩ := isTrue_spec h; exact so_putR ho hd hl h1 (by assumption) (Nat.le_of_ble_eq_true h2) (hk _ _ _ _ _ h)
        · exact h.elim
      · exact h.elim
    · exact h.elim
  | iaload =>
    have e := Nat.eq_of_beq_eq_true hok
    subst e
    have h : (match (generalizing := false) st with | .inl (.int j) :: .inr (t, i) :: r => (match (generalizing := false) Nat.beq t 201 with | true => isTrue (Nat.beq i 0) (vp_in j (gN Γ) ∧ k (pc + 1) lv (.inl (.int (gS Γ j.toNatClampNeg)) :: r) σ cnt) | false => isTrue (Nat.beq (kdK t) 10) (vp_in j (lenT t) ∧ k (pc + 1) lv (.inl (.int (mI σ t i j.toNatClampNeg)) :: r) σ cnt)) | _ => False) := h
    split at h
    · split at h
      · rename_i ht; obtain ⟨h1, hz⟩ := isTrue_spec h; have e := Nat.eq_of_beq_eq_true ht; subst e; exact so_script hd hz.1 (Nat.eq_of_beq_eq_true h1) (hk _ _ _ _ _ hz.2)
      · obtain ⟨h1, h⟩ := isTrue_spec h; exact so_iaload hd (Nat.eq_of_beq_eq_true h1) h.1 (hk _ _ _ _ _ h.2)
    · exact h.elim
  | baload =>
    have e := Nat.eq_of_beq_eq_true hok
    subst e
    have h : (match (generalizing := false) st with | .inl (.int j) :: .inr (t, i) :: r => isTrue (Nat.beq (kdK t) 11 || Nat.beq (kdK t) 13) (vp_in j (lenT t) ∧ k (pc + 1) lv (.inl (.int (mI σ t i j.toNatClampNeg)) :: r) σ cnt) | _ => False) := h
    split at h
    · obtain ⟨h1, h⟩ := isTrue_spec h
      rw [Bool.or_eq_true] at h1
      rcases h1 with h1 | h1
      · exact so_baload hd (Nat.eq_of_beq_eq_true h1) h.1 (hk _ _ _ _ _ h.2)
      · exact so_zaload hd (Nat.eq_of_beq_eq_true h1) h.1 (hk _ _ _ _ _ h.2)
    · exact h.elim
  | laload =>
    have e := Nat.eq_of_beq_eq_true hok
    subst e
    have h : (match (generalizing := false) st with | .inl (.int j) :: .inr (t, i) :: r => isTrue (Nat.beq (kdK t) 12) (vp_in j (lenT t) ∧ k (pc + 1) lv (.inl (.long (mJ σ t i j.toNatClampNeg)) :: r) σ cnt) | _ => False) := h
    split at h
    · obtain ⟨h1, h⟩ := isTrue_spec h; exact so_laload hd (Nat.eq_of_beq_eq_true h1) h.1 (hk _ _ _ _ _ h.2)
    · exact h.elim
  | aaload =>
    have e := Nat.eq_of_beq_eq_true hok
    subst e
    have h : (match (generalizing := false) st with | .inl (.int j) :: .inr (t, i) :: r => isTrue (Nat.ble 14 (kdK t) && Nat.ble (kdK t) 16) (vp_in j (lenT t) ∧ ∃ q, mR σ t i j.toNatClampNeg = some q ∧ k (pc + 1) lv (.inr q :: r) σ cnt) | _ => False) := h
    split at h
    · obtain ⟨h1, h⟩ := isTrue_spec h
      rw [Bool.and_eq_true] at h1
      obtain ⟨h2, q, h3, h4⟩ := h
      exact so_aaload hd (Nat.le_of_ble_eq_true h1.1) (Nat.le_of_ble_eq_true h1.2) h2 h3 (hk _ _ _ _ _ h4)
    · exact h.elim
  | iastore =>
    have e := Nat.eq_of_beq_eq_true hok
    subst e
    have h : (match (generalizing := false) (0 : Nat), st with | 0, .inl (.int x) :: .inl (.int j) :: .inr (t, i) :: r => isTrue (Nat.beq (kdK t) 10) (vp_in j (lenT t) ∧ k (pc + 1) lv r (pI σ t i j.toNatClampNeg x) cnt) | 1, .inl (.int x) :: .inl (.int j) :: .inr (t, i) :: r => (match (generalizing := false) kdK t with | 11 => isTrue σ.1.isNone (vp_in j (lenT t) ∧ k (pc + 1) lv r (pI σ t i j.toNatClampNeg (vp_nar .byte x)) cnt) | 13 => isTrue σ.1.isNone (vp_in j (lenT t) ∧ k (pc + 1) lv r (pI σ t i j.toNatClampNeg (vp_nar .boolean x)) cnt) | _ => False) | 2, .inl (.long x) :: .inl (.int j) :: .inr (t, i) :: r => isTrue (Nat.beq (kdK t) 12 && σ.1.isNone) (vp_in j (lenT t) ∧ k (pc + 1) lv r (pJ σ t i j.toNatClampNeg x) cnt) | 3, .inr (u, h) :: .inl (.int j) :: .inr (t, i) :: r => isTrue ((Nat.beq (kdK t) 14 && Nat.beq (kdK u) 4) || (Nat.beq (kdK t) 15 && Nat.beq (kdK u) 0)) (vp_in j (lenT t) ∧ k (pc + 1) lv r (pR σ t i j.toNatClampNeg (u, h)) cnt) | _, _ => False) := h
    split at h
    all_goals first | exact h.elim | contradiction | skip
    obtain ⟨h1, h⟩ := isTrue_spec h; exact so_iastore hd (Nat.eq_of_beq_eq_true h1) h.1 (hk _ _ _ _ _ h.2)
  | bastore =>
    have e := Nat.eq_of_beq_eq_true hok
    subst e
    have h : (match (generalizing := false) (1 : Nat), st with | 0, .inl (.int x) :: .inl (.int j) :: .inr (t, i) :: r => isTrue (Nat.beq (kdK t) 10) (vp_in j (lenT t) ∧ k (pc + 1) lv r (pI σ t i j.toNatClampNeg x) cnt) | 1, .inl (.int x) :: .inl (.int j) :: .inr (t, i) :: r => (match (generalizing := false) kdK t with | 11 => isTrue σ.1.isNone (vp_in j (lenT t) ∧ k (pc + 1) lv r (pI σ t i j.toNatClampNeg (vp_nar .byte x)) cnt) | 13 => isTrue σ.1.isNone (vp_in j (lenT t) ∧ k (pc + 1) lv r (pI σ t i j.toNatClampNeg (vp_nar .boolean x)) cnt) | _ => False) | 2, .inl (.long x) :: .inl (.int j) :: .inr (t, i) :: r => isTrue (Nat.beq (kdK t) 12 && σ.1.isNone) (vp_in j (lenT t) ∧ k (pc + 1) lv r (pJ σ t i j.toNatClampNeg x) cnt) | 3, .inr (u, h) :: .inl (.int j) :: .inr (t, i) :: r => isTrue ((Nat.beq (kdK t) 14 && Nat.beq (kdK u) 4) || (Nat.beq (kdK t) 15 && Nat.beq (kdK u) 0)) (vp_in j (lenT t) ∧ k (pc + 1) lv r (pR σ t i j.toNatClampNeg (u, h)) cnt) | _, _ => False) := h
    split at h
    all_goals first | exact h.elim | contradiction | skip
    split at h
    · rename_i hkd; obtain ⟨h1, h⟩ := isTrue_spec h; exact so_bastore hd hkd (Option.isNone_iff_eq_none.mp h1) h.1 (hk _ _ _ _ _ h.2)
    · rename_i hkd; obtain ⟨h1, h⟩ := isTrue_spec h; exact so_zastore hd hkd (Option.isNone_iff_eq_none.mp h1) h.1 (hk _ _ _ _ _ h.2)
    · exact h.elim
  | lastore =>
    have e := Nat.eq_of_beq_eq_true hok
    subst e
    have h : (match (generalizing := false) (2 : Nat), st with | 0, .inl (.int x) :: .inl (.int j) :: .inr (t, i) :: r => isTrue (Nat.beq (kdK t) 10) (vp_in j (lenT t) ∧ k (pc + 1) lv r (pI σ t i j.toNatClampNeg x) cnt) | 1, .inl (.int x) :: .inl (.int j) :: .inr (t, i) :: r => (match (generalizing := false) kdK t with | 11 => isTrue σ.1.isNone (vp_in j (lenT t) ∧ k (pc + 1) lv r (pI σ t i j.toNatClampNeg (vp_nar .byte x)) cnt) | 13 => isTrue σ.1.isNone (vp_in j (lenT t) ∧ k (pc + 1) lv r (pI σ t i j.toNatClampNeg (vp_nar .boolean x)) cnt) | _ => False) | 2, .inl (.long x) :: .inl (.int j) :: .inr (t, i) :: r => isTrue (Nat.beq (kdK t) 12 && σ.1.isNone) (vp_in j (lenT t) ∧ k (pc + 1) lv r (pJ σ t i j.toNatClampNeg x) cnt) | 3, .inr (u, h) :: .inl (.int j) :: .inr (t, i) :: r => isTrue ((Nat.beq (kdK t) 14 && Nat.beq (kdK u) 4) || (Nat.beq (kdK t) 15 && Nat.beq (kdK u) 0)) (vp_in j (lenT t) ∧ k (pc + 1) lv r (pR σ t i j.toNatClampNeg (u, h)) cnt) | _, _ => False) := h
    split at h
    all_goals first | exact h.elim | contradiction | skip
    obtain ⟨h1, h⟩ := isTrue_spec h
    rw [Bool.and_eq_true] at h1
    exact so_lastore hd (Nat.eq_of_beq_eq_true h1.1) (Option.isNone_iff_eq_none.mp h1.2) h.1 (hk _ _ _ _ _ h.2)
  | aastore =>
    have e := Nat.eq_of_beq_eq_true hok
    subst e
    have h : (match (generalizing := false) (3 : Nat), st with | 0, .inl (.int x) :: .inl (.int j) :: .inr (t, i) :: r => isTrue (Nat.beq (kdK t) 10) (vp_in j (lenT t) ∧ k (pc + 1) lv r (pI σ t i j.toNatClampNeg x) cnt) | 1, .inl (.int x) :: .inl (.int j) :: .inr (t, i) :: r => (match (generalizing := false) kdK t with | 11 => isTrue σ.1.isNone (vp_in j (lenT t) ∧ k (pc + 1) lv r (pI σ t i j.toNatClampNeg (vp_nar .byte x)) cnt) | 13 => isTrue σ.1.isNone (vp_in j (lenT t) ∧ k (pc + 1) lv r (pI σ t i j.toNatClampNeg (vp_nar .boolean x)) cnt) | _ => False) | 2, .inl (.long x) :: .inl (.int j) :: .inr (t, i) :: r => isTrue (Nat.beq (kdK t) 12 && σ.1.isNone) (vp_in j (lenT t) ∧ k (pc + 1) lv r (pJ σ t i j.toNatClampNeg x) cnt) | 3, .inr (u, h) :: .inl (.int j) :: .inr (t, i) :: r => isTrue ((Nat.beq (kdK t) 14 && Nat.beq (kdK u) 4) || (Nat.beq (kdK t) 15 && Nat.beq (kdK u) 0)) (vp_in j (lenT t) ∧ k (pc + 1) lv r (pR σ t i j.toNatClampNeg (u, h)) cnt) | _, _ => False) := h
    split at h
    all_goals first | exact h.elim | contradiction | skip
    obtain ⟨h1, h⟩ := isTrue_spec h
    rw [Bool.or_eq_true, Bool.and_eq_true, Bool.and_eq_true] at h1
    exact so_aastore hd (h1.imp (fun q => ⟨Nat.eq_of_beq_eq_true q.1, Nat.eq_of_beq_eq_true q.2⟩) (fun q => ⟨Nat.eq_of_beq_eq_true q.1, Nat.eq_of_beq_eq_true q.2⟩)) h.1 (hk _ _ _ _ _ h.2)
  | arraylength =>
    have e := Nat.eq_of_beq_eq_true hok
    subst e
    have h : (match (generalizing := false) st with | .inr (201, 0) :: r => k (pc + 1) lv (.inl (.int (Int32.ofNat (gN Γ))) :: r) σ cnt | _ => False) := h
    split at h
    · exact so_alen hd (hk _ _ _ _ _ h)
    · exact h.elim
  | return_ =>
    have e := Nat.eq_of_beq_eq_true hok
    subst e
    have h : (match (generalizing := false) st with | [] => isTrue (Nat.beq (mRetNo mi) 0 && Nat.ble cnt.1 (mMc mi) && Nat.ble cnt.2 (mMs mi)) (Q (.inl none) σ) | _ => False) := h
    split at h
    · obtain ⟨h1, h⟩ := isTrue_spec h
      simp only [Bool.and_eq_true] at h1
      exact so_return hm hd (Nat.eq_of_beq_eq_true h1.1.1) (Nat.le_of_ble_eq_true h1.1.2) (Nat.le_of_ble_eq_true h1.2) h
    · exact h.elim
  | ireturn =>
    have e := Nat.eq_of_beq_eq_true hok
    subst e
    have h : isTrue (Nat.ble cnt.1 (mMc mi) && Nat.ble cnt.2 (mMs mi)) (match (generalizing := false) (0 : Nat), mRetNo mi, st with | 0, 1, [.inl (.int x)] => Q (.inl (some (.inl (.int x)))) σ | 0, 2, [.inl (.int x)] => (match (generalizing := false) Nat.beq mi 162 with | true => x = 1 | false => (x = 0 ∨ x = 1) ∧ Q (.inl (some (.inl (.int x)))) σ) | 1, 3, [.inl (.long x)] => Q (.inl (some (.inl (.long x)))) σ | 2, 4, [.inr q] => Q (.inl (some (.inr q))) σ | _, _, _ => False) := h
    obtain ⟨h1, h⟩ := isTrue_spec h
    rw [Bool.and_eq_true] at h1
    split at h
    all_goals first | exact h.elim | contradiction | (exact so_ireturn hm hd (by assumption) (Nat.le_of_ble_eq_true h1.1) (Nat.le_of_ble_eq_true h1.2) h) | skip
    split at h
    · rename_i hb; have hx9 := h; have e := Nat.eq_of_beq_eq_true hb; subst e; exact so_lawret9 hx9 hd (Nat.le_of_ble_eq_true h1.1) (Nat.le_of_ble_eq_true h1.2)
    · rename_i hb; exact so_zreturn hm (fun e => by rw [e] at hb; cases hb) hd (by assumption) (Nat.le_of_ble_eq_true h1.1) (Nat.le_of_ble_eq_true h1.2) h.1 h.2
  | lreturn =>
    have e := Nat.eq_of_beq_eq_true hok
    subst e
    have h : isTrue (Nat.ble cnt.1 (mMc mi) && Nat.ble cnt.2 (mMs mi)) (match (generalizing := false) (1 : Nat), mRetNo mi, st with | 0, 1, [.inl (.int x)] => Q (.inl (some (.inl (.int x)))) σ | 0, 2, [.inl (.int x)] => (match (generalizing := false) Nat.beq mi 162 with | true => x = 1 | false => (x = 0 ∨ x = 1) ∧ Q (.inl (some (.inl (.int x)))) σ) | 1, 3, [.inl (.long x)] => Q (.inl (some (.inl (.long x)))) σ | 2, 4, [.inr q] => Q (.inl (some (.inr q))) σ | _, _, _ => False) := h
    obtain ⟨h1, h⟩ := isTrue_spec h
    rw [Bool.and_eq_true] at h1
    split at h
    all_goals first | exact h.elim | contradiction | (exact so_lreturn hm hd (by assumption) (Nat.le_of_ble_eq_true h1.1) (Nat.le_of_ble_eq_true h1.2) h) | skip
  | areturn =>
    have e := Nat.eq_of_beq_eq_true hok
    subst e
    have h : isTrue (Nat.ble cnt.1 (mMc mi) && Nat.ble cnt.2 (mMs mi)) (match (generalizing := false) (2 : Nat), mRetNo mi, st with | 0, 1, [.inl (.int x)] => Q (.inl (some (.inl (.int x)))) σ | 0, 2, [.inl (.int x)] => (match (generalizing := false) Nat.beq mi 162 with | true => x = 1 | false => (x = 0 ∨ x = 1) ∧ Q (.inl (some (.inl (.int x)))) σ) | 1, 3, [.inl (.long x)] => Q (.inl (some (.inl (.long x)))) σ | 2, 4, [.inr q] => Q (.inl (some (.inr q))) σ | _, _, _ => False) := h
    obtain ⟨h1, h⟩ := isTrue_spec h
    rw [Bool.and_eq_true] at h1
    split at h
    all_goals first | exact h.elim | contradiction | (exact so_areturn hm hd (by assumption) (Nat.le_of_ble_eq_true h1.1) (Nat.le_of_ble_eq_true h1.2) h) | skip
  | athrow =>
    exact h.elim
  | invokevirtual idx =>
    have e := Nat.eq_of_beq_eq_true hok
    subst e
    have h : vs (gN Γ) (gS Γ) (Gm Γ) Q mi k (opCal (mOwnNo mi) 0 idx (pc + 3)) pc lv st σ cnt := h
    unfold opCal at h
    split at h
    · rename_i kk x na hl
      rcases cal_kind hl with rfl | rfl | rfl | rfl | rfl | rfl
      · have h : (match (generalizing := false) takA na st [] with | some (as, r) => isTrue (callOk 0 mi x cnt as r) (Gm Γ x as σ (fun o σ' => match o with | .inl v => k (pc + 3) lv (v.toList ++ r) σ' (cnt.1 + mMc x, cnt.2 + mMs x) | .inr e => (match (generalizing := false) catT mi pc e with | some z => Q (.inl (some (.inl (.int (Int32.ofInt z))))) σ' | none => (match (generalizing := false) mHh mi with | [] => (match (generalizing := false) Nat.beq mi 162 with | true => False | false => Q (.inr e) σ') | _ :: _ => False)))) | none => False) := h
        split at h
        · rename_i as r ht
          obtain ⟨h1, hz⟩ := isTrue_spec h
          obtain ⟨e1, e2⟩ := takA_nil ht
          subst e1
          refine so_callV hm hd hl e2 h1 hz (fun v σ' q => hk _ _ _ _ _ q) (fun y σ' hy q n0 p e s m args below meth c ls H1 locs1 ce q9 M hls hwf hWd hle hS1 hce hcv hcl => ?_)
          have q : (match (generalizing := false) catT mi pc y with | some z => Q (.inl (some (.inl (.int (Int32.ofInt z))))) σ' | none => (match (generalizing := false) mHh mi with | [] => (match (generalizing := false) Nat.beq mi 162 with | true => False | false => Q (.inr y) σ') | _ :: _ => False)) := q
          obtain ⟨-, -, -, -, -, -, k7, k8⟩ := callOk_spec h1
          split at q
          · rename_i z hz; exact catch_thrown hm hz hy q M hls hwf hWd hle hS1 hce hcv hcl k7 k8
          · split at q
            · rename_i hh; split at q
              · exact q.elim
              · rename_i hb; exact out_thrown hy q (fun e => by rw [e] at hb; cases hb) hh M hWd hle hS1 hce hcv hcl k7 k8
            · exact q.elim
        · exact h.elim
      · have hb := (lib_words hl (Or.inl rfl)).2
        have h : (match (generalizing := false) x, st with | 0, .inl (.int y) :: .inl (.int x) :: r => isTrue (decide ((0 : Int) = 1) && natOk mi cnt r) (k (pc + 3) lv (.inl (.int (if x < y then y else x)) :: r) σ cnt) | 1, .inl (.int y) :: .inl (.int x) :: r => isTrue (decide ((0 : Int) = 1) && natOk mi cnt r) (k (pc + 3) lv (.inl (.int (if y < x then y else x)) :: r) σ cnt) | 2, .inl (.long y) :: .inl (.long x) :: r => isTrue (decide ((0 : Int) = 1) && natOk mi cnt r) (k (pc + 3) lv (.inl (.long (if y < x then y else x)) :: r) σ cnt) | _, _ => False) := h
        split at h
        · obtain ⟨h1, h⟩ := isTrue_spec h
          rw [Bool.and_eq_true] at h1
          exact absurd (of_decide_eq_true h1.1) (by decide)
        · obtain ⟨h1, h⟩ := isTrue_spec h
          rw [Bool.and_eq_true] at h1
          exact absurd (of_decide_eq_true h1.1) (by decide)
        · obtain ⟨h1, h⟩ := isTrue_spec h
          rw [Bool.and_eq_true] at h1
          exact absurd (of_decide_eq_true h1.1) (by decide)
        · exact h.elim
      · have h : (match (generalizing := false) st with | .inl (.int z) :: .inl (.int dp) :: .inr (u, j) :: .inl (.int sp) :: .inr (t, i) :: r => isTrue (decide ((0 : Int) = 1) && (Nat.beq (kdK t) 10 && (Nat.beq (kdK u) 10 && (natOk mi cnt r && σ.1.isNone)))) (sp = 0 ∧ dp = 0 ∧ ¬ z < 0 ∧ z.toNatClampNeg ≤ lenT t ∧ z.toNatClampNeg ≤ lenT u ∧ k (pc + 3) lv r (pC σ t i u j z.toNatClampNeg) cnt) | _ => False) := h
        split at h
        · obtain ⟨h1, h2, h3, h4, h5, h6, h⟩ := isTrue_spec h
          simp only [Bool.and_eq_true, decide_eq_true_eq] at h1
          exact absurd h1.1 (by decide)
        · exact h.elim
      · have h : (match (generalizing := false) x, st with | 0, .inr (200, s) :: r => isTrue (decide ((0 : Int) = 0) && (Nat.ble (s + 1) 28 && (Nat.ble 5 (mFr mi) && (Nat.ble 110 (mLo mi) && natOk mi cnt r)))) (k (pc + 3) lv (.inl (.int (nI (strB.getD s []).length)) :: r) σ cnt) | 1, .inl (.int j) :: .inr (200, s) :: r => isTrue (decide ((0 : Int) = 0) && (Nat.ble (s + 1) 28 && (Nat.ble 5 (mFr mi) && (Nat.ble 110 (mLo mi) && natOk mi cnt r)))) (vp_in j (strB.getD s []).length ∧ k (pc + 3) lv (.inl (.int ((strB.getD s []).getD j.toNatClampNeg 0)) :: r) σ cnt) | 0, .inr (202, s) :: r => isTrue (decide ((0 : Int) = 0) && (Nat.ble (s + 1) 28 && (Nat.ble 5 (mFr mi) && (Nat.ble 110 (mLo mi) && natOk mi cnt r)))) (k (pc + 3) lv (.inl (.int (nI (strB.getD s []).length)) :: r) σ cnt) | 1, .inl (.int j) :: .inr (202, s) :: r => isTrue (decide ((0 : Int) = 0) && (Nat.ble (s + 1) 28 && (Nat.ble 5 (mFr mi) && (Nat.ble 110 (mLo mi) && natOk mi cnt r)))) (vp_in j (strB.getD s []).length ∧ k (pc + 3) lv (.inl (.int ((strB.getD s []).getD j.toNatClampNeg 0)) :: r) σ cnt) | _, _ => False) := h
        split at h
        · obtain ⟨h1, h⟩ := isTrue_spec h
          simp only [Bool.and_eq_true, decide_eq_true_eq] at h1
          exact so_strlen (Or.inl rfl) hm hd hl (Nat.le_of_ble_eq_true h1.2.1) (Nat.le_of_ble_eq_true h1.2.2.1) (Nat.le_of_ble_eq_true h1.2.2.2.1) h1.2.2.2.2 (hk _ _ _ _ _ h)
        · obtain ⟨h1, h2, h⟩ := isTrue_spec h
          simp only [Bool.and_eq_true, decide_eq_true_eq] at h1
          exact so_charAt (Or.inl rfl) hm hd hl (Nat.le_of_ble_eq_true h1.2.1) (Nat.le_of_ble_eq_true h1.2.2.1) (Nat.le_of_ble_eq_true h1.2.2.2.1) h1.2.2.2.2 h2 (hk _ _ _ _ _ h)
        · obtain ⟨h1, h⟩ := isTrue_spec h
          simp only [Bool.and_eq_true, decide_eq_true_eq] at h1
          exact so_strlen (Or.inr rfl) hm hd hl (Nat.le_of_ble_eq_true h1.2.1) (Nat.le_of_ble_eq_true h1.2.2.1) (Nat.le_of_ble_eq_true h1.2.2.2.1) h1.2.2.2.2 (hk _ _ _ _ _ h)
        · obtain ⟨h1, h2, h⟩ := isTrue_spec h
          simp only [Bool.and_eq_true, decide_eq_true_eq] at h1
          exact so_charAt (Or.inr rfl) hm hd hl (Nat.le_of_ble_eq_true h1.2.1) (Nat.le_of_ble_eq_true h1.2.2.1) (Nat.le_of_ble_eq_true h1.2.2.2.1) h1.2.2.2.2 h2 (hk _ _ _ _ _ h)
        · exact h.elim
      · have h : (match (generalizing := false) st with | .inr (t, i) :: r => isTrue (decide ((0 : Int) = 2) && (Nat.ble (sumC r + 12) (mLo mi) && Nat.ble 1 (mFr mi))) (k (pc + 3) lv r σ cnt) | _ => False) := h
        split at h
        · obtain ⟨h1, h⟩ := isTrue_spec h
          simp only [Bool.and_eq_true, decide_eq_true_eq] at h1
          exact absurd h1.1 (by decide)
        · exact h.elim
      · exact h.elim
    · exact h.elim
  | invokestatic idx =>
    have e := Nat.eq_of_beq_eq_true hok
    subst e
    have h : vs (gN Γ) (gS Γ) (Gm Γ) Q mi k (opCal (mOwnNo mi) 1 idx (pc + 3)) pc lv st σ cnt := h
    unfold opCal at h
    split at h
    · rename_i kk x na hl
      rcases cal_kind hl with rfl | rfl | rfl | rfl | rfl | rfl
      · have h : (match (generalizing := false) takA na st [] with | some (as, r) => isTrue (callOk 1 mi x cnt as r) (Gm Γ x as σ (fun o σ' => match o with | .inl v => k (pc + 3) lv (v.toList ++ r) σ' (cnt.1 + mMc x, cnt.2 + mMs x) | .inr e => (match (generalizing := false) catT mi pc e with | some z => Q (.inl (some (.inl (.int (Int32.ofInt z))))) σ' | none => (match (generalizing := false) mHh mi with | [] => (match (generalizing := false) Nat.beq mi 162 with | true => False | false => Q (.inr e) σ') | _ :: _ => False)))) | none => False) := h
        split at h
        · rename_i as r ht
          obtain ⟨h1, hz⟩ := isTrue_spec h
          obtain ⟨e1, e2⟩ := takA_nil ht
          subst e1
          refine so_callS hm hd hl e2 h1 hz (fun v σ' q => hk _ _ _ _ _ q) (fun y σ' hy q n0 p e s m args below meth c ls H1 locs1 ce q9 M hls hwf hWd hle hS1 hce hcv hcl => ?_)
          have q : (match (generalizing := false) catT mi pc y with | some z => Q (.inl (some (.inl (.int (Int32.ofInt z))))) σ' | none => (match (generalizing := false) mHh mi with | [] => (match (generalizing := false) Nat.beq mi 162 with | true => False | false => Q (.inr y) σ') | _ :: _ => False)) := q
          obtain ⟨-, -, -, -, -, -, k7, k8⟩ := callOk_spec h1
          split at q
          · rename_i z hz; exact catch_thrown hm hz hy q M hls hwf hWd hle hS1 hce hcv hcl k7 k8
          · split at q
            · rename_i hh; split at q
              · exact q.elim
              · rename_i hb; exact out_thrown hy q (fun e => by rw [e] at hb; cases hb) hh M hWd hle hS1 hce hcv hcl k7 k8
            · exact q.elim
        · exact h.elim
      · have hb := (lib_words hl (Or.inl rfl)).2
        have h : (match (generalizing := false) x, st with | 0, .inl (.int y) :: .inl (.int x) :: r => isTrue (decide ((1 : Int) = 1) && natOk mi cnt r) (k (pc + 3) lv (.inl (.int (if x < y then y else x)) :: r) σ cnt) | 1, .inl (.int y) :: .inl (.int x) :: r => isTrue (decide ((1 : Int) = 1) && natOk mi cnt r) (k (pc + 3) lv (.inl (.int (if y < x then y else x)) :: r) σ cnt) | 2, .inl (.long y) :: .inl (.long x) :: r => isTrue (decide ((1 : Int) = 1) && natOk mi cnt r) (k (pc + 3) lv (.inl (.long (if y < x then y else x)) :: r) σ cnt) | _, _ => False) := h
        split at h
        · obtain ⟨h1, h⟩ := isTrue_spec h
          rw [Bool.and_eq_true] at h1
          exact so_max hm hd hl h1.2 (hk _ _ _ _ _ h)
        · obtain ⟨h1, h⟩ := isTrue_spec h
          rw [Bool.and_eq_true] at h1
          exact so_min hm hd hl h1.2 (hk _ _ _ _ _ h)
        · obtain ⟨h1, h⟩ := isTrue_spec h
          rw [Bool.and_eq_true] at h1
          exact so_minL hm hd hl h1.2 (hk _ _ _ _ _ h)
        · exact h.elim
      · have h : (match (generalizing := false) st with | .inl (.int z) :: .inl (.int dp) :: .inr (u, j) :: .inl (.int sp) :: .inr (t, i) :: r => isTrue (decide ((1 : Int) = 1) && (Nat.beq (kdK t) 10 && (Nat.beq (kdK u) 10 && (natOk mi cnt r && σ.1.isNone)))) (sp = 0 ∧ dp = 0 ∧ ¬ z < 0 ∧ z.toNatClampNeg ≤ lenT t ∧ z.toNatClampNeg ≤ lenT u ∧ k (pc + 3) lv r (pC σ t i u j z.toNatClampNeg) cnt) | _ => False) := h
        split at h
        · obtain ⟨h1, h2, h3, h4, h5, h6, h⟩ := isTrue_spec h
          simp only [Bool.and_eq_true, decide_eq_true_eq] at h1
          exact so_copy hm hd hl h1.2.2.2.1 (Nat.eq_of_beq_eq_true h1.2.1) (Nat.eq_of_beq_eq_true h1.2.2.1) (Option.isNone_iff_eq_none.mp h1.2.2.2.2) h2 h3 h4 h5 h6 (hk _ _ _ _ _ h)
        · exact h.elim
      · have h : (match (generalizing := false) x, st with | 0, .inr (200, s) :: r => isTrue (decide ((1 : Int) = 0) && (Nat.ble (s + 1) 28 && (Nat.ble 5 (mFr mi) && (Nat.ble 110 (mLo mi) && natOk mi cnt r)))) (k (pc + 3) lv (.inl (.int (nI (strB.getD s []).length)) :: r) σ cnt) | 1, .inl (.int j) :: .inr (200, s) :: r => isTrue (decide ((1 : Int) = 0) && (Nat.ble (s + 1) 28 && (Nat.ble 5 (mFr mi) && (Nat.ble 110 (mLo mi) && natOk mi cnt r)))) (vp_in j (strB.getD s []).length ∧ k (pc + 3) lv (.inl (.int ((strB.getD s []).getD j.toNatClampNeg 0)) :: r) σ cnt) | 0, .inr (202, s) :: r => isTrue (decide ((1 : Int) = 0) && (Nat.ble (s + 1) 28 && (Nat.ble 5 (mFr mi) && (Nat.ble 110 (mLo mi) && natOk mi cnt r)))) (k (pc + 3) lv (.inl (.int (nI (strB.getD s []).length)) :: r) σ cnt) | 1, .inl (.int j) :: .inr (202, s) :: r => isTrue (decide ((1 : Int) = 0) && (Nat.ble (s + 1) 28 && (Nat.ble 5 (mFr mi) && (Nat.ble 110 (mLo mi) && natOk mi cnt r)))) (vp_in j (strB.getD s []).length ∧ k (pc + 3) lv (.inl (.int ((strB.getD s []).getD j.toNatClampNeg 0)) :: r) σ cnt) | _, _ => False) := h
        split at h
        · obtain ⟨h1, h⟩ := isTrue_spec h
          simp only [Bool.and_eq_true, decide_eq_true_eq] at h1
          exact absurd h1.1 (by decide)
        · obtain ⟨h1, h2, h⟩ := isTrue_spec h
          simp only [Bool.and_eq_true, decide_eq_true_eq] at h1
          exact absurd h1.1 (by decide)
        · obtain ⟨h1, h⟩ := isTrue_spec h
          simp only [Bool.and_eq_true, decide_eq_true_eq] at h1
          exact absurd h1.1 (by decide)
        · obtain ⟨h1, h2, h⟩ := isTrue_spec h
          simp only [Bool.and_eq_true, decide_eq_true_eq] at h1
          exact absurd h1.1 (by decide)
        · exact h.elim
      · have h : (match (generalizing := false) st with | .inr (t, i) :: r => isTrue (decide ((1 : Int) = 2) && (Nat.ble (sumC r + 12) (mLo mi) && Nat.ble 1 (mFr mi))) (k (pc + 3) lv r σ cnt) | _ => False) := h
        split at h
        · obtain ⟨h1, h⟩ := isTrue_spec h
          simp only [Bool.and_eq_true, decide_eq_true_eq] at h1
          exact absurd h1.1 (by decide)
        · exact h.elim
      · exact h.elim
    · exact h.elim
  | invokespecial idx =>
    have e := Nat.eq_of_beq_eq_true hok
    subst e
    have h : vs (gN Γ) (gS Γ) (Gm Γ) Q mi k (opCal (mOwnNo mi) 2 idx (pc + 3)) pc lv st σ cnt := h
    unfold opCal at h
    split at h
    · rename_i kk x na hl
      rcases cal_kind hl with rfl | rfl | rfl | rfl | rfl | rfl
      · have h : (match (generalizing := false) takA na st [] with | some (as, r) => isTrue (callOk 2 mi x cnt as r) (Gm Γ x as σ (fun o σ' => match o with | .inl v => k (pc + 3) lv (v.toList ++ r) σ' (cnt.1 + mMc x, cnt.2 + mMs x) | .inr _ => False)) | none => False) := h
        split at h
        · rename_i as r ht
          obtain ⟨h1, hz⟩ := isTrue_spec h
          obtain ⟨e1, e2⟩ := takA_nil ht
          subst e1
          exact so_callI hm hd hl e2 h1 hz (fun y σ' q => q) (fun v σ' q => hk _ _ _ _ _ q)
        · exact h.elim
      · have hb := (lib_words hl (Or.inl rfl)).2
        have h : (match (generalizing := false) x, st with | 0, .inl (.int y) :: .inl (.int x) :: r => isTrue (decide ((2 : Int) = 1) && natOk mi cnt r) (k (pc + 3) lv (.inl (.int (if x < y then y else x)) :: r) σ cnt) | 1, .inl (.int y) :: .inl (.int x) :: r => isTrue (decide ((2 : Int) = 1) && natOk mi cnt r) (k (pc + 3) lv (.inl (.int (if y < x then y else x)) :: r) σ cnt) | 2, .inl (.long y) :: .inl (.long x) :: r => isTrue (decide ((2 : Int) = 1) && natOk mi cnt r) (k (pc + 3) lv (.inl (.long (if y < x then y else x)) :: r) σ cnt) | _, _ => False) := h
        split at h
        · obtain ⟨h1, h⟩ := isTrue_spec h
          rw [Bool.and_eq_true] at h1
          exact absurd (of_decide_eq_true h1.1) (by decide)
        · obtain ⟨h1, h⟩ := isTrue_spec h
          rw [Bool.and_eq_true] at h1
          exact absurd (of_decide_eq_true h1.1) (by decide)
        · obtain ⟨h1, h⟩ := isTrue_spec h
          rw [Bool.and_eq_true] at h1
          exact absurd (of_decide_eq_true h1.1) (by decide)
        · exact h.elim
      · have h : (match (generalizing := false) st with | .inl (.int z) :: .inl (.int dp) :: .inr (u, j) :: .inl (.int sp) :: .inr (t, i) :: r => isTrue (decide ((2 : Int) = 1) && (Nat.beq (kdK t) 10 && (Nat.beq (kdK u) 10 && (natOk mi cnt r && σ.1.isNone)))) (sp = 0 ∧ dp = 0 ∧ ¬ z < 0 ∧ z.toNatClampNeg ≤ lenT t ∧ z.toNatClampNeg ≤ lenT u ∧ k (pc + 3) lv r (pC σ t i u j z.toNatClampNeg) cnt) | _ => False) := h
        split at h
        · obtain ⟨h1, h2, h3, h4, h5, h6, h⟩ := isTrue_spec h
          simp only [Bool.and_eq_true, decide_eq_true_eq] at h1
          exact absurd h1.1 (by decide)
        · exact h.elim
      · have h : (match (generalizing := false) x, st with | 0, .inr (200, s) :: r => isTrue (decide ((2 : Int) = 0) && (Nat.ble (s + 1) 28 && (Nat.ble 5 (mFr mi) && (Nat.ble 110 (mLo mi) && natOk mi cnt r)))) (k (pc + 3) lv (.inl (.int (nI (strB.getD s []).length)) :: r) σ cnt) | 1, .inl (.int j) :: .inr (200, s) :: r => isTrue (decide ((2 : Int) = 0) && (Nat.ble (s + 1) 28 && (Nat.ble 5 (mFr mi) && (Nat.ble 110 (mLo mi) && natOk mi cnt r)))) (vp_in j (strB.getD s []).length ∧ k (pc + 3) lv (.inl (.int ((strB.getD s []).getD j.toNatClampNeg 0)) :: r) σ cnt) | 0, .inr (202, s) :: r => isTrue (decide ((2 : Int) = 0) && (Nat.ble (s + 1) 28 && (Nat.ble 5 (mFr mi) && (Nat.ble 110 (mLo mi) && natOk mi cnt r)))) (k (pc + 3) lv (.inl (.int (nI (strB.getD s []).length)) :: r) σ cnt) | 1, .inl (.int j) :: .inr (202, s) :: r => isTrue (decide ((2 : Int) = 0) && (Nat.ble (s + 1) 28 && (Nat.ble 5 (mFr mi) && (Nat.ble 110 (mLo mi) && natOk mi cnt r)))) (vp_in j (strB.getD s []).length ∧ k (pc + 3) lv (.inl (.int ((strB.getD s []).getD j.toNatClampNeg 0)) :: r) σ cnt) | _, _ => False) := h
        split at h
        · obtain ⟨h1, h⟩ := isTrue_spec h
          simp only [Bool.and_eq_true, decide_eq_true_eq] at h1
          exact absurd h1.1 (by decide)
        · obtain ⟨h1, h2, h⟩ := isTrue_spec h
          simp only [Bool.and_eq_true, decide_eq_true_eq] at h1
          exact absurd h1.1 (by decide)
        · obtain ⟨h1, h⟩ := isTrue_spec h
          simp only [Bool.and_eq_true, decide_eq_true_eq] at h1
          exact absurd h1.1 (by decide)
        · obtain ⟨h1, h2, h⟩ := isTrue_spec h
          simp only [Bool.and_eq_true, decide_eq_true_eq] at h1
          exact absurd h1.1 (by decide)
        · exact h.elim
      · have h : (match (generalizing := false) st with | .inr (t, i) :: r => isTrue (decide ((2 : Int) = 2) && (Nat.ble (sumC r + 12) (mLo mi) && Nat.ble 1 (mFr mi))) (k (pc + 3) lv r σ cnt) | _ => False) := h
        split at h
        · obtain ⟨h1, h⟩ := isTrue_spec h
          simp only [Bool.and_eq_true, decide_eq_true_eq] at h1
          exact so_objInit hm hd hl (Nat.le_of_ble_eq_true h1.2.1) (Nat.le_of_ble_eq_true h1.2.2) (hk _ _ _ _ _ h)
        · exact h.elim
      · exact h.elim
    · exact h.elim
  | new idx =>
    have e := Nat.eq_of_beq_eq_true hok
    subst e
    have h : vs (gN Γ) (gS Γ) (Gm Γ) Q mi k (opNew (mOwnNo mi) idx (pc + 3)) pc lv st σ cnt := h
    have ho : opU mi pc = some (opNew (mOwnNo mi) idx (pc + 3)) := ho
    unfold opNew at h ho
    split at h
    · rename_i kk b hl
      rw [hl] at ho
      rcases new_kind hl with rfl | rfl | rfl
      · obtain ⟨t, i, g1, g2, g3, g4, g5, h⟩ := h
        exact so_new hm hd hl g1 g2 g3 g4 g5 (hk _ _ _ _ _ h)
      · exact (no31 ho hd).elim
      · have h : isTrue (!Nat.beq mi 162 && Nat.ble (b + 1) 4 && σ.1.isNone && Nat.ble (sumC st) 8 && Nat.ble (cnt.1 + 1) (mMc mi) && Nat.ble (cnt.2 + 6) (mMs mi)) (Q (.inr b) σ) := h
        obtain ⟨h1, h⟩ := isTrue_spec h
        simp only [Bool.and_eq_true, Bool.not_eq_true'] at h1
        obtain ⟨⟨⟨⟨⟨g1, g2⟩, g3⟩, g4⟩, g5⟩, g6⟩ := h1
        obtain ⟨t1, t2, t3, t4, ik, is, ic, bb, v, sno, t5, t6, t7, t8⟩ := thr_ok ho
        obtain ⟨d0, d3, d4⟩ := thrD_spec t5
        have hne : mi ≠ 162 := fun e => by rw [e] at g1; cases g1
        have g2 := Nat.le_of_ble_eq_true g2
        by_cases hb : b < 3
        · exact so_throw hm hne t1 hb t2 t3 t4 d0 t6 d3 t8 t7 d4 (Option.isNone_iff_eq_none.mp g3) (Nat.le_of_ble_eq_true g4) (Nat.le_of_ble_eq_true g5) (Nat.le_of_ble_eq_true g6) h
        · have e3 : b = 3 := by omega
          subst e3
          exact so_throwN hm hne t1 t2 t3 t4 d0 t6 d3 t8 t7 d4 (Option.isNone_iff_eq_none.mp g3) (Nat.le_of_ble_eq_true g4) (Nat.le_of_ble_eq_true g5) (Nat.le_of_ble_eq_true g6) h
    · exact h.elim
  | newarray a =>
    have e := Nat.eq_of_beq_eq_true hok
    subst e
    have h : (match (generalizing := false) st with | .inl (.int z) :: r => ∃ t i, σ.1 = some (ordT t i) ∧ i < cntT t ∧ kdK t = atNo a ∧ z = Int32.ofNat (lenT t) ∧ cnt.1 + 1 ≤ mMc mi ∧ cnt.2 + lenT t ≤ mMs mi ∧ k (pc + 2) lv (.inr (t, i) :: r) (pN σ (some (ordT t i + 1))) (cnt.1 + 1, cnt.2 + lenT t) | _ => False) := h
    split at h
    · obtain ⟨t, i, g1, g2, g3, g4, g5, g6, h⟩ := h
      exact so_newarray hm hd g1 g2 g3 g4 g5 g6 (hk _ _ _ _ _ h)
    · exact h.elim
  | anewarray idx =>
    have e := Nat.eq_of_beq_eq_true hok
    subst e
    have h : vs (gN Γ) (gS Γ) (Gm Γ) Q mi k (opAne (mOwnNo mi) idx (pc + 3)) pc lv st σ cnt := h
    have ho : opU mi pc = some (opAne (mOwnNo mi) idx (pc + 3)) := ho
    unfold opAne at h ho
    split at h
    · rename_i b hl
      rw [hl] at ho
      have h : (match (generalizing := false) st with | .inl (.int z) :: r => ∃ t i, σ.1 = some (ordT t i) ∧ i < cntT t ∧ kdK t = b ∧ z = Int32.ofNat (lenT t) ∧ cnt.1 + 1 ≤ mMc mi ∧ cnt.2 + lenT t ≤ mMs mi ∧ k (pc + 3) lv (.inr (t, i) :: r) (pN σ (some (ordT t i + 1))) (cnt.1 + 1, cnt.2 + lenT t) | _ => False) := h
      split at h
      · obtain ⟨t, i, g1, g2, g3, g4, g5, g6, h⟩ := h
        exact so_anewarray hm hd hl (ane16 ho) g1 g2 g3 g4 g5 g6 (hk _ _ _ _ _ h)
      · exact h.elim
    · exact h.elim
  | multianewarray idx d =>
    simp only [insOk, Bool.and_eq_true] at hok
    have e := Nat.eq_of_beq_eq_true hok.1
    subst e
    have e := Nat.eq_of_beq_eq_true hok.2
    subst e
    have h : vs (gN Γ) (gS Γ) (Gm Γ) Q mi k (opMul (mOwnNo mi) idx (pc + 4)) pc lv st σ cnt := h
    have ho : opU mi pc = some (opMul (mOwnNo mi) idx (pc + 4)) := ho
    unfold opMul at h ho
    split at h
    · rename_i b hl
      rw [hl] at ho
      have h : (match (generalizing := false) st with | .inl (.int y) :: .inl (.int z) :: r => ∃ t, σ.1 = some (ordT t 0) ∧ (t = 31 ∨ t = 33) ∧ z = 12 ∧ y = 12 ∧ cnt.1 + 13 ≤ mMc mi ∧ cnt.2 + 156 ≤ mMs mi ∧ k (pc + 4) lv (.inr (t, 0) :: r) (pN (pM σ t 12) (some (ordT t 0 + 13))) (cnt.1 + 1 + 12, cnt.2 + 12 + 12 * 12) | _ => False) := h
      split at h
      · obtain ⟨t, g1, g2, g3, g4, g5, g6, h⟩ := h
        exact so_multi hm hd hl (mul16 ho) g1 g2 g3 g4 g5 g6 (hk _ _ _ _ _ h)
      · exact h.elim
    · exact h.elim
  | _ => exact h.elim
theorem vc_sound {Γ : GG} {mi : Nat} {C : Nat → Option (LV → List MV → Mem → Nat × Nat → Prop)} {Q : Out → Mem → Prop} (hC : ∀ pc P lv st σ cnt, C pc = some P → P lv st σ cnt → Go Γ mi pc lv st σ cnt Q) : ∀ (f pc : Nat) (lv : LV) (st : List MV) (σ : Mem) (cnt : Nat × Nat), vc (gN Γ) (gS Γ) (Gm Γ) C Q mi f pc lv st σ cnt → Go Γ mi pc lv st σ cnt Q
  | 0, _, _, _, _, _, h => h.elim
  | f + 1, pc, lv, st, σ, cnt, h => by
    unfold vc at h
    split at h
    · rename_i o ho
      refine vs_sound ho (fun pc' lv' st' σ' cnt' h' => ?_) h
      have h' : (match C pc' with | some P => P lv' st' σ' cnt' | none => vc (gN Γ) (gS Γ) (Gm Γ) C Q mi f pc' lv' st' σ' cnt') := h'
      split at h'
      · rename_i P hP
        exact hC pc' P lv' st' σ' cnt' hP h'
      · exact vc_sound hC f pc' lv' st' σ' cnt' h'
    · exact h.elim
