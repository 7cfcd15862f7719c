/-! What is made: the kit's rows with the new address and the heap's size told (turned from va_new, va_newa, va_newq). -/
section VZN
variable {p : Program} {l : Launch} {e : Env} {R : Room} {s : State} {m : MethodId} {args : Array Value} {below : List Frame} {meth : Method} {c : Code} {H : Heap} {locs : List Loc} {cells slots : Nat} {Q : State → Prop}
variable {cc : ByteArray} {pc : Nat} {ls : Array Slot} {rest : List Value} {D : va_G} {cl : List vw_C} {A : Nat → Prop} {a : Nat} {tys : List (ClassId × FieldType)} {ws : va_W} {H0 : Heap}
theorem vz_new {c0 : Code} (hexec : p.tables.exec = Jvm.exec) (hb : c0.code = cc) {own C : String} {T : u_T} {N ci index : Nat} {Ts : List Cond} (hts : ∀ w ∈ Ts, w.before args s = true) (hin : ∀ w ∈ u_ws C T N, w ∈ Ts) (ty : Nat → FieldType) (hty : ∀ k, k < N → parseFieldDescriptor (T k).2.2.1 = some (ty k)) (hown : s.vm.findClass own = some m.cls) (hcl : (Cond.classLink own index C).before args s = true) (hinst : (Cond.instantiable C N).before args s = true) (hini : (Cond.initialized C).before args s = true)
    (hK : va_K D cl tys s) (hP : va_P D cl ws H) (hD : va_D A ws) (hS : va_S A H0 H locs) (hA : ∀ q, H0.size ≤ q → A q) (hc : cl[ci]? = some (C, T, N)) {fs : List Value} (hfs : ∀ j, j < N → defaultValue (ty j) = vp_V fs j) (hcells : cells + 1 ≤ R.cells) (hslots : slots + N ≤ R.slots) (hdg : decode cc pc = .ok (.new index, 3))
    (kk : ∀ (q : Nat) (H1 : Heap), q = H.size → H1.size = H.size + 1 → va_P D cl (ws ++ [(q, .inr (ci, fs))]) H1 → va_D A (ws ++ [(q, .inr (ci, fs))]) → va_S A H0 H1 locs →
      W p l e R s m args below meth c0 H1 locs (cells + 1) (slots + N) Q (F0 m (pc + 3) ls (.ref q :: rest))) : W p l e R s m args below meth c0 H locs cells slots Q (F0 m pc ls rest) := by
  have hKn := hK.1 ci _ hc
  refine W.newcK hexec hb hown hcl hinst hini rfl hdg hcells hslots hKn.2.1 rfl fun H1 kC hkC e1 z1 o1 => ?_
  have hk : ∀ (k : Nat) (x : Nat × va_E), ws[k]? = some x → H1[x.1]? = H[x.1]? := fun k x hx => o1 x.1 ((hP k x hx).lt)
  refine kk H.size H1 rfl z1 ((hP.kept hk).app (fun k x hx => ?_)) (hD.push hP rfl (hA _ hS.1)) ⟨Nat.le_trans hS.1 (by omega), fun x h1 h2 => (o1 x (Nat.lt_of_lt_of_le h1 hS.1)).trans (hS.2.1 x h1 h2), hS.2.2⟩
  have hz : k < 1 := (List.getElem?_eq_some_iff.mp hx).1
  rw [show k = 0 by omega] at hx
  cases hx
  exact ⟨_, hc, (u_born ty hts hin hKn hkC e1 hty).to hfs⟩
theorem vz_newa (hexec : p.tables.exec = Jvm.exec) (hb : c.code = cc) {atype : ArrayType} (harr : (Cond.arrayClass (newarray.typeOf atype)).before args s = true) {ty : FieldType} (hty : newarray.typeOf atype = ty) (hK : va_K D cl tys s) (hP : va_P D cl ws H) (hD : va_D A ws) (hS : va_S A H0 H locs) (hA : ∀ q, H0.size ≤ q → A q)
    {n : Int32} {N' : Nat} {a0 : vp_A} (ha : ∀ cA : ClassId, vp_cell cA a0 = arrV cA N' (fun _ => defaultValue ty)) (hn : ¬ n < 0) (hN : n.toNatClampNeg = N') (hbytes : N' * componentBytes ty ≤ 536870912) (hcells : cells + 1 ≤ R.cells) (hslots : slots + N' ≤ R.slots) (hdg : decode cc pc = .ok (.newarray atype, 2))
    (kk : ∀ (q : Nat) (cA : ClassId) (H1 : Heap), q = H.size → H1.size = H.size + 1 → va_K D cl (tys ++ [(cA, ty)]) s → va_P D cl (ws ++ [(q, .inl (cA, a0))]) H1 → va_D A (ws ++ [(q, .inl (cA, a0))]) → va_S A H0 H1 locs →
      W p l e R s m args below meth c H1 locs (cells + 1) (slots + N') Q (F0 m (pc + 2) ls (.ref q :: rest))) : W p l e R s m args below meth c H locs cells slots Q (F0 m pc ls (.int n :: rest)) := by
  subst hty
  refine va_newaK hexec hb harr rfl hdg rfl hn hN hbytes hcells hslots rfl fun H1 cA e1 z1 o1 hAr hNm => ?_
  have hk : ∀ (k : Nat) (x : Nat × va_E), ws[k]? = some x → H1[x.1]? = H[x.1]? := fun k x hx => o1 x.1 ((hP k x hx).lt)
  refine kk H.size cA H1 rfl z1 ⟨hK.1, fun k x hx => ?_⟩ ((hP.kept hk).app (fun k x hx => ?_)) (hD.push hP rfl (hA _ hS.1)) ⟨Nat.le_trans hS.1 (by omega), fun x h1 h2 => (o1 x (Nat.lt_of_lt_of_le h1 hS.1)).trans (hS.2.1 x h1 h2), hS.2.2⟩
  · by_cases hl : k < tys.length
    · rw [List.getElem?_append_left hl] at hx
      exact hK.2 k x hx
    · rw [List.getElem?_append_right (by omega)] at hx
      have hz : k - tys.length < 1 := (List.getElem?_eq_some_iff.mp hx).1
      rw [show k - tys.length = 0 by omega] at hx
      cases hx
      exact ⟨hAr, by cases atype <;> exact hNm⟩
  · have hz : k < 1 := (List.getElem?_eq_some_iff.mp hx).1
    rw [show k = 0 by omega] at hx
    cases hx
    show H1[H.size]? = some (vp_cell _ _)
    rw [ha]
    exact e1
theorem vz_newq (hexec : p.tables.exec = Jvm.exec) (hb : c.code = cc) {own C : String} {index : Nat} (hown : s.vm.findClass own = some m.cls) (hclink : (Cond.classLink own index C).before args s = true) (hover : va_AO C s) (hK : va_K D cl tys s) (hP : va_P D cl ws H) (hD : va_D A ws) (hS : va_S A H0 H locs) (hA : ∀ q, H0.size ≤ q → A q)
    {n : Int32} {N' : Nat} (hn : ¬ n < 0) (hN : n.toNatClampNeg = N') (hbytes : N' * 4 ≤ 536870912) (hcells : cells + 1 ≤ R.cells) (hslots : slots + N' ≤ R.slots) (hdg : decode cc pc = .ok (.anewarray index, 3))
    (kk : ∀ (q : Nat) (cA : ClassId) (H1 : Heap), q = H.size → H1.size = H.size + 1 → va_K D cl (tys ++ [(cA, .object C)]) s → va_P D cl (ws ++ [(q, .inl (cA, N', .inr (.inr (.inr (.inr (fun _ => none))))))]) H1 → va_D A (ws ++ [(q, .inl (cA, N', .inr (.inr (.inr (.inr (fun _ => none))))))]) → va_S A H0 H1 locs →
      W p l e R s m args below meth c H1 locs (cells + 1) (slots + N') Q (F0 m (pc + 3) ls (.ref q :: rest))) : W p l e R s m args below meth c H locs cells slots Q (F0 m pc ls (.int n :: rest)) := by
  subst hN
  refine W.anew hexec hb hown hclink (va_AO.use hover) rfl hdg rfl hn hbytes hcells hslots fun cA kA comp f1 f2 f3 f4 => ?_
  generalize hH1 : H.push ({ cls := cA, slots := Array.replicate n.toNatClampNeg .null, vm := .none } : Cell) = H1
  have z1 : H1.size = H.size + 1 := by rw [← hH1, Array.size_push]
  have e1 : H1[H.size]? = some (arrV cA n.toNatClampNeg (fun _ => .null)) := by rw [← hH1, Array.getElem?_push_size, ← arrV_new]
  have o1 : ∀ q : Nat, q < H.size → H1[q]? = H[q]? := fun q hq => by rw [← hH1, Array.getElem?_push, if_neg (Nat.ne_of_lt hq)]
  have hAr : ArrOfT s cA (.object C) := fun N z => ⟨(fun k h => by cases h), kA, f2, comp, f3⟩
  have hk : ∀ (k : Nat) (x : Nat × va_E), ws[k]? = some x → H1[x.1]? = H[x.1]? := fun k x hx => o1 x.1 ((hP k x hx).lt)
  refine kk H.size cA H1 rfl z1 ⟨hK.1, fun k x hx => ?_⟩ ((hP.kept hk).app (fun k x hx => ?_)) (hD.push hP rfl (hA _ hS.1)) ⟨Nat.le_trans hS.1 (by omega), fun x h1 h2 => (o1 x (Nat.lt_of_lt_of_le h1 hS.1)).trans (hS.2.1 x h1 h2), hS.2.2⟩
  · by_cases hl : k < tys.length
    · rw [List.getElem?_append_left hl] at hx
      exact hK.2 k x hx
    · rw [List.getElem?_append_right (by omega)] at hx
      have hz : k - tys.length < 1 := (List.getElem?_eq_some_iff.mp hx).1
      rw [show k - tys.length = 0 by omega] at hx
      cases hx
      exact ⟨hAr, kA, comp, f2, f3, f4, f1⟩
  · have hz : k < 1 := (List.getElem?_eq_some_iff.mp hx).1
    rw [show k = 0 by omega] at hx
    cases hx
    show H1[H.size]? = some (vp_cell _ _)
    rw [vp_cell_q]
    exact e1
end VZN
theorem ws_new {Γ : GG} {σ : Mem} {t i : Nat} (hσ : σ.1 = some (ordT t i)) (hi : i < cntT t) : wsOf Γ (pN σ (some (ordT t i + 1))) = wsOf Γ σ ++ [(adr Γ t i, cellE Γ σ (t, i))] := by
  have hf : (fun q : Nat × Nat => (adr Γ q.1 q.2, cellE Γ (pN σ (some (ordT t i + 1))) q)) = (fun q => (adr Γ q.1 q.2, cellE Γ σ q)) := by
    funext q
    rw [cellE_congr (σ := σ) (σ' := pN σ (some (ordT t i + 1))) rfl rfl rfl]
  have h1 : liveO (pN σ (some (ordT t i + 1))) = allO.take (ordT t i + 1) := rfl
  have h2 : liveO σ = allO.take (ordT t i) := by unfold liveO; rw [hσ]
  unfold wsOf
  rw [hf, h1, h2, List.take_succ, allO_at hi, List.map_append]
  rfl
theorem leN_step (n : Nat) : leN (some n) (some (n + 1)) := fun k h => ⟨n, rfl, by cases h; omega⟩
theorem not_alive {σ : Mem} {t i : Nat} (hσ : σ.1 = some (ordT t i)) : ¬ alive σ t i := fun h => Nat.lt_irrefl _ (h.2 _ hσ)
theorem Wd_new {Γ : GG} {σ : Mem} {H H1 : Heap} {t i : Nat} (h : Wd Γ σ H) (hσ : σ.1 = some (ordT t i)) (hi : i < cntT t) (hP : va_P (gD Γ) vwCl (wsOf Γ (pN σ (some (ordT t i + 1)))) H1) (hD : va_D (gA Γ) (wsOf Γ (pN σ (some (ordT t i + 1))))) (hz : H1.size = H.size + 1) : Wd Γ (pN σ (some (ordT t i + 1))) H1 := by
  obtain ⟨-, -, h3, h4, h5, h6⟩ := h
  have hle : leN σ.1 (pN σ (some (ordT t i + 1))).1 := by rw [hσ]; exact leN_step _
  refine ⟨hP, hD, by omega, fun k hk => ?_, fun a b c d _ hd => ?_, fun k0 _ a b hab j => h6 _ hσ a b (fun q => hab (alive_mono hle q)) j⟩
  rotate_left
  · have hd : mR σ a b c = some d := hd
    by_cases hl : alive σ a b
    · exact ⟨(h5 a b c d hl hd).1, alive_mono hle (h5 a b c d hl hd).2⟩
    · rw [(h6 _ hσ a b hl c).2.2] at hd; cases hd
  have hk : some (ordT t i + 1) = some k := hk
  cases hk
  have h8 := (h4 _ hσ).1
  have h9 : ordT t i < 283 := by
    have := (List.getElem?_eq_some_iff.mp (allO_at hi)).1
    rw [allO_len] at this
    exact this
  exact ⟨by omega, by omega⟩
theorem adr_new {Γ : GG} {σ : Mem} {H : Heap} {t i : Nat} (h : Wd Γ σ H) (hσ : σ.1 = some (ordT t i)) (hi : i < cntT t) : adr Γ t i = H.size := by
  have ht : t < 85 := by
    rcases Nat.lt_or_ge t 85 with q | q
    · exact q
    · rw [cntT_out q] at hi; exact absurd hi (Nat.not_lt_zero _)
  rw [adr_lt ht]
  exact (h.2.2.2.1 _ hσ).1.symm
theorem new_words0 : newL.all (fun q => !Nat.beq q.2.1 28 || (Nat.ble (q.2.2 + 1) 8 && (decide (Cond.classLink (ownN q.1.1) q.1.2 (clsR q.2.2) ∈ lw_tbl) && (decide (Cond.instantiable (clsR q.2.2) (nFld q.2.2) ∈ lw_tbl) && decide (Cond.initialized (clsR q.2.2) ∈ lw_tbl))))) = true := by decide +kernel
theorem new_words {ow idx b : Nat} (h : look2 newL ow idx = some (28, b)) : b < 8 ∧ Cond.classLink (ownN ow) idx (clsR b) ∈ wG ∧ Cond.instantiable (clsR b) (nFld b) ∈ wG ∧ Cond.initialized (clsR b) ∈ wG := by
  have h1 := List.all_eq_true.mp new_words0 _ (look2_mem h)
  simp only [Bool.or_eq_true, Bool.and_eq_true, decide_eq_true_eq] at h1
  rcases h1 with q | q
  · cases q
  · exact ⟨Nat.le_of_ble_eq_true q.1, List.mem_filter.mpr ⟨q.2.1, rfl⟩, List.mem_filter.mpr ⟨q.2.2.1, rfl⟩, List.mem_filter.mpr ⟨q.2.2.2, rfl⟩⟩
theorem fty_two : ∀ c, c < 8 → ∀ k, k < nFld c → ftT c k ≠ 0 → ftT c k ≠ 1 → ftT c k = 2 := by
  have key : ∀ c, c < 8 → ∀ k, k < nFld c → (Nat.ble (ftT c k) 2) = true := fun c h => lt8 (P := fun c => ∀ k, k < nFld c → (Nat.ble (ftT c k) 2) = true) h (by decide +kernel) (by decide +kernel) (by decide +kernel) (by decide +kernel) (by decide +kernel) (by decide +kernel) (by decide +kernel) (by decide +kernel)
  intro c hc k hk h0 h1
  have := Nat.le_of_ble_eq_true (key c hc k hk)
  omega
theorem so_new {Γ : GG} {mi pc : Nat} {lv : LV} {r : List MV} {σ : Mem} {cnt : Nat × Nat} {Q : Out → Mem → Prop} {idx b t i : Nat} (hm : mi < 163) (hd : decode (mCode mi) pc = .ok (.new idx, 3)) (hf : look2 newL (mOwnNo mi) idx = some (28, b)) (hσ : σ.1 = some (ordT t i)) (hi : i < cntT t) (hk : kdK t = b) (hc : cnt.1 + 1 ≤ mMc mi) (hs : cnt.2 + nFld b ≤ mMs mi) (h : Go Γ mi (pc + 3) lv (.inr (t, i) :: r) (pN σ (some (ordT t i + 1))) (cnt.1 + 1, cnt.2 + nFld b) Q) : Go Γ mi pc lv r σ cnt Q := by
  intro n0 p e s m args below meth c H locs ls hn M hl hW hS hlv hst h1
  obtain ⟨b8, w1, w2, w3⟩ := new_words hf
  have w := M.2.2.2.2.2.1
  have F := M.2.2.2.2.2.2.2.2
  have e1 := adr_new hW hσ hi
  have hle : leN σ.1 (pN σ (some (ordT t i + 1))).1 := by rw [hσ]; exact leN_step _
  have hzero := hW.2.2.2.2.2 _ hσ t i (not_alive hσ)
  have hfs : ∀ j, j < nFld b → defaultValue (clsY b j) = vp_V ((List.range (nFld b)).map (fldV Γ σ b (t, i))) j := fun j hj => by
    unfold vp_V
    rw [List.getD_eq_getElem?_getD, rng_at _ hj]
    show _ = fldV Γ σ b (t, i) j
    obtain ⟨t1, t2, t3, -⟩ := fty_ok b b8 j hj
    obtain ⟨z1, z2, z3⟩ := hzero j
    unfold fldV
    split
    · rename_i hy; rw [t1 hy]; show Value.int 0 = Value.int (mI σ t i j); rw [z1]
    · rename_i hy; rw [t2 hy]; show Value.long 0 = Value.long (mJ σ t i j); rw [z2]
    · rename_i h0 h2
      show _ = va_rf (refV Γ (mR σ t i j))
      rw [z3]
      have hft : ftT b j = 2 := fty_two b b8 j hj h0 h2
      rcases t3 hft with ⟨n, e⟩ | ⟨n, e⟩ <;> rw [e] <;> rfl
  refine vz_new (ci := b) (fs := (List.range (nFld b)).map (fldV Γ σ b (t, i))) M.1 M.2.1 w (cls_ws b8) (clsY b) (cls_ty b8) M.2.2.2.2.1 (w _ (by rw [mOwn_eq mi hm]; exact w1)) (w _ w2) (w _ w3) F.1 hW.1 hW.2.1 hS (fun q hq => Nat.le_trans F.2.1 hq) (cls_at b8) hfs hc hs hd (fun q H1 hq hz hP1 hD1 hS1 => ?_)
  subst hq
  rw [← cell_obj hk b8, ← e1, ← ws_new hσ hi] at hP1 hD1
  rw [← e1]
  exact h n0 p e s m args below meth c H1 locs ls (leN_trans hn hle) M hl (Wd_new hW hσ hi hP1 hD1 hz) hS1 (fun q hq => okV_mono hle (hlv q hq)) (okS_cons (fun _ => ⟨hi, fun k hk2 => by cases hk2; exact Nat.lt_succ_self _⟩) (fun q hq => okV_mono hle (hst q hq))) h1
