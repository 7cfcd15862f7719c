/-! multianewarray: twelve rows of twelve, while things are made. -/
section VZM
variable {p : Program} {l : Launch} {e : Env} {R : Room} {s : State} {m : MethodId} {args : Array Value} {below : List Frame} {meth : Method} {c : Code} {H : Heap} {locs : List Loc} {cells slots : Nat} {Q : State → Prop}
variable {cc : ByteArray} {pc : Nat} {ls : Array Slot} {rest : List Value} {D : va_G} {cl : List vw_C} {A : Nat → Prop} {tys : List (ClassId × FieldType)} {ws : va_W} {H0 : Heap}
theorem vz_mna (hexec : p.tables.exec = Jvm.exec) (hb : c.code = cc) {own : String} {index : Nat} {ty : FieldType} {cy : ClassId} (hown : s.vm.findClass own = some m.cls) (hclink : (Cond.classLink own index ("[" ++ (FieldType.array ty).toString)).before args s = true) (hover : va_AOA ty s) (harr : (Cond.arrayClass ty).before args s = true) (hcy : s.vm.findClass (FieldType.array ty).toString = some cy)
    (hK : va_K D cl tys s) (hP : va_P D cl ws H) (hD : va_D A ws) (hS : va_S A H0 H locs) (hA : ∀ q, H0.size ≤ q → A q) {n k : Int32} {N' K' : Nat} {z : vp_A} (hn : ¬ n < 0) (hk : ¬ k < 0) (hN : n.toNatClampNeg = N') (hM : k.toNatClampNeg = K')
    (hb1 : N' * 4 ≤ 536870912) (hb2 : K' * componentBytes ty ≤ 536870912) (hb3 : K' ≤ 536870912) (hdf : fits ty (defaultValue ty) = true) (hdd : (defaultValue ty).isDefault = true) (hcells : cells + (1 + N') ≤ R.cells) (hslots : slots + (N' + N' * K') ≤ R.slots) (hz : ∀ c : ClassId, Jvm.Free.Multi.innerC c K' (defaultValue ty) = vp_cell c z) (hdg : decode cc pc = .ok (.multianewarray index 2, 4))
    (kk : ∀ (q : Nat) (cA : ClassId) (H1 : Heap), q = H.size → H1.size = H.size + (1 + N') → va_K D cl (tys ++ [(cA, .array ty)]) s →
      va_P D cl ((ws ++ [(q, .inl (cA, N', .inr (.inr (.inr (.inr (fun i => if i < N' then some (q + 1 + i) else none))))))]) ++ (List.range N').map (fun i => ((q + 1 + i, .inl (cy, z)) : Nat × va_E))) H1 →
      va_D A ((ws ++ [(q, .inl (cA, N', .inr (.inr (.inr (.inr (fun i => if i < N' then some (q + 1 + i) else none))))))]) ++ (List.range N').map (fun i => ((q + 1 + i, .inl (cy, z)) : Nat × va_E))) → va_S A H0 H1 locs →
      W p l e R s m args below meth c H1 locs (cells + 1 + N') (slots + N' + N' * K') Q (F0 m (pc + 4) ls (.ref q :: rest))) : W p l e R s m args below meth c H locs cells slots Q (F0 m pc ls (.int k :: .int n :: rest)) := by
  subst hN
  subst hM
  intro T hT Xs
  obtain ⟨vm₁, cA, comp, -, fA, fC, hO, -, X', step⟩ := Xs.multianewarray2F hexec hown hclink (va_AOA.use hover) harr (g := F0 m pc ls (.int k :: .int n :: rest)) rfl (by rw [hb]; exact hdg) rfl hn hk hb1 hb2 hb3 hdf hdd hcells hslots
  have ec : some cy = some comp := hcy.symm.trans fC
  cases ec
  generalize hF : Jvm.Free.Multi.fill (T.setVm vm₁) cA cy n.toNatClampNeg k.toNatClampNeg (defaultValue ty) n.toNatClampNeg = F at X' step
  have hTh : (T.setVm vm₁).heap = H := hT
  obtain ⟨f1, f2, -, -⟩ := Jvm.Free.Multi.fill_facts (T.setVm vm₁) cA cy n.toNatClampNeg k.toNatClampNeg (defaultValue ty) n.toNatClampNeg
  rw [hF, hTh] at f1 f2
  have hold : ∀ x : Nat, x < H.size → F.heap[x]? = H[x]? := fun x hx => by
    have := Jvm.Free.Multi.fill_old (T.setVm vm₁) cA cy n.toNatClampNeg k.toNatClampNeg (defaultValue ty) (a := x) (by rw [hTh]; exact hx) n.toNatClampNeg
    rw [hF, hTh] at this
    exact this
  have hrow : ∀ j : Nat, j < n.toNatClampNeg → F.heap[H.size + 1 + j]? = some (vp_cell cy z) := fun j hj => by
    have := Jvm.Free.Multi.fill_inner (T.setVm vm₁) cA cy n.toNatClampNeg k.toNatClampNeg (defaultValue ty) n.toNatClampNeg j hj
    rw [hF, hTh, hz] at this
    exact this
  have hout : Jvm.Free.Multi.outerC cA n.toNatClampNeg H.size n.toNatClampNeg = vp_cell cA (n.toNatClampNeg, .inr (.inr (.inr (.inr (fun i => if i < n.toNatClampNeg then some (H.size + 1 + i) else none))))) := by
    rw [vp_cell_q]
    exact vr_outer cA n.toNatClampNeg H.size n.toNatClampNeg
  rw [hout] at f2
  have hP0 : va_P D cl ws F.heap := hP.kept (fun k9 x hx => hold x.1 ((hP k9 x hx).lt))
  have hP1 : va_P D cl (ws ++ [(H.size, .inl (cA, n.toNatClampNeg, .inr (.inr (.inr (.inr (fun i => if i < n.toNatClampNeg then some (H.size + 1 + i) else none))))))]) F.heap := hP0.app (fun k9 x hx => by
    have h0 : k9 < 1 := (List.getElem?_eq_some_iff.mp hx).1
    rw [show k9 = 0 by omega] at hx
    cases hx
    exact f2)
  have hP2 : va_P D cl ((ws ++ [(H.size, .inl (cA, n.toNatClampNeg, .inr (.inr (.inr (.inr (fun i => if i < n.toNatClampNeg then some (H.size + 1 + i) else none))))))]) ++ (List.range n.toNatClampNeg).map (fun i => ((H.size + 1 + i, .inl (cy, z)) : Nat × va_E))) F.heap := hP1.app (fun k9 x hx => by
    obtain ⟨i, hi, rfl⟩ := List.mem_map.mp (List.mem_of_getElem? hx)
    exact hrow i (List.mem_range.mp hi))
  have hD2 : va_D A ((ws ++ [(H.size, .inl (cA, n.toNatClampNeg, .inr (.inr (.inr (.inr (fun i => if i < n.toNatClampNeg then some (H.size + 1 + i) else none))))))]) ++ (List.range n.toNatClampNeg).map (fun i => ((H.size + 1 + i, .inl (cy, z)) : Nat × va_E))) := by
    have hD1 := hD.push (e := .inl (cA, n.toNatClampNeg, .inr (.inr (.inr (.inr (fun i => if i < n.toNatClampNeg then some (H.size + 1 + i) else none)))))) hP rfl (hA _ hS.1)
    generalize hW1 : ws ++ [(H.size, .inl (cA, n.toNatClampNeg, .inr (.inr (.inr (.inr (fun i => if i < n.toNatClampNeg then some (H.size + 1 + i) else none))))))] = W1 at hD1 hP1 ⊢
    have hle : ∀ (k9 : Nat) (x : Nat × va_E), W1[k9]? = some x → x.1 ≤ H.size := fun k9 x hx => by
      rw [← hW1] at hx
      by_cases hl : k9 < ws.length
      · rw [List.getElem?_append_left hl] at hx
        exact Nat.le_of_lt ((hP k9 x hx).lt)
      · rw [List.getElem?_append_right (by omega)] at hx
        have h0 : k9 - ws.length < 1 := (List.getElem?_eq_some_iff.mp hx).1
        rw [show k9 - ws.length = 0 by omega] at hx
        cases hx
        exact Nat.le_refl _
    have hr : ∀ (k9 : Nat) (x : Nat × va_E), ((List.range n.toNatClampNeg).map (fun i => ((H.size + 1 + i, .inl (cy, z)) : Nat × va_E)))[k9]? = some x → x.1 = H.size + 1 + k9 := fun k9 x hx => by
      rw [List.getElem?_map] at hx
      by_cases h9 : k9 < n.toNatClampNeg
      · rw [List.getElem?_range h9] at hx
        cases hx
        rfl
      · have hn0 : (List.range n.toNatClampNeg)[k9]? = none := List.getElem?_eq_none (by rw [List.length_range]; omega)
        rw [hn0] at hx
        cases hx
    refine ⟨fun i j x y hi hj hxy => ?_, fun k9 x hx => ?_⟩
    · by_cases h1 : i < W1.length <;> by_cases h2 : j < W1.length
      · rw [List.getElem?_append_left h1] at hi
        rw [List.getElem?_append_left h2] at hj
        exact hD1.1 i j x y hi hj hxy
      · rw [List.getElem?_append_left h1] at hi
        rw [List.getElem?_append_right (by omega)] at hj
        have := hle _ _ hi
        have := hr _ _ hj
        omega
      · rw [List.getElem?_append_right (by omega)] at hi
        rw [List.getElem?_append_left h2] at hj
        have := hle _ _ hj
        have := hr _ _ hi
        omega
      · rw [List.getElem?_append_right (by omega)] at hi hj
        have := hr _ _ hi
        have := hr _ _ hj
        omega
    · by_cases h1 : k9 < W1.length
      · rw [List.getElem?_append_left h1] at hx
        exact hD1.2 k9 x hx
      · rw [List.getElem?_append_right (by omega)] at hx
        have := hr _ _ hx
        exact hA _ (by have := hS.1; omega)
  have hAr : ArrOfT s cA (.array ty) := fun N9 z9 => by
    obtain ⟨-, k9, hk9, cm9, hkk9⟩ := (hO 0 0 0).1
    exact ⟨(fun q hq => by cases hq), k9, hk9, cm9, hkk9⟩
  have hK2 : va_K D cl (tys ++ [(cA, .array ty)]) s := ⟨hK.1, fun k9 x hx => by
    by_cases hl : k9 < tys.length
    · rw [List.getElem?_append_left hl] at hx
      exact hK.2 k9 x hx
    · rw [List.getElem?_append_right (by omega)] at hx
      have h0 : k9 - tys.length < 1 := (List.getElem?_eq_some_iff.mp hx).1
      rw [show k9 - tys.length = 0 by omega] at hx
      cases hx
      exact ⟨hAr, fA⟩⟩
  obtain ⟨t, a1, b1⟩ := kk H.size cA F.heap rfl (by rw [f1]; omega) hK2 hP2 hD2 ⟨by rw [f1]; have := hS.1; omega, fun x h1 h2 => (hold x (Nat.lt_of_lt_of_le h1 hS.1)).trans (hS.2.1 x h1 h2), hS.2.2⟩ F rfl X'
  refine ⟨t, step t ?_, b1⟩
  have e : T.heap.size = H.size := by rw [hT]
  rw [e]
  exact a1
end VZM
theorem mul16_0 : (List.range 163).all (fun mi => (List.range (mLen mi)).all (fun pc => match opU mi pc with
  | some (31, _, b, _, _, _) => Nat.beq b 16
  | _ => true)) = true := by decide +kernel
theorem mul16 {mi pc b c n : Nat} {a : Int} {l : List Nat} (h : opU mi pc = some (31, a, b, c, n, l)) : b = 16 := by
  obtain ⟨h1, h2⟩ := opU_lt h
  have h3 := List.all_eq_true.mp (List.all_eq_true.mp mul16_0 mi (List.mem_range.mpr h1)) pc (List.mem_range.mpr h2)
  rw [h] at h3
  exact Nat.eq_of_beq_eq_true h3
theorem mul_words0 : aneL.all (fun q => !Nat.beq q.2 16 || decide (Cond.classLink (ownN q.1.1) q.1.2 ("[" ++ (FieldType.array .int).toString) ∈ lw_tbl)) = true := by decide +kernel
theorem mul_words {ow idx : Nat} (h : look2 aneL ow idx = some 16) : Cond.classLink (ownN ow) idx ("[" ++ (FieldType.array .int).toString) ∈ wG := by
  have h1 := List.all_eq_true.mp mul_words0 _ (look2_mem h)
  have h2 : Cond.classLink (ownN ow) idx ("[" ++ (FieldType.array .int).toString) ∈ lw_tbl := by simpa using h1
  exact List.mem_filter.mpr ⟨h2, rfl⟩
theorem mul_take {t : Nat} (ht : t = 31 ∨ t = 33) : allO.take (ordT t 0 + 13) = (allO.take (ordT t 0) ++ [(t, 0)]) ++ (List.range 12).map (fun i => (t + 1, i)) := by
  rcases ht with rfl | rfl <;> decide +kernel
theorem mul_old {t : Nat} (ht : t = 31 ∨ t = 33) : ∀ q ∈ allO.take (ordT t 0), q.1 ≠ t ∨ q.2 ≠ 0 := by
  rcases ht with rfl | rfl <;> decide +kernel
theorem mul_num {t : Nat} (ht : t = 31 ∨ t = 33) : kdK t = 16 ∧ lenT t = 12 ∧ cntT t = 1 ∧ kdK (t + 1) = 10 ∧ lenT (t + 1) = 12 ∧ cntT (t + 1) = 12 ∧ (∀ i, ordT (t + 1) i = ordT t 0 + 1 + i) ∧ ordT t 0 + 13 ≤ 283 ∧ t + 1 < 85 := by
  rcases ht with rfl | rfl
  · refine ⟨by decide +kernel, by decide +kernel, by decide +kernel, by decide +kernel, by decide +kernel, by decide +kernel, fun i => ?_, by decide +kernel, by decide⟩
    show (ordL.getD 32 (0, 0, 0)).1 + (ordL.getD 32 (0, 0, 0)).2.1 * i = _
    rw [show (ordL.getD 32 (0, 0, 0)).1 = ordT 31 0 + 1 by decide +kernel, show (ordL.getD 32 (0, 0, 0)).2.1 = 1 by decide +kernel, Nat.one_mul]
  · refine ⟨by decide +kernel, by decide +kernel, by decide +kernel, by decide +kernel, by decide +kernel, by decide +kernel, fun i => ?_, by decide +kernel, by decide⟩
    show (ordL.getD 34 (0, 0, 0)).1 + (ordL.getD 34 (0, 0, 0)).2.1 * i = _
    rw [show (ordL.getD 34 (0, 0, 0)).1 = ordT 33 0 + 1 by decide +kernel, show (ordL.getD 34 (0, 0, 0)).2.1 = 1 by decide +kernel, Nat.one_mul]
theorem ws_mul {Γ : GG} {σ : Mem} {t : Nat} (ht : t = 31 ∨ t = 33) (hσ : σ.1 = some (ordT t 0)) : wsOf Γ (pN (pM σ t 12) (some (ordT t 0 + 13))) = (wsOf Γ σ ++ [(adr Γ t 0, cellE Γ (pN (pM σ t 12) (some (ordT t 0 + 13))) (t, 0))]) ++ (List.range 12).map (fun i => (adr Γ (t + 1) i, cellE Γ σ (t + 1, i))) := by
  have h1 : liveO (pN (pM σ t 12) (some (ordT t 0 + 13))) = allO.take (ordT t 0 + 13) := rfl
  have h2 : liveO σ = allO.take (ordT t 0) := by unfold liveO; rw [hσ]
  unfold wsOf
  rw [h1, h2, mul_take ht, List.map_append, List.map_append, List.map_map]
  congr 1
  · congr 1
    refine List.map_congr_left fun q hq => ?_
    have h3 := mul_old ht q hq
    rw [cellE_congr (σ := σ) (σ' := pN (pM σ t 12) (some (ordT t 0 + 13))) rfl rfl (funext fun j => if_neg (fun g => h3.elim (fun e => e g.1) (fun e => e g.2.1)))]
  · refine List.map_congr_left fun i _ => ?_
    show (adr Γ (t + 1) i, cellE Γ (pN (pM σ t 12) (some (ordT t 0 + 13))) (t + 1, i)) = _
    rw [cellE_congr (σ := σ) (σ' := pN (pM σ t 12) (some (ordT t 0 + 13))) rfl rfl (funext fun j => if_neg (fun g => by have : t + 1 = t := g.1; omega))]
section SNM
variable {Γ : GG} {mi pc : Nat} {lv : LV} {r : List MV} {σ : Mem} {cnt : Nat × Nat} {Q : Out → Mem → Prop}
theorem so_multi {idx b t : Nat} {y z : Int32} (hm : mi < 163) (hd : decode (mCode mi) pc = .ok (.multianewarray idx 2, 4)) (hf : look2 aneL (mOwnNo mi) idx = some b) (hb : b = 16) (hσ : σ.1 = some (ordT t 0)) (ht : t = 31 ∨ t = 33) (hz : z = 12) (hy : y = 12) (hc : cnt.1 + 13 ≤ mMc mi) (hs : cnt.2 + 156 ≤ mMs mi) (h : Go Γ mi (pc + 4) lv (.inr (t, 0) :: r) (pN (pM σ t 12) (some (ordT t 0 + 13))) (cnt.1 + 1 + 12, cnt.2 + 12 + 12 * 12) Q) : Go Γ mi pc lv (.inl (.int y) :: .inl (.int z) :: r) σ cnt Q := by
  intro n0 p e s m args below meth c H locs ls hn M hl hW hS hlv hst h1
  subst hz hy hb
  obtain ⟨k1, k2, k3, k4, k5, k6, k7, k8, k9⟩ := mul_num ht
  have w := M.2.2.2.2.2.1
  have F := M.2.2.2.2.2.2.2.2
  have hi : 0 < cntT t := by omega
  have e1 := adr_new hW hσ hi
  have er : ∀ i, adr Γ (t + 1) i = H.size + 1 + i := fun i => by
    rw [adr_lt k9, k7, ← e1, adr_lt (by omega)]; omega
  have hle : leN σ.1 (pN (pM σ t 12) (some (ordT t 0 + 13))).1 := by
    rw [hσ]; exact fun k h => ⟨ordT t 0, rfl, by cases h; omega⟩
  have hdead : ∀ i, ¬ alive σ (t + 1) i := fun i g => by
    have := g.2 _ hσ
    rw [k7] at this; omega
  have hzi : ∀ i, mI σ (t + 1) i = fun _ => 0 := fun i => funext fun j => (hW.2.2.2.2.2 _ hσ (t + 1) i (hdead i) j).1
  have hrowE : ∀ i, cellE Γ σ (t + 1, i) = .inl (gC Γ 10, 12, .inl (fun _ => 0)) := fun i => by
    rw [cell_num k4 (by decide) (by decide) (by decide), k5, hzi]
  have hzr : ∀ j, mR σ t 0 j = none := fun j => (hW.2.2.2.2.2 _ hσ t 0 (not_alive hσ) j).2.2
  have houtE : cellE Γ (pN (pM σ t 12) (some (ordT t 0 + 13))) (t, 0) = .inl (gC Γ 16, 12, .inr (.inr (.inr (.inr (fun i => if i < 12 then some (H.size + 1 + i) else none))))) := by
    rw [cell_ref k1 (by decide), k2]
    congr 1
    refine Prod.ext rfl (Prod.ext rfl ?_)
    show Sum.inr _ = Sum.inr _
    congr 4
    funext j
    show refV Γ (if t = t ∧ 0 = 0 ∧ j < 12 then some (t + 1, j) else mR σ t 0 j) = _
    by_cases hj : j < 12
    · rw [if_pos ⟨rfl, rfl, hj⟩, if_pos hj]
      show some (adr Γ (t + 1) j) = _
      rw [er]
    · rw [if_neg (fun g => hj g.2.2), if_neg hj, hzr]; rfl
  refine vz_mna (ty := .int) (cy := gC Γ 10) (N' := 12) (K' := 12) (z := (12, .inl (fun _ => 0))) M.1 M.2.1 M.2.2.2.2.1 (w _ (by rw [mOwn_eq mi hm]; exact mul_words hf)) F.2.2.2.2.2.2.2.2.2.2.2.2.1 (w _ (arr_w _ (by simp))) (F.1.2 0 _ rfl).2 F.1 hW.1 hW.2.1 hS (fun q hq => Nat.le_trans F.2.1 hq) (by decide) (by decide) (by decide) (by decide) (by decide) (by decide) (by decide) rfl rfl hc hs (fun c9 => by show _ = arrV c9 12 (fun _ => .int 0); rw [← arrV_new]; rfl) hd (fun q cA H1 hq hz hK1 hP1 hD1 hS1 => ?_)
  subst hq
  have hcA : cA = gC Γ 16 := by
    have r1 := (hK1.2 (tysOf Γ).length (cA, FieldType.array .int) (by rw [List.getElem?_append_right (Nat.le_refl _), Nat.sub_self]; rfl)).2
    have r2 := (F.1.2 6 (gC Γ 16, FieldType.array .int) rfl).2
    exact Option.some.inj (Eq.trans (Eq.symm r1) r2)
  subst hcA
  have hrows : (List.range 12).map (fun i => ((H.size + 1 + i, .inl (gC Γ 10, 12, .inl (fun _ => 0))) : Nat × va_E)) = (List.range 12).map (fun i => (adr Γ (t + 1) i, cellE Γ σ (t + 1, i))) := List.map_congr_left fun i _ => by rw [er, hrowE]
  rw [hrows, ← houtE, ← e1, ← ws_mul ht hσ] at hP1 hD1
  rw [← e1]
  have ha : alive (pN (pM σ t 12) (some (ordT t 0 + 13))) t 0 := ⟨hi, fun k hk => by cases hk; omega⟩
  have hW1 : Wd Γ (pN (pM σ t 12) (some (ordT t 0 + 13))) H1 := by
    obtain ⟨-, -, h3, h4, h5, h6⟩ := hW
    refine ⟨hP1, hD1, by omega, fun k hk => ?_, fun a b c d hab hd => ?_, fun k0 _ a b hab j => ?_⟩
    · have hk : some (ordT t 0 + 13) = some k := hk
      cases hk
      have := (h4 _ hσ).1
      exact ⟨by omega, k8⟩
    · have hd : (if a = t ∧ b = 0 ∧ c < 12 then some (t + 1, c) else mR σ a b c) = some d := hd
      by_cases g : a = t ∧ b = 0 ∧ c < 12
      · rw [if_pos g] at hd
        cases hd
        exact ⟨k9, by show c < cntT (t + 1); omega, fun k hk => by cases hk; rw [k7]; omega⟩
      · rw [if_neg g] at hd
        by_cases hl : alive σ a b
        · exact ⟨(h5 a b c d hl hd).1, alive_mono hle (h5 a b c d hl hd).2⟩
        · rw [(h6 _ hσ a b hl c).2.2] at hd; cases hd
    · have g := h6 _ hσ a b (fun q => hab (alive_mono hle q)) j
      refine ⟨g.1, g.2.1, ?_⟩
      show (if a = t ∧ b = 0 ∧ j < 12 then some (t + 1, j) else mR σ a b j) = none
      rw [if_neg (fun q => hab (by rw [q.1, q.2.1]; exact ha))]
      exact g.2.2
  exact h n0 p e s m args below meth c H1 locs ls (leN_trans hn hle) M hl hW1 hS1 (fun q hq => okV_mono hle (hlv q hq)) (okS_cons (fun _ => ha) (fun q hq => okV_mono hle (okS_tl (okS_tl hst) q hq))) h1
end SNM
