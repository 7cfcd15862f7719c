/-! The objects' places in the world, and what a store changes. -/
theorem allO_at0 : (List.range 85).all (fun t => (List.range (cntT t)).all (fun i => decide (allO[ordT t i]? = some (t, i)))) = true := by decide +kernel
theorem allO_inv0 : (List.range 283).all (fun k => match allO[k]? with
  | some q => decide (k = ordT q.1 q.2) && (decide (q.2 < cntT q.1) && decide (q.1 < 85))
  | none => false) = true := by decide +kernel
theorem kdL_len : kdL.length = 85 := by decide +kernel
theorem ordL_len : ordL.length = 85 := by decide +kernel
theorem allO_len : allO.length = 283 := by decide +kernel
theorem cntT_out {t : Nat} (h : 85 ≤ t) : cntT t = 0 := by
  unfold cntT
  rw [List.getD_eq_getElem?_getD, List.getElem?_eq_none (by rw [ordL_len]; exact h)]
  rfl
theorem kdK_out {t : Nat} (h : 85 ≤ t) : kdK t = 99 := by
  unfold kdK
  rw [List.getD_eq_getElem?_getD, List.getElem?_eq_none (by rw [kdL_len]; exact h)]
  rfl
theorem kdK_in {t c : Nat} (h : kdK t = c) (hc : c ≠ 99) : t < 85 := by
  rcases Nat.lt_or_ge t 85 with q | q
  · exact q
  · exact absurd (h.symm.trans (kdK_out q)) hc
theorem allO_at {t i : Nat} (h : i < cntT t) : allO[ordT t i]? = some (t, i) := by
  rcases Nat.lt_or_ge t 85 with q | q
  · have h1 := List.all_eq_true.mp allO_at0 t (List.mem_range.mpr q)
    have h2 := List.all_eq_true.mp h1 i (List.mem_range.mpr h)
    exact of_decide_eq_true h2
  · rw [cntT_out q] at h
    exact absurd h (Nat.not_lt_zero _)
theorem allO_inv {k : Nat} {q : Nat × Nat} (h : allO[k]? = some q) : k = ordT q.1 q.2 ∧ q.2 < cntT q.1 ∧ q.1 < 85 := by
  have hk : k < 283 := by
    have := (List.getElem?_eq_some_iff.mp h).1
    rw [allO_len] at this
    exact this
  have h1 := List.all_eq_true.mp allO_inv0 k (List.mem_range.mpr hk)
  rw [h] at h1
  simp only [Bool.and_eq_true, decide_eq_true_eq] at h1
  exact h1
theorem alive_lt {σ : Mem} {t i : Nat} (h : alive σ t i) : t < 85 := by
  rcases Nat.lt_or_ge t 85 with q | q
  · exact q
  · have := h.1
    rw [cntT_out q] at this
    exact absurd this (Nat.not_lt_zero _)
theorem liveO_at {σ : Mem} {t i : Nat} (h : alive σ t i) : (liveO σ)[ordT t i]? = some (t, i) := by
  have h1 := allO_at h.1
  unfold liveO
  split
  · rename_i k hk
    rw [List.getElem?_take, if_pos (h.2 k hk)]
    exact h1
  · exact h1
theorem liveO_inv {σ : Mem} {k : Nat} {q : Nat × Nat} (h : (liveO σ)[k]? = some q) : k = ordT q.1 q.2 ∧ alive σ q.1 q.2 ∧ q.1 < 85 := by
  unfold liveO at h
  split at h
  · rename_i n hn
    rw [List.getElem?_take] at h
    split at h
    · rename_i hlt
      obtain ⟨h1, h2, h3⟩ := allO_inv h
      exact ⟨h1, ⟨h2, fun j hj => by rw [hn] at hj; cases hj; omega⟩, h3⟩
    · cases h
  · rename_i hn
    obtain ⟨h1, h2, h3⟩ := allO_inv h
    exact ⟨h1, ⟨h2, fun j hj => by rw [hn] at hj; cases hj⟩, h3⟩
theorem ws_get {Γ : GG} {σ : Mem} {t i : Nat} (h : alive σ t i) : (wsOf Γ σ)[ordT t i]? = some (adr Γ t i, cellE Γ σ (t, i)) := by
  unfold wsOf
  rw [List.getElem?_map, liveO_at h]
  rfl
theorem ws_set {Γ : GG} {σ σ' : Mem} {t i : Nat} (h : alive σ t i) (hn : σ'.1 = σ.1) (he : ∀ q : Nat × Nat, q ≠ (t, i) → cellE Γ σ' q = cellE Γ σ q) : (wsOf Γ σ).set (ordT t i) (adr Γ t i, cellE Γ σ' (t, i)) = wsOf Γ σ' := by
  have hl : liveO σ' = liveO σ := by unfold liveO; rw [hn]
  apply List.ext_getElem?
  intro k
  rw [List.getElem?_set]
  split
  · rename_i hk
    subst hk
    have h1 : (wsOf Γ σ)[ordT t i]? = some _ := ws_get h
    rw [if_pos (List.getElem?_eq_some_iff.mp h1).1]
    unfold wsOf
    rw [hl, List.getElem?_map, liveO_at h]
    rfl
  · rename_i hk
    unfold wsOf
    rw [hl, List.getElem?_map, List.getElem?_map]
    cases hq : (liveO σ)[k]? with
    | none => rfl
    | some q =>
      obtain ⟨h1, h2, h3⟩ := liveO_inv hq
      show some (adr Γ q.1 q.2, cellE Γ σ q) = some (adr Γ q.1 q.2, cellE Γ σ' q)
      rw [he q (fun e => hk (by rw [h1, e]))]
theorem cellE_congr {Γ : GG} {σ σ' : Mem} {q : Nat × Nat} (h1 : mI σ' q.1 q.2 = mI σ q.1 q.2) (h2 : mJ σ' q.1 q.2 = mJ σ q.1 q.2) (h3 : mR σ' q.1 q.2 = mR σ q.1 q.2) : cellE Γ σ' q = cellE Γ σ q := by
  have hf : ∀ c, fldV Γ σ' c q = fldV Γ σ c q := fun c => by
    funext j
    unfold fldV
    rw [h1, h2, h3]
  unfold cellE
  rw [h1, h2, h3, hf]
theorem ne_pair {q : Nat × Nat} {t i : Nat} (h : q ≠ (t, i)) : ¬ (q.1 = t ∧ q.2 = i) := fun e => h (by rw [← e.1, ← e.2])
theorem up3_ne {α : Type} {f : Nat → Nat → Nat → α} {t i k : Nat} {x : α} {q : Nat × Nat} (h : q ≠ (t, i)) : up3 f t i k x q.1 q.2 = f q.1 q.2 := by
  funext c
  rw [up3_eq]
  rw [if_neg (fun e => ne_pair h ⟨e.1, e.2.1⟩)]
theorem up3_at {α : Type} {f : Nat → Nat → Nat → α} {t i k : Nat} {x : α} (c : Nat) : up3 f t i k x t i c = if c = k then x else f t i c := by
  rw [up3_eq]
  by_cases h : c = k <;> simp [h]
theorem cellE_pI {Γ : GG} {σ : Mem} {t i k : Nat} {x : Int32} : ∀ q : Nat × Nat, q ≠ (t, i) → cellE Γ (pI σ t i k x) q = cellE Γ σ q := fun _ h => cellE_congr (up3_ne h) rfl rfl
theorem cellE_pJ {Γ : GG} {σ : Mem} {t i k : Nat} {x : Int64} : ∀ q : Nat × Nat, q ≠ (t, i) → cellE Γ (pJ σ t i k x) q = cellE Γ σ q := fun _ h => cellE_congr rfl (up3_ne h) rfl
theorem cellE_pR {Γ : GG} {σ : Mem} {t i k : Nat} {x : Nat × Nat} : ∀ q : Nat × Nat, q ≠ (t, i) → cellE Γ (pR σ t i k x) q = cellE Γ σ q := fun _ h => cellE_congr rfl rfl (up3_ne h)
theorem alive_of {σ σ' : Mem} (h : σ'.1 = σ.1) {t i : Nat} : alive σ' t i ↔ alive σ t i := by unfold alive; rw [h]
/-- behind a store at an object that is there -/
theorem Wd_pI {Γ : GG} {σ : Mem} {H H1 : Heap} {t i k : Nat} {x : Int32} (h : Wd Γ σ H) (ha : alive σ t i) (hP : va_P (gD Γ) vwCl (wsOf Γ (pI σ t i k x)) H1) (hD : va_D (gA Γ) (wsOf Γ (pI σ t i k x))) (hz : H.size ≤ H1.size) (hz2 : σ.1 = none ∨ H1.size = H.size) : Wd Γ (pI σ t i k x) H1 := by
  obtain ⟨-, -, h3, h4, h5, h6⟩ := h
  refine ⟨hP, hD, Nat.le_trans h3 hz, fun n hn => ?_, fun a b c d hl hd => h5 a b c d hl hd, fun k0 hk0 a b hab j => ?_⟩
  · rcases hz2 with q | q
    · rw [show σ.1 = some n from hn] at q; cases q
    · rw [q]; exact h4 n hn
  · have hne : ¬ (a = t ∧ b = i) := fun e => hab (by rw [e.1, e.2]; exact ha)
    have h7 := h6 k0 hk0 a b hab j
    refine ⟨?_, h7.2⟩
    show up3 (mI σ) t i k x a b j = 0
    rw [up3_eq]
    rw [if_neg (fun e => hne ⟨e.1, e.2.1⟩)]
    exact h7.1
theorem Wd_pJ {Γ : GG} {σ : Mem} {H H1 : Heap} {t i k : Nat} {x : Int64} (h : Wd Γ σ H) (ha : alive σ t i) (hP : va_P (gD Γ) vwCl (wsOf Γ (pJ σ t i k x)) H1) (hD : va_D (gA Γ) (wsOf Γ (pJ σ t i k x))) (hz : H.size ≤ H1.size) (hz2 : σ.1 = none ∨ H1.size = H.size) : Wd Γ (pJ σ t i k x) H1 := by
  obtain ⟨-, -, h3, h4, h5, h6⟩ := h
  refine ⟨hP, hD, Nat.le_trans h3 hz, fun n hn => ?_, fun a b c d hl hd => h5 a b c d hl hd, fun k0 hk0 a b hab j => ?_⟩
  · rcases hz2 with q | q
    · rw [show σ.1 = some n from hn] at q; cases q
    · rw [q]; exact h4 n hn
  · have hne : ¬ (a = t ∧ b = i) := fun e => hab (by rw [e.1, e.2]; exact ha)
    have h7 := h6 k0 hk0 a b hab j
    refine ⟨h7.1, ?_, h7.2.2⟩
    show up3 (mJ σ) t i k x a b j = 0
    rw [up3_eq]
    rw [if_neg (fun e => hne ⟨e.1, e.2.1⟩)]
    exact h7.2.1
theorem Wd_pR {Γ : GG} {σ : Mem} {H H1 : Heap} {t i k : Nat} {x : Nat × Nat} (h : Wd Γ σ H) (ha : alive σ t i) (hx : x.1 < 85 ∧ alive σ x.1 x.2) (hP : va_P (gD Γ) vwCl (wsOf Γ (pR σ t i k x)) H1) (hD : va_D (gA Γ) (wsOf Γ (pR σ t i k x))) (hz : H.size ≤ H1.size) (hz2 : σ.1 = none ∨ H1.size = H.size) : Wd Γ (pR σ t i k x) H1 := by
  obtain ⟨-, -, h3, h4, h5, h6⟩ := h
  refine ⟨hP, hD, Nat.le_trans h3 hz, fun n hn => ?_, fun a b c d hl hd => ?_, fun k0 hk0 a b hab j => ?_⟩
  · rcases hz2 with q | q
    · rw [show σ.1 = some n from hn] at q; cases q
    · rw [q]; exact h4 n hn
  · have hd : up3 (mR σ) t i k (some x) a b c = some d := hd
    rw [up3_eq] at hd
    split at hd
    · cases hd; exact hx
    · exact h5 a b c d hl hd
  · have hne : ¬ (a = t ∧ b = i) := fun e => hab (by rw [e.1, e.2]; exact ha)
    have h7 := h6 k0 hk0 a b hab j
    refine ⟨h7.1, h7.2.1, ?_⟩
    show up3 (mR σ) t i k (some x) a b j = none
    rw [up3_eq]
    rw [if_neg (fun e => hne ⟨e.1, e.2.1⟩)]
    exact h7.2.2
theorem rng_set {α : Type} (f : Nat → α) (n k : Nat) (v : α) : ((List.range n).map f).set k v = (List.range n).map (fun j => if j = k then v else f j) := by
  apply List.ext_getElem?
  intro j
  rw [List.getElem?_set, List.getElem?_map, List.getElem?_map, List.length_map, List.length_range]
  by_cases hj : j < n
  · rw [List.getElem?_range hj]
    by_cases hk : k = j
    · subst hk; simp [hj]
    · rw [if_neg hk]
      show some (f j) = some (if j = k then v else f j)
      rw [if_neg (fun e : j = k => hk e.symm)]
  · rw [List.getElem?_eq_none (by rw [List.length_range]; omega)]
    by_cases hk : k = j
    · subst hk; simp [hj]
    · rw [if_neg hk]
      rfl
theorem rng_at {α : Type} (f : Nat → α) {n k : Nat} (h : k < n) : ((List.range n).map f)[k]? = some (f k) := by
  rw [List.getElem?_map, List.getElem?_range h]
  rfl
theorem adr_lt {Γ : GG} {t i : Nat} (h : t < 85) : adr Γ t i = gB Γ + ordT t i := if_pos h
