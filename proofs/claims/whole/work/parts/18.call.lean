/-! Calls: what comes back. -/
section SNC
variable {Γ : GG} {mi pc : Nat} {lv : LV} {r : List MV} {σ : Mem} {cnt : Nat × Nat} {Q : Out → Mem → Prop}
theorem back_stack (Γ : GG) (v : Option MV) (r : List MV) : (v.map (toV Γ)).toList ++ r.map (toV Γ) = (v.toList ++ r).map (toV Γ) := by
  cases v <;> simp
/-- behind a call that returned, or threw -/
theorem after_run {Q' : Out → Mem → Prop} {n0 : Option Nat} {x : Nat} {st0 : List Value} {p : Program} {e : Env} {s : State} {m : MethodId} {args : Array Value} {below : List Frame} {meth : Method} {c : Code} {H : Heap} {locs : List Loc} {ls : Array Slot} {av : Array Value}
    (hr : vx_Run p (gL Γ) e (mRm mi) s m args below meth c H locs cnt.1 cnt.2 (mMc x) (mMs x) (F0 m pc ls st0) (r.map (toV Γ)) (QcOf Γ σ.1 Q' av) (XcOf Γ σ.1 Q') (gA Γ))
    (hn : leN n0 σ.1) (M : MC Γ mi p s m args meth c) (hl : lv_has ls (mMaxL mi) (toL Γ lv)) (hS : va_S (gA Γ) s.heap H locs) (hlv : okL σ lv) (hst : okS σ r) (h1 : mi = 162 → s.heap.size = gB Γ)
    (hk : ∀ v σ', Q' (.inl v) σ' → Go Γ mi (pc + 3) lv (v.toList ++ r) σ' (cnt.1 + mMc x, cnt.2 + mMs x) Q)
    (hx : ∀ y σ', y < 4 → Q' (.inr y) σ' → ∀ (H1 : Heap) (locs1 : List Loc) (ce : Cell) (q9 : Addr), Wd Γ σ' H1 → leN n0 σ'.1 → va_S (gA Γ) s.heap H1 locs1 → H1[q9]? = some ce → ce.vm = .none → s.vm.findClass (excN y) = some ce.cls → vx_W p (gL Γ) e (mRm mi) s m args below meth c H1 locs1 (cnt.1 + mMc x) (cnt.2 + mMs x) (ZOf Γ n0 mi Q below args s) (F0 m pc ls (r.map (toV Γ))) q9) :
    W p (gL Γ) e (mRm mi) s m args below meth c H locs cnt.1 cnt.2 (ZOf Γ n0 mi Q below args s) (F0 m pc ls st0) := by
  intro T hT X
  rcases hr T hT X with ⟨v, st₀, t, T', L, h0, X', hL, e1, e2, ⟨v', σ', ho, hq, hWd, hv, hle, hF⟩, st⟩ | ⟨q9, st₀, t, T', L, E, ce, h0, X', hL, e1, e2, ⟨y, σ', hy4, hE, hq, hWd, hle, hF⟩, hce, hcv, hcl, st⟩
  · cases ho
    obtain ⟨k1, k2, k3⟩ := vx_keep h0 e1 hS (fun _ _ h => h) (fun _ h => h) hL hF
    have hg := hk v' σ' hq n0 p e s m args below meth c T'.heap (locs ++ L) ls (leN_trans hn hle) M hl (by rw [e1]; exact hWd) k3 (fun q hq => okV_mono hle (hlv q hq)) (fun q hq => by
      rcases List.mem_append.mp hq with z | z
      · cases v' with
        | none => cases z
        | some w =>
          have : q = w := by simpa using z
          rw [this]; exact hv w rfl
      · exact okV_mono hle (hst q z)) h1
    rw [← back_stack] at hg
    obtain ⟨t2, a1, b1⟩ := hg T' rfl X'
    exact ⟨t2, st t2 a1, b1⟩
  · obtain ⟨k1, k2, k3⟩ := vx_keep h0 e1 hS (fun _ _ h => h) (fun _ h => h) hL hF
    subst hE
    obtain ⟨t2, a1, b1⟩ := hx y σ' hy4 hq T'.heap (locs ++ L) ce q9 (by rw [e1]; exact hWd) (leN_trans hn hle) k3 (by rw [e1]; exact hce) hcv hcl T' rfl X'
    exact ⟨t2, st.trans a1, b1⟩
/-- not caught: it leaves the method -/
theorem out_thrown {n0 : Option Nat} {y : Nat} {σ' : Mem} {p : Program} {e : Env} {s : State} {m : MethodId} {args : Array Value} {below : List Frame} {meth : Method} {c : Code} {H1 : Heap} {locs1 : List Loc} {ls : Array Slot} {rest : List Value} {ce : Cell} {q9 : Addr} {c1 c2 : Nat}
    (hy : y < 4) (hq : Q (.inr y) σ') (hne : mi ≠ 162) (hh : mHh mi = []) (M : MC Γ mi p s m args meth c) (hWd : Wd Γ σ' H1) (hn : leN n0 σ'.1) (hS : va_S (gA Γ) s.heap H1 locs1) (hc : H1[q9]? = some ce) (hv : ce.vm = .none) (hcl : s.vm.findClass (excN y) = some ce.cls) (h1 : c1 ≤ mMc mi) (h2 : c2 ≤ mMs mi) :
    vx_W p (gL Γ) e (mRm mi) s m args below meth c H1 locs1 c1 c2 (ZOf Γ n0 mi Q below args s) (F0 m pc ls rest) q9 := by
  unfold ZOf
  rw [if_neg hne]
  refine vx_out (E := excN y) ?_ M.2.2.2.2.2.2.1 hc hv hcl (fun t ht _ => ⟨y, σ', hy, rfl, hq, by rw [ht]; exact hWd, hn, hS.F ht⟩) (fun z hz => hS.2.2 z hz) h1 h2
  intro z hz
  rw [M.2.2.2.2.2.2.2.1.1, hh] at hz
  cases hz
theorem takA_spec : ∀ {n : Nat} {st acc as r : List MV}, takA n st acc = some (as, r) → st = (as.take n).reverse ++ r ∧ as = as.take n ++ acc ∧ (as.take n).length = n
  | 0, st, acc, as, r, h => by
    cases h
    simp
  | n + 1, [], acc, as, r, h => by cases h
  | n + 1, v :: st, acc, as, r, h => by
    have h : takA n st (v :: acc) = some (as, r) := h
    obtain ⟨h1, h2, h3⟩ := takA_spec h
    have e : as.take (n + 1) = as.take n ++ [v] := by
      have : as[n]? = some v := by
        rw [h2, List.getElem?_append_right (by rw [h3]; exact Nat.le_refl _), h3, Nat.sub_self]
        rfl
      rw [List.take_succ, this]
      rfl
    refine ⟨?_, ?_, ?_⟩
    · rw [e, List.reverse_append]
      show v :: st = _
      rw [h1]
      rfl
    · rw [e, List.append_assoc]
      exact h2
    · rw [e, List.length_append, h3]
      rfl
theorem takA_nil {n : Nat} {st as r : List MV} (h : takA n st [] = some (as, r)) : st = as.reverse ++ r ∧ as.length = n := by
  obtain ⟨h1, h2, h3⟩ := takA_spec h
  rw [List.append_nil] at h2
  rw [← h2] at h1 h3
  exact ⟨h1, h3⟩
theorem sumC_cat (Γ : GG) : ∀ r : List MV, ((r.map (toV Γ)).map fun v => v.category).sum = sumC r
  | [] => rfl
  | v :: r => by
    rw [List.map_cons, List.map_cons, List.sum_cons, sumC_cat Γ r, catV_eq]
    rfl
theorem room_r {m : MethodId} {ls : Array Slot} {st0 : List Value} (Γ : GG) {r : List MV} (h : sumC r ≤ 8) : 2 * (F0 m pc ls st0).monitorRoom + ((r.map (toV Γ)).map fun v => v.category).sum ≤ 8 := lv_room (by rw [sumC_cat]; exact h)
end SNC
