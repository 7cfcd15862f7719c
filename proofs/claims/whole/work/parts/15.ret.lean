/-! Returns. -/
theorem ret_ok : ∀ mi, mi < 163 → (mRetNo mi = 0 → mRet mi = none) ∧ (mRetNo mi = 1 → mRet mi = some .int) ∧ (mRetNo mi = 2 → mRet mi = some .boolean) ∧ (mRetNo mi = 3 → mRet mi = some .long) ∧ (mRetNo mi = 4 → mRet mi = some (.object "java/lang/String")) := by
  have h : (List.range 163).all (fun mi => match mRetNo mi with
    | 0 => decide (mRet mi = none)
    | 1 => decide (mRet mi = some .int)
    | 2 => decide (mRet mi = some .boolean)
    | 3 => decide (mRet mi = some .long)
    | 4 => decide (mRet mi = some (.object "java/lang/String"))
    | _ => false) = true := by decide +kernel
  intro mi hm
  have h1 := List.all_eq_true.mp h mi (List.mem_range.mpr hm)
  split at h1 <;> simp_all
section SNR
variable {Γ : GG} {mi pc : Nat} {lv : LV} {σ : Mem} {cnt : Nat × Nat} {Q : Out → Mem → Prop}
theorem so_return (hm : mi < 163) (hd : decode (mCode mi) pc = .ok (.return_, 1)) (hr : mRetNo mi = 0) (hc : cnt.1 ≤ mMc mi) (hs : cnt.2 ≤ mMs mi) (h : Q (.inl none) σ) : Go Γ mi pc lv [] σ cnt Q := by
  intro n0 p e s m args below meth c H locs ls hn M hl hW hS hlv hst h1
  have hne : mi ≠ 162 := fun e => by subst e; exact absurd hr (by decide)
  unfold ZOf
  rw [if_neg hne]
  refine W.widen hc hs (vx_ret (W.vret M.1 M.2.1 (M.2.2.2.1.trans ((ret_ok mi hm).1 hr)) (fun t ht hw => ⟨none, σ, rfl, h, by rw [ht]; exact hW, (fun _ h => by cases h), hn, hS.F ht⟩) (fun q hq => hS.2.2 q hq) hd M.2.2.2.2.2.2.1))
theorem so_ireturn {x : Int32} (hm : mi < 163) (hd : decode (mCode mi) pc = .ok (.ireturn, 1)) (hr : mRetNo mi = 1) (hc : cnt.1 ≤ mMc mi) (hs : cnt.2 ≤ mMs mi) (h : Q (.inl (some (.inl (.int x)))) σ) : Go Γ mi pc lv [.inl (.int x)] σ cnt Q := by
  intro n0 p e s m args below meth c H locs ls hn M hl hW hS hlv hst h1
  have hne : mi ≠ 162 := fun e => by subst e; exact absurd hr (by decide)
  unfold ZOf
  rw [if_neg hne]
  refine W.widen hc hs (vx_ret (W.iret M.1 M.2.1 (M.2.2.2.1.trans ((ret_ok mi hm).2.1 hr)) (fun t ht hw => ⟨some (.inl (.int x)), σ, rfl, h, by rw [ht]; exact hW, fun _ h => by cases h; exact okV_int, hn, hS.F ht⟩) (fun q hq => hS.2.2 q hq) hd M.2.2.2.2.2.2.1))
theorem nar_bool {x : Int32} (h : x = 0 ∨ x = 1) : narrow .boolean (.int x) = .int x := by
  rcases h with rfl | rfl <;> rfl
theorem so_zreturn {x : Int32} (hm : mi < 163) (hne : mi ≠ 162) (hd : decode (mCode mi) pc = .ok (.ireturn, 1)) (hr : mRetNo mi = 2) (hc : cnt.1 ≤ mMc mi) (hs : cnt.2 ≤ mMs mi) (hx : x = 0 ∨ x = 1) (h : Q (.inl (some (.inl (.int x)))) σ) : Go Γ mi pc lv [.inl (.int x)] σ cnt Q := by
  intro n0 p e s m args below meth c H locs ls hn M hl hW hS hlv hst h1
  unfold ZOf
  rw [if_neg hne]
  refine W.widen hc hs (vx_ret (W.zret M.1 M.2.1 (M.2.2.2.1.trans ((ret_ok mi hm).2.2.1 hr)) (nar_bool hx) (fun t ht hw => ⟨some (.inl (.int x)), σ, rfl, h, by rw [ht]; exact hW, fun _ h => by cases h; exact okV_int, hn, hS.F ht⟩) (fun q hq => hS.2.2 q hq) hd M.2.2.2.2.2.2.1))
theorem so_lreturn {x : Int64} (hm : mi < 163) (hd : decode (mCode mi) pc = .ok (.lreturn, 1)) (hr : mRetNo mi = 3) (hc : cnt.1 ≤ mMc mi) (hs : cnt.2 ≤ mMs mi) (h : Q (.inl (some (.inl (.long x)))) σ) : Go Γ mi pc lv [.inl (.long x)] σ cnt Q := by
  intro n0 p e s m args below meth c H locs ls hn M hl hW hS hlv hst h1
  have hne : mi ≠ 162 := fun e => by subst e; exact absurd hr (by decide)
  unfold ZOf
  rw [if_neg hne]
  refine W.widen hc hs (vx_ret (W.lret M.1 M.2.1 (M.2.2.2.1.trans ((ret_ok mi hm).2.2.2.1 hr)) (fun t ht hw => ⟨some (.inl (.long x)), σ, rfl, h, by rw [ht]; exact hW, fun _ h => by cases h; exact okV_long, hn, hS.F ht⟩) (fun q hq => hS.2.2 q hq) hd M.2.2.2.2.2.2.1))
theorem so_areturn {q0 : Nat × Nat} (hm : mi < 163) (hd : decode (mCode mi) pc = .ok (.areturn, 1)) (hr : mRetNo mi = 4) (hc : cnt.1 ≤ mMc mi) (hs : cnt.2 ≤ mMs mi) (h : Q (.inl (some (.inr q0))) σ) : Go Γ mi pc lv [.inr q0] σ cnt Q := by
  intro n0 p e s m args below meth c H locs ls hn M hl hW hS hlv hst h1
  have hne : mi ≠ 162 := fun e => by subst e; exact absurd hr (by decide)
  unfold ZOf
  rw [if_neg hne]
  refine W.widen hc hs (vx_ret (W.aret M.1 M.2.1 (M.2.2.2.1.trans ((ret_ok mi hm).2.2.2.2 hr)) (Or.inl ⟨_, rfl⟩) (Or.inr ⟨_, rfl⟩) (fun t ht hw => ⟨some (.inr q0), σ, rfl, h, by rw [ht]; exact hW, fun _ h => by cases h; exact okS_hd hst, hn, hS.F ht⟩) (fun q hq => hS.2.2 q hq) hd M.2.2.2.2.2.2.1))
/-- the law's own end -/
theorem lw_ret9 {p : Program} {l : Launch} {e : Env} {s : State} {m : MethodId} {below : List Frame} {meth : Method} {c : Code} {args : Array Value} {cc : ByteArray} (hx : p.tables.exec = Jvm.exec) (hb : c.code = cc) (hr : meth.sig.returnType = some .boolean) (hlocks : meth.locks = false) {pc : Nat} {H : Heap} {ls : Array Slot} (hdg : decode cc pc = .ok (.ireturn, 1)) : W p l e room_1 s m args below meth c H [] 601024 7293034 (lw_Z below args s) (F0 m pc ls [.int 1]) := by
  intro T hT X
  obtain ⟨fs, hret, hrun, hended, hW, hframe⟩ := X.leave (v := some (.int 1)) (hlocks := hlocks) (fun h => by rw [hr] at h; cases h)
  have hmeth' : T.vm.method? m = some meth := X.method'
  refine ⟨T.setFrames fs, ?_, .returned (some (.int 1)), hrun, hended, rfl, ⟨_, rfl⟩, hW, hframe⟩
  jvm_step X.here [X.here.top, hx, hb, hdg, hmeth', hr, narrow_b1]
  (try refine ⟨rfl, ?_⟩); (try refine ⟨rfl, ?_⟩)
  first | (intro acts; rw [hret _ acts rfl rfl rfl]) | rw [hret _ _ rfl rfl rfl]
  exact Steps.refl _
theorem so_lawret (hd : decode (mCode 162) pc = .ok (.ireturn, 1)) (hc : cnt.1 ≤ mMc 162) (hs : cnt.2 ≤ mMs 162) : Go Γ 162 pc lv [.inl (.int 1)] σ cnt Q := by
  intro n0 p e s m args below meth c H locs ls hn M hl hW hS hlv hst h1
  unfold ZOf
  rw [if_pos rfl]
  refine va_forget (fun q hq => by rw [h1 rfl]; exact hS.2.2 q hq) ?_
  refine W.widen (k := 601024) (n := 7293034) hc hs ?_
  exact lw_ret9 M.1 M.2.1 M.2.2.2.1 M.2.2.2.2.2.2.1 hd
end SNR
