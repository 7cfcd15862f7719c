/-! 'throw new E("text")', of the three exceptions whose constructors hand on by entry 7. -/
theorem Wd_grown {Γ : GG} {σ : Mem} {H H1 : Heap} (h : Wd Γ σ H) (hn : σ.1 = none) (hz : H.size ≤ H1.size) (hk : ∀ q : Nat, q < H.size → H1[q]? = H[q]?) : Wd Γ σ H1 := by
  obtain ⟨h1, h2, h3, h4, h5, h6⟩ := h
  refine ⟨h1.kept (fun k q hq => hk _ (h1 k q hq).lt), h2, Nat.le_trans h3 hz, fun k hk2 => ?_, h5, h6⟩
  rw [hn] at hk2; cases hk2
section SNX
variable {Γ : GG} {mi pc : Nat} {lv : LV} {r : List MV} {σ : Mem} {cnt : Nat × Nat} {Q : Out → Mem → Prop}
theorem thr_xc {n0 : Option Nat} {s : State} {H : Heap} {locs : List Loc} {x : Nat} (hx : x < 4) (hq : Q (.inr x) σ) (hn9 : σ.1 = none) (hn : leN n0 σ.1) (hW : Wd Γ σ H) (hS : va_S (gA Γ) s.heap H locs) : ∀ t : State, s.vm.Alike t.vm → H.size ≤ t.heap.size → (∀ q : Nat, q < H.size → t.heap[q]? = H[q]?) → XcOf Γ n0 Q (excN x) s t :=
  fun t _ hz hk => ⟨x, σ, hx, rfl, hq, Wd_grown hW hn9 hz hk, hn, Nat.le_trans hS.1 hz, fun q h1 h2 => (hk q (Nat.lt_of_lt_of_le h1 hS.1)).trans (hS.2.1 q h1 h2)⟩
theorem thr_hat {x : Nat} (hx : x < 3) {p : Program} {s : State} {m : MethodId} {args : Array Value} {meth : Method} {c : Code} (M : MC Γ mi p s m args meth c) : ∀ w ∈ vx_atS RX6 (icN x) (excN x) exUp, w.before args s = true := by
  obtain ⟨t1, t2, -, -⟩ := thr_words x hx
  refine vx_hat (fun w hw => M.2.2.2.2.2.1 w (List.mem_filter.mpr ⟨t1 w hw, (List.mem_filter.mp hw).2⟩)) t2 ?_
  have F := M.2.2.2.2.2.2.2.2.2.2.2.2.2.2.2.2.2.2.2.2.2
  refine vx_c (va_Nw.use rfl (F.2.1 x (by omega))) (vx_c (va_Nw.use rfl (F.2.2 _ (by simp))) (vx_c (va_Nw.use rfl (F.2.2 _ (by simp))) (vx_c (va_Nw.use rfl (F.2.2 _ (by simp))) vx_n)))
theorem so_throw {x ik is ic sno na : Nat} {v : Int} (hm : mi < 163) (hne : mi ≠ 162) (ho : mOwnNo mi = 6) (hx : x < 3) (hfr : 6 ≤ mFr mi) (hlo : 96 ≤ mLo mi) (hh : mHh mi = [])
    (d0 : decode (mCode mi) pc = .ok (.new ik, 3)) (hnew : look2 newL 6 ik = some (32, x)) (d3 : decode (mCode mi) (pc + 3) = .ok (.dup, 1)) (hldc : look2 ldcL 6 is = some (33, v, sno)) (hcal : look2 calL 6 ic = some (38, x, na))
    (d4 : (decode (mCode mi) (pc + 4) = .ok (.ldc is, 2) ∧ decode (mCode mi) (pc + 6) = .ok (.invokespecial ic, 3) ∧ decode (mCode mi) (pc + 9) = .ok (.athrow, 1)) ∨ (decode (mCode mi) (pc + 4) = .ok (.ldc_w is, 3) ∧ decode (mCode mi) (pc + 7) = .ok (.invokespecial ic, 3) ∧ decode (mCode mi) (pc + 10) = .ok (.athrow, 1)))
    (hn9 : σ.1 = none) (hr : sumC r ≤ 8) (hc : cnt.1 + 1 ≤ mMc mi) (hs : cnt.2 + 6 ≤ mMs mi) (hq : Q (.inr x) σ) : Go Γ mi pc lv r σ cnt Q := by
  intro n0 p e s m args below meth c H locs ls hn M hl hW hS hlv hst h1
  unfold ZOf
  rw [if_neg hne]
  obtain ⟨t1, t2, t3, t4⟩ := thr_words x hx
  have hown : s.vm.findClass RX6 = some m.cls := by have := M.2.2.2.2.1; rw [mOwn_eq mi hm, ho] at this; exact this
  have e1 := (ic_ok hcal).1
  have e2 := ik_ok hnew
  subst e1
  subst e2
  have F := M.2.2.2.2.2.2.2.2
  have hstr : vk_R RX6 is (strL.getD sno "") (gX Γ 200 sno) s := F.2.2.2.2.1 _ (look2_mem hldc) rfl
  have hsum : ((r.map (toV Γ)).map fun v => v.category).sum ≤ 8 := by rw [sumC_cat]; exact hr
  have hfit : Bundle.fit (excN x) = true := by
    rcases (show x = 0 ∨ x = 1 ∨ x = 2 by omega) with rfl | rfl | rfl <;> decide +kernel
  have hfits : ∀ n ∈ exUp, Bundle.fit n = true := by decide +kernel
  have hout : ∀ k, ∀ z ∈ c.exceptionTable.toList, covers z k = false := fun k z hz => by
    rw [M.2.2.2.2.2.2.2.1.1, hh] at hz
    cases hz
  have hk := M.2.2.2.2.2.1 _ (List.mem_filter.mpr ⟨t4.1, rfl⟩)
  have hini := M.2.2.2.2.2.1 _ (List.mem_filter.mpr ⟨t4.2, rfl⟩)
  rcases d4 with ⟨d4, d6, d9⟩ | ⟨d4, d7, d10⟩
  · exact vx_throwS (names := exUp) M.1 M.2.1 F.2.2.2.1 hown hfit hfits hk hini hstr (thr_hat hx M) t3 F.2.2.2.2.2.2.2.1 F.2.2.2.2.2.2.2.2.1 hS (hl.1.trans M.2.2.1.symm) d0 d3 d4 d6 d9 (hout _) (by show 2 + 3 < mFr mi; omega) (by show _ + (13 * (2 + 1) + 43) ≤ mLo mi; omega) hc hs M.2.2.2.2.2.2.1 (thr_xc (by omega) hq hn9 hn hW hS) (fun z hz => hS.2.2 z hz) hc hs
  · exact vx_throwSW (names := exUp) M.1 M.2.1 F.2.2.2.1 hown hfit hfits hk hini hstr (thr_hat hx M) t3 F.2.2.2.2.2.2.2.1 F.2.2.2.2.2.2.2.2.1 hS (hl.1.trans M.2.2.1.symm) d0 d3 d4 d7 d10 (hout _) (by show 2 + 3 < mFr mi; omega) (by show _ + (13 * (2 + 1) + 43) ≤ mLo mi; omega) hc hs M.2.2.2.2.2.2.1 (thr_xc (by omega) hq hn9 hn hW hS) (fun z hz => hS.2.2 z hz) hc hs
end SNX
