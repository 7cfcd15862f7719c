/-! Catches in the law's helpers. -/
section SNY
variable {Γ : GG} {mi pc : Nat} {σ' : Mem} {Q : Out → Mem → Prop}
theorem catch_thrown {n0 : Option Nat} {y : Nat} {z : Int} {p : Program} {e : Env} {s : State} {m : MethodId} {args : Array Value} {below : List Frame} {meth : Method} {c : Code} {H1 : Heap} {locs1 : List Loc} {ls : Array Slot} {rest : List Value} {ce : Cell} {q9 : Addr} {c1 c2 : Nat}
    (hm : mi < 163) (hc : catT mi pc y = some z) (hy : y < 4) (hq : Q (.inl (some (.inl (.int (Int32.ofInt z))))) σ') (M : MC Γ mi p s m args meth c) (hls : ls.size = mMaxL mi) (hwf : lv_wf ls) (hWd : Wd Γ σ' H1) (hn : leN n0 σ'.1) (hS : va_S (gA Γ) s.heap H1 locs1) (hce : H1[q9]? = some ce) (hv : ce.vm = .none) (hcl : s.vm.findClass (excN y) = some ce.cls) (h1 : c1 ≤ mMc mi) (h2 : c2 ≤ mMs mi) :
    vx_W p (gL Γ) e (mRm mi) s m args below meth c H1 locs1 c1 c2 (ZOf Γ n0 mi Q below args s) (F0 m pc ls rest) q9 := by
  unfold catT at hc
  cases hf : catL.find? (fun q => Nat.beq q.1 mi && (Nat.ble q.2.1 pc && (Nat.ble (pc + 1) q.2.2.1 && Nat.beq q.2.2.2.2.2.1 y))) with
  | none => rw [hf] at hc; cases hc
  | some q =>
    rw [hf] at hc
    have hz : q.2.2.2.2.2.2 = z := Option.some.inj hc
    obtain ⟨hp, as, bs, he, has⟩ := List.find?_eq_some_iff_append.mp hf
    have hmem : q ∈ catL := List.mem_of_find?_eq_some hf
    have hok := List.all_eq_true.mp catL_ok q hmem
    simp only [catOk, Bool.and_eq_true, decide_eq_true_eq] at hok
    obtain ⟨g1, g2, g3, g4, g5, g6, g7⟩ := hok
    simp only [Bool.and_eq_true] at hp
    obtain ⟨p1, p2, p3, p4⟩ := hp
    have e1 := Nat.eq_of_beq_eq_true p1
    have e4 := Nat.eq_of_beq_eq_true p4
    have g1 := Nat.le_of_ble_eq_true g1
    have g2 := Nat.eq_of_beq_eq_true g2
    have g3 := Nat.eq_of_beq_eq_true g3
    have g4 := Nat.le_of_ble_eq_true g4
    rw [e1] at g1 g2 g3 g7
    rw [e4] at g6
    have hne : mi ≠ 162 := by omega
    have ht := catL_hh mi hm
    rw [he, List.filter_append, List.filter_cons, if_pos (show Nat.beq q.1 mi = true from p1), List.map_append, List.map_cons] at ht
    have hsplit : c.exceptionTable.toList = tableOf ((as.filter (fun q => Nat.beq q.1 mi)).map hhOf) ++ (⟨q.2.1, q.2.2.1, q.2.2.2.1, q.2.2.2.2.1⟩ : ExceptionTableEntry) :: tableOf ((bs.filter (fun q => Nat.beq q.1 mi)).map hhOf) := by
      rw [M.2.2.2.2.2.2.2.1.1, ← ht]
      unfold tableOf
      rw [List.map_append, List.map_cons]
      rfl
    have hown : mOwn mi = RL := by rw [mOwn_eq mi hm, g3]; rfl
    have F := M.2.2.2.2.2.2.2.2.2.2.2.2.2.2.2.2.2.2.2.2.2
    have FNc := M.2.2.2.2.2.2.2.2.2.2.2.2.2.2.2.2.2.2.2.2.2.1
    have hlinkW : ∀ q0 ∈ catL, Nat.beq q0.1 mi = true → (Cond.classLink (mOwn mi) q0.2.2.2.2.1 (excN q0.2.2.2.2.2.1)).before args s = true ∧ 1 ≤ q0.2.2.2.2.1 ∧ q0.2.2.2.2.2.1 < 4 := fun q0 hq0 _ => by
      have hk := List.all_eq_true.mp catL_ok q0 hq0
      simp only [catOk, Bool.and_eq_true, decide_eq_true_eq] at hk
      refine ⟨M.2.2.2.2.2.1 _ (List.mem_filter.mpr ⟨?_, rfl⟩), Nat.le_of_ble_eq_true hk.2.2.2.1, Nat.le_of_ble_eq_true hk.2.2.2.2.1⟩
      rw [hown]; exact hk.2.2.2.2.2.1
    refine vx_catch (own := mOwn mi) (name := excN y) (E := excN y) M.2.2.2.2.1 _ _ _ hsplit ?_ ?_ ?_ ?_ (va_Nw.use rfl (F.2.1 y hy)) hce hv hcl ?_
    · intro w hw
      unfold tableOf at hw
      obtain ⟨q1, hq1, rfl⟩ := List.mem_map.mp hw
      obtain ⟨q0, hq0, rfl⟩ := List.mem_map.mp hq1
      obtain ⟨hq2, hq3⟩ := List.mem_filter.mp hq0
      have hin : q0 ∈ catL := by rw [he]; exact List.mem_append_left _ hq2
      obtain ⟨l1, l2, l3⟩ := hlinkW q0 hin hq3
      have hno := has q0 hq2
      rw [hq3] at hno
      by_cases hcov : q0.2.1 ≤ pc ∧ pc < q0.2.2.1
      · right
        refine ⟨by show q0.2.2.2.2.1 ≠ 0; omega, excN q0.2.2.2.2.2.1, l1, FNc y _ hy l3 (fun ee => ?_)⟩
        rw [Nat.ble_eq_true_of_le hcov.1, Nat.ble_eq_true_of_le (show pc + 1 ≤ q0.2.2.1 from hcov.2), ← ee, Nat.beq_refl] at hno
        cases hno
      · left
        show (decide (q0.2.1 ≤ pc) && decide (pc < q0.2.2.1)) = false
        rw [Bool.and_eq_false_iff, decide_eq_false_iff_not, decide_eq_false_iff_not]
        omega
    · show (decide (q.2.1 ≤ pc) && decide (pc < q.2.2.1)) = true
      rw [Bool.and_eq_true, decide_eq_true_eq, decide_eq_true_eq]
      exact ⟨Nat.le_of_ble_eq_true p2, Nat.le_of_ble_eq_true p3⟩
    · show q.2.2.2.2.1 ≠ 0; omega
    · have := (hlinkW q hmem p1).1
      rw [e4] at this
      exact this
    · show W p (gL Γ) e (mRm mi) s m args below meth c H1 locs1 c1 c2 (ZOf Γ n0 mi Q below args s) (F0 m q.2.2.2.1 ls [.ref q9])
      unfold ZOf
      rw [if_neg hne]
      split at g7
      · rename_i b n hast
        simp only [Bool.and_eq_true, decide_eq_true_eq] at g7
        obtain ⟨k1, k2, k3⟩ := g7
        have k1 := Nat.le_of_ble_eq_true k1
        have hic := isIc_spec k2
        have hir := isIret_spec k3
        have fin : ∀ ls2 : Array Slot, W p (gL Γ) e (mRm mi) s m args below meth c H1 locs1 c1 c2 (vx_MQ below (QcOf Γ n0 Q) (XcOf Γ n0 Q) args s (mMc mi) (mMs mi) (gA Γ)) (F0 m n ls2 []) := fun ls2 => by
          refine lv_iconst M.1 M.2.1 hic rfl ?_
          refine W.widen h1 h2 (vx_ret (W.iret M.1 M.2.1 (M.2.2.2.1.trans ((ret_ok mi hm).2.1 g2)) (fun t ht _ => ⟨some (.inl (.int (Int32.ofInt z))), σ', by rw [hz]; rfl, hq, by rw [ht]; exact hWd, fun _ h => by cases h; exact okV_int, hn, hS.F ht⟩) (fun q hq => hS.2.2 q hq) hir M.2.2.2.2.2.2.1))
        rcases isAst_spec hast with ⟨k, hd, hk, hn1⟩ | ⟨hd, hn1⟩
        · subst hn1
          exact lv_astore_n (lv := []) M.1 M.2.1 hd hk ⟨hls, hwf, fun _ h => nomatch h⟩ (by omega) rfl (fun ls2 _ => fin ls2)
        · subst hn1
          exact lv_astore (lv := []) M.1 M.2.1 hd ⟨hls, hwf, fun _ h => nomatch h⟩ (by omega) rfl (fun ls2 _ => fin ls2)
      · cases g7
end SNY
