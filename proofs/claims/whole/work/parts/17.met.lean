/-! A method of the small machine is a contract of the real one. -/
theorem va_AOA.moved {ty : FieldType} {u U : State} (hvm : u.vm.Alike U.vm) (h : va_AOA ty u) : va_AOA ty U := by
  obtain ⟨comp, c, k, h1, h2, h3, h4, h5⟩ := arrayOverA_spec h
  obtain ⟨k', hk', he⟩ := hvm.2.2 _ _ h3
  have hi : (U.vm.classes.findIdx? fun (x : Class) => match x.kind with | .array component _ => component == comp | _ => false) = some c := by
    have e1 := va_idx_bare U.vm comp
    have e2 := va_idx_bare u.vm comp
    have e3 : U.vm.bare = u.vm.bare := by first | exact hvm.bare_eq | exact hvm.bare_eq.symm
    rw [e3] at e1
    exact e1.symm.trans (e2.trans h2)
  have hkind : k'.kind = .array comp (.array ty) := by rw [he]; exact h4
  have f1 : U.vm.findClass (FieldType.array ty).toString = some comp := by rw [hvm.findClass]; exact h1
  have f2 : U.vm.findClass ("[" ++ (FieldType.array ty).toString) = some c := by rw [hvm.findClass]; exact h5
  unfold va_AOA Cond.before Cond.holds
  simp only [Cond.value]
  rw [f1, Option.bind_some]
  refine (congrArg (fun o : Option Nat => (o.bind (fun c => (U.vm.classes[c]?).map fun (k : Class) => match k.kind with | .array _ ty' => decide (ty' = FieldType.array ty) && decide (U.vm.findClass ("[" ++ (FieldType.array ty).toString) = some c) | _ => false) == some true)) hi).trans ?_
  simp [hk', hkind, f2]
theorem Fx_moved {Γ : GG} {s U : State} {H : Heap} {locs : List Loc} (h : Fx Γ s) (hH : U.heap = H) (hW : s.WarmedH U.vm) (hS : va_S (gA Γ) s.heap H locs) : Fx Γ U := by
  obtain ⟨h1, h2, h3, h4, h5, h6, h7, h8, h9, h10, h11, h12, h13, h14, h15, h16⟩ := h
  subst hH
  have ha := hW.alike
  have hk : ∀ a : Nat, a < s.heap.size → ¬ gA Γ a → U.heap[a]? = s.heap[a]? := hS.2.1
  refine ⟨va_K.moved ha h1, Nat.le_trans h2 hS.1, ⟨(va_X.moved ha (h3.1.kept (hk _ (Nat.lt_of_lt_of_le h3.2 h2) (Nat.not_le.mpr h3.2)))), h3.2⟩, h4, fun q hq e => vk_R.warm hW (h5 q hq e), fun i u hi hu => ?_, ⟨va_Z.moved ha (h7.1.kept hk), va_Zq.moved ha (h7.2.kept hk)⟩, vx_Zq.moved ha (h8.kept hk), vx_Zq.moved ha (h9.kept hk), va_Nw.warmM hW h10, va_AO.moved ha h11, va_AO.moved ha h12, ?_, fun x y hx hy hxy => va_Nc.moved ha (h14 x y hx hy hxy), fun x hx => va_Nw.warmC hW (h15 x hx), fun y hy => va_Nw.warmD hW (h16 y hy)⟩
  · obtain ⟨g1, g2, g3, g4⟩ := h6 i u hi hu
    exact ⟨va_O.moved ha (g1.kept hk), va_OF.moved ha (g2.kept hk), va_OF.moved ha (g3.kept hk), va_T.moved ha (g4.kept hk)⟩
  · exact va_AOA.moved ha h13
theorem Fx_alike {Γ : GG} {s U : State} (h : Fx Γ s) (hH : U.heap = s.heap) (hv : U.vm = s.vm) : Fx Γ U := Fx_moved (H := s.heap) (locs := []) h hH (by rw [hv]; exact State.WarmedH.refl s) va_S.rf
def PcOf (Γ : GG) (as : List MV) (σ : Mem) : Array Value → State → Prop := va_Pc (as.map (toV Γ)) (fun U => Fx Γ U ∧ Wd Γ σ U.heap)
theorem Pc_blind (Γ : GG) (as : List MV) (σ : Mem) : FrameBlind (PcOf Γ as σ) := fun a U g mk h => ⟨h.1, Fx_alike h.2.1 rfl rfl, h.2.2⟩
theorem argL_eq (Γ : GG) : ∀ (as : List MV) (i : Nat), lv_args i (as.map (toV Γ)) = toL Γ (argL i as)
  | [], _ => rfl
  | v :: as, i => by
    have hc := catV_eq Γ v
    have h2 : (if (toV Γ v).category = 2 then i + 2 else i + 1) = i + catV v := by
      rw [hc]
      rcases v with v | q
      · cases v <;> rfl
      · rfl
    show (i, toV Γ v) :: lv_args _ _ = (i, toV Γ v) :: toL Γ (argL (i + catV v) as)
    rw [h2, argL_eq Γ as]
theorem sl_len (Γ : GG) : ∀ as : List MV, (lg_sl (as.map (toV Γ))).length = sumC as
  | [] => rfl
  | v :: as => by
    have ih := sl_len Γ as
    unfold lg_sl at ih ⊢
    rw [List.map_cons, List.flatMap_cons, List.length_append, ih, catV_eq]
    show _ = catV v + sumC as
    congr 1
    rcases v with v | q
    · cases v <;> rfl
    · rfl
theorem argL_ok {σ : Mem} : ∀ {as : List MV} {i : Nat}, okS σ as → okL σ (argL i as)
  | [], _, _ => fun q hq => by cases hq
  | v :: as, i, h => fun q hq => by
    rcases List.mem_cons.mp hq with rfl | hq
    · exact okS_hd h
    · exact argL_ok (okS_tl h) q hq
theorem leN_refl (a : Option Nat) : leN a a := fun k h => ⟨k, h, Nat.le_refl k⟩
theorem gm_body {Γ : GG} {mi : Nat} (hne : mi ≠ 162) {as : List MV} {σ : Mem} {Q : Out → Mem → Prop} (hG : Gm Γ mi as σ Q) (hok : okS σ as) (hsz : sumC as ≤ mMaxL mi)
    {p : Program} {e : Env} {s : State} {m : MethodId} {args : Array Value} {below : List Frame} {meth : Method} {c : Code} (M : MC Γ mi p s m args meth c) (hP : PcOf Γ as σ args s) :
    W p (gL Γ) e (mRm mi) s m args below meth c s.heap [] 0 0 (vx_MQ below (QcOf Γ σ.1 Q) (XcOf Γ σ.1 Q) args s (mMc mi) (mMs mi) (gA Γ)) (entryFrame m args (mMaxL mi)) := by
  obtain ⟨ha, hF, hW⟩ := hP
  subst ha
  have hl := lv_entry (as.map (toV Γ)) (n := mMaxL mi) (by rw [sl_len]; exact hsz)
  rw [lg_entry_eq]
  rw [argL_eq] at hl
  have h := hG σ.1 p e s m _ below meth c s.heap [] _ (leN_refl _) M hl hW va_S.rf (argL_ok hok) (fun _ h => by cases h) (fun h => absurd h hne)
  unfold ZOf at h
  rw [if_neg hne] at h
  exact h
theorem gm_met {Γ : GG} {mi : Nat} (hm : mi < 162) {as : List MV} {σ : Mem} {Q : Out → Mem → Prop} (hG : Gm Γ mi as σ Q) (hok : okS σ as) (hsz : sumC as ≤ mMaxL mi) :
    vx_Met (gL Γ) (mName mi) (mWs mi) (mRm mi) (PcOf Γ as σ) (QcOf Γ σ.1 Q) (XcOf Γ σ.1 Q) (mMc mi) (mMs mi) (gA Γ) := by
  obtain ⟨o1, o2, -, -⟩ := mOwn_cls mi (by omega)
  cases hh : mHh mi with
  | nil =>
    refine vx_ofW (cc := mCode mi) (maxL := mMaxL mi) (ret := mRet mi) (ws' := wG) o2 (by unfold mWs codeW; rw [hh]) ?_
    intro p e s m args below meth c s₁ B hml hET hP
    have hts := atoms_spec (ws := mWs mi) B.pre
    refine gm_body (by omega) hG hok hsz ⟨B.exec, B.bytes, hml, B.returns, by rw [o1]; exact findClass_of_methodNamed B.named, fun w hw => hts w (List.mem_cons_of_mem _ hw), B.notSynchronized, ⟨?_, (name_of_methodNamed B.named B.method).1⟩, hP.2.1⟩ hP
    rw [hh]
    cases hc : c.exceptionTable.toList with
    | nil => rfl
    | cons x l => exact (hET x (by rw [hc]; exact List.mem_cons_self)).elim
  | cons q l =>
    refine vx_ofWH (cc := mCode mi) (maxL := mMaxL mi) (ret := mRet mi) (hh := q :: l) (ws' := wG) o2 (by unfold mWs codeW; rw [hh]) ?_
    intro p e s m args below meth c s₁ B hml hP
    have hts := atoms_spec (ws := mWs mi) B.pre
    have hcw : (Cond.codeWith (mName mi) (mCode mi) (mMaxL mi) (mRet mi) (q :: l)).before args s = true := hts _ (by unfold mWs codeW; rw [hh]; exact List.mem_cons_self)
    refine gm_body (by omega) hG hok hsz ⟨B.exec, B.bytes, hml, B.returns, by rw [o1]; exact findClass_of_methodNamed B.named, fun w hw => hts w (List.mem_cons_of_mem _ hw), B.notSynchronized, ⟨?_, (name_of_methodNamed B.named B.method).1⟩, hP.2.1⟩ hP
    rw [hh]
    exact vx_table (x := mName mi) B hcw
theorem alive_mono {σ σ' : Mem} (h : leN σ.1 σ'.1) {t i : Nat} (ha : alive σ t i) : alive σ' t i := ⟨ha.1, fun k hk => by
  obtain ⟨j, h1, h2⟩ := h k hk
  have := ha.2 j h1
  omega⟩
theorem okV_mono {σ σ' : Mem} (h : leN σ.1 σ'.1) {v : MV} (hv : okV σ v) : okV σ' v := by
  rcases v with v | q
  · exact hv
  · exact fun hq => alive_mono h (hv hq)
theorem leN_trans {a b c : Option Nat} (h1 : leN a b) (h2 : leN b c) : leN a c := fun k hk => by
  obtain ⟨j, e1, e2⟩ := h2 k hk
  obtain ⟨i, e3, e4⟩ := h1 j e1
  exact ⟨i, e3, by omega⟩
