/-! The three kinds of calls. -/
section SNK
variable {Γ : GG} {mi pc : Nat} {lv : LV} {r : List MV} {σ : Mem} {cnt : Nat × Nat} {Q : Out → Mem → Prop}
/-- what the check of a call says -/
theorem callOk_spec {a : Int} {mi x : Nat} {cnt : Nat × Nat} {as rest : List MV} (h : callOk a mi x cnt as rest = true) : a = (mKind x : Int) ∧ recvOk x as = true ∧ sumC rest ≤ 8 ∧ sumC as ≤ mMaxL x ∧ mFr x + 1 ≤ mFr mi ∧ 8 + (mMaxL x + 11) + mLo x ≤ mLo mi ∧ cnt.1 + mMc x ≤ mMc mi ∧ cnt.2 + mMs x ≤ mMs mi := by
  unfold callOk at h
  simp only [Bool.and_eq_true, decide_eq_true_eq] at h
  obtain ⟨h1, h2, h3, h4, h5, h6, h7, h8⟩ := h
  exact ⟨h1, h2, Nat.le_of_ble_eq_true h3, Nat.le_of_ble_eq_true h4, Nat.le_of_ble_eq_true h5, Nat.le_of_ble_eq_true h6, Nat.le_of_ble_eq_true h7, Nat.le_of_ble_eq_true h8⟩
theorem mws_in {x : Nat} (hx : x < 162) : ∀ w ∈ mWs x, w ∈ wG := fun w hw => by
  rcases List.mem_cons.mp hw with rfl | hw
  · exact codeW_in hx
  · exact hw
theorem clsR_own : ∀ x, x < 162 → mOwnNo x < 8 → clsR (mOwnNo x) = (mName x).cls := by
  have h : (List.range 162).all (fun x => !Nat.ble (mOwnNo x + 1) 8 || decide (clsR (mOwnNo x) = (mName x).cls)) = true := by decide +kernel
  intro x hx ho
  have h1 := List.all_eq_true.mp h x (List.mem_range.mpr hx)
  simp only [Bool.or_eq_true, Bool.not_eq_true', decide_eq_true_eq] at h1
  rcases h1 with q | q
  · rw [Nat.ble_eq_true_of_le (show mOwnNo x + 1 ≤ 8 by omega)] at q; cases q
  · exact q
theorem ownNo_lt : ∀ x, x < 162 → mKind x = 0 → mOwnNo x < 8 := by
  have h : (List.range 162).all (fun x => !Nat.beq (mKind x) 0 || Nat.ble (mOwnNo x + 1) 8) = true := by decide +kernel
  intro x hx hk
  have h1 := List.all_eq_true.mp h x (List.mem_range.mpr hx)
  rw [hk] at h1
  exact Nat.le_of_ble_eq_true h1
theorem so_callV {idx x na : Nat} {as : List MV} {Q' : Out → Mem → Prop} (hm : mi < 163) (hd : decode (mCode mi) pc = .ok (.invokevirtual idx, 3)) (hf : look2 calL (mOwnNo mi) idx = some (25, x, na)) (hlen : as.length = na) (hok : callOk 0 mi x cnt as r = true)
    (hG : Gm Γ x as σ Q') (hk : ∀ v σ', Q' (.inl v) σ' → Go Γ mi (pc + 3) lv (v.toList ++ r) σ' (cnt.1 + mMc x, cnt.2 + mMs x) Q)
    (hx : ∀ y σ', y < 4 → Q' (.inr y) σ' → ∀ (n0 : Option Nat) (p : Program) (e : Env) (s : State) (m : MethodId) (args : Array Value) (below : List Frame) (meth : Method) (c : Code) (ls : Array Slot) (H1 : Heap) (locs1 : List Loc) (ce : Cell) (q9 : Addr), MC Γ mi p s m args meth c → ls.size = mMaxL mi → lv_wf ls → Wd Γ σ' H1 → leN n0 σ'.1 → va_S (gA Γ) s.heap H1 locs1 → H1[q9]? = some ce → ce.vm = .none → s.vm.findClass (excN y) = some ce.cls → vx_W p (gL Γ) e (mRm mi) s m args below meth c H1 locs1 (cnt.1 + mMc x) (cnt.2 + mMs x) (ZOf Γ n0 mi Q below args s) (F0 m pc ls (r.map (toV Γ))) q9) :
    Go Γ mi pc lv (as.reverse ++ r) σ cnt Q := by
  intro n0 p e s m args below meth c H locs ls hn M hl hW hS hlv hst h1
  obtain ⟨k1, k2, k3, k4, k5, k6, k7, k8⟩ := callOk_spec hok
  have hk0 : mKind x = 0 := by omega
  obtain ⟨c1, c2, c3, c4, c5⟩ := cal_ok hf
  have hna := c5 (by omega)
  rw [hk0] at c3
  have c3 : (parseMethodDescriptor (mName x).desc).map (fun d => d.parameters.length) = some (na - 1) := c3
  unfold recvOk at k2
  rw [hk0] at k2
  match as, hlen, k2, hst, hG, k4 with
  | .inr (t, i) :: as', hlen, k2, hst, hG, k4 =>
    have hkd : kdK t = mOwnNo x := Nat.eq_of_beq_eq_true k2
    have ho8 := ownNo_lt x c1 hk0
    have ht : t < 85 := kdK_in hkd (by omega)
    have hokas : okS σ (.inr (t, i) :: as') := fun v hv => hst v (List.mem_append_left _ (List.mem_reverse.mpr hv))
    have hokr : okS σ r := fun v hv => hst v (List.mem_append_right _ hv)
    have ha : alive σ t i := hokas _ List.mem_cons_self ht
    have hcell := ws_get (Γ := Γ) ha
    rw [cell_obj hkd ho8] at hcell
    have hh : mHh x = [] := (mOwn_cls x (by omega)).2.2.2 hk0
    have hcw : mWs x = Cond.code (mName x) (mCode x) (mMaxL x) (mRet x) :: wG := by unfold mWs codeW; rw [hh]
    have hgood : GoodIn wG (wsV (mOwn mi) idx (mName x).cls (mName x) (mWs x)) := gi_of (fun w hw => by
      unfold wsV at hw
      rcases List.mem_append.mp hw with q | q
      · refine c2 w ?_
        unfold calWords
        rw [hk0, ← mOwn_eq mi hm]
        exact q
      · exact mws_in c1 w q)
    have hrecv := va_recv M.2.2.2.2.2.2.2.2.1 hW.1 (cls_at ho8) hcell
    have hrecv : ∃ cell : Cell, H[adr Γ t i]? = some cell ∧ cell.vm.isStatics = false ∧ s.vm.findClass (mName x).cls = some cell.cls := by
      rw [← clsR_own x c1 ho8]; exact hrecv
    have hrun := vx_runV (p := p) (l := gL Γ) (e := e) (R := mRm mi) (below := below) (meth := meth) (locs := locs) (cells := cnt.1) (slots := cnt.2) (As := as'.map (toV Γ)) (rest := r.map (toV Γ)) (b := adr Γ t i) (g := F0 m pc ls ((((.inr (t, i) :: as' : List MV).reverse ++ r).map (toV Γ)))) (own := mOwn mi) (C := (mName x).cls) (index := idx) (Ts := wG) (nL := mMaxL mi) ⟨M.1, M.2.1, M.2.2.1, M.2.2.2.2.1, M.2.2.2.2.2.1⟩ (gm_met c1 hG hokas k4)
      (cwV (na - 1) M.2.2.2.2.2.1 hgood hcw rfl rfl ⟨rfl, c4.1, c4.2, c3⟩ ⟨k5, k6⟩)
      ⟨Pc_blind Γ _ σ, hrecv, fun U hU hWm => ⟨rfl, Fx_moved M.2.2.2.2.2.2.2.2 hU hWm hS, by rw [hU]; exact hW⟩⟩
      rfl (by rw [List.length_map]; simp at hlen; omega) hl.1 (by simp [toV]) (room_r Γ k3) hd ⟨k7, k8⟩
    exact after_run hrun hn M hl hS hlv hokr h1 hk (fun y σ' hy hq H1 locs1 ce q9 hWd hle hS1 hce hcv hcl => hx y σ' hy hq n0 p e s m args below meth c ls H1 locs1 ce q9 M hl.1 hl.2.1 hWd hle hS1 hce hcv hcl)
theorem so_callS {idx x na : Nat} {as : List MV} {Q' : Out → Mem → Prop} (hm : mi < 163) (hd : decode (mCode mi) pc = .ok (.invokestatic idx, 3)) (hf : look2 calL (mOwnNo mi) idx = some (25, x, na)) (hlen : as.length = na) (hok : callOk 1 mi x cnt as r = true)
    (hG : Gm Γ x as σ Q') (hk : ∀ v σ', Q' (.inl v) σ' → Go Γ mi (pc + 3) lv (v.toList ++ r) σ' (cnt.1 + mMc x, cnt.2 + mMs x) Q)
    (hx : ∀ y σ', y < 4 → Q' (.inr y) σ' → ∀ (n0 : Option Nat) (p : Program) (e : Env) (s : State) (m : MethodId) (args : Array Value) (below : List Frame) (meth : Method) (c : Code) (ls : Array Slot) (H1 : Heap) (locs1 : List Loc) (ce : Cell) (q9 : Addr), MC Γ mi p s m args meth c → ls.size = mMaxL mi → lv_wf ls → Wd Γ σ' H1 → leN n0 σ'.1 → va_S (gA Γ) s.heap H1 locs1 → H1[q9]? = some ce → ce.vm = .none → s.vm.findClass (excN y) = some ce.cls → vx_W p (gL Γ) e (mRm mi) s m args below meth c H1 locs1 (cnt.1 + mMc x) (cnt.2 + mMs x) (ZOf Γ n0 mi Q below args s) (F0 m pc ls (r.map (toV Γ))) q9) :
    Go Γ mi pc lv (as.reverse ++ r) σ cnt Q := by
  intro n0 p e s m args below meth c H locs ls hn M hl hW hS hlv hst h1
  obtain ⟨k1, k2, k3, k4, k5, k6, k7, k8⟩ := callOk_spec hok
  have hk0 : mKind x = 1 := by omega
  obtain ⟨c1, c2, c3, c4, c5⟩ := cal_ok hf
  rw [hk0] at c3
  have c3 : (parseMethodDescriptor (mName x).desc).map (fun d => d.parameters.length) = some na := c3
  have hokas : okS σ as := fun v hv => hst v (List.mem_append_left _ (List.mem_reverse.mpr hv))
  have hokr : okS σ r := fun v hv => hst v (List.mem_append_right _ hv)
  have hgood : GoodIn wG (va_wsS (mOwn mi) idx (mName x) (mWs x)) := gi_of (fun w hw => by
    unfold va_wsS at hw
    rcases List.mem_append.mp hw with q | q
    · refine c2 w ?_
      unfold calWords
      rw [hk0, ← mOwn_eq mi hm]
      exact q
    · exact mws_in c1 w q)
  have hrun : vx_Run p (gL Γ) e (mRm mi) s m args below meth c H locs cnt.1 cnt.2 (mMc x) (mMs x) (F0 m pc ls ((as.reverse ++ r).map (toV Γ))) (r.map (toV Γ)) (QcOf Γ σ.1 Q' (as.map (toV Γ)).toArray) (XcOf Γ σ.1 Q') (gA Γ) := by
    cases hh : mHh x with
    | nil =>
      have hcw : mWs x = Cond.code (mName x) (mCode x) (mMaxL x) (mRet x) :: wG := by unfold mWs codeW; rw [hh]
      exact vx_runS (p := p) (l := gL Γ) (e := e) (R := mRm mi) (below := below) (meth := meth) (locs := locs) (cells := cnt.1) (slots := cnt.2) (As := as.map (toV Γ)) (rest := r.map (toV Γ)) (own := mOwn mi) (index := idx) (Ts := wG) (nL := mMaxL mi) ⟨M.1, M.2.1, M.2.2.1, M.2.2.2.2.1, M.2.2.2.2.2.1⟩ (gm_met c1 hG hokas k4)
        (va_cwS na M.2.2.2.2.2.1 hgood hcw rfl rfl ⟨c4.1, c4.2, c3⟩ ⟨k5, k6⟩)
        ⟨Pc_blind Γ _ σ, fun U hU hWm => ⟨rfl, Fx_moved M.2.2.2.2.2.2.2.2 hU hWm hS, by rw [hU]; exact hW⟩⟩
        rfl (by rw [List.length_map]; exact hlen) hl.1 (by simp) (room_r Γ k3) hd ⟨k7, k8⟩
    | cons q l =>
      have hcw : mWs x = Cond.codeWith (mName x) (mCode x) (mMaxL x) (mRet x) (q :: l) :: wG := by unfold mWs codeW; rw [hh]
      exact vx_runSX (p := p) (l := gL Γ) (e := e) (R := mRm mi) (below := below) (meth := meth) (locs := locs) (cells := cnt.1) (slots := cnt.2) (As := as.map (toV Γ)) (rest := r.map (toV Γ)) (own := mOwn mi) (index := idx) (Ts := wG) (nL := mMaxL mi) ⟨M.1, M.2.1, M.2.2.1, M.2.2.2.2.1, M.2.2.2.2.2.1⟩ (gm_met c1 hG hokas k4)
        (vx_cwSW na M.2.2.2.2.2.1 hgood hcw rfl rfl ⟨c4.1, c4.2, c3⟩ ⟨k5, k6⟩)
        ⟨Pc_blind Γ _ σ, fun U hU hWm => ⟨rfl, Fx_moved M.2.2.2.2.2.2.2.2 hU hWm hS, by rw [hU]; exact hW⟩⟩
        rfl (by rw [List.length_map]; exact hlen) hl.1 (by simp) (room_r Γ k3) hd ⟨k7, k8⟩
  exact after_run hrun hn M hl hS hlv hokr h1 hk (fun y σ' hy hq H1 locs1 ce q9 hWd hle hS1 hce hcv hcl => hx y σ' hy hq n0 p e s m args below meth c ls H1 locs1 ce q9 M hl.1 hl.2.1 hWd hle hS1 hce hcv hcl)
/-- a contract whose callee never throws -/
theorem met_of_vx {l : Launch} {y : MethodName} {ws : List Cond} {rm : Room} {Pc : Array Value → State → Prop} {Qc : Array Value → State → Outcome → State → Prop} {XC : String → State → State → Prop} {mc ms : Nat} {free : Addr → Prop} (h : vx_Met l y ws rm Pc Qc XC mc ms free) (hx : ∀ E st t, ¬ XC E st t) : Met l y ws rm Pc Qc mc ms free := by
  intro p e ha hc hk s m args below hf happ hP hK
  obtain ⟨n, o, h1, h2, h3, h4⟩ := h p e ha hc hk s m args below hf happ hP hK
  refine ⟨n, o, h1, h2, h3, ?_⟩
  rcases h4 with h4 | ⟨q, -, E, ce, L, hxc, -⟩
  · exact h4
  · exact (hx _ _ _ hxc).elim
theorem va_to_vx {p : Program} {l : Launch} {e : Env} {R : Room} {s : State} {m : MethodId} {args : Array Value} {below : List Frame} {meth : Method} {c : Code} {H : Heap} {locs : List Loc} {cells slots mc ms : Nat} {g : JFrame} {rest : List Value} {Qa : State → Outcome → State → Prop} {XC : String → State → State → Prop} {free : Addr → Prop}
    (h : va_Run p l e R s m args below meth c H locs cells slots mc ms g rest Qa free) : vx_Run p l e R s m args below meth c H locs cells slots mc ms g rest Qa XC free := fun T hT X => Or.inl (h T hT X)
theorem so_callI {idx x na : Nat} {as : List MV} {Q' : Out → Mem → Prop} (hm : mi < 163) (hd : decode (mCode mi) pc = .ok (.invokespecial idx, 3)) (hf : look2 calL (mOwnNo mi) idx = some (25, x, na)) (hlen : as.length = na) (hok : callOk 2 mi x cnt as r = true)
    (hG : Gm Γ x as σ Q') (hno : ∀ y σ', ¬ Q' (.inr y) σ') (hk : ∀ v σ', Q' (.inl v) σ' → Go Γ mi (pc + 3) lv (v.toList ++ r) σ' (cnt.1 + mMc x, cnt.2 + mMs x) Q) :
    Go Γ mi pc lv (as.reverse ++ r) σ cnt Q := by
  intro n0 p e s m args below meth c H locs ls hn M hl hW hS hlv hst h1
  obtain ⟨k1, k2, k3, k4, k5, k6, k7, k8⟩ := callOk_spec hok
  have hk0 : mKind x = 2 := by omega
  obtain ⟨c1, c2, c3, c4, c5⟩ := cal_ok hf
  have hna := c5 (by omega)
  rw [hk0] at c3
  have c3 : (parseMethodDescriptor (mName x).desc).map (fun d => d.parameters.length) = some (na - 1) := c3
  obtain ⟨i1, i2, hh⟩ := (mOwn_cls x (by omega)).2.2.1 hk0
  unfold recvOk at k2
  rw [hk0] at k2
  match as, hlen, k2, hst, hG, k4 with
  | .inr (t, i) :: as', hlen, k2, hst, hG, k4 =>
    have hokas : okS σ (.inr (t, i) :: as') := fun v hv => hst v (List.mem_append_left _ (List.mem_reverse.mpr hv))
    have hokr : okS σ r := fun v hv => hst v (List.mem_append_right _ hv)
    have hcw : mWs x = Cond.code (mName x) (mCode x) (mMaxL x) none :: wG := by unfold mWs codeW; rw [hh, i2]
    have hgw : GoodIn wG (mWs x) := gi_of (mws_in c1)
    have hM : Met (gL Γ) (mName x) (mWs x) (mRm x) (PcOf Γ (.inr (t, i) :: as') σ) (QcOf Γ σ.1 Q') (mMc x) (mMs x) (gA Γ) := met_of_vx (gm_met c1 hG hokas k4) (fun E st t ⟨y, σ', _, _, hq, _⟩ => hno y σ' hq)
    have w1 : ∀ w, w ∈ calWords (mOwnNo mi) idx x → w.before args s = true := fun w hw => M.2.2.2.2.2.1 w (c2 w hw)
    have hw2 : (Cond.instanceMethod (mName x)).before args s = true := w1 _ (by unfold calWords; rw [hk0]; simp)
    have hw3 : (Cond.initialized (mName x).cls).before args s = true := w1 _ (by unfold calWords; rw [hk0]; simp)
    have hrun : va_Run p (gL Γ) e (mRm mi) s m args below meth c H locs cnt.1 cnt.2 (mMc x) (mMs x) (F0 m pc ls ((((.inr (t, i) :: as' : List MV).reverse ++ r).map (toV Γ)))) (r.map (toV Γ)) (QcOf Γ σ.1 Q' (Value.ref (adr Γ t i) :: as'.map (toV Γ)).toArray) (gA Γ) := by
      cases hnest : isNest (mOwnNo mi) idx with
      | false =>
        have hw4 : (Cond.methodLink (mOwn mi) idx (mName x)).before args s = true := w1 _ (by unfold calWords; rw [hk0, hnest, mOwn_eq mi hm]; simp)
        exact va_runI (p := p) (l := gL Γ) (e := e) (R := mRm mi) (below := below) (meth := meth) (locs := locs) (cells := cnt.1) (slots := cnt.2) (As := as'.map (toV Γ)) (rest := r.map (toV Γ)) (b := adr Γ t i) (own := mOwn mi) (index := idx) (Ts := wG) (nL := mMaxL mi) ⟨M.1, M.2.1, M.2.2.1, M.2.2.2.2.1, M.2.2.2.2.2.1⟩ hM
          (cwI (na - 1) M.2.2.2.2.2.1 hgw hcw rfl rfl hw3 hw4 hw2 i1 ⟨c4.1, c4.2, c3⟩ ⟨k5, k6⟩)
          ⟨Pc_blind Γ _ σ, fun U hU hWm => ⟨rfl, Fx_moved M.2.2.2.2.2.2.2.2 hU hWm hS, by rw [hU]; exact hW⟩⟩
          rfl (by rw [List.length_map]; simp at hlen; omega) hl.1 (by simp [toV]) (room_r Γ k3) hd ⟨k7, k8⟩
      | true =>
        unfold isNest at hnest
        rw [Bool.and_eq_true] at hnest
        have e6 := Nat.eq_of_beq_eq_true hnest.1
        have e40 := Nat.eq_of_beq_eq_true hnest.2
        have hx4 : x = M_X4_init := by
          rw [e6, e40] at hf
          have : look2 calL 6 40 = some (25, M_X4_init, 1) := by decide +kernel
          rw [this] at hf
          cases hf; rfl
        have hlk : va_Nw (.methodLinkNest (mOwn mi) idx (mName x) RX6) s := by
          rw [mOwn_eq mi hm, e6, e40, hx4]
          exact M.2.2.2.2.2.2.2.2.2.2.2.2.2.2.2.2.2.1
        exact va_runIN (p := p) (l := gL Γ) (e := e) (R := mRm mi) (below := below) (meth := meth) (locs := locs) (cells := cnt.1) (slots := cnt.2) (As := as'.map (toV Γ)) (rest := r.map (toV Γ)) (b := adr Γ t i) (own := mOwn mi) (host := RX6) (index := idx) (Ts := wG) (nL := mMaxL mi) ⟨M.1, M.2.1, M.2.2.1, M.2.2.2.2.1, M.2.2.2.2.2.1⟩ hM
          ⟨va_cnB (na - 1) M.2.2.2.2.2.1 hgw hcw rfl rfl hlk hw3 ⟨c4.1, c4.2, c3⟩ ⟨k5, k6⟩, i1, hw2⟩
          ⟨Pc_blind Γ _ σ, fun U hU hWm => ⟨rfl, Fx_moved M.2.2.2.2.2.2.2.2 hU hWm hS, by rw [hU]; exact hW⟩⟩
          rfl (by rw [List.length_map]; simp at hlen; omega) hl.1 (by simp [toV]) (room_r Γ k3) hd ⟨k7, k8⟩
    exact after_run (va_to_vx hrun) hn M hl hS hlv hokr h1 hk (fun y σ' hy hq => (hno y σ' hq).elim)
end SNK
