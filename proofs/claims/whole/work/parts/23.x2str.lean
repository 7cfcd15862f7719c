/-! The texts' length and charAt: the JDK's own methods, walked. -/
def jS : String := "java/lang/String"
def jFm : String := "Ljava/util/function/BiFunction;"
def jPr : String := "jdk/internal/util/Preconditions"
def yLen : MethodName := ⟨jS, "length", "()I"⟩
def yCod : MethodName := ⟨jS, "coder", "()B"⟩
def yChr : MethodName := ⟨jS, "charAt", "(I)C"⟩
def yIsL : MethodName := ⟨jS, "isLatin1", "()Z"⟩
def yLat : MethodName := ⟨"java/lang/StringLatin1", "charAt", "([BI)C"⟩
def yChk : MethodName := ⟨jS, "checkIndex", "(II)V"⟩
def yPre : MethodName := ⟨jPr, "checkIndex", "(IILjava/util/function/BiFunction;)I"⟩
theorem js_w : ∀ w ∈ ([.code yLen prog_15_method_54_code 1 (some .int), .code yCod prog_15_method_152_code 1 (some .byte), .code yChr prog_15_method_56_code 2 (some .char), .code yIsL prog_15_method_154_code 1 (some .boolean), .code yLat prog_16_method_2_code 2 (some .char), .code yChk prog_15_method_155_code 2 none, .code yPre prog_22_method_11_code 3 (some .int),
    .instanceMethod yLen, .selects jS yLen yLen, .instanceMethod yCod, .selects jS yCod yCod, .instanceMethod yChr, .selects jS yChr yChr, .instanceMethod yIsL, .selects jS yIsL yIsL, .static yLat, .static yChk, .static yPre, .initialized jS, .initialized "java/lang/StringLatin1", .initialized jPr,
    .fieldLink jS 9 jS "value" "[B", .fieldLink jS 15 jS "coder" "B", .fieldLink jS 38 jS "COMPACT_STRINGS" "Z", .fieldLink jS 1053 jPr "SIOOBE_FORMATTER" jFm, .methodLink jS 335 yCod, .methodLink jS 492 yIsL, .methodLink jS 495 yLat, .methodLink "java/lang/StringLatin1" 9 yChk, .methodLink jS 1059 yPre] : List Cond), w ∈ wG := by
  have h : ([.code yLen prog_15_method_54_code 1 (some .int), .code yCod prog_15_method_152_code 1 (some .byte), .code yChr prog_15_method_56_code 2 (some .char), .code yIsL prog_15_method_154_code 1 (some .boolean), .code yLat prog_16_method_2_code 2 (some .char), .code yChk prog_15_method_155_code 2 none, .code yPre prog_22_method_11_code 3 (some .int),
    .instanceMethod yLen, .selects jS yLen yLen, .instanceMethod yCod, .selects jS yCod yCod, .instanceMethod yChr, .selects jS yChr yChr, .instanceMethod yIsL, .selects jS yIsL yIsL, .static yLat, .static yChk, .static yPre, .initialized jS, .initialized "java/lang/StringLatin1", .initialized jPr,
    .fieldLink jS 9 jS "value" "[B", .fieldLink jS 15 jS "coder" "B", .fieldLink jS 38 jS "COMPACT_STRINGS" "Z", .fieldLink jS 1053 jPr "SIOOBE_FORMATTER" jFm, .methodLink jS 335 yCod, .methodLink jS 492 yIsL, .methodLink jS 495 yLat, .methodLink "java/lang/StringLatin1" 9 yChk, .methodLink jS 1059 yPre] : List Cond).all (fun w => decide (w ∈ lw_tbl) && goodWord w) = true := by decide +kernel
  intro w hw
  have h1 := List.all_eq_true.mp h w hw
  simp only [Bool.and_eq_true, decide_eq_true_eq] at h1
  exact List.mem_filter.mpr h1
def jcN (b : Nat) : MethodName := bif Nat.beq b 0 then yLen else yChr
theorem str_words0 : calL.all (fun q => !Nat.beq q.2.1 34 || decide (Cond.methodLink (ownN q.1.1) q.1.2 (jcN q.2.2.1) ∈ lw_tbl)) = true := by decide +kernel
theorem str_words {ow idx b na : Nat} (h : look2 calL ow idx = some (34, b, na)) : Cond.methodLink (ownN ow) idx (jcN b) ∈ wG := by
  have h1 := List.all_eq_true.mp str_words0 _ (look2_mem h)
  have h2 : Cond.methodLink (ownN ow) idx (jcN b) ∈ lw_tbl := by simpa using h1
  exact List.mem_filter.mpr ⟨h2, rfl⟩
theorem str_num : ∀ i, i < 28 → (Int32.ofNat (strB.getD i []).length >>> ((0 : Int32) &&& 31) = nI (strB.getD i []).length ∧ Int32.ofNat (strB.getD i []).length = nI (strB.getD i []).length ∧ (strB.getD i []).length < 100 ∧ ∀ b ∈ strB.getD i [], b &&& 255 = b) := by decide +kernel
theorem getD_in {l : List Int32} {k : Nat} (h : k < l.length) : l.getD k 0 ∈ l := by
  rw [List.getD_eq_getElem?_getD, List.getElem?_eq_getElem h]
  exact List.getElem_mem h
theorem gw {L : List Cond} (h : ∀ w ∈ L, w ∈ wG) : GoodIn wG L := fun w hw => ⟨h w hw, good_of_word (List.mem_filter.mp (h w hw)).2⟩
def PcS (Γ : GG) (as : List Value) (Hh : Heap) : Array Value → State → Prop := va_Pc as (fun U => Fx Γ U ∧ U.heap = Hh)
def QcS (v : Option Value) (Hh : Heap) : Array Value → State → Outcome → State → Prop := fun _ _ o t => o = .returned v ∧ t.heap = Hh
theorem PcS_blind (Γ : GG) (as : List Value) (Hh : Heap) : FrameBlind (PcS Γ as Hh) := fun a U g mk h => ⟨h.1, Fx_moved (H := U.heap) (locs := []) h.2.1 rfl (State.WarmedH.refl U) va_S.rf, h.2.2⟩
section JSS
variable {Γ : GG} {p : Program} {e : Env} {R : Room} {s : State} {m : MethodId} {args : Array Value} {below : List Frame} {meth : Method} {c : Code} {H : Heap} {locs : List Loc} {cells slots : Nat} {Q : State → Prop} {cc : ByteArray} {pc : Nat} {ls : Array Slot} {rest : List Value}
theorem after_s {l : Launch} {st0 : List Value} {v : Option Value} {a : Array Value} (hr : va_Run p l e R s m args below meth c H locs cells slots 0 0 (F0 m pc ls st0) rest (QcS v H a) (fun _ => False))
    (kk : W p l e R s m args below meth c H locs cells slots Q (F0 m (pc + 3) ls (v.toList ++ rest))) : W p l e R s m args below meth c H locs cells slots Q (F0 m pc ls st0) := by
  intro T hT X
  obtain ⟨v', st₀, t, T', L, h0, X', hL, e1, e2, ⟨ho, hh⟩, st⟩ := hr T hT X
  have hL0 : L = [] := by
    cases L with
    | nil => rfl
    | cons q l9 => exact (hL q List.mem_cons_self).elim
  subst hL0
  cases ho
  rw [List.append_nil] at X'
  obtain ⟨t2, a1, b1⟩ := kk T' (e1.trans hh) X'
  exact ⟨t2, st t2 a1, b1⟩
theorem met_s {y : MethodName} {maxL : Nat} {ret : Option FieldType} {rm : Room} {as : List Value} {v : Option Value} {Hh : Heap} (hy : plainName y.cls = true) (hsz : (lg_sl as).length ≤ maxL)
    (body : ∀ (p : Program) (e : Env) (s : State) (m : MethodId) (args : Array Value) (below : List Frame) (meth : Method) (c : Code) (ls : Array Slot), p.tables.exec = Jvm.exec → c.code = cc → c.maxLocals = maxL → meth.sig.returnType = ret → meth.locks = false → s.vm.findClass y.cls = some m.cls → (∀ w ∈ wG, w.before args s = true) → Fx Γ s → s.heap = Hh → lv_has ls maxL (lv_args 0 as) →
      W p (gL Γ) e rm s m args below meth c Hh [] 0 0 (MQ below (QcS v Hh) args s 0 0 (fun _ => False)) (F0 m 0 ls [])) : Met (gL Γ) y (Cond.code y cc maxL ret :: wG) rm (PcS Γ as Hh) (QcS v Hh) 0 0 (fun _ => False) := by
  refine Met.ofW (cc := cc) (maxL := maxL) (ret := ret) (ws' := wG) hy rfl ?_
  intro p e s m args below meth c s₁ B hml hP
  obtain ⟨ha, hX, hh⟩ := hP
  subst ha hh
  have hts := atoms_spec (ws := Cond.code y cc maxL ret :: wG) B.pre
  rw [lg_entry_eq]
  exact body p e s m _ below meth c _ B.exec B.bytes hml B.returns B.notSynchronized (findClass_of_methodNamed B.named) (fun w hw => hts w (List.mem_cons_of_mem _ hw)) hX rfl (lv_entry as hsz)
theorem js_cb {own : String} {idx n maxL : Nat} {y : MethodName} {cy : ByteArray} {ret : Option FieldType} {rm : Room} (hwG : ∀ w ∈ wG, w.before args s = true) (hcode : Cond.code y cy maxL ret ∈ wG) (hlk : Cond.methodLink own idx y ∈ wG) (hini : Cond.initialized y.cls ∈ wG) (hrm : rm.cells = 0 ∧ rm.slots = 0)
    (hd : y.cls ≠ "java/lang/invoke/MethodHandle" ∧ y.cls ≠ "java/lang/invoke/VarHandle" ∧ (parseMethodDescriptor y.desc).map (fun d => d.parameters.length) = some n) (hR : rm.frames + 1 ≤ R.frames ∧ 8 + (maxL + 11) + rm.locals ≤ R.locals) : CallB R s args own idx y cy maxL ret (Cond.code y cy maxL ret :: wG) rm 0 0 n :=
  callB_of n hwG (gw (fun w hw => (List.mem_cons.mp hw).elim (fun e => e ▸ hcode) id)) rfl hrm.1 hrm.2 (hwG _ hini) (hwG _ hlk) hd hR
theorem js_S {own : String} {idx n nL maxL : Nat} {y : MethodName} {cy : ByteArray} {ret : Option FieldType} {rm : Room} {as : List Value} {v : Option Value} (S : CallFix p m c cc nL s args wG own) (hls : ls.size = nL) (hM : Met (gL Γ) y (Cond.code y cy maxL ret :: wG) rm (PcS Γ as H) (QcS v H) 0 0 (fun _ => False))
    (hcode : Cond.code y cy maxL ret ∈ wG) (hlk : Cond.methodLink own idx y ∈ wG) (hini : Cond.initialized y.cls ∈ wG) (hst : Cond.static y ∈ wG) (hrm : rm.cells = 0 ∧ rm.slots = 0)
    (hd : y.cls ≠ "java/lang/invoke/MethodHandle" ∧ y.cls ≠ "java/lang/invoke/VarHandle" ∧ (parseMethodDescriptor y.desc).map (fun d => d.parameters.length) = some n) (hR : rm.frames + 1 ≤ R.frames ∧ 8 + (maxL + 11) + rm.locals ≤ R.locals) (hX : Fx Γ s) (hS : va_S (gA Γ) s.heap H locs) (hn : as.length = n) (hr : (rest.map fun v => v.category).sum ≤ 8) (hc : cells ≤ R.cells) (hs : slots ≤ R.slots) (hdg : decode cc pc = .ok (.invokestatic idx, 3))
    (kk : W p (gL Γ) e R s m args below meth c H locs cells slots Q (F0 m (pc + 3) ls (v.toList ++ rest))) {st0 : List Value} (hst0 : st0 = as.reverse ++ rest) : W p (gL Γ) e R s m args below meth c H locs cells slots Q (F0 m pc ls st0) :=
  after_s (va_runS S hM ⟨js_cb S.2.2.2.2 hcode hlk hini hrm hd hR, S.2.2.2.2 _ hst⟩ ⟨PcS_blind _ _ _, fun U hU hW => ⟨rfl, Fx_moved hX hU hW hS, hU⟩⟩ rfl hn hls hst0 (lv_room hr) hdg ⟨hc, hs⟩) kk
theorem js_V {own : String} {idx n nL maxL b : Nat} {y : MethodName} {cy : ByteArray} {ret : Option FieldType} {rm : Room} {as : List Value} {v : Option Value} (S : CallFix p m c cc nL s args wG own) (hls : ls.size = nL) (hM : Met (gL Γ) y (Cond.code y cy maxL ret :: wG) rm (PcS Γ (.ref b :: as) H) (QcS v H) 0 0 (fun _ => False))
    (hcode : Cond.code y cy maxL ret ∈ wG) (hlk : Cond.methodLink own idx y ∈ wG) (hini : Cond.initialized y.cls ∈ wG) (hin : Cond.instanceMethod y ∈ wG) (hse : Cond.selects jS y y ∈ wG) (hrm : rm.cells = 0 ∧ rm.slots = 0)
    (hd : y.cls ≠ "java/lang/invoke/MethodHandle" ∧ y.cls ≠ "java/lang/invoke/VarHandle" ∧ (parseMethodDescriptor y.desc).map (fun d => d.parameters.length) = some n) (hR : rm.frames + 1 ≤ R.frames ∧ 8 + (maxL + 11) + rm.locals ≤ R.locals) (hX : Fx Γ s) (hS : va_S (gA Γ) s.heap H locs) (hO : va_O jS b (gA Γ) s s.heap) (hn : as.length = n) (hr : (rest.map fun v => v.category).sum ≤ 8) (hc : cells ≤ R.cells) (hs : slots ≤ R.slots) (hdg : decode cc pc = .ok (.invokevirtual idx, 3))
    (kk : W p (gL Γ) e R s m args below meth c H locs cells slots Q (F0 m (pc + 3) ls (v.toList ++ rest))) {st0 : List Value} (hst0 : st0 = as.reverse ++ .ref b :: rest) : W p (gL Γ) e R s m args below meth c H locs cells slots Q (F0 m pc ls st0) :=
  after_s (va_runV (C := jS) S hM ⟨js_cb S.2.2.2.2 hcode hlk hini hrm hd hR, S.2.2.2.2 _ hin, S.2.2.2.2 _ hse⟩ ⟨PcS_blind _ _ _, va_Orecv hO hS, fun U hU hW => ⟨rfl, Fx_moved hX hU hW hS, hU⟩⟩ rfl hn hls hst0 (lv_room hr) hdg ⟨hc, hs⟩) kk
theorem js_getf {l : Launch} {own ref n d : String} {idx a : Nat} {v : Value} {A : Nat → Prop} (hexec : p.tables.exec = Jvm.exec) (hb : c.code = cc) (hown : s.vm.findClass own = some m.cls) (hlink : (Cond.fieldLink own idx ref n d).before args s = true) (hOF : va_OF ref n d v a A s s.heap) (hS : va_S A s.heap H locs) (hdg : decode cc pc = .ok (.getfield idx, 3))
    (kk : W p l e R s m args below meth c H locs cells slots Q (F0 m (pc + 3) ls (v :: rest))) : W p l e R s m args below meth c H locs cells slots Q (F0 m pc ls (.ref a :: rest)) := by
  obtain ⟨cf, k, fi, f, cell, h1, h2, h3, h4, h5, h6⟩ := hOF.kept hS.2.1
  exact W.getf hexec hb hown hlink h1 h2 h3 h4 (v := v) h5 rfl rfl hdg kk
end JSS
section JSM
variable {Γ : GG} {Hh : Heap} {i u : Nat}
theorem met_coder (hi : i < 28) (hu : u = 200 ∨ u = 202) : Met (gL Γ) yCod (Cond.code yCod prog_15_method_152_code 1 (some .byte) :: wG) {} (PcS Γ [.ref (gX Γ u i)] Hh) (QcS (some (.int 0)) Hh) 0 0 (fun _ => False) := by
  refine met_s (by decide) (Nat.le_refl 1) ?_
  intro p e s m args below meth c ls hx hb hml hr hlk hown hw hX hh hl
  subst hh
  obtain ⟨t1, t2, t3, t4⟩ := hX.2.2.2.2.2.1 i u hi hu
  refine va_gets hx hb hX.2.2.2.2.2.2.1.1 va_S.rf hown (hw _ (js_w (.fieldLink jS 38 jS "COMPACT_STRINGS" "Z") (by simp))) (fun _ h => h) (index := 38) (ref := jS) rfl ?_
  refine lv_if_eq hx hb (off := 10) (tgt := 13) (by decide +kernel) rfl (fun h => absurd h (by decide)) (fun _ => ?_)
  refine lv_aload_n hx hb (i := 0) (k := 0) rfl rfl (lv_at hl 0 rfl) ?_
  refine js_getf hx hb hown (hw _ (js_w (.fieldLink jS 15 jS "coder" "B") (by simp))) t2 va_S.rf rfl ?_
  refine lv_goto hx hb (off := 4) (tgt := 14) (by decide +kernel) rfl ?_
  exact W.zret hx hb hr rfl (fun t ht _ => ⟨rfl, ht⟩) (fun q hq => by cases hq) rfl hlk
theorem met_isL (hi : i < 28) (hu : u = 200 ∨ u = 202) : Met (gL Γ) yIsL (Cond.code yIsL prog_15_method_154_code 1 (some .boolean) :: wG) {} (PcS Γ [.ref (gX Γ u i)] Hh) (QcS (some (.int 1)) Hh) 0 0 (fun _ => False) := by
  refine met_s (by decide) (Nat.le_refl 1) ?_
  intro p e s m args below meth c ls hx hb hml hr hlk hown hw hX hh hl
  subst hh
  obtain ⟨t1, t2, t3, t4⟩ := hX.2.2.2.2.2.1 i u hi hu
  refine va_gets hx hb hX.2.2.2.2.2.2.1.1 va_S.rf hown (hw _ (js_w (.fieldLink jS 38 jS "COMPACT_STRINGS" "Z") (by simp))) (fun _ h => h) (index := 38) (ref := jS) rfl ?_
  refine lv_if_eq hx hb (off := 14) (tgt := 17) (by decide +kernel) rfl (fun h => absurd h (by decide)) (fun _ => ?_)
  refine lv_aload_n hx hb (i := 0) (k := 0) rfl rfl (lv_at hl 0 rfl) ?_
  refine js_getf hx hb hown (hw _ (js_w (.fieldLink jS 15 jS "coder" "B") (by simp))) t2 va_S.rf rfl ?_
  refine lv_if_ne hx hb (off := 7) (tgt := 17) (by decide +kernel) rfl (fun h => absurd rfl h) (fun _ => ?_)
  refine lv_iconst hx hb (n := 1) (v := 1) rfl rfl ?_
  refine lv_goto hx hb (off := 4) (tgt := 18) (by decide +kernel) rfl ?_
  exact W.zret hx hb hr rfl (fun t ht _ => ⟨rfl, ht⟩) (fun q hq => by cases hq) rfl hlk
theorem met_len (hi : i < 28) (hu : u = 200 ∨ u = 202) : Met (gL Γ) yLen (Cond.code yLen prog_15_method_54_code 1 (some .int) :: wG) { frames := 1, locals := 24 } (PcS Γ [.ref (gX Γ u i)] Hh) (QcS (some (.int (nI (strB.getD i []).length))) Hh) 0 0 (fun _ => False) := by
  refine met_s (by decide) (Nat.le_refl 1) ?_
  intro p e s m args below meth c ls hx hb hml hr hlk hown hw hX hh hl
  subst hh
  obtain ⟨t1, t2, t3, t4⟩ := hX.2.2.2.2.2.1 i u hi hu
  obtain ⟨n1, n2, -, -⟩ := str_num i hi
  refine lv_aload_n hx hb (i := 0) (k := 0) rfl rfl (lv_at hl 0 rfl) ?_
  refine js_getf hx hb hown (hw _ (js_w (.fieldLink jS 9 jS "value" "[B") (by simp))) t3 va_S.rf rfl ?_
  refine va_tlen hx hb t4 va_S.rf n2 rfl ?_
  refine lv_aload_n hx hb (i := 0) (k := 0) rfl rfl (lv_at hl 0 rfl) ?_
  refine js_V (as := []) (own := jS) (idx := 335) (n := 0) ⟨hx, hb, hml, hown, hw⟩ hl.1 (met_coder hi hu) (js_w _ (by simp)) (js_w _ (by simp)) (js_w (.initialized jS) (by simp)) (js_w _ (by simp)) (js_w _ (by simp)) ⟨rfl, rfl⟩ ⟨by decide, by decide, by decide +kernel⟩ ⟨by decide, by decide⟩ hX va_S.rf t1 rfl (by simp [Value.category]) (Nat.zero_le _) (Nat.zero_le _) rfl ?_ rfl
  show W _ _ _ _ _ _ _ _ _ _ _ _ _ _ _ (F0 m 9 ls [.int 0, .int (nI (strB.getD i []).length)])
  refine lv_ishr hx hb rfl ?_
  rw [← n2, n1]
  exact W.iret hx hb hr (fun t ht _ => ⟨rfl, ht⟩) (fun q hq => by cases hq) rfl hlk
theorem met_pre {j n : Int32} {f : Value} (hj : ¬ j < 0) (hn : j < n) (hf : f = .null ∨ ∃ t, f = .ref t) : Met (gL Γ) yPre (Cond.code yPre prog_22_method_11_code 3 (some .int) :: wG) {} (PcS Γ [.int j, .int n, f] Hh) (QcS (some (.int j)) Hh) 0 0 (fun _ => False) := by
  refine met_s (by decide) (by rcases hf with rfl | ⟨t, rfl⟩ <;> exact Nat.le_refl 3) ?_
  intro p e s m args below meth c ls hx hb hml hr hlk hown hw hX hh hl
  subst hh
  refine lv_iload_n hx hb (i := 0) (k := 0) rfl rfl (lv_at hl 0 rfl) ?_
  refine lv_if_lt hx hb (off := 8) (tgt := 9) (by decide +kernel) rfl (fun h => absurd h hj) (fun _ => ?_)
  refine lv_iload_n hx hb (i := 0) (k := 0) rfl rfl (lv_at hl 0 rfl) ?_
  refine lv_iload_n hx hb (i := 1) (k := 1) rfl rfl (lv_at hl 1 rfl) ?_
  refine lv_icmp_lt hx hb (off := 10) (tgt := 16) (by decide +kernel) rfl (fun _ => ?_) (fun h => absurd hn h)
  refine lv_iload_n hx hb (i := 0) (k := 0) rfl rfl (lv_at hl 0 rfl) ?_
  exact W.iret hx hb hr (fun t ht _ => ⟨rfl, ht⟩) (fun q hq => by cases hq) rfl hlk
theorem met_chk {j n : Int32} (hj : ¬ j < 0) (hn : j < n) : Met (gL Γ) yChk (Cond.code yChk prog_15_method_155_code 2 none :: wG) { frames := 1, locals := 24 } (PcS Γ [.int j, .int n] Hh) (QcS none Hh) 0 0 (fun _ => False) := by
  refine met_s (by decide) (Nat.le_refl 2) ?_
  intro p e s m args below meth c ls hx hb hml hr hlk hown hw hX hh hl
  subst hh
  have key : ∀ f : Value, (f = .null ∨ ∃ t, f = .ref t) → va_Z jPr "SIOOBE_FORMATTER" jFm f (gA Γ) s s.heap → W p (gL Γ) e { frames := 1, locals := 24 } s m args below meth c s.heap [] 0 0 (MQ below (QcS none s.heap) args s 0 0 (fun _ => False)) (F0 m 2 ls [.int n, .int j]) := fun f hf hZ => by
    refine va_gets hx hb hZ va_S.rf hown (hw _ (js_w (.fieldLink jS 1053 jPr "SIOOBE_FORMATTER" jFm) (by simp))) (fun _ h => h) (index := 1053) (ref := jPr) rfl ?_
    refine js_S (as := [.int j, .int n, f]) (rest := []) (own := jS) (idx := 1059) (n := 3) ⟨hx, hb, hml, hown, hw⟩ hl.1 (met_pre hj hn hf) (js_w _ (by simp)) (js_w _ (by simp)) (js_w (.initialized jPr) (by simp)) (js_w _ (by simp)) ⟨rfl, rfl⟩ ⟨by decide, by decide, by decide +kernel⟩ ⟨by decide, by decide⟩ hX va_S.rf rfl (by simp) (Nat.zero_le _) (Nat.zero_le _) rfl ?_ rfl
    refine lv_pop hx hb rfl rfl ?_
    exact W.vret hx hb hr (fun t ht _ => ⟨rfl, ht⟩) (fun q hq => by cases hq) rfl hlk
  refine lv_iload_n hx hb (i := 0) (k := 0) rfl rfl (lv_at hl 0 rfl) ?_
  refine lv_iload_n hx hb (i := 1) (k := 1) rfl rfl (lv_at hl 1 rfl) ?_
  rcases hX.2.2.2.2.2.2.1.2 with h | ⟨t, h⟩
  · exact key _ (Or.inl rfl) h
  · exact key _ (Or.inr ⟨t, rfl⟩) h
theorem met_lat {j : Int32} (hi : i < 28) (hu : u = 200 ∨ u = 202) (hj : vp_in j (strB.getD i []).length) : Met (gL Γ) yLat (Cond.code yLat prog_16_method_2_code 2 (some .char) :: wG) { frames := 2, locals := 48 } (PcS Γ [.ref (gX Γ (u + 3) i), .int j] Hh) (QcS (some (.int ((strB.getD i []).getD j.toNatClampNeg 0))) Hh) 0 0 (fun _ => False) := by
  refine met_s (by decide) (Nat.le_refl 2) ?_
  intro p e s m args below meth c ls hx hb hml hr hlk hown hw hX hh hl
  subst hh
  obtain ⟨t1, t2, t3, t4⟩ := hX.2.2.2.2.2.1 i u hi hu
  obtain ⟨n1, n2, n3, n4⟩ := str_num i hi
  have hlt : j.toNatClampNeg < (strB.getD i []).length := Nat.not_le.mp fun q => hj (Or.inr q)
  have hj0 : ¬ j < 0 := fun q => hj (Or.inl q)
  have hjn : j < nI (strB.getD i []).length := by
    obtain ⟨k, hk, rfl⟩ := nI_of hj0
    rw [nI_clamp hk] at hlt
    exact nI_lt hlt (by omega)
  have hmem : (strB.getD i []).getD j.toNatClampNeg 0 ∈ strB.getD i [] := getD_in hlt
  have hb255 := n4 _ hmem
  refine lv_iload_n hx hb (i := 1) (k := 1) rfl rfl (lv_at hl 1 rfl) ?_
  refine lv_aload_n hx hb (i := 0) (k := 0) rfl rfl (lv_at hl 0 rfl) ?_
  refine va_tlen hx hb t4 va_S.rf n2 rfl ?_
  refine js_S (as := [.int j, .int (nI (strB.getD i []).length)]) (rest := []) (own := "java/lang/StringLatin1") (idx := 9) (n := 2) ⟨hx, hb, hml, hown, hw⟩ hl.1 (met_chk hj0 hjn) (js_w _ (by simp)) (js_w _ (by simp)) (js_w (.initialized jS) (by simp)) (js_w _ (by simp)) ⟨rfl, rfl⟩ ⟨by decide, by decide, by decide +kernel⟩ ⟨by decide, by decide⟩ hX va_S.rf rfl (by simp) (Nat.zero_le _) (Nat.zero_le _) rfl ?_ rfl
  refine lv_aload_n hx hb (i := 0) (k := 0) rfl rfl (lv_at hl 0 rfl) ?_
  refine lv_iload_n hx hb (i := 1) (k := 1) rfl rfl (lv_at hl 1 rfl) ?_
  refine va_tb hx hb t4 va_S.rf hj rfl rfl ?_
  refine lv_sipush hx hb (n := 255) (v := 255) (by decide +kernel) (by decide +kernel) ?_
  refine lv_iand hx hb rfl ?_
  refine lv_i2c hx hb rfl (sc_c2 _) ?_
  exact W.zret hx hb hr (sc_nar _) (fun t ht _ => ⟨by rw [hb255], ht⟩) (fun q hq => by cases hq) rfl hlk
theorem met_chr {j : Int32} (hi : i < 28) (hu : u = 200 ∨ u = 202) (hj : vp_in j (strB.getD i []).length) : Met (gL Γ) yChr (Cond.code yChr prog_15_method_56_code 2 (some .char) :: wG) { frames := 3, locals := 72 } (PcS Γ [.ref (gX Γ u i), .int j] Hh) (QcS (some (.int ((strB.getD i []).getD j.toNatClampNeg 0))) Hh) 0 0 (fun _ => False) := by
  refine met_s (by decide) (Nat.le_refl 2) ?_
  intro p e s m args below meth c ls hx hb hml hr hlk hown hw hX hh hl
  subst hh
  obtain ⟨t1, t2, t3, t4⟩ := hX.2.2.2.2.2.1 i u hi hu
  obtain ⟨n1, n2, n3, n4⟩ := str_num i hi
  have hlt : j.toNatClampNeg < (strB.getD i []).length := Nat.not_le.mp fun q => hj (Or.inr q)
  have hmem : (strB.getD i []).getD j.toNatClampNeg 0 ∈ strB.getD i [] := getD_in hlt
  have hb255 := n4 _ hmem
  refine lv_aload_n hx hb (i := 0) (k := 0) rfl rfl (lv_at hl 0 rfl) ?_
  refine js_V (as := []) (rest := []) (own := jS) (idx := 492) (n := 0) ⟨hx, hb, hml, hown, hw⟩ hl.1 (met_isL hi hu) (js_w _ (by simp)) (js_w _ (by simp)) (js_w (.initialized jS) (by simp)) (js_w _ (by simp)) (js_w _ (by simp)) ⟨rfl, rfl⟩ ⟨by decide, by decide, by decide +kernel⟩ ⟨by decide, by decide⟩ hX va_S.rf t1 rfl (by simp) (Nat.zero_le _) (Nat.zero_le _) rfl ?_ rfl
  refine lv_if_eq hx hb (off := 12) (tgt := 16) (by decide +kernel) rfl (fun h => absurd h (by decide)) (fun _ => ?_)
  refine lv_aload_n hx hb (i := 0) (k := 0) rfl rfl (lv_at hl 0 rfl) ?_
  refine js_getf hx hb hown (hw _ (js_w (.fieldLink jS 9 jS "value" "[B") (by simp))) t3 va_S.rf rfl ?_
  refine lv_iload_n hx hb (i := 1) (k := 1) rfl rfl (lv_at hl 1 rfl) ?_
  refine js_S (as := [.ref (gX Γ (u + 3) i), .int j]) (rest := []) (own := jS) (idx := 495) (n := 2) ⟨hx, hb, hml, hown, hw⟩ hl.1 (met_lat hi hu hj) (js_w _ (by simp)) (js_w _ (by simp)) (js_w (.initialized "java/lang/StringLatin1") (by simp)) (js_w _ (by simp)) ⟨rfl, rfl⟩ ⟨by decide, by decide, by decide +kernel⟩ ⟨by decide, by decide⟩ hX va_S.rf rfl (by simp) (Nat.zero_le _) (Nat.zero_le _) rfl ?_ rfl
  exact W.zret hx hb hr (by rw [← hb255]; exact sc_nar _) (fun t ht _ => ⟨rfl, ht⟩) (fun q hq => by cases hq) rfl hlk
end JSM
section SNJ
variable {Γ : GG} {mi pc : Nat} {lv : LV} {r : List MV} {σ : Mem} {cnt : Nat × Nat} {Q : Out → Mem → Prop}
theorem so_strlen {idx na s9 u : Nat} (hu : u = 200 ∨ u = 202) (hm : mi < 163) (hd : decode (mCode mi) pc = .ok (.invokevirtual idx, 3)) (hf : look2 calL (mOwnNo mi) idx = some (34, 0, na)) (h9 : s9 < 28) (hfr : 5 ≤ mFr mi) (hlo : 110 ≤ mLo mi) (hok : natOk mi cnt r = true) (h : Go Γ mi (pc + 3) lv (.inl (.int (nI (strB.getD s9 []).length)) :: r) σ cnt Q) : Go Γ mi pc lv (.inr (u, s9) :: r) σ cnt Q := by
  intro n0 p e s m args below meth c H locs ls hn M hl hW hS hlv hst h1
  obtain ⟨k1, k2, k3, k4, k5⟩ := natOk_spec hok
  have w := M.2.2.2.2.2.1
  have F := M.2.2.2.2.2.2.2.2
  have hu85 : ¬ u < 85 := by omega
  have ha : toV Γ (.inr (u, s9)) = .ref (gX Γ u s9) := by show Value.ref (adr Γ u s9) = _; unfold adr; rw [if_neg hu85]
  have g := h n0 p e s m args below meth c H locs ls hn M hl hW hS hlv (okS_cons okV_int (okS_tl hst)) h1
  refine js_V (as := []) (rest := r.map (toV Γ)) (own := mOwn mi) (n := 0) ⟨M.1, M.2.1, M.2.2.1, M.2.2.2.2.1, w⟩ hl.1 (met_len h9 hu) (js_w _ (by simp)) (by rw [mOwn_eq mi hm]; exact str_words hf) (js_w (.initialized jS) (by simp)) (js_w _ (by simp)) (js_w _ (by simp)) ⟨rfl, rfl⟩ ⟨by decide, by decide, by decide +kernel⟩ ⟨by show 1 + 1 ≤ mFr mi; omega, by show 8 + (1 + 11) + 24 ≤ mLo mi; omega⟩ F hS (F.2.2.2.2.2.1 s9 u h9 hu).1 rfl (by rw [sumC_cat]; exact k1) k4 k5 hd g (by rw [List.map_cons, ha]; rfl)
theorem so_charAt {idx na s9 u : Nat} {j : Int32} (hu : u = 200 ∨ u = 202) (hm : mi < 163) (hd : decode (mCode mi) pc = .ok (.invokevirtual idx, 3)) (hf : look2 calL (mOwnNo mi) idx = some (34, 1, na)) (h9 : s9 < 28) (hfr : 5 ≤ mFr mi) (hlo : 110 ≤ mLo mi) (hok : natOk mi cnt r = true) (hj : vp_in j (strB.getD s9 []).length) (h : Go Γ mi (pc + 3) lv (.inl (.int ((strB.getD s9 []).getD j.toNatClampNeg 0)) :: r) σ cnt Q) : Go Γ mi pc lv (.inl (.int j) :: .inr (u, s9) :: r) σ cnt Q := by
  intro n0 p e s m args below meth c H locs ls hn M hl hW hS hlv hst h1
  obtain ⟨k1, k2, k3, k4, k5⟩ := natOk_spec hok
  have w := M.2.2.2.2.2.1
  have F := M.2.2.2.2.2.2.2.2
  have hu85 : ¬ u < 85 := by omega
  have ha : toV Γ (.inr (u, s9)) = .ref (gX Γ u s9) := by show Value.ref (adr Γ u s9) = _; unfold adr; rw [if_neg hu85]
  have g := h n0 p e s m args below meth c H locs ls hn M hl hW hS hlv (okS_cons okV_int (okS_tl (okS_tl hst))) h1
  refine js_V (as := [.int j]) (rest := r.map (toV Γ)) (own := mOwn mi) (n := 1) ⟨M.1, M.2.1, M.2.2.1, M.2.2.2.2.1, w⟩ hl.1 (met_chr h9 hu hj) (js_w _ (by simp)) (by rw [mOwn_eq mi hm]; exact str_words hf) (js_w (.initialized jS) (by simp)) (js_w _ (by simp)) (js_w _ (by simp)) ⟨rfl, rfl⟩ ⟨by decide, by decide, by decide +kernel⟩ ⟨by show 3 + 1 ≤ mFr mi; omega, by show 8 + (2 + 11) + 72 ≤ mLo mi; omega⟩ F hS (F.2.2.2.2.2.1 s9 u h9 hu).1 rfl (by rw [sumC_cat]; exact k1) k4 k5 hd g (by rw [List.map_cons, List.map_cons, ha]; rfl)
end SNJ
