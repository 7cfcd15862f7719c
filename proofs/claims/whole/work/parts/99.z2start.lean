/-! The claim out of the walk of the law. -/
def R_law : String := "SaltCaravansLaw"
def lw_P (b : Addr) (xs : List Int32) (args : Array Value) (s : State) : Prop := args = #[.ref b] ∧ s.IntsAt b xs ∧ xs.length ≤ 3072 ∧ (Jvm.Cond.and given_1 narrow_1).before args s = true
/-- what holds at the law's entry: the machine, the code, the tables' words (any of lw_tbl by 'hts w (by decide +kernel)'), the script of L ints xs at the cell b, what the Statement gives of the start (any of its parts by flat_of_before) -/
def lw_At (p : Program) (s : State) (m : MethodId) (meth : Method) (c : Code) (b L : Nat) (xs : Nat → Int32) : Prop :=
  p.tables.exec = Jvm.exec ∧ c.code = code ∧ meth.sig.returnType = ret ∧ c.maxLocals = 8 ∧ s.vm.findClass R_law = some m.cls ∧ (∀ w ∈ lw_tbl, w.before #[Value.ref b] s = true) ∧ va_X b L xs s s.heap ∧ b < s.heap.size ∧ meth.locks = false ∧ (Jvm.Cond.and given_1 narrow_1).before #[Value.ref b] s = true ∧ c.exceptionTable.toList = [] ∧ meth.name = "law"
def lw_Cl (s : State) (f : Nat → ClassId × (Nat → Nat)) : Prop := ∀ k, k < 8 → u_Kn s (clsR k) (clsT k) (nFld k) (f k).1 (f k).2
theorem lw_cls {args : Array Value} {s : State} (hts : ∀ w ∈ lw_tbl, w.before args s = true) : ∃ f : Nat → ClassId × (Nat → Nat), lw_Cl s f := by
  have h : ∀ k : Nat, ∃ r : ClassId × (Nat → Nat), k < 8 → u_Kn s (clsR k) (clsT k) (nFld k) r.1 r.2 := fun k => by
    by_cases hk : k < 8
    · obtain ⟨c, i, h9⟩ := u_known (ws := lw_tbl) hts (fun w hw => (List.mem_filter.mp (cls_ws hk w hw)).1) (hts _ (cls_inst hk))
      exact ⟨(c, i), fun _ => h9⟩
    · exact ⟨((0 : Nat), fun _ => 0), fun h9 => absurd h9 hk⟩
  obtain ⟨f, hf⟩ := Classical.axiomOfChoice h
  exact ⟨f, hf⟩
theorem lw_arr {args : Array Value} {s : State} {ty : FieldType} (h : (Cond.arrayClass ty).before args s = true) : ∃ c : ClassId, ArrOfT s c ty ∧ s.vm.findClass ("[" ++ ty.toString) = some c := by
  obtain ⟨c, k, comp, f1, f2, f3⟩ := Cond.arrayClass_spec h
  exact ⟨c, fun N z => ⟨(fun q hq => by cases hq), k, f2, comp, f3⟩, f1⟩
theorem lw_arrO {s : State} {C : String} (h : va_AO C s) : ∃ c : ClassId, ArrOfT s c (.object C) ∧ va_RA s c (.object C) := by
  obtain ⟨comp, c, k, h1, h2, h3, h4, h5⟩ := Cond.arrayOver_spec (args := #[]) (first := s) (o := none) (idx := []) h
  exact ⟨c, fun N z => ⟨(fun q hq => by cases hq), k, h3, comp, h4⟩, k, comp, h3, h4, h1, h5⟩
theorem lw_arrA {s : State} {ty : FieldType} (h : va_AOA ty s) : ∃ c : ClassId, ArrOfT s c (.array ty) ∧ s.vm.findClass ("[" ++ (FieldType.array ty).toString) = some c := by
  obtain ⟨comp, c, k, h1, h2, h3, h4, h5⟩ := arrayOverA_spec (args := #[]) (first := s) (o := none) (idx := []) h
  exact ⟨c, fun N z => ⟨(fun q hq => by cases hq), k, h3, comp, h4⟩, h5⟩
def gcN (a b c d e f g : ClassId) (k : Nat) : ClassId := if k = 10 then a else if k = 11 then b else if k = 12 then c else if k = 13 then d else if k = 14 then e else if k = 15 then f else g
def gxN (b : Nat) (f : (Nat × Nat) × (Nat × Nat) → Nat × Nat) (t i : Nat) : Nat := if t = 201 then b else if t = 200 ∨ t = 202 then (f (enR t i)).1 else (f (enR (t - 3) i)).2
theorem gxN_a {b : Nat} {f : (Nat × Nat) × (Nat × Nat) → Nat × Nat} {u i : Nat} (hu : u = 200 ∨ u = 202) : gxN b f u i = (f (enR u i)).1 := by
  unfold gxN
  rw [if_neg (by omega), if_pos hu]
theorem gxN_d {b : Nat} {f : (Nat × Nat) × (Nat × Nat) → Nat × Nat} {u i : Nat} (hu : u = 200 ∨ u = 202) : gxN b f (u + 3) i = (f (enR u i)).2 := by
  unfold gxN
  rw [if_neg (by omega), if_neg (by omega), Nat.add_sub_cancel]
theorem lw_fx {p : Program} {s : State} {m : MethodId} {meth : Method} {c : Code} {b L : Nat} {xs : Nat → Int32} (l : Launch) (hst : l.stackTraces = false) (C0 : lw_At p s m meth c b L xs) : ∃ Γ : GG, Fx Γ s ∧ gL Γ = l ∧ gB Γ = s.heap.size ∧ gX Γ 201 0 = b ∧ gN Γ = L := by
  obtain ⟨hx, hb, hr, hml, hown, hts, hX, hbl, hlocks, hgv0, -, -⟩ := C0
  have hgv : ∀ w ∈ nrw, w.before #[Value.ref b] s = true := flat_of_before _ hgv0
  have hA : ∀ a : Nat, a < s.heap.size → ¬ (fun q : Nat => s.heap.size ≤ q) a := fun a h => Nat.not_le.mpr h
  obtain ⟨fc, hfc⟩ := lw_cls hts
  have harr : ∀ ty, Cond.arrayClass ty ∈ wG → (Cond.arrayClass ty).before #[Value.ref b] s = true := fun ty h => hts _ (List.mem_filter.mp h).1
  have ao4 : va_AO RX4 s := va_AO.of (hts _ (st_words _ (by simp)))
  have ao0 : va_AO RX0 s := va_AO.of (hts _ (st_words _ (by simp)))
  have aoa : va_AOA .int s := va_AOA.of (hts _ (st_words _ (by simp)))
  obtain ⟨c10, a10, r10⟩ := lw_arr (harr .int (arr_w _ (by simp)))
  obtain ⟨c11, a11, r11⟩ := lw_arr (harr .byte (arr_w _ (by simp)))
  obtain ⟨c12, a12, r12⟩ := lw_arr (harr .long (arr_w _ (by simp)))
  obtain ⟨c13, a13, r13⟩ := lw_arr (harr .boolean (arr_w _ (by simp)))
  obtain ⟨c14, a14, r14⟩ := lw_arrO ao4
  obtain ⟨c15, a15, r15⟩ := lw_arrO ao0
  obtain ⟨c16, a16, r16⟩ := lw_arrA aoa
  have hstr : ∀ q : (Nat × Nat) × (Nat × Nat), ∃ r : Nat × Nat, q ∈ stE → stP q (fun q : Nat => s.heap.size ≤ q) s r := fun q => by
    by_cases hq : q ∈ stE
    · obtain ⟨r, h⟩ := st_at hgv hts hA hq
      exact ⟨r, fun _ => h⟩
    · exact ⟨(0, 0), fun h => absurd h hq⟩
  obtain ⟨fs, hfs⟩ := Classical.axiomOfChoice hstr
  let Γ : GG := (l, (fun k => (fc k).1, fun k => (fc k).2), gcN c10 c11 c12 c13 c14 c15 c16, s.heap.size, gxN b fs, L, xs)
  refine ⟨Γ, ?_, rfl, rfl, rfl, rfl⟩
  have hK : va_K (gD Γ) vwCl (tysOf Γ) s := by
    refine ⟨fun k q hq => ?_, fun k q hq => ?_⟩
    · have hk : k < 8 := (List.getElem?_eq_some_iff.mp hq).1
      rw [cls_at hk] at hq
      cases hq
      exact hfc k hk
    · have hk : k < 7 := (List.getElem?_eq_some_iff.mp hq).1
      rcases (show k = 0 ∨ k = 1 ∨ k = 2 ∨ k = 3 ∨ k = 4 ∨ k = 5 ∨ k = 6 by omega) with rfl | rfl | rfl | rfl | rfl | rfl | rfl
      · cases hq; exact ⟨a10, r10⟩
      · cases hq; exact ⟨a11, r11⟩
      · cases hq; exact ⟨a12, r12⟩
      · cases hq; exact ⟨a13, r13⟩
      · cases hq; exact ⟨a14, r14⟩
      · cases hq; exact ⟨a15, r15⟩
      · cases hq; exact ⟨a16, r16⟩
  refine ⟨hK, Nat.le_refl _, ⟨hX, hbl⟩, hst, fun q hq h33 => ?_, fun i u hi hu => ?_, ⟨?_, ?_⟩, ?_, ?_, ?_, ao4, ao0, aoa, fun x y hx4 hy4 hxy => ?_, fun x hx4 => ?_, fun y hy => ?_⟩
  · obtain ⟨e1, e2, e3⟩ := en_ldc hq h33
    have h9 := (hfs _ e2).1
    rw [e1, e3] at h9
    have e4 : gX Γ (sT q.1.1) q.2.2.2 = (fs (enR (sT q.1.1) q.2.2.2)).1 := gxN_a (sT_two _)
    rw [e4]
    exact h9
  · obtain ⟨e1, e2⟩ := en_ok hi hu
    have h9 := (hfs _ e1).2
    unfold sBy at h9
    rw [e2] at h9
    have e4 : gX Γ u i = (fs (enR u i)).1 := gxN_a hu
    have e5 : gX Γ (u + 3) i = (fs (enR u i)).2 := gxN_d hu
    rw [e4, e5]
    exact h9
  · exact va_Zof (hts _ (st_words _ (by simp))) (hts _ (st_words _ (by simp))) (va_eqi (hgv _ (st_narrow _ (by simp)))) hA
  · exact va_Zqof (hts _ (st_words _ (by simp))) (hts _ (st_words _ (by simp))) (hgv _ (st_narrow _ (by simp))) hA
  · exact vx_Zqof (hts _ (st_words _ (by simp))) (hts _ (st_words _ (by simp))) (hgv _ (st_narrow _ (by simp))) hA
  · exact vx_Zqof (hts _ (st_words _ (by simp))) (hts _ (st_words _ (by simp))) (hgv _ (st_narrow _ (by simp))) hA
  · exact va_Nw.of rfl (hts _ (st_words _ (by simp)))
  · have h9 := List.all_eq_true.mp (List.all_eq_true.mp st_nc0 x (List.mem_range.mpr hx4)) y (List.mem_range.mpr hy4)
    rw [Bool.or_eq_true] at h9
    rcases h9 with h9 | h9
    · exact absurd (Nat.eq_of_beq_eq_true h9) hxy
    · exact va_Nc.of (hgv _ (of_decide_eq_true h9))
  · exact va_Nw.of rfl (hts _ (of_decide_eq_true (List.all_eq_true.mp st_cast0 x (List.mem_range.mpr hx4))))
  · exact va_Nw.of rfl (hts _ (st_decl y hy))
theorem mo_Wd {Γ : GG} {s : State} (hB : gB Γ = s.heap.size) : Wd Γ (mo 0 In0 Jn0 Rn) s.heap := by
  refine ⟨fun k q h => ?_, ⟨fun i j x y h => ?_, fun k q h => ?_⟩, by omega, fun k hk => ?_, fun t i j a ha => ?_, fun k _ t i _ j => ⟨rfl, rfl, rfl⟩⟩
  · exact absurd (List.mem_of_getElem? h) List.not_mem_nil
  · exact absurd (List.mem_of_getElem? h) List.not_mem_nil
  · exact absurd (List.mem_of_getElem? h) List.not_mem_nil
  · have hk : some 0 = some k := hk
    cases hk
    exact ⟨hB.symm, Nat.zero_le _⟩
  · exact absurd (ha.2 0 rfl) (Nat.not_lt_zero _)
/-- from the entry, for every script of at most 3072 ints, the law comes to its end with true -/
theorem whole_start {p : Program} {e : Env} {s : State} {m : MethodId} {below : List Frame} {meth : Method} {c : Code} (l : Launch) (hst : l.stackTraces = false) {b L : Nat} {xs : Nat → Int32} (hL : L ≤ 3072) (C0 : lw_At p s m meth c b L xs) : W p l e room_1 s m #[Value.ref b] below meth c s.heap [] 0 0 (lw_Z below #[Value.ref b] s) (entryFrame m ([Value.ref b] : List Value).toArray 8) := by
  obtain ⟨Γ, F, hl9, hB, hX9, hN9⟩ := lw_fx l hst C0
  obtain ⟨hx, hb, hr, hml, hown, hts, hX, hbl, hlocks, hgv0, het, hnm⟩ := C0
  have hl := lv_entry ([.ref b]) (n := 8) (Nat.le_of_ble_eq_true rfl)
  rw [lg_entry_eq]
  have g := law_whole (Γ := Γ) (Q := fun _ _ => True) hL hN9 (some 0) p e s m #[Value.ref b] below meth c s.heap [] _ (leN_refl _) ⟨hx, hb, hml, hr, hown, fun w hw => hts w (List.mem_filter.mp hw).1, hlocks, ⟨het, hnm⟩, F⟩ (by
    have e9 : toL Γ [(0, vr 201 0)] = lv_args 0 [Value.ref b] := by
      show [(0, Value.ref (adr Γ 201 0))] = [(0, Value.ref b)]
      have : adr Γ 201 0 = b := hX9
      rw [this]
    rw [e9]
    exact hl) (mo_Wd hB) va_S.rf (fun q hq => by
    have : q = (0, vr 201 0) := List.mem_singleton.mp hq
    rw [this]
    exact fun h => absurd h (by decide)) (fun q hq => by cases hq) (fun _ => hB.symm)
  rw [hl9] at g
  exact g
set_option maxHeartbeats 4000000 in
theorem lw_walk (l : Launch) (hst : l.stackTraces = false) (b : Addr) (xs : List Int32) : MetFree l x (headSpec (Jvm.Cond.code x code maxLocals ret :: tables_1) room_1) (lw_P b xs) (fun _ _ _ _ _ => True) lw_Q := by
  refine MetFree.of_bodyS (code := code) (maxLocals := maxLocals) (ret := ret) (by decide) ?_ ?_
  · intro args s m h hn
    obtain ⟨meth, c, h1, h2, h3, h4, h5, h6, -, -⟩ := Cond.code_spec hn (atoms_spec (ws := Jvm.Cond.code x code maxLocals ret :: tables_1) h _ List.mem_cons_self)
    exact ⟨meth, c, h1, h2, h3, h4, h5, h6⟩
  · intro p e s m args below meth c s₁ B hml0 hP _
    obtain ⟨rfl, hx, hbd, hgv⟩ := hP
    obtain ⟨scr, harrAt, hlist, hof, hsmall⟩ := hx
    obtain ⟨hcb, hkn, -, -⟩ := State.arrayAt?_spec harrAt
    have hown : s.vm.findClass R_law = some m.cls := findClass_of_methodNamed B.named
    have hts0 : ∀ c ∈ (Jvm.Cond.code x code maxLocals ret :: tables_1), c.before #[Value.ref b] s = true := atoms_spec (ws := Jvm.Cond.code x code maxLocals ret :: tables_1) B.pre
    have hts : ∀ w ∈ lw_tbl, w.before #[Value.ref b] s = true := k2_hts_sels lw_privs (fun w hw => hts0 w (List.mem_cons_of_mem _ hw)) lw_privs_ok
    have het : c.exceptionTable.toList = [] := by
      obtain ⟨meth9, c9, h1, h2, -, -, -, -, h7, -⟩ := Cond.code_spec B.named (hts0 _ List.mem_cons_self)
      cases Option.some.inj (h1.symm.trans B.method)
      cases Option.some.inj (h2.symm.trans (Stand.of_body B).code)
      rw [Array.isEmpty_iff.mp h7]
    have hml : c.maxLocals = 8 := B.maxLocals_eq (hts0 _ List.mem_cons_self)
    have X₀ : Stand p l e room_1 s m #[Value.ref b] below meth c s₁ [] 0 0 := Stand.of_body B
    have hh0 : s₁.heap = s.heap := by rw [B.state]; rfl
    have hsz : scr.slots.size = xs.length := by rw [← Array.length_toList, hlist, List.length_map]
    have hval : ∀ j : Nat, j < xs.length → scr.slots[j]? = some (.int (xs.getD j 0)) := fun j hj => by
      rw [← Array.getElem?_toList, hlist]
      simp [hj]
    have hbl : b < s.heap.size := (Array.getElem?_eq_some_iff.mp hcb).1
    have hX : va_X b xs.length (fun j => xs.getD j 0) s s.heap := ⟨scr, hcb, hof, hkn, hsz, hval⟩
    have K : W p l e room_1 s m #[Value.ref b] below meth c s₁.heap [] 0 0 (lw_Z below #[Value.ref b] s) (entryFrame m ([Value.ref b] : List Value).toArray 8) := by
      rw [hh0]
      exact whole_start l hst hbd ⟨B.exec, B.bytes, B.returns, hml, hown, hts, hX, hbl, B.notSynchronized, hgv, het, (name_of_methodNamed B.named B.method).1⟩
    obtain ⟨t, a1, o, b1, b2, b3⟩ := K s₁ rfl X₀
    exact ⟨t, o, a1, b1, b2, b3⟩
theorem lw_pre_spec {args : Array Value} {s : State} (h : (Jvm.Cond.and given_1 narrow_1).before args s = true) (hr : rest_1_c.before args s = true) : ∃ (b : Addr) (xs : List Int32), lw_P b xs args s := by
  have hs := flat_of_before _ h
  have hq := flat_of_before _ hr
  have hc : (Cond.count 1).before args s = true := hs _ (by decide +kernel)
  have harr : (Cond.arrayOf (.arg 0) .int).before args s = true := hs _ (by decide +kernel)
  have hle : (Cond.le (.length (.arg 0)) (.int 3072)).before args s = true := hs _ (by decide +kernel)
  have hlen : (Cond.isInt (.length (.arg 0))).before args s = true := hq _ (by decide +kernel)
  have hall : (Cond.all (.arg 0) (.isInt (.elem (.arg 0) (.index 0)))).before args s = true := hq _ (by decide +kernel)
  obtain ⟨b, xs, hb, hx⟩ := State.ints_of_pre rfl harr hlen hall
  have hsm : xs.length < 2 ^ 31 := hx.choose_spec.2.2.2
  have hev : (Term.length (.arg 0)).eval args s none [] s = some (.int xs.length.toInt32) := hx.length_eval hb
  have hv := Cond.le_ints hev (show (Term.int 3072).eval args s none [] s = some (.int 3072) from rfl)
  have hd : xs.length.toInt32 ≤ 3072 := by
    simpa [Cond.before, Cond.holds, hv] using hle
  have hN : xs.length ≤ 3072 := (Int32.ofNat_le_ofNat hsm (by decide)).mp (show Int32.ofNat xs.length ≤ Int32.ofNat 3072 from hd)
  exact ⟨b, xs, Cond.one_arg hc (show args[0]? = some (.ref b) from hb), hx, hN, h⟩
theorem lw_comes (l : Launch) (hst : l.stackTraces = false) : Comes l x (Jvm.Cond.code x code maxLocals ret :: tables_1) room_1 (fun tb e args s => Calls_1 tb e args s ∧ rest_1 tb e args s ∧ Pre_1 tb e args s)
    (fun _ _ args s o t => lw_Q args s o t) := by
  intro p e ha hc hk s m args below hf hfit hheap happ hpre
  obtain ⟨b, xs, hP⟩ := lw_pre_spec hpre.2.2 hpre.2.1
  obtain ⟨k, o, h1, h2, h3, hQ⟩ := lw_walk l hst b xs p e ha hc hk s m args below hf ((Spec.applies_iff_loose hf).mp happ).1 hP trivial
  exact ⟨k, o, h1, h2, h3, hQ⟩
theorem lw_frame {s t : State} {o : Outcome} {args : Array Value} (h : Framed s o t [] 601024 7293034) :
    Framed s o t (fieldLocs frame_1_writes args s ++ arrayLocs frame_1_arrays args s ++ staticLocs frame_1_statics s) 601024 7293034 := h
theorem lw_limb (L : Cond) (hL : ∀ (args : Array Value) (s t : State), L.after args s (.returned (some (.int 1))) t = true) :
    ArmFor flags0 classFile x code maxLocals ret World_1 tables_1 room_1 Calls_1 rest_1 Pre_1
      (fun tb e a s o t => postC L tb e a s o t ∧ Framed s o t (fieldLocs frame_1_writes a s ++ arrayLocs frame_1_arrays a s ++ staticLocs frame_1_statics s) 601024 7293034) := by
  intro l hfl _ _ p e ha hc hk s m args below hf hfit hheap happ hpre
  have hst : l.stackTraces = false := by
    unfold Launch.stackTraces
    rw [hfl]
    decide +kernel
  obtain ⟨k, o, h1, h2, h3, rfl, hF⟩ := lw_comes l hst p e ha hc hk s m args below hf hfit hheap happ hpre
  exact ⟨k, _, h1, h2, h3, hL args s _, lw_frame hF⟩
theorem i_vc : Claimed_1_1 ∧ Claimed_1_2 := ⟨lw_limb limb_1_1 (fun args s t => by simp [limb_1_1, Cond.after, Cond.holds, Cond.value]), lw_limb limb_1_2 (fun args s t => Cond.after_iff.mpr (by
  first | (rw [show limb_1_2 = Cond.eq .result (.int 1) from rfl, Cond.eq_ints (x := 1) (y := 1) rfl rfl]; simp; done) | (simp [limb_1_2, Cond.value, Term.eval]; done)))⟩
