/-! What the small machine's words mean on the real one: 'Go'. -/
abbrev GG : Type := Launch × va_G × (Nat → ClassId) × Nat × (Nat → Nat → Nat) × Nat × (Nat → Int32)
def gL (Γ : GG) : Launch := Γ.1
def gD (Γ : GG) : va_G := Γ.2.1
def gC (Γ : GG) : Nat → ClassId := Γ.2.2.1
def gB (Γ : GG) : Nat := Γ.2.2.2.1
def gX (Γ : GG) : Nat → Nat → Nat := Γ.2.2.2.2.1
def gN (Γ : GG) : Nat := Γ.2.2.2.2.2.1
def gS (Γ : GG) : Nat → Int32 := Γ.2.2.2.2.2.2
def gA (Γ : GG) : Nat → Prop := fun q => gB Γ ≤ q
def adr (Γ : GG) (t i : Nat) : Nat := if t < 85 then gB Γ + ordT t i else gX Γ t i
def toV (Γ : GG) (v : MV) : Value := match v with
  | .inl x => x
  | .inr q => .ref (adr Γ q.1 q.2)
def toL (Γ : GG) (lv : LV) : List (Nat × Value) := lv.map (fun q => (q.1, toV Γ q.2))
def alive (σ : Mem) (t i : Nat) : Prop := i < cntT t ∧ ∀ k, σ.1 = some k → ordT t i < k
def okV (σ : Mem) (v : MV) : Prop := match v with
  | .inl x => ∀ a, x ≠ .ref a
  | .inr q => q.1 < 85 → alive σ q.1 q.2
def okS (σ : Mem) (st : List MV) : Prop := ∀ v ∈ st, okV σ v
def okL (σ : Mem) (lv : LV) : Prop := ∀ q ∈ lv, okV σ q.2
def refV (Γ : GG) (r : Option (Nat × Nat)) : Option Nat := r.map (fun z => adr Γ z.1 z.2)
def fldV (Γ : GG) (σ : Mem) (c : Nat) (q : Nat × Nat) (j : Nat) : Value := match ftT c j with
  | 0 => .int (mI σ q.1 q.2 j)
  | 1 => .long (mJ σ q.1 q.2 j)
  | _ => va_rf (refV Γ (mR σ q.1 q.2 j))
def cellE (Γ : GG) (σ : Mem) (q : Nat × Nat) : va_E :=
  if kdK q.1 < 8 then .inr (kdK q.1, (List.range (nFld (kdK q.1))).map (fldV Γ σ (kdK q.1) q))
  else if kdK q.1 = 12 then .inl (gC Γ 12, lenT q.1, .inr (.inl (mJ σ q.1 q.2)))
  else if kdK q.1 < 14 then .inl (gC Γ (kdK q.1), lenT q.1, .inl (mI σ q.1 q.2))
  else .inl (gC Γ (kdK q.1), lenT q.1, .inr (.inr (.inr (.inr (fun j => refV Γ (mR σ q.1 q.2 j))))))
def liveO (σ : Mem) : List (Nat × Nat) := match σ.1 with
  | some k => allO.take k
  | none => allO
def wsOf (Γ : GG) (σ : Mem) : va_W := (liveO σ).map (fun q => (adr Γ q.1 q.2, cellE Γ σ q))
def tysOf (Γ : GG) : List (ClassId × FieldType) := [(gC Γ 10, .int), (gC Γ 11, .byte), (gC Γ 12, .long), (gC Γ 13, .boolean), (gC Γ 14, .object RX4), (gC Γ 15, .object RX0), (gC Γ 16, .array .int)]
/-- the heap holds the memory -/
def Wd (Γ : GG) (σ : Mem) (H : Heap) : Prop := va_P (gD Γ) vwCl (wsOf Γ σ) H ∧ va_D (gA Γ) (wsOf Γ σ) ∧ gB Γ ≤ H.size ∧ (∀ k, σ.1 = some k → H.size = gB Γ + k ∧ k ≤ 283) ∧ (∀ t i j a, alive σ t i → mR σ t i j = some a → a.1 < 85 ∧ alive σ a.1 a.2) ∧ (∀ k, σ.1 = some k → ∀ t i, ¬ alive σ t i → ∀ j, mI σ t i j = 0 ∧ mJ σ t i j = 0 ∧ mR σ t i j = none)
/-- the texts' tags: the reference has entries of its own -/
def sT (ow : Nat) : Nat := bif Nat.beq ow 7 then 202 else 200
/-- what stays as it is from the law's start on -/
def Fx (Γ : GG) (s : State) : Prop :=
  va_K (gD Γ) vwCl (tysOf Γ) s ∧ gB Γ ≤ s.heap.size ∧ (va_X (gX Γ 201 0) (gN Γ) (gS Γ) s s.heap ∧ gX Γ 201 0 < gB Γ) ∧ (gL Γ).stackTraces = false ∧
  (∀ q ∈ ldcL, q.2.1 = 33 → vk_R (ownN q.1.1) q.1.2 (strL.getD q.2.2.2 "") (gX Γ (sT q.1.1) q.2.2.2) s) ∧
  (∀ i u, i < 28 → u = 200 ∨ u = 202 → va_O "java/lang/String" (gX Γ u i) (gA Γ) s s.heap ∧ va_OF "java/lang/String" "coder" "B" (.int 0) (gX Γ u i) (gA Γ) s s.heap ∧ va_OF "java/lang/String" "value" "[B" (.ref (gX Γ (u + 3) i)) (gX Γ u i) (gA Γ) s s.heap ∧ va_T .byte (gX Γ (u + 3) i) (strB.getD i []).length (fun j => .int ((strB.getD i []).getD j 0)) (gA Γ) s s.heap) ∧
  (va_Z "java/lang/String" "COMPACT_STRINGS" "Z" (.int 1) (gA Γ) s s.heap ∧ va_Zq "jdk/internal/util/Preconditions" "SIOOBE_FORMATTER" "Ljava/util/function/BiFunction;" (gA Γ) s s.heap) ∧
  vx_Zq Bundle.tN "UNASSIGNED_STACK" Bundle.steD (gA Γ) s s.heap ∧ vx_Zq Bundle.tN "SUPPRESSED_SENTINEL" Bundle.listD (gA Γ) s s.heap ∧
  va_Nw (.methodLinkNest RX6 40 yX4_init RX6) s ∧ va_AO RX4 s ∧ va_AO RX0 s ∧ va_AOA .int s ∧
  (∀ x y, x < 4 → y < 4 → x ≠ y → va_Nc (excN x) (excN y) s) ∧ (∀ x, x < 4 → va_Nw (.castable (excN x) (excN x)) s) ∧ (∀ y ∈ ["java/lang/RuntimeException", "java/lang/Exception", "java/lang/Throwable"], va_Nw (.declares (Bundle.initS y)) s)
def mRm (mi : Nat) : Room := { frames := mFr mi, cells := mMc mi, slots := mMs mi, locals := mLo mi }
/-- the method that runs -/
def MC (Γ : GG) (mi : Nat) (p : Program) (s : State) (m : MethodId) (args : Array Value) (meth : Method) (c : Code) : Prop :=
  p.tables.exec = Jvm.exec ∧ c.code = mCode mi ∧ c.maxLocals = mMaxL mi ∧ meth.sig.returnType = mRet mi ∧ s.vm.findClass (mOwn mi) = some m.cls ∧ (∀ w ∈ wG, w.before args s = true) ∧ meth.locks = false ∧ (c.exceptionTable.toList = tableOf (mHh mi) ∧ meth.name = (mName mi).name) ∧ Fx Γ s
def leN (a b : Option Nat) : Prop := ∀ k, b = some k → ∃ j, a = some j ∧ j ≤ k
def QcOf (Γ : GG) (n0 : Option Nat) (Q : Out → Mem → Prop) : Array Value → State → Outcome → State → Prop := fun _ st o t =>
  ∃ (v : Option MV) (σ : Mem), o = .returned (v.map (toV Γ)) ∧ Q (.inl v) σ ∧ Wd Γ σ t.heap ∧ (∀ w, v = some w → okV σ w) ∧ leN n0 σ.1 ∧ va_F (gA Γ) st t
def XcOf (Γ : GG) (n0 : Option Nat) (Q : Out → Mem → Prop) : String → State → State → Prop := fun E st t =>
  ∃ (x : Nat) (σ : Mem), x < 4 ∧ E = excN x ∧ Q (.inr x) σ ∧ Wd Γ σ t.heap ∧ leN n0 σ.1 ∧ va_F (gA Γ) st t
def lw_Q (_ : Array Value) (s : State) (o : Outcome) (t : State) : Prop := o = .returned (some (.int 1)) ∧ Framed s o t [] 601024 7293034
def lw_Z (below : List Frame) (a : Array Value) (s : State) : State → Prop := fun t => ∃ o, t.status = .running ∧ Ended t below o ∧ lw_Q a s o t
def ZOf (Γ : GG) (n0 : Option Nat) (mi : Nat) (Q : Out → Mem → Prop) (below : List Frame) (args : Array Value) (s : State) : State → Prop :=
  if mi = 162 then lw_Z below args s else vx_MQ below (QcOf Γ n0 Q) (XcOf Γ n0 Q) args s (mMc mi) (mMs mi) (gA Γ)
/-- from this point of the method mi the machine comes to an end with Q -/
def Go (Γ : GG) (mi pc : Nat) (lv : LV) (st : List MV) (σ : Mem) (cnt : Nat × Nat) (Q : Out → Mem → Prop) : Prop :=
  ∀ (n0 : Option Nat) (p : Program) (e : Env) (s : State) (m : MethodId) (args : Array Value) (below : List Frame) (meth : Method) (c : Code) (H : Heap) (locs : List Loc) (ls : Array Slot),
    leN n0 σ.1 → MC Γ mi p s m args meth c → lv_has ls (mMaxL mi) (toL Γ lv) → Wd Γ σ H → va_S (gA Γ) s.heap H locs → okL σ lv → okS σ st → (mi = 162 → s.heap.size = gB Γ) →
    W p (gL Γ) e (mRm mi) s m args below meth c H locs cnt.1 cnt.2 (ZOf Γ n0 mi Q below args s) (F0 m pc ls (st.map (toV Γ)))
def argL : Nat → List MV → LV
  | _, [] => []
  | i, v :: l => (i, v) :: argL (i + catV v) l
/-- the method mi, called with as -/
def Gm (Γ : GG) (mi : Nat) (as : List MV) (σ : Mem) (Q : Out → Mem → Prop) : Prop := Go Γ mi 0 (argL 0 as) [] σ (0, 0) Q
theorem okS_tl {σ : Mem} {v : MV} {st : List MV} (h : okS σ (v :: st)) : okS σ st := fun w hw => h w (List.mem_cons_of_mem _ hw)
theorem okS_hd {σ : Mem} {v : MV} {st : List MV} (h : okS σ (v :: st)) : okV σ v := h v List.mem_cons_self
theorem okS_cons {σ : Mem} {v : MV} {st : List MV} (hv : okV σ v) (h : okS σ st) : okS σ (v :: st) := fun w hw => by
  rcases List.mem_cons.mp hw with rfl | hw
  · exact hv
  · exact h w hw
theorem okV_int {σ : Mem} {x : Int32} : okV σ (.inl (.int x)) := fun a h => by cases h
theorem okV_long {σ : Mem} {x : Int64} : okV σ (.inl (.long x)) := fun a h => by cases h
theorem catV_eq (Γ : GG) (v : MV) : (toV Γ v).category = catV v := by
  rcases v with v | q
  · cases v <;> rfl
  · rfl
theorem getL_mem : ∀ {lv : LV} {i : Nat} {v : MV}, getL lv i = some v → (i, v) ∈ lv
  | [], _, _, h => by cases h
  | q :: l, i, v, h => by
    unfold getL at h
    cases hb : Nat.beq q.1 i with
    | true =>
      rw [hb] at h
      have h : some q.2 = some v := h
      cases h
      have e := Nat.eq_of_beq_eq_true hb
      rw [← e]
      exact List.mem_cons_self
    | false =>
      rw [hb] at h
      exact List.mem_cons_of_mem _ (getL_mem h)
theorem getL_has {Γ : GG} {ls : Array Slot} {nL : Nat} {lv : LV} (hl : lv_has ls nL (toL Γ lv)) {i : Nat} {v : MV} (h : getL lv i = some v) : ls[i]? = some (.val (toV Γ v)) :=
  hl.2.2 (i, toV Γ v) (List.mem_map.mpr ⟨(i, v), getL_mem h, rfl⟩)
theorem bool_beq (a b : Nat) : (a == b) = Nat.beq a b := by
  cases hb : Nat.beq a b with
  | true => rw [Nat.eq_of_beq_eq_true hb]; exact beq_self_eq_true b
  | false => exact beq_eq_false_iff_ne.mpr (Nat.ne_of_beq_eq_false hb)
theorem dropL_eq (Γ : GG) (i : Nat) : ∀ lv : LV, (toL Γ lv).filter (fun q => !(q.1 == i) && !(q.1 + 1 == i && q.2.category == 2)) = toL Γ (dropL lv i)
  | [] => rfl
  | q :: l => by
    have ih := dropL_eq Γ i l
    unfold toL at ih ⊢
    unfold dropL
    rw [List.map_cons, List.filter_cons, ih]
    simp only [catV_eq, bool_beq]
    cases Nat.beq q.1 i <;> cases Nat.beq (q.1 + 1) i <;> cases Nat.beq (catV q.2) 2 <;> rfl
theorem dropL2_eq (Γ : GG) (i : Nat) : ∀ lv : LV, (toL Γ lv).filter (fun q => !(q.1 == i) && (!(q.1 == i + 1) && !(q.1 + 1 == i && q.2.category == 2))) = toL Γ (dropL2 lv i)
  | [] => rfl
  | q :: l => by
    have ih := dropL2_eq Γ i l
    unfold toL at ih ⊢
    unfold dropL2
    rw [List.map_cons, List.filter_cons, ih]
    simp only [catV_eq, bool_beq]
    cases Nat.beq q.1 i <;> cases Nat.beq q.1 (i + 1) <;> cases Nat.beq (q.1 + 1) i <;> cases Nat.beq (catV q.2) 2 <;> rfl
theorem dropL_sub (i : Nat) : ∀ (lv : LV), ∀ q ∈ dropL lv i, q ∈ lv
  | [], q, h => h
  | a :: l, q, h => by
    unfold dropL at h
    cases hb : (Nat.beq a.1 i || (Nat.beq (a.1 + 1) i && Nat.beq (catV a.2) 2)) with
    | true => rw [hb] at h; exact List.mem_cons_of_mem _ (dropL_sub i l q h)
    | false =>
      rw [hb] at h
      have h : q ∈ a :: dropL l i := h
      rcases List.mem_cons.mp h with rfl | h
      · exact List.mem_cons_self
      · exact List.mem_cons_of_mem _ (dropL_sub i l q h)
theorem dropL2_sub (i : Nat) : ∀ (lv : LV), ∀ q ∈ dropL2 lv i, q ∈ lv
  | [], q, h => h
  | a :: l, q, h => by
    unfold dropL2 at h
    cases hb : (Nat.beq a.1 i || (Nat.beq a.1 (i + 1) || (Nat.beq (a.1 + 1) i && Nat.beq (catV a.2) 2))) with
    | true => rw [hb] at h; exact List.mem_cons_of_mem _ (dropL2_sub i l q h)
    | false =>
      rw [hb] at h
      have h : q ∈ a :: dropL2 l i := h
      rcases List.mem_cons.mp h with rfl | h
      · exact List.mem_cons_self
      · exact List.mem_cons_of_mem _ (dropL2_sub i l q h)
theorem okL_set {σ : Mem} {lv : LV} {i : Nat} {v : MV} (h : okL σ lv) (hv : okV σ v) : okL σ ((i, v) :: dropL lv i) := fun q hq => by
  rcases List.mem_cons.mp hq with rfl | hq
  · exact hv
  · exact h q (dropL_sub i lv q hq)
theorem okL_set2 {σ : Mem} {lv : LV} {i : Nat} {v : MV} (h : okL σ lv) (hv : okV σ v) : okL σ ((i, v) :: dropL2 lv i) := fun q hq => by
  rcases List.mem_cons.mp hq with rfl | hq
  · exact hv
  · exact h q (dropL2_sub i lv q hq)
theorem isTrue_spec {b : Bool} {p : Prop} (h : isTrue b p) : b = true ∧ p := by
  cases b with
  | true => exact ⟨rfl, h⟩
  | false => exact h.elim
