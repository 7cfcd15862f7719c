/-! What holds at the law's start. -/
def nrw : List Cond := flatC (Jvm.Cond.and given_1 narrow_1)
def stE : List ((Nat × Nat) × (Nat × Nat)) := [((6, 81), (2, 55)), ((6, 91), (19, 90)), ((6, 111), (25, 115)), ((6, 118), (16, 143)), ((6, 123), (20, 189)), ((6, 125), (1, 212)), ((6, 130), (18, 247)), ((3, 57), (8, 272)), ((3, 72), (7, 278)), ((3, 74), (9, 284)), ((3, 76), (15, 292)), ((3, 78), (27, 300)), ((3, 80), (4, 308)), ((6, 192), (21, 317)), ((6, 304), (17, 345)), ((5, 39), (14, 366)), ((5, 41), (6, 375)), ((5, 43), (26, 385)), ((1, 72), (10, 394)), ((6, 165), (11, 402)), ((6, 186), (3, 423)), ((6, 216), (0, 454)), ((6, 218), (22, 485)), ((6, 229), (23, 524)), ((6, 246), (5, 550)), ((6, 250), (13, 580)), ((6, 255), (24, 601)), ((6, 261), (12, 627)), ((7, 256), (7, 650)), ((7, 258), (9, 657)), ((7, 260), (15, 666)), ((7, 262), (27, 675)), ((7, 264), (4, 684)), ((7, 266), (8, 694)), ((7, 268), (14, 701)), ((7, 270), (6, 711)), ((7, 272), (26, 722)), ((7, 274), (10, 732))]
def sTm (q : (Nat × Nat) × (Nat × Nat)) : Term := .string (ownN q.1.1) q.1.2
def sVl (q : (Nat × Nat) × (Nat × Nat)) : Term := .field (sTm q) "java/lang/String" "value" "[B"
def sBy (q : (Nat × Nat) × (Nat × Nat)) : List Int32 := strB.getD q.2.1 []
def sWd (q : (Nat × Nat) × (Nat × Nat)) : List Cond := [.exactly (sTm q) "java/lang/String", .eq (.field (sTm q) "java/lang/String" "coder" "B") (.int 0), .arrayOf (sVl q) .byte, .eq (.length (sVl q)) (.int (Int32.ofNat (sBy q).length))] ++ (List.range (sBy q).length).map (fun j => .eq (.elem (sVl q) (.int (Int32.ofNat j))) (.int ((sBy q).getD j 0)))
theorem st_ok : stE.all (fun q => decide (sWd q = (nrw.drop q.2.2).take (4 + (sBy q).length)) && (decide (Cond.stringRef (ownN q.1.1) q.1.2 (strL.getD q.2.1 "") ∈ lw_tbl) && Nat.ble (sBy q).length 100)) = true := by decide +kernel
theorem st_in {q : (Nat × Nat) × (Nat × Nat)} (hq : q ∈ stE) : (∀ w ∈ sWd q, w ∈ nrw) ∧ Cond.stringRef (ownN q.1.1) q.1.2 (strL.getD q.2.1 "") ∈ lw_tbl ∧ (sBy q).length ≤ 100 := by
  have h := List.all_eq_true.mp st_ok q hq
  simp only [Bool.and_eq_true, decide_eq_true_eq] at h
  refine ⟨fun w hw => ?_, h.2.1, Nat.le_of_ble_eq_true h.2.2⟩
  rw [h.1] at hw
  exact List.mem_of_mem_drop (List.mem_of_mem_take hw)
theorem va_OFof {args : Array Value} {s : State} {t : Term} {a : Nat} {o n d : String} {v : Value} {A : Nat → Prop} (ht : t.eval args s none [] s = some (.ref a)) (hv : (Term.field t o n d).eval args s none [] s = some v) (hA : ∀ a : Nat, a < s.heap.size → ¬ A a) : va_OF o n d v a A s s.heap := by
  cases hfo : s.fieldFound? o n d with
  | none =>
    rw [va_fe ht] at hv
    simp [State.fieldOf?, State.fieldNamed?, hfo] at hv
  | some x =>
    obtain ⟨cf, k, fi, f⟩ := x
    obtain ⟨g1, cell, g2, g3, -, -, g6⟩ := Term.field_spec hfo ht hv
    exact ⟨cf, k, fi, f, cell, hfo, g1, g2, g3, g6, hA _ (Array.getElem?_eq_some_iff.mp g2).1⟩
def stP (q : (Nat × Nat) × (Nat × Nat)) (A : Nat → Prop) (s : State) (r : Nat × Nat) : Prop := vk_R (ownN q.1.1) q.1.2 (strL.getD q.2.1 "") r.1 s ∧ va_O "java/lang/String" r.1 A s s.heap ∧ va_OF "java/lang/String" "coder" "B" (.int 0) r.1 A s s.heap ∧ va_OF "java/lang/String" "value" "[B" (.ref r.2) r.1 A s s.heap ∧ va_T .byte r.2 (sBy q).length (fun j => .int ((sBy q).getD j 0)) A s s.heap
theorem st_at {args : Array Value} {s : State} {A : Nat → Prop} (hgv : ∀ w ∈ nrw, w.before args s = true) (hts : ∀ w ∈ lw_tbl, w.before args s = true) (hA : ∀ a : Nat, a < s.heap.size → ¬ A a) {q : (Nat × Nat) × (Nat × Nat)} (hq : q ∈ stE) : ∃ r : Nat × Nat, stP q A s r := by
  obtain ⟨w1, w2, w3⟩ := st_in hq
  have hex : (Cond.exactly (sTm q) "java/lang/String").before args s = true := hgv _ (w1 _ (List.mem_append_left _ (by simp)))
  obtain ⟨a2, c, cA, kA, q1, q2, q3, q4, q5, q6, -⟩ := Cond.exactly_spec (args := args) (first := s) (o := none) (s := s) (idx := []) (t := sTm q) (cls := "java/lang/String") hex
  have hcod := va_eqt (hgv (.eq (.field (sTm q) "java/lang/String" "coder" "B") (.int 0)) (w1 _ (List.mem_append_left _ (by simp))))
  obtain ⟨d, hd, hT⟩ := va_Tof (args := args) (s := s) (tm := sVl q) (ty := .byte) (N := (sBy q).length) (f := fun j => .int ((sBy q).getD j 0)) (A := A) (by omega) (hgv (.arrayOf (sVl q) .byte) (w1 _ (List.mem_append_left _ (by simp)))) (va_eqt (hgv (.eq (.length (sVl q)) (.int (Int32.ofNat (sBy q).length))) (w1 _ (List.mem_append_left _ (by simp))))) (fun j hj => va_eqt (hgv _ (w1 _ (List.mem_append_right _ (List.mem_map.mpr ⟨j, List.mem_range.mpr hj, rfl⟩))))) hA
  exact ⟨(a2, d), vk_R.of (hts _ w2) q1, va_Oof hex q1 hA, va_OFof q1 hcod hA, va_OFof q1 hd hA, hT⟩
def enR (u i : Nat) : (Nat × Nat) × (Nat × Nat) := match stE.find? (fun q => Nat.beq q.2.1 i && (Nat.beq u 202 == Nat.beq q.1.1 7)) with
  | some q => q
  | none => match stE.find? (fun q => Nat.beq q.2.1 i && !Nat.beq q.1.1 7) with
    | some q => q
    | none => ((0, 0), (0, 0))
theorem en_ok0 : (List.range 28).all (fun i => [200, 202].all (fun u => decide (enR u i ∈ stE) && Nat.beq (enR u i).2.1 i)) = true := by decide +kernel
theorem en_ok {u i : Nat} (hi : i < 28) (hu : u = 200 ∨ u = 202) : enR u i ∈ stE ∧ (enR u i).2.1 = i := by
  have h := List.all_eq_true.mp (List.all_eq_true.mp en_ok0 i (List.mem_range.mpr hi)) u (by rcases hu with rfl | rfl <;> simp)
  simp only [Bool.and_eq_true, decide_eq_true_eq] at h
  exact ⟨h.1, Nat.eq_of_beq_eq_true h.2⟩
theorem en_ldc0 : ldcL.all (fun q => !Nat.beq q.2.1 33 || (decide ((enR (sT q.1.1) q.2.2.2).1 = q.1) && (decide (enR (sT q.1.1) q.2.2.2 ∈ stE) && Nat.beq (enR (sT q.1.1) q.2.2.2).2.1 q.2.2.2))) = true := by decide +kernel
theorem en_ldc {q : (Nat × Nat) × (Nat × Int × Nat)} (hq : q ∈ ldcL) (h33 : q.2.1 = 33) : (enR (sT q.1.1) q.2.2.2).1 = q.1 ∧ enR (sT q.1.1) q.2.2.2 ∈ stE ∧ (enR (sT q.1.1) q.2.2.2).2.1 = q.2.2.2 := by
  have h := List.all_eq_true.mp en_ldc0 q hq
  rw [h33] at h
  have h : (decide ((enR (sT q.1.1) q.2.2.2).1 = q.1) && (decide (enR (sT q.1.1) q.2.2.2 ∈ stE) && Nat.beq (enR (sT q.1.1) q.2.2.2).2.1 q.2.2.2)) = true := h
  simp only [Bool.and_eq_true, decide_eq_true_eq] at h
  exact ⟨h.1, h.2.1, Nat.eq_of_beq_eq_true h.2.2⟩
theorem sT_two (ow : Nat) : sT ow = 200 ∨ sT ow = 202 := by
  unfold sT
  cases Nat.beq ow 7
  · exact Or.inl rfl
  · exact Or.inr rfl
theorem cls_inst0 : (List.range 8).all (fun c => decide (Cond.instantiable (clsR c) (nFld c) ∈ lw_tbl)) = true := by decide +kernel
theorem cls_inst {c : Nat} (h : c < 8) : Cond.instantiable (clsR c) (nFld c) ∈ lw_tbl := of_decide_eq_true (List.all_eq_true.mp cls_inst0 c (List.mem_range.mpr h))
theorem st_words : ∀ w ∈ ([.laysStatic "java/lang/String" "COMPACT_STRINGS" "Z", .initialized "java/lang/String", .laysStatic "jdk/internal/util/Preconditions" "SIOOBE_FORMATTER" "Ljava/util/function/BiFunction;", .initialized "jdk/internal/util/Preconditions", .laysStatic Bundle.tN "UNASSIGNED_STACK" Bundle.steD, .laysStatic Bundle.tN "SUPPRESSED_SENTINEL" Bundle.listD, .initialized Bundle.tN, .methodLinkNest RX6 40 yX4_init RX6, .arrayOver (.object RX4), .arrayOver (.object RX0), .arrayOver (.array .int)] : List Cond), w ∈ lw_tbl := by decide +kernel
theorem st_narrow : ∀ w ∈ ([.eq (.static "java/lang/String" "COMPACT_STRINGS" "Z") (.int 1), .isRef (.static "jdk/internal/util/Preconditions" "SIOOBE_FORMATTER" "Ljava/util/function/BiFunction;"), .isRef (.static Bundle.tN "UNASSIGNED_STACK" Bundle.steD), .isRef (.static Bundle.tN "SUPPRESSED_SENTINEL" Bundle.listD)] : List Cond), w ∈ nrw := by decide +kernel
theorem st_nc0 : (List.range 4).all (fun x => (List.range 4).all (fun y => Nat.beq x y || decide (Cond.not (.castable (excN x) (excN y)) ∈ nrw))) = true := by decide +kernel
theorem st_cast0 : (List.range 4).all (fun x => decide (Cond.castable (excN x) (excN x) ∈ lw_tbl)) = true := by decide +kernel
theorem st_decl : ∀ y ∈ ["java/lang/RuntimeException", "java/lang/Exception", "java/lang/Throwable"], Cond.declares (Bundle.initS y) ∈ lw_tbl := by decide +kernel
