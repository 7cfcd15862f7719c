/-! The law's cases, walked: what is to be shown of each pair of calls stands free of the law's code. -/
theorem lc_self (x : Int64) : lg_cmp x x = 0 := by
  have h1 : ¬ lg_cmp x x < 0 := fun h => Int64.lt_irrefl (lc_lt.mp h)
  have h2 : ¬ 0 < lg_cmp x x := fun h => Int64.lt_irrefl (lc_gt.mp h)
  exact Int32.le_antisymm (Int32.not_lt.mp h2) (Int32.not_lt.mp h1)
/-- a call by a helper and its fellow in the reference, an int each -/
def PairI (Γ : GG) (hx mx : Nat) (as ms : List MV) (k : Nat) (M : MM) : Prop := ∀ Q' : Out → Mem → Prop, (∀ code M1, (∀ Q'' : Out → Mem → Prop, (∀ y M2, Jn (k + 1) M2 → M2.1 44 0 0 = code → (code = 0 → M2.2 84 0 0 = y.toInt64) → Q'' (rI y) (mk M2)) → Gm Γ mx ms (mk M1) Q'') → Q' (rI code) (mk M1)) → Gm Γ hx as (mk M) Q'
def PairZ (Γ : GG) (hx mx : Nat) (as ms : List MV) (k : Nat) (M : MM) : Prop := ∀ Q' : Out → Mem → Prop, (∀ code M1, (∀ Q'' : Out → Mem → Prop, (∀ y M2, Jn (k + 1) M2 → M2.1 44 0 0 = code → (code = 0 → M2.2 84 0 0 = if y = 0 then 0 else 1) → Q'' (rI y) (mk M2)) → Gm Γ mx ms (mk M1) Q'') → Q' (rI code) (mk M1)) → Gm Γ hx as (mk M) Q'
def PairJ (Γ : GG) (hx mx : Nat) (as ms : List MV) (k : Nat) (M : MM) : Prop := ∀ Q' : Out → Mem → Prop, (∀ code M1, (∀ Q'' : Out → Mem → Prop, (∀ y M2, Jn (k + 1) M2 → M2.1 44 0 0 = code → (code = 0 → M2.2 84 0 0 = y) → Q'' (rJ y) (mk M2)) → Gm Γ mx ms (mk M1) Q'') → Q' (rI code) (mk M1)) → Gm Γ hx as (mk M) Q'
/-- two calls with the same answer -/
def SameI (Γ : GG) (cx mx : Nat) (as ms : List MV) (k : Nat) (M : MM) : Prop := ∀ Q' : Out → Mem → Prop, (∀ y M1, (∀ Q'' : Out → Mem → Prop, (∀ M2, Jn (k + 1) M2 → Q'' (rI y) (mk M2)) → Gm Γ mx ms (mk M1) Q'') → Q' (rI y) (mk M1)) → Gm Γ cx as (mk M) Q'
def SameJ (Γ : GG) (cx mx : Nat) (as ms : List MV) (k : Nat) (M : MM) : Prop := ∀ Q' : Out → Mem → Prop, (∀ y M1, (∀ Q'' : Out → Mem → Prop, (∀ M2, Jn (k + 1) M2 → Q'' (rJ y) (mk M2)) → Gm Γ mx ms (mk M1) Q'') → Q' (rJ y) (mk M1)) → Gm Γ cx as (mk M) Q'
section CASE
variable {Γ : GG} {M : MM} {Q : Out → Mem → Prop} {k c1 c2 a b : Nat}
theorem tail_285 {code : Int32} {y : Int32} (hN : Nx Γ k c1 c2 Q) (ha : a ≤ c1 + 1) (hb : b ≤ c2 + 6) (ha2 : a ≤ 601024) (hb2 : b ≤ 7293034) (hJ : Jn (k + 1) M) (ht : M.1 44 0 0 = code) (ho : code = 0 → M.2 84 0 0 = y.toInt64) : Go Γ 162 285 ((5, vi code) :: lv0 k) [vi y] (mk M) (a, b) Q := by
  refine go_step [288] 60 ?_; intro G K hG hK
  refine hK _ _ _ _ _ (go_lcall (a := 0) (x := M_X7_thrown) (na := 1) (n := 291) (m1 := 0) (m2 := 0) (as := [vr 44 0]) (r := []) rfl (Or.inl rfl) rfl rfl rfl rfl ha2 hb2 (gm_thrown ?_))
  show Go Γ 162 291 _ [vi (M.1 44 0 0)] (mk M) (a, b) Q
  refine go_step [1275] 60 ?_; intro G K hG hK
  refine ⟨fun (g : M.1 44 0 0 = code) => ?_, fun (g : ¬ M.1 44 0 0 = code) => absurd ht g⟩
  refine ⟨fun (g : ¬ code = 0) => hK _ _ _ _ _ (go_bus (hN M a b hJ ha hb) ⟨rfl, rfl, rfl, rfl, rfl, trivial⟩), fun (g : ¬ ¬ code = 0) => ?_⟩
  have ho := ho (Decidable.not_not.mp g)
  refine ⟨vo1, ?_⟩
  refine ⟨fun _ => hK _ _ _ _ _ (go_bus (hN M a b hJ ha hb) ⟨rfl, rfl, rfl, rfl, rfl, trivial⟩), fun (g : ¬ lg_cmp (M.2 84 0 0) y.toInt64 = 0) => absurd (by rw [ho]; exact lc_self _) g⟩
theorem case_station (hS : Sc Γ k) (hN : Nx Γ k c1 c2 Q) (h1 : c1 + 1 ≤ 601024) (h2 : c2 + 6 ≤ 7293034) (hp : PairI Γ M_L_station M_X7_station [vr 0 0, vi (gS Γ (cl (nI (6 * k) + 1))), vi (gS Γ (cl (nI (6 * k) + 2))), vi (gS Γ (cl (nI (6 * k) + 3))), vi (gS Γ (cl (nI (6 * k) + 4))), vr 84 0] [vr 44 0, vi (gS Γ (cl (nI (6 * k) + 1))), vi (gS Γ (cl (nI (6 * k) + 2))), vi (gS Γ (cl (nI (6 * k) + 3))), vi (gS Γ (cl (nI (6 * k) + 4)))] k M) : Go Γ 162 226 (lv0 k) [] (mk M) (c1, c2) Q := by
  obtain ⟨s0, s1, s2, s3, s4, s5⟩ := hS
  refine go_step [252] 60 ?_; intro G K hG hK
  refine ⟨s1, s2, s3, s4, ?_⟩
  refine hK _ _ _ _ _ (go_lcall (a := 1) (x := M_L_station) (na := 6) (n := 255) (m1 := 1) (m2 := 6) (as := [vr 0 0, vi (gS Γ (cl (nI (6 * k) + 1))), vi (gS Γ (cl (nI (6 * k) + 2))), vi (gS Γ (cl (nI (6 * k) + 3))), vi (gS Γ (cl (nI (6 * k) + 4))), vr 84 0]) (r := []) rfl (Or.inr rfl) rfl rfl rfl rfl h1 h2 (hp _ (fun code M1 hm => ?_)))
  show Go Γ 162 255 _ [vi code] (mk M1) (c1 + 1, c2 + 6) Q
  refine go_step [282] 60 ?_; intro G K hG hK
  refine ⟨s1, s2, s3, s4, ?_⟩
  refine hK _ _ _ _ _ (go_lcall (a := 0) (x := M_X7_station) (na := 5) (n := 285) (m1 := 0) (m2 := 0) (as := [vr 44 0, vi (gS Γ (cl (nI (6 * k) + 1))), vi (gS Γ (cl (nI (6 * k) + 2))), vi (gS Γ (cl (nI (6 * k) + 3))), vi (gS Γ (cl (nI (6 * k) + 4)))]) (r := []) rfl (Or.inl rfl) rfl rfl rfl rfl h1 h2 (hm _ (fun y M2 hJ ht ho => ?_)))
  exact tail_285 hN (Nat.le_refl _) (Nat.le_refl _) h1 h2 hJ ht ho
theorem tail_365 {code : Int32} {y : Int32} (hN : Nx Γ k c1 c2 Q) (ha : a ≤ c1 + 1) (hb : b ≤ c2 + 6) (ha2 : a ≤ 601024) (hb2 : b ≤ 7293034) (hJ : Jn (k + 1) M) (ht : M.1 44 0 0 = code) (ho : code = 0 → M.2 84 0 0 = y.toInt64) : Go Γ 162 365 ((5, vi code) :: lv0 k) [vi y] (mk M) (a, b) Q := by
  refine go_step [368] 60 ?_; intro G K hG hK
  refine hK _ _ _ _ _ (go_lcall (a := 0) (x := M_X7_thrown) (na := 1) (n := 371) (m1 := 0) (m2 := 0) (as := [vr 44 0]) (r := []) rfl (Or.inl rfl) rfl rfl rfl rfl ha2 hb2 (gm_thrown ?_))
  show Go Γ 162 371 _ [vi (M.1 44 0 0)] (mk M) (a, b) Q
  refine go_step [1275] 60 ?_; intro G K hG hK
  refine ⟨fun (g : M.1 44 0 0 = code) => ?_, fun (g : ¬ M.1 44 0 0 = code) => absurd ht g⟩
  refine ⟨fun (g : ¬ code = 0) => hK _ _ _ _ _ (go_bus (hN M a b hJ ha hb) ⟨rfl, rfl, rfl, rfl, rfl, trivial⟩), fun (g : ¬ ¬ code = 0) => ?_⟩
  have ho := ho (Decidable.not_not.mp g)
  refine ⟨vo1, ?_⟩
  refine ⟨fun _ => hK _ _ _ _ _ (go_bus (hN M a b hJ ha hb) ⟨rfl, rfl, rfl, rfl, rfl, trivial⟩), fun (g : ¬ lg_cmp (M.2 84 0 0) y.toInt64 = 0) => absurd (by rw [ho]; exact lc_self _) g⟩
theorem case_stage (hS : Sc Γ k) (hN : Nx Γ k c1 c2 Q) (h1 : c1 + 1 ≤ 601024) (h2 : c2 + 6 ≤ 7293034) (hp : PairI Γ M_L_stage M_X7_stage [vr 0 0, vi (gS Γ (cl (nI (6 * k) + 1))), vi (gS Γ (cl (nI (6 * k) + 2))), vi (gS Γ (cl (nI (6 * k) + 3))), vr 84 0] [vr 44 0, vi (gS Γ (cl (nI (6 * k) + 1))), vi (gS Γ (cl (nI (6 * k) + 2))), vi (gS Γ (cl (nI (6 * k) + 3)))] k M) : Go Γ 162 318 (lv0 k) [] (mk M) (c1, c2) Q := by
  obtain ⟨s0, s1, s2, s3, s4, s5⟩ := hS
  refine go_step [338] 60 ?_; intro G K hG hK
  refine ⟨s1, s2, s3, ?_⟩
  refine hK _ _ _ _ _ (go_lcall (a := 1) (x := M_L_stage) (na := 5) (n := 341) (m1 := 1) (m2 := 6) (as := [vr 0 0, vi (gS Γ (cl (nI (6 * k) + 1))), vi (gS Γ (cl (nI (6 * k) + 2))), vi (gS Γ (cl (nI (6 * k) + 3))), vr 84 0]) (r := []) rfl (Or.inr rfl) rfl rfl rfl rfl h1 h2 (hp _ (fun code M1 hm => ?_)))
  show Go Γ 162 341 _ [vi code] (mk M1) (c1 + 1, c2 + 6) Q
  refine go_step [362] 60 ?_; intro G K hG hK
  refine ⟨s1, s2, s3, ?_⟩
  refine hK _ _ _ _ _ (go_lcall (a := 0) (x := M_X7_stage) (na := 4) (n := 365) (m1 := 0) (m2 := 0) (as := [vr 44 0, vi (gS Γ (cl (nI (6 * k) + 1))), vi (gS Γ (cl (nI (6 * k) + 2))), vi (gS Γ (cl (nI (6 * k) + 3)))]) (r := []) rfl (Or.inl rfl) rfl rfl rfl rfl h1 h2 (hm _ (fun y M2 hJ ht ho => ?_)))
  exact tail_365 hN (Nat.le_refl _) (Nat.le_refl _) h1 h2 hJ ht ho
theorem tail_445 {code : Int32} {y : Int32} (hN : Nx Γ k c1 c2 Q) (ha : a ≤ c1 + 1) (hb : b ≤ c2 + 6) (ha2 : a ≤ 601024) (hb2 : b ≤ 7293034) (hJ : Jn (k + 1) M) (ht : M.1 44 0 0 = code) (ho : code = 0 → M.2 84 0 0 = y.toInt64) : Go Γ 162 445 ((5, vi code) :: lv0 k) [vi y] (mk M) (a, b) Q := by
  refine go_step [448] 60 ?_; intro G K hG hK
  refine hK _ _ _ _ _ (go_lcall (a := 0) (x := M_X7_thrown) (na := 1) (n := 451) (m1 := 0) (m2 := 0) (as := [vr 44 0]) (r := []) rfl (Or.inl rfl) rfl rfl rfl rfl ha2 hb2 (gm_thrown ?_))
  show Go Γ 162 451 _ [vi (M.1 44 0 0)] (mk M) (a, b) Q
  refine go_step [1275] 60 ?_; intro G K hG hK
  refine ⟨fun (g : M.1 44 0 0 = code) => ?_, fun (g : ¬ M.1 44 0 0 = code) => absurd ht g⟩
  refine ⟨fun (g : ¬ code = 0) => hK _ _ _ _ _ (go_bus (hN M a b hJ ha hb) ⟨rfl, rfl, rfl, rfl, rfl, trivial⟩), fun (g : ¬ ¬ code = 0) => ?_⟩
  have ho := ho (Decidable.not_not.mp g)
  refine ⟨vo1, ?_⟩
  refine ⟨fun _ => hK _ _ _ _ _ (go_bus (hN M a b hJ ha hb) ⟨rfl, rfl, rfl, rfl, rfl, trivial⟩), fun (g : ¬ lg_cmp (M.2 84 0 0) y.toInt64 = 0) => absurd (by rw [ho]; exact lc_self _) g⟩
theorem case_caravan (hS : Sc Γ k) (hN : Nx Γ k c1 c2 Q) (h1 : c1 + 1 ≤ 601024) (h2 : c2 + 6 ≤ 7293034) (hp : PairI Γ M_L_caravan M_X7_caravan [vr 0 0, vi (gS Γ (cl (nI (6 * k) + 1))), vi (gS Γ (cl (nI (6 * k) + 2))), vi (gS Γ (cl (nI (6 * k) + 3))), vr 84 0] [vr 44 0, vi (gS Γ (cl (nI (6 * k) + 1))), vi (gS Γ (cl (nI (6 * k) + 2))), vi (gS Γ (cl (nI (6 * k) + 3)))] k M) : Go Γ 162 398 (lv0 k) [] (mk M) (c1, c2) Q := by
  obtain ⟨s0, s1, s2, s3, s4, s5⟩ := hS
  refine go_step [418] 60 ?_; intro G K hG hK
  refine ⟨s1, s2, s3, ?_⟩
  refine hK _ _ _ _ _ (go_lcall (a := 1) (x := M_L_caravan) (na := 5) (n := 421) (m1 := 1) (m2 := 6) (as := [vr 0 0, vi (gS Γ (cl (nI (6 * k) + 1))), vi (gS Γ (cl (nI (6 * k) + 2))), vi (gS Γ (cl (nI (6 * k) + 3))), vr 84 0]) (r := []) rfl (Or.inr rfl) rfl rfl rfl rfl h1 h2 (hp _ (fun code M1 hm => ?_)))
  show Go Γ 162 421 _ [vi code] (mk M1) (c1 + 1, c2 + 6) Q
  refine go_step [442] 60 ?_; intro G K hG hK
  refine ⟨s1, s2, s3, ?_⟩
  refine hK _ _ _ _ _ (go_lcall (a := 0) (x := M_X7_caravan) (na := 4) (n := 445) (m1 := 0) (m2 := 0) (as := [vr 44 0, vi (gS Γ (cl (nI (6 * k) + 1))), vi (gS Γ (cl (nI (6 * k) + 2))), vi (gS Γ (cl (nI (6 * k) + 3)))]) (r := []) rfl (Or.inl rfl) rfl rfl rfl rfl h1 h2 (hm _ (fun y M2 hJ ht ho => ?_)))
  exact tail_445 hN (Nat.le_refl _) (Nat.le_refl _) h1 h2 hJ ht ho
theorem tail_501 {code : Int32} {y : Int32} (hN : Nx Γ k c1 c2 Q) (ha : a ≤ c1 + 1) (hb : b ≤ c2 + 6) (ha2 : a ≤ 601024) (hb2 : b ≤ 7293034) (hJ : Jn (k + 1) M) (ht : M.1 44 0 0 = code) (ho : code = 0 → M.2 84 0 0 = y.toInt64) : Go Γ 162 501 ((5, vi code) :: lv0 k) [vi y] (mk M) (a, b) Q := by
  refine go_step [504] 60 ?_; intro G K hG hK
  refine hK _ _ _ _ _ (go_lcall (a := 0) (x := M_X7_thrown) (na := 1) (n := 507) (m1 := 0) (m2 := 0) (as := [vr 44 0]) (r := []) rfl (Or.inl rfl) rfl rfl rfl rfl ha2 hb2 (gm_thrown ?_))
  show Go Γ 162 507 _ [vi (M.1 44 0 0)] (mk M) (a, b) Q
  refine go_step [1275] 60 ?_; intro G K hG hK
  refine ⟨fun (g : M.1 44 0 0 = code) => ?_, fun (g : ¬ M.1 44 0 0 = code) => absurd ht g⟩
  refine ⟨fun (g : ¬ code = 0) => hK _ _ _ _ _ (go_bus (hN M a b hJ ha hb) ⟨rfl, rfl, rfl, rfl, rfl, trivial⟩), fun (g : ¬ ¬ code = 0) => ?_⟩
  have ho := ho (Decidable.not_not.mp g)
  refine ⟨vo1, ?_⟩
  refine ⟨fun _ => hK _ _ _ _ _ (go_bus (hN M a b hJ ha hb) ⟨rfl, rfl, rfl, rfl, rfl, trivial⟩), fun (g : ¬ lg_cmp (M.2 84 0 0) y.toInt64 = 0) => absurd (by rw [ho]; exact lc_self _) g⟩
theorem case_orders (hS : Sc Γ k) (hN : Nx Γ k c1 c2 Q) (h1 : c1 + 1 ≤ 601024) (h2 : c2 + 6 ≤ 7293034) (hp : PairI Γ M_L_orders M_X7_orders [vr 0 0, vi (gS Γ (cl (nI (6 * k) + 1))), vr 84 0] [vr 44 0, vi (gS Γ (cl (nI (6 * k) + 1)))] k M) : Go Γ 162 478 (lv0 k) [] (mk M) (c1, c2) Q := by
  obtain ⟨s0, s1, s2, s3, s4, s5⟩ := hS
  refine go_step [486] 60 ?_; intro G K hG hK
  refine ⟨s1, ?_⟩
  refine hK _ _ _ _ _ (go_lcall (a := 1) (x := M_L_orders) (na := 3) (n := 489) (m1 := 1) (m2 := 6) (as := [vr 0 0, vi (gS Γ (cl (nI (6 * k) + 1))), vr 84 0]) (r := []) rfl (Or.inr rfl) rfl rfl rfl rfl h1 h2 (hp _ (fun code M1 hm => ?_)))
  show Go Γ 162 489 _ [vi code] (mk M1) (c1 + 1, c2 + 6) Q
  refine go_step [498] 60 ?_; intro G K hG hK
  refine ⟨s1, ?_⟩
  refine hK _ _ _ _ _ (go_lcall (a := 0) (x := M_X7_orders) (na := 2) (n := 501) (m1 := 0) (m2 := 0) (as := [vr 44 0, vi (gS Γ (cl (nI (6 * k) + 1)))]) (r := []) rfl (Or.inl rfl) rfl rfl rfl rfl h1 h2 (hm _ (fun y M2 hJ ht ho => ?_)))
  exact tail_501 hN (Nat.le_refl _) (Nat.le_refl _) h1 h2 hJ ht ho
theorem tail_557 {code : Int32} {y : Int32} (hN : Nx Γ k c1 c2 Q) (ha : a ≤ c1 + 1) (hb : b ≤ c2 + 6) (ha2 : a ≤ 601024) (hb2 : b ≤ 7293034) (hJ : Jn (k + 1) M) (ht : M.1 44 0 0 = code) (ho : code = 0 → M.2 84 0 0 = y.toInt64) : Go Γ 162 557 ((5, vi code) :: lv0 k) [vi y] (mk M) (a, b) Q := by
  refine go_step [560] 60 ?_; intro G K hG hK
  refine hK _ _ _ _ _ (go_lcall (a := 0) (x := M_X7_thrown) (na := 1) (n := 563) (m1 := 0) (m2 := 0) (as := [vr 44 0]) (r := []) rfl (Or.inl rfl) rfl rfl rfl rfl ha2 hb2 (gm_thrown ?_))
  show Go Γ 162 563 _ [vi (M.1 44 0 0)] (mk M) (a, b) Q
  refine go_step [1275] 60 ?_; intro G K hG hK
  refine ⟨fun (g : M.1 44 0 0 = code) => ?_, fun (g : ¬ M.1 44 0 0 = code) => absurd ht g⟩
  refine ⟨fun (g : ¬ code = 0) => hK _ _ _ _ _ (go_bus (hN M a b hJ ha hb) ⟨rfl, rfl, rfl, rfl, rfl, trivial⟩), fun (g : ¬ ¬ code = 0) => ?_⟩
  have ho := ho (Decidable.not_not.mp g)
  refine ⟨vo1, ?_⟩
  refine ⟨fun _ => hK _ _ _ _ _ (go_bus (hN M a b hJ ha hb) ⟨rfl, rfl, rfl, rfl, rfl, trivial⟩), fun (g : ¬ lg_cmp (M.2 84 0 0) y.toInt64 = 0) => absurd (by rw [ho]; exact lc_self _) g⟩
theorem case_contract (hS : Sc Γ k) (hN : Nx Γ k c1 c2 Q) (h1 : c1 + 1 ≤ 601024) (h2 : c2 + 6 ≤ 7293034) (hp : PairI Γ M_L_contract M_X7_contract [vr 0 0, vi (gS Γ (cl (nI (6 * k) + 1))), vr 84 0] [vr 44 0, vi (gS Γ (cl (nI (6 * k) + 1)))] k M) : Go Γ 162 534 (lv0 k) [] (mk M) (c1, c2) Q := by
  obtain ⟨s0, s1, s2, s3, s4, s5⟩ := hS
  refine go_step [542] 60 ?_; intro G K hG hK
  refine ⟨s1, ?_⟩
  refine hK _ _ _ _ _ (go_lcall (a := 1) (x := M_L_contract) (na := 3) (n := 545) (m1 := 1) (m2 := 6) (as := [vr 0 0, vi (gS Γ (cl (nI (6 * k) + 1))), vr 84 0]) (r := []) rfl (Or.inr rfl) rfl rfl rfl rfl h1 h2 (hp _ (fun code M1 hm => ?_)))
  show Go Γ 162 545 _ [vi code] (mk M1) (c1 + 1, c2 + 6) Q
  refine go_step [554] 60 ?_; intro G K hG hK
  refine ⟨s1, ?_⟩
  refine hK _ _ _ _ _ (go_lcall (a := 0) (x := M_X7_contract) (na := 2) (n := 557) (m1 := 0) (m2 := 0) (as := [vr 44 0, vi (gS Γ (cl (nI (6 * k) + 1)))]) (r := []) rfl (Or.inl rfl) rfl rfl rfl rfl h1 h2 (hm _ (fun y M2 hJ ht ho => ?_)))
  exact tail_557 hN (Nat.le_refl _) (Nat.le_refl _) h1 h2 hJ ht ho
theorem tail_626 {code : Int32} {y : Int32} (hN : Nx Γ k c1 c2 Q) (ha : a ≤ c1 + 1) (hb : b ≤ c2 + 6) (ha2 : a ≤ 601024) (hb2 : b ≤ 7293034) (hJ : Jn (k + 1) M) (ht : M.1 44 0 0 = code) (ho : code = 0 → M.2 84 0 0 = y.toInt64) : Go Γ 162 626 ((5, vi code) :: lv0 k) [vi y] (mk M) (a, b) Q := by
  refine go_step [629] 60 ?_; intro G K hG hK
  refine hK _ _ _ _ _ (go_lcall (a := 0) (x := M_X7_thrown) (na := 1) (n := 632) (m1 := 0) (m2 := 0) (as := [vr 44 0]) (r := []) rfl (Or.inl rfl) rfl rfl rfl rfl ha2 hb2 (gm_thrown ?_))
  show Go Γ 162 632 _ [vi (M.1 44 0 0)] (mk M) (a, b) Q
  refine go_step [1275] 60 ?_; intro G K hG hK
  refine ⟨fun (g : M.1 44 0 0 = code) => ?_, fun (g : ¬ M.1 44 0 0 = code) => absurd ht g⟩
  refine ⟨fun (g : ¬ code = 0) => hK _ _ _ _ _ (go_bus (hN M a b hJ ha hb) ⟨rfl, rfl, rfl, rfl, rfl, trivial⟩), fun (g : ¬ ¬ code = 0) => ?_⟩
  have ho := ho (Decidable.not_not.mp g)
  refine ⟨vo1, ?_⟩
  refine ⟨fun _ => hK _ _ _ _ _ (go_bus (hN M a b hJ ha hb) ⟨rfl, rfl, rfl, rfl, rfl, trivial⟩), fun (g : ¬ lg_cmp (M.2 84 0 0) y.toInt64 = 0) => absurd (by rw [ho]; exact lc_self _) g⟩
theorem case_days (hS : Sc Γ k) (hN : Nx Γ k c1 c2 Q) (h1 : c1 + 1 ≤ 601024) (h2 : c2 + 6 ≤ 7293034) (hp : PairI Γ M_L_days M_X7_days [vr 0 0, vi (gS Γ (cl (nI (6 * k) + 1))), vr 84 0] [vr 44 0, vi (gS Γ (cl (nI (6 * k) + 1)))] k M) : Go Γ 162 603 (lv0 k) [] (mk M) (c1, c2) Q := by
  obtain ⟨s0, s1, s2, s3, s4, s5⟩ := hS
  refine go_step [611] 60 ?_; intro G K hG hK
  refine ⟨s1, ?_⟩
  refine hK _ _ _ _ _ (go_lcall (a := 1) (x := M_L_days) (na := 3) (n := 614) (m1 := 1) (m2 := 6) (as := [vr 0 0, vi (gS Γ (cl (nI (6 * k) + 1))), vr 84 0]) (r := []) rfl (Or.inr rfl) rfl rfl rfl rfl h1 h2 (hp _ (fun code M1 hm => ?_)))
  show Go Γ 162 614 _ [vi code] (mk M1) (c1 + 1, c2 + 6) Q
  refine go_step [623] 60 ?_; intro G K hG hK
  refine ⟨s1, ?_⟩
  refine hK _ _ _ _ _ (go_lcall (a := 0) (x := M_X7_days) (na := 2) (n := 626) (m1 := 0) (m2 := 0) (as := [vr 44 0, vi (gS Γ (cl (nI (6 * k) + 1)))]) (r := []) rfl (Or.inl rfl) rfl rfl rfl rfl h1 h2 (hm _ (fun y M2 hJ ht ho => ?_)))
  exact tail_626 hN (Nat.le_refl _) (Nat.le_refl _) h1 h2 hJ ht ho
theorem tail_694 {code : Int32} {y : Int32} (hN : Nx Γ k c1 c2 Q) (ha : a ≤ c1 + 1) (hb : b ≤ c2 + 6) (ha2 : a ≤ 601024) (hb2 : b ≤ 7293034) (hJ : Jn (k + 1) M) (ht : M.1 44 0 0 = code) (ho : code = 0 → M.2 84 0 0 = y.toInt64) : Go Γ 162 694 ((5, vi code) :: lv0 k) [vi y] (mk M) (a, b) Q := by
  refine go_step [697] 60 ?_; intro G K hG hK
  refine hK _ _ _ _ _ (go_lcall (a := 0) (x := M_X7_thrown) (na := 1) (n := 700) (m1 := 0) (m2 := 0) (as := [vr 44 0]) (r := []) rfl (Or.inl rfl) rfl rfl rfl rfl ha2 hb2 (gm_thrown ?_))
  show Go Γ 162 700 _ [vi (M.1 44 0 0)] (mk M) (a, b) Q
  refine go_step [1275] 60 ?_; intro G K hG hK
  refine ⟨fun (g : M.1 44 0 0 = code) => ?_, fun (g : ¬ M.1 44 0 0 = code) => absurd ht g⟩
  refine ⟨fun (g : ¬ code = 0) => hK _ _ _ _ _ (go_bus (hN M a b hJ ha hb) ⟨rfl, rfl, rfl, rfl, rfl, trivial⟩), fun (g : ¬ ¬ code = 0) => ?_⟩
  have ho := ho (Decidable.not_not.mp g)
  refine ⟨vo1, ?_⟩
  refine ⟨fun _ => hK _ _ _ _ _ (go_bus (hN M a b hJ ha hb) ⟨rfl, rfl, rfl, rfl, rfl, trivial⟩), fun (g : ¬ lg_cmp (M.2 84 0 0) y.toInt64 = 0) => absurd (by rw [ho]; exact lc_self _) g⟩
theorem case_look (hS : Sc Γ k) (hN : Nx Γ k c1 c2 Q) (h1 : c1 + 1 ≤ 601024) (h2 : c2 + 6 ≤ 7293034) (hp : PairI Γ M_L_look M_X7_look [vr 0 0, vi (gS Γ (cl (nI (6 * k) + 1))), vi (gS Γ (cl (nI (6 * k) + 2))), vr 84 0] [vr 44 0, vi (gS Γ (cl (nI (6 * k) + 1))), vi (gS Γ (cl (nI (6 * k) + 2)))] k M) : Go Γ 162 659 (lv0 k) [] (mk M) (c1, c2) Q := by
  obtain ⟨s0, s1, s2, s3, s4, s5⟩ := hS
  refine go_step [673] 60 ?_; intro G K hG hK
  refine ⟨s1, s2, ?_⟩
  refine hK _ _ _ _ _ (go_lcall (a := 1) (x := M_L_look) (na := 4) (n := 676) (m1 := 1) (m2 := 6) (as := [vr 0 0, vi (gS Γ (cl (nI (6 * k) + 1))), vi (gS Γ (cl (nI (6 * k) + 2))), vr 84 0]) (r := []) rfl (Or.inr rfl) rfl rfl rfl rfl h1 h2 (hp _ (fun code M1 hm => ?_)))
  show Go Γ 162 676 _ [vi code] (mk M1) (c1 + 1, c2 + 6) Q
  refine go_step [691] 60 ?_; intro G K hG hK
  refine ⟨s1, s2, ?_⟩
  refine hK _ _ _ _ _ (go_lcall (a := 0) (x := M_X7_look) (na := 3) (n := 694) (m1 := 0) (m2 := 0) (as := [vr 44 0, vi (gS Γ (cl (nI (6 * k) + 1))), vi (gS Γ (cl (nI (6 * k) + 2)))]) (r := []) rfl (Or.inl rfl) rfl rfl rfl rfl h1 h2 (hm _ (fun y M2 hJ ht ho => ?_)))
  exact tail_694 hN (Nat.le_refl _) (Nat.le_refl _) h1 h2 hJ ht ho
theorem tail_762 {code : Int32} {y : Int32} (hN : Nx Γ k c1 c2 Q) (ha : a ≤ c1 + 1) (hb : b ≤ c2 + 6) (ha2 : a ≤ 601024) (hb2 : b ≤ 7293034) (hJ : Jn (k + 1) M) (ht : M.1 44 0 0 = code) (ho : code = 0 → M.2 84 0 0 = y.toInt64) : Go Γ 162 762 ((5, vi code) :: lv0 k) [vi y] (mk M) (a, b) Q := by
  refine go_step [765] 60 ?_; intro G K hG hK
  refine hK _ _ _ _ _ (go_lcall (a := 0) (x := M_X7_thrown) (na := 1) (n := 768) (m1 := 0) (m2 := 0) (as := [vr 44 0]) (r := []) rfl (Or.inl rfl) rfl rfl rfl rfl ha2 hb2 (gm_thrown ?_))
  show Go Γ 162 768 _ [vi (M.1 44 0 0)] (mk M) (a, b) Q
  refine go_step [1275] 60 ?_; intro G K hG hK
  refine ⟨fun (g : M.1 44 0 0 = code) => ?_, fun (g : ¬ M.1 44 0 0 = code) => absurd ht g⟩
  refine ⟨fun (g : ¬ code = 0) => hK _ _ _ _ _ (go_bus (hN M a b hJ ha hb) ⟨rfl, rfl, rfl, rfl, rfl, trivial⟩), fun (g : ¬ ¬ code = 0) => ?_⟩
  have ho := ho (Decidable.not_not.mp g)
  refine ⟨vo1, ?_⟩
  refine ⟨fun _ => hK _ _ _ _ _ (go_bus (hN M a b hJ ha hb) ⟨rfl, rfl, rfl, rfl, rfl, trivial⟩), fun (g : ¬ lg_cmp (M.2 84 0 0) y.toInt64 = 0) => absurd (by rw [ho]; exact lc_self _) g⟩
theorem case_state (hS : Sc Γ k) (hN : Nx Γ k c1 c2 Q) (h1 : c1 + 1 ≤ 601024) (h2 : c2 + 6 ≤ 7293034) (hp : PairI Γ M_L_state M_X7_state [vr 0 0, vi (gS Γ (cl (nI (6 * k) + 1))), vi (gS Γ (cl (nI (6 * k) + 2))), vr 84 0] [vr 44 0, vi (gS Γ (cl (nI (6 * k) + 1))), vi (gS Γ (cl (nI (6 * k) + 2)))] k M) : Go Γ 162 727 (lv0 k) [] (mk M) (c1, c2) Q := by
  obtain ⟨s0, s1, s2, s3, s4, s5⟩ := hS
  refine go_step [741] 60 ?_; intro G K hG hK
  refine ⟨s1, s2, ?_⟩
  refine hK _ _ _ _ _ (go_lcall (a := 1) (x := M_L_state) (na := 4) (n := 744) (m1 := 1) (m2 := 6) (as := [vr 0 0, vi (gS Γ (cl (nI (6 * k) + 1))), vi (gS Γ (cl (nI (6 * k) + 2))), vr 84 0]) (r := []) rfl (Or.inr rfl) rfl rfl rfl rfl h1 h2 (hp _ (fun code M1 hm => ?_)))
  show Go Γ 162 744 _ [vi code] (mk M1) (c1 + 1, c2 + 6) Q
  refine go_step [759] 60 ?_; intro G K hG hK
  refine ⟨s1, s2, ?_⟩
  refine hK _ _ _ _ _ (go_lcall (a := 0) (x := M_X7_state) (na := 3) (n := 762) (m1 := 0) (m2 := 0) (as := [vr 44 0, vi (gS Γ (cl (nI (6 * k) + 1))), vi (gS Γ (cl (nI (6 * k) + 2)))]) (r := []) rfl (Or.inl rfl) rfl rfl rfl rfl h1 h2 (hm _ (fun y M2 hJ ht ho => ?_)))
  exact tail_762 hN (Nat.le_refl _) (Nat.le_refl _) h1 h2 hJ ht ho
theorem tail_926 {code : Int32} {y : Int32} (hN : Nx Γ k c1 c2 Q) (ha : a ≤ c1 + 1) (hb : b ≤ c2 + 6) (ha2 : a ≤ 601024) (hb2 : b ≤ 7293034) (hJ : Jn (k + 1) M) (ht : M.1 44 0 0 = code) (ho : code = 0 → M.2 84 0 0 = y.toInt64) : Go Γ 162 926 ((5, vi code) :: lv0 k) [vi y] (mk M) (a, b) Q := by
  refine go_step [929] 60 ?_; intro G K hG hK
  refine hK _ _ _ _ _ (go_lcall (a := 0) (x := M_X7_thrown) (na := 1) (n := 932) (m1 := 0) (m2 := 0) (as := [vr 44 0]) (r := []) rfl (Or.inl rfl) rfl rfl rfl rfl ha2 hb2 (gm_thrown ?_))
  show Go Γ 162 932 _ [vi (M.1 44 0 0)] (mk M) (a, b) Q
  refine go_step [1275] 60 ?_; intro G K hG hK
  refine ⟨fun (g : M.1 44 0 0 = code) => ?_, fun (g : ¬ M.1 44 0 0 = code) => absurd ht g⟩
  refine ⟨fun (g : ¬ code = 0) => hK _ _ _ _ _ (go_bus (hN M a b hJ ha hb) ⟨rfl, rfl, rfl, rfl, rfl, trivial⟩), fun (g : ¬ ¬ code = 0) => ?_⟩
  have ho := ho (Decidable.not_not.mp g)
  refine ⟨vo1, ?_⟩
  refine ⟨fun _ => hK _ _ _ _ _ (go_bus (hN M a b hJ ha hb) ⟨rfl, rfl, rfl, rfl, rfl, trivial⟩), fun (g : ¬ lg_cmp (M.2 84 0 0) y.toInt64 = 0) => absurd (by rw [ho]; exact lc_self _) g⟩
theorem case_lost (hS : Sc Γ k) (hN : Nx Γ k c1 c2 Q) (h1 : c1 + 1 ≤ 601024) (h2 : c2 + 6 ≤ 7293034) (hp : PairI Γ M_L_lost M_X7_lost [vr 0 0, vi (gS Γ (cl (nI (6 * k) + 1))), vi (gS Γ (cl (nI (6 * k) + 2))), vr 84 0] [vr 44 0, vi (gS Γ (cl (nI (6 * k) + 1))), vi (gS Γ (cl (nI (6 * k) + 2)))] k M) : Go Γ 162 891 (lv0 k) [] (mk M) (c1, c2) Q := by
  obtain ⟨s0, s1, s2, s3, s4, s5⟩ := hS
  refine go_step [905] 60 ?_; intro G K hG hK
  refine ⟨s1, s2, ?_⟩
  refine hK _ _ _ _ _ (go_lcall (a := 1) (x := M_L_lost) (na := 4) (n := 908) (m1 := 1) (m2 := 6) (as := [vr 0 0, vi (gS Γ (cl (nI (6 * k) + 1))), vi (gS Γ (cl (nI (6 * k) + 2))), vr 84 0]) (r := []) rfl (Or.inr rfl) rfl rfl rfl rfl h1 h2 (hp _ (fun code M1 hm => ?_)))
  show Go Γ 162 908 _ [vi code] (mk M1) (c1 + 1, c2 + 6) Q
  refine go_step [923] 60 ?_; intro G K hG hK
  refine ⟨s1, s2, ?_⟩
  refine hK _ _ _ _ _ (go_lcall (a := 0) (x := M_X7_lost) (na := 3) (n := 926) (m1 := 0) (m2 := 0) (as := [vr 44 0, vi (gS Γ (cl (nI (6 * k) + 1))), vi (gS Γ (cl (nI (6 * k) + 2)))]) (r := []) rfl (Or.inl rfl) rfl rfl rfl rfl h1 h2 (hm _ (fun y M2 hJ ht ho => ?_)))
  exact tail_926 hN (Nat.le_refl _) (Nat.le_refl _) h1 h2 hJ ht ho
theorem tail_994 {code : Int32} {y : Int32} (hN : Nx Γ k c1 c2 Q) (ha : a ≤ c1 + 1) (hb : b ≤ c2 + 6) (ha2 : a ≤ 601024) (hb2 : b ≤ 7293034) (hJ : Jn (k + 1) M) (ht : M.1 44 0 0 = code) (ho : code = 0 → M.2 84 0 0 = y.toInt64) : Go Γ 162 994 ((5, vi code) :: lv0 k) [vi y] (mk M) (a, b) Q := by
  refine go_step [997] 60 ?_; intro G K hG hK
  refine hK _ _ _ _ _ (go_lcall (a := 0) (x := M_X7_thrown) (na := 1) (n := 1000) (m1 := 0) (m2 := 0) (as := [vr 44 0]) (r := []) rfl (Or.inl rfl) rfl rfl rfl rfl ha2 hb2 (gm_thrown ?_))
  show Go Γ 162 1000 _ [vi (M.1 44 0 0)] (mk M) (a, b) Q
  refine go_step [1275] 60 ?_; intro G K hG hK
  refine ⟨fun (g : M.1 44 0 0 = code) => ?_, fun (g : ¬ M.1 44 0 0 = code) => absurd ht g⟩
  refine ⟨fun (g : ¬ code = 0) => hK _ _ _ _ _ (go_bus (hN M a b hJ ha hb) ⟨rfl, rfl, rfl, rfl, rfl, trivial⟩), fun (g : ¬ ¬ code = 0) => ?_⟩
  have ho := ho (Decidable.not_not.mp g)
  refine ⟨vo1, ?_⟩
  refine ⟨fun _ => hK _ _ _ _ _ (go_bus (hN M a b hJ ha hb) ⟨rfl, rfl, rfl, rfl, rfl, trivial⟩), fun (g : ¬ lg_cmp (M.2 84 0 0) y.toInt64 = 0) => absurd (by rw [ho]; exact lc_self _) g⟩
theorem case_entry (hS : Sc Γ k) (hN : Nx Γ k c1 c2 Q) (h1 : c1 + 1 ≤ 601024) (h2 : c2 + 6 ≤ 7293034) (hp : PairI Γ M_L_entry M_X7_entry [vr 0 0, vi (gS Γ (cl (nI (6 * k) + 1))), vi (gS Γ (cl (nI (6 * k) + 2))), vr 84 0] [vr 44 0, vi (gS Γ (cl (nI (6 * k) + 1))), vi (gS Γ (cl (nI (6 * k) + 2)))] k M) : Go Γ 162 959 (lv0 k) [] (mk M) (c1, c2) Q := by
  obtain ⟨s0, s1, s2, s3, s4, s5⟩ := hS
  refine go_step [973] 60 ?_; intro G K hG hK
  refine ⟨s1, s2, ?_⟩
  refine hK _ _ _ _ _ (go_lcall (a := 1) (x := M_L_entry) (na := 4) (n := 976) (m1 := 1) (m2 := 6) (as := [vr 0 0, vi (gS Γ (cl (nI (6 * k) + 1))), vi (gS Γ (cl (nI (6 * k) + 2))), vr 84 0]) (r := []) rfl (Or.inr rfl) rfl rfl rfl rfl h1 h2 (hp _ (fun code M1 hm => ?_)))
  show Go Γ 162 976 _ [vi code] (mk M1) (c1 + 1, c2 + 6) Q
  refine go_step [991] 60 ?_; intro G K hG hK
  refine ⟨s1, s2, ?_⟩
  refine hK _ _ _ _ _ (go_lcall (a := 0) (x := M_X7_entry) (na := 3) (n := 994) (m1 := 0) (m2 := 0) (as := [vr 44 0, vi (gS Γ (cl (nI (6 * k) + 1))), vi (gS Γ (cl (nI (6 * k) + 2)))]) (r := []) rfl (Or.inl rfl) rfl rfl rfl rfl h1 h2 (hm _ (fun y M2 hJ ht ho => ?_)))
  exact tail_994 hN (Nat.le_refl _) (Nat.le_refl _) h1 h2 hJ ht ho
theorem tail_1062 {code : Int32} {y : Int32} (hN : Nx Γ k c1 c2 Q) (ha : a ≤ c1 + 1) (hb : b ≤ c2 + 6) (ha2 : a ≤ 601024) (hb2 : b ≤ 7293034) (hJ : Jn (k + 1) M) (ht : M.1 44 0 0 = code) (ho : code = 0 → M.2 84 0 0 = if y = 0 then 0 else 1) : Go Γ 162 1062 ((5, vi code) :: lv0 k) [vi y] (mk M) (a, b) Q := by
  refine go_step [1065] 60 ?_; intro G K hG hK
  refine hK _ _ _ _ _ (go_lcall (a := 0) (x := M_X7_thrown) (na := 1) (n := 1068) (m1 := 0) (m2 := 0) (as := [vr 44 0]) (r := []) rfl (Or.inl rfl) rfl rfl rfl rfl ha2 hb2 (gm_thrown ?_))
  show Go Γ 162 1068 _ [vi (M.1 44 0 0)] (mk M) (a, b) Q
  refine go_step [1275] 60 ?_; intro G K hG hK
  refine ⟨fun (g : M.1 44 0 0 = code) => ?_, fun (g : ¬ M.1 44 0 0 = code) => absurd ht g⟩
  refine ⟨fun (g : ¬ code = 0) => hK _ _ _ _ _ (go_bus (hN M a b hJ ha hb) ⟨rfl, rfl, rfl, rfl, rfl, trivial⟩), fun (g : ¬ ¬ code = 0) => ?_⟩
  have ho := ho (Decidable.not_not.mp g)
  refine ⟨vo1, ?_⟩
  refine ⟨fun (g : y = 0) => ?_, fun (g : ¬ y = 0) => ?_⟩
  · rw [if_pos g] at ho
    refine ⟨fun _ => hK _ _ _ _ _ (go_bus (hN M a b hJ ha hb) ⟨rfl, rfl, rfl, rfl, rfl, trivial⟩), fun (g : ¬ lg_cmp (M.2 84 0 0) 0 = 0) => absurd (by rw [ho]; exact lc_self _) g⟩
  · rw [if_neg g] at ho
    refine ⟨fun _ => hK _ _ _ _ _ (go_bus (hN M a b hJ ha hb) ⟨rfl, rfl, rfl, rfl, rfl, trivial⟩), fun (g : ¬ lg_cmp (M.2 84 0 0) 1 = 0) => absurd (by rw [ho]; exact lc_self _) g⟩
theorem case_correct (hS : Sc Γ k) (hN : Nx Γ k c1 c2 Q) (h1 : c1 + 1 ≤ 601024) (h2 : c2 + 6 ≤ 7293034) (hp : PairZ Γ M_L_correct M_X7_correct [vr 0 0, vi (gS Γ (cl (nI (6 * k) + 1))), vi (gS Γ (cl (nI (6 * k) + 2))), vr 84 0] [vr 44 0, vi (gS Γ (cl (nI (6 * k) + 1))), vi (gS Γ (cl (nI (6 * k) + 2)))] k M) : Go Γ 162 1027 (lv0 k) [] (mk M) (c1, c2) Q := by
  obtain ⟨s0, s1, s2, s3, s4, s5⟩ := hS
  refine go_step [1041] 60 ?_; intro G K hG hK
  refine ⟨s1, s2, ?_⟩
  refine hK _ _ _ _ _ (go_lcall (a := 1) (x := M_L_correct) (na := 4) (n := 1044) (m1 := 1) (m2 := 6) (as := [vr 0 0, vi (gS Γ (cl (nI (6 * k) + 1))), vi (gS Γ (cl (nI (6 * k) + 2))), vr 84 0]) (r := []) rfl (Or.inr rfl) rfl rfl rfl rfl h1 h2 (hp _ (fun code M1 hm => ?_)))
  show Go Γ 162 1044 _ [vi code] (mk M1) (c1 + 1, c2 + 6) Q
  refine go_step [1059] 60 ?_; intro G K hG hK
  refine ⟨s1, s2, ?_⟩
  refine hK _ _ _ _ _ (go_lcall (a := 0) (x := M_X7_correct) (na := 3) (n := 1062) (m1 := 0) (m2 := 0) (as := [vr 44 0, vi (gS Γ (cl (nI (6 * k) + 1))), vi (gS Γ (cl (nI (6 * k) + 2)))]) (r := []) rfl (Or.inl rfl) rfl rfl rfl rfl h1 h2 (hm _ (fun y M2 hJ ht ho => ?_)))
  exact tail_1062 hN (Nat.le_refl _) (Nat.le_refl _) h1 h2 hJ ht ho
theorem tail_1161 {code : Int32} {y : Int64} (hN : Nx Γ k c1 c2 Q) (ha : a ≤ c1 + 1) (hb : b ≤ c2 + 6) (ha2 : a ≤ 601024) (hb2 : b ≤ 7293034) (hJ : Jn (k + 1) M) (ht : M.1 44 0 0 = code) (ho : code = 0 → M.2 84 0 0 = y) : Go Γ 162 1161 ((5, vi code) :: lv0 k) [vj y] (mk M) (a, b) Q := by
  refine go_step [1164] 60 ?_; intro G K hG hK
  refine hK _ _ _ _ _ (go_lcall (a := 0) (x := M_X7_thrown) (na := 1) (n := 1167) (m1 := 0) (m2 := 0) (as := [vr 44 0]) (r := []) rfl (Or.inl rfl) rfl rfl rfl rfl ha2 hb2 (gm_thrown ?_))
  show Go Γ 162 1167 _ [vi (M.1 44 0 0)] (mk M) (a, b) Q
  refine go_step [1275] 60 ?_; intro G K hG hK
  refine ⟨fun (g : M.1 44 0 0 = code) => ?_, fun (g : ¬ M.1 44 0 0 = code) => absurd ht g⟩
  refine ⟨fun (g : ¬ code = 0) => hK _ _ _ _ _ (go_bus (hN M a b hJ ha hb) ⟨rfl, rfl, rfl, rfl, rfl, trivial⟩), fun (g : ¬ ¬ code = 0) => ?_⟩
  have ho := ho (Decidable.not_not.mp g)
  refine ⟨vo1, ?_⟩
  refine ⟨fun _ => hK _ _ _ _ _ (go_bus (hN M a b hJ ha hb) ⟨rfl, rfl, rfl, rfl, rfl, trivial⟩), fun (g : ¬ lg_cmp (M.2 84 0 0) y = 0) => absurd (by rw [ho]; exact lc_self _) g⟩
theorem case_balance (hS : Sc Γ k) (hN : Nx Γ k c1 c2 Q) (h1 : c1 + 1 ≤ 601024) (h2 : c2 + 6 ≤ 7293034) (hp : PairJ Γ M_L_balance M_X7_balance [vr 0 0, vi (gS Γ (cl (nI (6 * k) + 1))), vi (gS Γ (cl (nI (6 * k) + 2))), vi (gS Γ (cl (nI (6 * k) + 3))), vi (gS Γ (cl (nI (6 * k) + 4))), vr 84 0] [vr 44 0, vi (gS Γ (cl (nI (6 * k) + 1))), vi (gS Γ (cl (nI (6 * k) + 2))), vi (gS Γ (cl (nI (6 * k) + 3))), vi (gS Γ (cl (nI (6 * k) + 4)))] k M) : Go Γ 162 1102 (lv0 k) [] (mk M) (c1, c2) Q := by
  obtain ⟨s0, s1, s2, s3, s4, s5⟩ := hS
  refine go_step [1128] 60 ?_; intro G K hG hK
  refine ⟨s1, s2, s3, s4, ?_⟩
  refine hK _ _ _ _ _ (go_lcall (a := 1) (x := M_L_balance) (na := 6) (n := 1131) (m1 := 1) (m2 := 6) (as := [vr 0 0, vi (gS Γ (cl (nI (6 * k) + 1))), vi (gS Γ (cl (nI (6 * k) + 2))), vi (gS Γ (cl (nI (6 * k) + 3))), vi (gS Γ (cl (nI (6 * k) + 4))), vr 84 0]) (r := []) rfl (Or.inr rfl) rfl rfl rfl rfl h1 h2 (hp _ (fun code M1 hm => ?_)))
  show Go Γ 162 1131 _ [vi code] (mk M1) (c1 + 1, c2 + 6) Q
  refine go_step [1158] 60 ?_; intro G K hG hK
  refine ⟨s1, s2, s3, s4, ?_⟩
  refine hK _ _ _ _ _ (go_lcall (a := 0) (x := M_X7_balance) (na := 5) (n := 1161) (m1 := 0) (m2 := 0) (as := [vr 44 0, vi (gS Γ (cl (nI (6 * k) + 1))), vi (gS Γ (cl (nI (6 * k) + 2))), vi (gS Γ (cl (nI (6 * k) + 3))), vi (gS Γ (cl (nI (6 * k) + 4)))]) (r := []) rfl (Or.inl rfl) rfl rfl rfl rfl h1 h2 (hm _ (fun y M2 hJ ht ho => ?_)))
  exact tail_1161 hN (Nat.le_refl _) (Nat.le_refl _) h1 h2 hJ ht ho
theorem tail_1216 {code : Int32} {y : Int32} (hN : Nx Γ k c1 c2 Q) (ha : a ≤ c1 + 1) (hb : b ≤ c2 + 6) (ha2 : a ≤ 601024) (hb2 : b ≤ 7293034) (hJ : Jn (k + 1) M) (ht : M.1 44 0 0 = code) (ho : code = 0 → M.2 84 0 0 = y.toInt64) : Go Γ 162 1216 ((5, vi code) :: lv0 k) [vi y] (mk M) (a, b) Q := by
  refine go_step [1219] 60 ?_; intro G K hG hK
  refine hK _ _ _ _ _ (go_lcall (a := 0) (x := M_X7_thrown) (na := 1) (n := 1222) (m1 := 0) (m2 := 0) (as := [vr 44 0]) (r := []) rfl (Or.inl rfl) rfl rfl rfl rfl ha2 hb2 (gm_thrown ?_))
  show Go Γ 162 1222 _ [vi (M.1 44 0 0)] (mk M) (a, b) Q
  refine go_step [1275] 60 ?_; intro G K hG hK
  refine ⟨fun (g : M.1 44 0 0 = code) => ?_, fun (g : ¬ M.1 44 0 0 = code) => absurd ht g⟩
  refine ⟨fun (g : ¬ code = 0) => hK _ _ _ _ _ (go_bus (hN M a b hJ ha hb) ⟨rfl, rfl, rfl, rfl, rfl, trivial⟩), fun (g : ¬ ¬ code = 0) => ?_⟩
  have ho := ho (Decidable.not_not.mp g)
  refine ⟨vo1, ?_⟩
  refine ⟨fun _ => hK _ _ _ _ _ (go_bus (hN M a b hJ ha hb) ⟨rfl, rfl, rfl, rfl, rfl, trivial⟩), fun (g : ¬ lg_cmp (M.2 84 0 0) y.toInt64 = 0) => absurd (by rw [ho]; exact lc_self _) g⟩
theorem case_split (hS : Sc Γ k) (hN : Nx Γ k c1 c2 Q) (h1 : c1 + 1 ≤ 601024) (h2 : c2 + 6 ≤ 7293034) (hp : PairI Γ M_L_split M_X7_split [vr 0 0, vi (gS Γ (cl (nI (6 * k) + 1))), vr 84 0] [vr 44 0, vi (gS Γ (cl (nI (6 * k) + 1)))] k M) : Go Γ 162 1193 (lv0 k) [] (mk M) (c1, c2) Q := by
  obtain ⟨s0, s1, s2, s3, s4, s5⟩ := hS
  refine go_step [1201] 60 ?_; intro G K hG hK
  refine ⟨s1, ?_⟩
  refine hK _ _ _ _ _ (go_lcall (a := 1) (x := M_L_split) (na := 3) (n := 1204) (m1 := 1) (m2 := 6) (as := [vr 0 0, vi (gS Γ (cl (nI (6 * k) + 1))), vr 84 0]) (r := []) rfl (Or.inr rfl) rfl rfl rfl rfl h1 h2 (hp _ (fun code M1 hm => ?_)))
  show Go Γ 162 1204 _ [vi code] (mk M1) (c1 + 1, c2 + 6) Q
  refine go_step [1213] 60 ?_; intro G K hG hK
  refine ⟨s1, ?_⟩
  refine hK _ _ _ _ _ (go_lcall (a := 0) (x := M_X7_split) (na := 2) (n := 1216) (m1 := 0) (m2 := 0) (as := [vr 44 0, vi (gS Γ (cl (nI (6 * k) + 1)))]) (r := []) rfl (Or.inl rfl) rfl rfl rfl rfl h1 h2 (hm _ (fun y M2 hJ ht ho => ?_)))
  exact tail_1216 hN (Nat.le_refl _) (Nat.le_refl _) h1 h2 hJ ht ho
theorem tail_858 {code : Int32} {y : Int32} (hN : Nx Γ k c1 c2 Q) (ha : a ≤ c1 + 1) (hb : b ≤ c2 + 6) (ha2 : a ≤ 601024) (hb2 : b ≤ 7293034) (hJ : Jn (k + 1) M) (ht : M.1 44 0 0 = code) (ho : code = 0 → M.2 84 0 0 = y.toInt64) : Go Γ 162 858 ((5, vi code) :: lv0 k) [vi y] (mk M) (a, b) Q := by
  refine go_step [861] 60 ?_; intro G K hG hK
  refine hK _ _ _ _ _ (go_lcall (a := 0) (x := M_X7_thrown) (na := 1) (n := 864) (m1 := 0) (m2 := 0) (as := [vr 44 0]) (r := []) rfl (Or.inl rfl) rfl rfl rfl rfl ha2 hb2 (gm_thrown ?_))
  show Go Γ 162 864 _ [vi (M.1 44 0 0)] (mk M) (a, b) Q
  refine go_step [1275] 60 ?_; intro G K hG hK
  refine ⟨fun (g : M.1 44 0 0 = code) => ?_, fun (g : ¬ M.1 44 0 0 = code) => absurd ht g⟩
  refine ⟨fun (g : ¬ code = 0) => hK _ _ _ _ _ (go_bus (hN M a b hJ ha hb) ⟨rfl, rfl, rfl, rfl, rfl, trivial⟩), fun (g : ¬ ¬ code = 0) => ?_⟩
  have ho := ho (Decidable.not_not.mp g)
  refine ⟨vo1, ?_⟩
  refine ⟨fun _ => hK _ _ _ _ _ (go_bus (hN M a b hJ ha hb) ⟨rfl, rfl, rfl, rfl, rfl, trivial⟩), fun (g : ¬ lg_cmp (M.2 84 0 0) y.toInt64 = 0) => absurd (by rw [ho]; exact lc_self _) g⟩
theorem case_knows (hS : Sc Γ k) (hN : Nx Γ k c1 c2 Q) (h1 : c1 + 1 ≤ 601024) (h2 : c2 + 6 ≤ 7293034) (hp : ∀ z, PairI Γ M_L_knows M_X7_knows [vr 0 0, vi (gS Γ (cl (nI (6 * k) + 1))), vi (gS Γ (cl (nI (6 * k) + 2))), vi z, vr 84 0] [vr 44 0, vi (gS Γ (cl (nI (6 * k) + 1))), vi (gS Γ (cl (nI (6 * k) + 2))), vi z] k M) : Go Γ 162 795 (lv0 k) [] (mk M) (c1, c2) Q := by
  obtain ⟨s0, s1, s2, s3, s4, s5⟩ := hS
  have key : ∀ z, (∀ M1 a b code (hm : ∀ Q'' : Out → Mem → Prop, (∀ y M2, Jn (k + 1) M2 → M2.1 44 0 0 = code → (code = 0 → M2.2 84 0 0 = y.toInt64) → Q'' (rI y) (mk M2)) → Gm Γ M_X7_knows [vr 44 0, vi (gS Γ (cl (nI (6 * k) + 1))), vi (gS Γ (cl (nI (6 * k) + 2))), vi z] (mk M1) Q''), a = c1 + 1 → b = c2 + 6 → Go Γ 162 855 ((5, vi code) :: lv0 k) [vi z, vi (gS Γ (cl (nI (6 * k) + 2))), vi (gS Γ (cl (nI (6 * k) + 1))), vr 44 0] (mk M1) (a, b) Q) := by
    intro z M1 a b code hm ea eb
    subst ea; subst eb
    refine go_lcall (a := 0) (x := M_X7_knows) (na := 4) (n := 858) (m1 := 0) (m2 := 0) (as := [vr 44 0, vi (gS Γ (cl (nI (6 * k) + 1))), vi (gS Γ (cl (nI (6 * k) + 2))), vi z]) (r := []) rfl (Or.inl rfl) rfl rfl rfl rfl h1 h2 (hm _ (fun y M2 hJ ht ho => ?_))
    exact tail_858 hN (Nat.le_refl _) (Nat.le_refl _) h1 h2 hJ ht ho
  refine go_step [823] 60 ?_; intro G K hG hK
  refine ⟨s1, s2, s3, ?_⟩
  refine ⟨fun (g : gS Γ (cl (nI (6 * k) + 3)) = 0) => ?_, fun (g : ¬ gS Γ (cl (nI (6 * k) + 3)) = 0) => ?_⟩
  · refine hK _ _ _ _ _ (go_lcall (a := 1) (x := M_L_knows) (na := 5) (n := 826) (m1 := 1) (m2 := 6) (as := [vr 0 0, vi (gS Γ (cl (nI (6 * k) + 1))), vi (gS Γ (cl (nI (6 * k) + 2))), vi 0, vr 84 0]) (r := []) rfl (Or.inr rfl) rfl rfl rfl rfl h1 h2 (hp 0 _ (fun code M1 hm => ?_)))
    show Go Γ 162 826 _ [vi code] (mk M1) (c1 + 1, c2 + 6) Q
    refine go_step [855] 60 ?_; intro G K hG hK
    refine ⟨s1, s2, s3, ?_⟩
    refine ⟨fun _ => ?_, fun (g2 : ¬ gS Γ (cl (nI (6 * k) + 3)) = 0) => absurd g g2⟩
    exact hK _ _ _ _ _ (go_bus (key 0 M1 _ _ code hm rfl rfl) ⟨rfl, rfl, rfl, rfl, rfl, rfl, trivial⟩)
  · refine hK _ _ _ _ _ (go_lcall (a := 1) (x := M_L_knows) (na := 5) (n := 826) (m1 := 1) (m2 := 6) (as := [vr 0 0, vi (gS Γ (cl (nI (6 * k) + 1))), vi (gS Γ (cl (nI (6 * k) + 2))), vi 1, vr 84 0]) (r := []) rfl (Or.inr rfl) rfl rfl rfl rfl h1 h2 (hp 1 _ (fun code M1 hm => ?_)))
    show Go Γ 162 826 _ [vi code] (mk M1) (c1 + 1, c2 + 6) Q
    refine go_step [855] 60 ?_; intro G K hG hK
    refine ⟨s1, s2, s3, ?_⟩
    refine ⟨fun (g2 : gS Γ (cl (nI (6 * k) + 3)) = 0) => absurd g2 g, fun _ => ?_⟩
    exact hK _ _ _ _ _ (go_bus (key 1 M1 _ _ code hm rfl rfl) ⟨rfl, rfl, rfl, rfl, rfl, rfl, trivial⟩)
theorem case_feed (hS : Sc Γ k) (hN : Nx Γ k c1 c2 Q) (h1 : c1 + 1 ≤ 601024) (h2 : c2 + 6 ≤ 7293034) (hp : SameI Γ M_X6_feed M_X7_feed [vr 0 0, vi (gS Γ (cl (nI (6 * k) + 1))), vi (gS Γ (cl (nI (6 * k) + 2))), vi (gS Γ (cl (nI (6 * k) + 3))), vi (gS Γ (cl (nI (6 * k) + 4))), vi (gS Γ (cl (nI (6 * k) + 5)))] [vr 44 0, vi (gS Γ (cl (nI (6 * k) + 1))), vi (gS Γ (cl (nI (6 * k) + 2))), vi (gS Γ (cl (nI (6 * k) + 3))), vi (gS Γ (cl (nI (6 * k) + 4))), vi (gS Γ (cl (nI (6 * k) + 5)))] k M) : Go Γ 162 128 (lv0 k) [] (mk M) (c1, c2) Q := by
  obtain ⟨s0, s1, s2, s3, s4, s5⟩ := hS
  refine go_step [159] 60 ?_; intro G K hG hK
  refine ⟨s1, s2, s3, s4, s5, ?_⟩
  refine hK _ _ _ _ _ (go_lcall (a := 0) (x := M_X6_feed) (na := 6) (n := 162) (m1 := 0) (m2 := 0) (as := [vr 0 0, vi (gS Γ (cl (nI (6 * k) + 1))), vi (gS Γ (cl (nI (6 * k) + 2))), vi (gS Γ (cl (nI (6 * k) + 3))), vi (gS Γ (cl (nI (6 * k) + 4))), vi (gS Γ (cl (nI (6 * k) + 5)))]) (r := []) rfl (Or.inl rfl) rfl rfl rfl rfl (by omega) (by omega) (hp _ (fun y M1 hm => ?_)))
  show Go Γ 162 162 _ [vi y] (mk M1) (c1, c2) Q
  refine go_step [193] 60 ?_; intro G K hG hK
  refine ⟨s1, s2, s3, s4, s5, ?_⟩
  refine hK _ _ _ _ _ (go_lcall (a := 0) (x := M_X7_feed) (na := 6) (n := 196) (m1 := 0) (m2 := 0) (as := [vr 44 0, vi (gS Γ (cl (nI (6 * k) + 1))), vi (gS Γ (cl (nI (6 * k) + 2))), vi (gS Γ (cl (nI (6 * k) + 3))), vi (gS Γ (cl (nI (6 * k) + 4))), vi (gS Γ (cl (nI (6 * k) + 5)))]) (r := [vi y]) rfl (Or.inl rfl) rfl rfl rfl rfl (by omega) (by omega) (hm _ (fun M2 hJ => ?_)))
  show Go Γ 162 196 _ [vi y, vi y] (mk M2) (c1, c2) Q
  refine go_step [1275] 60 ?_; intro G K hG hK
  exact ⟨fun _ => hK _ _ _ _ _ (go_bus (hN M2 c1 c2 hJ (by omega) (by omega)) ⟨rfl, rfl, rfl, rfl, rfl, trivial⟩), fun (g : ¬ y = y) => absurd rfl g⟩
theorem case_end (hS : Sc Γ k) (hN : Nx Γ k c1 c2 Q) (h1 : c1 + 1 ≤ 601024) (h2 : c2 + 6 ≤ 7293034) (hp : SameI Γ M_X6_end M_X7_end [vr 0 0, vi (gS Γ (cl (nI (6 * k) + 1)))] [vr 44 0, vi (gS Γ (cl (nI (6 * k) + 1)))] k M) : Go Γ 162 201 (lv0 k) [] (mk M) (c1, c2) Q := by
  obtain ⟨s0, s1, s2, s3, s4, s5⟩ := hS
  refine go_step [208] 60 ?_; intro G K hG hK
  refine ⟨s1, ?_⟩
  refine hK _ _ _ _ _ (go_lcall (a := 0) (x := M_X6_end) (na := 2) (n := 211) (m1 := 0) (m2 := 0) (as := [vr 0 0, vi (gS Γ (cl (nI (6 * k) + 1)))]) (r := []) rfl (Or.inl rfl) rfl rfl rfl rfl (by omega) (by omega) (hp _ (fun y M1 hm => ?_)))
  show Go Γ 162 211 _ [vi y] (mk M1) (c1, c2) Q
  refine go_step [218] 60 ?_; intro G K hG hK
  refine ⟨s1, ?_⟩
  refine hK _ _ _ _ _ (go_lcall (a := 0) (x := M_X7_end) (na := 2) (n := 221) (m1 := 0) (m2 := 0) (as := [vr 44 0, vi (gS Γ (cl (nI (6 * k) + 1)))]) (r := [vi y]) rfl (Or.inl rfl) rfl rfl rfl rfl (by omega) (by omega) (hm _ (fun M2 hJ => ?_)))
  show Go Γ 162 221 _ [vi y, vi y] (mk M2) (c1, c2) Q
  refine go_step [1275] 60 ?_; intro G K hG hK
  exact ⟨fun _ => hK _ _ _ _ _ (go_bus (hN M2 c1 c2 hJ (by omega) (by omega)) ⟨rfl, rfl, rfl, rfl, rfl, trivial⟩), fun (g : ¬ y = y) => absurd rfl g⟩
theorem case_fault (hS : Sc Γ k) (hN : Nx Γ k c1 c2 Q) (h1 : c1 + 1 ≤ 601024) (h2 : c2 + 6 ≤ 7293034) (hp : SameI Γ M_X6_fault M_X7_fault [vr 0 0] [vr 44 0] k M) : Go Γ 162 590 (lv0 k) [] (mk M) (c1, c2) Q := by
  obtain ⟨s0, s1, s2, s3, s4, s5⟩ := hS
  refine go_step [591] 60 ?_; intro G K hG hK
  refine hK _ _ _ _ _ (go_lcall (a := 0) (x := M_X6_fault) (na := 1) (n := 594) (m1 := 0) (m2 := 0) (as := [vr 0 0]) (r := []) rfl (Or.inl rfl) rfl rfl rfl rfl (by omega) (by omega) (hp _ (fun y M1 hm => ?_)))
  show Go Γ 162 594 _ [vi y] (mk M1) (c1, c2) Q
  refine go_step [595] 60 ?_; intro G K hG hK
  refine hK _ _ _ _ _ (go_lcall (a := 0) (x := M_X7_fault) (na := 1) (n := 598) (m1 := 0) (m2 := 0) (as := [vr 44 0]) (r := [vi y]) rfl (Or.inl rfl) rfl rfl rfl rfl (by omega) (by omega) (hm _ (fun M2 hJ => ?_)))
  show Go Γ 162 598 _ [vi y, vi y] (mk M2) (c1, c2) Q
  refine go_step [1275] 60 ?_; intro G K hG hK
  exact ⟨fun _ => hK _ _ _ _ _ (go_bus (hN M2 c1 c2 hJ (by omega) (by omega)) ⟨rfl, rfl, rfl, rfl, rfl, trivial⟩), fun (g : ¬ y = y) => absurd rfl g⟩
theorem case_count (hS : Sc Γ k) (hN : Nx Γ k c1 c2 Q) (h1 : c1 + 1 ≤ 601024) (h2 : c2 + 6 ≤ 7293034) (hp : SameJ Γ M_X6_count M_X7_count [vr 0 0, vi (gS Γ (cl (nI (6 * k) + 1)))] [vr 44 0, vi (gS Γ (cl (nI (6 * k) + 1)))] k M) : Go Γ 162 1249 (lv0 k) [] (mk M) (c1, c2) Q := by
  obtain ⟨s0, s1, s2, s3, s4, s5⟩ := hS
  refine go_step [1256] 60 ?_; intro G K hG hK
  refine ⟨s1, ?_⟩
  refine hK _ _ _ _ _ (go_lcall (a := 0) (x := M_X6_count) (na := 2) (n := 1259) (m1 := 0) (m2 := 0) (as := [vr 0 0, vi (gS Γ (cl (nI (6 * k) + 1)))]) (r := []) rfl (Or.inl rfl) rfl rfl rfl rfl (by omega) (by omega) (hp _ (fun y M1 hm => ?_)))
  show Go Γ 162 1259 _ [vj y] (mk M1) (c1, c2) Q
  refine go_step [1266] 60 ?_; intro G K hG hK
  refine ⟨s1, ?_⟩
  refine hK _ _ _ _ _ (go_lcall (a := 0) (x := M_X7_count) (na := 2) (n := 1269) (m1 := 0) (m2 := 0) (as := [vr 44 0, vi (gS Γ (cl (nI (6 * k) + 1)))]) (r := [vj y]) rfl (Or.inl rfl) rfl rfl rfl rfl (by omega) (by omega) (hm _ (fun M2 hJ => ?_)))
  show Go Γ 162 1269 _ [vj y, vj y] (mk M2) (c1, c2) Q
  refine go_step [1275] 60 ?_; intro G K hG hK
  exact ⟨fun _ => hK _ _ _ _ _ (go_bus (hN M2 c1 c2 hJ (by omega) (by omega)) ⟨rfl, rfl, rfl, rfl, rfl, trivial⟩), fun (g : ¬ lg_cmp y y = 0) => absurd (lc_self y) g⟩
end CASE
