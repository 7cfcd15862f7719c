/-! The class's world is in order; loops of the class that only read. -/
theorem loop_up {P : Nat → Prop} {n : Nat} (hs : ∀ i, i < n → P (i + 1) → P i) (he : P n) : P 0 := by
  have key : ∀ k, k ≤ n → P (n - k) := by
    intro k
    induction k with
    | zero => intro _; exact he
    | succ k ih =>
      intro hk
      refine hs _ (by omega) ?_
      rw [show n - (k + 1) + 1 = n - k by omega]
      exact ih (by omega)
  have := key n (Nat.le_refl n)
  rwa [Nat.sub_self] at this
theorem go_bus {Γ : GG} {mi pc : Nat} {lv lv' : LV} {st : List MV} {σ : Mem} {cnt : Nat × Nat} {Q : Out → Mem → Prop} (h : Go Γ mi pc lv' st σ cnt Q) (hs : subL lv' lv) : Go Γ mi pc lv st σ cnt Q := go_sub hs h
/-- what the class's loops need of the memory -/
def WC (ns nc : Nat) (M : MM) : Prop :=
  (ns ≤ 12 ∧ nc ≤ 12) ∧ (M.1 0 0 5 = nI ns ∧ M.1 0 0 9 = nI nc) ∧ (∀ c, c < nc → (∃ s, s < ns ∧ M.1 15 c 6 = nI s) ∧ (∃ s, s < ns ∧ M.1 15 c 7 = nI s)) ∧ (∀ c, c < nc → M.1 16 c 0 ≤ 12) ∧ (∀ c, c < nc → (∃ n, n ≤ 3 ∧ M.1 25 c 0 = nI n) ∧ ∃ n, n ≤ 3 ∧ M.1 22 c 0 = nI n) ∧ ¬ M.1 35 0 0 < 0
section WCS
variable {ns nc : Nat} {M M' : MM}
theorem WC.ls (h : WC ns nc M) : ns ≤ 12 := h.1.1
theorem WC.lc (h : WC ns nc M) : nc ≤ 12 := h.1.2
theorem WC.n5 (h : WC ns nc M) : M.1 0 0 5 = nI ns := h.2.1.1
theorem WC.n9 (h : WC ns nc M) : M.1 0 0 9 = nI nc := h.2.1.2
theorem WC.at (h : WC ns nc M) {c : Nat} (hc : c < nc) : ∃ s, s < ns ∧ M.1 15 c 6 = nI s := (h.2.2.1 c hc).1
theorem WC.fr (h : WC ns nc M) {c : Nat} (hc : c < nc) : ∃ s, s < ns ∧ M.1 15 c 7 = nI s := (h.2.2.1 c hc).2
theorem WC.oc (h : WC ns nc M) {c : Nat} (hc : c < nc) : M.1 16 c 0 ≤ 12 := h.2.2.2.1 c hc
theorem WC.sh (h : WC ns nc M) {c : Nat} (hc : c < nc) : ∃ n, n ≤ 3 ∧ M.1 25 c 0 = nI n := (h.2.2.2.2.1 c hc).1
theorem WC.st (h : WC ns nc M) {c : Nat} (hc : c < nc) : ∃ n, n ≤ 3 ∧ M.1 22 c 0 = nI n := (h.2.2.2.2.1 c hc).2
theorem WC.en (h : WC ns nc M) : ¬ M.1 35 0 0 < 0 := h.2.2.2.2.2
theorem WC.of (h : WC ns nc M) (h5 : M'.1 0 0 5 = M.1 0 0 5) (h9 : M'.1 0 0 9 = M.1 0 0 9) (h6 : ∀ c, M'.1 15 c 6 = M.1 15 c 6) (h7 : ∀ c, M'.1 15 c 7 = M.1 15 c 7) (ho : ∀ c, M'.1 16 c 0 = M.1 16 c 0) (hs : ∀ c, M'.1 25 c 0 = M.1 25 c 0) (ht : ∀ c, M'.1 22 c 0 = M.1 22 c 0) (he : ¬ M'.1 35 0 0 < 0) : WC ns nc M' :=
  ⟨h.1, ⟨h5.trans h.n5, h9.trans h.n9⟩, fun c hc => by rw [h6 c, h7 c]; exact h.2.2.1 c hc, fun c hc => by rw [ho c]; exact h.oc hc, fun c hc => by rw [hs c, ht c]; exact ⟨h.sh hc, h.st hc⟩, he⟩
end WCS
def cAt (M : MM) (s : Int32) : Nat → Int32
  | 0 => 0
  | n + 1 => if M.1 15 n 5 = 0 ∧ M.1 15 n 6 = s then cAt M s n + 1 else cAt M s n
def cCarr (M : MM) : Nat → Int64
  | 0 => 0
  | n + 1 => cCarr M n + (M.1 15 n 3).toInt64
def cOfP (M : MM) (p : Int32) (s : Nat) : Int32 := mx0 ((M.1 13 s 5 - p + 1) * M.1 13 s 6 - M.1 13 s 7)
def cAllP (M : MM) (p : Int32) : Nat → Int32
  | 0 => 0
  | n + 1 => cAllP M p n + cOfP M p n
def cFst (M : MM) (s : Int32) (n : Nat) : Prop := ∀ i, i < n → ¬ (M.1 15 i 5 = 0 ∧ M.1 15 i 6 = s)
section LOOP
variable {Γ : GG} {M : MM} {Q : Out → Mem → Prop} {c ns nc : Nat}
theorem gm_isAt {w : Int32} (h : Q (rI (b32 (M.1 15 c 5 = 0 ∧ M.1 15 c 6 = w))) (mk M)) : Gm Γ M_X0_isAt [vr 15 c, vi w] (mk M) Q := go_isAt h
theorem gm_hasStation {n : Int32} (h : Q (rI (b32 (0 ≤ n ∧ n < M.1 0 0 5))) (mk M)) : Gm Γ M_X6_hasStation [vr 0 0, vi n] (mk M) Q := go_hasStation h
theorem gm_hasCaravan {n : Int32} (h : Q (rI (b32 (0 ≤ n ∧ n < M.1 0 0 9))) (mk M)) : Gm Γ M_X6_hasCaravan [vr 0 0, vi n] (mk M) Q := go_hasCaravan h
theorem gm_isWithin {n a b : Int32} {σ : Mem} (h : Q (rI (b32 (a ≤ n ∧ n ≤ b))) σ) : Gm Γ M_X6_isWithin [vi n, vi a, vi b] σ Q := go_isWithin h
theorem gm_ofPrice {s : Nat} {p : Int32} (h : Q (rI (cOfP M p s)) (mk M)) : Gm Γ M_X4_slabsOfPrice [vr 13 s, vi p] (mk M) Q := go_slabsOfPrice h
theorem go_caravansAt {s : Int32} (hW : WC ns nc M) (h : Q (rI (cAt M s nc)) (mk M)) : Gm Γ M_X6_caravansAt [vr 0 0, vi s] (mk M) Q := by
  have hn := hW.lc
  refine gm_step [4] 60 ?_; intro G K hG hK
  refine hK _ _ _ _ _ (go_sub (lv' := [(3, vi (nI 0)), (2, vi (cAt M s 0)), (1, vi s), (0, vr 0 0)]) ⟨rfl, rfl, rfl, rfl, trivial⟩ ?_)
  refine loop_up (P := fun i => Go Γ M_X6_caravansAt 4 [(3, vi (nI i)), (2, vi (cAt M s i)), (1, vi s), (0, vr 0 0)] [] (mk M) (0, 0) Q) (n := nc) (fun i hi ih => ?_) ?_
  · refine go_step [4] 60 ?_; intro G K hG hK
    refine ⟨fun (g : M.1 0 0 9 ≤ nI i) => ?_, fun _ => ?_⟩
    · rw [hW.n9] at g; exact absurd g (nI_ge hi (by omega))
    · refine ⟨in12 (n := i) (by omega) rfl, (15, i), R0_ca (by omega) rfl, ?_⟩
      refine hG _ _ _ _ (gm_isAt ?_)
      refine br_z (fun g => ?_) (fun g => ?_)
      · exact hK _ _ _ _ _ (go_bus ih ⟨lvi (nI_1 i), lvi (if_neg g).symm, rfl, rfl, trivial⟩)
      · exact hK _ _ _ _ _ (go_bus ih ⟨lvi (nI_1 i), lvi (if_pos g).symm, rfl, rfl, trivial⟩)
  · refine go_step [4] 60 ?_; intro G K hG hK
    refine ⟨fun (g : M.1 0 0 9 ≤ nI nc) => h, fun (g : ¬ M.1 0 0 9 ≤ nI nc) => ?_⟩
    rw [hW.n9] at g; exact absurd (Int32.le_refl _) g
theorem go_slabsCarried (hW : WC ns nc M) (h : Q (rJ (cCarr M nc)) (mk M)) : Gm Γ M_X6_slabsCarried [vr 0 0] (mk M) Q := by
  have hn := hW.lc
  refine gm_step [4] 60 ?_; intro G K hG hK
  refine hK _ _ _ _ _ (go_sub (lv' := [(3, vi (nI 0)), (1, vj (cCarr M 0)), (0, vr 0 0)]) ⟨rfl, rfl, rfl, trivial⟩ ?_)
  refine loop_up (P := fun i => Go Γ M_X6_slabsCarried 4 [(3, vi (nI i)), (1, vj (cCarr M i)), (0, vr 0 0)] [] (mk M) (0, 0) Q) (n := nc) (fun i hi ih => ?_) ?_
  · refine go_step [4] 60 ?_; intro G K hG hK
    refine ⟨fun (g : M.1 0 0 9 ≤ nI i) => ?_, fun _ => ?_⟩
    · rw [hW.n9] at g; exact absurd g (nI_ge hi (by omega))
    · refine ⟨in12 (n := i) (by omega) rfl, (15, i), R0_ca (by omega) rfl, ?_⟩
      exact hK _ _ _ _ _ (go_bus ih ⟨lvi (nI_1 i), rfl, rfl, trivial⟩)
  · refine go_step [4] 60 ?_; intro G K hG hK
    refine ⟨fun (g : M.1 0 0 9 ≤ nI nc) => h, fun (g : ¬ M.1 0 0 9 ≤ nI nc) => ?_⟩
    rw [hW.n9] at g; exact absurd (Int32.le_refl _) g
theorem go_allPrice {p : Int32} (hW : WC ns nc M) (h : Q (rI (cAllP M p ns)) (mk M)) : Gm Γ M_X6_slabsOfPriceInAll [vr 0 0, vi p] (mk M) Q := by
  have hn := hW.ls
  refine gm_step [4] 60 ?_; intro G K hG hK
  refine hK _ _ _ _ _ (go_sub (lv' := [(3, vi (nI 0)), (2, vi (cAllP M p 0)), (1, vi p), (0, vr 0 0)]) ⟨rfl, rfl, rfl, rfl, trivial⟩ ?_)
  refine loop_up (P := fun i => Go Γ M_X6_slabsOfPriceInAll 4 [(3, vi (nI i)), (2, vi (cAllP M p i)), (1, vi p), (0, vr 0 0)] [] (mk M) (0, 0) Q) (n := ns) (fun i hi ih => ?_) ?_
  · refine go_step [4] 60 ?_; intro G K hG hK
    refine ⟨fun (g : M.1 0 0 5 ≤ nI i) => ?_, fun _ => ?_⟩
    · rw [hW.n5] at g; exact absurd g (nI_ge hi (by omega))
    · refine ⟨in12 (n := i) (by omega) rfl, (13, i), R0_st (by omega) rfl, ?_⟩
      refine hG _ _ _ _ (gm_ofPrice ?_)
      exact hK _ _ _ _ _ (go_bus ih ⟨lvi (nI_1 i), rfl, rfl, rfl, trivial⟩)
  · refine go_step [4] 60 ?_; intro G K hG hK
    refine ⟨fun (g : M.1 0 0 5 ≤ nI ns) => h, fun (g : ¬ M.1 0 0 5 ≤ nI ns) => ?_⟩
    rw [hW.n5] at g; exact absurd (Int32.le_refl _) g
theorem go_isFirst {n : Nat} (hW : WC ns nc M) (hc : n < nc) (h : ∀ b : Prop, [Decidable b] → (b ↔ cFst M (M.1 15 n 6) n) → Q (rI (b32 b)) (mk M)) : Gm Γ M_X6_isFirstThere [vr 0 0, vi (nI n)] (mk M) Q := by
  have hn := hW.lc
  refine gm_step [2] 60 ?_; intro G K hG hK
  refine hK _ _ _ _ _ (go_sub (lv' := [(2, vi (nI 0)), (1, vi (nI n)), (0, vr 0 0)]) ⟨rfl, rfl, rfl, trivial⟩ ?_)
  have key : ∀ k i, i + k = n → cFst M (M.1 15 n 6) i → Go Γ M_X6_isFirstThere 2 [(2, vi (nI i)), (1, vi (nI n)), (0, vr 0 0)] [] (mk M) (0, 0) Q := by
    intro k
    induction k with
    | zero =>
      intro i hi hf
      rw [show i = n by omega] at hf ⊢
      refine go_step [2] 60 ?_; intro G K hG hK
      refine ⟨fun _ => ?_, fun (g : ¬ nI n ≤ nI n) => absurd (Int32.le_refl _) g⟩
      exact rb_t (p := True) trivial (h True ⟨fun _ => hf, fun _ => trivial⟩)
    | succ k ih =>
      intro i hi hf
      refine go_step [2] 60 ?_; intro G K hG hK
      refine ⟨fun (g : nI n ≤ nI i) => absurd g (nI_ge (by omega) (by omega)), fun _ => ?_⟩
      refine ⟨in12 (n := i) (by omega) rfl, (15, i), R0_ca (by omega) rfl, in12 (n := n) (by omega) rfl, (15, n), R0_ca (by omega) rfl, ?_⟩
      refine hG _ _ _ _ (gm_isAt ?_)
      refine br_z (fun g => ?_) (fun g => ?_)
      · refine hK _ _ _ _ _ (go_bus (ih (i + 1) (by omega) (fun j hj => ?_)) ⟨lvi (nI_1 i), rfl, rfl, trivial⟩)
        rcases Nat.lt_or_ge j i with q | q
        · exact hf j q
        · rw [show j = i by omega]; exact g
      · exact rb_f (p := False) (fun q => q) (h False ⟨fun q => q.elim, fun q => q i (by omega) g⟩)
  exact key n 0 (by omega) (fun _ hi => absurd hi (Nat.not_lt_zero _))
end LOOP
