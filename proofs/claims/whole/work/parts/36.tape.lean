/-! Texts: what is read of the tape, and the class's tape. -/
def skF (b : Nat → Int32) : Nat → Nat → Nat
  | 0, p => p
  | m + 1, p => if b p = 32 then skF b m (p + 1) else p
/-- behind the blanks from p on -/
def sk (b : Nat → Int32) (n p : Nat) : Nat := skF b (n - p) p
def erF (b : Nat → Int32) (lo hi : Int32) : Nat → Nat → Nat
  | 0, p => p
  | m + 1, p => if lo ≤ b p ∧ b p ≤ hi then erF b lo hi m (p + 1) else p
/-- behind the run from p on -/
def er (b : Nat → Int32) (n : Nat) (lo hi : Int32) (p : Nat) : Nat := erF b lo hi (n - p) p
theorem skF_le (b : Nat → Int32) : ∀ m p, p ≤ skF b m p ∧ skF b m p ≤ p + m
  | 0, p => ⟨Nat.le_refl _, Nat.le_refl _⟩
  | m + 1, p => by
    unfold skF; split
    · have := skF_le b m (p + 1); omega
    · omega
theorem sk_le {b : Nat → Int32} {n p : Nat} (h : p ≤ n) : p ≤ sk b n p ∧ sk b n p ≤ n := by
  have := skF_le b (n - p) p; unfold sk; omega
theorem erF_le (b : Nat → Int32) (lo hi : Int32) : ∀ m p, p ≤ erF b lo hi m p ∧ erF b lo hi m p ≤ p + m
  | 0, p => ⟨Nat.le_refl _, Nat.le_refl _⟩
  | m + 1, p => by
    unfold erF; split
    · have := erF_le b lo hi m (p + 1); omega
    · omega
theorem er_le {b : Nat → Int32} {n : Nat} {lo hi : Int32} {p : Nat} (h : p ≤ n) : p ≤ er b n lo hi p ∧ er b n lo hi p ≤ n := by
  have := erF_le b lo hi (n - p) p; unfold er; omega
/-- a word of the tables -/
def wd (k : Nat) : List Int32 := strB.getD k []
def allB (f : Nat → Bool) : Nat → Bool
  | 0 => true
  | n + 1 => allB f n && f n
theorem allB_iff {f : Nat → Bool} : ∀ {n : Nat}, allB f n = true ↔ ∀ i, i < n → f i = true
  | 0 => ⟨fun _ _ h => absurd h (Nat.not_lt_zero _), fun _ => rfl⟩
  | n + 1 => by
    unfold allB
    rw [Bool.and_eq_true, allB_iff]
    refine ⟨fun h i hi => ?_, fun h => ⟨fun i hi => h i (by omega), h n (by omega)⟩⟩
    rcases Nat.lt_or_ge i n with q | q
    · exact h.1 i q
    · rw [show i = n by omega]; exact h.2
/-- the word k is at p -/
def isW (b : Nat → Int32) (n p k : Nat) : Bool := decide (er b n 97 122 p = p + (wd k).length) && allB (fun i => decide (b (p + i) = (wd k).getD i 0)) (wd k).length
def tSign (b : Nat → Int32) (n p : Nat) (c : Int32) : Bool := decide (p < n) && decide (b p = c)
def nvF (b : Nat → Int32) : Nat → Nat → Int32 → Int32
  | 0, _, a => a
  | m + 1, p, a => nvF b m (p + 1) (a * 10 + b p - 48)
/-- the number at p, or -1 -/
def nmb (b : Nat → Int32) (n : Nat) (most : Int32) (p : Nat) : Int32 :=
  if er b n 48 57 p = p ∨ 6 < er b n 48 57 p - p then -1 else if nvF b (er b n 48 57 p - p) p 0 ≤ most then nvF b (er b n 48 57 p - p) p 0 else -1
def pos (M : MM) (p : Nat) : MM := uI M 1 0 2 (nI p)
/-- the tape has n bytes, and is read up to p -/
def TP (M : MM) (n p : Nat) : Prop := n ≤ 400 ∧ p ≤ n ∧ M.1 1 0 1 = nI n ∧ M.1 1 0 2 = nI p
theorem TP.pos {M : MM} {n p q : Nat} (h : TP M n p) (hq : q ≤ n) : TP (pos M q) n q := ⟨h.1, hq, h.2.2.1, rfl⟩
theorem uI_uI (M : MM) (t i k : Nat) (x y : Int32) : uI (uI M t i k x) t i k y = uI M t i k y := by
  apply Prod.ext
  · funext a b c
    rw [uI_1, uI_1, uI_1]
    split <;> rfl
  · rfl
theorem uI_id {M : MM} {t i k : Nat} {x : Int32} (h : M.1 t i k = x) : uI M t i k x = M := by
  apply Prod.ext
  · funext a b c
    rw [uI_1]
    split
    · rename_i e; rw [e.1, e.2.1, e.2.2, h]
    · rfl
  · rfl
theorem pos_pos (M : MM) (p q : Nat) : pos (pos M p) q = pos M q := uI_uI _ _ _ _ _ _
theorem pos_id {M : MM} {n p : Nat} (h : TP M n p) : pos M p = M := uI_id h.2.2.2
theorem isTrue_of {b : Bool} {p : Prop} (hb : b = true) (h : p) : isTrue b p := by rw [hb]; exact h
section TAPE
variable {Γ : GG} {M : MM} {Q : Out → Mem → Prop} {n p : Nat}
theorem go_moveTo {q : Nat} (hn : n ≤ 400) (hl : M.1 1 0 1 = nI n) (hq : q ≤ n) (h : Q rV (mk (pos M (sk (M.1 2 0) n q)))) : Gm Γ M_X5_moveTo [vr 1 0, vi (nI q)] (mk M) Q := by
  refine gm_step [5] 60 ?_; intro G K hG hK
  refine hK _ _ _ _ _ (go_sub (lv' := [(0, vr 1 0)]) ⟨rfl, trivial⟩ ?_)
  have key : ∀ m q, q + m = n → Q rV (mk (pos M (skF (M.1 2 0) m q))) → Go Γ M_X5_moveTo 5 [(0, vr 1 0)] [] (mk (pos M q)) (0, 0) Q := by
    intro m
    induction m with
    | zero =>
      intro q hq h
      refine go_step [5] 60 ?_; intro G K hG hK
      refine ⟨fun _ => h, fun (g : ¬ M.1 1 0 1 ≤ nI q) => ?_⟩
      rw [hl, show n = q by omega] at g; exact absurd (Int32.le_refl _) g
    | succ m ih =>
      intro q hq h
      have e : cl (nI q) = q := nI_clamp (by omega)
      unfold skF at h
      refine go_step [5] 60 ?_; intro G K hG hK
      refine ⟨fun (g : M.1 1 0 1 ≤ nI q) => ?_, fun _ => ?_⟩
      · rw [hl] at g; exact absurd g (nI_ge (by omega) (by omega))
      · refine ⟨vp_in_nI (by show q < 400; omega) (by decide), ?_⟩
        refine ⟨fun (g : ¬ M.1 2 0 (cl (nI q)) = 32) => ?_, fun (g : ¬ ¬ M.1 2 0 (cl (nI q)) = 32) => ?_⟩
        · rw [e] at g; rw [if_neg g] at h; exact h
        · rw [e] at g; rw [if_pos (Decidable.not_not.mp g)] at h
          have h2 := ih (q + 1) (by omega) h
          have e2 : mk (pos M (q + 1)) = mk (uI (pos M q) 1 0 2 (nI q + 1)) := by rw [nI_1]; show _ = mk (pos (pos M q) (q + 1)); rw [pos_pos]
          rw [e2] at h2
          exact hK _ _ _ _ _ h2
  exact key (n - q) q (by omega) h
theorem go_endOfRun {lo hi : Int32} (hT : TP M n p) (h : Q (rI (nI (er (M.1 2 0) n lo hi p))) (mk M)) : Gm Γ M_X5_endOfRun [vr 1 0, vi lo, vi hi] (mk M) Q := by
  obtain ⟨hn, hp, hl, ha⟩ := hT
  refine gm_step [5] 60 ?_; intro G K hG hK
  refine hK _ _ _ _ _ (go_sub (lv' := [(3, vi (nI p)), (2, vi hi), (1, vi lo), (0, vr 1 0)]) ⟨lvi ha, rfl, rfl, rfl, trivial⟩ ?_)
  have key : ∀ m q, q + m = n → Q (rI (nI (erF (M.1 2 0) lo hi m q))) (mk M) → Go Γ M_X5_endOfRun 5 [(3, vi (nI q)), (2, vi hi), (1, vi lo), (0, vr 1 0)] [] (mk M) (0, 0) Q := by
    intro m
    induction m with
    | zero =>
      intro q hq h
      refine go_step [5] 60 ?_; intro G K hG hK
      refine ⟨fun _ => h, fun (g : ¬ M.1 1 0 1 ≤ nI q) => ?_⟩
      rw [hl, show n = q by omega] at g; exact absurd (Int32.le_refl _) g
    | succ m ih =>
      intro q hq h
      have e : cl (nI q) = q := nI_clamp (by omega)
      have hv : vp_in (nI q) 400 := vp_in_nI (by omega) (by decide)
      unfold erF at h
      refine go_step [5] 60 ?_; intro G K hG hK
      refine ⟨fun (g : M.1 1 0 1 ≤ nI q) => ?_, fun _ => ?_⟩
      · rw [hl] at g; exact absurd g (nI_ge (by omega) (by omega))
      · refine ⟨hv, ?_⟩
        refine ⟨fun (g : M.1 2 0 (cl (nI q)) < lo) => ?_, fun (g : ¬ M.1 2 0 (cl (nI q)) < lo) => ?_⟩
        · rw [e] at g; rw [if_neg (fun z => Int32.not_lt.mpr z.1 g)] at h; exact h
        · rw [e] at g
          refine ⟨hv, ?_⟩
          refine ⟨fun (g2 : hi < M.1 2 0 (cl (nI q))) => ?_, fun (g2 : ¬ hi < M.1 2 0 (cl (nI q))) => ?_⟩
          · rw [e] at g2; rw [if_neg (fun z => Int32.not_lt.mpr z.2 g2)] at h; exact h
          · rw [e] at g2; rw [if_pos ⟨Int32.not_lt.mp g, Int32.not_lt.mp g2⟩] at h
            exact hK _ _ _ _ _ (go_bus (ih (q + 1) (by omega) h) ⟨lvi (nI_1 q), rfl, rfl, rfl, trivial⟩)
  exact key (n - p) p (by omega) h
theorem go_isAtEnd (hT : TP M n p) (h : Q (rI (b32 (p = n))) (mk M)) : Gm Γ M_X5_isAtEnd [vr 1 0] (mk M) Q := by
  obtain ⟨hn, hp, hl, ha⟩ := hT
  refine gm_step [] 60 ?_; intro G K hG hK
  refine ⟨fun (g : M.1 1 0 2 < M.1 1 0 1) => ?_, fun (g : ¬ M.1 1 0 2 < M.1 1 0 1) => ?_⟩
  · rw [hl, ha] at g
    exact rb_f (fun e => Int32.lt_irrefl (by rw [e] at g; exact g)) h
  · rw [hl, ha] at g
    exact rb_t (Nat.le_antisymm hp (Nat.not_lt.mp fun q => g (nI_lt q (by omega)))) h
theorem go_takeSign {s : Int32} (hT : TP M n p) (h : Q (rI (b32 (tSign (M.1 2 0) n p s = true))) (mk (if tSign (M.1 2 0) n p s = true then pos M (sk (M.1 2 0) n (p + 1)) else M))) : Gm Γ M_X5_takeSign [vr 1 0, vi s] (mk M) Q := by
  have hT0 := hT
  obtain ⟨hn, hp, hl, ha⟩ := hT
  have e : cl (nI p) = p := nI_clamp (by omega)
  refine gm_step [] 60 ?_; intro G K hG hK
  refine ⟨fun (g : M.1 1 0 1 ≤ M.1 1 0 2) => ?_, fun (g : ¬ M.1 1 0 1 ≤ M.1 1 0 2) => ?_⟩
  · rw [hl, ha] at g
    have hf : ¬ tSign (M.1 2 0) n p s = true := by
      unfold tSign
      rw [decide_eq_false (fun q : p < n => nI_ge q (by omega) g)]; simp
    rw [if_neg hf] at h
    exact rb_f hf h
  · rw [hl, ha] at g
    have hpn : p < n := Nat.not_le.mp fun q => g (nI_le q (by omega))
    refine ⟨by show vp_in (M.1 1 0 2) 400; rw [ha]; exact vp_in_nI (by omega) (by decide), ?_⟩
    refine ⟨fun (g2 : M.1 2 0 (cl (M.1 1 0 2)) = s) => ?_, fun (g2 : ¬ M.1 2 0 (cl (M.1 1 0 2)) = s) => ?_⟩
    · rw [ha, e] at g2
      have ht : tSign (M.1 2 0) n p s = true := by unfold tSign; rw [decide_eq_true hpn, decide_eq_true g2]; rfl
      rw [if_pos ht] at h
      show G M_X5_moveTo [vr 1 0, vi (M.1 1 0 2 + 1)] (mk M) _
      rw [ha, nI_1]
      refine hG _ _ _ _ (go_moveTo hT0.1 hT0.2.2.1 (by omega) ?_)
      exact rb_t ht h
    · rw [ha, e] at g2
      have hf : ¬ tSign (M.1 2 0) n p s = true := by
        unfold tSign; rw [decide_eq_false g2, Bool.and_false]; decide
      rw [if_neg hf] at h
      exact rb_f hf h
theorem wd_len {k : Nat} (h : k < 28) : (wd k).length ≤ 50 := by
  have : (List.range 28).all (fun k => Nat.ble (wd k).length 50) = true := by decide +kernel
  exact Nat.le_of_ble_eq_true (List.all_eq_true.mp this k (List.mem_range.mpr h))
theorem go_isWordAhead {k : Nat} (hT : TP M n p) (hk : k < 28) (h : Q (rI (b32 (isW (M.1 2 0) n p k = true))) (mk M)) : Gm Γ M_X5_isWordAhead [vr 1 0, vr 200 k] (mk M) Q := by
  have hT0 := hT
  obtain ⟨hn, hp, hl, ha⟩ := hT
  have hb : Nat.ble (k + 1) 28 = true := Nat.ble_eq_true_of_le hk
  have hw := wd_len hk
  obtain ⟨e1, e2⟩ := er_le (b := M.1 2 0) (lo := 97) (hi := 122) hp
  refine gm_step [24] 60 ?_; intro G K hG hK
  refine hG _ _ _ _ (go_endOfRun hT0 ?_)
  refine isTrue_of (by rw [hb]; rfl) ?_
  refine ⟨fun (g : nI (er (M.1 2 0) n 97 122 p) - M.1 1 0 2 = nI (wd k).length) => ?_, fun (g : ¬ nI (er (M.1 2 0) n 97 122 p) - M.1 1 0 2 = nI (wd k).length) => ?_⟩
  rotate_left
  · rw [ha, pk_sub e1, nI_eq (by omega) (by omega)] at g
    refine rb_f ?_ h
    unfold isW
    rw [decide_eq_false (by omega), Bool.false_and]; decide
  rw [ha, pk_sub e1, nI_eq (by omega) (by omega)] at g
  have he : er (M.1 2 0) n 97 122 p = p + (wd k).length := by omega
  refine hK _ _ _ _ _ (go_sub (lv' := [(2, vi (nI 0)), (1, vr 200 k), (0, vr 1 0)]) ⟨rfl, rfl, rfl, trivial⟩ ?_)
  have key : ∀ m i, i + m = (wd k).length → (∀ j, j < i → M.1 2 0 (p + j) = (wd k).getD j 0) → Go Γ M_X5_isWordAhead 24 [(2, vi (nI i)), (1, vr 200 k), (0, vr 1 0)] [] (mk M) (0, 0) Q := by
    intro m
    induction m with
    | zero =>
      intro i hi hs
      refine go_step [24] 60 ?_; intro G K hG hK
      refine isTrue_of (by rw [hb]; rfl) ?_
      refine ⟨fun _ => rb_t ?_ h, fun (g2 : ¬ nI (wd k).length ≤ nI i) => ?_⟩
      · unfold isW
        rw [Bool.and_eq_true, decide_eq_true_iff, allB_iff]
        exact ⟨he, fun j hj => decide_eq_true (hs j (by omega))⟩
      · rw [show (wd k).length = i by omega] at g2; exact absurd (Int32.le_refl _) g2
    | succ m ih =>
      intro i hi hs
      have ec : cl (nI (p + i)) = p + i := nI_clamp (by omega)
      have ei : cl (nI i) = i := nI_clamp (by omega)
      refine go_step [24] 60 ?_; intro G K hG hK
      refine isTrue_of (by rw [hb]; rfl) ?_
      refine ⟨fun (g2 : nI (wd k).length ≤ nI i) => absurd g2 (nI_ge (by omega) (by omega)), fun _ => ?_⟩
      refine ⟨fun (g3 : M.1 1 0 1 ≤ M.1 1 0 2 + nI i) => ?_, fun _ => ?_⟩
      · rw [hl, ha, nI_add] at g3; exact absurd g3 (nI_ge (by omega) (by omega))
      · refine ⟨by show vp_in (M.1 1 0 2 + nI i) 400; rw [ha, nI_add]; exact vp_in_nI (by omega) (by decide), ?_⟩
        refine isTrue_of (by rw [hb]; rfl) ?_
        refine ⟨vp_in_nI (show i < (wd k).length by omega) (by show (wd k).length < _; omega), ?_⟩
        refine ⟨fun (g4 : M.1 2 0 (cl (M.1 1 0 2 + nI i)) = (wd k).getD (cl (nI i)) 0) => ?_, fun (g4 : ¬ M.1 2 0 (cl (M.1 1 0 2 + nI i)) = (wd k).getD (cl (nI i)) 0) => ?_⟩
        · rw [ha, nI_add, ec, ei] at g4
          refine hK _ _ _ _ _ (go_bus (ih (i + 1) (by omega) (fun j hj => ?_)) ⟨lvi (nI_1 i), rfl, rfl, trivial⟩)
          rcases Nat.lt_or_ge j i with q | q
          · exact hs j q
          · rw [show j = i by omega]; exact g4
        · rw [ha, nI_add, ec, ei] at g4
          refine rb_f (fun q => ?_) h
          unfold isW at q
          rw [Bool.and_eq_true, allB_iff] at q
          exact g4 (of_decide_eq_true (q.2 i (by omega)))
  exact key (wd k).length 0 (by omega) (fun j hj => absurd hj (Nat.not_lt_zero _))
theorem go_takeWord {k : Nat} (hT : TP M n p) (hk : k < 28) (h : Q (rI (b32 (isW (M.1 2 0) n p k = true))) (mk (if isW (M.1 2 0) n p k = true then pos M (sk (M.1 2 0) n (er (M.1 2 0) n 97 122 p)) else M))) : Gm Γ M_X5_takeWord [vr 1 0, vr 200 k] (mk M) Q := by
  have hT0 := hT
  obtain ⟨hn, hp, hl, ha⟩ := hT
  have hb : Nat.ble (k + 1) 28 = true := Nat.ble_eq_true_of_le hk
  obtain ⟨e1, e2⟩ := er_le (b := M.1 2 0) (lo := 97) (hi := 122) hp
  refine gm_step [] 60 ?_; intro G K hG hK
  refine hG _ _ _ _ (go_isWordAhead hT0 hk ?_)
  refine br_n (fun g => ?_) (fun g => ?_)
  · rw [if_pos g] at h
    have he : er (M.1 2 0) n 97 122 p = p + (wd k).length := by
      unfold isW at g; rw [Bool.and_eq_true, decide_eq_true_iff] at g; exact g.1
    refine isTrue_of (by rw [hb]; rfl) ?_
    show G M_X5_moveTo [vr 1 0, vi (M.1 1 0 2 + nI (wd k).length)] (mk M) _
    rw [ha, nI_add, ← he]
    refine hG _ _ _ _ (go_moveTo hT0.1 hT0.2.2.1 e2 ?_)
    exact rb_t g h
  · rw [if_neg g] at h
    exact rb_f g h
theorem go_takeAnyWord (hT : TP M n p) (h : Q rV (mk (pos M (sk (M.1 2 0) n (er (M.1 2 0) n 97 122 p))))) : Gm Γ M_X5_takeAnyWord [vr 1 0] (mk M) Q := by
  obtain ⟨e1, e2⟩ := er_le (b := M.1 2 0) (lo := 97) (hi := 122) hT.2.1
  refine gm_step [] 60 ?_; intro G K hG hK
  refine hG _ _ _ _ (go_endOfRun hT ?_)
  refine hG _ _ _ _ (go_moveTo hT.1 hT.2.2.1 e2 ?_)
  exact h
def pty (b : Nat → Int32) (n p : Nat) : Int32 := if isW b n p 14 = true then 0 else if isW b n p 6 = true then 1 else if isW b n p 26 = true then 2 else -1
theorem go_partyAhead (hT : TP M n p) (h : Q (rI (pty (M.1 2 0) n p)) (mk M)) : Gm Γ M_X5_partyAhead [vr 1 0] (mk M) Q := by
  unfold pty at h
  refine gm_step [] 60 ?_; intro G K hG hK
  refine hG _ _ _ _ (go_isWordAhead (k := 14) hT (by decide) ?_)
  refine br_z (fun g => ?_) (fun g => ?_)
  rotate_left
  · rw [if_pos g] at h; exact h
  rw [if_neg g] at h
  refine hG _ _ _ _ (go_isWordAhead (k := 6) hT (by decide) ?_)
  refine br_z (fun g => ?_) (fun g => ?_)
  rotate_left
  · rw [if_pos g] at h; exact h
  rw [if_neg g] at h
  refine hG _ _ _ _ (go_isWordAhead (k := 26) hT (by decide) ?_)
  refine br_z (fun g => ?_) (fun g => ?_)
  · rw [if_neg g] at h; exact h
  · rw [if_pos g] at h; exact h
theorem go_takeNumber {most : Int32} (hT : TP M n p) (h : Q (rI (nmb (M.1 2 0) n most p)) (mk (if nmb (M.1 2 0) n most p = -1 then M else pos M (sk (M.1 2 0) n (er (M.1 2 0) n 48 57 p))))) (hne : ¬ (er (M.1 2 0) n 48 57 p = p ∨ 6 < er (M.1 2 0) n 48 57 p - p) → ¬ nvF (M.1 2 0) (er (M.1 2 0) n 48 57 p - p) p 0 = -1) : Gm Γ M_X5_takeNumber [vr 1 0, vi most] (mk M) Q := by
  have hT0 := hT
  obtain ⟨hn, hp, hl, ha⟩ := hT
  obtain ⟨e1, e2⟩ := er_le (b := M.1 2 0) (lo := 48) (hi := 57) hp
  refine gm_step [38] 60 ?_; intro G K hG hK
  refine hG _ _ _ _ (go_endOfRun (lo := 48) (hi := 57) hT0 ?_)
  unfold nmb at h
  generalize er (M.1 2 0) n 48 57 p = e at h e1 e2 hne
  refine ⟨fun (g : nI e = M.1 1 0 2) => ?_, fun (g : ¬ nI e = M.1 1 0 2) => ?_⟩
  · rw [ha, nI_eq (by omega) (by omega)] at g
    rw [if_pos (Or.inl g), if_pos rfl] at h; exact h
  rw [ha, nI_eq (by omega) (by omega)] at g
  refine ⟨fun (g2 : nI e - M.1 1 0 2 ≤ 6) => ?_, fun (g2 : ¬ nI e - M.1 1 0 2 ≤ 6) => ?_⟩
  rotate_left
  · rw [ha, pk_sub e1, show (6 : Int32) = nI 6 from rfl, nI_leI (by omega) (by omega)] at g2
    rw [if_pos (Or.inr (by omega)), if_pos rfl] at h; exact h
  rw [ha, pk_sub e1, show (6 : Int32) = nI 6 from rfl, nI_leI (by omega) (by omega)] at g2
  have hno : ¬ (e = p ∨ 6 < e - p) := by omega
  rw [if_neg hno] at h
  have hne := hne hno
  refine hK _ _ _ _ _ (go_sub (lv' := [(4, vi (nI p)), (3, vi 0), (2, vi (nI e)), (1, vi most), (0, vr 1 0)]) ⟨lvi ha, rfl, rfl, rfl, rfl, trivial⟩ ?_)
  have key : ∀ m i (a : Int32), i + m = e → nvF (M.1 2 0) m i a = nvF (M.1 2 0) (e - p) p 0 → Go Γ M_X5_takeNumber 38 [(4, vi (nI i)), (3, vi a), (2, vi (nI e)), (1, vi most), (0, vr 1 0)] [] (mk M) (0, 0) Q := by
    intro m
    induction m with
    | zero =>
      intro i a hi hv
      have hv : a = nvF (M.1 2 0) (e - p) p 0 := hv
      rw [← hv] at h hne
      refine go_step [38] 60 ?_; intro G K hG hK
      refine ⟨fun _ => ?_, fun (g3 : ¬ nI e ≤ nI i) => ?_⟩
      rotate_left
      · rw [show e = i by omega] at g3; exact absurd (Int32.le_refl _) g3
      refine ⟨fun (g4 : a ≤ most) => ?_, fun (g4 : ¬ a ≤ most) => ?_⟩
      · rw [if_pos g4, if_neg hne] at h
        refine hG _ _ _ _ (go_moveTo hT0.1 hT0.2.2.1 e2 ?_)
        exact h
      · rw [if_neg g4, if_pos rfl] at h; exact h
    | succ m ih =>
      intro i a hi hv
      have ec : cl (nI i) = i := nI_clamp (by omega)
      refine go_step [38] 60 ?_; intro G K hG hK
      refine ⟨fun (g3 : nI e ≤ nI i) => absurd g3 (nI_ge (by omega) (by omega)), fun _ => ?_⟩
      refine ⟨fun (g3 : nI 400 ≤ nI i) => absurd g3 (nI_ge (by omega) (by omega)), fun _ => ?_⟩
      refine ⟨vp_in_nI (show i < 400 by omega) (by decide), ?_⟩
      refine hK _ _ _ _ _ (go_bus (ih (i + 1) _ (by omega) hv) ⟨lvi (nI_1 i), lvi (by show a * 10 + M.1 2 0 (cl (nI i)) - 48 = a * 10 + M.1 2 0 i - 48; rw [ec]), rfl, rfl, rfl, trivial⟩)
  exact key (e - p) p 0 (by omega) rfl
end TAPE
