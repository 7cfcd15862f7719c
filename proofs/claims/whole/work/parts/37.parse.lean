/-! Texts: the class reads orders. -/
def m6 : Int32 := Int32.ofInt 999999
theorem erF_run (b : Nat → Int32) (lo hi : Int32) : ∀ m p i, p ≤ i → i < erF b lo hi m p → lo ≤ b i ∧ b i ≤ hi
  | 0, p, i, h1, h2 => by unfold erF at h2; omega
  | m + 1, p, i, h1, h2 => by
    unfold erF at h2
    split at h2
    · rename_i g
      rcases Nat.lt_or_ge p i with q | q
      · exact erF_run b lo hi m (p + 1) i q h2
      · rw [show i = p by omega]; exact g
    · omega
theorem nv_val (b : Nat → Int32) : ∀ m p v, (∀ i, p ≤ i → i < p + m → (48 : Int32) ≤ b i ∧ b i ≤ 57) → ∃ w, nvF b m p (nI v) = nI w ∧ w < (v + 1) * 10 ^ m
  | 0, p, v, _ => ⟨v, rfl, by omega⟩
  | m + 1, p, v, h => by
    obtain ⟨g1, g2⟩ := h p (Nat.le_refl _) (by omega)
    obtain ⟨d, hd, e⟩ := nI_of (x := b p) (Int32.not_lt.mpr (Int32.le_trans (by decide) g1))
    rw [e] at g1 g2
    have h1 : 48 ≤ d := (nI_leI (a := 48) (by decide) hd).mp g1
    have h2 : d ≤ 57 := (nI_leI (b := 57) hd (by decide)).mp g2
    obtain ⟨w, hw, hl⟩ := nv_val b m (p + 1) (v * 10 + d - 48) (fun i a c => h i (by omega) (by omega))
    refine ⟨w, ?_, ?_⟩
    · unfold nvF
      rw [e, show (nI v * 10 + nI d - 48 : Int32) = nI (v * 10 + d - 48) from by rw [show (10 : Int32) = nI 10 from rfl, pk_mul, nI_add, show (48 : Int32) = nI 48 from rfl, pk_sub (by omega)]]
      exact hw
    · have : v * 10 + d - 48 + 1 ≤ (v + 1) * 10 := by omega
      calc w < (v * 10 + d - 48 + 1) * 10 ^ m := hl
        _ ≤ ((v + 1) * 10) * 10 ^ m := Nat.mul_le_mul_right _ this
        _ = (v + 1) * 10 ^ (m + 1) := by rw [Nat.pow_succ, Nat.mul_assoc, Nat.mul_comm 10]
theorem nv_dig {b : Nat → Int32} {n p : Nat} (h : ¬ (er b n 48 57 p = p ∨ 6 < er b n 48 57 p - p)) : ∃ w, nvF b (er b n 48 57 p - p) p 0 = nI w ∧ w < 1000000 := by
  obtain ⟨w, hw, hl⟩ := nv_val b (er b n 48 57 p - p) p 0 (fun i a c => erF_run b 48 57 (n - p) p i a (by unfold er at c; unfold er at h; omega))
  refine ⟨w, hw, ?_⟩
  have : 10 ^ (er b n 48 57 p - p) ≤ 10 ^ 6 := Nat.pow_le_pow_right (by decide) (by omega)
  omega
theorem ne_m1 {w : Nat} (h : w < 2 ^ 31) : ¬ nI w = -1 := fun e => nI_pos h (by rw [e]; decide)
def nw (b : Nat → Int32) (n p : Nat) : Nat := sk b n (er b n 97 122 p)
def nn (b : Nat → Int32) (n p : Nat) : Nat := sk b n (er b n 48 57 p)
theorem nw_le {b : Nat → Int32} {n p : Nat} (h : p ≤ n) : nw b n p ≤ n := (sk_le (er_le h).2).2
theorem nn_le {b : Nat → Int32} {n p : Nat} (h : p ≤ n) : nn b n p ≤ n := (sk_le (er_le h).2).2
/-- a number that was read -/
theorem nmb_ok {b : Nat → Int32} {n p : Nat} {most : Int32} (h : ¬ nmb b n most p = -1) : (∃ w, nmb b n most p = nI w ∧ w < 1000000) ∧ nmb b n most p ≤ most := by
  unfold nmb at h ⊢
  split at h
  · exact absurd rfl h
  · rename_i g
    rw [if_neg g]
    split at h
    · rename_i g2
      rw [if_pos g2]
      exact ⟨nv_dig g, g2⟩
    · exact absurd rfl h
theorem br1n {A B : Prop} (h : A) : (¬ (1 : Int32) = 0 → A) ∧ (¬ ¬ (1 : Int32) = 0 → B) := ⟨fun _ => h, fun q => absurd (by decide) q⟩
theorem br0n {A B : Prop} (h : B) : (¬ (0 : Int32) = 0 → A) ∧ (¬ ¬ (0 : Int32) = 0 → B) := ⟨fun q => absurd rfl q, fun _ => h⟩
theorem br1z {A B : Prop} (h : B) : ((1 : Int32) = 0 → A) ∧ (¬ (1 : Int32) = 0 → B) := ⟨fun q => absurd q (by decide), fun _ => h⟩
theorem br0z {A B : Prop} (h : A) : ((0 : Int32) = 0 → A) ∧ (¬ (0 : Int32) = 0 → B) := ⟨fun _ => h, fun q => absurd rfl q⟩
theorem rb1 {P : Prop} (h : P) : ((1 : Int32) = 0 ∨ (1 : Int32) = 1) ∧ P := ⟨Or.inr rfl, h⟩
theorem rb0 {P : Prop} (h : P) : ((0 : Int32) = 0 ∨ (0 : Int32) = 1) ∧ P := ⟨Or.inl rfl, h⟩
section TAP2
variable {Γ : GG} {M : MM} {Q : Out → Mem → Prop} {n p : Nat} {b : Nat → Int32}
theorem gm_takeWord {k : Nat} (hT : TP M n p) (hk : k < 28) (hb : M.1 2 0 = b) (ht : isW b n p k = true → Q (rI 1) (mk (pos M (nw b n p)))) (hf : ¬ isW b n p k = true → Q (rI 0) (mk M)) : Gm Γ M_X5_takeWord [vr 1 0, vr 200 k] (mk M) Q := by
  subst hb
  refine go_takeWord hT hk ?_
  by_cases g : isW (M.1 2 0) n p k = true
  · rw [b32_t g, if_pos g]; exact ht g
  · rw [b32_f g, if_neg g]; exact hf g
theorem gm_takeSign {s : Int32} (hT : TP M n p) (hb : M.1 2 0 = b) (ht : tSign b n p s = true → Q (rI 1) (mk (pos M (sk b n (p + 1))))) (hf : ¬ tSign b n p s = true → Q (rI 0) (mk M)) : Gm Γ M_X5_takeSign [vr 1 0, vi s] (mk M) Q := by
  subst hb
  refine go_takeSign hT ?_
  by_cases g : tSign (M.1 2 0) n p s = true
  · rw [b32_t g, if_pos g]; exact ht g
  · rw [b32_f g, if_neg g]; exact hf g
theorem gm_takeNumber {most : Int32} (hT : TP M n p) (hb : M.1 2 0 = b) (ht : ¬ nmb b n most p = -1 → Q (rI (nmb b n most p)) (mk (pos M (nn b n p)))) (hf : nmb b n most p = -1 → Q (rI (-1)) (mk M)) : Gm Γ M_X5_takeNumber [vr 1 0, vi most] (mk M) Q := by
  subst hb
  refine go_takeNumber hT ?_ (fun g => ?_)
  · by_cases g : nmb (M.1 2 0) n most p = -1
    · rw [if_pos g, g]; exact hf g
    · rw [if_neg g]; exact ht g
  · obtain ⟨w, hw, hl⟩ := nv_dig g
    rw [hw]; exact ne_m1 (by omega)
def pAct (b : Nat → Int32) (n p : Nat) : Int32 := if isW b n p 7 = true then 0 else if isW b n p 9 = true then 1 else if isW b n p 15 = true then 2 else if isW b n p 27 = true then 3 else if isW b n p 4 = true then 4 else -1
theorem go_takeAct (hT : TP M n p) (hb : M.1 2 0 = b) (ht : ¬ pAct b n p = -1 → Q (rI (pAct b n p)) (mk (pos M (nw b n p)))) (hf : pAct b n p = -1 → Q (rI (-1)) (mk M)) : Gm Γ M_X3_takeAct [vr 1 0] (mk M) Q := by
  unfold pAct at ht hf
  refine gm_step [] 60 ?_; intro G K hG hK
  refine hG _ _ _ _ (gm_takeWord (k := 7) hT (by decide) hb (fun g => ?_) (fun g => ?_))
  · rw [if_pos g] at ht; exact br1z (ht (by decide))
  rw [if_neg g] at ht hf
  refine br0z ?_
  refine hG _ _ _ _ (gm_takeWord (k := 9) hT (by decide) hb (fun g => ?_) (fun g => ?_))
  · rw [if_pos g] at ht; exact br1z (ht (by decide))
  rw [if_neg g] at ht hf
  refine br0z ?_
  refine hG _ _ _ _ (gm_takeWord (k := 15) hT (by decide) hb (fun g => ?_) (fun g => ?_))
  · rw [if_pos g] at ht; exact br1z (ht (by decide))
  rw [if_neg g] at ht hf
  refine br0z ?_
  refine hG _ _ _ _ (gm_takeWord (k := 27) hT (by decide) hb (fun g => ?_) (fun g => ?_))
  · rw [if_pos g] at ht; exact br1z (ht (by decide))
  rw [if_neg g] at ht hf
  refine br0z ?_
  refine hG _ _ _ _ (gm_takeWord (k := 4) hT (by decide) hb (fun g => ?_) (fun g => ?_))
  · rw [if_pos g] at ht; exact br1z (ht (by decide))
  rw [if_neg g] at hf
  exact br0z (hf rfl)
/-- an act: (act, number) and where it ends -/
def aAct (b : Nat → Int32) (n p : Nat) : Except Nat ((Int32 × Int32) × Nat) :=
  if pAct b n p = -1 then .error p else if pAct b n p = 4 then .ok ((4, 0), nw b n p) else
  if nmb b n m6 (nw b n p) = -1 then .error (nw b n p) else .ok ((pAct b n p, nmb b n m6 (nw b n p)), nn b n (nw b n p))
def pO (i t k : Nat) : Prop := (t = 1 ∧ k = 2) ∨ (4 ≤ t ∧ t ≤ 8 ∧ k = i)
theorem Fr.pos {P : Nat → Nat → Prop} {A : MM} {q : Nat} (h : P 1 2) : Fr P A (pos A q) := Fr.u h
theorem tS_lt {s : Int32} (h : tSign b n p s = true) : p < n := by
  unfold tSign at h; rw [Bool.and_eq_true, decide_eq_true_iff] at h; exact h.1
theorem go_readTest82 {x : Int32} {q : Nat} {C : MM} {tv mv : Int32} (hx : vp_in x 12) (hT : TP C n q) (hb : C.1 2 0 = b) (e4 : C.1 4 0 (cl x) = tv) (e5 : C.1 5 0 (cl x) = mv)
    (hf : nmb b n m6 q = -1 → ∀ M', Fr (pO (cl x)) C M' → TP M' n q → Q (rI 0) (mk M'))
    (ht : ¬ nmb b n m6 q = -1 → ∀ M', Fr (pO (cl x)) C M' → TP M' n (nn b n q) → M'.1 4 0 (cl x) = tv → (M'.1 5 0 (cl x) = mv ∧ M'.1 6 0 (cl x) = nmb b n m6 q) → Q (rI 1) (mk M')) : Go Γ M_X3_readTest 82 [(2, vi x), (1, vr 1 0), (0, vr 3 0)] [] (mk C) (0, 0) Q := by
  have k6 : pO (cl x) 6 (cl x) := Or.inr ⟨by decide, by decide, rfl⟩
  have k1 : pO (cl x) 1 2 := Or.inl ⟨rfl, rfl⟩
  refine go_step [] 60 ?_; intro G K hG hK
  refine hG _ _ _ _ (gm_takeNumber (M := C) (most := m6) hT hb (fun g4 => ?_) (fun g4 => ?_))
  · refine ⟨hx, hx, ?_⟩
    refine br_of (P' := nmb b n m6 q = -1) (by show up3 _ 6 0 (cl x) _ 6 0 (cl x) = -1 ↔ _; rw [up3_self]) (fun q => absurd q g4) (fun _ => ?_)
    exact rb1 (ht g4 (uI (pos C (nn b n q)) 6 0 (cl x) (nmb b n m6 q)) ((Fr.pos k1).trans (Fr.u k6)) (hT.pos (nn_le hT.2.1)) e4 ⟨e5, up3_self⟩)
  · refine ⟨hx, hx, ?_⟩
    refine br_of (P' := True) (by show up3 _ 6 0 (cl x) _ 6 0 (cl x) = -1 ↔ _; rw [up3_self]; simp) (fun _ => ?_) (fun q => absurd trivial q)
    exact rb0 (hf g4 (uI C 6 0 (cl x) (-1)) (Fr.u k6) hT)
/-- what a condition asks behind its first number -/
def aTest2 (b : Nat → Int32) (n q : Nat) : Except Nat ((Int32 × Int32) × Nat) :=
  if tSign b n q 60 = true then
    if nmb b n m6 (sk b n (q + 1)) = -1 then .error (sk b n (q + 1)) else .ok ((1, nmb b n m6 (sk b n (q + 1))), nn b n (sk b n (q + 1)))
  else if tSign b n q 62 = true then
    if nmb b n m6 (sk b n (q + 1)) = -1 then .error (sk b n (q + 1)) else .ok ((2, nmb b n m6 (sk b n (q + 1))), nn b n (sk b n (q + 1)))
  else .error q
/-- a condition: (test, market, bound) and where it ends; or the first wrong byte -/
def aTest (b : Nat → Int32) (n p : Nat) : Except Nat ((Int32 × Int32 × Int32) × Nat) :=
  if isW b n p 8 = true then
    if nmb b n m6 (nw b n p) = -1 then .error (nw b n p) else
    match aTest2 b n (nn b n (nw b n p)) with
    | .error e => .error e
    | .ok (r, e) => .ok ((r.1, nmb b n m6 (nw b n p), r.2), e)
  else .ok ((0, 0, 0), p)
theorem go_readTest42 {x : Int32} {q : Nat} {B : MM} {mv : Int32} (hx : vp_in x 12) (hT : TP B n q) (hb : B.1 2 0 = b) (e5 : B.1 5 0 (cl x) = mv)
    (hf : ∀ e M', aTest2 b n q = .error e → Fr (pO (cl x)) B M' → TP M' n e → Q (rI 0) (mk M'))
    (ht : ∀ r e M', aTest2 b n q = .ok (r, e) → Fr (pO (cl x)) B M' → TP M' n e → M'.1 4 0 (cl x) = r.1 → (M'.1 5 0 (cl x) = mv ∧ M'.1 6 0 (cl x) = r.2) → ¬ r.1 = 0 → Q (rI 1) (mk M')) : Go Γ M_X3_readTest 42 [(2, vi x), (1, vr 1 0), (0, vr 3 0)] [] (mk B) (0, 0) Q := by
  have k4 : pO (cl x) 4 (cl x) := Or.inr ⟨by decide, by decide, rfl⟩
  have k1 : pO (cl x) 1 2 := Or.inl ⟨rfl, rfl⟩
  unfold aTest2 at hf ht
  refine go_step [82] 60 ?_; intro G K hG hK
  refine hG _ _ _ _ (gm_takeSign (M := B) (s := 60) hT hb (fun g3 => ?_) (fun g3 => ?_))
  · have hlt := tS_lt g3
    simp only [if_pos g3] at hf ht
    refine br1z ?_
    refine ⟨hx, ?_⟩
    have hq3 : sk b n (q + 1) ≤ n := (sk_le (by omega)).2
    refine hK _ _ _ _ _ (go_bus (go_readTest82 (C := uI (pos B (sk b n (q + 1))) 4 0 (cl x) 1) (q := sk b n (q + 1)) (tv := 1) (mv := mv) hx (hT.pos hq3) hb up3_self e5 (fun g4 M' f1 t1 => ?_) (fun g4 M' f1 t1 w1 w2 => ?_)) ⟨rfl, rfl, rfl, trivial⟩)
    · simp only [if_pos g4] at hf
      exact hf _ _ rfl (((Fr.pos k1).trans (Fr.u k4)).trans f1) t1
    · simp only [if_neg g4] at ht
      exact ht _ _ _ rfl (((Fr.pos k1).trans (Fr.u k4)).trans f1) t1 w1 w2 (show ¬ (1 : Int32) = 0 by decide)
  · simp only [if_neg g3] at hf ht
    refine br0z ?_
    refine hG _ _ _ _ (gm_takeSign (M := B) (s := 62) hT hb (fun g5 => ?_) (fun g5 => ?_))
    rotate_left
    · simp only [if_neg g5] at hf
      exact br0z (rb0 (hf _ B rfl Fr.rfl' hT))
    have hlt := tS_lt g5
    simp only [if_pos g5] at hf ht
    refine br1z ?_
    refine ⟨hx, ?_⟩
    have hq3 : sk b n (q + 1) ≤ n := (sk_le (by omega)).2
    refine hK _ _ _ _ _ (go_bus (go_readTest82 (C := uI (pos B (sk b n (q + 1))) 4 0 (cl x) 2) (q := sk b n (q + 1)) (tv := 2) (mv := mv) hx (hT.pos hq3) hb up3_self e5 (fun g4 M' f1 t1 => ?_) (fun g4 M' f1 t1 w1 w2 => ?_)) ⟨rfl, rfl, rfl, trivial⟩)
    · simp only [if_pos g4] at hf
      exact hf _ _ rfl (((Fr.pos k1).trans (Fr.u k4)).trans f1) t1
    · simp only [if_neg g4] at ht
      exact ht _ _ _ rfl (((Fr.pos k1).trans (Fr.u k4)).trans f1) t1 w1 w2 (show ¬ (2 : Int32) = 0 by decide)
theorem go_readTest {x : Int32} (hx : vp_in x 12) (hT : TP M n p) (hb : M.1 2 0 = b)
    (hf : ∀ e M', aTest b n p = .error e → Fr (pO (cl x)) M M' → TP M' n e → Q (rI 0) (mk M'))
    (ht : ∀ r e M', aTest b n p = .ok (r, e) → Fr (pO (cl x)) M M' → TP M' n e → M'.1 4 0 (cl x) = r.1 → (¬ r.1 = 0 → M'.1 5 0 (cl x) = r.2.1 ∧ M'.1 6 0 (cl x) = r.2.2) → Q (rI 1) (mk M')) : Gm Γ M_X3_readTest [vr 3 0, vr 1 0, vi x] (mk M) Q := by
  have hp := hT.2.1
  have k4 : pO (cl x) 4 (cl x) := Or.inr ⟨by decide, by decide, rfl⟩
  have k5 : pO (cl x) 5 (cl x) := Or.inr ⟨by decide, by decide, rfl⟩
  have k1 : pO (cl x) 1 2 := Or.inl ⟨rfl, rfl⟩
  have hq : nw b n p ≤ n := nw_le hp
  unfold aTest at hf ht
  refine gm_step [42] 60 ?_; intro G K hG hK
  refine ⟨hx, ?_⟩
  refine hG _ _ _ _ (gm_takeWord (M := uI M 4 0 (cl x) 0) (k := 8) hT (by decide) hb (fun g => ?_) (fun g => ?_))
  rotate_left
  · simp only [if_neg g] at ht
    exact br0n (rb1 (ht _ _ (uI M 4 0 (cl x) 0) rfl (Fr.u k4) hT up3_self (fun q => absurd rfl q)))
  simp only [if_pos g] at hf ht
  refine br1n ?_
  have f2 : Fr (pO (cl x)) M (pos (uI M 4 0 (cl x) 0) (nw b n p)) := (Fr.u k4).trans (Fr.pos k1)
  refine hG _ _ _ _ (gm_takeNumber (M := pos (uI M 4 0 (cl x) 0) (nw b n p)) (most := m6) (TP.pos (M := uI M 4 0 (cl x) 0) hT hq) hb (fun g2 => ?_) (fun g2 => ?_))
  rotate_left
  · simp only [if_pos g2] at hf
    refine ⟨hx, hx, ?_⟩
    refine br_of (P' := False) (by show ¬ up3 _ 5 0 (cl x) (-1) 5 0 (cl x) = -1 ↔ _; rw [up3_self]; simp) (fun q => q.elim) (fun _ => ?_)
    exact rb0 (hf _ (uI (pos (uI M 4 0 (cl x) 0) (nw b n p)) 5 0 (cl x) (-1)) rfl (f2.trans (Fr.u k5)) (TP.pos (M := uI M 4 0 (cl x) 0) hT hq))
  simp only [if_neg g2] at hf ht
  refine ⟨hx, hx, ?_⟩
  refine br_of (P' := ¬ nmb b n m6 (nw b n p) = -1) (by show ¬ up3 _ 5 0 (cl x) _ 5 0 (cl x) = -1 ↔ _; rw [up3_self]) (fun _ => ?_) (fun q => absurd g2 q)
  refine hK _ _ _ _ _ (go_bus (go_readTest42 (B := uI (pos (pos (uI M 4 0 (cl x) 0) (nw b n p)) (nn b n (nw b n p))) 5 0 (cl x) (nmb b n m6 (nw b n p))) (q := nn b n (nw b n p)) (mv := nmb b n m6 (nw b n p)) hx (TP.pos (M := pos (uI M 4 0 (cl x) 0) (nw b n p)) (TP.pos (M := uI M 4 0 (cl x) 0) hT hq) (nn_le hq)) hb up3_self (fun e M' g3 f1 t1 => ?_) (fun r e M' g3 f1 t1 w1 w2 w3 => ?_)) ⟨rfl, rfl, rfl, trivial⟩)
  · exact hf e M' (by rw [g3]) (((f2.trans (Fr.pos k1)).trans (Fr.u k5)).trans f1) t1
  · exact ht (r.1, nmb b n m6 (nw b n p), r.2) e M' (by rw [g3]) (((f2.trans (Fr.pos k1)).trans (Fr.u k5)).trans f1) t1 w1 (fun _ => w2)
theorem go_readAct34 {x : Int32} {q : Nat} {A : MM} {av : Int32} (hx : vp_in x 12) (hT : TP A n q) (hb : A.1 2 0 = b) (e7 : A.1 7 0 (cl x) = av)
    (hf : nmb b n m6 q = -1 → ∀ M', Fr (pO (cl x)) A M' → TP M' n q → Q (rI 0) (mk M'))
    (ht : ¬ nmb b n m6 q = -1 → ∀ M', Fr (pO (cl x)) A M' → TP M' n (nn b n q) → (∀ t, t ≠ 1 → t ≠ 7 → t ≠ 8 → M'.1 t = A.1 t) → M'.1 7 0 (cl x) = av → M'.1 8 0 (cl x) = nmb b n m6 q → Q (rI 1) (mk M')) : Go Γ M_X3_readAct 34 [(2, vi x), (1, vr 1 0), (0, vr 3 0)] [] (mk A) (0, 0) Q := by
  have k8 : pO (cl x) 8 (cl x) := Or.inr ⟨by decide, by decide, rfl⟩
  have k1 : pO (cl x) 1 2 := Or.inl ⟨rfl, rfl⟩
  refine go_step [] 60 ?_; intro G K hG hK
  refine hG _ _ _ _ (gm_takeNumber (M := A) (most := m6) hT hb (fun g4 => ?_) (fun g4 => ?_))
  · refine ⟨hx, hx, ?_⟩
    refine br_of (P' := nmb b n m6 q = -1) (by show up3 _ 8 0 (cl x) _ 8 0 (cl x) = -1 ↔ _; rw [up3_self]) (fun q => absurd q g4) (fun _ => ?_)
    exact rb1 (ht g4 (uI (pos A (nn b n q)) 8 0 (cl x) (nmb b n m6 q)) ((Fr.pos k1).trans (Fr.u k8)) (hT.pos (nn_le hT.2.1)) (fun t a1 a2 a3 => (uI_t a3).trans (uI_t a1)) e7 up3_self)
  · refine ⟨hx, hx, ?_⟩
    refine br_of (P' := True) (by show up3 _ 8 0 (cl x) _ 8 0 (cl x) = -1 ↔ _; rw [up3_self]; simp) (fun _ => ?_) (fun q => absurd trivial q)
    exact rb0 (hf g4 (uI A 8 0 (cl x) (-1)) (Fr.u k8) hT)
theorem go_readAct {x : Int32} (hx : vp_in x 12) (hT : TP M n p) (hb : M.1 2 0 = b)
    (hf : ∀ e M', aAct b n p = .error e → Fr (pO (cl x)) M M' → TP M' n e → Q (rI 0) (mk M'))
    (ht : ∀ r e M', aAct b n p = .ok (r, e) → Fr (pO (cl x)) M M' → TP M' n e → (∀ t, t ≠ 1 → t ≠ 7 → t ≠ 8 → M'.1 t = M.1 t) → M'.1 7 0 (cl x) = r.1 → (¬ r.1 = 4 → M'.1 8 0 (cl x) = r.2) → Q (rI 1) (mk M')) : Gm Γ M_X3_readAct [vr 3 0, vr 1 0, vi x] (mk M) Q := by
  have hp := hT.2.1
  have k7 : pO (cl x) 7 (cl x) := Or.inr ⟨by decide, by decide, rfl⟩
  have k1 : pO (cl x) 1 2 := Or.inl ⟨rfl, rfl⟩
  have hq : nw b n p ≤ n := nw_le hp
  unfold aAct at hf ht
  refine gm_step [34] 60 ?_; intro G K hG hK
  refine hG _ _ _ _ (go_takeAct hT hb (fun g => ?_) (fun g => ?_))
  rotate_left
  · simp only [if_pos g] at hf
    refine ⟨hx, hx, ?_⟩
    refine br_of (P' := False) (by show ¬ up3 _ 7 0 (cl x) (-1) 7 0 (cl x) = -1 ↔ _; rw [up3_self]; simp) (fun q => q.elim) (fun _ => ?_)
    exact rb0 (hf _ (uI M 7 0 (cl x) (-1)) rfl (Fr.u k7) hT)
  simp only [if_neg g] at hf ht
  have f2 : Fr (pO (cl x)) M (uI (pos M (nw b n p)) 7 0 (cl x) (pAct b n p)) := (Fr.pos k1).trans (Fr.u k7)
  have ho : ∀ t, t ≠ 1 → t ≠ 7 → t ≠ 8 → (uI (pos M (nw b n p)) 7 0 (cl x) (pAct b n p)).1 t = M.1 t := fun t a1 a2 _ => (uI_t a2).trans (uI_t a1)
  refine ⟨hx, hx, ?_⟩
  refine br_of (P' := ¬ pAct b n p = -1) (by show ¬ up3 _ 7 0 (cl x) _ 7 0 (cl x) = -1 ↔ _; rw [up3_self]) (fun _ => ?_) (fun q => absurd g q)
  refine ⟨hx, ?_⟩
  refine br_of (P' := ¬ pAct b n p = 4) (by show ¬ up3 _ 7 0 (cl x) _ 7 0 (cl x) = 4 ↔ _; rw [up3_self]) (fun g2 => ?_) (fun g2 => ?_)
  rotate_left
  · simp only [if_pos (Decidable.not_not.mp g2)] at ht
    exact rb1 (ht _ _ (uI (pos M (nw b n p)) 7 0 (cl x) (pAct b n p)) rfl f2 (hT.pos hq) ho (up3_self.trans (Decidable.not_not.mp g2)) (fun q => absurd rfl q))
  simp only [if_neg g2] at hf ht
  refine hK _ _ _ _ _ (go_bus (go_readAct34 (A := uI (pos M (nw b n p)) 7 0 (cl x) (pAct b n p)) (q := nw b n p) (av := pAct b n p) hx (hT.pos hq) hb up3_self (fun g3 M' f1 t1 => ?_) (fun g3 M' f1 t1 o1 w1 w2 => ?_)) ⟨rfl, rfl, rfl, trivial⟩)
  · simp only [if_pos g3] at hf
    exact hf _ M' rfl (f2.trans f1) t1
  · simp only [if_neg g3] at ht
    exact ht _ _ M' rfl (f2.trans f1) t1 (fun t a1 a2 a3 => (o1 t a1 a2 a3).trans (ho t a1 a2 a3)) w1 (fun _ => w2)
end TAP2
