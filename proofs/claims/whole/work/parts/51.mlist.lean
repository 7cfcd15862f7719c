/-! The reference: a list of orders, and orders told. -/
def pOS (t k : Nat) : Prop := (t = 44 ∧ (k = 46 ∨ k = 48)) ∨ (t = 67 ∧ 720 ≤ k)
theorem pOM_S {i : Nat} : ∀ t k, pOM (720 + 5 * i) t k → pOS t k := fun t k h => by
  unfold pOM at h; unfold pOS; omega
theorem pRd_S : ∀ t k, pRd t k → pOS t k := fun t k h => by
  unfold pRd at h; unfold pOS; omega
theorem rowM.fr {M M' : MM} {i j : Nat} {r : Row} (h : rowM M (720 + 5 * j) r) (hj : j ≠ i) (f : Fr (pOM (720 + 5 * i)) M M') : rowM M' (720 + 5 * j) r := h.of (fun k hk => f.2 67 0 _ (by unfold pOM; omega))
theorem rowM.rd {M M' : MM} {o : Nat} {r : Row} (h : rowM M o r) (f : Fr pRd M M') : rowM M' o r := h.of (fun k hk => f.2 67 0 _ (by unfold pRd; omega))
def mUses (M : MM) : MM := uI (uI (uI M 44 0 47 (M.1 44 0 44)) 44 0 44 0) 44 0 0 0
def mCpO (x : Int32) (k : Nat) (A : MM) : MM := uI A 67 0 (cl (60 * x + nI k)) (A.1 67 0 (cl (720 + nI k)))
def mTakeO (A : MM) (x : Int32) (m : Nat) : MM := uI (uI (uI (rep (mCpO x) (5 * m) A) 68 0 (cl x) (nI m)) 63 0 (cl x) 0) 64 0 (cl x) 0
section MLST
variable {Γ : GG} {M : MM} {Q : Out → Mem → Prop} {n p q ns nc : Nat} {b : Nat → Int32} {x : Int32}
theorem go_mreadOrder12 (hT : TM M n p q) (hb : M.1 81 0 = b) (h : Q (rI 0) (mk (posM M (sk b n p) (sk b n p)))) : Gm Γ M_X7_readOrder [vr 44 0, vi (nI 12)] (mk M) Q := by
  refine gm_step [] 60 ?_; intro G K hG hK
  refine ⟨fun (z : ¬ nI 12 = 12) => absurd rfl z, fun _ => ?_⟩
  refine hG _ _ _ _ (go_blanks hT hb ?_)
  exact rb0 h
theorem go_readOrders {q0 : Nat} {s0 : Int32} (hn : n ≤ 400) (hl : M.1 44 0 47 = nI n) (hq : q0 ≤ 400) (hbg : M.1 44 0 48 = nI q0) (hb : M.1 81 0 = b)
    (hf : ∀ e r M', aList b n 12 (sk b n 0) = .error e → Fr pOS M M' → TM M' n r e → Q (rI (-1)) (mk M'))
    (ht : ∀ l r e M', aList b n 12 (sk b n 0) = .ok l → Fr pOS M M' → TM M' n r e → l.length ≤ 12 → (∀ i (hi : i < l.length), rowM M' (720 + 5 * i) l[i]) → Q (rI (nI l.length)) (mk M')) : Gm Γ M_X7_readOrders [vr 44 0] (mk M) Q := by
  have key : ∀ k i (done : List Row) (A : MM) (p q : Nat), i + k = 12 → done.length = i → Fr pOS M A → TM A n p q → A.1 81 0 = b → (∀ j (hj : j < done.length), rowM A (720 + 5 * j) done[j]) →
      (∀ e, aList b n k (sk b n p) = .error e → aList b n 12 (sk b n 0) = .error e) → (∀ l, aList b n k (sk b n p) = .ok l → aList b n 12 (sk b n 0) = .ok (done ++ l)) →
      Go Γ M_X7_readOrders 7 [(1, vi (nI i)), (0, vr 44 0)] [] (mk A) (0, 0) Q := by
    intro k
    induction k with
    | zero =>
      intro i done A p q hi hd fA hTA hbA hrow he hk
      have hs := hTA.sk (b := b)
      refine go_step [7] 60 ?_; intro G K hG hK
      rw [show i = 12 by omega]
      refine hG _ _ _ _ (go_mreadOrder12 hTA hbA ?_)
      exact br0n (hf (sk b n p) _ (posM A (sk b n p) (sk b n p)) (he _ rfl) (fA.trans (fr_posM.mono pRd_S)) (hTA.posM hs hs))
    | succ k ih =>
      intro i done A p q hi hd fA hTA hbA hrow he hk
      unfold aList at he hk
      refine go_step [7] 60 ?_; intro G K hG hK
      refine hG _ _ _ _ (go_mreadOrder hTA hbA (by omega) (fun e r B g1 hr fB tB => ?_) (fun x e at' q' B g1 fB hat tB rB => ?_))
      · simp only [g1] at he
        exact br0n (hf e r B (he e rfl) (fA.trans (fB.mono pOM_S)) tB)
      simp only [g1] at he hk
      refine br1n ?_
      have hbB : B.1 81 0 = b := by rw [← hbA]; funext k; exact fB.2 81 0 k (by unfold pOM; omega)
      have hse : e ≤ n := by rw [← hat]; exact tB.sk
      have hss : sk b n e = e := by rw [← hat]; exact sk_sk tB.2.1
      refine hG _ _ _ _ (go_blanks tB hbB ?_)
      rw [hat]
      have tC : TM (posM B e e) n e e := tB.posM hse hse
      have fC : Fr pOS M (posM B e e) := (fA.trans (fB.mono pOM_S)).trans (fr_posM.mono pRd_S)
      have hrC : ∀ j (hj : j < (done ++ [x]).length), rowM (posM B e e) (720 + 5 * j) (done ++ [x])[j] := by
        intro j hj
        rw [List.length_append, List.length_singleton] at hj
        by_cases ej : j = i
        · subst ej
          rw [List.getElem_append_right (by omega)]
          simp only [hd, Nat.sub_self, List.getElem_cons_zero]
          exact rB.rd fr_posM
        · rw [List.getElem_append_left (by omega)]
          exact ((hrow j (by omega)).fr ej fB).rd fr_posM
      have hl47 : B.1 44 0 47 = nI n := tB.2.2.2.1
      refine ⟨fun (g2 : ¬ nI e = B.1 44 0 47) => ?_, fun (g2 : ¬ ¬ nI e = B.1 44 0 47) => ?_⟩
      · rw [hl47, nI_eq (by omega) (by omega)] at g2
        refine hG _ _ _ _ (gm_readSign (M := posM B e e) (c := 59) tC hbB (fun g3 => ?_) (fun g3 => ?_))
        · rw [hss] at g3 ⊢
          have hlt := tS_lt g3
          simp only [if_pos g3] at he hk
          refine br1n ?_
          refine hK _ _ _ _ _ (go_bus (ih (i + 1) (done ++ [x]) (posM (posM B e e) (e + 1) e) (e + 1) e (by omega) (by rw [List.length_append, hd]; rfl) (fC.trans (fr_posM.mono pRd_S)) (tC.posM (by omega) hse) hbB (fun j hj => (hrC j hj).rd fr_posM) (fun e' g4 => ?_) (fun l g4 => ?_)) ⟨lvi (nI_1 i), rfl, trivial⟩)
          · exact he e' (by rw [g4])
          · rw [List.append_assoc]; exact hk (x :: l) (by rw [g4])
        · rw [hss] at g3 ⊢
          simp only [if_neg g3, if_neg g2] at he
          exact br0n (hf _ _ _ (he _ rfl) (fC.trans (fr_posM.mono pRd_S)) (tC.posM hse hse))
      · have g2 := Decidable.not_not.mp g2
        rw [hl47, nI_eq (by omega) (by omega)] at g2
        have g3 : ¬ tSign b n e 59 = true := fun z => absurd (tS_lt z) (by omega)
        simp only [if_neg g3, if_pos g2] at hk
        have h := ht (done ++ [x]) _ _ _ (hk _ rfl) fC tC (by rw [List.length_append, List.length_singleton]; omega) hrC
        rw [List.length_append, List.length_singleton, hd, ← nI_1] at h
        exact h
  refine gm_step [7] 60 ?_; intro G K hG hK
  refine hK _ _ _ _ _ (go_bus (key 12 0 [] (uI M 44 0 46 0) 0 q0 (by omega) rfl (Fr.u (Or.inl ⟨rfl, Or.inl rfl⟩)) ⟨hn, Nat.zero_le _, hq, hl, rfl, hbg⟩ hb (fun j hj => absurd hj (Nat.not_lt_zero _)) (fun e g => g) (fun l g => g)) ⟨rfl, rfl, trivial⟩)
theorem go_uses (h : Q (rI (M.1 44 0 44)) (mk (mUses M))) : Gm Γ M_X7_uses [vr 44 0] (mk M) Q := by
  refine gm_step [] 60 ?_; intro G K hG hK
  exact h
theorem cpO_at {c : Nat} (hc : c < 12) (hx : x = nI c) (B : MM) : ∀ k, k ≤ 60 → ∀ t i j, (rep (mCpO x) k B).1 t i j = if t = 67 ∧ i = 0 ∧ 60 * c ≤ j ∧ j < 60 * c + k then B.1 67 0 (720 + (j - 60 * c)) else B.1 t i j
  | 0, _, t, i, j => by rw [if_neg (by omega)]; rfl
  | k + 1, hk, t, i, j => by
    have e1 : cl (60 * x + nI k) = 60 * c + k := by rw [hx, show (60 : Int32) = nI 60 from rfl, pk_mul, nI_add]; exact nI_clamp (by omega)
    have e2 : cl (720 + nI k) = 720 + k := by rw [show (720 : Int32) = nI 720 from rfl, nI_add]; exact nI_clamp (by omega)
    show (uI (rep (mCpO x) k B) 67 0 (cl (60 * x + nI k)) ((rep (mCpO x) k B).1 67 0 (cl (720 + nI k)))).1 t i j = _
    rw [e1, e2, uI_1, cpO_at hc hx B k (by omega) 67 0, cpO_at hc hx B k (by omega) t i j, if_neg (by omega : ¬ ((67 : Nat) = 67 ∧ 0 = 0 ∧ 60 * c ≤ 720 + k ∧ 720 + k < 60 * c + k))]
    by_cases h : t = 67 ∧ i = 0 ∧ j = 60 * c + k
    · rw [if_pos h, if_pos (by omega), h.2.2, show 60 * c + k - 60 * c = k by omega]
    · rw [if_neg h]
      by_cases h2 : t = 67 ∧ i = 0 ∧ 60 * c ≤ j ∧ j < 60 * c + k
      · rw [if_pos h2, if_pos (by omega)]
      · rw [if_neg h2, if_neg (by omega)]
theorem go_morders {q0 : Nat} (hc9 : M.1 44 0 26 = nI nc) (hnc : nc ≤ 12) (hn : n ≤ 400) (hl : M.1 44 0 44 = nI n) (hq : q0 ≤ 400) (hbg : M.1 44 0 48 = nI q0) (hb : M.1 81 0 = b)
    (h1 : ¬ (0 ≤ x ∧ x < nI nc) → Q (rI 0) (mk (uI (mUses M) 44 0 0 1)))
    (h0 : ∀ e r M', (0 ≤ x ∧ x < nI nc) → aList b n 12 (sk b n 0) = .error e → Fr pOS (mUses M) M' → TM M' n r e → Q (rI 0) (mk (uI (uI M' 44 0 49 (nI e)) 44 0 0 2)))
    (h : ∀ l r e M', (0 ≤ x ∧ x < nI nc) → aList b n 12 (sk b n 0) = .ok l → Fr pOS (mUses M) M' → TM M' n r e → l.length ≤ 12 → (∀ i (hi : i < l.length), rowM M' (720 + 5 * i) l[i]) → Q (rI (nI l.length)) (mk (mTakeO (uI M' 44 0 49 (-1)) x l.length))) : Gm Γ M_X7_orders [vr 44 0, vi x] (mk M) Q := by
  refine gm_step [63] 60 ?_; intro G K hG hK
  refine hG _ _ _ _ (go_uses ?_)
  refine hG _ _ _ _ (gm_noCaravan (M := mUses M) (x := x) hc9 hnc ?_)
  refine hG _ _ _ _ (gm_throws (M := mUses M) (fun g => ?_) (fun g => ?_))
  · exact br1z (h1 g)
  have g := Decidable.not_not.mp g
  obtain ⟨vx, lx, ex⟩ := in_of hnc g.1 g.2
  refine br0z ?_
  refine hG _ _ _ _ (go_readOrders (M := mUses M) (s0 := 0) hn hl hq hbg hb (fun e r M' ge f t => ?_) (fun l r e M' ge f t hle rows => ?_))
  · have h := h0 e r M' g ge f t
    have hbe : M'.1 44 0 48 = nI e := t.2.2.2.2.2
    rw [← hbe] at h
    refine ⟨fun (z : (0 : Int32) ≤ -1) => absurd z (by decide), fun _ => ?_⟩
    refine ⟨fun (z : (0 : Int32) ≤ -1) => absurd z (by decide), fun _ => ?_⟩
    refine hG _ _ _ _ (gm_throws1 (M := uI M' 44 0 49 (M'.1 44 0 48)) ?_)
    exact br1z h
  · have h := h l r e M' g ge f t hle rows
    have hpos : 0 ≤ nI l.length := nI_pos' (by omega)
    refine ⟨fun _ => ?_, fun (z : ¬ 0 ≤ nI l.length) => absurd hpos z⟩
    refine ⟨fun _ => ?_, fun (z : ¬ 0 ≤ nI l.length) => absurd hpos z⟩
    refine hG _ _ _ _ (gm_throws0 (M := uI M' 44 0 49 (-1)) ?_)
    refine br0z ?_
    generalize l.length = m at h hle hpos ⊢
    unfold mTakeO at h
    generalize uI M' 44 0 49 (-1) = A at h ⊢
    refine hK _ _ _ _ _ (go_bus (lv' := [(4, vi (nI 0)), (3, vi (nI m)), (1, vi x), (0, vr 44 0)]) ?_ ⟨rfl, rfl, rfl, rfl, trivial⟩)
    refine loop_up (P := fun k => Go Γ M_X7_orders 63 [(4, vi (nI k)), (3, vi (nI m)), (1, vi x), (0, vr 44 0)] [] (mk (rep (mCpO x) k A)) (0, 0) Q) (n := 5 * m) (fun k hk ih => ?_) ?_
    · have ih : Go Γ M_X7_orders 63 [(4, vi (nI (k + 1))), (3, vi (nI m)), (1, vi x), (0, vr 44 0)] [] (mk (mCpO x k (rep (mCpO x) k A))) (0, 0) Q := ih
      generalize rep (mCpO x) k A = B at ih ⊢
      have v1 : vp_in (720 + nI k) 780 := by rw [show (720 : Int32) = nI 720 from rfl, nI_add]; exact vp_in_nI (by omega) (by decide)
      have v2 : vp_in (60 * x + nI k) 780 := by rw [ex, show (60 : Int32) = nI 60 from rfl, pk_mul, nI_add]; exact vp_in_nI (by omega) (by decide)
      refine go_step [63] 60 ?_; intro G K hG hK
      refine ⟨fun (z : 5 * nI m ≤ nI k) => ?_, fun _ => ?_⟩
      · rw [show (5 : Int32) = nI 5 from rfl, pk_mul] at z; exact absurd z (nI_ge hk (by omega))
      exact ⟨v1, v2, hK _ _ _ _ _ (go_bus ih ⟨lvi (nI_1 k), rfl, rfl, rfl, trivial⟩)⟩
    · refine go_step [] 60 ?_; intro G K hG hK
      refine ⟨fun _ => ?_, fun (z : ¬ 5 * nI m ≤ nI (5 * m)) => ?_⟩
      · exact ⟨vx, vx, vx, h⟩
      · rw [show (5 : Int32) = nI 5 from rfl, pk_mul] at z; exact absurd (Int32.le_refl _) z
end MLST
