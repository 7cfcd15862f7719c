/-! Texts: the class reads a list of orders. -/
abbrev Row : Type := (Int32 × Int32 × Int32) × (Int32 × Int32)
/-- one order and where it ends -/
def aOrd (b : Nat → Int32) (n p : Nat) : Except Nat (Row × Nat) := match aTest b n p with
  | .error e => .error e
  | .ok (t, q) => (match aAct b n q with
    | .error e => .error e
    | .ok (a, e) => .ok ((t, a), e))
/-- at most so many orders -/
def aList (b : Nat → Int32) (n : Nat) : Nat → Nat → Except Nat (List Row)
  | 0, p => .error p
  | k + 1, p => match aOrd b n p with
    | .error e => .error e
    | .ok (r, q) => if tSign b n q 59 = true then (match aList b n k (sk b n (q + 1)) with
        | .error e => .error e
        | .ok l => .ok (r :: l))
      else if q = n then .ok [r] else .error q
/-- the row i of the scratch list is r -/
def rowC (M : MM) (i : Nat) (r : Row) : Prop := M.1 4 0 i = r.1.1 ∧ (¬ r.1.1 = 0 → M.1 5 0 i = r.1.2.1 ∧ M.1 6 0 i = r.1.2.2) ∧ M.1 7 0 i = r.2.1 ∧ (¬ r.2.1 = 4 → M.1 8 0 i = r.2.2)
def pScr (t k : Nat) : Prop := (t = 1 ∧ k = 2) ∨ (3 ≤ t ∧ t ≤ 11)
theorem pO_scr {i : Nat} : ∀ t k, pO i t k → pScr t k := fun t k h => by
  unfold pO at h; unfold pScr; omega
theorem rowC.fr {M M' : MM} {i j : Nat} {r : Row} (h : rowC M j r) (hj : j ≠ i) (f : Fr (pO i) M M') : rowC M' j r := by
  have k : ∀ t, 4 ≤ t → t ≤ 8 → M'.1 t 0 j = M.1 t 0 j := fun t a b => f.2 t 0 j (by unfold pO; omega)
  unfold rowC
  rw [k 4 (by decide) (by decide), k 5 (by decide) (by decide), k 6 (by decide) (by decide), k 7 (by decide) (by decide), k 8 (by decide) (by decide)]
  exact h
theorem rowC.same {M M' : MM} {j : Nat} {r : Row} (h : rowC M j r) (e : ∀ t, 4 ≤ t → t ≤ 8 → M'.1 t = M.1 t) : rowC M' j r := by
  unfold rowC
  rw [e 4 (by decide) (by decide), e 5 (by decide) (by decide), e 6 (by decide) (by decide), e 7 (by decide) (by decide), e 8 (by decide) (by decide)]
  exact h
section LIST
variable {Γ : GG} {M : MM} {Q : Out → Mem → Prop} {n p : Nat} {b : Nat → Int32}
theorem go_readFrom0 (hn : n ≤ 400) (hl : M.1 1 0 1 = nI n) (hb : M.1 2 0 = b)
    (hf : ∀ e M', aList b n 12 (sk b n 0) = .error e → Fr pScr M M' → TP M' n e → Q (rI 0) (mk M'))
    (ht : ∀ l M', aList b n 12 (sk b n 0) = .ok l → Fr pScr M M' → TP M' n n → l.length ≤ 12 → M'.1 3 0 0 = nI l.length → (∀ i (hi : i < l.length), rowC M' i l[i]) → Q (rI 1) (mk M')) : Gm Γ M_X3_readFrom [vr 3 0, vr 1 0] (mk M) Q := by
  have k1 : pScr 1 2 := Or.inl ⟨rfl, rfl⟩
  have key : ∀ k i (done : List Row) (A : MM) (p : Nat), i + k = 12 → done.length = i → Fr pScr M A → TP A n p → A.1 2 0 = b → (∀ j (hj : j < done.length), rowC A j done[j]) →
      (∀ e, aList b n k p = .error e → aList b n 12 (sk b n 0) = .error e) → (∀ l, aList b n k p = .ok l → aList b n 12 (sk b n 0) = .ok (done ++ l)) →
      Go Γ M_X3_readFrom 6 [(2, vi (nI i)), (1, vr 1 0), (0, vr 3 0)] [] (mk A) (0, 0) Q := by
    intro k
    induction k with
    | zero =>
      intro i done A p hi hd fA hTA hbA hrow he hk
      refine go_step [6] 60 ?_; intro G K hG hK
      refine ⟨fun _ => ?_, fun (g : ¬ nI 12 ≤ nI i) => ?_⟩
      · exact rb0 (hf p A (he p rfl) fA hTA)
      · rw [show i = 12 by omega] at g; exact absurd (Int32.le_refl _) g
    | succ k ih =>
      intro i done A p hi hd fA hTA hbA hrow he hk
      have hx : vp_in (nI i) 12 := in12 (n := i) (by omega) rfl
      have ec : cl (nI i) = i := nI_clamp (by omega)
      refine go_step [6] 60 ?_; intro G K hG hK
      refine ⟨fun (g : nI 12 ≤ nI i) => absurd g (nI_ge (by omega) (by omega)), fun _ => ?_⟩
      unfold aList aOrd at he hk
      refine hG _ _ _ _ (go_readTest hx hTA hbA (fun e B g1 fB tB => ?_) (fun t q B g1 fB tB w1 w2 => ?_))
      · simp only [g1] at he
        exact br0z (rb0 (hf e B (he e rfl) (fA.trans (fB.mono pO_scr)) tB))
      simp only [g1] at he hk
      refine br1z ?_
      rw [ec] at fB w1 w2
      have hbB : B.1 2 0 = b := by rw [← hbA]; funext k; exact fB.2 2 0 k (by unfold pO; omega)
      refine hG _ _ _ _ (go_readAct hx tB hbB (fun e C g2 fC tC => ?_) (fun a q2 C g2 fC tC oC w3 w4 => ?_))
      · simp only [g2] at he
        exact br0n (rb0 (hf e C (he e rfl) ((fA.trans (fB.mono pO_scr)).trans (fC.mono pO_scr)) tC))
      simp only [g2] at he hk
      refine br1n ?_
      rw [ec] at fC w3 w4
      have hbC : C.1 2 0 = b := by rw [← hbB]; funext k; exact fC.2 2 0 k (by unfold pO; omega)
      have fMC : Fr pScr M C := (fA.trans (fB.mono pO_scr)).trans (fC.mono pO_scr)
      have hrC : ∀ j (hj : j < (done ++ [(t, a)]).length), rowC C j (done ++ [(t, a)])[j] := by
        intro j hj
        rw [List.length_append, List.length_singleton] at hj
        by_cases e : j = i
        · subst e
          rw [List.getElem_append_right (by omega)]
          simp only [hd, Nat.sub_self, List.getElem_cons_zero]
          refine ⟨?_, ?_, w3, w4⟩
          · rw [oC 4 (by decide) (by decide) (by decide)]; exact w1
          · rw [oC 5 (by decide) (by decide) (by decide), oC 6 (by decide) (by decide) (by decide)]; exact w2
        · rw [List.getElem_append_left (by omega)]
          exact ((hrow j (by omega)).fr e fB).fr e fC
      refine hG _ _ _ _ (gm_takeSign (M := C) (s := 59) tC hbC (fun g3 => ?_) (fun g3 => ?_))
      · have hlt := tS_lt g3
        simp only [if_pos g3] at he hk
        refine br1n ?_
        refine hK _ _ _ _ _ (go_bus (ih (i + 1) (done ++ [(t, a)]) (pos C (sk b n (q2 + 1))) (sk b n (q2 + 1)) (by omega) (by rw [List.length_append, hd]; rfl) (fMC.trans (Fr.pos k1)) (tC.pos (sk_le (by omega)).2) hbC (fun j hj => (hrC j hj).same (fun t a1 a2 => uI_t (by omega))) (fun e g4 => ?_) (fun l g4 => ?_)) ⟨lvi (nI_1 i), rfl, rfl, trivial⟩)
        · exact he e (by rw [g4])
        · rw [List.append_assoc]; exact hk ((t, a) :: l) (by rw [g4])
      · simp only [if_neg g3] at he hk
        refine br0n ?_
        have tD : TP (uI C 3 0 0 (nI i + 1)) n q2 := tC
        have fD : Fr pScr M (uI C 3 0 0 (nI i + 1)) := fMC.trans (Fr.u (Or.inr ⟨by decide, by decide⟩))
        refine hG _ _ _ _ (go_isAtEnd (M := uI C 3 0 0 (nI i + 1)) tD ?_)
        by_cases g4 : q2 = n
        · simp only [if_pos g4] at hk
          rw [b32_t g4]
          refine rb1 (ht (done ++ [(t, a)]) _ (hk _ rfl) fD (by rw [← g4]; rw [← g4] at tD; exact tD) (by rw [List.length_append, List.length_singleton]; omega) ?_ (fun j hj => (hrC j hj).same (fun t a1 a2 => uI_t (by omega))))
          rw [List.length_append, List.length_singleton, hd, ← nI_1]
          rfl
        · simp only [if_neg g4] at he
          rw [b32_f g4]
          exact rb0 (hf _ _ (he _ rfl) fD tD)
  refine gm_step [6] 60 ?_; intro G K hG hK
  refine hG _ _ _ _ ?_
  refine gm_step [] 60 ?_; intro G' K' hG' hK'
  refine hG' _ _ _ _ (go_moveTo (q := 0) hn hl (Nat.zero_le _) ?_)
  rw [hb]
  refine hK _ _ _ _ _ (go_bus (key 12 0 [] (pos M (sk b n 0)) (sk b n 0) (by omega) rfl (Fr.pos k1) ⟨hn, (sk_le (Nat.zero_le _)).2, hl, rfl⟩ hb (fun j hj => absurd hj (Nat.not_lt_zero _)) (fun e g => g) (fun l g => g)) ⟨rfl, rfl, rfl, trivial⟩)
end LIST
