/-! Texts: the class reads a contract. -/
abbrev Shr : Type := Int32 × Int32
def hasP (w : Int32) : List Shr → Bool
  | [] => false
  | q :: l => decide (q.1 = w) || hasP w l
def smS : List Shr → Int32 → Int32
  | [], a => a
  | q :: l, a => smS l (a + q.2)
theorem smS_app : ∀ (l : List Shr) (q : Shr) (a : Int32), smS (l ++ [q]) a = smS l a + q.2
  | [], _, _ => rfl
  | r :: l, q, a => smS_app l q (a + r.2)
theorem hasP_iff {w : Int32} : ∀ {l : List Shr}, hasP w l = true ↔ ∃ i, ∃ hi : i < l.length, l[i].1 = w
  | [] => ⟨fun h => (Bool.false_ne_true h).elim, fun ⟨i, hi, _⟩ => absurd hi (Nat.not_lt_zero _)⟩
  | q :: l => by
    unfold hasP
    rw [Bool.or_eq_true, decide_eq_true_iff, hasP_iff]
    constructor
    · rintro (h | ⟨i, hi, h⟩)
      · exact ⟨0, Nat.succ_pos _, h⟩
      · exact ⟨i + 1, Nat.succ_lt_succ hi, h⟩
    · rintro ⟨i, hi, h⟩
      cases i with
      | zero => exact Or.inl h
      | succ i => exact Or.inr ⟨i, Nat.lt_of_succ_lt_succ hi, h⟩
def aShare (b : Nat → Int32) (n : Nat) (l : List Shr) (p : Nat) : Except Nat (Shr × Nat) :=
  if pty b n p = -1 then .error p else if hasP (pty b n p) l = true then .error p else
  if nmb b n 99 (nw b n p) = -1 then .error (nw b n p) else .ok ((pty b n p, nmb b n 99 (nw b n p)), nn b n (nw b n p))
def aLost (b : Nat → Int32) (n p : Nat) : Except Nat ((Int32 × Int32) × Nat) :=
  if isW b n p 10 = true then
    if pty b n (nw b n p) = -1 then .error (nw b n p) else
    if nmb b n m6 (nw b n (nw b n p)) = -1 then .error (nw b n (nw b n p)) else .ok ((pty b n (nw b n p), nmb b n m6 (nw b n (nw b n p))), nn b n (nw b n (nw b n p)))
  else .ok ((-1, 0), p)
def aDeal (b : Nat → Int32) (n : Nat) : Nat → List Shr → Nat → Except Nat (List Shr × (Int32 × Int32))
  | 0, _, p => .error p
  | k + 1, l, p => match aShare b n l p with
    | .error e => .error e
    | .ok (s, q) => if tSign b n q 44 = true then aDeal b n k (l ++ [s]) (sk b n (q + 1)) else
      if smS (l ++ [s]) 0 ≤ 0 then .error q else (match aLost b n q with
      | .error e => .error e
      | .ok (r, e) => if e = n then .ok (l ++ [s], r) else .error e)
/-- the scratch contract holds these shares -/
def dC (M : MM) (l : List Shr) : Prop := M.1 9 0 0 = nI l.length ∧ M.1 9 0 3 = smS l 0 ∧ ∀ i (hi : i < l.length), M.1 10 0 i = l[i].1 ∧ M.1 11 0 i = l[i].2
theorem dC.of {M M' : MM} {l : List Shr} (h : dC M l) (e0 : M'.1 9 0 0 = M.1 9 0 0) (e3 : M'.1 9 0 3 = M.1 9 0 3) (e10 : M'.1 10 = M.1 10) (e11 : M'.1 11 = M.1 11) : dC M' l := ⟨e0.trans h.1, e3.trans h.2.1, fun i hi => by rw [e10, e11]; exact h.2.2 i hi⟩
section DEAL
variable {Γ : GG} {M : MM} {Q : Out → Mem → Prop} {n p : Nat} {b : Nat → Int32}
theorem go_hasParty {l : List Shr} {w : Int32} (hd : dC M l) (hl : l.length ≤ 3) (h : Q (rI (b32 (hasP w l = true))) (mk M)) : Gm Γ M_X1_hasParty [vr 9 0, vi w] (mk M) Q := by
  refine gm_step [2] 60 ?_; intro G K hG hK
  have key : ∀ k i, i + k = l.length → (∀ j (hj : j < l.length), j < i → ¬ l[j].1 = w) → Go Γ M_X1_hasParty 2 [(2, vi (nI i)), (1, vi w), (0, vr 9 0)] [] (mk M) (0, 0) Q := by
    intro k
    induction k with
    | zero =>
      intro i hi hn
      refine go_step [2] 60 ?_; intro G K hG hK
      refine ⟨fun _ => ?_, fun (g : ¬ M.1 9 0 0 ≤ nI i) => ?_⟩
      · exact rb_f (fun q => by obtain ⟨j, hj, e⟩ := hasP_iff.mp q; exact hn j hj (by omega) e) h
      · rw [hd.1, show l.length = i by omega] at g; exact absurd (Int32.le_refl _) g
    | succ k ih =>
      intro i hi hn
      have ec : cl (nI i) = i := nI_clamp (by omega)
      refine go_step [2] 60 ?_; intro G K hG hK
      refine ⟨fun (g : M.1 9 0 0 ≤ nI i) => ?_, fun _ => ?_⟩
      · rw [hd.1] at g; exact absurd g (nI_ge (by omega) (by omega))
      refine ⟨fun (g : nI 3 ≤ nI i) => absurd g (nI_ge (by omega) (by omega)), fun _ => ?_⟩
      refine ⟨vp_in_nI (show i < 3 by omega) (by decide), ?_⟩
      refine ⟨fun (g : ¬ M.1 10 0 (cl (nI i)) = w) => ?_, fun (g : ¬ ¬ M.1 10 0 (cl (nI i)) = w) => ?_⟩
      · rw [ec, (hd.2.2 i (by omega)).1] at g
        refine hK _ _ _ _ _ (go_bus (ih (i + 1) (by omega) (fun j hj hlt => ?_)) ⟨lvi (nI_1 i), rfl, rfl, trivial⟩)
        rcases Nat.lt_or_ge j i with q | q
        · exact hn j hj q
        · have e : j = i := by omega
          subst e; exact g
      · rw [ec, (hd.2.2 i (by omega)).1] at g
        exact rb_t (hasP_iff.mpr ⟨i, by omega, Decidable.not_not.mp g⟩) h
  exact hK _ _ _ _ _ (go_bus (key l.length 0 (by omega) (fun j hj hlt => absurd hlt (Nat.not_lt_zero _))) ⟨rfl, rfl, rfl, trivial⟩)
theorem go_readShare {l : List Shr} (hT : TP M n p) (hb : M.1 2 0 = b) (hd : dC M l) (hl : l.length < 3)
    (hf : ∀ e M', aShare b n l p = .error e → Fr pScr M M' → TP M' n e → Q (rI 0) (mk M'))
    (ht : ∀ s e M', aShare b n l p = .ok (s, e) → Fr pScr M M' → TP M' n e → dC M' (l ++ [s]) → Q (rI 1) (mk M')) : Gm Γ M_X1_readShare [vr 9 0, vr 1 0] (mk M) Q := by
  have hp := hT.2.1
  have k1 : pScr 1 2 := Or.inl ⟨rfl, rfl⟩
  have hq : nw b n p ≤ n := nw_le hp
  have ec : cl (M.1 9 0 0) = l.length := by rw [hd.1]; exact nI_clamp (by omega)
  have hv : vp_in (M.1 9 0 0) 3 := by rw [hd.1]; exact vp_in_nI hl (by decide)
  unfold aShare at hf ht
  refine gm_step [] 100 ?_; intro G K hG hK
  refine hG _ _ _ _ (go_partyAhead hT ?_)
  rw [hb]
  refine ⟨fun (g : pty b n p = -1) => ?_, fun (g : ¬ pty b n p = -1) => ?_⟩
  · simp only [if_pos g] at hf
    exact rb0 (hf _ M rfl Fr.rfl' hT)
  simp only [if_neg g] at hf ht
  refine hG _ _ _ _ (go_hasParty (w := pty b n p) hd (by omega) ?_)
  refine br_z (fun g2 => ?_) (fun g2 => ?_)
  rotate_left
  · simp only [if_pos g2] at hf
    exact rb0 (hf _ M rfl Fr.rfl' hT)
  simp only [if_neg g2] at hf ht
  refine hG _ _ _ _ (go_takeAnyWord hT ?_)
  rw [hb]
  refine hG _ _ _ _ (gm_takeNumber (M := pos M (nw b n p)) (most := 99) (hT.pos hq) hb (fun g3 => ?_) (fun g3 => ?_))
  rotate_left
  · simp only [if_pos g3] at hf
    refine ⟨fun _ => rb0 (hf _ (pos M (nw b n p)) rfl (Fr.pos k1) (hT.pos hq)), fun (q : ¬ (-1 : Int32) = -1) => absurd rfl q⟩
  simp only [if_neg g3] at ht
  refine ⟨fun (q : nmb b n 99 (nw b n p) = -1) => absurd q g3, fun _ => ?_⟩
  refine ⟨fun _ => ?_, fun (g4 : ¬ M.1 9 0 0 < 3) => ?_⟩
  rotate_left
  · rw [hd.1] at g4; exact absurd (nI_lt hl (by decide)) g4
  refine ⟨hv, hv, ?_⟩
  refine rb1 (ht _ _ (uI (uI (uI (uI (pos (pos M (nw b n p)) (nn b n (nw b n p))) 10 0 (cl (M.1 9 0 0)) (pty b n p)) 11 0 (cl (M.1 9 0 0)) (nmb b n 99 (nw b n p))) 9 0 3 (M.1 9 0 3 + nmb b n 99 (nw b n p))) 9 0 0 (M.1 9 0 0 + 1)) rfl ?_ (TP.pos (M := pos M (nw b n p)) (hT.pos hq) (nn_le hq)) ?_)
  · exact (((((Fr.pos k1).trans (Fr.pos k1)).trans (Fr.u (by unfold pScr; omega))).trans (Fr.u (by unfold pScr; omega))).trans (Fr.u (by unfold pScr; omega))).trans (Fr.u (by unfold pScr; omega))
  · refine ⟨?_, ?_, fun i hi => ?_⟩
    · rw [List.length_append, List.length_singleton, ← nI_1, ← hd.1]; rfl
    · rw [smS_app, ← hd.2.1]; rfl
    · rw [List.length_append, List.length_singleton] at hi
      by_cases e : i = l.length
      · subst e
        rw [List.getElem_append_right (Nat.le_refl _)]
        simp only [Nat.sub_self, List.getElem_cons_zero]
        simp [uI_1, ec, pos]
      · rw [List.getElem_append_left (by omega)]
        have h := hd.2.2 i (by omega)
        simp [uI_1, ec, pos, e]
        exact h
theorem go_readLost (hT : TP M n p) (hb : M.1 2 0 = b)
    (hf : ∀ e M', aLost b n p = .error e → Fr pScr M M' → TP M' n e → Q (rI 0) (mk M'))
    (ht : ∀ r e M', aLost b n p = .ok (r, e) → Fr pScr M M' → TP M' n e → (∀ l, dC M l → dC M' l) → M'.1 9 0 4 = r.1 → (¬ r.1 = -1 → M'.1 9 0 5 = r.2) → Q (rI 1) (mk M')) : Gm Γ M_X1_readLost [vr 9 0, vr 1 0] (mk M) Q := by
  have hp := hT.2.1
  have k1 : pScr 1 2 := Or.inl ⟨rfl, rfl⟩
  have k9 : ∀ k, pScr 9 k := fun k => Or.inr ⟨by decide, by decide⟩
  have hq : nw b n p ≤ n := nw_le hp
  have hq2 : nw b n (nw b n p) ≤ n := nw_le hq
  unfold aLost at hf ht
  refine gm_step [] 100 ?_; intro G K hG hK
  have fA : Fr pScr M (uI (uI M 9 0 4 (-1)) 9 0 5 0) := (Fr.u (k9 _)).trans (Fr.u (k9 _))
  refine hG _ _ _ _ (gm_takeWord (M := uI (uI M 9 0 4 (-1)) 9 0 5 0) (k := 10) hT (by decide) hb (fun g => ?_) (fun g => ?_))
  rotate_left
  · simp only [if_neg g] at ht
    exact br0n (rb1 (ht _ _ (uI (uI M 9 0 4 (-1)) 9 0 5 0) rfl fA hT (fun l hd => hd.of rfl rfl rfl rfl) rfl (fun q => absurd rfl q)))
  simp only [if_pos g] at hf ht
  refine br1n ?_
  have hTB : TP (pos (uI (uI M 9 0 4 (-1)) 9 0 5 0) (nw b n p)) n (nw b n p) := TP.pos (M := uI (uI M 9 0 4 (-1)) 9 0 5 0) hT hq
  refine hG _ _ _ _ (go_partyAhead (M := pos (uI (uI M 9 0 4 (-1)) 9 0 5 0) (nw b n p)) hTB ?_)
  have eb : (pos (uI (uI M 9 0 4 (-1)) 9 0 5 0) (nw b n p)).1 2 0 = b := hb
  rw [eb]
  refine ⟨fun (g2 : ¬ pty b n (nw b n p) = -1) => ?_, fun (g2 : ¬ ¬ pty b n (nw b n p) = -1) => ?_⟩
  rotate_left
  · simp only [if_pos (Decidable.not_not.mp g2)] at hf
    exact rb0 (hf _ (uI (pos (uI (uI M 9 0 4 (-1)) 9 0 5 0) (nw b n p)) 9 0 4 (pty b n (nw b n p))) rfl ((fA.trans (Fr.pos k1)).trans (Fr.u (k9 _))) hTB)
  simp only [if_neg g2] at hf ht
  refine hG _ _ _ _ (go_takeAnyWord (M := uI (pos (uI (uI M 9 0 4 (-1)) 9 0 5 0) (nw b n p)) 9 0 4 (pty b n (nw b n p))) hTB ?_)
  have eb2 : (uI (pos (uI (uI M 9 0 4 (-1)) 9 0 5 0) (nw b n p)) 9 0 4 (pty b n (nw b n p))).1 2 0 = b := hb
  rw [eb2]
  have fC : Fr pScr M (pos (uI (pos (uI (uI M 9 0 4 (-1)) 9 0 5 0) (nw b n p)) 9 0 4 (pty b n (nw b n p))) (nw b n (nw b n p))) := ((fA.trans (Fr.pos k1)).trans (Fr.u (k9 _))).trans (Fr.pos k1)
  have hTC : TP (pos (uI (pos (uI (uI M 9 0 4 (-1)) 9 0 5 0) (nw b n p)) 9 0 4 (pty b n (nw b n p))) (nw b n (nw b n p))) n (nw b n (nw b n p)) := TP.pos (M := uI (pos (uI (uI M 9 0 4 (-1)) 9 0 5 0) (nw b n p)) 9 0 4 (pty b n (nw b n p))) hTB hq2
  refine hG _ _ _ _ (gm_takeNumber (M := pos (uI (pos (uI (uI M 9 0 4 (-1)) 9 0 5 0) (nw b n p)) 9 0 4 (pty b n (nw b n p))) (nw b n (nw b n p))) (most := m6) hTC hb (fun g3 => ?_) (fun g3 => ?_))
  · simp only [if_neg g3] at ht
    refine ⟨fun (q : nmb b n m6 (nw b n (nw b n p)) = -1) => absurd q g3, fun _ => ?_⟩
    refine rb1 (ht _ _ (uI (pos (pos (uI (pos (uI (uI M 9 0 4 (-1)) 9 0 5 0) (nw b n p)) 9 0 4 (pty b n (nw b n p))) (nw b n (nw b n p))) (nn b n (nw b n (nw b n p)))) 9 0 5 (nmb b n m6 (nw b n (nw b n p)))) rfl ((fC.trans (Fr.pos k1)).trans (Fr.u (k9 _))) (hTC.pos (nn_le hq2)) (fun l hd => hd.of rfl rfl rfl rfl) rfl (fun _ => rfl))
  · simp only [if_pos g3] at hf
    refine ⟨fun _ => ?_, fun (q : ¬ (-1 : Int32) = -1) => absurd rfl q⟩
    exact rb0 (hf _ (uI (pos (uI (pos (uI (uI M 9 0 4 (-1)) 9 0 5 0) (nw b n p)) 9 0 4 (pty b n (nw b n p))) (nw b n (nw b n p))) 9 0 5 (-1)) rfl (fC.trans (Fr.u (k9 _))) hTC)
theorem go_readFrom1 (hn : n ≤ 400) (hl : M.1 1 0 1 = nI n) (hb : M.1 2 0 = b)
    (hf : ∀ e M', aDeal b n 3 [] (sk b n 0) = .error e → Fr pScr M M' → TP M' n e → Q (rI 0) (mk M'))
    (ht : ∀ l r M', aDeal b n 3 [] (sk b n 0) = .ok (l, r) → Fr pScr M M' → TP M' n n → l.length ≤ 3 → dC M' l → M'.1 9 0 4 = r.1 → (¬ r.1 = -1 → M'.1 9 0 5 = r.2) → Q (rI 1) (mk M')) : Gm Γ M_X1_readFrom [vr 9 0, vr 1 0] (mk M) Q := by
  have k1 : pScr 1 2 := Or.inl ⟨rfl, rfl⟩
  have key : ∀ k i (l : List Shr) (A : MM) (p : Nat), i + k = 3 → l.length = i → Fr pScr M A → TP A n p → A.1 2 0 = b → dC A l → aDeal b n k l p = aDeal b n 3 [] (sk b n 0) →
      Go Γ M_X1_readFrom 16 [(2, vi (nI i)), (1, vr 1 0), (0, vr 9 0)] [] (mk A) (0, 0) Q := by
    intro k
    induction k with
    | zero =>
      intro i l A p hi hl fA hTA hbA hd he
      refine go_step [16] 60 ?_; intro G K hG hK
      refine ⟨fun _ => ?_, fun (g : ¬ nI 3 ≤ nI i) => ?_⟩
      · exact rb0 (hf p A (by rw [← he]; rfl) fA hTA)
      · rw [show i = 3 by omega] at g; exact absurd (Int32.le_refl _) g
    | succ k ih =>
      intro i l A p hi hl fA hTA hbA hd he
      refine go_step [16] 60 ?_; intro G K hG hK
      refine ⟨fun (g : nI 3 ≤ nI i) => absurd g (nI_ge (by omega) (by omega)), fun _ => ?_⟩
      unfold aDeal at he
      refine hG _ _ _ _ (go_readShare hTA hbA hd (by omega) (fun e B g1 fB tB => ?_) (fun s q B g1 fB tB dB => ?_))
      · simp only [g1] at he
        exact br0n (rb0 (hf e B he.symm (fA.trans fB) tB))
      simp only [g1] at he
      refine br1n ?_
      have hbB : B.1 2 0 = b := by rw [← hbA]; funext k; exact fB.2 2 0 k (by unfold pScr; omega)
      refine hG _ _ _ _ (gm_takeSign (M := B) (s := 44) tB hbB (fun g3 => ?_) (fun g3 => ?_))
      · have hlt := tS_lt g3
        simp only [if_pos g3] at he
        refine br1n ?_
        exact hK _ _ _ _ _ (go_bus (ih (i + 1) (l ++ [s]) (pos B (sk b n (q + 1))) (sk b n (q + 1)) (by omega) (by rw [List.length_append, hl]; rfl) ((fA.trans fB).trans (Fr.pos k1)) (tB.pos (sk_le (by omega)).2) hbB (dB.of rfl rfl rfl rfl) he) ⟨lvi (nI_1 i), rfl, rfl, trivial⟩)
      · simp only [if_neg g3] at he
        refine br0n ?_
        refine ⟨fun (g4 : B.1 9 0 3 ≤ 0) => ?_, fun (g4 : ¬ B.1 9 0 3 ≤ 0) => ?_⟩
        · rw [dB.2.1] at g4
          simp only [if_pos g4] at he
          exact rb0 (hf _ B he.symm (fA.trans fB) tB)
        · rw [dB.2.1] at g4
          simp only [if_neg g4] at he
          refine hG _ _ _ _ (go_readLost tB hbB (fun e C g5 fC tC => ?_) (fun r e C g5 fC tC dCl w1 w2 => ?_))
          · simp only [g5] at he
            exact br0z (rb0 (hf e C he.symm ((fA.trans fB).trans fC) tC))
          · simp only [g5] at he
            refine br1z ?_
            refine hG _ _ _ _ (go_isAtEnd tC ?_)
            by_cases g6 : e = n
            · simp only [if_pos g6] at he
              rw [b32_t g6]
              refine br1z (rb1 (ht _ _ C he.symm ((fA.trans fB).trans fC) (by rw [g6] at tC; exact tC) (by rw [List.length_append, List.length_singleton]; omega) (dCl _ dB) w1 w2))
            · simp only [if_neg g6] at he
              rw [b32_f g6]
              exact br0z (rb0 (hf e C he.symm ((fA.trans fB).trans fC) tC))
  refine gm_step [16] 60 ?_; intro G K hG hK
  refine hG _ _ _ _ ?_
  refine gm_step [] 60 ?_; intro G' K' hG' hK'
  refine hG' _ _ _ _ (go_moveTo (q := 0) hn hl (Nat.zero_le _) ?_)
  rw [hb]
  refine hK _ _ _ _ _ (go_bus (key 3 0 [] (uI (uI (pos M (sk b n 0)) 9 0 0 0) 9 0 3 0) (sk b n 0) (by omega) rfl (((Fr.pos k1).trans (Fr.u (by unfold pScr; omega))).trans (Fr.u (by unfold pScr; omega))) ⟨hn, (sk_le (Nat.zero_le _)).2, hl, rfl⟩ hb ⟨rfl, rfl, fun i hi => absurd hi (Nat.not_lt_zero _)⟩ rfl) ⟨rfl, rfl, rfl, trivial⟩)
end DEAL
