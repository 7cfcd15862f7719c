/-! The reference: orders of a text. -/
theorem isW_len {b : Nat → Int32} {n p k : Nat} (h : isW b n p k = true) : er b n 97 122 p = p + (wd k).length ∧ ∀ i, i < (wd k).length → b (p + i) = (wd k).getD i 0 := by
  unfold isW at h
  rw [Bool.and_eq_true, decide_eq_true_iff, allB_iff] at h
  exact ⟨h.1, fun i hi => of_decide_eq_true (h.2 i hi)⟩
theorem wd_inj0 : (List.range 28).all (fun a => (List.range 28).all (fun c => Nat.beq a c || !decide (wd a = wd c))) = true := by decide +kernel
theorem wd_inj {a c : Nat} (ha : a < 28) (hc : c < 28) (h : wd a = wd c) : a = c := by
  have h1 := List.all_eq_true.mp (List.all_eq_true.mp wd_inj0 a (List.mem_range.mpr ha)) c (List.mem_range.mpr hc)
  rw [decide_eq_true h, Bool.not_true, Bool.or_false] at h1
  exact Nat.eq_of_beq_eq_true h1
/-- one word stands at a place -/
theorem isW_uni {b : Nat → Int32} {n p a c : Nat} (ha : a < 28) (hc : c < 28) (h1 : isW b n p a = true) (h2 : isW b n p c = true) : a = c := by
  obtain ⟨e1, f1⟩ := isW_len h1
  obtain ⟨e2, f2⟩ := isW_len h2
  have hl : (wd a).length = (wd c).length := by omega
  apply wd_inj ha hc
  apply List.ext_getElem hl
  intro i hi hi2
  have := (f1 i hi).symm.trans (f2 i hi2)
  rw [List.getD_eq_getElem?_getD, List.getD_eq_getElem?_getD, List.getElem?_eq_getElem hi, List.getElem?_eq_getElem hi2] at this
  exact this
theorem fnd_some {b : Nat → Int32} {n s : Nat} : ∀ m k j, fndF b n s m k = some j → k ≤ j ∧ j < k + m ∧ isW b n s (wn j) = true
  | 0, _, _, h => by cases h
  | m + 1, k, j, h => by
    unfold fndF at h
    split at h
    · rename_i g
      cases h
      exact ⟨Nat.le_refl _, by omega, g⟩
    · obtain ⟨h1, h2, h3⟩ := fnd_some m (k + 1) j h
      exact ⟨by omega, by omega, h3⟩
theorem fnd_none {b : Nat → Int32} {n s : Nat} : ∀ m k, fndF b n s m k = none → ∀ j, k ≤ j → j < k + m → ¬ isW b n s (wn j) = true
  | 0, _, _, _, h1, h2 => absurd h2 (by omega)
  | m + 1, k, h, j, h1, h2 => by
    unfold fndF at h
    split at h
    · cases h
    · rename_i g
      rcases Nat.lt_or_ge k j with q | q
      · exact fnd_none m (k + 1) h j (by omega) (by omega)
      · rw [show j = k by omega]; exact g
theorem pAct_of {b : Nat → Int32} {n p k : Nat} (hk : k < 5) (h : isW b n p (wn k) = true) : pAct b n p = nI k := by
  have u : ∀ j, j < 28 → j ≠ wn k → ¬ isW b n p j = true := fun j hj hne h2 => hne (isW_uni hj (wn_lt k (by omega)) h2 h)
  unfold pAct
  rcases (show k = 0 ∨ k = 1 ∨ k = 2 ∨ k = 3 ∨ k = 4 by omega) with rfl | rfl | rfl | rfl | rfl
  · have h : isW b n p 7 = true := h
    rw [if_pos h]; rfl
  · have h : isW b n p 9 = true := h
    rw [if_neg (u 7 (by decide) (by decide)), if_pos h]; rfl
  · have h : isW b n p 15 = true := h
    rw [if_neg (u 7 (by decide) (by decide)), if_neg (u 9 (by decide) (by decide)), if_pos h]; rfl
  · have h : isW b n p 27 = true := h
    rw [if_neg (u 7 (by decide) (by decide)), if_neg (u 9 (by decide) (by decide)), if_neg (u 15 (by decide) (by decide)), if_pos h]; rfl
  · have h : isW b n p 4 = true := h
    rw [if_neg (u 7 (by decide) (by decide)), if_neg (u 9 (by decide) (by decide)), if_neg (u 15 (by decide) (by decide)), if_neg (u 27 (by decide) (by decide)), if_pos h]; rfl
theorem pAct_no {b : Nat → Int32} {n p : Nat} (h : ∀ k, k < 5 → ¬ isW b n p (wn k) = true) : pAct b n p = -1 := by
  unfold pAct
  rw [if_neg (show ¬ isW b n p 7 = true from h 0 (by decide)), if_neg (show ¬ isW b n p 9 = true from h 1 (by decide)), if_neg (show ¬ isW b n p 15 = true from h 2 (by decide)), if_neg (show ¬ isW b n p 27 = true from h 3 (by decide)), if_neg (show ¬ isW b n p 4 = true from h 4 (by decide))]
/-- the row at o is r -/
def rowM (M : MM) (o : Nat) (r : Row) : Prop := M.1 67 0 o = r.2.1 ∧ (¬ r.2.1 = 4 → M.1 67 0 (o + 1) = r.2.2) ∧ (r.1.1 = 0 → M.1 67 0 (o + 2) = -1) ∧ (¬ r.1.1 = 0 → M.1 67 0 (o + 2) = r.1.2.1 ∧ M.1 67 0 (o + 3) = r.1.2.2 ∧ M.1 67 0 (o + 4) = (if r.1.1 = 1 then 0 else 1))
theorem rowM.of {M M' : MM} {o o' : Nat} {r : Row} (h : rowM M o r) (e : ∀ k, k < 5 → M'.1 67 0 (o' + k) = M.1 67 0 (o + k)) : rowM M' o' r := by
  have e0 : M'.1 67 0 o' = M.1 67 0 o := e 0 (by decide)
  unfold rowM
  rw [e0, e 1 (by decide), e 2 (by decide), e 3 (by decide), e 4 (by decide)]
  exact h
section MORD
variable {Γ : GG} {M : MM} {Q : Out → Mem → Prop} {n p q : Nat} {b : Nat → Int32}
theorem TM.sk (h : TM M n p q) : sk b n p ≤ n := (sk_le h.2.1).2
theorem TM.of67 {M' : MM} (h : TM M n p q) (e : ∀ k, M'.1 44 0 k = M.1 44 0 k) : TM M' n p q := ⟨h.1, h.2.1, h.2.2.1, (e _).trans h.2.2.2.1, (e _).trans h.2.2.2.2.1, (e _).trans h.2.2.2.2.2⟩
/-- an act behind a place, read by readWord(0, 4) or known already -/
theorem aAct_4 {s : Nat} (h : pAct b n s = 4) : aAct b n s = .ok ((4, 0), nw b n s) := by
  unfold aAct; rw [if_neg (by rw [h]; decide), if_pos h]
theorem aAct_no {s : Nat} (h : pAct b n s = -1) : aAct b n s = .error s := by unfold aAct; rw [if_pos h]
theorem aAct_f {s : Nat} (h : ¬ pAct b n s = -1) (h4 : ¬ pAct b n s = 4) (hn : nmb b n m6 (nw b n s) = -1) : aAct b n s = .error (nw b n s) := by
  unfold aAct; rw [if_neg h, if_neg h4, if_pos hn]
theorem aAct_t {s : Nat} (h : ¬ pAct b n s = -1) (h4 : ¬ pAct b n s = 4) (hn : ¬ nmb b n m6 (nw b n s) = -1) : aAct b n s = .ok ((pAct b n s, nmb b n m6 (nw b n s)), nn b n (nw b n s)) := by
  unfold aAct; rw [if_neg h, if_neg h4, if_neg hn]
theorem gm_mreadAct {o k s : Nat} (hT : TM M n (er b n 97 122 s) s) (hs : s ≤ n) (hb : M.1 81 0 = b) (ho : o + 5 ≤ 780) (hk : k < 5) (hw : isW b n s (wn k) = true)
    (hf : ∀ e r M', aAct b n s = .error e → r ≤ n → Fr (pOM o) M M' → TM M' n r e → Q (rI 0) (mk M'))
    (ht : ∀ a e at' q' M', aAct b n s = .ok (a, e) → Fr (pOM o) M M' → sk b n at' = e → TM M' n at' q' → M'.1 67 0 o = a.1 → (¬ a.1 = 4 → M'.1 67 0 (o + 1) = a.2) → (∀ j, j ≠ o → j ≠ o + 1 → M'.1 67 0 j = M.1 67 0 j) → Q (rI 1) (mk M')) : Gm Γ M_X7_readAct [vr 44 0, vi (nI o), vi (nI k)] (mk M) Q := by
  have hpa := pAct_of hk hw
  have hne : ¬ pAct b n s = -1 := by rw [hpa]; exact ne_m1 (by omega)
  refine go_mreadAct hT hb ho (fun e4 M' f t r0 r1 rr => ?_) (fun e4 g r M' hr f t => ?_) (fun e4 g M' f t r0 r1 rr => ?_)
  · exact ht (4, 0) (nw b n s) _ _ M' (aAct_4 (by rw [hpa]; exact e4)) f rfl t r0 (fun z => absurd rfl z) rr
  · exact hf _ r M' (aAct_f hne (by rw [hpa]; exact e4) g) hr f t
  · exact ht _ _ _ _ M' (aAct_t hne (by rw [hpa]; exact e4) g) f rfl t (by rw [hpa]; exact r0) (fun _ => r1) rr
theorem go_mreadOrder {i : Nat} (hT : TM M n p q) (hb : M.1 81 0 = b) (hi : i < 12)
    (hf : ∀ e r M', aOrd b n (sk b n p) = .error e → r ≤ n → Fr (pOM (720 + 5 * i)) M M' → TM M' n r e → Q (rI 0) (mk M'))
    (ht : ∀ x e at' q' M', aOrd b n (sk b n p) = .ok (x, e) → Fr (pOM (720 + 5 * i)) M M' → sk b n at' = e → TM M' n at' q' → rowM M' (720 + 5 * i) x → Q (rI 1) (mk M')) : Gm Γ M_X7_readOrder [vr 44 0, vi (nI i)] (mk M) Q := by
  have hp := hT.2.1
  have hs := hT.sk (b := b)
  obtain ⟨e1, e2⟩ := er_le (b := b) (lo := 97) (hi := 122) hs
  have eo : (5 : Int32) * (144 + nI i) = nI (720 + 5 * i) := by rw [show (144 : Int32) = nI 144 from rfl, nI_add, show (5 : Int32) = nI 5 from rfl, pk_mul]; congr 1; omega
  have kp : ∀ t k, pRd t k → pOM (720 + 5 * i) t k := fun t k h => Or.inl h
  have kr : ∀ k, k < 5 → pOM (720 + 5 * i) 67 (720 + 5 * i + k) := fun k hk => Or.inr ⟨rfl, by omega, by omega⟩
  have ho : 720 + 5 * i + 5 ≤ 780 := by omega
  generalize 720 + 5 * i = o at *
  have eck : ∀ k, k < 5 → cl (5 * (144 + nI i) + nI k) = o + k := fun k hk => by rw [eo, nI_add]; exact nI_clamp (by omega)
  have vk : ∀ k, k < 5 → vp_in (5 * (144 + nI i) + nI k) 780 := fun k hk => by rw [eo, nI_add]; exact vp_in_nI (by omega) (by decide)
  unfold aOrd at hf ht
  -- behind the condition: the last act of the order
  have h152 : ∀ (A : MM) (p2 q2 : Nat) (t : Int32 × Int32 × Int32), aTest b n (sk b n p) = .ok (t, sk b n p2) → TM A n p2 q2 → A.1 81 0 = b → Fr (pOM o) M A → ¬ t.1 = 0 → A.1 67 0 (o + 2) = t.2.1 → A.1 67 0 (o + 3) = t.2.2 → A.1 67 0 (o + 4) = (if t.1 = 1 then 0 else 1) → Go Γ M_X7_readOrder 152 [(2, vi (nI o)), (0, vr 44 0)] [] (mk A) (0, 0) Q := by
    intro A p2 q2 t he hTA hbA fA ht0 r2 r3 r4
    have hs2 := hTA.sk (b := b)
    obtain ⟨x1, x2⟩ := er_le (b := b) (lo := 97) (hi := 122) hs2
    simp only [he] at hf ht
    refine go_step [] 60 ?_; intro G K hG hK
    refine hG _ _ _ _ (go_readWord (lo := 0) (hi := 4) hTA hbA (by decide) (by decide) (fun g => ?_) (fun k g => ?_))
    · have hno := fnd_none 5 0 g
      have ha := aAct_no (pAct_no (fun k hk => hno k (by omega) (by omega)))
      simp only [ha] at hf
      refine ⟨fun _ => rb0 (hf _ _ (posM A (sk b n p2) (sk b n p2)) rfl hs2 (fA.trans (fr_posM.mono kp)) (hTA.posM hs2 hs2)), fun (z : ¬ (-1 : Int32) < 0) => absurd (by decide) z⟩
    · obtain ⟨g1, g2, g3⟩ := fnd_some 5 0 k g
      refine ⟨fun (z : nI k < 0) => absurd z (nI_pos (by omega)), fun _ => ?_⟩
      have hTB : TM (posM A (er b n 97 122 (sk b n p2)) (sk b n p2)) n (er b n 97 122 (sk b n p2)) (sk b n p2) := hTA.posM x2 hs2
      refine hG _ _ _ _ (gm_mreadAct (M := posM A (er b n 97 122 (sk b n p2)) (sk b n p2)) (k := k) hTB hs2 hbA ho (by omega) g3 (fun e r M' g4 hr f t1 => ?_) (fun a e at' q' M' g4 f hat t1 w0 w1 rr => ?_))
      · simp only [g4] at hf
        exact br0z (rb0 (hf e r M' rfl hr ((fA.trans (fr_posM.mono kp)).trans f) t1))
      · simp only [g4] at ht
        refine br1z (rb1 (ht _ e at' q' M' rfl ((fA.trans (fr_posM.mono kp)).trans f) hat t1 ⟨w0, w1, fun z => absurd z ht0, fun _ => ⟨?_, ?_, ?_⟩⟩))
        · rw [rr _ (by omega) (by omega)]; exact r2
        · rw [rr _ (by omega) (by omega)]; exact r3
        · rw [rr _ (by omega) (by omega)]; exact r4
  -- behind the sign: the bound
  have h106 : ∀ (A : MM) (p2 q2 : Nat) (u : Int32) (tv mv : Int32), (∀ e, nmb b n m6 (sk b n p2) = -1 → e = sk b n p2 → aTest b n (sk b n p) = .error e) → (¬ nmb b n m6 (sk b n p2) = -1 → aTest b n (sk b n p) = .ok ((tv, mv, nmb b n m6 (sk b n p2)), nn b n (sk b n p2))) → TM A n p2 q2 → A.1 81 0 = b → Fr (pOM o) M A → A.1 67 0 (o + 2) = mv → (u = 1 ∧ tv = 1 ∨ u = 0 ∧ tv = 2) → Go Γ M_X7_readOrder 106 [(4, vi u), (2, vi (nI o)), (0, vr 44 0)] [] (mk A) (0, 0) Q := by
    intro A p2 q2 u tv mv hef het hTA hbA fA r2 hu
    have hs2 := hTA.sk (b := b)
    obtain ⟨x1, x2⟩ := er_le (b := b) (lo := 48) (hi := 57) hs2
    have htv : ¬ tv = 0 := by
      rcases hu with ⟨-, rfl⟩ | ⟨-, rfl⟩
      · decide
      · decide
    have fin : ∀ z : Int32, z = (if tv = 1 then 0 else 1) → Go Γ M_X7_readOrder 124 [(4, vi u), (2, vi (nI o)), (0, vr 44 0)] [] (mk (uI A 67 0 (o + 4) z)) (0, 0) Q := by
      intro z hz
      have ec3 : cl (nI o + 3) = o + 3 := by rw [show (3 : Int32) = nI 3 from rfl, nI_add]; exact nI_clamp (by omega)
      have v3 : vp_in (nI o + 3) 780 := by rw [show (3 : Int32) = nI 3 from rfl, nI_add]; exact vp_in_nI (by omega) (by decide)
      have hTB : TM (uI A 67 0 (o + 4) z) n p2 q2 := hTA
      have fB : Fr (pOM o) M (uI A 67 0 (o + 4) z) := fA.trans (Fr.u (kr 4 (by decide)))
      refine go_step [152] 60 ?_; intro G K hG hK
      refine hG _ _ _ _ (go_readNumber (M := uI A 67 0 (o + 4) z) (most := m6) hTB hbA (fun g2 => ?_) (fun g2 r hr => ?_))
      · refine ⟨v3, v3, ?_⟩
        have hnn : 0 ≤ nmb b n m6 (sk b n p2) := by
          obtain ⟨⟨w, hw, hwl⟩, -⟩ := nmb_ok g2
          rw [hw]; exact nI_pos' (by omega)
        refine br_of (P' := 0 ≤ nmb b n m6 (sk b n p2)) (by show 0 ≤ up3 _ 67 0 (cl (nI o + 3)) _ 67 0 (cl (nI o + 3)) ↔ _; rw [up3_self]) (fun _ => ?_) (fun z => absurd hnn z)
        refine hK _ _ _ _ _ (go_bus (h152 (uI (posM (uI A 67 0 (o + 4) z) (er b n 48 57 (sk b n p2)) (sk b n p2)) 67 0 (cl (nI o + 3)) (nmb b n m6 (sk b n p2))) (er b n 48 57 (sk b n p2)) (sk b n p2) _ (het g2) (hTB.posM x2 hs2) hbA ((fB.trans (fr_posM.mono kp)).trans (Fr.u (by rw [ec3]; exact kr 3 (by decide)))) htv ?_ ?_ ?_) ⟨rfl, rfl, trivial⟩)
        · rw [ec3, uI_1, if_neg (by omega)]
          show (uI A 67 0 (o + 4) z).1 67 0 (o + 2) = mv
          rw [uI_1, if_neg (by omega)]; exact r2
        · rw [ec3]; exact up3_self
        · rw [ec3, uI_1, if_neg (by omega)]
          show (uI A 67 0 (o + 4) z).1 67 0 (o + 4) = _
          rw [← hz]; exact up3_self
      · refine ⟨v3, v3, ?_⟩
        refine br_of (P' := False) (by show 0 ≤ up3 _ 67 0 (cl (nI o + 3)) _ 67 0 (cl (nI o + 3)) ↔ _; rw [up3_self]; exact ⟨fun (z : (0 : Int32) ≤ -1) => absurd z (by decide), fun z => z.elim⟩) (fun z => z.elim) (fun _ => ?_)
        have he := hef _ g2 rfl
        simp only [he] at hf
        exact rb0 (hf _ r (uI (posM (uI A 67 0 (o + 4) z) r (sk b n p2)) 67 0 (cl (nI o + 3)) (-1)) rfl hr ((fB.trans (fr_posM.mono kp)).trans (Fr.u (by rw [ec3]; exact kr 3 (by decide)))) (hTB.posM hr hs2))
    have ec4 : cl (nI o + 4) = o + 4 := by rw [show (4 : Int32) = nI 4 from rfl, nI_add]; exact nI_clamp (by omega)
    have v4 : vp_in (nI o + 4) 780 := by rw [show (4 : Int32) = nI 4 from rfl, nI_add]; exact vp_in_nI (by omega) (by decide)
    refine go_step [124] 60 ?_; intro G K hG hK
    rcases hu with ⟨rfl, rfl⟩ | ⟨rfl, rfl⟩
    · refine br1z ?_
      refine ⟨v4, ?_⟩
      have := fin 0 rfl
      rw [← ec4] at this
      exact hK _ _ _ _ _ (go_bus this ⟨rfl, rfl, rfl, trivial⟩)
    · refine br0z ?_
      refine ⟨v4, ?_⟩
      have := fin 1 rfl
      rw [← ec4] at this
      exact hK _ _ _ _ _ (go_bus this ⟨rfl, rfl, rfl, trivial⟩)
  -- behind 'if': the market's number and the sign
  have h54 : isW b n (sk b n p) 8 = true → ∀ A : MM, TM A n (er b n 97 122 (sk b n p)) (sk b n p) → A.1 81 0 = b → Fr (pOM o) M A → Go Γ M_X7_readOrder 54 [(2, vi (nI o)), (0, vr 44 0)] [] (mk A) (0, 0) Q := by
    intro hif A hTA hbA fA
    have hs2 : nw b n (sk b n p) ≤ n := nw_le hs
    obtain ⟨x1, x2⟩ := er_le (b := b) (lo := 48) (hi := 57) hs2
    have ec2 : cl (nI o + 2) = o + 2 := by rw [show (2 : Int32) = nI 2 from rfl, nI_add]; exact nI_clamp (by omega)
    have v2 : vp_in (nI o + 2) 780 := by rw [show (2 : Int32) = nI 2 from rfl, nI_add]; exact vp_in_nI (by omega) (by decide)
    have eT : aTest b n (sk b n p) = if nmb b n m6 (nw b n (sk b n p)) = -1 then .error (nw b n (sk b n p)) else match aTest2 b n (nn b n (nw b n (sk b n p))) with
      | .error e => .error e
      | .ok (r, e) => .ok ((r.1, nmb b n m6 (nw b n (sk b n p)), r.2), e) := by unfold aTest; rw [if_pos hif]; rfl
    refine go_step [106] 60 ?_; intro G K hG hK
    refine hG _ _ _ _ (go_readNumber (M := A) (most := m6) hTA hbA (fun g2 => ?_) (fun g2 r hr => ?_))
    rotate_left
    · refine ⟨v2, v2, ?_⟩
      refine br_of (P' := False) (by show 0 ≤ up3 _ 67 0 (cl (nI o + 2)) _ 67 0 (cl (nI o + 2)) ↔ _; rw [up3_self]; exact ⟨fun (z : (0 : Int32) ≤ -1) => absurd z (by decide), fun z => z.elim⟩) (fun z => z.elim) (fun _ => ?_)
      have g2 : nmb b n m6 (nw b n (sk b n p)) = -1 := g2
      rw [if_pos g2] at eT
      simp only [eT] at hf
      exact rb0 (hf _ r (uI (posM A r (nw b n (sk b n p))) 67 0 (cl (nI o + 2)) (-1)) rfl hr ((fA.trans (fr_posM.mono kp)).trans (Fr.u (by rw [ec2]; exact kr 2 (by decide)))) (hTA.posM hr hs2))
    have g2 : ¬ nmb b n m6 (nw b n (sk b n p)) = -1 := g2
    rw [if_neg g2] at eT
    refine ⟨v2, v2, ?_⟩
    have hnn : 0 ≤ nmb b n m6 (nw b n (sk b n p)) := by
      obtain ⟨⟨w, hw, hwl⟩, -⟩ := nmb_ok g2
      rw [hw]; exact nI_pos' (by omega)
    refine br_of (P' := 0 ≤ nmb b n m6 (nw b n (sk b n p))) (by show 0 ≤ up3 _ 67 0 (cl (nI o + 2)) _ 67 0 (cl (nI o + 2)) ↔ _; rw [up3_self]; exact Iff.rfl) (fun _ => ?_) (fun z => absurd hnn z)
    have hTB : TM (uI (posM A (er b n 48 57 (nw b n (sk b n p))) (nw b n (sk b n p))) 67 0 (cl (nI o + 2)) (nmb b n m6 (nw b n (sk b n p)))) n (er b n 48 57 (nw b n (sk b n p))) (nw b n (sk b n p)) := hTA.posM x2 hs2
    have fB : Fr (pOM o) M (uI (posM A (er b n 48 57 (nw b n (sk b n p))) (nw b n (sk b n p))) 67 0 (cl (nI o + 2)) (nmb b n m6 (nw b n (sk b n p)))) := (fA.trans (fr_posM.mono kp)).trans (Fr.u (by rw [ec2]; exact kr 2 (by decide)))
    have r2 : (uI (posM A (er b n 48 57 (nw b n (sk b n p))) (nw b n (sk b n p))) 67 0 (cl (nI o + 2)) (nmb b n m6 (nw b n (sk b n p)))).1 67 0 (o + 2) = nmb b n m6 (nw b n (sk b n p)) := by rw [ec2]; exact up3_self
    have hq2 : nn b n (nw b n (sk b n p)) ≤ n := nn_le hs2
    unfold aTest2 at eT
    refine hG _ _ _ _ (gm_readSign (M := uI (posM A (er b n 48 57 (nw b n (sk b n p))) (nw b n (sk b n p))) 67 0 (cl (nI o + 2)) (nmb b n m6 (nw b n (sk b n p)))) (c := 60) hTB hbA (fun g3 => ?_) (fun g3 => ?_))
    · have g3 : tSign b n (nn b n (nw b n (sk b n p))) 60 = true := g3
      have hlt := tS_lt g3
      rw [if_pos g3] at eT
      refine br1n ?_
      refine hK _ _ _ _ _ (go_bus (h106 (posM (uI (posM A (er b n 48 57 (nw b n (sk b n p))) (nw b n (sk b n p))) 67 0 (cl (nI o + 2)) (nmb b n m6 (nw b n (sk b n p)))) (nn b n (nw b n (sk b n p)) + 1) (nn b n (nw b n (sk b n p)))) (nn b n (nw b n (sk b n p)) + 1) (nn b n (nw b n (sk b n p))) 1 1 (nmb b n m6 (nw b n (sk b n p))) (fun e z1 z2 => by rw [eT, if_pos z1, z2]) (fun z1 => by rw [eT, if_neg z1]) (hTB.posM (by omega) hq2) hbA (fB.trans (fr_posM.mono kp)) r2 (Or.inl ⟨rfl, rfl⟩)) ⟨rfl, rfl, rfl, trivial⟩)
    · have g3 : ¬ tSign b n (nn b n (nw b n (sk b n p))) 60 = true := g3
      rw [if_neg g3] at eT
      refine br0n ?_
      have hTC : TM (posM (uI (posM A (er b n 48 57 (nw b n (sk b n p))) (nw b n (sk b n p))) 67 0 (cl (nI o + 2)) (nmb b n m6 (nw b n (sk b n p)))) (nn b n (nw b n (sk b n p))) (nn b n (nw b n (sk b n p)))) n (nn b n (nw b n (sk b n p))) (nn b n (nw b n (sk b n p))) := hTB.posM hq2 hq2
      have ess : sk b n (nn b n (nw b n (sk b n p))) = nn b n (nw b n (sk b n p)) := sk_sk (er_le hs2).2
      refine hG _ _ _ _ (gm_readSign (M := posM (uI (posM A (er b n 48 57 (nw b n (sk b n p))) (nw b n (sk b n p))) 67 0 (cl (nI o + 2)) (nmb b n m6 (nw b n (sk b n p)))) (nn b n (nw b n (sk b n p))) (nn b n (nw b n (sk b n p)))) (c := 62) hTC hbA (fun g5 => ?_) (fun g5 => ?_))
      · rw [ess] at g5 ⊢
        have hlt := tS_lt g5
        rw [if_pos g5] at eT
        refine br1n ?_
        refine hK _ _ _ _ _ (go_bus (h106 (posM (posM (uI (posM A (er b n 48 57 (nw b n (sk b n p))) (nw b n (sk b n p))) 67 0 (cl (nI o + 2)) (nmb b n m6 (nw b n (sk b n p)))) (nn b n (nw b n (sk b n p))) (nn b n (nw b n (sk b n p)))) (nn b n (nw b n (sk b n p)) + 1) (nn b n (nw b n (sk b n p)))) (nn b n (nw b n (sk b n p)) + 1) (nn b n (nw b n (sk b n p))) 0 2 (nmb b n m6 (nw b n (sk b n p))) (fun e z1 z2 => by rw [eT, if_pos z1, z2]) (fun z1 => by rw [eT, if_neg z1]) (hTC.posM (by omega) hq2) hbA ((fB.trans (fr_posM.mono kp)).trans (fr_posM.mono kp)) r2 (Or.inr ⟨rfl, rfl⟩)) ⟨rfl, rfl, rfl, trivial⟩)
      · rw [ess] at g5 ⊢
        rw [if_neg g5] at eT
        simp only [eT] at hf
        exact br0n (rb0 (hf _ _ _ rfl hq2 ((fB.trans (fr_posM.mono kp)).trans (fr_posM.mono kp)) (hTC.posM hq2 hq2)))
  refine gm_step [54] 60 ?_; intro G K hG hK
  refine ⟨fun _ => ?_, fun (z : ¬ ¬ nI i = 12) => absurd (fun e => by rw [show (12 : Int32) = nI 12 from rfl, nI_eq (by omega) (by omega)] at e; omega) z⟩
  refine hG _ _ _ _ (go_readWord (lo := 0) (hi := 5) hT hb (by decide) (by decide) (fun g => ?_) (fun k g => ?_))
  · have hno := fnd_none 6 0 g
    have h8 : ¬ isW b n (sk b n p) 8 = true := hno 5 (by decide) (by decide)
    have ha := aAct_no (pAct_no (fun k hk => hno k (by omega) (by omega)))
    have eT : aTest b n (sk b n p) = .ok ((0, 0, 0), sk b n p) := by unfold aTest; rw [if_neg h8]
    simp only [eT, ha] at hf
    exact ⟨fun (z : (0 : Int32) ≤ -1) => absurd z (by decide), fun _ => rb0 (hf _ _ (posM M (sk b n p) (sk b n p)) rfl hs (fr_posM.mono kp) (hT.posM hs hs))⟩
  · obtain ⟨g1, g2, g3⟩ := fnd_some 6 0 k g
    refine ⟨fun _ => ?_, fun (z : ¬ 0 ≤ nI k) => absurd (nI_pos' (by omega)) z⟩
    have hTA : TM (posM M (er b n 97 122 (sk b n p)) (sk b n p)) n (er b n 97 122 (sk b n p)) (sk b n p) := hT.posM e2 hs
    refine ⟨vk 2 (by decide), ?_⟩
    have ec2 := eck 2 (by decide)
    have fB : Fr (pOM o) M (uI (posM M (er b n 97 122 (sk b n p)) (sk b n p)) 67 0 (cl (5 * (144 + nI i) + nI 2)) (-1)) := (fr_posM.mono kp).trans (Fr.u (by rw [ec2]; exact kr 2 (by decide)))
    refine ⟨fun (z : nI 5 ≤ nI k) => ?_, fun (z : ¬ nI 5 ≤ nI k) => ?_⟩
    · rw [nI_leI (by omega) (by omega)] at z
      have e5 : k = 5 := by omega
      subst e5
      exact hK _ _ _ _ _ (go_bus (h54 g3 (uI (posM M (er b n 97 122 (sk b n p)) (sk b n p)) 67 0 (cl (5 * (144 + nI i) + nI 2)) (-1)) hTA hb fB) ⟨lvi eo, rfl, trivial⟩)
    · rw [nI_leI (by omega) (by omega)] at z
      have h8 : ¬ isW b n (sk b n p) 8 = true := fun h8 => absurd (isW_uni (by decide) (wn_lt k (by omega)) h8 g3) (by rcases (show k = 0 ∨ k = 1 ∨ k = 2 ∨ k = 3 ∨ k = 4 by omega) with rfl | rfl | rfl | rfl | rfl <;> decide)
      have eT : aTest b n (sk b n p) = .ok ((0, 0, 0), sk b n p) := by unfold aTest; rw [if_neg h8]
      simp only [eT] at hf ht
      show G M_X7_readAct [vr 44 0, vi (5 * (144 + nI i)), vi (nI k)] (mk (uI (posM M (er b n 97 122 (sk b n p)) (sk b n p)) 67 0 (cl (5 * (144 + nI i) + nI 2)) (-1))) _
      rw [eo]
      rw [eo] at fB ec2
      refine hG _ _ _ _ (gm_mreadAct (M := uI (posM M (er b n 97 122 (sk b n p)) (sk b n p)) 67 0 (cl (nI o + nI 2)) (-1)) (k := k) hTA hs hb ho (by omega) g3 (fun e r M' g4 hr f t1 => ?_) (fun a e at' q' M' g4 f hat t1 w0 w1 rr => ?_))
      · simp only [g4] at hf
        exact rb0 (hf e r M' rfl hr (fB.trans f) t1)
      · simp only [g4] at ht
        refine rb1 (ht _ e at' q' M' rfl (fB.trans f) hat t1 ⟨w0, w1, fun _ => ?_, fun z => absurd rfl z⟩)
        rw [rr _ (by omega) (by omega), ec2]; exact up3_self
end MORD
