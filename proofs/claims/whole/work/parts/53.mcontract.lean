/-! The reference: shares of a contract; contract told; the smaller rest of its face. -/
def mTold1 (x : Int32) (k : Nat) (A : MM) : MM := uI A 69 0 (cl (9 * x + nI k)) (A.1 71 0 (cl (nI k)))
section MCON
variable {Γ : GG} {M : MM} {Q : Out → Mem → Prop} {n p q ns nc : Nat} {b : Nat → Int32} {x : Int32}
theorem go_deal27 {l : List Shr} {i kk : Nat} {s : Int32} (hl : l.length = i) (hi3 : i ≤ 3) (hd : dM M l) (hk : 6 ≤ kk ∧ kk < 9)
    (hf : hasP (nI (kk - 6)) l = true → Q (rI (-1)) (mk M))
    (ht : ¬ hasP (nI (kk - 6)) l = true → Go Γ M_X7_readDeal 57 [(3, vi (nI kk)), (2, vi s), (1, vi (nI i)), (0, vr 44 0)] [] (mk M) (0, 0) Q) : Go Γ M_X7_readDeal 27 [(4, vi (nI 0)), (3, vi (nI kk)), (2, vi s), (1, vi (nI i)), (0, vr 44 0)] [] (mk M) (0, 0) Q := by
  have e6 : nI kk - 6 = nI (kk - 6) := by rw [show (6 : Int32) = nI 6 from rfl, pk_sub hk.1]
  have key : ∀ m j, j + m = i → (∀ t (h1 : t < l.length), t < j → ¬ l[t].1 = nI (kk - 6)) → Go Γ M_X7_readDeal 27 [(4, vi (nI j)), (3, vi (nI kk)), (2, vi s), (1, vi (nI i)), (0, vr 44 0)] [] (mk M) (0, 0) Q := by
    intro m
    induction m with
    | zero =>
      intro j hj hn
      refine go_step [57] 60 ?_; intro G K hG hK
      refine ⟨fun _ => ?_, fun (z : ¬ nI i ≤ nI j) => ?_⟩
      · refine hK _ _ _ _ _ (go_bus (ht (fun z => ?_)) ⟨rfl, rfl, rfl, rfl, trivial⟩)
        obtain ⟨t, h1, e⟩ := hasP_iff.mp z
        exact hn t h1 (by omega) e
      · rw [show i = j by omega] at z; exact absurd (Int32.le_refl _) z
    | succ m ih =>
      intro j hj hn
      have e1 : (1 : Int32) + nI j = nI (1 + j) := by rw [show (1 : Int32) = nI 1 from rfl, nI_add]
      have v1 : vp_in (1 + nI j) 9 := by rw [e1]; exact vp_in_nI (by omega) (by decide)
      have c1 : cl (1 + nI j) = 1 + j := by rw [e1]; exact nI_clamp (by omega)
      refine go_step [27] 60 ?_; intro G K hG hK
      refine ⟨fun (z : nI i ≤ nI j) => absurd z (nI_ge (by omega) (by omega)), fun _ => ?_⟩
      refine ⟨v1, ?_⟩
      refine ⟨fun (z : ¬ M.1 71 0 (cl (1 + nI j)) = nI kk - 6) => ?_, fun (z : ¬ ¬ M.1 71 0 (cl (1 + nI j)) = nI kk - 6) => ?_⟩
      · rw [c1, e6, (hd j (by omega)).1] at z
        refine hK _ _ _ _ _ (go_bus (ih (j + 1) (by omega) (fun t h1 h2 => ?_)) ⟨lvi (nI_1 j), rfl, rfl, rfl, rfl, trivial⟩)
        rcases Nat.lt_or_ge t j with y | y
        · exact hn t h1 y
        · have e : t = j := by omega
          subst e; exact z
      · have z := Decidable.not_not.mp z
        rw [c1, e6, (hd j (by omega)).1] at z
        exact hf (hasP_iff.mpr ⟨j, by omega, z⟩)
  exact key i 0 (by omega) (fun t h1 h2 => absurd h2 (Nat.not_lt_zero _))
theorem go_readDeal {q0 : Nat} (hn : n ≤ 400) (hl : M.1 44 0 47 = nI n) (hq : q0 ≤ 400) (hbg : M.1 44 0 48 = nI q0) (hb : M.1 81 0 = b)
    (hf : ∀ e r M', aDeal b n 3 [] (sk b n 0) = .error e → Fr pDS M M' → TM M' n r e → Q (rI (-1)) (mk M'))
    (ht : ∀ l r e q' M', aDeal b n 3 [] (sk b n 0) = .ok (l, r) → Fr pDS M M' → TM M' n e q' → l.length ≤ 3 → shOk l → dM M' l → M'.1 71 0 0 = nI l.length → M'.1 71 0 7 = r.1 → (¬ r.1 = -1 → M'.1 71 0 8 = r.2) → ¬ smS l 0 ≤ 0 → Q (rI (nI l.length)) (mk M')) : Gm Γ M_X7_readDeal [vr 44 0] (mk M) Q := by
  have pd71 : ∀ k, pDS 71 k := fun k => Or.inr rfl
  have key : ∀ k i (l : List Shr) (A : MM) (p q : Nat), i + k = 3 → l.length = i → Fr pDS M A → TM A n p q → A.1 81 0 = b → dM A l → shOk l → aDeal b n k l (sk b n p) = aDeal b n 3 [] (sk b n 0) →
      Go Γ M_X7_readDeal 9 [(2, vi (smS l 0)), (1, vi (nI i)), (0, vr 44 0)] [] (mk A) (0, 0) Q := by
    intro k
    induction k with
    | zero =>
      intro i l A p q hi hl fA hTA hbA hd hok he
      have hs := hTA.sk (b := b)
      have e2 := (er_le (b := b) (lo := 97) (hi := 122) hs).2
      have he : aDeal b n 3 [] (sk b n 0) = .error (sk b n p) := he.symm
      refine go_step [27] 60 ?_; intro G K hG hK
      refine hG _ _ _ _ (go_readWord (M := A) (lo := 6) (hi := 8) hTA hbA (by decide) (by decide) (fun g => ?_) (fun kk g => ?_))
      · exact ⟨fun (z : (0 : Int32) ≤ -1) => absurd z (by decide), fun _ => hf _ _ _ he (fA.trans (fr_posM.mono pRd_D)) (hTA.posM hs hs)⟩
      · obtain ⟨k1, k2, k3⟩ := fnd_some 3 6 kk g
        refine ⟨fun _ => ?_, fun (z : ¬ 0 ≤ nI kk) => absurd (nI_pos' (by omega)) z⟩
        refine hK _ _ _ _ _ (go_bus (go_deal27 (M := posM A (er b n 97 122 (sk b n p)) (sk b n p)) (l := l) (i := i) (kk := kk) (s := smS l 0) hl (by omega) (hd.of (by omega) (fun _ _ _ => rfl)) ⟨k1, by omega⟩ (fun _ => ?_) (fun z => ?_)) ⟨rfl, rfl, rfl, rfl, rfl, trivial⟩)
        · exact hf _ _ _ he (fA.trans (fr_posM.mono pRd_D)) (hTA.posM e2 hs)
        · refine absurd (hok.full (by omega) ?_) z
          rcases (show kk = 6 ∨ kk = 7 ∨ kk = 8 by omega) with rfl | rfl | rfl
          · exact Or.inl rfl
          · exact Or.inr (Or.inl rfl)
          · exact Or.inr (Or.inr rfl)
    | succ k ih =>
      intro i l A p q hi hl fA hTA hbA hd hok he
      have hs := hTA.sk (b := b)
      have e2 := (er_le (b := b) (lo := 97) (hi := 122) hs).2
      rw [show aDeal b n (k + 1) l (sk b n p) = (match aShare b n l (sk b n p) with
        | .error e => .error e
        | .ok (s, q) => if tSign b n q 44 = true then aDeal b n k (l ++ [s]) (sk b n (q + 1)) else
          if smS (l ++ [s]) 0 ≤ 0 then .error q else (match aLost b n q with
          | .error e => .error e
          | .ok (r, e) => if e = n then .ok (l ++ [s], r) else .error e)) from rfl] at he
      have hshare : aShare b n l (sk b n p) = if pty b n (sk b n p) = -1 then .error (sk b n p) else if hasP (pty b n (sk b n p)) l = true then .error (sk b n p) else
        if nmb b n 99 (nw b n (sk b n p)) = -1 then .error (nw b n (sk b n p)) else .ok ((pty b n (sk b n p), nmb b n 99 (nw b n (sk b n p))), nn b n (nw b n (sk b n p))) := rfl
      have hs1 : nw b n (sk b n p) ≤ n := nw_le hs
      have e3 := (er_le (b := b) (lo := 48) (hi := 57) hs1).2
      have hq2 : nn b n (nw b n (sk b n p)) ≤ n := nn_le hs1
      have hn400 := hTA.1
      refine go_step [27] 60 ?_; intro G K hG hK
      refine hG _ _ _ _ (go_readWord (M := A) (lo := 6) (hi := 8) hTA hbA (by decide) (by decide) (fun g => ?_) (fun kk g => ?_))
      · have hno := fnd_none 3 6 g
        rw [if_pos (pty_no (fun k a c => hno k a (by omega)))] at hshare
        rw [hshare] at he
        exact ⟨fun (z : (0 : Int32) ≤ -1) => absurd z (by decide), fun _ => hf _ _ _ he.symm (fA.trans (fr_posM.mono pRd_D)) (hTA.posM hs hs)⟩
      obtain ⟨k1, k2, k3⟩ := fnd_some 3 6 kk g
      have hpt : pty b n (sk b n p) = nI (kk - 6) := pty_of k1 (by omega) k3
      rw [if_neg (by rw [hpt]; exact ne_m1 (by omega))] at hshare
      refine ⟨fun _ => ?_, fun (z : ¬ 0 ≤ nI kk) => absurd (nI_pos' (by omega)) z⟩
      refine hK _ _ _ _ _ (go_bus (go_deal27 (M := posM A (er b n 97 122 (sk b n p)) (sk b n p)) (l := l) (i := i) (kk := kk) (s := smS l 0) hl (by omega) (hd.of (by omega) (fun _ _ _ => rfl)) ⟨k1, by omega⟩ (fun z => ?_) (fun z => ?_)) ⟨rfl, rfl, rfl, rfl, rfl, trivial⟩)
      · rw [if_pos (by rw [hpt]; exact z)] at hshare
        rw [hshare] at he
        exact hf _ _ _ he.symm (fA.trans (fr_posM.mono pRd_D)) (hTA.posM e2 hs)
      rw [if_neg (by rw [hpt]; exact z)] at hshare
      have f1 : (1 : Int32) + nI i = nI (1 + i) := by rw [show (1 : Int32) = nI 1 from rfl, nI_add]
      have v1 : vp_in (1 + nI i) 9 := by rw [f1]; exact vp_in_nI (by omega) (by decide)
      have c1 : cl (1 + nI i) = 1 + i := by rw [f1]; exact nI_clamp (by omega)
      have f4 : (4 : Int32) + nI i = nI (4 + i) := by rw [show (4 : Int32) = nI 4 from rfl, nI_add]
      have v4 : vp_in (4 + nI i) 9 := by rw [f4]; exact vp_in_nI (by omega) (by decide)
      have c4 : cl (4 + nI i) = 4 + i := by rw [f4]; exact nI_clamp (by omega)
      have e6 : nI kk - 6 = pty b n (sk b n p) := by rw [hpt, show (6 : Int32) = nI 6 from rfl, pk_sub k1]
      have hTC : TM (uI (posM A (er b n 97 122 (sk b n p)) (sk b n p)) 71 0 (cl (1 + nI i)) (nI kk - 6)) n (er b n 97 122 (sk b n p)) (sk b n p) := hTA.posM e2 hs
      have fC : Fr pDS M (uI (posM A (er b n 97 122 (sk b n p)) (sk b n p)) 71 0 (cl (1 + nI i)) (nI kk - 6)) := (fA.trans (fr_posM.mono pRd_D)).trans (Fr.u (pd71 _))
      refine go_step [9, 119] 60 ?_; intro G K hG hK
      refine ⟨v1, ?_⟩
      refine hG _ _ _ _ (go_readNumber (M := uI (posM A (er b n 97 122 (sk b n p)) (sk b n p)) 71 0 (cl (1 + nI i)) (nI kk - 6)) (most := 99) hTC hbA (fun g5 => ?_) (fun g5 r hr => ?_))
      rotate_left
      · have g5 : nmb b n 99 (nw b n (sk b n p)) = -1 := g5
        rw [if_pos g5] at hshare
        rw [hshare] at he
        refine ⟨v4, v4, ?_⟩
        refine br_of (P' := False) (by show 0 ≤ up3 _ 71 0 (cl (4 + nI i)) _ 71 0 (cl (4 + nI i)) ↔ _; rw [up3_self]; exact ⟨fun (z : (0 : Int32) ≤ -1) => absurd z (by decide), fun z => z.elim⟩) (fun z => z.elim) (fun _ => ?_)
        exact hf _ r (uI (posM (uI (posM A (er b n 97 122 (sk b n p)) (sk b n p)) 71 0 (cl (1 + nI i)) (nI kk - 6)) r (nw b n (sk b n p))) 71 0 (cl (4 + nI i)) (-1)) he.symm ((fC.trans (fr_posM.mono pRd_D)).trans (Fr.u (pd71 _))) (hTC.posM hr hs1)
      have g5 : ¬ nmb b n 99 (nw b n (sk b n p)) = -1 := g5
      rw [if_neg g5] at hshare
      rw [hshare] at he
      obtain ⟨⟨w, hw, hwl⟩, hle⟩ := nmb_ok g5
      have hw99 : w ≤ 99 := by rw [hw] at hle; exact (nI_leI (b := 99) (by omega) (by decide)).mp hle
      have hnn : 0 ≤ nmb b n 99 (nw b n (sk b n p)) := by rw [hw]; exact nI_pos' (by omega)
      have hokn : shOk (l ++ [(pty b n (sk b n p), nmb b n 99 (nw b n (sk b n p)))]) := hok.app (by
        show pty b n (sk b n p) = 0 ∨ pty b n (sk b n p) = 1 ∨ pty b n (sk b n p) = 2
        rcases pty_cases b n (sk b n p) with y | y | y | y
        · rw [y] at hpt; exact absurd hpt.symm (ne_m1 (by omega))
        · exact Or.inl y
        · exact Or.inr (Or.inl y)
        · exact Or.inr (Or.inr y)) (by show ¬ hasP (pty b n (sk b n p)) l = true; rw [hpt]; exact z) ⟨w, hw99, hw⟩
      have hTD : TM (uI (posM (uI (posM A (er b n 97 122 (sk b n p)) (sk b n p)) 71 0 (cl (1 + nI i)) (nI kk - 6)) (er b n 48 57 (nw b n (sk b n p))) (nw b n (sk b n p))) 71 0 (cl (4 + nI i)) (nmb b n 99 (nw b n (sk b n p)))) n (er b n 48 57 (nw b n (sk b n p))) (nw b n (sk b n p)) := hTC.posM e3 hs1
      have fD : Fr pDS M (uI (posM (uI (posM A (er b n 97 122 (sk b n p)) (sk b n p)) 71 0 (cl (1 + nI i)) (nI kk - 6)) (er b n 48 57 (nw b n (sk b n p))) (nw b n (sk b n p))) 71 0 (cl (4 + nI i)) (nmb b n 99 (nw b n (sk b n p)))) := (fC.trans (fr_posM.mono pRd_D)).trans (Fr.u (pd71 _))
      have dD : dM (uI (posM (uI (posM A (er b n 97 122 (sk b n p)) (sk b n p)) 71 0 (cl (1 + nI i)) (nI kk - 6)) (er b n 48 57 (nw b n (sk b n p))) (nw b n (sk b n p))) 71 0 (cl (4 + nI i)) (nmb b n 99 (nw b n (sk b n p)))) (l ++ [(pty b n (sk b n p), nmb b n 99 (nw b n (sk b n p)))]) := by
        have ea : ∀ j, (uI (posM (uI (posM A (er b n 97 122 (sk b n p)) (sk b n p)) 71 0 (cl (1 + nI i)) (nI kk - 6)) (er b n 48 57 (nw b n (sk b n p))) (nw b n (sk b n p))) 71 0 (cl (4 + nI i)) (nmb b n 99 (nw b n (sk b n p)))).1 71 0 j = if j = 4 + i then nmb b n 99 (nw b n (sk b n p)) else if j = 1 + i then pty b n (sk b n p) else A.1 71 0 j := fun j => by
          rw [c1, c4, e6, uI_1]
          show (if _ then _ else (uI A 71 0 (1 + i) (pty b n (sk b n p))).1 71 0 j) = _
          rw [uI_1]
          simp
        intro j hj
        rw [List.length_append, List.length_singleton] at hj
        rw [ea, ea]
        by_cases ej : j = i
        · subst ej
          rw [List.getElem_append_right (by omega)]
          simp only [hl, Nat.sub_self, List.getElem_cons_zero]
          rw [if_neg (by omega)]
          exact ⟨if_pos trivial, if_pos trivial⟩
        · rw [List.getElem_append_left (by omega), if_neg (by omega), if_neg (by omega), if_neg (by omega), if_neg (by omega)]
          exact hd j (by omega)
      have r4 : (uI (posM (uI (posM A (er b n 97 122 (sk b n p)) (sk b n p)) 71 0 (cl (1 + nI i)) (nI kk - 6)) (er b n 48 57 (nw b n (sk b n p))) (nw b n (sk b n p))) 71 0 (cl (4 + nI i)) (nmb b n 99 (nw b n (sk b n p)))).1 71 0 (cl (4 + nI i)) = nmb b n 99 (nw b n (sk b n p)) := up3_self
      refine ⟨v4, v4, ?_⟩
      refine br_of (P' := 0 ≤ nmb b n 99 (nw b n (sk b n p))) (by show 0 ≤ up3 _ 71 0 (cl (4 + nI i)) _ 71 0 (cl (4 + nI i)) ↔ _; rw [up3_self]; exact Iff.rfl) (fun _ => ?_) (fun z => absurd hnn z)
      refine ⟨v4, ?_⟩
      have esum : smS l 0 + (uI (posM (uI (posM A (er b n 97 122 (sk b n p)) (sk b n p)) 71 0 (cl (1 + nI i)) (nI kk - 6)) (er b n 48 57 (nw b n (sk b n p))) (nw b n (sk b n p))) 71 0 (cl (4 + nI i)) (nmb b n 99 (nw b n (sk b n p)))).1 71 0 (cl (4 + nI i)) = smS (l ++ [(pty b n (sk b n p), nmb b n 99 (nw b n (sk b n p)))]) 0 := by rw [smS_app, r4]
      have hll : (l ++ [(pty b n (sk b n p), nmb b n 99 (nw b n (sk b n p)))]).length = i + 1 := by rw [List.length_append, hl]; rfl
      have ess : sk b n (nn b n (nw b n (sk b n p))) = nn b n (nw b n (sk b n p)) := sk_sk e3
      refine hG _ _ _ _ (gm_readSign (M := uI (posM (uI (posM A (er b n 97 122 (sk b n p)) (sk b n p)) 71 0 (cl (1 + nI i)) (nI kk - 6)) (er b n 48 57 (nw b n (sk b n p))) (nw b n (sk b n p))) 71 0 (cl (4 + nI i)) (nmb b n 99 (nw b n (sk b n p)))) (c := 44) hTD hbA (fun g7 => ?_) (fun g7 => ?_))
      · have g7 : tSign b n (nn b n (nw b n (sk b n p))) 44 = true := g7
        have hlt := tS_lt g7
        simp only [if_pos g7] at he
        refine br1n ?_
        exact hK _ _ _ _ _ (go_bus (ih (i + 1) _ (posM (uI (posM (uI (posM A (er b n 97 122 (sk b n p)) (sk b n p)) 71 0 (cl (1 + nI i)) (nI kk - 6)) (er b n 48 57 (nw b n (sk b n p))) (nw b n (sk b n p))) 71 0 (cl (4 + nI i)) (nmb b n 99 (nw b n (sk b n p)))) (nn b n (nw b n (sk b n p)) + 1) (nn b n (nw b n (sk b n p)))) (nn b n (nw b n (sk b n p)) + 1) (nn b n (nw b n (sk b n p))) (by omega) hll (fD.trans (fr_posM.mono pRd_D)) (hTD.posM (by omega) hq2) hbA (dD.of (by omega) (fun _ _ _ => rfl)) hokn he) ⟨lvi esum, lvi (nI_1 i), rfl, trivial⟩)
      · have g7 : ¬ tSign b n (nn b n (nw b n (sk b n p))) 44 = true := g7
        simp only [if_neg g7] at he
        refine br0n ?_
        refine hK _ _ _ _ _ (go_bus (go_deal119 (M := posM (uI (posM (uI (posM A (er b n 97 122 (sk b n p)) (sk b n p)) 71 0 (cl (1 + nI i)) (nI kk - 6)) (er b n 48 57 (nw b n (sk b n p))) (nw b n (sk b n p))) 71 0 (cl (4 + nI i)) (nmb b n 99 (nw b n (sk b n p)))) (nn b n (nw b n (sk b n p))) (nn b n (nw b n (sk b n p)))) (p := nn b n (nw b n (sk b n p))) (i := i + 1) (hTD.posM hq2 hq2) hbA hll (by omega) (dD.of (by omega) (fun _ _ _ => rfl)) hokn rfl ess (fun e r M' ge f t => ?_) (fun r e q' M' ge f t d w0 w7 w8 => ?_)) ⟨lvi esum, lvi (nI_1 i), rfl, trivial⟩)
        · exact hf e r M' (by rw [← he]; exact ge) ((fD.trans (fr_posM.mono pRd_D)).trans f) t
        · have hpos : ¬ smS (l ++ [(pty b n (sk b n p), nmb b n 99 (nw b n (sk b n p)))]) 0 ≤ 0 := fun y => by rw [if_pos y] at ge; cases ge
          have h := ht _ r e q' M' (by rw [← he]; exact ge) ((fD.trans (fr_posM.mono pRd_D)).trans f) t (by omega) hokn d (by rw [hll]; exact w0) w7 w8 hpos
          rw [hll] at h
          exact h
  refine gm_step [9] 60 ?_; intro G K hG hK
  refine hK _ _ _ _ _ (go_bus (key 3 0 [] (uI M 44 0 46 0) 0 q0 (by omega) rfl (Fr.u (Or.inl ⟨rfl, Or.inl rfl⟩)) ⟨hn, Nat.zero_le _, hq, hl, rfl, hbg⟩ hb (fun j hj => absurd hj (Nat.not_lt_zero _)) shOk.nil rfl) ⟨rfl, rfl, rfl, trivial⟩)
theorem go_mcontract {q0 : Nat} (hc9 : M.1 44 0 26 = nI nc) (hnc : nc ≤ 12) (hn : n ≤ 400) (hl : M.1 44 0 44 = nI n) (hq : q0 ≤ 400) (hbg : M.1 44 0 48 = nI q0) (hb : M.1 81 0 = b)
    (h1 : ¬ (0 ≤ x ∧ x < nI nc) → Q (rI 0) (mk (uI (mUses M) 44 0 0 1)))
    (h0 : ∀ e r M', (0 ≤ x ∧ x < nI nc) → aDeal b n 3 [] (sk b n 0) = .error e → Fr pDS (mUses M) M' → TM M' n r e → Q (rI 0) (mk (uI (uI M' 44 0 49 (nI e)) 44 0 0 2)))
    (h : ∀ l r e q' M', (0 ≤ x ∧ x < nI nc) → aDeal b n 3 [] (sk b n 0) = .ok (l, r) → Fr pDS (mUses M) M' → TM M' n e q' → l.length ≤ 3 → shOk l → dM M' l → M'.1 71 0 0 = nI l.length → M'.1 71 0 7 = r.1 → (¬ r.1 = -1 → M'.1 71 0 8 = r.2) → ¬ smS l 0 ≤ 0 → Q (rI (nI l.length)) (mk (rep (mTold1 x) 9 (uI M' 44 0 49 (-1))))) : Gm Γ M_X7_contract [vr 44 0, vi x] (mk M) Q := by
  refine gm_step [63] 60 ?_; intro G K hG hK
  refine hG _ _ _ _ (go_uses ?_)
  refine hG _ _ _ _ (gm_noCaravan (M := mUses M) (x := x) hc9 hnc ?_)
  refine hG _ _ _ _ (gm_throws (M := mUses M) (fun g => ?_) (fun g => ?_))
  · exact br1z (h1 g)
  have g := Decidable.not_not.mp g
  obtain ⟨vx, lx, ex⟩ := in_of hnc g.1 g.2
  refine br0z ?_
  refine hG _ _ _ _ (go_readDeal (M := mUses M) hn hl hq hbg hb (fun e r M' ge f t => ?_) (fun l r e q' M' ge f t hle hok d w0 w7 w8 wp => ?_))
  · have h := h0 e r M' g ge f t
    have hbe : M'.1 44 0 48 = nI e := t.2.2.2.2.2
    rw [← hbe] at h
    refine ⟨fun (z : (0 : Int32) ≤ -1) => absurd z (by decide), fun _ => ?_⟩
    refine ⟨fun (z : (0 : Int32) ≤ -1) => absurd z (by decide), fun _ => ?_⟩
    refine hG _ _ _ _ (gm_throws1 (M := uI M' 44 0 49 (M'.1 44 0 48)) ?_)
    exact br1z h
  · have h := h l r e q' M' g ge f t hle hok d w0 w7 w8 wp
    have hpos : 0 ≤ nI l.length := nI_pos' (by omega)
    refine ⟨fun _ => ?_, fun (z : ¬ 0 ≤ nI l.length) => absurd hpos z⟩
    refine ⟨fun _ => ?_, fun (z : ¬ 0 ≤ nI l.length) => absurd hpos z⟩
    refine hG _ _ _ _ (gm_throws0 (M := uI M' 44 0 49 (-1)) ?_)
    refine br0z ?_
    generalize l.length = m at h hle hpos ⊢
    generalize uI M' 44 0 49 (-1) = A at h ⊢
    refine hK _ _ _ _ _ (go_bus (lv' := [(4, vi (nI 0)), (3, vi (nI m)), (1, vi x), (0, vr 44 0)]) ?_ ⟨rfl, rfl, rfl, rfl, trivial⟩)
    refine loop_up (P := fun k => Go Γ M_X7_contract 63 [(4, vi (nI k)), (3, vi (nI m)), (1, vi x), (0, vr 44 0)] [] (mk (rep (mTold1 x) k A)) (0, 0) Q) (n := 9) (fun k hk ih => ?_) ?_
    · have ih : Go Γ M_X7_contract 63 [(4, vi (nI (k + 1))), (3, vi (nI m)), (1, vi x), (0, vr 44 0)] [] (mk (mTold1 x k (rep (mTold1 x) k A))) (0, 0) Q := ih
      generalize rep (mTold1 x) k A = B at ih ⊢
      obtain ⟨v1, -⟩ := v108 (c := cl x) (k := k) (x := x) (y := nI k) (by omega) hk ex rfl
      refine go_step [63] 60 ?_; intro G K hG hK
      refine ⟨fun (z : nI 9 ≤ nI k) => absurd z (nI_ge hk (by decide)), fun _ => ?_⟩
      exact ⟨(v9 hk).1, v1, hK _ _ _ _ _ (go_bus ih ⟨lvi (nI_1 k), rfl, rfl, rfl, trivial⟩)⟩
    · refine go_step [] 60 ?_; intro G K hG hK
      exact ⟨fun _ => h, fun (z : ¬ nI 9 ≤ nI 9) => absurd (Int32.le_refl _) z⟩
end MCON
