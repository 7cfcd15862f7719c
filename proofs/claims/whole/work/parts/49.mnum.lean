/-! The reference: numbers, acts and orders of a text. -/
/-- the reference's running value: digits beyond the sixth don't count -/
def nvM (b : Nat → Int32) (s : Nat) : Nat → Nat → Int32 → Int32
  | 0, _, v => v
  | m + 1, p, v => nvM b s m (p + 1) (if p - s < 6 then 10 * v + b p - 48 else v)
theorem nvM_eq (b : Nat → Int32) (s : Nat) : ∀ m p v, p + m ≤ s + 6 → s ≤ p → nvM b s m p v = nvF b m p v
  | 0, _, _, _, _ => rfl
  | m + 1, p, v, h, hs => by
    unfold nvM nvF
    rw [if_pos (by omega), nvM_eq b s m (p + 1) _ (by omega) (by omega), Int32.mul_comm 10 v]
theorem posM_A (M : MM) (p q r : Nat) : uI (posM M p q) 44 0 46 (nI r) = posM M r q := by
  unfold posM
  apply Prod.ext
  · funext x y z
    simp only [uI_1]
    by_cases h1 : x = 44 ∧ y = 0 ∧ z = 48
    · have h2 : ¬ (x = 44 ∧ y = 0 ∧ z = 46) := by omega
      rw [if_neg h2, if_pos h1, if_pos h1]
    · rw [if_neg h1]
      by_cases h2 : x = 44 ∧ y = 0 ∧ z = 46
      · rw [if_pos h2, if_neg h1, if_pos h2]
      · rw [if_neg h2, if_neg h2, if_neg h1, if_neg h2]
  · rfl
theorem posM_posM (M : MM) (p q r s : Nat) : posM (posM M p q) r s = posM M r s := by
  show uI (uI (posM M p q) 44 0 46 (nI r)) 44 0 48 (nI s) = _
  rw [posM_A]
  exact uI_uI _ _ _ _ _ _
section MNUM
variable {Γ : GG} {M : MM} {Q : Out → Mem → Prop} {n p q : Nat} {b : Nat → Int32}
theorem go_readNumber {most : Int32} (hT : TM M n p q) (hb : M.1 81 0 = b)
    (ht : ¬ nmb b n most (sk b n p) = -1 → Q (rI (nmb b n most (sk b n p))) (mk (posM M (er b n 48 57 (sk b n p)) (sk b n p)))) (hf : nmb b n most (sk b n p) = -1 → ∀ r, r ≤ n → Q (rI (-1)) (mk (posM M r (sk b n p)))) : Gm Γ M_X7_readNumber [vr 44 0, vi most] (mk M) Q := by
  have hT0 := hT
  obtain ⟨hn, hp, hq, hl, ha, hbg⟩ := hT
  have hs := (sk_le (b := b) hp).2
  obtain ⟨e1, e2⟩ := er_le (b := b) (lo := 48) (hi := 57) hs
  refine gm_step [6] 60 ?_; intro G K hG hK
  refine hG _ _ _ _ (go_blanks hT0 hb ?_)
  generalize sk b n p = s at hf ht hs e1 e2 ⊢
  have hend : Go Γ M_X7_readNumber 66 [(2, vi (nvM b s (er b n 48 57 s - s) s 0)), (1, vi most), (0, vr 44 0)] [] (mk (posM M (er b n 48 57 s) s)) (0, 0) Q := by
    unfold nmb at hf ht
    generalize er b n 48 57 s = e at hf ht e1 e2 ⊢
    refine go_step [] 60 ?_; intro G K hG hK
    refine ⟨fun (g : nI e = nI s) => ?_, fun (g : ¬ nI e = nI s) => ?_⟩
    · rw [nI_eq (by omega) (by omega)] at g
      rw [if_pos (Or.inl g)] at hf
      exact hf rfl e e2
    rw [nI_eq (by omega) (by omega)] at g
    refine ⟨fun (g2 : 6 < nI e - nI s) => ?_, fun (g2 : ¬ 6 < nI e - nI s) => ?_⟩
    · rw [pk_sub e1, show (6 : Int32) = nI 6 from rfl, nI_ltI (by omega) (by omega)] at g2
      rw [if_pos (Or.inr g2)] at hf
      exact hf rfl e e2
    rw [pk_sub e1, show (6 : Int32) = nI 6 from rfl, nI_ltI (by omega) (by omega)] at g2
    have hno : ¬ (e = s ∨ 6 < e - s) := by omega
    rw [if_neg hno] at hf ht
    rw [nvM_eq b s (e - s) s 0 (by omega) (Nat.le_refl _)]
    refine ⟨fun (g3 : nvF b (e - s) s 0 ≤ most) => ?_, fun (g3 : ¬ nvF b (e - s) s 0 ≤ most) => ?_⟩
    · rw [if_pos g3] at ht hf
      by_cases g4 : nvF b (e - s) s 0 = -1
      · rw [g4]; exact hf g4 e e2
      · exact ht g4
    · rw [if_neg g3] at hf
      exact hf rfl e e2
  have key : ∀ m i (v : Int32), i + m = n → s ≤ i → erF b 48 57 m i = er b n 48 57 s → nvM b s (er b n 48 57 s - i) i v = nvM b s (er b n 48 57 s - s) s 0 → Go Γ M_X7_readNumber 6 [(2, vi v), (1, vi most), (0, vr 44 0)] [] (mk (posM M i s)) (0, 0) Q := by
    intro m
    induction m with
    | zero =>
      intro i v hi' hsi he hv
      have hTi : TM (posM M i s) n i s := hT0.posM (by omega) hs
      have he : i = er b n 48 57 s := he
      rw [← he, Nat.sub_self] at hv
      have hv : v = nvM b s (i - s) s 0 := hv
      rw [← he, ← hv] at hend
      refine go_step [66] 60 ?_; intro G K hG hK
      refine hG _ _ _ _ (go_misAt (lo := 48) (hi := 57) hTi hb ?_)
      refine br_z (fun _ => ?_) (fun g => absurd g.1 (by omega))
      exact hK _ _ _ _ _ (go_bus hend ⟨rfl, rfl, rfl, trivial⟩)
    | succ m ih =>
      intro i v hi' hsi he hv
      have hTi : TM (posM M i s) n i s := hT0.posM (by omega) hs
      have ec : cl (nI i) = i := nI_clamp (by omega)
      unfold erF at he
      refine go_step [6, 66] 60 ?_; intro G K hG hK
      refine hG _ _ _ _ (go_misAt (lo := 48) (hi := 57) hTi hb ?_)
      refine br_z (fun g => ?_) (fun g => ?_)
      · rw [if_neg (fun z => g ⟨by omega, z⟩)] at he
        rw [← he, Nat.sub_self] at hv
        have hv : v = nvM b s (i - s) s 0 := hv
        rw [← he, ← hv] at hend
        exact hK _ _ _ _ _ (go_bus hend ⟨rfl, rfl, rfl, trivial⟩)
      · rw [if_pos g.2] at he
        have hlt : i < er b n 48 57 s := by
          have := (erF_le b 48 57 m (i + 1)).1
          rw [he] at this; omega
        obtain ⟨d, hd⟩ : ∃ d, er b n 48 57 s - i = d + 1 := ⟨er b n 48 57 s - i - 1, by omega⟩
        rw [hd] at hv
        rw [show nvM b s (d + 1) i v = nvM b s d (i + 1) (if i - s < 6 then 10 * v + b i - 48 else v) from rfl] at hv
        have hd2 : d = er b n 48 57 s - (i + 1) := by omega
        rw [hd2] at hv
        have e : mk (posM M (i + 1) s) = mk (uI (posM M i s) 44 0 46 (nI i + 1)) := by rw [nI_1, posM_A]
        refine ⟨fun (g2 : nI 6 ≤ nI i - nI s) => ?_, fun (g2 : ¬ nI 6 ≤ nI i - nI s) => ?_⟩
        · rw [pk_sub hsi, nI_leI (by omega) (by omega)] at g2
          rw [if_neg (by omega)] at hv
          have h2 := ih (i + 1) v (by omega) (by omega) he hv
          rw [e] at h2
          exact hK _ _ _ _ _ (go_bus h2 ⟨rfl, rfl, rfl, trivial⟩)
        · rw [pk_sub hsi, nI_leI (by omega) (by omega)] at g2
          rw [if_pos (by omega)] at hv
          refine ⟨vp_in_nI (show i < 400 by omega) (by decide), ?_⟩
          have h2 := ih (i + 1) _ (by omega) (by omega) he hv
          rw [e] at h2
          refine hK _ _ _ _ _ (go_bus h2 ⟨lvi ?_, rfl, rfl, trivial⟩)
          show 10 * v + M.1 81 0 (cl (nI i)) - 48 = 10 * v + b i - 48
          rw [ec, hb]
  exact hK _ _ _ _ _ (go_bus (key (n - s) s 0 (by omega) (Nat.le_refl _) rfl rfl) ⟨rfl, rfl, rfl, trivial⟩)
/-- what a read may change: the place, and the row at o -/
def pOM (o t k : Nat) : Prop := (t = 44 ∧ (k = 46 ∨ k = 48)) ∨ (t = 67 ∧ o ≤ k ∧ k < o + 5)
theorem go_mreadAct {o : Nat} {a : Int32} (hT : TM M n p q) (hb : M.1 81 0 = b) (ho : o + 5 ≤ 780)
    (h4 : a = 4 → ∀ M', Fr (pOM o) M M' → TM M' n p q → M'.1 67 0 o = 4 → M'.1 67 0 (o + 1) = 0 → (∀ k, k ≠ o → k ≠ o + 1 → M'.1 67 0 k = M.1 67 0 k) → Q (rI 1) (mk M'))
    (hf : ¬ a = 4 → nmb b n m6 (sk b n p) = -1 → ∀ r M', r ≤ n → Fr (pOM o) M M' → TM M' n r (sk b n p) → Q (rI 0) (mk M'))
    (ht : ¬ a = 4 → ¬ nmb b n m6 (sk b n p) = -1 → ∀ M', Fr (pOM o) M M' → TM M' n (er b n 48 57 (sk b n p)) (sk b n p) → M'.1 67 0 o = a → M'.1 67 0 (o + 1) = nmb b n m6 (sk b n p) → (∀ k, k ≠ o → k ≠ o + 1 → M'.1 67 0 k = M.1 67 0 k) → Q (rI 1) (mk M')) : Gm Γ M_X7_readAct [vr 44 0, vi (nI o), vi a] (mk M) Q := by
  have hp := hT.2.1
  have hs := (sk_le (b := b) hp).2
  obtain ⟨e1, e2⟩ := er_le (b := b) (lo := 48) (hi := 57) hs
  have ec : cl (nI o) = o := nI_clamp (by omega)
  have ec1 : cl (nI o + 1) = o + 1 := by rw [nI_1]; exact nI_clamp (by omega)
  have v0 : vp_in (nI o) 780 := vp_in_nI (by omega) (by decide)
  have v1 : vp_in (nI o + 1) 780 := by rw [nI_1]; exact vp_in_nI (by omega) (by decide)
  have k0 : pOM o 67 (cl (nI o)) := by rw [ec]; exact Or.inr ⟨rfl, by omega, by omega⟩
  have k1 : pOM o 67 (cl (nI o + 1)) := by rw [ec1]; exact Or.inr ⟨rfl, by omega, by omega⟩
  have kp : ∀ t k, pRd t k → pOM o t k := fun t k h => Or.inl h
  have r0 : ∀ (A : MM) (x y : Int32), (uI (uI A 67 0 (cl (nI o)) x) 67 0 (cl (nI o + 1)) y).1 67 0 o = x := fun A x y => by rw [ec, ec1, uI_1, if_neg (by omega), uI_1, if_pos ⟨rfl, rfl, rfl⟩]
  have r1 : ∀ (A : MM) (y : Int32), (uI A 67 0 (cl (nI o + 1)) y).1 67 0 (o + 1) = y := fun A y => by rw [ec1]; exact up3_self
  refine gm_step [] 60 ?_; intro G K hG hK
  refine ⟨v0, ?_⟩
  refine ⟨fun (g : ¬ a = 4) => ?_, fun (g : ¬ ¬ a = 4) => ?_⟩
  · have hf := hf g
    have ht := ht g
    have hTA : TM (uI M 67 0 (cl (nI o)) a) n p q := hT
    refine hG _ _ _ _ (go_readNumber (M := uI M 67 0 (cl (nI o)) a) (most := m6) hTA hb (fun g2 => ?_) (fun g2 r hr => ?_))
    · refine ⟨v1, v1, ?_⟩
      have hnn : ¬ nmb b n m6 (sk b n p) < 0 := by
        obtain ⟨⟨w, hw, hwl⟩, -⟩ := nmb_ok g2
        rw [hw]; exact nI_pos (by omega)
      refine br_of (P' := nmb b n m6 (sk b n p) < 0) (by show up3 _ 67 0 (cl (nI o + 1)) _ 67 0 (cl (nI o + 1)) < 0 ↔ _; rw [up3_self]) (fun z => absurd z hnn) (fun _ => ?_)
      refine rb1 (ht g2 (uI (posM (uI M 67 0 (cl (nI o)) a) (er b n 48 57 (sk b n p)) (sk b n p)) 67 0 (cl (nI o + 1)) (nmb b n m6 (sk b n p))) (((Fr.u k0).trans (fr_posM.mono kp)).trans (Fr.u k1)) (hTA.posM e2 hs) ?_ (r1 _ _) (fun k h1 h2 => ?_))
      · rw [uI_1, ec1, if_neg (by omega)]
        show (uI M 67 0 (cl (nI o)) a).1 67 0 o = a
        rw [ec]; exact up3_self
      · rw [uI_1, ec1, if_neg (by omega)]
        show (uI M 67 0 (cl (nI o)) a).1 67 0 k = _
        rw [ec, uI_1, if_neg (by omega)]
    · refine ⟨v1, v1, ?_⟩
      refine br_of (P' := True) (by show up3 _ 67 0 (cl (nI o + 1)) _ 67 0 (cl (nI o + 1)) < 0 ↔ _; rw [up3_self]; exact ⟨fun _ => trivial, fun _ => (by decide : (-1 : Int32) < 0)⟩) (fun _ => ?_) (fun z => absurd trivial z)
      exact rb0 (hf g2 r (uI (posM (uI M 67 0 (cl (nI o)) a) r (sk b n p)) 67 0 (cl (nI o + 1)) (-1)) hr (((Fr.u k0).trans (fr_posM.mono kp)).trans (Fr.u k1)) (hTA.posM hr hs))
  · have ea : a = 4 := Decidable.not_not.mp g
    refine ⟨v1, v1, ?_⟩
    refine br_of (P' := False) (by show up3 _ 67 0 (cl (nI o + 1)) _ 67 0 (cl (nI o + 1)) < 0 ↔ _; rw [up3_self]; exact ⟨fun (z : (0 : Int32) < 0) => absurd z (by decide), fun z => z.elim⟩) (fun z => z.elim) (fun _ => ?_)
    refine rb1 (h4 ea (uI (uI M 67 0 (cl (nI o)) a) 67 0 (cl (nI o + 1)) 0) ((Fr.u k0).trans (Fr.u k1)) hT ((r0 _ _ _).trans ea) (r1 _ _) (fun k h1 h2 => ?_))
    rw [ec, ec1, uI_1, if_neg (by omega), uI_1, if_neg (by omega)]
end MNUM
