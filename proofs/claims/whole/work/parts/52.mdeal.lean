/-! The reference: contracts of a text. -/
def pDS (t k : Nat) : Prop := (t = 44 ∧ (k = 46 ∨ k = 48)) ∨ t = 71
theorem pRd_D : ∀ t k, pRd t k → pDS t k := fun t k h => by
  unfold pRd at h; unfold pDS; omega
theorem pty_of {b : Nat → Int32} {n p k : Nat} (h6 : 6 ≤ k) (h9 : k < 9) (h : isW b n p (wn k) = true) : pty b n p = nI (k - 6) := by
  have u : ∀ j, j < 28 → j ≠ wn k → ¬ isW b n p j = true := fun j hj hne h2 => hne (isW_uni hj (wn_lt k (by omega)) h2 h)
  unfold pty
  rcases (show k = 6 ∨ k = 7 ∨ k = 8 by omega) with rfl | rfl | rfl
  · have h : isW b n p 14 = true := h
    rw [if_pos h]; rfl
  · have h : isW b n p 6 = true := h
    rw [if_neg (u 14 (by decide) (by decide)), if_pos h]; rfl
  · have h : isW b n p 26 = true := h
    rw [if_neg (u 14 (by decide) (by decide)), if_neg (u 6 (by decide) (by decide)), if_pos h]; rfl
theorem pty_no {b : Nat → Int32} {n p : Nat} (h : ∀ k, 6 ≤ k → k < 9 → ¬ isW b n p (wn k) = true) : pty b n p = -1 := by
  unfold pty
  rw [if_neg (show ¬ isW b n p 14 = true from h 6 (by decide) (by decide)), if_neg (show ¬ isW b n p 6 = true from h 7 (by decide) (by decide)), if_neg (show ¬ isW b n p 26 = true from h 8 (by decide) (by decide))]
theorem pty_cases (b : Nat → Int32) (n p : Nat) : pty b n p = -1 ∨ pty b n p = 0 ∨ pty b n p = 1 ∨ pty b n p = 2 := by
  unfold pty
  split
  · exact Or.inr (Or.inl rfl)
  · split
    · exact Or.inr (Or.inr (Or.inl rfl))
    · split
      · exact Or.inr (Or.inr (Or.inr rfl))
      · exact Or.inl rfl
/-- parties of shares are parties, each once; their numbers make a small sum -/
def shOk (l : List Shr) : Prop := (∀ i (hi : i < l.length), l[i].1 = 0 ∨ l[i].1 = 1 ∨ l[i].1 = 2) ∧ (∀ i j (hi : i < l.length) (hj : j < l.length), i ≠ j → ¬ l[i].1 = l[j].1) ∧ ∃ w, w ≤ 99 * l.length ∧ smS l 0 = nI w
theorem shOk.nil : shOk [] := ⟨fun i hi => absurd hi (Nat.not_lt_zero _), fun i j hi => absurd hi (Nat.not_lt_zero _), 0, by decide, rfl⟩
theorem shOk.app {l : List Shr} {s : Shr} (h : shOk l) (hp : s.1 = 0 ∨ s.1 = 1 ∨ s.1 = 2) (hn : ¬ hasP s.1 l = true) (hv : ∃ w, w ≤ 99 ∧ s.2 = nI w) : shOk (l ++ [s]) := by
  refine ⟨fun i hi => ?_, fun i j hi hj hne => ?_, ?_⟩
  · rw [List.length_append, List.length_singleton] at hi
    by_cases e : i = l.length
    · subst e; rw [List.getElem_append_right (Nat.le_refl _)]; simp only [Nat.sub_self, List.getElem_cons_zero]; exact hp
    · rw [List.getElem_append_left (by omega)]; exact h.1 i (by omega)
  · rw [List.length_append, List.length_singleton] at hi hj
    by_cases e : i = l.length
    · subst e
      rw [List.getElem_append_right (Nat.le_refl _), List.getElem_append_left (by omega)]
      simp only [Nat.sub_self, List.getElem_cons_zero]
      exact fun z => hn (hasP_iff.mpr ⟨j, by omega, z.symm⟩)
    · by_cases e2 : j = l.length
      · subst e2
        rw [List.getElem_append_left (by omega), List.getElem_append_right (Nat.le_refl _)]
        simp only [Nat.sub_self, List.getElem_cons_zero]
        exact fun z => hn (hasP_iff.mpr ⟨i, by omega, z⟩)
      · rw [List.getElem_append_left (by omega), List.getElem_append_left (by omega)]
        exact h.2.1 i j (by omega) (by omega) hne
  · obtain ⟨w, hw, e⟩ := h.2.2
    obtain ⟨v, hv1, hv2⟩ := hv
    exact ⟨w + v, by rw [List.length_append, List.length_singleton]; omega, by rw [smS_app, e, hv2, nI_add]⟩
theorem shOk.full {l : List Shr} {w : Int32} (h : shOk l) (hl : l.length = 3) (hw : w = 0 ∨ w = 1 ∨ w = 2) : hasP w l = true := by
  have a0 := h.1 0 (by omega)
  have a1 := h.1 1 (by omega)
  have a2 := h.1 2 (by omega)
  have d01 := h.2.1 0 1 (by omega) (by omega) (by decide)
  have d02 := h.2.1 0 2 (by omega) (by omega) (by decide)
  have d12 := h.2.1 1 2 (by omega) (by omega) (by decide)
  by_cases e0 : l[0].1 = w
  · exact hasP_iff.mpr ⟨0, by omega, e0⟩
  by_cases e1 : l[1].1 = w
  · exact hasP_iff.mpr ⟨1, by omega, e1⟩
  by_cases e2 : l[2].1 = w
  · exact hasP_iff.mpr ⟨2, by omega, e2⟩
  exfalso
  generalize l[0].1 = x at *
  generalize l[1].1 = y at *
  generalize l[2].1 = z at *
  rcases hw with rfl | rfl | rfl <;> rcases a0 with rfl | rfl | rfl <;> rcases a1 with rfl | rfl | rfl <;> rcases a2 with rfl | rfl | rfl <;> simp_all
/-- the reference's scratch contract holds these shares -/
def dM (M : MM) (l : List Shr) : Prop := ∀ i (hi : i < l.length), M.1 71 0 (1 + i) = l[i].1 ∧ M.1 71 0 (4 + i) = l[i].2
theorem dM.of {M M' : MM} {l : List Shr} (h : dM M l) (hl : l.length ≤ 3) (e : ∀ k, 1 ≤ k → k < 7 → M'.1 71 0 k = M.1 71 0 k) : dM M' l := fun i hi => by rw [e _ (by omega) (by omega), e _ (by omega) (by omega)]; exact h i hi
section MDEA
variable {Γ : GG} {M : MM} {Q : Out → Mem → Prop} {n p q ns nc : Nat} {b : Nat → Int32} {x : Int32}
theorem v9 {k : Nat} (hk : k < 9) : vp_in (nI k) 9 ∧ cl (nI k) = k := ⟨vp_in_nI hk (by decide), nI_clamp (by omega)⟩
theorem isW_lt {k : Nat} (hp : p ≤ n) (hk : k = 10) (h : isW b n p k = true) : p < n := by
  obtain ⟨e, -⟩ := isW_len h
  have h2 := (er_le (b := b) (lo := 97) (hi := 122) hp).2
  subst hk
  have : (wd 10).length = 4 := by decide
  omega
/-- behind the shares: what is lost -/
theorem go_deal119 {l : List Shr} {i : Nat} {s : Int32} (hT : TM M n p q) (hb : M.1 81 0 = b) (hl : l.length = i) (hi3 : i ≤ 3) (hd : dM M l) (hok : shOk l) (hs : smS l 0 = s) (hss : sk b n p = p)
    (hf : ∀ e r M', (if smS l 0 ≤ 0 then (.error p : Except Nat (List Shr × (Int32 × Int32))) else (match aLost b n p with
      | .error e => .error e
      | .ok (r, e) => if e = n then .ok (l, r) else .error e)) = .error e → Fr pDS M M' → TM M' n r e → Q (rI (-1)) (mk M'))
    (ht : ∀ r e q' M', (if smS l 0 ≤ 0 then (.error p : Except Nat (List Shr × (Int32 × Int32))) else (match aLost b n p with
      | .error e => .error e
      | .ok (r, e) => if e = n then .ok (l, r) else .error e)) = .ok (l, r) → Fr pDS M M' → TM M' n e q' → dM M' l → M'.1 71 0 0 = nI i → M'.1 71 0 7 = r.1 → (¬ r.1 = -1 → M'.1 71 0 8 = r.2) → Q (rI (nI i)) (mk M')) : Go Γ M_X7_readDeal 119 [(2, vi s), (1, vi (nI i)), (0, vr 44 0)] [] (mk M) (0, 0) Q := by
  have hp := hT.2.1
  obtain ⟨w, hw, ew⟩ := hok.2.2
  have hw : w ≤ 297 := by omega
  have pd71 : ∀ k, pDS 71 k := fun k => Or.inr rfl
  refine go_step [] 120 ?_; intro G K hG hK
  refine hG _ _ _ _ (go_blanks hT hb ?_)
  rw [hss]
  subst hs
  refine ⟨fun (g : ¬ smS l 0 = 0) => ?_, fun (g : ¬ ¬ smS l 0 = 0) => ?_⟩
  rotate_left
  · have g := Decidable.not_not.mp g
    rw [if_pos (by rw [g]; decide)] at hf
    exact hf _ _ (posM M p p) rfl (fr_posM.mono pRd_D) (hT.posM hp hp)
  have hpos : ¬ smS l 0 ≤ 0 := by
    rw [ew] at g ⊢
    exact nI_nle (Nat.pos_of_ne_zero (fun z => g (by rw [z]; rfl))) (by omega)
  rw [if_neg hpos] at hf ht
  have hTA : TM (uI (uI (posM M p p) 71 0 0 (nI i)) 71 0 7 (-1)) n p p := hT.posM hp hp
  have fA : Fr pDS M (uI (uI (posM M p p) 71 0 0 (nI i)) 71 0 7 (-1)) := ((fr_posM.mono pRd_D).trans (Fr.u (pd71 _))).trans (Fr.u (pd71 _))
  have dA : dM (uI (uI (posM M p p) 71 0 0 (nI i)) 71 0 7 (-1)) l := hd.of (by omega) (fun k h1 h2 => by rw [uI_1, if_neg (by omega), uI_1, if_neg (by omega)]; rfl)
  have h47 : M.1 44 0 47 = nI n := hT.2.2.2.1
  refine ⟨(v9 (k := 0) (by decide)).1, (v9 (k := 7) (by decide)).1, ?_⟩
  refine ⟨fun (g2 : ¬ nI p = M.1 44 0 47) => ?_, fun (g2 : ¬ ¬ nI p = M.1 44 0 47) => ?_⟩
  rotate_left
  · have g2 := Decidable.not_not.mp g2
    have hn400 := hT.1
    rw [h47, nI_eq (by omega) (by omega)] at g2
    have hno : ¬ isW b n p 10 = true := fun z => absurd (isW_lt hp rfl z) (by omega)
    have eL : aLost b n p = .ok ((-1, 0), p) := by unfold aLost; rw [if_neg hno]
    simp only [eL, if_pos g2] at ht
    exact ht _ p p _ rfl fA hTA dA rfl rfl (fun z => absurd rfl z)
  have hn400 := hT.1
  rw [h47, nI_eq (by omega) (by omega)] at g2
  refine hG _ _ _ _ (go_readWord (M := uI (uI (posM M p p) 71 0 0 (nI i)) 71 0 7 (-1)) (lo := 9) (hi := 9) hTA hb (by decide) (by decide) (fun g3 => ?_) (fun k g3 => ?_))
  · rw [hss] at g3 ⊢
    have hno : ¬ isW b n p 10 = true := fnd_none 1 9 g3 9 (by decide) (by decide)
    have eL : aLost b n p = .ok ((-1, 0), p) := by unfold aLost; rw [if_neg hno]
    simp only [eL, if_neg g2] at hf
    exact ⟨fun (z : (0 : Int32) ≤ -1) => absurd z (by decide), fun _ => hf _ _ _ rfl (fA.trans (fr_posM.mono pRd_D)) (hTA.posM hp hp)⟩
  rw [hss] at g3 ⊢
  obtain ⟨k1, k2, k3⟩ := fnd_some 1 9 k g3
  have ek : k = 9 := by omega
  subst ek
  have hlost : isW b n p 10 = true := k3
  have e1 := (er_le (b := b) (lo := 97) (hi := 122) hp).2
  refine ⟨fun _ => ?_, fun (z : ¬ 0 ≤ nI 9) => absurd (nI_pos' (by decide)) z⟩
  have hTB : TM (posM (uI (uI (posM M p p) 71 0 0 (nI i)) 71 0 7 (-1)) (er b n 97 122 p) p) n (er b n 97 122 p) p := hTA.posM e1 hp
  have fB : Fr pDS M (posM (uI (uI (posM M p p) 71 0 0 (nI i)) 71 0 7 (-1)) (er b n 97 122 p) p) := fA.trans (fr_posM.mono pRd_D)
  have dB : dM (posM (uI (uI (posM M p p) 71 0 0 (nI i)) 71 0 7 (-1)) (er b n 97 122 p) p) l := dA.of (by omega) (fun k h1 h2 => rfl)
  have r0 : (posM (uI (uI (posM M p p) 71 0 0 (nI i)) 71 0 7 (-1)) (er b n 97 122 p) p).1 71 0 0 = nI i := rfl
  have hbB : (posM (uI (uI (posM M p p) 71 0 0 (nI i)) 71 0 7 (-1)) (er b n 97 122 p) p).1 81 0 = b := hb
  generalize posM (uI (uI (posM M p p) 71 0 0 (nI i)) 71 0 7 (-1)) (er b n 97 122 p) p = B at hTB fB dB r0 hbB ⊢
  have hs1 : nw b n p ≤ n := nw_le hp
  refine hG _ _ _ _ (go_readWord (M := B) (lo := 6) (hi := 8) hTB hbB (by decide) (by decide) (fun g4 => ?_) (fun k g4 => ?_))
  · have hno := fnd_none 3 6 g4
    have hpn : pty b n (nw b n p) = -1 := pty_no (fun k a c => hno k a (by omega))
    have eL : aLost b n p = .error (nw b n p) := by unfold aLost; rw [if_pos hlost, if_pos hpn]
    simp only [eL] at hf
    exact ⟨fun (z : (0 : Int32) ≤ -1) => absurd z (by decide), fun _ => hf _ _ _ rfl (fB.trans (fr_posM.mono pRd_D)) (hTB.posM hs1 hs1)⟩
  obtain ⟨k1, k2, k3⟩ := fnd_some 3 6 k g4
  have hpt : pty b n (nw b n p) = nI (k - 6) := pty_of k1 (by omega) k3
  have hpne : ¬ pty b n (nw b n p) = -1 := by rw [hpt]; exact ne_m1 (by omega)
  have ek6 : nI k - 6 = pty b n (nw b n p) := by rw [hpt, show (6 : Int32) = nI 6 from rfl, pk_sub k1]
  have e2 := (er_le (b := b) (lo := 97) (hi := 122) hs1).2
  have hs2 : nw b n (nw b n p) ≤ n := nw_le hs1
  have e3 := (er_le (b := b) (lo := 48) (hi := 57) hs2).2
  refine ⟨fun _ => ?_, fun (z : ¬ 0 ≤ nI k) => absurd (nI_pos' (by omega)) z⟩
  refine ⟨(v9 (k := 7) (by decide)).1, ?_⟩
  have hTC : TM (uI (posM B (er b n 97 122 (nw b n p)) (nw b n p)) 71 0 7 (nI k - 6)) n (er b n 97 122 (nw b n p)) (nw b n p) := hTB.posM e2 hs1
  have fC : Fr pDS M (uI (posM B (er b n 97 122 (nw b n p)) (nw b n p)) 71 0 7 (nI k - 6)) := (fB.trans (fr_posM.mono pRd_D)).trans (Fr.u (pd71 _))
  refine hG _ _ _ _ (go_readNumber (M := uI (posM B (er b n 97 122 (nw b n p)) (nw b n p)) 71 0 7 (nI k - 6)) (most := m6) hTC hbB (fun g5 => ?_) (fun g5 r hr => ?_))
  rotate_left
  · have g5 : nmb b n m6 (nw b n (nw b n p)) = -1 := g5
    have eL : aLost b n p = .error (nw b n (nw b n p)) := by unfold aLost; rw [if_pos hlost, if_neg hpne, if_pos g5]
    simp only [eL] at hf
    refine ⟨(v9 (k := 8) (by decide)).1, (v9 (k := 8) (by decide)).1, ?_⟩
    refine ⟨fun (z : (0 : Int32) ≤ -1) => absurd z (by decide), fun _ => ?_⟩
    exact hf _ r (uI (posM (uI (posM B (er b n 97 122 (nw b n p)) (nw b n p)) 71 0 7 (nI k - 6)) r (nw b n (nw b n p))) 71 0 8 (-1)) rfl ((fC.trans (fr_posM.mono pRd_D)).trans (Fr.u (pd71 _))) (hTC.posM hr hs2)
  have g5 : ¬ nmb b n m6 (nw b n (nw b n p)) = -1 := g5
  have eL : aLost b n p = .ok ((pty b n (nw b n p), nmb b n m6 (nw b n (nw b n p))), nn b n (nw b n (nw b n p))) := by unfold aLost; rw [if_pos hlost, if_neg hpne, if_neg g5]
  simp only [eL] at hf ht
  have hnn : 0 ≤ nmb b n m6 (nw b n (nw b n p)) := by
    obtain ⟨⟨w, hw, hwl⟩, -⟩ := nmb_ok g5
    rw [hw]; exact nI_pos' (by omega)
  have he : nn b n (nw b n (nw b n p)) ≤ n := nn_le hs2
  refine ⟨(v9 (k := 8) (by decide)).1, (v9 (k := 8) (by decide)).1, ?_⟩
  refine ⟨fun _ => ?_, fun (z : ¬ 0 ≤ nmb b n m6 (nw b n (nw b n p))) => absurd hnn z⟩
  have hTD : TM (uI (posM (uI (posM B (er b n 97 122 (nw b n p)) (nw b n p)) 71 0 7 (nI k - 6)) (er b n 48 57 (nw b n (nw b n p))) (nw b n (nw b n p))) 71 0 8 (nmb b n m6 (nw b n (nw b n p)))) n (er b n 48 57 (nw b n (nw b n p))) (nw b n (nw b n p)) := hTC.posM e3 hs2
  have fD : Fr pDS M (uI (posM (uI (posM B (er b n 97 122 (nw b n p)) (nw b n p)) 71 0 7 (nI k - 6)) (er b n 48 57 (nw b n (nw b n p))) (nw b n (nw b n p))) 71 0 8 (nmb b n m6 (nw b n (nw b n p)))) := (fC.trans (fr_posM.mono pRd_D)).trans (Fr.u (pd71 _))
  refine hG _ _ _ _ (go_blanks (M := uI (posM (uI (posM B (er b n 97 122 (nw b n p)) (nw b n p)) 71 0 7 (nI k - 6)) (er b n 48 57 (nw b n (nw b n p))) (nw b n (nw b n p))) 71 0 8 (nmb b n m6 (nw b n (nw b n p)))) hTD hbB ?_)
  have hB47 : B.1 44 0 47 = nI n := hTB.2.2.2.1
  refine ⟨fun (g6 : ¬ nI (nn b n (nw b n (nw b n p))) = B.1 44 0 47) => ?_, fun (g6 : ¬ ¬ nI (nn b n (nw b n (nw b n p))) = B.1 44 0 47) => ?_⟩
  · rw [hB47, nI_eq (by omega) (by omega)] at g6
    simp only [if_neg g6] at hf
    exact hf _ _ _ rfl (fD.trans (fr_posM.mono pRd_D)) (hTD.posM he he)
  · have g6 := Decidable.not_not.mp g6
    rw [hB47, nI_eq (by omega) (by omega)] at g6
    simp only [if_pos g6] at ht
    refine ht _ _ _ _ rfl (fD.trans (fr_posM.mono pRd_D)) (hTD.posM he he) (dB.of (by omega) (fun j h1 h2 => ?_)) r0 ek6 (fun _ => rfl)
    show (uI (uI B 71 0 7 _) 71 0 8 _).1 71 0 j = _
    rw [uI_1, if_neg (by omega), uI_1, if_neg (by omega)]
end MDEA
