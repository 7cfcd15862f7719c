/-! The class: its face, but for texts and split. -/
def byt (a s : Int32) : Int32 := vp_nar .byte (a >>> (s &&& 31)).toInt8.toInt32
def add4 (f : Nat → Int32) (n : Nat) (a : Int32) : Nat → Int32 := fun k => if k = n + 3 then byt a 0 else if k = n + 2 then byt a 8 else if k = n + 1 then byt a 16 else if k = n then byt a 24 else f k
def pTape (t k : Nat) : Prop := t = 2 ∨ (t = 1 ∧ k = 1)
def stOk (s a b c : Int32) : Prop := if s = 2 then (0 ≤ a ∧ a ≤ 1000) ∧ (1 ≤ b ∧ b ≤ 10000) ∧ (-1 ≤ c ∧ c ≤ 3) else if s = 3 then (1 ≤ a ∧ a ≤ 1000) ∧ (1 ≤ b ∧ b ≤ 100) else (0 ≤ s ∧ s ≤ 3)
def cStat1 (M : MM) (i : Nat) (s a b c : Int32) : MM := if s = 2 then uI (uI (uI (uI (uI M 13 i 0 s) 13 i 2 a) 13 i 3 b) 13 i 1 c) 13 i 4 b else uI M 13 i 0 s
def cStat2 (M : MM) (i : Nat) (s a b c : Int32) : MM := if s = 3 then uI (uI (cStat1 M i s a b c) 13 i 5 a) 13 i 6 b else cStat1 M i s a b c
def cStation (M : MM) (i : Nat) (s a b c : Int32) : MM := uI (cStat2 M i s a b c) 0 0 5 (nI (i + 1))
def cStage (M : MM) (f t : Nat) (d : Int32) : MM := uI (if M.1 32 f t = 0 then uI (uI M 32 f t d) 32 t f d else M) 0 0 7 (M.1 0 0 7 + 1)
def cGather (M : MM) (i : Nat) (a b w d : Int32) : MM := uI (uI (uI (uI (uI (uI (uI M 15 i 1 a) 15 i 2 b) 15 i 4 (10 * b)) 15 i 5 0) 15 i 6 w) 15 i 7 w) 15 i 9 d
def cCaravan (M : MM) (i : Nat) (a b w : Int32) : MM := uI (cGather M i a b w (M.1 0 0 13)) 0 0 9 (nI (i + 1))
def stSlot (x : Int32) : Option Nat := if x = 0 then some 5 else if x = 1 then some 6 else if x = 2 then some 2 else if x = 3 then some 3 else if x = 4 then some 4 else if x = 5 then some 8 else if x = 6 then some 9 else if x = 7 then some 10 else none
def enTag (x : Int32) : Option Nat := if x = 0 then some 36 else if x = 1 then some 37 else if x = 2 then some 38 else if x = 3 then some 40 else if x = 4 then some 39 else none
def cCnt (M : MM) (nc : Nat) (x : Int32) : Int64 :=
  if x = 0 then (M.1 0 0 13).toInt64 else if x = 1 then (M.1 0 0 5).toInt64 else if x = 2 then (M.1 0 0 7).toInt64 else if x = 3 then (M.1 0 0 9).toInt64 else
  if x = 4 then M.2 0 0 14 else if x = 5 then M.2 0 0 15 else if x = 6 then M.2 0 0 16 else if x = 7 then cCarr M nc else if x = 8 then M.2 0 0 17 else
  if x = 9 then (M.1 35 0 0).toInt64 else if x = 10 then M.2 0 0 18 else if x = 11 then (M.1 35 0 6).toInt64 else -1
def cPut (M : MM) (e : Nat) (m d : Int32) : MM :=
  uI (uI (uJ (uI (uI M 41 0 (cl (M.1 35 0 6)) (nI e)) 42 0 (cl (M.1 35 0 6)) d) 43 0 (cl (M.1 35 0 6)) (m.toInt64 - (M.1 40 0 e).toInt64)) 40 0 e m) 35 0 6 (M.1 35 0 6 + 1)
theorem tsw {x : Int32} {n : Nat} {k : Nat} (h : x.toInt < 0 ∨ (n : Int) < x.toInt) (hk : k ≤ n) (hn : n < 2 ^ 31) : ¬ x = nI k := fun e => by
  rw [e, nI_toInt (by omega)] at h; omega
section FACE
variable {Γ : GG} {M : MM} {Q : Out → Mem → Prop} {c ns nc n p : Nat}
theorem go_addNumber {a : Int32} (hl : M.1 1 0 1 = nI n) (hn : n + 4 ≤ 400)
    (h : ∀ M', Fr pTape M M' → M'.1 1 0 1 = nI (n + 4) → M'.1 2 0 = add4 (M.1 2 0) n a → Q rV (mk M')) : Gm Γ M_X5_addNumber [vr 1 0, vi a] (mk M) Q := by
  refine gm_step [3] 60 ?_; intro G K hG hK
  have step : ∀ (A : MM) (m : Nat) (s : Int32), A.1 1 0 1 = nI m → m < 400 → 0 ≤ s → Go Γ M_X5_addNumber 3 [(2, vi (s + -8)), (1, vi a), (0, vr 1 0)] [] (mk (uI (uI A 2 0 m (byt a s)) 1 0 1 (nI (m + 1)))) (0, 0) Q → Go Γ M_X5_addNumber 3 [(2, vi s), (1, vi a), (0, vr 1 0)] [] (mk A) (0, 0) Q := by
    intro A m s hA hm hs hk
    have ec : cl (A.1 1 0 1) = m := by rw [hA]; exact nI_clamp (by omega)
    refine go_step [3] 60 ?_; intro G K hG hK
    refine ⟨fun (g : s < 0) => absurd g (Int32.not_lt.mpr hs), fun _ => ?_⟩
    refine ⟨fun (g : 400 ≤ A.1 1 0 1) => ?_, fun _ => ?_⟩
    · rw [hA] at g; exact absurd g (nI_ge hm (by decide))
    refine ⟨by show vp_in (A.1 1 0 1) 400; rw [hA]; exact vp_in_nI hm (by decide), ?_⟩
    have e : mk (uI (uI A 2 0 (cl (A.1 1 0 1)) (byt a s)) 1 0 1 (A.1 1 0 1 + 1)) = mk (uI (uI A 2 0 m (byt a s)) 1 0 1 (nI (m + 1))) := by rw [ec, hA, nI_1]
    rw [← e] at hk
    exact hK _ _ _ _ _ (go_bus hk ⟨rfl, rfl, rfl, trivial⟩)
  refine hK _ _ _ _ _ (go_bus (lv' := [(2, vi 24), (1, vi a), (0, vr 1 0)]) ?_ ⟨rfl, rfl, rfl, trivial⟩)
  refine step M n 24 hl (by omega) (by decide) ?_
  refine step _ (n + 1) 16 rfl (by omega) (by decide) ?_
  refine step _ (n + 2) 8 rfl (by omega) (by decide) ?_
  refine step _ (n + 3) 0 rfl (by omega) (by decide) ?_
  refine go_step [3] 60 ?_; intro G K hG hK
  refine ⟨fun _ => ?_, fun (g : ¬ (-8 : Int32) < 0) => absurd (by decide) g⟩
  refine h _ ?_ rfl ?_
  · have k2 : ∀ k, pTape 2 k := fun _ => Or.inl rfl
    have k1 : pTape 1 1 := Or.inr ⟨rfl, rfl⟩
    exact (((((((Fr.u (k2 _)).trans (Fr.u k1)).trans (Fr.u (k2 _))).trans (Fr.u k1)).trans (Fr.u (k2 _))).trans (Fr.u k1)).trans (Fr.u (k2 _))).trans (Fr.u k1)
  · funext k
    unfold add4
    simp [uI_1]
theorem go_feed_no {a b d e f : Int32} (hl : M.1 1 0 1 = nI n) (hn : n ≤ 400) (hb : 380 < n) (h : Q (rI (-1)) (mk M)) : Gm Γ M_X6_feed [vr 0 0, vi a, vi b, vi d, vi e, vi f] (mk M) Q := by
  refine gm_step [] 60 ?_; intro G K hG hK
  refine ⟨fun (g : M.1 1 0 1 ≤ 380) => ?_, fun _ => h⟩
  rw [hl] at g; exact absurd g (nI_ge hb (by omega))
theorem go_feed {a b d e f : Int32} (hl : M.1 1 0 1 = nI n) (hb : n ≤ 380) (h : ∀ M', Fr pTape M M' → M'.1 1 0 1 = nI (n + 20) → M'.1 2 0 = add4 (add4 (add4 (add4 (add4 (M.1 2 0) n a) (n + 4) b) (n + 8) d) (n + 12) e) (n + 16) f → Q (rI (nI (n + 20))) (mk M')) : Gm Γ M_X6_feed [vr 0 0, vi a, vi b, vi d, vi e, vi f] (mk M) Q := by
  refine gm_step [] 60 ?_; intro G K hG hK
  refine ⟨fun _ => ?_, fun (g : ¬ M.1 1 0 1 ≤ 380) => ?_⟩
  rotate_left
  · rw [hl] at g; exact absurd (nI_le hb (by decide)) g
  refine hG _ _ _ _ (go_addNumber hl (by omega) (fun A f1 l1 t1 => ?_))
  refine hG _ _ _ _ (go_addNumber (n := n + 4) l1 (by omega) (fun B f2 l2 t2 => ?_))
  refine hG _ _ _ _ (go_addNumber (n := n + 8) l2 (by omega) (fun C f3 l3 t3 => ?_))
  refine hG _ _ _ _ (go_addNumber (n := n + 12) l3 (by omega) (fun D f4 l4 t4 => ?_))
  refine hG _ _ _ _ (go_addNumber (n := n + 16) l4 (by omega) (fun E f5 l5 t5 => ?_))
  have h := h E ((((f1.trans f2).trans f3).trans f4).trans f5) l5 (by rw [t5, t4, t3, t2, t1])
  rw [← l5] at h
  exact h
theorem go_end {x : Int32} (h0 : x < 0 ∨ M.1 1 0 1 < x → Q (rI 0) (mk M)) (h1 : ¬ (x < 0 ∨ M.1 1 0 1 < x) → Q (rI 1) (mk (uI M 1 0 1 x))) : Gm Γ M_X6_end [vr 0 0, vi x] (mk M) Q := by
  refine gm_step [] 60 ?_; intro G K hG hK
  refine ⟨fun (g : x < 0) => rb0 (h0 (Or.inl g)), fun (g : ¬ x < 0) => ?_⟩
  refine ⟨fun (g2 : x ≤ M.1 1 0 1) => rb1 (h1 (fun q => q.elim g (fun q => Int32.not_lt.mpr g2 q))), fun (g2 : ¬ x ≤ M.1 1 0 1) => rb0 (h0 (Or.inr (Int32.not_le.mp g2)))⟩
theorem go_isStation {s a b d : Int32} {σ : Mem} (ht : stOk s a b d → Q (rI 1) σ) (hf : ¬ stOk s a b d → Q (rI 0) σ) : Gm Γ M_X6_isStation [vi s, vi a, vi b, vi d] σ Q := by
  unfold stOk at ht hf
  refine gm_step [] 60 ?_; intro G K hG hK
  refine ⟨fun (g : ¬ s = 2) => ?_, fun (g : ¬ ¬ s = 2) => ?_⟩
  · rw [if_neg g] at ht hf
    refine ⟨fun (g2 : ¬ s = 3) => ?_, fun (g2 : ¬ ¬ s = 3) => ?_⟩
    · rw [if_neg g2] at ht hf
      refine hG _ _ _ _ (gm_isWithin (n := s) (a := 0) (b := 3) ?_)
      by_cases g3 : 0 ≤ s ∧ s ≤ 3
      · rw [b32_t g3]; exact rb1 (ht g3)
      · rw [b32_f g3]; exact rb0 (hf g3)
    · rw [if_pos (Decidable.not_not.mp g2)] at ht hf
      refine hG _ _ _ _ (gm_isWithin (n := a) (a := 1) (b := 1000) ?_)
      refine br_z (fun g3 => rb0 (hf (fun q => g3 q.1))) (fun g3 => ?_)
      refine hG _ _ _ _ (gm_isWithin (n := b) (a := 1) (b := 100) ?_)
      exact br_z (fun g4 => rb0 (hf (fun q => g4 q.2))) (fun g4 => rb1 (ht ⟨g3, g4⟩))
  · rw [if_pos (Decidable.not_not.mp g)] at ht hf
    refine hG _ _ _ _ (gm_isWithin (n := a) (a := 0) (b := 1000) ?_)
    refine br_z (fun g3 => rb0 (hf (fun q => g3 q.1))) (fun g3 => ?_)
    refine hG _ _ _ _ (gm_isWithin (n := b) (a := 1) (b := 10000) ?_)
    refine br_z (fun g4 => rb0 (hf (fun q => g4 q.2.1))) (fun g4 => ?_)
    refine hG _ _ _ _ (gm_isWithin (n := d) (a := -1) (b := 3) ?_)
    exact br_z (fun g5 => rb0 (hf (fun q => g5 q.2.2))) (fun g5 => rb1 (ht ⟨g3, g4, g5⟩))
theorem go_station {s a b d : Int32} (hW : WC ns nc M) (h0 : ¬ stOk s a b d → Q (rX 0) (mk M)) (h2 : stOk s a b d → ns = 12 → Q (rX 2) (mk M)) (h : stOk s a b d → ns < 12 → Q (rI (nI ns)) (mk (cStation M ns s a b d))) : Gm Γ M_X6_station [vr 0 0, vi s, vi a, vi b, vi d] (mk M) Q := by
  have hns := hW.ls
  have h5 := hW.n5
  refine gm_step [] 100 ?_; intro G K hG hK
  refine hG _ _ _ _ (go_isStation (fun g => ?_) (fun g => br0n (h0 g)))
  refine br1n ?_
  refine ⟨fun (g2 : M.1 0 0 5 < 12) => ?_, fun (g2 : ¬ M.1 0 0 5 < 12) => ?_⟩
  rotate_left
  · rw [h5] at g2
    exact h2 g (Nat.le_antisymm hns (Nat.not_lt.mp fun q => g2 (nI_lt q (by decide))))
  rw [h5] at g2
  have hlt : ns < 12 := (nI_ltI (b := 12) (by omega) (by decide)).mp g2
  have h := h g hlt
  unfold cStation cStat2 cStat1 at h
  have e1 : nI (ns + 1) = M.1 0 0 5 + 1 := by rw [h5, nI_1]
  have e2 : nI ns = M.1 0 0 5 + 1 - 1 := by rw [h5, nI_1, nI_pred]
  rw [e1, e2] at h
  refine ⟨by show vp_in (M.1 0 0 5) 12; exact in12 hlt h5, (13, ns), R0_st hlt h5, ?_⟩
  refine ⟨fun (g3 : ¬ s = 2) => ?_, fun (g3 : ¬ ¬ s = 2) => ?_⟩
  · rw [if_neg g3] at h
    refine ⟨fun (g4 : ¬ s = 3) => ?_, fun (g4 : ¬ ¬ s = 3) => ?_⟩
    · rw [if_neg g4] at h; exact h
    · rw [if_pos (Decidable.not_not.mp g4)] at h
      refine hG _ _ _ _ (go_openMarket ?_)
      exact h
  · have e : s = 2 := Decidable.not_not.mp g3
    rw [if_pos e, if_neg (by rw [e]; decide)] at h
    refine hG _ _ _ _ (go_digWell ?_)
    refine ⟨fun _ => h, fun (g4 : ¬ ¬ s = 3) => absurd (by rw [e]; decide) g4⟩
theorem go_stage {f t d : Int32} (hW : WC ns nc M)
    (h1 : ¬ ((0 ≤ f ∧ f < nI ns) ∧ (0 ≤ t ∧ t < nI ns)) → Q (rX 1) (mk M))
    (h0 : (0 ≤ f ∧ f < nI ns) → (0 ≤ t ∧ t < nI ns) → (f = t ∨ ¬ (1 ≤ d ∧ d ≤ 9)) → Q (rX 0) (mk M))
    (h2 : (0 ≤ f ∧ f < nI ns) → (0 ≤ t ∧ t < nI ns) → ¬ (f = t ∨ ¬ (1 ≤ d ∧ d ≤ 9)) → ¬ M.1 0 0 7 < 30 → Q (rX 2) (mk M))
    (h : (0 ≤ f ∧ f < nI ns) → (0 ≤ t ∧ t < nI ns) → ¬ (f = t ∨ ¬ (1 ≤ d ∧ d ≤ 9)) → M.1 0 0 7 < 30 → Q (rI (M.1 0 0 7 + 1)) (mk (cStage M (cl f) (cl t) d))) : Gm Γ M_X6_stage [vr 0 0, vi f, vi t, vi d] (mk M) Q := by
  have h5 := hW.n5
  refine gm_step [] 100 ?_; intro G K hG hK
  refine hG _ _ _ _ (gm_hasStation ?_)
  rw [h5]
  refine br_z (fun g => h1 (fun q => g q.1)) (fun gf => ?_)
  refine hG _ _ _ _ (gm_hasStation ?_)
  rw [h5]
  refine br_n (fun gt => ?_) (fun g => h1 (fun q => g q.2))
  refine ⟨fun (g : f = t) => h0 gf gt (Or.inl g), fun (g : ¬ f = t) => ?_⟩
  refine hG _ _ _ _ (gm_isWithin (n := d) (a := 1) (b := 9) ?_)
  refine br_n (fun g2 => ?_) (fun g2 => h0 gf gt (Or.inr g2))
  have gn : ¬ (f = t ∨ ¬ (1 ≤ d ∧ d ≤ 9)) := fun q => q.elim g (fun q => q g2)
  refine ⟨fun (g3 : M.1 0 0 7 < 30) => ?_, fun (g3 : ¬ M.1 0 0 7 < 30) => h2 gf gt gn g3⟩
  have h := h gf gt gn g3
  obtain ⟨v1, l1, -⟩ := in_of hW.ls gf.1 gf.2
  obtain ⟨v2, l2, -⟩ := in_of hW.ls gt.1 gt.2
  have r1 : R0 31 0 (cl f) = some (32, cl f) := rA_at (Nat.lt_of_lt_of_le l1 hW.ls)
  have r2 : R0 31 0 (cl t) = some (32, cl t) := rA_at (Nat.lt_of_lt_of_le l2 hW.ls)
  unfold cStage at h
  refine ⟨v1, (32, cl f), r1, v2, ?_⟩
  refine ⟨fun (g4 : ¬ M.1 32 (cl f) (cl t) = 0) => ?_, fun (g4 : ¬ ¬ M.1 32 (cl f) (cl t) = 0) => ?_⟩
  · rw [if_neg g4] at h; exact h
  · rw [if_pos (Decidable.not_not.mp g4)] at h
    exact ⟨v1, (32, cl f), r1, v2, v2, (32, cl t), r2, v1, h⟩
theorem go_caravan {a b w : Int32} (hW : WC ns nc M)
    (h1 : ¬ (0 ≤ w ∧ w < nI ns) → Q (rX 1) (mk M))
    (h0 : (0 ≤ w ∧ w < nI ns) → ¬ ((0 ≤ a ∧ a ≤ 3) ∧ (1 ≤ b ∧ b ≤ 500)) → Q (rX 0) (mk M))
    (h2 : (0 ≤ w ∧ w < nI ns) → ((0 ≤ a ∧ a ≤ 3) ∧ (1 ≤ b ∧ b ≤ 500)) → nc = 12 → Q (rX 2) (mk M))
    (h : (0 ≤ w ∧ w < nI ns) → ((0 ≤ a ∧ a ≤ 3) ∧ (1 ≤ b ∧ b ≤ 500)) → nc < 12 → Q (rI (nI nc)) (mk (cCaravan M nc a b w))) : Gm Γ M_X6_caravan [vr 0 0, vi a, vi b, vi w] (mk M) Q := by
  have h5 := hW.n5
  have h9 := hW.n9
  have hnc := hW.lc
  refine gm_step [] 100 ?_; intro G K hG hK
  refine hG _ _ _ _ (gm_hasStation ?_)
  rw [h5]
  refine br_n (fun gf => ?_) (fun g => h1 g)
  refine hG _ _ _ _ (gm_isWithin (n := a) (a := 0) (b := 3) ?_)
  refine br_z (fun g => h0 gf (fun q => g q.1)) (fun ga => ?_)
  refine hG _ _ _ _ (gm_isWithin (n := b) (a := 1) (b := 500) ?_)
  refine br_n (fun gb => ?_) (fun g => h0 gf (fun q => g q.2))
  refine ⟨fun (g2 : M.1 0 0 9 < 12) => ?_, fun (g2 : ¬ M.1 0 0 9 < 12) => ?_⟩
  rotate_left
  · rw [h9] at g2
    exact h2 gf ⟨ga, gb⟩ (Nat.le_antisymm hnc (Nat.not_lt.mp fun q => g2 (nI_lt q (by decide))))
  rw [h9] at g2
  have hlt : nc < 12 := (nI_ltI (b := 12) (by omega) (by decide)).mp g2
  have h := h gf ⟨ga, gb⟩ hlt
  unfold cCaravan at h
  have e1 : nI (nc + 1) = M.1 0 0 9 + 1 := by rw [h9, nI_1]
  have e2 : nI nc = M.1 0 0 9 + 1 - 1 := by rw [h9, nI_1, nI_pred]
  rw [e1, e2] at h
  refine ⟨by show vp_in (M.1 0 0 9) 12; exact in12 hlt h9, (15, nc), R0_ca hlt h9, ?_⟩
  refine hG _ _ _ _ (go_gather ?_)
  exact h
theorem go_look {s x : Int32} (hW : WC ns nc M)
    (h1 : ¬ (0 ≤ s ∧ s < nI ns) → Q (rX 1) (mk M))
    (h3 : (0 ≤ s ∧ s < nI ns) → ¬ x = 0 → ¬ x = 1 → ¬ x = 2 → ¬ x = 3 → Q (rX 3) (mk M))
    (g0 : (0 ≤ s ∧ s < nI ns) → x = 0 → Q (rI (M.1 13 (cl s) 0)) (mk M))
    (g1 : (0 ≤ s ∧ s < nI ns) → x = 1 → Q (rI (if M.1 13 (cl s) 0 = 2 then M.1 13 (cl s) 4 else cPrice M (cl s))) (mk M))
    (g2 : (0 ≤ s ∧ s < nI ns) → x = 2 → Q (rI (M.1 13 (cl s) 7)) (mk M))
    (g3 : (0 ≤ s ∧ s < nI ns) → x = 3 → Q (rI (cAt M s nc)) (mk M)) : Gm Γ M_X6_look [vr 0 0, vi s, vi x] (mk M) Q := by
  have h5 := hW.n5
  refine gm_step [] 100 ?_; intro G K hG hK
  refine hG _ _ _ _ (gm_hasStation ?_)
  rw [h5]
  refine br_n (fun gf => ?_) (fun g => h1 g)
  obtain ⟨v1, l1, -⟩ := in_of hW.ls gf.1 gf.2
  refine ⟨v1, (13, cl s), rA_at (Nat.lt_of_lt_of_le l1 hW.ls), ?_⟩
  refine ⟨⟨fun (g : x = 0) => g0 gf g, fun (g : x = 1) => ?_, fun (g : x = 2) => g2 gf g, fun (g : x = 3) => ?_, trivial⟩, fun (g : x.toInt < 0 ∨ ((3 : Nat) : Int) < x.toInt) => h3 gf (tsw (k := 0) g (by decide) (by decide)) (tsw (k := 1) g (by decide) (by decide)) (tsw (k := 2) g (by decide) (by decide)) (tsw (k := 3) g (by decide) (by decide))⟩
  · have h := g1 gf g
    refine ⟨fun (g4 : ¬ M.1 13 (cl s) 0 = 2) => ?_, fun (g4 : ¬ ¬ M.1 13 (cl s) 0 = 2) => ?_⟩
    · rw [if_neg g4] at h
      refine hG _ _ _ _ (gm_price ?_)
      exact h
    · rw [if_pos (Decidable.not_not.mp g4)] at h; exact h
  · refine hG _ _ _ _ (go_caravansAt hW ?_)
    exact g3 gf g
theorem go_state {i x : Int32} (hW : WC ns nc M)
    (h1 : ¬ (0 ≤ i ∧ i < nI nc) → Q (rX 1) (mk M))
    (h3 : (0 ≤ i ∧ i < nI nc) → stSlot x = none → Q (rX 3) (mk M))
    (h : ∀ k, (0 ≤ i ∧ i < nI nc) → stSlot x = some k → Q (rI (M.1 15 (cl i) k)) (mk M)) : Gm Γ M_X6_state [vr 0 0, vi i, vi x] (mk M) Q := by
  have h9 := hW.n9
  refine gm_step [] 100 ?_; intro G K hG hK
  refine hG _ _ _ _ (gm_hasCaravan ?_)
  rw [h9]
  refine br_n (fun gf => ?_) (fun g => h1 g)
  obtain ⟨v1, l1, -⟩ := in_of hW.lc gf.1 gf.2
  refine ⟨v1, (15, cl i), rA_at (Nat.lt_of_lt_of_le l1 hW.lc), ?_⟩
  refine ⟨⟨fun (g : x = 0) => h 5 gf (by rw [g]; rfl), fun (g : x = 1) => h 6 gf (by rw [g]; rfl), fun (g : x = 2) => h 2 gf (by rw [g]; rfl), fun (g : x = 3) => h 3 gf (by rw [g]; rfl), fun (g : x = 4) => h 4 gf (by rw [g]; rfl), fun (g : x = 5) => h 8 gf (by rw [g]; rfl), fun (g : x = 6) => h 9 gf (by rw [g]; rfl), fun (g : x = 7) => h 10 gf (by rw [g]; rfl), trivial⟩, fun (g : x.toInt < 0 ∨ ((7 : Nat) : Int) < x.toInt) => h3 gf ?_⟩
  unfold stSlot
  rw [if_neg (show ¬ x = 0 from tsw (k := 0) g (by decide) (by decide)), if_neg (show ¬ x = 1 from tsw (k := 1) g (by decide) (by decide)), if_neg (show ¬ x = 2 from tsw (k := 2) g (by decide) (by decide)), if_neg (show ¬ x = 3 from tsw (k := 3) g (by decide) (by decide)), if_neg (show ¬ x = 4 from tsw (k := 4) g (by decide) (by decide)), if_neg (show ¬ x = 5 from tsw (k := 5) g (by decide) (by decide)), if_neg (show ¬ x = 6 from tsw (k := 6) g (by decide) (by decide)), if_neg (show ¬ x = 7 from tsw (k := 7) g (by decide) (by decide))]
theorem go_knows {i s x : Int32} (hW : WC ns nc M)
    (h1 : ¬ ((0 ≤ i ∧ i < nI nc) ∧ (0 ≤ s ∧ s < nI ns)) → Q (rX 1) (mk M))
    (h : (0 ≤ i ∧ i < nI nc) → (0 ≤ s ∧ s < nI ns) → Q (rI (if x = 0 then M.1 28 (cl i) (cl s) else M.1 29 (cl i) (cl s))) (mk M)) : Gm Γ M_X6_knows [vr 0 0, vi i, vi s, vi x] (mk M) Q := by
  refine gm_step [] 100 ?_; intro G K hG hK
  refine hG _ _ _ _ (gm_hasCaravan ?_)
  rw [hW.n9]
  refine br_z (fun g => h1 (fun q => g q.1)) (fun gf => ?_)
  refine hG _ _ _ _ (gm_hasStation ?_)
  rw [hW.n5]
  refine br_n (fun gt => ?_) (fun g => h1 (fun q => g q.2))
  have h := h gf gt
  obtain ⟨v1, l1, -⟩ := in_of hW.lc gf.1 gf.2
  obtain ⟨v2, l2, -⟩ := in_of hW.ls gt.1 gt.2
  refine ⟨v1, (15, cl i), rA_at (Nat.lt_of_lt_of_le l1 hW.lc), ?_⟩
  refine ⟨fun (g : x = 0) => ?_, fun (g : ¬ x = 0) => ?_⟩
  · rw [if_pos g] at h; exact ⟨v2, h⟩
  · rw [if_neg g] at h; exact ⟨v2, h⟩
theorem go_lost {f t : Int32} (hW : WC ns nc M)
    (h1 : ¬ ((0 ≤ f ∧ f < nI ns) ∧ (0 ≤ t ∧ t < nI ns)) → Q (rX 1) (mk M))
    (h : (0 ≤ f ∧ f < nI ns) → (0 ≤ t ∧ t < nI ns) → Q (rI (M.1 34 (cl f) (cl t))) (mk M)) : Gm Γ M_X6_lost [vr 0 0, vi f, vi t] (mk M) Q := by
  refine gm_step [] 100 ?_; intro G K hG hK
  refine hG _ _ _ _ (gm_hasStation ?_)
  rw [hW.n5]
  refine br_z (fun g => h1 (fun q => g q.1)) (fun gf => ?_)
  refine hG _ _ _ _ (gm_hasStation ?_)
  rw [hW.n5]
  refine br_n (fun gt => ?_) (fun g => h1 (fun q => g q.2))
  obtain ⟨v1, l1, -⟩ := in_of hW.ls gf.1 gf.2
  obtain ⟨v2, l2, -⟩ := in_of hW.ls gt.1 gt.2
  exact ⟨v1, (34, cl f), rA_at (Nat.lt_of_lt_of_le l1 hW.ls), v2, h gf gt⟩
theorem gm_has {e : Int32} (h : Q (rI (b32 (0 ≤ e ∧ e < M.1 35 0 0))) (mk M)) : Gm Γ M_X2_has [vr 35 0, vi e] (mk M) Q := by
  refine gm_step [] 30 ?_; intro G K hG hK
  refine ⟨fun (c1 : e < 0) => rb_f (fun q => Int32.not_lt.mpr q.1 c1) h, fun (c1 : ¬ e < 0) => ?_⟩
  exact ⟨fun (c2 : M.1 35 0 0 ≤ e) => rb_f (fun q => Int32.not_le.mpr q.2 c2) h, fun (c2 : ¬ M.1 35 0 0 ≤ e) => rb_t ⟨Int32.not_lt.mp c1, Int32.not_le.mp c2⟩ h⟩
theorem in_le {x : Int32} {m n : Nat} (hn : m ≤ n) (h31 : n < 2 ^ 31) (h0 : 0 ≤ x) (h1 : x < nI m) : vp_in x n ∧ cl x < m ∧ x = nI (cl x) := by
  obtain ⟨j, hj, rfl⟩ := nI_of (Int32.not_lt.mpr h0)
  have hjn : j < m := (nI_ltI hj (by omega)).mp h1
  have e : cl (nI j) = j := nI_clamp hj
  exact ⟨vp_in_nI (by omega) h31, by rw [e]; exact hjn, by rw [e]⟩
theorem go_entry {e x : Int32} (he : M.1 35 0 0 = nI n) (hn : n ≤ 300)
    (h1 : ¬ (0 ≤ e ∧ e < nI n) → Q (rX 1) (mk M))
    (h3 : (0 ≤ e ∧ e < nI n) → enTag x = none → Q (rX 3) (mk M))
    (h : ∀ t, (0 ≤ e ∧ e < nI n) → enTag x = some t → Q (rI (M.1 t 0 (cl e))) (mk M)) : Gm Γ M_X6_entry [vr 0 0, vi e, vi x] (mk M) Q := by
  refine gm_step [] 100 ?_; intro G K hG hK
  refine hG _ _ _ _ (gm_has ?_)
  rw [he]
  refine br_n (fun gf => ?_) (fun g => h1 g)
  obtain ⟨v1, l1, -⟩ := in_le hn (by decide) gf.1 gf.2
  refine ⟨⟨fun (g : x = 0) => ⟨v1, h 36 gf (by rw [g]; rfl)⟩, fun (g : x = 1) => ⟨v1, h 37 gf (by rw [g]; rfl)⟩, fun (g : x = 2) => ⟨v1, h 38 gf (by rw [g]; rfl)⟩, fun (g : x = 3) => ⟨v1, h 40 gf (by rw [g]; rfl)⟩, fun (g : x = 4) => ⟨v1, h 39 gf (by rw [g]; rfl)⟩, trivial⟩, fun (g : x.toInt < 0 ∨ ((4 : Nat) : Int) < x.toInt) => h3 gf ?_⟩
  unfold enTag
  rw [if_neg (show ¬ x = 0 from tsw (k := 0) g (by decide) (by decide)), if_neg (show ¬ x = 1 from tsw (k := 1) g (by decide) (by decide)), if_neg (show ¬ x = 2 from tsw (k := 2) g (by decide) (by decide)), if_neg (show ¬ x = 3 from tsw (k := 3) g (by decide) (by decide)), if_neg (show ¬ x = 4 from tsw (k := 4) g (by decide) (by decide))]
theorem go_count {x : Int32} (hW : WC ns nc M) (h : Q (rJ (cCnt M nc x)) (mk M)) : Gm Γ M_X6_count [vr 0 0, vi x] (mk M) Q := by
  refine gm_step [] 60 ?_; intro G K hG hK
  refine ⟨⟨fun (g : x = 0) => ?_, fun (g : x = 1) => ?_, fun (g : x = 2) => ?_, fun (g : x = 3) => ?_, fun (g : x = 4) => ?_, fun (g : x = 5) => ?_, fun (g : x = 6) => ?_, fun (g : x = 7) => ?_, fun (g : x = 8) => ?_, fun (g : x = 9) => ?_, fun (g : x = 10) => ?_, fun (g : x = 11) => ?_, trivial⟩, fun (g : x.toInt < 0 ∨ ((11 : Nat) : Int) < x.toInt) => ?_⟩
  iterate 7 (first | (subst g; exact h))
  · subst g
    refine hG _ _ _ _ (go_slabsCarried hW ?_)
    exact h
  iterate 4 (first | (subst g; exact h))
  unfold cCnt at h
  rw [if_neg (show ¬ x = 0 from tsw (k := 0) g (by decide) (by decide)), if_neg (show ¬ x = 1 from tsw (k := 1) g (by decide) (by decide)), if_neg (show ¬ x = 2 from tsw (k := 2) g (by decide) (by decide)), if_neg (show ¬ x = 3 from tsw (k := 3) g (by decide) (by decide)), if_neg (show ¬ x = 4 from tsw (k := 4) g (by decide) (by decide)), if_neg (show ¬ x = 5 from tsw (k := 5) g (by decide) (by decide)), if_neg (show ¬ x = 6 from tsw (k := 6) g (by decide) (by decide)), if_neg (show ¬ x = 7 from tsw (k := 7) g (by decide) (by decide)), if_neg (show ¬ x = 8 from tsw (k := 8) g (by decide) (by decide)), if_neg (show ¬ x = 9 from tsw (k := 9) g (by decide) (by decide)), if_neg (show ¬ x = 10 from tsw (k := 10) g (by decide) (by decide)), if_neg (show ¬ x = 11 from tsw (k := 11) g (by decide) (by decide))] at h
  exact h
end FACE
