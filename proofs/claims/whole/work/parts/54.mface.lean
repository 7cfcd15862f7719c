/-! The reference: the rest of its face. -/
def mNo (x : Int32) (s : Nat) (A : MM) : MM := uI A 66 0 (cl (12 * x + nI s)) (-1)
def mCarA (M : MM) (x a b w : Int32) : MM := uI (uI (uI (uI (uI M 54 0 (cl x) a) 55 0 (cl x) b) 57 0 (cl x) (10 * b)) 59 0 (cl x) w) 62 0 (cl x) (M.1 44 0 1)
def mCaravan (M : MM) (x a b w : Int32) : MM := uI (uI (rep (mNo x) 12 (mCarA M x a b w)) 69 0 (cl (9 * x)) 0) 44 0 26 ((rep (mNo x) 12 (mCarA M x a b w)).1 44 0 26 + 1)
def mAtN (M : MM) (s : Int32) : Nat → Int32
  | 0 => 0
  | n + 1 => if M.1 58 0 n = 0 ∧ M.1 59 0 n = s then mAtN M s n + 1 else mAtN M s n + 0
def mstTag (x : Int32) : Option Nat := if x = 0 then some 58 else if x = 1 then some 59 else if x = 2 then some 55 else if x = 3 then some 56 else if x = 4 then some 57 else if x = 5 then some 61 else if x = 6 then some 62 else if x = 7 then some 63 else none
def mMoney (M : MM) (e d : Int32) : Nat → Int32
  | 0 => M.1 75 0 (cl e)
  | k + 1 => if M.1 76 0 k = e ∧ M.1 77 0 k ≤ d then M.1 78 0 k else mMoney M e d k
def mBal (M : MM) (i p d k : Int32) (r : Nat) : Nat → Int64
  | 0 => 0
  | e + 1 => if M.1 72 0 e = i ∧ M.1 73 0 e = p ∧ M.1 74 0 e ≤ d ∧ M.1 74 0 e ≤ k then mBal M i p d k r e + (mMoney M (nI e) k r).toInt64 else mBal M i p d k r e
def mCarr (M : MM) : Nat → Int64
  | 0 => 0
  | n + 1 => mCarr M n + (M.1 56 0 n).toInt64
def mCnt (M : MM) (nc : Nat) (x : Int32) : Int64 :=
  if x = 0 then (M.1 44 0 1).toInt64 else if x = 1 then (M.1 44 0 7).toInt64 else if x = 2 then (M.1 44 0 11).toInt64 else if x = 3 then (M.1 44 0 26).toInt64 else
  if x = 4 then M.2 79 0 0 else if x = 5 then M.2 79 0 1 else if x = 6 then M.2 79 0 2 else if x = 7 then mCarr M nc else if x = 8 then M.2 79 0 3 else
  if x = 9 then (M.1 44 0 36).toInt64 else if x = 10 then M.2 79 0 4 else if x = 11 then (M.1 44 0 40).toInt64 else -1
def mPut (M : MM) (e m : Int32) : MM := uI (uI (uI (uI M 76 0 (cl (M.1 44 0 40)) e) 77 0 (cl (M.1 44 0 40)) (M.1 44 0 1)) 78 0 (cl (M.1 44 0 40)) m) 44 0 40 (M.1 44 0 40 + 1)
def mTry1 (i : Nat) (A : MM) : MM := uI A 83 0 i (A.1 49 0 i)
def mPr (M : MM) (i : Nat) : Int32 := mx0 (M.1 46 0 i - M.1 83 0 i / M.1 47 0 i)
def mSpB (M : MM) : Nat → Int32 × Int32
  | 0 => (-1, 0)
  | i + 1 => if M.1 45 0 i = 3 ∧ (mSpB M i).2 < mPr M i then (nI i, mPr M i) else mSpB M i
def mSpl (ns : Nat) : Nat → MM → Int32 → Int32 × MM
  | 0, M, m => (m, M)
  | k + 1, M, m => if (mSpB M ns).1 < 0 then (m, M) else mSpl ns k (uI M 83 0 (cl (mSpB M ns).1) (M.1 83 0 (cl (mSpB M ns).1) + 1)) (m + (mSpB M ns).2)
def t0 (M : MM) : MM := uI M 44 0 0 0
section MFAC
variable {Γ : GG} {M : MM} {Q : Out → Mem → Prop} {n p q ns nc : Nat} {b : Nat → Int32} {x : Int32} {σ : Mem}
theorem gm_inJ {v lo hi : Int64} (h : Q (rI (b32 (lo ≤ v ∧ v ≤ hi))) σ) : Gm Γ M_X7_in [vj v, vj lo, vj hi] σ Q := by
  refine gm_step [] 40 ?_; intro G K hG hK
  refine ⟨fun (g : lg_cmp v lo < 0) => ?_, fun (g : ¬ lg_cmp v lo < 0) => ?_⟩
  · rw [lc_lt] at g
    exact rb_f (fun q => Int64.not_lt.mpr q.1 g) h
  rw [lc_lt] at g
  refine ⟨fun (g2 : 0 < lg_cmp v hi) => ?_, fun (g2 : ¬ 0 < lg_cmp v hi) => ?_⟩
  · rw [lc_gt] at g2
    exact rb_f (fun q => Int64.not_lt.mpr q.2 g2) h
  · rw [lc_gt] at g2
    exact rb_t ⟨Int64.not_lt.mp g, Int64.not_lt.mp g2⟩ h
theorem go_mcaravan161 {y : Int32} {C : MM} (hc : y = nI nc) (hlc : nc < 12) (h : Q (rI y) (mk (uI (uI C 69 0 (cl (9 * y)) 0) 44 0 26 (C.1 44 0 26 + 1)))) : Go Γ M_X7_caravan 134 [(5, vi (nI 12)), (4, vi y), (0, vr 44 0)] [] (mk C) (0, 0) Q := by
  obtain ⟨v0, -⟩ := v108 (c := nc) (k := 0) (x := y) (y := 0) (by omega) (by decide) hc rfl
  rw [Int32.add_zero] at v0
  refine go_step [] 60 ?_; intro G K hG hK
  refine ⟨fun _ => ?_, fun (z : ¬ nI 12 ≤ nI 12) => absurd (Int32.le_refl _) z⟩
  exact ⟨v0, h⟩
theorem go_mcaravan79 {a b w : Int32} (hc : M.1 44 0 26 = nI nc) (hlc : nc < 12) (h : Q (rI (nI nc)) (mk (mCaravan M (nI nc) a b w))) : Go Γ M_X7_caravan 79 [(3, vi w), (2, vi b), (1, vi a), (0, vr 44 0)] [] (mk M) (0, 0) Q := by
  have hv : vp_in (M.1 44 0 26) 12 := in12 hlc hc
  rw [← hc] at h
  unfold mCaravan at h
  refine go_step [134] 60 ?_; intro G K hG hK
  refine ⟨hv, hv, hv, hv, hv, ?_⟩
  refine hK _ _ _ _ _ (go_bus (lv' := [(5, vi (nI 0)), (4, vi (M.1 44 0 26)), (0, vr 44 0)]) ?_ ⟨rfl, rfl, rfl, trivial⟩)
  show Go Γ M_X7_caravan 134 _ [] (mk (mCarA M (M.1 44 0 26) a b w)) (0, 0) Q
  generalize mCarA M (M.1 44 0 26) a b w = A at h ⊢
  refine loop_up (P := fun s => Go Γ M_X7_caravan 134 [(5, vi (nI s)), (4, vi (M.1 44 0 26)), (0, vr 44 0)] [] (mk (rep (mNo (M.1 44 0 26)) s A)) (0, 0) Q) (n := 12) (fun s hs ih => ?_) ?_
  · have ih : Go Γ M_X7_caravan 134 [(5, vi (nI (s + 1))), (4, vi (M.1 44 0 26)), (0, vr 44 0)] [] (mk (mNo (M.1 44 0 26) s (rep (mNo (M.1 44 0 26)) s A))) (0, 0) Q := ih
    generalize rep (mNo (M.1 44 0 26)) s A = B at ih ⊢
    obtain ⟨v1, -⟩ := v144 (c := nc) (k := s) (x := M.1 44 0 26) (y := nI s) (by omega) hs hc rfl
    refine go_step [134] 60 ?_; intro G K hG hK
    refine ⟨fun (z : nI 12 ≤ nI s) => absurd z (nI_ge hs (by decide)), fun _ => ?_⟩
    exact ⟨v1, hK _ _ _ _ _ (go_bus ih ⟨lvi (nI_1 s), rfl, rfl, trivial⟩)⟩
  · exact go_mcaravan161 hc hlc h
theorem go_mcaravan {a b w : Int32} (hs : M.1 44 0 7 = nI ns) (hl : ns ≤ 12) (hc : M.1 44 0 26 = nI nc) (hlc : nc ≤ 12)
    (h1 : ¬ (0 ≤ w ∧ w < nI ns) → Q (rI 0) (mk (uI (t0 M) 44 0 0 1)))
    (h0 : (0 ≤ w ∧ w < nI ns) → ¬ ((0 ≤ a ∧ a ≤ 3) ∧ (1 ≤ b ∧ b ≤ 500)) → Q (rI 0) (mk (uI (t0 M) 44 0 0 2)))
    (h2 : (0 ≤ w ∧ w < nI ns) → ((0 ≤ a ∧ a ≤ 3) ∧ (1 ≤ b ∧ b ≤ 500)) → nc = 12 → Q (rI 0) (mk (uI (t0 M) 44 0 0 3)))
    (h : (0 ≤ w ∧ w < nI ns) → ((0 ≤ a ∧ a ≤ 3) ∧ (1 ≤ b ∧ b ≤ 500)) → nc < 12 → Q (rI (nI nc)) (mk (mCaravan (t0 M) (nI nc) a b w))) : Gm Γ M_X7_caravan [vr 44 0, vi a, vi b, vi w] (mk M) Q := by
  refine gm_step [79] 60 ?_; intro G K hG hK
  refine hG _ _ _ _ (gm_noStation (M := t0 M) (x := w) hs hl ?_)
  refine hG _ _ _ _ (gm_throws (M := t0 M) (fun g => ?_) (fun g => ?_))
  · exact br1n (h1 g)
  have g := Decidable.not_not.mp g
  refine br0n ?_
  have bad : ¬ ((0 ≤ a ∧ a ≤ 3) ∧ (1 ≤ b ∧ b ≤ 500)) → Q (rI 0) (mk (uI (t0 M) 44 0 0 2)) := h0 g
  refine hG _ _ _ _ (gm_in (x := a) (lo := 0) (hi := 3) ?_)
  refine br_z (fun ga => ?_) (fun ga => ?_)
  · refine hG _ _ _ _ (gm_throws1 (M := t0 M) ?_)
    exact br1n (bad (fun z => ga z.1))
  refine hG _ _ _ _ (gm_in (x := b) (lo := 1) (hi := 500) ?_)
  refine br_n (fun gb => ?_) (fun gb => ?_)
  rotate_left
  · refine hG _ _ _ _ (gm_throws1 (M := t0 M) ?_)
    exact br1n (bad (fun z => gb z.2))
  refine hG _ _ _ _ (gm_throws0 (M := t0 M) ?_)
  refine br0n ?_
  refine ⟨fun (g5 : ¬ M.1 44 0 26 = 12) => ?_, fun (g5 : ¬ ¬ M.1 44 0 26 = 12) => ?_⟩
  rotate_left
  · rw [hc, show (12 : Int32) = nI 12 from rfl, nI_eq (by omega) (by omega)] at g5
    refine hG _ _ _ _ (gm_throws1 (M := t0 M) ?_)
    exact br1z (h2 g ⟨ga, gb⟩ (Decidable.not_not.mp g5))
  rw [hc, show (12 : Int32) = nI 12 from rfl, nI_eq (by omega) (by omega)] at g5
  refine hG _ _ _ _ (gm_throws0 (M := t0 M) ?_)
  refine br0z ?_
  exact hK _ _ _ _ _ (go_bus (go_mcaravan79 (M := t0 M) hc (by omega) (h g ⟨ga, gb⟩ (by omega))) ⟨rfl, rfl, rfl, rfl, trivial⟩)
theorem go_mfault (h : Q (rI (M.1 44 0 49)) (mk (t0 M))) : Gm Γ M_X7_fault [vr 44 0] (mk M) Q := by
  refine gm_step [] 20 ?_; intro G K hG hK
  exact h
theorem go_mend {x : Int32} (h0 : x < 0 ∨ M.1 44 0 44 < x → Q (rI 0) (mk (t0 M))) (h1 : ¬ (x < 0 ∨ M.1 44 0 44 < x) → Q (rI 1) (mk (uI (t0 M) 44 0 44 x))) : Gm Γ M_X7_end [vr 44 0, vi x] (mk M) Q := by
  refine gm_step [] 60 ?_; intro G K hG hK
  refine ⟨fun (g : x < 0) => rb0 (h0 (Or.inl g)), fun (g : ¬ x < 0) => ?_⟩
  refine ⟨fun (g2 : x ≤ M.1 44 0 44) => rb1 (h1 (fun q => q.elim g (fun q => Int32.not_lt.mpr g2 q))), fun (g2 : ¬ x ≤ M.1 44 0 44) => rb0 (h0 (Or.inr (Int32.not_le.mp g2)))⟩
theorem go_mlook {s x : Int32} (hW : WM ns nc M)
    (h1 : ¬ (0 ≤ s ∧ s < nI ns) → Q (rI 0) (mk (uI (t0 M) 44 0 0 1)))
    (h3 : (0 ≤ s ∧ s < nI ns) → ¬ x = 0 → ¬ x = 1 → ¬ x = 2 → ¬ x = 3 → Q (rI 0) (mk (uI (t0 M) 44 0 0 2)))
    (g0 : (0 ≤ s ∧ s < nI ns) → x = 0 → Q (rI (M.1 45 0 (cl s))) (mk (t0 M)))
    (g1 : (0 ≤ s ∧ s < nI ns) → x = 1 → Q (rI (if M.1 45 0 (cl s) = 2 then M.1 49 0 (cl s) else if M.1 45 0 (cl s) = 3 then mPrice M s else 0)) (mk (t0 M)))
    (g2 : (0 ≤ s ∧ s < nI ns) → x = 2 → Q (rI (if M.1 45 0 (cl s) = 3 then M.1 49 0 (cl s) else 0)) (mk (t0 M)))
    (g3 : (0 ≤ s ∧ s < nI ns) → x = 3 → Q (rI (mAtN M s nc)) (mk (t0 M))) : Gm Γ M_X7_look [vr 44 0, vi s, vi x] (mk M) Q := by
  have hls := hW.ls
  have hlc := hW.lc
  refine gm_step [124] 60 ?_; intro G K hG hK
  refine hG _ _ _ _ (gm_noStation (M := t0 M) (x := s) hW.n7 hls ?_)
  refine hG _ _ _ _ (gm_throws (M := t0 M) (fun g => br1z (h1 g)) (fun g => ?_))
  have g := Decidable.not_not.mp g
  obtain ⟨v1, l1, -⟩ := in_of hls g.1 g.2
  refine br0z ?_
  refine ⟨⟨fun (e : x = 0) => ⟨v1, g0 g e⟩, fun (e : x = 1) => ?_, fun (e : x = 2) => ?_, fun (e : x = 3) => ?_, trivial⟩, fun (e : x.toInt < 0 ∨ ((3 : Nat) : Int) < x.toInt) => h3 g (tsw (k := 0) e (by decide) (by decide)) (tsw (k := 1) e (by decide) (by decide)) (tsw (k := 2) e (by decide) (by decide)) (tsw (k := 3) e (by decide) (by decide))⟩
  · have h := g1 g e
    refine ⟨v1, ?_⟩
    refine ⟨fun (g4 : ¬ M.1 45 0 (cl s) = 2) => ?_, fun (g4 : ¬ ¬ M.1 45 0 (cl s) = 2) => ?_⟩
    · rw [if_neg g4] at h
      refine ⟨v1, ?_⟩
      refine ⟨fun (g5 : ¬ M.1 45 0 (cl s) = 3) => ?_, fun (g5 : ¬ ¬ M.1 45 0 (cl s) = 3) => ?_⟩
      · rw [if_neg g5] at h; exact h
      · rw [if_pos (Decidable.not_not.mp g5)] at h
        refine hG _ _ _ _ (gm_priceOf (M := t0 M) v1 (hW.b0 l1 (Decidable.not_not.mp g5)) ?_)
        exact h
    · rw [if_pos (Decidable.not_not.mp g4)] at h; exact ⟨v1, h⟩
  · have h := g2 g e
    refine ⟨v1, ?_⟩
    refine ⟨fun (g5 : ¬ M.1 45 0 (cl s) = 3) => ?_, fun (g5 : ¬ ¬ M.1 45 0 (cl s) = 3) => ?_⟩
    · rw [if_neg g5] at h; exact h
    · rw [if_pos (Decidable.not_not.mp g5)] at h; exact ⟨v1, h⟩
  · have h := g3 g e
    refine hK _ _ _ _ _ (go_bus (lv' := [(4, vi (nI 0)), (3, vi (mAtN M s 0)), (1, vi s), (0, vr 44 0)]) ?_ ⟨rfl, rfl, rfl, rfl, trivial⟩)
    refine loop_up (P := fun i => Go Γ M_X7_look 124 [(4, vi (nI i)), (3, vi (mAtN M s i)), (1, vi s), (0, vr 44 0)] [] (mk (t0 M)) (0, 0) Q) (n := nc) (fun i hi ih => ?_) ?_
    · have ec : cl (nI i) = i := nI_clamp (by omega)
      have hv : vp_in (nI i) 12 := in12 (n := i) (by omega) rfl
      unfold mAtN at ih
      rw [← ec] at ih
      refine go_step [124] 60 ?_; intro G K hG hK
      refine ⟨fun (z : M.1 44 0 26 ≤ nI i) => ?_, fun _ => ?_⟩
      · rw [hW.n26] at z; exact absurd z (nI_ge hi (by omega))
      refine ⟨hv, ?_⟩
      refine ⟨fun (z : ¬ M.1 58 0 (cl (nI i)) = 0) => ?_, fun (z : ¬ ¬ M.1 58 0 (cl (nI i)) = 0) => ?_⟩
      · rw [if_neg (fun y => z y.1), ec] at ih
        exact hK _ _ _ _ _ (go_bus ih ⟨lvi (nI_1 i), rfl, rfl, rfl, trivial⟩)
      refine ⟨hv, ?_⟩
      refine ⟨fun (z2 : ¬ M.1 59 0 (cl (nI i)) = s) => ?_, fun (z2 : ¬ ¬ M.1 59 0 (cl (nI i)) = s) => ?_⟩
      · rw [if_neg (fun y => z2 y.2), ec] at ih
        exact hK _ _ _ _ _ (go_bus ih ⟨lvi (nI_1 i), rfl, rfl, rfl, trivial⟩)
      · rw [if_pos ⟨Decidable.not_not.mp z, Decidable.not_not.mp z2⟩, ec] at ih
        exact hK _ _ _ _ _ (go_bus ih ⟨lvi (nI_1 i), rfl, rfl, rfl, trivial⟩)
    · refine go_step [] 60 ?_; intro G K hG hK
      refine ⟨fun _ => h, fun (z : ¬ M.1 44 0 26 ≤ nI nc) => ?_⟩
      rw [hW.n26] at z; exact absurd (Int32.le_refl _) z
theorem go_mstate {i x : Int32} (hc : M.1 44 0 26 = nI nc) (hlc : nc ≤ 12)
    (h1 : ¬ (0 ≤ i ∧ i < nI nc) → Q (rI 0) (mk (uI (t0 M) 44 0 0 1)))
    (h3 : (0 ≤ i ∧ i < nI nc) → mstTag x = none → Q (rI 0) (mk (uI (t0 M) 44 0 0 2)))
    (h : ∀ t, (0 ≤ i ∧ i < nI nc) → mstTag x = some t → Q (rI (M.1 t 0 (cl i))) (mk (t0 M))) : Gm Γ M_X7_state [vr 44 0, vi i, vi x] (mk M) Q := by
  refine gm_step [] 60 ?_; intro G K hG hK
  refine hG _ _ _ _ (gm_noCaravan (M := t0 M) (x := i) hc hlc ?_)
  refine hG _ _ _ _ (gm_throws (M := t0 M) (fun g => br1z (h1 g)) (fun g => ?_))
  have g := Decidable.not_not.mp g
  obtain ⟨v1, l1, -⟩ := in_of hlc g.1 g.2
  refine br0z ?_
  refine ⟨⟨fun (e : x = 0) => ⟨v1, h 58 g (by rw [e]; rfl)⟩, fun (e : x = 1) => ⟨v1, h 59 g (by rw [e]; rfl)⟩, fun (e : x = 2) => ⟨v1, h 55 g (by rw [e]; rfl)⟩, fun (e : x = 3) => ⟨v1, h 56 g (by rw [e]; rfl)⟩, fun (e : x = 4) => ⟨v1, h 57 g (by rw [e]; rfl)⟩, fun (e : x = 5) => ⟨v1, h 61 g (by rw [e]; rfl)⟩, fun (e : x = 6) => ⟨v1, h 62 g (by rw [e]; rfl)⟩, fun (e : x = 7) => ⟨v1, h 63 g (by rw [e]; rfl)⟩, trivial⟩, fun (e : x.toInt < 0 ∨ ((7 : Nat) : Int) < x.toInt) => h3 g ?_⟩
  unfold mstTag
  rw [if_neg (show ¬ x = 0 from tsw (k := 0) e (by decide) (by decide)), if_neg (show ¬ x = 1 from tsw (k := 1) e (by decide) (by decide)), if_neg (show ¬ x = 2 from tsw (k := 2) e (by decide) (by decide)), if_neg (show ¬ x = 3 from tsw (k := 3) e (by decide) (by decide)), if_neg (show ¬ x = 4 from tsw (k := 4) e (by decide) (by decide)), if_neg (show ¬ x = 5 from tsw (k := 5) e (by decide) (by decide)), if_neg (show ¬ x = 6 from tsw (k := 6) e (by decide) (by decide)), if_neg (show ¬ x = 7 from tsw (k := 7) e (by decide) (by decide))]
theorem go_mknows {i s x : Int32} (hc : M.1 44 0 26 = nI nc) (hlc : nc ≤ 12) (hs : M.1 44 0 7 = nI ns) (hls : ns ≤ 12)
    (h1 : ¬ ((0 ≤ i ∧ i < nI nc) ∧ (0 ≤ s ∧ s < nI ns)) → Q (rI 0) (mk (uI (t0 M) 44 0 0 1)))
    (h : (0 ≤ i ∧ i < nI nc) → (0 ≤ s ∧ s < nI ns) → Q (rI (if 0 ≤ M.1 66 0 (12 * cl i + cl s) then (if x = 0 then M.1 65 0 (12 * cl i + cl s) else M.1 66 0 (12 * cl i + cl s)) else -1)) (mk (t0 M))) : Gm Γ M_X7_knows [vr 44 0, vi i, vi s, vi x] (mk M) Q := by
  refine gm_step [] 60 ?_; intro G K hG hK
  refine hG _ _ _ _ (gm_noCaravan (M := t0 M) (x := i) hc hlc ?_)
  refine br_n (fun g => ?_) (fun g => ?_)
  · refine hG _ _ _ _ (gm_throws1 (M := t0 M) ?_)
    exact br1z (h1 (fun z => g z.1))
  have g := Decidable.not_not.mp g
  refine hG _ _ _ _ (gm_noStation (M := t0 M) (x := s) hs hls ?_)
  refine br_z (fun g2 => ?_) (fun g2 => ?_)
  rotate_left
  · refine hG _ _ _ _ (gm_throws1 (M := t0 M) ?_)
    exact br1z (h1 (fun z => g2 z.2))
  have g2 := Decidable.not_not.mp g2
  refine hG _ _ _ _ (gm_throws0 (M := t0 M) ?_)
  refine br0z ?_
  have h := h g g2
  obtain ⟨-, l1, e1⟩ := in_of hlc g.1 g.2
  obtain ⟨-, l2, e2⟩ := in_of hls g2.1 g2.2
  obtain ⟨v1, c1⟩ := v144 (c := cl i) (k := cl s) (x := i) (y := s) (by omega) (by omega) e1 e2
  rw [← c1] at h
  refine ⟨v1, ?_⟩
  refine ⟨fun (z : 0 ≤ M.1 66 0 (cl (12 * i + s))) => ?_, fun (z : ¬ 0 ≤ M.1 66 0 (cl (12 * i + s))) => ?_⟩
  · rw [if_pos z] at h
    refine ⟨fun (y : x = 0) => ?_, fun (y : ¬ x = 0) => ?_⟩
    · rw [if_pos y] at h; exact ⟨v1, h⟩
    · rw [if_neg y] at h; exact ⟨v1, h⟩
  · rw [if_neg z] at h; exact h
theorem go_mlost {f t : Int32} (hs : M.1 44 0 7 = nI ns) (hls : ns ≤ 12)
    (h1 : ¬ ((0 ≤ f ∧ f < nI ns) ∧ (0 ≤ t ∧ t < nI ns)) → Q (rI 0) (mk (uI (t0 M) 44 0 0 1)))
    (h : (0 ≤ f ∧ f < nI ns) → (0 ≤ t ∧ t < nI ns) → Q (rI (M.1 53 0 (12 * cl f + cl t))) (mk (t0 M))) : Gm Γ M_X7_lost [vr 44 0, vi f, vi t] (mk M) Q := by
  refine gm_step [] 60 ?_; intro G K hG hK
  refine hG _ _ _ _ (gm_noStation (M := t0 M) (x := f) hs hls ?_)
  refine br_n (fun g => ?_) (fun g => ?_)
  · refine hG _ _ _ _ (gm_throws1 (M := t0 M) ?_)
    exact br1z (h1 (fun z => g z.1))
  have g := Decidable.not_not.mp g
  refine hG _ _ _ _ (gm_noStation (M := t0 M) (x := t) hs hls ?_)
  refine br_z (fun g2 => ?_) (fun g2 => ?_)
  rotate_left
  · refine hG _ _ _ _ (gm_throws1 (M := t0 M) ?_)
    exact br1z (h1 (fun z => g2 z.2))
  have g2 := Decidable.not_not.mp g2
  refine hG _ _ _ _ (gm_throws0 (M := t0 M) ?_)
  refine br0z ?_
  have h := h g g2
  obtain ⟨-, l1, e1⟩ := in_of hls g.1 g.2
  obtain ⟨-, l2, e2⟩ := in_of hls g2.1 g2.2
  obtain ⟨v1, c1⟩ := v144 (c := cl f) (k := cl t) (x := f) (y := t) (by omega) (by omega) e1 e2
  rw [← c1] at h
  exact ⟨v1, h⟩
theorem go_moneyOf {e d : Int32} {r : Nat} (he : vp_in e 300) (hr : M.1 44 0 40 = nI r) (hr2 : r ≤ 100) (h : Q (rI (mMoney M e d r)) (mk M)) : Gm Γ M_X7_moneyOf [vr 44 0, vi e, vi d] (mk M) Q := by
  refine gm_step [10] 60 ?_; intro G K hG hK
  refine ⟨he, ?_⟩
  refine hK _ _ _ _ _ (go_bus (lv' := [(4, vi (nI 0)), (3, vi (mMoney M e d 0)), (2, vi d), (1, vi e), (0, vr 44 0)]) ?_ ⟨rfl, rfl, rfl, rfl, rfl, trivial⟩)
  refine loop_up (P := fun i => Go Γ M_X7_moneyOf 10 [(4, vi (nI i)), (3, vi (mMoney M e d i)), (2, vi d), (1, vi e), (0, vr 44 0)] [] (mk M) (0, 0) Q) (n := r) (fun i hi ih => ?_) ?_
  · have ec : cl (nI i) = i := nI_clamp (by omega)
    have hv : vp_in (nI i) 100 := vp_in_nI (by omega) (by decide)
    unfold mMoney at ih
    rw [← ec] at ih
    refine go_step [10] 60 ?_; intro G K hG hK
    refine ⟨fun (z : M.1 44 0 40 ≤ nI i) => ?_, fun _ => ?_⟩
    · rw [hr] at z; exact absurd z (nI_ge hi (by omega))
    refine ⟨hv, ?_⟩
    refine ⟨fun (z : ¬ M.1 76 0 (cl (nI i)) = e) => ?_, fun (z : ¬ ¬ M.1 76 0 (cl (nI i)) = e) => ?_⟩
    · rw [if_neg (fun y => z y.1), ec] at ih
      exact hK _ _ _ _ _ (go_bus ih ⟨lvi (nI_1 i), rfl, rfl, rfl, rfl, trivial⟩)
    refine ⟨hv, ?_⟩
    refine ⟨fun (z2 : d < M.1 77 0 (cl (nI i))) => ?_, fun (z2 : ¬ d < M.1 77 0 (cl (nI i))) => ?_⟩
    · rw [if_neg (fun y => Int32.not_lt.mpr y.2 z2), ec] at ih
      exact hK _ _ _ _ _ (go_bus ih ⟨lvi (nI_1 i), rfl, rfl, rfl, rfl, trivial⟩)
    · rw [if_pos ⟨Decidable.not_not.mp z, Int32.not_lt.mp z2⟩, ec] at ih
      refine ⟨hv, ?_⟩
      exact hK _ _ _ _ _ (go_bus ih ⟨lvi (nI_1 i), lvi (by show M.1 78 0 (cl (nI i)) = _; rw [ec]), rfl, rfl, rfl, trivial⟩)
  · refine go_step [] 60 ?_; intro G K hG hK
    refine ⟨fun _ => h, fun (z : ¬ M.1 44 0 40 ≤ nI r) => ?_⟩
    rw [hr] at z; exact absurd (Int32.le_refl _) z
end MFAC
