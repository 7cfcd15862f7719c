/-! The reference: caravans, ways, entries, travels, letters. -/
theorem ix9 {c k : Nat} (hc : c < 12) (hk : k < 9) : (9 : Int32) * nI c + nI k = nI (9 * c + k) ∧ 9 * c + k < 108 := ⟨by rw [show (9 : Int32) = nI 9 from rfl, pk_mul, nI_add], by omega⟩
theorem ix12 {c k : Nat} (hc : c < 12) (hk : k < 12) : (12 : Int32) * nI c + nI k = nI (12 * c + k) ∧ 12 * c + k < 144 := ⟨by rw [show (12 : Int32) = nI 12 from rfl, pk_mul, nI_add], by omega⟩
theorem v144 {c k : Nat} {x y : Int32} (hc : c < 12) (hk : k < 12) (hx : x = nI c) (hy : y = nI k) : vp_in (12 * x + y) 144 ∧ cl (12 * x + y) = 12 * c + k := by
  subst hx; subst hy
  rw [(ix12 hc hk).1]
  exact ⟨vp_in_nI (ix12 hc hk).2 (by decide), nI_clamp (by omega)⟩
theorem v108 {c k : Nat} {x y : Int32} (hc : c < 12) (hk : k < 9) (hx : x = nI c) (hy : y = nI k) : vp_in (9 * x + y) 108 ∧ cl (9 * x + y) = 9 * c + k := by
  subst hx; subst hy
  rw [(ix9 hc hk).1]
  exact ⟨vp_in_nI (ix9 hc hk).2 (by decide), nI_clamp (by omega)⟩
/-- the days of the first stage among the last m of g -/
def mWayF (M : MM) (f t : Int32) : Nat → Nat → Int32
  | 0, _ => 0
  | m + 1, k => if (M.1 50 0 k = f ∧ M.1 51 0 k = t) ∨ (M.1 50 0 k = t ∧ M.1 51 0 k = f) then M.1 52 0 k else mWayF M f t m (k + 1)
def mWr (M : MM) (x p m : Int32) : MM :=
  if m = 0 then M else if M.1 44 0 36 = 300 then M else
    uI (uI (uI (uI (uI M 72 0 (cl (M.1 44 0 36)) x) 73 0 (cl (M.1 44 0 36)) p) 74 0 (cl (M.1 44 0 36)) (M.1 44 0 1)) 75 0 (cl (M.1 44 0 36)) m) 44 0 36 (M.1 44 0 36 + 1)
def mDied (M : MM) (x : Int32) : Int32 := (mx0 (M.1 55 0 (cl x) - M.1 57 0 (cl x)) + 1) / 2
def mTrA (x : Int32) (M : MM) : MM := uJ (uI (uI M 57 0 (cl x) (mx0 (M.1 57 0 (cl x) - M.1 55 0 (cl x)))) 55 0 (cl x) (M.1 55 0 (cl x) - mDied M x)) 79 0 3 (M.2 79 0 3 + (mDied M x).toInt64)
def mOver (M : MM) (x : Int32) : Int32 := mx0 (M.1 56 0 (cl x) - 4 * M.1 55 0 (cl x))
def mTrC (x : Int32) (M : MM) (g : Int32) : MM := uI (uJ (uI M 56 0 (cl x) (M.1 56 0 (cl x) - g)) 79 0 2 (M.2 79 0 2 + g.toInt64)) 53 0 (cl (12 * M.1 60 0 (cl x) + M.1 59 0 (cl x))) (M.1 53 0 (cl (12 * M.1 60 0 (cl x) + M.1 59 0 (cl x))) + g)
def mLoss (x : Int32) (M : MM) (g : Int32) : MM := if M.1 70 0 (cl (9 * x)) ≤ 0 then M else if M.1 70 0 (cl (9 * x + 7)) < 0 then M else mWr M x (M.1 70 0 (cl (9 * x + 7))) (-M.1 70 0 (cl (9 * x + 8)) * g)
def mGo (x : Int32) (M : MM) : MM :=
  if M.1 55 0 (cl x) = 0 then uI (uI M 58 0 (cl x) 2) 61 0 (cl x) 0
  else if M.1 61 0 (cl x) - 1 ≤ 0 then uI (uI (uI M 61 0 (cl x) (M.1 61 0 (cl x) - 1)) 58 0 (cl x) 0) 62 0 (cl x) (M.1 44 0 1)
  else uI M 61 0 (cl x) (M.1 61 0 (cl x) - 1)
def mTrD (x : Int32) (M : MM) : MM := if mOver (mTrA x M) x ≤ 0 then mTrA x M else mLoss x (mTrC x (mTrA x M) (mOver (mTrA x M) x)) (mOver (mTrA x M) x)
def mTravel (x : Int32) (M : MM) : MM := mGo x (mTrD x M)
section MDAY
variable {Γ : GG} {M : MM} {Q : Out → Mem → Prop} {c ns nc n p : Nat} {σ : Mem}
theorem go_way {f t : Int32} {g : Nat} (hg : M.1 44 0 11 = nI g) (hg2 : g ≤ 30) (h : Q (rI (mWayF M f t g 0)) (mk M)) : Gm Γ M_X7_way [vr 44 0, vi f, vi t] (mk M) Q := by
  refine gm_step [2] 60 ?_; intro G K hG hK
  have key : ∀ m k, k + m = g → Q (rI (mWayF M f t m k)) (mk M) → Go Γ M_X7_way 2 [(3, vi (nI k)), (2, vi t), (1, vi f), (0, vr 44 0)] [] (mk M) (0, 0) Q := by
    intro m
    induction m with
    | zero =>
      intro k hk h
      refine go_step [2] 60 ?_; intro G K hG hK
      refine ⟨fun _ => h, fun (q : ¬ M.1 44 0 11 ≤ nI k) => ?_⟩
      rw [hg, show g = k by omega] at q; exact absurd (Int32.le_refl _) q
    | succ m ih =>
      intro k hk h
      have ec : cl (nI k) = k := nI_clamp (by omega)
      have hv : vp_in (nI k) 30 := vp_in_nI (by omega) (by decide)
      unfold mWayF at h
      rw [← ec] at h
      have hno : ¬ ((M.1 50 0 (cl (nI k)) = f ∧ M.1 51 0 (cl (nI k)) = t) ∨ (M.1 50 0 (cl (nI k)) = t ∧ M.1 51 0 (cl (nI k)) = f)) → Go Γ M_X7_way 57 [(3, vi (nI k)), (2, vi t), (1, vi f), (0, vr 44 0)] [] (mk M) (0, 0) Q := fun q => by
        rw [if_neg q, ec] at h
        refine go_step [2] 60 ?_; intro G K hG hK
        exact hK _ _ _ _ _ (go_bus (ih (k + 1) (by omega) h) ⟨lvi (nI_1 k), rfl, rfl, rfl, trivial⟩)
      have hyes : ((M.1 50 0 (cl (nI k)) = f ∧ M.1 51 0 (cl (nI k)) = t) ∨ (M.1 50 0 (cl (nI k)) = t ∧ M.1 51 0 (cl (nI k)) = f)) → Go Γ M_X7_way 50 [(3, vi (nI k)), (2, vi t), (1, vi f), (0, vr 44 0)] [] (mk M) (0, 0) Q := fun q => by
        rw [if_pos q] at h
        refine go_step [2] 60 ?_; intro G K hG hK
        exact ⟨hv, h⟩
      have h30 : ¬ (M.1 50 0 (cl (nI k)) = f ∧ M.1 51 0 (cl (nI k)) = t) → Go Γ M_X7_way 30 [(3, vi (nI k)), (2, vi t), (1, vi f), (0, vr 44 0)] [] (mk M) (0, 0) Q := fun nq => by
        refine go_step [50, 57] 60 ?_; intro G K hG hK
        refine ⟨hv, ?_⟩
        refine ⟨fun (q : ¬ M.1 50 0 (cl (nI k)) = t) => hK _ _ _ _ _ (hno (fun z => z.elim nq (fun z => q z.1))), fun (q : ¬ ¬ M.1 50 0 (cl (nI k)) = t) => ?_⟩
        refine ⟨hv, ?_⟩
        exact ⟨fun (q2 : ¬ M.1 51 0 (cl (nI k)) = f) => hK _ _ _ _ _ (hno (fun z => z.elim nq (fun z => q2 z.2))), fun (q2 : ¬ ¬ M.1 51 0 (cl (nI k)) = f) => hK _ _ _ _ _ (hyes (Or.inr ⟨Decidable.not_not.mp q, Decidable.not_not.mp q2⟩))⟩
      refine go_step [30, 50] 60 ?_; intro G K hG hK
      refine ⟨fun (q : M.1 44 0 11 ≤ nI k) => ?_, fun _ => ?_⟩
      · rw [hg] at q; exact absurd q (nI_ge (by omega) (by omega))
      refine ⟨hv, ?_⟩
      refine ⟨fun (q : ¬ M.1 50 0 (cl (nI k)) = f) => hK _ _ _ _ _ (h30 (fun z => q z.1)), fun (q : ¬ ¬ M.1 50 0 (cl (nI k)) = f) => ?_⟩
      refine ⟨hv, ?_⟩
      exact ⟨fun (q2 : M.1 51 0 (cl (nI k)) = t) => hK _ _ _ _ _ (hyes (Or.inl ⟨Decidable.not_not.mp q, q2⟩)), fun (q2 : ¬ M.1 51 0 (cl (nI k)) = t) => hK _ _ _ _ _ (h30 (fun z => q2 z.2))⟩
  exact hK _ _ _ _ _ (go_bus (key g 0 (by omega) h) ⟨rfl, rfl, rfl, rfl, trivial⟩)
theorem go_writes {x p m : Int32} {e : Nat} (he : M.1 44 0 36 = nI e) (he2 : e ≤ 300) (h : Q rV (mk (mWr M x p m))) : Gm Γ M_X7_writes [vr 44 0, vi x, vi p, vi m] (mk M) Q := by
  refine gm_step [] 60 ?_; intro G K hG hK
  unfold mWr at h
  refine ⟨fun (g : m = 0) => ?_, fun (g : ¬ m = 0) => ?_⟩
  · rw [if_pos g] at h; exact h
  rw [if_neg g] at h
  refine ⟨fun (g2 : ¬ M.1 44 0 36 = 300) => ?_, fun (g2 : ¬ ¬ M.1 44 0 36 = 300) => ?_⟩
  · rw [if_neg g2] at h
    rw [he, show (300 : Int32) = nI 300 from rfl, nI_eq (by omega) (by omega)] at g2
    have hv : vp_in (M.1 44 0 36) 300 := by rw [he]; exact vp_in_nI (by omega) (by decide)
    exact ⟨hv, hv, hv, hv, h⟩
  · rw [if_pos (Decidable.not_not.mp g2)] at h; exact h
theorem WM.wr {x p m : Int32} (h : WM ns nc M) : WM ns nc (mWr M x p m) := by
  unfold mWr; split
  · exact h
  · split
    · exact h
    · rename_i g
      obtain ⟨e, he, e1⟩ := h.en
      rw [e1, show (300 : Int32) = nI 300 from rfl, nI_eq (by omega) (by omega)] at g
      have hW : WM ns nc (uI (uI (uI (uI M 72 0 (cl (M.1 44 0 36)) x) 73 0 (cl (M.1 44 0 36)) p) 74 0 (cl (M.1 44 0 36)) (M.1 44 0 1)) 75 0 (cl (M.1 44 0 36)) m) := h.of (fun t k hk => by unfold pWM at hk; simp only [uI_1]; rw [if_neg (by omega), if_neg (by omega), if_neg (by omega), if_neg (by omega)])
      refine ⟨hW.1, ⟨hW.n7, hW.n26⟩, ⟨hW.ng, e + 1, by omega, ?_⟩, hW.2.2.2.1, hW.2.2.2.2.1, hW.2.2.2.2.2.1, hW.2.2.2.2.2.2⟩
      show M.1 44 0 36 + 1 = _
      rw [e1, nI_1]
theorem go_travels225 {x : Int32} (hx : vp_in x 12) (h : Q rV (mk (mGo x M))) {l2 l3 l4 : MV} : Go Γ M_X7_travels 201 [(1, vi x), (0, vr 44 0)] [] (mk M) (0, 0) Q := by
  refine go_step [] 60 ?_; intro G K hG hK
  unfold mGo at h
  refine ⟨hx, ?_⟩
  refine ⟨fun (g : ¬ M.1 55 0 (cl x) = 0) => ?_, fun (g : ¬ ¬ M.1 55 0 (cl x) = 0) => ?_⟩
  · rw [if_neg g] at h
    refine ⟨hx, hx, hx, ?_⟩
    refine br_of (P' := M.1 61 0 (cl x) - 1 ≤ 0) (by show up3 _ 61 0 (cl x) _ 61 0 (cl x) ≤ 0 ↔ _; rw [up3_self]; exact Iff.rfl) (fun g2 => ?_) (fun g2 => ?_)
    · rw [if_pos g2] at h
      exact ⟨hx, hx, h⟩
    · rw [if_neg g2] at h; exact h
  · rw [if_pos (Decidable.not_not.mp g)] at h
    exact ⟨hx, hx, h⟩
theorem go_travels143 {x g : Int32} (hW : WM ns nc M) (hc : c < nc) (hx : x = nI c) (h : Q rV (mk (mGo x (mLoss x M g)))) : Go Γ M_X7_travels 143 [(4, vi g), (1, vi x), (0, vr 44 0)] [] (mk M) (0, 0) Q := by
  have hlc := hW.lc
  obtain ⟨e, he, e1⟩ := hW.en
  have hv : vp_in x 12 := in12 (by omega) hx
  obtain ⟨v0, -⟩ := v108 (c := c) (k := 0) (x := x) (y := 0) (by omega) (by decide) hx rfl
  have e0 : (9 : Int32) * x + 0 = 9 * x := Int32.add_zero _
  rw [e0] at v0
  obtain ⟨v7, -⟩ := v108 (c := c) (k := 7) (x := x) (y := 7) (by omega) (by decide) hx rfl
  obtain ⟨v8, -⟩ := v108 (c := c) (k := 8) (x := x) (y := 8) (by omega) (by decide) hx rfl
  refine go_step [201] 60 ?_; intro G K hG hK
  unfold mLoss at h
  refine ⟨v0, ?_⟩
  refine ⟨fun (g1 : M.1 70 0 (cl (9 * x)) ≤ 0) => ?_, fun (g1 : ¬ M.1 70 0 (cl (9 * x)) ≤ 0) => ?_⟩
  · rw [if_pos g1] at h
    exact hK _ _ _ _ _ (go_bus (go_travels225 hv h (l2 := vi 0) (l3 := vi 0) (l4 := vi 0)) ⟨rfl, rfl, trivial⟩)
  rw [if_neg g1] at h
  refine ⟨v7, ?_⟩
  refine ⟨fun (g2 : M.1 70 0 (cl (9 * x + 7)) < 0) => ?_, fun (g2 : ¬ M.1 70 0 (cl (9 * x + 7)) < 0) => ?_⟩
  · rw [if_pos g2] at h
    exact hK _ _ _ _ _ (go_bus (go_travels225 hv h (l2 := vi 0) (l3 := vi 0) (l4 := vi 0)) ⟨rfl, rfl, trivial⟩)
  rw [if_neg g2] at h
  refine ⟨v7, v8, ?_⟩
  refine hG _ _ _ _ (go_writes e1 he ?_)
  exact hK _ _ _ _ _ (go_bus (go_travels225 hv h (l2 := vi 0) (l3 := vi 0) (l4 := vi 0)) ⟨rfl, rfl, trivial⟩)
theorem WM.u {t i k : Nat} {x : Int32} (h : WM ns nc M) (hp : ∀ k, ¬ pWM t k) : WM ns nc (uI M t i k x) := h.of (fun a b hk => by rw [uI_1, if_neg (fun e => hp b (by rw [← e.1]; exact hk))])
theorem WM.j {t i k : Nat} {x : Int64} (h : WM ns nc M) : WM ns nc (uJ M t i k x) := h
theorem WM.trA {x : Int32} (h : WM ns nc M) : WM ns nc (mTrA x M) := ((h.u (fun k => by unfold pWM; omega)).u (fun k => by unfold pWM; omega)).j
theorem WM.trC {x g : Int32} (h : WM ns nc M) : WM ns nc (mTrC x M g) := ((h.u (fun k => by unfold pWM; omega)).j).u (fun k => by unfold pWM; omega)
theorem WM.loss {x g : Int32} (h : WM ns nc M) : WM ns nc (mLoss x M g) := by
  unfold mLoss; split
  · exact h
  · split
    · exact h
    · exact h.wr
theorem WM.go {x : Int32} (h : WM ns nc M) : WM ns nc (mGo x M) := by
  unfold mGo; split
  · exact (h.u (fun k => by unfold pWM; omega)).u (fun k => by unfold pWM; omega)
  · split
    · exact ((h.u (fun k => by unfold pWM; omega)).u (fun k => by unfold pWM; omega)).u (fun k => by unfold pWM; omega)
    · exact h.u (fun k => by unfold pWM; omega)
theorem WM.travel {x : Int32} (h : WM ns nc M) : WM ns nc (mTravel x M) := by
  unfold mTravel mTrD; split
  · exact h.trA.go
  · exact h.trA.trC.loss.go
theorem go_travels {x : Int32} (hW : WM ns nc M) (hc : c < nc) (hx : x = nI c) (h : Q rV (mk (mTravel x M))) : Gm Γ M_X7_travels [vr 44 0, vi x] (mk M) Q := by
  have hlc := hW.lc
  have hv : vp_in x 12 := in12 (by omega) hx
  have ec : cl x = c := by rw [hx]; exact nI_clamp (by omega)
  have vs : ∀ k : Int32, k = 3 ∨ k = 2 → vp_in k 5 := fun k hk => by rcases hk with rfl | rfl <;> (unfold vp_in; decide)
  obtain ⟨s1, hs1, w1⟩ := hW.fr hc
  obtain ⟨s2, hs2, w2⟩ := hW.at hc
  have hls := hW.ls
  obtain ⟨vl, -⟩ := v144 (c := s1) (k := s2) (x := M.1 60 0 (cl x)) (y := M.1 59 0 (cl x)) hs1 (by omega) (by rw [ec]; exact w1) (by rw [ec]; exact w2)
  unfold mTravel mTrD at h
  refine gm_step [143, 201] 200 ?_; intro G K hG hK
  refine ⟨hv, hv, hv, hv, hv, by decide, hv, hv, vs _ (Or.inl rfl), vs _ (Or.inl rfl), hv, hv, ?_⟩
  have eo : up3 (up3 M.1 57 0 (cl x) (mx0 (M.1 57 0 (cl x) - M.1 55 0 (cl x)))) 55 0 (cl x) (M.1 55 0 (cl x) - mDied M x) 55 0 (cl x) = M.1 55 0 (cl x) - mDied M x := up3_self
  refine ⟨fun (g : mOver (mTrA x M) x ≤ 0) => ?_, fun (g : ¬ mOver (mTrA x M) x ≤ 0) => ?_⟩
  · rw [if_pos g] at h
    exact hK _ _ _ _ _ (go_bus (go_travels225 (M := mTrA x M) hv h (l2 := vi 0) (l3 := vi 0) (l4 := vi 0)) ⟨rfl, rfl, trivial⟩)
  · rw [if_neg g] at h
    refine ⟨hv, hv, vs _ (Or.inr rfl), vs _ (Or.inr rfl), hv, hv, vl, vl, ?_⟩
    exact hK _ _ _ _ _ (go_bus (go_travels143 (M := mTrC x (mTrA x M) (mOver (mTrA x M) x)) (c := c) hW.trA.trC hc hx h) ⟨rfl, rfl, rfl, trivial⟩)
end MDAY
