/-! The reference: what an order does. -/
def mAllS (M : MM) (x : Int32) : Nat → Int32
  | 0 => 0
  | k + 1 => mAllS M x k + M.1 70 0 (cl (9 * x + 4 + nI k))
def mRst (M : MM) (x m a : Int32) : Nat → Int32
  | 0 => m
  | k + 1 => mRst M x m a k - m * M.1 70 0 (cl (9 * x + 4 + nI k)) / a
def mPay1 (x m a r : Int32) (k : Nat) (M : MM) : MM := mWr M x (M.1 70 0 (cl (9 * x + 1 + nI k))) (m * M.1 70 0 (cl (9 * x + 4 + nI k)) / a + (if nI k = 0 then r else 0))
def mPayN (M : MM) (x m : Int32) (n : Nat) : MM := rep (mPay1 x m (mAllS M x n) (mRst M x m (mAllS M x n) n)) n M
def mPays (M : MM) (x m : Int32) : MM := if M.1 70 0 (cl (9 * x)) = 0 then mWr M x 0 m else mPayN M x m (cl (M.1 70 0 (cl (9 * x))))
def mInc (s : Int32) (M : MM) : MM := uI M 49 0 (cl s) (M.1 49 0 (cl s) + 1)
def mIncs (s : Int32) (k : Nat) (M : MM) : MM := rep (fun _ => mInc s) k M
def mMon (M : MM) (s : Int32) : Nat → Int32
  | 0 => 0
  | k + 1 => mMon M s k + mPrice (mIncs s k M) s
def mSellM (x n : Int32) (M : MM) : MM :=
  uJ (uJ (uI (mIncs (M.1 59 0 (cl x)) (cl (mn n (M.1 56 0 (cl x)))) M) 56 0 (cl x) ((mIncs (M.1 59 0 (cl x)) (cl (mn n (M.1 56 0 (cl x)))) M).1 56 0 (cl x) - mn n (M.1 56 0 (cl x)))) 79 0 1 ((mIncs (M.1 59 0 (cl x)) (cl (mn n (M.1 56 0 (cl x)))) M).2 79 0 1 + (mn n (M.1 56 0 (cl x))).toInt64)) 79 0 4 ((mIncs (M.1 59 0 (cl x)) (cl (mn n (M.1 56 0 (cl x)))) M).2 79 0 4 + (mMon M (M.1 59 0 (cl x)) (cl (mn n (M.1 56 0 (cl x))))).toInt64)
def mSell (x n : Int32) (M : MM) : MM := if mMon M (M.1 59 0 (cl x)) (cl (mn n (M.1 56 0 (cl x)))) ≤ 0 then mSellM x n M else mPays (mSellM x n M) x (mMon M (M.1 59 0 (cl x)) (cl (mn n (M.1 56 0 (cl x)))))
def mCp1 (x : Int32) (k : Nat) (M : MM) : MM := uI M 70 0 (cl (9 * x + nI k)) (M.1 69 0 (cl (9 * x + nI k)))
def mGo3 (x n : Int32) (M : MM) : MM := uI (uI (uI M 58 0 (cl x) 1) 60 0 (cl x) (M.1 59 0 (cl x))) 59 0 (cl x) n
def mGoA (g : Nat) (x n : Int32) (M : MM) : MM := rep (mCp1 x) 9 (uI (mGo3 x n M) 61 0 (cl x) (mWayF (mGo3 x n M) (M.1 59 0 (cl x)) n g 0))
def mLoad (x n : Int32) (M : MM) : MM := uJ (uI M 56 0 (cl x) (M.1 56 0 (cl x) + mn n (4 * M.1 55 0 (cl x) - M.1 56 0 (cl x)))) 79 0 0 (M.2 79 0 0 + (mn n (4 * M.1 55 0 (cl x) - M.1 56 0 (cl x))).toInt64)
def mActs (ns g : Nat) (x a n : Int32) (M : MM) : MM :=
  if a = 0 ∧ (0 ≤ n ∧ n < nI ns) ∧ ¬ n = M.1 59 0 (cl x) ∧ ¬ mWayF M (M.1 59 0 (cl x)) n g 0 ≤ 0 then mGoA g x n M
  else if a = 1 ∧ M.1 45 0 (cl (M.1 59 0 (cl x))) = 1 then mLoad x n M
  else if a = 2 ∧ M.1 45 0 (cl (M.1 59 0 (cl x))) = 3 then mSell x n M else M
section MACT
variable {Γ : GG} {M : MM} {Q : Out → Mem → Prop} {c ns nc n p : Nat} {σ : Mem}
theorem v9a {a k : Nat} {x : Int32} (hc : c < 12) (hx : x = nI c) (hk : a + k < 9) : vp_in (9 * x + nI a + nI k) 108 ∧ cl (9 * x + nI a + nI k) = 9 * c + a + k := by
  subst hx
  rw [show (9 : Int32) = nI 9 from rfl, pk_mul, nI_add, nI_add]
  exact ⟨vp_in_nI (by omega) (by decide), nI_clamp (by omega)⟩
theorem mAllS_eq {x : Int32} (hc : c < 12) (hx : x = nI c) : ∀ n, n ≤ 3 → mAllS M x n = sumD (M.1 70 0) (9 * c) n
  | 0, _ => rfl
  | n + 1, hn => by
    unfold mAllS sumD
    rw [mAllS_eq hc hx n (by omega), show (4 : Int32) = nI 4 from rfl, (v9a hc hx (by omega)).2]
theorem WM.pay1 {x m a r : Int32} {k : Nat} (h : WM ns nc M) : WM ns nc (mPay1 x m a r k M) := h.wr
def pMW (t k : Nat) : Prop := t = 72 ∨ t = 73 ∨ t = 74 ∨ t = 75 ∨ (t = 44 ∧ k = 36)
theorem fr_mWr (M : MM) (x p m : Int32) : Fr pMW M (mWr M x p m) := by
  unfold mWr; split
  · exact Fr.rfl'
  · split
    · exact Fr.rfl'
    · exact ((((Fr.u (by unfold pMW; omega)).trans (Fr.u (by unfold pMW; omega))).trans (Fr.u (by unfold pMW; omega))).trans (Fr.u (by unfold pMW; omega))).trans (Fr.u (by unfold pMW; omega))
theorem fr_mPay1 (x m a r : Int32) (k : Nat) (M : MM) : Fr pMW M (mPay1 x m a r k M) := fr_mWr _ _ _ _
theorem go_pays {x m : Int32} (hW : WM ns nc M) (hc : c < nc) (hx : x = nI c) (h : Q rV (mk (mPays M x m))) : Gm Γ M_X7_pays [vr 44 0, vi x, vi m] (mk M) Q := by
  have hlc := hW.lc
  have hc12 : c < 12 := by omega
  obtain ⟨e, he, e1⟩ := hW.en
  obtain ⟨n, hn, en, hne⟩ := hW.dk hc
  obtain ⟨v0, c0⟩ := v108 (c := c) (k := 0) (x := x) (y := 0) (by omega) (by decide) hx rfl
  have e0 : (9 : Int32) * x + 0 = 9 * x := Int32.add_zero _
  rw [e0] at v0 c0
  have en' : M.1 70 0 (cl (9 * x)) = nI n := by rw [c0]; exact en
  have v4 : ∀ k, k < 3 → vp_in (9 * x + 4 + nI k) 108 := fun k hk => (v9a (a := 4) hc12 hx (by omega)).1
  have v1 : ∀ k, k < 3 → vp_in (9 * x + 1 + nI k) 108 := fun k hk => (v9a (a := 1) hc12 hx (by omega)).1
  refine gm_step [28] 60 ?_; intro G K hG hK
  unfold mPays at h
  refine ⟨v0, ?_⟩
  refine ⟨fun (g : ¬ M.1 70 0 (cl (9 * x)) = 0) => ?_, fun (g : ¬ ¬ M.1 70 0 (cl (9 * x)) = 0) => ?_⟩
  rotate_left
  · rw [if_pos (Decidable.not_not.mp g)] at h
    refine hG _ _ _ _ (go_writes e1 he ?_)
    exact h
  rw [if_neg g, show cl (M.1 70 0 (cl (9 * x))) = n from by rw [en']; exact nI_clamp (by omega)] at h
  have hn0 : n ≠ 0 := fun q => g (by rw [en', q]; rfl)
  have ha : ¬ mAllS M x n = 0 := by rw [mAllS_eq hc12 hx n hn]; exact hne hn0
  refine hK _ _ _ _ _ (go_bus (lv' := [(5, vi (nI 0)), (4, vi (mAllS M x 0)), (3, vi (9 * x)), (2, vi m), (1, vi x), (0, vr 44 0)]) ?_ ⟨rfl, rfl, rfl, rfl, rfl, rfl, trivial⟩)
  refine loop_up (P := fun i => Go Γ M_X7_pays 28 [(5, vi (nI i)), (4, vi (mAllS M x i)), (3, vi (9 * x)), (2, vi m), (1, vi x), (0, vr 44 0)] [] (mk M) (0, 0) Q) (n := n) (fun i hi ih => ?_) ?_
  · refine go_step [28] 60 ?_; intro G K hG hK
    refine ⟨v0, ?_⟩
    refine ⟨fun (g : M.1 70 0 (cl (9 * x)) ≤ nI i) => ?_, fun _ => ?_⟩
    · rw [en'] at g; exact absurd g (nI_ge hi (by omega))
    refine ⟨v4 i (by omega), ?_⟩
    exact hK _ _ _ _ _ (go_bus ih ⟨lvi (nI_1 i), rfl, rfl, rfl, rfl, rfl, trivial⟩)
  unfold mPayN at h
  generalize mAllS M x n = a at h ha ⊢
  refine go_step [67] 60 ?_; intro G K hG hK
  refine ⟨v0, ?_⟩
  refine ⟨fun _ => ?_, fun (g : ¬ M.1 70 0 (cl (9 * x)) ≤ nI n) => ?_⟩
  rotate_left
  · rw [en'] at g; exact absurd (Int32.le_refl _) g
  refine hK _ _ _ _ _ (go_bus (lv' := [(6, vi (nI 0)), (5, vi (mRst M x m a 0)), (4, vi a), (3, vi (9 * x)), (2, vi m), (1, vi x), (0, vr 44 0)]) ?_ ⟨rfl, rfl, rfl, rfl, rfl, rfl, rfl, trivial⟩)
  refine loop_up (P := fun i => Go Γ M_X7_pays 67 [(6, vi (nI i)), (5, vi (mRst M x m a i)), (4, vi a), (3, vi (9 * x)), (2, vi m), (1, vi x), (0, vr 44 0)] [] (mk M) (0, 0) Q) (n := n) (fun i hi ih => ?_) ?_
  · refine go_step [67] 60 ?_; intro G K hG hK
    refine ⟨v0, ?_⟩
    refine ⟨fun (g : M.1 70 0 (cl (9 * x)) ≤ nI i) => ?_, fun _ => ?_⟩
    · rw [en'] at g; exact absurd g (nI_ge hi (by omega))
    refine ⟨v4 i (by omega), ha, ?_⟩
    exact hK _ _ _ _ _ (go_bus ih ⟨lvi (nI_1 i), rfl, rfl, rfl, rfl, rfl, rfl, trivial⟩)
  generalize mRst M x m a n = r at h ⊢
  refine go_step [108] 60 ?_; intro G K hG hK
  refine ⟨v0, ?_⟩
  refine ⟨fun _ => ?_, fun (g : ¬ M.1 70 0 (cl (9 * x)) ≤ nI n) => ?_⟩
  rotate_left
  · rw [en'] at g; exact absurd (Int32.le_refl _) g
  refine hK _ _ _ _ _ (go_bus (lv' := [(6, vi (nI 0)), (5, vi r), (4, vi a), (3, vi (9 * x)), (2, vi m), (1, vi x), (0, vr 44 0)]) ?_ ⟨rfl, rfl, rfl, rfl, rfl, rfl, rfl, trivial⟩)
  refine loop_up (P := fun i => Go Γ M_X7_pays 108 [(6, vi (nI i)), (5, vi r), (4, vi a), (3, vi (9 * x)), (2, vi m), (1, vi x), (0, vr 44 0)] [] (mk (rep (mPay1 x m a r) i M)) (0, 0) Q) (n := n) (fun i hi ih => ?_) ?_
  · have hW' : WM ns nc (rep (mPay1 x m a r) i M) := rep_WM hW (fun _ _ _ h => h.pay1)
    have en2 : (rep (mPay1 x m a r) i M).1 70 0 (cl (9 * x)) = nI n := ((Fr.rep (fr_mPay1 x m a r) i M).2 70 0 _ (by unfold pMW; omega)).trans en'
    have ih : Go Γ M_X7_pays 108 [(6, vi (nI (i + 1))), (5, vi r), (4, vi a), (3, vi (9 * x)), (2, vi m), (1, vi x), (0, vr 44 0)] [] (mk (mPay1 x m a r i (rep (mPay1 x m a r) i M))) (0, 0) Q := ih
    generalize rep (mPay1 x m a r) i M = A at ih hW' en2 ⊢
    obtain ⟨e', he', e1'⟩ := hW'.en
    unfold mPay1 at ih
    refine go_step [108] 60 ?_; intro G K hG hK
    refine ⟨v0, ?_⟩
    refine ⟨fun (g : A.1 70 0 (cl (9 * x)) ≤ nI i) => ?_, fun _ => ?_⟩
    · rw [en2] at g; exact absurd g (nI_ge hi (by omega))
    refine ⟨v1 i (by omega), v4 i (by omega), ha, ?_⟩
    refine ⟨fun (g : ¬ nI i = 0) => ?_, fun (g : ¬ ¬ nI i = 0) => ?_⟩
    · rw [if_neg g] at ih
      refine hG _ _ _ _ (go_writes e1' he' ?_)
      exact hK _ _ _ _ _ (go_bus ih ⟨lvi (nI_1 i), rfl, rfl, rfl, rfl, rfl, rfl, trivial⟩)
    · rw [if_pos (Decidable.not_not.mp g)] at ih
      refine hG _ _ _ _ (go_writes e1' he' ?_)
      exact hK _ _ _ _ _ (go_bus ih ⟨lvi (nI_1 i), rfl, rfl, rfl, rfl, rfl, rfl, trivial⟩)
  · have en2 : (rep (mPay1 x m a r) n M).1 70 0 (cl (9 * x)) = nI n := ((Fr.rep (fr_mPay1 x m a r) n M).2 70 0 _ (by unfold pMW; omega)).trans en'
    refine go_step [108] 60 ?_; intro G K hG hK
    refine ⟨v0, ?_⟩
    refine ⟨fun _ => h, fun (g : ¬ (rep (mPay1 x m a r) n M).1 70 0 (cl (9 * x)) ≤ nI n) => ?_⟩
    rw [en2] at g; exact absurd (Int32.le_refl _) g
theorem WM.pays {x m : Int32} (h : WM ns nc M) : WM ns nc (mPays M x m) := by
  unfold mPays; split
  · exact h.wr
  · exact rep_WM h (fun _ _ _ h => h.pay1)
theorem WM.inc {s : Int32} (h : WM ns nc M) : WM ns nc (mInc s M) := h.u (fun k => by unfold pWM; omega)
theorem WM.incs {s : Int32} (h : WM ns nc M) (k : Nat) : WM ns nc (mIncs s k M) := rep_WM h (fun _ _ _ h => h.inc)
theorem WM.sellM {x n : Int32} (h : WM ns nc M) : WM ns nc (mSellM x n M) := (((h.incs _).u (fun k => by unfold pWM; omega)).j).j
theorem WM.sell {x n : Int32} (h : WM ns nc M) : WM ns nc (mSell x n M) := by
  unfold mSell; split
  · exact h.sellM
  · exact h.sellM.pays
theorem cl_many {m : Int32} : (m ≤ 0 ∧ cl m = 0) ∨ m = nI (cl m) ∧ cl m < 2 ^ 31 := by
  by_cases h : m < 0
  · left
    refine ⟨Int32.le_of_lt h, ?_⟩
    have := Int32.lt_iff_toInt_lt.mp h
    show m.toInt.toNat = 0
    have e : (0 : Int32).toInt = 0 := rfl
    omega
  · right
    obtain ⟨j, hj, rfl⟩ := nI_of h
    have e : cl (nI j) = j := nI_clamp hj
    rw [e]; exact ⟨rfl, hj⟩
theorem go_sells {x n : Int32} (hW : WM ns nc M) (hc : c < nc) (hx : x = nI c) (h3 : M.1 45 0 (cl (M.1 59 0 (cl x))) = 3) (h : Q rV (mk (mSell x n M))) : Gm Γ M_X7_sells [vr 44 0, vi x, vi n] (mk M) Q := by
  have hlc := hW.lc
  have hls := hW.ls
  have hv : vp_in x 12 := in12 (by omega) hx
  have ec : cl x = c := by rw [hx]; exact nI_clamp (by omega)
  have hs : vp_in (M.1 59 0 (cl x)) 12 ∧ cl (M.1 59 0 (cl x)) < ns := by rw [ec]; exact hW.iv hc
  have hb : ¬ M.1 47 0 (cl (M.1 59 0 (cl x))) = 0 := hW.b0 hs.2 h3
  have f47 : ∀ k, (mIncs (M.1 59 0 (cl x)) k M).1 47 0 (cl (M.1 59 0 (cl x))) = M.1 47 0 (cl (M.1 59 0 (cl x))) := fun k => (Fr.rep (P := fun t _ => t = 49) (f := fun _ => mInc (M.1 59 0 (cl x))) (fun _ _ => Fr.u rfl) k M).2 47 0 _ (by omega)
  have key : ∀ (s m : Int32), vp_in s 12 → (∀ k, ¬ (mIncs s k M).1 47 0 (cl s) = 0) →
      (∀ k, k = cl m → Go Γ M_X7_sells 58 [(5, vi (mMon M s k)), (4, vi m), (3, vi s), (2, vi n), (1, vi x), (0, vr 44 0)] [] (mk (mIncs s k M)) (0, 0) Q) →
      Go Γ M_X7_sells 25 [(6, vi (nI 0)), (5, vi (mMon M s 0)), (4, vi m), (3, vi s), (2, vi n), (1, vi x), (0, vr 44 0)] [] (mk (mIncs s 0 M)) (0, 0) Q := by
    intro s m hs hb hend
    refine loop_up (P := fun k => Go Γ M_X7_sells 25 [(6, vi (nI k)), (5, vi (mMon M s k)), (4, vi m), (3, vi s), (2, vi n), (1, vi x), (0, vr 44 0)] [] (mk (mIncs s k M)) (0, 0) Q) (n := cl m) (fun k hk ih => ?_) ?_
    · have hm : m = nI (cl m) ∧ cl m < 2 ^ 31 := by
        rcases cl_many (m := m) with q | q
        · omega
        · exact q
      have ih : Go Γ M_X7_sells 25 [(6, vi (nI (k + 1))), (5, vi (mMon M s k + mPrice (mIncs s k M) s)), (4, vi m), (3, vi s), (2, vi n), (1, vi x), (0, vr 44 0)] [] (mk (mInc s (mIncs s k M))) (0, 0) Q := ih
      have hb := hb k
      generalize mIncs s k M = A at ih hb ⊢
      refine go_step [25] 60 ?_; intro G K hG hK
      refine ⟨fun (g : m ≤ nI k) => ?_, fun _ => ?_⟩
      · rw [hm.1] at g; exact absurd g (nI_ge hk hm.2)
      refine hG _ _ _ _ (gm_priceOf hs hb ?_)
      refine ⟨hs, hs, ?_⟩
      exact hK _ _ _ _ _ (go_bus ih ⟨lvi (nI_1 k), rfl, rfl, rfl, rfl, rfl, rfl, trivial⟩)
    · have hend := hend _ rfl
      refine go_step [58] 60 ?_; intro G K hG hK
      refine ⟨fun _ => hK _ _ _ _ _ (go_bus hend ⟨rfl, rfl, rfl, rfl, rfl, rfl, trivial⟩), fun (g : ¬ m ≤ nI (cl m)) => ?_⟩
      rcases cl_many (m := m) with ⟨q1, q2⟩ | ⟨q1, q2⟩
      · rw [q2] at g; exact absurd q1 g
      · rw [← q1] at g; exact absurd (Int32.le_refl _) g
  have vsm : ∀ k : Int32, k = 1 ∨ k = 4 → vp_in k 5 := fun k hk => by rcases hk with rfl | rfl <;> (unfold vp_in; decide)
  refine gm_step [25] 60 ?_; intro G K hG hK
  refine ⟨hv, hv, ?_⟩
  refine hK _ _ _ _ _ (go_bus (key (M.1 59 0 (cl x)) (mn n (M.1 56 0 (cl x))) hs.1 (fun k => by rw [f47]; exact hb) (fun k hk => ?_)) ⟨rfl, rfl, rfl, rfl, rfl, rfl, rfl, trivial⟩)
  unfold mSell at h
  have hWB : WM ns nc (mSellM x n M) := hW.sellM
  subst hk
  refine go_step [] 60 ?_; intro G K hG hK
  refine ⟨hv, hv, vsm _ (Or.inl rfl), vsm _ (Or.inl rfl), vsm _ (Or.inr rfl), vsm _ (Or.inr rfl), ?_⟩
  refine ⟨fun (g : mMon M (M.1 59 0 (cl x)) (cl (mn n (M.1 56 0 (cl x)))) ≤ 0) => ?_, fun (g : ¬ mMon M (M.1 59 0 (cl x)) (cl (mn n (M.1 56 0 (cl x)))) ≤ 0) => ?_⟩
  · rw [if_pos g] at h; exact h
  · rw [if_neg g] at h
    refine hG _ _ _ _ (go_pays (M := mSellM x n M) hWB hc hx ?_)
    exact h
def mHoldsB (ns : Nat) (M : MM) (x o : Int32) : Bool :=
  if 0 ≤ M.1 67 0 (cl (o + 2)) then
    if 0 ≤ M.1 67 0 (cl (o + 2)) ∧ M.1 67 0 (cl (o + 2)) < nI ns then
      if 0 ≤ M.1 66 0 (cl (12 * x + M.1 67 0 (cl (o + 2)))) then
        if M.1 67 0 (cl (o + 4)) = 1 then decide (M.1 67 0 (cl (o + 3)) < M.1 65 0 (cl (12 * x + M.1 67 0 (cl (o + 2))))) else decide (M.1 65 0 (cl (12 * x + M.1 67 0 (cl (o + 2)))) < M.1 67 0 (cl (o + 3)))
      else false
    else false
  else true
theorem go_mholds {x o : Int32} {q : Nat} (hW : WM ns nc M) (hc : c < nc) (hx : x = nI c) (ho : o = nI q) (hq : q + 5 ≤ 780) (h : Q (rI (b32 (mHoldsB ns M x o = true))) (mk M)) : Gm Γ M_X7_holds [vr 44 0, vi x, vi o] (mk M) Q := by
  have hlc := hW.lc
  have hls := hW.ls
  have vo : ∀ k, k < 5 → vp_in (o + nI k) 780 := fun k hk => by rw [ho, nI_add]; exact vp_in_nI (by omega) (by decide)
  refine gm_step [] 60 ?_; intro G K hG hK
  refine ⟨vo 2 (by decide), ?_⟩
  refine ⟨fun (g : 0 ≤ M.1 67 0 (cl (o + 2))) => ?_, fun (g : ¬ 0 ≤ M.1 67 0 (cl (o + 2))) => rb_t (by unfold mHoldsB; rw [if_neg g]) h⟩
  refine hG _ _ _ _ (gm_noStation (x := M.1 67 0 (cl (o + 2))) hW.n7 hls ?_)
  refine br_n (fun g2 => rb_f (by unfold mHoldsB; rw [if_pos g, if_neg g2]; decide) h) (fun g2 => ?_)
  have g2 := Decidable.not_not.mp g2
  obtain ⟨-, l1, e1⟩ := in_of hls g2.1 g2.2
  obtain ⟨v1, -⟩ := v144 (c := c) (k := cl (M.1 67 0 (cl (o + 2)))) (x := x) (y := M.1 67 0 (cl (o + 2))) (by omega) (by omega) hx e1
  refine ⟨v1, ?_⟩
  refine ⟨fun (g3 : 0 ≤ M.1 66 0 (cl (12 * x + M.1 67 0 (cl (o + 2))))) => ?_, fun (g3 : ¬ 0 ≤ M.1 66 0 (cl (12 * x + M.1 67 0 (cl (o + 2))))) => rb_f (by unfold mHoldsB; rw [if_pos g, if_pos g2, if_neg g3]; decide) h⟩
  refine ⟨v1, vo 4 (by decide), ?_⟩
  have e : mHoldsB ns M x o = if M.1 67 0 (cl (o + 4)) = 1 then decide (M.1 67 0 (cl (o + 3)) < M.1 65 0 (cl (12 * x + M.1 67 0 (cl (o + 2))))) else decide (M.1 65 0 (cl (12 * x + M.1 67 0 (cl (o + 2)))) < M.1 67 0 (cl (o + 3))) := by unfold mHoldsB; rw [if_pos g, if_pos g2, if_pos g3]
  refine ⟨fun (g4 : ¬ M.1 67 0 (cl (o + 4)) = 1) => ?_, fun (g4 : ¬ ¬ M.1 67 0 (cl (o + 4)) = 1) => ?_⟩
  · rw [if_neg g4] at e
    refine ⟨vo 3 (by decide), ?_⟩
    exact ⟨fun (g5 : M.1 67 0 (cl (o + 3)) ≤ M.1 65 0 (cl (12 * x + M.1 67 0 (cl (o + 2))))) => rb_f (by rw [e, decide_eq_true_iff]; exact Int32.not_lt.mpr g5) h, fun (g5 : ¬ M.1 67 0 (cl (o + 3)) ≤ M.1 65 0 (cl (12 * x + M.1 67 0 (cl (o + 2))))) => rb_t (by rw [e, decide_eq_true_iff]; exact Int32.not_le.mp g5) h⟩
  · rw [if_pos (Decidable.not_not.mp g4)] at e
    refine ⟨vo 3 (by decide), ?_⟩
    exact ⟨fun (g5 : M.1 65 0 (cl (12 * x + M.1 67 0 (cl (o + 2)))) ≤ M.1 67 0 (cl (o + 3))) => rb_f (by rw [e, decide_eq_true_iff]; exact Int32.not_lt.mpr g5) h, fun (g5 : ¬ M.1 65 0 (cl (12 * x + M.1 67 0 (cl (o + 2)))) ≤ M.1 67 0 (cl (o + 3))) => rb_t (by rw [e, decide_eq_true_iff]; exact Int32.not_le.mp g5) h⟩
theorem go_acts114 {x a n s : Int32} (hW : WM ns nc M) (hc : c < nc) (hx : x = nI c) (hs : s = M.1 59 0 (cl x)) (h : Q rV (mk (if a = 1 ∧ M.1 45 0 (cl (M.1 59 0 (cl x))) = 1 then mLoad x n M
  else if a = 2 ∧ M.1 45 0 (cl (M.1 59 0 (cl x))) = 3 then mSell x n M else M))) : Go Γ M_X7_acts 114 [(4, vi s), (3, vi n), (2, vi a), (1, vi x), (0, vr 44 0)] [] (mk M) (0, 0) Q := by
  have hlc := hW.lc
  have hv : vp_in x 12 := in12 (by omega) hx
  have ec : cl x = c := by rw [hx]; exact nI_clamp (by omega)
  subst hs
  have hs : vp_in (M.1 59 0 (cl x)) 12 := by rw [ec]; exact (hW.iv hc).1
  have v0 : vp_in 0 5 := by unfold vp_in; decide
  have h177 : ¬ (a = 1 ∧ M.1 45 0 (cl (M.1 59 0 (cl x))) = 1) → Go Γ M_X7_acts 177 [(4, vi (M.1 59 0 (cl x))), (3, vi n), (2, vi a), (1, vi x), (0, vr 44 0)] [] (mk M) (0, 0) Q := fun q => by
    rw [if_neg q] at h
    refine go_step [] 60 ?_; intro G K hG hK
    refine ⟨fun (g : ¬ a = 2) => ?_, fun (g : ¬ ¬ a = 2) => ?_⟩
    · rw [if_neg (fun z => g z.1)] at h; exact h
    refine ⟨hs, ?_⟩
    refine ⟨fun (g2 : ¬ M.1 45 0 (cl (M.1 59 0 (cl x))) = 3) => ?_, fun (g2 : ¬ ¬ M.1 45 0 (cl (M.1 59 0 (cl x))) = 3) => ?_⟩
    · rw [if_neg (fun z => g2 z.2)] at h; exact h
    · rw [if_pos ⟨Decidable.not_not.mp g, Decidable.not_not.mp g2⟩] at h
      refine hG _ _ _ _ (go_sells hW hc hx (Decidable.not_not.mp g2) ?_)
      exact h
  refine go_step [177] 60 ?_; intro G K hG hK
  refine ⟨fun (g : ¬ a = 1) => hK _ _ _ _ _ (h177 (fun z => g z.1)), fun (g : ¬ ¬ a = 1) => ?_⟩
  refine ⟨hs, ?_⟩
  refine ⟨fun (g2 : ¬ M.1 45 0 (cl (M.1 59 0 (cl x))) = 1) => hK _ _ _ _ _ (h177 (fun z => g2 z.2)), fun (g2 : ¬ ¬ M.1 45 0 (cl (M.1 59 0 (cl x))) = 1) => ?_⟩
  rw [if_pos ⟨Decidable.not_not.mp g, Decidable.not_not.mp g2⟩] at h
  exact ⟨hv, hv, hv, hv, v0, v0, h⟩
theorem go_acts {x a n : Int32} {g : Nat} (hW : WM ns nc M) (hc : c < nc) (hx : x = nI c) (hg : M.1 44 0 11 = nI g) (hg2 : g ≤ 30) (h : Q rV (mk (mActs ns g x a n M))) : Gm Γ M_X7_acts [vr 44 0, vi x, vi a, vi n] (mk M) Q := by
  have hlc := hW.lc
  have hls := hW.ls
  have hv : vp_in x 12 := in12 (by omega) hx
  have ec : cl x = c := by rw [hx]; exact nI_clamp (by omega)
  unfold mActs at h
  have h114 : ¬ (a = 0 ∧ (0 ≤ n ∧ n < nI ns) ∧ ¬ n = M.1 59 0 (cl x) ∧ ¬ mWayF M (M.1 59 0 (cl x)) n g 0 ≤ 0) → Go Γ M_X7_acts 114 [(4, vi (M.1 59 0 (cl x))), (3, vi n), (2, vi a), (1, vi x), (0, vr 44 0)] [] (mk M) (0, 0) Q := fun q => by
    rw [if_neg q] at h
    exact go_acts114 hW hc hx rfl h
  refine gm_step [114, 74] 60 ?_; intro G K hG hK
  refine ⟨hv, ?_⟩
  refine ⟨fun (g1 : ¬ a = 0) => hK _ _ _ _ _ (go_bus (h114 (fun z => g1 z.1)) ⟨rfl, rfl, rfl, rfl, rfl, trivial⟩), fun (g1 : ¬ ¬ a = 0) => ?_⟩
  refine hG _ _ _ _ (gm_noStation (x := n) hW.n7 hls ?_)
  refine br_n (fun g2 => hK _ _ _ _ _ (go_bus (h114 (fun z => g2 z.2.1)) ⟨rfl, rfl, rfl, rfl, rfl, trivial⟩)) (fun g2 => ?_)
  refine ⟨fun (g3 : n = M.1 59 0 (cl x)) => hK _ _ _ _ _ (go_bus (h114 (fun z => z.2.2.1 g3)) ⟨rfl, rfl, rfl, rfl, rfl, trivial⟩), fun (g3 : ¬ n = M.1 59 0 (cl x)) => ?_⟩
  refine hG _ _ _ _ (go_way (f := M.1 59 0 (cl x)) hg hg2 ?_)
  refine ⟨fun (g4 : mWayF M (M.1 59 0 (cl x)) n g 0 ≤ 0) => hK _ _ _ _ _ (go_bus (h114 (fun z => z.2.2.2 g4)) ⟨rfl, rfl, rfl, rfl, rfl, trivial⟩), fun (g4 : ¬ mWayF M (M.1 59 0 (cl x)) n g 0 ≤ 0) => ?_⟩
  rw [if_pos ⟨Decidable.not_not.mp g1, Decidable.not_not.mp g2, g3, g4⟩] at h
  unfold mGoA at h
  refine ⟨hv, hv, hv, ?_⟩
  refine hG _ _ _ _ (go_way (M := mGo3 x n M) (f := M.1 59 0 (cl x)) hg hg2 ?_)
  refine ⟨hv, ?_⟩
  refine hK _ _ _ _ _ (go_bus (lv' := [(5, vi (nI 0)), (1, vi x), (0, vr 44 0)]) ?_ ⟨rfl, rfl, rfl, trivial⟩)
  show Go Γ M_X7_acts 74 _ [] (mk (uI (mGo3 x n M) 61 0 (cl x) (mWayF (mGo3 x n M) (M.1 59 0 (cl x)) n g 0))) (0, 0) Q
  generalize uI (mGo3 x n M) 61 0 (cl x) (mWayF (mGo3 x n M) (M.1 59 0 (cl x)) n g 0) = B at h ⊢
  refine loop_up (P := fun k => Go Γ M_X7_acts 74 [(5, vi (nI k)), (1, vi x), (0, vr 44 0)] [] (mk (rep (mCp1 x) k B)) (0, 0) Q) (n := 9) (fun k hk ih => ?_) ?_
  · have ih : Go Γ M_X7_acts 74 [(5, vi (nI (k + 1))), (1, vi x), (0, vr 44 0)] [] (mk (mCp1 x k (rep (mCp1 x) k B))) (0, 0) Q := ih
    generalize rep (mCp1 x) k B = A at ih ⊢
    obtain ⟨v1, -⟩ := v108 (c := c) (k := k) (x := x) (y := nI k) (by omega) hk hx rfl
    refine go_step [74] 60 ?_; intro G K hG hK
    refine ⟨fun (q : nI 9 ≤ nI k) => absurd q (nI_ge hk (by decide)), fun _ => ?_⟩
    refine ⟨v1, v1, ?_⟩
    exact hK _ _ _ _ _ (go_bus ih ⟨lvi (nI_1 k), rfl, rfl, trivial⟩)
  · refine go_step [] 60 ?_; intro G K hG hK
    exact ⟨fun _ => h, fun (q : ¬ nI 9 ≤ nI 9) => absurd (Int32.le_refl _) q⟩
end MACT
