/-! The law's helpers: what is thrown becomes a number. -/
def oJ (M : MM) (x : Int64) : MM := uJ M 84 0 0 x
section HELP
variable {Γ : GG} {M : MM} {Q : Out → Mem → Prop} {ns nc n : Nat} {b : Nat → Int32}
theorem vo1 : vp_in (0 : Int32) (lenT 84) := vp_in_nI (n := 0) (by decide) (by decide)
theorem gh_station {s a b d : Int32} (hW : WC ns nc M) (h0 : ¬ stOk s a b d → Q (rI 1) (mk M)) (h2 : stOk s a b d → ns = 12 → Q (rI 2) (mk M)) (h : stOk s a b d → ns < 12 → Q (rI 0) (mk (oJ (cStation M ns s a b d) (nI ns).toInt64))) : Gm Γ M_L_station [vr 0 0, vi s, vi a, vi b, vi d, vr 84 0] (mk M) Q := by
  refine gm_step [] 60 ?_; intro G K hG hK
  refine hG _ _ _ _ (go_station hW (fun x => ?_) (fun x y => ?_) (fun x y => ?_))
  · exact h0 x
  · exact h2 x y
  · exact ⟨vo1, h x y⟩
theorem gh_stage {f t d : Int32} (hW : WC ns nc M)
    (h1 : ¬ ((0 ≤ f ∧ f < nI ns) ∧ (0 ≤ t ∧ t < nI ns)) → Q (rI 1) (mk M))
    (h0 : (0 ≤ f ∧ f < nI ns) → (0 ≤ t ∧ t < nI ns) → (f = t ∨ ¬ (1 ≤ d ∧ d ≤ 9)) → Q (rI 2) (mk M))
    (h2 : (0 ≤ f ∧ f < nI ns) → (0 ≤ t ∧ t < nI ns) → ¬ (f = t ∨ ¬ (1 ≤ d ∧ d ≤ 9)) → ¬ M.1 0 0 7 < 30 → Q (rI 3) (mk M))
    (h : (0 ≤ f ∧ f < nI ns) → (0 ≤ t ∧ t < nI ns) → ¬ (f = t ∨ ¬ (1 ≤ d ∧ d ≤ 9)) → M.1 0 0 7 < 30 → Q (rI 0) (mk (oJ (cStage M (cl f) (cl t) d) (M.1 0 0 7 + 1).toInt64))) : Gm Γ M_L_stage [vr 0 0, vi f, vi t, vi d, vr 84 0] (mk M) Q := by
  refine gm_step [] 60 ?_; intro G K hG hK
  refine hG _ _ _ _ (go_stage hW (fun x => ?_) (fun x y z => ?_) (fun x y z w => ?_) (fun x y z w => ?_))
  · exact h1 x
  · exact h0 x y z
  · exact h2 x y z w
  · exact ⟨vo1, h x y z w⟩
theorem gh_caravan {a b w : Int32} (hW : WC ns nc M)
    (h1 : ¬ (0 ≤ w ∧ w < nI ns) → Q (rI 1) (mk M))
    (h0 : (0 ≤ w ∧ w < nI ns) → ¬ ((0 ≤ a ∧ a ≤ 3) ∧ (1 ≤ b ∧ b ≤ 500)) → Q (rI 2) (mk M))
    (h2 : (0 ≤ w ∧ w < nI ns) → ((0 ≤ a ∧ a ≤ 3) ∧ (1 ≤ b ∧ b ≤ 500)) → nc = 12 → Q (rI 3) (mk M))
    (h : (0 ≤ w ∧ w < nI ns) → ((0 ≤ a ∧ a ≤ 3) ∧ (1 ≤ b ∧ b ≤ 500)) → nc < 12 → Q (rI 0) (mk (oJ (cCaravan M nc a b w) (nI nc).toInt64))) : Gm Γ M_L_caravan [vr 0 0, vi a, vi b, vi w, vr 84 0] (mk M) Q := by
  refine gm_step [] 60 ?_; intro G K hG hK
  refine hG _ _ _ _ (go_caravan hW (fun x => ?_) (fun x y => ?_) (fun x y z => ?_) (fun x y z => ?_))
  · exact h1 x
  · exact h0 x y
  · exact h2 x y z
  · exact ⟨vo1, h x y z⟩
theorem gh_orders {i : Int32} (hW : WC ns nc M) (hn : n ≤ 400) (hl : M.1 1 0 1 = nI n) (hb : M.1 2 0 = b)
    (h1 : ∀ M', ¬ (0 ≤ i ∧ i < nI nc) → Fr pScr M M' → Q (rI 1) (mk (uI M' 1 0 1 0)))
    (h0 : ∀ M' e, (0 ≤ i ∧ i < nI nc) → aList b n 12 (sk b n 0) = .error e → Fr pScr M M' → Q (rI 2) (mk (uI (uI M' 1 0 1 0) 0 0 3 (nI e))))
    (h : ∀ M' l, (0 ≤ i ∧ i < nI nc) → aList b n 12 (sk b n 0) = .ok l → Fr pScr M M' → l.length ≤ 12 → M'.1 3 0 0 = nI l.length → (∀ j (hj : j < l.length), rowC M' j l[j]) → Q (rI 0) (mk (oJ (cTakeO (uI (uI M' 1 0 1 0) 0 0 3 (-1)) (cl i)) (nI l.length).toInt64))) : Gm Γ M_L_orders [vr 0 0, vi i, vr 84 0] (mk M) Q := by
  refine gm_step [] 60 ?_; intro G K hG hK
  refine hG _ _ _ _ (go_orders hW hn hl hb (fun M' x y => ?_) (fun M' e x y z => ?_) (fun M' l x y z w u v => ?_))
  · exact h1 M' x y
  · exact h0 M' e x y z
  · exact ⟨vo1, h M' l x y z w u v⟩
theorem gh_contract {i : Int32} (hW : WC ns nc M) (hn : n ≤ 400) (hl : M.1 1 0 1 = nI n) (hb : M.1 2 0 = b)
    (h1 : ∀ M', ¬ (0 ≤ i ∧ i < nI nc) → Fr pScr M M' → Q (rI 1) (mk (uI M' 1 0 1 0)))
    (h0 : ∀ M' e, (0 ≤ i ∧ i < nI nc) → aDeal b n 3 [] (sk b n 0) = .error e → Fr pScr M M' → Q (rI 2) (mk (uI (uI M' 1 0 1 0) 0 0 3 (nI e))))
    (h : ∀ M' l r, (0 ≤ i ∧ i < nI nc) → aDeal b n 3 [] (sk b n 0) = .ok (l, r) → Fr pScr M M' → l.length ≤ 3 → dC M' l → M'.1 9 0 4 = r.1 → (¬ r.1 = -1 → M'.1 9 0 5 = r.2) → Q (rI 0) (mk (oJ (cTold (uI (uI M' 1 0 1 0) 0 0 3 (-1)) (cl i)) (nI l.length).toInt64))) : Gm Γ M_L_contract [vr 0 0, vi i, vr 84 0] (mk M) Q := by
  refine gm_step [] 60 ?_; intro G K hG hK
  refine hG _ _ _ _ (go_contract hW hn hl hb (fun M' x y => ?_) (fun M' e x y z => ?_) (fun M' l r x y z w u v q => ?_))
  · exact h1 M' x y
  · exact h0 M' e x y z
  · exact ⟨vo1, h M' l r x y z w u v q⟩
theorem gh_days {k : Int32} (hW : WC ns nc M) (h0 : ¬ (0 ≤ k ∧ k ≤ 200) → Q (rI 1) (mk M)) (h : ∀ n : Nat, k = nI n → n ≤ 200 → Q (rI 0) (mk (oJ (cDays ns nc n M) ((cDays ns nc n M).1 0 0 13).toInt64))) : Gm Γ M_L_days [vr 0 0, vi k, vr 84 0] (mk M) Q := by
  refine gm_step [] 60 ?_; intro G K hG hK
  by_cases z : 0 ≤ k ∧ k ≤ 200
  · obtain ⟨j, hj, rfl⟩ := nI_of (Int32.not_lt.mpr z.1)
    have hj2 : j ≤ 200 := (nI_leI (b := 200) hj (by decide)).mp z.2
    refine hG _ _ _ _ (go_days hW hj2 ?_)
    exact ⟨vo1, h j rfl hj2⟩
  · refine hG _ _ _ _ (go_days_bad z ?_)
    exact h0 z
theorem gh_look {s x : Int32} (hW : WC ns nc M)
    (h1 : ¬ (0 ≤ s ∧ s < nI ns) → Q (rI 1) (mk M))
    (h3 : (0 ≤ s ∧ s < nI ns) → ¬ x = 0 → ¬ x = 1 → ¬ x = 2 → ¬ x = 3 → Q (rI 2) (mk M))
    (g0 : (0 ≤ s ∧ s < nI ns) → x = 0 → Q (rI 0) (mk (oJ M (M.1 13 (cl s) 0).toInt64)))
    (g1 : (0 ≤ s ∧ s < nI ns) → x = 1 → Q (rI 0) (mk (oJ M (if M.1 13 (cl s) 0 = 2 then M.1 13 (cl s) 4 else cPrice M (cl s)).toInt64)))
    (g2 : (0 ≤ s ∧ s < nI ns) → x = 2 → Q (rI 0) (mk (oJ M (M.1 13 (cl s) 7).toInt64)))
    (g3 : (0 ≤ s ∧ s < nI ns) → x = 3 → Q (rI 0) (mk (oJ M (cAt M s nc).toInt64))) : Gm Γ M_L_look [vr 0 0, vi s, vi x, vr 84 0] (mk M) Q := by
  refine gm_step [] 60 ?_; intro G K hG hK
  refine hG _ _ _ _ (go_look hW (fun x => ?_) (fun x y z w u => ?_) (fun x y => ?_) (fun x y => ?_) (fun x y => ?_) (fun x y => ?_))
  · exact h1 x
  · exact h3 x y z w u
  · exact ⟨vo1, g0 x y⟩
  · exact ⟨vo1, g1 x y⟩
  · exact ⟨vo1, g2 x y⟩
  · exact ⟨vo1, g3 x y⟩
theorem gh_state {i x : Int32} (hW : WC ns nc M)
    (h1 : ¬ (0 ≤ i ∧ i < nI nc) → Q (rI 1) (mk M))
    (h3 : (0 ≤ i ∧ i < nI nc) → stSlot x = none → Q (rI 2) (mk M))
    (h : ∀ k, (0 ≤ i ∧ i < nI nc) → stSlot x = some k → Q (rI 0) (mk (oJ M (M.1 15 (cl i) k).toInt64))) : Gm Γ M_L_state [vr 0 0, vi i, vi x, vr 84 0] (mk M) Q := by
  refine gm_step [] 60 ?_; intro G K hG hK
  refine hG _ _ _ _ (go_state hW (fun x => ?_) (fun x y => ?_) (fun k x y => ?_))
  · exact h1 x
  · exact h3 x y
  · exact ⟨vo1, h k x y⟩
theorem gh_knows {i s x : Int32} (hW : WC ns nc M)
    (h1 : ¬ ((0 ≤ i ∧ i < nI nc) ∧ (0 ≤ s ∧ s < nI ns)) → Q (rI 1) (mk M))
    (h : (0 ≤ i ∧ i < nI nc) → (0 ≤ s ∧ s < nI ns) → Q (rI 0) (mk (oJ M (if x = 0 then M.1 28 (cl i) (cl s) else M.1 29 (cl i) (cl s)).toInt64))) : Gm Γ M_L_knows [vr 0 0, vi i, vi s, vi x, vr 84 0] (mk M) Q := by
  refine gm_step [] 60 ?_; intro G K hG hK
  refine hG _ _ _ _ (go_knows hW (fun x => ?_) (fun x y => ?_))
  · exact h1 x
  · exact ⟨vo1, h x y⟩
theorem gh_lost {f t : Int32} (hW : WC ns nc M)
    (h1 : ¬ ((0 ≤ f ∧ f < nI ns) ∧ (0 ≤ t ∧ t < nI ns)) → Q (rI 1) (mk M))
    (h : (0 ≤ f ∧ f < nI ns) → (0 ≤ t ∧ t < nI ns) → Q (rI 0) (mk (oJ M (M.1 34 (cl f) (cl t)).toInt64))) : Gm Γ M_L_lost [vr 0 0, vi f, vi t, vr 84 0] (mk M) Q := by
  refine gm_step [] 60 ?_; intro G K hG hK
  refine hG _ _ _ _ (go_lost hW (fun x => ?_) (fun x y => ?_))
  · exact h1 x
  · exact ⟨vo1, h x y⟩
theorem gh_entry {e x : Int32} (he : M.1 35 0 0 = nI n) (hn : n ≤ 300)
    (h1 : ¬ (0 ≤ e ∧ e < nI n) → Q (rI 1) (mk M))
    (h3 : (0 ≤ e ∧ e < nI n) → enTag x = none → Q (rI 2) (mk M))
    (h : ∀ t, (0 ≤ e ∧ e < nI n) → enTag x = some t → Q (rI 0) (mk (oJ M (M.1 t 0 (cl e)).toInt64))) : Gm Γ M_L_entry [vr 0 0, vi e, vi x, vr 84 0] (mk M) Q := by
  refine gm_step [] 60 ?_; intro G K hG hK
  refine hG _ _ _ _ (go_entry he hn (fun x => ?_) (fun x y => ?_) (fun t x y => ?_))
  · exact h1 x
  · exact h3 x y
  · exact ⟨vo1, h t x y⟩
theorem gh_correct {e m : Int32} {r : Nat} (he : M.1 35 0 0 = nI n) (hn : n ≤ 300) (hr : M.1 35 0 6 = nI r) (hr2 : r ≤ 100)
    (h1 : ¬ (0 ≤ e ∧ e < nI n) → Q (rI 1) (mk M)) (h0 : (0 ≤ e ∧ e < nI n) → ¬ (mN ≤ m ∧ m ≤ mP) → Q (rI 2) (mk M))
    (hf : (0 ≤ e ∧ e < nI n) → (mN ≤ m ∧ m ≤ mP) → r = 100 → Q (rI 0) (mk (oJ M 0)))
    (h : (0 ≤ e ∧ e < nI n) → (mN ≤ m ∧ m ≤ mP) → r < 100 → Q (rI 0) (mk (oJ (cPut M (cl e) m (M.1 0 0 13)) 1))) : Gm Γ M_L_correct [vr 0 0, vi e, vi m, vr 84 0] (mk M) Q := by
  refine gm_step [] 60 ?_; intro G K hG hK
  refine hG _ _ _ _ (go_correct he hn hr hr2 (fun x => ?_) (fun x y => ?_) (fun x y z => ?_) (fun x y z => ?_))
  · exact h1 x
  · exact h0 x y
  · exact br0z ⟨vo1, hf x y z⟩
  · exact br1z ⟨vo1, h x y z⟩
theorem gh_balance {i p u k : Int32} {r : Nat} (hW : WC ns nc M) (he : M.1 35 0 0 = nI n) (hn : n ≤ 300) (hr : M.1 35 0 6 = nI r) (hr2 : r ≤ 100)
    (h1 : ¬ (0 ≤ i ∧ i < nI nc) → Q (rI 1) (mk M)) (h0 : (0 ≤ i ∧ i < nI nc) → ¬ (0 ≤ p ∧ p ≤ 2) → Q (rI 2) (mk M))
    (h : (0 ≤ i ∧ i < nI nc) → (0 ≤ p ∧ p ≤ 2) → Q (rI 0) (mk (oJ M (cSum2 M i p u k (cSum1 M i p u k n) r)))) : Gm Γ M_L_balance [vr 0 0, vi i, vi p, vi u, vi k, vr 84 0] (mk M) Q := by
  refine gm_step [] 60 ?_; intro G K hG hK
  refine hG _ _ _ _ (go_balance hW he hn hr hr2 (fun x => ?_) (fun x y => ?_) (fun x y => ?_))
  · exact h1 x
  · exact h0 x y
  · exact ⟨vo1, h x y⟩
theorem gh_split {x : Int32} (hW : WC ns nc M) (h0 : ¬ (0 ≤ x ∧ x ≤ 5000) → Q (rI 1) (mk M)) (h : (0 ≤ x ∧ x ≤ 5000) → Q (rI 0) (mk (oJ M (cSplit M ns x).toInt64))) : Gm Γ M_L_split [vr 0 0, vi x, vr 84 0] (mk M) Q := by
  refine gm_step [] 60 ?_; intro G K hG hK
  refine hG _ _ _ _ (go_split hW (fun x => ?_) (fun x => ?_))
  · exact h0 x
  · exact ⟨vo1, h x⟩
theorem gm_thrown (h : Q (rI (M.1 44 0 0)) (mk M)) : Gm Γ M_X7_thrown [vr 44 0] (mk M) Q := by
  refine gm_step [] 60 ?_; intro G K hG hK
  exact h
end HELP
