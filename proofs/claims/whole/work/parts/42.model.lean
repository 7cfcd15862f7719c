/-! The reference: small methods, and what makes stations, stages and caravans. -/
theorem w_le {a b : Int32} : a.toInt64 ≤ b.toInt64 ↔ a ≤ b := by rw [Int64.le_iff_toInt_le, Int32.le_iff_toInt_le, Int32.toInt_toInt64, Int32.toInt_toInt64]
theorem w_lt {a b : Int32} : a.toInt64 < b.toInt64 ↔ a < b := by rw [Int64.lt_iff_toInt_lt, Int32.lt_iff_toInt_lt, Int32.toInt_toInt64, Int32.toInt_toInt64]
theorem lc_lt {x y : Int64} : lg_cmp x y < 0 ↔ x < y := by
  unfold lg_cmp
  by_cases h : x > y
  · rw [if_pos h]; exact ⟨fun q => absurd q (by decide), fun q => absurd (Int64.lt_trans q h) (Int64.lt_irrefl)⟩
  · rw [if_neg h]
    by_cases h2 : x = y
    · rw [if_pos h2, h2]; exact ⟨fun q => absurd q (by decide), fun q => absurd q (Int64.lt_irrefl)⟩
    · rw [if_neg h2]; exact ⟨fun _ => Int64.lt_of_le_of_ne (Int64.not_lt.mp h) h2, fun _ => by decide⟩
theorem lc_gt {x y : Int64} : 0 < lg_cmp x y ↔ y < x := by
  unfold lg_cmp
  by_cases h : x > y
  · rw [if_pos h]; exact ⟨fun _ => h, fun _ => by decide⟩
  · rw [if_neg h]
    by_cases h2 : x = y
    · rw [if_pos h2]; exact ⟨fun q => absurd q (by decide), fun q => absurd q h⟩
    · rw [if_neg h2]; exact ⟨fun q => absurd q (by decide), fun q => absurd q h⟩
def sumD (f : Nat → Int32) (o : Nat) : Nat → Int32
  | 0 => 0
  | k + 1 => sumD f o k + f (o + 4 + k)
/-- a contract of the reference: at most three shares, not all 0 -/
def dealOk (f : Nat → Int32) (o : Nat) : Prop := ∃ n, n ≤ 3 ∧ f o = nI n ∧ (n ≠ 0 → ¬ sumD f o n = 0)
theorem sumD_congr {f g : Nat → Int32} {o : Nat} : ∀ n, (∀ k, k < n → f (o + 4 + k) = g (o + 4 + k)) → sumD f o n = sumD g o n
  | 0, _ => rfl
  | n + 1, h => by unfold sumD; rw [sumD_congr n (fun k hk => h k (by omega)), h n (by omega)]
theorem dealOk.congr {f g : Nat → Int32} {o : Nat} (h : dealOk f o) (e : ∀ k, k < 9 → g (o + k) = f (o + k)) : dealOk g o := by
  obtain ⟨n, hn, h1, h2⟩ := h
  refine ⟨n, hn, (e 0 (by decide)).trans h1, fun q => ?_⟩
  rw [sumD_congr (g := f) n (fun k hk => by rw [Nat.add_assoc]; exact e (4 + k) (by omega))]
  exact h2 q
/-- what the reference's loops need of the memory -/
def WM (ns nc : Nat) (M : MM) : Prop :=
  (ns ≤ 12 ∧ nc ≤ 12) ∧ (M.1 44 0 7 = nI ns ∧ M.1 44 0 26 = nI nc) ∧ ((∃ g, g ≤ 30 ∧ M.1 44 0 11 = nI g) ∧ ∃ e, e ≤ 300 ∧ M.1 44 0 36 = nI e) ∧
  (∀ c, c < nc → (∃ s, s < ns ∧ M.1 59 0 c = nI s) ∧ ∃ s, s < 12 ∧ M.1 60 0 c = nI s) ∧
  (∀ s, s < ns → M.1 45 0 s = 3 → ¬ M.1 47 0 s = 0) ∧
  (∀ c, c < nc → dealOk (M.1 70 0) (9 * c) ∧ dealOk (M.1 69 0) (9 * c)) ∧
  (∀ c, c < nc → M.1 68 0 c ≤ 12 ∧ (∃ t, t ≤ 12 ∧ M.1 63 0 c = nI t) ∧ (0 < M.1 64 0 c → M.1 63 0 c < M.1 68 0 c))
section WMS
variable {ns nc : Nat} {M M' : MM} {c : Nat}
theorem WM.ls (h : WM ns nc M) : ns ≤ 12 := h.1.1
theorem WM.lc (h : WM ns nc M) : nc ≤ 12 := h.1.2
theorem WM.n7 (h : WM ns nc M) : M.1 44 0 7 = nI ns := h.2.1.1
theorem WM.n26 (h : WM ns nc M) : M.1 44 0 26 = nI nc := h.2.1.2
theorem WM.ng (h : WM ns nc M) : ∃ g, g ≤ 30 ∧ M.1 44 0 11 = nI g := h.2.2.1.1
theorem WM.en (h : WM ns nc M) : ∃ e, e ≤ 300 ∧ M.1 44 0 36 = nI e := h.2.2.1.2
theorem WM.at (h : WM ns nc M) (hc : c < nc) : ∃ s, s < ns ∧ M.1 59 0 c = nI s := (h.2.2.2.1 c hc).1
theorem WM.fr (h : WM ns nc M) (hc : c < nc) : ∃ s, s < 12 ∧ M.1 60 0 c = nI s := (h.2.2.2.1 c hc).2
theorem WM.b0 (h : WM ns nc M) {s : Nat} (hs : s < ns) (h3 : M.1 45 0 s = 3) : ¬ M.1 47 0 s = 0 := h.2.2.2.2.1 s hs h3
theorem WM.dk (h : WM ns nc M) (hc : c < nc) : dealOk (M.1 70 0) (9 * c) := (h.2.2.2.2.2.1 c hc).1
theorem WM.dt (h : WM ns nc M) (hc : c < nc) : dealOk (M.1 69 0) (9 * c) := (h.2.2.2.2.2.1 c hc).2
theorem WM.oc (h : WM ns nc M) (hc : c < nc) : M.1 68 0 c ≤ 12 := (h.2.2.2.2.2.2 c hc).1
theorem WM.tu (h : WM ns nc M) (hc : c < nc) : ∃ t, t ≤ 12 ∧ M.1 63 0 c = nI t := (h.2.2.2.2.2.2 c hc).2.1
theorem WM.wt (h : WM ns nc M) (hc : c < nc) : 0 < M.1 64 0 c → M.1 63 0 c < M.1 68 0 c := (h.2.2.2.2.2.2 c hc).2.2
/-- slots that are needed by loops of the reference -/
def pWM (t k : Nat) : Prop := (t = 44 ∧ (k = 7 ∨ k = 26 ∨ k = 11 ∨ k = 36)) ∨ t = 59 ∨ t = 60 ∨ t = 45 ∨ t = 47 ∨ t = 70 ∨ t = 69 ∨ t = 68 ∨ t = 63 ∨ t = 64
theorem WM.of (h : WM ns nc M) (e : ∀ t k, pWM t k → M'.1 t 0 k = M.1 t 0 k) : WM ns nc M' := by
  have k44 : ∀ k, (k = 7 ∨ k = 26 ∨ k = 11 ∨ k = 36) → M'.1 44 0 k = M.1 44 0 k := fun k hk => e 44 k (Or.inl ⟨rfl, hk⟩)
  have kt : ∀ t, (t = 59 ∨ t = 60 ∨ t = 45 ∨ t = 47 ∨ t = 70 ∨ t = 69 ∨ t = 68 ∨ t = 63 ∨ t = 64) → ∀ k, M'.1 t 0 k = M.1 t 0 k := fun t ht k => e t k (Or.inr ht)
  have f70 : M'.1 70 0 = M.1 70 0 := funext (kt 70 (by omega))
  have f69 : M'.1 69 0 = M.1 69 0 := funext (kt 69 (by omega))
  refine ⟨h.1, ⟨(k44 7 (by omega)).trans h.n7, (k44 26 (by omega)).trans h.n26⟩, ⟨by rw [k44 11 (by omega)]; exact h.ng, by rw [k44 36 (by omega)]; exact h.en⟩, fun c hc => ?_, fun s hs => ?_, fun c hc => ?_, fun c hc => ?_⟩
  · rw [kt 59 (by omega), kt 60 (by omega)]; exact h.2.2.2.1 c hc
  · rw [kt 45 (by omega), kt 47 (by omega)]; exact h.b0 hs
  · rw [f70, f69]; exact h.2.2.2.2.2.1 c hc
  · rw [kt 68 (by omega), kt 63 (by omega), kt 64 (by omega)]; exact h.2.2.2.2.2.2 c hc
theorem WM.frame {P : Nat → Nat → Prop} (h : WM ns nc M) (f : Fr P M M') (hp : ∀ t k, pWM t k → ¬ P t k) : WM ns nc M' := h.of (fun t k hk => f.2 t 0 k (hp t k hk))
theorem WM.iv (h : WM ns nc M) (hc : c < nc) : vp_in (M.1 59 0 c) 12 ∧ cl (M.1 59 0 c) < ns := by
  obtain ⟨s, hs, e⟩ := h.at hc
  exact ⟨in12 (Nat.lt_of_lt_of_le hs h.ls) e, cl_lt hs h.ls e⟩
end WMS
section MODL
variable {Γ : GG} {M : MM} {Q : Out → Mem → Prop} {c ns nc n p : Nat} {σ : Mem}
theorem gm_in {x lo hi : Int32} (h : Q (rI (b32 (lo ≤ x ∧ x ≤ hi))) σ) : Gm Γ M_X7_in [vj x.toInt64, vj lo.toInt64, vj hi.toInt64] σ Q := by
  refine gm_step [] 40 ?_; intro G K hG hK
  refine ⟨fun (g : lg_cmp x.toInt64 lo.toInt64 < 0) => ?_, fun (g : ¬ lg_cmp x.toInt64 lo.toInt64 < 0) => ?_⟩
  · rw [lc_lt, w_lt] at g
    exact rb_f (fun q => Int32.not_lt.mpr q.1 g) h
  rw [lc_lt, w_lt] at g
  refine ⟨fun (g2 : 0 < lg_cmp x.toInt64 hi.toInt64) => ?_, fun (g2 : ¬ 0 < lg_cmp x.toInt64 hi.toInt64) => ?_⟩
  · rw [lc_gt, w_lt] at g2
    exact rb_f (fun q => Int32.not_lt.mpr q.2 g2) h
  · rw [lc_gt, w_lt] at g2
    exact rb_t ⟨Int32.not_lt.mp g, Int32.not_lt.mp g2⟩ h
theorem lt_pred {x : Int32} {n : Nat} (hn : n < 2 ^ 31) : x ≤ nI n - 1 ↔ x < nI n := by
  rcases Nat.eq_zero_or_pos n with rfl | hp
  · rw [Int32.le_iff_toInt_le, Int32.lt_iff_toInt_lt]
    have e1 : (nI 0 - 1 : Int32).toInt = -1 := by decide
    have e2 : (nI 0 : Int32).toInt = 0 := by decide
    rw [e1, e2]; omega
  · obtain ⟨m, rfl⟩ : ∃ m, n = m + 1 := ⟨n - 1, by omega⟩
    rw [nI_pred, Int32.le_iff_toInt_le, Int32.lt_iff_toInt_lt, nI_toInt (by omega), nI_toInt hn]
    omega
theorem gm_noStation {x : Int32} (hs : M.1 44 0 7 = nI ns) (hn : ns ≤ 12) (h : Q (rI (b32 (¬ (0 ≤ x ∧ x < nI ns)))) (mk M)) : Gm Γ M_X7_noStation [vr 44 0, vi x] (mk M) Q := by
  refine gm_step [] 40 ?_; intro G K hG hK
  refine hG _ _ _ _ (gm_in (x := x) (lo := 0) (hi := M.1 44 0 7 - 1) ?_)
  refine br_n (fun g => ?_) (fun g => ?_)
  · rw [hs, lt_pred (by omega)] at g; exact rb_f (fun q => q g) h
  · rw [hs, lt_pred (by omega)] at g; exact rb_t g h
theorem gm_noCaravan {x : Int32} (hs : M.1 44 0 26 = nI nc) (hn : nc ≤ 12) (h : Q (rI (b32 (¬ (0 ≤ x ∧ x < nI nc)))) (mk M)) : Gm Γ M_X7_noCaravan [vr 44 0, vi x] (mk M) Q := by
  refine gm_step [] 40 ?_; intro G K hG hK
  refine hG _ _ _ _ (gm_in (x := x) (lo := 0) (hi := M.1 44 0 26 - 1) ?_)
  refine br_n (fun g => ?_) (fun g => ?_)
  · rw [hs, lt_pred (by omega)] at g; exact rb_f (fun q => q g) h
  · rw [hs, lt_pred (by omega)] at g; exact rb_t g h
theorem gm_throws1 {k : Int32} (h : Q (rI 1) (mk (uI M 44 0 0 k))) : Gm Γ M_X7_throwsIf [vr 44 0, vi 1, vi k] (mk M) Q := by
  refine gm_step [] 40 ?_; intro G K hG hK
  exact br1z (rb1 h)
theorem gm_throws0 {k : Int32} (h : Q (rI 0) (mk M)) : Gm Γ M_X7_throwsIf [vr 44 0, vi 0, vi k] (mk M) Q := by
  refine gm_step [] 40 ?_; intro G K hG hK
  exact br0z (rb0 h)
theorem gm_throws {k : Int32} {P : Prop} [Decidable P] (ht : P → Q (rI 1) (mk (uI M 44 0 0 k))) (hf : ¬ P → Q (rI 0) (mk M)) : Gm Γ M_X7_throwsIf [vr 44 0, vi (b32 P), vi k] (mk M) Q := by
  by_cases g : P
  · rw [b32_t g]; exact gm_throws1 (ht g)
  · rw [b32_f g]; exact gm_throws0 (hf g)
def mPrice (M : MM) (x : Int32) : Int32 := mx0 (M.1 46 0 (cl x) - M.1 49 0 (cl x) / M.1 47 0 (cl x))
theorem gm_priceOf {x : Int32} (hx : vp_in x 12) (hb : ¬ M.1 47 0 (cl x) = 0) (h : Q (rI (mPrice M x)) (mk M)) : Gm Γ M_X7_priceOf [vr 44 0, vi x] (mk M) Q := by
  refine gm_step [] 40 ?_; intro G K hG hK
  exact ⟨hx, hx, hx, hb, h⟩
def mStation (M : MM) (x : Int32) (s a b d : Int32) : MM := uI (uI (uI (uI (uI (uI M 45 0 (cl x) s) 46 0 (cl x) a) 47 0 (cl x) b) 48 0 (cl x) d) 49 0 (cl x) (if s = 2 then b else 0)) 44 0 7 (x + 1)
theorem go_mstation145 {s a b d v : Int32} (hs : M.1 44 0 7 = nI ns) (hn : ns < 12) (h : Q (rI (nI ns)) (mk (mStation M (nI ns) s a b d))) : Go Γ M_X7_station 145 [(5, vi v), (4, vi d), (3, vi b), (2, vi a), (1, vi s), (0, vr 44 0)] [] (mk M) (0, 0) Q := by
  have hv : vp_in (M.1 44 0 7) 12 := in12 hn hs
  have e2 : nI ns = M.1 44 0 7 + 1 - 1 := by rw [hs, nI_1, nI_pred]
  rw [show rI (nI ns) = rI (M.1 44 0 7 + 1 - 1) from by rw [← e2]] at h
  unfold mStation at h
  rw [← hs] at h
  refine go_step [] 100 ?_; intro G K hG hK
  refine ⟨hv, hv, hv, hv, ?_⟩
  refine ⟨fun (g : ¬ s = 2) => ?_, fun (g : ¬ ¬ s = 2) => ?_⟩
  · rw [if_neg g] at h; exact ⟨hv, h⟩
  · rw [if_pos (Decidable.not_not.mp g)] at h; exact ⟨hv, h⟩
theorem go_mstation103 {s a b d v : Int32} (hs : M.1 44 0 7 = nI ns) (hl : ns ≤ 12) (hv : v = 0 ∨ v = 1) (h0 : v = 0 → Q (rI 0) (mk (uI M 44 0 0 1))) (h2 : v = 1 → ns = 12 → Q (rI 0) (mk (uI M 44 0 0 2))) (h : v = 1 → ns < 12 → Q (rI (nI ns)) (mk (mStation M (nI ns) s a b d))) : Go Γ M_X7_station 103 [(5, vi v), (4, vi d), (3, vi b), (2, vi a), (1, vi s), (0, vr 44 0)] [] (mk M) (0, 0) Q := by
  refine go_step [145] 60 ?_; intro G K hG hK
  rcases hv with rfl | rfl
  · refine br0n ?_
    refine hG _ _ _ _ (gm_throws1 ?_)
    exact br1n (h0 rfl)
  · refine br1n ?_
    refine hG _ _ _ _ (gm_throws0 ?_)
    refine br0n ?_
    refine ⟨fun (g : ¬ M.1 44 0 7 = 12) => ?_, fun (g : ¬ ¬ M.1 44 0 7 = 12) => ?_⟩
    · rw [hs, show (12 : Int32) = nI 12 from rfl, nI_eq (by omega) (by omega)] at g
      refine hG _ _ _ _ (gm_throws0 ?_)
      refine br0z ?_
      exact hK _ _ _ _ _ (go_mstation145 hs (by omega) (h rfl (by omega)))
    · rw [hs, show (12 : Int32) = nI 12 from rfl, nI_eq (by omega) (by omega)] at g
      refine hG _ _ _ _ (gm_throws1 ?_)
      exact br1z (h2 rfl (Decidable.not_not.mp g))
theorem go_mstation {s a b d : Int32} (hs : M.1 44 0 7 = nI ns) (hl : ns ≤ 12) (h0 : ¬ stOk s a b d → Q (rI 0) (mk (uI (uI M 44 0 0 0) 44 0 0 1))) (h2 : stOk s a b d → ns = 12 → Q (rI 0) (mk (uI (uI M 44 0 0 0) 44 0 0 2))) (h : stOk s a b d → ns < 12 → Q (rI (nI ns)) (mk (mStation (uI M 44 0 0 0) (nI ns) s a b d))) : Gm Γ M_X7_station [vr 44 0, vi s, vi a, vi b, vi d] (mk M) Q := by
  unfold stOk at h0 h2 h
  refine gm_step [103] 60 ?_; intro G K hG hK
  refine hG _ _ _ _ (gm_in (x := s) (lo := 0) (hi := 3) ?_)
  refine ⟨fun (g : ¬ s = 2) => ?_, fun (g : ¬ ¬ s = 2) => ?_⟩
  · rw [if_neg g] at h0 h2 h
    refine ⟨fun (g2 : ¬ s = 3) => ?_, fun (g2 : ¬ ¬ s = 3) => ?_⟩
    · rw [if_neg g2] at h0 h2 h
      refine hK _ _ _ _ _ (go_bus (go_mstation103 (M := uI M 44 0 0 0) (v := b32 (0 ≤ s ∧ s ≤ 3)) hs hl (b32_or _) (fun q => h0 (fun z => by rw [b32_t z] at q; exact absurd q (by decide))) (fun q => h2 (Decidable.byContradiction fun z => by rw [b32_f z] at q; exact absurd q (by decide))) (fun q => h (Decidable.byContradiction fun z => by rw [b32_f z] at q; exact absurd q (by decide)))) ⟨rfl, rfl, rfl, rfl, rfl, rfl, trivial⟩)
    · rw [if_pos (Decidable.not_not.mp g2)] at h0 h2 h
      refine hG _ _ _ _ (gm_in (x := a) (lo := 1) (hi := 1000) ?_)
      refine br_z (fun g3 => ?_) (fun g3 => ?_)
      · exact hK _ _ _ _ _ (go_bus (go_mstation103 (M := uI M 44 0 0 0) (v := 0) hs hl (Or.inl rfl) (fun _ => h0 (fun q => g3 q.1)) (fun q => absurd q (by decide)) (fun q => absurd q (by decide))) ⟨rfl, rfl, rfl, rfl, rfl, rfl, trivial⟩)
      refine hG _ _ _ _ (gm_in (x := b) (lo := 1) (hi := 100) ?_)
      refine br_z (fun g4 => ?_) (fun g4 => ?_)
      · exact hK _ _ _ _ _ (go_bus (go_mstation103 (M := uI M 44 0 0 0) (v := 0) hs hl (Or.inl rfl) (fun _ => h0 (fun q => g4 q.2)) (fun q => absurd q (by decide)) (fun q => absurd q (by decide))) ⟨rfl, rfl, rfl, rfl, rfl, rfl, trivial⟩)
      · exact hK _ _ _ _ _ (go_bus (go_mstation103 (M := uI M 44 0 0 0) (v := 1) hs hl (Or.inr rfl) (fun q => absurd q (by decide)) (fun _ => h2 ⟨g3, g4⟩) (fun _ => h ⟨g3, g4⟩)) ⟨rfl, rfl, rfl, rfl, rfl, rfl, trivial⟩)
  · have e : s = 2 := Decidable.not_not.mp g
    rw [if_pos e] at h0 h2 h
    have n3 : ¬ ¬ s = 3 → False := fun q => q (by rw [e]; decide)
    refine hG _ _ _ _ (gm_in (x := a) (lo := 0) (hi := 1000) ?_)
    refine br_z (fun g3 => ?_) (fun g3 => ?_)
    · refine ⟨fun _ => ?_, fun (q : ¬ ¬ s = 3) => (n3 q).elim⟩
      exact hK _ _ _ _ _ (go_bus (go_mstation103 (M := uI M 44 0 0 0) (v := 0) hs hl (Or.inl rfl) (fun _ => h0 (fun q => g3 q.1)) (fun q => absurd q (by decide)) (fun q => absurd q (by decide))) ⟨rfl, rfl, rfl, rfl, rfl, rfl, trivial⟩)
    refine hG _ _ _ _ (gm_in (x := b) (lo := 1) (hi := 10000) ?_)
    refine br_z (fun g4 => ?_) (fun g4 => ?_)
    · refine ⟨fun _ => ?_, fun (q : ¬ ¬ s = 3) => (n3 q).elim⟩
      exact hK _ _ _ _ _ (go_bus (go_mstation103 (M := uI M 44 0 0 0) (v := 0) hs hl (Or.inl rfl) (fun _ => h0 (fun q => g4 q.2.1)) (fun q => absurd q (by decide)) (fun q => absurd q (by decide))) ⟨rfl, rfl, rfl, rfl, rfl, rfl, trivial⟩)
    refine hG _ _ _ _ (gm_in (x := d) (lo := -1) (hi := 3) ?_)
    refine br_z (fun g5 => ?_) (fun g5 => ?_)
    · refine ⟨fun _ => ?_, fun (q : ¬ ¬ s = 3) => (n3 q).elim⟩
      exact hK _ _ _ _ _ (go_bus (go_mstation103 (M := uI M 44 0 0 0) (v := 0) hs hl (Or.inl rfl) (fun _ => h0 (fun q => g5 q.2.2)) (fun q => absurd q (by decide)) (fun q => absurd q (by decide))) ⟨rfl, rfl, rfl, rfl, rfl, rfl, trivial⟩)
    · refine ⟨fun _ => ?_, fun (q : ¬ ¬ s = 3) => (n3 q).elim⟩
      exact hK _ _ _ _ _ (go_bus (go_mstation103 (M := uI M 44 0 0 0) (v := 1) hs hl (Or.inr rfl) (fun q => absurd q (by decide)) (fun _ => h2 ⟨g3, g4, g5⟩) (fun _ => h ⟨g3, g4, g5⟩)) ⟨rfl, rfl, rfl, rfl, rfl, rfl, trivial⟩)
def mStage (M : MM) (g : Int32) (f t d : Int32) : MM := uI (uI (uI (uI M 50 0 (cl g) f) 51 0 (cl g) t) 52 0 (cl g) d) 44 0 11 (g + 1)
theorem go_mstage {f t d : Int32} {g : Nat} (hs : M.1 44 0 7 = nI ns) (hl : ns ≤ 12) (hg : M.1 44 0 11 = nI g) (hg2 : g ≤ 30)
    (h1 : ¬ ((0 ≤ f ∧ f < nI ns) ∧ (0 ≤ t ∧ t < nI ns)) → Q (rI 0) (mk (uI (uI M 44 0 0 0) 44 0 0 1)))
    (h0 : (0 ≤ f ∧ f < nI ns) → (0 ≤ t ∧ t < nI ns) → (f = t ∨ ¬ (1 ≤ d ∧ d ≤ 9)) → Q (rI 0) (mk (uI (uI M 44 0 0 0) 44 0 0 2)))
    (h2 : (0 ≤ f ∧ f < nI ns) → (0 ≤ t ∧ t < nI ns) → ¬ (f = t ∨ ¬ (1 ≤ d ∧ d ≤ 9)) → g = 30 → Q (rI 0) (mk (uI (uI M 44 0 0 0) 44 0 0 3)))
    (h : (0 ≤ f ∧ f < nI ns) → (0 ≤ t ∧ t < nI ns) → ¬ (f = t ∨ ¬ (1 ≤ d ∧ d ≤ 9)) → g < 30 → Q (rI (nI g + 1)) (mk (mStage (uI M 44 0 0 0) (nI g) f t d))) : Gm Γ M_X7_stage [vr 44 0, vi f, vi t, vi d] (mk M) Q := by
  refine gm_step [] 100 ?_; intro G K hG hK
  refine hG _ _ _ _ (gm_noStation (M := uI M 44 0 0 0) hs hl ?_)
  refine br_n (fun g1 => ?_) (fun g1 => ?_)
  · refine hG _ _ _ _ (gm_throws1 (M := uI M 44 0 0 0) ?_)
    exact br1n (h1 (fun q => g1 q.1))
  have g1 := Decidable.not_not.mp g1
  refine hG _ _ _ _ (gm_noStation (M := uI M 44 0 0 0) hs hl ?_)
  refine br_z (fun g2 => ?_) (fun g2 => ?_)
  rotate_left
  · refine hG _ _ _ _ (gm_throws1 (M := uI M 44 0 0 0) ?_)
    exact br1n (h1 (fun q => g2 q.2))
  have g2 := Decidable.not_not.mp g2
  refine hG _ _ _ _ (gm_throws0 (M := uI M 44 0 0 0) ?_)
  refine br0n ?_
  refine ⟨fun (g3 : f = t) => ?_, fun (g3 : ¬ f = t) => ?_⟩
  · refine hG _ _ _ _ (gm_throws1 (M := uI M 44 0 0 0) ?_)
    exact br1n (h0 g1 g2 (Or.inl g3))
  refine hG _ _ _ _ (gm_in (x := d) (lo := 1) (hi := 9) ?_)
  refine br_n (fun g4 => ?_) (fun g4 => ?_)
  rotate_left
  · refine hG _ _ _ _ (gm_throws1 (M := uI M 44 0 0 0) ?_)
    exact br1n (h0 g1 g2 (Or.inr g4))
  refine hG _ _ _ _ (gm_throws0 (M := uI M 44 0 0 0) ?_)
  refine br0n ?_
  have gn : ¬ (f = t ∨ ¬ (1 ≤ d ∧ d ≤ 9)) := fun q => q.elim g3 (fun q => q g4)
  refine ⟨fun (g5 : ¬ M.1 44 0 11 = 30) => ?_, fun (g5 : ¬ ¬ M.1 44 0 11 = 30) => ?_⟩
  · rw [hg, show (30 : Int32) = nI 30 from rfl, nI_eq (by omega) (by omega)] at g5
    refine hG _ _ _ _ (gm_throws0 (M := uI M 44 0 0 0) ?_)
    refine br0z ?_
    have hv : vp_in (M.1 44 0 11) 30 := by rw [hg]; exact vp_in_nI (by omega) (by decide)
    have h := h g1 g2 gn (by omega)
    rw [← hg] at h
    exact ⟨hv, hv, hv, h⟩
  · rw [hg, show (30 : Int32) = nI 30 from rfl, nI_eq (by omega) (by omega)] at g5
    refine hG _ _ _ _ (gm_throws1 (M := uI M 44 0 0 0) ?_)
    exact br1z (h2 g1 g2 gn (Decidable.not_not.mp g5))
end MODL
