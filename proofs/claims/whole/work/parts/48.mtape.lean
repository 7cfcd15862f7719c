/-! The reference: how it reads a text. -/
/-- the reference's text: n bytes, read up to p, the present thing begins at q -/
def TM (M : MM) (n p q : Nat) : Prop := n ≤ 400 ∧ p ≤ n ∧ q ≤ 400 ∧ M.1 44 0 47 = nI n ∧ M.1 44 0 46 = nI p ∧ M.1 44 0 48 = nI q
def posM (M : MM) (p q : Nat) : MM := uI (uI M 44 0 46 (nI p)) 44 0 48 (nI q)
def posA (M : MM) (p : Nat) : MM := uI M 44 0 46 (nI p)
theorem TM.posM {M : MM} {n p q p' q' : Nat} (h : TM M n p q) (hp : p' ≤ n) (hq : q' ≤ n) : TM (posM M p' q') n p' q' := ⟨h.1, hp, Nat.le_trans hq h.1, h.2.2.2.1, rfl, rfl⟩
theorem TM.posA {M : MM} {n p q p' : Nat} (h : TM M n p q) (hp : p' ≤ n) : TM (posA M p') n p' q := ⟨h.1, hp, h.2.2.1, h.2.2.2.1, rfl, h.2.2.2.2.2⟩
theorem posA_posA (M : MM) (p q : Nat) : posA (posA M p) q = posA M q := uI_uI _ _ _ _ _ _
theorem posA_id {M : MM} {n p q : Nat} (h : TM M n p q) : posA M p = M := uI_id h.2.2.2.2.1
/-- slots that reading moves -/
def pRd (t k : Nat) : Prop := t = 44 ∧ (k = 46 ∨ k = 48)
theorem fr_posA {M : MM} {p : Nat} : Fr pRd M (posA M p) := Fr.u ⟨rfl, Or.inl rfl⟩
theorem fr_posM {M : MM} {p q : Nat} : Fr pRd M (posM M p q) := (Fr.u ⟨rfl, Or.inl rfl⟩).trans (Fr.u ⟨rfl, Or.inr rfl⟩)
theorem skF_end (b : Nat → Int32) : ∀ m p, skF b m p < p + m → ¬ b (skF b m p) = 32
  | 0, p, h => by unfold skF at h; omega
  | m + 1, p, h => by
    unfold skF at h ⊢
    split
    · rename_i g
      rw [if_pos g] at h
      exact skF_end b m (p + 1) (by omega)
    · rename_i g; exact g
/-- behind blanks there are none -/
theorem sk_sk {b : Nat → Int32} {n p : Nat} (h : p ≤ n) : sk b n (sk b n p) = sk b n p := by
  obtain ⟨h1, h2⟩ := sk_le (b := b) h
  rcases Nat.lt_or_ge (sk b n p) n with q | q
  · have e := skF_end b (n - p) p (by unfold sk at q; omega)
    have e : ¬ b (sk b n p) = 32 := e
    generalize sk b n p = s at e q
    show skF b (n - s) s = s
    obtain ⟨m, hm⟩ : ∃ m, n - s = m + 1 := ⟨n - s - 1, by omega⟩
    rw [hm]
    unfold skF
    rw [if_neg e]
  · have : sk b n p = n := by omega
    rw [this]
    unfold sk
    rw [Nat.sub_self]; rfl
section MTAP
variable {Γ : GG} {M : MM} {Q : Out → Mem → Prop} {n p q : Nat} {b : Nat → Int32}
theorem go_blanks (hT : TM M n p q) (hb : M.1 81 0 = b) (h : Q rV (mk (posM M (sk b n p) (sk b n p)))) : Gm Γ M_X7_blanks [vr 44 0] (mk M) Q := by
  subst hb
  obtain ⟨hn, hp, hq, hl, ha, -⟩ := hT
  have key : ∀ m p (A : MM), p + m = n → A.1 81 0 = M.1 81 0 → A.1 44 0 47 = nI n → A.1 44 0 46 = nI p → Q rV (mk (posM A (skF (M.1 81 0) m p) (skF (M.1 81 0) m p))) → Go Γ M_X7_blanks 0 [(0, vr 44 0)] [] (mk A) (0, 0) Q := by
    intro m
    induction m with
    | zero =>
      intro p A hp hbA hl ha h
      refine go_step [0] 60 ?_; intro G K hG hK
      refine ⟨fun _ => ?_, fun (g : ¬ A.1 44 0 47 ≤ A.1 44 0 46) => ?_⟩
      · have h : Q rV (mk (uI (uI A 44 0 46 (nI p)) 44 0 48 (nI p))) := h
        rw [← ha, uI_id rfl] at h
        exact h
      · rw [hl, ha, show n = p by omega] at g; exact absurd (Int32.le_refl _) g
    | succ m ih =>
      intro p A hp hbA hl ha h
      have ec : cl (A.1 44 0 46) = p := by rw [ha]; exact nI_clamp (by omega)
      unfold skF at h
      rw [← hbA] at h
      refine go_step [0] 60 ?_; intro G K hG hK
      refine ⟨fun (g : A.1 44 0 47 ≤ A.1 44 0 46) => ?_, fun _ => ?_⟩
      · rw [hl, ha] at g; exact absurd g (nI_ge (by omega) (by omega))
      refine ⟨by show vp_in (A.1 44 0 46) 400; rw [ha]; exact vp_in_nI (by omega) (by decide), ?_⟩
      refine ⟨fun (g : ¬ A.1 81 0 (cl (A.1 44 0 46)) = 32) => ?_, fun (g : ¬ ¬ A.1 81 0 (cl (A.1 44 0 46)) = 32) => ?_⟩
      · rw [ec] at g
        rw [if_neg g] at h
        have h : Q rV (mk (uI (uI A 44 0 46 (nI p)) 44 0 48 (nI p))) := h
        rw [← ha, uI_id rfl] at h
        exact h
      · rw [ec] at g
        rw [if_pos (Decidable.not_not.mp g), hbA] at h
        refine hK _ _ _ _ _ (ih (p + 1) (uI A 44 0 46 (A.1 44 0 46 + 1)) (by omega) hbA hl (by show A.1 44 0 46 + 1 = _; rw [ha, nI_1]) ?_)
        unfold posM at h ⊢
        rw [uI_uI]
        exact h
  exact key (n - p) p M (by omega) rfl hl ha h
theorem go_misAt {lo hi : Int32} (hT : TM M n p q) (hb : M.1 81 0 = b) (h : Q (rI (b32 (p < n ∧ lo ≤ b p ∧ b p ≤ hi))) (mk M)) : Gm Γ M_X7_isAt [vr 44 0, vi lo, vi hi] (mk M) Q := by
  subst hb
  obtain ⟨hn, hp, hq, hl, ha, -⟩ := hT
  have ec : cl (M.1 44 0 46) = p := by rw [ha]; exact nI_clamp (by omega)
  refine gm_step [] 60 ?_; intro G K hG hK
  refine ⟨fun (g : M.1 44 0 47 ≤ M.1 44 0 46) => ?_, fun (g : ¬ M.1 44 0 47 ≤ M.1 44 0 46) => ?_⟩
  · rw [hl, ha] at g
    exact rb_f (fun z => nI_ge z.1 (by omega) g) h
  rw [hl, ha] at g
  have hpn : p < n := Nat.not_le.mp fun z => g (nI_le z (by omega))
  have hv : vp_in (M.1 44 0 46) 400 := by rw [ha]; exact vp_in_nI (by omega) (by decide)
  refine ⟨hv, ?_⟩
  refine ⟨fun (g2 : M.1 81 0 (cl (M.1 44 0 46)) < lo) => ?_, fun (g2 : ¬ M.1 81 0 (cl (M.1 44 0 46)) < lo) => ?_⟩
  · rw [ec] at g2; exact rb_f (fun z => Int32.not_lt.mpr z.2.1 g2) h
  rw [ec] at g2
  refine ⟨hv, ?_⟩
  refine ⟨fun (g3 : hi < M.1 81 0 (cl (M.1 44 0 46))) => ?_, fun (g3 : ¬ hi < M.1 81 0 (cl (M.1 44 0 46))) => ?_⟩
  · rw [ec] at g3; exact rb_f (fun z => Int32.not_lt.mpr z.2.2 g3) h
  · rw [ec] at g3; exact rb_t ⟨hpn, Int32.not_lt.mp g2, Int32.not_lt.mp g3⟩ h
/-- the bytes from q up to p are the word k -/
def isWM (b : Nat → Int32) (p q k : Nat) : Bool := decide (p = q + (wd k).length) && allB (fun i => decide (b (q + i) = (wd k).getD i 0)) (wd k).length
theorem go_isWord {k : Nat} (hT : TM M n p q) (hqp : q ≤ p) (hb : M.1 81 0 = b) (hk : k < 28) (h : Q (rI (b32 (isWM b p q k = true))) (mk M)) : Gm Γ M_X7_isWord [vr 44 0, vr 202 k] (mk M) Q := by
  subst hb
  obtain ⟨hn, hp, hq, hl, ha, hbg⟩ := hT
  have hbl : Nat.ble (k + 1) 28 = true := Nat.ble_eq_true_of_le hk
  have hw := wd_len hk
  have key : ∀ m i, p = q + (wd k).length → i + m = (wd k).length → (∀ j, j < i → M.1 81 0 (q + j) = (wd k).getD j 0) → Go Γ M_X7_isWord 24 [(3, vi (nI i)), (2, vi 1), (1, vr 202 k), (0, vr 44 0)] [] (mk M) (0, 0) Q := by
    intro m
    induction m with
    | zero =>
      intro i he hi hs
      refine go_step [24] 60 ?_; intro G K hG hK
      refine br1z ?_
      refine isTrue_of (by rw [hbl]; rfl) ?_
      refine ⟨fun _ => rb_t ?_ h, fun (g2 : ¬ nI (wd k).length ≤ nI i) => ?_⟩
      · unfold isWM
        rw [Bool.and_eq_true, decide_eq_true_iff, allB_iff]
        exact ⟨he, fun j hj => decide_eq_true (hs j (by omega))⟩
      · rw [show (wd k).length = i by omega] at g2; exact absurd (Int32.le_refl _) g2
    | succ m ih =>
      intro i he hi hs
      have ec : cl (nI (q + i)) = q + i := nI_clamp (by omega)
      have ei : cl (nI i) = i := nI_clamp (by omega)
      refine go_step [24] 60 ?_; intro G K hG hK
      refine br1z ?_
      refine isTrue_of (by rw [hbl]; rfl) ?_
      refine ⟨fun (g2 : nI (wd k).length ≤ nI i) => absurd g2 (nI_ge (by omega) (by omega)), fun _ => ?_⟩
      refine ⟨by show vp_in (M.1 44 0 48 + nI i) 400; rw [hbg, nI_add]; exact vp_in_nI (by omega) (by decide), ?_⟩
      refine isTrue_of (by rw [hbl]; rfl) ?_
      refine ⟨vp_in_nI (show i < (wd k).length by omega) (by show (wd k).length < _; omega), ?_⟩
      refine ⟨fun (g4 : ¬ M.1 81 0 (cl (M.1 44 0 48 + nI i)) = (wd k).getD (cl (nI i)) 0) => ?_, fun (g4 : ¬ ¬ M.1 81 0 (cl (M.1 44 0 48 + nI i)) = (wd k).getD (cl (nI i)) 0) => ?_⟩
      · rw [hbg, nI_add, ec, ei] at g4
        have hfin : Go Γ M_X7_isWord 24 [(2, vi 0)] [] (mk M) (0, 0) Q := by
          refine go_step [] 60 ?_; intro G K hG hK
          refine br0z ?_
          refine rb_f (fun z => ?_) h
          unfold isWM at z
          rw [Bool.and_eq_true, allB_iff] at z
          exact g4 (of_decide_eq_true (z.2 i (by omega)))
        exact hK _ _ _ _ _ (go_bus hfin ⟨rfl, trivial⟩)
      · rw [hbg, nI_add, ec, ei] at g4
        refine hK _ _ _ _ _ (go_bus (ih (i + 1) he (by omega) (fun j hj => ?_)) ⟨lvi (nI_1 i), rfl, rfl, rfl, trivial⟩)
        rcases Nat.lt_or_ge j i with z | z
        · exact hs j z
        · rw [show j = i by omega]; exact Decidable.not_not.mp g4
  refine gm_step [24] 60 ?_; intro G K hG hK
  refine isTrue_of (by rw [hbl]; rfl) ?_
  refine ⟨fun (g : ¬ M.1 44 0 46 - M.1 44 0 48 = nI (wd k).length) => ?_, fun (g : ¬ ¬ M.1 44 0 46 - M.1 44 0 48 = nI (wd k).length) => ?_⟩
  · rw [ha, hbg, pk_sub hqp, nI_eq (by omega) (by omega)] at g
    have hfin : Go Γ M_X7_isWord 24 [(2, vi 0)] [] (mk M) (0, 0) Q := by
      refine go_step [] 60 ?_; intro G K hG hK
      refine br0z ?_
      refine rb_f (fun z => ?_) h
      unfold isWM at z
      rw [Bool.and_eq_true, decide_eq_true_iff] at z
      omega
    exact hK _ _ _ _ _ (go_bus hfin ⟨rfl, trivial⟩)
  · have g := Decidable.not_not.mp g
    rw [ha, hbg, pk_sub hqp, nI_eq (by omega) (by omega)] at g
    exact hK _ _ _ _ _ (go_bus (key (wd k).length 0 (by omega) (by omega) (fun j hj => absurd hj (Nat.not_lt_zero _))) ⟨rfl, rfl, rfl, rfl, trivial⟩)
/-- the reference's words by their numbers -/
def wnL : List Nat := [7, 9, 15, 27, 4, 8, 14, 6, 26, 10]
def wn (k : Nat) : Nat := wnL.getD k 10
theorem wn_lt : ∀ k, k < 10 → wn k < 28 := by decide
theorem so_ldcSW {mi pc : Nat} {lv : LV} {r : List MV} {σ : Mem} {cnt : Nat × Nat} {idx s9 : Nat} {v : Int} (hm : mi < 163) (h7 : mOwnNo mi = 7) (hd : decode (mCode mi) pc = .ok (.ldc_w idx, 3)) (hf : look2 ldcL (mOwnNo mi) idx = some (33, v, s9)) (h : Go Γ mi (pc + 3) lv (.inr (202, s9) :: r) σ cnt Q) : Go Γ mi pc lv r σ cnt Q := by
  intro n0 p e s m args below meth c H locs ls hn M hl hW hS hlv hst h1
  have F := M.2.2.2.2.2.2.2.2
  have hstr := F.2.2.2.2.1 _ (look2_mem hf) rfl
  have k := h n0 p e s m args below meth c H locs ls hn M hl hW hS hlv (okS_cons (fun hq => absurd hq (by show ¬ (202 < 85); omega)) hst) h1
  intro T hT X
  obtain ⟨t, a1, b1⟩ := k T hT X
  rw [show sT ((mOwnNo mi, idx), 33, v, s9).1.1 = sT (mOwnNo mi) from rfl, h7] at hstr
  have hz : vk_R (mOwn mi) idx (strL.getD s9 "") (gX Γ 202 s9) s := by rw [mOwn_eq mi hm, h7]; exact hstr
  exact ⟨t, X.ldcStringW M.1 M.2.2.2.2.1 (text := strL.getD s9 "") (a := gX Γ 202 s9) hz.1 hz.2 (g := F0 m pc ls (r.map (toV Γ))) rfl (by rw [M.2.1]; exact hd) t a1, b1⟩
theorem go_word0 {σ : Mem} {lv : LV} {pc idx s9 : Nat} {v : Int} (hd : decode (mCode 126) pc = .ok (.ldc_w idx, 3)) (hf : look2 ldcL (mOwnNo 126) idx = some (33, v, s9)) (h : Go Γ 126 (pc + 3) lv [.inr (202, s9)] σ (0, 0) Q) : Go Γ 126 pc lv [] σ (0, 0) Q := so_ldcSW (by decide) rfl hd hf h
theorem go_wordr0 {σ : Mem} {lv : LV} (h : Q (.inl (some (vr 202 7))) σ) : Go Γ M_X7_word 52 lv [] σ (0, 0) Q := by
  refine go_word0 (idx := 256) (s9 := 7) (v := 0) (by decide +kernel) (by decide +kernel) ?_
  refine go_step [] 10 ?_; intro G K hG hK
  exact h
theorem go_wordr1 {σ : Mem} {lv : LV} (h : Q (.inl (some (vr 202 9))) σ) : Go Γ M_X7_word 56 lv [] σ (0, 0) Q := by
  refine go_word0 (idx := 258) (s9 := 9) (v := 0) (by decide +kernel) (by decide +kernel) ?_
  refine go_step [] 10 ?_; intro G K hG hK
  exact h
theorem go_wordr2 {σ : Mem} {lv : LV} (h : Q (.inl (some (vr 202 15))) σ) : Go Γ M_X7_word 60 lv [] σ (0, 0) Q := by
  refine go_word0 (idx := 260) (s9 := 15) (v := 0) (by decide +kernel) (by decide +kernel) ?_
  refine go_step [] 10 ?_; intro G K hG hK
  exact h
theorem go_wordr3 {σ : Mem} {lv : LV} (h : Q (.inl (some (vr 202 27))) σ) : Go Γ M_X7_word 64 lv [] σ (0, 0) Q := by
  refine go_word0 (idx := 262) (s9 := 27) (v := 0) (by decide +kernel) (by decide +kernel) ?_
  refine go_step [] 10 ?_; intro G K hG hK
  exact h
theorem go_wordr4 {σ : Mem} {lv : LV} (h : Q (.inl (some (vr 202 4))) σ) : Go Γ M_X7_word 68 lv [] σ (0, 0) Q := by
  refine go_word0 (idx := 264) (s9 := 4) (v := 0) (by decide +kernel) (by decide +kernel) ?_
  refine go_step [] 10 ?_; intro G K hG hK
  exact h
theorem go_wordr5 {σ : Mem} {lv : LV} (h : Q (.inl (some (vr 202 8))) σ) : Go Γ M_X7_word 72 lv [] σ (0, 0) Q := by
  refine go_word0 (idx := 266) (s9 := 8) (v := 0) (by decide +kernel) (by decide +kernel) ?_
  refine go_step [] 10 ?_; intro G K hG hK
  exact h
theorem go_wordr6 {σ : Mem} {lv : LV} (h : Q (.inl (some (vr 202 14))) σ) : Go Γ M_X7_word 76 lv [] σ (0, 0) Q := by
  refine go_word0 (idx := 268) (s9 := 14) (v := 0) (by decide +kernel) (by decide +kernel) ?_
  refine go_step [] 10 ?_; intro G K hG hK
  exact h
theorem go_wordr7 {σ : Mem} {lv : LV} (h : Q (.inl (some (vr 202 6))) σ) : Go Γ M_X7_word 80 lv [] σ (0, 0) Q := by
  refine go_word0 (idx := 270) (s9 := 6) (v := 0) (by decide +kernel) (by decide +kernel) ?_
  refine go_step [] 10 ?_; intro G K hG hK
  exact h
theorem go_wordr8 {σ : Mem} {lv : LV} (h : Q (.inl (some (vr 202 26))) σ) : Go Γ M_X7_word 84 lv [] σ (0, 0) Q := by
  refine go_word0 (idx := 272) (s9 := 26) (v := 0) (by decide +kernel) (by decide +kernel) ?_
  refine go_step [] 10 ?_; intro G K hG hK
  exact h
theorem go_wordr9 {σ : Mem} {lv : LV} (h : Q (.inl (some (vr 202 10))) σ) : Go Γ M_X7_word 88 lv [] σ (0, 0) Q := by
  refine go_word0 (idx := 274) (s9 := 10) (v := 0) (by decide +kernel) (by decide +kernel) ?_
  refine go_step [] 10 ?_; intro G K hG hK
  exact h
theorem go_word {k : Nat} {σ : Mem} (hk : k < 10) (h : Q (.inl (some (vr 202 (wn k)))) σ) : Gm Γ M_X7_word [vi (nI k)] σ Q := by
  refine gm_step [52, 56, 60, 64, 68, 72, 76, 80, 84, 88] 30 ?_; intro G K hG hK
  have hn : ∀ j, j < 9 → nI k = nI j → k = j := fun j hj e => (nI_eq (by omega) (by omega)).mp e
  refine ⟨⟨fun g => ?_, fun g => ?_, fun g => ?_, fun g => ?_, fun g => ?_, fun g => ?_, fun g => ?_, fun g => ?_, fun g => ?_, trivial⟩, fun g => ?_⟩
  · have e := hn 0 (by decide) g; subst e; exact hK _ _ _ _ _ (go_wordr0 h)
  · have e := hn 1 (by decide) g; subst e; exact hK _ _ _ _ _ (go_wordr1 h)
  · have e := hn 2 (by decide) g; subst e; exact hK _ _ _ _ _ (go_wordr2 h)
  · have e := hn 3 (by decide) g; subst e; exact hK _ _ _ _ _ (go_wordr3 h)
  · have e := hn 4 (by decide) g; subst e; exact hK _ _ _ _ _ (go_wordr4 h)
  · have e := hn 5 (by decide) g; subst e; exact hK _ _ _ _ _ (go_wordr5 h)
  · have e := hn 6 (by decide) g; subst e; exact hK _ _ _ _ _ (go_wordr6 h)
  · have e := hn 7 (by decide) g; subst e; exact hK _ _ _ _ _ (go_wordr7 h)
  · have e := hn 8 (by decide) g; subst e; exact hK _ _ _ _ _ (go_wordr8 h)
  · have g : (nI k).toInt < 0 ∨ (8 : Int) < (nI k).toInt := g
    rw [nI_toInt (by omega)] at g
    have e : k = 9 := by omega
    subst e; exact hK _ _ _ _ _ (go_wordr9 h)
/-- the first word from number k on (m of them) that stands at q, or none -/
def fndF (b : Nat → Int32) (n q : Nat) : Nat → Nat → Option Nat
  | 0, _ => none
  | m + 1, k => if isW b n q (wn k) = true then some k else fndF b n q m (k + 1)
theorem go_readWord {lo hi : Nat} (hT : TM M n p q) (hb : M.1 81 0 = b) (hlh : lo ≤ hi + 1) (hh : hi < 10)
    (hf : fndF b n (sk b n p) (hi + 1 - lo) lo = none → Q (rI (-1)) (mk (posM M (sk b n p) (sk b n p))))
    (ht : ∀ k, fndF b n (sk b n p) (hi + 1 - lo) lo = some k → Q (rI (nI k)) (mk (posM M (er b n 97 122 (sk b n p)) (sk b n p)))) : Gm Γ M_X7_readWord [vr 44 0, vi (nI lo), vi (nI hi)] (mk M) Q := by
  have hT0 := hT
  obtain ⟨hn, hp, hq, hl, ha, hbg⟩ := hT
  have hs := (sk_le (b := b) hp).2
  obtain ⟨e1, e2⟩ := er_le (b := b) (lo := 97) (hi := 122) hs
  refine gm_step [4] 60 ?_; intro G K hG hK
  refine hG _ _ _ _ (go_blanks hT0 hb ?_)
  generalize sk b n p = s at hf ht hs e1 e2 ⊢
  have hend : Go Γ M_X7_readWord 28 [(2, vi (nI hi)), (1, vi (nI lo)), (0, vr 44 0)] [] (mk (posM M (er b n 97 122 s) s)) (0, 0) Q := by
    have key : ∀ m k, k + m = hi + 1 → lo ≤ k → fndF b n s m k = fndF b n s (hi + 1 - lo) lo → Go Γ M_X7_readWord 30 [(3, vi (nI k)), (2, vi (nI hi)), (1, vi (nI lo)), (0, vr 44 0)] [] (mk (posM M (er b n 97 122 s) s)) (0, 0) Q := by
      intro m
      induction m with
      | zero =>
        intro k hk hlo he
        have hf := hf he.symm
        refine go_step [30] 60 ?_; intro G K hG hK
        refine ⟨fun _ => ?_, fun (g : ¬ nI hi < nI k) => absurd (nI_lt (by omega) (by omega)) g⟩
        have e : posM M s s = uI (posM M (er b n 97 122 s) s) 44 0 46 (nI s) := by
          unfold posM
          apply Prod.ext
          · funext x y z
            simp only [uI_1]
            by_cases h1 : x = 44 ∧ y = 0 ∧ z = 48
            · have h2 : ¬ (x = 44 ∧ y = 0 ∧ z = 46) := by omega
              rw [if_pos h1, if_neg h2, if_pos h1]
            · rw [if_neg h1]
              by_cases h2 : x = 44 ∧ y = 0 ∧ z = 46
              · rw [if_pos h2, if_pos h2]
              · rw [if_neg h2, if_neg h2, if_neg h1, if_neg h2]
          · rfl
        rw [e] at hf
        exact hf
      | succ m ih =>
        intro k hk hlo he
        rw [show fndF b n s (m + 1) k = if isW b n s (wn k) = true then some k else fndF b n s m (k + 1) from rfl] at he
        refine go_step [30] 60 ?_; intro G K hG hK
        refine ⟨fun (g : nI hi < nI k) => absurd g (nI_nlt (by omega) (by omega)), fun _ => ?_⟩
        refine hG _ _ _ _ (go_word (k := k) (by omega) ?_)
        have hTs : TM (posM M (er b n 97 122 s) s) n (er b n 97 122 s) s := hT0.posM e2 hs
        refine hG _ _ _ _ (go_isWord hTs e1 hb (wn_lt k (by omega)) ?_)
        have ew : isWM b (er b n 97 122 s) s (wn k) = isW b n s (wn k) := rfl
        rw [ew]
        refine br_z (fun g => ?_) (fun g => ?_)
        · rw [if_neg g] at he
          exact hK _ _ _ _ _ (go_bus (ih (k + 1) (by omega) (by omega) he) ⟨lvi (nI_1 k), rfl, rfl, rfl, trivial⟩)
        · rw [if_pos g] at he
          exact ht k he.symm
    refine go_step [30] 60 ?_; intro G K hG hK
    exact hK _ _ _ _ _ (go_bus (key (hi + 1 - lo) lo (by omega) (Nat.le_refl _) rfl) ⟨rfl, rfl, rfl, rfl, trivial⟩)
  have key : ∀ m i, i + m = n → erF b 97 122 m i = er b n 97 122 s → Go Γ M_X7_readWord 4 [(2, vi (nI hi)), (1, vi (nI lo)), (0, vr 44 0)] [] (mk (posM M i s)) (0, 0) Q := by
    intro m
    induction m with
    | zero =>
      intro i hi' he
      have hTi : TM (posM M i s) n i s := hT0.posM (by omega) hs
      have he : i = er b n 97 122 s := he
      refine go_step [28] 60 ?_; intro G K hG hK
      refine hG _ _ _ _ (go_misAt (lo := 97) (hi := 122) hTi hb ?_)
      refine br_z (fun _ => ?_) (fun g => absurd g.1 (by omega))
      rw [← he] at hend
      exact hK _ _ _ _ _ (go_bus hend ⟨rfl, rfl, rfl, trivial⟩)
    | succ m ih =>
      intro i hi' he
      have hTi : TM (posM M i s) n i s := hT0.posM (by omega) hs
      unfold erF at he
      refine go_step [4, 28] 60 ?_; intro G K hG hK
      refine hG _ _ _ _ (go_misAt (lo := 97) (hi := 122) hTi hb ?_)
      refine br_z (fun g => ?_) (fun g => ?_)
      · rw [if_neg (fun z => g ⟨by omega, z⟩)] at he
        rw [← he] at hend
        exact hK _ _ _ _ _ (go_bus hend ⟨rfl, rfl, rfl, trivial⟩)
      · rw [if_pos g.2] at he
        have h2 := ih (i + 1) (by omega) he
        have e : mk (posM M (i + 1) s) = mk (uI (posM M i s) 44 0 46 (nI i + 1)) := by
          rw [nI_1]
          unfold posM
          congr 1
          apply Prod.ext
          · funext x y z
            simp only [uI_1]
            by_cases h1 : x = 44 ∧ y = 0 ∧ z = 48
            · have h2 : ¬ (x = 44 ∧ y = 0 ∧ z = 46) := by omega
              rw [if_pos h1, if_neg h2, if_pos h1]
            · rw [if_neg h1]
              by_cases h2 : x = 44 ∧ y = 0 ∧ z = 46
              · rw [if_pos h2, if_pos h2]
              · rw [if_neg h2, if_neg h2, if_neg h1, if_neg h2]
          · rfl
        rw [e] at h2
        exact hK _ _ _ _ _ (go_bus h2 ⟨rfl, rfl, rfl, trivial⟩)
  exact hK _ _ _ _ _ (go_bus (key (n - s) s (by omega) rfl) ⟨rfl, rfl, rfl, trivial⟩)
theorem gm_readSign {c : Int32} (hT : TM M n p q) (hb : M.1 81 0 = b)
    (ht : tSign b n (sk b n p) c = true → Q (rI 1) (mk (posM M (sk b n p + 1) (sk b n p)))) (hf : ¬ tSign b n (sk b n p) c = true → Q (rI 0) (mk (posM M (sk b n p) (sk b n p)))) : Gm Γ M_X7_readSign [vr 44 0, vi c] (mk M) Q := by
  have hs := (sk_le (b := b) hT.2.1).2
  refine gm_step [] 60 ?_; intro G K hG hK
  refine hG _ _ _ _ (go_blanks hT hb ?_)
  refine hG _ _ _ _ (go_misAt (lo := c) (hi := c) (hT.posM hs hs) hb ?_)
  have ts : tSign b n (sk b n p) c = true ↔ (sk b n p < n ∧ c ≤ b (sk b n p) ∧ b (sk b n p) ≤ c) := by
    unfold tSign
    rw [Bool.and_eq_true, decide_eq_true_iff, decide_eq_true_iff]
    refine ⟨fun h => ⟨h.1, by rw [h.2]; exact Int32.le_refl _, by rw [h.2]; exact Int32.le_refl _⟩, fun h => ⟨h.1, Int32.le_antisymm h.2.2 h.2.1⟩⟩
  refine br_n (fun g => ?_) (fun g => rb0 (hf (fun z => g (ts.mp z))))
  have h := ht (ts.mpr g)
  have e : mk (posM M (sk b n p + 1) (sk b n p)) = mk (uI (posM M (sk b n p) (sk b n p)) 44 0 46 (nI (sk b n p) + 1)) := by
    rw [nI_1]
    unfold posM
    congr 1
    apply Prod.ext
    · funext x y z
      simp only [uI_1]
      by_cases h1 : x = 44 ∧ y = 0 ∧ z = 48
      · have h2 : ¬ (x = 44 ∧ y = 0 ∧ z = 46) := by omega
        rw [if_pos h1, if_neg h2, if_pos h1]
      · rw [if_neg h1]
        by_cases h2 : x = 44 ∧ y = 0 ∧ z = 46
        · rw [if_pos h2, if_pos h2]
        · rw [if_neg h2, if_neg h2, if_neg h1, if_neg h2]
    · rfl
  rw [e] at h
  exact rb1 h
end MTAP
