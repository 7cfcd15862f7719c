/-! System.arraycopy of numbers, from the begin. -/
theorem cellE_pC {Γ : GG} {σ : Mem} {t i u j n : Nat} : ∀ q : Nat × Nat, q ≠ (u, j) → cellE Γ (pC σ t i u j n) q = cellE Γ σ q := fun q h => cellE_congr (by
  funext k
  show (if q.1 = u ∧ q.2 = j ∧ k < n then mI σ t i k else mI σ q.1 q.2 k) = _
  rw [if_neg (fun e => ne_pair h ⟨e.1, e.2.1⟩)]) rfl rfl
theorem Wd_pC0 {Γ : GG} {σ : Mem} {H H1 : Heap} {t i u j n : Nat} (h : Wd Γ σ H) (ha : alive σ u j) (hP : va_P (gD Γ) vwCl (wsOf Γ (pC σ t i u j n)) H1) (hD : va_D (gA Γ) (wsOf Γ (pC σ t i u j n))) (hz : gB Γ ≤ H1.size) (hn : σ.1 = none) : Wd Γ (pC σ t i u j n) H1 := by
  obtain ⟨-, -, h3, h4, h5, h6⟩ := h
  refine ⟨hP, hD, hz, fun k hn2 => ?_, fun a b c d hl hd => h5 a b c d hl hd, fun k0 hk0 a b hab k => ?_⟩
  · rw [show σ.1 = some k from hn2] at hn; cases hn
  · have hne : ¬ (a = u ∧ b = j) := fun e => hab (by rw [e.1, e.2]; exact ha)
    have h7 := h6 k0 hk0 a b hab k
    refine ⟨?_, h7.2⟩
    show (if a = u ∧ b = j ∧ k < n then mI σ t i k else mI σ a b k) = 0
    rw [if_neg (fun e => hne ⟨e.1, e.2.1⟩)]
    exact h7.1
theorem mo_C {σ : Mem} {t i u j n : Nat} {v : MV} (h : okV σ v) : okV (pC σ t i u j n) v := by
  rcases v with v | q
  · exact h
  · exact fun hq => (alive_of rfl).mpr (h hq)
theorem so_copy {Γ : GG} {mi pc : Nat} {lv : LV} {r : List MV} {σ : Mem} {cnt : Nat × Nat} {Q : Out → Mem → Prop} {idx b na t i u j : Nat} {z dp sp : Int32} (hm : mi < 163) (hd : decode (mCode mi) pc = .ok (.invokestatic idx, 3)) (hf : look2 calL (mOwnNo mi) idx = some (27, b, na)) (hok : natOk mi cnt r = true) (hk1 : kdK t = 10) (hk2 : kdK u = 10) (hn9 : σ.1 = none) (hsp : sp = 0) (hdp : dp = 0) (hz : ¬ z < 0) (hl1 : z.toNatClampNeg ≤ lenT t) (hl2 : z.toNatClampNeg ≤ lenT u)
    (h : Go Γ mi (pc + 3) lv r (pC σ t i u j z.toNatClampNeg) cnt Q) : Go Γ mi pc lv (.inl (.int z) :: .inl (.int dp) :: .inr (u, j) :: .inl (.int sp) :: .inr (t, i) :: r) σ cnt Q := by
  subst hsp
  subst hdp
  intro n0 p e s m args below meth c H locs ls hn M hl hW hS hlv hst h1
  obtain ⟨k1, k2, k3, k4, k5⟩ := natOk_spec hok
  have w := M.2.2.2.2.2.1
  have ha2 : alive σ u j := okS_hd (okS_tl (okS_tl hst)) (kdK_in hk2 (by decide))
  have ha1 : alive σ t i := okS_hd (okS_tl (okS_tl (okS_tl (okS_tl hst)))) (kdK_in hk1 (by decide))
  have c1 := ws_get (Γ := Γ) ha1
  rw [cell_num hk1 (by decide) (by decide) (by decide)] at c1
  have c2 := ws_get (Γ := Γ) ha2
  rw [cell_num hk2 (by decide) (by decide) (by decide)] at c2
  have e0 : (0 : Int32).toNatClampNeg = 0 := rfl
  refine va_copyi M.1 M.2.1 (M.2.2.1.trans hl.1.symm) M.2.2.2.2.1 (w _ (by rw [mOwn_eq mi hm]; exact (lib_words hf (Or.inr (Or.inl rfl))).1)) (w _ (math_w _ (by simp))) (w _ (math_w _ (by simp))) (w _ (math_w _ (by simp))) M.2.2.2.2.2.2.2.2.1 hW.1 hW.2.1 hS (ordT t i) (ordT u j) 0 0 c1 c2 rfl rfl rfl (by decide) (by decide) hz (by rw [e0]; omega) (by rw [e0]; omega) (fun _ _ => rfl) k3 ?_ hd (fun H1 locs1 hP1 hD1 hS1 => ?_)
  · show _ + (7 + 11) ≤ mLo mi
    rw [sumC_cat]
    omega
  · have hset : (wsOf Γ σ).set (ordT u j) (adr Γ u j, .inl (gC Γ 10, lenT u, .inl (va_cpy (mI σ t i) (mI σ u j) (0 : Int32).toNatClampNeg (0 : Int32).toNatClampNeg z.toNatClampNeg))) = wsOf Γ (pC σ t i u j z.toNatClampNeg) := by
      rw [← ws_set (Γ := Γ) (σ' := pC σ t i u j z.toNatClampNeg) ha2 rfl cellE_pC, cell_num hk2 (by decide) (by decide) (by decide)]
      have e2 : mI (pC σ t i u j z.toNatClampNeg) u j = va_cpy (mI σ t i) (mI σ u j) (0 : Int32).toNatClampNeg (0 : Int32).toNatClampNeg z.toNatClampNeg := by
        funext q
        show (if u = u ∧ j = j ∧ q < z.toNatClampNeg then mI σ t i q else mI σ u j q) = (if 0 ≤ q ∧ q < 0 + z.toNatClampNeg then mI σ t i (0 + (q - 0)) else mI σ u j q)
        by_cases hq : q < z.toNatClampNeg
        · rw [if_pos ⟨rfl, rfl, hq⟩, if_pos ⟨Nat.zero_le _, by omega⟩]
          congr 1
          omega
        · rw [if_neg (fun e => hq e.2.2), if_neg (fun e => hq (by omega))]
      rw [e2]
    rw [hset] at hP1 hD1
    exact h n0 p e s m args below meth c H1 locs1 ls hn M hl (Wd_pC0 hW ha2 hP1 hD1 (Nat.le_trans M.2.2.2.2.2.2.2.2.2.1 hS1.1) hn9) hS1 (fun q hq => mo_C (hlv q hq)) (fun q hq => mo_C (okS_tl (okS_tl (okS_tl (okS_tl (okS_tl hst)))) q hq)) h1
