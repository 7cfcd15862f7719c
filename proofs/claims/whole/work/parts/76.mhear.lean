/-! Letters in the reference, and both alike. -/
def GrpM (B : MM) (i c : Nat) : Prop := B.1 58 0 i = 0 ∧ B.1 58 0 c = 0 ∧ B.1 59 0 i = B.1 59 0 c
def SndM (ns nc : Nat) (B M : MM) : Prop := eqKM B M ∧ (∀ c m, c < nc → m < 12 → B.1 66 0 (12 * c + m) ≤ M.1 66 0 (12 * c + m)) ∧
  ∀ c m, c < nc → m < 12 → ∃ i, i < nc ∧ (i = c ∨ (GrpM B i c ∧ m < ns)) ∧ M.1 66 0 (12 * c + m) = B.1 66 0 (12 * i + m) ∧ M.1 65 0 (12 * c + m) = B.1 65 0 (12 * i + m)
def le66 (nc : Nat) (M M' : MM) : Prop := ∀ c m, c < nc → m < 12 → M.1 66 0 (12 * c + m) ≤ M'.1 66 0 (12 * c + m)
section MHEA
variable {A B M M' M2 : MM} {ns nc s m b : Nat}
theorem le66.rfl' : le66 nc M M := fun _ _ _ _ => Int32.le_refl _
theorem le66.trans (h : le66 nc M M') (h2 : le66 nc M' M2) : le66 nc M M2 := fun c m hc hm => Int32.le_trans (h c m hc hm) (h2 c m hc hm)
theorem GrpM.trans {i j k : Nat} (h : GrpM A i j) (h2 : GrpM A j k) : GrpM A i k := ⟨h.1, h2.2.1, h.2.2.trans h2.2.2⟩
theorem best_sp (hm : m < 12) : ∀ n, n ≤ 12 → (mBest M (nI s) (nI m) n = -1 ∧ ∀ i, i < n → (M.1 58 0 i = 0 ∧ M.1 59 0 i = nI s) → M.1 66 0 (12 * i + m) < 0) ∨ ∃ b, b < n ∧ mBest M (nI s) (nI m) n = nI b ∧ (M.1 58 0 b = 0 ∧ M.1 59 0 b = nI s) ∧ ¬ M.1 66 0 (12 * b + m) < 0 ∧ ∀ i, i < n → (M.1 58 0 i = 0 ∧ M.1 59 0 i = nI s) → M.1 66 0 (12 * i + m) ≤ M.1 66 0 (12 * b + m)
  | 0, _ => Or.inl ⟨rfl, fun i hi => absurd hi (Nat.not_lt_zero _)⟩
  | n + 1, hn => by
    have en : cl (12 * nI n + nI m) = 12 * n + m := (v144 (c := n) (k := m) (by omega) hm rfl rfl).2
    unfold mBest
    rw [en]
    rcases best_sp hm n (by omega) with ⟨e, h⟩ | ⟨b, hb, e, hg, h0, h⟩
    · rw [e]
      by_cases q : (M.1 58 0 n = 0 ∧ M.1 59 0 n = nI s) ∧ ¬ M.1 66 0 (12 * n + m) < 0
      · right
        rw [if_pos ⟨q.1, q.2, Or.inl (by decide)⟩]
        refine ⟨n, by omega, rfl, q.1, q.2, fun i hi hgi => ?_⟩
        by_cases z : i = n
        · subst z; exact Int32.le_refl _
        · exact Int32.le_of_lt (Int32.lt_of_lt_of_le (h i (by omega) hgi) (Int32.not_lt.mp q.2))
      · left
        rw [if_neg (fun z => q ⟨z.1, z.2.1⟩)]
        refine ⟨rfl, fun i hi hgi => ?_⟩
        by_cases z : i = n
        · subst z; exact Decidable.byContradiction (fun y => q ⟨hgi, y⟩)
        · exact h i (by omega) hgi
    · right
      rw [e, (v144 (c := b) (k := m) (by omega) hm rfl rfl).2]
      by_cases q : (M.1 58 0 n = 0 ∧ M.1 59 0 n = nI s) ∧ ¬ M.1 66 0 (12 * n + m) < 0 ∧ (nI b < 0 ∨ ¬ M.1 66 0 (12 * n + m) ≤ M.1 66 0 (12 * b + m))
      · rw [if_pos q]
        have hlt : ¬ M.1 66 0 (12 * n + m) ≤ M.1 66 0 (12 * b + m) := by
          rcases q.2.2 with y | y
          · exact absurd y (nI_pos (by omega))
          · exact y
        refine ⟨n, by omega, rfl, q.1, q.2.1, fun i hi hgi => ?_⟩
        by_cases z : i = n
        · subst z; exact Int32.le_refl _
        · exact Int32.le_trans (h i (by omega) hgi) (Int32.le_of_lt (Int32.not_le.mp hlt))
      · rw [if_neg q]
        refine ⟨b, by omega, rfl, hg, h0, fun i hi hgi => ?_⟩
        by_cases z : i = n
        · subst z
          by_cases y : M.1 66 0 (12 * i + m) < 0
          · exact Int32.le_of_lt (Int32.lt_of_lt_of_le y (Int32.not_lt.mp h0))
          · exact Decidable.byContradiction (fun w => q ⟨hgi, y, Or.inr w⟩)
        · exact h i (by omega) hgi
theorem eqKM_copy (s m b : Int32) (i : Nat) (M : MM) : eqKM M (mCopy s m b i M) := by
  unfold mCopy; split
  · exact eqKM.u5.trans eqKM.u6
  · exact eqKM.rfl'
theorem copy_at (hm : m < 12) (hb : b < 12) : ∀ k, k ≤ 12 → ∀ i m', i < 12 → m' < 12 → (rep (mCopy (nI s) (nI m) (nI b)) k M).1 66 0 (12 * i + m') = (if i < k ∧ (M.1 58 0 i = 0 ∧ M.1 59 0 i = nI s) ∧ m' = m then M.1 66 0 (12 * b + m) else M.1 66 0 (12 * i + m')) ∧ (rep (mCopy (nI s) (nI m) (nI b)) k M).1 65 0 (12 * i + m') = (if i < k ∧ (M.1 58 0 i = 0 ∧ M.1 59 0 i = nI s) ∧ m' = m then M.1 65 0 (12 * b + m) else M.1 65 0 (12 * i + m'))
  | 0, _, i, m', _, _ => by
    refine ⟨?_, ?_⟩
    · rw [if_neg (fun z => Nat.not_lt_zero _ z.1)]; rfl
    · rw [if_neg (fun z => Nat.not_lt_zero _ z.1)]; rfl
  | k + 1, hk, i, m', hi, hm' => by
    obtain ⟨ih1, ih2⟩ := copy_at hm hb k (by omega) i m' hi hm'
    obtain ⟨ib1, ib2⟩ := copy_at hm hb k (by omega) b m hb hm
    rw [ite_self] at ib1 ib2
    have e : eqKM M (rep (mCopy (nI s) (nI m) (nI b)) k M) := eqKM_rep (fun i M => eqKM_copy _ _ _ i M) k M
    show (mCopy (nI s) (nI m) (nI b) k (rep (mCopy (nI s) (nI m) (nI b)) k M)).1 66 0 (12 * i + m') = _ ∧ (mCopy (nI s) (nI m) (nI b) k (rep (mCopy (nI s) (nI m) (nI b)) k M)).1 65 0 (12 * i + m') = _
    generalize rep (mCopy (nI s) (nI m) (nI b)) k M = N at ih1 ih2 ib1 ib2 e ⊢
    unfold mCopy
    rw [e.2 58 (by decide) (by decide), e.2 59 (by decide) (by decide), (v144 (c := k) (k := m) (by omega) hm rfl rfl).2, (v144 (c := b) (k := m) hb hm rfl rfl).2, ib1, ib2]
    by_cases q : M.1 58 0 k = 0 ∧ M.1 59 0 k = nI s
    · rw [if_pos q]
      have u6 : (uI (uI N 65 0 (12 * k + m) (M.1 65 0 (12 * b + m))) 66 0 (12 * k + m) (M.1 66 0 (12 * b + m))).1 66 0 (12 * i + m') = if i = k ∧ m' = m then M.1 66 0 (12 * b + m) else N.1 66 0 (12 * i + m') := by
        have : (12 * i + m' = 12 * k + m) ↔ (i = k ∧ m' = m) := by omega
        simp [uI_1, this]
      have u5 : (uI (uI N 65 0 (12 * k + m) (M.1 65 0 (12 * b + m))) 66 0 (12 * k + m) (M.1 66 0 (12 * b + m))).1 65 0 (12 * i + m') = if i = k ∧ m' = m then M.1 65 0 (12 * b + m) else N.1 65 0 (12 * i + m') := by
        have : (12 * i + m' = 12 * k + m) ↔ (i = k ∧ m' = m) := by omega
        simp [uI_1, this]
      have h1 : (i = k ∧ m' = m) → (i < k + 1 ∧ (M.1 58 0 i = 0 ∧ M.1 59 0 i = nI s) ∧ m' = m) := by
        rintro ⟨rfl, rfl⟩
        exact ⟨by omega, q, rfl⟩
      have h2 : ¬ (i = k ∧ m' = m) → ((i < k + 1 ∧ (M.1 58 0 i = 0 ∧ M.1 59 0 i = nI s) ∧ m' = m) ↔ (i < k ∧ (M.1 58 0 i = 0 ∧ M.1 59 0 i = nI s) ∧ m' = m)) := fun q => lt1 (fun y z => q ⟨z, y.2⟩)
      rw [u6, u5, ih1, ih2]
      exact ⟨ite3 (fun _ => rfl) h1 h2, ite3 (fun _ => rfl) h1 h2⟩
    · have h2 : (i < k + 1 ∧ (M.1 58 0 i = 0 ∧ M.1 59 0 i = nI s) ∧ m' = m) ↔ (i < k ∧ (M.1 58 0 i = 0 ∧ M.1 59 0 i = nI s) ∧ m' = m) := lt1 (fun y z => q (by rw [← z]; exact y.1))
      rw [if_neg q, ih1, ih2]
      exact ⟨ite2 h2, ite2 h2⟩
/-- a day that is known, or -1 -/
def kOk (nc : Nat) (B : MM) : Prop := ∀ c m, c < nc → m < 12 → B.1 66 0 (12 * c + m) = -1 ∨ 0 ≤ B.1 66 0 (12 * c + m)
theorem SndM.share (h : SndM ns nc B M) (hk : kOk nc B) (hn : nc ≤ 12) (hns : ns ≤ 12) (hm : m < ns) : SndM ns nc B (mShares nc (nI s) (nI m) M) ∧ le66 nc M (mShares nc (nI s) (nI m) M) ∧ ∀ i j, i < nc → j < nc → (B.1 58 0 i = 0 ∧ B.1 59 0 i = nI s) → (B.1 58 0 j = 0 ∧ B.1 59 0 j = nI s) → M.1 66 0 (12 * i + m) ≤ (mShares nc (nI s) (nI m) M).1 66 0 (12 * j + m) := by
  obtain ⟨h1, h2, h3⟩ := h
  have e58 : M.1 58 = B.1 58 := h1.2 58 (by decide) (by decide)
  have e59 : M.1 59 = B.1 59 := h1.2 59 (by decide) (by decide)
  have hkM : kOk nc M := fun c m hc hm => by
    obtain ⟨i, hi, -, y, -⟩ := h3 c m hc hm
    rw [y]; exact hk i m hi hm
  unfold mShares
  rcases best_sp (M := M) (s := s) (m := m) (by omega) nc hn with ⟨e, hb⟩ | ⟨b, hbn, e, hg, h0, hb⟩
  · rw [e, if_pos (by decide)]
    refine ⟨⟨h1, h2, h3⟩, le66.rfl', fun i j hi hj hgi hgj => ?_⟩
    rw [← e58, ← e59] at hgi hgj
    have y1 := hb i hi hgi
    have y2 := hb j hj hgj
    rcases hkM i m hi (by omega) with z1 | z1
    · rcases hkM j m hj (by omega) with z2 | z2
      · rw [z1, z2]; exact Int32.le_refl _
      · exact absurd y2 (Int32.not_lt.mpr z2)
    · exact absurd y1 (Int32.not_lt.mpr z1)
  · rw [e, if_neg (nI_pos (by omega))]
    have a6 := fun i m' hi hm' => (copy_at (M := M) (s := s) (m := m) (b := b) (by omega) (by omega) nc hn i m' hi hm').1
    have a5 := fun i m' hi hm' => (copy_at (M := M) (s := s) (m := m) (b := b) (by omega) (by omega) nc hn i m' hi hm').2
    have hE : eqKM M (rep (mCopy (nI s) (nI m) (nI b)) nc M) := eqKM_rep (fun i M => eqKM_copy _ _ _ i M) nc M
    generalize rep (mCopy (nI s) (nI m) (nI b)) nc M = N at a6 a5 hE ⊢
    have hmono : le66 nc M N := fun c m' hc hm' => by
      rw [a6 c m' (by omega) hm']
      by_cases z : c < nc ∧ (M.1 58 0 c = 0 ∧ M.1 59 0 c = nI s) ∧ m' = m
      · rw [if_pos z, z.2.2]; exact hb c hc z.2.1
      · rw [if_neg z]; exact Int32.le_refl _
    refine ⟨⟨h1.trans hE, fun c m' hc hm' => Int32.le_trans (h2 c m' hc hm') (hmono c m' hc hm'), fun c m' hc hm' => ?_⟩, hmono, fun i j hi hj hgi hgj => ?_⟩
    · rw [a6 c m' (by omega) hm', a5 c m' (by omega) hm']
      by_cases z : c < nc ∧ (M.1 58 0 c = 0 ∧ M.1 59 0 c = nI s) ∧ m' = m
      · rw [if_pos z, if_pos z]
        obtain ⟨-, hgc, rfl⟩ := z
        rw [e58, e59] at hgc hg
        have hgb : GrpM B b c := ⟨hg.1, hgc.1, hg.2.trans hgc.2.symm⟩
        obtain ⟨j, hj, g, y⟩ := h3 b m' hbn hm'
        refine ⟨j, hj, Or.inr ?_, y⟩
        rcases g with rfl | ⟨g, -⟩
        · exact ⟨hgb, hm⟩
        · exact ⟨g.trans hgb, hm⟩
      · rw [if_neg z, if_neg z]
        exact h3 c m' hc hm'
    · rw [← e58, ← e59] at hgi hgj
      rw [a6 j m (by omega) (by omega), if_pos ⟨hj, hgj, rfl⟩]
      exact hb i hi hgi
theorem letS_sp (h : SndM ns nc B M) (hk : kOk nc B) (hn : nc ≤ 12) (hns : ns ≤ 12) : ∀ k, k ≤ ns → SndM ns nc B (rep (fun m A => mShares nc (nI s) (nI m) A) k M) ∧ le66 nc M (rep (fun m A => mShares nc (nI s) (nI m) A) k M) ∧ ∀ i j m, m < k → i < nc → j < nc → (B.1 58 0 i = 0 ∧ B.1 59 0 i = nI s) → (B.1 58 0 j = 0 ∧ B.1 59 0 j = nI s) → B.1 66 0 (12 * i + m) ≤ (rep (fun m A => mShares nc (nI s) (nI m) A) k M).1 66 0 (12 * j + m)
  | 0, _ => ⟨h, le66.rfl', fun i j m hm => by omega⟩
  | k + 1, hk2 => by
    obtain ⟨s1, l1, t1⟩ := letS_sp h hk hn hns k (by omega)
    show SndM ns nc B (mShares nc (nI s) (nI k) (rep (fun m A => mShares nc (nI s) (nI m) A) k M)) ∧ le66 nc M (mShares nc (nI s) (nI k) (rep (fun m A => mShares nc (nI s) (nI m) A) k M)) ∧ ∀ i j m, m < k + 1 → i < nc → j < nc → (B.1 58 0 i = 0 ∧ B.1 59 0 i = nI s) → (B.1 58 0 j = 0 ∧ B.1 59 0 j = nI s) → B.1 66 0 (12 * i + m) ≤ (mShares nc (nI s) (nI k) (rep (fun m A => mShares nc (nI s) (nI m) A) k M)).1 66 0 (12 * j + m)
    generalize rep (fun m A => mShares nc (nI s) (nI m) A) k M = N at s1 l1 t1 ⊢
    obtain ⟨s2, l2, t2⟩ := s1.share (s := s) (m := k) hk hn hns (by omega)
    refine ⟨s2, l1.trans l2, fun i j m hm hi hj hgi hgj => ?_⟩
    by_cases z : m = k
    · subst z
      exact Int32.le_trans (s1.2.1 i m hi (by omega)) (t2 i j hi hj hgi hgj)
    · exact Int32.le_trans (t1 i j m (by omega) hi hj hgi hgj) (l2 j m hj (by omega))
theorem mlet_sp (h : SndM ns nc B M) (hk : kOk nc B) (hn : nc ≤ 12) (hns : ns ≤ 12) : ∀ k, k ≤ ns → SndM ns nc B (rep (mLetS ns nc) k M) ∧ le66 nc M (rep (mLetS ns nc) k M) ∧ ∀ s i j m, s < k → m < ns → i < nc → j < nc → (B.1 58 0 i = 0 ∧ B.1 59 0 i = nI s) → (B.1 58 0 j = 0 ∧ B.1 59 0 j = nI s) → B.1 66 0 (12 * i + m) ≤ (rep (mLetS ns nc) k M).1 66 0 (12 * j + m)
  | 0, _ => ⟨h, le66.rfl', fun s i j m hs => by omega⟩
  | k + 1, hk2 => by
    obtain ⟨s1, l1, t1⟩ := mlet_sp h hk hn hns k (by omega)
    show SndM ns nc B (mLetS ns nc k (rep (mLetS ns nc) k M)) ∧ le66 nc M (mLetS ns nc k (rep (mLetS ns nc) k M)) ∧ ∀ s i j m, s < k + 1 → m < ns → i < nc → j < nc → (B.1 58 0 i = 0 ∧ B.1 59 0 i = nI s) → (B.1 58 0 j = 0 ∧ B.1 59 0 j = nI s) → B.1 66 0 (12 * i + m) ≤ (mLetS ns nc k (rep (mLetS ns nc) k M)).1 66 0 (12 * j + m)
    generalize rep (mLetS ns nc) k M = N at s1 l1 t1 ⊢
    unfold mLetS
    obtain ⟨s2, l2, t2⟩ := letS_sp (s := k) s1 hk hn hns ns (Nat.le_refl _)
    refine ⟨s2, l1.trans l2, fun s i j m hs hm hi hj hgi hgj => ?_⟩
    by_cases z : s = k
    · subst z
      exact t2 i j m hm hi hj hgi hgj
    · exact Int32.le_trans (t1 s i j m (by omega) hm hi hj hgi hgj) (l2 j m hj (by omega))
theorem mlet_top (B : MM) (hW : WM ns nc B) (hk : kOk nc B) : SndM ns nc B (mLet ns nc B) ∧ ∀ j i m, i < nc → j < nc → GrpM B i j → m < ns → B.1 66 0 (12 * i + m) ≤ (mLet ns nc B).1 66 0 (12 * j + m) := by
  have h0 : SndM ns nc B B := ⟨eqKM.rfl', fun _ _ _ _ => Int32.le_refl _, fun c m hc _ => ⟨c, hc, Or.inl rfl, rfl, rfl⟩⟩
  obtain ⟨s, -, t⟩ := mlet_sp h0 hk hW.lc hW.ls ns (Nat.le_refl _)
  refine ⟨s, fun j i m hi hj hg hm => ?_⟩
  obtain ⟨p, hp, ep⟩ := hW.at hj
  exact t p i j m hp hm hi hj ⟨hg.1, hg.2.2.trans ep⟩ ⟨hg.2.1, ep⟩
/-- letters tell alike -/
theorem rKn.let' (h : rKn nc A B) (hC : rCa nc A B) (hA : WC ns nc A) (hW : WM ns nc B) : rKn nc (cD5 ns nc A) (mLet ns nc B) := by
  have hns := hA.ls
  have hn := hA.lc
  obtain ⟨h1, h2, f, h3⟩ := h
  have hk : kOk nc B := fun c m hc hm => by
    obtain ⟨y, z⟩ := h1 c m hc hm
    rw [← y]
    rcases z with z | z
    · exact Or.inl z.1
    · exact Or.inr z.1
  have hG : ∀ i c, i < nc → c < nc → (GrpM B i c ↔ Grp A i c) := fun i c hi hc => by
    obtain ⟨-, -, -, -, a5, a6, -⟩ := hC.2.1 i hi
    obtain ⟨-, -, -, -, b5, b6, -⟩ := hC.2.1 c hc
    unfold GrpM Grp
    rw [a5, a6, b5, b6]
  obtain ⟨sA, tA⟩ := let_top (ns := ns) (nc := nc) A
  obtain ⟨sB, tB⟩ := mlet_top (ns := ns) (nc := nc) B hW hk
  have e13 : (cD5 ns nc A).1 0 0 13 = A.1 0 0 13 := by rw [sA.1.2 0 (by decide) (by decide)]
  generalize cD5 ns nc A = A' at sA tA e13 ⊢
  generalize mLet ns nc B = B' at sB tB ⊢
  have hday : ∀ c m, c < nc → m < 12 → A'.1 29 c m = B'.1 66 0 (12 * c + m) := fun c m hc hm => by
    obtain ⟨i, hi, gi, y, -⟩ := sA.2.2.2 c m hc
    obtain ⟨j, hj, gj, z, -⟩ := sB.2.2 c m hc hm
    refine Int32.le_antisymm ?_ ?_
    · rw [y, (h1 i m hi hm).1]
      rcases gi with rfl | ⟨gi, hms⟩
      · exact sB.2.1 i m hi hm
      · exact tB c i m hi hc ((hG i c hi hc).mpr gi) hms
    · rw [z, ← (h1 j m hj hm).1]
      rcases gj with rfl | ⟨gj, hms⟩
      · exact sA.2.2.1 j m
      · exact tA c j m hj hc ((hG j c hj hc).mp gj) hms
  refine ⟨fun c m hc hm => ⟨hday c m hc hm, ?_⟩, fun c m hc hc2 hm => ?_, f, fun c m hc hm h0 => ?_⟩
  · have hd := hday c m hc hm
    obtain ⟨i, hi, gi, y, y2⟩ := sA.2.2.2 c m hc
    obtain ⟨j, hj, gj, z, z2⟩ := sB.2.2 c m hc hm
    rcases (h1 i m hi hm).2 with w | w
    · left; rw [y, y2]; exact w
    · right
      rw [y, y2, z2]
      refine ⟨w.1, ?_⟩
      have e : A.1 29 i m = A.1 29 j m := by rw [← y, hd, z, (h1 j m hj hm).1]
      have w2 : 0 ≤ A.1 29 j m := by rw [← e]; exact w.1
      rw [(h3 i m hi hm w.1).1, e, ← (h3 j m hj hm w2).1]
      rcases (h1 j m hj hm).2 with x | x
      · rw [x.1] at w2; exact absurd w2 (by decide)
      · exact x.2
  · rw [(sA.2.1 c m hc).1, (sA.2.1 c m hc).2]
    exact h2 c m hc hc2 hm
  · obtain ⟨i, hi, gi, y, y2⟩ := sA.2.2.2 c m hc
    rw [y] at h0 ⊢
    rw [y2, e13]
    exact h3 i m hi hm h0
end MHEA
