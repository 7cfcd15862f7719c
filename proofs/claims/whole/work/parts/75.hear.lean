/-! Letters in the class: what each knows behind them. -/
def Grp (A : MM) (i c : Nat) : Prop := A.1 15 i 5 = 0 ∧ A.1 15 c 5 = 0 ∧ A.1 15 i 6 = A.1 15 c 6
def Snd (ns nc : Nat) (A M : MM) : Prop := eqK A M ∧ (∀ c m, nc ≤ c → M.1 29 c m = A.1 29 c m ∧ M.1 28 c m = A.1 28 c m) ∧ (∀ c m, A.1 29 c m ≤ M.1 29 c m) ∧
  ∀ c m, c < nc → ∃ i, i < nc ∧ (i = c ∨ (Grp A i c ∧ m < ns)) ∧ M.1 29 c m = A.1 29 i m ∧ M.1 28 c m = A.1 28 i m
def le29 (M M' : MM) : Prop := ∀ c m, M.1 29 c m ≤ M'.1 29 c m
section HEAR
variable {A M M' M2 : MM} {ns nc c d : Nat}
theorem le29.rfl' : le29 M M := fun _ _ => Int32.le_refl _
theorem le29.trans (h : le29 M M') (h2 : le29 M' M2) : le29 M M2 := fun c m => Int32.le_trans (h c m) (h2 c m)
theorem Grp.trans {i j k : Nat} (h : Grp A i j) (h2 : Grp A j k) : Grp A i k := ⟨h.1, h2.2.1, h.2.2.trans h2.2.2⟩
theorem Grp.symm {i j : Nat} (h : Grp A i j) : Grp A j i := ⟨h.2.1, h.1, h.2.2.symm⟩
theorem hear_at (hne : c ≠ d) : ∀ k i m, (rep (cHear1 c d) k M).1 29 i m = (if m < k ∧ i = c ∧ ¬ M.1 29 d m ≤ M.1 29 c m then M.1 29 d m else M.1 29 i m) ∧ (rep (cHear1 c d) k M).1 28 i m = (if m < k ∧ i = c ∧ ¬ M.1 29 d m ≤ M.1 29 c m then M.1 28 d m else M.1 28 i m)
  | 0, i, m => by
    refine ⟨?_, ?_⟩
    · rw [if_neg (fun z => Nat.not_lt_zero _ z.1)]; rfl
    · rw [if_neg (fun z => Nat.not_lt_zero _ z.1)]; rfl
  | k + 1, i, m => by
    obtain ⟨ih1, ih2⟩ := hear_at hne k i m
    obtain ⟨id1, id2⟩ := hear_at hne k d k
    obtain ⟨ic1, -⟩ := hear_at hne k c k
    rw [if_neg (fun z => hne z.2.1.symm)] at id1 id2
    rw [if_neg (fun z => Nat.lt_irrefl _ z.1)] at ic1
    show (cHear1 c d k (rep (cHear1 c d) k M)).1 29 i m = _ ∧ (cHear1 c d k (rep (cHear1 c d) k M)).1 28 i m = _
    generalize rep (cHear1 c d) k M = N at ih1 ih2 id1 id2 ic1 ⊢
    unfold cHear1
    rw [id1, id2, ic1]
    by_cases h : M.1 29 d k ≤ M.1 29 c k
    · have h2 : (m < k + 1 ∧ i = c ∧ ¬ M.1 29 d m ≤ M.1 29 c m) ↔ (m < k ∧ i = c ∧ ¬ M.1 29 d m ≤ M.1 29 c m) := lt1 (fun y z => y.2 (by rw [z]; exact h))
      rw [if_pos h, ih1, ih2]
      exact ⟨ite2 h2, ite2 h2⟩
    · rw [if_neg h]
      have u9 : (uI (uI N 29 c k (M.1 29 d k)) 28 c k (M.1 28 d k)).1 29 i m = if i = c ∧ m = k then M.1 29 d k else N.1 29 i m := by simp [uI_1]
      have u8 : (uI (uI N 29 c k (M.1 29 d k)) 28 c k (M.1 28 d k)).1 28 i m = if i = c ∧ m = k then M.1 28 d k else N.1 28 i m := by simp [uI_1]
      have h1 : (i = c ∧ m = k) → (m < k + 1 ∧ i = c ∧ ¬ M.1 29 d m ≤ M.1 29 c m) := by
        rintro ⟨rfl, rfl⟩
        exact ⟨by omega, rfl, h⟩
      have h2 : ¬ (i = c ∧ m = k) → ((m < k + 1 ∧ i = c ∧ ¬ M.1 29 d m ≤ M.1 29 c m) ↔ (m < k ∧ i = c ∧ ¬ M.1 29 d m ≤ M.1 29 c m)) := fun q => lt1 (fun y z => q ⟨y.1, z⟩)
      rw [u9, u8, ih1, ih2]
      exact ⟨ite3 (fun z => by rw [z.2]) h1 h2, ite3 (fun z => by rw [z.2]) h1 h2⟩
theorem Snd.hear (h : Snd ns nc A M) (hc : c < nc) (hd : d < nc) (hne : c ≠ d) (hg : Grp A d c) : Snd ns nc A (cHear ns c d M) ∧ le29 M (cHear ns c d M) ∧ (∀ m, m < ns → M.1 29 d m ≤ (cHear ns c d M).1 29 c m) ∧ ∀ x m, x ≠ c → (cHear ns c d M).1 29 x m = M.1 29 x m := by
  obtain ⟨h1, h2, h3, h4⟩ := h
  have a9 : ∀ i m, (cHear ns c d M).1 29 i m = _ := fun i m => (hear_at hne ns i m).1
  have a8 : ∀ i m, (cHear ns c d M).1 28 i m = _ := fun i m => (hear_at hne ns i m).2
  have hmono : le29 M (cHear ns c d M) := fun i m => by
    rw [a9]
    by_cases z : m < ns ∧ i = c ∧ ¬ M.1 29 d m ≤ M.1 29 c m
    · rw [if_pos z, z.2.1]
      exact Int32.le_of_lt (Int32.not_le.mp z.2.2)
    · rw [if_neg z]; exact Int32.le_refl _
  refine ⟨⟨h1.trans (eqK_hear ns c d M), fun i m hi => ?_, fun i m => Int32.le_trans (h3 i m) (hmono i m), fun i m hi => ?_⟩, hmono, fun m hm => ?_, fun x m hx => ?_⟩
  · have z : ¬ (m < ns ∧ i = c ∧ ¬ M.1 29 d m ≤ M.1 29 c m) := fun z => by
      have := z.2.1
      omega
    rw [a9, a8, if_neg z, if_neg z]
    exact h2 i m hi
  · rw [a9, a8]
    by_cases z : m < ns ∧ i = c ∧ ¬ M.1 29 d m ≤ M.1 29 c m
    · rw [if_pos z, if_pos z]
      obtain ⟨hm, rfl, -⟩ := z
      obtain ⟨j, hj, g, y⟩ := h4 d m hd
      refine ⟨j, hj, Or.inr ?_, y⟩
      rcases g with rfl | ⟨g, -⟩
      · exact ⟨hg, hm⟩
      · exact ⟨g.trans hg, hm⟩
    · rw [if_neg z, if_neg z]
      exact h4 i m hi
  · rw [a9]
    by_cases z : M.1 29 d m ≤ M.1 29 c m
    · rw [if_neg (fun y => y.2.2 z)]; exact z
    · rw [if_pos ⟨hm, rfl, z⟩]; exact Int32.le_refl _
  · rw [a9, if_neg (fun z => hx z.2.1)]
/-- first one hears all -/
theorem tellA_sp {n : Nat} (h : Snd ns nc A M) (hn : n < nc) (h0 : A.1 15 n 5 = 0) : ∀ k, n + 1 + k ≤ nc → Snd ns nc A (rep (fun k => cTellA ns n (n + 1 + k)) k M) ∧ le29 M (rep (fun k => cTellA ns n (n + 1 + k)) k M) ∧ ∀ i m, n < i → i < n + 1 + k → Grp A i n → m < ns → A.1 29 i m ≤ (rep (fun k => cTellA ns n (n + 1 + k)) k M).1 29 n m
  | 0, _ => ⟨h, le29.rfl', fun i m h1 h2 => by omega⟩
  | k + 1, hk => by
    obtain ⟨s1, l1, t1⟩ := tellA_sp h hn h0 k (by omega)
    show Snd ns nc A (cTellA ns n (n + 1 + k) (rep (fun k => cTellA ns n (n + 1 + k)) k M)) ∧ le29 M (cTellA ns n (n + 1 + k) (rep (fun k => cTellA ns n (n + 1 + k)) k M)) ∧ ∀ i m, n < i → i < n + 1 + (k + 1) → Grp A i n → m < ns → A.1 29 i m ≤ (cTellA ns n (n + 1 + k) (rep (fun k => cTellA ns n (n + 1 + k)) k M)).1 29 n m
    generalize rep (fun k => cTellA ns n (n + 1 + k)) k M = N at s1 l1 t1 ⊢
    have e15 : N.1 15 = A.1 15 := s1.1.2 15 (by decide) (by decide)
    unfold cTellA
    rw [e15]
    by_cases q : A.1 15 (n + 1 + k) 5 = 0 ∧ A.1 15 (n + 1 + k) 6 = A.1 15 n 6
    · rw [if_pos q]
      obtain ⟨s2, l2, t2, -⟩ := s1.hear (c := n) (d := n + 1 + k) hn (by omega) (by omega) ⟨q.1, h0, q.2⟩
      refine ⟨s2, l1.trans l2, fun i m h1 h2 hg hm => ?_⟩
      by_cases z : i = n + 1 + k
      · subst z
        exact Int32.le_trans (s1.2.2.1 _ m) (t2 m hm)
      · exact Int32.le_trans (t1 i m h1 (by omega) hg hm) (l2 n m)
    · rw [if_neg q]
      refine ⟨s1, l1, fun i m h1 h2 hg hm => ?_⟩
      by_cases z : i = n + 1 + k
      · subst z
        exact absurd ⟨hg.1, hg.2.2⟩ q
      · exact t1 i m h1 (by omega) hg hm
/-- then it tells all -/
theorem tellB_sp {n : Nat} (h : Snd ns nc A M) (hn : n < nc) (h0 : A.1 15 n 5 = 0) (ht : ∀ i m, i < nc → Grp A i n → m < ns → A.1 29 i m ≤ M.1 29 n m) : ∀ k, n + 1 + k ≤ nc → Snd ns nc A (rep (fun k => cTellB ns n (n + 1 + k)) k M) ∧ le29 M (rep (fun k => cTellB ns n (n + 1 + k)) k M) ∧ (∀ m, (rep (fun k => cTellB ns n (n + 1 + k)) k M).1 29 n m = M.1 29 n m) ∧ ∀ j i m, (j = n ∨ (n < j ∧ j < n + 1 + k)) → i < nc → Grp A i n → Grp A j n → m < ns → A.1 29 i m ≤ (rep (fun k => cTellB ns n (n + 1 + k)) k M).1 29 j m
  | 0, _ => ⟨h, le29.rfl', fun _ => rfl, fun j i m hj hi hg _ hm => by
      rcases hj with rfl | hj
      · exact ht i m hi hg hm
      · omega⟩
  | k + 1, hk => by
    obtain ⟨s1, l1, u1, t1⟩ := tellB_sp h hn h0 ht k (by omega)
    show Snd ns nc A (cTellB ns n (n + 1 + k) (rep (fun k => cTellB ns n (n + 1 + k)) k M)) ∧ le29 M (cTellB ns n (n + 1 + k) (rep (fun k => cTellB ns n (n + 1 + k)) k M)) ∧ (∀ m, (cTellB ns n (n + 1 + k) (rep (fun k => cTellB ns n (n + 1 + k)) k M)).1 29 n m = M.1 29 n m) ∧ ∀ j i m, (j = n ∨ (n < j ∧ j < n + 1 + (k + 1))) → i < nc → Grp A i n → Grp A j n → m < ns → A.1 29 i m ≤ (cTellB ns n (n + 1 + k) (rep (fun k => cTellB ns n (n + 1 + k)) k M)).1 29 j m
    generalize rep (fun k => cTellB ns n (n + 1 + k)) k M = N at s1 l1 u1 t1 ⊢
    have e15 : N.1 15 = A.1 15 := s1.1.2 15 (by decide) (by decide)
    unfold cTellB
    rw [e15]
    by_cases q : A.1 15 (n + 1 + k) 5 = 0 ∧ A.1 15 (n + 1 + k) 6 = A.1 15 n 6
    · rw [if_pos q]
      obtain ⟨s2, l2, t2, u2⟩ := s1.hear (c := n + 1 + k) (d := n) (by omega) hn (by omega) ⟨h0, q.1, q.2.symm⟩
      refine ⟨s2, l1.trans l2, fun m => by rw [u2 n m (by omega)]; exact u1 m, fun j i m hj hi hg hgj hm => ?_⟩
      by_cases z : j = n + 1 + k
      · subst z
        exact Int32.le_trans (by rw [u1]; exact ht i m hi hg hm) (t2 m hm)
      · exact Int32.le_trans (t1 j i m (by omega) hi hg hgj hm) (l2 j m)
    · rw [if_neg q]
      refine ⟨s1, l1, u1, fun j i m hj hi hg hgj hm => ?_⟩
      by_cases z : j = n + 1 + k
      · subst z
        exact absurd ⟨hgj.1, hgj.2.2⟩ q
      · exact t1 j i m (by omega) hi hg hgj hm
theorem let_sp (h : Snd ns nc A M) : ∀ k, k ≤ nc → Snd ns nc A (rep (cLet1 ns nc) k M) ∧ le29 M (rep (cLet1 ns nc) k M) ∧ ∀ n j i m, n < k → i < nc → j < nc → Grp A n n → Grp A i n → Grp A j n → m < ns → A.1 29 i m ≤ (rep (cLet1 ns nc) k M).1 29 j m
  | 0, _ => ⟨h, le29.rfl', fun n j i m hn => by omega⟩
  | k + 1, hk => by
    obtain ⟨s1, l1, t1⟩ := let_sp h k (by omega)
    show Snd ns nc A (cLet1 ns nc k (rep (cLet1 ns nc) k M)) ∧ le29 M (cLet1 ns nc k (rep (cLet1 ns nc) k M)) ∧ ∀ n j i m, n < k + 1 → i < nc → j < nc → Grp A n n → Grp A i n → Grp A j n → m < ns → A.1 29 i m ≤ (cLet1 ns nc k (rep (cLet1 ns nc) k M)).1 29 j m
    generalize rep (cLet1 ns nc) k M = N at s1 l1 t1 ⊢
    have e15 : N.1 15 = A.1 15 := s1.1.2 15 (by decide) (by decide)
    have hF : ∀ s n, cFstB N s n = true ↔ ∀ i, i < n → ¬ (A.1 15 i 5 = 0 ∧ A.1 15 i 6 = s) := fun s n => by
      rw [cFstB_iff]; unfold cFst; rw [e15]
    unfold cLet1
    rw [e15]
    by_cases q : A.1 15 k 5 = 0
    · rw [if_pos q]
      by_cases q2 : cFstB N (A.1 15 k 6) k = true
      · rw [if_pos q2]
        have hf := (hF _ _).mp q2
        have hle : ∀ i, i < nc → Grp A i k → ¬ i < k := fun i hi hg z => hf i z ⟨hg.1, hg.2.2⟩
        unfold cTellAt
        have hkn : k + 1 + (nc - (k + 1)) = nc := by omega
        obtain ⟨s2, l2, t2⟩ := tellA_sp s1 (n := k) (by omega) q (nc - (k + 1)) (by omega)
        generalize rep (fun j => cTellA ns k (k + 1 + j)) (nc - (k + 1)) N = N2 at s2 l2 t2 ⊢
        have ht : ∀ i m, i < nc → Grp A i k → m < ns → A.1 29 i m ≤ N2.1 29 k m := fun i m hi hg hm => by
          by_cases z : i = k
          · subst z; exact s2.2.2.1 i m
          · exact t2 i m (by have := hle i hi hg; omega) (by omega) hg hm
        obtain ⟨s3, l3, -, t3⟩ := tellB_sp s2 (n := k) (by omega) q ht (nc - (k + 1)) (by omega)
        generalize rep (fun j => cTellB ns k (k + 1 + j)) (nc - (k + 1)) N2 = N3 at s3 l3 t3 ⊢
        refine ⟨s3, (l1.trans l2).trans l3, fun n j i m hn hi hj hgn hgi hgj hm => ?_⟩
        by_cases z : n = k
        · subst z
          refine t3 j i m ?_ hi hgi hgj hm
          have := hle j hj hgj
          omega
        · exact Int32.le_trans (t1 n j i m (by omega) hi hj hgn hgi hgj hm) (Int32.le_trans (l2 j m) (l3 j m))
      · rw [if_neg q2]
        refine ⟨s1, l1, fun n j i m hn hi hj hgn hgi hgj hm => ?_⟩
        by_cases z : n = k
        · subst z
          have : ∃ i', i' < n ∧ A.1 15 i' 5 = 0 ∧ A.1 15 i' 6 = A.1 15 n 6 := Classical.byContradiction fun y => q2 ((hF _ _).mpr (fun i' hi' y2 => y ⟨i', hi', y2⟩))
          obtain ⟨i', hi', y1, y2⟩ := this
          have hg' : Grp A n i' := ⟨q, y1, y2.symm⟩
          exact t1 i' j i m hi' hi hj ⟨y1, y1, rfl⟩ (hgi.trans hg') (hgj.trans hg') hm
        · exact t1 n j i m (by omega) hi hj hgn hgi hgj hm
    · rw [if_neg q]
      refine ⟨s1, l1, fun n j i m hn hi hj hgn hgi hgj hm => ?_⟩
      by_cases z : n = k
      · subst z; exact absurd hgn.1 q
      · exact t1 n j i m (by omega) hi hj hgn hgi hgj hm
/-- what each knows in the class behind the letters -/
theorem let_top (A : MM) : Snd ns nc A (cD5 ns nc A) ∧ ∀ j i m, i < nc → j < nc → Grp A i j → m < ns → A.1 29 i m ≤ (cD5 ns nc A).1 29 j m := by
  have h0 : Snd ns nc A A := ⟨eqK.rfl', fun _ _ _ => ⟨rfl, rfl⟩, fun _ _ => Int32.le_refl _, fun c m hc => ⟨c, hc, Or.inl rfl, rfl, rfl⟩⟩
  obtain ⟨s, -, t⟩ := let_sp h0 nc (Nat.le_refl _)
  exact ⟨s, fun j i m hi hj hg hm => t j j i m hj hi hj ⟨hg.2.1, hg.2.1, rfl⟩ hg ⟨hg.2.1, hg.2.1, rfl⟩ hm⟩
end HEAR
