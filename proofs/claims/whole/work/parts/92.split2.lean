/-! Splitting: both sides. -/
/-- the markets' numbers -/
def Mk3 (ns : Nat) (A B : MM) (t f k : Nat → Nat) : Prop := ∀ s, s < ns → (t s ≤ 1000 ∧ f s ≤ 100 ∧ k s < 1300000000) ∧ (A.1 13 s 5 = nI (t s) ∧ A.1 13 s 6 = nI (f s) ∧ A.1 13 s 7 = nI (k s)) ∧ (B.1 45 0 s = 3 → 1 ≤ f s ∧ B.1 46 0 s = nI (t s) ∧ B.1 47 0 s = nI (f s) ∧ B.1 49 0 s = nI (k s)) ∧ (¬ B.1 45 0 s = 3 → t s = 0 ∧ f s = 0 ∧ k s = 0)
section SPL2
variable {A B M : MM} {ns nc g e r n D S X : Nat} {t f k j : Nat → Nat}
theorem rIn.mk3 (h : rIn ns nc g e r n D S (24000 * D) A B) : Mk3 ns A B (fun s => cl (A.1 13 s 5)) (fun s => cl (A.1 13 s 6)) (fun s => cl (A.1 13 s 7)) := fun s hs => by
  have hb := h.bx
  have hd := h.dl
  obtain ⟨g0, -, g3, g4⟩ := h.st.1 s hs
  by_cases z : B.1 45 0 s = 3
  · obtain ⟨T, F, K, hT, hF, hK, e5, e6, e7⟩ := h.mkt s hs (by rw [g0]; exact z)
    have c5 : cl (nI T) = T := nI_clamp (by omega)
    have c6 : cl (nI F) = F := nI_clamp (by omega)
    have c7 : cl (nI K) = K := nI_clamp (by omega)
    obtain ⟨p5, p6, p7⟩ := g3 z
    show (cl (A.1 13 s 5) ≤ 1000 ∧ cl (A.1 13 s 6) ≤ 100 ∧ cl (A.1 13 s 7) < 1300000000) ∧ (A.1 13 s 5 = nI (cl (A.1 13 s 5)) ∧ A.1 13 s 6 = nI (cl (A.1 13 s 6)) ∧ A.1 13 s 7 = nI (cl (A.1 13 s 7))) ∧ (B.1 45 0 s = 3 → 1 ≤ cl (A.1 13 s 6) ∧ B.1 46 0 s = nI (cl (A.1 13 s 5)) ∧ B.1 47 0 s = nI (cl (A.1 13 s 6)) ∧ B.1 49 0 s = nI (cl (A.1 13 s 7))) ∧ (¬ B.1 45 0 s = 3 → cl (A.1 13 s 5) = 0 ∧ cl (A.1 13 s 6) = 0 ∧ cl (A.1 13 s 7) = 0)
    rw [← p5, ← p6, ← p7, e5, e6, e7, c5, c6, c7]
    exact ⟨⟨hT.2, hF.2, by omega⟩, ⟨rfl, rfl, rfl⟩, fun _ => ⟨hF.1, rfl, rfl, rfl⟩, fun y => absurd z y⟩
  · obtain ⟨p5, p6, p7⟩ := g4 z
    show (cl (A.1 13 s 5) ≤ 1000 ∧ cl (A.1 13 s 6) ≤ 100 ∧ cl (A.1 13 s 7) < 1300000000) ∧ (A.1 13 s 5 = nI (cl (A.1 13 s 5)) ∧ A.1 13 s 6 = nI (cl (A.1 13 s 6)) ∧ A.1 13 s 7 = nI (cl (A.1 13 s 7))) ∧ (B.1 45 0 s = 3 → 1 ≤ cl (A.1 13 s 6) ∧ B.1 46 0 s = nI (cl (A.1 13 s 5)) ∧ B.1 47 0 s = nI (cl (A.1 13 s 6)) ∧ B.1 49 0 s = nI (cl (A.1 13 s 7))) ∧ (¬ B.1 45 0 s = 3 → cl (A.1 13 s 5) = 0 ∧ cl (A.1 13 s 6) = 0 ∧ cl (A.1 13 s 7) = 0)
    rw [p5, p6, p7]
    exact ⟨⟨by decide, by decide, by decide⟩, ⟨rfl, rfl, rfl⟩, fun y => absurd y z, fun _ => ⟨rfl, rfl, rfl⟩⟩
theorem cOfP_eq (h : Mk3 ns A B t f k) {s q : Nat} (hs : s < ns) (hq : q ≤ 2000) : cOfP A (nI q) s = nI (cq t f k q s) := by
  obtain ⟨⟨hT, hF, hK⟩, ⟨e5, e6, e7⟩, -⟩ := h s hs
  unfold cOfP cq
  rw [e5, e6, e7]
  have h1 : (t s + 1) * f s ≤ 1001 * 100 := Nat.mul_le_mul (by omega) hF
  have h2 : q * f s ≤ 2000 * 100 := Nat.mul_le_mul hq hF
  have e1 : (nI (t s) - nI q + 1) * nI (f s) - nI (k s) = nI ((t s + 1) * f s) - nI (q * f s + k s) := by
    have x1 : nI (t s) - nI q + 1 = nI (t s + 1) - nI q := by
      rw [← nI_1, Int32.sub_eq_add_neg, Int32.sub_eq_add_neg, Int32.add_assoc, Int32.add_comm (-nI q) 1, ← Int32.add_assoc]
    rw [x1, Int32.sub_mul, pk_mul, pk_mul, ← nI_add, Int32.sub_sub]
  rw [e1, mx0_sub' (by omega) (by omega), Nat.sub_mul, Nat.sub_sub]
theorem cAllP_eq (h : Mk3 ns A B t f k) {q : Nat} (hq : q ≤ 2000) : ∀ m, m ≤ ns → cAllP A (nI q) m = nI (sumN (cq t f k q) m)
  | 0, _ => rfl
  | m + 1, hm => by
    unfold cAllP sumN
    rw [cAllP_eq h hq m (by omega), cOfP_eq h (by omega) hq, nI_add]
theorem cq_le (h : Mk3 ns A B t f k) {s q : Nat} (hs : s < ns) : cq t f k q s ≤ 100100 := by
  obtain ⟨⟨hT, hF, hK⟩, -⟩ := h s hs
  unfold cq
  have h1 : (t s + 1 - q) * f s ≤ 1001 * 100 := Nat.mul_le_mul (by omega) hF
  omega
theorem sq_le (h : Mk3 ns A B t f k) {q : Nat} : ∀ m, m ≤ ns → sumN (cq t f k q) m ≤ 100100 * m
  | 0, _ => Nat.le_refl _
  | m + 1, hm => by
    unfold sumN
    have := sq_le h (q := q) m (by omega)
    have := cq_le h (q := q) (s := m) (by omega)
    omega
/-- a step of the search -/
theorem cPL_sp (h : Mk3 ns A B t f k) (hn : ns ≤ 12) {x p s : Nat} (hx : x ≤ 5000) (hp : p + s ≤ 2000) (h0 : p = 0 ∨ x < sumN (cq t f k p) ns) (h1 : sumN (cq t f k (p + (s + s))) ns ≤ x) : ∃ p', p' ≤ p + s ∧ cPL A ns (nI x) (nI p) (nI s) = nI p' ∧ (p' = 0 ∨ x < sumN (cq t f k p') ns) ∧ sumN (cq t f k (p' + s)) ns ≤ x := by
  unfold cPL
  have hsq := sq_le h (q := p + s) ns (Nat.le_refl _)
  rw [nI_add, cAllP_eq h hp ns (Nat.le_refl _)]
  by_cases z : sumN (cq t f k (p + s)) ns ≤ x
  · rw [if_pos ((nI_leI (by omega) (by omega)).mpr z)]
    exact ⟨p, by omega, rfl, h0, z⟩
  · rw [if_neg (fun y => z ((nI_leI (by omega) (by omega)).mp y))]
    exact ⟨p + s, Nat.le_refl _, rfl, Or.inr (by omega), by rw [Nat.add_assoc]; exact h1⟩
theorem cLast_sp (h : Mk3 ns A B t f k) (hn : ns ≤ 12) {x : Nat} (hx : x ≤ 5000) : ∃ p, p ≤ 1023 ∧ cLast A ns (nI x) = nI p ∧ (p = 0 ∨ x < sumN (cq t f k p) ns) ∧ sumN (cq t f k (p + 1)) ns ≤ x := by
  have hz : sumN (cq t f k (0 + (512 + 512))) ns ≤ x := by
    have : sumN (cq t f k 1024) ns = sumN (fun _ => 0) ns := sumN_congr ns (fun s hs => by
      obtain ⟨⟨hT, hF, hK⟩, -⟩ := h s hs
      unfold cq
      rw [show t s + 1 - 1024 = 0 by omega, Nat.zero_mul, Nat.zero_sub])
    rw [show 0 + (512 + 512) = 1024 from rfl, this, sumN_0]
    exact Nat.zero_le _
  unfold cLast
  obtain ⟨p1, l1, e1, a1, b1⟩ := cPL_sp h hn (p := 0) (s := 512) hx (by decide) (Or.inl rfl) hz
  obtain ⟨p2, l2, e2, a2, b2⟩ := cPL_sp h hn (p := p1) (s := 256) hx (by omega) a1 b1
  obtain ⟨p3, l3, e3, a3, b3⟩ := cPL_sp h hn (p := p2) (s := 128) hx (by omega) a2 b2
  obtain ⟨p4, l4, e4, a4, b4⟩ := cPL_sp h hn (p := p3) (s := 64) hx (by omega) a3 b3
  obtain ⟨p5, l5, e5, a5, b5⟩ := cPL_sp h hn (p := p4) (s := 32) hx (by omega) a4 b4
  obtain ⟨p6, l6, e6, a6, b6⟩ := cPL_sp h hn (p := p5) (s := 16) hx (by omega) a5 b5
  obtain ⟨p7, l7, e7, a7, b7⟩ := cPL_sp h hn (p := p6) (s := 8) hx (by omega) a6 b6
  obtain ⟨p8, l8, e8, a8, b8⟩ := cPL_sp h hn (p := p7) (s := 4) hx (by omega) a7 b7
  obtain ⟨p9, l9, e9, a9, b9⟩ := cPL_sp h hn (p := p8) (s := 2) hx (by omega) a8 b8
  obtain ⟨p10, l10, e10, a10, b10⟩ := cPL_sp h hn (p := p9) (s := 1) hx (by omega) a9 b9
  have e1 : cPL A ns (nI x) 0 512 = nI p1 := e1
  have e2 : cPL A ns (nI x) (nI p1) 256 = nI p2 := e2
  have e3 : cPL A ns (nI x) (nI p2) 128 = nI p3 := e3
  have e4 : cPL A ns (nI x) (nI p3) 64 = nI p4 := e4
  have e5 : cPL A ns (nI x) (nI p4) 32 = nI p5 := e5
  have e6 : cPL A ns (nI x) (nI p5) 16 = nI p6 := e6
  have e7 : cPL A ns (nI x) (nI p6) 8 = nI p7 := e7
  have e8 : cPL A ns (nI x) (nI p7) 4 = nI p8 := e8
  have e9 : cPL A ns (nI x) (nI p8) 2 = nI p9 := e9
  have e10 : cPL A ns (nI x) (nI p9) 1 = nI p10 := e10
  rw [e1, e2, e3, e4, e5, e6, e7, e8, e9, e10]
  exact ⟨p10, by omega, rfl, a10, b10⟩
theorem cSplM_eq (h : Mk3 ns A B t f k) {p : Nat} (hp : p + 1 ≤ 2000) : ∀ m, m ≤ ns → cSplM A (nI p) m = lN (sumN (vl t f k (cq t f k (p + 1))) m)
  | 0, _ => rfl
  | m + 1, hm => by
    unfold cSplM sumN
    have hq := cq_le h (q := p + 1) (s := m) (by omega)
    obtain ⟨⟨hT, hF, hK⟩, ⟨e5, e6, e7⟩, h3, h4⟩ := h m (by omega)
    rw [cSplM_eq h hp m (by omega), nI_1, cOfP_eq h (by omega) hp]
    have en : cNext A m (nI (cq t f k (p + 1) m)) = lN (vl t f k (cq t f k (p + 1)) m) := by
      by_cases z : B.1 45 0 m = 3
      · exact cNext_eq e5 e6 e7 hT ⟨(h3 z).1, hF⟩ (by omega) (by omega)
      · obtain ⟨t0, f0, k0⟩ := h4 z
        unfold cNext cFirst
        rw [e6, f0, if_neg (by decide), if_neg (by decide)]
        unfold vl
        rw [t0, f0, k0]
        have : ∀ y, gsum 0 0 y = 0 := by
          intro y
          induction y with
          | zero => rfl
          | succ y ih => show gsum 0 0 y + (0 - y / 0) = 0; rw [ih, Nat.zero_sub]
        rw [this, this]
        rfl
    rw [en, lN_add]
theorem cSplL_eq (h : Mk3 ns A B t f k) {p x : Nat} (hp : p + 1 ≤ 2000) : ∀ m, m ≤ ns → sumN (cq t f k (p + 1)) m ≤ x → cSplL A (nI p) (lN x) m = lN (x - sumN (cq t f k (p + 1)) m)
  | 0, _, _ => by unfold cSplL sumN; rw [Nat.sub_zero]
  | m + 1, hm, hx => by
    unfold sumN at hx
    unfold cSplL sumN
    have hq := cq_le h (q := p + 1) (s := m) (by omega)
    rw [cSplL_eq h hp m (by omega) (by omega), nI_1, cOfP_eq h (by omega) hp, nI_l (by omega), lN_sub (by omega), Nat.sub_sub]
theorem cSplit_eq (h : Mk3 ns A B t f k) (hn : ns ≤ 12) {x : Nat} (hx : x ≤ 5000) : ∃ p, (p = 0 ∨ x < sumN (cq t f k p) ns) ∧ sumN (cq t f k (p + 1)) ns ≤ x ∧ cSplit A ns (nI x) = nI (sumN (vl t f k (cq t f k (p + 1))) ns + p * (x - sumN (cq t f k (p + 1)) ns)) := by
  obtain ⟨p, hp, ep, a, b⟩ := cLast_sp h hn hx
  refine ⟨p, a, b, ?_⟩
  unfold cSplit
  rw [ep, nI_l (n := x) (by omega), cSplM_eq h (by omega) ns (Nat.le_refl _), cSplL_eq h (by omega) ns (Nat.le_refl _) b, nI_l (n := p) (by omega), lN_mul, lN_add, lN_i, Nat.mul_comm p]
/-- the reference's memory: so many more are sold in thought -/
def Thk (ns : Nat) (B M : MM) (k j : Nat → Nat) : Prop := M.1 45 = B.1 45 ∧ M.1 46 = B.1 46 ∧ M.1 47 = B.1 47 ∧ ∀ s, s < ns → B.1 45 0 s = 3 → M.1 83 0 s = nI (k s + j s)
theorem mPr_eq (h : Mk3 ns A B t f k) (hT : Thk ns B M k j) {s : Nat} (hs : s < ns) (hj : j s ≤ 200000) (h3 : B.1 45 0 s = 3) : mPr M s = nI (hp t f k s (j s)) := by
  obtain ⟨⟨h1, h2, hK⟩, -, h4, -⟩ := h s hs
  obtain ⟨f1, e6, e7, e9⟩ := h4 h3
  unfold mPr hp
  rw [hT.2.1, hT.2.2.1, hT.2.2.2 s hs h3, e6, e7, pk_div (by omega) f1 (by omega)]
  have := Nat.div_le_self (k s + j s) (f s)
  rw [mx0_sub' (by omega) (by omega)]
theorem mSpB_sp (h : Mk3 ns A B t f k) (hT : Thk ns B M k j) (hj : ∀ s, s < ns → j s ≤ 200000) : ∀ m, m ≤ ns → (mSpB M m = (-1, 0) ∧ ∀ s, s < m → B.1 45 0 s = 3 → hp t f k s (j s) = 0) ∨ ∃ b, b < m ∧ B.1 45 0 b = 3 ∧ mSpB M m = (nI b, nI (hp t f k b (j b))) ∧ 1 ≤ hp t f k b (j b) ∧ ∀ s, s < m → B.1 45 0 s = 3 → hp t f k s (j s) ≤ hp t f k b (j b)
  | 0, _ => Or.inl ⟨rfl, fun s hs => absurd hs (Nat.not_lt_zero _)⟩
  | m + 1, hm => by
    have hpl : ∀ s, s < ns → hp t f k s (j s) ≤ 1000 := fun s hs => by
      have := (h s hs).1.1
      unfold hp
      exact Nat.le_trans (Nat.sub_le _ _) this
    have hm1 := hpl m (by omega)
    rw [show mSpB M (m + 1) = if M.1 45 0 m = 3 ∧ (mSpB M m).2 < mPr M m then (nI m, mPr M m) else mSpB M m from rfl, hT.1]
    rcases mSpB_sp h hT hj m (by omega) with ⟨e, h0⟩ | ⟨b, hb, hb3, e, h1, h2⟩
    · rw [e]
      by_cases z : B.1 45 0 m = 3
      · have ep := mPr_eq h hT (s := m) (by omega) (hj m (by omega)) z
        rw [ep]
        rcases Nat.eq_zero_or_pos (hp t f k m (j m)) with y | y
        · left
          rw [if_neg (fun w => by rw [y] at w; exact absurd w.2 (by decide))]
          refine ⟨rfl, fun s hs hs3 => ?_⟩
          by_cases w : s = m
          · rw [w]; exact y
          · exact h0 s (by omega) hs3
        · right
          rw [if_pos ⟨z, nI_lt (a := 0) y (by omega)⟩]
          refine ⟨m, by omega, z, rfl, y, fun s hs hs3 => ?_⟩
          by_cases w : s = m
          · rw [w]; exact Nat.le_refl _
          · rw [h0 s (by omega) hs3]; exact Nat.zero_le _
      · left
        rw [if_neg (fun w => z w.1)]
        refine ⟨rfl, fun s hs hs3 => ?_⟩
        by_cases w : s = m
        · rw [w] at hs3; exact absurd hs3 z
        · exact h0 s (by omega) hs3
    · right
      rw [e]
      have hb1 := hpl b (by omega)
      by_cases z : B.1 45 0 m = 3
      · have ep := mPr_eq h hT (s := m) (by omega) (hj m (by omega)) z
        rw [ep]
        by_cases y : hp t f k b (j b) < hp t f k m (j m)
        · rw [if_pos ⟨z, nI_lt y (by omega)⟩]
          refine ⟨m, by omega, z, rfl, by omega, fun s hs hs3 => ?_⟩
          by_cases w : s = m
          · rw [w]; exact Nat.le_refl _
          · have := h2 s (by omega) hs3
            omega
        · rw [if_neg (fun w => y ((nI_ltI (by omega) (by omega)).mp w.2))]
          refine ⟨b, by omega, hb3, rfl, h1, fun s hs hs3 => ?_⟩
          by_cases w : s = m
          · rw [w]; omega
          · exact h2 s (by omega) hs3
      · rw [if_neg (fun w => z w.1)]
        refine ⟨b, by omega, hb3, rfl, h1, fun s hs hs3 => ?_⟩
        by_cases w : s = m
        · rw [w] at hs3; exact absurd hs3 z
        · exact h2 s (by omega) hs3
theorem mSpl_sp (h : Mk3 ns A B t f k) (hn : ns ≤ 12) : ∀ x (M : MM) (m : Int32) (j : Nat → Nat), Thk ns B M k j → Gr ns t f k j → m = nI (sumN (vl t f k j) ns) → ∃ j', Gr ns t f k j' ∧ (mSpl ns x M m).1 = nI (sumN (vl t f k j') ns) ∧ (sumN j' ns = sumN j ns + x ∨ (sumN j' ns ≤ sumN j ns + x ∧ ∀ s, s < ns → cq t f k 1 s ≤ j' s))
  | 0, M, m, j, _, hG, hm => ⟨j, hG, hm, Or.inl rfl⟩
  | x + 1, M, m, j, hT, hG, hm => by
    have hj : ∀ s, s < ns → j s ≤ 200000 := fun s hs => by
      have := hG.2 s hs
      have := cq_le h (q := 1) hs
      omega
    have hf : ∀ s, s < ns → 1 ≤ f s ∨ cq t f k 1 s = 0 := fun s hs => by
      obtain ⟨-, -, h3, h4⟩ := h s hs
      by_cases z : B.1 45 0 s = 3
      · exact Or.inl (h3 z).1
      · right
        unfold cq
        rw [(h4 z).2.1, Nat.mul_zero, Nat.zero_sub]
    have hmk : ∀ s, s < ns → 1 ≤ f s → B.1 45 0 s = 3 := fun s hs hf1 => Decidable.byContradiction fun z => by
      have := ((h s hs).2.2.2 z).2.1
      omega
    rw [show mSpl ns (x + 1) M m = if (mSpB M ns).1 < 0 then (m, M) else mSpl ns x (uI M 83 0 (cl (mSpB M ns).1) (M.1 83 0 (cl (mSpB M ns).1) + 1)) (m + (mSpB M ns).2) from rfl]
    rcases mSpB_sp h hT hj ns (Nat.le_refl _) with ⟨e, h0⟩ | ⟨b, hb, hb3, e, h1, h2⟩
    · rw [e, if_pos (by decide)]
      refine ⟨j, hG, hm, Or.inr ⟨by omega, fun s hs => ?_⟩⟩
      rcases hf s hs with f1 | c0
      · have h3 := hmk s hs f1
        have := h0 s hs h3
        refine Nat.not_lt.mp (fun y => ?_)
        have := (hp_iff (k := k) (t := t) f1 (Nat.le_refl 1)).mpr y
        omega
      · rw [c0]; exact Nat.zero_le _
    · rw [e, if_neg (nI_pos (by omega)), show cl (nI b) = b from nI_clamp (by omega), hT.2.2.2 b hb hb3, nI_1, hm, nI_add]
      have hT' : Thk ns B (uI M 83 0 b (nI (k b + j b + 1))) k (bump j b) := by
        refine ⟨(uI_t (by decide)).trans hT.1, (uI_t (by decide)).trans hT.2.1, (uI_t (by decide)).trans hT.2.2.1, fun s hs hs3 => ?_⟩
        unfold bump
        by_cases z : s = b
        · rw [z, uI_1, if_pos ⟨rfl, rfl, rfl⟩, if_pos rfl]; rfl
        · rw [uI_1, if_neg (fun y => z y.2.2), if_neg z]
          exact hT.2.2.2 s hs hs3
      have hG' : Gr ns t f k (bump j b) := hG.step hb hf ((h b hb).2.2.1 hb3).1 h1 (fun s hs f1 => h2 s hs (hmk s hs f1))
      have hv := vl_bump (t := t) (f := f) (k := k) (j := j) (b := b) ns
      rw [if_pos hb] at hv
      have hsb := sumN_bump (j := j) (b := b) ns
      rw [if_pos hb] at hsb
      obtain ⟨j', g1, g2, g3⟩ := mSpl_sp h hn x _ _ (bump j b) hT' hG' (by rw [hv])
      refine ⟨j', g1, g2, ?_⟩
      rcases g3 with y | ⟨y, w⟩
      · left; omega
      · right; exact ⟨by omega, w⟩
theorem mTry_at (B : MM) : ∀ m, (∀ s, s < m → (rep mTry1 m B).1 83 0 s = B.1 49 0 s) ∧ (∀ t, t ≠ 83 → (rep mTry1 m B).1 t = B.1 t) ∧ (rep mTry1 m B).2 = B.2
  | 0 => ⟨fun s hs => absurd hs (Nat.not_lt_zero _), fun _ _ => rfl, rfl⟩
  | m + 1 => by
    obtain ⟨h1, h2, h3⟩ := mTry_at B m
    show (∀ s, s < m + 1 → (mTry1 m (rep mTry1 m B)).1 83 0 s = B.1 49 0 s) ∧ (∀ t, t ≠ 83 → (mTry1 m (rep mTry1 m B)).1 t = B.1 t) ∧ (mTry1 m (rep mTry1 m B)).2 = B.2
    generalize rep mTry1 m B = N at h1 h2 h3 ⊢
    unfold mTry1
    refine ⟨fun s hs => ?_, fun t ht => (uI_t ht).trans (h2 t ht), h3⟩
    rw [uI_1]
    by_cases z : s = m
    · rw [if_pos ⟨rfl, rfl, z⟩, z, h2 49 (by decide)]
    · rw [if_neg (fun y => z y.2.2)]; exact h1 s (by omega)
/-- both split alike -/
theorem split_eq (h : rIn ns nc g e r n D S (24000 * D) A B) {x : Nat} (hx : x ≤ 5000) : cSplit A ns (nI x) = (mSpl ns x (rep mTry1 ns (t0 B)) 0).1 := by
  have hn := h.wc.ls
  have h3 := h.mk3
  generalize (fun s => cl (A.1 13 s 5)) = t at h3
  generalize (fun s => cl (A.1 13 s 6)) = f at h3
  generalize (fun s => cl (A.1 13 s 7)) = k at h3
  obtain ⟨p, a, b, ec⟩ := cSplit_eq h3 hn hx
  obtain ⟨t1, t2, -⟩ := mTry_at (t0 B) ns
  have b0 : ∀ u, u ≠ 44 → (t0 B).1 u = B.1 u := fun u hu => uI_t hu
  have hT : Thk ns B (rep mTry1 ns (t0 B)) k (fun _ => 0) := by
    refine ⟨(t2 45 (by decide)).trans (b0 45 (by decide)), (t2 46 (by decide)).trans (b0 46 (by decide)), (t2 47 (by decide)).trans (b0 47 (by decide)), fun s hs hs3 => ?_⟩
    rw [t1 s hs, b0 49 (by decide)]
    exact ((h3 s hs).2.2.1 hs3).2.2.2
  have hG : Gr ns t f k (fun _ => 0) := ⟨fun q _ => Or.inl (fun s _ => Nat.zero_le _), fun s _ => Nat.zero_le _⟩
  have hm : (0 : Int32) = nI (sumN (vl t f k (fun _ => 0)) ns) := by
    have : sumN (vl t f k (fun _ => 0)) ns = sumN (fun _ => 0) ns := sumN_congr ns (fun s _ => by unfold vl; rw [Nat.add_zero, Nat.sub_self])
    rw [this, sumN_0]; rfl
  obtain ⟨j', g1, g2, g3⟩ := mSpl_sp h3 hn x _ _ _ hT hG hm
  rw [sumN_0, Nat.zero_add] at g3
  have hf : ∀ s, s < ns → 1 ≤ f s ∨ (f s = 0 ∧ cq t f k 1 s = 0) := fun s hs => by
    obtain ⟨-, -, h3', h4⟩ := h3 s hs
    by_cases z : B.1 45 0 s = 3
    · exact Or.inl (h3' z).1
    · right
      unfold cq
      rw [(h4 z).2.1, Nat.mul_zero, Nat.zero_sub]
      exact ⟨rfl, rfl⟩
  rw [ec, g2, split_val g1 hf a b g3]
end SPL2
