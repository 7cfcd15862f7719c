/-! Water in the reference: the best of those that wait, again and again. -/
def oB (B : MM) (p : Int32) (x : Nat) : Nat := if B.1 54 0 x = p then 0 else 1
def dB (B : MM) (x : Nat) : Int := (B.1 62 0 x).toInt
def pD (t : Nat) (_ : Nat) : Prop := t = 80 ∨ t = 57 ∨ t = 49
/-- how many wait -/
def cn80 (M : MM) : Nat → Nat
  | 0 => 0
  | n + 1 => cn80 M n + if M.1 80 0 n = 0 then 1 else 0
section DRNK
variable {B M N : MM} {s n w ns nc k b : Nat} {q : Nat → Nat}
theorem mAhead_iff {x y : Nat} {st : Int32} (hx : x < 12) (hy : y < 12) : mAheadB B st (nI x) (nI y) = true ↔ ahK (oB B (B.1 48 0 (cl st))) (dB B) x y := by
  rw [mAheadB_iff]
  unfold mAhead ahK oB dB
  rw [show cl (nI x) = x from nI_clamp (by omega), show cl (nI y) = y from nI_clamp (by omega), Int32.lt_iff_toInt_lt]
  by_cases h1 : B.1 54 0 x = B.1 48 0 (cl st)
  · by_cases h2 : B.1 54 0 y = B.1 48 0 (cl st)
    · simp [h1, h2]
    · simp [h1, h2]
  · by_cases h2 : B.1 54 0 y = B.1 48 0 (cl st)
    · simp [h1, h2]
    · simp [h1, h2]
theorem db_sp (M : MM) : ∀ n, n ≤ 12 → (mDb M n = -1 ∧ ∀ i, i < n → ¬ M.1 80 0 i = 0) ∨ ∃ b, b < n ∧ mDb M n = nI b ∧ M.1 80 0 b = 0 ∧ ∀ i, i < n → M.1 80 0 i = 0 → M.1 59 0 i = M.1 59 0 b → i = b ∨ bfK (oB M (M.1 48 0 (cl (M.1 59 0 b)))) (dB M) b i
  | 0, _ => Or.inl ⟨rfl, fun i hi => absurd hi (Nat.not_lt_zero _)⟩
  | n + 1, hn => by
    rw [show mDb M (n + 1) = if M.1 80 0 n = 0 ∧ (mDb M n < 0 ∨ (M.1 59 0 n = M.1 59 0 (cl (mDb M n)) ∧ mAheadB M (M.1 59 0 n) (nI n) (mDb M n) = true)) then nI n else mDb M n from rfl]
    rcases db_sp M n (by omega) with ⟨e, h⟩ | ⟨b, hb, e, h0, h⟩
    · rw [e]
      by_cases z : M.1 80 0 n = 0
      · right
        rw [if_pos ⟨z, Or.inl (by decide)⟩]
        refine ⟨n, by omega, rfl, z, fun i hi hi0 _ => ?_⟩
        by_cases y : i = n
        · exact Or.inl y
        · exact absurd hi0 (h i (by omega))
      · left
        rw [if_neg (fun y => z y.1)]
        refine ⟨rfl, fun i hi => ?_⟩
        by_cases y : i = n
        · rw [y]; exact z
        · exact h i (by omega)
    · right
      rw [e, show cl (nI b) = b from nI_clamp (by omega)]
      by_cases z : M.1 80 0 n = 0 ∧ (nI b < 0 ∨ (M.1 59 0 n = M.1 59 0 b ∧ mAheadB M (M.1 59 0 n) (nI n) (nI b) = true))
      · rw [if_pos z]
        obtain ⟨z0, z1⟩ := z
        rcases z1 with z1 | ⟨z1, z2⟩
        · exact absurd z1 (nI_pos (by omega))
        · have ha := (mAhead_iff (by omega) (by omega)).mp z2
          refine ⟨n, by omega, rfl, z0, fun i hi hi0 hi9 => ?_⟩
          by_cases y : i = n
          · exact Or.inl y
          · right
            rw [z1] at ha hi9 ⊢
            rcases h i (by omega) hi0 hi9 with rfl | w
            · exact ha.bf
            · exact ha.bf.trans w
      · rw [if_neg z]
        refine ⟨b, by omega, rfl, h0, fun i hi hi0 hi9 => ?_⟩
        by_cases y : i = n
        · subst y
          right
          refine bfK_of (fun a => z ⟨hi0, Or.inr ⟨hi9, ?_⟩⟩) hb
          rw [hi9]
          exact (mAhead_iff (by omega) (by omega)).mpr a
        · exact h i (by omega) hi0 hi9
theorem cn80_le (M : MM) : ∀ n, cn80 M n ≤ n
  | 0 => Nat.le_refl _
  | n + 1 => by
    unfold cn80
    have := cn80_le M n
    split <;> omega
theorem cn80_0 : ∀ n, cn80 M n = 0 → ∀ i, i < n → ¬ M.1 80 0 i = 0
  | 0, _, i, hi => absurd hi (Nat.not_lt_zero _)
  | n + 1, h, i, hi => by
    unfold cn80 at h
    by_cases z : M.1 80 0 n = 0
    · rw [if_pos z] at h; omega
    · by_cases y : i = n
      · rw [y]; exact z
      · exact cn80_0 n (by omega) i (by omega)
theorem cn80_dn (h0 : M.1 80 0 b = 0) (h1 : ¬ N.1 80 0 b = 0) (h : ∀ i, i ≠ b → N.1 80 0 i = M.1 80 0 i) : ∀ n, cn80 N n + (if b < n then 1 else 0) = cn80 M n
  | 0 => by rw [if_neg (Nat.not_lt_zero _)]; rfl
  | n + 1 => by
    have ih := cn80_dn h0 h1 h n
    unfold cn80
    by_cases z : b = n
    · subst z
      rw [if_neg (Nat.lt_irrefl _)] at ih
      rw [if_neg h1, if_pos h0, if_pos (Nat.lt_succ_self _)]
      omega
    · rw [h n (fun y => z y.symm)]
      by_cases y : b < n
      · rw [if_pos y] at ih
        rw [if_pos (show b < n + 1 by omega)]
        omega
      · rw [if_neg y] at ih
        rw [if_neg (show ¬ b < n + 1 by omega)]
        omega
/-- how far a well has given in the reference: p of those that wait have had their turn -/
def InvR (B M : MM) (nc s : Nat) (q : Nat → Nat) (w : Nat) (nd : Nat → Int32) (W : Int32) (u : Nat → Int32) (p : Nat) : Prop := p ≤ w ∧ (∀ j, j < w → M.1 80 0 (q j) = if j < p then 1 else 0) ∧ (∀ j, j < w → M.1 57 0 (q j) = if j < p then u (q j) + mn (nd (q j)) (wRem nd W q j) else u (q j)) ∧ M.1 49 0 s = wRem nd W q p
/-- who waits, in order, in the reference -/
def EnumB (B : MM) (nc s : Nat) (q : Nat → Nat) (w : Nat) : Prop := (∀ k, k < w → q k < nc ∧ B.1 59 0 (q k) = nI s) ∧ (∀ i, i < nc → B.1 80 0 i = 0 → B.1 59 0 i = nI s → ∃ k, k < w ∧ q k = i) ∧ ∀ a b, a < b → b < w → bfK (oB B (B.1 48 0 s)) (dB B) (q a) (q b)
theorem EnumB.inj {a b : Nat} (h : EnumB B nc s q w) (ha : a < w) (hb : b < w) (hne : a ≠ b) : q a ≠ q b := by
  rcases Nat.lt_or_ge a b with z | z
  · exact (h.2.2 a b z hb).ne
  · exact (h.2.2 b a (by omega) ha).ne.symm
/-- those that wait have the places of wells; nobody waits anew -/
def Bas (B M : MM) (ns nc : Nat) : Prop := Fr pD B M ∧ (∀ i, i < nc → M.1 80 0 i = 0 → B.1 80 0 i = 0) ∧ (∀ i, i < nc → ¬ B.1 80 0 i = 0 → M.1 57 0 i = B.1 57 0 i) ∧ ∀ t, t < ns → ¬ B.1 45 0 t = 2 → M.1 49 0 t = B.1 49 0 t
theorem dr2_at (hb : b < 12) {st : Nat} (hst : st < 12) (h59 : M.1 59 0 b = nI st) : (∀ i, (mDr2 M (nI b)).1 80 0 i = if i = b then 1 else M.1 80 0 i) ∧ (∀ i, (mDr2 M (nI b)).1 57 0 i = if i = b then M.1 57 0 b + mn (10 * M.1 55 0 b - M.1 57 0 b) (M.1 49 0 st) else M.1 57 0 i) ∧ (∀ t, (mDr2 M (nI b)).1 49 0 t = if t = st then M.1 49 0 st - mn (10 * M.1 55 0 b - M.1 57 0 b) (M.1 49 0 st) else M.1 49 0 t) ∧ Fr pD M (mDr2 M (nI b)) := by
  have ec : cl (nI b) = b := nI_clamp (by omega)
  have es : cl (nI st) = st := nI_clamp (by omega)
  unfold mDr2 mTake
  rw [ec, h59, es]
  refine ⟨fun i => by simp [uI_1], fun i => by simp [uI_1], fun t => by simp [uI_1], ?_⟩
  exact ((Fr.u (by unfold pD; omega)).trans (Fr.u (by unfold pD; omega))).trans (Fr.u (by unfold pD; omega))
theorem dr_sp (hW : WM ns nc B) (hwell : ∀ i, i < nc → B.1 80 0 i = 0 → ∀ t, t < ns → B.1 59 0 i = nI t → B.1 45 0 t = 2) : ∀ k (M : MM), Bas B M ns nc → cn80 M nc ≤ k → Bas B (mDr nc k M) ns nc ∧ (∀ i, i < nc → ¬ (mDr nc k M).1 80 0 i = 0) ∧ ∀ s q w p u W, s < ns → EnumB B nc s q w → InvR B M nc s q w (fun c => 10 * B.1 55 0 c - u c) W u p → ∃ p', InvR B (mDr nc k M) nc s q w (fun c => 10 * B.1 55 0 c - u c) W u p'
  | 0, M, hB, hc => by
    have hc0 : cn80 M nc = 0 := by omega
    exact ⟨hB, cn80_0 nc hc0, fun s q w p u W _ _ h => ⟨p, h⟩⟩
  | k + 1, M, hB, hc => by
    have hns := hW.ls
    have hnc := hW.lc
    have t48 : M.1 48 = B.1 48 := hB.1.fe.tag (fun _ => by unfold pD; omega)
    have t54 : M.1 54 = B.1 54 := hB.1.fe.tag (fun _ => by unfold pD; omega)
    have t55 : M.1 55 = B.1 55 := hB.1.fe.tag (fun _ => by unfold pD; omega)
    have t59 : M.1 59 = B.1 59 := hB.1.fe.tag (fun _ => by unfold pD; omega)
    have t62 : M.1 62 = B.1 62 := hB.1.fe.tag (fun _ => by unfold pD; omega)
    have eo : ∀ p, oB M p = oB B p := fun p => by unfold oB; rw [t54]
    have ed : dB M = dB B := by unfold dB; rw [t62]
    rw [show mDr nc (k + 1) M = if mDb M nc < 0 then M else mDr nc k (mDr2 M (mDb M nc)) from rfl]
    rcases db_sp M nc hnc with ⟨e, h⟩ | ⟨b, hb, e, h0, h⟩
    · rw [e, if_pos (by decide)]
      exact ⟨hB, h, fun s q w p u W _ _ h => ⟨p, h⟩⟩
    · rw [e, if_neg (nI_pos (by omega))]
      obtain ⟨st, hst, es⟩ := hW.at hb
      have es' : M.1 59 0 b = nI st := by rw [t59]; exact es
      obtain ⟨d80, d57, d49, dF⟩ := dr2_at (M := M) (b := b) (by omega) (st := st) (by omega) es'
      have hwst : B.1 45 0 st = 2 := hwell b hb (hB.2.1 b hb h0) st hst es
      have hB' : Bas B (mDr2 M (nI b)) ns nc := by
        refine ⟨hB.1.trans dF, fun i hi z => ?_, fun i hi z => ?_, fun t ht z => ?_⟩
        · rw [d80] at z
          by_cases y : i = b
          · rw [if_pos y] at z; exact absurd z (by decide)
          · rw [if_neg y] at z; exact hB.2.1 i hi z
        · have y : i ≠ b := fun y => z (by rw [y]; exact hB.2.1 b hb h0)
          rw [d57, if_neg y]
          exact hB.2.2.1 i hi z
        · have y : t ≠ st := fun y => z (by rw [y]; exact hwst)
          rw [d49, if_neg y]
          exact hB.2.2.2 t ht z
      have hcn := cn80_dn (M := M) (N := mDr2 M (nI b)) (b := b) h0 (by rw [d80, if_pos rfl]; decide) (fun i hi => by rw [d80, if_neg hi]) nc
      rw [if_pos hb] at hcn
      obtain ⟨r1, r2, r3⟩ := dr_sp hW hwell k (mDr2 M (nI b)) hB' (by omega)
      refine ⟨r1, r2, fun s q w p u W hs hE hI => ?_⟩
      obtain ⟨p1, p2, p3, p4⟩ := hI
      have es0 : cl (nI st) = st := nI_clamp (by omega)
      by_cases z : s = st
      · subst z
        obtain ⟨j, hj, ej⟩ := hE.2.1 b hb (hB.2.1 b hb h0) es
        have hjp : ¬ j < p := fun y => by
          have := p2 j hj
          rw [if_pos y, ej, h0] at this
          exact absurd this (by decide)
        have hpw : p < w := by omega
        have hqp : q p < nc ∧ B.1 59 0 (q p) = nI s := hE.1 p hpw
        have h80p : M.1 80 0 (q p) = 0 := by rw [p2 p hpw, if_neg (Nat.lt_irrefl _)]
        have heq : q p = b := by
          rcases h (q p) hqp.1 h80p (by rw [t59, hqp.2, es]) with y | y
          · exact y
          · rw [es', es0, t48, eo, ed] at y
            by_cases y2 : j = p
            · rw [← y2]; exact ej
            · have := hE.2.2 p j (by omega) hj
              rw [ej] at this
              exact absurd y this.asymm
        have h57 : M.1 57 0 b = u b := by
          have := p3 p hpw
          rw [if_neg (Nat.lt_irrefl _), heq] at this
          exact this
        refine r3 s q w (p + 1) u W hs hE ⟨by omega, fun i hi => ?_, fun i hi => ?_, ?_⟩
        · rw [d80]
          by_cases y : i = p
          · subst y
            rw [if_pos heq, if_pos (Nat.lt_succ_self _)]
          · have hne := hE.inj hi hpw y
            rw [heq] at hne
            rw [if_neg hne, p2 i hi]
            have hlt : i < p + 1 ↔ i < p := by omega
            simp only [hlt]
        · rw [d57]
          by_cases y : i = p
          · subst y
            rw [if_pos heq, if_pos (Nat.lt_succ_self _), h57, t55, p4, heq]
          · have hne := hE.inj hi hpw y
            rw [heq] at hne
            rw [if_neg hne, p3 i hi]
            have hlt : i < p + 1 ↔ i < p := by omega
            simp only [hlt]
        · rw [d49, if_pos rfl, h57, t55, p4]
          show _ = wRem _ W q p - mn (10 * B.1 55 0 (q p) - u (q p)) (wRem _ W q p)
          rw [heq]
      · refine r3 s q w p u W hs hE ⟨p1, fun i hi => ?_, fun i hi => ?_, ?_⟩
        · have hne : q i ≠ b := fun y => by
            have := (hE.1 i hi).2
            rw [y, es, nI_eq (by omega) (by omega)] at this
            exact z this.symm
          rw [d80, if_neg hne]; exact p2 i hi
        · have hne : q i ≠ b := fun y => by
            have := (hE.1 i hi).2
            rw [y, es, nI_eq (by omega) (by omega)] at this
            exact z this.symm
          rw [d57, if_neg hne]; exact p3 i hi
        · rw [d49, if_neg z]; exact p4
/-- before: who has to wait -/
theorem dr1_at (hW : WM ns nc B) : ∀ k, k ≤ nc → (∀ i, (rep (fun i => mDr1 (nI i)) k B).1 57 0 i = if i < k ∧ B.1 58 0 i = 0 ∧ ¬ B.1 45 0 (cl (B.1 59 0 i)) = 2 then 10 * B.1 55 0 i else B.1 57 0 i) ∧ (∀ i, i < k → (rep (fun i => mDr1 (nI i)) k B).1 80 0 i = if B.1 58 0 i = 0 ∧ B.1 45 0 (cl (B.1 59 0 i)) = 2 then 0 else 1) ∧ Fr (fun t _ => t = 80 ∨ t = 57) B (rep (fun i => mDr1 (nI i)) k B)
  | 0, _ => ⟨fun i => by rw [if_neg (fun z => Nat.not_lt_zero _ z.1)]; rfl, fun i hi => absurd hi (Nat.not_lt_zero _), Fr.rfl'⟩
  | k + 1, hk => by
    obtain ⟨i1, i2, i3⟩ := dr1_at hW k (by omega)
    have hnc := hW.lc
    show (∀ i, (mDr1 (nI k) (rep (fun i => mDr1 (nI i)) k B)).1 57 0 i = if i < k + 1 ∧ B.1 58 0 i = 0 ∧ ¬ B.1 45 0 (cl (B.1 59 0 i)) = 2 then 10 * B.1 55 0 i else B.1 57 0 i) ∧ (∀ i, i < k + 1 → (mDr1 (nI k) (rep (fun i => mDr1 (nI i)) k B)).1 80 0 i = if B.1 58 0 i = 0 ∧ B.1 45 0 (cl (B.1 59 0 i)) = 2 then 0 else 1) ∧ Fr (fun t _ => t = 80 ∨ t = 57) B (mDr1 (nI k) (rep (fun i => mDr1 (nI i)) k B))
    generalize rep (fun i => mDr1 (nI i)) k B = M at i1 i2 i3 ⊢
    have t58 : M.1 58 = B.1 58 := i3.fe.tag (fun _ => by omega)
    have t59 : M.1 59 = B.1 59 := i3.fe.tag (fun _ => by omega)
    have t45 : M.1 45 = B.1 45 := i3.fe.tag (fun _ => by omega)
    have t55 : M.1 55 = B.1 55 := i3.fe.tag (fun _ => by omega)
    unfold mDr1
    rw [show cl (nI k) = k from nI_clamp (by omega), t58, t59, t45, t55]
    have hlt : ∀ i, i ≠ k → (i < k + 1 ↔ i < k) := fun i hi => by omega
    by_cases h5 : B.1 58 0 k = 0
    · rw [if_pos h5]
      by_cases h2 : B.1 45 0 (cl (B.1 59 0 k)) = 2
      · rw [if_pos h2]
        refine ⟨fun i => ?_, fun i hi => ?_, i3.trans (Fr.u (Or.inl rfl))⟩
        · rw [uI_1, if_neg (fun z => absurd z.1 (by decide)), i1]
          by_cases z : i = k
          · subst z
            rw [if_neg (fun y => Nat.lt_irrefl _ y.1), if_neg (fun y => y.2.2 h2)]
          · simp only [hlt i z]
        · rw [uI_1]
          by_cases z : i = k
          · subst z
            rw [if_pos ⟨rfl, rfl, rfl⟩, if_pos ⟨h5, h2⟩]
          · rw [if_neg (fun y => z y.2.2)]
            exact i2 i (by omega)
      · rw [if_neg h2]
        refine ⟨fun i => ?_, fun i hi => ?_, i3.trans ((Fr.u (Or.inl rfl)).trans (Fr.u (Or.inr rfl)))⟩
        · rw [uI_1]
          by_cases z : i = k
          · subst z
            rw [if_pos ⟨rfl, rfl, rfl⟩, if_pos ⟨by omega, h5, h2⟩]
          · rw [if_neg (fun y => z y.2.2), uI_1, if_neg (fun y => absurd y.1 (by decide)), i1]
            simp only [hlt i z]
        · rw [uI_1, if_neg (fun y => absurd y.1 (by decide)), uI_1]
          by_cases z : i = k
          · subst z
            rw [if_pos ⟨rfl, rfl, rfl⟩, if_neg (fun y => h2 y.2)]
          · rw [if_neg (fun y => z y.2.2)]
            exact i2 i (by omega)
    · rw [if_neg h5]
      refine ⟨fun i => ?_, fun i hi => ?_, i3.trans (Fr.u (Or.inl rfl))⟩
      · rw [uI_1, if_neg (fun z => absurd z.1 (by decide)), i1]
        by_cases z : i = k
        · subst z
          rw [if_neg (fun y => Nat.lt_irrefl _ y.1), if_neg (fun y => h5 y.2.1)]
        · simp only [hlt i z]
      · rw [uI_1]
        by_cases z : i = k
        · subst z
          rw [if_pos ⟨rfl, rfl, rfl⟩, if_neg (fun y => h5 y.1)]
        · rw [if_neg (fun y => z y.2.2)]
          exact i2 i (by omega)
end DRNK
