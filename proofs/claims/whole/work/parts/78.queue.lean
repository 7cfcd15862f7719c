/-! Water in the class: the queue is in order, and each takes in its turn. -/
/-- who goes first: own people, then the earlier, then by numbers -/
def ahK (o : Nat → Nat) (d : Nat → Int) (x y : Nat) : Prop := o x < o y ∨ (o x = o y ∧ d x < d y)
def bfK (o : Nat → Nat) (d : Nat → Int) (x y : Nat) : Prop := o x < o y ∨ (o x = o y ∧ (d x < d y ∨ (d x = d y ∧ x < y)))
theorem bfK.trans {o : Nat → Nat} {d : Nat → Int} {x y z : Nat} (h : bfK o d x y) (h2 : bfK o d y z) : bfK o d x z := by unfold bfK at *; omega
theorem bfK.asymm {o : Nat → Nat} {d : Nat → Int} {x y : Nat} (h : bfK o d x y) : ¬ bfK o d y x := by unfold bfK at *; omega
theorem bfK.ne {o : Nat → Nat} {d : Nat → Int} {x y : Nat} (h : bfK o d x y) : x ≠ y := fun z => by subst z; unfold bfK at h; omega
theorem ahK.bf {o : Nat → Nat} {d : Nat → Int} {x y : Nat} (h : ahK o d x y) : bfK o d x y := by unfold ahK at h; unfold bfK; omega
theorem bfK_of {o : Nat → Nat} {d : Nat → Int} {x y : Nat} (h : ¬ ahK o d x y) (hl : y < x) : bfK o d y x := by unfold ahK at h; unfold bfK; omega
def oA (A : MM) (p : Int32) (x : Nat) : Nat := if A.1 15 x 1 = p then 0 else 1
def dA (A : MM) (x : Nat) : Int := (A.1 15 x 9).toInt
/-- what is left behind the first k -/
def wRem (nd : Nat → Int32) (W : Int32) (q : Nat → Nat) : Nat → Int32
  | 0 => W
  | k + 1 => wRem nd W q k - mn (nd (q k)) (wRem nd W q k)
def ndA (A : MM) (c : Nat) : Int32 := 10 * A.1 15 c 2 - A.1 15 c 4
/-- all that wait at a well, in order -/
def Enum (A : MM) (n s : Nat) (q : Nat → Nat) (w : Nat) : Prop := (∀ k, k < w → q k < n ∧ A.1 15 (q k) 5 = 0 ∧ A.1 15 (q k) 6 = nI s) ∧ (∀ i, i < n → A.1 15 i 5 = 0 → A.1 15 i 6 = nI s → ∃ k, k < w ∧ q k = i) ∧ ∀ a b, a < b → b < w → bfK (oA A (A.1 13 s 1)) (dA A) (q a) (q b)
section QUEU
variable {A M : MM} {s x n w : Nat} {p : Int32} {q : Nat → Nat}
theorem cAhead_iff (y : Nat) : cAheadB A p x y = true ↔ ahK (oA A p) (dA A) x y := by
  rw [cAheadB_iff]
  unfold cAhead ahK oA dA
  rw [Int32.lt_iff_toInt_lt]
  by_cases h1 : A.1 15 x 1 = p
  · by_cases h2 : A.1 15 y 1 = p
    · simp [h1, h2]
    · simp [h1, h2]
  · by_cases h2 : A.1 15 y 1 = p
    · simp [h1, h2]
    · simp [h1, h2]
theorem oA_of {M A : MM} (h : M.1 15 = A.1 15) (p : Int32) : oA M p = oA A p := by unfold oA; rw [h]
theorem dA_of {M A : MM} (h : M.1 15 = A.1 15) : dA M = dA A := by unfold dA; rw [h]
/-- where one comes in -/
theorem cQ_sp (p : Int32) (x : Nat) : ∀ k (M : MM), ∃ j, j ≤ k ∧ (∀ i, i < j → (cQ p x k M).1 30 0 i = M.1 30 0 i) ∧ (cQ p x k M).1 30 0 j = nI x ∧ (∀ i, j ≤ i → i < k → (cQ p x k M).1 30 0 (i + 1) = M.1 30 0 i) ∧ (∀ i, j ≤ i → i < k → ahK (oA M p) (dA M) x (cl (M.1 30 0 i))) ∧ (0 < j → ¬ ahK (oA M p) (dA M) x (cl (M.1 30 0 (j - 1)))) ∧ ∀ i, k < i → (cQ p x k M).1 30 0 i = M.1 30 0 i
  | 0, M => by
    refine ⟨0, Nat.le_refl _, fun i hi => absurd hi (Nat.not_lt_zero _), ?_, fun i _ hi => absurd hi (Nat.not_lt_zero _), fun i _ hi => absurd hi (Nat.not_lt_zero _), fun h => absurd h (Nat.lt_irrefl _), fun i hi => ?_⟩
    · show (uI M 30 0 0 (nI x)).1 30 0 0 = nI x
      rw [uI_1, if_pos ⟨rfl, rfl, rfl⟩]
    · show (uI M 30 0 0 (nI x)).1 30 0 i = _
      rw [uI_1, if_neg (by omega)]
  | k + 1, M => by
    rw [show cQ p x (k + 1) M = if cAheadB M p x (cl (M.1 30 0 k)) = true then cQ p x k (uI M 30 0 (k + 1) (M.1 30 0 k)) else uI M 30 0 (k + 1) (nI x) from rfl]
    by_cases h : cAheadB M p x (cl (M.1 30 0 k)) = true
    · rw [if_pos h]
      obtain ⟨j, hj, h1, h2, h3, h4, h5, h6⟩ := cQ_sp p x k (uI M 30 0 (k + 1) (M.1 30 0 k))
      have e15 : (uI M 30 0 (k + 1) (M.1 30 0 k)).1 15 = M.1 15 := uI_t (by decide)
      have e30 : ∀ i, i ≤ k → (uI M 30 0 (k + 1) (M.1 30 0 k)).1 30 0 i = M.1 30 0 i := fun i hi => by rw [uI_1, if_neg (by omega)]
      rw [oA_of e15, dA_of e15] at h4 h5
      refine ⟨j, by omega, fun i hi => by rw [h1 i hi, e30 i (by omega)], h2, fun i hi hi2 => ?_, fun i hi hi2 => ?_, fun z => ?_, fun i hi => ?_⟩
      · by_cases z : i = k
        · subst z
          rw [h6 (i + 1) (by omega), uI_1, if_pos ⟨rfl, rfl, rfl⟩]
        · rw [h3 i hi (by omega), e30 i (by omega)]
      · by_cases z : i = k
        · subst z; exact (cAhead_iff _).mp h
        · have := h4 i hi (by omega)
          rw [e30 i (by omega)] at this
          exact this
      · have := h5 z
        rw [e30 (j - 1) (by omega)] at this
        exact this
      · rw [h6 i (by omega), uI_1, if_neg (by omega)]
    · rw [if_neg h]
      refine ⟨k + 1, Nat.le_refl _, fun i hi => by rw [uI_1, if_neg (by omega)], by rw [uI_1, if_pos ⟨rfl, rfl, rfl⟩], fun i h1 h2 => by omega, fun i h1 h2 => by omega, fun _ z => h ((cAhead_iff _).mpr z), fun i hi => by rw [uI_1, if_neg (by omega)]⟩
/-- one comes in at j -/
def insQ (q : Nat → Nat) (j n i : Nat) : Nat := if i < j then q i else if i = j then n else q (i - 1)
theorem insQ_lt {q : Nat → Nat} {j n i : Nat} (h : i < j) : insQ q j n i = q i := if_pos h
theorem insQ_eq {q : Nat → Nat} {j n i : Nat} (h : i = j) : insQ q j n i = n := by unfold insQ; rw [if_neg (by omega), if_pos h]
theorem insQ_gt {q : Nat → Nat} {j n i : Nat} (h : j < i) : insQ q j n i = q (i - 1) := by unfold insQ; rw [if_neg (by omega), if_neg (by omega)]
/-- the queue is all that wait, in order -/
theorem cQs_sp (s : Nat) (A : MM) : ∀ n, n ≤ 12 → ∃ q : Nat → Nat, (cQs s n A).2 ≤ n ∧ (∀ k, k < (cQs s n A).2 → (cQs s n A).1.1 30 0 k = nI (q k)) ∧ Enum A n s q (cQs s n A).2
  | 0, _ => ⟨fun _ => 0, Nat.le_refl _, fun k hk => absurd hk (Nat.not_lt_zero _), fun k hk => absurd hk (Nat.not_lt_zero _), fun i hi => absurd hi (Nat.not_lt_zero _), fun a b _ hb => absurd hb (Nat.not_lt_zero _)⟩
  | n + 1, hn => by
    obtain ⟨q, hw, hq, e1, e2, e3⟩ := cQs_sp s A n (by omega)
    have hf := fr_cQs s n A
    rw [show cQs s (n + 1) A = if (cQs s n A).1.1 15 n 5 = 0 ∧ (cQs s n A).1.1 15 n 6 = nI s then (cQ ((cQs s n A).1.1 13 s 1) n (cQs s n A).2 (cQs s n A).1, (cQs s n A).2 + 1) else cQs s n A from rfl]
    generalize cQs s n A = P at hw hq e1 e2 e3 hf ⊢
    obtain ⟨M, w⟩ := P
    dsimp only at hw hq e1 e2 e3 hf ⊢
    have e15 : M.1 15 = A.1 15 := hf.fe.tag (fun _ => by decide)
    have e13 : M.1 13 = A.1 13 := hf.fe.tag (fun _ => by decide)
    rw [e15, e13]
    by_cases h : A.1 15 n 5 = 0 ∧ A.1 15 n 6 = nI s
    · rw [if_pos h]
      obtain ⟨j, hj, h1, h2, h3, h4, h5, -⟩ := cQ_sp (A.1 13 s 1) n w M
      rw [oA_of e15, dA_of e15] at h4 h5
      have cq : ∀ i, i < w → cl (M.1 30 0 i) = q i := fun i hi => by
        rw [hq i hi]
        have := (e1 i hi).1
        exact nI_clamp (by omega)
      have up : ∀ i, j ≤ i → i < w → bfK (oA A (A.1 13 s 1)) (dA A) n (q i) := fun i hi hi2 => by
        have := h4 i hi hi2
        rw [cq i hi2] at this
        exact this.bf
      have dn : ∀ i, i < j → bfK (oA A (A.1 13 s 1)) (dA A) (q i) n := fun i hi => by
        have z := h5 (by omega)
        rw [cq (j - 1) (by omega)] at z
        have y := bfK_of z (e1 (j - 1) (by omega)).1
        by_cases hlast : i = j - 1
        · rw [hlast]; exact y
        · exact (e3 i (j - 1) (by omega) (by omega)).trans y
      refine ⟨insQ q j n, ?_, fun k hk => ?_, fun k hk => ?_, fun i hi hi5 hi6 => ?_, fun a b hab hb => ?_⟩
      · show w + 1 ≤ n + 1
        omega
      · have hk : k < w + 1 := hk
        show (cQ (A.1 13 s 1) n w M).1 30 0 k = nI (insQ q j n k)
        rcases Nat.lt_trichotomy k j with k1 | k1 | k1
        · rw [insQ_lt k1, h1 k k1, hq k (by omega)]
        · rw [insQ_eq k1, k1, h2]
        · rw [insQ_gt k1]
          have := h3 (k - 1) (by omega) (by omega)
          rw [Nat.sub_add_cancel (by omega)] at this
          rw [this, hq (k - 1) (by omega)]
      · have hk : k < w + 1 := hk
        rcases Nat.lt_trichotomy k j with k1 | k1 | k1
        · rw [insQ_lt k1]
          obtain ⟨y1, y2⟩ := e1 k (by omega)
          exact ⟨by omega, y2⟩
        · rw [insQ_eq k1]
          exact ⟨by omega, h⟩
        · rw [insQ_gt k1]
          obtain ⟨y1, y2⟩ := e1 (k - 1) (by omega)
          exact ⟨by omega, y2⟩
      · show ∃ k, k < w + 1 ∧ insQ q j n k = i
        by_cases z : i = n
        · subst z
          exact ⟨j, by omega, insQ_eq rfl⟩
        · obtain ⟨k, hk, ek⟩ := e2 i (by omega) hi5 hi6
          by_cases k1 : k < j
          · exact ⟨k, by omega, by rw [insQ_lt k1]; exact ek⟩
          · exact ⟨k + 1, by omega, by rw [insQ_gt (by omega)]; exact ek⟩
      · have hb : b < w + 1 := hb
        rcases Nat.lt_trichotomy b j with b1 | b1 | b1
        · rw [insQ_lt (show a < j by omega), insQ_lt b1]
          exact e3 a b hab (by omega)
        · rw [insQ_eq b1, insQ_lt (show a < j by omega)]
          exact dn a (by omega)
        · rw [insQ_gt b1]
          rcases Nat.lt_trichotomy a j with a1 | a1 | a1
          · rw [insQ_lt a1]
            exact (dn a a1).trans (up (b - 1) (by omega) (by omega))
          · rw [insQ_eq a1]
            exact up (b - 1) (by omega) (by omega)
          · rw [insQ_gt a1]
            exact e3 (a - 1) (b - 1) (by omega) (by omega)
    · rw [if_neg h]
      refine ⟨q, Nat.le_succ_of_le hw, hq, fun k hk => ?_, fun i hi hi5 hi6 => ?_, e3⟩
      · obtain ⟨y1, y2⟩ := e1 k hk
        exact ⟨by omega, y2⟩
      · by_cases z : i = n
        · subst z; exact absurd ⟨hi5, hi6⟩ h
        · exact e2 i (by omega) hi5 hi6
theorem Enum.inj {a b : Nat} (h : Enum A n s q w) (ha : a < w) (hb : b < w) (hne : a ≠ b) : q a ≠ q b := by
  rcases Nat.lt_or_ge a b with z | z
  · exact (h.2.2 a b z hb).ne
  · exact (h.2.2 b a (by omega) ha).ne.symm
/-- each takes in its turn -/
theorem give_sp (hn : n ≤ 12) (h : Enum A n s q w) (h13 : M.1 13 s 4 = A.1 13 s 4) (h15 : M.1 15 = A.1 15) (hq : ∀ k, k < w → M.1 30 0 k = nI (q k)) : ∀ k, k ≤ w → (rep (cGive1 s) k M).1 13 s 4 = wRem (ndA A) (A.1 13 s 4) q k ∧ (∀ j, j < k → (rep (cGive1 s) k M).1 15 (q j) 4 = A.1 15 (q j) 4 + mn (ndA A (q j)) (wRem (ndA A) (A.1 13 s 4) q j)) ∧ (∀ c, (∀ j, j < k → q j ≠ c) → (rep (cGive1 s) k M).1 15 c 4 = A.1 15 c 4) ∧ ∀ t, t ≠ s → (rep (cGive1 s) k M).1 13 t 4 = M.1 13 t 4
  | 0, _ => ⟨h13, fun j hj => absurd hj (Nat.not_lt_zero _), fun c _ => by show M.1 15 c 4 = _; rw [h15], fun _ _ => rfl⟩
  | k + 1, hk => by
    obtain ⟨i1, i2, i3, i4⟩ := give_sp hn h h13 h15 hq k (by omega)
    have hf : Fr (fun t k => (t = 15 ∧ k = 4) ∨ (t = 13 ∧ k = 4)) M (rep (cGive1 s) k M) := Fr.rep (fr_cGive1 s) k M
    show (cGive1 s k (rep (cGive1 s) k M)).1 13 s 4 = wRem (ndA A) (A.1 13 s 4) q (k + 1) ∧ (∀ j, j < k + 1 → (cGive1 s k (rep (cGive1 s) k M)).1 15 (q j) 4 = A.1 15 (q j) 4 + mn (ndA A (q j)) (wRem (ndA A) (A.1 13 s 4) q j)) ∧ (∀ c, (∀ j, j < k + 1 → q j ≠ c) → (cGive1 s k (rep (cGive1 s) k M)).1 15 c 4 = A.1 15 c 4) ∧ ∀ t, t ≠ s → (cGive1 s k (rep (cGive1 s) k M)).1 13 t 4 = M.1 13 t 4
    generalize rep (cGive1 s) k M = N at i1 i2 i3 i4 hf ⊢
    have e30 : N.1 30 0 k = nI (q k) := by rw [hf.2 30 0 k (by omega)]; exact hq k (by omega)
    have hqk : q k < 12 := Nat.lt_of_lt_of_le (h.1 k (by omega)).1 hn
    have ec : cl (nI (q k)) = q k := nI_clamp (by omega)
    have e2 : N.1 15 (q k) 2 = A.1 15 (q k) 2 := by rw [hf.2 15 (q k) 2 (by omega), h15]
    have e4 : N.1 15 (q k) 4 = A.1 15 (q k) 4 := i3 (q k) (fun j hj => h.inj (by omega) (by omega) (by omega))
    have et : cTake s (q k) N = mn (ndA A (q k)) (wRem (ndA A) (A.1 13 s 4) q k) := by unfold cTake; rw [e2, e4, i1]; rfl
    unfold cGive1 cGive
    rw [e30, ec, et, i1, e4]
    refine ⟨?_, fun j hj => ?_, fun c hc => ?_, fun t ht => ?_⟩
    · rw [uI_1, if_pos ⟨rfl, rfl, rfl⟩]; rfl
    · rw [uI_1, if_neg (fun z => absurd z.1 (by decide)), uI_1]
      by_cases z : j = k
      · subst z
        rw [if_pos ⟨rfl, rfl, rfl⟩]
      · have := h.inj (a := j) (b := k) (by omega) (by omega) z
        rw [if_neg (fun y => this y.2.1)]
        exact i2 j (by omega)
    · rw [uI_1, if_neg (fun z => absurd z.1 (by decide)), uI_1, if_neg (fun z => hc k (by omega) z.2.1.symm)]
      exact i3 c (fun j hj => hc j (by omega))
    · rw [uI_1, if_neg (fun z => ht z.2.1), uI_1, if_neg (fun z => absurd z.1 (by decide))]
      exact i4 t ht
end QUEU
