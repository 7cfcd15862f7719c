/-! The memory behind the making, and how a method is walked. -/
abbrev MM : Type := (Nat → Nat → Nat → Int32) × (Nat → Nat → Nat → Int64)
def rL (i k : Nat) : List (Nat × Nat) → Option (Nat × Nat)
  | [] => none
  | q :: l => bif Nat.beq q.1 k then some (q.2, i) else rL i k l
def rA (u k : Nat) : Option (Nat × Nat) := bif Nat.ble 12 k then none else some (u, k)
/-- the references behind the making -/
def R0 (t i k : Nat) : Option (Nat × Nat) :=
  bif Nat.beq t 0 then rL i k [(4, 12), (8, 14), (11, 35), (0, 1), (6, 31), (12, 33), (10, 30), (1, 3), (2, 9)] else
  bif Nat.beq t 15 then rL i k [(12, 16), (13, 22), (14, 25), (15, 28), (16, 29)] else
  bif Nat.beq t 44 then rL i k [(2, 45), (3, 46), (4, 47), (5, 48), (6, 49), (8, 50), (9, 51), (10, 52), (12, 53), (13, 54), (14, 55), (15, 56), (16, 57), (17, 58), (18, 59), (19, 60), (20, 61), (21, 62), (22, 63), (23, 64), (24, 65), (25, 66), (27, 67), (28, 68), (29, 69), (30, 70), (31, 71), (32, 72), (33, 73), (34, 74), (35, 75), (37, 76), (38, 77), (39, 78), (41, 79), (42, 80), (43, 81), (45, 82), (50, 83)] else
  bif Nat.beq t 12 then rA 13 k else
  bif Nat.beq t 14 then rA 15 k else
  bif Nat.beq t 35 then rL i k [(1, 36), (2, 37), (3, 38), (4, 39), (5, 40), (7, 41), (8, 42), (9, 43)] else
  bif Nat.beq t 1 then rL i k [(0, 2)] else
  bif Nat.beq t 3 then rL i k [(1, 4), (2, 5), (3, 6), (4, 7), (5, 8)] else
  bif Nat.beq t 16 then rL i k [(1, 17), (2, 18), (3, 19), (4, 20), (5, 21)] else
  bif Nat.beq t 9 then rL i k [(1, 10), (2, 11)] else
  bif Nat.beq t 22 then rL i k [(1, 23), (2, 24)] else
  bif Nat.beq t 25 then rL i k [(1, 26), (2, 27)] else
  bif Nat.beq t 31 then rA 32 k else
  bif Nat.beq t 33 then rA 34 k else none
def mk (M : MM) : Mem := (none, M.1, M.2, R0)
def uI (M : MM) (t i k : Nat) (x : Int32) : MM := (up3 M.1 t i k x, M.2)
def uJ (M : MM) (t i k : Nat) (x : Int64) : MM := (M.1, up3 M.2 t i k x)
/-- the first n numbers of (t, i) into (u, j) -/
def uC (M : MM) (t i u j n : Nat) : MM := (fun a b c => if a = u ∧ b = j ∧ c < n then M.1 t i c else M.1 a b c, M.2)
abbrev vi (x : Int32) : MV := .inl (.int x)
abbrev vj (x : Int64) : MV := .inl (.long x)
abbrev vr (t i : Nat) : MV := .inr (t, i)
abbrev rI (x : Int32) : Out := .inl (some (.inl (.int x)))
abbrev rJ (x : Int64) : Out := .inl (some (.inl (.long x)))
abbrev rV : Out := .inl none
abbrev rX (e : Nat) : Out := .inr e
abbrev cl (j : Int32) : Nat := j.toNatClampNeg
def inL : List Nat → Nat → Bool
  | [], _ => false
  | a :: l, p => bif Nat.beq a p then true else inL l p
theorem go_step {Γ : GG} {mi pc : Nat} {lv : LV} {st : List MV} {σ : Mem} {cnt : Nat × Nat} {Q : Out → Mem → Prop} (pcs : List Nat) (f : Nat)
    (h : ∀ (G : Nat → List MV → Mem → (Out → Mem → Prop) → Prop) (K : Nat → LV → List MV → Mem → Nat × Nat → Prop), (∀ x as σ Q, Gm Γ x as σ Q → G x as σ Q) → (∀ pc lv st σ cnt, Go Γ mi pc lv st σ cnt Q → K pc lv st σ cnt) → vc (gN Γ) (gS Γ) G (fun pc => bif inL pcs pc then some (K pc) else none) Q mi f pc lv st σ cnt) : Go Γ mi pc lv st σ cnt Q := by
  refine vc_sound (C := fun pc => bif inL pcs pc then some (fun lv st σ cnt => Go Γ mi pc lv st σ cnt Q) else none) ?_ f pc lv st σ cnt (h (Gm Γ) (fun pc lv st σ cnt => Go Γ mi pc lv st σ cnt Q) (fun _ _ _ _ h => h) (fun _ _ _ _ _ h => h))
  intro pc P lv st σ cnt hC hP
  cases hb : inL pcs pc with
  | true => rw [hb] at hC; cases hC; exact hP
  | false => rw [hb] at hC; cases hC
theorem gm_step {Γ : GG} {mi : Nat} {as : List MV} {σ : Mem} {Q : Out → Mem → Prop} (pcs : List Nat) (f : Nat)
    (h : ∀ (G : Nat → List MV → Mem → (Out → Mem → Prop) → Prop) (K : Nat → LV → List MV → Mem → Nat × Nat → Prop), (∀ x as σ Q, Gm Γ x as σ Q → G x as σ Q) → (∀ pc lv st σ cnt, Go Γ mi pc lv st σ cnt Q → K pc lv st σ cnt) → vc (gN Γ) (gS Γ) G (fun pc => bif inL pcs pc then some (K pc) else none) Q mi f 0 (argL 0 as) [] σ (0, 0)) : Gm Γ mi as σ Q := go_step pcs f h
/-- a call whose outcome is asked less of -/
theorem Go.mono {Γ : GG} {mi pc : Nat} {lv : LV} {st : List MV} {σ : Mem} {cnt : Nat × Nat} {Q : Out → Mem → Prop} (h : Go Γ mi pc lv st σ cnt Q) : Go Γ mi pc lv st σ cnt Q := h
def subL : LV → LV → Prop
  | [], _ => True
  | q :: l, m => getL m q.1 = some q.2 ∧ subL l m
theorem subL_mem : ∀ {l m : LV}, subL l m → ∀ q ∈ l, q ∈ m
  | [], _, _, q, hq => by cases hq
  | a :: l, m, h, q, hq => by
    rcases List.mem_cons.mp hq with rfl | hq
    · exact getL_mem h.1
    · exact subL_mem h.2 q hq
theorem go_sub {Γ : GG} {mi pc : Nat} {lv lv' : LV} {st : List MV} {σ : Mem} {cnt : Nat × Nat} {Q : Out → Mem → Prop} (hs : subL lv' lv) (h : Go Γ mi pc lv' st σ cnt Q) : Go Γ mi pc lv st σ cnt Q := by
  intro n0 p e s m args below meth c H locs ls hn M hl hW hS hlv hst h1
  refine h n0 p e s m args below meth c H locs ls hn M ⟨hl.1, hl.2.1, fun q hq => hl.2.2 q ?_⟩ hW hS (fun q hq => hlv q (subL_mem hs q hq)) hst h1
  obtain ⟨a, ha, rfl⟩ := List.mem_map.mp hq
  exact List.mem_map.mpr ⟨a, subL_mem hs a ha, rfl⟩
theorem lvi {a b : Int32} (h : a = b) : (some (.inl (.int a)) : Option MV) = some (.inl (.int b)) := by rw [h]
theorem lvj {a b : Int64} (h : a = b) : (some (.inl (.long a)) : Option MV) = some (.inl (.long b)) := by rw [h]
def rep (f : Nat → MM → MM) : Nat → MM → MM
  | 0, M => M
  | n + 1, M => f n (rep f n M)
theorem rep_inv {f : Nat → MM → MM} {P : MM → Prop} : ∀ {n : Nat} {M : MM}, P M → (∀ i A, i < n → P A → P (f i A)) → P (rep f n M)
  | 0, _, h, _ => h
  | n + 1, _, h, hs => hs n _ (Nat.lt_succ_self n) (rep_inv h (fun i A hi => hs i A (Nat.lt_succ_of_lt hi)))
theorem rep_rel {f g : Nat → MM → MM} {R : MM → MM → Prop} : ∀ {n : Nat} {A B : MM}, R A B → (∀ i A B, i < n → R A B → R (f i A) (g i B)) → R (rep f n A) (rep g n B)
  | 0, _, _, h, _ => h
  | n + 1, _, _, h, hs => hs n _ _ (Nat.lt_succ_self n) (rep_rel h (fun i A B hi => hs i A B (Nat.lt_succ_of_lt hi)))
theorem rA_at {u k : Nat} (h : k < 12) : rA u k = some (u, k) := by
  unfold rA
  have e : Nat.ble 12 k = false := by
    cases hb : Nat.ble 12 k with
    | false => rfl
    | true => exact absurd (Nat.le_of_ble_eq_true hb) (by omega)
  rw [e]; rfl
/-- a row of twelve references at a known place -/
theorem R0_st {j : Int32} {n : Nat} (hn : n < 12) (hj : j = nI n) : R0 12 0 j.toNatClampNeg = some (13, n) := by
  subst hj; rw [nI_clamp (by omega)]; exact rA_at hn
theorem R0_ca {j : Int32} {n : Nat} (hn : n < 12) (hj : j = nI n) : R0 14 0 j.toNatClampNeg = some (15, n) := by
  subst hj; rw [nI_clamp (by omega)]; exact rA_at hn
theorem R0_sd {j : Int32} {n : Nat} (hn : n < 12) (hj : j = nI n) : R0 31 0 j.toNatClampNeg = some (32, n) := by
  subst hj; rw [nI_clamp (by omega)]; exact rA_at hn
theorem R0_lw {j : Int32} {n : Nat} (hn : n < 12) (hj : j = nI n) : R0 33 0 j.toNatClampNeg = some (34, n) := by
  subst hj; rw [nI_clamp (by omega)]; exact rA_at hn
theorem in12 {j : Int32} {n : Nat} (hn : n < 12) (hj : j = nI n) : vp_in j 12 := by subst hj; exact vp_in_nI hn (by decide)
def b32 (p : Prop) [Decidable p] : Int32 := if p then 1 else 0
theorem b32_or (p : Prop) [Decidable p] : b32 p = 0 ∨ b32 p = 1 := by unfold b32; split <;> simp
theorem b32_t {p : Prop} [Decidable p] (h : p) : b32 p = 1 := if_pos h
theorem b32_f {p : Prop} [Decidable p] (h : ¬ p) : b32 p = 0 := if_neg h
/-- a branch on a boolean answer: ifeq -/
theorem br_z {p A B : Prop} [Decidable p] (f : ¬ p → A) (g : p → B) : (b32 p = 0 → A) ∧ (¬ b32 p = 0 → B) := ⟨fun c => f (fun h => by rw [b32_t h] at c; exact absurd c (by decide)), fun c => g (Decidable.byContradiction fun h => c (b32_f h))⟩
/-- ifne -/
theorem br_n {p A B : Prop} [Decidable p] (f : p → A) (g : ¬ p → B) : (¬ b32 p = 0 → A) ∧ (¬ ¬ b32 p = 0 → B) := ⟨(br_z g f).2, fun c => (br_z g f).1 (Decidable.not_not.mp c)⟩
theorem br_of {P P' A B : Prop} (e : P ↔ P') (f : P' → A) (g : ¬ P' → B) : (P → A) ∧ (¬ P → B) := ⟨fun c => f (e.mp c), fun c => g (fun h => c (e.mpr h))⟩
/-- the end of a method whose answer is a boolean -/
theorem rb_t {Q : Out → Mem → Prop} {σ : Mem} {p : Prop} [Decidable p] (hp : p) (h : Q (rI (b32 p)) σ) : ((1 : Int32) = 0 ∨ (1 : Int32) = 1) ∧ Q (rI 1) σ := ⟨Or.inr rfl, by rw [b32_t hp] at h; exact h⟩
theorem rb_f {Q : Out → Mem → Prop} {σ : Mem} {p : Prop} [Decidable p] (hp : ¬ p) (h : Q (rI (b32 p)) σ) : ((0 : Int32) = 0 ∨ (0 : Int32) = 1) ∧ Q (rI 0) σ := ⟨Or.inl rfl, by rw [b32_f hp] at h; exact h⟩
def mx0 (v : Int32) : Int32 := if 0 < v then v else 0
def mn (x y : Int32) : Int32 := if y < x then y else x
