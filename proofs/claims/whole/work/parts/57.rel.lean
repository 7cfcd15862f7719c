/-! How the class's memory A and the reference's memory B agree. -/
/-- stations -/
def rSt (ns : Nat) (A B : MM) : Prop := (∀ s, s < ns → A.1 13 s 0 = B.1 45 0 s ∧
  (B.1 45 0 s = 2 → A.1 13 s 1 = B.1 48 0 s ∧ A.1 13 s 2 = B.1 46 0 s ∧ A.1 13 s 3 = B.1 47 0 s ∧ A.1 13 s 4 = B.1 49 0 s) ∧
  (B.1 45 0 s = 3 → A.1 13 s 5 = B.1 46 0 s ∧ A.1 13 s 6 = B.1 47 0 s ∧ A.1 13 s 7 = B.1 49 0 s) ∧
  (¬ B.1 45 0 s = 3 → A.1 13 s 5 = 0 ∧ A.1 13 s 6 = 0 ∧ A.1 13 s 7 = 0)) ∧
  ∀ s, ns ≤ s → A.1 13 s 5 = 0 ∧ A.1 13 s 6 = 0 ∧ A.1 13 s 7 = 0
/-- markets: numbers in their bounds, at most S sold at each -/
def rMk (ns S : Nat) (A : MM) : Prop := ∀ s, s < ns → A.1 13 s 0 = 3 → ∃ t f k, (1 ≤ t ∧ t ≤ 1000) ∧ (1 ≤ f ∧ f ≤ 100) ∧ k ≤ S ∧ A.1 13 s 5 = nI t ∧ A.1 13 s 6 = nI f ∧ A.1 13 s 7 = nI k
/-- stages -/
def rSg (g : Nat) (A B : MM) : Prop := (∀ i j, i < 12 → j < 12 → A.1 32 i j = mWayF B (nI i) (nI j) g 0) ∧ ∀ k, k < g → (∃ d, 1 ≤ d ∧ d ≤ 9 ∧ B.1 52 0 k = nI d) ∧ ¬ B.1 50 0 k = B.1 51 0 k
def rLo (A B : MM) : Prop := ∀ i j, i < 12 → j < 12 → A.1 34 i j = B.1 53 0 (12 * i + j)
/-- caravans, field by field -/
def rCa (nc : Nat) (A B : MM) : Prop := (∀ c, c < 12 → A.1 15 c 0 = nI c) ∧ (∀ c, c < nc → A.1 15 c 1 = B.1 54 0 c ∧ A.1 15 c 2 = B.1 55 0 c ∧ A.1 15 c 3 = B.1 56 0 c ∧ A.1 15 c 4 = B.1 57 0 c ∧ A.1 15 c 5 = B.1 58 0 c ∧ A.1 15 c 6 = B.1 59 0 c ∧ (A.1 15 c 5 = 1 → A.1 15 c 7 = B.1 60 0 c) ∧ A.1 15 c 8 = B.1 61 0 c ∧ A.1 15 c 9 = B.1 62 0 c ∧ A.1 15 c 10 = B.1 63 0 c ∧ A.1 15 c 11 = B.1 64 0 c ∧ A.1 16 c 0 = B.1 68 0 c) ∧
  ∀ c, nc ≤ c → c < 12 → (A.1 15 c 3 = 0 ∧ A.1 15 c 8 = 0 ∧ A.1 15 c 10 = 0 ∧ A.1 15 c 11 = 0 ∧ A.1 16 c 0 = 0) ∧ B.1 56 0 c = 0 ∧ B.1 58 0 c = 0 ∧ B.1 60 0 c = 0 ∧ B.1 61 0 c = 0 ∧ B.1 63 0 c = 0 ∧ B.1 64 0 c = 0 ∧ B.1 68 0 c = 0 ∧ B.1 69 0 (9 * c) = 0 ∧ B.1 70 0 (9 * c) = 0
/-- camels, slabs and water in their bounds -/
def rBd (nc : Nat) (A : MM) : Prop := ∀ c, c < nc → ∃ k l u, k ≤ 500 ∧ l ≤ 4 * k ∧ u ≤ 10 * k ∧ A.1 15 c 2 = nI k ∧ A.1 15 c 3 = nI l ∧ A.1 15 c 4 = nI u
/-- what is known of prices -/
def rKn (nc : Nat) (A B : MM) : Prop := (∀ c m, c < nc → m < 12 → A.1 29 c m = B.1 66 0 (12 * c + m) ∧ (A.1 29 c m = -1 ∧ A.1 28 c m = -1 ∨ 0 ≤ A.1 29 c m ∧ A.1 28 c m = B.1 65 0 (12 * c + m))) ∧
  (∀ c m, nc ≤ c → c < 12 → m < 12 → A.1 29 c m = -1 ∧ A.1 28 c m = -1) ∧
  ∃ f : Nat → Int32 → Int32, ∀ c m, c < nc → m < 12 → 0 ≤ A.1 29 c m → A.1 28 c m = f m (A.1 29 c m) ∧ A.1 29 c m ≤ A.1 0 0 13
/-- a row of a caravan's orders in the class -/
def rowA (A : MM) (c i : Nat) (r : Row) : Prop := A.1 17 c i = r.1.1 ∧ (¬ r.1.1 = 0 → A.1 18 c i = r.1.2.1 ∧ A.1 19 c i = r.1.2.2) ∧ A.1 20 c i = r.2.1 ∧ (¬ r.2.1 = 4 → A.1 21 c i = r.2.2)
/-- an order as it may be -/
def rowOk (r : Row) : Prop := (r.1.1 = 0 ∨ r.1.1 = 1 ∨ r.1.1 = 2) ∧ (∃ k, k < 5 ∧ r.2.1 = nI k) ∧ (¬ r.2.1 = 4 → ∃ w, w < 1000000 ∧ r.2.2 = nI w) ∧ (¬ r.1.1 = 0 → ∃ w, w < 1000000 ∧ r.1.2.1 = nI w)
def rOr (nc : Nat) (A B : MM) : Prop := ∀ c, c < nc → ∃ l : List Row, l.length ≤ 12 ∧ A.1 16 c 0 = nI l.length ∧ ∀ i (hi : i < l.length), rowOk l[i] ∧ rowA A c i l[i] ∧ rowM B (60 * c + 5 * i) l[i]
/-- a contract of the class (u: its object's tag) and of the reference (v: its array's) -/
def rDe (u v c : Nat) (A B : MM) : Prop :=
  (B.1 v 0 (9 * c) = 0 ∧ A.1 u c 0 = 1 ∧ A.1 u c 3 = 1 ∧ A.1 u c 4 = -1 ∧ A.1 (u + 1) c 0 = 0 ∧ A.1 (u + 2) c 0 = 1) ∨
  ∃ (l : List Shr) (r : Int32 × Int32), shOk l ∧ 1 ≤ l.length ∧ l.length ≤ 3 ∧ ¬ smS l 0 ≤ 0 ∧ (∀ i (hi : i < l.length), ∃ w, w ≤ 99 ∧ l[i].2 = nI w) ∧ (r.1 = -1 ∨ r.1 = 0 ∨ r.1 = 1 ∨ r.1 = 2) ∧
    (A.1 u c 0 = nI l.length ∧ A.1 u c 3 = smS l 0 ∧ A.1 u c 4 = r.1 ∧ (¬ r.1 = -1 → A.1 u c 5 = r.2) ∧ ∀ i (hi : i < l.length), A.1 (u + 1) c i = l[i].1 ∧ A.1 (u + 2) c i = l[i].2) ∧
    (B.1 v 0 (9 * c) = nI l.length ∧ B.1 v 0 (9 * c + 7) = r.1 ∧ (¬ r.1 = -1 → B.1 v 0 (9 * c + 8) = r.2) ∧ ∀ i (hi : i < l.length), B.1 v 0 (9 * c + 1 + i) = l[i].1 ∧ B.1 v 0 (9 * c + 4 + i) = l[i].2)
def rDs (nc : Nat) (A B : MM) : Prop := (∀ c, c < nc → rDe 22 69 c A B ∧ rDe 25 70 c A B) ∧ ∀ c, nc ≤ c → c < 12 → (A.1 22 c 0 = 1 ∧ A.1 22 c 3 = 1 ∧ A.1 22 c 4 = -1 ∧ A.1 23 c 0 = 0 ∧ A.1 24 c 0 = 1) ∧ A.1 25 c 0 = 1 ∧ A.1 25 c 3 = 1 ∧ A.1 25 c 4 = -1 ∧ A.1 26 c 0 = 0 ∧ A.1 27 c 0 = 1
/-- entries and how they were put right -/
def rLe (e r : Nat) (A B : MM) : Prop := (e ≤ 300 ∧ r ≤ 100) ∧ (A.1 35 0 0 = nI e ∧ B.1 44 0 36 = nI e ∧ A.1 35 0 6 = nI r ∧ B.1 44 0 40 = nI r) ∧
  (∀ i, i < e → A.1 36 0 i = B.1 72 0 i ∧ A.1 37 0 i = B.1 73 0 i ∧ A.1 38 0 i = B.1 74 0 i ∧ A.1 39 0 i = B.1 75 0 i ∧ A.1 38 0 i ≤ A.1 0 0 13 ∧ A.1 40 0 i = mMoney B (nI i) (A.1 0 0 13) r) ∧
  (∀ k, k < r → A.1 41 0 k = B.1 76 0 k ∧ A.1 42 0 k = B.1 77 0 k ∧ A.1 42 0 k ≤ A.1 0 0 13 ∧ ∃ i, i < e ∧ A.1 41 0 k = nI i ∧ A.1 38 0 i ≤ A.1 42 0 k ∧ A.2 43 0 k = (B.1 78 0 k).toInt64 - (mMoney B (nI i) (A.1 42 0 k) k).toInt64) ∧
  ∀ k j, k < j → j < r → A.1 42 0 k ≤ A.1 42 0 j
def rSu (A B : MM) : Prop := A.2 0 0 14 = B.2 79 0 0 ∧ A.2 0 0 15 = B.2 79 0 1 ∧ A.2 0 0 16 = B.2 79 0 2 ∧ A.2 0 0 17 = B.2 79 0 3 ∧ A.2 0 0 18 = B.2 79 0 4
def rTa (n : Nat) (A B : MM) : Prop := n ≤ 400 ∧ A.1 1 0 1 = nI n ∧ B.1 44 0 44 = nI n ∧ A.1 2 0 = B.1 81 0 ∧ A.1 0 0 3 = B.1 44 0 49 ∧ ∃ q, q ≤ 400 ∧ B.1 44 0 48 = nI q
/-- what all carry -/
def carr (A : MM) : Nat → Nat
  | 0 => 0
  | c + 1 => carr A c + cl (A.1 15 c 3)
/-- the whole: D days have gone by -/
def rAll (ns nc g e r n D S : Nat) (A B : MM) : Prop :=
  (WC ns nc A ∧ WM ns nc B ∧ SG g B ∧ A.1 0 0 7 = nI g) ∧ (A.1 0 0 13 = nI D ∧ B.1 44 0 1 = nI D ∧ D ≤ 102400 ∧ 2 * S + carr A nc ≤ 24000 * D) ∧
  rSt ns A B ∧ rMk ns S A ∧ rSg g A B ∧ rLo A B ∧ rCa nc A B ∧ rBd nc A ∧ rKn nc A B ∧ rOr nc A B ∧ rDs nc A B ∧ rLe e r A B ∧ rSu A B ∧ rTa n A B
/-- the class's and the reference's tags -/
def sameC (A A' : MM) : Prop := (∀ t, t < 44 → A'.1 t = A.1 t) ∧ ∀ t, t < 44 → A'.2 t = A.2 t
def sameM (B B' : MM) : Prop := (∀ t, 44 ≤ t → t < 84 → B'.1 t = B.1 t) ∧ ∀ t, 44 ≤ t → t < 84 → B'.2 t = B.2 t
section RELS
variable {ns nc g e r n D S : Nat} {A B A' B' : MM}
/-- stations pass a day alike -/
theorem rSt.pass (h : rSt ns A B) {s : Nat} (hs : s < ns) (hn : ns ≤ 12) : rSt ns (cPassSt A s) (mPass2 (nI s) (mPass1 (nI s) B)) := by
  have ec : cl (nI s) = s := nI_clamp (by omega)
  obtain ⟨h1, h2, h3, h4⟩ := h.1 s hs
  have eB : ∀ t u, t ≠ 49 → (mPass2 (nI s) (mPass1 (nI s) B)).1 t 0 u = B.1 t 0 u := fun t u ht => by
    unfold mPass2 mPass1
    split <;> split <;> simp [uI_1, ht]
  have eB9 : ∀ u, u ≠ s → (mPass2 (nI s) (mPass1 (nI s) B)).1 49 0 u = B.1 49 0 u := fun u hu => by
    unfold mPass2 mPass1
    rw [ec]
    split <;> split <;> simp [uI_1, hu]
  have eA : ∀ u k, u ≠ s → (cPassSt A s).1 13 u k = A.1 13 u k := fun u k hu => by
    unfold cPassSt
    simp [uI_1, hu]
  have eA2 : ∀ u k, k ≠ 4 → k ≠ 7 → (cPassSt A s).1 13 u k = A.1 13 u k := fun u k hk hk2 => by
    unfold cPassSt
    simp [uI_1, hk, hk2]
  have a4 : (cPassSt A s).1 13 s 4 = mn (A.1 13 s 3) (A.1 13 s 4 + A.1 13 s 2) := by unfold cPassSt; simp [uI_1]
  have a7 : (cPassSt A s).1 13 s 7 = mx0 (A.1 13 s 7 - A.1 13 s 6) := by unfold cPassSt; simp [uI_1]
  refine ⟨fun u hu => ?_, fun u hu => ?_⟩
  · rw [eB 45 u (by decide), eB 46 u (by decide), eB 47 u (by decide), eB 48 u (by decide), eA2 u 0 (by decide) (by decide), eA2 u 1 (by decide) (by decide), eA2 u 2 (by decide) (by decide), eA2 u 3 (by decide) (by decide), eA2 u 5 (by decide) (by decide), eA2 u 6 (by decide) (by decide)]
    by_cases e : u = s
    · subst e
      rw [a4, a7]
      refine ⟨h1, fun q => ?_, fun q => ?_, fun q => ?_⟩
      · obtain ⟨p1, p2, p3, p4⟩ := h2 q
        refine ⟨p1, p2, p3, ?_⟩
        unfold mPass2 mPass1
        rw [ec, if_pos q]
        have : (uI B 49 0 u (mn (B.1 47 0 u) (B.1 49 0 u + B.1 46 0 u))).1 45 0 u = B.1 45 0 u := by simp [uI_1]
        rw [this, if_neg (by rw [q]; decide), p3, p4, p2]
        simp [uI_1]
      · obtain ⟨p1, p2, p3⟩ := h3 q
        refine ⟨p1, p2, ?_⟩
        unfold mPass2 mPass1
        have n2 : ¬ B.1 45 0 u = 2 := by rw [q]; decide
        rw [ec, if_neg n2, if_pos q, p2, p3]
        simp [uI_1]
      · obtain ⟨p1, p2, p3⟩ := h4 q
        refine ⟨p1, p2, ?_⟩
        rw [p2, p3]; decide
    · rw [eA u 4 e, eA u 7 e, eB9 u e]
      exact h.1 u hu
  · rw [eA u 5 (by omega), eA u 6 (by omega), eA u 7 (by omega)]
    exact h.2 u hu
end RELS
