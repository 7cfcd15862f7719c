/-! A small machine over the two systems' objects: values, memory, what one op asks ('vs'), and what a stretch of ops asks ('vc'). -/
abbrev MV : Type := Value ⊕ (Nat × Nat)
abbrev LV : Type := List (Nat × MV)
abbrev Mem : Type := Option Nat × (Nat → Nat → Nat → Int32) × (Nat → Nat → Nat → Int64) × (Nat → Nat → Nat → Option (Nat × Nat))
abbrev Out : Type := Option MV ⊕ Nat
def mI (σ : Mem) : Nat → Nat → Nat → Int32 := σ.2.1
def mJ (σ : Mem) : Nat → Nat → Nat → Int64 := σ.2.2.1
def mR (σ : Mem) : Nat → Nat → Nat → Option (Nat × Nat) := σ.2.2.2
def up3 {α : Type} (f : Nat → Nat → Nat → α) (t i k : Nat) (x : α) : Nat → Nat → Nat → α := fun a b c => bif Nat.beq a t && (Nat.beq c k && Nat.beq b i) then x else f a b c
theorem up3_eq {α : Type} (f : Nat → Nat → Nat → α) (t i k : Nat) (x : α) (a b c : Nat) : up3 f t i k x a b c = if a = t ∧ b = i ∧ c = k then x else f a b c := by
  unfold up3
  have e : (Nat.beq a t && (Nat.beq c k && Nat.beq b i)) = decide (a = t ∧ b = i ∧ c = k) := by
    rw [Bool.eq_iff_iff]
    simp only [Bool.and_eq_true, Nat.beq_eq, decide_eq_true_eq]
    exact ⟨fun h => ⟨h.1, h.2.2, h.2.1⟩, fun h => ⟨h.1, h.2.2, h.2.1⟩⟩
  rw [e]
  by_cases h : a = t ∧ b = i ∧ c = k
  · rw [if_pos h, decide_eq_true h]; rfl
  · rw [if_neg h, decide_eq_false h]; rfl
def pI (σ : Mem) (t i k : Nat) (x : Int32) : Mem := (σ.1, up3 (mI σ) t i k x, mJ σ, mR σ)
def pJ (σ : Mem) (t i k : Nat) (x : Int64) : Mem := (σ.1, mI σ, up3 (mJ σ) t i k x, mR σ)
def pR (σ : Mem) (t i k : Nat) (x : Nat × Nat) : Mem := (σ.1, mI σ, mJ σ, up3 (mR σ) t i k (some x))
def pN (σ : Mem) (n : Option Nat) : Mem := (n, mI σ, mJ σ, mR σ)
/-- the first n numbers of (t, i) into (u, j) -/
def pC (σ : Mem) (t i u j n : Nat) : Mem := (σ.1, fun a b c => if a = u ∧ b = j ∧ c < n then mI σ t i c else mI σ a b c, mJ σ, mR σ)
/-- n rows of the outer array (t, 0) -/
def pM (σ : Mem) (t n : Nat) : Mem := (σ.1, mI σ, mJ σ, fun a b c => if a = t ∧ b = 0 ∧ c < n then some (t + 1, c) else mR σ a b c)
def catV (v : MV) : Nat := match v with
  | .inl (.long _) => 2
  | .inl (.double _) => 2
  | _ => 1
def sumC : List MV → Nat
  | [] => 0
  | v :: l => catV v + sumC l
def getL : LV → Nat → Option MV
  | [], _ => none
  | q :: l, i => bif Nat.beq q.1 i then some q.2 else getL l i
def dropL : LV → Nat → LV
  | [], _ => []
  | q :: l, i => bif Nat.beq q.1 i || (Nat.beq (q.1 + 1) i && Nat.beq (catV q.2) 2) then dropL l i else q :: dropL l i
def dropL2 : LV → Nat → LV
  | [], _ => []
  | q :: l, i => bif Nat.beq q.1 i || (Nat.beq q.1 (i + 1) || (Nat.beq (q.1 + 1) i && Nat.beq (catV q.2) 2)) then dropL2 l i else q :: dropL2 l i
def swA (x : Int32) (k : Nat → Prop) : Int → List Nat → Prop
  | _, [] => True
  | lo, t :: ts => (x = Int32.ofInt lo → k t) ∧ swA x k (lo + 1) ts
def brC (b : Nat) (x y : Int32) : Prop := match b with
  | 0 => x = y
  | 1 => ¬ x = y
  | 2 => x < y
  | 3 => y ≤ x
  | 4 => y < x
  | _ => x ≤ y
def arI (b : Nat) (x y : Int32) : Int32 := match b with
  | 0 => x + y
  | 1 => x - y
  | 2 => x * y
  | 3 => x &&& y
  | _ => x >>> (y &&& 31)
def arL (b : Nat) (x y : Int64) : Int64 := match b with
  | 0 => x + y
  | 1 => x - y
  | _ => x * y
def takA : Nat → List MV → List MV → Option (List MV × List MV)
  | 0, st, acc => some (acc, st)
  | n + 1, v :: st, acc => takA n st (v :: acc)
  | _ + 1, [], _ => none
def catT (mi pc e : Nat) : Option Int := (catL.find? (fun q => Nat.beq q.1 mi && (Nat.ble q.2.1 pc && (Nat.ble (pc + 1) q.2.2.1 && Nat.beq q.2.2.2.2.2.1 e)))).map (fun q => q.2.2.2.2.2.2)
def recvOk (x : Nat) (as : List MV) : Bool := match mKind x, as with
  | 0, .inr (t, _) :: _ => Nat.beq (kdK t) (mOwnNo x)
  | 1, _ => true
  | 2, .inr (t, _) :: _ => Nat.ble (t + 1) 85
  | _, _ => false
def callOk (a : Int) (mi x : Nat) (cnt : Nat × Nat) (as rest : List MV) : Bool := decide (a = (mKind x : Int)) && (recvOk x as && (Nat.ble (sumC rest) 8 && (Nat.ble (sumC as) (mMaxL x) && (Nat.ble (mFr x + 1) (mFr mi) && (Nat.ble (8 + (mMaxL x + 11) + mLo x) (mLo mi) && (Nat.ble (cnt.1 + mMc x) (mMc mi) && Nat.ble (cnt.2 + mMs x) (mMs mi)))))))
/-- room for a call into the library -/
def natOk (mi : Nat) (cnt : Nat × Nat) (r : List MV) : Bool := Nat.ble (sumC r) 8 && (Nat.ble (sumC r + 18) (mLo mi) && (Nat.ble 1 (mFr mi) && (Nat.ble cnt.1 (mMc mi) && Nat.ble cnt.2 (mMs mi))))
def isTrue (b : Bool) (p : Prop) : Prop := match b with
  | true => p
  | false => False
/-- what one op asks, for what is asked behind it (k), of a return or a throw (Q), of a call (G); N, xs: the script -/
def vs (N : Nat) (xs : Nat → Int32) (G : Nat → List MV → Mem → (Out → Mem → Prop) → Prop) (Q : Out → Mem → Prop) (mi : Nat) (k : Nat → LV → List MV → Mem → Nat × Nat → Prop) (o : Op) (pc : Nat) (lv : LV) (st : List MV) (σ : Mem) (cnt : Nat × Nat) : Prop :=
  match o with
  | (0, a, _, _, n, _) => k n lv (.inl (.int (Int32.ofInt a)) :: st) σ cnt
  | (1, a, _, _, n, _) => k n lv (.inl (.long (Int64.ofInt a)) :: st) σ cnt
  | (2, _, b, c, n, _) => (match c, getL lv b with
    | 0, some (.inl (.int x)) => k n lv (.inl (.int x) :: st) σ cnt
    | 1, some (.inr q) => k n lv (.inr q :: st) σ cnt
    | 2, some (.inl (.long x)) => k n lv (.inl (.long x) :: st) σ cnt
    | _, _ => False)
  | (3, _, b, c, n, _) => (match c, st with
    | 0, .inl (.int x) :: r => isTrue (Nat.ble (b + 1) (mMaxL mi)) (k n ((b, .inl (.int x)) :: dropL lv b) r σ cnt)
    | 1, .inr q :: r => isTrue (Nat.ble (b + 1) (mMaxL mi)) (k n ((b, .inr q) :: dropL lv b) r σ cnt)
    | 2, .inl (.long x) :: r => isTrue (Nat.ble (b + 2) (mMaxL mi)) (k n ((b, .inl (.long x)) :: dropL2 lv b) r σ cnt)
    | _, _ => False)
  | (4, a, b, _, n, _) => (match getL lv b with
    | some (.inl (.int x)) => isTrue (Nat.ble (b + 1) (mMaxL mi)) (k n ((b, .inl (.int (x + Int32.ofInt a))) :: dropL lv b) st σ cnt)
    | _ => False)
  | (5, _, b, _, n, _) => (match st with
    | .inl (.int y) :: .inl (.int x) :: r => k n lv (.inl (.int (arI b x y)) :: r) σ cnt
    | _ => False)
  | (6, _, b, _, n, _) => (match st with
    | .inl (.long y) :: .inl (.long x) :: r => k n lv (.inl (.long (arL b x y)) :: r) σ cnt
    | _ => False)
  | (7, _, _, _, n, _) => (match st with
    | .inl (.int x) :: r => k n lv (.inl (.int (-x)) :: r) σ cnt
    | _ => False)
  | (8, _, _, _, n, _) => (match st with
    | .inl (.int x) :: r => k n lv (.inl (.long x.toInt64) :: r) σ cnt
    | _ => False)
  | (9, _, _, _, n, _) => (match st with
    | .inl (.long x) :: r => k n lv (.inl (.int x.toInt32) :: r) σ cnt
    | _ => False)
  | (10, _, _, _, n, _) => (match st with
    | .inl (.int x) :: r => k n lv (.inl (.int x.toInt8.toInt32) :: r) σ cnt
    | _ => False)
  | (11, _, _, _, n, _) => (match st with
    | .inl (.long y) :: .inl (.long x) :: r => k n lv (.inl (.int (lg_cmp x y)) :: r) σ cnt
    | _ => False)
  | (12, _, _, _, n, _) => (match st with
    | v :: r => isTrue (Nat.beq (catV v) 1) (k n lv (v :: v :: r) σ cnt)
    | _ => False)
  | (13, _, _, _, n, _) => (match st with
    | v :: w :: r => isTrue (Nat.beq (catV v) 1 && Nat.beq (catV w) 1) (k n lv (v :: w :: v :: w :: r) σ cnt)
    | _ => False)
  | (14, _, b, c, n, _) => (match st with
    | .inl (.int x) :: r => (brC b x 0 → k c lv r σ cnt) ∧ (¬ brC b x 0 → k n lv r σ cnt)
    | _ => False)
  | (15, _, b, c, n, _) => (match st with
    | .inl (.int y) :: .inl (.int x) :: r => (brC b x y → k c lv r σ cnt) ∧ (¬ brC b x y → k n lv r σ cnt)
    | _ => False)
  | (16, _, _, c, _, _) => k c lv st σ cnt
  | (17, a, b, _, _, ts) => (match st with
    | .inl (.int x) :: r => swA x (fun t => k t lv r σ cnt) a ts ∧ ((x.toInt < a ∨ a + (ts.length : Int) - 1 < x.toInt) → k b lv r σ cnt)
    | _ => False)
  | (18, _, b, c, n, _) => (match st with
    | .inr (t, i) :: r => isTrue (Nat.beq (kdK t) c && Nat.ble (t + 1) 85) (match ftT c b with
      | 0 => k n lv (.inl (.int (mI σ t i b)) :: r) σ cnt
      | 1 => k n lv (.inl (.long (mJ σ t i b)) :: r) σ cnt
      | _ => (match mR σ t i b with
        | some q => k n lv (.inr q :: r) σ cnt
        | none => False))
    | _ => False)
  | (19, _, b, c, n, _) => (match st with
    | v :: .inr (t, i) :: r => isTrue (Nat.beq (kdK t) c && Nat.ble (t + 1) 85) (match ftT c b, v with
      | 0, .inl (.int x) => k n lv r (pI σ t i b x) cnt
      | 1, .inl (.long x) => k n lv r (pJ σ t i b x) cnt
      | 2, .inr q => isTrue (Nat.ble (q.1 + 1) 85) (k n lv r (pR σ t i b q) cnt)
      | _, _ => False)
    | _ => False)
  | (20, _, b, _, n, _) => (match st with
    | .inl (.int j) :: .inr (t, i) :: r => (match b with
      | 0 => (match Nat.beq t 201 with
        | true => isTrue (Nat.beq i 0) (vp_in j N ∧ k n lv (.inl (.int (xs j.toNatClampNeg)) :: r) σ cnt)
        | false => isTrue (Nat.beq (kdK t) 10) (vp_in j (lenT t) ∧ k n lv (.inl (.int (mI σ t i j.toNatClampNeg)) :: r) σ cnt))
      | 1 => isTrue (Nat.beq (kdK t) 11 || Nat.beq (kdK t) 13) (vp_in j (lenT t) ∧ k n lv (.inl (.int (mI σ t i j.toNatClampNeg)) :: r) σ cnt)
      | 2 => isTrue (Nat.beq (kdK t) 12) (vp_in j (lenT t) ∧ k n lv (.inl (.long (mJ σ t i j.toNatClampNeg)) :: r) σ cnt)
      | _ => isTrue (Nat.ble 14 (kdK t) && Nat.ble (kdK t) 16) (vp_in j (lenT t) ∧ ∃ q, mR σ t i j.toNatClampNeg = some q ∧ k n lv (.inr q :: r) σ cnt))
    | _ => False)
  | (21, _, b, _, n, _) => (match b, st with
    | 0, .inl (.int x) :: .inl (.int j) :: .inr (t, i) :: r => isTrue (Nat.beq (kdK t) 10) (vp_in j (lenT t) ∧ k n lv r (pI σ t i j.toNatClampNeg x) cnt)
    | 1, .inl (.int x) :: .inl (.int j) :: .inr (t, i) :: r => (match kdK t with
      | 11 => isTrue σ.1.isNone (vp_in j (lenT t) ∧ k n lv r (pI σ t i j.toNatClampNeg (vp_nar .byte x)) cnt)
      | 13 => isTrue σ.1.isNone (vp_in j (lenT t) ∧ k n lv r (pI σ t i j.toNatClampNeg (vp_nar .boolean x)) cnt)
      | _ => False)
    | 2, .inl (.long x) :: .inl (.int j) :: .inr (t, i) :: r => isTrue (Nat.beq (kdK t) 12 && σ.1.isNone) (vp_in j (lenT t) ∧ k n lv r (pJ σ t i j.toNatClampNeg x) cnt)
    | 3, .inr (u, h) :: .inl (.int j) :: .inr (t, i) :: r => isTrue ((Nat.beq (kdK t) 14 && Nat.beq (kdK u) 4) || (Nat.beq (kdK t) 15 && Nat.beq (kdK u) 0)) (vp_in j (lenT t) ∧ k n lv r (pR σ t i j.toNatClampNeg (u, h)) cnt)
    | _, _ => False)
  | (22, _, _, _, n, _) => (match st with
    | .inr (201, 0) :: r => k n lv (.inl (.int (Int32.ofNat N)) :: r) σ cnt
    | _ => False)
  | (23, _, _, _, _, _) => (match st with
    | [] => isTrue (Nat.beq (mRetNo mi) 0 && Nat.ble cnt.1 (mMc mi) && Nat.ble cnt.2 (mMs mi)) (Q (.inl none) σ)
    | _ => False)
  | (24, _, b, _, _, _) => isTrue (Nat.ble cnt.1 (mMc mi) && Nat.ble cnt.2 (mMs mi)) (match b, mRetNo mi, st with
    | 0, 1, [.inl (.int x)] => Q (.inl (some (.inl (.int x)))) σ
    | 0, 2, [.inl (.int x)] => (match Nat.beq mi 162 with
      | true => x = 1
      | false => (x = 0 ∨ x = 1) ∧ Q (.inl (some (.inl (.int x)))) σ)
    | 1, 3, [.inl (.long x)] => Q (.inl (some (.inl (.long x)))) σ
    | 2, 4, [.inr q] => Q (.inl (some (.inr q))) σ
    | _, _, _ => False)
  | (25, a, x, na, n, _) => (match takA na st [] with
    | some (as, r) => isTrue (callOk a mi x cnt as r) (match a with
      | 2 => G x as σ (fun o σ' => match o with
        | .inl v => k n lv (v.toList ++ r) σ' (cnt.1 + mMc x, cnt.2 + mMs x)
        | .inr _ => False)
      | _ => G x as σ (fun o σ' => match o with
        | .inl v => k n lv (v.toList ++ r) σ' (cnt.1 + mMc x, cnt.2 + mMs x)
        | .inr e => (match catT mi pc e with
          | some z => Q (.inl (some (.inl (.int (Int32.ofInt z))))) σ'
          | none => (match mHh mi with
            | [] => (match Nat.beq mi 162 with
              | true => False
              | false => Q (.inr e) σ')
            | _ :: _ => False))))
    | none => False)
  | (26, a, b, _, n, _) => (match b, st with
    | 0, .inl (.int y) :: .inl (.int x) :: r => isTrue (decide (a = 1) && natOk mi cnt r) (k n lv (.inl (.int (if x < y then y else x)) :: r) σ cnt)
    | 1, .inl (.int y) :: .inl (.int x) :: r => isTrue (decide (a = 1) && natOk mi cnt r) (k n lv (.inl (.int (if y < x then y else x)) :: r) σ cnt)
    | 2, .inl (.long y) :: .inl (.long x) :: r => isTrue (decide (a = 1) && natOk mi cnt r) (k n lv (.inl (.long (if y < x then y else x)) :: r) σ cnt)
    | _, _ => False)
  | (27, a, _, _, n, _) => (match st with
    | .inl (.int z) :: .inl (.int dp) :: .inr (u, j) :: .inl (.int sp) :: .inr (t, i) :: r => isTrue (decide (a = 1) && (Nat.beq (kdK t) 10 && (Nat.beq (kdK u) 10 && (natOk mi cnt r && σ.1.isNone)))) (sp = 0 ∧ dp = 0 ∧ ¬ z < 0 ∧ z.toNatClampNeg ≤ lenT t ∧ z.toNatClampNeg ≤ lenT u ∧ k n lv r (pC σ t i u j z.toNatClampNeg) cnt)
    | _ => False)
  | (28, _, b, _, n, _) => ∃ t i, σ.1 = some (ordT t i) ∧ i < cntT t ∧ kdK t = b ∧ cnt.1 + 1 ≤ mMc mi ∧ cnt.2 + nFld b ≤ mMs mi ∧ k n lv (.inr (t, i) :: st) (pN σ (some (ordT t i + 1))) (cnt.1 + 1, cnt.2 + nFld b)
  | (29, _, b, _, n, _) => (match st with
    | .inl (.int z) :: r => ∃ t i, σ.1 = some (ordT t i) ∧ i < cntT t ∧ kdK t = b ∧ z = Int32.ofNat (lenT t) ∧ cnt.1 + 1 ≤ mMc mi ∧ cnt.2 + lenT t ≤ mMs mi ∧ k n lv (.inr (t, i) :: r) (pN σ (some (ordT t i + 1))) (cnt.1 + 1, cnt.2 + lenT t)
    | _ => False)
  | (30, _, b, _, n, _) => (match st with
    | .inl (.int z) :: r => ∃ t i, σ.1 = some (ordT t i) ∧ i < cntT t ∧ kdK t = b ∧ z = Int32.ofNat (lenT t) ∧ cnt.1 + 1 ≤ mMc mi ∧ cnt.2 + lenT t ≤ mMs mi ∧ k n lv (.inr (t, i) :: r) (pN σ (some (ordT t i + 1))) (cnt.1 + 1, cnt.2 + lenT t)
    | _ => False)
  | (31, _, _, _, n, _) => (match st with
    | .inl (.int y) :: .inl (.int z) :: r => ∃ t, σ.1 = some (ordT t 0) ∧ (t = 31 ∨ t = 33) ∧ z = 12 ∧ y = 12 ∧ cnt.1 + 13 ≤ mMc mi ∧ cnt.2 + 156 ≤ mMs mi ∧ k n lv (.inr (t, 0) :: r) (pN (pM σ t 12) (some (ordT t 0 + 13))) (cnt.1 + 1 + 12, cnt.2 + 12 + 12 * 12)
    | _ => False)
  | (32, _, b, _, _, _) => isTrue (!Nat.beq mi 162 && Nat.ble (b + 1) 4 && σ.1.isNone && Nat.ble (sumC st) 8 && Nat.ble (cnt.1 + 1) (mMc mi) && Nat.ble (cnt.2 + 6) (mMs mi)) (Q (.inr b) σ)
  | (33, _, b, _, n, _) => isTrue (Nat.beq n (pc + 2) && !Nat.beq (mOwnNo mi) 7) (k n lv (.inr (200, b) :: st) σ cnt)
  | (34, a, b, _, n, _) => (match b, st with
    | 0, .inr (200, s) :: r => isTrue (decide (a = 0) && (Nat.ble (s + 1) 28 && (Nat.ble 5 (mFr mi) && (Nat.ble 110 (mLo mi) && natOk mi cnt r)))) (k n lv (.inl (.int (nI (strB.getD s []).length)) :: r) σ cnt)
    | 1, .inl (.int j) :: .inr (200, s) :: r => isTrue (decide (a = 0) && (Nat.ble (s + 1) 28 && (Nat.ble 5 (mFr mi) && (Nat.ble 110 (mLo mi) && natOk mi cnt r)))) (vp_in j (strB.getD s []).length ∧ k n lv (.inl (.int ((strB.getD s []).getD j.toNatClampNeg 0)) :: r) σ cnt)
    | 0, .inr (202, s) :: r => isTrue (decide (a = 0) && (Nat.ble (s + 1) 28 && (Nat.ble 5 (mFr mi) && (Nat.ble 110 (mLo mi) && natOk mi cnt r)))) (k n lv (.inl (.int (nI (strB.getD s []).length)) :: r) σ cnt)
    | 1, .inl (.int j) :: .inr (202, s) :: r => isTrue (decide (a = 0) && (Nat.ble (s + 1) 28 && (Nat.ble 5 (mFr mi) && (Nat.ble 110 (mLo mi) && natOk mi cnt r)))) (vp_in j (strB.getD s []).length ∧ k n lv (.inl (.int ((strB.getD s []).getD j.toNatClampNeg 0)) :: r) σ cnt)
    | _, _ => False)
  | (35, _, b, _, n, _) => (match st with
    | .inl (.int y) :: .inl (.int x) :: r => ¬ y = 0 ∧ k n lv (.inl (.int (bif Nat.beq b 0 then x / y else x - x / y * y)) :: r) σ cnt
    | _ => False)
  | (36, _, b, _, n, _) => (match st with
    | .inl (.long y) :: .inl (.long x) :: r => ¬ y = 0 ∧ k n lv (.inl (.long (bif Nat.beq b 0 then x / y else x - x / y * y)) :: r) σ cnt
    | _ => False)
  | (37, a, _, _, n, _) => (match st with
    | .inr (t, i) :: r => isTrue (decide (a = 2) && (Nat.ble (sumC r + 12) (mLo mi) && Nat.ble 1 (mFr mi))) (k n lv r σ cnt)
    | _ => False)
  | _ => False
/-- what a stretch of at most so many ops asks; it ends where C names a place -/
def vc (N : Nat) (xs : Nat → Int32) (G : Nat → List MV → Mem → (Out → Mem → Prop) → Prop) (C : Nat → Option (LV → List MV → Mem → Nat × Nat → Prop)) (Q : Out → Mem → Prop) (mi : Nat) : Nat → Nat → LV → List MV → Mem → Nat × Nat → Prop
  | 0, _, _, _, _, _ => False
  | f + 1, pc, lv, st, σ, cnt => match opU mi pc with
    | some o => vs N xs G Q mi (fun pc' lv' st' σ' cnt' => match C pc' with
      | some P => P lv' st' σ' cnt'
      | none => vc N xs G C Q mi f pc' lv' st' σ' cnt') o pc lv st σ cnt
    | none => False
