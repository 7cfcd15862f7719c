/-! Splitting: numbers. -/
def sumN (g : Nat → Nat) : Nat → Nat
  | 0 => 0
  | n + 1 => sumN g n + g n
theorem sumN_congr {g g' : Nat → Nat} : ∀ n, (∀ i, i < n → g i = g' i) → sumN g n = sumN g' n
  | 0, _ => rfl
  | n + 1, h => by unfold sumN; rw [sumN_congr n (fun i hi => h i (by omega)), h n (by omega)]
theorem sumN_le {g g' : Nat → Nat} : ∀ n, (∀ i, i < n → g i ≤ g' i) → sumN g n ≤ sumN g' n
  | 0, _ => Nat.le_refl _
  | n + 1, h => by
    unfold sumN
    exact Nat.add_le_add (sumN_le n (fun i hi => h i (by omega))) (h n (by omega))
theorem sumN_0 : ∀ n, sumN (fun _ => 0) n = 0
  | 0 => rfl
  | n + 1 => sumN_0 n
theorem sumN_add {g g' : Nat → Nat} : ∀ n, sumN (fun i => g i + g' i) n = sumN g n + sumN g' n
  | 0 => rfl
  | n + 1 => by unfold sumN; rw [sumN_add n]; omega
theorem sumN_mul {g : Nat → Nat} {p : Nat} : ∀ n, sumN (fun i => p * g i) n = p * sumN g n
  | 0 => rfl
  | n + 1 => by unfold sumN; rw [sumN_mul n, Nat.mul_add]
/-- where sums are alike and each is at most the other's, each is the other's -/
theorem sumN_eq {g g' : Nat → Nat} : ∀ n, (∀ i, i < n → g i ≤ g' i) → sumN g' n ≤ sumN g n → ∀ i, i < n → g i = g' i
  | 0, _, _, i, hi => absurd hi (Nat.not_lt_zero _)
  | n + 1, h, hs, i, hi => by
    unfold sumN at hs
    have h1 := sumN_le n (fun i hi => h i (by omega))
    have h2 := h n (by omega)
    by_cases z : i = n
    · subst z; omega
    · exact sumN_eq n (fun i hi => h i (by omega)) (by omega) i (by omega)
def bump (j : Nat → Nat) (b : Nat) : Nat → Nat := fun i => if i = b then j i + 1 else j i
theorem sumN_bump {j : Nat → Nat} {b : Nat} : ∀ n, sumN (bump j b) n = sumN j n + if b < n then 1 else 0
  | 0 => by rw [if_neg (Nat.not_lt_zero _)]; rfl
  | n + 1 => by
    have ih := sumN_bump (j := j) (b := b) n
    unfold sumN
    rw [ih]
    unfold bump
    by_cases z : n = b
    · subst z
      rw [if_neg (Nat.lt_irrefl _), if_pos rfl, if_pos (Nat.lt_succ_self _)]; omega
    · by_cases y : b < n
      · rw [if_pos y, if_neg z, if_pos (show b < n + 1 by omega)]; omega
      · rw [if_neg y, if_neg z, if_neg (show ¬ b < n + 1 by omega)]; omega
/-- how many slabs bring at least q -/
def cq (t f k : Nat → Nat) (q s : Nat) : Nat := (t s + 1 - q) * f s - k s
/-- the price behind j more -/
def hp (t f k : Nat → Nat) (s j : Nat) : Nat := t s - (k s + j) / f s
def vl (t f k j : Nat → Nat) (s : Nat) : Nat := gsum (t s) (f s) (k s + j s) - gsum (t s) (f s) (k s)
section SPLN
variable {t f k j : Nat → Nat} {n q s : Nat}
theorem hp_iff (hf : 1 ≤ f s) (hq : 1 ≤ q) {i : Nat} : q ≤ hp t f k s i ↔ i < cq t f k q s := by
  unfold hp cq
  have key : ∀ z, q ≤ t s - z ↔ z < t s + 1 - q := fun z => by omega
  rw [key, Nat.div_lt_iff_lt_mul (by omega)]
  omega
theorem cq_anti {q' : Nat} (h : q ≤ q') : cq t f k q' s ≤ cq t f k q s := by
  unfold cq
  have : (t s + 1 - q') * f s ≤ (t s + 1 - q) * f s := Nat.mul_le_mul_right _ (by omega)
  omega
/-- the dearest are sold first -/
def Gr (n : Nat) (t f k j : Nat → Nat) : Prop := (∀ q, 1 ≤ q → (∀ s, s < n → j s ≤ cq t f k q s) ∨ ∀ s, s < n → cq t f k q s ≤ j s) ∧ ∀ s, s < n → j s ≤ cq t f k 1 s
theorem Gr.step {b : Nat} (h : Gr n t f k j) (hb : b < n) (hf : ∀ s, s < n → 1 ≤ f s ∨ cq t f k 1 s = 0) (hfb : 1 ≤ f b) (hpos : 1 ≤ hp t f k b (j b)) (hmax : ∀ s, s < n → 1 ≤ f s → hp t f k s (j s) ≤ hp t f k b (j b)) : Gr n t f k (bump j b) := by
  refine ⟨fun q hq => ?_, fun s hs => ?_⟩
  · by_cases z : ∀ s, s < n → cq t f k q s ≤ j s
    · right
      intro s hs
      have := z s hs
      unfold bump
      split <;> omega
    · left
      have hle : ∀ s, s < n → j s ≤ cq t f k q s := by
        rcases h.1 q hq with y | y
        · exact y
        · exact absurd y z
      have hb1 : j b < cq t f k q b := by
        refine (hp_iff hfb hq).mp (Decidable.byContradiction fun y => z (fun s hs => ?_))
        refine Nat.not_lt.mp (fun w => y ?_)
        have f1 : 1 ≤ f s := by
          rcases hf s hs with x | x
          · exact x
          · have := cq_anti (t := t) (f := f) (k := k) (s := s) hq
            omega
        exact Nat.le_trans ((hp_iff f1 hq).mpr w) (hmax s hs f1)
      intro s hs
      have := hle s hs
      unfold bump
      split
      · rename_i e; rw [e] at *; omega
      · exact this
  · have := h.2 s hs
    unfold bump
    split
    · rename_i e
      rw [e] at *
      have := (hp_iff (k := k) (t := t) hfb (Nat.le_refl 1)).mp hpos
      omega
    · exact this
theorem vl_bump {b : Nat} : ∀ n, sumN (vl t f k (bump j b)) n = sumN (vl t f k j) n + if b < n then hp t f k b (j b) else 0
  | 0 => by rw [if_neg (Nat.not_lt_zero _)]; rfl
  | n + 1 => by
    have ih := vl_bump (b := b) n
    unfold sumN
    rw [ih]
    by_cases z : n = b
    · subst z
      rw [if_neg (Nat.lt_irrefl _), if_pos (Nat.lt_succ_self _)]
      have e : vl t f k (bump j n) n = vl t f k j n + hp t f k n (j n) := by
        unfold vl bump hp
        rw [if_pos rfl]
        have h1 := gsum_mono (t := t n) (f := f n) (k n) (j n)
        show gsum (t n) (f n) (k n + j n) + (t n - (k n + j n) / f n) - gsum (t n) (f n) (k n) = _
        omega
      rw [e]; omega
    · have e : vl t f k (bump j b) n = vl t f k j n := by
        unfold vl bump
        rw [if_neg z]
      rw [e]
      by_cases y : b < n
      · rw [if_pos y, if_pos (show b < n + 1 by omega)]; omega
      · rw [if_neg y, if_neg (show ¬ b < n + 1 by omega)]; omega
/-- between the last two bounds each slab brings p -/
theorem gsum_flat {T F K p : Nat} (hF : 1 ≤ F) (hp1 : 1 ≤ p) : ∀ d a, (T + 1 - (p + 1)) * F - K ≤ a → a + d ≤ (T + 1 - p) * F - K → gsum T F (K + (a + d)) = gsum T F (K + a) + p * d
  | 0, a, _, _ => by rw [Nat.mul_zero]; rfl
  | d + 1, a, h1, h2 => by
    have ih := gsum_flat hF hp1 d a h1 (by omega)
    show gsum T F (K + (a + d)) + (T - (K + (a + d)) / F) = _
    rw [ih, Nat.mul_add, Nat.mul_one]
    have e1 : (K + (a + d)) / F < T + 1 - p := (Nat.div_lt_iff_lt_mul (by omega)).mpr (by omega)
    have e2 : T + 1 - (p + 1) ≤ (K + (a + d)) / F := (Nat.le_div_iff_mul_le (by omega)).mpr (by omega)
    omega
/-- what the x dearest bring -/
theorem split_val {x p : Nat} (h : Gr n t f k j) (hf : ∀ s, s < n → 1 ≤ f s ∨ (f s = 0 ∧ cq t f k 1 s = 0)) (hp0 : p = 0 ∨ x < sumN (cq t f k p) n) (hp1 : sumN (cq t f k (p + 1)) n ≤ x) (hT : sumN j n = x ∨ (sumN j n ≤ x ∧ ∀ s, s < n → cq t f k 1 s ≤ j s)) : sumN (vl t f k j) n = sumN (vl t f k (cq t f k (p + 1))) n + p * (x - sumN (cq t f k (p + 1)) n) := by
  rcases Nat.eq_zero_or_pos p with rfl | hpos
  · rw [Nat.zero_mul, Nat.add_zero]
    have hj : ∀ s, s < n → j s = cq t f k 1 s := by
      rcases hT with z | ⟨-, z⟩
      · exact sumN_eq n h.2 (by rw [z]; exact hp1)
      · exact fun s hs => Nat.le_antisymm (h.2 s hs) (z s hs)
    exact sumN_congr n (fun s hs => by unfold vl; rw [hj s hs])
  · have hx : x < sumN (cq t f k p) n := by
      rcases hp0 with z | z
      · omega
      · exact z
    have hT1 : sumN j n = x := by
      rcases hT with z | ⟨y, z⟩
      · exact z
      · have := sumN_le n (fun s hs => z s hs)
        have h2 := sumN_le n (fun s (hs : s < n) => cq_anti (t := t) (f := f) (k := k) (s := s) (q := 1) (q' := p) hpos)
        omega
    have hup : ∀ s, s < n → j s ≤ cq t f k p s := by
      rcases h.1 p hpos with z | z
      · exact z
      · have := sumN_le n z
        omega
    have hdn : ∀ s, s < n → cq t f k (p + 1) s ≤ j s := by
      rcases h.1 (p + 1) (by omega) with z | z
      · intro s hs
        have := sumN_eq n z (by rw [hT1]; exact hp1) s hs
        omega
      · exact z
    have hv : ∀ s, s < n → vl t f k j s = vl t f k (cq t f k (p + 1)) s + p * (j s - cq t f k (p + 1) s) := fun s hs => by
      have h1 := hup s hs
      have h2 := hdn s hs
      rcases hf s hs with f1 | ⟨f0, c0⟩
      · have := gsum_flat (T := t s) (F := f s) (K := k s) (p := p) f1 hpos (j s - cq t f k (p + 1) s) (cq t f k (p + 1) s) (Nat.le_refl _) (by
          have e : cq t f k p s = (t s + 1 - p) * f s - k s := rfl
          omega)
        unfold vl
        rw [show cq t f k (p + 1) s + (j s - cq t f k (p + 1) s) = j s by omega] at this
        rw [this]
        have := gsum_mono (t := t s) (f := f s) (k s) (cq t f k (p + 1) s)
        omega
      · have a1 := cq_anti (t := t) (f := f) (k := k) (s := s) (q := 1) (q' := p) hpos
        have a2 := cq_anti (t := t) (f := f) (k := k) (s := s) (q := 1) (q' := p + 1) (by omega)
        have e1 : j s = 0 := by omega
        have e2 : cq t f k (p + 1) s = 0 := by omega
        unfold vl
        rw [e1, e2, Nat.sub_self 0, Nat.mul_zero, Nat.add_zero, Nat.add_zero]
    rw [sumN_congr n hv, sumN_add, sumN_mul]
    congr 1
    congr 1
    have e : sumN j n = sumN (fun s => cq t f k (p + 1) s + (j s - cq t f k (p + 1) s)) n := sumN_congr n (fun s hs => by have := hdn s hs; omega)
    rw [sumN_add] at e
    have e2 : sumN (cq t f k (p + 1)) n = sumN (fun s => cq t f k (p + 1) s) n := rfl
    omega
end SPLN
