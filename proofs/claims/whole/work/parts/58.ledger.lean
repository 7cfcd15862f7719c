/-! Entries of both sides. -/
theorem mMoney_congr {B B' : MM} {e d : Int32} : ∀ r, (∀ k, k < r → B'.1 76 0 k = B.1 76 0 k ∧ B'.1 77 0 k = B.1 77 0 k ∧ B'.1 78 0 k = B.1 78 0 k) → B'.1 75 0 (cl e) = B.1 75 0 (cl e) → mMoney B' e d r = mMoney B e d r
  | 0, _, h => h
  | r + 1, hk, h => by
    unfold mMoney
    obtain ⟨a, b, c⟩ := hk r (by omega)
    rw [a, b, c, mMoney_congr r (fun k hk2 => hk k (by omega)) h]
theorem mMoney_none {B : MM} {e d : Int32} : ∀ r, (∀ k, k < r → ¬ B.1 76 0 k = e) → mMoney B e d r = B.1 75 0 (cl e)
  | 0, _ => rfl
  | r + 1, h => by
    unfold mMoney
    rw [if_neg (fun z => h r (by omega) z.1), mMoney_none r (fun k hk => h k (by omega))]
theorem mMoney_day {B : MM} {e d d' : Int32} : ∀ r, (∀ k, k < r → B.1 77 0 k ≤ d ∧ B.1 77 0 k ≤ d') → mMoney B e d r = mMoney B e d' r
  | 0, _ => rfl
  | r + 1, h => by
    unfold mMoney
    rw [mMoney_day r (fun k hk => h k (by omega))]
    obtain ⟨a, b⟩ := h r (by omega)
    by_cases q : B.1 76 0 r = e
    · rw [if_pos ⟨q, a⟩, if_pos ⟨q, b⟩]
    · rw [if_neg (fun z => q z.1), if_neg (fun z => q z.1)]
section LEDG
variable {e r : Nat} {A B A' B' : MM}
/-- other parts of the memory don't matter -/
theorem rLe.fr (h : rLe e r A B) (hA : ∀ t, 35 ≤ t → t ≤ 43 → A'.1 t 0 = A.1 t 0) (hJ : A'.2 43 0 = A.2 43 0) (h13 : A'.1 0 0 13 = A.1 0 0 13) (hB : ∀ t, 72 ≤ t → t ≤ 78 → B'.1 t 0 = B.1 t 0) (h36 : B'.1 44 0 36 = B.1 44 0 36) (h40 : B'.1 44 0 40 = B.1 44 0 40) : rLe e r A' B' := by
  have mm : ∀ x d k, mMoney B' x d k = mMoney B x d k := fun x d k => mMoney_congr k (fun j _ => ⟨by rw [hB 76 (by decide) (by decide)], by rw [hB 77 (by decide) (by decide)], by rw [hB 78 (by decide) (by decide)]⟩) (by rw [hB 75 (by decide) (by decide)])
  unfold rLe
  rw [hA 35 (by decide) (by decide), hA 36 (by decide) (by decide), hA 37 (by decide) (by decide), hA 38 (by decide) (by decide), hA 39 (by decide) (by decide), hA 40 (by decide) (by decide), hA 41 (by decide) (by decide), hA 42 (by decide) (by decide), hJ, h13, h36, h40, hB 72 (by decide) (by decide), hB 73 (by decide) (by decide), hB 74 (by decide) (by decide), hB 75 (by decide) (by decide), hB 76 (by decide) (by decide), hB 77 (by decide) (by decide), hB 78 (by decide) (by decide)]
  simp only [mm]
  exact h
/-- an entry is written on both sides -/
theorem rLe.write {x p m : Int32} (h : rLe e r A B) (ht : B.1 44 0 1 = A.1 0 0 13) : ∃ e', e ≤ e' ∧ rLe e' r (cWrite A x p (A.1 0 0 13) m) (mWr B x p m) := by
  obtain ⟨⟨he, hr⟩, ⟨a0, b0, a6, b6⟩, h1, h2, h3⟩ := h
  unfold cWrite mWr
  by_cases g : m = 0
  · rw [if_pos g, if_pos g]; exact ⟨e, Nat.le_refl _, ⟨he, hr⟩, ⟨a0, b0, a6, b6⟩, h1, h2, h3⟩
  rw [if_neg g, if_neg g, a0, b0]
  by_cases g2 : e = 300
  · rw [if_neg (by rw [g2]; decide), if_pos (by rw [g2]; rfl)]; exact ⟨e, Nat.le_refl _, ⟨he, hr⟩, ⟨a0, b0, a6, b6⟩, h1, h2, h3⟩
  have hlt : e < 300 := by omega
  have ec : cl (nI e) = e := nI_clamp (by omega)
  rw [if_pos (show nI e < 300 from nI_lt (b := 300) hlt (by decide)), if_neg (show ¬ nI e = 300 from fun z => g2 ((nI_eq (b := 300) (by omega) (by decide)).mp z)), ec, ht]
  have tA : ∀ t j, t ≠ 35 → t ≠ 36 → t ≠ 37 → t ≠ 38 → t ≠ 39 → t ≠ 40 → (uI (uI (uI (uI (uI (uI A 36 0 e x) 37 0 e p) 38 0 e (A.1 0 0 13)) 39 0 e m) 40 0 e m) 35 0 0 (nI e + 1)).1 t 0 j = A.1 t 0 j := fun t j a b c d f g => by simp [uI_1, a, b, c, d, f, g]
  have tB : ∀ t j, t ≠ 44 → t ≠ 72 → t ≠ 73 → t ≠ 74 → t ≠ 75 → (uI (uI (uI (uI (uI B 72 0 e x) 73 0 e p) 74 0 e (A.1 0 0 13)) 75 0 e m) 44 0 36 (nI e + 1)).1 t 0 j = B.1 t 0 j := fun t j a b c d f => by simp [uI_1, a, b, c, d, f]
  have c36 : ∀ j, (uI (uI (uI (uI (uI (uI A 36 0 e x) 37 0 e p) 38 0 e (A.1 0 0 13)) 39 0 e m) 40 0 e m) 35 0 0 (nI e + 1)).1 36 0 j = if j = e then x else A.1 36 0 j := fun j => by simp [uI_1]
  have c37 : ∀ j, (uI (uI (uI (uI (uI (uI A 36 0 e x) 37 0 e p) 38 0 e (A.1 0 0 13)) 39 0 e m) 40 0 e m) 35 0 0 (nI e + 1)).1 37 0 j = if j = e then p else A.1 37 0 j := fun j => by simp [uI_1]
  have c38 : ∀ j, (uI (uI (uI (uI (uI (uI A 36 0 e x) 37 0 e p) 38 0 e (A.1 0 0 13)) 39 0 e m) 40 0 e m) 35 0 0 (nI e + 1)).1 38 0 j = if j = e then A.1 0 0 13 else A.1 38 0 j := fun j => by simp [uI_1]
  have c39 : ∀ j, (uI (uI (uI (uI (uI (uI A 36 0 e x) 37 0 e p) 38 0 e (A.1 0 0 13)) 39 0 e m) 40 0 e m) 35 0 0 (nI e + 1)).1 39 0 j = if j = e then m else A.1 39 0 j := fun j => by simp [uI_1]
  have c40 : ∀ j, (uI (uI (uI (uI (uI (uI A 36 0 e x) 37 0 e p) 38 0 e (A.1 0 0 13)) 39 0 e m) 40 0 e m) 35 0 0 (nI e + 1)).1 40 0 j = if j = e then m else A.1 40 0 j := fun j => by simp [uI_1]
  have d72 : ∀ j, (uI (uI (uI (uI (uI B 72 0 e x) 73 0 e p) 74 0 e (A.1 0 0 13)) 75 0 e m) 44 0 36 (nI e + 1)).1 72 0 j = if j = e then x else B.1 72 0 j := fun j => by simp [uI_1]
  have d73 : ∀ j, (uI (uI (uI (uI (uI B 72 0 e x) 73 0 e p) 74 0 e (A.1 0 0 13)) 75 0 e m) 44 0 36 (nI e + 1)).1 73 0 j = if j = e then p else B.1 73 0 j := fun j => by simp [uI_1]
  have d74 : ∀ j, (uI (uI (uI (uI (uI B 72 0 e x) 73 0 e p) 74 0 e (A.1 0 0 13)) 75 0 e m) 44 0 36 (nI e + 1)).1 74 0 j = if j = e then A.1 0 0 13 else B.1 74 0 j := fun j => by simp [uI_1]
  have d75 : ∀ j, (uI (uI (uI (uI (uI B 72 0 e x) 73 0 e p) 74 0 e (A.1 0 0 13)) 75 0 e m) 44 0 36 (nI e + 1)).1 75 0 j = if j = e then m else B.1 75 0 j := fun j => by simp [uI_1]
  have mm : ∀ i d k, i < e → mMoney (uI (uI (uI (uI (uI B 72 0 e x) 73 0 e p) 74 0 e (A.1 0 0 13)) 75 0 e m) 44 0 36 (nI e + 1)) (nI i) d k = mMoney B (nI i) d k := fun i d k hi => mMoney_congr k (fun j _ => ⟨tB 76 j (by decide) (by decide) (by decide) (by decide) (by decide), tB 77 j (by decide) (by decide) (by decide) (by decide) (by decide), tB 78 j (by decide) (by decide) (by decide) (by decide) (by decide)⟩) (by rw [show cl (nI i) = i from nI_clamp (by omega), d75, if_neg (by omega)])
  have hJ : (uI (uI (uI (uI (uI (uI A 36 0 e x) 37 0 e p) 38 0 e (A.1 0 0 13)) 39 0 e m) 40 0 e m) 35 0 0 (nI e + 1)).2 = A.2 := rfl
  have h13 : (uI (uI (uI (uI (uI (uI A 36 0 e x) 37 0 e p) 38 0 e (A.1 0 0 13)) 39 0 e m) 40 0 e m) 35 0 0 (nI e + 1)).1 0 0 13 = A.1 0 0 13 := rfl
  have q35 : (uI (uI (uI (uI (uI (uI A 36 0 e x) 37 0 e p) 38 0 e (A.1 0 0 13)) 39 0 e m) 40 0 e m) 35 0 0 (nI e + 1)).1 35 0 0 = nI (e + 1) := nI_1 e
  have q36 : (uI (uI (uI (uI (uI (uI A 36 0 e x) 37 0 e p) 38 0 e (A.1 0 0 13)) 39 0 e m) 40 0 e m) 35 0 0 (nI e + 1)).1 35 0 6 = A.1 35 0 6 := rfl
  have qB : (uI (uI (uI (uI (uI B 72 0 e x) 73 0 e p) 74 0 e (A.1 0 0 13)) 75 0 e m) 44 0 36 (nI e + 1)).1 44 0 36 = nI (e + 1) := nI_1 e
  have qB4 : (uI (uI (uI (uI (uI B 72 0 e x) 73 0 e p) 74 0 e (A.1 0 0 13)) 75 0 e m) 44 0 36 (nI e + 1)).1 44 0 40 = B.1 44 0 40 := rfl
  generalize uI (uI (uI (uI (uI (uI A 36 0 e x) 37 0 e p) 38 0 e (A.1 0 0 13)) 39 0 e m) 40 0 e m) 35 0 0 (nI e + 1) = A' at *
  generalize uI (uI (uI (uI (uI B 72 0 e x) 73 0 e p) 74 0 e (A.1 0 0 13)) 75 0 e m) 44 0 36 (nI e + 1) = B' at *
  refine ⟨e + 1, by omega, ⟨by omega, hr⟩, ⟨q35, qB, q36.trans a6, qB4.trans b6⟩, fun i hi => ?_, fun k hk => ?_, fun k j hkj hj => ?_⟩
  · rw [c36, c37, c38, c39, c40, d72, d73, d74, d75, h13]
    by_cases ei : i = e
    · subst ei
      rw [if_pos rfl, if_pos rfl, if_pos rfl, if_pos rfl, if_pos rfl, if_pos rfl, if_pos rfl, if_pos rfl, if_pos rfl]
      refine ⟨rfl, rfl, rfl, rfl, Int32.le_refl _, ?_⟩
      rw [mMoney_none r (fun k hk z => ?_), show cl (nI i) = i from ec, d75, if_pos rfl]
      rw [tB 76 k (by decide) (by decide) (by decide) (by decide) (by decide)] at z
      obtain ⟨y1, -, -, j, hj, y2, -⟩ := h2 k hk
      rw [← y1, y2, nI_eq (by omega) (by omega)] at z
      omega
    · rw [if_neg ei, if_neg ei, if_neg ei, if_neg ei, if_neg ei, if_neg ei, if_neg ei, if_neg ei, if_neg ei, mm i _ _ (by omega)]
      exact h1 i (by omega)
  · obtain ⟨y1, y2, y3, i, hi, y4, y5, y6⟩ := h2 k hk
    rw [tA 41 k (by decide) (by decide) (by decide) (by decide) (by decide) (by decide), tA 42 k (by decide) (by decide) (by decide) (by decide) (by decide) (by decide), tB 76 k (by decide) (by decide) (by decide) (by decide) (by decide), tB 77 k (by decide) (by decide) (by decide) (by decide) (by decide), tB 78 k (by decide) (by decide) (by decide) (by decide) (by decide), h13, hJ]
    refine ⟨y1, y2, y3, i, by omega, y4, ?_, ?_⟩
    · rw [c38, if_neg (by omega)]; exact y5
    · rw [mm i _ _ hi]; exact y6
  · rw [tA 42 k (by decide) (by decide) (by decide) (by decide) (by decide) (by decide), tA 42 j (by decide) (by decide) (by decide) (by decide) (by decide) (by decide)]
    exact h3 k j hkj hj
end LEDG
