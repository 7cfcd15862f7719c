/-! Prices are seen alike. -/
section SEES
variable {A B : MM} {ns nc S : Nat}
theorem cPrice_of {M A : MM} (h : M.1 13 = A.1 13) (s : Nat) : cPrice M s = cPrice A s := by unfold cPrice; rw [h]
theorem ite3 {P Q R : Prop} [Decidable P] [Decidable Q] [Decidable R] {a a' b : Int32} (ha : P → a' = a) (h1 : P → R) (h2 : ¬ P → (R ↔ Q)) : (if P then a' else if Q then a else b) = if R then a else b := by
  by_cases p : P
  · rw [if_pos p, if_pos (h1 p), ha p]
  · rw [if_neg p]
    by_cases q : Q
    · rw [if_pos q, if_pos ((h2 p).mpr q)]
    · rw [if_neg q, if_neg (fun r => q ((h2 p).mp r))]
theorem ite2 {Q R : Prop} [Decidable Q] [Decidable R] {a b : Int32} (h2 : R ↔ Q) : (if Q then a else b) = if R then a else b := by
  by_cases q : Q
  · rw [if_pos q, if_pos (h2.mpr q)]
  · rw [if_neg q, if_neg (fun r => q (h2.mp r))]
theorem lt1 {i k : Nat} {T : Prop} (h : T → i ≠ k) : (i < k + 1 ∧ T) ↔ (i < k ∧ T) := by
  constructor
  · rintro ⟨y1, y2⟩
    have := h y2
    exact ⟨by omega, y2⟩
  · rintro ⟨y1, y2⟩
    exact ⟨by omega, y2⟩
theorem see_at (A : MM) : ∀ k i m, (rep cSee1 k A).1 29 i m = (if i < k ∧ A.1 15 i 5 = 0 ∧ cl (A.1 15 i 6) = m ∧ A.1 13 m 0 = 3 then A.1 0 0 13 else A.1 29 i m) ∧ (rep cSee1 k A).1 28 i m = (if i < k ∧ A.1 15 i 5 = 0 ∧ cl (A.1 15 i 6) = m ∧ A.1 13 m 0 = 3 then cPrice A m else A.1 28 i m)
  | 0, i, m => by
    refine ⟨?_, ?_⟩
    · rw [if_neg (fun z => Nat.not_lt_zero _ z.1)]; rfl
    · rw [if_neg (fun z => Nat.not_lt_zero _ z.1)]; rfl
  | k + 1, i, m => by
    obtain ⟨ih1, ih2⟩ := see_at A k i m
    have e : eqK A (rep cSee1 k A) := eqK_rep eqK_see k A
    show (cSee1 k (rep cSee1 k A)).1 29 i m = _ ∧ (cSee1 k (rep cSee1 k A)).1 28 i m = _
    generalize rep cSee1 k A = M at ih1 ih2 e ⊢
    have e15 : M.1 15 = A.1 15 := e.2 15 (by decide) (by decide)
    have e13 : M.1 13 = A.1 13 := e.2 13 (by decide) (by decide)
    have e0 : M.1 0 = A.1 0 := e.2 0 (by decide) (by decide)
    unfold cSee1
    rw [e15, e13, e0, cPrice_of e13]
    by_cases h5 : A.1 15 k 5 = 0
    · rw [if_pos h5]
      by_cases h3 : A.1 13 (cl (A.1 15 k 6)) 0 = 3
      · rw [if_pos h3]
        have u9 : (uI (uI M 28 k (cl (A.1 15 k 6)) (cPrice A (cl (A.1 15 k 6)))) 29 k (cl (A.1 15 k 6)) (A.1 0 0 13)).1 29 i m = if i = k ∧ m = cl (A.1 15 k 6) then A.1 0 0 13 else M.1 29 i m := by simp [uI_1]
        have u8 : (uI (uI M 28 k (cl (A.1 15 k 6)) (cPrice A (cl (A.1 15 k 6)))) 29 k (cl (A.1 15 k 6)) (A.1 0 0 13)).1 28 i m = if i = k ∧ m = cl (A.1 15 k 6) then cPrice A (cl (A.1 15 k 6)) else M.1 28 i m := by simp [uI_1]
        have h1 : (i = k ∧ m = cl (A.1 15 k 6)) → (i < k + 1 ∧ A.1 15 i 5 = 0 ∧ cl (A.1 15 i 6) = m ∧ A.1 13 m 0 = 3) := by
          rintro ⟨rfl, rfl⟩
          exact ⟨by omega, h5, rfl, h3⟩
        have h2 : ¬ (i = k ∧ m = cl (A.1 15 k 6)) → ((i < k + 1 ∧ A.1 15 i 5 = 0 ∧ cl (A.1 15 i 6) = m ∧ A.1 13 m 0 = 3) ↔ (i < k ∧ A.1 15 i 5 = 0 ∧ cl (A.1 15 i 6) = m ∧ A.1 13 m 0 = 3)) := fun q => lt1 (fun y z => q ⟨z, by rw [← z]; exact y.2.1.symm⟩)
        rw [u9, u8, ih1, ih2]
        exact ⟨ite3 (fun _ => rfl) h1 h2, ite3 (fun z => by rw [z.2]) h1 h2⟩
      · have h2 : (i < k + 1 ∧ A.1 15 i 5 = 0 ∧ cl (A.1 15 i 6) = m ∧ A.1 13 m 0 = 3) ↔ (i < k ∧ A.1 15 i 5 = 0 ∧ cl (A.1 15 i 6) = m ∧ A.1 13 m 0 = 3) := lt1 (fun y z => h3 (by rw [← z, y.2.1]; exact y.2.2))
        rw [if_neg h3, ih1, ih2]
        exact ⟨ite2 h2, ite2 h2⟩
    · have h2 : (i < k + 1 ∧ A.1 15 i 5 = 0 ∧ cl (A.1 15 i 6) = m ∧ A.1 13 m 0 = 3) ↔ (i < k ∧ A.1 15 i 5 = 0 ∧ cl (A.1 15 i 6) = m ∧ A.1 13 m 0 = 3) := lt1 (fun y z => h5 (by rw [← z]; exact y.1))
      rw [if_neg h5, ih1, ih2]
      exact ⟨ite2 h2, ite2 h2⟩
/-- memories that differ in what is known alone, in the reference -/
def eqKM (M M' : MM) : Prop := M'.2 = M.2 ∧ ∀ t, t ≠ 65 → t ≠ 66 → M'.1 t = M.1 t
theorem eqKM.rfl' {M : MM} : eqKM M M := ⟨rfl, fun _ _ _ => rfl⟩
theorem eqKM.trans {A B C : MM} (h : eqKM A B) (h2 : eqKM B C) : eqKM A C := ⟨h2.1.trans h.1, fun t a b => (h2.2 t a b).trans (h.2 t a b)⟩
theorem eqKM.u5 {M : MM} {i k : Nat} {x : Int32} : eqKM M (uI M 65 i k x) := ⟨rfl, fun _ a _ => uI_t a⟩
theorem eqKM.u6 {M : MM} {i k : Nat} {x : Int32} : eqKM M (uI M 66 i k x) := ⟨rfl, fun _ _ a => uI_t a⟩
theorem eqKM_rep {f : Nat → MM → MM} (hf : ∀ i M, eqKM M (f i M)) (n : Nat) (M : MM) : eqKM M (rep f n M) := rep_inv (P := fun A => eqKM M A) eqKM.rfl' (fun i A _ h => h.trans (hf i A))
theorem eqKM_see (x : Int32) (M : MM) : eqKM M (mSee1 x M) := by
  unfold mSee1; split
  · split
    · exact eqKM.u5.trans eqKM.u6
    · exact eqKM.rfl'
  · exact eqKM.rfl'
theorem mPrice_of {M B : MM} (h6 : M.1 46 = B.1 46) (h7 : M.1 47 = B.1 47) (h9 : M.1 49 = B.1 49) (x : Int32) : mPrice M x = mPrice B x := by unfold mPrice; rw [h6, h7, h9]
theorem msee_at (B : MM) (hW : WM ns nc B) : ∀ k, k ≤ nc → ∀ i m, i < 12 → m < 12 → (rep (fun i => mSee1 (nI i)) k B).1 66 0 (12 * i + m) = (if i < k ∧ B.1 58 0 i = 0 ∧ cl (B.1 59 0 i) = m ∧ B.1 45 0 m = 3 then B.1 44 0 1 else B.1 66 0 (12 * i + m)) ∧ (rep (fun i => mSee1 (nI i)) k B).1 65 0 (12 * i + m) = (if i < k ∧ B.1 58 0 i = 0 ∧ cl (B.1 59 0 i) = m ∧ B.1 45 0 m = 3 then mPrice B (nI m) else B.1 65 0 (12 * i + m))
  | 0, _, i, m, _, _ => by
    refine ⟨?_, ?_⟩
    · rw [if_neg (fun z => Nat.not_lt_zero _ z.1)]; rfl
    · rw [if_neg (fun z => Nat.not_lt_zero _ z.1)]; rfl
  | k + 1, hk, i, m, hi12, hm12 => by
    obtain ⟨ih1, ih2⟩ := msee_at B hW k (by omega) i m hi12 hm12
    have hns := hW.ls
    have hn := hW.lc
    obtain ⟨s, hs, es⟩ := hW.at (c := k) (by omega)
    have e : eqKM B (rep (fun i => mSee1 (nI i)) k B) := eqKM_rep (fun i M => eqKM_see _ M) k B
    show (mSee1 (nI k) (rep (fun i => mSee1 (nI i)) k B)).1 66 0 (12 * i + m) = _ ∧ (mSee1 (nI k) (rep (fun i => mSee1 (nI i)) k B)).1 65 0 (12 * i + m) = _
    generalize rep (fun i => mSee1 (nI i)) k B = M at ih1 ih2 e ⊢
    have e58 : M.1 58 = B.1 58 := e.2 58 (by decide) (by decide)
    have e59 : M.1 59 = B.1 59 := e.2 59 (by decide) (by decide)
    have e45 : M.1 45 = B.1 45 := e.2 45 (by decide) (by decide)
    have e44 : M.1 44 = B.1 44 := e.2 44 (by decide) (by decide)
    have ec : cl (nI k) = k := nI_clamp (by omega)
    have es2 : cl (nI s) = s := nI_clamp (by omega)
    unfold mSee1
    rw [e58, e59, e45, e44, mPrice_of (e.2 46 (by decide) (by decide)) (e.2 47 (by decide) (by decide)) (e.2 49 (by decide) (by decide)), ec, es, es2, (v144 (c := k) (k := s) (by omega) (by omega) rfl rfl).2]
    by_cases h5 : B.1 58 0 k = 0
    · rw [if_pos h5]
      by_cases h3 : B.1 45 0 s = 3
      · rw [if_pos h3]
        have u6 : (uI (uI M 65 0 (12 * k + s) (mPrice B (nI s))) 66 0 (12 * k + s) (B.1 44 0 1)).1 66 0 (12 * i + m) = if i = k ∧ m = s then B.1 44 0 1 else M.1 66 0 (12 * i + m) := by
          have : (12 * i + m = 12 * k + s) ↔ (i = k ∧ m = s) := by omega
          simp [uI_1, this]
        have u5 : (uI (uI M 65 0 (12 * k + s) (mPrice B (nI s))) 66 0 (12 * k + s) (B.1 44 0 1)).1 65 0 (12 * i + m) = if i = k ∧ m = s then mPrice B (nI s) else M.1 65 0 (12 * i + m) := by
          have : (12 * i + m = 12 * k + s) ↔ (i = k ∧ m = s) := by omega
          simp [uI_1, this]
        have h1 : (i = k ∧ m = s) → (i < k + 1 ∧ B.1 58 0 i = 0 ∧ cl (B.1 59 0 i) = m ∧ B.1 45 0 m = 3) := by
          rintro ⟨rfl, rfl⟩
          exact ⟨by omega, h5, by rw [es, es2], h3⟩
        have h2 : ¬ (i = k ∧ m = s) → ((i < k + 1 ∧ B.1 58 0 i = 0 ∧ cl (B.1 59 0 i) = m ∧ B.1 45 0 m = 3) ↔ (i < k ∧ B.1 58 0 i = 0 ∧ cl (B.1 59 0 i) = m ∧ B.1 45 0 m = 3)) := fun q => lt1 (fun y z => q ⟨z, by rw [← y.2.1, z, es, es2]⟩)
        rw [u6, u5, ih1, ih2]
        exact ⟨ite3 (fun _ => rfl) h1 h2, ite3 (fun z => by rw [z.2]) h1 h2⟩
      · have h2 : (i < k + 1 ∧ B.1 58 0 i = 0 ∧ cl (B.1 59 0 i) = m ∧ B.1 45 0 m = 3) ↔ (i < k ∧ B.1 58 0 i = 0 ∧ cl (B.1 59 0 i) = m ∧ B.1 45 0 m = 3) := lt1 (fun y z => h3 (by rw [← es2, ← es, ← z, y.2.1]; exact y.2.2))
        rw [if_neg h3, ih1, ih2]
        exact ⟨ite2 h2, ite2 h2⟩
    · have h2 : (i < k + 1 ∧ B.1 58 0 i = 0 ∧ cl (B.1 59 0 i) = m ∧ B.1 45 0 m = 3) ↔ (i < k ∧ B.1 58 0 i = 0 ∧ cl (B.1 59 0 i) = m ∧ B.1 45 0 m = 3) := lt1 (fun y z => h5 (by rw [← z]; exact y.1))
      rw [if_neg h5, ih1, ih2]
      exact ⟨ite2 h2, ite2 h2⟩
theorem price_eq {s : Nat} (hst : rSt ns A B) (hmk : rMk ns S A) (hs : s < ns) (hn : ns ≤ 12) (h3 : B.1 45 0 s = 3) : cPrice A s = mPrice B (nI s) := by
  obtain ⟨q0, -, q3, -⟩ := hst.1 s hs
  obtain ⟨q5, q6, q7⟩ := q3 h3
  obtain ⟨t, f, k, ht, hf, hk, h5, h6, h7⟩ := hmk s hs (by rw [q0]; exact h3)
  unfold cPrice mPrice
  rw [if_neg (by rw [h6]; exact nI_nle (by omega) (by omega)), show cl (nI s) = s from nI_clamp (by omega), q5, q6, q7]
theorem rKn.see (h : rKn nc A B) (hst : rSt ns A B) (hmk : rMk ns S A) (hC : rCa nc A B) (hA : WC ns nc A) (hW : WM ns nc B) (ht : B.1 44 0 1 = A.1 0 0 13) (h0 : 0 ≤ A.1 0 0 13) (hlt : ∀ c m, c < nc → m < 12 → A.1 29 c m < A.1 0 0 13) : rKn nc (cD4 nc A) (mD4 nc B) := by
  have hns := hA.ls
  have hn := hA.lc
  have e : eqK A (cD4 nc A) := eqK_rep eqK_see nc A
  have e13 : (cD4 nc A).1 0 0 13 = A.1 0 0 13 := by rw [e.2 0 (by decide) (by decide)]
  obtain ⟨h1, h2, f, h3⟩ := h
  have hcond : ∀ c m, c < nc → ((c < nc ∧ A.1 15 c 5 = 0 ∧ cl (A.1 15 c 6) = m ∧ A.1 13 m 0 = 3) ↔ (c < nc ∧ B.1 58 0 c = 0 ∧ cl (B.1 59 0 c) = m ∧ B.1 45 0 m = 3)) := fun c m hc => by
    obtain ⟨-, -, -, -, q5, q6, -⟩ := hC.2.1 c hc
    rw [← q5, ← q6]
    obtain ⟨s, hs, es⟩ := hA.at hc
    rw [es, show cl (nI s) = s from nI_clamp (by omega)]
    constructor
    · rintro ⟨_, y1, rfl, y2⟩
      exact ⟨hc, y1, rfl, by rw [← (hst.1 s hs).1]; exact y2⟩
    · rintro ⟨_, y1, rfl, y2⟩
      exact ⟨hc, y1, rfl, by rw [(hst.1 s hs).1]; exact y2⟩
  have hpr : ∀ c m, c < nc → (c < nc ∧ A.1 15 c 5 = 0 ∧ cl (A.1 15 c 6) = m ∧ A.1 13 m 0 = 3) → cPrice A m = mPrice B (nI m) := fun c m hc z => by
    have z2 := (hcond c m hc).mp z
    refine price_eq hst hmk ?_ hns z2.2.2.2
    rw [← z.2.2.1]; exact hA.ix hc
  have a9 : ∀ c m, (cD4 nc A).1 29 c m = _ := fun c m => (see_at A nc c m).1
  have a8 : ∀ c m, (cD4 nc A).1 28 c m = _ := fun c m => (see_at A nc c m).2
  have b6 : ∀ c m, c < 12 → m < 12 → (mD4 nc B).1 66 0 (12 * c + m) = _ := fun c m hc hm => (msee_at B hW nc (Nat.le_refl _) c m hc hm).1
  have b5 : ∀ c m, c < 12 → m < 12 → (mD4 nc B).1 65 0 (12 * c + m) = _ := fun c m hc hm => (msee_at B hW nc (Nat.le_refl _) c m hc hm).2
  refine ⟨fun c m hc hm => ?_, fun c m hc hc2 hm => ?_, fun m d => if d = A.1 0 0 13 then cPrice A m else f m d, fun c m hc hm => ?_⟩
  · rw [a9, a8, b6 c m (by omega) hm, b5 c m (by omega) hm]
    by_cases z : c < nc ∧ A.1 15 c 5 = 0 ∧ cl (A.1 15 c 6) = m ∧ A.1 13 m 0 = 3
    · have z2 := (hcond c m hc).mp z
      simp only [if_pos z, if_pos z2]
      exact ⟨ht.symm, Or.inr ⟨h0, hpr c m hc z⟩⟩
    · have z2 := fun y => z ((hcond c m hc).mpr y)
      simp only [if_neg z, if_neg z2]
      exact h1 c m hc hm
  · have z : ¬ (c < nc ∧ A.1 15 c 5 = 0 ∧ cl (A.1 15 c 6) = m ∧ A.1 13 m 0 = 3) := fun z => absurd z.1 (by omega)
    rw [a9, a8, if_neg z, if_neg z]
    exact h2 c m hc hc2 hm
  · rw [a9, a8, e13]
    by_cases z : c < nc ∧ A.1 15 c 5 = 0 ∧ cl (A.1 15 c 6) = m ∧ A.1 13 m 0 = 3
    · rw [if_pos z, if_pos z]
      intro _
      exact ⟨(if_pos rfl).symm, Int32.le_refl _⟩
    · rw [if_neg z, if_neg z]
      intro y
      obtain ⟨y1, y2⟩ := h3 c m hc hm y
      have hl := hlt c m hc hm
      have hne : ¬ A.1 29 c m = A.1 0 0 13 := fun z => by rw [z] at hl; exact Int32.lt_irrefl hl
      exact ⟨by rw [y1]; exact (if_neg hne).symm, y2⟩
end SEES
