/-! Water in the class: all wells. -/
section WELS
variable {A N : MM} {s n w ns nc k : Nat} {q : Nat → Nat}
theorem wRem_congr {nd nd' : Nat → Int32} {W : Int32} : ∀ k, (∀ j, j < k → nd (q j) = nd' (q j)) → wRem nd W q k = wRem nd' W q k
  | 0, _ => rfl
  | k + 1, h => by
    unfold wRem
    rw [wRem_congr k (fun j hj => h j (by omega)), h k (by omega)]
theorem Enum.of (h : Enum N n s q w) (h15 : ∀ c k, k ≠ 4 → N.1 15 c k = A.1 15 c k) (h13 : N.1 13 s 1 = A.1 13 s 1) : Enum A n s q w := by
  have eo : oA N (N.1 13 s 1) = oA A (A.1 13 s 1) := by funext x; unfold oA; rw [h15 x 1 (by decide), h13]
  have ed : dA N = dA A := by funext x; unfold dA; rw [h15 x 9 (by decide)]
  refine ⟨fun k hk => ?_, fun i hi h5 h6 => ?_, fun a b hab hb => ?_⟩
  · have := h.1 k hk
    rw [h15 _ 5 (by decide), h15 _ 6 (by decide)] at this
    exact this
  · exact h.2.1 i hi (by rw [h15 _ 5 (by decide)]; exact h5) (by rw [h15 _ 6 (by decide)]; exact h6)
  · have := h.2.2 a b hab hb
    rw [eo, ed] at this
    exact this
/-- what a well has given -/
def Given (A N : MM) (nc s : Nat) (q : Nat → Nat) (w : Nat) : Prop := Enum A nc s q w ∧ N.1 13 s 4 = wRem (ndA A) (A.1 13 s 4) q w ∧ ∀ j, j < w → N.1 15 (q j) 4 = A.1 15 (q j) 4 + mn (ndA A (q j)) (wRem (ndA A) (A.1 13 s 4) q j)
/-- one waits at a well below k -/
def atW (A : MM) (k c : Nat) : Prop := A.1 15 c 5 = 0 ∧ ∃ s, s < k ∧ A.1 13 s 0 = 2 ∧ A.1 15 c 6 = nI s
theorem wells_sp (hn : nc ≤ 12) (A : MM) : ∀ k, k ≤ 12 → (∀ s, s < k → A.1 13 s 0 = 2 → ∃ q w, Given A (rep (cWell1 nc) k A) nc s q w) ∧ (∀ s, (k ≤ s ∨ ¬ A.1 13 s 0 = 2) → (rep (cWell1 nc) k A).1 13 s 4 = A.1 13 s 4) ∧ ∀ c, (¬ atW A k c ∨ nc ≤ c) → (rep (cWell1 nc) k A).1 15 c 4 = A.1 15 c 4
  | 0, _ => ⟨fun s hs => absurd hs (Nat.not_lt_zero _), fun _ _ => rfl, fun _ _ => rfl⟩
  | k + 1, hk => by
    obtain ⟨i1, i2, i3⟩ := wells_sp hn A k (by omega)
    have hf : Fr pW A (rep (cWell1 nc) k A) := Fr.rep (fr_cWell1 nc) k A
    show (∀ s, s < k + 1 → A.1 13 s 0 = 2 → ∃ q w, Given A (cWell1 nc k (rep (cWell1 nc) k A)) nc s q w) ∧ (∀ s, (k + 1 ≤ s ∨ ¬ A.1 13 s 0 = 2) → (cWell1 nc k (rep (cWell1 nc) k A)).1 13 s 4 = A.1 13 s 4) ∧ ∀ c, (¬ atW A (k + 1) c ∨ nc ≤ c) → (cWell1 nc k (rep (cWell1 nc) k A)).1 15 c 4 = A.1 15 c 4
    generalize rep (cWell1 nc) k A = N at i1 i2 i3 hf ⊢
    have e15 : ∀ c j, j ≠ 4 → N.1 15 c j = A.1 15 c j := fun c j hj => hf.2 15 c j (by unfold pW; omega)
    have e13 : ∀ t j, j ≠ 4 → N.1 13 t j = A.1 13 t j := fun t j hj => hf.2 13 t j (by unfold pW; omega)
    unfold cWell1
    rw [e13 k 0 (by decide)]
    by_cases h2 : A.1 13 k 0 = 2
    · rw [if_pos h2]
      obtain ⟨q, hw, hq, hE⟩ := cQs_sp k N nc hn
      have hf2 := fr_cQs k nc N
      unfold cWell
      generalize (cQs k nc N).2 = w at hw hq hE ⊢
      generalize (cQs k nc N).1 = M at hq hf2 ⊢
      have m15 : M.1 15 = N.1 15 := hf2.fe.tag (fun _ => by decide)
      have m13 : M.1 13 = N.1 13 := hf2.fe.tag (fun _ => by decide)
      obtain ⟨g1, g2, g3, g4⟩ := give_sp hn hE (by rw [m13]) m15 hq w (Nat.le_refl _)
      have n4 : N.1 13 k 4 = A.1 13 k 4 := i2 k (Or.inl (Nat.le_refl _))
      have notat : ∀ c, A.1 15 c 6 = nI k → ¬ atW A k c := fun c hc z => by
        obtain ⟨-, s, hs, -, y⟩ := z
        rw [hc, nI_eq (by omega) (by omega)] at y
        omega
      have u4 : ∀ j, j < w → N.1 15 (q j) 4 = A.1 15 (q j) 4 := fun j hj => by
        refine i3 (q j) (Or.inl (notat _ ?_))
        rw [← e15 _ 6 (by decide)]; exact (hE.1 j hj).2.2
      have nd : ∀ j, j < w → ndA N (q j) = ndA A (q j) := fun j hj => by unfold ndA; rw [e15 _ 2 (by decide), u4 j hj]
      refine ⟨fun s hs hs2 => ?_, fun s hs => ?_, fun c hc => ?_⟩
      · by_cases z : s = k
        · subst z
          refine ⟨q, w, hE.of e15 (e13 _ 1 (by decide)), ?_, fun j hj => ?_⟩
          · rw [g1, n4, wRem_congr w nd]
          · rw [g2 j hj, n4, wRem_congr j (fun i hi => nd i (by omega)), u4 j hj, nd j hj]
        · obtain ⟨q2, w2, E2, y1, y2⟩ := i1 s (by omega) hs2
          refine ⟨q2, w2, E2, ?_, fun j hj => ?_⟩
          · rw [g4 s z, m13, y1]
          · rw [g3 (q2 j) (fun j' hj' y => ?_), y2 j hj]
            have a1 := (E2.1 j hj).2.2
            have a2 := (hE.1 j' hj').2.2
            rw [e15 _ 6 (by decide), y, a1, nI_eq (by omega) (by omega)] at a2
            exact z a2
      · have hsk : s ≠ k := fun z => by
          rcases hs with y | y
          · omega
          · rw [z] at y; exact y h2
        rw [g4 s hsk, m13]
        rcases hs with y | y
        · exact i2 s (Or.inl (by omega))
        · exact i2 s (Or.inr y)
      · by_cases z : ∃ j, j < w ∧ q j = c
        · obtain ⟨j, hj, rfl⟩ := z
          obtain ⟨y1, y2, y3⟩ := hE.1 j hj
          rw [e15 _ 5 (by decide)] at y2
          rw [e15 _ 6 (by decide)] at y3
          rcases hc with hc | hc
          · exact absurd ⟨y2, k, by omega, h2, y3⟩ hc
          · omega
        · rw [g3 c (fun j hj y => z ⟨j, hj, y⟩)]
          refine i3 c ?_
          rcases hc with hc | hc
          · left
            intro y
            obtain ⟨y1, s, hs, y2⟩ := y
            exact hc ⟨y1, s, by omega, y2⟩
          · exact Or.inr hc
    · rw [if_neg h2]
      refine ⟨fun s hs hs2 => ?_, fun s hs => ?_, fun c hc => ?_⟩
      · by_cases z : s = k
        · subst z; exact absurd hs2 h2
        · exact i1 s (by omega) hs2
      · rcases hs with y | y
        · exact i2 s (Or.inl (by omega))
        · exact i2 s (Or.inr y)
      · refine i3 c ?_
        rcases hc with hc | hc
        · left
          intro y
          obtain ⟨y1, s, hs, y2⟩ := y
          exact hc ⟨y1, s, by omega, y2⟩
        · exact Or.inr hc
/-- at other places all is filled -/
theorem room_at (A : MM) : ∀ k i, (rep cRoom1 k A).1 15 i 4 = if i < k ∧ A.1 15 i 5 = 0 ∧ ¬ A.1 13 (cl (A.1 15 i 6)) 0 = 2 then 10 * A.1 15 i 2 else A.1 15 i 4
  | 0, i => by rw [if_neg (fun z => Nat.not_lt_zero _ z.1)]; rfl
  | k + 1, i => by
    have ih := room_at A k i
    have ihk := room_at A k k
    rw [if_neg (fun z => Nat.lt_irrefl _ z.1)] at ihk
    have hf : Fr (fun t k => t = 15 ∧ k = 4) A (rep cRoom1 k A) := Fr.rep (fun c M => by
      unfold cRoom1; split
      · split
        · exact Fr.rfl'
        · exact Fr.u ⟨rfl, rfl⟩
      · exact Fr.rfl') k A
    show (cRoom1 k (rep cRoom1 k A)).1 15 i 4 = _
    generalize rep cRoom1 k A = N at ih ihk hf ⊢
    have e15 : ∀ c j, j ≠ 4 → N.1 15 c j = A.1 15 c j := fun c j hj => hf.2 15 c j (by omega)
    have e13 : ∀ t j, N.1 13 t j = A.1 13 t j := fun t j => hf.2 13 t j (by omega)
    unfold cRoom1
    rw [e15 k 5 (by decide), e15 k 6 (by decide), e13, e15 k 2 (by decide), ihk]
    by_cases h5 : A.1 15 k 5 = 0
    · rw [if_pos h5]
      by_cases h2 : A.1 13 (cl (A.1 15 k 6)) 0 = 2
      · rw [if_pos h2, ih]
        by_cases z : i = k
        · subst z
          rw [if_neg (fun y => Nat.lt_irrefl _ y.1), if_neg (fun y => y.2.2 h2)]
        · have hlt : i < k + 1 ↔ i < k := by omega
          simp only [hlt]
      · rw [if_neg h2, uI_1]
        by_cases z : i = k
        · subst z
          rw [if_pos ⟨rfl, rfl, rfl⟩, if_pos ⟨by omega, h5, h2⟩, Int32.add_comm, Int32.sub_add_cancel]
        · have hlt : i < k + 1 ↔ i < k := by omega
          rw [if_neg (fun y => z y.2.1), ih]
          simp only [hlt]
    · rw [if_neg h5, ih]
      by_cases z : i = k
      · subst z
        rw [if_neg (fun y => Nat.lt_irrefl _ y.1), if_neg (fun y => h5 y.2.1)]
      · have hlt : i < k + 1 ↔ i < k := by omega
        simp only [hlt]
end WELS
