/-! Frames of what agrees, and the relation within a day. -/
/-- wells: numbers in their bounds -/
def rWl (ns : Nat) (A : MM) : Prop := ∀ s, s < ns → A.1 13 s 0 = 2 → ∃ a b k, a ≤ 1000 ∧ b ≤ 10000 ∧ k ≤ b ∧ A.1 13 s 2 = nI a ∧ A.1 13 s 3 = nI b ∧ A.1 13 s 4 = nI k
/-- the ints differ in the slots P alone -/
def Fe (P : Nat → Nat → Prop) (M M' : MM) : Prop := ∀ t i k, ¬ P t k → M'.1 t i k = M.1 t i k
section FRMS
variable {P P' : Nat → Nat → Prop} {A A' A2 B B' : MM} {ns nc g e r n D S X : Nat}
theorem Fe.rfl' : Fe P A A := fun _ _ _ _ => rfl
theorem Fe.trans (h : Fe P A A') (h2 : Fe P A' A2) : Fe P A A2 := fun t i k a => (h2 t i k a).trans (h t i k a)
theorem Fe.u {t i k : Nat} {x : Int32} (h : Fe P A A') (hp : P t k) : Fe P A (uI A' t i k x) := fun a b c q => by
  rw [uI_1, if_neg (fun z => q (by rw [z.1, z.2.2]; exact hp))]; exact h a b c q
theorem Fe.j {t i k : Nat} {x : Int64} (h : Fe P A A') : Fe P A (uJ A' t i k x) := h
theorem Fr.fe (h : Fr P A A') : Fe P A A' := h.2
theorem Fe.mono (h : Fe P A A') (hp : ∀ t k, P t k → P' t k) : Fe P' A A' := fun t i k a => h t i k (fun q => a (hp t k q))
theorem Fe.rep {f : Nat → MM → MM} (hf : ∀ i M, Fe P M (f i M)) (n : Nat) (M : MM) : Fe P M (rep f n M) := rep_inv (P := fun A => Fe P M A) Fe.rfl' (fun i A _ h => h.trans (hf i A))
theorem Fe.tag {t : Nat} (h : Fe P A A') (hp : ∀ k, ¬ P t k) : A'.1 t = A.1 t := funext fun i => funext fun k => h t i k (hp k)
theorem rSt.of (h : rSt ns A B) (a : A'.1 13 = A.1 13) (b5 : B'.1 45 = B.1 45) (b6 : B'.1 46 = B.1 46) (b7 : B'.1 47 = B.1 47) (b8 : B'.1 48 = B.1 48) (b9 : B'.1 49 = B.1 49) : rSt ns A' B' := by
  unfold rSt at h ⊢; rw [a, b5, b6, b7, b8, b9]; exact h
theorem rMk.of (h : rMk ns S A) (a : ∀ s k, k ≠ 4 → A'.1 13 s k = A.1 13 s k) : rMk ns S A' := fun s hs h0 => by
  rw [a s 0 (by decide)] at h0
  rw [a s 5 (by decide), a s 6 (by decide), a s 7 (by decide)]
  exact h s hs h0
theorem rWl.of (h : rWl ns A) (a : A'.1 13 = A.1 13) : rWl ns A' := by
  unfold rWl at h ⊢; rw [a]; exact h
theorem mWayF_of (b0 : B'.1 50 = B.1 50) (b1 : B'.1 51 = B.1 51) (b2 : B'.1 52 = B.1 52) (x y : Int32) : ∀ m k, mWayF B' x y m k = mWayF B x y m k
  | 0, _ => rfl
  | m + 1, k => by
    unfold mWayF
    rw [b0, b1, b2, mWayF_of b0 b1 b2 x y m (k + 1)]
theorem rSg.of (h : rSg g A B) (a : A'.1 32 = A.1 32) (b0 : B'.1 50 = B.1 50) (b1 : B'.1 51 = B.1 51) (b2 : B'.1 52 = B.1 52) : rSg g A' B' := by
  refine ⟨fun i j hi hj => ?_, fun k hk => ?_⟩
  · rw [a, mWayF_of b0 b1 b2]; exact h.1 i j hi hj
  · rw [b0, b1, b2]; exact h.2 k hk
theorem rLo.of (h : rLo A B) (a : A'.1 34 = A.1 34) (b : B'.1 53 = B.1 53) : rLo A' B' := by
  unfold rLo at h ⊢; rw [a, b]; exact h
theorem rCa.of (h : rCa nc A B) (a : A'.1 15 = A.1 15) (a6 : A'.1 16 = A.1 16) (b : ∀ t, 54 ≤ t → t ≤ 70 → t ≠ 65 → t ≠ 66 → t ≠ 67 → B'.1 t = B.1 t) : rCa nc A' B' := by
  unfold rCa at h ⊢
  rw [a, a6, b 54 (by decide) (by decide) (by decide) (by decide) (by decide), b 55 (by decide) (by decide) (by decide) (by decide) (by decide), b 56 (by decide) (by decide) (by decide) (by decide) (by decide), b 57 (by decide) (by decide) (by decide) (by decide) (by decide), b 58 (by decide) (by decide) (by decide) (by decide) (by decide), b 59 (by decide) (by decide) (by decide) (by decide) (by decide), b 60 (by decide) (by decide) (by decide) (by decide) (by decide), b 61 (by decide) (by decide) (by decide) (by decide) (by decide), b 62 (by decide) (by decide) (by decide) (by decide) (by decide), b 63 (by decide) (by decide) (by decide) (by decide) (by decide), b 64 (by decide) (by decide) (by decide) (by decide) (by decide), b 68 (by decide) (by decide) (by decide) (by decide) (by decide), b 69 (by decide) (by decide) (by decide) (by decide) (by decide), b 70 (by decide) (by decide) (by decide) (by decide) (by decide)]
  exact h
theorem rBd.of (h : rBd nc A) (a : A'.1 15 = A.1 15) : rBd nc A' := by
  unfold rBd at h ⊢; rw [a]; exact h
theorem rKn.of (h : rKn nc A B) (a8 : A'.1 28 = A.1 28) (a9 : A'.1 29 = A.1 29) (d : A.1 0 0 13 ≤ A'.1 0 0 13) (b5 : B'.1 65 = B.1 65) (b6 : B'.1 66 = B.1 66) : rKn nc A' B' := by
  obtain ⟨h1, h2, f, h3⟩ := h
  unfold rKn
  rw [a8, a9, b5, b6]
  exact ⟨h1, h2, f, fun c m hc hm h0 => ⟨(h3 c m hc hm h0).1, Int32.le_trans (h3 c m hc hm h0).2 d⟩⟩
theorem rowA.of {c i : Nat} {w : Row} (h : rowA A c i w) (a : ∀ t, 17 ≤ t → t ≤ 21 → A'.1 t = A.1 t) : rowA A' c i w := by
  unfold rowA at h ⊢
  rw [a 17 (by decide) (by decide), a 18 (by decide) (by decide), a 19 (by decide) (by decide), a 20 (by decide) (by decide), a 21 (by decide) (by decide)]
  exact h
theorem rOr.of (h : rOr nc A B) (a : ∀ t, 16 ≤ t → t ≤ 21 → A'.1 t = A.1 t) (b : B'.1 67 = B.1 67) : rOr nc A' B' := fun c hc => by
  obtain ⟨l, h1, h2, h3⟩ := h c hc
  exact ⟨l, h1, by rw [a 16 (by decide) (by decide)]; exact h2, fun i hi => ⟨(h3 i hi).1, (h3 i hi).2.1.of (fun t x y => a t (by omega) y), (h3 i hi).2.2.of (fun k _ => by rw [b])⟩⟩
theorem rDe.of {u v c : Nat} (h : rDe u v c A B) (a : A'.1 u = A.1 u) (a1 : A'.1 (u + 1) = A.1 (u + 1)) (a2 : A'.1 (u + 2) = A.1 (u + 2)) (b : B'.1 v = B.1 v) : rDe u v c A' B' := by
  unfold rDe at h ⊢; rw [a, a1, a2, b]; exact h
theorem rDs.of (h : rDs nc A B) (a : ∀ t, 22 ≤ t → t ≤ 27 → A'.1 t = A.1 t) (b : B'.1 69 = B.1 69) (b7 : B'.1 70 = B.1 70) : rDs nc A' B' := by
  refine ⟨fun c hc => ⟨(h.1 c hc).1.of (a 22 (by decide) (by decide)) (a 23 (by decide) (by decide)) (a 24 (by decide) (by decide)) b, (h.1 c hc).2.of (a 25 (by decide) (by decide)) (a 26 (by decide) (by decide)) (a 27 (by decide) (by decide)) b7⟩, ?_⟩
  rw [a 22 (by decide) (by decide), a 23 (by decide) (by decide), a 24 (by decide) (by decide), a 25 (by decide) (by decide), a 26 (by decide) (by decide), a 27 (by decide) (by decide)]
  exact h.2
theorem rSu.of (h : rSu A B) (a : A'.2 0 0 = A.2 0 0) (b : B'.2 79 0 = B.2 79 0) : rSu A' B' := by
  unfold rSu at h ⊢; rw [a, b]; exact h
theorem rTa.of (h : rTa n A B) (a : A'.1 1 0 1 = A.1 1 0 1) (a2 : A'.1 2 = A.1 2) (a3 : A'.1 0 0 3 = A.1 0 0 3) (b : B'.1 81 = B.1 81) (b4 : B'.1 44 0 44 = B.1 44 0 44) (b8 : B'.1 44 0 48 = B.1 44 0 48) (b9 : B'.1 44 0 49 = B.1 44 0 49) : rTa n A' B' := by
  unfold rTa at h ⊢; rw [a, a2, a3, b, b4, b8, b9]; exact h
theorem carr_of (a : ∀ c, A'.1 15 c 3 = A.1 15 c 3) : ∀ c, carr A' c = carr A c
  | 0 => rfl
  | c + 1 => by unfold carr; rw [carr_of a c, a c]
/-- the whole, within a day: at most X of it may have been loaded -/
def rIn (ns nc g e r n D S X : Nat) (A B : MM) : Prop :=
  (WC ns nc A ∧ WM ns nc B ∧ SG g B ∧ A.1 0 0 7 = nI g) ∧ (A.1 0 0 13 = nI D ∧ B.1 44 0 1 = nI D ∧ D ≤ 102400 ∧ 2 * S + carr A nc ≤ X) ∧
  rSt ns A B ∧ rMk ns S A ∧ rSg g A B ∧ rLo A B ∧ rCa nc A B ∧ rBd nc A ∧ rKn nc A B ∧ rOr nc A B ∧ rDs nc A B ∧ rLe e r A B ∧ rSu A B ∧ rTa n A B ∧ rWl ns A
theorem rIn.wc (h : rIn ns nc g e r n D S X A B) : WC ns nc A := h.1.1
theorem rIn.wm (h : rIn ns nc g e r n D S X A B) : WM ns nc B := h.1.2.1
theorem rIn.sg (h : rIn ns nc g e r n D S X A B) : SG g B := h.1.2.2.1
theorem rIn.a7 (h : rIn ns nc g e r n D S X A B) : A.1 0 0 7 = nI g := h.1.2.2.2
theorem rIn.da (h : rIn ns nc g e r n D S X A B) : A.1 0 0 13 = nI D := h.2.1.1
theorem rIn.db (h : rIn ns nc g e r n D S X A B) : B.1 44 0 1 = nI D := h.2.1.2.1
theorem rIn.dl (h : rIn ns nc g e r n D S X A B) : D ≤ 102400 := h.2.1.2.2.1
theorem rIn.bx (h : rIn ns nc g e r n D S X A B) : 2 * S + carr A nc ≤ X := h.2.1.2.2.2
theorem rIn.t (h : rIn ns nc g e r n D S X A B) : B.1 44 0 1 = A.1 0 0 13 := h.db.trans h.da.symm
theorem rIn.st (h : rIn ns nc g e r n D S X A B) : rSt ns A B := h.2.2.1
theorem rIn.mkt (h : rIn ns nc g e r n D S X A B) : rMk ns S A := h.2.2.2.1
theorem rIn.sg' (h : rIn ns nc g e r n D S X A B) : rSg g A B := h.2.2.2.2.1
theorem rIn.lo (h : rIn ns nc g e r n D S X A B) : rLo A B := h.2.2.2.2.2.1
theorem rIn.ca (h : rIn ns nc g e r n D S X A B) : rCa nc A B := h.2.2.2.2.2.2.1
theorem rIn.bd (h : rIn ns nc g e r n D S X A B) : rBd nc A := h.2.2.2.2.2.2.2.1
theorem rIn.kn (h : rIn ns nc g e r n D S X A B) : rKn nc A B := h.2.2.2.2.2.2.2.2.1
theorem rIn.or (h : rIn ns nc g e r n D S X A B) : rOr nc A B := h.2.2.2.2.2.2.2.2.2.1
theorem rIn.ds (h : rIn ns nc g e r n D S X A B) : rDs nc A B := h.2.2.2.2.2.2.2.2.2.2.1
theorem rIn.le (h : rIn ns nc g e r n D S X A B) : rLe e r A B := h.2.2.2.2.2.2.2.2.2.2.2.1
theorem rIn.su (h : rIn ns nc g e r n D S X A B) : rSu A B := h.2.2.2.2.2.2.2.2.2.2.2.2.1
theorem rIn.ta (h : rIn ns nc g e r n D S X A B) : rTa n A B := h.2.2.2.2.2.2.2.2.2.2.2.2.2.1
theorem rIn.wl (h : rIn ns nc g e r n D S X A B) : rWl ns A := h.2.2.2.2.2.2.2.2.2.2.2.2.2.2
end FRMS
