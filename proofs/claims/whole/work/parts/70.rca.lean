/-! A caravan travels alike. -/
section RCAT
variable {A B : MM} {c nc : Nat}
theorem died_eq (h : rCa nc A B) (hc : c < nc) (hn : nc ≤ 12) : cDied A c = mDied B (nI c) := by
  obtain ⟨-, e2, -, e4, -⟩ := h.2.1 c hc
  unfold cDied mDied
  rw [show cl (nI c) = c from nI_clamp (by omega), e2, e4]
theorem tOv_eq (h : rCa nc A B) (hc : c < nc) (hn : nc ≤ 12) : tOv A c = tOvM B c := by
  obtain ⟨-, e2, e3, -⟩ := h.2.1 c hc
  unfold tOv tOvM
  rw [died_eq h hc hn, e2, e3]
theorem alive_iff (hb : rBd nc A) (hc : c < nc) : (0 < A.1 15 c 2 - cDied A c ↔ ¬ A.1 15 c 2 - cDied A c = 0) := by
  obtain ⟨k, l, u, hk, hl, hu, h2, h3, h4⟩ := hb c hc
  obtain ⟨hd, hle⟩ := died_nat (c := c) hk hu h2 h4
  rw [h2, hd, pk_sub hle]
  have hm : k - (k - u + 1) / 2 < 2 ^ 31 := by omega
  generalize k - (k - u + 1) / 2 = m at hm ⊢
  constructor
  · intro z e
    rw [e] at z
    exact absurd z (by decide)
  · intro z
    exact nI_lt (a := 0) (Nat.pos_of_ne_zero (fun y => z (by rw [y]; rfl))) hm
end RCAT
