/-! Bounds of a caravan behind a day on a stage. -/
section RBDS
variable {A B : MM} {c k l u nc : Nat}
theorem died_nat (hk : k ≤ 500) (hu : u ≤ 10 * k) (h2 : A.1 15 c 2 = nI k) (h4 : A.1 15 c 4 = nI u) : cDied A c = nI ((k - u + 1) / 2) ∧ (k - u + 1) / 2 ≤ k := by
  unfold cDied
  rw [h2, h4, mx0_sub (by omega) (by omega), nI_1, show (2 : Int32) = nI 2 from rfl, pk_div (by omega) (by decide) (by decide)]
  exact ⟨rfl, by omega⟩
theorem rBd.trav (h : rBd nc A) (hc : c < nc) : rBd nc (cTravel c A) := by
  intro i hi
  by_cases e : i = c
  · subst e
    obtain ⟨k, l, u, hk, hl, hu, h2, h3, h4⟩ := h i hi
    obtain ⟨hd, hle⟩ := died_nat (c := i) hk hu h2 h4
    have e2 : (cTravel i A).1 15 i 2 = nI (k - (k - u + 1) / 2) := by
      rw [trav_at, if_neg (by omega), if_neg (by omega), if_neg (by omega), trB_at, if_neg (by omega), if_pos ⟨rfl, rfl⟩, h2, hd, pk_sub hle]
    have ho : tOv A i = nI (l - 4 * (k - (k - u + 1) / 2)) := by
      unfold tOv
      rw [h2, h3, hd, pk_sub hle, show (4 : Int32) = nI 4 from rfl, pk_mul, mx0_sub (by omega) (by omega)]
    have e3 : (cTravel i A).1 15 i 3 = nI (l - (l - 4 * (k - (k - u + 1) / 2))) := by
      rw [trav_at, if_neg (by omega), if_neg (by omega), if_neg (by omega), trB_at, if_pos ⟨rfl, rfl⟩, h3, ho, pk_sub (by omega)]
    have e4 : (cTravel i A).1 15 i 4 = nI (u - k) := by
      rw [trav_at, if_neg (by omega), if_neg (by omega), if_neg (by omega), trB_at, if_neg (by omega), if_neg (by omega), if_pos ⟨rfl, rfl⟩, h2, h4, mx0_sub (by omega) (by omega)]
    exact ⟨_, _, _, by omega, by omega, by omega, e2, e3, e4⟩
  · have q : ∀ j, (cTravel c A).1 15 i j = A.1 15 i j := fun j => by
      rw [trav_at, if_neg (fun z => e z.1), if_neg (fun z => e z.1), if_neg (fun z => e z.1), trB_at, if_neg (fun z => e z.1), if_neg (fun z => e z.1), if_neg (fun z => e z.1)]
    rw [q, q, q]
    exact h i hi
end RBDS
