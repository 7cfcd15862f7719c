/-! What is known: all that agrees, behind seeing and letters. -/
section KNOW
variable {A A' B B' : MM} {ns nc g e r n D S X : Nat}
theorem rIn.know (h : rIn ns nc g e r n D S X A B) (eA : eqK A A') (eB : eqKM B B') (hk : rKn nc A' B') : rIn ns nc g e r n D S X A' B' := by
  have tA : ∀ t, ¬ (t = 28 ∨ t = 29) → A'.1 t = A.1 t := fun t ht => eA.2 t (by omega) (by omega)
  have tB : ∀ t, ¬ (t = 65 ∨ t = 66) → B'.1 t = B.1 t := fun t ht => eB.2 t (by omega) (by omega)
  have d13 : A'.1 0 0 13 = A.1 0 0 13 := by rw [tA 0 (by decide)]
  have t44 : B'.1 44 = B.1 44 := tB 44 (by decide)
  refine ⟨⟨h.wc.eqK eA, h.wm.of (fun t k hp => ?_), ⟨h.sg.1, by rw [t44]; exact h.sg.2⟩, by rw [tA 0 (by decide)]; exact h.a7⟩, ⟨d13.trans h.da, by rw [t44]; exact h.db, h.dl, ?_⟩, ?_, ?_, ?_, ?_, ?_, ?_, hk, ?_, ?_, ?_, ?_, ?_, ?_⟩
  · unfold pWM at hp
    rw [tB t (by omega)]
  · rw [carr_of (A := A) (fun c => by rw [tA 15 (by decide)])]; exact h.bx
  · exact h.st.of (tA 13 (by decide)) (tB 45 (by decide)) (tB 46 (by decide)) (tB 47 (by decide)) (tB 48 (by decide)) (tB 49 (by decide))
  · exact h.mkt.of (fun s k _ => by rw [tA 13 (by decide)])
  · exact h.sg'.of (tA 32 (by decide)) (tB 50 (by decide)) (tB 51 (by decide)) (tB 52 (by decide))
  · exact h.lo.of (tA 34 (by decide)) (tB 53 (by decide))
  · exact h.ca.of (tA 15 (by decide)) (tA 16 (by decide)) (fun t h1 h2 _ _ _ => tB t (by omega))
  · exact h.bd.of (tA 15 (by decide))
  · exact h.or.of (fun t h1 h2 => tA t (by omega)) (tB 67 (by decide))
  · exact h.ds.of (fun t h1 h2 => tA t (by omega)) (tB 69 (by decide)) (tB 70 (by decide))
  · exact h.le.fr (fun t h1 h2 => by rw [tA t (by omega)]) (by rw [eA.1]) d13 (fun t h1 h2 => by rw [tB t (by omega)]) (by rw [t44]) (by rw [t44])
  · exact h.su.of (by rw [eA.1]) (by rw [eB.1])
  · exact h.ta.of (by rw [tA 1 (by decide)]) (tA 2 (by decide)) (by rw [tA 0 (by decide)]) (tB 81 (by decide)) (by rw [t44]) (by rw [t44]) (by rw [t44])
  · exact h.wl.of (tA 13 (by decide))
theorem rIn.d4 (h : rIn ns nc g e r n D S X A B) (hlt : ∀ c m, c < nc → m < 12 → A.1 29 c m < A.1 0 0 13) : rIn ns nc g e r n D S X (cD4 nc A) (mD4 nc B) := by
  have := h.dl
  exact h.know (eqK_rep eqK_see nc A) (eqKM_rep (fun _ M => eqKM_see _ M) nc B) (h.kn.see h.st h.mkt h.ca h.wc h.wm h.t (by rw [h.da]; exact nI_pos' (by omega)) hlt)
theorem rIn.d5 (h : rIn ns nc g e r n D S X A B) : rIn ns nc g e r n D S X (cD5 ns nc A) (mLet ns nc B) := by
  have hk : kOk nc B := fun c m hc hm => by
    obtain ⟨y, z⟩ := h.kn.1 c m hc hm
    rw [← y]
    rcases z with z | z
    · exact Or.inl z.1
    · exact Or.inr z.1
  exact h.know (eqK_rep (eqK_let ns nc) nc A) (mlet_top B h.wm hk).1.1 (h.kn.let' h.ca h.wc h.wm)
end KNOW
