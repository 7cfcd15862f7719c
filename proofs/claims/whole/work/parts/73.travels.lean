/-! Caravans travel alike: all that agrees. -/
def pT (t k : Nat) : Prop := (t = 15 ∧ (k = 2 ∨ k = 3 ∨ k = 4 ∨ k = 5 ∨ k = 8 ∨ k = 9)) ∨ t = 34 ∨ (35 ≤ t ∧ t ≤ 40)
def qT (t k : Nat) : Prop := t = 53 ∨ t = 55 ∨ t = 56 ∨ t = 57 ∨ t = 58 ∨ t = 61 ∨ t = 62 ∨ pMW t k
section TRV3
variable {A A' B B' : MM} {ns nc g e r n D S X c : Nat}
theorem fe_trA : Fe pT A (cTrA c A) := by
  unfold cTrA cDrink
  exact ((Fe.rfl'.u (by unfold pT; omega)).u (by unfold pT; omega)).j
theorem fe_trB : Fe pT A (cTrB c A) := by
  unfold cTrB cDrop
  exact fe_trA.u (by unfold pT; omega)
theorem fe_trC : Fe pT A (cTrC c A) := by
  unfold cTrC
  exact fe_trB.j.u (by unfold pT; omega)
theorem fe_trD : Fe pT A (cTrD c A) := by
  unfold cTrD; split
  · exact fe_trB
  · exact fe_trC.trans ((fr_loss _ _ _ _).fe.mono (fun t k h => by unfold pE at h; unfold pT; omega))
theorem fe_goOn {d : Int32} : Fe (fun t k => t = 15 ∧ (k = 5 ∨ k = 8 ∨ k = 9)) A (cGoOn A c d) := by
  unfold cGoOn; split
  · split
    · exact Fe.rfl'.u (by omega)
    · exact ((Fe.rfl'.u (by omega)).u (by omega)).u (by omega)
  · exact (Fe.rfl'.u (by omega)).u (by omega)
theorem goOn2 {d : Int32} : (cGoOn A c d).2 = A.2 := by
  unfold cGoOn; split
  · split <;> rfl
  · rfl
theorem fe_travel : Fe pT A (cTravel c A) := by
  unfold cTravel
  exact fe_trD.trans (fe_goOn.mono (fun t k h => by unfold pT; omega))
theorem fe_mtrA {x : Int32} : Fe qT B (mTrA x B) := by
  unfold mTrA
  exact ((Fe.rfl'.u (by unfold qT; omega)).u (by unfold qT; omega)).j
theorem fe_mtrC {x o : Int32} : Fe qT B (mTrC x B o) := by
  unfold mTrC
  exact ((Fe.rfl'.u (by unfold qT; omega)).j).u (by unfold qT; omega)
theorem fe_mtrD {x : Int32} : Fe qT B (mTrD x B) := by
  unfold mTrD; split
  · exact fe_mtrA
  · exact (fe_mtrA.trans fe_mtrC).trans ((fr_mloss _ _ _).fe.mono (fun t k h => by unfold pMW at h; unfold qT pMW; omega))
theorem fe_mgo {x : Int32} : Fe (fun t _ => t = 58 ∨ t = 61 ∨ t = 62) B (mGo x B) := by
  unfold mGo; split
  · exact (Fe.rfl'.u (by omega)).u (by omega)
  · split
    · exact ((Fe.rfl'.u (by omega)).u (by omega)).u (by omega)
    · exact Fe.rfl'.u (by omega)
theorem mgo2 {x : Int32} : (mGo x B).2 = B.2 := by
  unfold mGo; split
  · rfl
  · split <;> rfl
theorem fe_mtravel {x : Int32} : Fe qT B (mTravel x B) := by
  unfold mTravel
  exact fe_mtrD.trans (fe_mgo.mono (fun t k h => by unfold qT; omega))
theorem rSu.trav (h : rSu A B) (ed : cDied A c = mDied B (nI c)) (eo : cOver (cTrA c A) c = mOver (mTrA (nI c) B) (nI c)) : rSu (cTravel c A) (mTravel (nI c) B) := by
  obtain ⟨h1, h2, h3, h4, h5⟩ := h
  have hA : rSu (cTrA c A) (mTrA (nI c) B) := by
    unfold cTrA mTrA cDrink rSu
    rw [← ed]
    simp only [uJ_2, uI_2]
    simp [h1, h2, h3, h4, h5]
  unfold cTravel mTravel rSu
  rw [goOn2, mgo2]
  unfold cTrD mTrD
  rw [← eo]
  by_cases q : cOver (cTrA c A) c ≤ 0
  · rw [if_pos q, if_pos q]
    exact hA
  · rw [if_neg q, if_neg q, (fr_loss _ _ _ _).1, (fr_mloss _ _ _).1]
    obtain ⟨k1, k2, k3, k4, k5⟩ := hA
    have eB : (cTrB c A).2 = (cTrA c A).2 := rfl
    unfold cTrC mTrC
    simp only [uI_2, uJ_2, eB]
    simp [k1, k2, k3, k4, k5]
theorem rLe.trav (h : rLe e r A B) (ht : B.1 44 0 1 = A.1 0 0 13) (hc : c < 12) (hnum : A.1 15 c 0 = nI c) (hd : rDe 25 70 c A B) (eo : cOver (cTrA c A) c = mOver (mTrA (nI c) B) (nI c)) : ∃ e', e ≤ e' ∧ rLe e' r (cTravel c A) (mTravel (nI c) B) := by
  have hD : ∃ e', e ≤ e' ∧ rLe e' r (cTrD c A) (mTrD (nI c) B) := by
    unfold cTrD mTrD
    rw [← eo]
    by_cases q : cOver (cTrA c A) c ≤ 0
    · rw [if_pos q, if_pos q]
      refine ⟨e, Nat.le_refl _, h.fr ?_ rfl rfl ?_ rfl rfl⟩
      · intro t h1 h2
        have f : Fe (fun t _ => t = 15) A (cTrB c A) := by
          unfold cTrB cDrop cTrA cDrink
          exact (((Fe.rfl'.u (by omega)).u (by omega)).j).u (by omega)
        rw [f.tag (fun _ => by omega)]
      · intro t h1 h2
        have f : Fe (fun t _ => t = 55 ∨ t = 57) B (mTrA (nI c) B) := by
          unfold mTrA
          exact ((Fe.rfl'.u (by omega)).u (by omega)).j
        rw [f.tag (fun _ => by omega)]
    · rw [if_neg q, if_neg q]
      have f : Fe (fun t _ => t = 15 ∨ t = 34) A (cTrC c A) := by
        unfold cTrC cTrB cDrop cTrA cDrink
        exact (((((Fe.rfl'.u (by omega)).u (by omega)).j).u (by omega)).j).u (by omega)
      have f2 : Fe (fun t _ => t = 55 ∨ t = 57 ∨ t = 56 ∨ t = 53) B (mTrC (nI c) (mTrA (nI c) B) (cOver (cTrA c A) c)) := by
        unfold mTrC mTrA
        exact (((((Fe.rfl'.u (by omega)).u (by omega)).j).u (by omega)).j).u (by omega)
      have j43 : (cTrC c A).2 43 0 = A.2 43 0 := rfl
      have a13 : (cTrC c A).1 0 0 13 = A.1 0 0 13 := rfl
      have n15 : (cTrC c A).1 15 c 0 = nI c := by
        have : (cTrC c A).1 15 c 0 = A.1 15 c 0 := by
          have f3 : Fe pT A (cTrC c A) := fe_trC
          exact f3 15 c 0 (by unfold pT; omega)
        rw [this, hnum]
      have hl : rLe e r (cTrC c A) (mTrC (nI c) (mTrA (nI c) B) (cOver (cTrA c A) c)) := h.fr (fun t h1 h2 => by rw [f.tag (fun _ => by omega)]) j43 a13 (fun t h1 h2 => by rw [f2.tag (fun _ => by omega)]) (by rw [f2.tag (fun _ => by omega)]) (by rw [f2.tag (fun _ => by omega)])
      have hd2 : rDe 25 70 c (cTrC c A) (mTrC (nI c) (mTrA (nI c) B) (cOver (cTrA c A) c)) := hd.of (f.tag (fun _ => by omega)) (f.tag (fun _ => by omega)) (f.tag (fun _ => by omega)) (f2.tag (fun _ => by omega))
      rw [← a13]
      exact hl.loss (by rw [a13, f2.tag (t := 44) (fun _ => by omega), ht]) hc n15 hd2
  obtain ⟨e', he, hD⟩ := hD
  refine ⟨e', he, ?_⟩
  have f : Fe (fun t k => t = 15 ∧ (k = 5 ∨ k = 8 ∨ k = 9)) (cTrD c A) (cTravel c A) := fe_goOn
  have f2 : Fe (fun t _ => t = 58 ∨ t = 61 ∨ t = 62) (mTrD (nI c) B) (mTravel (nI c) B) := fe_mgo
  exact hD.fr (fun t h1 h2 => by rw [f.tag (fun _ => by omega)]) (by unfold cTravel; rw [goOn2]) (f 0 0 13 (by omega)) (fun t h1 h2 => by rw [f2.tag (fun _ => by omega)]) (f2 44 0 36 (by omega)) (f2 44 0 40 (by omega))
theorem rLo.trav (h : rLo A B) (hW : WC ns nc A) (hC : rCa nc A B) (hc : c < nc) (h1 : A.1 15 c 5 = 1) (eo : cOver (cTrA c A) c = mOver (mTrA (nI c) B) (nI c)) : rLo (cTravel c A) (mTravel (nI c) B) := by
  have hns := hW.ls
  have hn := hW.lc
  obtain ⟨s0, hs0, p6⟩ := hW.at hc
  obtain ⟨s1, hs1, p7⟩ := hW.fr hc
  obtain ⟨-, -, -, -, -, q6, q7, -⟩ := hC.2.1 c hc
  have q7 := q7 h1
  have ec : cl (nI c) = c := nI_clamp (by omega)
  have f : Fe (fun t k => t = 15 ∧ (k = 5 ∨ k = 8 ∨ k = 9)) (cTrD c A) (cTravel c A) := fe_goOn
  have f2 : Fe (fun t _ => t = 58 ∨ t = 61 ∨ t = 62) (mTrD (nI c) B) (mTravel (nI c) B) := fe_mgo
  intro i j hi hj
  rw [f 34 i j (by omega), f2 53 0 _ (by omega)]
  unfold cTrD mTrD
  rw [← eo]
  by_cases q : cOver (cTrA c A) c ≤ 0
  · rw [if_pos q, if_pos q]
    exact h i j hi hj
  · rw [if_neg q, if_neg q, (fr_loss _ _ _ _).2 34 i j (by unfold pE; omega), (fr_mloss _ _ _).2 53 0 _ (by unfold pMW; omega)]
    unfold cTrC mTrC
    have e60 : (mTrA (nI c) B).1 60 0 (cl (nI c)) = nI s1 := by rw [ec]; show B.1 60 0 c = _; rw [← q7, p7]
    have e59 : (mTrA (nI c) B).1 59 0 (cl (nI c)) = nI s0 := by rw [ec]; show B.1 59 0 c = _; rw [← q6, p6]
    rw [e60, e59, (v144 (c := s1) (k := s0) (by omega) (by omega) rfl rfl).2, p7, p6, show cl (nI s1) = s1 from nI_clamp (by omega), show cl (nI s0) = s0 from nI_clamp (by omega), uI_1, uI_1, uJ_1, uJ_1]
    have e53 : ∀ k, (uI (mTrA (nI c) B) 56 0 (cl (nI c)) ((mTrA (nI c) B).1 56 0 (cl (nI c)) - cOver (cTrA c A) c)).1 53 0 k = B.1 53 0 k := fun k => rfl
    have e34 : (cTrB c A).1 34 i j = A.1 34 i j := rfl
    have e53' : ∀ k, (mTrA (nI c) B).1 53 0 k = B.1 53 0 k := fun k => rfl
    by_cases z : i = s1 ∧ j = s0
    · obtain ⟨rfl, rfl⟩ := z
      rw [if_pos ⟨rfl, rfl, rfl⟩, if_pos ⟨rfl, rfl, rfl⟩, h i j hi hj, e53']
    · rw [if_neg (fun y => z ⟨y.2.1, y.2.2⟩), if_neg (fun y => z (by omega)), e34, e53]
      exact h i j hi hj
theorem carr_le (a : ∀ c, cl (A'.1 15 c 3) ≤ cl (A.1 15 c 3) ∨ nc ≤ c) : ∀ c, c ≤ nc → carr A' c ≤ carr A c
  | 0, _ => Nat.le_refl _
  | c + 1, hc => by
    unfold carr
    have h1 := carr_le a c (by omega)
    rcases a c with h2 | h2 <;> omega
theorem carr_trav (hb : rBd nc A) (hc : c < nc) : carr (cTravel c A) nc ≤ carr A nc := by
  refine carr_le (fun i => ?_) nc (Nat.le_refl _)
  by_cases hi : i < nc
  · left
    rw [trav_at, if_neg (by omega), if_neg (by omega), if_neg (by omega), trB_at]
    by_cases q : i = c
    · subst q
      rw [if_pos ⟨rfl, rfl⟩]
      obtain ⟨k, l, u, hk, hl, hu, h2, h3, h4⟩ := hb i hi
      obtain ⟨hd, hle⟩ := died_nat (c := i) hk hu h2 h4
      have ho : tOv A i = nI (l - 4 * (k - (k - u + 1) / 2)) := by
        unfold tOv
        rw [h2, h3, hd, pk_sub hle, show (4 : Int32) = nI 4 from rfl, pk_mul, mx0_sub (by omega) (by omega)]
      rw [h3, ho, pk_sub (by omega), show cl (nI _) = _ from nI_clamp (by omega), show cl (nI l) = l from nI_clamp (by omega)]
      omega
    · rw [if_neg (by omega), if_neg (by omega), if_neg (by omega)]
      exact Nat.le_refl _
  · right; omega
theorem rCa.trav (h : rCa nc A B) (hb : rBd nc A) (hc : c < nc) (hn : nc ≤ 12) (ht : B.1 44 0 1 = A.1 0 0 13) (h1 : A.1 15 c 5 = 1) : rCa nc (cTravel c A) (mTravel (nI c) B) := by
  have f : Fe pT A (cTravel c A) := fe_travel
  have f2 : Fe qT B (mTravel (nI c) B) := fe_mtravel
  have hc12 : c < 12 := by omega
  have hne : ∀ i k, i ≠ c → (cTravel c A).1 15 i k = A.1 15 i k := fun i k hi => by
    rw [trav_at, if_neg (by omega), if_neg (by omega), if_neg (by omega), trB_at, if_neg (by omega), if_neg (by omega), if_neg (by omega)]
  have hneB : ∀ t k, 54 ≤ t → t ≤ 64 → k ≠ c → (mTravel (nI c) B).1 t 0 k = B.1 t 0 k := fun t k t1 t2 hk => by
    rw [mtrav_at hc12 t k t1 t2, if_neg (by omega), if_neg (by omega), if_neg (by omega), mtrD_at hc12 t k t1 t2, if_neg (by omega), if_neg (by omega), if_neg (by omega)]
  refine ⟨fun i hi => by rw [f 15 i 0 (by unfold pT; omega)]; exact h.1 i hi, fun i hi => ?_, fun i hi hi2 => ?_⟩
  · obtain ⟨g1, g2, g3, g4, g5, g6, g8, g9, g10, g11⟩ := rCa.trav1 h hb hc hn ht i hi
    refine ⟨g1, g2, g3, g4, g5, g6, fun z => ?_, g8, g9, g10, g11, ?_⟩
    · rw [f 15 i 7 (by unfold pT; omega), f2 60 0 i (by unfold qT pMW; omega)]
      refine (h.2.1 i hi).2.2.2.2.2.2.1 ?_
      by_cases q : i = c
      · subst q; exact h1
      · rw [hne i 5 q] at z; exact z
    · rw [f 16 i 0 (by unfold pT; omega), f2 68 0 i (by unfold qT pMW; omega)]
      exact (h.2.1 i hi).2.2.2.2.2.2.2.2.2.2.2
  · rw [hne i 3 (by omega), hne i 8 (by omega), hne i 10 (by omega), hne i 11 (by omega), f 16 i 0 (by unfold pT; omega), hneB 56 i (by decide) (by decide) (by omega), hneB 58 i (by decide) (by decide) (by omega), hneB 60 i (by decide) (by decide) (by omega), hneB 61 i (by decide) (by decide) (by omega), hneB 63 i (by decide) (by decide) (by omega), hneB 64 i (by decide) (by decide) (by omega), f2 68 0 i (by unfold qT pMW; omega), f2 69 0 (9 * i) (by unfold qT pMW; omega), f2 70 0 (9 * i) (by unfold qT pMW; omega)]
    exact h.2.2 i hi hi2
theorem rIn.trav (h : rIn ns nc g e r n D S X A B) (hc : c < nc) : ∃ e', e ≤ e' ∧ rIn ns nc g e' r n D S X (cTrav1 c A) (mTrav1 (nI c) B) := by
  have hn := h.wc.lc
  have ec : cl (nI c) = c := nI_clamp (by omega)
  have wA : WC ns nc (cTrav1 c A) := h.wc.trav
  have wB : WM ns nc (mTrav1 (nI c) B) := h.wm.trav
  have sB : SG g (mTrav1 (nI c) B) := h.sg.trav
  have e5 := (h.ca.2.1 c hc).2.2.2.2.1
  unfold cTrav1 at wA ⊢
  unfold mTrav1 at wB sB ⊢
  rw [ec, ← e5] at wB sB ⊢
  by_cases h1 : A.1 15 c 5 = 1
  · rw [if_pos h1] at wA wB sB ⊢
    rw [if_pos h1]
    have eo : cOver (cTrA c A) c = mOver (mTrA (nI c) B) (nI c) := by rw [over_eq, mover_eq (by omega), tOv_eq h.ca hc hn]
    have ed := died_eq h.ca hc hn
    have f : Fe pT A (cTravel c A) := fe_travel
    have f2 : Fe qT B (mTravel (nI c) B) := fe_mtravel
    have tA : ∀ t, ¬ (t = 15 ∨ (34 ≤ t ∧ t ≤ 40)) → (cTravel c A).1 t = A.1 t := fun t ht => f.tag (fun k => by unfold pT; omega)
    have tB : ∀ t, ¬ (t = 53 ∨ t = 55 ∨ t = 56 ∨ t = 57 ∨ t = 58 ∨ t = 61 ∨ t = 62 ∨ t = 72 ∨ t = 73 ∨ t = 74 ∨ t = 75 ∨ t = 44) → (mTravel (nI c) B).1 t = B.1 t := fun t ht => f2.tag (fun k => by unfold qT pMW; omega)
    have d13 : (cTravel c A).1 0 0 13 = A.1 0 0 13 := f 0 0 13 (by unfold pT; omega)
    obtain ⟨e', he, hle⟩ := h.le.trav h.t (c := c) (by omega) (h.ca.1 c (by omega)) (h.ds.1 c hc).2 eo
    refine ⟨e', he, ⟨wA, wB, sB, by rw [tA 0 (by decide)]; exact h.a7⟩, ⟨d13.trans h.da, by rw [f2 44 0 1 (by unfold qT pMW; omega)]; exact h.db, h.dl, ?_⟩, ?_, ?_, ?_, ?_, ?_, ?_, ?_, ?_, ?_, hle, ?_, ?_, ?_⟩
    · have := carr_trav h.bd hc
      have := h.bx
      omega
    · exact h.st.of (tA 13 (by decide)) (tB 45 (by decide)) (tB 46 (by decide)) (tB 47 (by decide)) (tB 48 (by decide)) (tB 49 (by decide))
    · exact h.mkt.of (fun s k _ => by rw [tA 13 (by decide)])
    · exact h.sg'.of (tA 32 (by decide)) (tB 50 (by decide)) (tB 51 (by decide)) (tB 52 (by decide))
    · exact h.lo.trav h.wc h.ca hc h1 eo
    · exact h.ca.trav h.bd hc hn h.t h1
    · exact h.bd.trav hc
    · exact h.kn.of (tA 28 (by decide)) (tA 29 (by decide)) (by rw [d13]; exact Int32.le_refl _) (tB 65 (by decide)) (tB 66 (by decide))
    · exact h.or.of (fun t h1 h2 => tA t (by omega)) (tB 67 (by decide))
    · exact h.ds.of (fun t h1 h2 => tA t (by omega)) (tB 69 (by decide)) (tB 70 (by decide))
    · exact h.su.trav ed eo
    · exact h.ta.of (by rw [tA 1 (by decide)]) (tA 2 (by decide)) (by rw [tA 0 (by decide)]) (tB 81 (by decide)) (f2 44 0 44 (by unfold qT pMW; omega)) (f2 44 0 48 (by unfold qT pMW; omega)) (f2 44 0 49 (by unfold qT pMW; omega))
    · exact h.wl.of (tA 13 (by decide))
  · rw [if_neg h1, if_neg h1]
    exact ⟨e, Nat.le_refl _, h⟩
theorem rIn.d3 (h : rIn ns nc g e r n D S X A B) : ∀ k, k ≤ nc → ∃ e', e ≤ e' ∧ rIn ns nc g e' r n D S X (cD3 k A) (mD3 k B)
  | 0, _ => ⟨e, Nat.le_refl _, h⟩
  | k + 1, hk => by
    obtain ⟨e1, he1, h1⟩ := rIn.d3 h k (by omega)
    obtain ⟨e2, he2, h2⟩ := h1.trav (c := k) (by omega)
    exact ⟨e2, by omega, h2⟩
end TRV3
