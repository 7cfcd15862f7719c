/-! The objects are made: the class's own constructor, and the law's start. -/
def rSts : Nat → RT → RT
  | 0, R => R
  | k + 1, R => up3 (rSts k R) 12 0 k (some (13, k))
def iCars : Nat → IT → IT
  | 0, I => I
  | k + 1, I => iCar k (iCars k I)
def rCars : Nat → RT → RT
  | 0, R => R
  | k + 1, R => up3 (rCar k (rCars k R)) 14 0 k (some (15, k))
def rMu (t : Nat) (R : RT) : RT := fun a b c => if a = t ∧ b = 0 ∧ c < 12 then some (t + 1, c) else R a b c
def rA1 (R : RT) : RT := up3 (up3 (rCo 9 0 (up3 (rOL 3 0 (up3 (up3 R 1 0 0 (some (2, 0))) 0 0 0 (some (1, 0)))) 0 0 1 (some (3, 0)))) 0 0 2 (some (9, 0))) 0 0 4 (some (12, 0))
def rA2 (R : RT) : RT := up3 (rSts 12 (rA1 R)) 0 0 8 (some (14, 0))
def rA3 (R : RT) : RT := up3 (rLed (up3 (rMu 33 (up3 (rMu 31 (up3 (rCars 12 (rA2 R)) 0 0 10 (some (30, 0)))) 0 0 6 (some (31, 0)))) 0 0 12 (some (33, 0)))) 0 0 11 (some (35, 0))
def iA1 (I : IT) : IT := up3 (iCo 9 0 I) 0 0 3 (-1)
section INI2
variable {Γ : GG} {Q : Out → Mem → Prop} {I : IT} {J : JT} {R : RT} {n i : Nat}
theorem rCar_o {t a j : Nat} (h : t < 15 ∨ 29 < t) : rCar i R t a j = R t a j := by
  unfold rCar rCo rOL
  have e : ∀ u b c x (S : RT), t ≠ u → up3 S u b c x t a j = S t a j := fun u b c x S hu => by rw [up3_eq, if_neg (fun z => hu z.1)]
  rw [e 15 _ _ _ _ (by omega), e 15 _ _ _ _ (by omega), e 15 _ _ _ _ (by omega), e 25 _ _ _ _ (by omega), e 25 _ _ _ _ (by omega), e 15 _ _ _ _ (by omega), e 22 _ _ _ _ (by omega), e 22 _ _ _ _ (by omega), e 15 _ _ _ _ (by omega), e 16 _ _ _ _ (by omega), e 16 _ _ _ _ (by omega), e 16 _ _ _ _ (by omega), e 16 _ _ _ _ (by omega), e 16 _ _ _ _ (by omega)]
theorem rSts_o {t a j : Nat} (h : t ≠ 12) : ∀ k, rSts k R t a j = R t a j
  | 0 => rfl
  | k + 1 => by
    show up3 (rSts k R) 12 0 k (some (13, k)) t a j = _
    rw [up3_eq, if_neg (fun z => h z.1), rSts_o h k]
theorem rCars_o {t a j : Nat} (h : t < 14 ∨ 29 < t) : ∀ k, rCars k R t a j = R t a j
  | 0 => rfl
  | k + 1 => by
    show up3 (rCar k (rCars k R)) 14 0 k (some (15, k)) t a j = _
    rw [up3_eq, if_neg (fun z => by omega), rCar_o (by omega), rCars_o h k]
set_option maxRecDepth 8000 in
theorem gi_main115 (h : Q rV (mo 242 I J (up3 (rLed (up3 (rMu 33 (up3 (rMu 31 (up3 R 0 0 10 (some (30, 0)))) 0 0 6 (some (31, 0)))) 0 0 12 (some (33, 0)))) 0 0 11 (some (35, 0))))) : Go Γ M_X6_init 115 [(1, vi (nI 12)), (0, vr 0 0)] [] (mo 206 I J R) (205, 2173) Q := by
  refine go_step [] 60 ?_; intro G K hG hK
  refine ⟨30, 0, rfl, by decide, rfl, rfl, by decide, by decide, ?_⟩
  refine ⟨31, rfl, Or.inl rfl, rfl, rfl, by decide, by decide, ?_⟩
  refine ⟨33, rfl, Or.inr rfl, rfl, rfl, by decide, by decide, ?_⟩
  refine ⟨35, 0, rfl, by decide, rfl, by decide, by decide, ?_⟩
  refine hG _ _ _ _ (gi_led (n := 234) (I := I) (J := J) (R := up3 (rMu 33 (up3 (rMu 31 (up3 R 0 0 10 (some (30, 0)))) 0 0 6 (some (31, 0)))) 0 0 12 (some (33, 0))) rfl ?_)
  exact h
theorem gi_main89 (h8 : R 0 0 8 = some (14, 0)) (h : Go Γ M_X6_init 115 [(1, vi (nI 12)), (0, vr 0 0)] [] (mo 206 (iCars 12 I) J (rCars 12 R)) (205, 2173) Q) : Go Γ M_X6_init 89 [(1, vi (nI 0)), (0, vr 0 0)] [] (mo 26 I J R) (25, 601) Q := by
  refine loop_up (P := fun i => Go Γ M_X6_init 89 [(1, vi (nI i)), (0, vr 0 0)] [] (mo (26 + 15 * i) (iCars i I) J (rCars i R)) (25 + 15 * i, 601 + 131 * i) Q) (n := 12) (fun i hi ih => ?_) ?_
  · have ei : cl (nI i) = i := nI_clamp (by omega)
    refine go_step [96] 60 ?_; intro G K hG hK
    refine ⟨fun (g : nI 12 ≤ nI i) => absurd g (nI_ge hi (by decide)), fun _ => ?_⟩
    refine hK _ _ _ _ _ (go_getR (t := 0) (i := 0) (q := (14, 0)) rfl rfl rfl (show rCars i R 0 0 8 = _ by rw [rCars_o (by omega)]; exact h8) ?_)
    refine go_step [105] 60 ?_; intro G K hG hK
    refine ⟨15, i, rfl, hi, rfl, ?_, ?_, ?_⟩
    · show 25 + 15 * i + 1 ≤ 241
      omega
    · show 601 + 131 * i + 17 ≤ 4307
      omega
    refine hK _ _ _ _ _ (go_icall (x := M_X0_init) (na := 2) (n := 108) (m1 := 14) (m2 := 114) (as := [vr 15 i, vi (nI i)]) (r := [vr 15 i, vi (nI i), vr 14 0]) rfl rfl rfl rfl rfl ?_ ?_ (gi_car (I := iCars i I) (J := J) (R := rCars i R) (n := ordT 15 i + 1) hi (os 15 i 26 15 12 rfl rfl) ?_))
    · show 25 + 15 * i + 1 + 14 ≤ 241
      omega
    · show 601 + 131 * i + 17 + 114 ≤ 4307
      omega
    show Go Γ M_X6_init 108 _ [vr 15 i, vi (nI i), vr 14 0] (mo (ordT 29 i + 1) (iCar i (iCars i I)) J (rCar i (rCars i R))) (25 + 15 * i + 1 + 14, 601 + 131 * i + 17 + 114) Q
    refine go_step [89] 60 ?_; intro G K hG hK
    refine ⟨vp_in_nI hi (by decide), ?_⟩
    refine hK _ _ _ _ _ (go_eq (σ' := mo (26 + 15 * (i + 1)) (iCars (i + 1) I) J (rCars (i + 1) R)) (cnt' := (25 + 15 * (i + 1), 601 + 131 * (i + 1))) ?_ ?_ (go_bus ih ⟨lvi (nI_1 i), rfl, trivial⟩))
    · show (some (26 + 15 * (i + 1)), iCar i (iCars i I), J, up3 (rCar i (rCars i R)) 14 0 i (some (15, i))) = (some (40 + 15 * i + 1), iCar i (iCars i I), J, up3 (rCar i (rCars i R)) 14 0 (cl (nI i)) (some (15, i)))
      rw [ei, show 26 + 15 * (i + 1) = 40 + 15 * i + 1 by omega]
    · rw [show 25 + 15 * (i + 1) = 25 + 15 * i + 1 + 14 by omega, show 601 + 131 * (i + 1) = 601 + 131 * i + 17 + 114 by omega]
  · refine go_step [115] 60 ?_; intro G K hG hK
    exact ⟨fun _ => hK _ _ _ _ _ (go_bus h ⟨rfl, rfl, trivial⟩), fun (g : ¬ nI 12 ≤ nI 12) => absurd (Int32.le_refl _) g⟩
theorem gi_main53 (h4 : R 0 0 4 = some (12, 0)) (h : Go Γ M_X6_init 78 [(1, vi (nI 12)), (0, vr 0 0)] [] (mo 25 I J (rSts 12 R)) (24, 589) Q) : Go Γ M_X6_init 53 [(1, vi (nI 0)), (0, vr 0 0)] [] (mo 13 I J R) (12, 493) Q := by
  refine loop_up (P := fun i => Go Γ M_X6_init 53 [(1, vi (nI i)), (0, vr 0 0)] [] (mo (13 + 1 * i) I J (rSts i R)) (12 + i, 493 + 8 * i) Q) (n := 12) (fun i hi ih => ?_) ?_
  · have ei : cl (nI i) = i := nI_clamp (by omega)
    refine go_step [60] 60 ?_; intro G K hG hK
    refine ⟨fun (g : nI 12 ≤ nI i) => absurd g (nI_ge hi (by decide)), fun _ => ?_⟩
    refine hK _ _ _ _ _ (go_getR (t := 0) (i := 0) (q := (12, 0)) rfl rfl rfl (show rSts i R 0 0 4 = _ by rw [rSts_o (by decide)]; exact h4) ?_)
    refine go_step [68] 60 ?_; intro G K hG hK
    refine ⟨13, i, rfl, hi, rfl, ?_, ?_, ?_⟩
    · show 12 + i + 1 ≤ 241
      omega
    · show 493 + 8 * i + 8 ≤ 4307
      omega
    refine hK _ _ _ _ _ (go_icall (x := M_X4_init) (na := 1) (n := 71) (m1 := 0) (m2 := 0) (as := [vr 13 i]) (r := [vr 13 i, vi (nI i), vr 12 0]) rfl rfl rfl rfl rfl ?_ ?_ (gi_station ?_))
    · show 12 + i + 1 + 0 ≤ 241
      omega
    · show 493 + 8 * i + 8 + 0 ≤ 4307
      omega
    show Go Γ M_X6_init 71 _ [vr 13 i, vi (nI i), vr 12 0] (mo (13 + 1 * i + 1) I J (rSts i R)) (12 + i + 1 + 0, 493 + 8 * i + 8 + 0) Q
    refine go_step [53] 60 ?_; intro G K hG hK
    refine ⟨vp_in_nI hi (by decide), ?_⟩
    refine hK _ _ _ _ _ (go_eq (σ' := mo (13 + 1 * (i + 1)) I J (rSts (i + 1) R)) (cnt' := (12 + (i + 1), 493 + 8 * (i + 1))) ?_ ?_ (go_bus ih ⟨lvi (nI_1 i), rfl, trivial⟩))
    · show (some (13 + 1 * (i + 1)), I, J, up3 (rSts i R) 12 0 i (some (13, i))) = (some (13 + 1 * i + 1), I, J, up3 (rSts i R) 12 0 (cl (nI i)) (some (13, i)))
      rw [ei, show 13 + 1 * (i + 1) = 13 + 1 * i + 1 by omega]
    · rw [show 12 + (i + 1) = 12 + i + 1 + 0 by omega, show 493 + 8 * (i + 1) = 493 + 8 * i + 8 + 0 by omega]
  · refine go_step [78] 60 ?_; intro G K hG hK
    exact ⟨fun _ => hK _ _ _ _ _ (go_bus h ⟨rfl, rfl, trivial⟩), fun (g : ¬ nI 12 ≤ nI 12) => absurd (Int32.le_refl _) g⟩
theorem gi_main (hn : n = 1) (h : Q rV (mo 242 (iCars 12 (iA1 I)) J (rA3 R))) : Gm Γ M_X6_init [vr 0 0] (mo n I J R) Q := by
  subst hn
  refine gm_step [53] 60 ?_; intro G K hG hK
  refine ⟨1, 0, rfl, by decide, rfl, by decide, by decide, ?_⟩
  refine hG _ _ _ _ (gi_tape (I := I) (J := J) (R := R) rfl ?_)
  refine ⟨3, 0, rfl, by decide, rfl, by decide, by decide, ?_⟩
  refine hG _ _ _ _ (gi_ol3 (I := I) (J := J) (R := up3 (up3 R 1 0 0 (some (2, 0))) 0 0 0 (some (1, 0))) rfl ?_)
  refine ⟨9, 0, rfl, by decide, rfl, by decide, by decide, ?_⟩
  refine hG _ _ _ _ (gi_co9 (I := I) (J := J) (R := up3 (rOL 3 0 (up3 (up3 R 1 0 0 (some (2, 0))) 0 0 0 (some (1, 0)))) 0 0 1 (some (3, 0))) rfl ?_)
  refine ⟨12, 0, rfl, by decide, rfl, rfl, by decide, by decide, ?_⟩
  refine hK _ _ _ _ _ (go_bus (gi_main53 (I := iA1 I) (J := J) (R := rA1 R) rfl ?_) ⟨rfl, rfl, trivial⟩)
  refine go_step [89] 60 ?_; intro G K hG hK
  refine ⟨14, 0, rfl, by decide, rfl, rfl, by decide, by decide, ?_⟩
  refine hK _ _ _ _ _ (go_bus (gi_main89 (I := iA1 I) (J := J) (R := rA2 R) rfl ?_) ⟨rfl, rfl, trivial⟩)
  exact gi_main115 (I := iCars 12 (iA1 I)) (J := J) (R := rCars 12 (rA2 R)) h
/-- the law's start -/
theorem law_start (h : Go Γ M_L_law 23 (lv0 0) [] (mo 283 (up3 (iCars 12 (iA1 I)) 44 0 49 (-1)) J (rMod (rA3 R))) (283, 8043) Q) : Go Γ M_L_law 0 [(0, vr 201 0)] [] (mo 0 I J R) (0, 0) Q := by
  refine go_step [23] 60 ?_; intro G K hG hK
  refine ⟨0, 0, rfl, by decide, rfl, by decide, by decide, ?_⟩
  refine hG _ _ _ _ (gi_main (I := I) (J := J) (R := R) rfl ?_)
  refine ⟨44, 0, rfl, by decide, rfl, by decide, by decide, ?_⟩
  refine hG _ _ _ _ (gi_mod (I := iCars 12 (iA1 I)) (J := J) (R := rA3 R) rfl ?_)
  refine ⟨84, 0, rfl, by decide, rfl, rfl, by decide, by decide, ?_⟩
  exact hK _ _ _ _ _ (go_bus h ⟨rfl, rfl, rfl, rfl, rfl, trivial⟩)
end INI2
