/-! The objects are made: constructors. -/
/-- what is known of prices at first -/
def iKn (i : Nat) : Nat → IT → IT
  | 0, I => I
  | j + 1, I => up3 (up3 (iKn i j I) 28 i j (-1)) 29 i j (-1)
def iCar (i : Nat) (I : IT) : IT := iKn i 12 (iCo 25 i (iCo 22 i (up3 I 15 i 0 (nI i))))
def rCar (i : Nat) (R : RT) : RT := up3 (up3 (up3 (rCo 25 i (up3 (rCo 22 i (up3 (rOL 16 i R) 15 i 12 (some (16, i)))) 15 i 13 (some (22, i)))) 15 i 14 (some (25, i))) 15 i 15 (some (28, i))) 15 i 16 (some (29, i))
def rLed (R : RT) : RT := up3 (up3 (up3 (up3 (up3 (up3 (up3 (up3 R 35 0 1 (some (36, 0))) 35 0 2 (some (37, 0))) 35 0 3 (some (38, 0))) 35 0 4 (some (39, 0))) 35 0 5 (some (40, 0))) 35 0 7 (some (41, 0))) 35 0 8 (some (42, 0))) 35 0 9 (some (43, 0))
def rMod (R : RT) : RT := up3 (up3 (up3 (up3 (up3 (up3 (up3 (up3 (up3 (up3 (up3 (up3 (up3 (up3 (up3 (up3 (up3 (up3 (up3 (up3 (up3 (up3 (up3 (up3 (up3 (up3 (up3 (up3 (up3 (up3 (up3 (up3 (up3 (up3 (up3 (up3 (up3 (up3 (up3 R 44 0 2 (some (45, 0))) 44 0 3 (some (46, 0))) 44 0 4 (some (47, 0))) 44 0 5 (some (48, 0))) 44 0 6 (some (49, 0))) 44 0 8 (some (50, 0))) 44 0 9 (some (51, 0))) 44 0 10 (some (52, 0))) 44 0 12 (some (53, 0))) 44 0 13 (some (54, 0))) 44 0 14 (some (55, 0))) 44 0 15 (some (56, 0))) 44 0 16 (some (57, 0))) 44 0 17 (some (58, 0))) 44 0 18 (some (59, 0))) 44 0 19 (some (60, 0))) 44 0 20 (some (61, 0))) 44 0 21 (some (62, 0))) 44 0 22 (some (63, 0))) 44 0 23 (some (64, 0))) 44 0 24 (some (65, 0))) 44 0 25 (some (66, 0))) 44 0 27 (some (67, 0))) 44 0 28 (some (68, 0))) 44 0 29 (some (69, 0))) 44 0 30 (some (70, 0))) 44 0 31 (some (71, 0))) 44 0 32 (some (72, 0))) 44 0 33 (some (73, 0))) 44 0 34 (some (74, 0))) 44 0 35 (some (75, 0))) 44 0 37 (some (76, 0))) 44 0 38 (some (77, 0))) 44 0 39 (some (78, 0))) 44 0 41 (some (79, 0))) 44 0 42 (some (80, 0))) 44 0 43 (some (81, 0))) 44 0 45 (some (82, 0))) 44 0 50 (some (83, 0))
section INI1
variable {Γ : GG} {Q : Out → Mem → Prop} {I : IT} {J : JT} {R : RT} {n i : Nat}
theorem gi_co9 (hn : n = 10) (h : Q rV (mo 12 (iCo 9 0 I) J (rCo 9 0 R))) : Gm Γ M_X1_init [vr 9 0] (mo n I J R) Q := by
  subst hn
  refine gm_step [] 60 ?_; intro G K hG hK
  refine ⟨10, 0, rfl, by decide, rfl, rfl, by decide, by decide, ?_⟩
  refine ⟨11, 0, rfl, by decide, rfl, rfl, by decide, by decide, ?_⟩
  exact ⟨vp_in_nI (n := 0) (by decide) (by decide), vp_in_nI (n := 0) (by decide) (by decide), h⟩
theorem gi_co22 (hi : i < 12) (hn : n = ordT 23 i) (h : Q rV (mo (ordT 25 i) (iCo 22 i I) J (rCo 22 i R))) : Gm Γ M_X1_init [vr 22 i] (mo n I J R) Q := by
  subst hn
  refine gm_step [24] 60 ?_; intro G K hG hK
  refine ⟨23, i, rfl, hi, rfl, rfl, by decide, by decide, ?_⟩
  rw [os 23 i 34 15 12 rfl rfl]
  refine ⟨24, i, rfl, hi, rfl, rfl, by decide, by decide, ?_⟩
  rw [os 24 i 35 15 12 rfl rfl]
  refine hK _ _ _ _ _ (go_getR (t := 22) (i := i) (q := (23, i)) rfl rfl rfl ?_ ?_)
  · show (up3 (up3 R 22 i 1 (some (23, i))) 22 i 2 (some (24, i))) 22 i 1 = _
    simp [up3_eq]
  refine go_step [31] 60 ?_; intro G K hG hK
  refine ⟨vp_in_nI (n := 0) (by decide) (by decide), ?_⟩
  refine hK _ _ _ _ _ (go_getR (t := 22) (i := i) (q := (24, i)) rfl rfl rfl ?_ ?_)
  · show (up3 (up3 R 22 i 1 (some (23, i))) 22 i 2 (some (24, i))) 22 i 2 = _
    simp [up3_eq]
  refine go_step [] 60 ?_; intro G K hG hK
  exact ⟨vp_in_nI (n := 0) (by decide) (by decide), h⟩
theorem gi_co25 (hi : i < 12) (hn : n = ordT 26 i) (h : Q rV (mo (ordT 28 i) (iCo 25 i I) J (rCo 25 i R))) : Gm Γ M_X1_init [vr 25 i] (mo n I J R) Q := by
  subst hn
  refine gm_step [24] 60 ?_; intro G K hG hK
  refine ⟨26, i, rfl, hi, rfl, rfl, by decide, by decide, ?_⟩
  rw [os 26 i 37 15 12 rfl rfl]
  refine ⟨27, i, rfl, hi, rfl, rfl, by decide, by decide, ?_⟩
  rw [os 27 i 38 15 12 rfl rfl]
  refine hK _ _ _ _ _ (go_getR (t := 25) (i := i) (q := (26, i)) rfl rfl rfl ?_ ?_)
  · show (up3 (up3 R 25 i 1 (some (26, i))) 25 i 2 (some (27, i))) 25 i 1 = _
    simp [up3_eq]
  refine go_step [31] 60 ?_; intro G K hG hK
  refine ⟨vp_in_nI (n := 0) (by decide) (by decide), ?_⟩
  refine hK _ _ _ _ _ (go_getR (t := 25) (i := i) (q := (27, i)) rfl rfl rfl ?_ ?_)
  · show (up3 (up3 R 25 i 1 (some (26, i))) 25 i 2 (some (27, i))) 25 i 2 = _
    simp [up3_eq]
  refine go_step [] 60 ?_; intro G K hG hK
  exact ⟨vp_in_nI (n := 0) (by decide) (by decide), h⟩
theorem gi_led (hn : n = 234) (h : Q rV (mo 242 I J (rLed R))) : Gm Γ M_X2_init [vr 35 0] (mo n I J R) Q := by
  subst hn
  refine gm_step [] 60 ?_; intro G K hG hK
  refine ⟨36, 0, rfl, by decide, rfl, rfl, by decide, by decide, ?_⟩
  refine ⟨37, 0, rfl, by decide, rfl, rfl, by decide, by decide, ?_⟩
  refine ⟨38, 0, rfl, by decide, rfl, rfl, by decide, by decide, ?_⟩
  refine ⟨39, 0, rfl, by decide, rfl, rfl, by decide, by decide, ?_⟩
  refine ⟨40, 0, rfl, by decide, rfl, rfl, by decide, by decide, ?_⟩
  refine ⟨41, 0, rfl, by decide, rfl, rfl, by decide, by decide, ?_⟩
  refine ⟨42, 0, rfl, by decide, rfl, rfl, by decide, by decide, ?_⟩
  refine ⟨43, 0, rfl, by decide, rfl, rfl, by decide, by decide, ?_⟩
  exact h
theorem gi_mod (hn : n = 243) (h : Q rV (mo 282 (up3 I 44 0 49 (-1)) J (rMod R))) : Gm Γ M_X7_init [vr 44 0] (mo n I J R) Q := by
  subst hn
  refine gm_step [] 200 ?_; intro G K hG hK
  refine ⟨45, 0, rfl, by decide, rfl, rfl, by decide, by decide, ?_⟩
  refine ⟨46, 0, rfl, by decide, rfl, rfl, by decide, by decide, ?_⟩
  refine ⟨47, 0, rfl, by decide, rfl, rfl, by decide, by decide, ?_⟩
  refine ⟨48, 0, rfl, by decide, rfl, rfl, by decide, by decide, ?_⟩
  refine ⟨49, 0, rfl, by decide, rfl, rfl, by decide, by decide, ?_⟩
  refine ⟨50, 0, rfl, by decide, rfl, rfl, by decide, by decide, ?_⟩
  refine ⟨51, 0, rfl, by decide, rfl, rfl, by decide, by decide, ?_⟩
  refine ⟨52, 0, rfl, by decide, rfl, rfl, by decide, by decide, ?_⟩
  refine ⟨53, 0, rfl, by decide, rfl, rfl, by decide, by decide, ?_⟩
  refine ⟨54, 0, rfl, by decide, rfl, rfl, by decide, by decide, ?_⟩
  refine ⟨55, 0, rfl, by decide, rfl, rfl, by decide, by decide, ?_⟩
  refine ⟨56, 0, rfl, by decide, rfl, rfl, by decide, by decide, ?_⟩
  refine ⟨57, 0, rfl, by decide, rfl, rfl, by decide, by decide, ?_⟩
  refine ⟨58, 0, rfl, by decide, rfl, rfl, by decide, by decide, ?_⟩
  refine ⟨59, 0, rfl, by decide, rfl, rfl, by decide, by decide, ?_⟩
  refine ⟨60, 0, rfl, by decide, rfl, rfl, by decide, by decide, ?_⟩
  refine ⟨61, 0, rfl, by decide, rfl, rfl, by decide, by decide, ?_⟩
  refine ⟨62, 0, rfl, by decide, rfl, rfl, by decide, by decide, ?_⟩
  refine ⟨63, 0, rfl, by decide, rfl, rfl, by decide, by decide, ?_⟩
  refine ⟨64, 0, rfl, by decide, rfl, rfl, by decide, by decide, ?_⟩
  refine ⟨65, 0, rfl, by decide, rfl, rfl, by decide, by decide, ?_⟩
  refine ⟨66, 0, rfl, by decide, rfl, rfl, by decide, by decide, ?_⟩
  refine ⟨67, 0, rfl, by decide, rfl, rfl, by decide, by decide, ?_⟩
  refine ⟨68, 0, rfl, by decide, rfl, rfl, by decide, by decide, ?_⟩
  refine ⟨69, 0, rfl, by decide, rfl, rfl, by decide, by decide, ?_⟩
  refine ⟨70, 0, rfl, by decide, rfl, rfl, by decide, by decide, ?_⟩
  refine ⟨71, 0, rfl, by decide, rfl, rfl, by decide, by decide, ?_⟩
  refine ⟨72, 0, rfl, by decide, rfl, rfl, by decide, by decide, ?_⟩
  refine ⟨73, 0, rfl, by decide, rfl, rfl, by decide, by decide, ?_⟩
  refine ⟨74, 0, rfl, by decide, rfl, rfl, by decide, by decide, ?_⟩
  refine ⟨75, 0, rfl, by decide, rfl, rfl, by decide, by decide, ?_⟩
  refine ⟨76, 0, rfl, by decide, rfl, rfl, by decide, by decide, ?_⟩
  refine ⟨77, 0, rfl, by decide, rfl, rfl, by decide, by decide, ?_⟩
  refine ⟨78, 0, rfl, by decide, rfl, rfl, by decide, by decide, ?_⟩
  refine ⟨79, 0, rfl, by decide, rfl, rfl, by decide, by decide, ?_⟩
  refine ⟨80, 0, rfl, by decide, rfl, rfl, by decide, by decide, ?_⟩
  refine ⟨81, 0, rfl, by decide, rfl, rfl, by decide, by decide, ?_⟩
  refine ⟨82, 0, rfl, by decide, rfl, rfl, by decide, by decide, ?_⟩
  refine ⟨83, 0, rfl, by decide, rfl, rfl, by decide, by decide, ?_⟩
  exact h
/-- the caravan's loop -/
theorem gi_car60 (hi : i < 12) (h5 : R 15 i 15 = some (28, i)) (h6 : R 15 i 16 = some (29, i)) (h : Q rV (mo n (iKn i 12 I) J R)) : Go Γ M_X0_init 60 [(2, vi (nI 0)), (1, vi (nI i)), (0, vr 15 i)] [] (mo n I J R) (14, 114) Q := by
  refine loop_up (P := fun j => Go Γ M_X0_init 60 [(2, vi (nI j)), (1, vi (nI i)), (0, vr 15 i)] [] (mo n (iKn i j I) J R) (14, 114) Q) (n := 12) (fun j hj ih => ?_) ?_
  · have ej : cl (nI j) = j := nI_clamp (by omega)
    refine go_step [67] 60 ?_; intro G K hG hK
    refine ⟨fun (g : nI 12 ≤ nI j) => absurd g (nI_ge hj (by decide)), fun _ => ?_⟩
    refine hK _ _ _ _ _ (go_getR (t := 15) (i := i) (q := (28, i)) rfl rfl rfl h5 ?_)
    refine go_step [74] 60 ?_; intro G K hG hK
    refine ⟨vp_in_nI hj (by decide), ?_⟩
    refine hK _ _ _ _ _ (go_getR (t := 15) (i := i) (q := (29, i)) rfl rfl rfl h6 ?_)
    refine go_step [60] 60 ?_; intro G K hG hK
    refine ⟨vp_in_nI hj (by decide), ?_⟩
    refine hK _ _ _ _ _ (go_eq (σ' := mo n (iKn i (j + 1) I) J R) ?_ rfl (go_bus ih ⟨lvi (nI_1 j), rfl, rfl, trivial⟩))
    show (some n, up3 (up3 (iKn i j I) 28 i j (-1)) 29 i j (-1), J, R) = (some n, up3 (up3 (iKn i j I) 28 i (cl (nI j)) (-1)) 29 i (cl (nI j)) (-1), J, R)
    rw [ej]
  · refine go_step [] 60 ?_; intro G K hG hK
    exact ⟨fun _ => h, fun (g : ¬ nI 12 ≤ nI 12) => absurd (Int32.le_refl _) g⟩
theorem gi_car (hi : i < 12) (hn : n = ordT 16 i) (h : Q rV (mo (ordT 29 i + 1) (iCar i I) J (rCar i R))) : Gm Γ M_X0_init [vr 15 i, vi (nI i)] (mo n I J R) Q := by
  subst hn
  refine gm_step [60] 60 ?_; intro G K hG hK
  refine ⟨16, i, rfl, hi, rfl, by decide, by decide, ?_⟩
  rw [os 16 i 27 15 12 rfl rfl]
  refine hG _ _ _ _ (gi_ol16 (I := up3 I 15 i 0 (nI i)) (J := J) (R := R) hi rfl ?_)
  refine ⟨22, i, rfl, hi, rfl, by decide, by decide, ?_⟩
  rw [os 22 i 33 15 12 rfl rfl]
  refine hG _ _ _ _ (gi_co22 (I := up3 I 15 i 0 (nI i)) (J := J) (R := up3 (rOL 16 i R) 15 i 12 (some (16, i))) hi rfl ?_)
  refine ⟨25, i, rfl, hi, rfl, by decide, by decide, ?_⟩
  rw [os 25 i 36 15 12 rfl rfl]
  refine hG _ _ _ _ (gi_co25 (I := iCo 22 i (up3 I 15 i 0 (nI i))) (J := J) (R := up3 (rCo 22 i (up3 (rOL 16 i R) 15 i 12 (some (16, i)))) 15 i 13 (some (22, i))) hi rfl ?_)
  refine ⟨28, i, rfl, hi, rfl, rfl, by decide, by decide, ?_⟩
  rw [os 28 i 39 15 12 rfl rfl]
  refine ⟨29, i, rfl, hi, rfl, rfl, by decide, by decide, ?_⟩
  refine hK _ _ _ _ _ (go_bus (gi_car60 (n := ordT 29 i + 1) (I := iCo 25 i (iCo 22 i (up3 I 15 i 0 (nI i)))) (J := J) (R := rCar i R) hi ?_ ?_ h) ⟨rfl, rfl, rfl, trivial⟩)
  · unfold rCar; simp [up3_eq]
  · unfold rCar; simp [up3_eq]
end INI1
