/-! The objects are made: tools, and the small constructors. -/
section INI0
variable {Γ : GG} {Q : Out → Mem → Prop} {c1 c2 mi pc : Nat} {lv : LV} {σ : Mem}
theorem go_getR {t i b c n : Nat} {a : Int} {r : List MV} {l : List Nat} {q : Nat × Nat} {cnt : Nat × Nat} (ho : opU mi pc = some (18, a, b, c, n, l)) (hk : (Nat.beq (kdK t) c && Nat.ble (t + 1) 85) = true) (hf : ftT c b = 2) (hR : mR σ t i b = some q) (h : Go Γ mi n lv (.inr q :: r) σ cnt Q) : Go Γ mi pc lv (.inr (t, i) :: r) σ cnt Q := by
  refine vs_sound ho (k := fun pc' lv' st' σ' cnt' => Go Γ mi pc' lv' st' σ' cnt' Q) (fun _ _ _ _ _ h => h) ?_
  show isTrue (Nat.beq (kdK t) c && Nat.ble (t + 1) 85) (match ftT c b with
      | 0 => Go Γ mi n lv (.inl (.int (mI σ t i b)) :: r) σ cnt Q
      | 1 => Go Γ mi n lv (.inl (.long (mJ σ t i b)) :: r) σ cnt Q
      | _ => (match mR σ t i b with
        | some q => Go Γ mi n lv (.inr q :: r) σ cnt Q
        | none => False))
  refine isTrue_mk hk ?_
  rw [hf, hR]
  exact h
theorem callOk_cnt2 {a : Int} {x : Nat} {as r : List MV} (h : callOk a mi x (0, 0) as r = true) (h1 : c1 + mMc x ≤ mMc mi) (h2 : c2 + mMs x ≤ mMs mi) : callOk a mi x (c1, c2) as r = true := by
  unfold callOk at h ⊢
  simp only [Bool.and_eq_true] at h ⊢
  obtain ⟨g1, g2, g3, g4, g5, g6, -, -⟩ := h
  exact ⟨g1, g2, g3, g4, g5, g6, Nat.ble_eq_true_of_le h1, Nat.ble_eq_true_of_le h2⟩
def iniQ (Γ : GG) (mi n : Nat) (lv : LV) (r : List MV) (c : Nat × Nat) (Q : Out → Mem → Prop) : Out → Mem → Prop := fun o σ' => match o with
  | .inl v => Go Γ mi n lv (v.toList ++ r) σ' c Q
  | .inr _ => False
theorem go_icall {st : List MV} {x na n m1 m2 : Nat} {as r : List MV} (ho : opU mi pc = some (25, 2, x, na, n, [])) (ht : takA na st [] = some (as, r)) (hc : callOk 2 mi x (0, 0) as r = true) (e1 : mMc x = m1) (e2 : mMs x = m2) (h1 : c1 + m1 ≤ mMc mi) (h2 : c2 + m2 ≤ mMs mi) (h : Gm Γ x as σ (iniQ Γ mi n lv r (c1 + m1, c2 + m2) Q)) : Go Γ mi pc lv st σ (c1, c2) Q := by
  subst e1
  subst e2
  refine vs_sound ho (k := fun pc' lv' st' σ' cnt' => Go Γ mi pc' lv' st' σ' cnt' Q) (fun _ _ _ _ _ h => h) ?_
  show (match takA na st [] with
      | some (as, r) => isTrue (callOk 2 mi x (c1, c2) as r) (Gm Γ x as σ (iniQ Γ mi n lv r (c1 + mMc x, c2 + mMs x) Q))
      | none => False)
  rw [ht]
  exact isTrue_mk (callOk_cnt2 hc h1 h2) h
theorem go_eq {st : List MV} {σ' : Mem} {cnt cnt' : Nat × Nat} (e : σ' = σ) (ec : cnt' = cnt) (h : Go Γ mi pc lv st σ' cnt' Q) : Go Γ mi pc lv st σ cnt Q := by subst e; subst ec; exact h
theorem os (t i a b u : Nat) (h1 : ordL.getD t (0, 0, 0) = (a, b, u)) (h2 : ordL.getD (t + 1) (0, 0, 0) = (a + 1, b, u)) : ordT t i + 1 = ordT (t + 1) i := by
  unfold ordT
  rw [h1, h2]
  show a + b * i + 1 = a + 1 + b * i
  omega
abbrev IT : Type := Nat → Nat → Nat → Int32
abbrev JT : Type := Nat → Nat → Nat → Int64
abbrev RT : Type := Nat → Nat → Nat → Option (Nat × Nat)
def mo (n : Nat) (I : IT) (J : JT) (R : RT) : Mem := (some n, I, J, R)
/-- the five rows of a list of orders -/
def rOL (t i : Nat) (R : RT) : RT := up3 (up3 (up3 (up3 (up3 R t i 1 (some (t + 1, i))) t i 2 (some (t + 2, i))) t i 3 (some (t + 3, i))) t i 4 (some (t + 4, i))) t i 5 (some (t + 5, i))
/-- a contract's rows -/
def rCo (t i : Nat) (R : RT) : RT := up3 (up3 R t i 1 (some (t + 1, i))) t i 2 (some (t + 2, i))
def iCo (t i : Nat) (I : IT) : IT := up3 (up3 (up3 (up3 (up3 I t i 0 1) (t + 1) i 0 0) (t + 2) i 0 1) t i 3 1) t i 4 (-1)
variable {I : IT} {J : JT} {R : RT} {n i : Nat}
theorem gi_station (h : Q rV σ) : Gm Γ M_X4_init [vr 13 i] σ Q := by
  refine gm_step [] 60 ?_; intro G K hG hK
  exact h
theorem gi_tape (hn : n = 2) (h : Q rV (mo 3 I J (up3 R 1 0 0 (some (2, 0))))) : Gm Γ M_X5_init [vr 1 0] (mo n I J R) Q := by
  subst hn
  refine gm_step [] 60 ?_; intro G K hG hK
  exact ⟨2, 0, rfl, by decide, rfl, rfl, by decide, by decide, h⟩
theorem gi_ol3 (hn : n = 4) (h : Q rV (mo 9 I J (rOL 3 0 R))) : Gm Γ M_X3_init [vr 3 0] (mo n I J R) Q := by
  subst hn
  refine gm_step [] 60 ?_; intro G K hG hK
  refine ⟨4, 0, rfl, by decide, rfl, rfl, by decide, by decide, ?_⟩
  refine ⟨5, 0, rfl, by decide, rfl, rfl, by decide, by decide, ?_⟩
  refine ⟨6, 0, rfl, by decide, rfl, rfl, by decide, by decide, ?_⟩
  refine ⟨7, 0, rfl, by decide, rfl, rfl, by decide, by decide, ?_⟩
  refine ⟨8, 0, rfl, by decide, rfl, rfl, by decide, by decide, ?_⟩
  exact h
theorem gi_ol16 (hi : i < 12) (hn : n = ordT 17 i) (h : Q rV (mo (ordT 22 i) I J (rOL 16 i R))) : Gm Γ M_X3_init [vr 16 i] (mo n I J R) Q := by
  subst hn
  refine gm_step [] 60 ?_; intro G K hG hK
  refine ⟨17, i, rfl, hi, rfl, rfl, by decide, by decide, ?_⟩
  rw [os 17 i 28 15 12 rfl rfl]
  refine ⟨18, i, rfl, hi, rfl, rfl, by decide, by decide, ?_⟩
  rw [os 18 i 29 15 12 rfl rfl]
  refine ⟨19, i, rfl, hi, rfl, rfl, by decide, by decide, ?_⟩
  rw [os 19 i 30 15 12 rfl rfl]
  refine ⟨20, i, rfl, hi, rfl, rfl, by decide, by decide, ?_⟩
  rw [os 20 i 31 15 12 rfl rfl]
  refine ⟨21, i, rfl, hi, rfl, rfl, by decide, by decide, ?_⟩
  rw [os 21 i 32 15 12 rfl rfl]
  exact h
end INI0
