/-! The law's loop: tools. -/
theorem isTrue_mk {b : Bool} {p : Prop} (h : b = true) (hp : p) : isTrue b p := by subst h; exact hp
def lawQ (Γ : GG) (pc n : Nat) (lv : LV) (r : List MV) (c : Nat × Nat) (Q : Out → Mem → Prop) : Out → Mem → Prop := fun o σ' => match o with
  | .inl v => Go Γ 162 n lv (v.toList ++ r) σ' c Q
  | .inr e => (match catT 162 pc e with
    | some z => Q (.inl (some (.inl (.int (Int32.ofInt z))))) σ'
    | none => (match mHh 162 with
      | [] => (match Nat.beq 162 162 with
        | true => False
        | false => Q (.inr e) σ')
      | _ :: _ => False))
section LAWT
variable {Γ : GG} {M : MM} {Q : Out → Mem → Prop} {c1 c2 : Nat}
theorem callOk_cnt {a : Int} {x : Nat} {as r : List MV} (h : callOk a 162 x (0, 0) as r = true) (h1 : c1 + mMc x ≤ 601024) (h2 : c2 + mMs x ≤ 7293034) : callOk a 162 x (c1, c2) as r = true := by
  unfold callOk at h ⊢
  simp only [Bool.and_eq_true] at h ⊢
  obtain ⟨g1, g2, g3, g4, g5, g6, -, -⟩ := h
  exact ⟨g1, g2, g3, g4, g5, g6, Nat.ble_eq_true_of_le h1, Nat.ble_eq_true_of_le h2⟩
theorem go_lcall {pc : Nat} {lv : LV} {st : List MV} {σ : Mem} {a : Int} {x na n m1 m2 : Nat} {as r : List MV} (ho : opU 162 pc = some (25, a, x, na, n, [])) (ha : a = 0 ∨ a = 1) (ht : takA na st [] = some (as, r)) (hc : callOk a 162 x (0, 0) as r = true) (e1 : mMc x = m1) (e2 : mMs x = m2) (h1 : c1 + m1 ≤ 601024) (h2 : c2 + m2 ≤ 7293034) (h : Gm Γ x as σ (lawQ Γ pc n lv r (c1 + m1, c2 + m2) Q)) : Go Γ 162 pc lv st σ (c1, c2) Q := by
  subst e1
  subst e2
  refine vs_sound ho (k := fun pc' lv' st' σ' cnt' => Go Γ 162 pc' lv' st' σ' cnt' Q) (fun _ _ _ _ _ h => h) ?_
  rcases ha with rfl | rfl
  · show (match takA na st [] with
      | some (as, r) => isTrue (callOk 0 162 x (c1, c2) as r) (Gm Γ x as σ (lawQ Γ pc n lv r (c1 + mMc x, c2 + mMs x) Q))
      | none => False)
    rw [ht]
    exact isTrue_mk (callOk_cnt hc h1 h2) h
  · show (match takA na st [] with
      | some (as, r) => isTrue (callOk 1 162 x (c1, c2) as r) (Gm Γ x as σ (lawQ Γ pc n lv r (c1 + mMc x, c2 + mMs x) Q))
      | none => False)
    rw [ht]
    exact isTrue_mk (callOk_cnt hc h1 h2) h
/-- the law's locals at the loop's head -/
def lv0 (k : Nat) : LV := [(4, vi (nI (6 * k))), (3, vr 84 0), (2, vr 44 0), (1, vr 0 0), (0, vr 201 0)]
/-- both agree, k calls are through -/
def Jn (k : Nat) (M : MM) : Prop := ∃ ns nc g e r n D S, rIn ns nc g e r n D S (24000 * D) M M ∧ D ≤ 200 * k
/-- the script's numbers may be read -/
def Sc (Γ : GG) (k : Nat) : Prop := vp_in (nI (6 * k)) (gN Γ) ∧ vp_in (nI (6 * k) + 1) (gN Γ) ∧ vp_in (nI (6 * k) + 2) (gN Γ) ∧ vp_in (nI (6 * k) + 3) (gN Γ) ∧ vp_in (nI (6 * k) + 4) (gN Γ) ∧ vp_in (nI (6 * k) + 5) (gN Γ)
/-- what is to be shown of a call: the loop's next turn follows -/
def Nx (Γ : GG) (k c1 c2 : Nat) (Q : Out → Mem → Prop) : Prop := ∀ M' a b, Jn (k + 1) M' → a ≤ c1 + 1 → b ≤ c2 + 6 → Go Γ 162 1275 (lv0 k) [] (mk M') (a, b) Q
theorem fc_oJ {x : Int64} {M' : MM} (h : FC M M') : eqM M (oJ M' x) := ⟨fun t ht => h.1 t (by omega), fun k hk => by have := h.1 67 (by decide); show M'.1 67 0 k = _; rw [this], fun k hk => by have := h.1 44 (by decide); show M'.1 44 0 k = _; rw [this], by unfold oJ; rw [uJ_t (by decide)]; exact h.2 79 (by decide)⟩
theorem ec_oJ {x : Int64} : eqC M (oJ M x) := ⟨fun _ _ => rfl, rfl, uJ_t (by decide), uJ_t (by decide)⟩
end LAWT
