/-! The law's loop. -/
section LOOP
variable {Γ : GG} {M : MM} {Q : Out → Mem → Prop} {k c1 c2 : Nat}
theorem law_end {lv : LV} {σ : Mem} (h1 : c1 ≤ 601024) (h2 : c2 ≤ 7293034) : Go Γ 162 1281 lv [] σ (c1, c2) Q := by
  refine go_step [1282] 10 ?_; intro G K hG hK
  refine hK _ _ _ _ _ ?_
  refine vs_sound (o := (24, 0, 0, 0, 1283, [])) (k := fun _ _ _ _ _ => False) rfl (fun _ _ _ _ _ h => h.elim) ?_
  show isTrue (Nat.ble c1 601024 && Nat.ble c2 7293034) (Int32.ofInt 1 = 1)
  refine isTrue_mk ?_ rfl
  rw [Nat.ble_eq_true_of_le h1, Nat.ble_eq_true_of_le h2]
  rfl
theorem sc_of {N : Nat} (hN : gN Γ = N) (h : 6 * k + 6 ≤ N) (hL : N ≤ 3072) : Sc Γ k := by
  unfold Sc
  rw [hN]
  have key : ∀ d, d < 6 → vp_in (nI (6 * k) + nI d) N := fun d hd => by rw [nI_add]; exact vp_in_nI (by omega) (by omega)
  refine ⟨vp_in_nI (by omega) (by omega), key 1 (by decide), key 2 (by decide), key 3 (by decide), key 4 (by decide), key 5 (by decide)⟩
theorem law_body (hk : k < 512) (hS : Sc Γ k) (hJ : Jn k M) (h1 : c1 + 1 ≤ 601024) (h2 : c2 + 6 ≤ 7293034) (hN : Nx Γ k c1 c2 Q) : Go Γ 162 33 (lv0 k) [] (mk M) (c1, c2) Q := by
  have hJ' : Jn (k + 1) M := by
    obtain ⟨ns, nc, g, e, r, n, D, S, h, hD⟩ := hJ
    exact ⟨ns, nc, g, e, r, n, D, S, h, by omega⟩
  refine go_step [128, 201, 226, 318, 398, 478, 534, 590, 603, 659, 727, 795, 891, 959, 1027, 1102, 1193, 1249, 1275] 60 ?_; intro G K hG hK
  refine ⟨hS.1, ?_⟩
  refine ⟨⟨fun _ => ?_, fun _ => ?_, fun _ => ?_, fun _ => ?_, fun _ => ?_, fun _ => ?_, fun _ => ?_, fun _ => ?_, fun _ => ?_, fun _ => ?_, fun _ => ?_, fun _ => ?_, fun _ => ?_, fun _ => ?_, fun _ => ?_, fun _ => ?_, fun _ => ?_, fun _ => ?_, trivial⟩, fun _ => ?_⟩
  · exact hK _ _ _ _ _ (case_feed hS hN h1 h2 (same_feed hJ))
  · exact hK _ _ _ _ _ (case_end hS hN h1 h2 (same_end hJ))
  · exact hK _ _ _ _ _ (case_station hS hN h1 h2 (pair_station hJ))
  · exact hK _ _ _ _ _ (case_stage hS hN h1 h2 (pair_stage hJ))
  · exact hK _ _ _ _ _ (case_caravan hS hN h1 h2 (pair_caravan hJ))
  · exact hK _ _ _ _ _ (case_orders hS hN h1 h2 (pair_orders hJ))
  · exact hK _ _ _ _ _ (case_contract hS hN h1 h2 (pair_contract hJ))
  · exact hK _ _ _ _ _ (case_fault hS hN h1 h2 (same_fault hJ))
  · exact hK _ _ _ _ _ (case_days hS hN h1 h2 (pair_days hJ hk))
  · exact hK _ _ _ _ _ (case_look hS hN h1 h2 (pair_look hJ))
  · exact hK _ _ _ _ _ (case_state hS hN h1 h2 (pair_state hJ))
  · exact hK _ _ _ _ _ (case_knows hS hN h1 h2 (fun z => pair_knows hJ))
  · exact hK _ _ _ _ _ (case_lost hS hN h1 h2 (pair_lost hJ))
  · exact hK _ _ _ _ _ (case_entry hS hN h1 h2 (pair_entry hJ))
  · exact hK _ _ _ _ _ (case_correct hS hN h1 h2 (pair_correct hJ))
  · exact hK _ _ _ _ _ (case_balance hS hN h1 h2 (pair_balance hJ))
  · exact hK _ _ _ _ _ (case_split hS hN h1 h2 (pair_split hJ))
  · exact hK _ _ _ _ _ (case_count hS hN h1 h2 (same_count hJ))
  · exact hK _ _ _ _ _ (hN M c1 c2 hJ' (by omega) (by omega))
theorem law_loop {N : Nat} (hL : N ≤ 3072) (hN : gN Γ = N) : ∀ m k M c1 c2, N < 6 * (k + m) → Jn k M → c1 ≤ 1000 + k → c2 ≤ 20000 + 6 * k → k ≤ 512 → Go Γ 162 23 (lv0 k) [] (mk M) (c1, c2) Q
  | m, k, M, c1, c2, hm, hJ, h1, h2, hk => by
    refine go_step [33, 1281] 20 ?_; intro G K hG hK
    refine ⟨fun (g : Int32.ofNat (gN Γ) - Int32.ofInt 6 < nI (6 * k)) => ?_, fun (g : ¬ Int32.ofNat (gN Γ) - Int32.ofInt 6 < nI (6 * k)) => ?_⟩
    · exact hK _ _ _ _ _ (law_end (by omega) (by omega))
    · rw [hN] at g
      have hle : 6 * k + 6 ≤ N := by
        refine Nat.not_lt.mp (fun y => g ?_)
        rw [Int32.lt_iff_toInt_lt, Int32.toInt_sub, nI_toInt (n := 6 * k) (by omega)]
        have e1 : (Int32.ofNat N).toInt = (N : Int) := nI_toInt (n := N) (by omega)
        have e2 : (Int32.ofInt 6).toInt = 6 := rfl
        rw [e1, e2, Int.bmod_eq_of_le (by omega) (by omega)]
        omega
      match m with
      | 0 => omega
      | m + 1 =>
        refine hK _ _ _ _ _ (law_body (by omega) (sc_of hN hle hL) hJ (by omega) (by omega) (fun M' a b hJ' ha hb => ?_))
        refine go_step [23] 20 ?_; intro G K hG hK
        refine hK _ _ _ _ _ (go_bus (law_loop hL hN m (k + 1) M' a b (by omega) hJ' (by omega) (by omega) (by omega)) ⟨lvi ?_, rfl, rfl, rfl, rfl, trivial⟩)
        show nI (6 * k) + nI 6 = nI (6 * (k + 1))
        rw [nI_add]
        rfl
end LOOP
