/-! Water is given alike. -/
theorem mn_nat {a b : Nat} (ha : a < 2 ^ 31) (hb : b < 2 ^ 31) : mn (nI a) (nI b) = nI (min a b) := by
  unfold mn
  by_cases z : b < a
  · rw [if_pos (nI_lt z ha), Nat.min_eq_right (by omega)]
  · rw [if_neg (nI_nlt (by omega) hb), Nat.min_eq_left (by omega)]
theorem wRem_nat {nd : Nat → Int32} {W : Int32} {q : Nat → Nat} {b : Nat} (hW : W = nI b) (hb : b < 2 ^ 31) : ∀ k, (∀ j, j < k → ∃ a, a < 2 ^ 31 ∧ nd (q j) = nI a) → ∃ r, r ≤ b ∧ wRem nd W q k = nI r
  | 0, _ => ⟨b, Nat.le_refl _, hW⟩
  | k + 1, h => by
    obtain ⟨r, hr, er⟩ := wRem_nat hW hb k (fun j hj => h j (by omega))
    obtain ⟨a, ha, ea⟩ := h k (by omega)
    refine ⟨r - min a r, by omega, ?_⟩
    unfold wRem
    rw [er, ea, mn_nat ha (by omega), pk_sub (Nat.min_le_right _ _)]
theorem bfK_congr {o o' : Nat → Nat} {d d' : Nat → Int} {x y : Nat} (h : bfK o d x y) (e1 : o x = o' x) (e2 : o y = o' y) (e3 : d x = d' x) (e4 : d y = d' y) : bfK o' d' x y := by unfold bfK at h ⊢; omega
section WAT2
variable {A A' B B' : MM} {ns nc g e r n D S X : Nat}
theorem rCa.w4 (h : rCa nc A B) (fA : ∀ c k, k ≠ 4 → A'.1 15 c k = A.1 15 c k) (a16 : A'.1 16 = A.1 16) (fB : ∀ t, 54 ≤ t → t ≤ 70 → t ≠ 57 → B'.1 t = B.1 t) (h4 : ∀ c, c < nc → A'.1 15 c 4 = B'.1 57 0 c) : rCa nc A' B' := by
  refine ⟨fun c hc => by rw [fA c 0 (by decide)]; exact h.1 c hc, fun c hc => ?_, fun c hc hc2 => ?_⟩
  · obtain ⟨g1, g2, g3, -, g5, g6, g7, g8, g9, g10, g11, g12⟩ := h.2.1 c hc
    rw [fA c 1 (by decide), fA c 2 (by decide), fA c 3 (by decide), fA c 5 (by decide), fA c 6 (by decide), fA c 7 (by decide), fA c 8 (by decide), fA c 9 (by decide), fA c 10 (by decide), fA c 11 (by decide), a16, fB 54 (by decide) (by decide) (by decide), fB 55 (by decide) (by decide) (by decide), fB 56 (by decide) (by decide) (by decide), fB 58 (by decide) (by decide) (by decide), fB 59 (by decide) (by decide) (by decide), fB 60 (by decide) (by decide) (by decide), fB 61 (by decide) (by decide) (by decide), fB 62 (by decide) (by decide) (by decide), fB 63 (by decide) (by decide) (by decide), fB 64 (by decide) (by decide) (by decide), fB 68 (by decide) (by decide) (by decide)]
    exact ⟨g1, g2, g3, h4 c hc, g5, g6, g7, g8, g9, g10, g11, g12⟩
  · rw [fA c 3 (by decide), fA c 8 (by decide), fA c 10 (by decide), fA c 11 (by decide), a16, fB 56 (by decide) (by decide) (by decide), fB 58 (by decide) (by decide) (by decide), fB 60 (by decide) (by decide) (by decide), fB 61 (by decide) (by decide) (by decide), fB 63 (by decide) (by decide) (by decide), fB 64 (by decide) (by decide) (by decide), fB 68 (by decide) (by decide) (by decide), fB 69 (by decide) (by decide) (by decide), fB 70 (by decide) (by decide) (by decide)]
    exact h.2.2 c hc hc2
theorem rSt.w (h : rSt ns A B) (fA : ∀ s k, k ≠ 4 → A'.1 13 s k = A.1 13 s k) (fB : ∀ t, 45 ≤ t → t ≤ 48 → B'.1 t = B.1 t) (h4 : ∀ s, s < ns → B.1 45 0 s = 2 → A'.1 13 s 4 = B'.1 49 0 s) (h9 : ∀ s, s < ns → ¬ B.1 45 0 s = 2 → B'.1 49 0 s = B.1 49 0 s) : rSt ns A' B' := by
  refine ⟨fun s hs => ?_, fun s hs => by rw [fA s 5 (by decide), fA s 6 (by decide), fA s 7 (by decide)]; exact h.2 s hs⟩
  obtain ⟨g0, g2, g3, g4⟩ := h.1 s hs
  rw [fA s 0 (by decide), fA s 1 (by decide), fA s 2 (by decide), fA s 3 (by decide), fA s 5 (by decide), fA s 6 (by decide), fA s 7 (by decide), fB 45 (by decide) (by decide), fB 46 (by decide) (by decide), fB 47 (by decide) (by decide), fB 48 (by decide) (by decide)]
  refine ⟨g0, fun z => ⟨(g2 z).1, (g2 z).2.1, (g2 z).2.2.1, h4 s hs z⟩, fun z => ?_, g4⟩
  rw [h9 s hs (by rw [z]; decide)]
  exact g3 z
theorem water_eq (hst : rSt ns A B) (hca : rCa nc A B) (hA : WC ns nc A) (hW : WM ns nc B) : (∀ c, c < nc → (cD6 ns nc A).1 15 c 4 = (mD6 nc B).1 57 0 c) ∧ (∀ s, s < ns → B.1 45 0 s = 2 → (cD6 ns nc A).1 13 s 4 = (mD6 nc B).1 49 0 s) ∧ (∀ s, s < ns → ¬ B.1 45 0 s = 2 → (mD6 nc B).1 49 0 s = B.1 49 0 s) ∧ Fr pD B (mD6 nc B) := by
  have hns := hA.ls
  have hnc := hA.lc
  unfold cD6 mD6
  have rA := room_at A nc
  have fA : Fr (fun t k => t = 15 ∧ k = 4) A (rep cRoom1 nc A) := Fr.rep (fun c M => by
      unfold cRoom1; split
      · split
        · exact Fr.rfl'
        · exact Fr.u ⟨rfl, rfl⟩
      · exact Fr.rfl') nc A
  obtain ⟨rB, wB, fB⟩ := dr1_at hW nc (Nat.le_refl _)
  have hW0 : WM ns nc (rep (fun i => mDr1 (nI i)) nc B) := rep_WM hW (fun _ _ _ h => h.dr1)
  generalize rep cRoom1 nc A = A0 at rA fA ⊢
  generalize rep (fun i => mDr1 (nI i)) nc B = B0 at rB wB fB hW0 ⊢
  have a15 : ∀ c k, k ≠ 4 → A0.1 15 c k = A.1 15 c k := fun c k hk => fA.2 15 c k (by omega)
  have a13 : A0.1 13 = A.1 13 := fA.fe.tag (fun _ => by omega)
  have tB : ∀ t, ¬ (t = 80 ∨ t = 57) → B0.1 t = B.1 t := fun t ht => fB.fe.tag (fun _ => ht)
  have hs0 : ∀ c, c < nc → ∃ s, s < ns ∧ A.1 15 c 6 = nI s ∧ B.1 59 0 c = nI s ∧ cl (nI s) = s ∧ A.1 13 s 0 = B.1 45 0 s := fun c hc => by
    obtain ⟨s, hs, es⟩ := hA.at hc
    exact ⟨s, hs, es, by rw [← (hca.2.1 c hc).2.2.2.2.2.1]; exact es, nI_clamp (by omega), (hst.1 s hs).1⟩
  have h04 : ∀ c, c < nc → A0.1 15 c 4 = B0.1 57 0 c := fun c hc => by
    obtain ⟨s, hs, e6, e59, ec, e0⟩ := hs0 c hc
    obtain ⟨-, g2, -, g4, g5, -⟩ := hca.2.1 c hc
    rw [rA, rB, e6, e59, ec, e0, g5, g2, g4]
  have hwell : ∀ i, i < nc → B0.1 80 0 i = 0 → ∀ t, t < ns → B0.1 59 0 i = nI t → B0.1 45 0 t = 2 := fun i hi z t ht et => by
    rw [wB i hi] at z
    rw [tB 59 (by omega)] at et
    rw [tB 45 (by omega)]
    by_cases y : B.1 58 0 i = 0 ∧ B.1 45 0 (cl (B.1 59 0 i)) = 2
    · rw [et, show cl (nI t) = t from nI_clamp (by omega)] at y
      exact y.2
    · rw [if_neg y] at z; exact absurd z (by decide)
  obtain ⟨W1, W2, W3⟩ := wells_sp hnc A0 ns hns
  obtain ⟨D1, D2, D3⟩ := dr_sp hW0 hwell nc B0 ⟨Fr.rfl', fun _ _ h => h, fun _ _ _ => rfl, fun _ _ _ => rfl⟩ (cn80_le B0 nc)
  have key : ∀ s, s < ns → B.1 45 0 s = 2 → ∃ q w, Enum A0 nc s q w ∧ (rep (cWell1 nc) ns A0).1 13 s 4 = (mDr nc nc B0).1 49 0 s ∧ ∀ j, j < w → (rep (cWell1 nc) ns A0).1 15 (q j) 4 = (mDr nc nc B0).1 57 0 (q j) := fun s hs h2 => by
    obtain ⟨gs0, gs2, -, -⟩ := hst.1 s hs
    obtain ⟨p1, -, -, p4⟩ := gs2 h2
    obtain ⟨q, w, hE, y1, y2⟩ := W1 s hs (by rw [a13, gs0]; exact h2)
    have hEB : EnumB B0 nc s q w := by
      refine ⟨fun k hk => ?_, fun i hi z zs => ?_, fun a b hab hb => ?_⟩
      · obtain ⟨z1, z2, z3⟩ := hE.1 k hk
        refine ⟨z1, ?_⟩
        rw [tB 59 (by omega), ← (hca.2.1 _ z1).2.2.2.2.2.1, ← a15 _ 6 (by decide)]
        exact z3
      · rw [wB i hi] at z
        rw [tB 59 (by omega)] at zs
        by_cases y : B.1 58 0 i = 0 ∧ B.1 45 0 (cl (B.1 59 0 i)) = 2
        · exact hE.2.1 i hi (by rw [a15 _ 5 (by decide), (hca.2.1 i hi).2.2.2.2.1]; exact y.1) (by rw [a15 _ 6 (by decide), (hca.2.1 i hi).2.2.2.2.2.1]; exact zs)
        · rw [if_neg y] at z; exact absurd z (by decide)
      · have pt : ∀ x, x < nc → oA A0 (A0.1 13 s 1) x = oB B0 (B0.1 48 0 s) x ∧ dA A0 x = dB B0 x := fun x hx => by
          unfold oA oB dA dB
          rw [a15 _ 1 (by decide), a15 _ 9 (by decide), a13, p1, tB 54 (by omega), tB 48 (by omega), tB 62 (by omega), (hca.2.1 x hx).1, (hca.2.1 x hx).2.2.2.2.2.2.2.2.1]
          exact ⟨rfl, rfl⟩
        have xa := (hE.1 a (by omega)).1
        have xb := (hE.1 b hb).1
        exact bfK_congr (hE.2.2 a b hab hb) (pt _ xa).1 (pt _ xb).1 (pt _ xa).2 (pt _ xb).2
    obtain ⟨p', i1, i2, i3, i4⟩ := D3 s q w 0 (fun c => B0.1 57 0 c) (B0.1 49 0 s) hs hEB (by
      refine ⟨Nat.zero_le _, fun j hj => ?_, fun j hj => ?_, rfl⟩
      · rw [if_neg (Nat.not_lt_zero _)]
        obtain ⟨z1, z2, z3⟩ := hE.1 j hj
        rw [wB _ z1, if_pos]
        refine ⟨?_, ?_⟩
        · rw [← (hca.2.1 _ z1).2.2.2.2.1, ← a15 _ 5 (by decide)]; exact z2
        · rw [← (hca.2.1 _ z1).2.2.2.2.2.1, ← a15 _ 6 (by decide), z3, show cl (nI s) = s from nI_clamp (by omega)]; exact h2
      · rw [if_neg (Nat.not_lt_zero _)])
    have hp : p' = w := by
      rcases Nat.lt_or_ge p' w with z | z
      · have := i2 p' z
        rw [if_neg (Nat.lt_irrefl _)] at this
        exact absurd this (D2 _ (hE.1 p' z).1)
      · omega
    subst hp
    have nd : ∀ j, j < p' → ndA A0 (q j) = (fun c => 10 * B0.1 55 0 c - B0.1 57 0 c) (q j) := fun j hj => by
      have z1 := (hE.1 j hj).1
      unfold ndA
      rw [h04 _ z1, a15 _ 2 (by decide), (hca.2.1 _ z1).2.1]
      show _ = 10 * B0.1 55 0 (q j) - _
      rw [tB 55 (by omega)]
    have eW : A0.1 13 s 4 = B0.1 49 0 s := by rw [a13, p4, tB 49 (by omega)]
    refine ⟨q, p', hE, ?_, fun j hj => ?_⟩
    · rw [y1, i4, wRem_congr (nd' := fun c => 10 * B0.1 55 0 c - B0.1 57 0 c) p' nd, eW]
    · rw [y2 j hj, i3 j hj, if_pos hj, wRem_congr (nd' := fun c => 10 * B0.1 55 0 c - B0.1 57 0 c) j (fun i hi => nd i (by omega)), eW, h04 _ (hE.1 j hj).1, nd j hj]
  refine ⟨fun c hc => ?_, fun s hs h2 => ?_, fun s hs h2 => ?_, ?_⟩
  · by_cases z : atW A0 ns c
    · obtain ⟨z5, s, hs, z2, z6⟩ := z
      obtain ⟨q, w, hE, -, y⟩ := key s hs (by rw [a13, (hst.1 s hs).1] at z2; exact z2)
      obtain ⟨j, hj, rfl⟩ := hE.2.1 c hc z5 z6
      exact y j hj
    · rw [W3 c (Or.inl z), h04 c hc]
      symm
      refine D1.2.2.1 c hc (fun y => z ?_)
      rw [wB c hc] at y
      obtain ⟨s, hs, e6, e59, ec, e0⟩ := hs0 c hc
      by_cases x : B.1 58 0 c = 0 ∧ B.1 45 0 (cl (B.1 59 0 c)) = 2
      · rw [e59, ec] at x
        exact ⟨by rw [a15 _ 5 (by decide), (hca.2.1 c hc).2.2.2.2.1]; exact x.1, s, hs, by rw [a13, e0]; exact x.2, by rw [a15 _ 6 (by decide)]; exact e6⟩
      · rw [if_neg x] at y; exact absurd y (by decide)
  · obtain ⟨q, w, -, y, -⟩ := key s hs h2
    exact y
  · rw [D1.2.2.2 s hs (by rw [tB 45 (by omega)]; exact h2), tB 49 (by omega)]
  · exact (Fr.mono (fun t k h => by unfold pD; omega) fB).trans D1.1
theorem bounds_d6 (hA : WC ns nc A) (hb : rBd nc A) (hw : rWl ns A) : rBd nc (cD6 ns nc A) ∧ rWl ns (cD6 ns nc A) := by
  have hns := hA.ls
  have hnc := hA.lc
  have hf : Fr pW A (cD6 ns nc A) := (Fr.rep fr_cRoom1 nc A).trans (Fr.rep (fr_cWell1 nc) ns _)
  unfold cD6 at hf ⊢
  have rA := room_at A nc
  have fA : Fr (fun t k => t = 15 ∧ k = 4) A (rep cRoom1 nc A) := Fr.rep (fun c M => by
      unfold cRoom1; split
      · split
        · exact Fr.rfl'
        · exact Fr.u ⟨rfl, rfl⟩
      · exact Fr.rfl') nc A
  generalize rep cRoom1 nc A = A0 at rA fA hf ⊢
  have a15 : ∀ c k, k ≠ 4 → A0.1 15 c k = A.1 15 c k := fun c k hk => fA.2 15 c k (by omega)
  have a13 : A0.1 13 = A.1 13 := fA.fe.tag (fun _ => by omega)
  have hb0 : rBd nc A0 := fun c hc => by
    obtain ⟨k, l, u, hk, hl, hu, h2, h3, h4⟩ := hb c hc
    rw [a15 c 2 (by decide), a15 c 3 (by decide), rA]
    split
    · exact ⟨k, l, 10 * k, hk, hl, Nat.le_refl _, h2, h3, by rw [h2, show (10 : Int32) = nI 10 from rfl, pk_mul]⟩
    · exact ⟨k, l, u, hk, hl, hu, h2, h3, h4⟩
  obtain ⟨W1, W2, W3⟩ := wells_sp hnc A0 ns hns
  generalize rep (cWell1 nc) ns A0 = A6 at W1 W2 W3 hf ⊢
  have hnd : ∀ c, c < nc → ∃ a, a < 2 ^ 31 ∧ ndA A0 c = nI a := fun c hc => by
    obtain ⟨k, l, u, hk, hl, hu, h2, h3, h4⟩ := hb0 c hc
    refine ⟨10 * k - u, by omega, ?_⟩
    unfold ndA
    rw [h2, h4, show (10 : Int32) = nI 10 from rfl, pk_mul, pk_sub hu]
  constructor
  · intro c hc
    rw [hf.2 15 c 2 (by unfold pW; omega), hf.2 15 c 3 (by unfold pW; omega)]
    have hb1 := hb0 c hc
    rw [a15 c 2 (by decide), a15 c 3 (by decide)] at hb1
    by_cases z : atW A0 ns c
    · obtain ⟨z5, s, hs, z2, z6⟩ := z
      obtain ⟨q, w, hE, -, y⟩ := W1 s hs z2
      obtain ⟨j, hj, rfl⟩ := hE.2.1 c hc z5 z6
      obtain ⟨a', b', k', -, hb', hk', -, -, e4⟩ := hw s hs (by rw [← a13]; exact z2)
      obtain ⟨r', hr', er'⟩ := wRem_nat (nd := ndA A0) (W := A0.1 13 s 4) (q := q) (b := k') (by rw [a13]; exact e4) (by omega) j (fun i hi => hnd _ (hE.1 i (by omega)).1)
      obtain ⟨k, l, u, hk, hl, hu, h2, h3, h4⟩ := hb1
      refine ⟨k, l, u + min (10 * k - u) r', hk, hl, by omega, h2, h3, ?_⟩
      have e2 : ndA A0 (q j) = nI (10 * k - u) := by
        unfold ndA
        rw [a15 _ 2 (by decide), h2, h4, show (10 : Int32) = nI 10 from rfl, pk_mul, pk_sub hu]
      rw [y j hj, er', e2, h4, mn_nat (by omega) (by omega), nI_add]
    · rw [W3 c (Or.inl z)]
      exact hb1
  · intro s hs h2
    rw [hf.2 13 s 0 (by unfold pW; omega)] at h2
    obtain ⟨a, b, k, ha, hb', hk, e2, e3, e4⟩ := hw s hs h2
    rw [hf.2 13 s 2 (by unfold pW; omega), hf.2 13 s 3 (by unfold pW; omega)]
    obtain ⟨q, w, hE, y, -⟩ := W1 s hs (by rw [a13]; exact h2)
    obtain ⟨r', hr', er'⟩ := wRem_nat (nd := ndA A0) (W := A0.1 13 s 4) (q := q) (b := k) (by rw [a13]; exact e4) (by omega) w (fun i hi => hnd _ (hE.1 i (by omega)).1)
    exact ⟨a, b, r', ha, hb', by omega, e2, e3, by rw [y, er']⟩
theorem rIn.d6 (h : rIn ns nc g e r n D S X A B) : rIn ns nc g e r n D S X (cD6 ns nc A) (mD6 nc B) := by
  obtain ⟨w1, w2, w3, fB⟩ := water_eq h.st h.ca h.wc h.wm
  obtain ⟨hb, hw⟩ := bounds_d6 h.wc h.bd h.wl
  have fA : Fr pW A (cD6 ns nc A) := (Fr.rep fr_cRoom1 nc A).trans (Fr.rep (fr_cWell1 nc) ns _)
  have wc : WC ns nc (cD6 ns nc A) := h.wc.d6
  have wm : WM ns nc (mD6 nc B) := h.wm.md6
  have sg : SG g (mD6 nc B) := h.sg.md6
  generalize cD6 ns nc A = A' at w1 w2 hb hw fA wc ⊢
  generalize mD6 nc B = B' at w1 w2 w3 fB wm sg ⊢
  have tA : ∀ t, ¬ (t = 30 ∨ t = 15 ∨ t = 13) → A'.1 t = A.1 t := fun t ht => fA.fe.tag (fun k => by unfold pW; omega)
  have tB : ∀ t, ¬ (t = 80 ∨ t = 57 ∨ t = 49) → B'.1 t = B.1 t := fun t ht => fB.fe.tag (fun k => by unfold pD; omega)
  have d13 : A'.1 0 0 13 = A.1 0 0 13 := by rw [tA 0 (by decide)]
  have t44 : B'.1 44 = B.1 44 := tB 44 (by decide)
  have f15 : ∀ c k, k ≠ 4 → A'.1 15 c k = A.1 15 c k := fun c k hk => fA.2 15 c k (by unfold pW; omega)
  have f13 : ∀ c k, k ≠ 4 → A'.1 13 c k = A.1 13 c k := fun c k hk => fA.2 13 c k (by unfold pW; omega)
  refine ⟨⟨wc, wm, sg, by rw [tA 0 (by decide)]; exact h.a7⟩, ⟨d13.trans h.da, by rw [t44]; exact h.db, h.dl, ?_⟩, ?_, ?_, ?_, ?_, ?_, hb, ?_, ?_, ?_, ?_, ?_, ?_, hw⟩
  · rw [carr_of (A := A) (fun c => f15 c 3 (by decide))]; exact h.bx
  · exact h.st.w f13 (fun t h1 h2 => tB t (by omega)) w2 w3
  · exact h.mkt.of f13
  · exact h.sg'.of (tA 32 (by decide)) (tB 50 (by decide)) (tB 51 (by decide)) (tB 52 (by decide))
  · exact h.lo.of (tA 34 (by decide)) (tB 53 (by decide))
  · exact h.ca.w4 f15 (tA 16 (by decide)) (fun t h1 h2 h3 => tB t (by omega)) w1
  · exact h.kn.of (tA 28 (by decide)) (tA 29 (by decide)) (by rw [d13]; exact Int32.le_refl _) (tB 65 (by decide)) (tB 66 (by decide))
  · exact h.or.of (fun t h1 h2 => tA t (by omega)) (tB 67 (by decide))
  · exact h.ds.of (fun t h1 h2 => tA t (by omega)) (tB 69 (by decide)) (tB 70 (by decide))
  · exact h.le.fr (fun t h1 h2 => by rw [tA t (by omega)]) (by rw [fA.1]) d13 (fun t h1 h2 => by rw [tB t (by omega)]) (by rw [t44]) (by rw [t44])
  · exact h.su.of (by rw [fA.1]) (by rw [fB.1])
  · exact h.ta.of (by rw [tA 1 (by decide)]) (tA 2 (by decide)) (by rw [tA 0 (by decide)]) (tB 81 (by decide)) (by rw [t44]) (by rw [t44]) (by rw [t44])
end WAT2
