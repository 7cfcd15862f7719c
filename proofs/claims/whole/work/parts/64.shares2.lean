/-! Money is shared alike: with a contract and without. -/
theorem sumD_smS {f : Nat → Int32} {o : Nat} {l : List Shr} : ∀ n, n ≤ l.length → (∀ i (hi : i < l.length), f (o + 4 + i) = l[i].2) → sumD f o n = smS (l.take n) 0
  | 0, _, _ => rfl
  | n + 1, hn, h => by
    unfold sumD
    rw [sumD_smS n (by omega) h, h n (by omega), List.take_succ_eq_append_getElem (by omega), smS_app]
section SHA2
variable {A B : MM} {c e r m : Nat}
theorem rLe.shares (h : rLe e r A B) (ht : B.1 44 0 1 = A.1 0 0 13) (hc : c < 12) (hnum : A.1 15 c 0 = nI c) (hd : rDe 25 70 c A B) (hm : m ≤ 2000000) : ∃ e', e ≤ e' ∧ rLe e' r (cShares A c (lN m) (A.1 0 0 13)) (mPays B (nI c) (nI m)) := by
  have c9 : cl (9 * nI c) = 9 * c := by rw [show (9 : Int32) = nI 9 from rfl, pk_mul]; exact nI_clamp (by omega)
  unfold cShares mPays
  rw [c9]
  rcases hd with ⟨b0, a0, a3, -, p0, n0⟩ | ⟨l, q, hok, h1, hl3, hpos, hw, -, ⟨a0, a3, -, -, aw⟩, b0, -, -, bw⟩
  · rw [a0, if_pos b0, show cl (1 : Int32) = 1 from rfl]
    have n0 : A.1 27 c 0 = nI 1 := n0
    have a3 : A.1 25 c 3 = nI 1 := a3
    have p0 : A.1 26 c 0 = 0 := p0
    show ∃ e', e ≤ e' ∧ rLe e' r (cWrite A (A.1 15 c 0) (A.1 26 c 0) (A.1 0 0 13) (cPart A c (lN m) (nI 0) + (if nI 0 = 0 then cRest A c (lN m) 0 - cPart A c (lN m) (nI 0) else 0)).toInt32) (mWr B (nI c) 0 (nI m))
    rw [if_pos (show nI 0 = 0 from rfl), hnum, p0, Int64.add_comm (cPart A c (lN m) (nI 0)), show cRest A c (lN m) 0 = lN m from rfl, Int64.sub_add_cancel, lN_i]
    exact h.write ht
  · have en : cl (A.1 25 c 0) = l.length := by rw [a0]; exact nI_clamp (by omega)
    have eb : cl (B.1 70 0 (9 * c)) = l.length := by rw [b0]; exact nI_clamp (by omega)
    rw [en, eb, if_neg (by rw [b0]; exact nI_ne0 (by omega) (by omega))]
    obtain ⟨s, hs, es⟩ := hok.2.2
    have hs297 : s ≤ 297 := by omega
    have hs0 : 0 < s := Nat.pos_of_ne_zero (fun z => hpos (by rw [es, z]; decide))
    have eall : mAllS B (nI c) l.length = nI s := by
      rw [mAllS_eq hc rfl l.length hl3, sumD_smS l.length (Nat.le_refl _) (fun i hi => (bw i hi).2), List.take_length, es]
    unfold mPayN
    rw [eall]
    have hnum2 : ∀ k, k < l.length → ∃ w, w ≤ 99 ∧ A.1 27 c k = nI w ∧ B.1 70 0 (9 * c + 4 + k) = nI w := fun k hk => by
      obtain ⟨w, hw1, hw2⟩ := hw k hk
      exact ⟨w, hw1, (aw k hk).2.trans hw2, (bw k hk).2.trans hw2⟩
    rw [← rest_eq (A := A) hc hm (a3.trans es) hs0 hs297 l.length hl3 hnum2]
    refine h.shr (n := l.length) ht hc hnum hm (a3.trans es) hs0 hs297 (fun k hk => ?_) hl3 l.length (Nat.le_refl _)
    obtain ⟨w, g1, g2, g3⟩ := hnum2 k hk
    exact ⟨w, g1, g2, g3, (aw k hk).1.trans (bw k hk).1.symm⟩
end SHA2
