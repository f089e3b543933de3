/-! ===== a telling as its questions need it: also one that was never opened ===== -/
def isTw (I : HP) (T : Nat) (R : Nat → Int) (vs : Nat → Nat → Int) (n : Nat) : Prop := n ≤ teN T ∧ I T 3 = iN n ∧ (∀ r, r < 1 → I (T + 1) r = iN (R r)) ∧ (∀ j, j < 15 ∧ j ≠ 4 ∧ j ≠ 5 ∧ j ≠ 6 ∧ j ≠ 8 → I (T + 2) j = iN (tl R vs 0 j)) ∧ ∀ p, p < n → tM I (T + 4 + p) (tl R vs (p + 1))
section Tw
variable {G : CX} {I : HP}
theorem isTl_w {T n : Nat} {R : Nat → Int} {vs : Nat → Nat → Int} (h : isTl I T R vs n) : isTw I T R vs n := ⟨h.1, h.2.1, fun r hr => h.2.2.1 r (by omega), fun j hj => h.2.2.2.1 j hj.1, h.2.2.2.2⟩
theorem isTw_at {T n p : Nat} {R : Nat → Int} {vs : Nat → Nat → Int} (hL : isTw I T R vs n) (hp : p ≤ n) (j : Nat) (hj : j < 14 ∧ j ≠ 4 ∧ j ≠ 5 ∧ j ≠ 6 ∧ j ≠ 8) : I (tc T p) j = iN (tl R vs p j) := by
  unfold tc
  split
  · rename_i e
    subst e
    exact hL.2.2.2.1 j ⟨by omega, hj.2⟩
  · have := (hL.2.2.2.2 (p - 1) (by omega)).1 j hj.1
    rw [show T + 4 + (p - 1) = T + 3 + p by omega, show p - 1 + 1 = p by omega] at this
    exact this
theorem s_turnAtw {Q : HP → Nat → Prop} {T n : Nat} {R : Nat → Int} {vs : Nat → Nat → Int} {z : Int} (hT : isTel T) (hL : isTw I T R vs n) (hz : -1 ≤ z ∧ z < n) (h : Q I (tc T (z + 1).toNat)) : RA G Y_X5_turnAt [.ref T, .int (iN z)] I Q := by
  have hN := teN_le T
  obtain ⟨hn, h3, -⟩ := hL
  refine v_X5_turnAt hT ?_
  rw [h3, l0, iN_lt (by omega) (by omega), iN_le (by omega) (by omega)]
  refine ⟨fun c => ?_, fun c => ⟨fun c2 => absurd c2 (by omega), fun _ => ⟨(vp_iN (by omega)).mpr ⟨by omega, by omega⟩, ?_⟩⟩⟩
  · rw [show (z + 1).toNat = 0 by omega] at h
    exact h
  · rw [show nn (iN z) = z.toNat by rw [nn, nn_iN (by omega) (by omega)]]
    rw [show tc T (z + 1).toNat = T + 4 + z.toNat by unfold tc; rw [if_neg (by omega)]; omega] at h
    exact h
theorem s_lastw {Q : HP → Nat → Prop} {T n : Nat} {R : Nat → Int} {vs : Nat → Nat → Int} (hT : isTel T) (hL : isTw I T R vs n) (h : Q I (tc T n)) : RA G Y_X5_last [.ref T] I Q := by
  have hN := teN_le T
  have hn := hL.1
  refine v_X5_last hT ?_
  rw [hL.2.1, l1, iN_sub]
  refine s_turnAtw hT hL (by omega) ?_
  rw [show ((n : Int) - 1 + 1).toNat = n by omega]
  exact ⟨tc_tur hT hn, h⟩
end Tw
