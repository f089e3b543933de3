/-! ===== the reference tells a poem ===== -/
theorem tl_dead {R : Nat → Int} {vs : Nat → Nat → Int} {p : Nat} (h : tl R vs p 7 = -1) : ∀ m, tl R vs (p + m) 7 = -1 ∧ tl R vs (p + m) 10 = tl R vs p 10 ∧ tl R vs (p + m) 12 = tl R vs p 12 ∧ (0 < m → ∀ j, 4 ≤ j → j ≤ 8 → tl R vs (p + m) j = -1)
  | 0 => ⟨h, rfl, rfl, fun c => absurd c (by decide)⟩
  | m + 1 => by
    obtain ⟨h7, h10, h12, -⟩ := tl_dead h m
    have hb : bgT R (tl R vs (p + m)) (tl R vs (p + m) 9 + mkC (vs (p + m) 0) (vs (p + m) 1) (cntK vs (vs (p + m) 0) (p + m))) = false := decide_eq_false (fun c => c.1 h7)
    have e : ∀ j, tl R vs (p + (m + 1)) j = tN2 R (tl R vs (p + m)) (vs (p + m) 0) (mkC (vs (p + m) 0) (vs (p + m) 1) (cntK vs (vs (p + m) 0) (p + m))) (vs (p + m) 2) (knC (vs (p + m) 0) (vs (p + m) 3) (cntK vs (vs (p + m) 0) (p + m))) (wrT (vs (p + m) 0) (vs (p + m) 2)) (tl R vs (p + m) 9 + mkC (vs (p + m) 0) (vs (p + m) 1) (cntK vs (vs (p + m) 0) (p + m))) false (cgT R (tl R vs (p + m)) (wrT (vs (p + m) 0) (vs (p + m) 2))) (okT R (tl R vs (p + m)) (wrT (vs (p + m) 0) (vs (p + m) 2))) j := by
      intro j
      rw [← hb]
      rfl
    refine ⟨by rw [e]; rfl, by rw [e]; exact h10, by rw [e]; exact h12, fun _ j h1 h2 => ?_⟩
    rw [e]
    rcases (show j = 4 ∨ j = 5 ∨ j = 6 ∨ j = 7 ∨ j = 8 by omega) with rfl | rfl | rfl | rfl | rfl <;> rfl
/-- how many verses are written -/
def wrN (R : Nat → Int) (vs : Nat → Nat → Int) : Nat → Nat
  | 0 => 0
  | p + 1 => if tl R vs (p + 1) 7 = -1 then wrN R vs p else p + 1
def lng (R : Nat → Int) (vs : Nat → Nat → Int) (n : Nat) : Int := tl R vs (wrN R vs n) 7
theorem wrN_dead {R : Nat → Int} {vs : Nat → Nat → Int} {p : Nat} (h : tl R vs (p + 1) 7 = -1) : ∀ m, wrN R vs (p + m) = wrN R vs p
  | 0 => rfl
  | m + 1 => by
    have h1 := (tl_dead h m).1
    rw [show p + 1 + m = p + m + 1 by omega] at h1
    show (if tl R vs (p + m + 1) 7 = -1 then wrN R vs (p + m) else p + m + 1) = _
    rw [if_pos h1]
    exact wrN_dead h m
theorem wrN_full {R : Nat → Int} {vs : Nat → Nat → Int} {p : Nat} (h : tl R vs p 7 ≠ -1) : wrN R vs p = p := by
  cases p with
  | zero => rfl
  | succ p => show (if tl R vs (p + 1) 7 = -1 then wrN R vs p else p + 1) = _; rw [if_neg h]
/-- the reference's row of verses -/
def rowOK (I : HP) (vs : Nat → Nat → Int) (n : Nat) : Prop := I 58 11 = iN n ∧ n ≤ 14 ∧ ∀ i, i < n → ∃ r : Nat, r < 16 ∧ I 68 i = iN r ∧ I 66 (4 * r) = iN (vs i 1) ∧ I 66 (4 * r + 1) = iN (vs i 2) ∧ I 66 (4 * r + 2) = iN (vs i 3) ∧ I 66 (4 * r + 3) = iN (vs i 0)
theorem rowOK_fr {I I' : HP} {vs : Nat → Nat → Int} {n : Nat} (h : rowOK I vs n) (h1 : I' 58 11 = I 58 11) (h2 : I' 68 = I 68) (h3 : I' 66 = I 66) : rowOK I' vs n := by
  unfold rowOK
  rw [h1, h2, h3]
  exact h
section Says
variable {G : CX} {I : HP}
theorem s_greater {Q : HP → Int32 → Prop} {x : Int} (hx : -2147483648 ≤ x ∧ x < 2147483648) (h : Q I (iN (if 0 < x then x else 0))) : RI G Y_X8_greater [.int (iN x), .int (0 : Int32)] I Q := by
  refine v_X8_greater ?_
  rw [l0, iN_le hx (by omega)]
  refine ⟨fun c => ?_, fun c => ?_⟩
  · rw [if_neg (by omega)] at h; exact h
  · rw [if_pos (by omega)] at h; exact h
theorem nn_4 {r k : Nat} (hr : r < 16) (hk : k < 4) : nn (iN (4 * (r : Int) + (k : Int))) = 4 * r + k := by
  rw [nn, nn_iN (by omega) (by omega)]
  omega
theorem s_kindAt {Q : HP → Int32 → Prop} {vs : Nat → Nat → Int} {n i : Nat} (hr : rowOK I vs n) (hi : i < n) (h : Q I (iN (vs i 0))) : RI G Y_X8_kindAt [.ref 58, .int (iN i)] I Q := by
  obtain ⟨-, hn, hrow⟩ := hr
  obtain ⟨r, h16, h68, -, -, -, h3⟩ := hrow i hi
  refine v_X8_kindAt ⟨(vp_iN (by omega)).mpr ⟨by omega, by omega⟩, ?_⟩
  rw [show nn (iN (i : Int)) = i from nn_nat (by omega), h68, l4, l3, iN_mul, iN_add]
  refine ⟨(vp_iN (by omega)).mpr ⟨by omega, by omega⟩, ?_⟩
  rw [show nn (iN (4 * (r : Int) + 3)) = 4 * r + 3 from nn_4 h16 (k := 3) (by decide), h3]
  exact h
theorem s_sayAt {Q : HP → Int32 → Prop} {vs : Nat → Nat → Int} {n i : Nat} (hr : rowOK I vs n) (hi : i < n) (h : Q I (iN (vs i 2))) : RI G Y_X8_sayAt [.ref 58, .int (iN i)] I Q := by
  obtain ⟨-, hn, hrow⟩ := hr
  obtain ⟨r, h16, h68, -, h1, -, -⟩ := hrow i hi
  refine v_X8_sayAt ⟨(vp_iN (by omega)).mpr ⟨by omega, by omega⟩, ?_⟩
  rw [show nn (iN (i : Int)) = i from nn_nat (by omega), h68, l4, l1, iN_mul, iN_add]
  refine ⟨(vp_iN (by omega)).mpr ⟨by omega, by omega⟩, ?_⟩
  rw [show nn (iN (4 * (r : Int) + 1)) = 4 * r + 1 from nn_4 h16 (k := 1) (by decide), h1]
  exact h
/-- makes and knots that count -/
def cOK (I : HP) (vs : Nat → Nat → Int) (n : Nat) : Prop := ∀ i, i < n → I 69 i = iN (mkC (vs i 0) (vs i 1) (cntK vs (vs i 0) i)) ∧ I 70 i = iN (knC (vs i 0) (vs i 3) (cntK vs (vs i 0) i))
set_option maxHeartbeats 1000000 in
theorem s_counts {Q : HP → Prop} {vs : Nat → Nat → Int} {n : Nat} (hr : rowOK I vs n) (hv : okVs vs n) (h : ∀ I', frm [69, 70] [] I I' → cOK I' vs n → Q I') : RV G Y_X8_counts [.ref 58] I Q := by
  have hn := hr.2.1
  refine v_X8_counts ?_
  have loop : ∀ m i : Nat, i + m = n → ∀ I1, frm [69, 70] [] I I1 → cOK I1 vs i → GV G Y_X8_counts 2 [(0, .ref 58), (1, .int (iN i))] I1 Q := by
    intro m
    induction m with
    | zero =>
      intro i hi I1 hf hc
      refine v_X8_counts_2 ⟨fun _ => h I1 hf (by rw [show n = i by omega]; exact hc), fun c => absurd ?_ c⟩
      rw [hf.2 11 (by decide), hr.1, iN_le (by omega) (by omega)]; omega
    | succ m ih =>
      intro i hi I1 hf hc
      have hr1 : rowOK I1 vs n := rowOK_fr hr (hf.2 11 (by decide)) (hf.1 68 (by decide) (by decide)) (hf.1 66 (by decide) (by decide))
      refine v_X8_counts_2 ⟨fun c => absurd c (by rw [hr1.1, iN_le (by omega) (by omega)]; omega), fun _ => ?_⟩
      -- the verses ahead of verse i
      have inner : ∀ m2 j : Nat, j + m2 = i → GV G Y_X8_counts 14 [(0, .ref 58), (1, .int (iN i)), (2, .int (iN (cntK vs (vs i 0) j))), (3, .int (iN j))] I1 Q := by
        intro m2
        induction m2 with
        | zero =>
          intro j hj
          have ej : j = i := by omega
          subst ej
          have hcl := cntK_le vs (vs j 0) j
          obtain ⟨k0, m0, s0, q0⟩ := hv j (by omega)
          refine v_X8_counts_14 ⟨fun _ => ?_, fun c => absurd (by rw [iN_le (by omega) (by omega)]; omega) c⟩
          refine s_kindAt hr1 (by omega) ?_
          obtain ⟨r, h16, h68, g0, g1, g2, g3⟩ := hr1.2.2 j (by omega)
          rw [l1, l0, iN_eq (by omega) (by omega), iN_le (by omega) (by omega)]
          have no : ¬ (vs j 0 = 1 ∧ (0 : Int) < cntK vs (vs j 0) j) → ((vp_in (iN j) 14) ∧ ((vp_in ((4 : Int32) * (I1 68 (nn (iN j)))) 64) ∧ ((vp_in (((4 : Int32) * ((st I1 69 (nn (iN j)) (I1 66 (nn ((4 : Int32) * (I1 68 (nn (iN j))))))) 68 (nn (iN j)))) + (2 : Int32)) 64) ∧ (RI G Y_X8_greater [.int (((st I1 69 (nn (iN j)) (I1 66 (nn ((4 : Int32) * (I1 68 (nn (iN j))))))) 66 (nn (((4 : Int32) * ((st I1 69 (nn (iN j)) (I1 66 (nn ((4 : Int32) * (I1 68 (nn (iN j))))))) 68 (nn (iN j)))) + (2 : Int32)))) - iN (cntK vs (vs j 0) j)), .int (iN 0)] (st I1 69 (nn (iN j)) (I1 66 (nn ((4 : Int32) * (I1 68 (nn (iN j))))))) (fun I8 r9 => GV G Y_X8_counts 2 [(0, .ref 58), (1, .int (iN j + iN 1))] (st I8 70 (nn (iN j)) r9) Q))))) := by
            intro hno
            refine ⟨(vp_iN (by omega)).mpr ⟨by omega, by omega⟩, ?_⟩
            rw [show nn (iN (j : Int)) = j from nn_nat (by omega), h68, l4, iN_mul]
            refine ⟨(vp_iN (by omega)).mpr ⟨by omega, by omega⟩, ?_⟩
            rw [show nn (iN (4 * (r : Int))) = 4 * r by rw [nn, nn_iN (by omega) (by omega)]; omega, g0, st_ne1 (by decide), h68, l2, iN_mul, iN_add]
            refine ⟨(vp_iN (by omega)).mpr ⟨by omega, by omega⟩, ?_⟩
            rw [show nn (iN (4 * (r : Int) + 2)) = 4 * r + 2 from nn_4 h16 (k := 2) (by decide), st_ne1 (by decide), g2, iN_sub]
            refine s_greater (by omega) ?_
            rw [iN_add]
            refine ih (j + 1) (by omega) _ (frm_st (frm_st hf (by decide) (by decide)) (by decide) (by decide)) (fun i2 hi2 => ?_)
            by_cases c : i2 = j
            · subst c
              refine ⟨?_, ?_⟩
              · rw [st_ne1 (by decide), st_self]; unfold mkC; rw [if_neg hno]
              · rw [st_self]; unfold knC; rw [if_neg hno]
            · obtain ⟨z1, z2⟩ := hc i2 (by omega)
              refine ⟨?_, ?_⟩
              · rw [st_ne1 (by decide), st_ne2 c]; exact z1
              · rw [st_ne2 c, st_ne1 (by decide)]; exact z2
          refine ⟨fun c => no (by omega), fun c => ⟨fun c2 => no (by omega), fun c2 => ⟨(vp_iN (by omega)).mpr ⟨by omega, by omega⟩, ?_⟩⟩⟩
          rw [show nn (iN (j : Int)) = j from nn_nat (by omega), iN_add]
          have hyes : vs j 0 = 1 ∧ (0 : Int) < cntK vs (vs j 0) j := by omega
          refine ih (j + 1) (by omega) _ (frm_st (frm_st hf (by decide) (by decide)) (by decide) (by decide)) (fun i2 hi2 => ?_)
          by_cases c : i2 = j
          · subst c
            refine ⟨?_, ?_⟩
            · rw [st_ne1 (by decide), st_self]; unfold mkC; rw [if_pos hyes]
            · rw [st_self]; unfold knC; rw [if_pos hyes]
          · obtain ⟨z1, z2⟩ := hc i2 (by omega)
            refine ⟨?_, ?_⟩
            · rw [st_ne1 (by decide), st_ne2 c]; exact z1
            · rw [st_ne2 c, st_ne1 (by decide)]; exact z2
        | succ m2 ih2 =>
          intro j hj
          have hvi := (hv i (by omega)).1
          have hvj := (hv j (by omega)).1
          refine v_X8_counts_14 ⟨fun c => absurd c (by rw [iN_le (by omega) (by omega)]; omega), fun _ => ?_⟩
          refine s_kindAt hr1 (by omega) (s_kindAt hr1 (by omega) ?_)
          rw [iN_eq (by omega) (by omega), l1, l0, iN_add, iN_add, iN_add]
          have := ih2 (j + 1) (by omega)
          rw [cntK_s] at this
          refine ⟨fun c => ?_, fun c => ?_⟩
          · rw [if_neg c] at this; rw [Int.add_zero]; exact this
          · rw [if_pos c] at this; exact this
      exact inner i 0 (by omega)
  exact loop n 0 (by omega) I frm_rf (fun i hi => by omega)
/-- what the reference has told of a row -/
def sOK (I : HP) (R : Nat → Int) (vs : Nat → Nat → Int) (n : Nat) : Prop := cOK I vs n ∧ (∀ i, i < n → ∀ j, 4 ≤ j → j ≤ 8 → I (67 + j) i = iN (tl R vs (i + 1) j)) ∧ I 58 20 = iN (lng R vs n) ∧ I 58 21 = iN (tl R vs n 10) ∧ I 58 22 = iN (wrN R vs n) ∧ I 58 23 = iN (tl R vs n 12)
theorem five {P : Nat → Prop} (h4 : P 4) (h5 : P 5) (h6 : P 6) (h7 : P 7) (h8 : P 8) : ∀ j, 4 ≤ j → j ≤ 8 → P j := by
  intro j h1 h2
  rcases (show j = 4 ∨ j = 5 ∨ j = 6 ∨ j = 7 ∨ j = 8 by omega) with rfl | rfl | rfl | rfl | rfl <;> assumption
set_option maxHeartbeats 4000000 in
theorem s_says {Q : HP → Prop} {R : Nat → Int} {vs : Nat → Nat → Int} {n : Nat} (hr : rowOK I vs n) (hv : okVs vs n) (hR : okR R) (h671 : I 67 1 = iN (R 1)) (h672 : I 67 2 = iN (R 2)) (h : ∀ I', frm [69, 70, 71, 72, 73, 74, 75] [20, 21, 22, 23] I I' → sOK I' R vs n → Q I') : RV G Y_X8_says [.ref 58, .int (iN (R 0)), .int (iN (R 4)), .int (iN (R 3))] I Q := by
  have hn := hr.2.1
  obtain ⟨r0, r1, r2, r3, r4⟩ := id hR
  refine v_X8_says (s_counts hr hv (fun I1 hf1 hc1 => ?_))
  have hf1 : frm [69, 70, 71, 72, 73, 74, 75] [20, 21, 22, 23] I I1 := frm_mo hf1 (by decide) (by decide)
  -- all verses are at first as if they did not begin
  have blank : ∀ m i : Nat, i + m = n → ∀ I2, frm [69, 70, 71, 72, 73, 74, 75] [20, 21, 22, 23] I I2 → cOK I2 vs n → (∀ q, q < i → ∀ j, 4 ≤ j → j ≤ 8 → I2 (67 + j) q = iN (-1)) →
      (∀ I3, frm [69, 70, 71, 72, 73, 74, 75] [20, 21, 22, 23] I I3 → cOK I3 vs n → (∀ q, q < n → ∀ j, 4 ≤ j → j ≤ 8 → I3 (67 + j) q = iN (-1)) → I3 58 20 = iN 0 → I3 58 21 = iN 0 → I3 58 22 = iN 0 → I3 58 23 = iN 0 → GV G Y_X8_says 108 [(0, .ref 58), (2, .int (iN (R 4))), (3, .int (iN (R 3))), (4, .int (0 : Int32)), (5, .int (iN (R 0))), (6, .int (0 : Int32)), (7, .int (iN (R 1))), (8, .int (0 : Int32)), (9, .int (1 : Int32)), (10, .int (0 : Int32))] I3 Q) →
      GV G Y_X8_says 7 [(0, .ref 58), (1, .int (iN (R 0))), (2, .int (iN (R 4))), (3, .int (iN (R 3))), (4, .int (iN i))] I2 Q := by
    intro m
    induction m with
    | zero =>
      intro i hi I2 hf hc hq hk
      have e : i = n := by omega
      subst e
      refine v_X8_says_7 ⟨fun _ => ?_, fun c => absurd (by rw [hf.2 11 (by decide), hr.1, iN_le (by omega) (by omega)]; omega) c⟩
      rw [hf.1 67 (by decide) (by decide), h671]
      refine hk _ (frm_s8 (frm_s8 (frm_s8 (frm_s8 hf (by decide)) (by decide)) (by decide)) (by decide)) (fun q hq2 => ?_) (fun q hq2 => ?_) ?_ ?_ ?_ ?_
      · have := hc q hq2
        rw [st_ne1 (by decide), st_ne1 (by decide), st_ne1 (by decide), st_ne1 (by decide), st_ne1 (by decide), st_ne1 (by decide), st_ne1 (by decide), st_ne1 (by decide)]
        exact this
      · refine five ?_ ?_ ?_ ?_ ?_ <;> (rw [st_ne1 (by decide), st_ne1 (by decide), st_ne1 (by decide), st_ne1 (by decide)]; exact hq q hq2 _ (by decide) (by decide))
      · simp [st_at]; rfl
      · simp [st_at]; rfl
      · simp [st_at]; rfl
      · simp [st_at]; rfl
    | succ m ih =>
      intro i hi I2 hf hc hq hk
      refine v_X8_says_7 ⟨fun c => absurd c (by rw [hf.2 11 (by decide), hr.1, iN_le (by omega) (by omega)]; omega), fun _ => ⟨(vp_iN (by omega)).mpr ⟨by omega, by omega⟩, fun I3 e3 => ?_⟩⟩
      rw [show nn (iN (i : Int)) = i from nn_nat (by omega)] at e3 ⊢
      rw [l1, iN_add]
      subst e3
      refine ih (i + 1) (by omega) _ (frm_st (frm_st (frm_st (frm_st (frm_st hf (by decide) (by decide)) (by decide) (by decide)) (by decide) (by decide)) (by decide) (by decide)) (by decide) (by decide)) (fun q hq2 => ?_) (fun q hq2 => ?_) hk
      · have := hc q hq2
        simp only [st_at]
        simp
        exact this
      · by_cases e : q = i
        · subst e
          refine five ?_ ?_ ?_ ?_ ?_ <;> (simp [st_at]; rfl)
        · have := hq q (by omega)
          refine five ?_ ?_ ?_ ?_ ?_
          · simp [st_at, e]; exact this 4 (by decide) (by decide)
          · simp [st_at, e]; exact this 5 (by decide) (by decide)
          · simp [st_at, e]; exact this 6 (by decide) (by decide)
          · simp [st_at, e]; exact this 7 (by decide) (by decide)
          · simp [st_at, e]; exact this 8 (by decide) (by decide)
  refine blank n 0 (by omega) I1 hf1 hc1 (fun q hq => by omega) (fun I3 hf3 hc3 hq3 h20 h21 h22 h23 => ?_)
  -- the verses, one behind the other
  have loop : ∀ m i : Nat, i + m = n → tl R vs i 7 ≠ -1 → ∀ (I4 : HP) (x8 : Int32), (x8 = 0 ↔ tl R vs i 11 = 0) → frm [69, 70, 71, 72, 73, 74, 75] [20, 21, 22, 23] I I4 → cOK I4 vs n → (∀ q, q < i → ∀ j, 4 ≤ j → j ≤ 8 → I4 (67 + j) q = iN (tl R vs (q + 1) j)) → (∀ q, i ≤ q → q < n → ∀ j, 4 ≤ j → j ≤ 8 → I4 (67 + j) q = iN (-1)) → I4 58 20 = iN (tl R vs i 7) → I4 58 21 = iN (tl R vs i 10) → I4 58 22 = iN i → I4 58 23 = iN (tl R vs i 12) →
      GV G Y_X8_says 108 [(0, .ref 58), (2, .int (iN (R 4))), (3, .int (iN (R 3))), (4, .int (iN (tl R vs i 7))), (5, .int (iN (tl R vs i 13))), (6, .int (iN (tl R vs i 9))), (7, .int (iN (R 1 - tl R vs i 11))), (8, .int x8), (9, .int (1 : Int32)), (10, .int (iN i))] I4 Q := by
    intro m
    induction m with
    | zero =>
      intro i hi h7 I4 x8 hx8 hf hc hq hq2 g20 g21 g22 g23
      have e : i = n := by omega
      subst e
      refine v_X8_says_108 ⟨fun _ => h I4 hf ⟨hc, hq, ?_, g21, ?_, g23⟩, fun c => absurd (by rw [hf.2 11 (by decide), hr.1, iN_le (by omega) (by omega)]; omega) c⟩
      · unfold lng; rw [wrN_full h7]; exact g20
      · rw [wrN_full h7]; exact g22
    | succ m ih =>
      intro i hi h7 I4 x8 hx8 hf hc hq hq2 g20 g21 g22 g23
      obtain ⟨k0, m0, s0, q0⟩ := hv i (by omega)
      have hcl := cntK_le vs (vs i 0) i
      have hbd := bd_tl hR hv i (by omega) (by omega)
      obtain ⟨b9, b10, b11, b12, b13, b7⟩ := hbd
      have hm := mkC_bd (k := vs i 0) (al := (cntK vs (vs i 0) i : Int)) m0
      have hkn := knC_bd (k := vs i 0) (al := (cntK vs (vs i 0) i : Int)) q0 (by omega)
      have hw := wrT_bd (k := vs i 0) s0
      have hc_i := hc i (by omega)
      have eT : tl R vs (i + 1) = tN2 R (tl R vs i) (vs i 0) (mkC (vs i 0) (vs i 1) (cntK vs (vs i 0) i)) (vs i 2) (knC (vs i 0) (vs i 3) (cntK vs (vs i 0) i)) (wrT (vs i 0) (vs i 2)) (tl R vs i 9 + mkC (vs i 0) (vs i 1) (cntK vs (vs i 0) i)) (bgT R (tl R vs i) (tl R vs i 9 + mkC (vs i 0) (vs i 1) (cntK vs (vs i 0) i))) (cgT R (tl R vs i) (wrT (vs i 0) (vs i 2))) (okT R (tl R vs i) (wrT (vs i 0) (vs i 2))) := rfl
      generalize mkC (vs i 0) (vs i 1) (cntK vs (vs i 0) i) = mk at *
      generalize knC (vs i 0) (vs i 3) (cntK vs (vs i 0) i) = kn at *
      have hpz := pzT_bd (tl R vs i 9 + mk) (tl R vs i 13)
      have nni : nn (iN (i : Int)) = i := nn_nat (by omega)
      have vpi : vp_in (iN (i : Int)) 14 := (vp_iN (by omega)).mpr ⟨by omega, by omega⟩
      -- the end behind a verse that is not written
      have stop : tl R vs (i + 1) 7 = -1 → ∀ (I5 : HP) (y4 y5 y6 y7 y8 : Int32), frm [69, 70, 71, 72, 73, 74, 75] [20, 21, 22, 23] I I5 → cOK I5 vs n → (∀ q, q < i + 1 → ∀ j, 4 ≤ j → j ≤ 8 → I5 (67 + j) q = iN (tl R vs (q + 1) j)) → (∀ q, i + 1 ≤ q → q < n → ∀ j, 4 ≤ j → j ≤ 8 → I5 (67 + j) q = iN (-1)) → I5 58 20 = iN (tl R vs i 7) → I5 58 21 = iN (tl R vs (i + 1) 10) → I5 58 22 = iN i → I5 58 23 = iN (tl R vs (i + 1) 12) → GV G Y_X8_says 458 [(0, .ref 58), (2, .int (iN (R 4))), (3, .int (iN (R 3))), (4, .int y4), (5, .int y5), (6, .int y6), (7, .int y7), (8, .int y8), (9, .int (0 : Int32)), (10, .int (iN i))] I5 Q := by
        intro hd I5 y4 y5 y6 y7 y8 f5 c5 a5 d5 z20 z21 z22 z23
        have hwN : wrN R vs n = i := by
          have := wrN_dead hd (m + 1)
          rw [hi] at this
          rw [this]
          exact wrN_full h7
        have fin : Q I5 := by
          refine h I5 f5 ⟨c5, fun q hq3 j h4 h8 => ?_, ?_, ?_, ?_, ?_⟩
          · by_cases e : q < i + 1
            · exact a5 q e j h4 h8
            · have := (tl_dead hd (q - i)).2.2.2 (by omega) j h4 h8
              rw [show i + 1 + (q - i) = q + 1 by omega] at this
              rw [this]; exact d5 q (by omega) hq3 j h4 h8
          · unfold lng; rw [hwN]; exact z20
          · have := (tl_dead hd m).2.1
            rw [show i + 1 + m = n by omega] at this
            rw [this]; exact z21
          · rw [hwN]; exact z22
          · have := (tl_dead hd m).2.2.1
            rw [show i + 1 + m = n by omega] at this
            rw [this]; exact z23
        refine v_X8_says_458 (v_X8_says_108 ⟨fun _ => fin, fun _ => ⟨fun _ => fin, fun c => absurd rfl c⟩⟩)
      refine v_X8_says_108 ⟨fun c => absurd c (by rw [hf.2 11 (by decide), hr.1, iN_le (by omega) (by omega)]; omega), fun _ => ⟨fun c => absurd c (by decide), fun _ => ⟨vpi, ?_⟩⟩⟩
      rw [nni, hc_i.1, iN_add, iN_sub]
      refine s_greater (by omega) ?_
      have epz : (if 0 < tl R vs i 9 + mk - tl R vs i 13 then tl R vs i 9 + mk - tl R vs i 13 else 0) = pzT (tl R vs i 9 + mk) (tl R vs i 13) := rfl
      rw [epz, l0, iN_eq (by omega) (by omega), iN_eq (by omega) (by omega)]
      -- it is said
      have said : bgT R (tl R vs i) (tl R vs i 9 + mk) = true → GV G Y_X8_says 161 [(0, .ref 58), (2, .int (iN (R 4))), (3, .int (iN (R 3))), (4, .int (iN (tl R vs i 7))), (5, .int (iN (tl R vs i 13))), (6, .int (iN (tl R vs i 9 + mk))), (7, .int (iN (R 1 - tl R vs i 11))), (8, .int x8), (9, .int (1 : Int32)), (10, .int (iN i)), (11, .int (iN (pzT (tl R vs i 9 + mk) (tl R vs i 13))))] I4 Q := by
        intro hbg
        rw [hbg] at eT
        obtain ⟨pz, hpzE⟩ : ∃ pz, pz = pzT (tl R vs i 9 + mk) (tl R vs i 13) := ⟨_, rfl⟩
        rw [← hpzE] at hpz ⊢
        refine v_X8_says_161 ⟨fun c => absurd c (by decide), fun _ => ⟨vpi, ?_⟩⟩
        rw [nni, iN_add]
        generalize hI5 : (st (st (st I4 75 i (iN pz)) 58 21 (((st I4 75 i (iN pz)) 58 21) + iN pz)) 71 i (iN (tl R vs i 7 + pz))) = I5
        have f5 : frm [69, 70, 71, 72, 73, 74, 75] [20, 21, 22, 23] I I5 := by rw [← hI5]; exact frm_st (frm_s8 (frm_st hf (by decide) (by decide)) (by decide)) (by decide) (by decide)
        have r5 : rowOK I5 vs n := rowOK_fr hr (f5.2 11 (by decide)) (f5.1 68 (by decide) (by decide)) (f5.1 66 (by decide) (by decide))
        refine s_sayAt r5 (by omega) (fun I6 e6 => ?_)
        have g71 : I5 71 i = iN (tl R vs i 7 + pz) := by rw [← hI5, st_self]
        rw [g71, iN_add] at e6
        have f6 : frm [69, 70, 71, 72, 73, 74, 75] [20, 21, 22, 23] I I6 := by rw [e6]; exact frm_st f5 (by decide) (by decide)
        have g672 : I6 72 i = iN (tl R vs i 7 + pz + vs i 2) := by rw [e6, st_self]
        have g670 : I6 70 i = iN kn := by rw [e6, st_ne1 (by decide), ← hI5, st_ne1 (by decide), st_ne1 (by decide), st_ne1 (by decide)]; exact hc_i.2
        rw [g672, g670, iN_add]
        generalize hI7 : st I6 73 i (iN (tl R vs i 7 + pz + vs i 2 + kn)) = I7
        have f7 : frm [69, 70, 71, 72, 73, 74, 75] [20, 21, 22, 23] I I7 := by rw [← hI7]; exact frm_st f6 (by decide) (by decide)
        have r7 : rowOK I7 vs n := rowOK_fr hr (f7.2 11 (by decide)) (f7.1 68 (by decide) (by decide)) (f7.1 66 (by decide) (by decide))
        -- what stands in I7
        have u71 : I7 71 i = iN (tl R vs i 7 + pz) := by rw [← hI7, st_ne1 (by decide), e6, st_ne1 (by decide)]; exact g71
        have u72 : I7 72 i = iN (tl R vs i 7 + pz + vs i 2) := by rw [← hI7, st_ne1 (by decide)]; exact g672
        have u73 : I7 73 i = iN (tl R vs i 7 + pz + vs i 2 + kn) := by rw [← hI7, st_self]
        have u74 : I7 74 i = iN (-1) := by rw [← hI7, st_ne1 (by decide), e6, st_ne1 (by decide), ← hI5, st_ne1 (by decide), st_ne1 (by decide), st_ne1 (by decide)]; exact hq2 i (Nat.le_refl _) (by omega) 7 (by decide) (by decide)
        have u75 : I7 75 i = iN pz := by rw [← hI7, st_ne1 (by decide), e6, st_ne1 (by decide), ← hI5, st_ne1 (by decide), st_ne1 (by decide), st_self]
        have uo : ∀ q, q ≠ i → ∀ j, 4 ≤ j → j ≤ 8 → I7 (67 + j) q = I4 (67 + j) q := by
          intro q hqi
          rw [← hI7, e6, ← hI5]
          refine five ?_ ?_ ?_ ?_ ?_ <;> simp [st_at, hqi]
        have uc : cOK I7 vs n := by
          intro q hqn
          rw [← hI7, e6, ← hI5]
          have := hc q hqn
          simp only [st_at]
          simp
          exact this
        have u20 : I7 58 20 = iN (tl R vs i 7) := by rw [← hI7, e6, ← hI5]; simp [st_at]; exact g20
        have u21 : I7 58 21 = iN (tl R vs i 10 + pz) := by rw [← hI7, e6, ← hI5]; simp [st_at, g21, iN_add]
        have u22 : I7 58 22 = iN i := by rw [← hI7, e6, ← hI5]; simp [st_at]; exact g22
        have u23 : I7 58 23 = iN (tl R vs i 12) := by rw [← hI7, e6, ← hI5]; simp [st_at]; exact g23
        clear hI7 hI5 e6 f5 f6 r5 g71 g672 g670
        refine s_sayAt r7 (by omega) (s_kindAt r7 (by omega) ?_)
        -- from pc 272 on
        have p272 : ∀ w : Int, w = wrT (vs i 0) (vs i 2) → GV G Y_X8_says 272 [(0, .ref 58), (2, .int (iN (R 4))), (3, .int (iN (R 3))), (4, .int (iN (tl R vs i 7))), (5, .int (iN (tl R vs i 13 + pz))), (6, .int (iN (tl R vs i 9 + mk))), (7, .int (iN (R 1 - tl R vs i 11))), (8, .int x8), (10, .int (iN i)), (12, .int (iN w))] I7 Q := by
          intro w hww
          rw [← hww] at eT hw
          have hcgI : cgT R (tl R vs i) w = true ↔ (0 < tl R vs i 11 ∧ R 1 < tl R vs i 11 + w) := by simp [cgT]
          have hokI : okT R (tl R vs i) w = true ↔ (cgT R (tl R vs i) w = false ∨ tl R vs i 12 < R 3) := by simp [okT]
          generalize cgT R (tl R vs i) w = cg at *
          generalize okT R (tl R vs i) w = ok at *
          -- it is written
          have wrt : ok = true → ∀ x13 : Int32, (x13 = 0 ↔ cg = false) → GV G Y_X8_says 311 [(0, .ref 58), (2, .int (iN (R 4))), (3, .int (iN (R 3))), (4, .int (iN (tl R vs i 7))), (5, .int (iN (tl R vs i 13 + pz))), (6, .int (iN (tl R vs i 9 + mk))), (7, .int (iN (R 1 - tl R vs i 11))), (8, .int x8), (9, .int (1 : Int32)), (10, .int (iN i)), (12, .int (iN w)), (13, .int x13)] I7 Q := by
            intro hok x13 hx13
            rw [hok] at eT
            have f67 : I7 67 = I 67 := f7.1 67 (by decide) (by decide)
            have e7 : tl R vs (i + 1) 7 = tl R vs i 7 + pz + vs i 2 + kn + (if cg = true then R 2 else 0) + w := by rw [eT, hpzE]; rfl
            have e9 : tl R vs (i + 1) 9 = tl R vs i 9 + mk := by rw [eT]; rfl
            have e10 : tl R vs (i + 1) 10 = tl R vs i 10 + pz := by rw [eT, hpzE]; rfl
            have e11 : tl R vs (i + 1) 11 = (if cg = true then w else tl R vs i 11 + w) := by rw [eT]; rfl
            have e12 : tl R vs (i + 1) 12 = (if cg = true then tl R vs i 12 + 1 else tl R vs i 12) := by rw [eT]; cases cg <;> rfl
            have e13 : tl R vs (i + 1) 13 = tl R vs i 13 + pz + (if vs i 0 = 2 then vs i 2 else 0) + kn + ((if cg = true then R 2 else 0) + w) := by rw [eT, hpzE]; rfl
            have e4 : tl R vs (i + 1) 4 = tl R vs i 7 + pz := by rw [eT, hpzE]; rfl
            have e5 : tl R vs (i + 1) 5 = tl R vs i 7 + pz + vs i 2 := by rw [eT, hpzE]; rfl
            have e6 : tl R vs (i + 1) 6 = tl R vs i 7 + pz + vs i 2 + kn := by rw [eT, hpzE]; rfl
            have e8 : tl R vs (i + 1) 8 = pz := by rw [eT, hpzE]; rfl
            clear eT
            -- from pc 335 on
            have p335 : GV G Y_X8_says 335 [(0, .ref 58), (2, .int (iN (R 4))), (3, .int (iN (R 3))), (5, .int (iN (tl R vs i 13 + pz))), (6, .int (iN (tl R vs i 9 + mk))), (7, .int (iN (R 1 - tl R vs i 11))), (9, .int (1 : Int32)), (10, .int (iN i)), (12, .int (iN w)), (13, .int x13)] (st I7 58 23 (iN (tl R vs (i + 1) 12))) Q := by
              have p356 : GV G Y_X8_says 356 [(0, .ref 58), (2, .int (iN (R 4))), (3, .int (iN (R 3))), (5, .int (iN (tl R vs i 13 + pz))), (6, .int (iN (tl R vs i 9 + mk))), (7, .int (iN (R 1 - tl R vs (i + 1) 11))), (9, .int (1 : Int32)), (10, .int (iN i)), (12, .int (iN w)), (13, .int x13)] (st I7 58 23 (iN (tl R vs (i + 1) 12))) Q := by
                have p392 : GV G Y_X8_says 392 [(0, .ref 58), (2, .int (iN (R 4))), (3, .int (iN (R 3))), (5, .int (iN (tl R vs i 13 + pz))), (6, .int (iN (tl R vs i 9 + mk))), (7, .int (iN (R 1 - tl R vs (i + 1) 11))), (8, .int (1 : Int32)), (9, .int (1 : Int32)), (10, .int (iN i))] (st (st I7 58 23 (iN (tl R vs (i + 1) 12))) 74 i (iN (tl R vs (i + 1) 7))) Q := by
                  generalize hI8 : st (st I7 58 23 (iN (tl R vs (i + 1) 12))) 74 i (iN (tl R vs (i + 1) 7)) = I8
                  have f8 : frm [69, 70, 71, 72, 73, 74, 75] [20, 21, 22, 23] I I8 := by rw [← hI8]; exact frm_st (frm_s8 f7 (by decide)) (by decide) (by decide)
                  have r8 : rowOK I8 vs n := rowOK_fr hr (f8.2 11 (by decide)) (f8.1 68 (by decide) (by decide)) (f8.1 66 (by decide) (by decide))
                  have w74 : I8 74 i = iN (tl R vs (i + 1) 7) := by rw [← hI8, st_self]
                  have w71 : I8 71 i = iN (tl R vs i 7 + pz) := by rw [← hI8, st_ne1 (by decide), st_ne1 (by decide)]; exact u71
                  have p433 : GV G Y_X8_says 433 [(0, .ref 58), (2, .int (iN (R 4))), (3, .int (iN (R 3))), (5, .int (iN (tl R vs (i + 1) 13))), (6, .int (iN (tl R vs i 9 + mk))), (7, .int (iN (R 1 - tl R vs (i + 1) 11))), (8, .int (1 : Int32)), (9, .int (1 : Int32)), (10, .int (iN i))] I8 Q := by
                    refine v_X8_says_433 ⟨vpi, v_X8_says_458 ?_⟩
                    rw [nni, w74, l1, iN_add, ← e9]
                    refine ih (i + 1) (by omega) (by omega) _ _ ?_ (frm_s8 (frm_s8 f8 (by decide)) (by decide)) ?_ ?_ ?_ ?_ ?_ ?_ ?_
                    · constructor
                      · intro c; exact absurd c (by decide)
                      · intro c
                        rw [e11] at c
                        split at c <;> omega
                    · intro q hqn
                      rw [← hI8]
                      have := uc q hqn
                      simp only [st_at]
                      simp
                      exact this
                    · intro q hqi
                      by_cases e : q = i
                      · subst e
                        refine five ?_ ?_ ?_ ?_ ?_
                        · rw [st_ne1 (by decide), st_ne1 (by decide), e4]; exact w71
                        · rw [st_ne1 (by decide), st_ne1 (by decide), ← hI8, st_ne1 (by decide), st_ne1 (by decide), e5]; exact u72
                        · rw [st_ne1 (by decide), st_ne1 (by decide), ← hI8, st_ne1 (by decide), st_ne1 (by decide), e6]; exact u73
                        · rw [st_ne1 (by decide), st_ne1 (by decide)]; exact w74
                        · rw [st_ne1 (by decide), st_ne1 (by decide), ← hI8, st_ne1 (by decide), st_ne1 (by decide), e8]; exact u75
                      · have h1 := uo q e
                        have h2 := hq q (by omega)
                        rw [← hI8]
                        refine five ?_ ?_ ?_ ?_ ?_
                        · simp [st_at, e]; exact (h1 4 (by decide) (by decide)).trans (h2 4 (by decide) (by decide))
                        · simp [st_at, e]; exact (h1 5 (by decide) (by decide)).trans (h2 5 (by decide) (by decide))
                        · simp [st_at, e]; exact (h1 6 (by decide) (by decide)).trans (h2 6 (by decide) (by decide))
                        · simp [st_at, e]; exact (h1 7 (by decide) (by decide)).trans (h2 7 (by decide) (by decide))
                        · simp [st_at, e]; exact (h1 8 (by decide) (by decide)).trans (h2 8 (by decide) (by decide))
                    · intro q hqi hqn
                      have h1 := uo q (by omega)
                      have h2 := hq2 q (by omega) hqn
                      have e : q ≠ i := by omega
                      rw [← hI8]
                      refine five ?_ ?_ ?_ ?_ ?_
                      · simp [st_at, e]; exact (h1 4 (by decide) (by decide)).trans (h2 4 (by decide) (by decide))
                      · simp [st_at, e]; exact (h1 5 (by decide) (by decide)).trans (h2 5 (by decide) (by decide))
                      · simp [st_at, e]; exact (h1 6 (by decide) (by decide)).trans (h2 6 (by decide) (by decide))
                      · simp [st_at, e]; exact (h1 7 (by decide) (by decide)).trans (h2 7 (by decide) (by decide))
                      · simp [st_at, e]; exact (h1 8 (by decide) (by decide)).trans (h2 8 (by decide) (by decide))
                    · simp [st_at]
                    · rw [← hI8]; simp [st_at]; rw [u21, e10]
                    · rw [← hI8]; simp [st_at]; rw [u22, iN_add]
                    · rw [← hI8]; simp [st_at]
                  refine v_X8_says_392 ⟨vpi, s_kindAt r8 (by omega) ?_⟩
                  rw [nni, w74, w71, l2, l0, iN_eq (by omega) (by omega), iN_sub]
                  refine ⟨fun c => s_sayAt r8 (by omega) (fun z7 ez => ?_), fun c z8 ez => ?_⟩
                  · rw [iN_sub, iN_add] at ez
                    rw [show z7 = iN (tl R vs (i + 1) 13) by rw [ez, e13, e7, if_neg c]; congr 1; omega]
                    exact p433
                  · rw [iN_sub, iN_add] at ez
                    rw [show z8 = iN (tl R vs (i + 1) 13) by rw [ez, e13, e7, if_pos c]; congr 1; omega]
                    exact p433
                refine v_X8_says_356 ⟨vpi, ?_⟩
                rw [nni, st_ne1 (by decide), u73, st_ne1 (by decide), f67, h672, hx13, l0, iN_add, iN_add, iN_add, iN_add]
                refine ⟨fun c => ?_, fun c => ?_⟩
                · rw [e7, c] at p392
                  exact p392
                · have c' : cg = true := by simpa using c
                  rw [e7, c'] at p392
                  exact p392
              refine v_X8_says_335 ?_
              rw [hx13, st_ne1 (by decide), f67, h671, iN_sub, iN_sub]
              refine ⟨fun c => ?_, fun c => ?_⟩
              · rw [e11, c] at p356
                rw [show R 1 - tl R vs i 11 - w = R 1 - (tl R vs i 11 + w) by omega]
                exact p356
              · have c' : cg = true := by simpa using c
                rw [e11, c'] at p356
                exact p356
            refine v_X8_says_311 ⟨fun c => absurd c (by decide), fun _ => ?_⟩
            rw [hx13, u23, l0, l1, iN_add, iN_add]
            refine ⟨fun c => ?_, fun c => ?_⟩
            · rw [e12, c] at p335
              rw [Int.add_zero]
              exact p335
            · have c' : cg = true := by simpa using c
              rw [e12, c'] at p335
              exact p335
          -- it is not written
          have unw : ok = false → ∀ x13 : Int32, GV G Y_X8_says 311 [(0, .ref 58), (2, .int (iN (R 4))), (3, .int (iN (R 3))), (4, .int (iN (tl R vs i 7))), (5, .int (iN (tl R vs i 13 + pz))), (6, .int (iN (tl R vs i 9 + mk))), (7, .int (iN (R 1 - tl R vs i 11))), (8, .int x8), (9, .int (0 : Int32)), (10, .int (iN i)), (12, .int (iN w)), (13, .int x13)] I7 Q := by
            intro hok x13
            rw [hok] at eT
            subst hpzE
            refine v_X8_says_311 ⟨fun _ => ?_, fun c => absurd rfl c⟩
            refine stop (by rw [eT]; rfl) I7 _ _ _ _ _ f7 uc (fun q hqi => ?_) (fun q hqi hqn => ?_) u20 (by rw [eT]; exact u21) u22 (by rw [eT]; exact u23)
            · by_cases e : q = i
              · subst e
                rw [eT]
                exact five u71 u72 u73 u74 u75
              · intro j h4 h8
                rw [uo q e j h4 h8]; exact hq q (by omega) j h4 h8
            · intro j h4 h8
              rw [uo q (by omega) j h4 h8]; exact hq2 q (by omega) hqn j h4 h8
          refine v_X8_says_272 ?_
          rw [hx8, iN_le (by omega) (by omega)]
          have g291n : cg = false → GV G Y_X8_says 291 [(0, .ref 58), (2, .int (iN (R 4))), (3, .int (iN (R 3))), (4, .int (iN (tl R vs i 7))), (5, .int (iN (tl R vs i 13 + pz))), (6, .int (iN (tl R vs i 9 + mk))), (7, .int (iN (R 1 - tl R vs i 11))), (8, .int x8), (10, .int (iN i)), (12, .int (iN w)), (13, .int (0 : Int32))] I7 Q := by
            intro hcg
            refine v_X8_says_291 ⟨fun _ => wrt (hokI.mpr (Or.inl hcg)) _ ⟨fun _ => hcg, fun _ => rfl⟩, fun c => absurd rfl c⟩
          have g291y : cg = true → GV G Y_X8_says 291 [(0, .ref 58), (2, .int (iN (R 4))), (3, .int (iN (R 3))), (4, .int (iN (tl R vs i 7))), (5, .int (iN (tl R vs i 13 + pz))), (6, .int (iN (tl R vs i 9 + mk))), (7, .int (iN (R 1 - tl R vs i 11))), (8, .int x8), (10, .int (iN i)), (12, .int (iN w)), (13, .int (1 : Int32))] I7 Q := by
            intro hcg
            refine v_X8_says_291 ⟨fun c => absurd c (by decide), fun _ => ?_⟩
            rw [u23, iN_le (by omega) (by omega)]
            refine ⟨fun c => unw ?_ _, fun c => wrt (hokI.mpr (Or.inr (by omega))) _ ⟨fun q => absurd q (by decide), fun q => by rw [q] at hcg; cases hcg⟩⟩
            cases ok with
            | false => rfl
            | true => exact absurd (hokI.mp rfl) (by rw [hcg]; simp; omega)
          have ncg : ¬ (0 < tl R vs i 11 ∧ R 1 < tl R vs i 11 + w) → cg = false := by
            intro hn
            cases cg with
            | false => rfl
            | true => exact absurd (hcgI.mp rfl) hn
          refine ⟨fun c => g291n (ncg (by omega)), fun c => ⟨fun c2 => g291n (ncg (by omega)), fun c2 => g291y (hcgI.mpr (by omega))⟩⟩
        rw [l3, l2, l0, iN_eq (by omega) (by omega), iN_add, iN_add, iN_add]
        refine ⟨fun c => p272 _ (by unfold wrT; rw [if_neg c]; omega), fun c => p272 _ (by unfold wrT; rw [if_pos c])⟩
      refine ⟨fun c => ?_, fun c => ⟨fun c2 => ?_, fun c2 => ?_⟩⟩
      · exact said (decide_eq_true ⟨h7, Or.inr c⟩)
      · refine v_X8_says_161 ⟨fun _ => ?_, fun c => absurd rfl c⟩
        have hbg : bgT R (tl R vs i) (tl R vs i 9 + mk) = false := decide_eq_false (by omega)
        rw [hbg] at eT
        refine stop (by rw [eT]; rfl) I4 _ _ _ _ _ hf hc (fun q hqi => ?_) (fun q hqi hqn => hq2 q (by omega) hqn) g20 (by rw [eT]; exact g21) g22 (by rw [eT]; exact g23)
        by_cases e : q = i
        · subst e
          have := hq2 q (Nat.le_refl _) (by omega)
          rw [eT]
          exact five (this 4 (by decide) (by decide)) (this 5 (by decide) (by decide)) (this 6 (by decide) (by decide)) (this 7 (by decide) (by decide)) (this 8 (by decide) (by decide))
        · exact hq q (by omega)
      · exact said (decide_eq_true ⟨h7, Or.inl (by omega)⟩)
  have e0 : ∀ j, tl R vs 0 j = stT (R 0) j := fun _ => rfl
  have := loop n 0 (by omega) (show (0 : Int) ≠ -1 by decide) I3 0 ⟨fun _ => rfl, fun _ => rfl⟩ hf3 hc3 (fun q hq => by omega) (fun q _ hq => hq3 q hq) h20 h21 h22 h23
  rw [show tl R vs 0 13 = R 0 from rfl, show tl R vs 0 7 = 0 from rfl, show tl R vs 0 9 = 0 from rfl, show tl R vs 0 11 = 0 from rfl, Int.sub_zero] at this
  exact this
end Says
