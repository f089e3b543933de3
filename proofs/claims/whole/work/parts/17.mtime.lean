/-! ===== the reference's breaths ===== -/
section MTime
variable {G : CX} {I : HP} {R : Nat → Int} {vs : Nat → Nat → Int} {n : Nat}
theorem tl_bd (hR : okR R) (hv : okVs vs n) (hn : n ≤ 14) {p : Nat} (hp : p < n) : ∀ j, 4 ≤ j → j ≤ 8 → -1 ≤ tl R vs (p + 1) j ∧ tl R vs (p + 1) j ≤ 10000 := by
  have hb := bd_tl hR hv p (by omega) (by omega)
  have hb2 := bd_tl hR hv (p + 1) (by omega) (by omega)
  obtain ⟨b9, b10, b11, b12, b13, b7⟩ := hb
  obtain ⟨c9, c10, c11, c12, c13, c7⟩ := hb2
  have s0 := (hv p hp).2.2.1
  have hk := kn_bd (R := R) hv hp
  by_cases h4 : tl R vs (p + 1) 4 = -1
  · have := tl_nb b13.1 b7.1 h4
    exact five (by omega) (by omega) (by omega) (by omega) (by omega)
  · obtain ⟨g7, g4, g5, g6, g8, g14⟩ := tl_bg h4
    have hpz := pzT_bd (tl R vs (p + 1) 9) (tl R vs p 13)
    exact five (by omega) (by omega) (by omega) (by omega) (by omega)
theorem bsy_s (b : Int) (p : Nat) : bsy R vs b (p + 1) = (bsy R vs b p || (sdB R vs b p && decide (vs p 0 ≠ 2))) := rfl
set_option maxHeartbeats 1000000 in
theorem s_isFree {Q : HP → Bool → Prop} {b : Int} (hr : rowOK I vs n) (hs : sOK I R vs n) (hR : okR R) (hv : okVs vs n) (hb : 0 ≤ b ∧ b ≤ 100000) (h : Q I (!bsy R vs b n)) : RZ G Y_X8_isFree [.ref 58, .int (iN b)] I Q := by
  have hn := hr.2.1
  refine v_X8_isFree ?_
  have loop : ∀ m p : Nat, p + m = n → GZ G Y_X8_isFree 4 [(0, .ref 58), (1, .int (iN b)), (2, .int (bI (!bsy R vs b p))), (3, .int (iN p))] I Q := by
    intro m
    induction m with
    | zero =>
      intro p hp
      refine v_X8_isFree_4 ⟨fun _ => ⟨_, rfl, by rw [show p = n by omega]; exact h⟩, fun c => absurd (by rw [hr.1, iN_le (by omega) (by omega)]; omega) c⟩
    | succ m ih =>
      intro p hp
      have ih := ih (p + 1) (by omega)
      have hk0 := (hv p (by omega)).1
      have b4 := tl_bd hR hv hn (show p < n by omega) 4 (by decide) (by decide)
      have b5 := tl_bd hR hv hn (show p < n by omega) 5 (by decide) (by decide)
      refine v_X8_isFree_4 ⟨fun c => absurd c (by rw [hr.1, iN_le (by omega) (by omega)]; omega), fun _ => ⟨(vp_iN (by omega)).mpr ⟨by omega, by omega⟩, ?_⟩⟩
      have nnp : nn (iN (p : Int)) = p := nn_nat (by omega)
      have e71 : I 71 p = iN (tl R vs (p + 1) 4) := hs.2.1 p (by omega) 4 (by decide) (by decide)
      have e72 : I 72 p = iN (tl R vs (p + 1) 5) := hs.2.1 p (by omega) 5 (by decide) (by decide)
      rw [nnp, e71, e72, show (-1 : Int32) = iN (-1) from rfl, l1, l0, iN_add, iN_eq (by omega) (by omega), iN_lt (by omega) (by omega), iN_le (by omega) (by omega)]
      rw [bsy_s] at ih
      have nosay : sdB R vs b p = false → (((bI (!bsy R vs b p)) = iN 0 → (GZ G Y_X8_isFree 4 [(0, .ref 58), (1, .int (iN b)), (2, .int (iN 0)), (3, .int (iN ((p : Int) + 1)))] I Q)) ∧ ((¬ (bI (!bsy R vs b p)) = iN 0) → (GZ G Y_X8_isFree 4 [(0, .ref 58), (1, .int (iN b)), (2, .int (iN 1)), (3, .int (iN ((p : Int) + 1)))] I Q))) := by
        intro hsd
        rw [hsd] at ih
        simp only [Bool.false_and, Bool.or_false] at ih
        cases hby : bsy R vs b p with
        | false =>
          rw [hby] at ih
          exact ⟨fun c => absurd c (by decide), fun _ => ih⟩
        | true =>
          rw [hby] at ih
          exact ⟨fun _ => ih, fun c => absurd rfl c⟩
      refine ⟨fun c => nosay (decide_eq_false (by omega)), fun c => ⟨fun c2 => nosay (decide_eq_false (by omega)), fun c2 => ⟨fun c3 => nosay (decide_eq_false (by omega)), fun c3 => ?_⟩⟩⟩
      have hsd : sdB R vs b p = true := decide_eq_true (by omega)
      rw [hsd] at ih
      cases hby : bsy R vs b p with
      | true =>
        rw [hby] at ih
        exact ⟨fun _ => ih, fun c => absurd rfl c⟩
      | false =>
        rw [hby] at ih
        refine ⟨fun c => absurd c (by decide), fun _ => s_kindAt hr (by omega) ?_⟩
        rw [l2, iN_eq (by omega) (by omega)]
        refine ⟨fun c4 => ?_, fun c4 => ?_⟩
        · simp [c4] at ih; exact ih
        · simp [c4] at ih; exact ih
  exact loop n 0 (by omega)
theorem s_freeAhead {Q : HP → Int32 → Prop} {b : Nat} {ld : Int} (hr : rowOK I vs n) (hs : sOK I R vs n) (hR : okR R) (hv : okVs vs n) (hb : b ≤ 100000) (h : Q I (iN (ld + b - sS R vs b n))) : RI G Y_X8_freeAhead [.ref 58, .int (iN ld), .int (iN b)] I Q := by
  have hn := hr.2.1
  refine v_X8_freeAhead ?_
  have loop : ∀ m c : Nat, c + m = b → GI G Y_X8_freeAhead 5 [(0, .ref 58), (2, .int (iN b)), (3, .int (iN (ld + c - sS R vs c n))), (4, .int (iN c))] I Q := by
    intro m
    induction m with
    | zero =>
      intro c hc
      refine v_X8_freeAhead_5 ⟨fun _ => by rw [show c = b by omega]; exact h, fun q => absurd (by rw [iN_le (by omega) (by omega)]; omega) q⟩
    | succ m ih =>
      intro c hc
      have ih := ih (c + 1) (by omega)
      refine v_X8_freeAhead_5 ⟨fun q => absurd q (by rw [iN_le (by omega) (by omega)]; omega), fun _ => s_isFree hr hs hR hv (by omega) ?_⟩
      have hst := sS_step hR hv hn (c : Int) (by omega) n (Nat.le_refl _)
      rw [bI_0, l0, l1, iN_add, iN_add, iN_add]
      rw [show ((c + 1 : Nat) : Int) = (c : Int) + 1 by omega, hst] at ih
      cases hby : bsy R vs c n with
      | false =>
        rw [hby] at ih
        refine ⟨fun q => absurd q (by decide), fun _ => ?_⟩
        rw [show ld + ((c : Int) + 1) - (sS R vs c n + (if false = true then 1 else 0)) = ld + c - sS R vs c n + 1 by simp; omega] at ih
        exact ih
      | true =>
        rw [hby] at ih
        refine ⟨fun _ => ?_, fun q => absurd rfl q⟩
        rw [show ld + ((c : Int) + 1) - (sS R vs c n + (if true = true then 1 else 0)) = ld + c - sS R vs c n + 0 by simp; omega] at ih
        exact ih
  have := loop b 0 (by omega)
  rw [show ((0 : Nat) : Int) = 0 from rfl, sS_0 hR hv hn n (Nat.le_refl _)] at this
  rw [show ld + 0 - 0 = ld by omega] at this
  exact this
theorem s_restOf {Q : HP → Int32 → Prop} {v : Nat} (hr : rowOK I vs n) (hs : sOK I R vs n) (hR : okR R) (hv : okVs vs n) (h0 : I 67 0 = iN (R 0)) (hvn : v < n) (h : Q I (iN (if tl R vs (v + 1) 4 = -1 then -3 else tl R vs (v + 1) 14))) : RI G Y_X8_restOf [.ref 58, .int (iN v)] I Q := by
  have hn := hr.2.1
  have b4 := tl_bd hR hv hn hvn 4 (by decide) (by decide)
  have nnv : nn (iN (v : Int)) = v := nn_nat (by omega)
  have e71 : I 71 v = iN (tl R vs (v + 1) 4) := hs.2.1 v hvn 4 (by decide) (by decide)
  refine v_X8_restOf ⟨(vp_iN (by omega)).mpr ⟨by omega, by omega⟩, ?_⟩
  rw [nnv, e71, show (-1 : Int32) = iN (-1) from rfl, iN_eq (by omega) (by omega), h0]
  refine ⟨fun c => ?_, fun c => by rw [if_pos c] at h; exact h⟩
  rw [if_neg c] at h
  obtain ⟨o1, o2, o3⟩ := bg_ord hR hv hn hvn c
  have hat := sS_at hR hv hn hvn c
  have ez : tl R vs (v + 1) 4 = ((tl R vs (v + 1) 4).toNat : Int) := by omega
  rw [ez]
  refine s_freeAhead hr hs hR hv (by omega) ?_
  rw [← ez, hat]
  have loop : ∀ m p : Nat, p + m = v + 1 → GI G Y_X8_restOf 32 [(0, .ref 58), (1, .int (iN v)), (2, .int (iN (R 0 + tl R vs (v + 1) 4 - nS vs v - tl R vs p 9))), (3, .int (iN p))] I Q := by
    intro m
    induction m with
    | zero =>
      intro p hp
      refine v_X8_restOf_32 ⟨fun _ => ?_, fun q => absurd (by rw [iN_lt (by omega) (by omega)]; omega) q⟩
      rw [show p = v + 1 by omega, ← o3]
      exact h
    | succ m ih =>
      intro p hp
      have ih := ih (p + 1) (by omega)
      refine v_X8_restOf_32 ⟨fun q => absurd q (by rw [iN_lt (by omega) (by omega)]; omega), fun _ => ⟨(vp_iN (by omega)).mpr ⟨by omega, by omega⟩, ?_⟩⟩
      rw [show nn (iN (p : Int)) = p from nn_nat (by omega), (hs.1 p (by omega)).1, iN_sub, l1, iN_add]
      have e9 : tl R vs (p + 1) 9 = tl R vs p 9 + mkC (vs p 0) (vs p 1) (cntK vs (vs p 0) p) := rfl
      rw [e9, show ∀ a b c : Int, a - (b + c) = a - b - c from fun a b c => by omega] at ih
      exact ih
  have := loop (v + 1) 0 (by omega)
  rw [show tl R vs 0 9 = 0 from rfl, Int.sub_zero] at this
  exact this
theorem s_makesIn {Q : HP → Int32 → Prop} {b : Nat} (hr : rowOK I vs n) (hs : sOK I R vs n) (hR : okR R) (hv : okVs vs n) (hb : b ≤ 10000) (h : Q I (iN (mdI R vs n b))) : RI G Y_X8_makesIn [.ref 58, .int (iN (R 0)), .int (iN b)] I Q := by
  have hn := hr.2.1
  unfold mdI at h
  refine v_X8_makesIn (s_isFree hr hs hR hv (by omega) ?_)
  rw [bI_0]
  cases hby : bsy R vs b n with
  | true =>
    rw [hby] at h
    exact ⟨fun c => absurd rfl c, fun _ => h⟩
  | false =>
    rw [hby] at h
    refine ⟨fun _ => s_freeAhead hr hs hR hv (by omega) ?_, fun c => absurd c (by decide)⟩
    have hsb := sS_bd hR hv hn (b : Int) (by omega) n (Nat.le_refl _)
    have r0 := hR.1
    simp only [Bool.false_eq_true, if_false] at h
    generalize hmd : R 0 + (b : Int) - sS R vs b n = md at h ⊢
    have loop : ∀ m p : Nat, p + m = n → Q I (iN (fnd (fun p => decide (md < tl R vs (p + 1) 9)) m p)) → GI G Y_X8_makesIn 20 [(0, .ref 58), (3, .int (iN (md - tl R vs p 9))), (4, .int (iN p))] I Q := by
      intro m
      induction m with
      | zero =>
        intro p hp hq
        exact v_X8_makesIn_20 ⟨fun _ => hq, fun q => absurd (by rw [hr.1, iN_le (by omega) (by omega)]; omega) q⟩
      | succ m ih =>
        intro p hp hq
        refine v_X8_makesIn_20 ⟨fun q => absurd q (by rw [hr.1, iN_le (by omega) (by omega)]; omega), fun _ => ⟨(vp_iN (by omega)).mpr ⟨by omega, by omega⟩, ?_⟩⟩
        have e9 : tl R vs (p + 1) 9 = tl R vs p 9 + mkC (vs p 0) (vs p 1) (cntK vs (vs p 0) p) := rfl
        have hb9 := (bd_tl hR hv p (by omega) (by omega)).1
        have hb9' := (bd_tl hR hv (p + 1) (by omega) (by omega)).1
        rw [show nn (iN (p : Int)) = p from nn_nat (by omega), (hs.1 p (by omega)).1, iN_sub, l0, l1, iN_add, show md - tl R vs p 9 - mkC (vs p 0) (vs p 1) (cntK vs (vs p 0) p) = md - tl R vs (p + 1) 9 by omega]
        rw [fnd_s] at hq
        first
          | rw [iN_le (by omega) (by omega)]
          | rw [iN_lt (by omega) (by omega)]
        refine ⟨fun c => ?_, fun c => ?_⟩
        · rw [if_neg (by simp; omega)] at hq
          exact ih (p + 1) (by omega) hq
        · rw [if_pos (by simp; omega)] at hq
          exact hq
    have := loop n 0 (by omega) h
    rw [show tl R vs 0 9 = 0 from rfl, Int.sub_zero] at this
    exact this
end MTime
