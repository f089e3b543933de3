/-! ===== the class seeks the hard ones to put ===== -/
section XPut2
variable {G : CX} {I : HP} {σ : SG}
/-- while it is sought: the heap, the best so far -/
def PS (σ : SG) (I I1 : HP) (s : Nat → Int) : Prop := (∀ a, a < 22 ∨ 40 ≤ a → a ≠ 41 → I1 a = I a) ∧ RX I1 σ ∧ (∀ j, j < 6 → I1 41 j = iN (s j)) ∧ bOK s
theorem PS_att {Q : HP → Prop} {I1 : HP} {s : Nat → Int} {k p a q b : Int} (h0 : okS0 σ) (h9 : I 0 9 = 0) (hP : PS σ I I1 s) (hk : 0 ≤ k ∧ k ≤ 2) (hp : okP σ p a) (hq : okP σ q b) (h : ∀ I2, PS σ I I2 (att (sR σ) (sF σ 0) (z0 σ) (sF σ 1) s k p a q b) → Q I2) : RV G Y_X1_attempt [.ref 40, .int (iN k), .int (iN p), .int (iN a), .int (iN q), .int (iN b)] I1 Q := by
  obtain ⟨f1, hX1, hB, hb⟩ := hP
  refine s_attempt h0 hX1 (by rw [f1 0 (by decide) (by decide)]; exact h9) hp hq hb hB (fun I2 f2 hX2 hB2 => h I2 ⟨fun a h1 h2 => (f2 a h1 h2).trans (f1 a h1 h2), hX2, hB2, att_ok h0 hp hq hk hb⟩)
theorem s_seekOne {Q : HP → Prop} {I1 : HP} {s : Nat → Int} (h0 : okS0 σ) (h9 : I 0 9 = 0) (hP : PS σ I I1 s) (h : ∀ I2, PS σ I I2 (putOne (sR σ) (sF σ 0) (z0 σ) (sF σ 1) (z1 σ) s) → Q I2) : RV G Y_X1_seekOne [.ref 40] I1 Q := by
  have hz := z0_le h0
  have hz1 := z1_le h0
  have e23 : ∀ I1 s, PS σ I I1 s → I1 2 3 = iN (z0 σ) := fun I1 s h => h.2.1.1.2.2.2.2
  have e43 : ∀ I1 s, PS σ I I1 s → I1 4 3 = iN (z1 σ) := fun I1 s h => h.2.1.2.1.2.2.2.2
  have hards : ∀ p : Nat, p ≤ z0 σ → ∀ m c : Nat, c + m = z1 σ → ∀ I1 s, PS σ I I1 s → (∀ I2, PS σ I I2 (fo (g1 σ p) m c s) → GV G Y_X1_seekOne 2 [(0, .ref 40), (1, .int (iN p + 1))] I2 Q) → GV G Y_X1_seekOne 15 [(0, .ref 40), (1, .int (iN p)), (2, .int (iN c))] I1 Q := by
    intro p hp m
    induction m with
    | zero =>
      intro c hc I1 s f1 k
      exact v_X1_seekOne_15 ⟨fun _ => k I1 f1, fun w => absurd (by rw [e43 I1 s f1, iN_le (by omega) (by omega)]; omega) w⟩
    | succ m ih =>
      intro c hc I1 s f1 k
      refine v_X1_seekOne_15 ⟨fun w => absurd w (by rw [e43 I1 s f1, iN_le (by omega) (by omega)]; omega), fun _ => ?_⟩
      refine PS_att (k := 1) (p := p) (a := c) (q := -1) (b := -1) h0 h9 f1 (by omega) (okP_s hp (by omega)) (okP_n σ) (fun I2 f2 => ?_)
      rw [show iN (c : Int) + (1 : Int32) = iN ((c + 1 : Nat) : Int) from iN_add c 1]
      exact ih (c + 1) (by omega) I2 _ f2 k
  have one : ∀ m p : Nat, p + m = z0 σ + 1 → ∀ I1 s, PS σ I I1 s → (∀ I2, PS σ I I2 (fo (fun s p => fo (g1 σ p) (z1 σ) 0 s) m p s) → Q I2) → GV G Y_X1_seekOne 2 [(0, .ref 40), (1, .int (iN p))] I1 Q := by
    intro m
    induction m with
    | zero =>
      intro p hp I1 s f1 k
      exact v_X1_seekOne_2 ⟨fun _ => k I1 f1, fun w => absurd (by rw [e23 I1 s f1, iN_lt (by omega) (by omega)]; omega) w⟩
    | succ m ih =>
      intro p hp I1 s f1 k
      refine v_X1_seekOne_2 ⟨fun w => absurd w (by rw [e23 I1 s f1, iN_lt (by omega) (by omega)]; omega), fun _ => ?_⟩
      refine hards p (by omega) (z1 σ) 0 (by omega) I1 s f1 (fun I2 f2 => ?_)
      rw [show iN (p : Int) + (1 : Int32) = iN ((p + 1 : Nat) : Int) from iN_add p 1]
      exact ih (p + 1) (by omega) I2 _ f2 k
  exact v_X1_seekOne (one (z0 σ + 1) 0 (by omega) I1 s hP h)
theorem s_seekTwo {Q : HP → Prop} {I1 : HP} {s : Nat → Int} (h0 : okS0 σ) (h9 : I 0 9 = 0) (hP : PS σ I I1 s) (h : ∀ I2, PS σ I I2 (putTwo (sR σ) (sF σ 0) (z0 σ) (sF σ 1) (z1 σ) s) → Q I2) : RV G Y_X1_seekTwo [.ref 40] I1 Q := by
  have hz := z0_le h0
  have hz1 := z1_le h0
  have hsq : z1 σ * z1 σ ≤ 4 * 4 := Nat.mul_le_mul hz1 hz1
  have e23 : ∀ I1 s, PS σ I I1 s → I1 2 3 = iN (z0 σ) := fun I1 s h => h.2.1.1.2.2.2.2
  have e43 : ∀ I1 s, PS σ I I1 s → I1 4 3 = iN (z1 σ) := fun I1 s h => h.2.1.2.1.2.2.2.2
  have codes : ∀ (p q : Nat), p ≤ z0 σ → q ≤ z0 σ → ∀ m c : Nat, c + m = z1 σ * z1 σ → ∀ I1 s, PS σ I I1 s → (∀ I2, PS σ I I2 (fo (g2 σ p q) m c s) → GV G Y_X1_seekTwo 31 [(0, .ref 40), (1, .int (iN (z1 σ * z1 σ : Nat))), (2, .int (iN p)), (3, .int (iN q + 1))] I2 Q) → GV G Y_X1_seekTwo 45 [(0, .ref 40), (1, .int (iN (z1 σ * z1 σ : Nat))), (2, .int (iN p)), (3, .int (iN q)), (4, .int (iN c))] I1 Q := by
    intro p q hp hq m
    induction m with
    | zero =>
      intro c hc I1 s f1 k
      exact v_X1_seekTwo_45 ⟨fun _ => k I1 f1, fun w => absurd (by rw [iN_le (by omega) (by omega)]; omega) w⟩
    | succ m ih =>
      intro c hc I1 s f1 k
      have hpos : 0 < z1 σ := by
        rcases Nat.eq_zero_or_pos (z1 σ) with e | e
        · rw [e] at hc; omega
        · exact e
      have hdiv : c / z1 σ < z1 σ := Nat.div_lt_of_lt_mul (by omega)
      have hmod : c % z1 σ < z1 σ := Nat.mod_lt _ hpos
      have ne0 : ¬ (I1 4 3) = 0 := by rw [e43 I1 s f1, l0, iN_eq (by omega) (by omega)]; omega
      refine v_X1_seekTwo_45 ⟨fun w => absurd w (by rw [iN_le (by omega) (by omega)]; omega), fun _ => ⟨fun w => absurd w (by rw [e43 I1 s f1, l0, iN_le (by omega) (by omega)]; omega), fun _ => ⟨ne0, ne0, ?_⟩⟩⟩
      rw [e43 I1 s f1, iN_rem c (z1 σ) (by omega) hpos (by omega), iN_div c (z1 σ) (by omega) hpos (by omega)]
      refine PS_att (k := 2) h0 h9 f1 (by omega) (okP_s hp hdiv) (okP_s hq hmod) (fun I2 f2 => ?_)
      rw [show iN (c : Int) + (1 : Int32) = iN ((c + 1 : Nat) : Int) from iN_add c 1]
      exact ih (c + 1) (by omega) I2 _ f2 k
  have seconds : ∀ p : Nat, p ≤ z0 σ → ∀ m q : Nat, q + m = z0 σ + 1 → ∀ I1 s, PS σ I I1 s → (∀ I2, PS σ I I2 (fo (fun s q => fo (g2 σ p q) (z1 σ * z1 σ) 0 s) m q s) → GV G Y_X1_seekTwo 18 [(0, .ref 40), (1, .int (iN (z1 σ * z1 σ : Nat))), (2, .int (iN p + 1))] I2 Q) → GV G Y_X1_seekTwo 31 [(0, .ref 40), (1, .int (iN (z1 σ * z1 σ : Nat))), (2, .int (iN p)), (3, .int (iN q))] I1 Q := by
    intro p hp m
    induction m with
    | zero =>
      intro q hq I1 s f1 k
      exact v_X1_seekTwo_31 ⟨fun _ => k I1 f1, fun w => absurd (by rw [e23 I1 s f1, iN_lt (by omega) (by omega)]; omega) w⟩
    | succ m ih =>
      intro q hq I1 s f1 k
      refine v_X1_seekTwo_31 ⟨fun w => absurd w (by rw [e23 I1 s f1, iN_lt (by omega) (by omega)]; omega), fun _ => ?_⟩
      refine codes p q hp (by omega) (z1 σ * z1 σ) 0 (by omega) I1 s f1 (fun I2 f2 => ?_)
      rw [show iN (q : Int) + (1 : Int32) = iN ((q + 1 : Nat) : Int) from iN_add q 1]
      exact ih (q + 1) (by omega) I2 _ f2 k
  have two : ∀ m p : Nat, p + m = z0 σ + 1 → ∀ I1 s, PS σ I I1 s → (∀ I2, PS σ I I2 (fo (fun s p => fo (fun s q => fo (g2 σ p q) (z1 σ * z1 σ) 0 s) (z0 σ + 1 - p) p s) m p s) → Q I2) → GV G Y_X1_seekTwo 18 [(0, .ref 40), (1, .int (iN (z1 σ * z1 σ : Nat))), (2, .int (iN p))] I1 Q := by
    intro m
    induction m with
    | zero =>
      intro p hp I1 s f1 k
      exact v_X1_seekTwo_18 ⟨fun _ => k I1 f1, fun w => absurd (by rw [e23 I1 s f1, iN_lt (by omega) (by omega)]; omega) w⟩
    | succ m ih =>
      intro p hp I1 s f1 k
      refine v_X1_seekTwo_18 ⟨fun w => absurd w (by rw [e23 I1 s f1, iN_lt (by omega) (by omega)]; omega), fun _ => ?_⟩
      refine seconds p (by omega) (z0 σ + 1 - p) p (by omega) I1 s f1 (fun I2 f2 => ?_)
      rw [show iN (p : Int) + (1 : Int32) = iN ((p + 1 : Nat) : Int) from iN_add p 1]
      exact ih (p + 1) (by omega) I2 _ f2 k
  refine v_X1_seekTwo ?_
  rw [e43 I1 s hP, iN_mul, ← Int.natCast_mul]
  exact two (z0 σ + 1) 0 (by omega) I1 s hP h
theorem s_seekP {Q : HP → Prop} (h0 : okS0 σ) (hX : RX I σ) (h9 : I 0 9 = 0) (h : ∀ I2, PS σ I I2 (putB (sR σ) (sF σ 0) (z0 σ) (sF σ 1) (z1 σ)) → Q I2) : RV G Y_X1_seek [.ref 40] I Q := by
  refine v_X1_seek ?_
  have e0 : put1 (sR σ) (sF σ 0) (z0 σ) (sF σ 1) (z1 σ) = if put0 (sR σ) (sF σ 0) (z0 σ) (sF σ 1) 0 = -1 then putOne (sR σ) (sF σ 0) (z0 σ) (sF σ 1) (z1 σ) (put0 (sR σ) (sF σ 0) (z0 σ) (sF σ 1)) else put0 (sR σ) (sF σ 0) (z0 σ) (sF σ 1) := rfl
  have e1 : putB (sR σ) (sF σ 0) (z0 σ) (sF σ 1) (z1 σ) = if put1 (sR σ) (sF σ 0) (z0 σ) (sF σ 1) (z1 σ) 0 = -1 then putTwo (sR σ) (sF σ 0) (z0 σ) (sF σ 1) (z1 σ) (put1 (sR σ) (sF σ 0) (z0 σ) (sF σ 1) (z1 σ)) else put1 (sR σ) (sF σ 0) (z0 σ) (sF σ 1) (z1 σ) := rfl
  have clear : ∀ m c : Nat, c + m = 6 → ∀ I1, (∀ a, a ≠ 41 → I1 a = I a) → (∀ k, k < c → I1 41 k = iN (-1)) → GV G Y_X1_seek 2 [(0, .ref 40), (1, .int (iN c))] I1 Q := by
    intro m
    induction m with
    | zero =>
      intro c hc I1 f1 b1
      have o1 : bOK (fun _ => -1) := fun _ => ⟨Int.le_refl _, (by decide : (-1 : Int) ≤ 100000)⟩
      have P1 : PS σ I I1 (fun _ => -1) := ⟨fun a _ h2 => f1 a h2, RX_fr2 hX (fun a _ h2 _ _ => f1 a h2) (fun c => absurd h9 c) (fun _ => ⟨f1 42 (by decide), f1 44 (by decide)⟩) (by unfold stZ; rw [f1 _ (by decide)]; exact hX.2.2.2.2.1), fun k hk => b1 k (by omega), o1⟩
      refine v_X1_seek_2 ⟨fun _ => ?_, fun w => absurd (by rw [l6, iN_le (by omega) (by omega)]; omega) w⟩
      refine PS_att (k := 0) (p := -1) (a := -1) (q := -1) (b := -1) h0 h9 P1 (by omega) (okP_n σ) (okP_n σ) (fun I2 P2 => ?_)
      have P2 : PS σ I I2 (put0 (sR σ) (sF σ 0) (z0 σ) (sF σ 1)) := P2
      have b2 := P2.2.2.2 0
      rw [P2.2.2.1 0 (by decide), show (-1 : Int32) = iN (-1) from rfl, iN_eq (by omega) (by omega)]
      refine ⟨fun c => ?_, fun c => ?_⟩
      · rw [if_neg c] at e0
        rw [e0, if_neg c] at e1
        exact h I2 (by rw [e1]; exact P2)
      · rw [if_pos c] at e0
        refine s_seekOne h0 h9 P2 (fun I3 P3 => ?_)
        rw [← e0] at P3
        have b3 := P3.2.2.2 0
        rw [P3.2.2.1 0 (by decide), iN_eq (by omega) (by omega)]
        refine ⟨fun c2 => ?_, fun c2 => ?_⟩
        · rw [if_neg c2] at e1
          exact h I3 (by rw [e1]; exact P3)
        · rw [if_pos c2] at e1
          exact s_seekTwo h0 h9 P3 (fun I4 P4 => h I4 (by rw [e1]; exact P4))
    | succ m ih =>
      intro c hc I1 f1 b1
      refine v_X1_seek_2 ⟨fun w => absurd w (by rw [l6, iN_le (by omega) (by omega)]; omega), fun _ => ⟨(vp_iN (by omega)).mpr ⟨by omega, by omega⟩, ?_⟩⟩
      rw [show nn (iN (c : Int)) = c from nn_nat (by omega), show iN (c : Int) + (1 : Int32) = iN ((c + 1 : Nat) : Int) from iN_add c 1]
      refine ih (c + 1) (by omega) _ (fun a ha => by rw [st_ne1 ha]; exact f1 a ha) (fun k hk => ?_)
      by_cases e : k = c
      · subst e; rw [st_self]; rfl
      · rw [st_ne2 e]; exact b1 k (by omega)
  exact clear 6 0 (by omega) I (fun _ _ => rfl) (fun k hk => absurd hk (Nat.not_lt_zero _))
/-- a finding is kept -/
theorem RX_9 (hX : RX I σ) (hB : ∀ j, j < 6 → I 41 j = iN (putB (sR σ) (sF σ 0) (z0 σ) (sF σ 1) (z1 σ) j)) : RX (st I 0 9 (1 : Int32)) σ := by
  have ne : ∀ a, a ≠ 0 → (st I 0 9 (1 : Int32)) a = I a := fun a ha => st_ne1 ha
  obtain ⟨h1, h2, h3, h4, h5, h6, h7, h8, h9, h10⟩ := hX
  refine ⟨isS_fr h1 (ne 2 (by decide)) (ne 3 (by decide)), isS_fr h2 (ne 4 (by decide)) (ne 5 (by decide)), ?_, ?_, ?_, ?_, ?_, ?_, ?_, ?_⟩
  · rw [ne 1 (by decide)]; exact h3
  · obtain ⟨q1, q2, q3, q4, q5⟩ := h4
    exact ⟨q1, by rw [ne 6 (by decide)]; exact q2, fun r hr => by rw [ne 7 (by decide)]; exact q3 r hr, fun j hj => by rw [ne 8 (by decide)]; exact q4 j hj, fun p hp => tM_fr (q5 p hp) (ne _ (by omega))⟩
  · rw [ne 24 (by decide)]; exact h5
  · rw [ne 41 (by decide)]; exact fun _ => hB
  · rw [st_ne2 (by decide), ne 42 (by decide), ne 44 (by decide)]; exact h7
  · rw [ne 46 (by decide), ne 47 (by decide), ne 48 (by decide)]; exact h8
  · intro s hs
    rw [ne (50 + 2 * s) (by omega), ne (51 + 2 * s) (by omega)]; exact h9 s hs
  · rw [st_ne2 (by decide)]; exact h10
theorem X_put {Q : HP → Int32 → Prop} {a : Int32} (h0 : okS0 σ) (hX : RX I σ) (h : XP I σ Q (an_put σ a)) : RI G Y_X7_put [.ref 0, .int a] I Q := by
  unfold an_put at h
  obtain ⟨z, hz, ea, ez⟩ := i32 a
  have ca : okA a 5 = decide (0 ≤ z ∧ z ≤ 5) := by unfold okA; rw [ez]
  rw [ca] at h
  refine v_X7_put ?_
  rw [show (a < 0) = (iN z < iN 0) by rw [ea]; rfl, show (a < 6) = (iN z < iN 6) by rw [ea]; rfl, iN_lt (by omega) (by omega), iN_lt (by omega) (by omega)]
  refine ⟨fun c => ?_, fun c => ⟨fun c2 => ?_, fun c2 => ?_⟩⟩
  · rw [decide_eq_false (by omega)] at h; exact h I (fun _ _ => rfl) hX
  · rw [decide_eq_true (by omega)] at h
    obtain ⟨t, et⟩ : ∃ t : Nat, z = t := ⟨z.toNat, by omega⟩
    have htn : tn a = t := by unfold tn; omega
    have h : XP I σ Q (iN (putB (sR σ) (sF σ 0) (z0 σ) (sF σ 1) (z1 σ) t)) := by rw [htn] at h; exact h
    have vp : vp_in a 6 := by rw [ea, et]; exact (vp_iN (by omega)).mpr ⟨by omega, by omega⟩
    rw [show nn a = t from htn]
    refine ⟨fun c3 => ⟨vp, ?_⟩, fun c3 => s_seekP h0 hX c3 (fun I2 P2 => ⟨vp, ?_⟩)⟩
    · rw [hX.2.2.2.2.2.1 c3 t (by omega)]; exact h I (fun _ _ => rfl) hX
    · obtain ⟨f2, hX2, hB2, -⟩ := P2
      rw [st_ne1 (by decide), hB2 t (by omega)]
      exact h _ (fun a ha => by rw [st_ne1 (by omega)]; exact f2 a (by omega) (by omega)) (RX_9 hX2 hB2)
  · rw [decide_eq_false (by omega)] at h; exact h I (fun _ _ => rfl) hX
end XPut2
