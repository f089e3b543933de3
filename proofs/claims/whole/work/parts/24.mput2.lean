/-! ===== the reference seeks the hard ones to put ===== -/
def an_put (σ : SG) (a : Int32) : Int32 := if okA a 5 then iN (putB (sR σ) (sF σ 0) (z0 σ) (sF σ 1) (z1 σ) (tn a)) else iN (-2)
section MPut2
variable {G : CX} {I : HP} {σ : SG}
theorem okP_n (σ : SG) : okP σ (-1) (-1) := Or.inl ⟨rfl, rfl⟩
theorem okP_s {p a : Nat} (h1 : p ≤ z0 σ) (h2 : a < z1 σ) : okP σ (p : Int) (a : Int) := Or.inr ⟨by omega, by omega⟩
abbrev g1 (σ : SG) (p : Nat) : (Nat → Int) → Nat → (Nat → Int) := fun s h => att (sR σ) (sF σ 0) (z0 σ) (sF σ 1) s 1 p h (-1) (-1)
abbrev g2 (σ : SG) (p q : Nat) : (Nat → Int) → Nat → (Nat → Int) := fun s c => att (sR σ) (sF σ 0) (z0 σ) (sF σ 1) s 2 p ((c / z1 σ : Nat) : Int) q ((c % z1 σ : Nat) : Int)
theorem s_findPut {Q : HP → Prop} (h0 : okS0 σ) (hM : RM I σ) (hG : mG I σ) (h : ∀ I', frm saC saS I I' → hB I' (putB (sR σ) (sF σ 0) (z0 σ) (sF σ 1) (z1 σ)) → Q I') : RV G Y_X8_findPut [.ref 58] I Q := by
  have hz := z0_le h0
  have hz1 := z1_le h0
  have e65 : ∀ I1, frm saC saS I I1 → I1 65 0 = iN (z0 σ) ∧ I1 65 1 = iN (z1 σ) := fun I1 f1 => ⟨(mG_sa hG f1).1, (mG_sa hG f1).2.1⟩
  -- all pairs at two places
  have codes : ∀ (p q : Nat), p ≤ z0 σ → q ≤ z0 σ → ∀ m c : Nat, c + m = z1 σ * z1 σ → ∀ I1 s, frm saC saS I I1 → hB I1 s → bOK s → (∀ I2, frm saC saS I I2 → hB I2 (fo (g2 σ p q) m c s) → bOK (fo (g2 σ p q) m c s) → GV G Y_X8_findPut 118 [(0, .ref 58), (1, .int (1 : Int32)), (2, .int (iN p)), (3, .int (iN q + 1))] I2 Q) → GV G Y_X8_findPut 131 [(0, .ref 58), (1, .int (1 : Int32)), (2, .int (iN p)), (3, .int (iN q)), (4, .int (iN c))] I1 Q := by
    intro p q hp hq m
    induction m with
    | zero =>
      intro c hc I1 s f1 b1 o1 k
      refine v_X8_findPut_131 ⟨fun _ => k I1 f1 b1 o1, fun w => absurd ?_ w⟩
      have : z1 σ * z1 σ ≤ 4 * 4 := Nat.mul_le_mul hz1 hz1
      rw [(e65 I1 f1).2, iN_mul, ← Int.natCast_mul, iN_le (by omega) (by omega)]
      omega
    | succ m ih =>
      intro c hc I1 s f1 b1 o1 k
      have hsq : z1 σ * z1 σ ≤ 4 * 4 := Nat.mul_le_mul hz1 hz1
      have hpos : 0 < z1 σ := by
        rcases Nat.eq_zero_or_pos (z1 σ) with e | e
        · rw [e] at hc; omega
        · exact e
      have hdiv : c / z1 σ < z1 σ := Nat.div_lt_of_lt_mul (by omega)
      have hmod : c % z1 σ < z1 σ := Nat.mod_lt _ hpos
      have ne0 : ¬ (I1 65 1) = 0 := by rw [(e65 I1 f1).2, l0, iN_eq (by omega) (by omega)]; omega
      refine v_X8_findPut_131 ⟨fun w => absurd w ?_, fun _ => ⟨ne0, ne0, ?_⟩⟩
      · rw [(e65 I1 f1).2, iN_mul, ← Int.natCast_mul, iN_le (by omega) (by omega)]
        omega
      rw [(e65 I1 f1).2, iN_rem c (z1 σ) (by omega) hpos (by omega), iN_div c (z1 σ) (by omega) hpos (by omega)]
      refine s_looks (k := 2) h0 (RM_sc hM (sa_sc f1)) (mG_sa hG f1) (okP_s hp hdiv) (okP_s hq hmod) o1 b1 (fun I2 f2 b2 => ?_)
      rw [show iN (c : Int) + (1 : Int32) = iN ((c + 1 : Nat) : Int) from iN_add c 1]
      exact ih (c + 1) (by omega) I2 _ (frm_tr f1 f2) b2 (att_ok h0 (okP_s hp hdiv) (okP_s hq hmod) (by omega) o1) k
  have seconds : ∀ p : Nat, p ≤ z0 σ → ∀ m q : Nat, q + m = z0 σ + 1 → ∀ I1 s, frm saC saS I I1 → hB I1 s → bOK s → (∀ I2, frm saC saS I I2 → hB I2 (fo (fun s q => fo (g2 σ p q) (z1 σ * z1 σ) 0 s) m q s) → bOK (fo (fun s q => fo (g2 σ p q) (z1 σ * z1 σ) 0 s) m q s) → GV G Y_X8_findPut 102 [(0, .ref 58), (1, .int (1 : Int32)), (2, .int (iN p + 1))] I2 Q) → GV G Y_X8_findPut 118 [(0, .ref 58), (1, .int (1 : Int32)), (2, .int (iN p)), (3, .int (iN q))] I1 Q := by
    intro p hp m
    induction m with
    | zero =>
      intro q hq I1 s f1 b1 o1 k
      exact v_X8_findPut_118 ⟨fun _ => k I1 f1 b1 o1, fun w => absurd (by rw [(e65 I1 f1).1, iN_lt (by omega) (by omega)]; omega) w⟩
    | succ m ih =>
      intro q hq I1 s f1 b1 o1 k
      refine v_X8_findPut_118 ⟨fun w => absurd w (by rw [(e65 I1 f1).1, iN_lt (by omega) (by omega)]; omega), fun _ => ?_⟩
      refine codes p q hp (by omega) (z1 σ * z1 σ) 0 (by omega) I1 s f1 b1 o1 (fun I2 f2 b2 o2 => ?_)
      rw [show iN (q : Int) + (1 : Int32) = iN ((q + 1 : Nat) : Int) from iN_add q 1]
      exact ih (q + 1) (by omega) I2 _ f2 b2 o2 k
  have two : ∀ m p : Nat, p + m = z0 σ + 1 → ∀ I1 s, frm saC saS I I1 → hB I1 s → bOK s → (∀ I2, frm saC saS I I2 → hB I2 (fo (fun s p => fo (fun s q => fo (g2 σ p q) (z1 σ * z1 σ) 0 s) (z0 σ + 1 - p) p s) m p s) → Q I2) → GV G Y_X8_findPut 102 [(0, .ref 58), (1, .int (1 : Int32)), (2, .int (iN p))] I1 Q := by
    intro m
    induction m with
    | zero =>
      intro p hp I1 s f1 b1 o1 k
      exact v_X8_findPut_102 ⟨fun _ => k I1 f1 b1, fun w => absurd (by rw [(e65 I1 f1).1, iN_lt (by omega) (by omega)]; omega) w⟩
    | succ m ih =>
      intro p hp I1 s f1 b1 o1 k
      refine v_X8_findPut_102 ⟨fun w => absurd w (by rw [(e65 I1 f1).1, iN_lt (by omega) (by omega)]; omega), fun _ => ⟨fun w => absurd w (by decide), fun _ => ?_⟩⟩
      refine seconds p (by omega) (z0 σ + 1 - p) p (by omega) I1 s f1 b1 o1 (fun I2 f2 b2 o2 => ?_)
      rw [show iN (p : Int) + (1 : Int32) = iN ((p + 1 : Nat) : Int) from iN_add p 1]
      exact ih (p + 1) (by omega) I2 _ f2 b2 o2 k
  -- behind the loop of one
  have after : ∀ I1 s, frm saC saS I I1 → hB I1 s → bOK s → s = put1 (sR σ) (sF σ 0) (z0 σ) (sF σ 1) (z1 σ) → (((¬ (I1 76 0) = (-1)) → (GV G Y_X8_findPut 102 [(0, .ref 58), (1, .int (0 : Int32)), (2, .int (0 : Int32))] I1 Q)) ∧ (((I1 76 0) = (-1)) → (GV G Y_X8_findPut 102 [(0, .ref 58), (1, .int (1 : Int32)), (2, .int (0 : Int32))] I1 Q))) := by
    intro I1 s f1 b1 o1 e1
    have b0 := o1 0
    rw [b1 0 (by decide), show (-1 : Int32) = iN (-1) from rfl, iN_eq (by omega) (by omega)]
    have eB : putB (sR σ) (sF σ 0) (z0 σ) (sF σ 1) (z1 σ) = if s 0 = -1 then putTwo (sR σ) (sF σ 0) (z0 σ) (sF σ 1) (z1 σ) s else s := by rw [e1]; rfl
    refine ⟨fun c => ?_, fun c => ?_⟩
    · rw [if_neg c] at eB
      have hq : Q I1 := h I1 f1 (by rw [eB]; exact b1)
      exact v_X8_findPut_102 ⟨fun _ => hq, fun _ => ⟨fun _ => hq, fun w => absurd rfl w⟩⟩
    · rw [if_pos c] at eB
      refine two (z0 σ + 1) 0 (by omega) I1 s f1 b1 o1 (fun I2 f2 b2 => h I2 f2 ?_)
      rw [eB]; exact b2
  have hards : ∀ p : Nat, p ≤ z0 σ → ∀ m c : Nat, c + m = z1 σ → ∀ I1 s, frm saC saS I I1 → hB I1 s → bOK s → s 0 ≠ 0 → (∀ I2, frm saC saS I I2 → hB I2 (fo (g1 σ p) m c s) → bOK (fo (g1 σ p) m c s) → (fo (g1 σ p) m c s) 0 ≠ 0 → GV G Y_X8_findPut 32 [(0, .ref 58), (1, .int (iN p + 1))] I2 Q) → GV G Y_X8_findPut 53 [(0, .ref 58), (1, .int (iN p)), (2, .int (iN c))] I1 Q := by
    intro p hp m
    induction m with
    | zero =>
      intro c hc I1 s f1 b1 o1 n1 k
      exact v_X8_findPut_53 ⟨fun _ => k I1 f1 b1 o1 n1, fun w => absurd (by rw [(e65 I1 f1).2, iN_le (by omega) (by omega)]; omega) w⟩
    | succ m ih =>
      intro c hc I1 s f1 b1 o1 n1 k
      refine v_X8_findPut_53 ⟨fun w => absurd w (by rw [(e65 I1 f1).2, iN_le (by omega) (by omega)]; omega), fun _ => ?_⟩
      refine s_looks (k := 1) h0 (RM_sc hM (sa_sc f1)) (mG_sa hG f1) (okP_s hp (show c < z1 σ by omega)) (okP_n σ) o1 b1 (fun I2 f2 b2 => ?_)
      rw [show iN (c : Int) + (1 : Int32) = iN ((c + 1 : Nat) : Int) from iN_add c 1]
      refine ih (c + 1) (by omega) I2 _ (frm_tr f1 f2) b2 (att_ok h0 (okP_s hp (by omega)) (okP_n σ) (by omega) o1) ?_ k
      rcases att_0 (R := sR σ) (f0 := sF σ 0) (f1 := sF σ 1) (z := z0 σ) (best := s) (k := 1) (p := p) (a := c) (q := -1) (b := -1) with e | e
      · rw [e]; exact n1
      · rw [e]; decide
  have one : ∀ m p : Nat, p + m = z0 σ + 1 → ∀ I1 s, frm saC saS I I1 → hB I1 s → bOK s → s 0 ≠ 0 → fo (fun s p => fo (g1 σ p) (z1 σ) 0 s) m p s = put1 (sR σ) (sF σ 0) (z0 σ) (sF σ 1) (z1 σ) → GV G Y_X8_findPut 32 [(0, .ref 58), (1, .int (iN p))] I1 Q := by
    intro m
    induction m with
    | zero =>
      intro p hp I1 s f1 b1 o1 n1 e1
      exact v_X8_findPut_32 ⟨fun _ => after I1 s f1 b1 o1 e1, fun w => absurd (by rw [(e65 I1 f1).1, iN_lt (by omega) (by omega)]; omega) w⟩
    | succ m ih =>
      intro p hp I1 s f1 b1 o1 n1 e1
      have b0 := o1 0
      refine v_X8_findPut_32 ⟨fun w => absurd w (by rw [(e65 I1 f1).1, iN_lt (by omega) (by omega)]; omega), fun _ => ⟨fun w => absurd w (by rw [b1 0 (by decide), l0, iN_eq (by omega) (by omega)]; exact n1), fun _ => ?_⟩⟩
      refine hards p (by omega) (z1 σ) 0 (by omega) I1 s f1 b1 o1 n1 (fun I2 f2 b2 o2 n2 => ?_)
      rw [show iN (p : Int) + (1 : Int32) = iN ((p + 1 : Nat) : Int) from iN_add p 1]
      exact ih (p + 1) (by omega) I2 _ f2 b2 o2 n2 e1
  refine v_X8_findPut ?_
  have clear : ∀ m c : Nat, c + m = 6 → ∀ I1, frm saC saS I I1 → (∀ k, k < c → I1 76 k = iN (-1)) → GV G Y_X8_findPut 2 [(0, .ref 58), (1, .int (iN c))] I1 Q := by
    intro m
    induction m with
    | zero =>
      intro c hc I1 f1 b1
      refine v_X8_findPut_2 ⟨fun _ => ?_, fun w => absurd (by rw [l6, iN_le (by omega) (by omega)]; omega) w⟩
      have o1 : bOK (fun _ => -1) := fun _ => ⟨Int.le_refl _, (by decide : (-1 : Int) ≤ 100000)⟩
      refine s_looks (k := 0) h0 (RM_sc hM (sa_sc f1)) (mG_sa hG f1) (okP_n σ) (okP_n σ) o1 (fun k hk => b1 k (by omega)) (fun I2 f2 b2 => ?_)
      have f2' := frm_tr f1 f2
      have o2 := att_ok (k := 0) h0 (okP_n σ) (okP_n σ) (by omega) o1
      have e0 : put1 (sR σ) (sF σ 0) (z0 σ) (sF σ 1) (z1 σ) = if put0 (sR σ) (sF σ 0) (z0 σ) (sF σ 1) 0 = -1 then putOne (sR σ) (sF σ 0) (z0 σ) (sF σ 1) (z1 σ) (put0 (sR σ) (sF σ 0) (z0 σ) (sF σ 1)) else put0 (sR σ) (sF σ 0) (z0 σ) (sF σ 1) := rfl
      have b2 : hB I2 (put0 (sR σ) (sF σ 0) (z0 σ) (sF σ 1)) := b2
      have o2 : bOK (put0 (sR σ) (sF σ 0) (z0 σ) (sF σ 1)) := o2
      rcases (show put0 (sR σ) (sF σ 0) (z0 σ) (sF σ 1) 0 = -1 ∨ put0 (sR σ) (sF σ 0) (z0 σ) (sF σ 1) 0 = 0 from att_0) with e | e
      · rw [if_pos e] at e0
        exact one (z0 σ + 1) 0 (by omega) I2 _ f2' b2 o2 (by omega) e0.symm
      · rw [if_neg (by omega)] at e0
        refine v_X8_findPut_32 ⟨fun _ => after I2 _ f2' b2 o2 e0.symm, fun _ => ⟨fun _ => after I2 _ f2' b2 o2 e0.symm, fun w => absurd (by rw [b2 0 (by decide), e]; rfl) w⟩⟩
    | succ m ih =>
      intro c hc I1 f1 b1
      refine v_X8_findPut_2 ⟨fun w => absurd w (by rw [l6, iN_le (by omega) (by omega)]; omega), fun _ => ⟨(vp_iN (by omega)).mpr ⟨by omega, by omega⟩, ?_⟩⟩
      rw [show nn (iN (c : Int)) = c from nn_nat (by omega), show iN (c : Int) + (1 : Int32) = iN ((c + 1 : Nat) : Int) from iN_add c 1]
      refine ih (c + 1) (by omega) _ (frm_st f1 (by decide) (by decide)) (fun k hk => ?_)
      by_cases e : k = c
      · subst e; rw [st_self]; rfl
      · rw [st_ne2 e]; exact b1 k (by omega)
  exact clear 6 0 (by omega) I frm_rf (fun k hk => absurd hk (Nat.not_lt_zero _))
theorem M_put {Q : HP → Int32 → Prop} {a : Int32} (h0 : okS0 σ) (hM : RM I σ) (h : MP I σ Q (an_put σ a)) : RI G Y_X8_put [.ref 58, .int a] I Q := by
  refine v_X8_put (s_in3 0 5 (by decide) (by decide) ?_)
  rw [bI_0]
  unfold an_put at h
  rcases okA_cases a 5 with q | ⟨t, ht, ea, htn, hok⟩
  · rw [q] at h
    exact ⟨fun w => absurd q w, fun _ => h I (fun _ _ => rfl) hM⟩
  · rw [hok, htn] at h
    refine ⟨fun _ => ?_, fun q => absurd (hok.symm.trans q) (by decide)⟩
    subst ea
    refine s_find h0 hM (fun I1 f1 hM1 hF => s_findPut h0 hM1 (mF_G hF) (fun I2 f2 b2 => ⟨(vp_iN (by omega)).mpr ⟨by omega, by omega⟩, ?_⟩))
    rw [show nn (iN (t : Int)) = t from nn_nat (by omega), b2 t (by omega)]
    exact h I2 (lo_sc (frm_tr f1 (sa_sc f2))) (RM_sc hM1 (sa_sc f2))
end MPut2
