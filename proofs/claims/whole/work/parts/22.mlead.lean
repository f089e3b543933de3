/-! ===== calls of the reference: lead, leads ===== -/
def rL (R : Nat → Int) (l : Int) : Nat → Int := fun j => match j with
  | 0 => l
  | j + 1 => R (j + 1)
theorem okR_L {R : Nat → Int} {l : Int} (h : okR R) (hl : 0 ≤ l ∧ l ≤ 99) : okR (rL R l) := ⟨hl, h.2⟩
/-- whole, without a pause -/
def whB (R : Nat → Int) (vs : Nat → Nat → Int) (n : Nat) : Bool := decide (tl R vs n 7 ≠ -1 ∧ tl R vs n 10 = 0)
def an_lead (σ : SG) : Int32 := iN (fnd (fun l => whB (rL (sR σ) l) (vsT (sF σ 0)) (z0 σ)) 100 0)
/-- the first k of SEEN fit a LEAD -/
def fitS (σ : SG) (l : Nat) : Nat → Bool
  | 0 => true
  | k + 1 => fitS σ l k && decide (mdI (rL (sR σ) l) (vsT (sF σ 0)) (z0 σ) (sB σ k) = sV σ k)
def ldS (σ : SG) (x : Int32) (l : Nat) : Int32 := if fitS σ l (sK σ) then x ||| ((1 : Int32) <<< (iN l &&& 31)) else x
def an_leads (σ : SG) : Int32 := fo (ldS σ) 31 0 (0 : Int32)
theorem wrN_le (R : Nat → Int) (vs : Nat → Nat → Int) : ∀ n, wrN R vs n ≤ n
  | 0 => Nat.le_refl _
  | p + 1 => by
    have := wrN_le R vs p
    show (if tl R vs (p + 1) 7 = -1 then wrN R vs p else p + 1) ≤ p + 1
    split <;> omega
theorem wrN_iff {R : Nat → Int} {vs : Nat → Nat → Int} {n : Nat} : wrN R vs n = n ↔ tl R vs n 7 ≠ -1 := by
  refine ⟨fun h => ?_, wrN_full⟩
  cases n with
  | zero => show (0 : Int) ≠ -1; omega
  | succ p =>
    intro c
    have h1 := wrN_dead c 1
    have h2 := wrN_le R vs p
    omega
theorem wh_iff {R : Nat → Int} {vs : Nat → Nat → Int} {n : Nat} : whB R vs n = true ↔ tl R vs n 10 = 0 ∧ wrN R vs n = n := by
  rw [wrN_iff]
  unfold whB
  rw [decide_eq_true_iff]
  exact ⟨fun h => ⟨h.2, h.1⟩, fun h => ⟨h.2, h.1⟩⟩
/-- the reference has read both texts -/
def mG (I : HP) (σ : SG) : Prop := I 65 0 = iN (z0 σ) ∧ I 65 1 = iN (z1 σ) ∧ tOK I 0 (sF σ 0) (sN σ 0) ∧ tOK I 1 (sF σ 1) (sN σ 1)
theorem mF_G {I : HP} {σ : SG} (h : mF I σ) : mG I σ := ⟨h.1, h.2.1, h.2.2.1, h.2.2.2.1⟩
theorem mG_fr {I I' : HP} {σ : SG} (h : mG I σ) (e1 : I' 65 = I 65) (e2 : I' 66 = I 66) : mG I' σ := by
  obtain ⟨h1, h2, h3, h4⟩ := h
  refine ⟨by rw [e1]; exact h1, by rw [e1]; exact h2, fun v hv => ?_, fun v hv => ?_⟩
  · rw [e2]; exact h3 v hv
  · rw [e2]; exact h4 v hv
/-- what telling writes -/
abbrev saC : List Nat := [68, 69, 70, 71, 72, 73, 74, 75, 76, 77]
abbrev saS : List Nat := [11, 20, 21, 22, 23, 26, 27]
theorem sa_sc {I I' : HP} (h : frm saC saS I I') : frm scC scS I I' := frm_mo h (by decide) (by decide)
theorem mG_sa {I I' : HP} {σ : SG} (h : mG I σ) (hf : frm saC saS I I') : mG I' σ := mG_fr h (hf.1 65 (by decide) (by decide)) (hf.1 66 (by decide) (by decide))
section MLead
variable {G : CX} {I : HP} {σ : SG}
theorem row_says {I' : HP} {vs : Nat → Nat → Int} {n : Nat} (h : rowOK I vs n) (hf : frm [69, 70, 71, 72, 73, 74, 75] [20, 21, 22, 23] I I') : rowOK I' vs n := rowOK_fr h (hf.2 11 (by decide)) (hf.1 68 (by decide) (by decide)) (hf.1 66 (by decide) (by decide))
theorem M_leadNow {Q : HP → Int32 → Prop} (h0 : okS0 σ) (hM : RM I σ) (hG : mG I σ) (h : ∀ I', frm saC saS I I' → Q I' (an_lead σ)) : RI G Y_X8_leadNow [.ref 58] I Q := by
  have hz := z0_le h0
  refine v_X8_leadNow (s_plain h0 hG.1 hG.2.2.1 (fun I1 f1 r1 _ => ?_))
  have loop : ∀ m l : Nat, l + m = 100 → ∀ I2, frm saC saS I I2 → rowOK I2 (vsT (sF σ 0)) (z0 σ) → (∀ I', frm saC saS I I' → Q I' (iN (fnd (fun l => whB (rL (sR σ) l) (vsT (sF σ 0)) (z0 σ)) m l))) → GI G Y_X8_leadNow 6 [(0, .ref 58), (1, .int (iN l))] I2 Q := by
    intro m
    induction m with
    | zero =>
      intro l hl I2 f2 r2 hq
      exact v_X8_leadNow_6 ⟨fun _ => hq I2 f2, fun w => absurd (by rw [l100, iN_le (by omega) (by omega)]; omega) w⟩
    | succ m ih =>
      intro l hl I2 f2 r2 hq
      have hM2 := RM_sc hM (sa_sc f2)
      refine v_X8_leadNow_6 ⟨fun w => absurd w (by rw [l100, iN_le (by omega) (by omega)]; omega), fun _ => ?_⟩
      have hR : okR (rL (sR σ) l) := okR_L h0.2.1 (by omega)
      rw [hM2.2.2.1 4 (by decide), hM2.2.2.1 3 (by decide)]
      refine s_says (R := rL (sR σ) l) r2 (okVT _ _) hR (hM2.2.2.1 1 (by decide)) (hM2.2.2.1 2 (by decide)) (fun I3 f3 s3 => ?_)
      have f3' : frm saC saS I I3 := frm_tr f2 (frm_mo f3 (by decide) (by decide))
      have r3 := row_says r2 f3
      have bt := bd_tl hR (okVT _ _) (z0 σ) (Nat.le_refl _) (by omega)
      have hw := wrN_le (rL (sR σ) l) (vsT (sF σ 0)) (z0 σ)
      rw [s3.2.2.2.1, s3.2.2.2.2.1, r3.1, l0, iN_eq (by have := bt.2.1; omega) (by omega), iN_eq (by omega) (by omega), l1, iN_add]
      rw [fnd_s] at hq
      have next : ¬ whB (rL (sR σ) l) (vsT (sF σ 0)) (z0 σ) = true → GI G Y_X8_leadNow 6 [(0, .ref 58), (1, .int (iN ((l : Int) + 1)))] I3 Q := by
        intro c
        rw [if_neg c] at hq
        exact ih (l + 1) (by omega) I3 f3' r3 hq
      refine ⟨fun c => next (by rw [wh_iff]; omega), fun c => ⟨fun c2 => next (by rw [wh_iff]; omega), fun c2 => ?_⟩⟩
      rw [if_pos (wh_iff.mpr ⟨c, by omega⟩)] at hq
      exact hq I3 f3'
  exact loop 100 0 (by omega) I1 (frm_mo f1 (by decide) (by decide)) r1 h
theorem M_lead {Q : HP → Int32 → Prop} (h0 : okS0 σ) (hM : RM I σ) (h : MP I σ Q (an_lead σ)) : RI G Y_X8_lead [.ref 58] I Q :=
  v_X8_lead (s_find h0 hM (fun I1 f1 hM1 hF => M_leadNow h0 hM1 (mF_G hF) (fun I2 f2 => h I2 (lo_sc (frm_tr f1 (sa_sc f2))) (RM_sc hM1 (sa_sc f2)))))
theorem M_leadsNow {Q : HP → Int32 → Prop} (h0 : okS0 σ) (hM : RM I σ) (hG : mG I σ) (h : ∀ I', frm saC saS I I' → Q I' (an_leads σ)) : RI G Y_X8_leadsNow [.ref 58] I Q := by
  have hz := z0_le h0
  have hk8 := h0.2.2.2.1
  refine v_X8_leadsNow (s_plain h0 hG.1 hG.2.2.1 (fun I1 f1 r1 _ => ?_))
  have loop : ∀ m l : Nat, l + m = 31 → ∀ I2 x, frm saC saS I I2 → rowOK I2 (vsT (sF σ 0)) (z0 σ) → (∀ I', frm saC saS I I' → Q I' (fo (ldS σ) m l x)) → GI G Y_X8_leadsNow 8 [(0, .ref 58), (1, .int x), (2, .int (iN l))] I2 Q := by
    intro m
    induction m with
    | zero =>
      intro l hl I2 x f2 r2 hq
      exact v_X8_leadsNow_8 ⟨fun _ => hq I2 f2, fun w => absurd (by rw [l31, iN_le (by omega) (by omega)]; omega) w⟩
    | succ m ih =>
      intro l hl I2 x f2 r2 hq
      have hM2 := RM_sc hM (sa_sc f2)
      refine v_X8_leadsNow_8 ⟨fun w => absurd w (by rw [l31, iN_le (by omega) (by omega)]; omega), fun _ => ?_⟩
      have hR : okR (rL (sR σ) l) := okR_L h0.2.1 (by omega)
      rw [hM2.2.2.1 4 (by decide), hM2.2.2.1 3 (by decide)]
      refine s_says (R := rL (sR σ) l) r2 (okVT _ _) hR (hM2.2.2.1 1 (by decide)) (hM2.2.2.1 2 (by decide)) (fun I3 f3 s3 => ?_)
      have f3' : frm saC saS I I3 := frm_tr f2 (frm_mo f3 (by decide) (by decide))
      have r3 := row_says r2 f3
      have hM3 := RM_sc hM (sa_sc f3')
      rw [fo_s] at hq
      have inner : ∀ m2 k : Nat, k + m2 = sK σ → GI G Y_X8_leadsNow 36 [(0, .ref 58), (1, .int x), (2, .int (iN l)), (3, .int (if fitS σ l k then iN 1 else iN 0)), (4, .int (iN k))] I3 Q := by
        intro m2
        induction m2 with
        | zero =>
          intro k hk
          rw [show k = sK σ by omega]
          refine v_X8_leadsNow_36 ⟨fun _ => ⟨fun c => ?_, fun c => ?_⟩, fun w => absurd (by rw [hM3.2.2.2.1, iN_le (by omega) (by omega)]; omega) w⟩
          · have e : fitS σ l (sK σ) = false := by
              cases e : fitS σ l (sK σ) with
              | false => rfl
              | true => rw [e] at c; exact absurd c (by decide)
            rw [Int32.or_zero, l1, iN_add]
            unfold ldS at hq
            rw [e] at hq
            exact ih (l + 1) (by omega) I3 x f3' r3 hq
          · have e : fitS σ l (sK σ) = true := by
              cases e : fitS σ l (sK σ) with
              | true => rfl
              | false => rw [e] at c; exact absurd rfl c
            unfold ldS at hq
            rw [if_pos e] at hq
            rw [show iN (l : Int) + (1 : Int32) = iN ((l + 1 : Nat) : Int) from iN_add l 1]
            exact ih (l + 1) (by omega) I3 _ f3' r3 hq
        | succ m2 ih2 =>
          intro k hk
          have nx := ih2 (k + 1) (by omega)
          unfold fitS at nx
          obtain ⟨hb, hv⟩ := h0.2.2.2.2.1 k (by omega)
          obtain ⟨b, eb⟩ : ∃ b : Nat, sB σ k = b := ⟨(sB σ k).toNat, by omega⟩
          refine v_X8_leadsNow_36 ⟨fun w => absurd w (by rw [hM3.2.2.2.1, iN_le (by omega) (by omega)]; omega), fun _ => ⟨fun c => ?_, fun c => ?_⟩⟩
          · have e : fitS σ l k = false := by
              cases e : fitS σ l k with
              | false => rfl
              | true => rw [e] at c; exact absurd c (by decide)
            rw [e] at nx
            rw [l1, iN_add]
            exact nx
          · have e : fitS σ l k = true := by
              cases e : fitS σ l k with
              | true => rfl
              | false => rw [e] at c; exact absurd rfl c
            rw [e, Bool.true_and] at nx
            obtain ⟨g1, g2⟩ := hM3.2.2.2.2.1 k (by omega)
            rw [l2, l1, iN_mul, iN_add]
            refine ⟨(vp_iN (by omega)).mpr ⟨by omega, by omega⟩, ?_⟩
            rw [show nn (iN (2 * (k : Int))) = 2 * k by rw [nn, nn_iN (by omega) (by omega)]; omega, g1, eb]
            refine s_makesIn (R := rL (sR σ) l) r3 s3 hR (okVT _ _) (by omega) ⟨(vp_iN (by omega)).mpr ⟨by omega, by omega⟩, ?_⟩
            have hmd : -1 ≤ mdI (rL (sR σ) l) (vsT (sF σ 0)) (z0 σ) b ∧ mdI (rL (sR σ) l) (vsT (sF σ 0)) (z0 σ) b ≤ 100 := by
              unfold mdI
              split
              · omega
              · have := fnd_bd (fun p => decide (rL (sR σ) l 0 + b - sS (rL (sR σ) l) (vsT (sF σ 0)) b (z0 σ) < tl (rL (sR σ) l) (vsT (sF σ 0)) (p + 1) 9)) (z0 σ) 0
                omega
            rw [show nn (iN (2 * (k : Int) + 1)) = 2 * k + 1 by rw [nn, nn_iN (by omega) (by omega)]; omega, g2, iN_eq (by omega) (by omega), iN_add]
            rw [eb] at nx
            refine ⟨fun c2 => ?_, fun c2 => ?_⟩
            · rw [decide_eq_false c2] at nx; exact nx
            · rw [decide_eq_true c2] at nx; exact nx
      exact inner (sK σ) 0 (by omega)
  exact loop 31 0 (by omega) I1 0 (frm_mo f1 (by decide) (by decide)) r1 h
theorem M_leads {Q : HP → Int32 → Prop} (h0 : okS0 σ) (hM : RM I σ) (h : MP I σ Q (an_leads σ)) : RI G Y_X8_leads [.ref 58] I Q :=
  v_X8_leads (s_find h0 hM (fun I1 f1 hM1 hF => M_leadsNow h0 hM1 (mF_G hF) (fun I2 f2 => h I2 (lo_sc (frm_tr f1 (sa_sc f2))) (RM_sc hM1 (sa_sc f2)))))
end MLead
