/-! ===== what a telling tells: written, said, made, in hand; poem, doing ===== -/
section XQuery
variable {G : CX} {I : HP}
theorem s_hmW {Q : HP → Int32 → Prop} {T n : Nat} {R : Nat → Int} {vs : Nat → Nat → Int} (hT : isTel T) (hL : isTw I T R vs n) (hR : okR R) (hv : okVs vs n) (h : Q I (iN (wrN R vs n))) : RI G Y_X5_howManyWritten [.ref T] I Q := by
  have hN := teN_le T
  have hn := hL.1
  have h3 := hL.2.1
  refine v_X5_howManyWritten hT ?_
  have loop : ∀ m p : Nat, p + m = n → tl R vs p 7 ≠ -1 → GI G Y_X5_howManyWritten 2 [(0, .ref T), (1, .int (iN p))] I Q := by
    intro m
    induction m with
    | zero =>
      intro p hp hw
      refine v_X5_howManyWritten_2 hT ⟨fun _ => ?_, fun c => absurd (by rw [h3, iN_le (by omega) (by omega)]; omega) c⟩
      have e : p = n := by omega
      subst e
      rw [wrN_full hw] at h; exact h
    | succ m ih =>
      intro p hp hw
      have b7 := tl_bd hR hv (by omega) (show p < n by omega) 7 (by decide) (by decide)
      refine v_X5_howManyWritten_2 hT ⟨fun c => absurd c (by rw [h3, iN_le (by omega) (by omega)]; omega), fun _ => ⟨(vp_iN (by omega)).mpr ⟨by omega, by omega⟩, ?_⟩⟩
      rw [show nn (iN (p : Int)) = p from nn_nat (by omega), (hL.2.2.2.2 p (by omega)).1 7 (by decide), show (-1 : Int32) = iN (-1) from rfl, iN_eq (by omega) (by omega), show iN (p : Int) + (1 : Int32) = iN ((p + 1 : Nat) : Int) from iN_add p 1]
      refine ⟨fun c => ?_, fun c => ih (p + 1) (by omega) c⟩
      have e := wrN_dead c (m + 1)
      rw [show p + (m + 1) = n by omega, wrN_full hw] at e
      rw [e] at h; exact h
  exact loop n 0 (by omega) (by show (0 : Int) ≠ -1; decide)
theorem s_lastW {Q : HP → Int32 → Prop} {T n : Nat} {R : Nat → Int} {vs : Nat → Nat → Int} (hT : isTel T) (hL : isTw I T R vs n) (hR : okR R) (hv : okVs vs n) (h : Q I (iN (lng R vs n))) : RI G Y_X5_lastWritten [.ref T] I Q := by
  have hw := wrN_le R vs n
  have hn := hL.1
  refine v_X5_lastWritten hT (s_hmW hT hL hR hv ?_)
  rw [l1, iN_sub]
  refine s_turnAtw hT hL (by omega) ?_
  rw [show ((wrN R vs n : Int) - 1 + 1).toNat = wrN R vs n by omega]
  refine ⟨tc_tur hT (by omega), ?_⟩
  rw [isTw_at hL hw 7 (by decide)]
  exact h
theorem s_isSaidIn {Q : HP → Bool → Prop} {c : Nat} {t : Nat → Int} {b : Int} (hc : isTur c) (ht : tM I c t) (hb : -1 ≤ t 4 ∧ t 4 ≤ 10000 ∧ -1 ≤ t 5 ∧ t 5 ≤ 10000) (hb2 : 0 ≤ b ∧ b ≤ 100000) (h : Q I (decide (t 4 ≠ -1 ∧ t 4 ≤ b ∧ b < t 5))) : RZ G Y_X5_isSaidIn [.ref c, .int (iN b)] I Q := by
  refine v_X5_isSaidIn hc ?_
  rw [ht.1 4 (by decide), ht.1 5 (by decide), show (-1 : Int32) = iN (-1) from rfl, iN_eq (by omega) (by omega), iN_lt (by omega) (by omega), iN_le (by omega) (by omega)]
  refine ⟨fun c => ?_, fun c => ⟨fun c2 => ?_, fun c2 => ⟨fun c3 => ?_, fun c3 => ?_⟩⟩⟩
  · rw [decide_eq_false (fun q => q.1 c)] at h; exact h
  · rw [decide_eq_false (by omega)] at h; exact h
  · rw [decide_eq_false (by omega)] at h; exact h
  · rw [decide_eq_true (by omega)] at h; exact h
theorem s_saidIn {Q : HP → Int32 → Prop} {T n : Nat} {R : Nat → Int} {vs : Nat → Nat → Int} {b : Int} (hT : isTel T) (hL : isTw I T R vs n) (hR : okR R) (hv : okVs vs n) (hb : 0 ≤ b ∧ b ≤ 100000) (h : Q I (iN (fnd (sdB R vs b) n 0))) : RI G Y_X5_saidIn [.ref T, .int (iN b)] I Q := by
  have hN := teN_le T
  have hn := hL.1
  have h3 := hL.2.1
  refine v_X5_saidIn hT ?_
  have loop : ∀ m p : Nat, p + m = n → Q I (iN (fnd (sdB R vs b) m p)) → GI G Y_X5_saidIn 2 [(0, .ref T), (1, .int (iN b)), (2, .int (iN p))] I Q := by
    intro m
    induction m with
    | zero =>
      intro p hp hq
      exact v_X5_saidIn_2 hT ⟨fun _ => hq, fun c => absurd (by rw [h3, iN_le (by omega) (by omega)]; omega) c⟩
    | succ m ih =>
      intro p hp hq
      have b4 := tl_bd hR hv (by omega) (show p < n by omega) 4 (by decide) (by decide)
      have b5 := tl_bd hR hv (by omega) (show p < n by omega) 5 (by decide) (by decide)
      refine v_X5_saidIn_2 hT ⟨fun c => absurd c (by rw [h3, iN_le (by omega) (by omega)]; omega), fun _ => ⟨(vp_iN (by omega)).mpr ⟨by omega, by omega⟩, ?_⟩⟩
      rw [show nn (iN (p : Int)) = p from nn_nat (by omega), show iN (p : Int) + (1 : Int32) = iN ((p + 1 : Nat) : Int) from iN_add p 1]
      refine s_isSaidIn (tel_tu hT (by omega)) (hL.2.2.2.2 p (by omega)) (by omega) hb ?_
      rw [bI_0]
      rw [fnd_s] at hq
      refine ⟨fun c => ?_, fun c => ?_⟩
      · rw [if_neg (show ¬ sdB R vs b p = true from fun q => by rw [show sdB R vs b p = false from c] at q; cases q)] at hq
        exact ih (p + 1) (by omega) hq
      · rw [if_pos (show sdB R vs b p = true from (Bool.not_eq_false _).mp c)] at hq
        exact hq
  exact loop n 0 (by omega) h
theorem bsy_mono {R : Nat → Int} {vs : Nat → Nat → Int} {b : Int} {p : Nat} (h : bsy R vs b p = true) : ∀ m, bsy R vs b (p + m) = true
  | 0 => h
  | m + 1 => by
    show (bsy R vs b (p + m) || (sdB R vs b (p + m) && decide (vs (p + m) 0 ≠ 2))) = true
    rw [bsy_mono h m, Bool.true_or]
set_option maxHeartbeats 1000000 in
theorem s_madeIn {Q : HP → Int32 → Prop} {T n : Nat} {R : Nat → Int} {vs : Nat → Nat → Int} {b : Int} (hT : isTel T) (hL : isTw I T R vs n) (hR : okR R) (hv : okVs vs n) (hb : 0 ≤ b ∧ b ≤ 100000) (h : Q I (iN (mdI R vs n b))) : RI G Y_X5_madeIn [.ref T, .int (iN b)] I Q := by
  have hN := teN_le T
  obtain ⟨hn, h3, hr, -, ht⟩ := id hL
  have hr0 := hR.1
  refine v_X5_madeIn hT ?_
  rw [hr 0 (by decide), iN_add]
  have hsn := sS_bd hR hv (by omega) b hb.1 n (Nat.le_refl _)
  have fin : ∀ m p : Nat, p + m = n → Q I (iN (fnd (fun p => decide (R 0 + b - sS R vs b n < tl R vs (p + 1) 9)) m p)) → GI G Y_X5_madeIn 84 [(0, .ref T), (2, .int (iN (R 0 + b - sS R vs b n))), (3, .int (iN p))] I Q := by
    intro m
    induction m with
    | zero =>
      intro p hp hq
      exact v_X5_madeIn_84 hT ⟨fun _ => hq, fun c => absurd (by rw [h3, iN_le (by omega) (by omega)]; omega) c⟩
    | succ m ih =>
      intro p hp hq
      have b9 := (bd_tl hR hv (p + 1) (by omega) (by omega)).1
      refine v_X5_madeIn_84 hT ⟨fun c => absurd c (by rw [h3, iN_le (by omega) (by omega)]; omega), fun _ => ⟨(vp_iN (by omega)).mpr ⟨by omega, by omega⟩, ?_⟩⟩
      rw [show nn (iN (p : Int)) = p from nn_nat (by omega), (ht p (by omega)).1 9 (by decide), iN_le (by omega) (by omega), show iN (p : Int) + (1 : Int32) = iN ((p + 1 : Nat) : Int) from iN_add p 1]
      rw [fnd_s] at hq
      refine ⟨fun c => ?_, fun c => ?_⟩
      · rw [if_neg (by simp only [decide_eq_true_eq]; omega)] at hq
        exact ih (p + 1) (by omega) hq
      · rw [if_pos (by simp only [decide_eq_true_eq]; omega)] at hq
        exact hq
  have loop : ∀ m p : Nat, p + m = n → bsy R vs b p = false → GI G Y_X5_madeIn 11 [(0, .ref T), (1, .int (iN b)), (2, .int (iN (R 0 + b - sS R vs b p))), (3, .int (iN p))] I Q := by
    intro m
    induction m with
    | zero =>
      intro p hp hbs
      have e : p = n := by omega
      refine v_X5_madeIn_11 hT ⟨fun _ => ?_, fun c => absurd (by rw [h3, iN_le (by omega) (by omega)]; omega) c⟩
      rw [e] at hbs ⊢
      unfold mdI at h
      rw [hbs] at h
      exact fin n 0 (by omega) h
    | succ m ih =>
      intro p hp hbs
      have hpn : p < n := by omega
      have t4 := tl_bd hR hv (by omega) hpn 4 (by decide) (by decide)
      have t5 := tl_bd hR hv (by omega) hpn 5 (by decide) (by decide)
      have hs := sS_bd hR hv (by omega) b hb.1 p (by omega)
      have k0 := (hv p hpn).1
      have s0 := (hv p hpn).2.2.1
      have tp := ht p hpn
      have e0 : tl R vs (p + 1) 0 = vs p 0 := rfl
      have e2 : tl R vs (p + 1) 2 = vs p 2 := rfl
      have eS : sS R vs b (p + 1) = sS R vs b p + cl1 R vs b p := rfl
      have nx := ih (p + 1) (by omega)
      have bs1 : bsy R vs b (p + 1) = (sdB R vs b p && decide (vs p 0 ≠ 2)) := by rw [bsy_s, hbs, Bool.false_or]
      refine v_X5_madeIn_11 hT ⟨fun c => absurd c (by rw [h3, iN_le (by omega) (by omega)]; omega), fun _ => ⟨(vp_iN (by omega)).mpr ⟨by omega, by omega⟩, ?_⟩⟩
      rw [show nn (iN (p : Int)) = p from nn_nat (by omega), tp.1 0 (by decide), tp.1 4 (by decide), e0, l2, iN_eq (by omega) (by omega), show (-1 : Int32) = iN (-1) from rfl, iN_eq (by omega) (by omega), show iN (p : Int) + (1 : Int32) = iN ((p + 1 : Nat) : Int) from iN_add p 1]
      refine ⟨fun c => ?_, fun c => ⟨fun c2 => s_isSaidIn (tel_tu hT (by omega)) tp (by omega) hb ?_, fun c2 => ?_⟩⟩
      · have ec : cl1 R vs b p = 0 := by unfold cl1; rw [if_neg (fun q => q.2 c)]
        rw [eS, ec, Int.add_zero] at nx
        exact nx (by rw [bs1, decide_eq_false (fun q => q c), Bool.and_false])
      · have g5 := (tl_bg c2).2.2.1
        rw [bI_0, tp.1 5 (by decide), tp.1 2 (by decide), e2, iN_lt (by omega) (by omega), iN_sub]
        by_cases sd : tl R vs (p + 1) 4 ≤ b ∧ b < tl R vs (p + 1) 5
        · have sdT : decide (tl R vs (p + 1) 4 ≠ -1 ∧ tl R vs (p + 1) 4 ≤ b ∧ b < tl R vs (p + 1) 5) = true := decide_eq_true ⟨c2, sd⟩
          refine ⟨fun q => absurd (sdT.symm.trans q) (by decide), fun _ => ?_⟩
          have hbn : bsy R vs b n = true := by
            have := bsy_mono (R := R) (vs := vs) (b := b) (p := p + 1) (by rw [bs1, show sdB R vs b p = true from sdT, decide_eq_true c]; rfl) m
            rw [show p + 1 + m = n by omega] at this; exact this
          unfold mdI at h
          rw [if_pos hbn] at h; exact h
        · have sdF : decide (tl R vs (p + 1) 4 ≠ -1 ∧ tl R vs (p + 1) 4 ≤ b ∧ b < tl R vs (p + 1) 5) = false := decide_eq_false (fun w => sd w.2)
          have nb : bsy R vs b (p + 1) = false := by rw [bs1, show sdB R vs b p = false from sdF, Bool.false_and]
          refine ⟨fun _ => ⟨fun d => ?_, fun d => ?_⟩, fun q => absurd sdF q⟩
          · have ec : cl1 R vs b p = 0 := by unfold cl1; rw [if_pos ⟨c2, c⟩, if_pos (by omega)]
            rw [eS, ec, Int.add_zero] at nx
            exact nx nb
          · have ec : cl1 R vs b p = vs p 2 := by unfold cl1; rw [if_pos ⟨c2, c⟩, if_neg (by omega), if_pos (by omega)]
            rw [eS, ec, show R 0 + b - (sS R vs b p + vs p 2) = R 0 + b - sS R vs b p - vs p 2 by omega] at nx
            exact nx nb
      · have ec : cl1 R vs b p = 0 := by unfold cl1; rw [if_neg (fun q => q.1 c2)]
        rw [eS, ec, Int.add_zero] at nx
        exact nx (by rw [bs1, show sdB R vs b p = false from decide_eq_false (fun w => w.1 c2), Bool.false_and])
  have := loop n 0 (by omega) rfl
  rw [show R 0 + b - sS R vs b 0 = R 0 + b by show R 0 + b - 0 = R 0 + b; omega] at this
  exact this
theorem s_inHand {Q : HP → Int32 → Prop} {T n : Nat} {R : Nat → Int} {vs : Nat → Nat → Int} {b : Int} (hT : isTel T) (hL : isTw I T R vs n) (hR : okR R) (hv : okVs vs n) (hb : 0 ≤ b ∧ b ≤ 100000) (h : Q I (iN (fnd (hdB R vs b) n 0))) : RI G Y_X5_inHandIn [.ref T, .int (iN b)] I Q := by
  have hN := teN_le T
  have hn := hL.1
  have h3 := hL.2.1
  refine v_X5_inHandIn hT ?_
  have loop : ∀ m p : Nat, p + m = n → Q I (iN (fnd (hdB R vs b) m p)) → GI G Y_X5_inHandIn 2 [(0, .ref T), (1, .int (iN b)), (2, .int (iN p))] I Q := by
    intro m
    induction m with
    | zero =>
      intro p hp hq
      exact v_X5_inHandIn_2 hT ⟨fun _ => hq, fun c => absurd (by rw [h3, iN_le (by omega) (by omega)]; omega) c⟩
    | succ m ih =>
      intro p hp hq
      have hpn : p < n := by omega
      have b4 := tl_bd hR hv (by omega) hpn 4 (by decide) (by decide)
      have b5 := tl_bd hR hv (by omega) hpn 5 (by decide) (by decide)
      have b6 := tl_bd hR hv (by omega) hpn 6 (by decide) (by decide)
      have b7 := tl_bd hR hv (by omega) hpn 7 (by decide) (by decide)
      have s0 := (hv p hpn).2.2.1
      have tp := hL.2.2.2.2 p hpn
      have bp := bd_tl hR hv p (by omega) (by omega)
      have e45 : tl R vs (p + 1) 5 = -1 ↔ tl R vs (p + 1) 4 = -1 := by
        by_cases c : tl R vs (p + 1) 4 = -1
        · have := (tl_nb bp.2.2.2.2.1.1 bp.2.2.2.2.2.1 c).1
          omega
        · have := (tl_bg c).2.2.1
          omega
      refine v_X5_inHandIn_2 hT ⟨fun c => absurd c (by rw [h3, iN_le (by omega) (by omega)]; omega), fun _ => ⟨(vp_iN (by omega)).mpr ⟨by omega, by omega⟩, ?_⟩⟩
      rw [show nn (iN (p : Int)) = p from nn_nat (by omega), tp.1 7 (by decide), tp.1 5 (by decide), tp.1 6 (by decide), show (-1 : Int32) = iN (-1) from rfl, iN_eq (by omega) (by omega), iN_eq (by omega) (by omega), iN_lt (by omega) (by omega), iN_le (by omega) (by omega), iN_le (by omega) (by omega), show iN (p : Int) + (1 : Int32) = iN ((p + 1 : Nat) : Int) from iN_add p 1]
      rw [fnd_s] at hq
      have eh : hdB R vs b p = decide (tl R vs (p + 1) 4 ≠ -1 ∧ tl R vs (p + 1) 5 ≤ b ∧ b < (if tl R vs (p + 1) 7 = -1 then tl R vs (p + 1) 6 else tl R vs (p + 1) 7)) := rfl
      have no : ¬ (tl R vs (p + 1) 4 ≠ -1 ∧ tl R vs (p + 1) 5 ≤ b ∧ b < (if tl R vs (p + 1) 7 = -1 then tl R vs (p + 1) 6 else tl R vs (p + 1) 7)) → GI G Y_X5_inHandIn 2 [(0, .ref T), (1, .int (iN b)), (2, .int (iN ((p + 1 : Nat) : Int)))] I Q := by
        intro c
        rw [if_neg (by rw [eh, decide_eq_false c]; decide)] at hq
        exact ih (p + 1) (by omega) hq
      have yes : (tl R vs (p + 1) 4 ≠ -1 ∧ tl R vs (p + 1) 5 ≤ b ∧ b < (if tl R vs (p + 1) 7 = -1 then tl R vs (p + 1) 6 else tl R vs (p + 1) 7)) → Q I (iN p) := by
        intro c
        rw [if_pos (by rw [eh, decide_eq_true c])] at hq
        exact hq
      refine ⟨fun c => ?_, fun c => ?_⟩
      · rw [if_neg c] at no yes
        exact ⟨fun c1 => no (by omega), fun c1 => ⟨fun c2 => no (by omega), fun c2 => ⟨fun c3 => no (by omega), fun c3 => yes (by omega)⟩⟩⟩
      · rw [if_pos c] at no yes
        exact ⟨fun c1 => no (by omega), fun c1 => ⟨fun c2 => no (by omega), fun c2 => ⟨fun c3 => no (by omega), fun c3 => yes (by omega)⟩⟩⟩
  exact loop n 0 (by omega) h
variable {σ : SG}
theorem X_poem {Q : HP → Int32 → Prop} {a : Int32} (h0 : okS0 σ) (hX : RX I σ) (h : XP I σ Q (an_poem σ a)) : RI G Y_X7_poem [.ref 0, .int a] I Q := by
  have hh := h I (fun _ _ => rfl) hX
  have hL := hX.2.2.2.1
  have hT : isTel 6 := Or.inl rfl
  have hv : okVs (vsT (sF σ 0)) (z0 σ) := okVT _ _
  have ha := isTw_at hL (Nat.le_refl (z0 σ))
  have ht := tc_tur hT hL.1
  unfold an_poem at hh
  have one : ∀ k : Nat, k ≤ 3 → a = iN k → Q I (iN (if k = 0 then (wrN (sR σ) (vsT (sF σ 0)) (z0 σ) : Int) else if k = 1 then lng (sR σ) (vsT (sF σ 0)) (z0 σ) else if k = 2 then tσ σ (z0 σ) 10 else tσ σ (z0 σ) 12)) := by
    intro k hk ea
    obtain ⟨o1, o2⟩ := is_in (hi := 3) ea (by omega) (by omega)
    rw [o1, o2] at hh; exact hh
  refine v_X7_poem ⟨fun e => s_hmW hT hL h0.2.1 hv (one 0 (by decide) e), fun e => s_lastW hT hL h0.2.1 hv (one 1 (by decide) e), fun e => s_lastw hT hL ⟨ht, ?_⟩, fun e => s_lastw hT hL ⟨ht, ?_⟩, fun e => ?_⟩
  · rw [ha 10 (by decide)]; exact one 2 (by decide) e
  · rw [ha 12 (by decide)]; exact one 3 (by decide) e
  · rw [show okA a 3 = false from not_in (n := 3) (by decide) e] at hh; exact hh
theorem X_doing {Q : HP → Int32 → Prop} {a b : Int32} (h0 : okS0 σ) (hX : RX I σ) (h : XP I σ Q (an_doing σ a b)) : RI G Y_X7_doing [.ref 0, .int a, .int b] I Q := by
  have hh := h I (fun _ _ => rfl) hX
  have hL := hX.2.2.2.1
  have hT : isTel 6 := Or.inl rfl
  have hv : okVs (vsT (sF σ 0)) (z0 σ) := okVT _ _
  unfold an_doing at hh
  obtain ⟨z, hz, ea, ez⟩ := i32 a
  have ca : okA a 299 = decide (0 ≤ z ∧ z ≤ 299) := by unfold okA; rw [ez]
  rw [ca, ez] at hh
  refine v_X7_doing ?_
  rw [ea, l0, l299, iN_lt (by omega) (by omega), iN_le (by omega) (by omega)]
  refine ⟨fun c => ?_, fun c => ⟨fun c2 => ?_, fun c2 => ?_⟩⟩
  · rw [decide_eq_false (by omega)] at hh; exact hh
  · rw [decide_eq_true (by omega)] at hh
    have one : ∀ k : Nat, k ≤ 2 → b = iN k → Q I (iN (if k = 0 then fnd (sdB (sR σ) (vsT (sF σ 0)) z) (z0 σ) 0 else if k = 1 then mdI (sR σ) (vsT (sF σ 0)) (z0 σ) z else fnd (hdB (sR σ) (vsT (sF σ 0)) z) (z0 σ) 0)) := by
      intro k hk eb
      obtain ⟨o1, o2⟩ := is_in (hi := 2) eb (by omega) (by omega)
      rw [o1, o2] at hh; exact hh
    refine ⟨fun e => s_saidIn hT hL h0.2.1 hv (by omega) (one 0 (by decide) e), fun e => s_madeIn hT hL h0.2.1 hv (by omega) (one 1 (by decide) e), fun e => s_inHand hT hL h0.2.1 hv (by omega) (one 2 (by decide) e), fun e => ?_⟩
    rw [show okA b 2 = false from not_in (n := 2) (by decide) e] at hh; exact hh
  · rw [decide_eq_false (by omega)] at hh; exact hh
end XQuery
