/-! ===== calls of the class: SHEETS ===== -/
section XSheet
variable {G : CX} {I : HP} {σ : SG}
theorem s_isSheet7 {Q : HP → Bool → Prop} {a : Int32} (h : Q I (okA a 3)) : RZ G Y_X7_isSheet [.int a] I Q := by
  refine v_X7_isSheet ?_
  obtain ⟨x, hx, ea, ex⟩ := i32 a
  have e : okA a 3 = decide (0 ≤ x ∧ x ≤ 3) := by unfold okA; rw [ex]
  rw [e] at h
  rw [ea, l0, l4, iN_lt (by omega) (by omega), iN_le (by omega) (by omega)]
  refine ⟨fun c => ?_, fun c => ⟨fun c2 => ?_, fun c2 => ?_⟩⟩
  · rw [decide_eq_false (by omega)] at h; exact h
  · rw [decide_eq_false (by omega)] at h; exact h
  · rw [decide_eq_true (by omega)] at h; exact h
theorem s_isForm7 {Q : HP → Bool → Prop} {a : Int32} (h : Q I (okA a 2)) : RZ G Y_X7_isForm [.int a] I Q := by
  refine v_X7_isForm ?_
  obtain ⟨x, hx, ea, ex⟩ := i32 a
  have e : okA a 2 = decide (0 ≤ x ∧ x ≤ 2) := by unfold okA; rw [ex]
  rw [e] at h
  rw [ea, l0, l3, iN_lt (by omega) (by omega), iN_le (by omega) (by omega)]
  refine ⟨fun c => ?_, fun c => ⟨fun c2 => ?_, fun c2 => ?_⟩⟩
  · rw [decide_eq_false (by omega)] at h; exact h
  · rw [decide_eq_false (by omega)] at h; exact h
  · rw [decide_eq_true (by omega)] at h; exact h
theorem she_s {s : Nat} (hs : s < 4) : isShe (50 + 2 * s) := by
  rcases (show s = 0 ∨ s = 1 ∨ s = 2 ∨ s = 3 by omega) with rfl | rfl | rfl | rfl
  · exact Or.inl rfl
  · exact Or.inr (Or.inl rfl)
  · exact Or.inr (Or.inr (Or.inl rfl))
  · exact Or.inr (Or.inr (Or.inr rfl))
theorem RX_sht (hX : RX I σ) {s : Nat} (hs : s < 4) : I (50 + 2 * s) 1 = (if sFm σ s = -1 then 1 else 0) ∧ (sFm σ s ≠ -1 → I (50 + 2 * s) 2 = iN (sFm σ s) ∧ I (50 + 2 * s) 3 = iN (sSz σ s) ∧ ∀ i, i < sSz σ s → I (51 + 2 * s) i = sIt σ s i) := hX.2.2.2.2.2.2.2.2.1 s hs
theorem lost_iff (hX : RX I σ) {s : Nat} (hs : s < 4) : I (50 + 2 * s) 1 = 0 ↔ sFm σ s ≠ -1 := by
  rw [(RX_sht hX hs).1]
  by_cases c : sFm σ s = -1
  · rw [if_pos c]; exact ⟨fun q => absurd q (by decide), fun q => absurd c q⟩
  · rw [if_neg c]; exact ⟨fun _ => c, fun _ => rfl⟩
/-- SHEETS and the latest FINDING alone have changed -/
theorem RX_sh {I' : HP} {fm : Nat → Int} {sz : Nat → Nat} {it : Nat → Nat → Int32} {la : Int} (hX : RX I σ) (e : ∀ a, 1 ≤ a → a < 50 → I' a = I a) (e0 : ∀ j, j ≠ 11 → I' 0 j = I 0 j) (hs : ∀ s, s < 4 → I' (50 + 2 * s) 1 = (if fm s = -1 then 1 else 0) ∧ (fm s ≠ -1 → I' (50 + 2 * s) 2 = iN (fm s) ∧ I' (50 + 2 * s) 3 = iN (sz s) ∧ ∀ i, i < sz s → I' (51 + 2 * s) i = it s i)) (hl : I' 0 11 = iN la) : RX I' (upSh σ fm sz it la) := by
  obtain ⟨h1, h2, h3, h4, h5, h6, h7, h8, h9, h10⟩ := hX
  refine ⟨isS_fr h1 (e 2 (by decide) (by decide)) (e 3 (by decide) (by decide)), isS_fr h2 (e 4 (by decide) (by decide)) (e 5 (by decide) (by decide)), ?_, ?_, ?_, ?_, ?_, ?_, hs, hl⟩
  · rw [e 1 (by decide) (by decide)]; exact h3
  · obtain ⟨q1, q2, q3, q4, q5⟩ := h4
    refine ⟨q1, by rw [e 6 (by decide) (by decide)]; exact q2, fun r hr => by rw [e 7 (by decide) (by decide)]; exact q3 r hr, fun j hj => by rw [e 8 (by decide) (by decide)]; exact q4 j hj, fun p hp => tM_fr (q5 p hp) (e _ (by omega) ?_)⟩
    have : teN 6 = 12 := rfl
    have hp : p < z0 σ := hp
    omega
  · rw [e 24 (by decide) (by decide)]; exact h5
  · rw [e0 9 (by decide), e 41 (by decide) (by decide)]; exact h6
  · rw [e0 10 (by decide), e 42 (by decide) (by decide), e 44 (by decide) (by decide)]; exact h7
  · rw [e 46 (by decide) (by decide), e 47 (by decide) (by decide), e 48 (by decide) (by decide)]; exact h8
theorem RX_la {k : Int} (hX : RX I σ) : RX (st I 0 11 (iN k)) (upLa σ k) := by
  refine RX_sh hX (fun a h1 _ => st_ne1 (by omega)) (fun j hj => st_ne2 hj) (fun s hs => ?_) (st_self _ _ _ _)
  rw [st_ne1 (by omega), st_ne1 (by omega)]; exact RX_sht hX hs
theorem RX_it {I' : HP} {s : Nat} {it : Nat → Nat → Int32} (hX : RX I σ) (hs : s < 4) (e : ∀ a, a ≠ 51 + 2 * s → I' a = I a) (ho : ∀ u, u ≠ s → it u = sIt σ u) (hi : ∀ k, k < sSz σ s → sFm σ s ≠ -1 → I' (51 + 2 * s) k = it s k) : RX I' (upSh σ (sFm σ) (sSz σ) it (sLa σ)) := by
  refine RX_sh hX (fun a h1 _ => e a (by omega)) (fun j _ => by rw [e 0 (by omega)]) (fun u hu => ?_) (by rw [e 0 (by omega)]; exact hX.2.2.2.2.2.2.2.2.2)
  obtain ⟨q1, q2⟩ := RX_sht hX hu
  rw [e (50 + 2 * u) (by omega)]
  refine ⟨q1, fun c => ⟨(q2 c).1, (q2 c).2.1, fun k hk => ?_⟩⟩
  by_cases c2 : u = s
  · subst c2; exact hi k hk c
  · rw [e (51 + 2 * u) (by omega), ho u c2]; exact (q2 c).2.2 k hk
theorem s_found {Q : HP → Int32 → Prop} {k : Int} (hX : RX I σ) (h : XP I (upLa σ k) Q (iN (-10 - k))) : RI G Y_X7_found [.ref 0, .int (iN k)] I Q := by
  refine v_X7_found ?_
  rw [show (-10 : Int32) = iN (-10) from rfl, iN_sub]
  exact h _ (fun a ha => st_ne1 (by omega)) (RX_la hX)
theorem sz_60 (h0 : okS0 σ) {s : Nat} (hs : s < 4) (hf : sFm σ s ≠ -1) : sSz σ s ≤ 60 := h0.2.2.2.2.2.2.1 s hs hf
theorem s_hasItem {Q : HP → Bool → Prop} {s : Nat} {c : Int32} (h0 : okS0 σ) (hX : RX I σ) (hs : s < 4) (hf : sFm σ s ≠ -1) (h : Q I (decide (0 ≤ c.toInt ∧ c.toInt < sSz σ s))) : RZ G Y_X3_hasItem [.ref (50 + 2 * s), .int c] I Q := by
  refine v_X3_hasItem (she_s hs) ?_
  have h60 := sz_60 h0 hs hf
  obtain ⟨x, hx, ea, ex⟩ := i32 c
  rw [ex] at h
  rw [((RX_sht hX hs).2 hf).2.1, ea, l0, l60, iN_lt (by omega) (by omega), iN_le (by omega) (by omega), iN_le (by omega) (by omega)]
  refine ⟨fun c => ?_, fun c => ⟨fun c2 => ?_, fun c2 => ⟨fun c3 => ?_, fun c3 => ?_⟩⟩⟩
  · rw [decide_eq_false (by omega)] at h; exact h
  · rw [decide_eq_false (by omega)] at h; exact h
  · rw [decide_eq_false (by omega)] at h; exact h
  · rw [decide_eq_true (by omega)] at h; exact h
theorem s_item {Q : HP → Int32 → Prop} {s i : Nat} (h0 : okS0 σ) (hX : RX I σ) (hs : s < 4) (hf : sFm σ s ≠ -1) (hi : i < sSz σ s) (h : Q I (sIt σ s i)) : RI G Y_X3_item [.ref (50 + 2 * s), .int (iN i)] I Q := by
  have h60 := sz_60 h0 hs hf
  have ei : (iN (i : Int)).toInt = i := iN_toInt (by omega) (by omega)
  refine v_X3_item (she_s hs) (s_hasItem h0 hX hs hf ?_)
  rw [ei, bI_0, decide_eq_true (by omega)]
  refine ⟨fun q => absurd q (by decide), fun _ => ⟨(vp_iN (by omega)).mpr ⟨by omega, by omega⟩, ?_⟩⟩
  rw [show nn (iN (i : Int)) = i from nn_nat (by omega), show 50 + 2 * s + 1 = 51 + 2 * s by omega, ((RX_sht hX hs).2 hf).2.2 i hi]
  exact h
theorem s_store {Q : HP → Prop} {s i : Nat} {v : Int32} (h0 : okS0 σ) (hX : RX I σ) (hs : s < 4) (hf : sFm σ s ≠ -1) (hi : i < sSz σ s) (h : Q (st I (51 + 2 * s) i (cutI (sFm σ s) v))) : RV G Y_X3_store [.ref (50 + 2 * s), .int (iN i), .int v] I Q := by
  have h60 := sz_60 h0 hs hf
  have fb := fm_bd h0 hs
  have ei : (iN (i : Int)).toInt = i := iN_toInt (by omega) (by omega)
  refine v_X3_store (she_s hs) (s_hasItem h0 hX hs hf ?_)
  rw [ei, bI_0, decide_eq_true (by omega), show nn (iN (i : Int)) = i from nn_nat (by omega), show 50 + 2 * s + 1 = 51 + 2 * s by omega, ((RX_sht hX hs).2 hf).1, l0, l1, iN_eq (by omega) (by omega), iN_eq (by omega) (by omega)]
  have vi : vp_in (iN (i : Int)) 60 := (vp_iN (by omega)).mpr ⟨by omega, by omega⟩
  unfold cutI at h
  refine ⟨fun q => absurd q (by decide), fun _ => ⟨fun c => ⟨fun c2 => ⟨vi, ?_⟩, fun c2 => ⟨vi, ?_⟩⟩, fun c => ⟨vi, ?_⟩⟩⟩
  · rw [if_neg c, if_neg c2] at h; exact h
  · rw [if_neg c, if_pos c2] at h; exact h
  · rw [if_pos c] at h; exact h
theorem s_finding {Q : HP → Int32 → Prop} {s : Nat} {b c : Int32} (h0 : okS0 σ) (hX : RX I σ) (hs : s < 4) (h : Q I (iN (lk σ s b c))) : RI G Y_X7_findingAt [.ref (50 + 2 * s), .int b, .int c] I Q := by
  have fb := fm_bd h0 hs
  refine v_X7_findingAt (she_s hs) ?_
  rw [lost_iff hX hs]
  unfold lk at h
  obtain ⟨y, hy, eb, ey⟩ := i32 b
  refine ⟨fun hf => ?_, fun hf => ?_⟩
  · rw [if_neg hf, ey] at h
    rw [((RX_sht hX hs).2 hf).1, eb, iN_eq (by omega) (by omega)]
    refine ⟨fun q => s_hasItem h0 hX hs hf ?_, fun q => ?_⟩
    · rw [if_neg (by omega)] at h
      rw [bI_0]
      by_cases c2 : 0 ≤ c.toInt ∧ c.toInt < sSz σ s
      · rw [if_pos c2] at h
        rw [decide_eq_true c2]
        exact ⟨fun w => absurd w (by decide), fun _ => h⟩
      · rw [if_neg c2] at h
        rw [decide_eq_false c2]
        exact ⟨fun _ => h, fun w => absurd rfl w⟩
    · rw [if_pos (by omega)] at h; exact h
  · rw [if_pos (by omega)] at h; exact h
theorem X_lose {Q : HP → Int32 → Prop} {a : Int32} (h0 : okS0 σ) (hX : RX I σ) (h : XP I (nx_lose σ a) Q (an_lose σ a)) : RI G Y_X7_lose [.ref 0, .int a] I Q := by
  refine v_X7_lose (s_isSheet7 ?_)
  rw [bI_0]
  unfold an_lose nx_lose at h
  rcases okA_cases a 3 with q | ⟨s, hs, ea, hsn, hok⟩
  · rw [q] at h
    exact ⟨fun w => absurd q w, fun _ => h I (fun _ _ => rfl) hX⟩
  · rw [hok, hsn] at h
    refine ⟨fun _ => ?_, fun q => absurd (hok.symm.trans q) (by decide)⟩
    subst ea
    have hs4 : s < 4 := by omega
    refine ⟨(vp_iN (by omega)).mpr ⟨by omega, by omega⟩, ?_⟩
    rw [show nn (iN (s : Int)) = s from nn_nat (by omega), lost_iff hX hs4]
    refine ⟨fun c => ?_, fun c => ?_⟩
    · simp only [if_true, if_neg c] at h
      rw [st_ne2 (by decide), ((RX_sht hX hs4).2 c).2.1]
      refine h _ (fun a ha => st_ne1 (by omega)) (RX_sh hX (fun a h1 h2 => st_ne1 (by omega)) (fun j _ => by rw [st_ne1 (by omega)]) (fun u hu => ?_) (by rw [st_ne1 (by omega)]; exact hX.2.2.2.2.2.2.2.2.2))
      show st I (50 + 2 * s) 1 1 (50 + 2 * u) 1 = (if (if u = s then (-1 : Int) else sFm σ u) = -1 then 1 else 0) ∧ ((if u = s then (-1 : Int) else sFm σ u) ≠ -1 → st I (50 + 2 * s) 1 1 (50 + 2 * u) 2 = iN (if u = s then (-1 : Int) else sFm σ u) ∧ _)
      by_cases e : u = s
      · subst e
        simp only [if_true, ne_eq, not_true, false_implies, and_true]
        exact st_self _ _ _ _
      · rw [if_neg e, st_ne1 (by omega), st_ne1 (by omega)]
        exact RX_sht hX hu
    · have c : sFm σ s = -1 := by omega
      simp only [if_true, if_pos c] at h
      exact s_found (k := 1) hX h
theorem X_lay {Q : HP → Int32 → Prop} {a b c v : Int32} (h0 : okS0 σ) (hX : RX I σ) (h : XP I (nx_lay σ a b c v) Q (an_lay σ a b c v)) : RI G Y_X7_lay [.ref 0, .int a, .int b, .int c, .int v] I Q := by
  refine v_X7_lay (s_isSheet7 ?_)
  rw [bI_0]
  unfold an_lay nx_lay at h
  rcases okA_cases a 3 with q | ⟨s, hs, ea, hsn, hok⟩
  · rw [q] at h
    exact ⟨fun _ => h I (fun _ _ => rfl) hX, fun w => absurd q w⟩
  · rw [hok, hsn] at h
    refine ⟨fun q => absurd (hok.symm.trans q) (by decide), fun _ => s_isForm7 ?_⟩
    rw [bI_0]
    subst ea
    have hs4 : s < 4 := by omega
    cases cb : okA b 2 with
    | false =>
      rw [cb] at h
      exact ⟨fun w => absurd rfl w, fun _ => h I (fun _ _ => rfl) hX⟩
    | true =>
      rw [cb] at h
      refine ⟨fun _ => ⟨(vp_iN (by omega)).mpr ⟨by omega, by omega⟩, ?_⟩, fun w => absurd w (by decide)⟩
      rw [show nn (iN (s : Int)) = s from nn_nat (by omega)]
      have lb := lk_bd (σ := σ) s b c
      refine s_finding h0 hX hs4 ?_
      rw [l0, iN_eq (by omega) (by omega)]
      refine ⟨fun c0 => ?_, fun c0 => ?_⟩
      · simp only [Bool.and_self, if_true, if_pos c0] at h
        obtain ⟨hf, hfb, hc1, hc2⟩ := lk_0 c0
        have h60 := sz_60 h0 hs4 hf
        obtain ⟨i, ei⟩ : ∃ i : Nat, c.toInt = i := ⟨c.toInt.toNat, by omega⟩
        have ec : c = iN i := by rw [iN_of c, ei]
        have htc : tn c = i := by unfold tn; omega
        rw [htc, ← hfb] at h
        rw [ec]
        refine s_store h0 hX hs4 hf (by omega) ?_
        refine h _ (fun a ha => st_ne1 (by omega)) (RX_it hX hs4 (fun a ha => st_ne1 ha) (fun u hu => if_neg hu) (fun k hk _ => ?_))
        simp only [if_true]
        by_cases e : k = i
        · subst e; rw [st_self]; simp [upd]
        · rw [st_ne2 e, ((RX_sht hX hs4).2 hf).2.2 k hk]; simp [upd, e]
      · simp only [Bool.and_self, if_true, if_neg c0] at h
        exact s_found hX h
theorem X_get {Q : HP → Int32 → Prop} {a b c : Int32} (h0 : okS0 σ) (hX : RX I σ) (h : XP I (nx_get σ a b c) Q (an_get σ a b c)) : RI G Y_X7_get [.ref 0, .int a, .int b, .int c] I Q := by
  refine v_X7_get (s_isSheet7 ?_)
  rw [bI_0]
  unfold an_get nx_get at h
  rcases okA_cases a 3 with q | ⟨s, hs, ea, hsn, hok⟩
  · rw [q] at h
    exact ⟨fun _ => h I (fun _ _ => rfl) hX, fun w => absurd q w⟩
  · rw [hok, hsn] at h
    refine ⟨fun q => absurd (hok.symm.trans q) (by decide), fun _ => s_isForm7 ?_⟩
    rw [bI_0]
    subst ea
    have hs4 : s < 4 := by omega
    cases cb : okA b 2 with
    | false =>
      rw [cb] at h
      exact ⟨fun w => absurd rfl w, fun _ => h I (fun _ _ => rfl) hX⟩
    | true =>
      rw [cb] at h
      refine ⟨fun _ => ⟨(vp_iN (by omega)).mpr ⟨by omega, by omega⟩, ?_⟩, fun w => absurd w (by decide)⟩
      rw [show nn (iN (s : Int)) = s from nn_nat (by omega)]
      have lb := lk_bd (σ := σ) s b c
      refine s_finding h0 hX hs4 ?_
      rw [l0, iN_eq (by omega) (by omega)]
      refine ⟨fun c0 => ?_, fun c0 => ?_⟩
      · simp only [Bool.and_self, if_true, if_pos c0] at h
        obtain ⟨hf, hfb, hc1, hc2⟩ := lk_0 c0
        have h60 := sz_60 h0 hs4 hf
        obtain ⟨i, ei⟩ : ∃ i : Nat, c.toInt = i := ⟨c.toInt.toNat, by omega⟩
        have ec : c = iN i := by rw [iN_of c, ei]
        have htc : tn c = i := by unfold tn; omega
        rw [htc] at h
        rw [ec]
        exact s_item h0 hX hs4 hf (by omega) (h I (fun _ _ => rfl) hX)
      · simp only [Bool.and_self, if_true, if_neg c0] at h
        exact h _ (fun a ha => st_ne1 (by omega)) (RX_la hX)
end XSheet
