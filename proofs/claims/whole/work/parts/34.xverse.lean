/-! ===== calls of the class: verse, when, rest, judged, poem ===== -/
section XVerse
variable {G : CX} {I : HP} {σ : SG}
theorem told6 (h0 : okS0 σ) (hX : RX I σ) {p : Nat} (hp : p < z0 σ) : tM I (10 + p) (tσ σ (p + 1)) := by
  have := (hX.2.2.2.1).2.2.2.2 p hp
  rw [show 6 + 4 + p = 10 + p by omega] at this
  exact this
theorem s_isVerse {Q : HP → Bool → Prop} {a : Int32} (h0 : okS0 σ) (hX : RX I σ) (h : Q I (isV σ a)) : RZ G Y_X7_isVerse [.ref 0, .int a] I Q := by
  have hz := z0_le h0
  refine v_X7_isVerse ?_
  obtain ⟨z, hzb, ea, ez⟩ := i32 a
  unfold isV at h
  rw [ez] at h
  rw [show I 2 3 = iN (z0 σ) from hX.1.2.2.2.2, ea, l0, iN_lt (by omega) (by omega), iN_le (by omega) (by omega)]
  refine ⟨fun c => ?_, fun c => ⟨fun c2 => ?_, fun c2 => ?_⟩⟩
  · rw [decide_eq_false (by omega)] at h; exact h
  · rw [decide_eq_false (by omega)] at h; exact h
  · rw [decide_eq_true (by omega)] at h; exact h
theorem s_turn6 {Q : HP → Nat → Prop} {v : Nat} (h0 : okS0 σ) (hX : RX I σ) (hv : v < z0 σ) (h : Q I (10 + v)) : RA G Y_X5_turnAt [.ref 6, .int (iN v)] I Q := by
  refine s_turnAtw (Or.inl rfl) hX.2.2.2.1 (by omega) ?_
  rw [show ((v : Int) + 1).toNat = v + 1 by omega]
  unfold tc
  rw [if_neg (by omega), show 6 + 3 + (v + 1) = 10 + v by omega]
  exact h
theorem tur6 (h0 : okS0 σ) {v : Nat} (hv : v < z0 σ) : isTur (10 + v) := by
  have hz := z0_le h0
  have := tel_tu (T := 6) (p := v) (Or.inl rfl) (by show v < 12; omega)
  rw [show 6 + 4 + v = 10 + v by omega] at this
  exact this
theorem not_in {b : Int32} {n : Nat} (hn : n < 1000) (h : ∀ j : Nat, j < n + 1 → b ≠ nI j) : okA b n = false := by
  rcases okA_cases b n with q | ⟨k, hk, eb, -, -⟩
  · exact q
  · exact absurd (by rw [nI_iN]; exact eb) (h k (by omega))
theorem is_in {b : Int32} {k : Nat} {hi : Int} (e : b = iN k) (hk : (k : Int) ≤ hi) (h2 : k < 1000) : okA b hi = true ∧ tn b = k := by
  rw [e]; exact okA_n hk h2
theorem X_when {Q : HP → Int32 → Prop} {a b : Int32} (h0 : okS0 σ) (hX : RX I σ) (h : XP I σ Q (an_when σ a b)) : RI G Y_X7_when [.ref 0, .int a, .int b] I Q := by
  have hh := h I (fun _ _ => rfl) hX
  refine v_X7_when (s_isVerse h0 hX ?_)
  rw [bI_0]
  unfold an_when at hh
  rcases isV_cases (σ := σ) a with c | ⟨v, hv, ea, htn, hok⟩
  · rw [c] at hh ⊢
    exact ⟨fun q => absurd rfl q, fun _ => hh⟩
  · rw [hok, htn] at hh
    refine ⟨fun _ => ?_, fun q => absurd (hok.symm.trans q) (by decide)⟩
    subst ea
    have ht := told6 h0 hX hv
    refine s_turn6 h0 hX hv ⟨tur6 h0 hv, ?_⟩
    have one : ∀ k : Nat, k ≤ 4 → b = iN k → Q I (I (10 + v) (4 + k)) := by
      intro k hk eb
      obtain ⟨o1, o2⟩ := is_in (hi := 4) eb (by omega) (by omega)
      rw [o1, o2] at hh
      rw [ht.1 (4 + k) (by omega)]
      exact hh
    refine ⟨fun e => one 0 (by decide) e, fun e => one 1 (by decide) e, fun e => one 2 (by decide) e, fun e => one 3 (by decide) e, fun e => one 4 (by decide) e, fun e => ?_⟩
    rw [show okA b 4 = false from not_in (n := 4) (by decide) e] at hh
    exact hh
theorem X_verse {Q : HP → Int32 → Prop} {a b : Int32} (h0 : okS0 σ) (hX : RX I σ) (h : XP I σ Q (an_verse σ a b)) : RI G Y_X7_verse [.ref 0, .int a, .int b] I Q := by
  have hh := h I (fun _ _ => rfl) hX
  refine v_X7_verse (s_isVerse h0 hX ?_)
  rw [bI_0]
  unfold an_verse at hh
  rcases isV_cases (σ := σ) a with c | ⟨v, hv, ea, htn, hok⟩
  · rw [c] at hh ⊢
    exact ⟨fun q => absurd rfl q, fun _ => hh⟩
  · rw [hok, htn] at hh
    refine ⟨fun _ => ?_, fun q => absurd (hok.symm.trans q) (by decide)⟩
    subst ea
    have ht := told6 h0 hX hv
    have hvz : v < szT (sF σ 0) (sN σ 0) := hv
    refine s_turn6 h0 hX hv ⟨tur6 h0 hv, ?_⟩
    have one : ∀ k : Nat, k ≤ 5 → b = iN k → Q I (iN (if k = 3 then kd (sF σ 0) v else if k < 3 then fg (sF σ 0) v k else if k = 4 then tσ σ (v + 1) 1 else tσ σ (v + 1) 3)) := by
      intro k hk eb
      obtain ⟨o1, o2⟩ := is_in (hi := 5) eb (by omega) (by omega)
      rw [o1, o2] at hh
      exact hh
    refine ⟨fun e => s_figure (w := 0) (Or.inl rfl) hX.1 hvz (by decide) (one 0 (by decide) e), fun e => s_figure (w := 1) (Or.inl rfl) hX.1 hvz (by decide) (one 1 (by decide) e), fun e => s_figure (w := 2) (Or.inl rfl) hX.1 hvz (by decide) (one 2 (by decide) e), fun e => ?_, fun e => ?_, fun e => ?_, fun e => ?_⟩
    · rw [ht.1 0 (by decide)]; exact one 3 (by decide) e
    · rw [ht.1 1 (by decide)]; exact one 4 (by decide) e
    · rw [ht.1 3 (by decide)]; exact one 5 (by decide) e
    · rw [show okA b 5 = false from not_in (n := 5) (by decide) e] at hh
      exact hh
theorem X_rest {Q : HP → Int32 → Prop} {a : Int32} (h0 : okS0 σ) (hX : RX I σ) (h : XP I σ Q (an_rest σ a)) : RI G Y_X7_rest [.ref 0, .int a] I Q := by
  have hh := h I (fun _ _ => rfl) hX
  have hz := z0_le h0
  refine v_X7_rest (s_isVerse h0 hX ?_)
  rw [bI_0]
  unfold an_rest at hh
  rcases isV_cases (σ := σ) a with c | ⟨v, hv, ea, htn, hok⟩
  · rw [c] at hh ⊢
    exact ⟨fun q => absurd rfl q, fun _ => hh⟩
  · rw [hok, htn] at hh
    refine ⟨fun _ => ?_, fun q => absurd (hok.symm.trans q) (by decide)⟩
    subst ea
    have ht := told6 h0 hX hv
    have b4 : -1 ≤ tσ σ (v + 1) 4 ∧ tσ σ (v + 1) 4 ≤ 10000 := tl_bd h0.2.1 (okVT _ _) (show szT (sF σ 0) (sN σ 0) ≤ 14 from by have : z0 σ = szT (sF σ 0) (sN σ 0) := rfl; omega) hv 4 (by decide) (by decide)
    refine s_turn6 h0 hX hv ⟨tur6 h0 hv, ?_⟩
    rw [ht.1 4 (by decide), show (-1 : Int32) = iN (-1) from rfl, iN_eq (by omega) (by omega)]
    refine ⟨fun c => ?_, fun c => ?_⟩
    · rw [ht.2 c]
      simp only [if_true, if_neg c] at hh
      exact hh
    · simp only [if_true, if_pos c] at hh
      exact hh
theorem X_judged {Q : HP → Int32 → Prop} (h0 : okS0 σ) (hX : RX I σ) (h : XP I σ Q (an_judged σ)) : RI G Y_X7_judged [.ref 0] I Q := by
  have hh := h I (fun _ _ => rfl) hX
  have hz := z0_le h0
  have e23 : I 2 3 = iN (z0 σ) := hX.1.2.2.2.2
  refine v_X7_judged ?_
  have loop : ∀ m p : Nat, p + m = z0 σ → Q I (iN (fnd (jdB (sR σ) (vsT (sF σ 0))) m p)) → GI G Y_X7_judged 2 [(0, .ref 0), (1, .int (iN p))] I Q := by
    intro m
    induction m with
    | zero =>
      intro p hp hq
      exact v_X7_judged_2 ⟨fun _ => hq, fun q => absurd (by rw [e23, iN_le (by omega) (by omega)]; omega) q⟩
    | succ m ih =>
      intro p hp hq
      have hv : p < z0 σ := by omega
      have ht := told6 h0 hX hv
      have h14 : szT (sF σ 0) (sN σ 0) ≤ 14 := by have : z0 σ = szT (sF σ 0) (sN σ 0) := rfl; omega
      have b7 : -1 ≤ tσ σ (p + 1) 7 ∧ tσ σ (p + 1) 7 ≤ 10000 := tl_bd h0.2.1 (okVT _ _) h14 hv 7 (by decide) (by decide)
      have b8 : -1 ≤ tσ σ (p + 1) 8 ∧ tσ σ (p + 1) 8 ≤ 10000 := tl_bd h0.2.1 (okVT _ _) h14 hv 8 (by decide) (by decide)
      refine v_X7_judged_2 ⟨fun q => absurd q (by rw [e23, iN_le (by omega) (by omega)]; omega), fun _ => s_turn6 h0 hX hv ⟨tur6 h0 hv, ?_⟩⟩
      rw [ht.1 7 (by decide), ht.1 8 (by decide), show (-1 : Int32) = iN (-1) from rfl, l0, iN_eq (by omega) (by omega), iN_le (by omega) (by omega), show iN (p : Int) + (1 : Int32) = iN ((p + 1 : Nat) : Int) from iN_add p 1]
      rw [fnd_s] at hq
      have ej : jdB (sR σ) (vsT (sF σ 0)) p = decide (tσ σ (p + 1) 7 = -1 ∨ tσ σ (p + 1) 8 ≠ 0) := by
        unfold jdB tσ
        exact decide_eq_decide.mpr (by constructor <;> (intro w; omega))
      have dead : tσ σ (p + 1) 7 ≠ -1 → 0 ≤ tσ σ (p + 1) 8 := by
        intro w
        have g := (tl_bg (wr_le (R := sR σ) (vs := vsT (sF σ 0)) (n := z0 σ) h0.2.1 (okVT _ _) hv (by omega) w).1).2.2.2.2.1
        have pz := (pzT_bd (tl (sR σ) (vsT (sF σ 0)) (p + 1) 9) (tl (sR σ) (vsT (sF σ 0)) p 13)).1
        show 0 ≤ tl (sR σ) (vsT (sF σ 0)) (p + 1) 8
        omega
      refine ⟨fun c => ?_, fun c => ⟨fun c2 => ?_, fun c2 => ?_⟩⟩
      · rw [if_pos (by rw [ej]; exact decide_eq_true (Or.inl c))] at hq; exact hq
      · have := dead c
        rw [if_neg (by rw [ej, decide_eq_false (by omega)]; decide)] at hq
        exact ih (p + 1) (by omega) hq
      · rw [if_pos (by rw [ej]; exact decide_eq_true (Or.inr (by omega)))] at hq; exact hq
  exact loop (z0 σ) 0 (by omega) hh
end XVerse
