/-! ===== calls of the class: odds, drawn, line ===== -/
theorem blI_pow : ∀ n : Nat, blI n = ((2 ^ (4 * n) : Nat) : Int)
  | 0 => rfl
  | n + 1 => by
    show blI n * 16 = _
    rw [blI_pow n, show 4 * (n + 1) = 4 * n + 4 by omega, Nat.pow_add]
    rfl
theorem half_end {a j k A E : Nat} (hg : Nat.gcd a (2 ^ j) = 1) (hA : A = a * 2 ^ k) (hE : E = j + k) : A / Nat.gcd A (2 ^ E) = a ∧ 2 ^ E / Nat.gcd A (2 ^ E) = 2 ^ j := by
  have e : Nat.gcd A (2 ^ E) = 2 ^ k := by rw [hA, hE, Nat.pow_add, Nat.gcd_mul_right, hg, Nat.one_mul]
  have p : 0 < 2 ^ k := Nat.pow_pos (by decide)
  rw [e]
  refine ⟨?_, ?_⟩
  · rw [hA, Nat.mul_div_cancel _ p]
  · rw [hE, Nat.pow_add, Nat.mul_div_cancel _ p]
theorem odd_gcd {a : Nat} (h : a % 2 = 1) : ∀ j, Nat.gcd a (2 ^ j) = 1 := by
  intro j
  have h2 : Nat.Coprime a 2 := by
    show Nat.gcd a 2 = 1
    rw [Nat.gcd_comm, Nat.gcd_rec, h]
    rfl
  exact Nat.Coprime.pow_right j h2
section XOdds
variable {G : CX} {I : HP} {σ : SG}
theorem s_sixt {Q : HP → Int32 → Prop} {v : Nat} (h0 : okS0 σ) (hX : RX I σ) (hv : v < z0 σ) (h : Q I (iN (sx (knO σ v)))) : RI G Y_X7_sixteenths [.ref 0, .int (iN v)] I Q := by
  have hk := knO_bd hv
  refine v_X7_sixteenths (s_turn6 h0 hX hv ⟨tur6 h0 hv, ?_⟩)
  rw [(told6 h0 hX hv).1 3 (by decide), show tσ σ (v + 1) 3 = knO σ v from rfl, l5, iN_sub, l0, iN_max (by omega)]
  exact h
theorem s_halve {Q : HP → Int64 → Prop} {w A E : Nat} (hw : w ≤ 3) (hA : A < 2 ^ 62) (hE : E ≤ 48) (h : Q I (jN (((if w % 2 = 0 then A else 2 ^ E) / Nat.gcd A (2 ^ E) : Nat) : Int))) : ∀ j k a : Nat, j + k = E → A = a * 2 ^ k → GJ G Y_X7_odds 89 [(1, .int (iN w)), (6, .long (jN ((2 ^ j : Nat) : Int))), (8, .long (jN a)), (10, .int (iN k))] I Q := by
  intro j
  induction j with
  | zero =>
    intro k a hjk ha
    have pk : 0 < 2 ^ k := Nat.pow_pos (by decide)
    have hle : a ≤ A := by rw [ha]; exact Nat.le_mul_of_pos_right a pk
    obtain ⟨q1, q2⟩ := half_end (a := a) (j := 0) (k := k) (A := A) (E := E) (by rw [Nat.pow_zero, Nat.gcd_one_right]) ha (by omega)
    have hw2 := Nat.mod_lt w (show 0 < 2 by decide)
    have fin : ((¬ (iN (w : Int) - iN (w : Int) / (2 : Int32) * (2 : Int32)) = 0) → Q I (jN ((2 ^ 0 : Nat) : Int))) ∧ (((iN (w : Int) - iN (w : Int) / (2 : Int32) * (2 : Int32)) = 0) → Q I (jN a)) := by
      rw [show (2 : Int32) = iN ((2 : Nat) : Int) from rfl, iN_rem w 2 (by omega) (by decide) (by decide), l0, iN_eq (by omega) (by omega)]
      refine ⟨fun c => ?_, fun c => ?_⟩
      · rw [if_neg (by omega), q2] at h; exact h
      · rw [if_pos (by omega), q1] at h; exact h
    refine v_X7_odds_89 ⟨fun c => absurd c (by rw [show (64 : Int32) = iN 64 from rfl, iN_le (by omega) (by omega)]; omega), fun _ => ⟨fun _ => fin, fun _ => ⟨fun _ => fin, fun c => absurd c ?_⟩⟩⟩
    decide
  | succ j ih =>
    intro k a hjk ha
    have pk : 0 < 2 ^ k := Nat.pow_pos (by decide)
    have hle : a ≤ A := by rw [ha]; exact Nat.le_mul_of_pos_right a pk
    have hw2 := Nat.mod_lt w (show 0 < 2 by decide)
    have ha2 := Nat.mod_lt a (show 0 < 2 by decide)
    have pj : 2 ^ (j + 1) < 2 ^ 62 := Nat.pow_lt_pow_right (by decide) (by omega)
    have ej : 2 ^ (j + 1) = 2 ^ j * 2 := Nat.pow_succ 2 j
    have ej2 : 2 ^ (j + 1) % 2 = 0 := by omega
    have ejd : 2 ^ (j + 1) / 2 = 2 ^ j := by omega
    have fin : a % 2 = 1 → ((¬ (iN (w : Int) - iN (w : Int) / (2 : Int32) * (2 : Int32)) = 0) → Q I (jN ((2 ^ (j + 1) : Nat) : Int))) ∧ (((iN (w : Int) - iN (w : Int) / (2 : Int32) * (2 : Int32)) = 0) → Q I (jN a)) := by
      intro odd
      obtain ⟨q1, q2⟩ := half_end (a := a) (j := j + 1) (k := k) (A := A) (E := E) (odd_gcd odd _) ha (by omega)
      rw [show (2 : Int32) = iN ((2 : Nat) : Int) from rfl, iN_rem w 2 (by omega) (by decide) (by decide), l0, iN_eq (by omega) (by omega)]
      refine ⟨fun c => ?_, fun c => ?_⟩
      · rw [if_neg (by omega), q2] at h; exact h
      · rw [if_pos (by omega), q1] at h; exact h
    refine v_X7_odds_89 ⟨fun c => absurd c (by rw [show (64 : Int32) = iN 64 from rfl, iN_le (by omega) (by omega)]; omega), fun _ => ?_⟩
    rw [lg_cmp_eq, lg_cmp_eq, show (2 : Int64) = jN ((2 : Nat) : Int) from rfl, jN_rem (by omega) (by decide), jN_rem (by omega) (by decide), jN_div (by omega) (by decide) (by decide), jN_div (by omega) (by decide) (by decide), show (0 : Int64) = jN 0 from rfl, jN_eq (by omega) (by omega), jN_eq (by omega) (by omega), ejd, show iN (k : Int) + (1 : Int32) = iN ((k + 1 : Nat) : Int) from iN_add k 1]
    refine ⟨fun c => fin (by omega), fun c => ⟨fun c2 => absurd (by omega) c2, fun _ => ?_⟩⟩
    refine ih (k + 1) (a / 2) (by omega) ?_
    have e2 : a = a / 2 * 2 := by omega
    rw [Nat.pow_succ, Nat.mul_comm (2 ^ k) 2, ← Nat.mul_assoc, ← e2]
    exact ha
theorem X_odds {Q : HP → Int64 → Prop} {a : Int32} (h0 : okS0 σ) (hX : RX I σ) (h : ∀ I', (∀ a, 58 ≤ a → I' a = I a) → RX I' σ → Q I' (an_odds σ a)) : RJ G Y_X7_odds [.ref 0, .int a] I Q := by
  have hh := h I (fun _ _ => rfl) hX
  have hz := z0_le h0
  have e23 : I 2 3 = iN (z0 σ) := hX.1.2.2.2.2
  unfold an_odds at hh
  refine v_X7_odds ?_
  obtain ⟨z, hzb, ea, ez⟩ := i32 a
  have ca : okA a 3 = decide (0 ≤ z ∧ z ≤ 3) := by unfold okA; rw [ez]
  rw [ca] at hh
  rw [show (a < 0) = (iN z < iN 0) by rw [ea]; rfl, show (a ≤ 3) = (iN z ≤ iN 3) by rw [ea]; rfl, iN_lt (by omega) (by omega), iN_le (by omega) (by omega)]
  refine ⟨fun c => ?_, fun c => ⟨fun c2 => ?_, fun c2 => ?_⟩⟩
  · rw [decide_eq_false (by omega)] at hh; exact hh
  · rw [decide_eq_true (by omega)] at hh
    obtain ⟨w, ew⟩ : ∃ w : Nat, z = w := ⟨z.toNat, by omega⟩
    have htn : tn a = w := by unfold tn; omega
    have hh : Q I (od σ w) := by rw [htn] at hh; exact hh
    rw [show a = iN w by rw [ea, ew]]
    have loop : ∀ m i : Nat, i + m = z0 σ → GJ G Y_X7_odds 24 [(0, .ref 0), (1, .int (iN w)), (2, .long (jN (whI (knO σ) i))), (4, .long (jN (smI (knO σ) i))), (6, .long (jN (blI i))), (8, .int (iN i))] I Q := by
      intro m
      induction m with
      | zero =>
        intro i hi
        have ei : i = z0 σ := by omega
        rw [ei]
        obtain ⟨b1, b2, b3⟩ := od_bd h0 (z0 σ) (Nat.le_refl _)
        have eB : odB σ = 2 ^ (4 * z0 σ) := by unfold odB; rw [blI_pow]; rfl
        unfold od at hh
        rw [eB] at hh
        refine v_X7_odds_24 ⟨fun _ => ?_, fun c => absurd (by rw [e23, iN_le (by omega) (by omega)]; omega) c⟩
        rw [l2, iN_le (by omega) (by omega), blI_pow]
        refine ⟨fun c3 => ?_, fun c3 => ?_⟩
        · have eA : smI (knO σ) (z0 σ) = ((odA σ w : Nat) : Int) := by unfold odA; rw [if_neg (by omega)]; omega
          rw [eA]
          exact s_halve (by omega) (by omega) (by omega) hh (4 * z0 σ) 0 (odA σ w) (by omega) (by rw [Nat.pow_zero, Nat.mul_one])
        · have eA : whI (knO σ) (z0 σ) = ((odA σ w : Nat) : Int) := by unfold odA; rw [if_pos (by omega)]; omega
          rw [eA]
          exact s_halve (by omega) (by omega) (by omega) hh (4 * z0 σ) 0 (odA σ w) (by omega) (by rw [Nat.pow_zero, Nat.mul_one])
      | succ m ih =>
        intro i hi
        have hk := knO_bd (σ := σ) (show i < z0 σ by omega)
        have hs := sx_bd hk
        refine v_X7_odds_24 ⟨fun c => absurd c (by rw [e23, iN_le (by omega) (by omega)]; omega), fun _ => s_sixt h0 hX (by omega) (fun z5 e5 => ?_)⟩
        rw [l16, iN_sub, iN_64 (by omega), jN_mul] at e5 ⊢
        rw [show (16 : Int64) = jN 16 from rfl, jN_mul, jN_add] at e5
        rw [show (16 : Int64) = jN 16 from rfl, jN_mul, show iN (i : Int) + (1 : Int32) = iN ((i + 1 : Nat) : Int) from iN_add i 1]
        have es : z5 = jN (smI (knO σ) (i + 1)) := by
          rw [e5]
          show _ = jN (16 * smI (knO σ) i + whI (knO σ) i * (16 - sx (knO σ i)))
          rw [Int.mul_comm 16]
        rw [es]
        exact ih (i + 1) (by omega)
    exact loop (z0 σ) 0 (by omega)
  · rw [decide_eq_false (by omega)] at hh; exact hh
theorem X_drawn {Q : HP → Int32 → Prop} {a : Int32} (h0 : okS0 σ) (hX : RX I σ) (h : XP I σ Q (an_drawn σ a)) : RI G Y_X7_drawn [.ref 0, .int a] I Q := by
  have hh := h I (fun _ _ => rfl) hX
  have hz := z0_le h0
  have e23 : I 2 3 = iN (z0 σ) := hX.1.2.2.2.2
  refine v_X7_drawn ?_
  have loop : ∀ m i : Nat, i + m = z0 σ → ∀ z, Q I (iN (drw (knO σ) m i z)) → GI G Y_X7_drawn 4 [(0, .ref 0), (2, .int z), (3, .int (iN i))] I Q := by
    intro m
    induction m with
    | zero =>
      intro i hi z hq
      refine v_X7_drawn_4 ⟨fun _ => ?_, fun c => absurd (by rw [e23, iN_le (by omega) (by omega)]; omega) c⟩
      rw [e23, ← show i = z0 σ by omega]
      exact hq
    | succ m ih =>
      intro i hi z hq
      have hk := knO_bd (σ := σ) (show i < z0 σ by omega)
      have hs := sx_bd hk
      have ex : sx (knO σ i) = if 0 < knO σ i - 5 then knO σ i - 5 else 0 := rfl
      refine v_X7_drawn_4 ⟨fun c => absurd c (by rw [e23, iN_le (by omega) (by omega)]; omega), fun _ => s_sixt h0 hX (by omega) ?_⟩
      rw [l0, iN_le (by omega) (by omega), show iN (i : Int) + (1 : Int32) = iN ((i + 1 : Nat) : Int) from iN_add i 1]
      unfold drw at hq
      refine ⟨fun c => ?_, fun c z4 e4 => ?_⟩
      · have c5 : knO σ i ≤ 5 := by
          by_cases q : 0 < knO σ i - 5
          · rw [if_pos q] at ex; omega
          · omega
        rw [if_pos c5] at hq
        exact ih (i + 1) (by omega) z hq
      · have c5 : ¬ knO σ i ≤ 5 := by
          intro q
          rw [if_neg (by omega)] at ex
          omega
        have e5 : sx (knO σ i) = knO σ i - 5 := by rw [ex, if_pos (by omega)]
        rw [if_neg c5, ← e4] at hq
        rw [e5]
        refine ⟨fun c2 => ?_, fun c2 => ?_⟩
        · rw [if_pos (show iN (knO σ i - 5) ≤ rm16 z4 from c2)] at hq
          exact ih (i + 1) (by omega) z4 hq
        · rw [if_neg (show ¬ iN (knO σ i - 5) ≤ rm16 z4 from c2)] at hq
          exact hq
  exact loop (z0 σ) 0 (by omega) a hh
theorem er_sum (σ : SG) (h : Int) : ∀ n, er σ h 0 n + er σ h 1 n ≤ n
  | 0 => Nat.le_refl _
  | n + 1 => by
    have ih := er_sum σ h n
    show er σ h 0 n + (if erB σ h 0 n then 1 else 0) + (er σ h 1 n + (if erB σ h 1 n then 1 else 0)) ≤ n + 1
    by_cases c0 : erB σ h 0 n = true
    · have c1 : erB σ h 1 n = false := by
        unfold erB at c0 ⊢
        rw [if_pos rfl, decide_eq_true_iff] at c0
        rw [if_neg (by decide), decide_eq_false_iff_not]
        omega
      rw [if_pos c0, c1]
      simp
      omega
    · rw [if_neg c0]
      split <;> omega
theorem s_errorsBy {Q : HP → Int32 → Prop} {h : Int} {w : Nat} (h0 : okS0 σ) (hX : RX I σ) (hh : 0 ≤ h ∧ h ≤ 10) (hw : w ≤ 1) (hq : Q I (iN (er σ h w (z0 σ)))) : RI G Y_X7_errorsBy [.ref 0, .int (iN h), .int (iN w)] I Q := by
  have hz := z0_le h0
  have e23 : I 2 3 = iN (z0 σ) := hX.1.2.2.2.2
  have hF5 := h0.2.2.1
  obtain ⟨F, eF⟩ : ∃ F : Nat, sR σ 5 = F := ⟨(sR σ 5).toNat, by omega⟩
  refine v_X7_errorsBy ?_
  have loop : ∀ m v : Nat, v + m = z0 σ → GI G Y_X7_errorsBy 5 [(0, .ref 0), (1, .int (iN h)), (2, .int (iN w)), (3, .int (iN (er σ h w v))), (4, .int (iN v))] I Q := by
    intro m
    induction m with
    | zero =>
      intro v hv
      refine v_X7_errorsBy_5 ⟨fun _ => ?_, fun c => absurd (by rw [e23, iN_le (by omega) (by omega)]; omega) c⟩
      rw [show v = z0 σ by omega]; exact hq
    | succ m ih =>
      intro v hv
      have hvz : v < szT (sF σ 0) (sN σ 0) := by have : z0 σ = szT (sF σ 0) (sN σ 0) := rfl; omega
      have hfg := fg_bd hvz 2 (by decide)
      have hle := er_le σ h w v
      refine v_X7_errorsBy_5 ⟨fun c => absurd c (by rw [e23, iN_le (by omega) (by omega)]; omega), fun _ => s_figure (w := 2) (Or.inl rfl) hX.1 hvz (by decide) ?_⟩
      have hmod := Nat.mod_lt (F / 2 ^ v) (show 0 < 2 by decide)
      rw [hX.2.2.1 5 (by decide), eF, show (1 : Int32) = 1 from rfl, bit12 (by omega) (by omega), iN_lt (by omega) (by omega), l0, l1, iN_eq (by omega) (by omega), iN_eq (by omega) (by omega), iN_add, iN_add]
      have nx := ih (v + 1) (by omega)
      have e1 : er σ h w (v + 1) = er σ h w v + (if erB σ h w v then 1 else 0) := rfl
      have ebd : erB σ h w v = if w = 0 then decide (h ≤ fg (sF σ 0) v 2 ∧ F / 2 ^ v % 2 = 0) else decide (fg (sF σ 0) v 2 < h ∧ F / 2 ^ v % 2 = 1) := by unfold erB; rw [eF, Int.toNat_natCast]
      have yes : erB σ h w v = true → GI G Y_X7_errorsBy 5 [(0, .ref 0), (1, .int (iN h)), (2, .int (iN w)), (3, .int (iN ((er σ h w v : Int) + 1))), (4, .int (iN ((v : Int) + 1)))] I Q := by
        intro c
        rw [e1, if_pos c] at nx
        exact nx
      have no : erB σ h w v = false → GI G Y_X7_errorsBy 5 [(0, .ref 0), (1, .int (iN h)), (2, .int (iN w)), (3, .int (iN (er σ h w v : Int))), (4, .int (iN ((v : Int) + 1)))] I Q := by
        intro c
        rw [e1, if_neg (by rw [c]; decide), Nat.add_zero] at nx
        exact nx
      rw [ebd] at yes no
      refine ⟨fun c => ⟨fun c1 => ?_, fun c1 => ⟨fun c2 => ?_, fun c2 => ?_⟩⟩, fun c => ⟨fun c1 => ⟨fun c2 => ?_, fun c2 => ?_⟩, fun c1 => ?_⟩⟩
      · by_cases w0 : w = 0
        · exact no (by rw [if_pos w0]; exact decide_eq_false (by omega))
        · exact no (by rw [if_neg w0]; exact decide_eq_false (by omega))
      · exact yes (by rw [if_neg (by omega)]; exact decide_eq_true (by omega))
      · exact no (by rw [if_pos (by omega)]; exact decide_eq_false (by omega))
      · exact no (by rw [if_neg (by omega)]; exact decide_eq_false (by omega))
      · exact yes (by rw [if_pos (by omega)]; exact decide_eq_true (by omega))
      · by_cases w0 : w = 0
        · exact no (by rw [if_pos w0]; exact decide_eq_false (by omega))
        · exact no (by rw [if_neg w0]; exact decide_eq_false (by omega))
  exact loop (z0 σ) 0 (by omega)
theorem s_bestLine {Q : HP → Int32 → Prop} (h0 : okS0 σ) (hX : RX I σ) (hq : Q I (iN (bsL σ 10 1 0))) : RI G Y_X7_bestLine [.ref 0] I Q := by
  have hz := z0_le h0
  refine v_X7_bestLine ?_
  have loop : ∀ m k : Nat, k + m = 11 → ∀ l : Nat, l ≤ 10 → Q I (iN (bsL σ m k l)) → GI G Y_X7_bestLine 7 [(0, .ref 0), (1, .int (iN l)), (2, .int (iN (er2 σ l))), (3, .int (iN k))] I Q := by
    intro m
    induction m with
    | zero =>
      intro k hk l hl hq
      exact v_X7_bestLine_7 ⟨fun _ => hq, fun w => absurd (by rw [l10, iN_lt (by omega) (by omega)]; omega) w⟩
    | succ m ih =>
      intro k hk l hl hq
      refine v_X7_bestLine_7 ⟨fun w => absurd w (by rw [l10, iN_lt (by omega) (by omega)]; omega), fun _ => s_errorsBy (w := 0) h0 hX (by omega) (by omega) (s_errorsBy (w := 1) h0 hX (by omega) (by omega) ?_)⟩
      have a1 := er_sum σ k (z0 σ)
      have a2 := er_sum σ l (z0 σ)
      have e2 : ∀ x : Nat, er2 σ x = er σ x 0 (z0 σ) + er σ x 1 (z0 σ) := fun _ => rfl
      have ek := e2 k
      have el := e2 l
      rw [iN_add, show ((er σ k 0 (z0 σ) : Int) + (er σ k 1 (z0 σ) : Int)) = ((er2 σ k : Nat) : Int) by omega, iN_le (by omega) (by omega), show iN (k : Int) + (1 : Int32) = iN ((k + 1 : Nat) : Int) from iN_add k 1]
      have eS : bsL σ (m + 1) k l = bsL σ m (k + 1) (if er2 σ k < er2 σ l then k else l) := rfl
      rw [eS] at hq
      refine ⟨fun c2 => ?_, fun c2 => ?_⟩
      · rw [if_neg (by omega)] at hq
        exact ih (k + 1) (by omega) l hl hq
      · rw [if_pos (by omega)] at hq
        exact ih (k + 1) (by omega) k (by omega) hq
  refine v_X7_bestLine_7 ⟨fun w => absurd w (by decide), fun _ => s_errorsBy (h := 0) (w := 0) h0 hX (by omega) (by omega) (s_errorsBy (h := 0) (w := 1) h0 hX (by omega) (by omega) ?_)⟩
  have a1 := er_sum σ ((0 : Nat) : Int) (z0 σ)
  have e2 : er2 σ 0 = er σ ((0 : Nat) : Int) 0 (z0 σ) + er σ ((0 : Nat) : Int) 1 (z0 σ) := rfl
  rw [iN_add, show ((er σ 0 0 (z0 σ) : Int) + (er σ 0 1 (z0 σ) : Int)) = ((er2 σ 0 : Nat) : Int) by rw [e2]; rfl, l13, iN_le (by omega) (by omega)]
  exact ⟨fun c => absurd c (by omega), fun _ => loop 10 1 (by omega) 0 (by omega) hq⟩
theorem X_line {Q : HP → Int32 → Prop} {a b : Int32} (h0 : okS0 σ) (hX : RX I σ) (h : XP I σ Q (an_line σ a b)) : RI G Y_X7_line [.ref 0, .int a, .int b] I Q := by
  have hh := h I (fun _ _ => rfl) hX
  unfold an_line at hh
  obtain ⟨z, hz, ea, ez⟩ := i32 a
  obtain ⟨y, hy, eb, ey⟩ := i32 b
  have cb : okA b 1 = decide (0 ≤ y ∧ y ≤ 1) := by unfold okA; rw [ey]
  rw [ez, cb] at hh
  refine v_X7_line ?_
  rw [show (-1 : Int32) = iN (-1) from rfl, ea, eb, l0, l1, l10, iN_lt (by omega) (by omega), iN_lt (by omega) (by omega), iN_lt (by omega) (by omega), iN_le (by omega) (by omega), iN_eq (by omega) (by omega)]
  refine ⟨fun c => ?_, fun c => ⟨fun c2 => ?_, fun c2 => ⟨fun c3 => ?_, fun c3 => ⟨fun c4 => ?_, fun c4 => ?_⟩⟩⟩⟩
  · rw [decide_eq_false (show ¬ (-1 ≤ z ∧ z ≤ 10) by omega)] at hh; exact hh
  · rw [decide_eq_false (show ¬ (-1 ≤ z ∧ z ≤ 10) by omega)] at hh; exact hh
  · rw [decide_eq_false (show ¬ (0 ≤ y ∧ y ≤ 1) by omega), Bool.and_false] at hh; exact hh
  · rw [decide_eq_true (show -1 ≤ z ∧ z ≤ 10 by omega), decide_eq_true (show 0 ≤ y ∧ y ≤ 1 by omega)] at hh
    obtain ⟨w, ew⟩ : ∃ w : Nat, y = w := ⟨y.toNat, by omega⟩
    have htn : tn b = w := by unfold tn; omega
    have hh : Q I (iN (lnI σ z w)) := by rw [htn] at hh; exact hh
    unfold lnI at hh
    rw [ew]
    refine ⟨fun c5 => s_bestLine h0 hX ?_, fun c5 => ?_⟩
    · rw [if_pos c5] at hh
      have hb : bsL σ 10 1 0 ≤ 10 := by
        have : ∀ m k l : Nat, k + m = 11 → l ≤ 10 → bsL σ m k l ≤ 10 := by
          intro m
          induction m with
          | zero => intro k l _ hl; exact hl
          | succ m ih =>
            intro k l hk hl
            refine ih (k + 1) _ (by omega) ?_
            show (if er2 σ k < er2 σ l then k else l) ≤ 10
            split <;> omega
        exact this 10 1 0 (by omega) (by omega)
      rw [iN_eq (by omega) (by omega)]
      refine ⟨fun c6 => ?_, fun c6 => ?_⟩
      · rw [if_neg (by omega)] at hh
        refine s_errorsBy (w := 0) h0 hX (by omega) (by omega) (s_errorsBy (w := 1) h0 hX (by omega) (by omega) ?_)
        rw [iN_add]
        exact hh
      · rw [if_pos (by omega)] at hh
        exact hh
    · rw [if_neg c5] at hh
      exact s_errorsBy h0 hX (by omega) (by omega) hh
  · rw [decide_eq_false (show ¬ (0 ≤ y ∧ y ≤ 1) by omega), Bool.and_false] at hh; exact hh
end XOdds
