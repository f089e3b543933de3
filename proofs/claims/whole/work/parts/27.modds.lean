/-! ===== longs; calls of the reference: odds, drawn, line ===== -/
def jN (a : Int) : Int64 := Int64.ofInt a
theorem jN_toInt {a : Int} (h1 : -9223372036854775808 ≤ a) (h2 : a < 9223372036854775808) : (jN a).toInt = a := Int64.toInt_ofInt_of_le (by simpa using h1) (by simpa using h2)
theorem jN_add (a b : Int) : jN a + jN b = jN (a + b) := (Int64.ofInt_add a b).symm
theorem jN_sub (a b : Int) : jN a - jN b = jN (a - b) := (Int64.ofInt_sub a b).symm
theorem jN_mul (a b : Int) : jN a * jN b = jN (a * b) := (Int64.ofInt_mul a b).symm
theorem jN_of (x : Int64) : x = jN x.toInt := (Int64.ofInt_toInt x).symm
theorem j_of {x : Int64} {a : Int} (h : x.toInt = a) : x = jN a := by rw [← h]; exact jN_of x
theorem iN_64 {a : Int} (h1 : -2147483648 ≤ a ∧ a < 2147483648) : (iN a).toInt64 = jN a := j_of (by rw [Int32.toInt_toInt64, iN_toInt h1.1 h1.2])
theorem jN_eq {a b : Int} (h1 : -9223372036854775808 ≤ a ∧ a < 9223372036854775808) (h2 : -9223372036854775808 ≤ b ∧ b < 9223372036854775808) : jN a = jN b ↔ a = b := by
  rw [← Int64.toInt_inj, jN_toInt h1.1 h1.2, jN_toInt h2.1 h2.2]
theorem jN_div {a b : Nat} (ha : a < 2 ^ 62) (hb : b < 2 ^ 62) (h : 0 < b) : jN a / jN b = jN ((a / b : Nat) : Int) := by
  refine j_of ?_
  rw [lg_ldiv_nonneg (by rw [jN_toInt (by omega) (by omega)]; omega) (by rw [jN_toInt (by omega) (by omega)]; omega), jN_toInt (by omega) (by omega), jN_toInt (by omega) (by omega)]
  exact (Int.natCast_ediv a b).symm
theorem jN_rem {a b : Nat} (ha : a < 2 ^ 62) (hb : b < 2 ^ 62) : jN a - jN a / jN b * jN b = jN ((a % b : Nat) : Int) := by
  refine j_of ?_
  rw [Jvm.Kit.i64_rem_nonneg (by rw [jN_toInt (by omega) (by omega)]; omega), jN_toInt (by omega) (by omega), jN_toInt (by omega) (by omega)]
  exact (Int.natCast_emod a b).symm
/-- sixteenths in which a verse is never solved -/
def sx (k : Int) : Int := if 0 < k - 5 then k - 5 else 0
def whI (K : Nat → Int) : Nat → Int
  | 0 => 1
  | i + 1 => whI K i * (16 - sx (K i))
def blI : Nat → Int
  | 0 => 1
  | i + 1 => blI i * 16
def smI (K : Nat → Int) : Nat → Int
  | 0 => 0
  | i + 1 => 16 * smI K i + whI K (i + 1)
def knO (σ : SG) : Nat → Int := fun i => tσ σ (i + 1) 3
def odA (σ : SG) (w : Nat) : Nat := (if w < 2 then whI (knO σ) (z0 σ) else smI (knO σ) (z0 σ)).toNat
def odB (σ : SG) : Nat := (blI (z0 σ)).toNat
def od (σ : SG) (w : Nat) : Int64 := jN (((if w % 2 = 0 then odA σ w else odB σ) / Nat.gcd (odA σ w) (odB σ) : Nat) : Int)
def an_odds (σ : SG) (a : Int32) : Int64 := if okA a 3 then od σ (tn a) else jN (-9223372036854775806)
def rm16 (z : Int32) : Int32 := ushr z 16 - ushr z 16 / 16 * 16
def drw (K : Nat → Int) : Nat → Nat → Int32 → Int
  | 0, i, _ => i
  | m + 1, i, z => if K i ≤ 5 then drw K m (i + 1) z else if iN (K i - 5) ≤ rm16 (1103515245 * z + 12345) then drw K m (i + 1) (1103515245 * z + 12345) else i
def an_drawn (σ : SG) (a : Int32) : Int32 := iN (drw (knO σ) (z0 σ) 0 a)
def erB (σ : SG) (h : Int) (w v : Nat) : Bool := if w = 0 then decide (h ≤ fg (sF σ 0) v 2 ∧ (sR σ 5).toNat / 2 ^ v % 2 = 0) else decide (fg (sF σ 0) v 2 < h ∧ (sR σ 5).toNat / 2 ^ v % 2 = 1)
def er (σ : SG) (h : Int) (w : Nat) : Nat → Nat
  | 0 => 0
  | v + 1 => er σ h w v + (if erB σ h w v then 1 else 0)
def er2 (σ : SG) (h : Nat) : Nat := er σ h 0 (z0 σ) + er σ h 1 (z0 σ)
def bsL (σ : SG) : Nat → Nat → Nat → Nat := fo (fun l k => if er2 σ k < er2 σ l then k else l)
def lnI (σ : SG) (h : Int) (w : Nat) : Nat := if h = -1 then (if w = 0 then bsL σ 10 1 0 else er2 σ (bsL σ 10 1 0)) else er σ h w (z0 σ)
def an_line (σ : SG) (a b : Int32) : Int32 := if decide (-1 ≤ a.toInt ∧ a.toInt ≤ 10) && okA b 1 then iN (lnI σ a.toInt (tn b)) else iN (-2)
theorem sx_bd {k : Int} (h : 0 ≤ k ∧ k ≤ 9) : 0 ≤ sx k ∧ sx k ≤ 4 := by unfold sx; split <;> omega
theorem blI_bd {n : Nat} (h : n ≤ 12) : 1 ≤ blI n ∧ blI n ≤ 281474976710656 := by
  rcases (show n = 0 ∨ n = 1 ∨ n = 2 ∨ n = 3 ∨ n = 4 ∨ n = 5 ∨ n = 6 ∨ n = 7 ∨ n = 8 ∨ n = 9 ∨ n = 10 ∨ n = 11 ∨ n = 12 by omega) with rfl | rfl | rfl | rfl | rfl | rfl | rfl | rfl | rfl | rfl | rfl | rfl | rfl <;> decide
theorem blI_0 : ∀ n, 0 ≤ blI n
  | 0 => by decide
  | n + 1 => by have := blI_0 n; show 0 ≤ blI n * 16; omega
theorem wh_bd {K : Nat → Int} : ∀ n, (∀ i, i < n → 0 ≤ K i ∧ K i ≤ 9) → 0 ≤ whI K n ∧ whI K n ≤ blI n
  | 0, _ => ⟨(by decide : (0 : Int) ≤ 1), Int.le_refl _⟩
  | n + 1, h => by
    obtain ⟨i1, i2⟩ := wh_bd n (fun i hi => h i (by omega))
    have b := sx_bd (h n (by omega))
    have m1 : 0 ≤ whI K n * (16 - sx (K n)) := Int.mul_nonneg i1 (by omega)
    have m2 : whI K n * (16 - sx (K n)) ≤ blI n * 16 := Int.mul_le_mul i2 (by omega) (by omega) (by omega)
    exact ⟨m1, m2⟩
theorem sm_bd {K : Nat → Int} : ∀ n, (∀ i, i < n → 0 ≤ K i ∧ K i ≤ 9) → 0 ≤ smI K n ∧ smI K n ≤ n * blI n
  | 0, _ => ⟨Int.le_refl _, (by decide : (0 : Int) ≤ ((0 : Nat) : Int) * 1)⟩
  | n + 1, h => by
    obtain ⟨i1, i2⟩ := sm_bd n (fun i hi => h i (by omega))
    obtain ⟨w1, w2⟩ := wh_bd (n + 1) h
    have e : ((n : Int) + 1) * (blI n * 16) = 16 * (n * blI n) + blI n * 16 := by rw [Int.add_mul, Int.one_mul, ← Int.mul_assoc, Int.mul_comm ((n : Int) * blI n) 16]
    have w2 : whI K (n + 1) ≤ blI n * 16 := w2
    show 0 ≤ 16 * smI K n + whI K (n + 1) ∧ 16 * smI K n + whI K (n + 1) ≤ ((n + 1 : Nat) : Int) * (blI n * 16)
    rw [show ((n + 1 : Nat) : Int) = (n : Int) + 1 from rfl, e]
    omega
theorem knO_bd {σ : SG} {i : Nat} (hi : i < z0 σ) : 0 ≤ knO σ i ∧ knO σ i ≤ 9 := kn_bd (R := sR σ) (okVT _ _) hi
theorem od_bd {σ : SG} (h0 : okS0 σ) : ∀ i, i ≤ z0 σ → (0 ≤ whI (knO σ) i ∧ whI (knO σ) i ≤ 281474976710656) ∧ (1 ≤ blI i ∧ blI i ≤ 281474976710656) ∧ (0 ≤ smI (knO σ) i ∧ smI (knO σ) i ≤ 3377699720527872) := by
  intro i hi
  have hz := z0_le h0
  have b := blI_bd (show i ≤ 12 by omega)
  have w := wh_bd (K := knO σ) i (fun j hj => knO_bd (by omega))
  have s := sm_bd (K := knO σ) i (fun j hj => knO_bd (by omega))
  have m : (i : Int) * blI i ≤ 12 * 281474976710656 := Int.mul_le_mul (by omega) b.2 (by omega) (by omega)
  omega
section MOdds
variable {G : CX} {I : HP} {σ : SG}
theorem s_part {Q : HP → Int64 → Prop} {a b : Nat} {k : Int32} (ha : a < 2 ^ 62) (hb : b < 2 ^ 62) (h1 : 0 < b) (h : Q I (jN (((if k = 0 then a else b) / Nat.gcd a b : Nat) : Int))) : RJ G Y_X8_part [.long (jN a), .long (jN b), .int k] I Q := by
  refine v_X8_part ?_
  have loop : ∀ f y x : Nat, y < f → x < 2 ^ 62 → y < 2 ^ 62 → Nat.gcd x y = Nat.gcd a b → GJ G Y_X8_part 6 [(0, .long (jN a)), (2, .long (jN b)), (4, .int k), (5, .long (jN x)), (7, .long (jN y))] I Q := by
    intro f
    induction f with
    | zero => intro y x hy; exact absurd hy (Nat.not_lt_zero _)
    | succ f ih =>
      intro y x hy hx hy2 hg
      refine v_X8_part_6 ?_
      rw [lg_cmp_eq, show (0 : Int64) = jN 0 from rfl, jN_eq (by omega) (by omega), jN_eq (by omega) (by omega)]
      refine ⟨fun c => ?_, fun c => ⟨c, ?_⟩⟩
      · have ey : y = 0 := by omega
        rw [ey, Nat.gcd_zero_right] at hg
        have hpos : 0 < x := by rw [hg]; exact Nat.gcd_pos_of_pos_right a h1
        rw [jN_div hb hx hpos, jN_div ha hx hpos, hg]
        refine ⟨fun c2 => ⟨by omega, ?_⟩, fun c2 => ⟨by omega, ?_⟩⟩
        · rw [if_neg c2] at h; exact h
        · rw [if_pos c2] at h; exact h
      · rw [jN_rem hx hy2]
        have hlt : x % y < y := Nat.mod_lt _ (by omega)
        refine ih (x % y) y (by omega) hy2 (by omega) ?_
        rw [← hg, Nat.gcd_comm y (x % y), ← Nat.gcd_rec, Nat.gcd_comm]
  exact loop (b + 1) b a (by omega) ha hb rfl
theorem M_oddsOf {Q : HP → Int64 → Prop} {w : Nat} (h0 : okS0 σ) (hF : mF I σ) (hw : w ≤ 3) (h : Q I (od σ w)) : RJ G Y_X8_oddsOf [.ref 58, .int (iN w)] I Q := by
  have hz := z0_le h0
  have hr := hF.2.2.2.2.1
  have hS := hF.2.2.2.2.2
  refine v_X8_oddsOf ?_
  have loop : ∀ m i : Nat, i + m = z0 σ → GJ G Y_X8_oddsOf 11 [(0, .ref 58), (1, .int (iN w)), (2, .long (jN (whI (knO σ) i))), (4, .long (jN (blI i))), (6, .long (jN (smI (knO σ) i))), (8, .int (iN i))] I Q := by
    intro m
    induction m with
    | zero =>
      intro i hi
      have ei : i = z0 σ := by omega
      subst ei
      obtain ⟨b1, b2, b3⟩ := od_bd h0 (z0 σ) (Nat.le_refl _)
      refine v_X8_oddsOf_11 ⟨fun _ => ?_, fun c => absurd (by rw [hr.1, iN_le (by omega) (by omega)]; omega) c⟩
      rw [l2, iN_le (by omega) (by omega), iN_sub]
      have eB : blI (z0 σ) = ((odB σ : Nat) : Int) := by unfold odB; omega
      have hBb : odB σ < 2 ^ 62 ∧ 0 < odB σ := by omega
      unfold od at h
      refine ⟨fun c => ?_, fun c => ?_⟩
      · have eA : smI (knO σ) (z0 σ) = ((odA σ w : Nat) : Int) := by unfold odA; rw [if_neg (by omega)]; omega
        rw [eA, eB]
        refine s_part (by omega) hBb.1 hBb.2 ?_
        by_cases c2 : w = 2
        · rw [if_pos (by omega)] at h
          rw [if_pos (by rw [c2]; rfl)]
          exact h
        · rw [if_neg (by omega)] at h
          rw [if_neg (by rw [l0, iN_eq (by omega) (by omega)]; omega)]
          exact h
      · have eA : whI (knO σ) (z0 σ) = ((odA σ w : Nat) : Int) := by unfold odA; rw [if_pos (by omega)]; omega
        rw [eA, eB]
        refine s_part (by omega) hBb.1 hBb.2 ?_
        by_cases c2 : w = 0
        · rw [if_pos (by omega)] at h
          rw [if_pos (by rw [c2]; rfl)]
          exact h
        · rw [if_neg (by omega)] at h
          rw [if_neg (by rw [l0, iN_eq (by omega) (by omega)]; omega)]
          exact h
    | succ m ih =>
      intro i hi
      have hk := knO_bd (σ := σ) (show i < z0 σ by omega)
      have hs := sx_bd hk
      refine v_X8_oddsOf_11 ⟨fun c => absurd c (by rw [hr.1, iN_le (by omega) (by omega)]; omega), fun _ => ⟨(vp_iN (by omega)).mpr ⟨by omega, by omega⟩, ?_⟩⟩
      rw [show nn (iN (i : Int)) = i from nn_nat (by omega), show I 70 i = iN (knO σ i) from (hS.1 i (by omega)).2, l5, iN_sub]
      refine s_greater (by omega) (fun z10 e10 => ?_)
      have es : (if 0 < knO σ i - 5 then knO σ i - 5 else 0) = sx (knO σ i) := rfl
      rw [es, l16, iN_sub, iN_64 (by omega), jN_mul] at e10 ⊢
      rw [show (16 : Int64) = jN 16 from rfl, jN_mul, jN_add] at e10
      rw [e10, show (16 : Int64) = jN 16 from rfl, jN_mul, l1, iN_add]
      exact ih (i + 1) (by omega)
  exact loop (z0 σ) 0 (by omega)
theorem M_odds {Q : HP → Int64 → Prop} {a : Int32} (h0 : okS0 σ) (hM : RM I σ) (h : ∀ I', (∀ a, a < 58 → I' a = I a) → RM I' σ → Q I' (an_odds σ a)) : RJ G Y_X8_odds [.ref 58, .int a] I Q := by
  refine v_X8_odds (s_find h0 hM (fun I1 f1 hM1 hF => s_in3 0 3 (by decide) (by decide) ?_))
  rw [bI_0]
  unfold an_odds at h
  rcases okA_cases a 3 with c | ⟨t, ht, ea, htn, hok⟩
  · rw [c] at h
    exact ⟨fun _ => v_X8_no (h I1 (lo_sc f1) hM1), fun q => absurd c q⟩
  · rw [hok, htn] at h
    refine ⟨fun q => absurd (hok.symm.trans q) (by decide), fun _ => ?_⟩
    subst ea
    exact M_oddsOf h0 hF (by omega) (h I1 (lo_sc f1) hM1)
theorem M_drawnOf {Q : HP → Int32 → Prop} {a : Int32} (h0 : okS0 σ) (hF : mF I σ) (h : Q I (an_drawn σ a)) : RI G Y_X8_drawnOf [.ref 58, .int a] I Q := by
  have hz := z0_le h0
  have hr := hF.2.2.2.2.1
  have hS := hF.2.2.2.2.2
  refine v_X8_drawnOf ?_
  have loop : ∀ m i : Nat, i + m = z0 σ → ∀ z, Q I (iN (drw (knO σ) m i z)) → GI G Y_X8_drawnOf 4 [(0, .ref 58), (2, .int z), (3, .int (iN i))] I Q := by
    intro m
    induction m with
    | zero =>
      intro i hi z hq
      refine v_X8_drawnOf_4 ⟨fun _ => ?_, fun c => absurd (by rw [hr.1, iN_le (by omega) (by omega)]; omega) c⟩
      rw [hr.1, ← show i = z0 σ by omega]
      exact hq
    | succ m ih =>
      intro i hi z hq
      have hk := knO_bd (σ := σ) (show i < z0 σ by omega)
      refine v_X8_drawnOf_4 ⟨fun c => absurd c (by rw [hr.1, iN_le (by omega) (by omega)]; omega), fun _ => ⟨(vp_iN (by omega)).mpr ⟨by omega, by omega⟩, ?_⟩⟩
      rw [show nn (iN (i : Int)) = i from nn_nat (by omega), show I 70 i = iN (knO σ i) from (hS.1 i (by omega)).2, l5, iN_sub, iN_le (by omega) (by omega), show iN (i : Int) + (1 : Int32) = iN ((i + 1 : Nat) : Int) from iN_add i 1]
      unfold drw at hq
      refine ⟨fun c => ?_, fun c z4 e4 => ?_⟩
      · rw [if_pos c] at hq
        exact ih (i + 1) (by omega) z hq
      · rw [if_neg c, ← e4] at hq
        refine ⟨fun c2 => ?_, fun c2 => ?_⟩
        · rw [if_pos (show iN (knO σ i - 5) ≤ rm16 z4 from c2)] at hq
          exact ih (i + 1) (by omega) z4 hq
        · rw [if_neg (show ¬ iN (knO σ i - 5) ≤ rm16 z4 from c2)] at hq
          exact hq
  exact loop (z0 σ) 0 (by omega) a h
theorem M_drawn {Q : HP → Int32 → Prop} {a : Int32} (h0 : okS0 σ) (hM : RM I σ) (h : MP I σ Q (an_drawn σ a)) : RI G Y_X8_drawn [.ref 58, .int a] I Q :=
  v_X8_drawn (s_find h0 hM (fun I1 f1 hM1 hF => M_drawnOf h0 hF (h I1 (lo_sc f1) hM1)))
theorem bI_i (b : Bool) : bI b = iN 0 ↔ b = false := bI_0 b
theorem s_isIn {Q : HP → Bool → Prop} {F v : Nat} (hF : F < 4096) (hv : v < 12) (h : Q I (decide (F / 2 ^ v % 2 = 1))) : RZ G Y_X8_isIn [.int (iN F), .int (iN v)] I Q := by
  refine v_X8_isIn ?_
  have := Nat.mod_lt (F / 2 ^ v) (show 0 < 2 by decide)
  rw [bit12 hF hv, l1, iN_eq (by omega) (by omega)]
  refine ⟨fun c => ?_, fun c => ?_⟩
  · rw [decide_eq_false (by omega)] at h; exact h
  · rw [decide_eq_true (by omega)] at h; exact h
theorem er_le (σ : SG) (h : Int) (w : Nat) : ∀ n, er σ h w n ≤ n
  | 0 => Nat.le_refl _
  | n + 1 => by
    have := er_le σ h w n
    show er σ h w n + (if erB σ h w n then 1 else 0) ≤ n + 1
    split <;> omega
/-- what line reads -/
def mE (I : HP) (σ : SG) : Prop := I 65 0 = iN (z0 σ) ∧ tOK I 0 (sF σ 0) (sN σ 0) ∧ I 67 5 = iN (sR σ 5)
theorem s_errors {Q : HP → Int32 → Prop} {h : Int} {w : Nat} (h0 : okS0 σ) (hE : mE I σ) (hh : 0 ≤ h ∧ h ≤ 10) (hw : w ≤ 1) (hq : Q I (iN (er σ h w (z0 σ)))) : RI G Y_X8_errors [.ref 58, .int (iN h), .int (iN w)] I Q := by
  have hz := z0_le h0
  have hF5 := h0.2.2.1
  obtain ⟨F, eF⟩ : ∃ F : Nat, sR σ 5 = F := ⟨(sR σ 5).toNat, by omega⟩
  refine v_X8_errors ?_
  have loop : ∀ m v : Nat, v + m = z0 σ → GI G Y_X8_errors 5 [(0, .ref 58), (1, .int (iN h)), (2, .int (iN w)), (3, .int (iN (er σ h w v))), (4, .int (iN v))] I Q := by
    intro m
    induction m with
    | zero =>
      intro v hv
      refine v_X8_errors_5 ⟨fun _ => ?_, fun c => absurd (by rw [hE.1, iN_le (by omega) (by omega)]; omega) c⟩
      rw [show v = z0 σ by omega]; exact hq
    | succ m ih =>
      intro v hv
      have hvz : v < szT (sF σ 0) (sN σ 0) := by have : z0 σ = szT (sF σ 0) (sN σ 0) := rfl; omega
      have hfg := fg_bd hvz 2 (by decide)
      have hle := er_le σ h w v
      refine v_X8_errors_5 ⟨fun c => absurd c (by rw [hE.1, iN_le (by omega) (by omega)]; omega), fun _ => ?_⟩
      rw [l4, l2, iN_mul, iN_add]
      refine ⟨(vp_iN (by omega)).mpr ⟨by omega, by omega⟩, ?_⟩
      have et : I 66 (4 * v + 2) = iN (fg (sF σ 0) v 2) := by
        have := (hE.2.1 v hvz).1 2 (by decide)
        rw [show tp 0 v + 2 = 4 * v + 2 by unfold tp; omega] at this
        exact this
      rw [show nn (iN (4 * (v : Int) + 2)) = 4 * v + 2 by rw [nn, nn_iN (by omega) (by omega)]; omega, et, hE.2.2, eF, iN_lt (by omega) (by omega), l0, l1, iN_eq (by omega) (by omega), iN_eq (by omega) (by omega), iN_add, iN_add, iN_add]
      have hmod := Nat.mod_lt (F / 2 ^ v) (show 0 < 2 by decide)
      have nx := ih (v + 1) (by omega)
      have e1 : er σ h w (v + 1) = er σ h w v + (if erB σ h w v then 1 else 0) := rfl
      have ebd : erB σ h w v = if w = 0 then decide (h ≤ fg (sF σ 0) v 2 ∧ F / 2 ^ v % 2 = 0) else decide (fg (sF σ 0) v 2 < h ∧ F / 2 ^ v % 2 = 1) := by unfold erB; rw [eF, Int.toNat_natCast]
      have yes : erB σ h w v = true → GI G Y_X8_errors 5 [(0, .ref 58), (1, .int (iN h)), (2, .int (iN w)), (3, .int (iN ((er σ h w v : Int) + 1))), (4, .int (iN ((v : Int) + 1)))] I Q := by
        intro c
        rw [e1, if_pos c] at nx
        exact nx
      have no : erB σ h w v = false → GI G Y_X8_errors 5 [(0, .ref 58), (1, .int (iN h)), (2, .int (iN w)), (3, .int (iN ((er σ h w v : Int) + 0))), (4, .int (iN ((v : Int) + 1)))] I Q := by
        intro c
        rw [e1, if_neg (by rw [c]; decide)] at nx
        exact nx
      rw [ebd] at yes no
      refine ⟨fun c => s_isIn (by omega) (by omega) ?_, fun c => s_isIn (by omega) (by omega) ?_⟩
      · rw [bI_i, decide_eq_false_iff_not]
        refine ⟨fun c1 => ⟨fun c2 => absurd c2 (by omega), fun c2 => ⟨fun c3 => no (by rw [if_neg (by omega)]; exact decide_eq_false (by omega)), fun c3 => yes (by rw [if_neg (by omega)]; exact decide_eq_true (by omega))⟩⟩, fun c1 => ⟨fun c2 => no (by rw [if_pos (by omega)]; exact decide_eq_false (by omega)), fun c2 => absurd c2 (by omega)⟩⟩
      · rw [bI_i, decide_eq_false_iff_not]
        refine ⟨fun c1 => ⟨fun c2 => absurd c2 (by omega), fun c2 => no (by rw [if_neg (by omega)]; exact decide_eq_false (by omega))⟩, fun c1 => ⟨fun c3 => yes (by rw [if_pos (by omega)]; exact decide_eq_true (by omega)), fun c3 => ⟨fun c2 => no (by rw [if_pos (by omega)]; exact decide_eq_false (by omega)), fun c2 => absurd c2 (by omega)⟩⟩⟩
  exact loop (z0 σ) 0 (by omega)
theorem M_lineOf {Q : HP → Int32 → Prop} {h : Int} {w : Nat} (h0 : okS0 σ) (hE : mE I σ) (hh : -1 ≤ h ∧ h ≤ 10) (hw : w ≤ 1) (hq : Q I (iN (lnI σ h w))) : RI G Y_X8_lineOf [.ref 58, .int (iN h), .int (iN w)] I Q := by
  have hz := z0_le h0
  refine v_X8_lineOf ?_
  rw [show (-1 : Int32) = iN (-1) from rfl, iN_eq (by omega) (by omega)]
  unfold lnI at hq
  refine ⟨fun c => ?_, fun c => ?_⟩
  · rw [if_pos c] at hq
    have loop : ∀ m k : Nat, k + m = 11 → ∀ l : Nat, l ≤ 10 → Q I (iN ((if w = 0 then bsL σ m k l else er2 σ (bsL σ m k l) : Nat) : Int)) → GI G Y_X8_lineOf 17 [(0, .ref 58), (2, .int (iN w)), (3, .int (iN l)), (4, .int (iN k))] I Q := by
      intro m
      induction m with
      | zero =>
        intro k hk l hl hq
        have hq : Q I (iN ((if w = 0 then l else er2 σ l : Nat) : Int)) := hq
        refine v_X8_lineOf_17 ⟨fun _ => ⟨fun c2 => ?_, fun c2 => ?_⟩, fun w => absurd (by rw [l11, iN_le (by omega) (by omega)]; omega) w⟩
        · rw [l0, iN_eq (by omega) (by omega)] at c2
          rw [if_neg (by omega)] at hq
          refine s_errors (w := 0) h0 hE (by omega) (by omega) (s_errors (w := 1) h0 hE (by omega) (by omega) ?_)
          rw [iN_add]
          exact hq
        · rw [l0, iN_eq (by omega) (by omega)] at c2
          rw [if_pos (by omega)] at hq
          exact hq
      | succ m ih =>
        intro k hk l hl hq
        refine v_X8_lineOf_17 ⟨fun w => absurd w (by rw [l11, iN_le (by omega) (by omega)]; omega), fun _ => ?_⟩
        refine s_errors (w := 0) h0 hE (by omega) (by omega) (s_errors (w := 1) h0 hE (by omega) (by omega) (s_errors (w := 0) h0 hE (by omega) (by omega) (s_errors (w := 1) h0 hE (by omega) (by omega) ?_)))
        have a1 := er_le σ k 0 (z0 σ)
        have a2 := er_le σ k 1 (z0 σ)
        have a3 := er_le σ l 0 (z0 σ)
        have a4 := er_le σ l 1 (z0 σ)
        rw [iN_add, iN_add, iN_le (by omega) (by omega), show iN (k : Int) + (1 : Int32) = iN ((k + 1 : Nat) : Int) from iN_add k 1]
        have eS : bsL σ (m + 1) k l = bsL σ m (k + 1) (if er2 σ k < er2 σ l then k else l) := rfl
        rw [eS] at hq
        refine ⟨fun c2 => ?_, fun c2 => ?_⟩
        · rw [if_neg (show ¬ er2 σ k < er2 σ l by unfold er2; omega)] at hq
          exact ih (k + 1) (by omega) l hl hq
        · rw [if_pos (show er2 σ k < er2 σ l by unfold er2; omega)] at hq
          exact ih (k + 1) (by omega) k (by omega) hq
    exact loop 10 1 (by omega) 0 (by omega) hq
  · rw [if_neg c] at hq
    exact s_errors h0 hE (by omega) hw hq
theorem M_line {Q : HP → Int32 → Prop} {a b : Int32} (h0 : okS0 σ) (hM : RM I σ) (h : MP I σ Q (an_line σ a b)) : RI G Y_X8_line [.ref 58, .int a, .int b] I Q := by
  refine v_X8_line (s_readsText (t := 0) hM.1 (fun I1 f1 a1 b1 c1 d1 => s_in3 (-1) 10 (by decide) (by decide) ?_))
  have f1' : frm scC scS I I1 := frm_mo f1 (by decide) (by decide)
  have hM1 := RM_sc hM f1'
  rw [bI_0]
  unfold an_line at h
  by_cases c : -1 ≤ a.toInt ∧ a.toInt ≤ 10
  · rw [decide_eq_true c] at h ⊢
    refine ⟨fun q => absurd q (by decide), fun _ => s_isTwo ?_⟩
    rw [bI_0]
    rcases okA_cases b 1 with q | ⟨t, ht, eb, htn, hok⟩
    · rw [q] at h
      exact ⟨fun _ => h I1 (lo_sc f1') hM1, fun w => absurd q w⟩
    · rw [hok, htn] at h
      refine ⟨fun w => absurd (hok.symm.trans w) (by decide), fun _ => ?_⟩
      rw [iN_of a, eb]
      exact M_lineOf h0 ⟨a1, c1, hM1.2.2.1 5 (by decide)⟩ c (by omega) (h I1 (lo_sc f1') hM1)
  · rw [decide_eq_false c] at h ⊢
    exact ⟨fun _ => h I1 (lo_sc f1') hM1, fun q => absurd rfl q⟩
end MOdds
