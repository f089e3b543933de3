/-! ===== the heap behind the two constructors; links; methods ===== -/
def SH : Sh := [(7, 12, [some 1, some 2, some 4, some 6, some 22, some 40, some 42, some 46, some 49, none, none, none]), (9, 6, []), (2, 4, [some 3, none, none, none]), (9, 59, []), (2, 4, [some 5, none, none, none]), (9, 19, []), (5, 4, [some 7, some 8, some 9, none]), (9, 5, []), (6, 15, [none, none, none, none, none, none, none, none, none, none, none, none, none, none, none]), (11, 12, [some 10, some 11, some 12, some 13, some 14, some 15, some 16, some 17, some 18, some 19, some 20, some 21]), (6, 15, [none, none, none, none, none, none, none, none, none, none, none, none, none, none, none]), (6, 15, [none, none, none, none, none, none, none, none, none, none, none, none, none, none, none]), (6, 15, [none, none, none, none, none, none, none, none, none, none, none, none, none, none, none]), (6, 15, [none, none, none, none, none, none, none, none, none, none, none, none, none, none, none]), (6, 15, [none, none, none, none, none, none, none, none, none, none, none, none, none, none, none]), (6, 15, [none, none, none, none, none, none, none, none, none, none, none, none, none, none, none]), (6, 15, [none, none, none, none, none, none, none, none, none, none, none, none, none, none, none]), (6, 15, [none, none, none, none, none, none, none, none, none, none, none, none, none, none, none]), (6, 15, [none, none, none, none, none, none, none, none, none, none, none, none, none, none, none]), (6, 15, [none, none, none, none, none, none, none, none, none, none, none, none, none, none, none]), (6, 15, [none, none, none, none, none, none, none, none, none, none, none, none, none, none, none]), (6, 15, [none, none, none, none, none, none, none, none, none, none, none, none, none, none, none]), (5, 4, [some 23, some 24, some 25, none]), (9, 5, []), (6, 15, [none, none, none, none, none, none, none, none, none, none, none, none, none, none, none]), (11, 14, [some 26, some 27, some 28, some 29, some 30, some 31, some 32, some 33, some 34, some 35, some 36, some 37, some 38, some 39]), (6, 15, [none, none, none, none, none, none, none, none, none, none, none, none, none, none, none]), (6, 15, [none, none, none, none, none, none, none, none, none, none, none, none, none, none, none]), (6, 15, [none, none, none, none, none, none, none, none, none, none, none, none, none, none, none]), (6, 15, [none, none, none, none, none, none, none, none, none, none, none, none, none, none, none]), (6, 15, [none, none, none, none, none, none, none, none, none, none, none, none, none, none, none]), (6, 15, [none, none, none, none, none, none, none, none, none, none, none, none, none, none, none]), (6, 15, [none, none, none, none, none, none, none, none, none, none, none, none, none, none, none]), (6, 15, [none, none, none, none, none, none, none, none, none, none, none, none, none, none, none]), (6, 15, [none, none, none, none, none, none, none, none, none, none, none, none, none, none, none]), (6, 15, [none, none, none, none, none, none, none, none, none, none, none, none, none, none, none]), (6, 15, [none, none, none, none, none, none, none, none, none, none, none, none, none, none, none]), (6, 15, [none, none, none, none, none, none, none, none, none, none, none, none, none, none, none]), (6, 15, [none, none, none, none, none, none, none, none, none, none, none, none, none, none, none]), (6, 15, [none, none, none, none, none, none, none, none, none, none, none, none, none, none, none]), (1, 5, [some 22, some 2, some 4, some 1, some 41]), (9, 6, []), (0, 9, [some 22, some 2, some 1, some 43, some 44, some 45, none, none, none]), (9, 7, []), (9, 7, []), (10, 7, []), (4, 3, [some 47, some 48, none]), (9, 8, []), (9, 8, []), (12, 4, [some 50, some 52, some 54, some 56]), (3, 4, [some 51, none, none, none]), (9, 60, []), (3, 4, [some 53, none, none, none]), (9, 60, []), (3, 4, [some 55, none, none, none]), (9, 60, []), (3, 4, [some 57, none, none, none]), (9, 60, []), (8, 30, [some 59, some 60, some 61, some 62, none, some 63, some 64, none, some 65, some 66, some 67, none, some 68, some 69, some 70, some 71, some 72, some 73, some 74, some 75, none, none, none, none, some 76, some 77, none, none, none, some 78]), (9, 4, []), (9, 4, []), (9, 240, []), (9, 60, []), (9, 120, []), (9, 2, []), (9, 2, []), (9, 64, []), (9, 6, []), (9, 14, []), (9, 14, []), (9, 14, []), (9, 14, []), (9, 14, []), (9, 14, []), (9, 14, []), (9, 14, []), (9, 6, []), (9, 7, []), (9, 16, [])]
theorem sh_0 : SH[0]? = some (7, 12, [some 1, some 2, some 4, some 6, some 22, some 40, some 42, some 46, some 49, none, none, none]) := rfl
theorem sh_1 : SH[1]? = some (9, 6, []) := rfl
theorem sh_2 : SH[2]? = some (2, 4, [some 3, none, none, none]) := rfl
theorem sh_3 : SH[3]? = some (9, 59, []) := rfl
theorem sh_4 : SH[4]? = some (2, 4, [some 5, none, none, none]) := rfl
theorem sh_5 : SH[5]? = some (9, 19, []) := rfl
theorem sh_6 : SH[6]? = some (5, 4, [some 7, some 8, some 9, none]) := rfl
theorem sh_7 : SH[7]? = some (9, 5, []) := rfl
theorem sh_8 : SH[8]? = some (6, 15, [none, none, none, none, none, none, none, none, none, none, none, none, none, none, none]) := rfl
theorem sh_9 : SH[9]? = some (11, 12, [some 10, some 11, some 12, some 13, some 14, some 15, some 16, some 17, some 18, some 19, some 20, some 21]) := rfl
theorem sh_10 : SH[10]? = some (6, 15, [none, none, none, none, none, none, none, none, none, none, none, none, none, none, none]) := rfl
theorem sh_11 : SH[11]? = some (6, 15, [none, none, none, none, none, none, none, none, none, none, none, none, none, none, none]) := rfl
theorem sh_12 : SH[12]? = some (6, 15, [none, none, none, none, none, none, none, none, none, none, none, none, none, none, none]) := rfl
theorem sh_13 : SH[13]? = some (6, 15, [none, none, none, none, none, none, none, none, none, none, none, none, none, none, none]) := rfl
theorem sh_14 : SH[14]? = some (6, 15, [none, none, none, none, none, none, none, none, none, none, none, none, none, none, none]) := rfl
theorem sh_15 : SH[15]? = some (6, 15, [none, none, none, none, none, none, none, none, none, none, none, none, none, none, none]) := rfl
theorem sh_16 : SH[16]? = some (6, 15, [none, none, none, none, none, none, none, none, none, none, none, none, none, none, none]) := rfl
theorem sh_17 : SH[17]? = some (6, 15, [none, none, none, none, none, none, none, none, none, none, none, none, none, none, none]) := rfl
theorem sh_18 : SH[18]? = some (6, 15, [none, none, none, none, none, none, none, none, none, none, none, none, none, none, none]) := rfl
theorem sh_19 : SH[19]? = some (6, 15, [none, none, none, none, none, none, none, none, none, none, none, none, none, none, none]) := rfl
theorem sh_20 : SH[20]? = some (6, 15, [none, none, none, none, none, none, none, none, none, none, none, none, none, none, none]) := rfl
theorem sh_21 : SH[21]? = some (6, 15, [none, none, none, none, none, none, none, none, none, none, none, none, none, none, none]) := rfl
theorem sh_22 : SH[22]? = some (5, 4, [some 23, some 24, some 25, none]) := rfl
theorem sh_23 : SH[23]? = some (9, 5, []) := rfl
theorem sh_24 : SH[24]? = some (6, 15, [none, none, none, none, none, none, none, none, none, none, none, none, none, none, none]) := rfl
theorem sh_25 : SH[25]? = some (11, 14, [some 26, some 27, some 28, some 29, some 30, some 31, some 32, some 33, some 34, some 35, some 36, some 37, some 38, some 39]) := rfl
theorem sh_26 : SH[26]? = some (6, 15, [none, none, none, none, none, none, none, none, none, none, none, none, none, none, none]) := rfl
theorem sh_27 : SH[27]? = some (6, 15, [none, none, none, none, none, none, none, none, none, none, none, none, none, none, none]) := rfl
theorem sh_28 : SH[28]? = some (6, 15, [none, none, none, none, none, none, none, none, none, none, none, none, none, none, none]) := rfl
theorem sh_29 : SH[29]? = some (6, 15, [none, none, none, none, none, none, none, none, none, none, none, none, none, none, none]) := rfl
theorem sh_30 : SH[30]? = some (6, 15, [none, none, none, none, none, none, none, none, none, none, none, none, none, none, none]) := rfl
theorem sh_31 : SH[31]? = some (6, 15, [none, none, none, none, none, none, none, none, none, none, none, none, none, none, none]) := rfl
theorem sh_32 : SH[32]? = some (6, 15, [none, none, none, none, none, none, none, none, none, none, none, none, none, none, none]) := rfl
theorem sh_33 : SH[33]? = some (6, 15, [none, none, none, none, none, none, none, none, none, none, none, none, none, none, none]) := rfl
theorem sh_34 : SH[34]? = some (6, 15, [none, none, none, none, none, none, none, none, none, none, none, none, none, none, none]) := rfl
theorem sh_35 : SH[35]? = some (6, 15, [none, none, none, none, none, none, none, none, none, none, none, none, none, none, none]) := rfl
theorem sh_36 : SH[36]? = some (6, 15, [none, none, none, none, none, none, none, none, none, none, none, none, none, none, none]) := rfl
theorem sh_37 : SH[37]? = some (6, 15, [none, none, none, none, none, none, none, none, none, none, none, none, none, none, none]) := rfl
theorem sh_38 : SH[38]? = some (6, 15, [none, none, none, none, none, none, none, none, none, none, none, none, none, none, none]) := rfl
theorem sh_39 : SH[39]? = some (6, 15, [none, none, none, none, none, none, none, none, none, none, none, none, none, none, none]) := rfl
theorem sh_40 : SH[40]? = some (1, 5, [some 22, some 2, some 4, some 1, some 41]) := rfl
theorem sh_41 : SH[41]? = some (9, 6, []) := rfl
theorem sh_42 : SH[42]? = some (0, 9, [some 22, some 2, some 1, some 43, some 44, some 45, none, none, none]) := rfl
theorem sh_43 : SH[43]? = some (9, 7, []) := rfl
theorem sh_44 : SH[44]? = some (9, 7, []) := rfl
theorem sh_45 : SH[45]? = some (10, 7, []) := rfl
theorem sh_46 : SH[46]? = some (4, 3, [some 47, some 48, none]) := rfl
theorem sh_47 : SH[47]? = some (9, 8, []) := rfl
theorem sh_48 : SH[48]? = some (9, 8, []) := rfl
theorem sh_49 : SH[49]? = some (12, 4, [some 50, some 52, some 54, some 56]) := rfl
theorem sh_50 : SH[50]? = some (3, 4, [some 51, none, none, none]) := rfl
theorem sh_51 : SH[51]? = some (9, 60, []) := rfl
theorem sh_52 : SH[52]? = some (3, 4, [some 53, none, none, none]) := rfl
theorem sh_53 : SH[53]? = some (9, 60, []) := rfl
theorem sh_54 : SH[54]? = some (3, 4, [some 55, none, none, none]) := rfl
theorem sh_55 : SH[55]? = some (9, 60, []) := rfl
theorem sh_56 : SH[56]? = some (3, 4, [some 57, none, none, none]) := rfl
theorem sh_57 : SH[57]? = some (9, 60, []) := rfl
theorem sh_58 : SH[58]? = some (8, 30, [some 59, some 60, some 61, some 62, none, some 63, some 64, none, some 65, some 66, some 67, none, some 68, some 69, some 70, some 71, some 72, some 73, some 74, some 75, none, none, none, none, some 76, some 77, none, none, none, some 78]) := rfl
theorem sh_59 : SH[59]? = some (9, 4, []) := rfl
theorem sh_60 : SH[60]? = some (9, 4, []) := rfl
theorem sh_61 : SH[61]? = some (9, 240, []) := rfl
theorem sh_62 : SH[62]? = some (9, 60, []) := rfl
theorem sh_63 : SH[63]? = some (9, 120, []) := rfl
theorem sh_64 : SH[64]? = some (9, 2, []) := rfl
theorem sh_65 : SH[65]? = some (9, 2, []) := rfl
theorem sh_66 : SH[66]? = some (9, 64, []) := rfl
theorem sh_67 : SH[67]? = some (9, 6, []) := rfl
theorem sh_68 : SH[68]? = some (9, 14, []) := rfl
theorem sh_69 : SH[69]? = some (9, 14, []) := rfl
theorem sh_70 : SH[70]? = some (9, 14, []) := rfl
theorem sh_71 : SH[71]? = some (9, 14, []) := rfl
theorem sh_72 : SH[72]? = some (9, 14, []) := rfl
theorem sh_73 : SH[73]? = some (9, 14, []) := rfl
theorem sh_74 : SH[74]? = some (9, 14, []) := rfl
theorem sh_75 : SH[75]? = some (9, 14, []) := rfl
theorem sh_76 : SH[76]? = some (9, 6, []) := rfl
theorem sh_77 : SH[77]? = some (9, 7, []) := rfl
theorem sh_78 : SH[78]? = some (9, 16, []) := rfl
theorem SH_lt {r : Nat} {c : Nat × Nat × List (Option Nat)} (h : SH[r]? = some c) : r < 1000 := Nat.lt_of_lt_of_le (List.getElem?_eq_some_iff.mp h).1 (by decide)
def isScr (T : Nat) : Prop := T = 2 ∨ T = 4
def scN (T : Nat) : Nat := if T = 2 then 59 else 19
def isTel (T : Nat) : Prop := T = 6 ∨ T = 22
def teN (T : Nat) : Nat := if T = 6 then 12 else 14
def isShe (T : Nat) : Prop := T = 50 ∨ T = 52 ∨ T = 54 ∨ T = 56
def isTur (t : Nat) : Prop := SH[t]? = some (6, 15, [none, none, none, none, none, none, none, none, none, none, none, none, none, none, none])
theorem scr_sh {T : Nat} (h : isScr T) : SH[T]? = some (2, 4, [some (T + 1), none, none, none]) := by rcases h with rfl | rfl <;> rfl
theorem scr_ar {T : Nat} (h : isScr T) : SH[T + 1]? = some (9, scN T, []) := by rcases h with rfl | rfl <;> rfl
theorem tel_sh {T : Nat} (h : isTel T) : SH[T]? = some (5, 4, [some (T + 1), some (T + 2), some (T + 3), none]) := by rcases h with rfl | rfl <;> rfl
theorem tel_ru {T : Nat} (h : isTel T) : SH[T + 1]? = some (9, 5, []) := by rcases h with rfl | rfl <;> rfl
theorem tel_st {T : Nat} (h : isTel T) : isTur (T + 2) := by rcases h with rfl | rfl <;> rfl
theorem tel_ar {T : Nat} (h : isTel T) : SH[T + 3]? = some (11, teN T, (List.range (teN T)).map (fun p => some (T + 4 + p))) := by rcases h with rfl | rfl <;> rfl
theorem tel_at {T p : Nat} (hp : p < teN T) : ((List.range (teN T)).map (fun p => some (T + 4 + p))).getD p none = some (T + 4 + p) := by simp [List.getD_eq_getElem?_getD, hp]
theorem tel_tu {T p : Nat} (h : isTel T) (hp : p < teN T) : isTur (T + 4 + p) := by
  rcases h with rfl | rfl
  · exact (show ∀ p, p < 12 → SH[6 + 4 + p]? = some (6, 15, [none, none, none, none, none, none, none, none, none, none, none, none, none, none, none]) by decide) p hp
  · exact (show ∀ p, p < 14 → SH[22 + 4 + p]? = some (6, 15, [none, none, none, none, none, none, none, none, none, none, none, none, none, none, none]) by decide) p hp
theorem she_sh {T : Nat} (h : isShe T) : SH[T]? = some (3, 4, [some (T + 1), none, none, none]) := by rcases h with rfl | rfl | rfl | rfl <;> rfl
theorem she_ar {T : Nat} (h : isShe T) : SH[T + 1]? = some (9, 60, []) := by rcases h with rfl | rfl | rfl | rfl <;> rfl
theorem she_at {p : Nat} (hp : p < 4) : ([some 50, some 52, some 54, some 56] : List (Option Nat)).getD p none = some (50 + 2 * p) := by
  rcases (show p = 0 ∨ p = 1 ∨ p = 2 ∨ p = 3 by omega) with rfl | rfl | rfl | rfl <;> rfl
theorem she_is {p : Nat} (hp : p < 4) : isShe (50 + 2 * p) := by
  rcases (show p = 0 ∨ p = 1 ∨ p = 2 ∨ p = 3 by omega) with rfl | rfl | rfl | rfl <;> simp [isShe]
abbrev nn (i : Int32) : Nat := i.toNatClampNeg
theorem vp_lt {i : Int32} {n : Nat} (h : vp_in i n) : i.toNatClampNeg < n := Nat.not_le.mp fun q => h (Or.inr q)
def bI (b : Bool) : Int32 := if b then 1 else 0
def pI (Q : HP → Int32 → Prop) : Sh → HP → Option Value → Prop := fun sh I v => sh = SH ∧ ∃ r, v = some (.int r) ∧ Q I r
def pZ (Q : HP → Bool → Prop) : Sh → HP → Option Value → Prop := fun sh I v => sh = SH ∧ ∃ r, v = some (.int (bI r)) ∧ Q I r
def pJ (Q : HP → Int64 → Prop) : Sh → HP → Option Value → Prop := fun sh I v => sh = SH ∧ ∃ r, v = some (.long r) ∧ Q I r
def pA (Q : HP → Nat → Prop) : Sh → HP → Option Value → Prop := fun sh I v => sh = SH ∧ ∃ r, v = some (.ref r) ∧ Q I r
def pV (Q : HP → Prop) : Sh → HP → Option Value → Prop := fun sh I v => sh = SH ∧ v = none ∧ Q I
def RI (G : CX) (Y : YY) (As : List Value) (I : HP) (Q : HP → Int32 → Prop) : Prop := Ret G Y As SH I (pI Q)
def RZ (G : CX) (Y : YY) (As : List Value) (I : HP) (Q : HP → Bool → Prop) : Prop := Ret G Y As SH I (pZ Q)
def RJ (G : CX) (Y : YY) (As : List Value) (I : HP) (Q : HP → Int64 → Prop) : Prop := Ret G Y As SH I (pJ Q)
def RA (G : CX) (Y : YY) (As : List Value) (I : HP) (Q : HP → Nat → Prop) : Prop := Ret G Y As SH I (pA Q)
def RV (G : CX) (Y : YY) (As : List Value) (I : HP) (Q : HP → Prop) : Prop := Ret G Y As SH I (pV Q)
def GI (G : CX) (Y : YY) (pc : Nat) (L : List (Nat × Value)) (I : HP) (Q : HP → Int32 → Prop) : Prop := Go G Y pc L [] SH I 0 0 (pI Q)
def GZ (G : CX) (Y : YY) (pc : Nat) (L : List (Nat × Value)) (I : HP) (Q : HP → Bool → Prop) : Prop := Go G Y pc L [] SH I 0 0 (pZ Q)
def GJ (G : CX) (Y : YY) (pc : Nat) (L : List (Nat × Value)) (I : HP) (Q : HP → Int64 → Prop) : Prop := Go G Y pc L [] SH I 0 0 (pJ Q)
def GA (G : CX) (Y : YY) (pc : Nat) (L : List (Nat × Value)) (I : HP) (Q : HP → Nat → Prop) : Prop := Go G Y pc L [] SH I 0 0 (pA Q)
def GV (G : CX) (Y : YY) (pc : Nat) (L : List (Nat × Value)) (I : HP) (Q : HP → Prop) : Prop := Go G Y pc L [] SH I 0 0 (pV Q)
theorem go_loc {G : CX} {Y : YY} {pc : Nat} {L : List (Nat × Value)} {S : List Value} {sh : Sh} {I : HP} {k n : Nat} {Q : Sh → HP → Option Value → Prop} (L2 : List (Nat × Value)) (ks : List Nat) (hl2 : lv_pick L ks = L2) (kk : Go G Y pc L2 S sh I k n Q) : Go G Y pc L S sh I k n Q := by
  intro p l e R s m args below meth c H locs ls C hP hz hS hl
  refine kk p l e R s m args below meth c H locs ls C hP hz hS (lv_sub hl ks ?_)
  subst hl2
  simp only [lv_pick, lM, List.getElem?_map, List.map_filterMap]
theorem bI_nar (b : Bool) : narrow .boolean (.int (bI b)) = .int (bI b) := by cases b <;> rfl
theorem sw_out {x : Int32} {n : Nat} (hn : n ≤ 1000) (h : ∀ j, j < n → x ≠ nI j) : x.toInt < 0 ∨ ((n : Int) - 1) < x.toInt := by
  by_cases h0 : x.toInt < 0
  · exact Or.inl h0
  · refine Or.inr ?_
    by_cases h1 : ((n : Int) - 1) < x.toInt
    · exact h1
    · exfalso
      refine h x.toInt.toNat (by omega) (Int32.toInt_inj.mp ?_)
      rw [nI_toInt (by omega)]
      omega
theorem gX0 : ∀ w ∈ u_ws RX0 TX0 9, w ∈ wG := fun w h => wG_in (inX0 w h) (List.all_eq_true.mp (by decide +kernel : (u_ws RX0 TX0 9).all goodWord = true) w h)
theorem gX1 : ∀ w ∈ u_ws RX1 TX1 5, w ∈ wG := fun w h => wG_in (inX1 w h) (List.all_eq_true.mp (by decide +kernel : (u_ws RX1 TX1 5).all goodWord = true) w h)
theorem gX2 : ∀ w ∈ u_ws RX2 TX2 4, w ∈ wG := fun w h => wG_in (inX2 w h) (List.all_eq_true.mp (by decide +kernel : (u_ws RX2 TX2 4).all goodWord = true) w h)
theorem gX3 : ∀ w ∈ u_ws RX3 TX3 4, w ∈ wG := fun w h => wG_in (inX3 w h) (List.all_eq_true.mp (by decide +kernel : (u_ws RX3 TX3 4).all goodWord = true) w h)
theorem gX4 : ∀ w ∈ u_ws RX4 TX4 3, w ∈ wG := fun w h => wG_in (inX4 w h) (List.all_eq_true.mp (by decide +kernel : (u_ws RX4 TX4 3).all goodWord = true) w h)
theorem gX5 : ∀ w ∈ u_ws RX5 TX5 4, w ∈ wG := fun w h => wG_in (inX5 w h) (List.all_eq_true.mp (by decide +kernel : (u_ws RX5 TX5 4).all goodWord = true) w h)
theorem gX6 : ∀ w ∈ u_ws RX6 TX6 15, w ∈ wG := fun w h => wG_in (inX6 w h) (List.all_eq_true.mp (by decide +kernel : (u_ws RX6 TX6 15).all goodWord = true) w h)
theorem gX7 : ∀ w ∈ u_ws RX7 TX7 12, w ∈ wG := fun w h => wG_in (inX7 w h) (List.all_eq_true.mp (by decide +kernel : (u_ws RX7 TX7 12).all goodWord = true) w h)
theorem gX8 : ∀ w ∈ u_ws RX8 TX8 30, w ∈ wG := fun w h => wG_in (inX8 w h) (List.all_eq_true.mp (by decide +kernel : (u_ws RX8 TX8 30).all goodWord = true) w h)
theorem f_X0_11 : FL RX0 11 0 3 := ⟨_, _, _, rfl, gX0, by decide, wG_in (by decide +kernel) rfl⟩
theorem p_X0_11 : FP RX0 11 0 3 (tyX0 3) true := ⟨_, _, _, tyX0, rfl, gX0, by decide, wG_in (by decide +kernel) rfl, tyX0_ok, nmX0, rfl, (fun _ => rfl), tyX0_ok 3 (by decide)⟩
theorem f_X0_15 : FL RX0 15 0 4 := ⟨_, _, _, rfl, gX0, by decide, wG_in (by decide +kernel) rfl⟩
theorem p_X0_15 : FP RX0 15 0 4 (tyX0 4) true := ⟨_, _, _, tyX0, rfl, gX0, by decide, wG_in (by decide +kernel) rfl, tyX0_ok, nmX0, rfl, (fun _ => rfl), tyX0_ok 4 (by decide)⟩
theorem f_X0_18 : FL RX0 18 0 5 := ⟨_, _, _, rfl, gX0, by decide, wG_in (by decide +kernel) rfl⟩
theorem p_X0_18 : FP RX0 18 0 5 (tyX0 5) true := ⟨_, _, _, tyX0, rfl, gX0, by decide, wG_in (by decide +kernel) rfl, tyX0_ok, nmX0, rfl, (fun _ => rfl), tyX0_ok 5 (by decide)⟩
theorem f_X0_22 : FL RX0 22 0 0 := ⟨_, _, _, rfl, gX0, by decide, wG_in (by decide +kernel) rfl⟩
theorem p_X0_22 : FP RX0 22 0 0 (tyX0 0) true := ⟨_, _, _, tyX0, rfl, gX0, by decide, wG_in (by decide +kernel) rfl, tyX0_ok, nmX0, rfl, (fun _ => rfl), tyX0_ok 0 (by decide)⟩
theorem f_X0_26 : FL RX0 26 0 1 := ⟨_, _, _, rfl, gX0, by decide, wG_in (by decide +kernel) rfl⟩
theorem p_X0_26 : FP RX0 26 0 1 (tyX0 1) true := ⟨_, _, _, tyX0, rfl, gX0, by decide, wG_in (by decide +kernel) rfl, tyX0_ok, nmX0, rfl, (fun _ => rfl), tyX0_ok 1 (by decide)⟩
theorem f_X0_30 : FL RX0 30 0 2 := ⟨_, _, _, rfl, gX0, by decide, wG_in (by decide +kernel) rfl⟩
theorem p_X0_30 : FP RX0 30 0 2 (tyX0 2) true := ⟨_, _, _, tyX0, rfl, gX0, by decide, wG_in (by decide +kernel) rfl, tyX0_ok, nmX0, rfl, (fun _ => rfl), tyX0_ok 2 (by decide)⟩
theorem f_X0_33 : FL RX0 33 2 3 := ⟨_, _, _, rfl, gX2, by decide, wG_in (by decide +kernel) rfl⟩
theorem p_X0_33 : FP RX0 33 2 3 (tyX2 3) false := ⟨_, _, _, tyX2, rfl, gX2, by decide, wG_in (by decide +kernel) rfl, tyX2_ok, nmX2, rfl, (fun h => by cases h), tyX2_ok 3 (by decide)⟩
theorem f_X0_45 : FL RX0 45 0 6 := ⟨_, _, _, rfl, gX0, by decide, wG_in (by decide +kernel) rfl⟩
theorem p_X0_45 : FP RX0 45 0 6 (tyX0 6) false := ⟨_, _, _, tyX0, rfl, gX0, by decide, wG_in (by decide +kernel) rfl, tyX0_ok, nmX0, rfl, (fun h => by cases h), tyX0_ok 6 (by decide)⟩
theorem f_X0_47 : FL RX0 47 0 7 := ⟨_, _, _, rfl, gX0, by decide, wG_in (by decide +kernel) rfl⟩
theorem p_X0_47 : FP RX0 47 0 7 (tyX0 7) false := ⟨_, _, _, tyX0, rfl, gX0, by decide, wG_in (by decide +kernel) rfl, tyX0_ok, nmX0, rfl, (fun h => by cases h), tyX0_ok 7 (by decide)⟩
theorem f_X0_50 : FL RX0 50 0 8 := ⟨_, _, _, rfl, gX0, by decide, wG_in (by decide +kernel) rfl⟩
theorem p_X0_50 : FP RX0 50 0 8 (tyX0 8) false := ⟨_, _, _, tyX0, rfl, gX0, by decide, wG_in (by decide +kernel) rfl, tyX0_ok, nmX0, rfl, (fun h => by cases h), tyX0_ok 8 (by decide)⟩
theorem f_X0_84 : FL RX0 84 6 10 := ⟨_, _, _, rfl, gX6, by decide, wG_in (by decide +kernel) rfl⟩
theorem p_X0_84 : FP RX0 84 6 10 (tyX6 10) false := ⟨_, _, _, tyX6, rfl, gX6, by decide, wG_in (by decide +kernel) rfl, tyX6_ok, nmX6, rfl, (fun h => by cases h), tyX6_ok 10 (by decide)⟩
theorem f_X0_89 : FL RX0 89 6 7 := ⟨_, _, _, rfl, gX6, by decide, wG_in (by decide +kernel) rfl⟩
theorem p_X0_89 : FP RX0 89 6 7 (tyX6 7) false := ⟨_, _, _, tyX6, rfl, gX6, by decide, wG_in (by decide +kernel) rfl, tyX6_ok, nmX6, rfl, (fun h => by cases h), tyX6_ok 7 (by decide)⟩
theorem f_X1_11 : FL RX1 11 1 4 := ⟨_, _, _, rfl, gX1, by decide, wG_in (by decide +kernel) rfl⟩
theorem p_X1_11 : FP RX1 11 1 4 (tyX1 4) true := ⟨_, _, _, tyX1, rfl, gX1, by decide, wG_in (by decide +kernel) rfl, tyX1_ok, nmX1, rfl, (fun _ => rfl), tyX1_ok 4 (by decide)⟩
theorem f_X1_15 : FL RX1 15 1 0 := ⟨_, _, _, rfl, gX1, by decide, wG_in (by decide +kernel) rfl⟩
theorem p_X1_15 : FP RX1 15 1 0 (tyX1 0) true := ⟨_, _, _, tyX1, rfl, gX1, by decide, wG_in (by decide +kernel) rfl, tyX1_ok, nmX1, rfl, (fun _ => rfl), tyX1_ok 0 (by decide)⟩
theorem f_X1_19 : FL RX1 19 1 1 := ⟨_, _, _, rfl, gX1, by decide, wG_in (by decide +kernel) rfl⟩
theorem p_X1_19 : FP RX1 19 1 1 (tyX1 1) true := ⟨_, _, _, tyX1, rfl, gX1, by decide, wG_in (by decide +kernel) rfl, tyX1_ok, nmX1, rfl, (fun _ => rfl), tyX1_ok 1 (by decide)⟩
theorem f_X1_23 : FL RX1 23 1 2 := ⟨_, _, _, rfl, gX1, by decide, wG_in (by decide +kernel) rfl⟩
theorem p_X1_23 : FP RX1 23 1 2 (tyX1 2) true := ⟨_, _, _, tyX1, rfl, gX1, by decide, wG_in (by decide +kernel) rfl, tyX1_ok, nmX1, rfl, (fun _ => rfl), tyX1_ok 2 (by decide)⟩
theorem f_X1_26 : FL RX1 26 1 3 := ⟨_, _, _, rfl, gX1, by decide, wG_in (by decide +kernel) rfl⟩
theorem p_X1_26 : FP RX1 26 1 3 (tyX1 3) true := ⟨_, _, _, tyX1, rfl, gX1, by decide, wG_in (by decide +kernel) rfl, tyX1_ok, nmX1, rfl, (fun _ => rfl), tyX1_ok 3 (by decide)⟩
theorem f_X1_39 : FL RX1 39 2 3 := ⟨_, _, _, rfl, gX2, by decide, wG_in (by decide +kernel) rfl⟩
theorem p_X1_39 : FP RX1 39 2 3 (tyX2 3) false := ⟨_, _, _, tyX2, rfl, gX2, by decide, wG_in (by decide +kernel) rfl, tyX2_ok, nmX2, rfl, (fun h => by cases h), tyX2_ok 3 (by decide)⟩
theorem f_X1_63 : FL RX1 63 6 7 := ⟨_, _, _, rfl, gX6, by decide, wG_in (by decide +kernel) rfl⟩
theorem p_X1_63 : FP RX1 63 6 7 (tyX6 7) false := ⟨_, _, _, tyX6, rfl, gX6, by decide, wG_in (by decide +kernel) rfl, tyX6_ok, nmX6, rfl, (fun h => by cases h), tyX6_ok 7 (by decide)⟩
theorem f_X2_9 : FL RX2 9 2 2 := ⟨_, _, _, rfl, gX2, by decide, wG_in (by decide +kernel) rfl⟩
theorem p_X2_9 : FP RX2 9 2 2 (tyX2 2) false := ⟨_, _, _, tyX2, rfl, gX2, by decide, wG_in (by decide +kernel) rfl, tyX2_ok, nmX2, rfl, (fun h => by cases h), tyX2_ok 2 (by decide)⟩
theorem f_X2_15 : FL RX2 15 2 0 := ⟨_, _, _, rfl, gX2, by decide, wG_in (by decide +kernel) rfl⟩
theorem p_X2_15 : FP RX2 15 2 0 (tyX2 0) true := ⟨_, _, _, tyX2, rfl, gX2, by decide, wG_in (by decide +kernel) rfl, tyX2_ok, nmX2, rfl, (fun _ => rfl), tyX2_ok 0 (by decide)⟩
theorem f_X2_19 : FL RX2 19 2 1 := ⟨_, _, _, rfl, gX2, by decide, wG_in (by decide +kernel) rfl⟩
theorem p_X2_19 : FP RX2 19 2 1 (tyX2 1) false := ⟨_, _, _, tyX2, rfl, gX2, by decide, wG_in (by decide +kernel) rfl, tyX2_ok, nmX2, rfl, (fun h => by cases h), tyX2_ok 1 (by decide)⟩
theorem f_X2_29 : FL RX2 29 2 3 := ⟨_, _, _, rfl, gX2, by decide, wG_in (by decide +kernel) rfl⟩
theorem p_X2_29 : FP RX2 29 2 3 (tyX2 3) false := ⟨_, _, _, tyX2, rfl, gX2, by decide, wG_in (by decide +kernel) rfl, tyX2_ok, nmX2, rfl, (fun h => by cases h), tyX2_ok 3 (by decide)⟩
theorem f_X3_9 : FL RX3 9 3 0 := ⟨_, _, _, rfl, gX3, by decide, wG_in (by decide +kernel) rfl⟩
theorem p_X3_9 : FP RX3 9 3 0 (tyX3 0) true := ⟨_, _, _, tyX3, rfl, gX3, by decide, wG_in (by decide +kernel) rfl, tyX3_ok, nmX3, rfl, (fun _ => rfl), tyX3_ok 0 (by decide)⟩
theorem f_X3_15 : FL RX3 15 3 1 := ⟨_, _, _, rfl, gX3, by decide, wG_in (by decide +kernel) rfl⟩
theorem p_X3_15 : FP RX3 15 3 1 (tyX3 1) false := ⟨_, _, _, tyX3, rfl, gX3, by decide, wG_in (by decide +kernel) rfl, tyX3_ok, nmX3, rfl, (fun h => by cases h), tyX3_ok 1 (by decide)⟩
theorem f_X3_19 : FL RX3 19 3 2 := ⟨_, _, _, rfl, gX3, by decide, wG_in (by decide +kernel) rfl⟩
theorem p_X3_19 : FP RX3 19 3 2 (tyX3 2) false := ⟨_, _, _, tyX3, rfl, gX3, by decide, wG_in (by decide +kernel) rfl, tyX3_ok, nmX3, rfl, (fun h => by cases h), tyX3_ok 2 (by decide)⟩
theorem f_X3_23 : FL RX3 23 3 3 := ⟨_, _, _, rfl, gX3, by decide, wG_in (by decide +kernel) rfl⟩
theorem p_X3_23 : FP RX3 23 3 3 (tyX3 3) false := ⟨_, _, _, tyX3, rfl, gX3, by decide, wG_in (by decide +kernel) rfl, tyX3_ok, nmX3, rfl, (fun h => by cases h), tyX3_ok 3 (by decide)⟩
theorem f_X4_11 : FL RX4 11 4 0 := ⟨_, _, _, rfl, gX4, by decide, wG_in (by decide +kernel) rfl⟩
theorem p_X4_11 : FP RX4 11 4 0 (tyX4 0) true := ⟨_, _, _, tyX4, rfl, gX4, by decide, wG_in (by decide +kernel) rfl, tyX4_ok, nmX4, rfl, (fun _ => rfl), tyX4_ok 0 (by decide)⟩
theorem f_X4_15 : FL RX4 15 4 1 := ⟨_, _, _, rfl, gX4, by decide, wG_in (by decide +kernel) rfl⟩
theorem p_X4_15 : FP RX4 15 4 1 (tyX4 1) true := ⟨_, _, _, tyX4, rfl, gX4, by decide, wG_in (by decide +kernel) rfl, tyX4_ok, nmX4, rfl, (fun _ => rfl), tyX4_ok 1 (by decide)⟩
theorem f_X4_18 : FL RX4 18 4 2 := ⟨_, _, _, rfl, gX4, by decide, wG_in (by decide +kernel) rfl⟩
theorem p_X4_18 : FP RX4 18 4 2 (tyX4 2) false := ⟨_, _, _, tyX4, rfl, gX4, by decide, wG_in (by decide +kernel) rfl, tyX4_ok, nmX4, rfl, (fun h => by cases h), tyX4_ok 2 (by decide)⟩
theorem f_X5_9 : FL RX5 9 5 0 := ⟨_, _, _, rfl, gX5, by decide, wG_in (by decide +kernel) rfl⟩
theorem p_X5_9 : FP RX5 9 5 0 (tyX5 0) true := ⟨_, _, _, tyX5, rfl, gX5, by decide, wG_in (by decide +kernel) rfl, tyX5_ok, nmX5, rfl, (fun _ => rfl), tyX5_ok 0 (by decide)⟩
theorem f_X5_18 : FL RX5 18 5 1 := ⟨_, _, _, rfl, gX5, by decide, wG_in (by decide +kernel) rfl⟩
theorem p_X5_18 : FP RX5 18 5 1 (tyX5 1) true := ⟨_, _, _, tyX5, rfl, gX5, by decide, wG_in (by decide +kernel) rfl, tyX5_ok, nmX5, rfl, (fun _ => rfl), tyX5_ok 1 (by decide)⟩
theorem f_X5_22 : FL RX5 22 5 2 := ⟨_, _, _, rfl, gX5, by decide, wG_in (by decide +kernel) rfl⟩
theorem p_X5_22 : FP RX5 22 5 2 (tyX5 2) true := ⟨_, _, _, tyX5, rfl, gX5, by decide, wG_in (by decide +kernel) rfl, tyX5_ok, nmX5, rfl, (fun _ => rfl), tyX5_ok 2 (by decide)⟩
theorem f_X5_26 : FL RX5 26 5 3 := ⟨_, _, _, rfl, gX5, by decide, wG_in (by decide +kernel) rfl⟩
theorem p_X5_26 : FP RX5 26 5 3 (tyX5 3) false := ⟨_, _, _, tyX5, rfl, gX5, by decide, wG_in (by decide +kernel) rfl, tyX5_ok, nmX5, rfl, (fun h => by cases h), tyX5_ok 3 (by decide)⟩
theorem f_X5_34 : FL RX5 34 2 3 := ⟨_, _, _, rfl, gX2, by decide, wG_in (by decide +kernel) rfl⟩
theorem p_X5_34 : FP RX5 34 2 3 (tyX2 3) false := ⟨_, _, _, tyX2, rfl, gX2, by decide, wG_in (by decide +kernel) rfl, tyX2_ok, nmX2, rfl, (fun h => by cases h), tyX2_ok 3 (by decide)⟩
theorem f_X5_45 : FL RX5 45 6 0 := ⟨_, _, _, rfl, gX6, by decide, wG_in (by decide +kernel) rfl⟩
theorem p_X5_45 : FP RX5 45 6 0 (tyX6 0) false := ⟨_, _, _, tyX6, rfl, gX6, by decide, wG_in (by decide +kernel) rfl, tyX6_ok, nmX6, rfl, (fun h => by cases h), tyX6_ok 0 (by decide)⟩
theorem f_X5_52 : FL RX5 52 6 2 := ⟨_, _, _, rfl, gX6, by decide, wG_in (by decide +kernel) rfl⟩
theorem p_X5_52 : FP RX5 52 6 2 (tyX6 2) false := ⟨_, _, _, tyX6, rfl, gX6, by decide, wG_in (by decide +kernel) rfl, tyX6_ok, nmX6, rfl, (fun h => by cases h), tyX6_ok 2 (by decide)⟩
theorem f_X5_58 : FL RX5 58 6 1 := ⟨_, _, _, rfl, gX6, by decide, wG_in (by decide +kernel) rfl⟩
theorem p_X5_58 : FP RX5 58 6 1 (tyX6 1) false := ⟨_, _, _, tyX6, rfl, gX6, by decide, wG_in (by decide +kernel) rfl, tyX6_ok, nmX6, rfl, (fun h => by cases h), tyX6_ok 1 (by decide)⟩
theorem f_X5_66 : FL RX5 66 6 3 := ⟨_, _, _, rfl, gX6, by decide, wG_in (by decide +kernel) rfl⟩
theorem p_X5_66 : FP RX5 66 6 3 (tyX6 3) false := ⟨_, _, _, tyX6, rfl, gX6, by decide, wG_in (by decide +kernel) rfl, tyX6_ok, nmX6, rfl, (fun h => by cases h), tyX6_ok 3 (by decide)⟩
theorem f_X5_77 : FL RX5 77 6 9 := ⟨_, _, _, rfl, gX6, by decide, wG_in (by decide +kernel) rfl⟩
theorem p_X5_77 : FP RX5 77 6 9 (tyX6 9) false := ⟨_, _, _, tyX6, rfl, gX6, by decide, wG_in (by decide +kernel) rfl, tyX6_ok, nmX6, rfl, (fun h => by cases h), tyX6_ok 9 (by decide)⟩
theorem f_X5_80 : FL RX5 80 6 13 := ⟨_, _, _, rfl, gX6, by decide, wG_in (by decide +kernel) rfl⟩
theorem p_X5_80 : FP RX5 80 6 13 (tyX6 13) false := ⟨_, _, _, tyX6, rfl, gX6, by decide, wG_in (by decide +kernel) rfl, tyX6_ok, nmX6, rfl, (fun h => by cases h), tyX6_ok 13 (by decide)⟩
theorem f_X5_83 : FL RX5 83 6 7 := ⟨_, _, _, rfl, gX6, by decide, wG_in (by decide +kernel) rfl⟩
theorem p_X5_83 : FP RX5 83 6 7 (tyX6 7) false := ⟨_, _, _, tyX6, rfl, gX6, by decide, wG_in (by decide +kernel) rfl, tyX6_ok, nmX6, rfl, (fun h => by cases h), tyX6_ok 7 (by decide)⟩
theorem f_X5_97 : FL RX5 97 6 10 := ⟨_, _, _, rfl, gX6, by decide, wG_in (by decide +kernel) rfl⟩
theorem p_X5_97 : FP RX5 97 6 10 (tyX6 10) false := ⟨_, _, _, tyX6, rfl, gX6, by decide, wG_in (by decide +kernel) rfl, tyX6_ok, nmX6, rfl, (fun h => by cases h), tyX6_ok 10 (by decide)⟩
theorem f_X5_108 : FL RX5 108 6 4 := ⟨_, _, _, rfl, gX6, by decide, wG_in (by decide +kernel) rfl⟩
theorem p_X5_108 : FP RX5 108 6 4 (tyX6 4) false := ⟨_, _, _, tyX6, rfl, gX6, by decide, wG_in (by decide +kernel) rfl, tyX6_ok, nmX6, rfl, (fun h => by cases h), tyX6_ok 4 (by decide)⟩
theorem f_X5_111 : FL RX5 111 6 5 := ⟨_, _, _, rfl, gX6, by decide, wG_in (by decide +kernel) rfl⟩
theorem p_X5_111 : FP RX5 111 6 5 (tyX6 5) false := ⟨_, _, _, tyX6, rfl, gX6, by decide, wG_in (by decide +kernel) rfl, tyX6_ok, nmX6, rfl, (fun h => by cases h), tyX6_ok 5 (by decide)⟩
theorem f_X5_114 : FL RX5 114 6 6 := ⟨_, _, _, rfl, gX6, by decide, wG_in (by decide +kernel) rfl⟩
theorem p_X5_114 : FP RX5 114 6 6 (tyX6 6) false := ⟨_, _, _, tyX6, rfl, gX6, by decide, wG_in (by decide +kernel) rfl, tyX6_ok, nmX6, rfl, (fun h => by cases h), tyX6_ok 6 (by decide)⟩
theorem f_X6_14 : FL RX6 14 6 7 := ⟨_, _, _, rfl, gX6, by decide, wG_in (by decide +kernel) rfl⟩
theorem p_X6_14 : FP RX6 14 6 7 (tyX6 7) false := ⟨_, _, _, tyX6, rfl, gX6, by decide, wG_in (by decide +kernel) rfl, tyX6_ok, nmX6, rfl, (fun h => by cases h), tyX6_ok 7 (by decide)⟩
theorem f_X6_18 : FL RX6 18 6 13 := ⟨_, _, _, rfl, gX6, by decide, wG_in (by decide +kernel) rfl⟩
theorem p_X6_18 : FP RX6 18 6 13 (tyX6 13) false := ⟨_, _, _, tyX6, rfl, gX6, by decide, wG_in (by decide +kernel) rfl, tyX6_ok, nmX6, rfl, (fun h => by cases h), tyX6_ok 13 (by decide)⟩
theorem f_X6_21 : FL RX6 21 6 9 := ⟨_, _, _, rfl, gX6, by decide, wG_in (by decide +kernel) rfl⟩
theorem p_X6_21 : FP RX6 21 6 9 (tyX6 9) false := ⟨_, _, _, tyX6, rfl, gX6, by decide, wG_in (by decide +kernel) rfl, tyX6_ok, nmX6, rfl, (fun h => by cases h), tyX6_ok 9 (by decide)⟩
theorem f_X6_24 : FL RX6 24 6 1 := ⟨_, _, _, rfl, gX6, by decide, wG_in (by decide +kernel) rfl⟩
theorem p_X6_24 : FP RX6 24 6 1 (tyX6 1) false := ⟨_, _, _, tyX6, rfl, gX6, by decide, wG_in (by decide +kernel) rfl, tyX6_ok, nmX6, rfl, (fun h => by cases h), tyX6_ok 1 (by decide)⟩
theorem f_X6_27 : FL RX6 27 6 10 := ⟨_, _, _, rfl, gX6, by decide, wG_in (by decide +kernel) rfl⟩
theorem p_X6_27 : FP RX6 27 6 10 (tyX6 10) false := ⟨_, _, _, tyX6, rfl, gX6, by decide, wG_in (by decide +kernel) rfl, tyX6_ok, nmX6, rfl, (fun h => by cases h), tyX6_ok 10 (by decide)⟩
theorem f_X6_30 : FL RX6 30 6 11 := ⟨_, _, _, rfl, gX6, by decide, wG_in (by decide +kernel) rfl⟩
theorem p_X6_30 : FP RX6 30 6 11 (tyX6 11) false := ⟨_, _, _, tyX6, rfl, gX6, by decide, wG_in (by decide +kernel) rfl, tyX6_ok, nmX6, rfl, (fun h => by cases h), tyX6_ok 11 (by decide)⟩
theorem f_X6_33 : FL RX6 33 6 12 := ⟨_, _, _, rfl, gX6, by decide, wG_in (by decide +kernel) rfl⟩
theorem p_X6_33 : FP RX6 33 6 12 (tyX6 12) false := ⟨_, _, _, tyX6, rfl, gX6, by decide, wG_in (by decide +kernel) rfl, tyX6_ok, nmX6, rfl, (fun h => by cases h), tyX6_ok 12 (by decide)⟩
theorem f_X6_36 : FL RX6 36 6 4 := ⟨_, _, _, rfl, gX6, by decide, wG_in (by decide +kernel) rfl⟩
theorem p_X6_36 : FP RX6 36 6 4 (tyX6 4) false := ⟨_, _, _, tyX6, rfl, gX6, by decide, wG_in (by decide +kernel) rfl, tyX6_ok, nmX6, rfl, (fun h => by cases h), tyX6_ok 4 (by decide)⟩
theorem f_X6_39 : FL RX6 39 6 5 := ⟨_, _, _, rfl, gX6, by decide, wG_in (by decide +kernel) rfl⟩
theorem p_X6_39 : FP RX6 39 6 5 (tyX6 5) false := ⟨_, _, _, tyX6, rfl, gX6, by decide, wG_in (by decide +kernel) rfl, tyX6_ok, nmX6, rfl, (fun h => by cases h), tyX6_ok 5 (by decide)⟩
theorem f_X6_42 : FL RX6 42 6 6 := ⟨_, _, _, rfl, gX6, by decide, wG_in (by decide +kernel) rfl⟩
theorem p_X6_42 : FP RX6 42 6 6 (tyX6 6) false := ⟨_, _, _, tyX6, rfl, gX6, by decide, wG_in (by decide +kernel) rfl, tyX6_ok, nmX6, rfl, (fun h => by cases h), tyX6_ok 6 (by decide)⟩
theorem f_X6_45 : FL RX6 45 6 8 := ⟨_, _, _, rfl, gX6, by decide, wG_in (by decide +kernel) rfl⟩
theorem p_X6_45 : FP RX6 45 6 8 (tyX6 8) false := ⟨_, _, _, tyX6, rfl, gX6, by decide, wG_in (by decide +kernel) rfl, tyX6_ok, nmX6, rfl, (fun h => by cases h), tyX6_ok 8 (by decide)⟩
theorem f_X6_54 : FL RX6 54 6 14 := ⟨_, _, _, rfl, gX6, by decide, wG_in (by decide +kernel) rfl⟩
theorem p_X6_54 : FP RX6 54 6 14 (tyX6 14) false := ⟨_, _, _, tyX6, rfl, gX6, by decide, wG_in (by decide +kernel) rfl, tyX6_ok, nmX6, rfl, (fun h => by cases h), tyX6_ok 14 (by decide)⟩
theorem f_X6_57 : FL RX6 57 6 2 := ⟨_, _, _, rfl, gX6, by decide, wG_in (by decide +kernel) rfl⟩
theorem p_X6_57 : FP RX6 57 6 2 (tyX6 2) false := ⟨_, _, _, tyX6, rfl, gX6, by decide, wG_in (by decide +kernel) rfl, tyX6_ok, nmX6, rfl, (fun h => by cases h), tyX6_ok 2 (by decide)⟩
theorem f_X6_60 : FL RX6 60 6 0 := ⟨_, _, _, rfl, gX6, by decide, wG_in (by decide +kernel) rfl⟩
theorem p_X6_60 : FP RX6 60 6 0 (tyX6 0) false := ⟨_, _, _, tyX6, rfl, gX6, by decide, wG_in (by decide +kernel) rfl, tyX6_ok, nmX6, rfl, (fun h => by cases h), tyX6_ok 0 (by decide)⟩
theorem f_X6_63 : FL RX6 63 6 3 := ⟨_, _, _, rfl, gX6, by decide, wG_in (by decide +kernel) rfl⟩
theorem p_X6_63 : FP RX6 63 6 3 (tyX6 3) false := ⟨_, _, _, tyX6, rfl, gX6, by decide, wG_in (by decide +kernel) rfl, tyX6_ok, nmX6, rfl, (fun h => by cases h), tyX6_ok 3 (by decide)⟩
theorem f_X7_7 : FL RX7 7 7 0 := ⟨_, _, _, rfl, gX7, by decide, wG_in (by decide +kernel) rfl⟩
theorem p_X7_7 : FP RX7 7 7 0 (tyX7 0) true := ⟨_, _, _, tyX7, rfl, gX7, by decide, wG_in (by decide +kernel) rfl, tyX7_ok, nmX7, rfl, (fun _ => rfl), tyX7_ok 0 (by decide)⟩
theorem f_X7_18 : FL RX7 18 7 1 := ⟨_, _, _, rfl, gX7, by decide, wG_in (by decide +kernel) rfl⟩
theorem p_X7_18 : FP RX7 18 7 1 (tyX7 1) true := ⟨_, _, _, tyX7, rfl, gX7, by decide, wG_in (by decide +kernel) rfl, tyX7_ok, nmX7, rfl, (fun _ => rfl), tyX7_ok 1 (by decide)⟩
theorem f_X7_22 : FL RX7 22 7 2 := ⟨_, _, _, rfl, gX7, by decide, wG_in (by decide +kernel) rfl⟩
theorem p_X7_22 : FP RX7 22 7 2 (tyX7 2) true := ⟨_, _, _, tyX7, rfl, gX7, by decide, wG_in (by decide +kernel) rfl, tyX7_ok, nmX7, rfl, (fun _ => rfl), tyX7_ok 2 (by decide)⟩
theorem f_X7_28 : FL RX7 28 7 3 := ⟨_, _, _, rfl, gX7, by decide, wG_in (by decide +kernel) rfl⟩
theorem p_X7_28 : FP RX7 28 7 3 (tyX7 3) true := ⟨_, _, _, tyX7, rfl, gX7, by decide, wG_in (by decide +kernel) rfl, tyX7_ok, nmX7, rfl, (fun _ => rfl), tyX7_ok 3 (by decide)⟩
theorem f_X7_32 : FL RX7 32 7 4 := ⟨_, _, _, rfl, gX7, by decide, wG_in (by decide +kernel) rfl⟩
theorem p_X7_32 : FP RX7 32 7 4 (tyX7 4) true := ⟨_, _, _, tyX7, rfl, gX7, by decide, wG_in (by decide +kernel) rfl, tyX7_ok, nmX7, rfl, (fun _ => rfl), tyX7_ok 4 (by decide)⟩
theorem f_X7_40 : FL RX7 40 7 5 := ⟨_, _, _, rfl, gX7, by decide, wG_in (by decide +kernel) rfl⟩
theorem p_X7_40 : FP RX7 40 7 5 (tyX7 5) true := ⟨_, _, _, tyX7, rfl, gX7, by decide, wG_in (by decide +kernel) rfl, tyX7_ok, nmX7, rfl, (fun _ => rfl), tyX7_ok 5 (by decide)⟩
theorem f_X7_49 : FL RX7 49 7 6 := ⟨_, _, _, rfl, gX7, by decide, wG_in (by decide +kernel) rfl⟩
theorem p_X7_49 : FP RX7 49 7 6 (tyX7 6) true := ⟨_, _, _, tyX7, rfl, gX7, by decide, wG_in (by decide +kernel) rfl, tyX7_ok, nmX7, rfl, (fun _ => rfl), tyX7_ok 6 (by decide)⟩
theorem f_X7_56 : FL RX7 56 7 7 := ⟨_, _, _, rfl, gX7, by decide, wG_in (by decide +kernel) rfl⟩
theorem p_X7_56 : FP RX7 56 7 7 (tyX7 7) true := ⟨_, _, _, tyX7, rfl, gX7, by decide, wG_in (by decide +kernel) rfl, tyX7_ok, nmX7, rfl, (fun _ => rfl), tyX7_ok 7 (by decide)⟩
theorem f_X7_62 : FL RX7 62 7 8 := ⟨_, _, _, rfl, gX7, by decide, wG_in (by decide +kernel) rfl⟩
theorem p_X7_62 : FP RX7 62 7 8 (tyX7 8) true := ⟨_, _, _, tyX7, rfl, gX7, by decide, wG_in (by decide +kernel) rfl, tyX7_ok, nmX7, rfl, (fun _ => rfl), tyX7_ok 8 (by decide)⟩
theorem f_X7_85 : FL RX7 85 2 1 := ⟨_, _, _, rfl, gX2, by decide, wG_in (by decide +kernel) rfl⟩
theorem p_X7_85 : FP RX7 85 2 1 (tyX2 1) false := ⟨_, _, _, tyX2, rfl, gX2, by decide, wG_in (by decide +kernel) rfl, tyX2_ok, nmX2, rfl, (fun h => by cases h), tyX2_ok 1 (by decide)⟩
theorem f_X7_92 : FL RX7 92 2 3 := ⟨_, _, _, rfl, gX2, by decide, wG_in (by decide +kernel) rfl⟩
theorem p_X7_92 : FP RX7 92 2 3 (tyX2 3) false := ⟨_, _, _, tyX2, rfl, gX2, by decide, wG_in (by decide +kernel) rfl, tyX2_ok, nmX2, rfl, (fun h => by cases h), tyX2_ok 3 (by decide)⟩
theorem f_X7_98 : FL RX7 98 2 2 := ⟨_, _, _, rfl, gX2, by decide, wG_in (by decide +kernel) rfl⟩
theorem p_X7_98 : FP RX7 98 2 2 (tyX2 2) false := ⟨_, _, _, tyX2, rfl, gX2, by decide, wG_in (by decide +kernel) rfl, tyX2_ok, nmX2, rfl, (fun h => by cases h), tyX2_ok 2 (by decide)⟩
theorem s_X7_101 : Cond.fieldLink RX7 101 "MayNotPause" "LEAST_SETTING" "[I" ∈ wG := wG_in (by decide +kernel) rfl
theorem s_X7_104 : Cond.fieldLink RX7 104 "MayNotPause" "MOST_SETTING" "[I" ∈ wG := wG_in (by decide +kernel) rfl
theorem f_X7_118 : FL RX7 118 6 0 := ⟨_, _, _, rfl, gX6, by decide, wG_in (by decide +kernel) rfl⟩
theorem p_X7_118 : FP RX7 118 6 0 (tyX6 0) false := ⟨_, _, _, tyX6, rfl, gX6, by decide, wG_in (by decide +kernel) rfl, tyX6_ok, nmX6, rfl, (fun h => by cases h), tyX6_ok 0 (by decide)⟩
theorem f_X7_123 : FL RX7 123 6 1 := ⟨_, _, _, rfl, gX6, by decide, wG_in (by decide +kernel) rfl⟩
theorem p_X7_123 : FP RX7 123 6 1 (tyX6 1) false := ⟨_, _, _, tyX6, rfl, gX6, by decide, wG_in (by decide +kernel) rfl, tyX6_ok, nmX6, rfl, (fun h => by cases h), tyX6_ok 1 (by decide)⟩
theorem f_X7_126 : FL RX7 126 6 3 := ⟨_, _, _, rfl, gX6, by decide, wG_in (by decide +kernel) rfl⟩
theorem p_X7_126 : FP RX7 126 6 3 (tyX6 3) false := ⟨_, _, _, tyX6, rfl, gX6, by decide, wG_in (by decide +kernel) rfl, tyX6_ok, nmX6, rfl, (fun h => by cases h), tyX6_ok 3 (by decide)⟩
theorem f_X7_129 : FL RX7 129 6 4 := ⟨_, _, _, rfl, gX6, by decide, wG_in (by decide +kernel) rfl⟩
theorem p_X7_129 : FP RX7 129 6 4 (tyX6 4) false := ⟨_, _, _, tyX6, rfl, gX6, by decide, wG_in (by decide +kernel) rfl, tyX6_ok, nmX6, rfl, (fun h => by cases h), tyX6_ok 4 (by decide)⟩
theorem f_X7_132 : FL RX7 132 6 5 := ⟨_, _, _, rfl, gX6, by decide, wG_in (by decide +kernel) rfl⟩
theorem p_X7_132 : FP RX7 132 6 5 (tyX6 5) false := ⟨_, _, _, tyX6, rfl, gX6, by decide, wG_in (by decide +kernel) rfl, tyX6_ok, nmX6, rfl, (fun h => by cases h), tyX6_ok 5 (by decide)⟩
theorem f_X7_135 : FL RX7 135 6 6 := ⟨_, _, _, rfl, gX6, by decide, wG_in (by decide +kernel) rfl⟩
theorem p_X7_135 : FP RX7 135 6 6 (tyX6 6) false := ⟨_, _, _, tyX6, rfl, gX6, by decide, wG_in (by decide +kernel) rfl, tyX6_ok, nmX6, rfl, (fun h => by cases h), tyX6_ok 6 (by decide)⟩
theorem f_X7_138 : FL RX7 138 6 7 := ⟨_, _, _, rfl, gX6, by decide, wG_in (by decide +kernel) rfl⟩
theorem p_X7_138 : FP RX7 138 6 7 (tyX6 7) false := ⟨_, _, _, tyX6, rfl, gX6, by decide, wG_in (by decide +kernel) rfl, tyX6_ok, nmX6, rfl, (fun h => by cases h), tyX6_ok 7 (by decide)⟩
theorem f_X7_141 : FL RX7 141 6 8 := ⟨_, _, _, rfl, gX6, by decide, wG_in (by decide +kernel) rfl⟩
theorem p_X7_141 : FP RX7 141 6 8 (tyX6 8) false := ⟨_, _, _, tyX6, rfl, gX6, by decide, wG_in (by decide +kernel) rfl, tyX6_ok, nmX6, rfl, (fun h => by cases h), tyX6_ok 8 (by decide)⟩
theorem f_X7_155 : FL RX7 155 6 10 := ⟨_, _, _, rfl, gX6, by decide, wG_in (by decide +kernel) rfl⟩
theorem p_X7_155 : FP RX7 155 6 10 (tyX6 10) false := ⟨_, _, _, tyX6, rfl, gX6, by decide, wG_in (by decide +kernel) rfl, tyX6_ok, nmX6, rfl, (fun h => by cases h), tyX6_ok 10 (by decide)⟩
theorem f_X7_158 : FL RX7 158 6 12 := ⟨_, _, _, rfl, gX6, by decide, wG_in (by decide +kernel) rfl⟩
theorem p_X7_158 : FP RX7 158 6 12 (tyX6 12) false := ⟨_, _, _, tyX6, rfl, gX6, by decide, wG_in (by decide +kernel) rfl, tyX6_ok, nmX6, rfl, (fun h => by cases h), tyX6_ok 12 (by decide)⟩
theorem f_X7_161 : FL RX7 161 6 14 := ⟨_, _, _, rfl, gX6, by decide, wG_in (by decide +kernel) rfl⟩
theorem p_X7_161 : FP RX7 161 6 14 (tyX6 14) false := ⟨_, _, _, tyX6, rfl, gX6, by decide, wG_in (by decide +kernel) rfl, tyX6_ok, nmX6, rfl, (fun h => by cases h), tyX6_ok 14 (by decide)⟩
theorem f_X7_174 : FL RX7 174 7 9 := ⟨_, _, _, rfl, gX7, by decide, wG_in (by decide +kernel) rfl⟩
theorem p_X7_174 : FP RX7 174 7 9 (tyX7 9) false := ⟨_, _, _, tyX7, rfl, gX7, by decide, wG_in (by decide +kernel) rfl, tyX7_ok, nmX7, rfl, (fun h => by cases h), tyX7_ok 9 (by decide)⟩
theorem f_X7_181 : FL RX7 181 1 4 := ⟨_, _, _, rfl, gX1, by decide, wG_in (by decide +kernel) rfl⟩
theorem f_X7_184 : FL RX7 184 7 10 := ⟨_, _, _, rfl, gX7, by decide, wG_in (by decide +kernel) rfl⟩
theorem p_X7_184 : FP RX7 184 7 10 (tyX7 10) false := ⟨_, _, _, tyX7, rfl, gX7, by decide, wG_in (by decide +kernel) rfl, tyX7_ok, nmX7, rfl, (fun h => by cases h), tyX7_ok 10 (by decide)⟩
theorem f_X7_188 : FL RX7 188 0 7 := ⟨_, _, _, rfl, gX0, by decide, wG_in (by decide +kernel) rfl⟩
theorem p_X7_188 : FP RX7 188 0 7 (tyX0 7) false := ⟨_, _, _, tyX0, rfl, gX0, by decide, wG_in (by decide +kernel) rfl, tyX0_ok, nmX0, rfl, (fun h => by cases h), tyX0_ok 7 (by decide)⟩
theorem f_X7_191 : FL RX7 191 0 8 := ⟨_, _, _, rfl, gX0, by decide, wG_in (by decide +kernel) rfl⟩
theorem p_X7_191 : FP RX7 191 0 8 (tyX0 8) false := ⟨_, _, _, tyX0, rfl, gX0, by decide, wG_in (by decide +kernel) rfl, tyX0_ok, nmX0, rfl, (fun h => by cases h), tyX0_ok 8 (by decide)⟩
theorem f_X7_194 : FL RX7 194 0 4 := ⟨_, _, _, rfl, gX0, by decide, wG_in (by decide +kernel) rfl⟩
theorem f_X7_234 : FL RX7 234 4 2 := ⟨_, _, _, rfl, gX4, by decide, wG_in (by decide +kernel) rfl⟩
theorem p_X7_234 : FP RX7 234 4 2 (tyX4 2) false := ⟨_, _, _, tyX4, rfl, gX4, by decide, wG_in (by decide +kernel) rfl, tyX4_ok, nmX4, rfl, (fun h => by cases h), tyX4_ok 2 (by decide)⟩
theorem f_X7_242 : FL RX7 242 3 1 := ⟨_, _, _, rfl, gX3, by decide, wG_in (by decide +kernel) rfl⟩
theorem p_X7_242 : FP RX7 242 3 1 (tyX3 1) false := ⟨_, _, _, tyX3, rfl, gX3, by decide, wG_in (by decide +kernel) rfl, tyX3_ok, nmX3, rfl, (fun h => by cases h), tyX3_ok 1 (by decide)⟩
theorem f_X7_248 : FL RX7 248 3 3 := ⟨_, _, _, rfl, gX3, by decide, wG_in (by decide +kernel) rfl⟩
theorem p_X7_248 : FP RX7 248 3 3 (tyX3 3) false := ⟨_, _, _, tyX3, rfl, gX3, by decide, wG_in (by decide +kernel) rfl, tyX3_ok, nmX3, rfl, (fun h => by cases h), tyX3_ok 3 (by decide)⟩
theorem f_X7_266 : FL RX7 266 7 11 := ⟨_, _, _, rfl, gX7, by decide, wG_in (by decide +kernel) rfl⟩
theorem p_X7_266 : FP RX7 266 7 11 (tyX7 11) false := ⟨_, _, _, tyX7, rfl, gX7, by decide, wG_in (by decide +kernel) rfl, tyX7_ok, nmX7, rfl, (fun h => by cases h), tyX7_ok 11 (by decide)⟩
theorem f_X7_269 : FL RX7 269 3 2 := ⟨_, _, _, rfl, gX3, by decide, wG_in (by decide +kernel) rfl⟩
theorem p_X7_269 : FP RX7 269 3 2 (tyX3 2) false := ⟨_, _, _, tyX3, rfl, gX3, by decide, wG_in (by decide +kernel) rfl, tyX3_ok, nmX3, rfl, (fun h => by cases h), tyX3_ok 2 (by decide)⟩
theorem f_X7_275 : FL RX7 275 3 0 := ⟨_, _, _, rfl, gX3, by decide, wG_in (by decide +kernel) rfl⟩
theorem f_X7_289 : FL RX7 289 6 9 := ⟨_, _, _, rfl, gX6, by decide, wG_in (by decide +kernel) rfl⟩
theorem p_X7_289 : FP RX7 289 6 9 (tyX6 9) false := ⟨_, _, _, tyX6, rfl, gX6, by decide, wG_in (by decide +kernel) rfl, tyX6_ok, nmX6, rfl, (fun h => by cases h), tyX6_ok 9 (by decide)⟩
theorem f_X8_7 : FL RX8 7 8 0 := ⟨_, _, _, rfl, gX8, by decide, wG_in (by decide +kernel) rfl⟩
theorem p_X8_7 : FP RX8 7 8 0 (tyX8 0) true := ⟨_, _, _, tyX8, rfl, gX8, by decide, wG_in (by decide +kernel) rfl, tyX8_ok, nmX8, rfl, (fun _ => rfl), tyX8_ok 0 (by decide)⟩
theorem f_X8_13 : FL RX8 13 8 1 := ⟨_, _, _, rfl, gX8, by decide, wG_in (by decide +kernel) rfl⟩
theorem p_X8_13 : FP RX8 13 8 1 (tyX8 1) true := ⟨_, _, _, tyX8, rfl, gX8, by decide, wG_in (by decide +kernel) rfl, tyX8_ok, nmX8, rfl, (fun _ => rfl), tyX8_ok 1 (by decide)⟩
theorem f_X8_16 : FL RX8 16 8 2 := ⟨_, _, _, rfl, gX8, by decide, wG_in (by decide +kernel) rfl⟩
theorem p_X8_16 : FP RX8 16 8 2 (tyX8 2) true := ⟨_, _, _, tyX8, rfl, gX8, by decide, wG_in (by decide +kernel) rfl, tyX8_ok, nmX8, rfl, (fun _ => rfl), tyX8_ok 2 (by decide)⟩
theorem f_X8_19 : FL RX8 19 8 3 := ⟨_, _, _, rfl, gX8, by decide, wG_in (by decide +kernel) rfl⟩
theorem p_X8_19 : FP RX8 19 8 3 (tyX8 3) true := ⟨_, _, _, tyX8, rfl, gX8, by decide, wG_in (by decide +kernel) rfl, tyX8_ok, nmX8, rfl, (fun _ => rfl), tyX8_ok 3 (by decide)⟩
theorem f_X8_22 : FL RX8 22 8 5 := ⟨_, _, _, rfl, gX8, by decide, wG_in (by decide +kernel) rfl⟩
theorem p_X8_22 : FP RX8 22 8 5 (tyX8 5) true := ⟨_, _, _, tyX8, rfl, gX8, by decide, wG_in (by decide +kernel) rfl, tyX8_ok, nmX8, rfl, (fun _ => rfl), tyX8_ok 5 (by decide)⟩
theorem f_X8_25 : FL RX8 25 8 6 := ⟨_, _, _, rfl, gX8, by decide, wG_in (by decide +kernel) rfl⟩
theorem p_X8_25 : FP RX8 25 8 6 (tyX8 6) true := ⟨_, _, _, tyX8, rfl, gX8, by decide, wG_in (by decide +kernel) rfl, tyX8_ok, nmX8, rfl, (fun _ => rfl), tyX8_ok 6 (by decide)⟩
theorem f_X8_28 : FL RX8 28 8 8 := ⟨_, _, _, rfl, gX8, by decide, wG_in (by decide +kernel) rfl⟩
theorem p_X8_28 : FP RX8 28 8 8 (tyX8 8) true := ⟨_, _, _, tyX8, rfl, gX8, by decide, wG_in (by decide +kernel) rfl, tyX8_ok, nmX8, rfl, (fun _ => rfl), tyX8_ok 8 (by decide)⟩
theorem f_X8_31 : FL RX8 31 8 9 := ⟨_, _, _, rfl, gX8, by decide, wG_in (by decide +kernel) rfl⟩
theorem p_X8_31 : FP RX8 31 8 9 (tyX8 9) true := ⟨_, _, _, tyX8, rfl, gX8, by decide, wG_in (by decide +kernel) rfl, tyX8_ok, nmX8, rfl, (fun _ => rfl), tyX8_ok 9 (by decide)⟩
theorem f_X8_34 : FL RX8 34 8 10 := ⟨_, _, _, rfl, gX8, by decide, wG_in (by decide +kernel) rfl⟩
theorem p_X8_34 : FP RX8 34 8 10 (tyX8 10) true := ⟨_, _, _, tyX8, rfl, gX8, by decide, wG_in (by decide +kernel) rfl, tyX8_ok, nmX8, rfl, (fun _ => rfl), tyX8_ok 10 (by decide)⟩
theorem f_X8_37 : FL RX8 37 8 12 := ⟨_, _, _, rfl, gX8, by decide, wG_in (by decide +kernel) rfl⟩
theorem p_X8_37 : FP RX8 37 8 12 (tyX8 12) true := ⟨_, _, _, tyX8, rfl, gX8, by decide, wG_in (by decide +kernel) rfl, tyX8_ok, nmX8, rfl, (fun _ => rfl), tyX8_ok 12 (by decide)⟩
theorem f_X8_40 : FL RX8 40 8 13 := ⟨_, _, _, rfl, gX8, by decide, wG_in (by decide +kernel) rfl⟩
theorem p_X8_40 : FP RX8 40 8 13 (tyX8 13) true := ⟨_, _, _, tyX8, rfl, gX8, by decide, wG_in (by decide +kernel) rfl, tyX8_ok, nmX8, rfl, (fun _ => rfl), tyX8_ok 13 (by decide)⟩
theorem f_X8_43 : FL RX8 43 8 14 := ⟨_, _, _, rfl, gX8, by decide, wG_in (by decide +kernel) rfl⟩
theorem p_X8_43 : FP RX8 43 8 14 (tyX8 14) true := ⟨_, _, _, tyX8, rfl, gX8, by decide, wG_in (by decide +kernel) rfl, tyX8_ok, nmX8, rfl, (fun _ => rfl), tyX8_ok 14 (by decide)⟩
theorem f_X8_46 : FL RX8 46 8 15 := ⟨_, _, _, rfl, gX8, by decide, wG_in (by decide +kernel) rfl⟩
theorem p_X8_46 : FP RX8 46 8 15 (tyX8 15) true := ⟨_, _, _, tyX8, rfl, gX8, by decide, wG_in (by decide +kernel) rfl, tyX8_ok, nmX8, rfl, (fun _ => rfl), tyX8_ok 15 (by decide)⟩
theorem f_X8_49 : FL RX8 49 8 16 := ⟨_, _, _, rfl, gX8, by decide, wG_in (by decide +kernel) rfl⟩
theorem p_X8_49 : FP RX8 49 8 16 (tyX8 16) true := ⟨_, _, _, tyX8, rfl, gX8, by decide, wG_in (by decide +kernel) rfl, tyX8_ok, nmX8, rfl, (fun _ => rfl), tyX8_ok 16 (by decide)⟩
theorem f_X8_52 : FL RX8 52 8 17 := ⟨_, _, _, rfl, gX8, by decide, wG_in (by decide +kernel) rfl⟩
theorem p_X8_52 : FP RX8 52 8 17 (tyX8 17) true := ⟨_, _, _, tyX8, rfl, gX8, by decide, wG_in (by decide +kernel) rfl, tyX8_ok, nmX8, rfl, (fun _ => rfl), tyX8_ok 17 (by decide)⟩
theorem f_X8_55 : FL RX8 55 8 18 := ⟨_, _, _, rfl, gX8, by decide, wG_in (by decide +kernel) rfl⟩
theorem p_X8_55 : FP RX8 55 8 18 (tyX8 18) true := ⟨_, _, _, tyX8, rfl, gX8, by decide, wG_in (by decide +kernel) rfl, tyX8_ok, nmX8, rfl, (fun _ => rfl), tyX8_ok 18 (by decide)⟩
theorem f_X8_58 : FL RX8 58 8 19 := ⟨_, _, _, rfl, gX8, by decide, wG_in (by decide +kernel) rfl⟩
theorem p_X8_58 : FP RX8 58 8 19 (tyX8 19) true := ⟨_, _, _, tyX8, rfl, gX8, by decide, wG_in (by decide +kernel) rfl, tyX8_ok, nmX8, rfl, (fun _ => rfl), tyX8_ok 19 (by decide)⟩
theorem f_X8_61 : FL RX8 61 8 24 := ⟨_, _, _, rfl, gX8, by decide, wG_in (by decide +kernel) rfl⟩
theorem p_X8_61 : FP RX8 61 8 24 (tyX8 24) true := ⟨_, _, _, tyX8, rfl, gX8, by decide, wG_in (by decide +kernel) rfl, tyX8_ok, nmX8, rfl, (fun _ => rfl), tyX8_ok 24 (by decide)⟩
theorem f_X8_64 : FL RX8 64 8 25 := ⟨_, _, _, rfl, gX8, by decide, wG_in (by decide +kernel) rfl⟩
theorem p_X8_64 : FP RX8 64 8 25 (tyX8 25) true := ⟨_, _, _, tyX8, rfl, gX8, by decide, wG_in (by decide +kernel) rfl, tyX8_ok, nmX8, rfl, (fun _ => rfl), tyX8_ok 25 (by decide)⟩
theorem f_X8_67 : FL RX8 67 8 29 := ⟨_, _, _, rfl, gX8, by decide, wG_in (by decide +kernel) rfl⟩
theorem p_X8_67 : FP RX8 67 8 29 (tyX8 29) true := ⟨_, _, _, tyX8, rfl, gX8, by decide, wG_in (by decide +kernel) rfl, tyX8_ok, nmX8, rfl, (fun _ => rfl), tyX8_ok 29 (by decide)⟩
theorem f_X8_76 : FL RX8 76 8 4 := ⟨_, _, _, rfl, gX8, by decide, wG_in (by decide +kernel) rfl⟩
theorem p_X8_76 : FP RX8 76 8 4 (tyX8 4) false := ⟨_, _, _, tyX8, rfl, gX8, by decide, wG_in (by decide +kernel) rfl, tyX8_ok, nmX8, rfl, (fun h => by cases h), tyX8_ok 4 (by decide)⟩
theorem f_X8_106 : FL RX8 106 8 7 := ⟨_, _, _, rfl, gX8, by decide, wG_in (by decide +kernel) rfl⟩
theorem p_X8_106 : FP RX8 106 8 7 (tyX8 7) false := ⟨_, _, _, tyX8, rfl, gX8, by decide, wG_in (by decide +kernel) rfl, tyX8_ok, nmX8, rfl, (fun h => by cases h), tyX8_ok 7 (by decide)⟩
theorem f_X8_128 : FL RX8 128 8 11 := ⟨_, _, _, rfl, gX8, by decide, wG_in (by decide +kernel) rfl⟩
theorem p_X8_128 : FP RX8 128 8 11 (tyX8 11) false := ⟨_, _, _, tyX8, rfl, gX8, by decide, wG_in (by decide +kernel) rfl, tyX8_ok, nmX8, rfl, (fun h => by cases h), tyX8_ok 11 (by decide)⟩
theorem f_X8_140 : FL RX8 140 8 20 := ⟨_, _, _, rfl, gX8, by decide, wG_in (by decide +kernel) rfl⟩
theorem p_X8_140 : FP RX8 140 8 20 (tyX8 20) false := ⟨_, _, _, tyX8, rfl, gX8, by decide, wG_in (by decide +kernel) rfl, tyX8_ok, nmX8, rfl, (fun h => by cases h), tyX8_ok 20 (by decide)⟩
theorem f_X8_143 : FL RX8 143 8 21 := ⟨_, _, _, rfl, gX8, by decide, wG_in (by decide +kernel) rfl⟩
theorem p_X8_143 : FP RX8 143 8 21 (tyX8 21) false := ⟨_, _, _, tyX8, rfl, gX8, by decide, wG_in (by decide +kernel) rfl, tyX8_ok, nmX8, rfl, (fun h => by cases h), tyX8_ok 21 (by decide)⟩
theorem f_X8_146 : FL RX8 146 8 22 := ⟨_, _, _, rfl, gX8, by decide, wG_in (by decide +kernel) rfl⟩
theorem p_X8_146 : FP RX8 146 8 22 (tyX8 22) false := ⟨_, _, _, tyX8, rfl, gX8, by decide, wG_in (by decide +kernel) rfl, tyX8_ok, nmX8, rfl, (fun h => by cases h), tyX8_ok 22 (by decide)⟩
theorem f_X8_149 : FL RX8 149 8 23 := ⟨_, _, _, rfl, gX8, by decide, wG_in (by decide +kernel) rfl⟩
theorem p_X8_149 : FP RX8 149 8 23 (tyX8 23) false := ⟨_, _, _, tyX8, rfl, gX8, by decide, wG_in (by decide +kernel) rfl, tyX8_ok, nmX8, rfl, (fun h => by cases h), tyX8_ok 23 (by decide)⟩
theorem f_X8_220 : FL RX8 220 8 26 := ⟨_, _, _, rfl, gX8, by decide, wG_in (by decide +kernel) rfl⟩
theorem p_X8_220 : FP RX8 220 8 26 (tyX8 26) false := ⟨_, _, _, tyX8, rfl, gX8, by decide, wG_in (by decide +kernel) rfl, tyX8_ok, nmX8, rfl, (fun h => by cases h), tyX8_ok 26 (by decide)⟩
theorem f_X8_223 : FL RX8 223 8 27 := ⟨_, _, _, rfl, gX8, by decide, wG_in (by decide +kernel) rfl⟩
theorem p_X8_223 : FP RX8 223 8 27 (tyX8 27) false := ⟨_, _, _, tyX8, rfl, gX8, by decide, wG_in (by decide +kernel) rfl, tyX8_ok, nmX8, rfl, (fun h => by cases h), tyX8_ok 27 (by decide)⟩
theorem f_X8_276 : FL RX8 276 8 28 := ⟨_, _, _, rfl, gX8, by decide, wG_in (by decide +kernel) rfl⟩
theorem p_X8_276 : FP RX8 276 8 28 (tyX8 28) false := ⟨_, _, _, tyX8, rfl, gX8, by decide, wG_in (by decide +kernel) rfl, tyX8_ok, nmX8, rfl, (fun h => by cases h), tyX8_ok 28 (by decide)⟩
theorem l_L_9 : Cond.methodLink RL 9 yX7_init ∈ wG := wG_in (by decide +kernel) rfl
theorem l_L_12 : Cond.methodLink RL 12 yX8_init ∈ wG := wG_in (by decide +kernel) rfl
theorem l_L_13 : Cond.methodLink RL 13 yX7_type ∈ wG := wG_in (by decide +kernel) rfl
theorem l_L_17 : Cond.methodLink RL 17 yX8_type ∈ wG := wG_in (by decide +kernel) rfl
theorem l_L_18 : Cond.methodLink RL 18 yX7_wipe ∈ wG := wG_in (by decide +kernel) rfl
theorem l_L_22 : Cond.methodLink RL 22 yX8_wipe ∈ wG := wG_in (by decide +kernel) rfl
theorem l_L_23 : Cond.methodLink RL 23 yX7_undo ∈ wG := wG_in (by decide +kernel) rfl
theorem l_L_26 : Cond.methodLink RL 26 yX8_undo ∈ wG := wG_in (by decide +kernel) rfl
theorem l_L_27 : Cond.methodLink RL 27 yX7_fault ∈ wG := wG_in (by decide +kernel) rfl
theorem l_L_30 : Cond.methodLink RL 30 yX8_fault ∈ wG := wG_in (by decide +kernel) rfl
theorem l_L_31 : Cond.methodLink RL 31 yX7_set ∈ wG := wG_in (by decide +kernel) rfl
theorem l_L_34 : Cond.methodLink RL 34 yX8_set ∈ wG := wG_in (by decide +kernel) rfl
theorem l_L_35 : Cond.methodLink RL 35 yX7_verse ∈ wG := wG_in (by decide +kernel) rfl
theorem l_L_38 : Cond.methodLink RL 38 yX8_verse ∈ wG := wG_in (by decide +kernel) rfl
theorem l_L_39 : Cond.methodLink RL 39 yX7_when ∈ wG := wG_in (by decide +kernel) rfl
theorem l_L_42 : Cond.methodLink RL 42 yX8_when ∈ wG := wG_in (by decide +kernel) rfl
theorem l_L_43 : Cond.methodLink RL 43 yX7_poem ∈ wG := wG_in (by decide +kernel) rfl
theorem l_L_46 : Cond.methodLink RL 46 yX8_poem ∈ wG := wG_in (by decide +kernel) rfl
theorem l_L_47 : Cond.methodLink RL 47 yX7_judged ∈ wG := wG_in (by decide +kernel) rfl
theorem l_L_51 : Cond.methodLink RL 51 yX8_judged ∈ wG := wG_in (by decide +kernel) rfl
theorem l_L_52 : Cond.methodLink RL 52 yX7_rest ∈ wG := wG_in (by decide +kernel) rfl
theorem l_L_55 : Cond.methodLink RL 55 yX8_rest ∈ wG := wG_in (by decide +kernel) rfl
theorem l_L_56 : Cond.methodLink RL 56 yX7_doing ∈ wG := wG_in (by decide +kernel) rfl
theorem l_L_59 : Cond.methodLink RL 59 yX8_doing ∈ wG := wG_in (by decide +kernel) rfl
theorem l_L_60 : Cond.methodLink RL 60 yX7_put ∈ wG := wG_in (by decide +kernel) rfl
theorem l_L_63 : Cond.methodLink RL 63 yX8_put ∈ wG := wG_in (by decide +kernel) rfl
theorem l_L_64 : Cond.methodLink RL 64 yX7_order ∈ wG := wG_in (by decide +kernel) rfl
theorem l_L_67 : Cond.methodLink RL 67 yX8_order ∈ wG := wG_in (by decide +kernel) rfl
theorem l_L_68 : Cond.methodLink RL 68 yX7_lead ∈ wG := wG_in (by decide +kernel) rfl
theorem l_L_71 : Cond.methodLink RL 71 yX8_lead ∈ wG := wG_in (by decide +kernel) rfl
theorem l_L_72 : Cond.methodLink RL 72 yX7_odds ∈ wG := wG_in (by decide +kernel) rfl
theorem l_L_76 : Cond.methodLink RL 76 yX8_odds ∈ wG := wG_in (by decide +kernel) rfl
theorem l_L_77 : Cond.methodLink RL 77 yX7_drawn ∈ wG := wG_in (by decide +kernel) rfl
theorem l_L_80 : Cond.methodLink RL 80 yX8_drawn ∈ wG := wG_in (by decide +kernel) rfl
theorem l_L_81 : Cond.methodLink RL 81 yX7_line ∈ wG := wG_in (by decide +kernel) rfl
theorem l_L_84 : Cond.methodLink RL 84 yX8_line ∈ wG := wG_in (by decide +kernel) rfl
theorem l_L_85 : Cond.methodLink RL 85 yX7_seen ∈ wG := wG_in (by decide +kernel) rfl
theorem l_L_88 : Cond.methodLink RL 88 yX8_seen ∈ wG := wG_in (by decide +kernel) rfl
theorem l_L_89 : Cond.methodLink RL 89 yX7_forget ∈ wG := wG_in (by decide +kernel) rfl
theorem l_L_92 : Cond.methodLink RL 92 yX8_forget ∈ wG := wG_in (by decide +kernel) rfl
theorem l_L_93 : Cond.methodLink RL 93 yX7_leads ∈ wG := wG_in (by decide +kernel) rfl
theorem l_L_96 : Cond.methodLink RL 96 yX8_leads ∈ wG := wG_in (by decide +kernel) rfl
theorem l_L_97 : Cond.methodLink RL 97 yX7_read ∈ wG := wG_in (by decide +kernel) rfl
theorem l_L_100 : Cond.methodLink RL 100 yX8_read ∈ wG := wG_in (by decide +kernel) rfl
theorem l_L_101 : Cond.methodLink RL 101 yX7_sheet ∈ wG := wG_in (by decide +kernel) rfl
theorem l_L_105 : Cond.methodLink RL 105 yX8_sheet ∈ wG := wG_in (by decide +kernel) rfl
theorem l_L_106 : Cond.methodLink RL 106 yX7_lose ∈ wG := wG_in (by decide +kernel) rfl
theorem l_L_109 : Cond.methodLink RL 109 yX8_lose ∈ wG := wG_in (by decide +kernel) rfl
theorem l_L_110 : Cond.methodLink RL 110 yX7_lay ∈ wG := wG_in (by decide +kernel) rfl
theorem l_L_114 : Cond.methodLink RL 114 yX8_lay ∈ wG := wG_in (by decide +kernel) rfl
theorem l_L_115 : Cond.methodLink RL 115 yX7_get ∈ wG := wG_in (by decide +kernel) rfl
theorem l_L_118 : Cond.methodLink RL 118 yX8_get ∈ wG := wG_in (by decide +kernel) rfl
theorem l_L_119 : Cond.methodLink RL 119 yX7_copy ∈ wG := wG_in (by decide +kernel) rfl
theorem l_L_123 : Cond.methodLink RL 123 yX8_copy ∈ wG := wG_in (by decide +kernel) rfl
theorem l_L_124 : Cond.methodLink RL 124 yX7_write ∈ wG := wG_in (by decide +kernel) rfl
theorem l_L_127 : Cond.methodLink RL 127 yX8_write ∈ wG := wG_in (by decide +kernel) rfl
theorem l_L_128 : Cond.methodLink RL 128 yX7_count ∈ wG := wG_in (by decide +kernel) rfl
theorem l_L_131 : Cond.methodLink RL 131 yX8_count ∈ wG := wG_in (by decide +kernel) rfl
theorem l_L_132 : Cond.methodLink RL 132 yX7_digest ∈ wG := wG_in (by decide +kernel) rfl
theorem l_L_136 : Cond.methodLink RL 136 yX8_digest ∈ wG := wG_in (by decide +kernel) rfl
theorem l_X0_3 : Cond.methodLink RX0 3 Lib.objectInit ∈ wG := wG_in (by decide +kernel) rfl
theorem l_X0_39 : Cond.methodLink RX0 39 Lib.Math.min.name ∈ wG := wG_in (by decide +kernel) rfl
theorem l_X0_53 : Cond.methodLink RX0 53 yX5_open ∈ wG := wG_in (by decide +kernel) rfl
theorem l_X0_59 : Cond.methodLink RX0 59 yX5_letHimPause ∈ wG := wG_in (by decide +kernel) rfl
theorem l_X0_62 : Cond.methodLink RX0 62 yX0_placeFrom ∈ wG := wG_in (by decide +kernel) rfl
theorem l_X0_66 : Cond.methodLink RX0 66 yX0_keep ∈ wG := wG_in (by decide +kernel) rfl
theorem l_X0_69 : Cond.methodLink RX0 69 yX5_add ∈ wG := wG_in (by decide +kernel) rfl
theorem l_X0_73 : Cond.methodLink RX0 73 yX0_mayBeBest ∈ wG := wG_in (by decide +kernel) rfl
theorem l_X0_77 : Cond.methodLink RX0 77 yX5_dropLast ∈ wG := wG_in (by decide +kernel) rfl
theorem l_X0_80 : Cond.methodLink RX0 80 yX5_last ∈ wG := wG_in (by decide +kernel) rfl
theorem l_X1_3 : Cond.methodLink RX1 3 Lib.objectInit ∈ wG := wG_in (by decide +kernel) rfl
theorem l_X1_29 : Cond.methodLink RX1 29 yX1_attempt ∈ wG := wG_in (by decide +kernel) rfl
theorem l_X1_33 : Cond.methodLink RX1 33 yX1_seekOne ∈ wG := wG_in (by decide +kernel) rfl
theorem l_X1_36 : Cond.methodLink RX1 36 yX1_seekTwo ∈ wG := wG_in (by decide +kernel) rfl
theorem l_X1_45 : Cond.methodLink RX1 45 yX5_open ∈ wG := wG_in (by decide +kernel) rfl
theorem l_X1_51 : Cond.methodLink RX1 51 yX5_isWholeWithoutPause ∈ wG := wG_in (by decide +kernel) rfl
theorem l_X1_55 : Cond.methodLink RX1 55 yX5_add ∈ wG := wG_in (by decide +kernel) rfl
theorem l_X1_59 : Cond.methodLink RX1 59 yX5_last ∈ wG := wG_in (by decide +kernel) rfl
theorem l_X2_3 : Cond.methodLink RX2 3 Lib.objectInit ∈ wG := wG_in (by decide +kernel) rfl
theorem l_X2_22 : Cond.methodLink RX2 22 yX2_isFull ∈ wG := wG_in (by decide +kernel) rfl
theorem l_X2_26 : Cond.methodLink RX2 26 yX2_settle ∈ wG := wG_in (by decide +kernel) rfl
theorem l_X2_32 : Cond.methodLink RX2 32 yX2_shorten ∈ wG := wG_in (by decide +kernel) rfl
theorem l_X2_36 : Cond.methodLink RX2 36 yX2_firstFlaw ∈ wG := wG_in (by decide +kernel) rfl
theorem l_X2_40 : Cond.methodLink RX2 40 yX2_fits ∈ wG := wG_in (by decide +kernel) rfl
theorem l_X2_44 : Cond.methodLink RX2 44 yX2_kindBy ∈ wG := wG_in (by decide +kernel) rfl
theorem l_X3_3 : Cond.methodLink RX3 3 Lib.objectInit ∈ wG := wG_in (by decide +kernel) rfl
theorem l_X3_26 : Cond.methodLink RX3 26 yX3_hasItem ∈ wG := wG_in (by decide +kernel) rfl
theorem l_X4_3 : Cond.methodLink RX4 3 Lib.objectInit ∈ wG := wG_in (by decide +kernel) rfl
theorem l_X4_22 : Cond.methodLink RX4 22 yX4_isFull ∈ wG := wG_in (by decide +kernel) rfl
theorem l_X4_26 : Cond.methodLink RX4 26 yX5_madeIn ∈ wG := wG_in (by decide +kernel) rfl
theorem l_X5_3 : Cond.methodLink RX5 3 Lib.objectInit ∈ wG := wG_in (by decide +kernel) rfl
theorem l_X5_30 : Cond.methodLink RX5 30 yX6_beStart ∈ wG := wG_in (by decide +kernel) rfl
theorem l_X5_37 : Cond.methodLink RX5 37 yX5_add ∈ wG := wG_in (by decide +kernel) rfl
theorem l_X5_41 : Cond.methodLink RX5 41 yX2_kindOf ∈ wG := wG_in (by decide +kernel) rfl
theorem l_X5_48 : Cond.methodLink RX5 48 yX2_figure ∈ wG := wG_in (by decide +kernel) rfl
theorem l_X5_55 : Cond.methodLink RX5 55 yX5_howManyOf ∈ wG := wG_in (by decide +kernel) rfl
theorem l_X5_61 : Cond.methodLink RX5 61 Lib.Math.max.name ∈ wG := wG_in (by decide +kernel) rfl
theorem l_X5_69 : Cond.methodLink RX5 69 yX5_last ∈ wG := wG_in (by decide +kernel) rfl
theorem l_X5_73 : Cond.methodLink RX5 73 yX6_follow ∈ wG := wG_in (by decide +kernel) rfl
theorem l_X5_86 : Cond.methodLink RX5 86 yX6_beSaid ∈ wG := wG_in (by decide +kernel) rfl
theorem l_X5_89 : Cond.methodLink RX5 89 yX6_beWritten ∈ wG := wG_in (by decide +kernel) rfl
theorem l_X5_93 : Cond.methodLink RX5 93 yX5_turnAt ∈ wG := wG_in (by decide +kernel) rfl
theorem l_X5_100 : Cond.methodLink RX5 100 yX5_howManyWritten ∈ wG := wG_in (by decide +kernel) rfl
theorem l_X5_104 : Cond.methodLink RX5 104 yX5_isSaidIn ∈ wG := wG_in (by decide +kernel) rfl
theorem l_X6_3 : Cond.methodLink RX6 3 Lib.objectInit ∈ wG := wG_in (by decide +kernel) rfl
theorem l_X6_9 : Cond.methodLink RX6 9 yX6_comeToNothing ∈ wG := wG_in (by decide +kernel) rfl
theorem l_X6_48 : Cond.methodLink RX6 48 Lib.Math.max.name ∈ wG := wG_in (by decide +kernel) rfl
theorem l_X7_1 : Cond.methodLink RX7 1 Lib.objectInit ∈ wG := wG_in (by decide +kernel) rfl
theorem l_X7_15 : Cond.methodLink RX7 15 yX2_init ∈ wG := wG_in (by decide +kernel) rfl
theorem l_X7_27 : Cond.methodLink RX7 27 yX5_init ∈ wG := wG_in (by decide +kernel) rfl
theorem l_X7_37 : Cond.methodLink RX7 37 yX1_init ∈ wG := wG_in (by decide +kernel) rfl
theorem l_X7_46 : Cond.methodLink RX7 46 yX0_init ∈ wG := wG_in (by decide +kernel) rfl
theorem l_X7_67 : Cond.methodLink RX7 67 yX7_isText ∈ wG := wG_in (by decide +kernel) rfl
theorem l_X7_71 : Cond.methodLink RX7 71 yX7_scriptOf ∈ wG := wG_in (by decide +kernel) rfl
theorem l_X7_75 : Cond.methodLink RX7 75 yX2_isFull ∈ wG := wG_in (by decide +kernel) rfl
theorem l_X7_79 : Cond.methodLink RX7 79 yX2_append ∈ wG := wG_in (by decide +kernel) rfl
theorem l_X7_82 : Cond.methodLink RX7 82 yX7_tellAnew ∈ wG := wG_in (by decide +kernel) rfl
theorem l_X7_89 : Cond.methodLink RX7 89 yX2_shorten ∈ wG := wG_in (by decide +kernel) rfl
theorem l_X7_95 : Cond.methodLink RX7 95 yX2_dropLastVerse ∈ wG := wG_in (by decide +kernel) rfl
theorem l_X7_107 : Cond.methodLink RX7 107 yX7_isVerse ∈ wG := wG_in (by decide +kernel) rfl
theorem l_X7_110 : Cond.methodLink RX7 110 yX5_turnAt ∈ wG := wG_in (by decide +kernel) rfl
theorem l_X7_114 : Cond.methodLink RX7 114 yX2_figure ∈ wG := wG_in (by decide +kernel) rfl
theorem l_X7_144 : Cond.methodLink RX7 144 yX5_howManyWritten ∈ wG := wG_in (by decide +kernel) rfl
theorem l_X7_148 : Cond.methodLink RX7 148 yX5_lastWritten ∈ wG := wG_in (by decide +kernel) rfl
theorem l_X7_151 : Cond.methodLink RX7 151 yX5_last ∈ wG := wG_in (by decide +kernel) rfl
theorem l_X7_164 : Cond.methodLink RX7 164 yX5_saidIn ∈ wG := wG_in (by decide +kernel) rfl
theorem l_X7_168 : Cond.methodLink RX7 168 yX5_madeIn ∈ wG := wG_in (by decide +kernel) rfl
theorem l_X7_171 : Cond.methodLink RX7 171 yX5_inHandIn ∈ wG := wG_in (by decide +kernel) rfl
theorem l_X7_178 : Cond.methodLink RX7 178 yX1_seek ∈ wG := wG_in (by decide +kernel) rfl
theorem l_X7_187 : Cond.methodLink RX7 187 yX0_seek ∈ wG := wG_in (by decide +kernel) rfl
theorem l_X7_195 : Cond.methodLink RX7 195 yX5_open ∈ wG := wG_in (by decide +kernel) rfl
theorem l_X7_199 : Cond.methodLink RX7 199 yX5_changeLead ∈ wG := wG_in (by decide +kernel) rfl
theorem l_X7_202 : Cond.methodLink RX7 202 yX5_addAll ∈ wG := wG_in (by decide +kernel) rfl
theorem l_X7_206 : Cond.methodLink RX7 206 yX5_isWholeWithoutPause ∈ wG := wG_in (by decide +kernel) rfl
theorem l_X7_211 : Cond.methodLink RX7 211 yX7_sixteenths ∈ wG := wG_in (by decide +kernel) rfl
theorem l_X7_219 : Cond.methodLink RX7 219 yX7_errorsBy ∈ wG := wG_in (by decide +kernel) rfl
theorem l_X7_222 : Cond.methodLink RX7 222 yX7_bestLine ∈ wG := wG_in (by decide +kernel) rfl
theorem l_X7_225 : Cond.methodLink RX7 225 yX4_mayBe ∈ wG := wG_in (by decide +kernel) rfl
theorem l_X7_229 : Cond.methodLink RX7 229 yX4_isFull ∈ wG := wG_in (by decide +kernel) rfl
theorem l_X7_230 : Cond.methodLink RX7 230 yX4_add ∈ wG := wG_in (by decide +kernel) rfl
theorem l_X7_235 : Cond.methodLink RX7 235 yX4_fit ∈ wG := wG_in (by decide +kernel) rfl
theorem l_X7_239 : Cond.methodLink RX7 239 yX7_isSheet ∈ wG := wG_in (by decide +kernel) rfl
theorem l_X7_245 : Cond.methodLink RX7 245 yX7_found ∈ wG := wG_in (by decide +kernel) rfl
theorem l_X7_249 : Cond.methodLink RX7 249 yX3_item ∈ wG := wG_in (by decide +kernel) rfl
theorem l_X7_252 : Cond.methodLink RX7 252 yX7_isForm ∈ wG := wG_in (by decide +kernel) rfl
theorem l_X7_255 : Cond.methodLink RX7 255 yX3_renew ∈ wG := wG_in (by decide +kernel) rfl
theorem l_X7_258 : Cond.methodLink RX7 258 yX7_findingAt ∈ wG := wG_in (by decide +kernel) rfl
theorem l_X7_262 : Cond.methodLink RX7 262 yX3_store ∈ wG := wG_in (by decide +kernel) rfl
theorem l_X7_272 : Cond.methodLink RX7 272 yX3_hasSpan ∈ wG := wG_in (by decide +kernel) rfl
theorem l_X7_278 : Cond.methodLink RX7 278 arraycopyName ∈ wG := wG_in (by decide +kernel) rfl
theorem l_X7_284 : Cond.methodLink RX7 284 Lib.Math.min.name ∈ wG := wG_in (by decide +kernel) rfl
theorem l_X7_292 : Cond.methodLink RX7 292 yJ6_bitCount_0f7a4 ∈ wG := wG_in (by decide +kernel) rfl
theorem l_X7_301 : Cond.methodLink RX7 301 yX7_count ∈ wG := wG_in (by decide +kernel) rfl
theorem l_X7_304 : Cond.methodLink RX7 304 yX7_fault ∈ wG := wG_in (by decide +kernel) rfl
theorem l_X7_307 : Cond.methodLink RX7 307 yX7_digestOfVerse ∈ wG := wG_in (by decide +kernel) rfl
theorem l_X7_311 : Cond.methodLink RX7 311 yX7_digestOfBreaths ∈ wG := wG_in (by decide +kernel) rfl
theorem l_X7_315 : Cond.methodLink RX7 315 yX7_put ∈ wG := wG_in (by decide +kernel) rfl
theorem l_X7_318 : Cond.methodLink RX7 318 yX7_order ∈ wG := wG_in (by decide +kernel) rfl
theorem l_X7_321 : Cond.methodLink RX7 321 yX7_lead ∈ wG := wG_in (by decide +kernel) rfl
theorem l_X7_324 : Cond.methodLink RX7 324 yX7_odds ∈ wG := wG_in (by decide +kernel) rfl
theorem l_X7_328 : Cond.methodLink RX7 328 yX7_drawn ∈ wG := wG_in (by decide +kernel) rfl
theorem l_X7_331 : Cond.methodLink RX7 331 yX7_line ∈ wG := wG_in (by decide +kernel) rfl
theorem l_X7_334 : Cond.methodLink RX7 334 yX7_leads ∈ wG := wG_in (by decide +kernel) rfl
theorem l_X7_337 : Cond.methodLink RX7 337 yX7_verse ∈ wG := wG_in (by decide +kernel) rfl
theorem l_X7_340 : Cond.methodLink RX7 340 yX7_when ∈ wG := wG_in (by decide +kernel) rfl
theorem l_X7_343 : Cond.methodLink RX7 343 yX7_rest ∈ wG := wG_in (by decide +kernel) rfl
theorem l_X7_346 : Cond.methodLink RX7 346 yX7_poem ∈ wG := wG_in (by decide +kernel) rfl
theorem l_X7_349 : Cond.methodLink RX7 349 yX7_judged ∈ wG := wG_in (by decide +kernel) rfl
theorem l_X7_352 : Cond.methodLink RX7 352 yX7_doing ∈ wG := wG_in (by decide +kernel) rfl
theorem l_X7_355 : Cond.methodLink RX7 355 Lib.Math.max.name ∈ wG := wG_in (by decide +kernel) rfl
theorem l_X7_358 : Cond.methodLink RX7 358 yX3_hasItem ∈ wG := wG_in (by decide +kernel) rfl
theorem l_X8_1 : Cond.methodLink RX8 1 Lib.objectInit ∈ wG := wG_in (by decide +kernel) rfl
theorem l_X8_72 : Cond.methodLink RX8 72 yX8_in ∈ wG := wG_in (by decide +kernel) rfl
theorem l_X8_82 : Cond.methodLink RX8 82 yX8_isSheet ∈ wG := wG_in (by decide +kernel) rfl
theorem l_X8_88 : Cond.methodLink RX8 88 yX8_met ∈ wG := wG_in (by decide +kernel) rfl
theorem l_X8_92 : Cond.methodLink RX8 92 yX8_lacks ∈ wG := wG_in (by decide +kernel) rfl
theorem l_X8_96 : Cond.methodLink RX8 96 yX8_cut ∈ wG := wG_in (by decide +kernel) rfl
theorem l_X8_101 : Cond.methodLink RX8 101 yX8_isTwo ∈ wG := wG_in (by decide +kernel) rfl
theorem l_X8_109 : Cond.methodLink RX8 109 yX8_here ∈ wG := wG_in (by decide +kernel) rfl
theorem l_X8_112 : Cond.methodLink RX8 112 yX8_kindOf ∈ wG := wG_in (by decide +kernel) rfl
theorem l_X8_117 : Cond.methodLink RX8 117 yX8_readsVerse ∈ wG := wG_in (by decide +kernel) rfl
theorem l_X8_120 : Cond.methodLink RX8 120 yX8_readsText ∈ wG := wG_in (by decide +kernel) rfl
theorem l_X8_125 : Cond.methodLink RX8 125 yX8_most ∈ wG := wG_in (by decide +kernel) rfl
theorem l_X8_131 : Cond.methodLink RX8 131 yX8_kindAt ∈ wG := wG_in (by decide +kernel) rfl
theorem l_X8_134 : Cond.methodLink RX8 134 yX8_greater ∈ wG := wG_in (by decide +kernel) rfl
theorem l_X8_137 : Cond.methodLink RX8 137 yX8_counts ∈ wG := wG_in (by decide +kernel) rfl
theorem l_X8_152 : Cond.methodLink RX8 152 yX8_sayAt ∈ wG := wG_in (by decide +kernel) rfl
theorem l_X8_155 : Cond.methodLink RX8 155 yX8_plain ∈ wG := wG_in (by decide +kernel) rfl
theorem l_X8_158 : Cond.methodLink RX8 158 yX8_says ∈ wG := wG_in (by decide +kernel) rfl
theorem l_X8_162 : Cond.methodLink RX8 162 yX8_find ∈ wG := wG_in (by decide +kernel) rfl
theorem l_X8_165 : Cond.methodLink RX8 165 yX8_isVerse ∈ wG := wG_in (by decide +kernel) rfl
theorem l_X8_168 : Cond.methodLink RX8 168 yX8_verseOf ∈ wG := wG_in (by decide +kernel) rfl
theorem l_X8_173 : Cond.methodLink RX8 173 yX8_whenOf ∈ wG := wG_in (by decide +kernel) rfl
theorem l_X8_176 : Cond.methodLink RX8 176 yX8_poemOf ∈ wG := wG_in (by decide +kernel) rfl
theorem l_X8_179 : Cond.methodLink RX8 179 yX8_judgedNow ∈ wG := wG_in (by decide +kernel) rfl
theorem l_X8_183 : Cond.methodLink RX8 183 yX8_isFree ∈ wG := wG_in (by decide +kernel) rfl
theorem l_X8_186 : Cond.methodLink RX8 186 yX8_freeAhead ∈ wG := wG_in (by decide +kernel) rfl
theorem l_X8_189 : Cond.methodLink RX8 189 yX8_restOf ∈ wG := wG_in (by decide +kernel) rfl
theorem l_X8_192 : Cond.methodLink RX8 192 yX8_saysIn ∈ wG := wG_in (by decide +kernel) rfl
theorem l_X8_195 : Cond.methodLink RX8 195 yX8_makesIn ∈ wG := wG_in (by decide +kernel) rfl
theorem l_X8_198 : Cond.methodLink RX8 198 yX8_hasIn ∈ wG := wG_in (by decide +kernel) rfl
theorem l_X8_203 : Cond.methodLink RX8 203 yX8_doingOf ∈ wG := wG_in (by decide +kernel) rfl
theorem l_X8_206 : Cond.methodLink RX8 206 yX8_lays ∈ wG := wG_in (by decide +kernel) rfl
theorem l_X8_210 : Cond.methodLink RX8 210 yX8_looks ∈ wG := wG_in (by decide +kernel) rfl
theorem l_X8_214 : Cond.methodLink RX8 214 yX8_findPut ∈ wG := wG_in (by decide +kernel) rfl
theorem l_X8_217 : Cond.methodLink RX8 217 yX8_lesser ∈ wG := wG_in (by decide +kernel) rfl
theorem l_X8_226 : Cond.methodLink RX8 226 yX8_unfolds ∈ wG := wG_in (by decide +kernel) rfl
theorem l_X8_234 : Cond.methodLink RX8 234 yX8_findOrder ∈ wG := wG_in (by decide +kernel) rfl
theorem l_X8_237 : Cond.methodLink RX8 237 yX8_tellsOrder ∈ wG := wG_in (by decide +kernel) rfl
theorem l_X8_240 : Cond.methodLink RX8 240 yX8_leadNow ∈ wG := wG_in (by decide +kernel) rfl
theorem l_X8_245 : Cond.methodLink RX8 245 yX8_part ∈ wG := wG_in (by decide +kernel) rfl
theorem l_X8_249 : Cond.methodLink RX8 249 yX8_oddsOf ∈ wG := wG_in (by decide +kernel) rfl
theorem l_X8_253 : Cond.methodLink RX8 253 yX8_no ∈ wG := wG_in (by decide +kernel) rfl
theorem l_X8_257 : Cond.methodLink RX8 257 yX8_drawnOf ∈ wG := wG_in (by decide +kernel) rfl
theorem l_X8_260 : Cond.methodLink RX8 260 yX8_isIn ∈ wG := wG_in (by decide +kernel) rfl
theorem l_X8_264 : Cond.methodLink RX8 264 yX8_errors ∈ wG := wG_in (by decide +kernel) rfl
theorem l_X8_271 : Cond.methodLink RX8 271 yX8_lineOf ∈ wG := wG_in (by decide +kernel) rfl
theorem l_X8_279 : Cond.methodLink RX8 279 yX8_seen ∈ wG := wG_in (by decide +kernel) rfl
theorem l_X8_281 : Cond.methodLink RX8 281 yX8_leadsNow ∈ wG := wG_in (by decide +kernel) rfl
theorem l_X8_288 : Cond.methodLink RX8 288 yX8_count ∈ wG := wG_in (by decide +kernel) rfl
theorem k_J6_265 : Cond.constant RJ6 265 (1431655765) ∈ wG := wG_in (by decide +kernel) rfl
theorem k_J6_266 : Cond.constant RJ6 266 (858993459) ∈ wG := wG_in (by decide +kernel) rfl
theorem k_J6_267 : Cond.constant RJ6 267 (252645135) ∈ wG := wG_in (by decide +kernel) rfl
theorem k_X0_46 : Cond.constant RX0 46 (1000000) ∈ wG := wG_in (by decide +kernel) rfl
theorem k_X7_218 : Cond.constant RX7 218 (1103515245) ∈ wG := wG_in (by decide +kernel) rfl
theorem k_X7_265 : Cond.constant RX7 265 (-2147483648) ∈ wG := wG_in (by decide +kernel) rfl
theorem k_X8_100 : Cond.constant RX8 100 (-2147483648) ∈ wG := wG_in (by decide +kernel) rfl
theorem k_X8_256 : Cond.constant RX8 256 (1103515245) ∈ wG := wG_in (by decide +kernel) rfl
theorem k_X7_209 : Cond.constantLong RX7 209 (-9223372036854775806) ∈ wG := wG_in (by decide +kernel) rfl
theorem k_X7_214 : Cond.constantLong RX7 214 (16) ∈ wG := wG_in (by decide +kernel) rfl
theorem k_X7_216 : Cond.constantLong RX7 216 (2) ∈ wG := wG_in (by decide +kernel) rfl
theorem k_X7_297 : Cond.constantLong RX7 297 (17) ∈ wG := wG_in (by decide +kernel) rfl
theorem k_X7_299 : Cond.constantLong RX7 299 (31) ∈ wG := wG_in (by decide +kernel) rfl
theorem k_X8_70 : Cond.constantLong RX8 70 (-9223372036854775808) ∈ wG := wG_in (by decide +kernel) rfl
theorem k_X8_80 : Cond.constantLong RX8 80 (3) ∈ wG := wG_in (by decide +kernel) rfl
theorem k_X8_86 : Cond.constantLong RX8 86 (2) ∈ wG := wG_in (by decide +kernel) rfl
theorem k_X8_104 : Cond.constantLong RX8 104 (255) ∈ wG := wG_in (by decide +kernel) rfl
theorem k_X8_115 : Cond.constantLong RX8 115 (9) ∈ wG := wG_in (by decide +kernel) rfl
theorem k_X8_123 : Cond.constantLong RX8 123 (5) ∈ wG := wG_in (by decide +kernel) rfl
theorem k_X8_171 : Cond.constantLong RX8 171 (4) ∈ wG := wG_in (by decide +kernel) rfl
theorem k_X8_201 : Cond.constantLong RX8 201 (299) ∈ wG := wG_in (by decide +kernel) rfl
theorem k_X8_230 : Cond.constantLong RX8 230 (-2) ∈ wG := wG_in (by decide +kernel) rfl
theorem k_X8_232 : Cond.constantLong RX8 232 (6) ∈ wG := wG_in (by decide +kernel) rfl
theorem k_X8_243 : Cond.constantLong RX8 243 (16) ∈ wG := wG_in (by decide +kernel) rfl
theorem k_X8_267 : Cond.constantLong RX8 267 (-1) ∈ wG := wG_in (by decide +kernel) rfl
theorem k_X8_269 : Cond.constantLong RX8 269 (10) ∈ wG := wG_in (by decide +kernel) rfl
theorem k_X8_274 : Cond.constantLong RX8 274 (11) ∈ wG := wG_in (by decide +kernel) rfl
theorem k_X8_284 : Cond.constantLong RX8 284 (17) ∈ wG := wG_in (by decide +kernel) rfl
theorem k_X8_286 : Cond.constantLong RX8 286 (31) ∈ wG := wG_in (by decide +kernel) rfl
theorem bt_max : Cond.static Lib.Math.max.name ∈ wG ∧ Cond.initialized "java/lang/Math" ∈ wG ∧ Cond.code Lib.Math.max.name Lib.Math.max.code 2 (some .int) ∈ wG := ⟨wG_in (by decide +kernel) rfl, wG_in (by decide +kernel) rfl, wG_in (by decide +kernel) rfl⟩
theorem bt_min : Cond.static Lib.Math.min.name ∈ wG ∧ Cond.initialized "java/lang/Math" ∈ wG ∧ Cond.code Lib.Math.min.name Lib.Math.min.code 2 (some .int) ∈ wG := ⟨wG_in (by decide +kernel) rfl, wG_in (by decide +kernel) rfl, wG_in (by decide +kernel) rfl⟩
theorem bt_cpy : Cond.native arraycopyName ∈ wG ∧ Cond.static arraycopyName ∈ wG ∧ Cond.initialized "java/lang/System" ∈ wG := ⟨wG_in (by decide +kernel) rfl, wG_in (by decide +kernel) rfl, wG_in (by decide +kernel) rfl⟩
theorem bt_obj : Cond.instanceMethod Lib.objectInit ∈ wG ∧ Cond.code Lib.objectInit ⟨#[0xb1]⟩ 1 none ∈ wG := ⟨wG_in (by decide +kernel) rfl, wG_in (by decide +kernel) rfl⟩
def Y_J6_bitCount_0f7a4 : YY := (yJ6_bitCount_0f7a4, cJ6_bitCount_0f7a4, 1, (some .int), 1, 0, 0)
theorem ok_J6_bitCount_0f7a4 : okS Y_J6_bitCount_0f7a4 1 := ⟨⟨wG_in (by decide +kernel) rfl, wG_in (by decide +kernel) rfl, by decide +kernel, by decide⟩, wG_in (by decide +kernel) rfl⟩
def Y_X0_init : YY := (yX0_init, cX0_init, 4, none, 1, 3, 21)
theorem ok_X0_init : okI Y_X0_init 3 := ⟨⟨wG_in (by decide +kernel) rfl, wG_in (by decide +kernel) rfl, by decide +kernel, by decide⟩, wG_in (by decide +kernel) rfl, rfl, rfl⟩
def Y_X0_keep : YY := (yX0_keep, cX0_keep, 2, none, 3, 0, 0)
theorem ok_X0_keep : okV Y_X0_keep 0 := ⟨⟨wG_in (by decide +kernel) rfl, wG_in (by decide +kernel) rfl, by decide +kernel, by decide⟩, wG_in (by decide +kernel) rfl, wG_in (by decide +kernel) rfl⟩
def Y_X0_mayBeBest : YY := (yX0_mayBeBest, cX0_mayBeBest, 2, (some .boolean), 3, 0, 0)
theorem ok_X0_mayBeBest : okV Y_X0_mayBeBest 0 := ⟨⟨wG_in (by decide +kernel) rfl, wG_in (by decide +kernel) rfl, by decide +kernel, by decide⟩, wG_in (by decide +kernel) rfl, wG_in (by decide +kernel) rfl⟩
def Y_X0_placeFrom (d : Nat) : YY := (yX0_placeFrom, cX0_placeFrom, 3, none, 4 + d, 0, 0)
theorem ok_X0_placeFrom (d : Nat) : okS (Y_X0_placeFrom d) 2 := ⟨⟨wG_in (by show Cond.code yX0_placeFrom cX0_placeFrom 3 none ∈ lw_tbl; decide +kernel) rfl, wG_in (by show Cond.initialized RX0 ∈ lw_tbl; decide +kernel) rfl, (by decide +kernel : yX0_placeFrom.cls ≠ "java/lang/invoke/MethodHandle" ∧ yX0_placeFrom.cls ≠ "java/lang/invoke/VarHandle" ∧ (parseMethodDescriptor yX0_placeFrom.desc).map (fun d => d.parameters.length) = some 2), (by decide : 3 ≤ 41)⟩, wG_in (by show Cond.static yX0_placeFrom ∈ lw_tbl; decide +kernel) rfl⟩
def Y_X0_seek : YY := (yX0_seek, cX0_seek, 2, none, 14, 0, 0)
theorem ok_X0_seek : okV Y_X0_seek 0 := ⟨⟨wG_in (by decide +kernel) rfl, wG_in (by decide +kernel) rfl, by decide +kernel, by decide⟩, wG_in (by decide +kernel) rfl, wG_in (by decide +kernel) rfl⟩
def Y_X1_attempt : YY := (yX1_attempt, cX1_attempt, 7, none, 4, 0, 0)
theorem ok_X1_attempt : okV Y_X1_attempt 5 := ⟨⟨wG_in (by decide +kernel) rfl, wG_in (by decide +kernel) rfl, by decide +kernel, by decide⟩, wG_in (by decide +kernel) rfl, wG_in (by decide +kernel) rfl⟩
def Y_X1_init : YY := (yX1_init, cX1_init, 5, none, 1, 1, 6)
theorem ok_X1_init : okI Y_X1_init 4 := ⟨⟨wG_in (by decide +kernel) rfl, wG_in (by decide +kernel) rfl, by decide +kernel, by decide⟩, wG_in (by decide +kernel) rfl, rfl, rfl⟩
def Y_X1_seek : YY := (yX1_seek, cX1_seek, 2, none, 6, 0, 0)
theorem ok_X1_seek : okV Y_X1_seek 0 := ⟨⟨wG_in (by decide +kernel) rfl, wG_in (by decide +kernel) rfl, by decide +kernel, by decide⟩, wG_in (by decide +kernel) rfl, wG_in (by decide +kernel) rfl⟩
def Y_X1_seekOne : YY := (yX1_seekOne, cX1_seekOne, 3, none, 5, 0, 0)
theorem ok_X1_seekOne : okV Y_X1_seekOne 0 := ⟨⟨wG_in (by decide +kernel) rfl, wG_in (by decide +kernel) rfl, by decide +kernel, by decide⟩, wG_in (by decide +kernel) rfl, wG_in (by decide +kernel) rfl⟩
def Y_X1_seekTwo : YY := (yX1_seekTwo, cX1_seekTwo, 5, none, 5, 0, 0)
theorem ok_X1_seekTwo : okV Y_X1_seekTwo 0 := ⟨⟨wG_in (by decide +kernel) rfl, wG_in (by decide +kernel) rfl, by decide +kernel, by decide⟩, wG_in (by decide +kernel) rfl, wG_in (by decide +kernel) rfl⟩
def Y_X2_append : YY := (yX2_append, cX2_append, 2, none, 5, 0, 0)
theorem ok_X2_append : okV Y_X2_append 1 := ⟨⟨wG_in (by decide +kernel) rfl, wG_in (by decide +kernel) rfl, by decide +kernel, by decide⟩, wG_in (by decide +kernel) rfl, wG_in (by decide +kernel) rfl⟩
def Y_X2_dropLastVerse : YY := (yX2_dropLastVerse, cX2_dropLastVerse, 1, none, 6, 0, 0)
theorem ok_X2_dropLastVerse : okV Y_X2_dropLastVerse 0 := ⟨⟨wG_in (by decide +kernel) rfl, wG_in (by decide +kernel) rfl, by decide +kernel, by decide⟩, wG_in (by decide +kernel) rfl, wG_in (by decide +kernel) rfl⟩
def Y_X2_figure : YY := (yX2_figure, cX2_figure, 3, (some .int), 1, 0, 0)
theorem ok_X2_figure : okV Y_X2_figure 2 := ⟨⟨wG_in (by decide +kernel) rfl, wG_in (by decide +kernel) rfl, by decide +kernel, by decide⟩, wG_in (by decide +kernel) rfl, wG_in (by decide +kernel) rfl⟩
def Y_X2_firstFlaw : YY := (yX2_firstFlaw, cX2_firstFlaw, 2, (some .int), 3, 0, 0)
theorem ok_X2_firstFlaw : okV Y_X2_firstFlaw 0 := ⟨⟨wG_in (by decide +kernel) rfl, wG_in (by decide +kernel) rfl, by decide +kernel, by decide⟩, wG_in (by decide +kernel) rfl, wG_in (by decide +kernel) rfl⟩
def Y_X2_fits : YY := (yX2_fits, cX2_fits, 2, (some .boolean), 2, 0, 0)
theorem ok_X2_fits : okS Y_X2_fits 2 := ⟨⟨wG_in (by decide +kernel) rfl, wG_in (by decide +kernel) rfl, by decide +kernel, by decide⟩, wG_in (by decide +kernel) rfl⟩
def Y_X2_init59 : YY := (yX2_init, cX2_init, 2, none, 1, 1, 59)
theorem ok_X2_init59 : okI Y_X2_init59 1 := ⟨⟨wG_in (by decide +kernel) rfl, wG_in (by decide +kernel) rfl, by decide +kernel, by decide⟩, wG_in (by decide +kernel) rfl, rfl, rfl⟩
def Y_X2_init19 : YY := (yX2_init, cX2_init, 2, none, 1, 1, 19)
theorem ok_X2_init19 : okI Y_X2_init19 1 := ⟨⟨wG_in (by decide +kernel) rfl, wG_in (by decide +kernel) rfl, by decide +kernel, by decide⟩, wG_in (by decide +kernel) rfl, rfl, rfl⟩
def Y_X2_isFull : YY := (yX2_isFull, cX2_isFull, 1, (some .boolean), 1, 0, 0)
theorem ok_X2_isFull : okV Y_X2_isFull 0 := ⟨⟨wG_in (by decide +kernel) rfl, wG_in (by decide +kernel) rfl, by decide +kernel, by decide⟩, wG_in (by decide +kernel) rfl, wG_in (by decide +kernel) rfl⟩
def Y_X2_kindBy : YY := (yX2_kindBy, cX2_kindBy, 1, (some .int), 1, 0, 0)
theorem ok_X2_kindBy : okS Y_X2_kindBy 1 := ⟨⟨wG_in (by decide +kernel) rfl, wG_in (by decide +kernel) rfl, by decide +kernel, by decide⟩, wG_in (by decide +kernel) rfl⟩
def Y_X2_kindOf : YY := (yX2_kindOf, cX2_kindOf, 2, (some .int), 2, 0, 0)
theorem ok_X2_kindOf : okV Y_X2_kindOf 1 := ⟨⟨wG_in (by decide +kernel) rfl, wG_in (by decide +kernel) rfl, by decide +kernel, by decide⟩, wG_in (by decide +kernel) rfl, wG_in (by decide +kernel) rfl⟩
def Y_X2_settle : YY := (yX2_settle, cX2_settle, 1, none, 4, 0, 0)
theorem ok_X2_settle : okV Y_X2_settle 0 := ⟨⟨wG_in (by decide +kernel) rfl, wG_in (by decide +kernel) rfl, by decide +kernel, by decide⟩, wG_in (by decide +kernel) rfl, wG_in (by decide +kernel) rfl⟩
def Y_X2_shorten : YY := (yX2_shorten, cX2_shorten, 2, none, 5, 0, 0)
theorem ok_X2_shorten : okV Y_X2_shorten 1 := ⟨⟨wG_in (by decide +kernel) rfl, wG_in (by decide +kernel) rfl, by decide +kernel, by decide⟩, wG_in (by decide +kernel) rfl, wG_in (by decide +kernel) rfl⟩
def Y_X3_hasItem : YY := (yX3_hasItem, cX3_hasItem, 2, (some .boolean), 1, 0, 0)
theorem ok_X3_hasItem : okV Y_X3_hasItem 1 := ⟨⟨wG_in (by decide +kernel) rfl, wG_in (by decide +kernel) rfl, by decide +kernel, by decide⟩, wG_in (by decide +kernel) rfl, wG_in (by decide +kernel) rfl⟩
def Y_X3_hasSpan : YY := (yX3_hasSpan, cX3_hasSpan, 3, (some .boolean), 1, 0, 0)
theorem ok_X3_hasSpan : okV Y_X3_hasSpan 2 := ⟨⟨wG_in (by decide +kernel) rfl, wG_in (by decide +kernel) rfl, by decide +kernel, by decide⟩, wG_in (by decide +kernel) rfl, wG_in (by decide +kernel) rfl⟩
def Y_X3_init : YY := (yX3_init, cX3_init, 1, none, 1, 1, 60)
theorem ok_X3_init : okI Y_X3_init 0 := ⟨⟨wG_in (by decide +kernel) rfl, wG_in (by decide +kernel) rfl, by decide +kernel, by decide⟩, wG_in (by decide +kernel) rfl, rfl, rfl⟩
def Y_X3_item : YY := (yX3_item, cX3_item, 2, (some .int), 2, 0, 0)
theorem ok_X3_item : okV Y_X3_item 1 := ⟨⟨wG_in (by decide +kernel) rfl, wG_in (by decide +kernel) rfl, by decide +kernel, by decide⟩, wG_in (by decide +kernel) rfl, wG_in (by decide +kernel) rfl⟩
def Y_X3_renew : YY := (yX3_renew, cX3_renew, 4, none, 1, 0, 0)
theorem ok_X3_renew : okV Y_X3_renew 2 := ⟨⟨wG_in (by decide +kernel) rfl, wG_in (by decide +kernel) rfl, by decide +kernel, by decide⟩, wG_in (by decide +kernel) rfl, wG_in (by decide +kernel) rfl⟩
def Y_X3_store : YY := (yX3_store, cX3_store, 3, none, 2, 0, 0)
theorem ok_X3_store : okV Y_X3_store 2 := ⟨⟨wG_in (by decide +kernel) rfl, wG_in (by decide +kernel) rfl, by decide +kernel, by decide⟩, wG_in (by decide +kernel) rfl, wG_in (by decide +kernel) rfl⟩
def Y_X4_add : YY := (yX4_add, cX4_add, 3, none, 2, 0, 0)
theorem ok_X4_add : okV Y_X4_add 2 := ⟨⟨wG_in (by decide +kernel) rfl, wG_in (by decide +kernel) rfl, by decide +kernel, by decide⟩, wG_in (by decide +kernel) rfl, wG_in (by decide +kernel) rfl⟩
def Y_X4_fit : YY := (yX4_fit, cX4_fit, 3, (some .boolean), 3, 0, 0)
theorem ok_X4_fit : okV Y_X4_fit 1 := ⟨⟨wG_in (by decide +kernel) rfl, wG_in (by decide +kernel) rfl, by decide +kernel, by decide⟩, wG_in (by decide +kernel) rfl, wG_in (by decide +kernel) rfl⟩
def Y_X4_init : YY := (yX4_init, cX4_init, 1, none, 1, 2, 16)
theorem ok_X4_init : okI Y_X4_init 0 := ⟨⟨wG_in (by decide +kernel) rfl, wG_in (by decide +kernel) rfl, by decide +kernel, by decide⟩, wG_in (by decide +kernel) rfl, rfl, rfl⟩
def Y_X4_isFull : YY := (yX4_isFull, cX4_isFull, 1, (some .boolean), 1, 0, 0)
theorem ok_X4_isFull : okV Y_X4_isFull 0 := ⟨⟨wG_in (by decide +kernel) rfl, wG_in (by decide +kernel) rfl, by decide +kernel, by decide⟩, wG_in (by decide +kernel) rfl, wG_in (by decide +kernel) rfl⟩
def Y_X4_mayBe : YY := (yX4_mayBe, cX4_mayBe, 2, (some .boolean), 1, 0, 0)
theorem ok_X4_mayBe : okS Y_X4_mayBe 2 := ⟨⟨wG_in (by decide +kernel) rfl, wG_in (by decide +kernel) rfl, by decide +kernel, by decide⟩, wG_in (by decide +kernel) rfl⟩
def Y_X5_add : YY := (yX5_add, cX5_add, 8, none, 3, 0, 0)
theorem ok_X5_add : okV Y_X5_add 2 := ⟨⟨wG_in (by decide +kernel) rfl, wG_in (by decide +kernel) rfl, by decide +kernel, by decide⟩, wG_in (by decide +kernel) rfl, wG_in (by decide +kernel) rfl⟩
def Y_X5_addAll : YY := (yX5_addAll, cX5_addAll, 3, none, 4, 0, 0)
theorem ok_X5_addAll : okV Y_X5_addAll 1 := ⟨⟨wG_in (by decide +kernel) rfl, wG_in (by decide +kernel) rfl, by decide +kernel, by decide⟩, wG_in (by decide +kernel) rfl, wG_in (by decide +kernel) rfl⟩
def Y_X5_changeLead : YY := (yX5_changeLead, cX5_changeLead, 2, none, 3, 0, 0)
theorem ok_X5_changeLead : okV Y_X5_changeLead 1 := ⟨⟨wG_in (by decide +kernel) rfl, wG_in (by decide +kernel) rfl, by decide +kernel, by decide⟩, wG_in (by decide +kernel) rfl, wG_in (by decide +kernel) rfl⟩
def Y_X5_dropLast : YY := (yX5_dropLast, cX5_dropLast, 1, none, 1, 0, 0)
theorem ok_X5_dropLast : okV Y_X5_dropLast 0 := ⟨⟨wG_in (by decide +kernel) rfl, wG_in (by decide +kernel) rfl, by decide +kernel, by decide⟩, wG_in (by decide +kernel) rfl, wG_in (by decide +kernel) rfl⟩
def Y_X5_howManyOf : YY := (yX5_howManyOf, cX5_howManyOf, 4, (some .int), 1, 0, 0)
theorem ok_X5_howManyOf : okV Y_X5_howManyOf 1 := ⟨⟨wG_in (by decide +kernel) rfl, wG_in (by decide +kernel) rfl, by decide +kernel, by decide⟩, wG_in (by decide +kernel) rfl, wG_in (by decide +kernel) rfl⟩
def Y_X5_howManyWritten : YY := (yX5_howManyWritten, cX5_howManyWritten, 2, (some .int), 1, 0, 0)
theorem ok_X5_howManyWritten : okV Y_X5_howManyWritten 0 := ⟨⟨wG_in (by decide +kernel) rfl, wG_in (by decide +kernel) rfl, by decide +kernel, by decide⟩, wG_in (by decide +kernel) rfl, wG_in (by decide +kernel) rfl⟩
def Y_X5_inHandIn : YY := (yX5_inHandIn, cX5_inHandIn, 5, (some .int), 1, 0, 0)
theorem ok_X5_inHandIn : okV Y_X5_inHandIn 1 := ⟨⟨wG_in (by decide +kernel) rfl, wG_in (by decide +kernel) rfl, by decide +kernel, by decide⟩, wG_in (by decide +kernel) rfl, wG_in (by decide +kernel) rfl⟩
def Y_X5_init12 : YY := (yX5_init, cX5_init, 3, none, 2, 15, 212)
theorem ok_X5_init12 : okI Y_X5_init12 1 := ⟨⟨wG_in (by decide +kernel) rfl, wG_in (by decide +kernel) rfl, by decide +kernel, by decide⟩, wG_in (by decide +kernel) rfl, rfl, rfl⟩
def Y_X5_init14 : YY := (yX5_init, cX5_init, 3, none, 2, 17, 244)
theorem ok_X5_init14 : okI Y_X5_init14 1 := ⟨⟨wG_in (by decide +kernel) rfl, wG_in (by decide +kernel) rfl, by decide +kernel, by decide⟩, wG_in (by decide +kernel) rfl, rfl, rfl⟩
def Y_X5_isSaidIn : YY := (yX5_isSaidIn, cX5_isSaidIn, 2, (some .boolean), 1, 0, 0)
theorem ok_X5_isSaidIn : okS Y_X5_isSaidIn 2 := ⟨⟨wG_in (by decide +kernel) rfl, wG_in (by decide +kernel) rfl, by decide +kernel, by decide⟩, wG_in (by decide +kernel) rfl⟩
def Y_X5_isWholeWithoutPause : YY := (yX5_isWholeWithoutPause, cX5_isWholeWithoutPause, 1, (some .boolean), 3, 0, 0)
theorem ok_X5_isWholeWithoutPause : okV Y_X5_isWholeWithoutPause 0 := ⟨⟨wG_in (by decide +kernel) rfl, wG_in (by decide +kernel) rfl, by decide +kernel, by decide⟩, wG_in (by decide +kernel) rfl, wG_in (by decide +kernel) rfl⟩
def Y_X5_last : YY := (yX5_last, cX5_last, 1, (some (.object "MayNotPause$Turn")), 2, 0, 0)
theorem ok_X5_last : okV Y_X5_last 0 := ⟨⟨wG_in (by decide +kernel) rfl, wG_in (by decide +kernel) rfl, by decide +kernel, by decide⟩, wG_in (by decide +kernel) rfl, wG_in (by decide +kernel) rfl⟩
def Y_X5_lastWritten : YY := (yX5_lastWritten, cX5_lastWritten, 1, (some .int), 2, 0, 0)
theorem ok_X5_lastWritten : okV Y_X5_lastWritten 0 := ⟨⟨wG_in (by decide +kernel) rfl, wG_in (by decide +kernel) rfl, by decide +kernel, by decide⟩, wG_in (by decide +kernel) rfl, wG_in (by decide +kernel) rfl⟩
def Y_X5_letHimPause : YY := (yX5_letHimPause, cX5_letHimPause, 1, none, 1, 0, 0)
theorem ok_X5_letHimPause : okV Y_X5_letHimPause 0 := ⟨⟨wG_in (by decide +kernel) rfl, wG_in (by decide +kernel) rfl, by decide +kernel, by decide⟩, wG_in (by decide +kernel) rfl, wG_in (by decide +kernel) rfl⟩
def Y_X5_madeIn : YY := (yX5_madeIn, cX5_madeIn, 5, (some .int), 2, 0, 0)
theorem ok_X5_madeIn : okV Y_X5_madeIn 1 := ⟨⟨wG_in (by decide +kernel) rfl, wG_in (by decide +kernel) rfl, by decide +kernel, by decide⟩, wG_in (by decide +kernel) rfl, wG_in (by decide +kernel) rfl⟩
def Y_X5_open : YY := (yX5_open, cX5_open, 3, none, 3, 0, 0)
theorem ok_X5_open : okV Y_X5_open 1 := ⟨⟨wG_in (by decide +kernel) rfl, wG_in (by decide +kernel) rfl, by decide +kernel, by decide⟩, wG_in (by decide +kernel) rfl, wG_in (by decide +kernel) rfl⟩
def Y_X5_saidIn : YY := (yX5_saidIn, cX5_saidIn, 3, (some .int), 2, 0, 0)
theorem ok_X5_saidIn : okV Y_X5_saidIn 1 := ⟨⟨wG_in (by decide +kernel) rfl, wG_in (by decide +kernel) rfl, by decide +kernel, by decide⟩, wG_in (by decide +kernel) rfl, wG_in (by decide +kernel) rfl⟩
def Y_X5_turnAt : YY := (yX5_turnAt, cX5_turnAt, 2, (some (.object "MayNotPause$Turn")), 1, 0, 0)
theorem ok_X5_turnAt : okV Y_X5_turnAt 1 := ⟨⟨wG_in (by decide +kernel) rfl, wG_in (by decide +kernel) rfl, by decide +kernel, by decide⟩, wG_in (by decide +kernel) rfl, wG_in (by decide +kernel) rfl⟩
def Y_X6_beSaid : YY := (yX6_beSaid, cX6_beSaid, 2, none, 1, 0, 0)
theorem ok_X6_beSaid : okV Y_X6_beSaid 1 := ⟨⟨wG_in (by decide +kernel) rfl, wG_in (by decide +kernel) rfl, by decide +kernel, by decide⟩, wG_in (by decide +kernel) rfl, wG_in (by decide +kernel) rfl⟩
def Y_X6_beStart : YY := (yX6_beStart, cX6_beStart, 2, none, 2, 0, 0)
theorem ok_X6_beStart : okV Y_X6_beStart 1 := ⟨⟨wG_in (by decide +kernel) rfl, wG_in (by decide +kernel) rfl, by decide +kernel, by decide⟩, wG_in (by decide +kernel) rfl, wG_in (by decide +kernel) rfl⟩
def Y_X6_beWritten : YY := (yX6_beWritten, cX6_beWritten, 6, none, 1, 0, 0)
theorem ok_X6_beWritten : okV Y_X6_beWritten 3 := ⟨⟨wG_in (by decide +kernel) rfl, wG_in (by decide +kernel) rfl, by decide +kernel, by decide⟩, wG_in (by decide +kernel) rfl, wG_in (by decide +kernel) rfl⟩
def Y_X6_comeToNothing : YY := (yX6_comeToNothing, cX6_comeToNothing, 1, none, 1, 0, 0)
theorem ok_X6_comeToNothing : okV Y_X6_comeToNothing 0 := ⟨⟨wG_in (by decide +kernel) rfl, wG_in (by decide +kernel) rfl, by decide +kernel, by decide⟩, wG_in (by decide +kernel) rfl, wG_in (by decide +kernel) rfl⟩
def Y_X6_follow : YY := (yX6_follow, cX6_follow, 2, none, 2, 0, 0)
theorem ok_X6_follow : okV Y_X6_follow 1 := ⟨⟨wG_in (by decide +kernel) rfl, wG_in (by decide +kernel) rfl, by decide +kernel, by decide⟩, wG_in (by decide +kernel) rfl, wG_in (by decide +kernel) rfl⟩
def Y_X6_init : YY := (yX6_init, cX6_init, 1, none, 1, 0, 0)
theorem ok_X6_init : okI Y_X6_init 0 := ⟨⟨wG_in (by decide +kernel) rfl, wG_in (by decide +kernel) rfl, by decide +kernel, by decide⟩, wG_in (by decide +kernel) rfl, rfl, rfl⟩
def Y_X7_bestLine : YY := (yX7_bestLine, cX7_bestLine, 5, (some .int), 3, 0, 0)
theorem ok_X7_bestLine : okV Y_X7_bestLine 0 := ⟨⟨wG_in (by decide +kernel) rfl, wG_in (by decide +kernel) rfl, by decide +kernel, by decide⟩, wG_in (by decide +kernel) rfl, wG_in (by decide +kernel) rfl⟩
def Y_X7_copy : YY := (yX7_copy, cX7_copy, 8, (some .int), 2, 0, 0)
theorem ok_X7_copy : okV Y_X7_copy 5 := ⟨⟨wG_in (by decide +kernel) rfl, wG_in (by decide +kernel) rfl, by decide +kernel, by decide⟩, wG_in (by decide +kernel) rfl, wG_in (by decide +kernel) rfl⟩
def Y_X7_count : YY := (yX7_count, cX7_count, 2, (some .int), 3, 0, 0)
theorem ok_X7_count : okV Y_X7_count 1 := ⟨⟨wG_in (by decide +kernel) rfl, wG_in (by decide +kernel) rfl, by decide +kernel, by decide⟩, wG_in (by decide +kernel) rfl, wG_in (by decide +kernel) rfl⟩
def Y_X7_digest : YY := (yX7_digest, cX7_digest, 4, (some .long), 16, 0, 0)
theorem ok_X7_digest : okV Y_X7_digest 0 := ⟨⟨wG_in (by decide +kernel) rfl, wG_in (by decide +kernel) rfl, by decide +kernel, by decide⟩, wG_in (by decide +kernel) rfl, wG_in (by decide +kernel) rfl⟩
def Y_X7_digestOfBreaths : YY := (yX7_digestOfBreaths, cX7_digestOfBreaths, 7, (some .long), 4, 0, 0)
theorem ok_X7_digestOfBreaths : okV Y_X7_digestOfBreaths 1 := ⟨⟨wG_in (by decide +kernel) rfl, wG_in (by decide +kernel) rfl, by decide +kernel, by decide⟩, wG_in (by decide +kernel) rfl, wG_in (by decide +kernel) rfl⟩
def Y_X7_digestOfVerse : YY := (yX7_digestOfVerse, cX7_digestOfVerse, 7, (some .long), 3, 0, 0)
theorem ok_X7_digestOfVerse : okV Y_X7_digestOfVerse 2 := ⟨⟨wG_in (by decide +kernel) rfl, wG_in (by decide +kernel) rfl, by decide +kernel, by decide⟩, wG_in (by decide +kernel) rfl, wG_in (by decide +kernel) rfl⟩
def Y_X7_doing : YY := (yX7_doing, cX7_doing, 3, (some .int), 3, 0, 0)
theorem ok_X7_doing : okV Y_X7_doing 2 := ⟨⟨wG_in (by decide +kernel) rfl, wG_in (by decide +kernel) rfl, by decide +kernel, by decide⟩, wG_in (by decide +kernel) rfl, wG_in (by decide +kernel) rfl⟩
def Y_X7_drawn : YY := (yX7_drawn, cX7_drawn, 5, (some .int), 3, 0, 0)
theorem ok_X7_drawn : okV Y_X7_drawn 1 := ⟨⟨wG_in (by decide +kernel) rfl, wG_in (by decide +kernel) rfl, by decide +kernel, by decide⟩, wG_in (by decide +kernel) rfl, wG_in (by decide +kernel) rfl⟩
def Y_X7_errorsBy : YY := (yX7_errorsBy, cX7_errorsBy, 7, (some .int), 2, 0, 0)
theorem ok_X7_errorsBy : okV Y_X7_errorsBy 2 := ⟨⟨wG_in (by decide +kernel) rfl, wG_in (by decide +kernel) rfl, by decide +kernel, by decide⟩, wG_in (by decide +kernel) rfl, wG_in (by decide +kernel) rfl⟩
def Y_X7_fault : YY := (yX7_fault, cX7_fault, 2, (some .int), 2, 0, 0)
theorem ok_X7_fault : okV Y_X7_fault 1 := ⟨⟨wG_in (by decide +kernel) rfl, wG_in (by decide +kernel) rfl, by decide +kernel, by decide⟩, wG_in (by decide +kernel) rfl, wG_in (by decide +kernel) rfl⟩
def Y_X7_findingAt : YY := (yX7_findingAt, cX7_findingAt, 3, (some .int), 2, 0, 0)
theorem ok_X7_findingAt : okS Y_X7_findingAt 3 := ⟨⟨wG_in (by decide +kernel) rfl, wG_in (by decide +kernel) rfl, by decide +kernel, by decide⟩, wG_in (by decide +kernel) rfl⟩
def Y_X7_forget : YY := (yX7_forget, cX7_forget, 2, (some .int), 1, 0, 0)
theorem ok_X7_forget : okV Y_X7_forget 0 := ⟨⟨wG_in (by decide +kernel) rfl, wG_in (by decide +kernel) rfl, by decide +kernel, by decide⟩, wG_in (by decide +kernel) rfl, wG_in (by decide +kernel) rfl⟩
def Y_X7_found : YY := (yX7_found, cX7_found, 2, (some .int), 1, 0, 0)
theorem ok_X7_found : okV Y_X7_found 1 := ⟨⟨wG_in (by decide +kernel) rfl, wG_in (by decide +kernel) rfl, by decide +kernel, by decide⟩, wG_in (by decide +kernel) rfl, wG_in (by decide +kernel) rfl⟩
def Y_X7_get : YY := (yX7_get, cX7_get, 5, (some .int), 3, 0, 0)
theorem ok_X7_get : okV Y_X7_get 3 := ⟨⟨wG_in (by decide +kernel) rfl, wG_in (by decide +kernel) rfl, by decide +kernel, by decide⟩, wG_in (by decide +kernel) rfl, wG_in (by decide +kernel) rfl⟩
def Y_X7_init : YY := (yX7_init, cX7_init, 2, none, 3, 57, 876)
theorem ok_X7_init : okI Y_X7_init 0 := ⟨⟨wG_in (by decide +kernel) rfl, wG_in (by decide +kernel) rfl, by decide +kernel, by decide⟩, wG_in (by decide +kernel) rfl, rfl, rfl⟩
def Y_X7_isForm : YY := (yX7_isForm, cX7_isForm, 1, (some .boolean), 1, 0, 0)
theorem ok_X7_isForm : okS Y_X7_isForm 1 := ⟨⟨wG_in (by decide +kernel) rfl, wG_in (by decide +kernel) rfl, by decide +kernel, by decide⟩, wG_in (by decide +kernel) rfl⟩
def Y_X7_isSheet : YY := (yX7_isSheet, cX7_isSheet, 1, (some .boolean), 1, 0, 0)
theorem ok_X7_isSheet : okS Y_X7_isSheet 1 := ⟨⟨wG_in (by decide +kernel) rfl, wG_in (by decide +kernel) rfl, by decide +kernel, by decide⟩, wG_in (by decide +kernel) rfl⟩
def Y_X7_isText : YY := (yX7_isText, cX7_isText, 1, (some .boolean), 1, 0, 0)
theorem ok_X7_isText : okS Y_X7_isText 1 := ⟨⟨wG_in (by decide +kernel) rfl, wG_in (by decide +kernel) rfl, by decide +kernel, by decide⟩, wG_in (by decide +kernel) rfl⟩
def Y_X7_isVerse : YY := (yX7_isVerse, cX7_isVerse, 2, (some .boolean), 1, 0, 0)
theorem ok_X7_isVerse : okV Y_X7_isVerse 1 := ⟨⟨wG_in (by decide +kernel) rfl, wG_in (by decide +kernel) rfl, by decide +kernel, by decide⟩, wG_in (by decide +kernel) rfl, wG_in (by decide +kernel) rfl⟩
def Y_X7_judged : YY := (yX7_judged, cX7_judged, 3, (some .int), 2, 0, 0)
theorem ok_X7_judged : okV Y_X7_judged 0 := ⟨⟨wG_in (by decide +kernel) rfl, wG_in (by decide +kernel) rfl, by decide +kernel, by decide⟩, wG_in (by decide +kernel) rfl, wG_in (by decide +kernel) rfl⟩
def Y_X7_lay : YY := (yX7_lay, cX7_lay, 6, (some .int), 3, 0, 0)
theorem ok_X7_lay : okV Y_X7_lay 4 := ⟨⟨wG_in (by decide +kernel) rfl, wG_in (by decide +kernel) rfl, by decide +kernel, by decide⟩, wG_in (by decide +kernel) rfl, wG_in (by decide +kernel) rfl⟩
def Y_X7_lead : YY := (yX7_lead, cX7_lead, 2, (some .int), 5, 0, 0)
theorem ok_X7_lead : okV Y_X7_lead 0 := ⟨⟨wG_in (by decide +kernel) rfl, wG_in (by decide +kernel) rfl, by decide +kernel, by decide⟩, wG_in (by decide +kernel) rfl, wG_in (by decide +kernel) rfl⟩
def Y_X7_leads : YY := (yX7_leads, cX7_leads, 3, (some .int), 5, 0, 0)
theorem ok_X7_leads : okV Y_X7_leads 0 := ⟨⟨wG_in (by decide +kernel) rfl, wG_in (by decide +kernel) rfl, by decide +kernel, by decide⟩, wG_in (by decide +kernel) rfl, wG_in (by decide +kernel) rfl⟩
def Y_X7_line : YY := (yX7_line, cX7_line, 4, (some .int), 4, 0, 0)
theorem ok_X7_line : okV Y_X7_line 2 := ⟨⟨wG_in (by decide +kernel) rfl, wG_in (by decide +kernel) rfl, by decide +kernel, by decide⟩, wG_in (by decide +kernel) rfl, wG_in (by decide +kernel) rfl⟩
def Y_X7_lose : YY := (yX7_lose, cX7_lose, 2, (some .int), 2, 0, 0)
theorem ok_X7_lose : okV Y_X7_lose 1 := ⟨⟨wG_in (by decide +kernel) rfl, wG_in (by decide +kernel) rfl, by decide +kernel, by decide⟩, wG_in (by decide +kernel) rfl, wG_in (by decide +kernel) rfl⟩
def Y_X7_odds : YY := (yX7_odds, cX7_odds, 11, (some .long), 3, 0, 0)
theorem ok_X7_odds : okV Y_X7_odds 1 := ⟨⟨wG_in (by decide +kernel) rfl, wG_in (by decide +kernel) rfl, by decide +kernel, by decide⟩, wG_in (by decide +kernel) rfl, wG_in (by decide +kernel) rfl⟩
def Y_X7_order : YY := (yX7_order, cX7_order, 2, (some .int), 15, 0, 0)
theorem ok_X7_order : okV Y_X7_order 1 := ⟨⟨wG_in (by decide +kernel) rfl, wG_in (by decide +kernel) rfl, by decide +kernel, by decide⟩, wG_in (by decide +kernel) rfl, wG_in (by decide +kernel) rfl⟩
def Y_X7_poem : YY := (yX7_poem, cX7_poem, 2, (some .int), 3, 0, 0)
theorem ok_X7_poem : okV Y_X7_poem 1 := ⟨⟨wG_in (by decide +kernel) rfl, wG_in (by decide +kernel) rfl, by decide +kernel, by decide⟩, wG_in (by decide +kernel) rfl, wG_in (by decide +kernel) rfl⟩
def Y_X7_put : YY := (yX7_put, cX7_put, 2, (some .int), 7, 0, 0)
theorem ok_X7_put : okV Y_X7_put 1 := ⟨⟨wG_in (by decide +kernel) rfl, wG_in (by decide +kernel) rfl, by decide +kernel, by decide⟩, wG_in (by decide +kernel) rfl, wG_in (by decide +kernel) rfl⟩
def Y_X7_read : YY := (yX7_read, cX7_read, 7, (some .int), 3, 0, 0)
theorem ok_X7_read : okV Y_X7_read 1 := ⟨⟨wG_in (by decide +kernel) rfl, wG_in (by decide +kernel) rfl, by decide +kernel, by decide⟩, wG_in (by decide +kernel) rfl, wG_in (by decide +kernel) rfl⟩
def Y_X7_rest : YY := (yX7_rest, cX7_rest, 3, (some .int), 2, 0, 0)
theorem ok_X7_rest : okV Y_X7_rest 1 := ⟨⟨wG_in (by decide +kernel) rfl, wG_in (by decide +kernel) rfl, by decide +kernel, by decide⟩, wG_in (by decide +kernel) rfl, wG_in (by decide +kernel) rfl⟩
def Y_X7_scriptOf : YY := (yX7_scriptOf, cX7_scriptOf, 2, (some (.object "MayNotPause$Script")), 1, 0, 0)
theorem ok_X7_scriptOf : okV Y_X7_scriptOf 1 := ⟨⟨wG_in (by decide +kernel) rfl, wG_in (by decide +kernel) rfl, by decide +kernel, by decide⟩, wG_in (by decide +kernel) rfl, wG_in (by decide +kernel) rfl⟩
def Y_X7_seen : YY := (yX7_seen, cX7_seen, 3, (some .int), 3, 0, 0)
theorem ok_X7_seen : okV Y_X7_seen 2 := ⟨⟨wG_in (by decide +kernel) rfl, wG_in (by decide +kernel) rfl, by decide +kernel, by decide⟩, wG_in (by decide +kernel) rfl, wG_in (by decide +kernel) rfl⟩
def Y_X7_set : YY := (yX7_set, cX7_set, 4, (some .int), 6, 0, 0)
theorem ok_X7_set : okV Y_X7_set 2 := ⟨⟨wG_in (by decide +kernel) rfl, wG_in (by decide +kernel) rfl, by decide +kernel, by decide⟩, wG_in (by decide +kernel) rfl, wG_in (by decide +kernel) rfl⟩
def Y_X7_sheet : YY := (yX7_sheet, cX7_sheet, 4, (some .int), 2, 0, 0)
theorem ok_X7_sheet : okV Y_X7_sheet 3 := ⟨⟨wG_in (by decide +kernel) rfl, wG_in (by decide +kernel) rfl, by decide +kernel, by decide⟩, wG_in (by decide +kernel) rfl, wG_in (by decide +kernel) rfl⟩
def Y_X7_sixteenths : YY := (yX7_sixteenths, cX7_sixteenths, 2, (some .int), 2, 0, 0)
theorem ok_X7_sixteenths : okV Y_X7_sixteenths 1 := ⟨⟨wG_in (by decide +kernel) rfl, wG_in (by decide +kernel) rfl, by decide +kernel, by decide⟩, wG_in (by decide +kernel) rfl, wG_in (by decide +kernel) rfl⟩
def Y_X7_tellAnew : YY := (yX7_tellAnew, cX7_tellAnew, 1, none, 5, 0, 0)
theorem ok_X7_tellAnew : okV Y_X7_tellAnew 0 := ⟨⟨wG_in (by decide +kernel) rfl, wG_in (by decide +kernel) rfl, by decide +kernel, by decide⟩, wG_in (by decide +kernel) rfl, wG_in (by decide +kernel) rfl⟩
def Y_X7_type : YY := (yX7_type, cX7_type, 4, (some .int), 6, 0, 0)
theorem ok_X7_type : okV Y_X7_type 2 := ⟨⟨wG_in (by decide +kernel) rfl, wG_in (by decide +kernel) rfl, by decide +kernel, by decide⟩, wG_in (by decide +kernel) rfl, wG_in (by decide +kernel) rfl⟩
def Y_X7_undo : YY := (yX7_undo, cX7_undo, 3, (some .int), 7, 0, 0)
theorem ok_X7_undo : okV Y_X7_undo 1 := ⟨⟨wG_in (by decide +kernel) rfl, wG_in (by decide +kernel) rfl, by decide +kernel, by decide⟩, wG_in (by decide +kernel) rfl, wG_in (by decide +kernel) rfl⟩
def Y_X7_verse : YY := (yX7_verse, cX7_verse, 4, (some .int), 2, 0, 0)
theorem ok_X7_verse : okV Y_X7_verse 2 := ⟨⟨wG_in (by decide +kernel) rfl, wG_in (by decide +kernel) rfl, by decide +kernel, by decide⟩, wG_in (by decide +kernel) rfl, wG_in (by decide +kernel) rfl⟩
def Y_X7_when : YY := (yX7_when, cX7_when, 4, (some .int), 2, 0, 0)
theorem ok_X7_when : okV Y_X7_when 2 := ⟨⟨wG_in (by decide +kernel) rfl, wG_in (by decide +kernel) rfl, by decide +kernel, by decide⟩, wG_in (by decide +kernel) rfl, wG_in (by decide +kernel) rfl⟩
def Y_X7_wipe : YY := (yX7_wipe, cX7_wipe, 4, (some .int), 6, 0, 0)
theorem ok_X7_wipe : okV Y_X7_wipe 1 := ⟨⟨wG_in (by decide +kernel) rfl, wG_in (by decide +kernel) rfl, by decide +kernel, by decide⟩, wG_in (by decide +kernel) rfl, wG_in (by decide +kernel) rfl⟩
def Y_X7_write : YY := (yX7_write, cX7_write, 5, (some .int), 3, 0, 0)
theorem ok_X7_write : okV Y_X7_write 1 := ⟨⟨wG_in (by decide +kernel) rfl, wG_in (by decide +kernel) rfl, by decide +kernel, by decide⟩, wG_in (by decide +kernel) rfl, wG_in (by decide +kernel) rfl⟩
def Y_X8_copy : YY := (yX8_copy, cX8_copy, 7, (some .int), 3, 0, 0)
theorem ok_X8_copy : okV Y_X8_copy 5 := ⟨⟨wG_in (by decide +kernel) rfl, wG_in (by decide +kernel) rfl, by decide +kernel, by decide⟩, wG_in (by decide +kernel) rfl, wG_in (by decide +kernel) rfl⟩
def Y_X8_count : YY := (yX8_count, cX8_count, 4, (some .int), 5, 0, 0)
theorem ok_X8_count : okV Y_X8_count 1 := ⟨⟨wG_in (by decide +kernel) rfl, wG_in (by decide +kernel) rfl, by decide +kernel, by decide⟩, wG_in (by decide +kernel) rfl, wG_in (by decide +kernel) rfl⟩
def Y_X8_counts : YY := (yX8_counts, cX8_counts, 4, none, 2, 0, 0)
theorem ok_X8_counts : okV Y_X8_counts 0 := ⟨⟨wG_in (by decide +kernel) rfl, wG_in (by decide +kernel) rfl, by decide +kernel, by decide⟩, wG_in (by decide +kernel) rfl, wG_in (by decide +kernel) rfl⟩
def Y_X8_cut : YY := (yX8_cut, cX8_cut, 2, (some .int), 1, 0, 0)
theorem ok_X8_cut : okS Y_X8_cut 2 := ⟨⟨wG_in (by decide +kernel) rfl, wG_in (by decide +kernel) rfl, by decide +kernel, by decide⟩, wG_in (by decide +kernel) rfl⟩
def Y_X8_digest : YY := (yX8_digest, cX8_digest, 5, (some .long), 6, 0, 0)
theorem ok_X8_digest : okV Y_X8_digest 0 := ⟨⟨wG_in (by decide +kernel) rfl, wG_in (by decide +kernel) rfl, by decide +kernel, by decide⟩, wG_in (by decide +kernel) rfl, wG_in (by decide +kernel) rfl⟩
def Y_X8_doing : YY := (yX8_doing, cX8_doing, 3, (some .int), 6, 0, 0)
theorem ok_X8_doing : okV Y_X8_doing 2 := ⟨⟨wG_in (by decide +kernel) rfl, wG_in (by decide +kernel) rfl, by decide +kernel, by decide⟩, wG_in (by decide +kernel) rfl, wG_in (by decide +kernel) rfl⟩
def Y_X8_doingOf : YY := (yX8_doingOf, cX8_doingOf, 3, (some .int), 5, 0, 0)
theorem ok_X8_doingOf : okV Y_X8_doingOf 2 := ⟨⟨wG_in (by decide +kernel) rfl, wG_in (by decide +kernel) rfl, by decide +kernel, by decide⟩, wG_in (by decide +kernel) rfl, wG_in (by decide +kernel) rfl⟩
def Y_X8_drawn : YY := (yX8_drawn, cX8_drawn, 2, (some .int), 5, 0, 0)
theorem ok_X8_drawn : okV Y_X8_drawn 1 := ⟨⟨wG_in (by decide +kernel) rfl, wG_in (by decide +kernel) rfl, by decide +kernel, by decide⟩, wG_in (by decide +kernel) rfl, wG_in (by decide +kernel) rfl⟩
def Y_X8_drawnOf : YY := (yX8_drawnOf, cX8_drawnOf, 4, (some .int), 1, 0, 0)
theorem ok_X8_drawnOf : okV Y_X8_drawnOf 1 := ⟨⟨wG_in (by decide +kernel) rfl, wG_in (by decide +kernel) rfl, by decide +kernel, by decide⟩, wG_in (by decide +kernel) rfl, wG_in (by decide +kernel) rfl⟩
def Y_X8_errors : YY := (yX8_errors, cX8_errors, 7, (some .int), 2, 0, 0)
theorem ok_X8_errors : okV Y_X8_errors 2 := ⟨⟨wG_in (by decide +kernel) rfl, wG_in (by decide +kernel) rfl, by decide +kernel, by decide⟩, wG_in (by decide +kernel) rfl, wG_in (by decide +kernel) rfl⟩
def Y_X8_fault : YY := (yX8_fault, cX8_fault, 2, (some .int), 4, 0, 0)
theorem ok_X8_fault : okV Y_X8_fault 1 := ⟨⟨wG_in (by decide +kernel) rfl, wG_in (by decide +kernel) rfl, by decide +kernel, by decide⟩, wG_in (by decide +kernel) rfl, wG_in (by decide +kernel) rfl⟩
def Y_X8_find : YY := (yX8_find, cX8_find, 1, none, 4, 0, 0)
theorem ok_X8_find : okV Y_X8_find 0 := ⟨⟨wG_in (by decide +kernel) rfl, wG_in (by decide +kernel) rfl, by decide +kernel, by decide⟩, wG_in (by decide +kernel) rfl, wG_in (by decide +kernel) rfl⟩
def Y_X8_findOrder : YY := (yX8_findOrder, cX8_findOrder, 6, none, 4, 0, 0)
theorem ok_X8_findOrder : okV Y_X8_findOrder 0 := ⟨⟨wG_in (by decide +kernel) rfl, wG_in (by decide +kernel) rfl, by decide +kernel, by decide⟩, wG_in (by decide +kernel) rfl, wG_in (by decide +kernel) rfl⟩
def Y_X8_findPut : YY := (yX8_findPut, cX8_findPut, 5, none, 5, 0, 0)
theorem ok_X8_findPut : okV Y_X8_findPut 0 := ⟨⟨wG_in (by decide +kernel) rfl, wG_in (by decide +kernel) rfl, by decide +kernel, by decide⟩, wG_in (by decide +kernel) rfl, wG_in (by decide +kernel) rfl⟩
def Y_X8_forget : YY := (yX8_forget, cX8_forget, 2, (some .int), 1, 0, 0)
theorem ok_X8_forget : okV Y_X8_forget 0 := ⟨⟨wG_in (by decide +kernel) rfl, wG_in (by decide +kernel) rfl, by decide +kernel, by decide⟩, wG_in (by decide +kernel) rfl, wG_in (by decide +kernel) rfl⟩
def Y_X8_freeAhead : YY := (yX8_freeAhead, cX8_freeAhead, 5, (some .int), 3, 0, 0)
theorem ok_X8_freeAhead : okV Y_X8_freeAhead 2 := ⟨⟨wG_in (by decide +kernel) rfl, wG_in (by decide +kernel) rfl, by decide +kernel, by decide⟩, wG_in (by decide +kernel) rfl, wG_in (by decide +kernel) rfl⟩
def Y_X8_get : YY := (yX8_get, cX8_get, 4, (some .int), 3, 0, 0)
theorem ok_X8_get : okV Y_X8_get 3 := ⟨⟨wG_in (by decide +kernel) rfl, wG_in (by decide +kernel) rfl, by decide +kernel, by decide⟩, wG_in (by decide +kernel) rfl, wG_in (by decide +kernel) rfl⟩
def Y_X8_greater : YY := (yX8_greater, cX8_greater, 2, (some .int), 1, 0, 0)
theorem ok_X8_greater : okS Y_X8_greater 2 := ⟨⟨wG_in (by decide +kernel) rfl, wG_in (by decide +kernel) rfl, by decide +kernel, by decide⟩, wG_in (by decide +kernel) rfl⟩
def Y_X8_hasIn : YY := (yX8_hasIn, cX8_hasIn, 4, (some .int), 1, 0, 0)
theorem ok_X8_hasIn : okV Y_X8_hasIn 1 := ⟨⟨wG_in (by decide +kernel) rfl, wG_in (by decide +kernel) rfl, by decide +kernel, by decide⟩, wG_in (by decide +kernel) rfl, wG_in (by decide +kernel) rfl⟩
def Y_X8_here : YY := (yX8_here, cX8_here, 2, (some .int), 1, 0, 0)
theorem ok_X8_here : okV Y_X8_here 1 := ⟨⟨wG_in (by decide +kernel) rfl, wG_in (by decide +kernel) rfl, by decide +kernel, by decide⟩, wG_in (by decide +kernel) rfl, wG_in (by decide +kernel) rfl⟩
def Y_X8_in : YY := (yX8_in, cX8_in, 6, (some .boolean), 1, 0, 0)
theorem ok_X8_in : okS Y_X8_in 3 := ⟨⟨wG_in (by decide +kernel) rfl, wG_in (by decide +kernel) rfl, by decide +kernel, by decide⟩, wG_in (by decide +kernel) rfl⟩
def Y_X8_init : YY := (yX8_init, cX8_init, 2, none, 1, 20, 643)
theorem ok_X8_init : okI Y_X8_init 0 := ⟨⟨wG_in (by decide +kernel) rfl, wG_in (by decide +kernel) rfl, by decide +kernel, by decide⟩, wG_in (by decide +kernel) rfl, rfl, rfl⟩
def Y_X8_isFree : YY := (yX8_isFree, cX8_isFree, 5, (some .boolean), 2, 0, 0)
theorem ok_X8_isFree : okV Y_X8_isFree 1 := ⟨⟨wG_in (by decide +kernel) rfl, wG_in (by decide +kernel) rfl, by decide +kernel, by decide⟩, wG_in (by decide +kernel) rfl, wG_in (by decide +kernel) rfl⟩
def Y_X8_isIn : YY := (yX8_isIn, cX8_isIn, 2, (some .boolean), 1, 0, 0)
theorem ok_X8_isIn : okS Y_X8_isIn 2 := ⟨⟨wG_in (by decide +kernel) rfl, wG_in (by decide +kernel) rfl, by decide +kernel, by decide⟩, wG_in (by decide +kernel) rfl⟩
def Y_X8_isSheet : YY := (yX8_isSheet, cX8_isSheet, 1, (some .boolean), 2, 0, 0)
theorem ok_X8_isSheet : okS Y_X8_isSheet 1 := ⟨⟨wG_in (by decide +kernel) rfl, wG_in (by decide +kernel) rfl, by decide +kernel, by decide⟩, wG_in (by decide +kernel) rfl⟩
def Y_X8_isTwo : YY := (yX8_isTwo, cX8_isTwo, 1, (some .boolean), 2, 0, 0)
theorem ok_X8_isTwo : okS Y_X8_isTwo 1 := ⟨⟨wG_in (by decide +kernel) rfl, wG_in (by decide +kernel) rfl, by decide +kernel, by decide⟩, wG_in (by decide +kernel) rfl⟩
def Y_X8_isVerse : YY := (yX8_isVerse, cX8_isVerse, 2, (some .boolean), 2, 0, 0)
theorem ok_X8_isVerse : okV Y_X8_isVerse 1 := ⟨⟨wG_in (by decide +kernel) rfl, wG_in (by decide +kernel) rfl, by decide +kernel, by decide⟩, wG_in (by decide +kernel) rfl, wG_in (by decide +kernel) rfl⟩
def Y_X8_judged : YY := (yX8_judged, cX8_judged, 1, (some .int), 5, 0, 0)
theorem ok_X8_judged : okV Y_X8_judged 0 := ⟨⟨wG_in (by decide +kernel) rfl, wG_in (by decide +kernel) rfl, by decide +kernel, by decide⟩, wG_in (by decide +kernel) rfl, wG_in (by decide +kernel) rfl⟩
def Y_X8_judgedNow : YY := (yX8_judgedNow, cX8_judgedNow, 2, (some .int), 1, 0, 0)
theorem ok_X8_judgedNow : okV Y_X8_judgedNow 0 := ⟨⟨wG_in (by decide +kernel) rfl, wG_in (by decide +kernel) rfl, by decide +kernel, by decide⟩, wG_in (by decide +kernel) rfl, wG_in (by decide +kernel) rfl⟩
def Y_X8_kindAt : YY := (yX8_kindAt, cX8_kindAt, 2, (some .int), 1, 0, 0)
theorem ok_X8_kindAt : okV Y_X8_kindAt 1 := ⟨⟨wG_in (by decide +kernel) rfl, wG_in (by decide +kernel) rfl, by decide +kernel, by decide⟩, wG_in (by decide +kernel) rfl, wG_in (by decide +kernel) rfl⟩
def Y_X8_kindOf : YY := (yX8_kindOf, cX8_kindOf, 1, (some .int), 1, 0, 0)
theorem ok_X8_kindOf : okS Y_X8_kindOf 1 := ⟨⟨wG_in (by decide +kernel) rfl, wG_in (by decide +kernel) rfl, by decide +kernel, by decide⟩, wG_in (by decide +kernel) rfl⟩
def Y_X8_lacks : YY := (yX8_lacks, cX8_lacks, 4, (some .int), 2, 0, 0)
theorem ok_X8_lacks : okV Y_X8_lacks 3 := ⟨⟨wG_in (by decide +kernel) rfl, wG_in (by decide +kernel) rfl, by decide +kernel, by decide⟩, wG_in (by decide +kernel) rfl, wG_in (by decide +kernel) rfl⟩
def Y_X8_lay : YY := (yX8_lay, cX8_lay, 6, (some .int), 3, 0, 0)
theorem ok_X8_lay : okV Y_X8_lay 4 := ⟨⟨wG_in (by decide +kernel) rfl, wG_in (by decide +kernel) rfl, by decide +kernel, by decide⟩, wG_in (by decide +kernel) rfl, wG_in (by decide +kernel) rfl⟩
def Y_X8_lays : YY := (yX8_lays, cX8_lays, 6, none, 1, 0, 0)
theorem ok_X8_lays : okV Y_X8_lays 4 := ⟨⟨wG_in (by decide +kernel) rfl, wG_in (by decide +kernel) rfl, by decide +kernel, by decide⟩, wG_in (by decide +kernel) rfl, wG_in (by decide +kernel) rfl⟩
def Y_X8_lead : YY := (yX8_lead, cX8_lead, 1, (some .int), 5, 0, 0)
theorem ok_X8_lead : okV Y_X8_lead 0 := ⟨⟨wG_in (by decide +kernel) rfl, wG_in (by decide +kernel) rfl, by decide +kernel, by decide⟩, wG_in (by decide +kernel) rfl, wG_in (by decide +kernel) rfl⟩
def Y_X8_leadNow : YY := (yX8_leadNow, cX8_leadNow, 2, (some .int), 4, 0, 0)
theorem ok_X8_leadNow : okV Y_X8_leadNow 0 := ⟨⟨wG_in (by decide +kernel) rfl, wG_in (by decide +kernel) rfl, by decide +kernel, by decide⟩, wG_in (by decide +kernel) rfl, wG_in (by decide +kernel) rfl⟩
def Y_X8_leads : YY := (yX8_leads, cX8_leads, 1, (some .int), 6, 0, 0)
theorem ok_X8_leads : okV Y_X8_leads 0 := ⟨⟨wG_in (by decide +kernel) rfl, wG_in (by decide +kernel) rfl, by decide +kernel, by decide⟩, wG_in (by decide +kernel) rfl, wG_in (by decide +kernel) rfl⟩
def Y_X8_leadsNow : YY := (yX8_leadsNow, cX8_leadsNow, 5, (some .int), 5, 0, 0)
theorem ok_X8_leadsNow : okV Y_X8_leadsNow 0 := ⟨⟨wG_in (by decide +kernel) rfl, wG_in (by decide +kernel) rfl, by decide +kernel, by decide⟩, wG_in (by decide +kernel) rfl, wG_in (by decide +kernel) rfl⟩
def Y_X8_lesser : YY := (yX8_lesser, cX8_lesser, 2, (some .int), 1, 0, 0)
theorem ok_X8_lesser : okS Y_X8_lesser 2 := ⟨⟨wG_in (by decide +kernel) rfl, wG_in (by decide +kernel) rfl, by decide +kernel, by decide⟩, wG_in (by decide +kernel) rfl⟩
def Y_X8_line : YY := (yX8_line, cX8_line, 3, (some .int), 4, 0, 0)
theorem ok_X8_line : okV Y_X8_line 2 := ⟨⟨wG_in (by decide +kernel) rfl, wG_in (by decide +kernel) rfl, by decide +kernel, by decide⟩, wG_in (by decide +kernel) rfl, wG_in (by decide +kernel) rfl⟩
def Y_X8_lineOf : YY := (yX8_lineOf, cX8_lineOf, 5, (some .int), 3, 0, 0)
theorem ok_X8_lineOf : okV Y_X8_lineOf 2 := ⟨⟨wG_in (by decide +kernel) rfl, wG_in (by decide +kernel) rfl, by decide +kernel, by decide⟩, wG_in (by decide +kernel) rfl, wG_in (by decide +kernel) rfl⟩
def Y_X8_looks : YY := (yX8_looks, cX8_looks, 6, none, 4, 0, 0)
theorem ok_X8_looks : okV Y_X8_looks 5 := ⟨⟨wG_in (by decide +kernel) rfl, wG_in (by decide +kernel) rfl, by decide +kernel, by decide⟩, wG_in (by decide +kernel) rfl, wG_in (by decide +kernel) rfl⟩
def Y_X8_lose : YY := (yX8_lose, cX8_lose, 2, (some .int), 3, 0, 0)
theorem ok_X8_lose : okV Y_X8_lose 1 := ⟨⟨wG_in (by decide +kernel) rfl, wG_in (by decide +kernel) rfl, by decide +kernel, by decide⟩, wG_in (by decide +kernel) rfl, wG_in (by decide +kernel) rfl⟩
def Y_X8_makesIn : YY := (yX8_makesIn, cX8_makesIn, 5, (some .int), 4, 0, 0)
theorem ok_X8_makesIn : okV Y_X8_makesIn 2 := ⟨⟨wG_in (by decide +kernel) rfl, wG_in (by decide +kernel) rfl, by decide +kernel, by decide⟩, wG_in (by decide +kernel) rfl, wG_in (by decide +kernel) rfl⟩
def Y_X8_met : YY := (yX8_met, cX8_met, 2, (some .int), 1, 0, 0)
theorem ok_X8_met : okV Y_X8_met 1 := ⟨⟨wG_in (by decide +kernel) rfl, wG_in (by decide +kernel) rfl, by decide +kernel, by decide⟩, wG_in (by decide +kernel) rfl, wG_in (by decide +kernel) rfl⟩
def Y_X8_most : YY := (yX8_most, cX8_most, 1, (some .int), 1, 0, 0)
theorem ok_X8_most : okS Y_X8_most 1 := ⟨⟨wG_in (by decide +kernel) rfl, wG_in (by decide +kernel) rfl, by decide +kernel, by decide⟩, wG_in (by decide +kernel) rfl⟩
def Y_X8_no : YY := (yX8_no, cX8_no, 1, (some .long), 1, 0, 0)
theorem ok_X8_no : okS Y_X8_no 1 := ⟨⟨wG_in (by decide +kernel) rfl, wG_in (by decide +kernel) rfl, by decide +kernel, by decide⟩, wG_in (by decide +kernel) rfl⟩
def Y_X8_odds : YY := (yX8_odds, cX8_odds, 2, (some .long), 5, 0, 0)
theorem ok_X8_odds : okV Y_X8_odds 1 := ⟨⟨wG_in (by decide +kernel) rfl, wG_in (by decide +kernel) rfl, by decide +kernel, by decide⟩, wG_in (by decide +kernel) rfl, wG_in (by decide +kernel) rfl⟩
def Y_X8_oddsOf : YY := (yX8_oddsOf, cX8_oddsOf, 9, (some .long), 2, 0, 0)
theorem ok_X8_oddsOf : okV Y_X8_oddsOf 1 := ⟨⟨wG_in (by decide +kernel) rfl, wG_in (by decide +kernel) rfl, by decide +kernel, by decide⟩, wG_in (by decide +kernel) rfl, wG_in (by decide +kernel) rfl⟩
def Y_X8_order : YY := (yX8_order, cX8_order, 2, (some .int), 5, 0, 0)
theorem ok_X8_order : okV Y_X8_order 1 := ⟨⟨wG_in (by decide +kernel) rfl, wG_in (by decide +kernel) rfl, by decide +kernel, by decide⟩, wG_in (by decide +kernel) rfl, wG_in (by decide +kernel) rfl⟩
def Y_X8_part : YY := (yX8_part, cX8_part, 11, (some .long), 1, 0, 0)
theorem ok_X8_part : okS Y_X8_part 3 := ⟨⟨wG_in (by decide +kernel) rfl, wG_in (by decide +kernel) rfl, by decide +kernel, by decide⟩, wG_in (by decide +kernel) rfl⟩
def Y_X8_plain : YY := (yX8_plain, cX8_plain, 2, none, 1, 0, 0)
theorem ok_X8_plain : okV Y_X8_plain 0 := ⟨⟨wG_in (by decide +kernel) rfl, wG_in (by decide +kernel) rfl, by decide +kernel, by decide⟩, wG_in (by decide +kernel) rfl, wG_in (by decide +kernel) rfl⟩
def Y_X8_poem : YY := (yX8_poem, cX8_poem, 2, (some .int), 5, 0, 0)
theorem ok_X8_poem : okV Y_X8_poem 1 := ⟨⟨wG_in (by decide +kernel) rfl, wG_in (by decide +kernel) rfl, by decide +kernel, by decide⟩, wG_in (by decide +kernel) rfl, wG_in (by decide +kernel) rfl⟩
def Y_X8_poemOf : YY := (yX8_poemOf, cX8_poemOf, 2, (some .int), 1, 0, 0)
theorem ok_X8_poemOf : okV Y_X8_poemOf 1 := ⟨⟨wG_in (by decide +kernel) rfl, wG_in (by decide +kernel) rfl, by decide +kernel, by decide⟩, wG_in (by decide +kernel) rfl, wG_in (by decide +kernel) rfl⟩
def Y_X8_put : YY := (yX8_put, cX8_put, 2, (some .int), 6, 0, 0)
theorem ok_X8_put : okV Y_X8_put 1 := ⟨⟨wG_in (by decide +kernel) rfl, wG_in (by decide +kernel) rfl, by decide +kernel, by decide⟩, wG_in (by decide +kernel) rfl, wG_in (by decide +kernel) rfl⟩
def Y_X8_read : YY := (yX8_read, cX8_read, 4, (some .int), 3, 0, 0)
theorem ok_X8_read : okV Y_X8_read 1 := ⟨⟨wG_in (by decide +kernel) rfl, wG_in (by decide +kernel) rfl, by decide +kernel, by decide⟩, wG_in (by decide +kernel) rfl, wG_in (by decide +kernel) rfl⟩
def Y_X8_readsText : YY := (yX8_readsText, cX8_readsText, 4, (some .int), 3, 0, 0)
theorem ok_X8_readsText : okV Y_X8_readsText 1 := ⟨⟨wG_in (by decide +kernel) rfl, wG_in (by decide +kernel) rfl, by decide +kernel, by decide⟩, wG_in (by decide +kernel) rfl, wG_in (by decide +kernel) rfl⟩
def Y_X8_readsVerse : YY := (yX8_readsVerse, cX8_readsVerse, 6, (some .boolean), 2, 0, 0)
theorem ok_X8_readsVerse : okV Y_X8_readsVerse 1 := ⟨⟨wG_in (by decide +kernel) rfl, wG_in (by decide +kernel) rfl, by decide +kernel, by decide⟩, wG_in (by decide +kernel) rfl, wG_in (by decide +kernel) rfl⟩
def Y_X8_rest : YY := (yX8_rest, cX8_rest, 2, (some .int), 5, 0, 0)
theorem ok_X8_rest : okV Y_X8_rest 1 := ⟨⟨wG_in (by decide +kernel) rfl, wG_in (by decide +kernel) rfl, by decide +kernel, by decide⟩, wG_in (by decide +kernel) rfl, wG_in (by decide +kernel) rfl⟩
def Y_X8_restOf : YY := (yX8_restOf, cX8_restOf, 4, (some .int), 4, 0, 0)
theorem ok_X8_restOf : okV Y_X8_restOf 1 := ⟨⟨wG_in (by decide +kernel) rfl, wG_in (by decide +kernel) rfl, by decide +kernel, by decide⟩, wG_in (by decide +kernel) rfl, wG_in (by decide +kernel) rfl⟩
def Y_X8_sayAt : YY := (yX8_sayAt, cX8_sayAt, 2, (some .int), 1, 0, 0)
theorem ok_X8_sayAt : okV Y_X8_sayAt 1 := ⟨⟨wG_in (by decide +kernel) rfl, wG_in (by decide +kernel) rfl, by decide +kernel, by decide⟩, wG_in (by decide +kernel) rfl, wG_in (by decide +kernel) rfl⟩
def Y_X8_says : YY := (yX8_says, cX8_says, 14, none, 3, 0, 0)
theorem ok_X8_says : okV Y_X8_says 3 := ⟨⟨wG_in (by decide +kernel) rfl, wG_in (by decide +kernel) rfl, by decide +kernel, by decide⟩, wG_in (by decide +kernel) rfl, wG_in (by decide +kernel) rfl⟩
def Y_X8_saysIn : YY := (yX8_saysIn, cX8_saysIn, 3, (some .int), 1, 0, 0)
theorem ok_X8_saysIn : okV Y_X8_saysIn 1 := ⟨⟨wG_in (by decide +kernel) rfl, wG_in (by decide +kernel) rfl, by decide +kernel, by decide⟩, wG_in (by decide +kernel) rfl, wG_in (by decide +kernel) rfl⟩
def Y_X8_seen : YY := (yX8_seen, cX8_seen, 3, (some .int), 2, 0, 0)
theorem ok_X8_seen : okV Y_X8_seen 2 := ⟨⟨wG_in (by decide +kernel) rfl, wG_in (by decide +kernel) rfl, by decide +kernel, by decide⟩, wG_in (by decide +kernel) rfl, wG_in (by decide +kernel) rfl⟩
def Y_X8_set : YY := (yX8_set, cX8_set, 4, (some .int), 2, 0, 0)
theorem ok_X8_set : okV Y_X8_set 2 := ⟨⟨wG_in (by decide +kernel) rfl, wG_in (by decide +kernel) rfl, by decide +kernel, by decide⟩, wG_in (by decide +kernel) rfl, wG_in (by decide +kernel) rfl⟩
def Y_X8_sheet : YY := (yX8_sheet, cX8_sheet, 5, (some .int), 3, 0, 0)
theorem ok_X8_sheet : okV Y_X8_sheet 3 := ⟨⟨wG_in (by decide +kernel) rfl, wG_in (by decide +kernel) rfl, by decide +kernel, by decide⟩, wG_in (by decide +kernel) rfl, wG_in (by decide +kernel) rfl⟩
def Y_X8_tellsOrder : YY := (yX8_tellsOrder, cX8_tellsOrder, 2, (some .int), 1, 0, 0)
theorem ok_X8_tellsOrder : okV Y_X8_tellsOrder 1 := ⟨⟨wG_in (by decide +kernel) rfl, wG_in (by decide +kernel) rfl, by decide +kernel, by decide⟩, wG_in (by decide +kernel) rfl, wG_in (by decide +kernel) rfl⟩
def Y_X8_type : YY := (yX8_type, cX8_type, 3, (some .int), 3, 0, 0)
theorem ok_X8_type : okV Y_X8_type 2 := ⟨⟨wG_in (by decide +kernel) rfl, wG_in (by decide +kernel) rfl, by decide +kernel, by decide⟩, wG_in (by decide +kernel) rfl, wG_in (by decide +kernel) rfl⟩
def Y_X8_undo : YY := (yX8_undo, cX8_undo, 2, (some .int), 4, 0, 0)
theorem ok_X8_undo : okV Y_X8_undo 1 := ⟨⟨wG_in (by decide +kernel) rfl, wG_in (by decide +kernel) rfl, by decide +kernel, by decide⟩, wG_in (by decide +kernel) rfl, wG_in (by decide +kernel) rfl⟩
def Y_X8_unfolds : YY := (yX8_unfolds, cX8_unfolds, 6, none, 1, 0, 0)
theorem ok_X8_unfolds : okV Y_X8_unfolds 2 := ⟨⟨wG_in (by decide +kernel) rfl, wG_in (by decide +kernel) rfl, by decide +kernel, by decide⟩, wG_in (by decide +kernel) rfl, wG_in (by decide +kernel) rfl⟩
def Y_X8_verse : YY := (yX8_verse, cX8_verse, 3, (some .int), 5, 0, 0)
theorem ok_X8_verse : okV Y_X8_verse 2 := ⟨⟨wG_in (by decide +kernel) rfl, wG_in (by decide +kernel) rfl, by decide +kernel, by decide⟩, wG_in (by decide +kernel) rfl, wG_in (by decide +kernel) rfl⟩
def Y_X8_verseOf : YY := (yX8_verseOf, cX8_verseOf, 3, (some .int), 1, 0, 0)
theorem ok_X8_verseOf : okV Y_X8_verseOf 2 := ⟨⟨wG_in (by decide +kernel) rfl, wG_in (by decide +kernel) rfl, by decide +kernel, by decide⟩, wG_in (by decide +kernel) rfl, wG_in (by decide +kernel) rfl⟩
def Y_X8_when : YY := (yX8_when, cX8_when, 3, (some .int), 5, 0, 0)
theorem ok_X8_when : okV Y_X8_when 2 := ⟨⟨wG_in (by decide +kernel) rfl, wG_in (by decide +kernel) rfl, by decide +kernel, by decide⟩, wG_in (by decide +kernel) rfl, wG_in (by decide +kernel) rfl⟩
def Y_X8_whenOf : YY := (yX8_whenOf, cX8_whenOf, 3, (some .int), 1, 0, 0)
theorem ok_X8_whenOf : okV Y_X8_whenOf 2 := ⟨⟨wG_in (by decide +kernel) rfl, wG_in (by decide +kernel) rfl, by decide +kernel, by decide⟩, wG_in (by decide +kernel) rfl, wG_in (by decide +kernel) rfl⟩
def Y_X8_wipe : YY := (yX8_wipe, cX8_wipe, 3, (some .int), 3, 0, 0)
theorem ok_X8_wipe : okV Y_X8_wipe 1 := ⟨⟨wG_in (by decide +kernel) rfl, wG_in (by decide +kernel) rfl, by decide +kernel, by decide⟩, wG_in (by decide +kernel) rfl, wG_in (by decide +kernel) rfl⟩
def Y_X8_write : YY := (yX8_write, cX8_write, 4, (some .int), 5, 0, 0)
theorem ok_X8_write : okV Y_X8_write 1 := ⟨⟨wG_in (by decide +kernel) rfl, wG_in (by decide +kernel) rfl, by decide +kernel, by decide⟩, wG_in (by decide +kernel) rfl, wG_in (by decide +kernel) rfl⟩
def Y_L_law : YY := (yL_law, cL_law, 4, some .boolean, 17, 79, 1561)
