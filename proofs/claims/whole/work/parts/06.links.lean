/-! ===== the heap behind the two constructors; links; methods ===== -/
def SH : Sh := [(7, 12, [some 1, some 2, some 4, some 6, some 22, some 40, some 42, some 46, some 49, none, none, none]), (9, 6, []), (2, 4, [some 3, none, none, none]), (9, 59, []), (2, 4, [some 5, none, none, none]), (9, 19, []), (5, 4, [some 7, some 8, some 9, none]), (9, 5, []), (6, 15, [none, none, none, none, none, none, none, none, none, none, none, none, none, none, none]), (11, 12, [some 10, some 11, some 12, some 13, some 14, some 15, some 16, some 17, some 18, some 19, some 20, some 21]), (6, 15, [none, none, none, none, none, none, none, none, none, none, none, none, none, none, none]), (6, 15, [none, none, none, none, none, none, none, none, none, none, none, none, none, none, none]), (6, 15, [none, none, none, none, none, none, none, none, none, none, none, none, none, none, none]), (6, 15, [none, none, none, none, none, none, none, none, none, none, none, none, none, none, none]), (6, 15, [none, none, none, none, none, none, none, none, none, none, none, none, none, none, none]), (6, 15, [none, none, none, none, none, none, none, none, none, none, none, none, none, none, none]), (6, 15, [none, none, none, none, none, none, none, none, none, none, none, none, none, none, none]), (6, 15, [none, none, none, none, none, none, none, none, none, none, none, none, none, none, none]), (6, 15, [none, none, none, none, none, none, none, none, none, none, none, none, none, none, none]), (6, 15, [none, none, none, none, none, none, none, none, none, none, none, none, none, none, none]), (6, 15, [none, none, none, none, none, none, none, none, none, none, none, none, none, none, none]), (6, 15, [none, none, none, none, none, none, none, none, none, none, none, none, none, none, none]), (5, 4, [some 23, some 24, some 25, none]), (9, 5, []), (6, 15, [none, none, none, none, none, none, none, none, none, none, none, none, none, none, none]), (11, 14, [some 26, some 27, some 28, some 29, some 30, some 31, some 32, some 33, some 34, some 35, some 36, some 37, some 38, some 39]), (6, 15, [none, none, none, none, none, none, none, none, none, none, none, none, none, none, none]), (6, 15, [none, none, none, none, none, none, none, none, none, none, none, none, none, none, none]), (6, 15, [none, none, none, none, none, none, none, none, none, none, none, none, none, none, none]), (6, 15, [none, none, none, none, none, none, none, none, none, none, none, none, none, none, none]), (6, 15, [none, none, none, none, none, none, none, none, none, none, none, none, none, none, none]), (6, 15, [none, none, none, none, none, none, none, none, none, none, none, none, none, none, none]), (6, 15, [none, none, none, none, none, none, none, none, none, none, none, none, none, none, none]), (6, 15, [none, none, none, none, none, none, none, none, none, none, none, none, none, none, none]), (6, 15, [none, none, none, none, none, none, none, none, none, none, none, none, none, none, none]), (6, 15, [none, none, none, none, none, none, none, none, none, none, none, none, none, none, none]), (6, 15, [none, none, none, none, none, none, none, none, none, none, none, none, none, none, none]), (6, 15, [none, none, none, none, none, none, none, none, none, none, none, none, none, none, none]), (6, 15, [none, none, none, none, none, none, none, none, none, none, none, none, none, none, none]), (6, 15, [none, none, none, none, none, none, none, none, none, none, none, none, none, none, none]), (1, 5, [some 22, some 2, some 4, some 1, some 41]), (9, 6, []), (0, 9, [some 22, some 2, some 1, some 43, some 44, some 45, none, none, none]), (9, 7, []), (9, 7, []), (10, 7, []), (4, 3, [some 47, some 48, none]), (9, 8, []), (9, 8, []), (12, 4, [some 50, some 52, some 54, some 56]), (3, 4, [some 51, none, none, none]), (9, 60, []), (3, 4, [some 53, none, none, none]), (9, 60, []), (3, 4, [some 55, none, none, none]), (9, 60, []), (3, 4, [some 57, none, none, none]), (9, 60, []), (8, 30, [some 59, some 60, some 61, some 62, none, some 63, some 64, none, some 65, some 66, some 67, none, some 68, some 69, some 70, some 71, some 72, some 73, some 74, some 75, none, none, none, none, some 76, some 77, none, none, none, some 78]), (9, 4, []), (9, 4, []), (9, 240, []), (9, 60, []), (9, 120, []), (9, 2, []), (9, 2, []), (9, 64, []), (9, 6, []), (9, 14, []), (9, 14, []), (9, 14, []), (9, 14, []), (9, 14, []), (9, 14, []), (9, 14, []), (9, 14, []), (9, 6, []), (9, 7, []), (9, 16, [])]
theorem sh_0 : SH[0]? = some (7, 12, [some 1, some 2, some 4, some 6, some 22, some 40, some 42, some 46, some 49, none, none, none]) := rfl
theorem sh_1 : SH[1]? = some (9, 6, []) := rfl
theorem sh_2 : SH[2]? = some (2, 4, [some 3, none, none, none]) := rfl
theorem sh_3 : SH[3]? = some (9, 59, []) := rfl
theorem sh_4 : SH[4]? = some (2, 4, [some 5, none, none, none]) := rfl
theorem sh_5 : SH[5]? = some (9, 19, []) := rfl
theorem sh_6 : SH[6]? = some (5, 4, [some 7, some 8, some 9, none]) := rfl
theorem sh_7 : SH[7]? = some (9, 5, []) := rfl
theorem sh_8 : SH[8]? = some (6, 15, [none, none, none, none, none, none, none, none, none, none, none, none, none, none, none]) := rfl
theorem sh_9 : SH[9]? = some (11, 12, [some 10, some 11, some 12, some 13, some 14, some 15, some 16, some 17, some 18, some 19, some 20, some 21]) := rfl
theorem sh_10 : SH[10]? = some (6, 15, [none, none, none, none, none, none, none, none, none, none, none, none, none, none, none]) := rfl
theorem sh_11 : SH[11]? = some (6, 15, [none, none, none, none, none, none, none, none, none, none, none, none, none, none, none]) := rfl
theorem sh_12 : SH[12]? = some (6, 15, [none, none, none, none, none, none, none, none, none, none, none, none, none, none, none]) := rfl
theorem sh_13 : SH[13]? = some (6, 15, [none, none, none, none, none, none, none, none, none, none, none, none, none, none, none]) := rfl
theorem sh_14 : SH[14]? = some (6, 15, [none, none, none, none, none, none, none, none, none, none, none, none, none, none, none]) := rfl
theorem sh_15 : SH[15]? = some (6, 15, [none, none, none, none, none, none, none, none, none, none, none, none, none, none, none]) := rfl
theorem sh_16 : SH[16]? = some (6, 15, [none, none, none, none, none, none, none, none, none, none, none, none, none, none, none]) := rfl
theorem sh_17 : SH[17]? = some (6, 15, [none, none, none, none, none, none, none, none, none, none, none, none, none, none, none]) := rfl
theorem sh_18 : SH[18]? = some (6, 15, [none, none, none, none, none, none, none, none, none, none, none, none, none, none, none]) := rfl
theorem sh_19 : SH[19]? = some (6, 15, [none, none, none, none, none, none, none, none, none, none, none, none, none, none, none]) := rfl
theorem sh_20 : SH[20]? = some (6, 15, [none, none, none, none, none, none, none, none, none, none, none, none, none, none, none]) := rfl
theorem sh_21 : SH[21]? = some (6, 15, [none, none, none, none, none, none, none, none, none, none, none, none, none, none, none]) := rfl
theorem sh_22 : SH[22]? = some (5, 4, [some 23, some 24, some 25, none]) := rfl
theorem sh_23 : SH[23]? = some (9, 5, []) := rfl
theorem sh_24 : SH[24]? = some (6, 15, [none, none, none, none, none, none, none, none, none, none, none, none, none, none, none]) := rfl
theorem sh_25 : SH[25]? = some (11, 14, [some 26, some 27, some 28, some 29, some 30, some 31, some 32, some 33, some 34, some 35, some 36, some 37, some 38, some 39]) := rfl
theorem sh_26 : SH[26]? = some (6, 15, [none, none, none, none, none, none, none, none, none, none, none, none, none, none, none]) := rfl
theorem sh_27 : SH[27]? = some (6, 15, [none, none, none, none, none, none, none, none, none, none, none, none, none, none, none]) := rfl
theorem sh_28 : SH[28]? = some (6, 15, [none, none, none, none, none, none, none, none, none, none, none, none, none, none, none]) := rfl
theorem sh_29 : SH[29]? = some (6, 15, [none, none, none, none, none, none, none, none, none, none, none, none, none, none, none]) := rfl
theorem sh_30 : SH[30]? = some (6, 15, [none, none, none, none, none, none, none, none, none, none, none, none, none, none, none]) := rfl
theorem sh_31 : SH[31]? = some (6, 15, [none, none, none, none, none, none, none, none, none, none, none, none, none, none, none]) := rfl
theorem sh_32 : SH[32]? = some (6, 15, [none, none, none, none, none, none, none, none, none, none, none, none, none, none, none]) := rfl
theorem sh_33 : SH[33]? = some (6, 15, [none, none, none, none, none, none, none, none, none, none, none, none, none, none, none]) := rfl
theorem sh_34 : SH[34]? = some (6, 15, [none, none, none, none, none, none, none, none, none, none, none, none, none, none, none]) := rfl
theorem sh_35 : SH[35]? = some (6, 15, [none, none, none, none, none, none, none, none, none, none, none, none, none, none, none]) := rfl
theorem sh_36 : SH[36]? = some (6, 15, [none, none, none, none, none, none, none, none, none, none, none, none, none, none, none]) := rfl
theorem sh_37 : SH[37]? = some (6, 15, [none, none, none, none, none, none, none, none, none, none, none, none, none, none, none]) := rfl
theorem sh_38 : SH[38]? = some (6, 15, [none, none, none, none, none, none, none, none, none, none, none, none, none, none, none]) := rfl
theorem sh_39 : SH[39]? = some (6, 15, [none, none, none, none, none, none, none, none, none, none, none, none, none, none, none]) := rfl
theorem sh_40 : SH[40]? = some (1, 5, [some 22, some 2, some 4, some 1, some 41]) := rfl
theorem sh_41 : SH[41]? = some (9, 6, []) := rfl
theorem sh_42 : SH[42]? = some (0, 9, [some 22, some 2, some 1, some 43, some 44, some 45, none, none, none]) := rfl
theorem sh_43 : SH[43]? = some (9, 7, []) := rfl
theorem sh_44 : SH[44]? = some (9, 7, []) := rfl
theorem sh_45 : SH[45]? = some (10, 7, []) := rfl
theorem sh_46 : SH[46]? = some (4, 3, [some 47, some 48, none]) := rfl
theorem sh_47 : SH[47]? = some (9, 8, []) := rfl
theorem sh_48 : SH[48]? = some (9, 8, []) := rfl
theorem sh_49 : SH[49]? = some (12, 4, [some 50, some 52, some 54, some 56]) := rfl
theorem sh_50 : SH[50]? = some (3, 4, [some 51, none, none, none]) := rfl
theorem sh_51 : SH[51]? = some (9, 60, []) := rfl
theorem sh_52 : SH[52]? = some (3, 4, [some 53, none, none, none]) := rfl
theorem sh_53 : SH[53]? = some (9, 60, []) := rfl
theorem sh_54 : SH[54]? = some (3, 4, [some 55, none, none, none]) := rfl
theorem sh_55 : SH[55]? = some (9, 60, []) := rfl
theorem sh_56 : SH[56]? = some (3, 4, [some 57, none, none, none]) := rfl
theorem sh_57 : SH[57]? = some (9, 60, []) := rfl
theorem sh_58 : SH[58]? = some (8, 30, [some 59, some 60, some 61, some 62, none, some 63, some 64, none, some 65, some 66, some 67, none, some 68, some 69, some 70, some 71, some 72, some 73, some 74, some 75, none, none, none, none, some 76, some 77, none, none, none, some 78]) := rfl
theorem sh_59 : SH[59]? = some (9, 4, []) := rfl
theorem sh_60 : SH[60]? = some (9, 4, []) := rfl
theorem sh_61 : SH[61]? = some (9, 240, []) := rfl
theorem sh_62 : SH[62]? = some (9, 60, []) := rfl
theorem sh_63 : SH[63]? = some (9, 120, []) := rfl
theorem sh_64 : SH[64]? = some (9, 2, []) := rfl
theorem sh_65 : SH[65]? = some (9, 2, []) := rfl
theorem sh_66 : SH[66]? = some (9, 64, []) := rfl
theorem sh_67 : SH[67]? = some (9, 6, []) := rfl
theorem sh_68 : SH[68]? = some (9, 14, []) := rfl
theorem sh_69 : SH[69]? = some (9, 14, []) := rfl
theorem sh_70 : SH[70]? = some (9, 14, []) := rfl
theorem sh_71 : SH[71]? = some (9, 14, []) := rfl
theorem sh_72 : SH[72]? = some (9, 14, []) := rfl
theorem sh_73 : SH[73]? = some (9, 14, []) := rfl
theorem sh_74 : SH[74]? = some (9, 14, []) := rfl
theorem sh_75 : SH[75]? = some (9, 14, []) := rfl
theorem sh_76 : SH[76]? = some (9, 6, []) := rfl
theorem sh_77 : SH[77]? = some (9, 7, []) := rfl
theorem sh_78 : SH[78]? = some (9, 16, []) := rfl
theorem SH_lt {r : Nat} {c : Nat × Nat × List (Option Nat)} (h : SH[r]? = some c) : r < 1000 := Nat.lt_of_lt_of_le (List.getElem?_eq_some_iff.mp h).1 (by decide)
def isScr (T : Nat) : Prop := T = 2 ∨ T = 4
def scN (T : Nat) : Nat := if T = 2 then 59 else 19
def isTel (T : Nat) : Prop := T = 6 ∨ T = 22
def teN (T : Nat) : Nat := if T = 6 then 12 else 14
def isShe (T : Nat) : Prop := T = 50 ∨ T = 52 ∨ T = 54 ∨ T = 56
def isTur (t : Nat) : Prop := SH[t]? = some (6, 15, [none, none, none, none, none, none, none, none, none, none, none, none, none, none, none])
theorem scr_sh {T : Nat} (h : isScr T) : SH[T]? = some (2, 4, [some (T + 1), none, none, none]) := by rcases h with rfl | rfl <;> rfl
theorem scr_ar {T : Nat} (h : isScr T) : SH[T + 1]? = some (9, scN T, []) := by rcases h with rfl | rfl <;> rfl
theorem tel_sh {T : Nat} (h : isTel T) : SH[T]? = some (5, 4, [some (T + 1), some (T + 2), some (T + 3), none]) := by rcases h with rfl | rfl <;> rfl
theorem tel_ru {T : Nat} (h : isTel T) : SH[T + 1]? = some (9, 5, []) := by rcases h with rfl | rfl <;> rfl
theorem tel_st {T : Nat} (h : isTel T) : isTur (T + 2) := by rcases h with rfl | rfl <;> rfl
theorem tel_ar {T : Nat} (h : isTel T) : SH[T + 3]? = some (11, teN T, (List.range (teN T)).map (fun p => some (T + 4 + p))) := by rcases h with rfl | rfl <;> rfl
theorem tel_at {T p : Nat} (hp : p < teN T) : ((List.range (teN T)).map (fun p => some (T + 4 + p))).getD p none = some (T + 4 + p) := by simp [List.getD_eq_getElem?_getD, hp]
theorem tel_tu {T p : Nat} (h : isTel T) (hp : p < teN T) : isTur (T + 4 + p) := by
  rcases h with rfl | rfl
  · exact (show ∀ p, p < 12 → SH[6 + 4 + p]? = some (6, 15, [none, none, none, none, none, none, none, none, none, none, none, none, none, none, none]) by decide) p hp
  · exact (show ∀ p, p < 14 → SH[22 + 4 + p]? = some (6, 15, [none, none, none, none, none, none, none, none, none, none, none, none, none, none, none]) by decide) p hp
theorem she_sh {T : Nat} (h : isShe T) : SH[T]? = some (3, 4, [some (T + 1), none, none, none]) := by rcases h with rfl | rfl | rfl | rfl <;> rfl
theorem she_ar {T : Nat} (h : isShe T) : SH[T + 1]? = some (9, 60, []) := by rcases h with rfl | rfl | rfl | rfl <;> rfl
theorem she_at {p : Nat} (hp : p < 4) : ([some 50, some 52, some 54, some 56] : List (Option Nat)).getD p none = some (50 + 2 * p) := by
  rcases (show p = 0 ∨ p = 1 ∨ p = 2 ∨ p = 3 by omega) with rfl | rfl | rfl | rfl <;> rfl
theorem she_is {p : Nat} (hp : p < 4) : isShe (50 + 2 * p) := by
  rcases (show p = 0 ∨ p = 1 ∨ p = 2 ∨ p = 3 by omega) with rfl | rfl | rfl | rfl <;> simp [isShe]
abbrev nn (i : Int32) : Nat := i.toNatClampNeg
theorem vp_lt {i : Int32} {n : Nat} (h : vp_in i n) : i.toNatClampNeg < n := Nat.not_le.mp fun q => h (Or.inr q)
def bI (b : Bool) : Int32 := if b then 1 else 0
def pI (Q : HP → Int32 → Prop) : Sh → HP → Option Value → Prop := fun sh I v => sh = SH ∧ ∃ r, v = some (.int r) ∧ Q I r
def pZ (Q : HP → Bool → Prop) : Sh → HP → Option Value → Prop := fun sh I v => sh = SH ∧ ∃ r, v = some (.int (bI r)) ∧ Q I r
def pJ (Q : HP → Int64 → Prop) : Sh → HP → Option Value → Prop := fun sh I v => sh = SH ∧ ∃ r, v = some (.long r) ∧ Q I r
def pA (Q : HP → Nat → Prop) : Sh → HP → Option Value → Prop := fun sh I v => sh = SH ∧ ∃ r, v = some (.ref r) ∧ Q I r
def pV (Q : HP → Prop) : Sh → HP → Option Value → Prop := fun sh I v => sh = SH ∧ v = none ∧ Q I
def RI (G : CX) (Y : YY) (As : List Value) (I : HP) (Q : HP → Int32 → Prop) : Prop := Ret G Y As SH I (pI Q)
def RZ (G : CX) (Y : YY) (As : List Value) (I : HP) (Q : HP → Bool → Prop) : Prop := Ret G Y As SH I (pZ Q)
def RJ (G : CX) (Y : YY) (As : List Value) (I : HP) (Q : HP → Int64 → Prop) : Prop := Ret G Y As SH I (pJ Q)
def RA (G : CX) (Y : YY) (As : List Value) (I : HP) (Q : HP → Nat → Prop) : Prop := Ret G Y As SH I (pA Q)
def RV (G : CX) (Y : YY) (As : List Value) (I : HP) (Q : HP → Prop) : Prop := Ret G Y As SH I (pV Q)
def GI (G : CX) (Y : YY) (pc : Nat) (L : List (Nat × Value)) (I : HP) (Q : HP → Int32 → Prop) : Prop := Go G Y pc L [] SH I 0 0 (pI Q)
def GZ (G : CX) (Y : YY) (pc : Nat) (L : List (Nat × Value)) (I : HP) (Q : HP → Bool → Prop) : Prop := Go G Y pc L [] SH I 0 0 (pZ Q)
def GJ (G : CX) (Y : YY) (pc : Nat) (L : List (Nat × Value)) (I : HP) (Q : HP → Int64 → Prop) : Prop := Go G Y pc L [] SH I 0 0 (pJ Q)
def GA (G : CX) (Y : YY) (pc : Nat) (L : List (Nat × Value)) (I : HP) (Q : HP → Nat → Prop) : Prop := Go G Y pc L [] SH I 0 0 (pA Q)
def GV (G : CX) (Y : YY) (pc : Nat) (L : List (Nat × Value)) (I : HP) (Q : HP → Prop) : Prop := Go G Y pc L [] SH I 0 0 (pV Q)
theorem go_loc {G : CX} {Y : YY} {pc : Nat} {L : List (Nat × Value)} {S : List Value} {sh : Sh} {I : HP} {k n : Nat} {Q : Sh → HP → Option Value → Prop} (L2 : List (Nat × Value)) (ks : List Nat) (hl2 : lv_pick L ks = L2) (kk : Go G Y pc L2 S sh I k n Q) : Go G Y pc L S sh I k n Q := by
  intro p l e R s m args below meth c H locs ls C hP hz hS hl
  refine kk p l e R s m args below meth c H locs ls C hP hz hS (lv_sub hl ks ?_)
  subst hl2
  simp only [lv_pick, lM, List.getElem?_map, List.map_filterMap]
theorem bI_nar (b : Bool) : narrow .boolean (.int (bI b)) = .int (bI b) := by cases b <;> rfl
theorem sw_out {x : Int32} {n : Nat} (hn : n ≤ 1000) (h : ∀ j, j < n → x ≠ nI j) : x.toInt < 0 ∨ ((n : Int) - 1) < x.toInt := by
  by_cases h0 : x.toInt < 0
  · exact Or.inl h0
  · refine Or.inr ?_
    by_cases h1 : ((n : Int) - 1) < x.toInt
    · exact h1
    · exfalso
      refine h x.toInt.toNat (by omega) (Int32.toInt_inj.mp ?_)
      rw [nI_toInt (by omega)]
      omega
theorem wG_at {w : Cond} (i : Nat) (h : lw_tbl[i]? = some w) (hg : goodWord w = true) : w ∈ wG := wG_in (List.mem_of_getElem? h) hg
set_option maxRecDepth 100000 in
theorem a_0 : Cond.selects "MayNotPause" (⟨"MayNotPause", "scriptOf", "(I)LMayNotPause$Script;"⟩ : MethodName) (⟨"MayNotPause", "scriptOf", "(I)LMayNotPause$Script;"⟩ : MethodName) ∈ wG := wG_at 0 rfl rfl
set_option maxRecDepth 100000 in
theorem a_1 : Cond.selects "MayNotPause$Script" (⟨"MayNotPause$Script", "settle", "()V"⟩ : MethodName) (⟨"MayNotPause$Script", "settle", "()V"⟩ : MethodName) ∈ wG := wG_at 1 rfl rfl
set_option maxRecDepth 100000 in
theorem a_2 : Cond.selects "MayNotPause$Script" (⟨"MayNotPause$Script", "firstFlaw", "()I"⟩ : MethodName) (⟨"MayNotPause$Script", "firstFlaw", "()I"⟩ : MethodName) ∈ wG := wG_at 2 rfl rfl
set_option maxRecDepth 100000 in
theorem a_3 : Cond.selects "MayNotPause" (⟨"MayNotPause", "tellAnew", "()V"⟩ : MethodName) (⟨"MayNotPause", "tellAnew", "()V"⟩ : MethodName) ∈ wG := wG_at 3 rfl rfl
set_option maxRecDepth 100000 in
theorem a_4 : Cond.selects "MayNotPause$Turn" (⟨"MayNotPause$Turn", "comeToNothing", "()V"⟩ : MethodName) (⟨"MayNotPause$Turn", "comeToNothing", "()V"⟩ : MethodName) ∈ wG := wG_at 4 rfl rfl
set_option maxRecDepth 100000 in
theorem a_5 : Cond.selects "MayNotPause$Telling" (⟨"MayNotPause$Telling", "howManyOf", "(I)I"⟩ : MethodName) (⟨"MayNotPause$Telling", "howManyOf", "(I)I"⟩ : MethodName) ∈ wG := wG_at 5 rfl rfl
set_option maxRecDepth 100000 in
theorem a_6 : Cond.selects "MayNotPause" (⟨"MayNotPause", "isVerse", "(I)Z"⟩ : MethodName) (⟨"MayNotPause", "isVerse", "(I)Z"⟩ : MethodName) ∈ wG := wG_at 6 rfl rfl
set_option maxRecDepth 100000 in
theorem a_7 : Cond.selects "MayNotPause$PutSearch" (⟨"MayNotPause$PutSearch", "attempt", "(IIIII)V"⟩ : MethodName) (⟨"MayNotPause$PutSearch", "attempt", "(IIIII)V"⟩ : MethodName) ∈ wG := wG_at 7 rfl rfl
set_option maxRecDepth 100000 in
theorem a_8 : Cond.selects "MayNotPause$PutSearch" (⟨"MayNotPause$PutSearch", "seekOne", "()V"⟩ : MethodName) (⟨"MayNotPause$PutSearch", "seekOne", "()V"⟩ : MethodName) ∈ wG := wG_at 8 rfl rfl
set_option maxRecDepth 100000 in
theorem a_9 : Cond.selects "MayNotPause$PutSearch" (⟨"MayNotPause$PutSearch", "seekTwo", "()V"⟩ : MethodName) (⟨"MayNotPause$PutSearch", "seekTwo", "()V"⟩ : MethodName) ∈ wG := wG_at 9 rfl rfl
set_option maxRecDepth 100000 in
theorem a_10 : Cond.selects "MayNotPause$OrderSearch" (⟨"MayNotPause$OrderSearch", "keep", "()V"⟩ : MethodName) (⟨"MayNotPause$OrderSearch", "keep", "()V"⟩ : MethodName) ∈ wG := wG_at 10 rfl rfl
set_option maxRecDepth 100000 in
theorem a_11 : Cond.selects "MayNotPause$OrderSearch" (⟨"MayNotPause$OrderSearch", "mayBeBest", "()Z"⟩ : MethodName) (⟨"MayNotPause$OrderSearch", "mayBeBest", "()Z"⟩ : MethodName) ∈ wG := wG_at 11 rfl rfl
set_option maxRecDepth 100000 in
theorem a_12 : Cond.selects "MayNotPause" (⟨"MayNotPause", "sixteenths", "(I)I"⟩ : MethodName) (⟨"MayNotPause", "sixteenths", "(I)I"⟩ : MethodName) ∈ wG := wG_at 12 rfl rfl
set_option maxRecDepth 100000 in
theorem a_13 : Cond.selects "MayNotPause" (⟨"MayNotPause", "errorsBy", "(II)I"⟩ : MethodName) (⟨"MayNotPause", "errorsBy", "(II)I"⟩ : MethodName) ∈ wG := wG_at 13 rfl rfl
set_option maxRecDepth 100000 in
theorem a_14 : Cond.selects "MayNotPause" (⟨"MayNotPause", "bestLine", "()I"⟩ : MethodName) (⟨"MayNotPause", "bestLine", "()I"⟩ : MethodName) ∈ wG := wG_at 14 rfl rfl
set_option maxRecDepth 100000 in
theorem a_15 : Cond.selects "MayNotPause" (⟨"MayNotPause", "found", "(I)I"⟩ : MethodName) (⟨"MayNotPause", "found", "(I)I"⟩ : MethodName) ∈ wG := wG_at 15 rfl rfl
set_option maxRecDepth 100000 in
theorem a_16 : Cond.selects "MayNotPause" (⟨"MayNotPause", "digestOfVerse", "(JI)J"⟩ : MethodName) (⟨"MayNotPause", "digestOfVerse", "(JI)J"⟩ : MethodName) ∈ wG := wG_at 16 rfl rfl
set_option maxRecDepth 100000 in
theorem a_17 : Cond.selects "MayNotPause" (⟨"MayNotPause", "digestOfBreaths", "(J)J"⟩ : MethodName) (⟨"MayNotPause", "digestOfBreaths", "(J)J"⟩ : MethodName) ∈ wG := wG_at 17 rfl rfl
set_option maxRecDepth 100000 in
theorem a_18 : Cond.selects "MayNotPauseModel" (⟨"MayNotPauseModel", "met", "(I)I"⟩ : MethodName) (⟨"MayNotPauseModel", "met", "(I)I"⟩ : MethodName) ∈ wG := wG_at 18 rfl rfl
set_option maxRecDepth 100000 in
theorem a_19 : Cond.selects "MayNotPauseModel" (⟨"MayNotPauseModel", "lacks", "(III)I"⟩ : MethodName) (⟨"MayNotPauseModel", "lacks", "(III)I"⟩ : MethodName) ∈ wG := wG_at 19 rfl rfl
set_option maxRecDepth 100000 in
theorem a_20 : Cond.selects "MayNotPauseModel" (⟨"MayNotPauseModel", "readsText", "(I)I"⟩ : MethodName) (⟨"MayNotPauseModel", "readsText", "(I)I"⟩ : MethodName) ∈ wG := wG_at 20 rfl rfl
set_option maxRecDepth 100000 in
theorem a_21 : Cond.selects "MayNotPauseModel" (⟨"MayNotPauseModel", "readsVerse", "(I)Z"⟩ : MethodName) (⟨"MayNotPauseModel", "readsVerse", "(I)Z"⟩ : MethodName) ∈ wG := wG_at 21 rfl rfl
set_option maxRecDepth 100000 in
theorem a_22 : Cond.selects "MayNotPauseModel" (⟨"MayNotPauseModel", "here", "(I)I"⟩ : MethodName) (⟨"MayNotPauseModel", "here", "(I)I"⟩ : MethodName) ∈ wG := wG_at 22 rfl rfl
set_option maxRecDepth 100000 in
theorem a_23 : Cond.selects "MayNotPauseModel" (⟨"MayNotPauseModel", "find", "()V"⟩ : MethodName) (⟨"MayNotPauseModel", "find", "()V"⟩ : MethodName) ∈ wG := wG_at 23 rfl rfl
set_option maxRecDepth 100000 in
theorem a_24 : Cond.selects "MayNotPauseModel" (⟨"MayNotPauseModel", "plain", "()V"⟩ : MethodName) (⟨"MayNotPauseModel", "plain", "()V"⟩ : MethodName) ∈ wG := wG_at 24 rfl rfl
set_option maxRecDepth 100000 in
theorem a_25 : Cond.selects "MayNotPauseModel" (⟨"MayNotPauseModel", "says", "(III)V"⟩ : MethodName) (⟨"MayNotPauseModel", "says", "(III)V"⟩ : MethodName) ∈ wG := wG_at 25 rfl rfl
set_option maxRecDepth 100000 in
theorem a_26 : Cond.selects "MayNotPauseModel" (⟨"MayNotPauseModel", "counts", "()V"⟩ : MethodName) (⟨"MayNotPauseModel", "counts", "()V"⟩ : MethodName) ∈ wG := wG_at 26 rfl rfl
set_option maxRecDepth 100000 in
theorem a_27 : Cond.selects "MayNotPauseModel" (⟨"MayNotPauseModel", "kindAt", "(I)I"⟩ : MethodName) (⟨"MayNotPauseModel", "kindAt", "(I)I"⟩ : MethodName) ∈ wG := wG_at 27 rfl rfl
set_option maxRecDepth 100000 in
theorem a_28 : Cond.selects "MayNotPauseModel" (⟨"MayNotPauseModel", "sayAt", "(I)I"⟩ : MethodName) (⟨"MayNotPauseModel", "sayAt", "(I)I"⟩ : MethodName) ∈ wG := wG_at 28 rfl rfl
set_option maxRecDepth 100000 in
theorem a_29 : Cond.selects "MayNotPauseModel" (⟨"MayNotPauseModel", "isVerse", "(I)Z"⟩ : MethodName) (⟨"MayNotPauseModel", "isVerse", "(I)Z"⟩ : MethodName) ∈ wG := wG_at 29 rfl rfl
set_option maxRecDepth 100000 in
theorem a_30 : Cond.selects "MayNotPauseModel" (⟨"MayNotPauseModel", "verseOf", "(II)I"⟩ : MethodName) (⟨"MayNotPauseModel", "verseOf", "(II)I"⟩ : MethodName) ∈ wG := wG_at 30 rfl rfl
set_option maxRecDepth 100000 in
theorem a_31 : Cond.selects "MayNotPauseModel" (⟨"MayNotPauseModel", "whenOf", "(II)I"⟩ : MethodName) (⟨"MayNotPauseModel", "whenOf", "(II)I"⟩ : MethodName) ∈ wG := wG_at 31 rfl rfl
set_option maxRecDepth 100000 in
theorem a_32 : Cond.selects "MayNotPauseModel" (⟨"MayNotPauseModel", "poemOf", "(I)I"⟩ : MethodName) (⟨"MayNotPauseModel", "poemOf", "(I)I"⟩ : MethodName) ∈ wG := wG_at 32 rfl rfl
set_option maxRecDepth 100000 in
theorem a_33 : Cond.selects "MayNotPauseModel" (⟨"MayNotPauseModel", "judgedNow", "()I"⟩ : MethodName) (⟨"MayNotPauseModel", "judgedNow", "()I"⟩ : MethodName) ∈ wG := wG_at 33 rfl rfl
set_option maxRecDepth 100000 in
theorem a_34 : Cond.selects "MayNotPauseModel" (⟨"MayNotPauseModel", "restOf", "(I)I"⟩ : MethodName) (⟨"MayNotPauseModel", "restOf", "(I)I"⟩ : MethodName) ∈ wG := wG_at 34 rfl rfl
set_option maxRecDepth 100000 in
theorem a_35 : Cond.selects "MayNotPauseModel" (⟨"MayNotPauseModel", "freeAhead", "(II)I"⟩ : MethodName) (⟨"MayNotPauseModel", "freeAhead", "(II)I"⟩ : MethodName) ∈ wG := wG_at 35 rfl rfl
set_option maxRecDepth 100000 in
theorem a_36 : Cond.selects "MayNotPauseModel" (⟨"MayNotPauseModel", "isFree", "(I)Z"⟩ : MethodName) (⟨"MayNotPauseModel", "isFree", "(I)Z"⟩ : MethodName) ∈ wG := wG_at 36 rfl rfl
set_option maxRecDepth 100000 in
theorem a_37 : Cond.selects "MayNotPauseModel" (⟨"MayNotPauseModel", "doingOf", "(II)I"⟩ : MethodName) (⟨"MayNotPauseModel", "doingOf", "(II)I"⟩ : MethodName) ∈ wG := wG_at 37 rfl rfl
set_option maxRecDepth 100000 in
theorem a_38 : Cond.selects "MayNotPauseModel" (⟨"MayNotPauseModel", "saysIn", "(I)I"⟩ : MethodName) (⟨"MayNotPauseModel", "saysIn", "(I)I"⟩ : MethodName) ∈ wG := wG_at 38 rfl rfl
set_option maxRecDepth 100000 in
theorem a_39 : Cond.selects "MayNotPauseModel" (⟨"MayNotPauseModel", "makesIn", "(II)I"⟩ : MethodName) (⟨"MayNotPauseModel", "makesIn", "(II)I"⟩ : MethodName) ∈ wG := wG_at 39 rfl rfl
set_option maxRecDepth 100000 in
theorem a_40 : Cond.selects "MayNotPauseModel" (⟨"MayNotPauseModel", "hasIn", "(I)I"⟩ : MethodName) (⟨"MayNotPauseModel", "hasIn", "(I)I"⟩ : MethodName) ∈ wG := wG_at 40 rfl rfl
set_option maxRecDepth 100000 in
theorem a_41 : Cond.selects "MayNotPauseModel" (⟨"MayNotPauseModel", "findPut", "()V"⟩ : MethodName) (⟨"MayNotPauseModel", "findPut", "()V"⟩ : MethodName) ∈ wG := wG_at 41 rfl rfl
set_option maxRecDepth 100000 in
theorem a_42 : Cond.selects "MayNotPauseModel" (⟨"MayNotPauseModel", "looks", "(IIIII)V"⟩ : MethodName) (⟨"MayNotPauseModel", "looks", "(IIIII)V"⟩ : MethodName) ∈ wG := wG_at 42 rfl rfl
set_option maxRecDepth 100000 in
theorem a_43 : Cond.selects "MayNotPauseModel" (⟨"MayNotPauseModel", "lays", "(IIII)V"⟩ : MethodName) (⟨"MayNotPauseModel", "lays", "(IIII)V"⟩ : MethodName) ∈ wG := wG_at 43 rfl rfl
set_option maxRecDepth 100000 in
theorem a_44 : Cond.selects "MayNotPauseModel" (⟨"MayNotPauseModel", "findOrder", "()V"⟩ : MethodName) (⟨"MayNotPauseModel", "findOrder", "()V"⟩ : MethodName) ∈ wG := wG_at 44 rfl rfl
set_option maxRecDepth 100000 in
theorem a_45 : Cond.selects "MayNotPauseModel" (⟨"MayNotPauseModel", "unfolds", "(II)V"⟩ : MethodName) (⟨"MayNotPauseModel", "unfolds", "(II)V"⟩ : MethodName) ∈ wG := wG_at 45 rfl rfl
set_option maxRecDepth 100000 in
theorem a_46 : Cond.selects "MayNotPauseModel" (⟨"MayNotPauseModel", "tellsOrder", "(I)I"⟩ : MethodName) (⟨"MayNotPauseModel", "tellsOrder", "(I)I"⟩ : MethodName) ∈ wG := wG_at 46 rfl rfl
set_option maxRecDepth 100000 in
theorem a_47 : Cond.selects "MayNotPauseModel" (⟨"MayNotPauseModel", "leadNow", "()I"⟩ : MethodName) (⟨"MayNotPauseModel", "leadNow", "()I"⟩ : MethodName) ∈ wG := wG_at 47 rfl rfl
set_option maxRecDepth 100000 in
theorem a_48 : Cond.selects "MayNotPauseModel" (⟨"MayNotPauseModel", "oddsOf", "(I)J"⟩ : MethodName) (⟨"MayNotPauseModel", "oddsOf", "(I)J"⟩ : MethodName) ∈ wG := wG_at 48 rfl rfl
set_option maxRecDepth 100000 in
theorem a_49 : Cond.selects "MayNotPauseModel" (⟨"MayNotPauseModel", "drawnOf", "(I)I"⟩ : MethodName) (⟨"MayNotPauseModel", "drawnOf", "(I)I"⟩ : MethodName) ∈ wG := wG_at 49 rfl rfl
set_option maxRecDepth 100000 in
theorem a_50 : Cond.selects "MayNotPauseModel" (⟨"MayNotPauseModel", "lineOf", "(II)I"⟩ : MethodName) (⟨"MayNotPauseModel", "lineOf", "(II)I"⟩ : MethodName) ∈ wG := wG_at 50 rfl rfl
set_option maxRecDepth 100000 in
theorem a_51 : Cond.selects "MayNotPauseModel" (⟨"MayNotPauseModel", "errors", "(II)I"⟩ : MethodName) (⟨"MayNotPauseModel", "errors", "(II)I"⟩ : MethodName) ∈ wG := wG_at 51 rfl rfl
set_option maxRecDepth 100000 in
theorem a_52 : Cond.selects "MayNotPauseModel" (⟨"MayNotPauseModel", "leadsNow", "()I"⟩ : MethodName) (⟨"MayNotPauseModel", "leadsNow", "()I"⟩ : MethodName) ∈ wG := wG_at 52 rfl rfl
set_option maxRecDepth 100000 in
theorem a_54 : Cond.initialized "MayNotPause" ∈ wG := wG_at 54 rfl rfl
set_option maxRecDepth 100000 in
theorem a_55 : Cond.initialized "MayNotPause$Script" ∈ wG := wG_at 55 rfl rfl
set_option maxRecDepth 100000 in
theorem a_56 : Cond.initialized "MayNotPause$Telling" ∈ wG := wG_at 56 rfl rfl
set_option maxRecDepth 100000 in
theorem a_57 : Cond.initialized "MayNotPause$Turn" ∈ wG := wG_at 57 rfl rfl
set_option maxRecDepth 100000 in
theorem a_58 : Cond.initialized "MayNotPause$PutSearch" ∈ wG := wG_at 58 rfl rfl
set_option maxRecDepth 100000 in
theorem a_59 : Cond.initialized "MayNotPause$OrderSearch" ∈ wG := wG_at 59 rfl rfl
set_option maxRecDepth 100000 in
theorem a_60 : Cond.initialized "MayNotPause$Sightings" ∈ wG := wG_at 60 rfl rfl
set_option maxRecDepth 100000 in
theorem a_61 : Cond.initialized "MayNotPause$Sheet" ∈ wG := wG_at 61 rfl rfl
set_option maxRecDepth 100000 in
theorem a_62 : Cond.initialized "MayNotPauseModel" ∈ wG := wG_at 62 rfl rfl
set_option maxRecDepth 100000 in
theorem a_65 : Cond.initialized "java/lang/Integer" ∈ wG := wG_at 65 rfl rfl
set_option maxRecDepth 100000 in
theorem a_68 : Cond.methodLink "MayNotPauseLaw" 9 (⟨"MayNotPause", "<init>", "()V"⟩ : MethodName) ∈ wG := wG_at 68 rfl rfl
set_option maxRecDepth 100000 in
theorem a_69 : Cond.instanceMethod (⟨"MayNotPause", "<init>", "()V"⟩ : MethodName) ∈ wG := wG_at 69 rfl rfl
set_option maxRecDepth 100000 in
theorem a_70 : Cond.code (⟨"MayNotPause", "<init>", "()V"⟩ : MethodName) cX7_init 2 none ∈ wG := wG_at 70 rfl rfl
set_option maxRecDepth 100000 in
theorem a_71 : Cond.methodLink "MayNotPause" 1 (⟨"java/lang/Object", "<init>", "()V"⟩ : MethodName) ∈ wG := wG_at 71 rfl rfl
set_option maxRecDepth 100000 in
theorem a_76 : Cond.methodLink "MayNotPause" 15 (⟨"MayNotPause$Script", "<init>", "(I)V"⟩ : MethodName) ∈ wG := wG_at 76 rfl rfl
set_option maxRecDepth 100000 in
theorem a_77 : Cond.instanceMethod (⟨"MayNotPause$Script", "<init>", "(I)V"⟩ : MethodName) ∈ wG := wG_at 77 rfl rfl
set_option maxRecDepth 100000 in
theorem a_78 : Cond.code (⟨"MayNotPause$Script", "<init>", "(I)V"⟩ : MethodName) cX2_init 2 none ∈ wG := wG_at 78 rfl rfl
set_option maxRecDepth 100000 in
theorem a_79 : Cond.methodLink "MayNotPause$Script" 3 (⟨"java/lang/Object", "<init>", "()V"⟩ : MethodName) ∈ wG := wG_at 79 rfl rfl
set_option maxRecDepth 100000 in
theorem a_80 : Cond.fieldLink "MayNotPause$Script" 15 "MayNotPause$Script" "bytes" "[I" ∈ wG := wG_at 80 rfl rfl
set_option maxRecDepth 100000 in
theorem a_81 : Cond.fieldLink "MayNotPause$Script" 19 "MayNotPause$Script" "length" "I" ∈ wG := wG_at 81 rfl rfl
set_option maxRecDepth 100000 in
theorem a_82 : Cond.fieldLink "MayNotPause" 85 "MayNotPause$Script" "length" "I" ∈ wG := wG_at 82 rfl rfl
set_option maxRecDepth 100000 in
theorem a_83 : Cond.fieldLink "MayNotPause$Script" 9 "MayNotPause$Script" "flaw" "I" ∈ wG := wG_at 83 rfl rfl
set_option maxRecDepth 100000 in
theorem a_84 : Cond.fieldLink "MayNotPause" 98 "MayNotPause$Script" "flaw" "I" ∈ wG := wG_at 84 rfl rfl
set_option maxRecDepth 100000 in
theorem a_85 : Cond.fieldLink "MayNotPause$OrderSearch" 33 "MayNotPause$Script" "size" "I" ∈ wG := wG_at 85 rfl rfl
set_option maxRecDepth 100000 in
theorem a_86 : Cond.fieldLink "MayNotPause$PutSearch" 39 "MayNotPause$Script" "size" "I" ∈ wG := wG_at 86 rfl rfl
set_option maxRecDepth 100000 in
theorem a_87 : Cond.fieldLink "MayNotPause" 92 "MayNotPause$Script" "size" "I" ∈ wG := wG_at 87 rfl rfl
set_option maxRecDepth 100000 in
theorem a_88 : Cond.fieldLink "MayNotPause$Script" 29 "MayNotPause$Script" "size" "I" ∈ wG := wG_at 88 rfl rfl
set_option maxRecDepth 100000 in
theorem a_89 : Cond.fieldLink "MayNotPause$Telling" 34 "MayNotPause$Script" "size" "I" ∈ wG := wG_at 89 rfl rfl
set_option maxRecDepth 100000 in
theorem a_102 : Cond.methodLink "MayNotPause" 27 (⟨"MayNotPause$Telling", "<init>", "(I)V"⟩ : MethodName) ∈ wG := wG_at 102 rfl rfl
set_option maxRecDepth 100000 in
theorem a_103 : Cond.instanceMethod (⟨"MayNotPause$Telling", "<init>", "(I)V"⟩ : MethodName) ∈ wG := wG_at 103 rfl rfl
set_option maxRecDepth 100000 in
theorem a_104 : Cond.code (⟨"MayNotPause$Telling", "<init>", "(I)V"⟩ : MethodName) cX5_init 3 none ∈ wG := wG_at 104 rfl rfl
set_option maxRecDepth 100000 in
theorem a_105 : Cond.methodLink "MayNotPause$Telling" 3 (⟨"java/lang/Object", "<init>", "()V"⟩ : MethodName) ∈ wG := wG_at 105 rfl rfl
set_option maxRecDepth 100000 in
theorem a_109 : Cond.instanceMethod (⟨"MayNotPause$Turn", "<init>", "()V"⟩ : MethodName) ∈ wG := wG_at 109 rfl rfl
set_option maxRecDepth 100000 in
theorem a_110 : Cond.code (⟨"MayNotPause$Turn", "<init>", "()V"⟩ : MethodName) cX6_init 1 none ∈ wG := wG_at 110 rfl rfl
set_option maxRecDepth 100000 in
theorem a_111 : Cond.methodLink "MayNotPause$Turn" 3 (⟨"java/lang/Object", "<init>", "()V"⟩ : MethodName) ∈ wG := wG_at 111 rfl rfl
set_option maxRecDepth 100000 in
theorem a_112 : Cond.fieldLink "MayNotPause$Turn" 60 "MayNotPause$Turn" "kind" "I" ∈ wG := wG_at 112 rfl rfl
set_option maxRecDepth 100000 in
theorem a_113 : Cond.fieldLink "MayNotPause$Telling" 45 "MayNotPause$Turn" "kind" "I" ∈ wG := wG_at 113 rfl rfl
set_option maxRecDepth 100000 in
theorem a_114 : Cond.fieldLink "MayNotPause" 118 "MayNotPause$Turn" "kind" "I" ∈ wG := wG_at 114 rfl rfl
set_option maxRecDepth 100000 in
theorem a_115 : Cond.fieldLink "MayNotPause$Turn" 24 "MayNotPause$Turn" "make" "I" ∈ wG := wG_at 115 rfl rfl
set_option maxRecDepth 100000 in
theorem a_116 : Cond.fieldLink "MayNotPause$Telling" 58 "MayNotPause$Turn" "make" "I" ∈ wG := wG_at 116 rfl rfl
set_option maxRecDepth 100000 in
theorem a_117 : Cond.fieldLink "MayNotPause" 123 "MayNotPause$Turn" "make" "I" ∈ wG := wG_at 117 rfl rfl
set_option maxRecDepth 100000 in
theorem a_118 : Cond.fieldLink "MayNotPause$Turn" 57 "MayNotPause$Turn" "say" "I" ∈ wG := wG_at 118 rfl rfl
set_option maxRecDepth 100000 in
theorem a_119 : Cond.fieldLink "MayNotPause$Telling" 52 "MayNotPause$Turn" "say" "I" ∈ wG := wG_at 119 rfl rfl
set_option maxRecDepth 100000 in
theorem a_120 : Cond.fieldLink "MayNotPause$Turn" 63 "MayNotPause$Turn" "knot" "I" ∈ wG := wG_at 120 rfl rfl
set_option maxRecDepth 100000 in
theorem a_121 : Cond.fieldLink "MayNotPause$Telling" 66 "MayNotPause$Turn" "knot" "I" ∈ wG := wG_at 121 rfl rfl
set_option maxRecDepth 100000 in
theorem a_122 : Cond.fieldLink "MayNotPause" 126 "MayNotPause$Turn" "knot" "I" ∈ wG := wG_at 122 rfl rfl
set_option maxRecDepth 100000 in
theorem a_123 : Cond.fieldLink "MayNotPause$Turn" 36 "MayNotPause$Turn" "begins" "I" ∈ wG := wG_at 123 rfl rfl
set_option maxRecDepth 100000 in
theorem a_124 : Cond.fieldLink "MayNotPause" 129 "MayNotPause$Turn" "begins" "I" ∈ wG := wG_at 124 rfl rfl
set_option maxRecDepth 100000 in
theorem a_125 : Cond.fieldLink "MayNotPause$Telling" 108 "MayNotPause$Turn" "begins" "I" ∈ wG := wG_at 125 rfl rfl
set_option maxRecDepth 100000 in
theorem a_126 : Cond.fieldLink "MayNotPause$Turn" 39 "MayNotPause$Turn" "said" "I" ∈ wG := wG_at 126 rfl rfl
set_option maxRecDepth 100000 in
theorem a_127 : Cond.fieldLink "MayNotPause" 132 "MayNotPause$Turn" "said" "I" ∈ wG := wG_at 127 rfl rfl
set_option maxRecDepth 100000 in
theorem a_128 : Cond.fieldLink "MayNotPause$Telling" 111 "MayNotPause$Turn" "said" "I" ∈ wG := wG_at 128 rfl rfl
set_option maxRecDepth 100000 in
theorem a_129 : Cond.fieldLink "MayNotPause$Turn" 42 "MayNotPause$Turn" "understood" "I" ∈ wG := wG_at 129 rfl rfl
set_option maxRecDepth 100000 in
theorem a_130 : Cond.fieldLink "MayNotPause" 135 "MayNotPause$Turn" "understood" "I" ∈ wG := wG_at 130 rfl rfl
set_option maxRecDepth 100000 in
theorem a_131 : Cond.fieldLink "MayNotPause$Telling" 114 "MayNotPause$Turn" "understood" "I" ∈ wG := wG_at 131 rfl rfl
set_option maxRecDepth 100000 in
theorem a_132 : Cond.fieldLink "MayNotPause$Turn" 14 "MayNotPause$Turn" "written" "I" ∈ wG := wG_at 132 rfl rfl
set_option maxRecDepth 100000 in
theorem a_133 : Cond.fieldLink "MayNotPause$OrderSearch" 89 "MayNotPause$Turn" "written" "I" ∈ wG := wG_at 133 rfl rfl
set_option maxRecDepth 100000 in
theorem a_134 : Cond.fieldLink "MayNotPause$PutSearch" 63 "MayNotPause$Turn" "written" "I" ∈ wG := wG_at 134 rfl rfl
set_option maxRecDepth 100000 in
theorem a_135 : Cond.fieldLink "MayNotPause$Telling" 83 "MayNotPause$Turn" "written" "I" ∈ wG := wG_at 135 rfl rfl
set_option maxRecDepth 100000 in
theorem a_136 : Cond.fieldLink "MayNotPause" 138 "MayNotPause$Turn" "written" "I" ∈ wG := wG_at 136 rfl rfl
set_option maxRecDepth 100000 in
theorem a_137 : Cond.fieldLink "MayNotPause$Turn" 45 "MayNotPause$Turn" "pause" "I" ∈ wG := wG_at 137 rfl rfl
set_option maxRecDepth 100000 in
theorem a_138 : Cond.fieldLink "MayNotPause" 141 "MayNotPause$Turn" "pause" "I" ∈ wG := wG_at 138 rfl rfl
set_option maxRecDepth 100000 in
theorem a_139 : Cond.fieldLink "MayNotPause$Turn" 21 "MayNotPause$Turn" "needed" "I" ∈ wG := wG_at 139 rfl rfl
set_option maxRecDepth 100000 in
theorem a_140 : Cond.fieldLink "MayNotPause$Telling" 77 "MayNotPause$Turn" "needed" "I" ∈ wG := wG_at 140 rfl rfl
set_option maxRecDepth 100000 in
theorem a_141 : Cond.fieldLink "MayNotPause" 289 "MayNotPause$Turn" "needed" "I" ∈ wG := wG_at 141 rfl rfl
set_option maxRecDepth 100000 in
theorem a_142 : Cond.fieldLink "MayNotPause$Turn" 27 "MayNotPause$Turn" "allPauses" "I" ∈ wG := wG_at 142 rfl rfl
set_option maxRecDepth 100000 in
theorem a_143 : Cond.fieldLink "MayNotPause$OrderSearch" 84 "MayNotPause$Turn" "allPauses" "I" ∈ wG := wG_at 143 rfl rfl
set_option maxRecDepth 100000 in
theorem a_144 : Cond.fieldLink "MayNotPause" 155 "MayNotPause$Turn" "allPauses" "I" ∈ wG := wG_at 144 rfl rfl
set_option maxRecDepth 100000 in
theorem a_145 : Cond.fieldLink "MayNotPause$Telling" 97 "MayNotPause$Turn" "allPauses" "I" ∈ wG := wG_at 145 rfl rfl
set_option maxRecDepth 100000 in
theorem a_146 : Cond.fieldLink "MayNotPause$Turn" 30 "MayNotPause$Turn" "penUsed" "I" ∈ wG := wG_at 146 rfl rfl
set_option maxRecDepth 100000 in
theorem a_147 : Cond.fieldLink "MayNotPause$Turn" 33 "MayNotPause$Turn" "pensTaken" "I" ∈ wG := wG_at 147 rfl rfl
set_option maxRecDepth 100000 in
theorem a_148 : Cond.fieldLink "MayNotPause" 158 "MayNotPause$Turn" "pensTaken" "I" ∈ wG := wG_at 148 rfl rfl
set_option maxRecDepth 100000 in
theorem a_149 : Cond.fieldLink "MayNotPause$Turn" 18 "MayNotPause$Turn" "could" "I" ∈ wG := wG_at 149 rfl rfl
set_option maxRecDepth 100000 in
theorem a_150 : Cond.fieldLink "MayNotPause$Telling" 80 "MayNotPause$Turn" "could" "I" ∈ wG := wG_at 150 rfl rfl
set_option maxRecDepth 100000 in
theorem a_151 : Cond.fieldLink "MayNotPause$Turn" 54 "MayNotPause$Turn" "spare" "I" ∈ wG := wG_at 151 rfl rfl
set_option maxRecDepth 100000 in
theorem a_152 : Cond.fieldLink "MayNotPause" 161 "MayNotPause$Turn" "spare" "I" ∈ wG := wG_at 152 rfl rfl
set_option maxRecDepth 100000 in
theorem a_185 : Cond.fieldLink "MayNotPause$Telling" 9 "MayNotPause$Telling" "rules" "[I" ∈ wG := wG_at 185 rfl rfl
set_option maxRecDepth 100000 in
theorem a_186 : Cond.fieldLink "MayNotPause$Telling" 18 "MayNotPause$Telling" "start" "LMayNotPause$Turn;" ∈ wG := wG_at 186 rfl rfl
set_option maxRecDepth 100000 in
theorem a_187 : Cond.fieldLink "MayNotPause$Telling" 22 "MayNotPause$Telling" "turns" "[LMayNotPause$Turn;" ∈ wG := wG_at 187 rfl rfl
set_option maxRecDepth 100000 in
theorem a_188 : Cond.fieldLink "MayNotPause$Telling" 26 "MayNotPause$Telling" "size" "I" ∈ wG := wG_at 188 rfl rfl
set_option maxRecDepth 100000 in
theorem a_200 : Cond.methodLink "MayNotPause" 37 (⟨"MayNotPause$PutSearch", "<init>", "(LMayNotPause$Telling;LMayNotPause$Script;LMayNotPause$Script;[I)V"⟩ : MethodName) ∈ wG := wG_at 200 rfl rfl
set_option maxRecDepth 100000 in
theorem a_201 : Cond.instanceMethod (⟨"MayNotPause$PutSearch", "<init>", "(LMayNotPause$Telling;LMayNotPause$Script;LMayNotPause$Script;[I)V"⟩ : MethodName) ∈ wG := wG_at 201 rfl rfl
set_option maxRecDepth 100000 in
theorem a_202 : Cond.code (⟨"MayNotPause$PutSearch", "<init>", "(LMayNotPause$Telling;LMayNotPause$Script;LMayNotPause$Script;[I)V"⟩ : MethodName) cX1_init 5 none ∈ wG := wG_at 202 rfl rfl
set_option maxRecDepth 100000 in
theorem a_203 : Cond.methodLink "MayNotPause$PutSearch" 3 (⟨"java/lang/Object", "<init>", "()V"⟩ : MethodName) ∈ wG := wG_at 203 rfl rfl
set_option maxRecDepth 100000 in
theorem a_204 : Cond.fieldLink "MayNotPause$PutSearch" 15 "MayNotPause$PutSearch" "trial" "LMayNotPause$Telling;" ∈ wG := wG_at 204 rfl rfl
set_option maxRecDepth 100000 in
theorem a_205 : Cond.fieldLink "MayNotPause$PutSearch" 19 "MayNotPause$PutSearch" "verses" "LMayNotPause$Script;" ∈ wG := wG_at 205 rfl rfl
set_option maxRecDepth 100000 in
theorem a_206 : Cond.fieldLink "MayNotPause$PutSearch" 23 "MayNotPause$PutSearch" "hards" "LMayNotPause$Script;" ∈ wG := wG_at 206 rfl rfl
set_option maxRecDepth 100000 in
theorem a_207 : Cond.fieldLink "MayNotPause$PutSearch" 26 "MayNotPause$PutSearch" "settings" "[I" ∈ wG := wG_at 207 rfl rfl
set_option maxRecDepth 100000 in
theorem a_208 : Cond.fieldLink "MayNotPause$PutSearch" 11 "MayNotPause$PutSearch" "best" "[I" ∈ wG := wG_at 208 rfl rfl
set_option maxRecDepth 100000 in
theorem a_209 : Cond.fieldLink "MayNotPause" 181 "MayNotPause$PutSearch" "best" "[I" ∈ wG := wG_at 209 rfl rfl
set_option maxRecDepth 100000 in
theorem a_223 : Cond.methodLink "MayNotPause" 46 (⟨"MayNotPause$OrderSearch", "<init>", "(LMayNotPause$Telling;LMayNotPause$Script;[I)V"⟩ : MethodName) ∈ wG := wG_at 223 rfl rfl
set_option maxRecDepth 100000 in
theorem a_224 : Cond.instanceMethod (⟨"MayNotPause$OrderSearch", "<init>", "(LMayNotPause$Telling;LMayNotPause$Script;[I)V"⟩ : MethodName) ∈ wG := wG_at 224 rfl rfl
set_option maxRecDepth 100000 in
theorem a_225 : Cond.code (⟨"MayNotPause$OrderSearch", "<init>", "(LMayNotPause$Telling;LMayNotPause$Script;[I)V"⟩ : MethodName) cX0_init 4 none ∈ wG := wG_at 225 rfl rfl
set_option maxRecDepth 100000 in
theorem a_226 : Cond.methodLink "MayNotPause$OrderSearch" 3 (⟨"java/lang/Object", "<init>", "()V"⟩ : MethodName) ∈ wG := wG_at 226 rfl rfl
set_option maxRecDepth 100000 in
theorem a_227 : Cond.fieldLink "MayNotPause$OrderSearch" 22 "MayNotPause$OrderSearch" "trial" "LMayNotPause$Telling;" ∈ wG := wG_at 227 rfl rfl
set_option maxRecDepth 100000 in
theorem a_228 : Cond.fieldLink "MayNotPause$OrderSearch" 26 "MayNotPause$OrderSearch" "verses" "LMayNotPause$Script;" ∈ wG := wG_at 228 rfl rfl
set_option maxRecDepth 100000 in
theorem a_229 : Cond.fieldLink "MayNotPause$OrderSearch" 30 "MayNotPause$OrderSearch" "settings" "[I" ∈ wG := wG_at 229 rfl rfl
set_option maxRecDepth 100000 in
theorem a_230 : Cond.fieldLink "MayNotPause$OrderSearch" 11 "MayNotPause$OrderSearch" "row" "[I" ∈ wG := wG_at 230 rfl rfl
set_option maxRecDepth 100000 in
theorem a_231 : Cond.fieldLink "MayNotPause$OrderSearch" 15 "MayNotPause$OrderSearch" "best" "[I" ∈ wG := wG_at 231 rfl rfl
set_option maxRecDepth 100000 in
theorem a_232 : Cond.fieldLink "MayNotPause" 194 "MayNotPause$OrderSearch" "best" "[I" ∈ wG := wG_at 232 rfl rfl
set_option maxRecDepth 100000 in
theorem a_233 : Cond.fieldLink "MayNotPause$OrderSearch" 18 "MayNotPause$OrderSearch" "taken" "[Z" ∈ wG := wG_at 233 rfl rfl
set_option maxRecDepth 100000 in
theorem a_234 : Cond.fieldLink "MayNotPause$OrderSearch" 45 "MayNotPause$OrderSearch" "size" "I" ∈ wG := wG_at 234 rfl rfl
set_option maxRecDepth 100000 in
theorem a_235 : Cond.fieldLink "MayNotPause$OrderSearch" 47 "MayNotPause$OrderSearch" "leastPauses" "I" ∈ wG := wG_at 235 rfl rfl
set_option maxRecDepth 100000 in
theorem a_236 : Cond.fieldLink "MayNotPause" 188 "MayNotPause$OrderSearch" "leastPauses" "I" ∈ wG := wG_at 236 rfl rfl
set_option maxRecDepth 100000 in
theorem a_237 : Cond.fieldLink "MayNotPause$OrderSearch" 50 "MayNotPause$OrderSearch" "leastLong" "I" ∈ wG := wG_at 237 rfl rfl
set_option maxRecDepth 100000 in
theorem a_238 : Cond.fieldLink "MayNotPause" 191 "MayNotPause$OrderSearch" "leastLong" "I" ∈ wG := wG_at 238 rfl rfl
set_option maxRecDepth 100000 in
theorem a_262 : Cond.instanceMethod (⟨"MayNotPause$Sightings", "<init>", "()V"⟩ : MethodName) ∈ wG := wG_at 262 rfl rfl
set_option maxRecDepth 100000 in
theorem a_263 : Cond.code (⟨"MayNotPause$Sightings", "<init>", "()V"⟩ : MethodName) cX4_init 1 none ∈ wG := wG_at 263 rfl rfl
set_option maxRecDepth 100000 in
theorem a_264 : Cond.methodLink "MayNotPause$Sightings" 3 (⟨"java/lang/Object", "<init>", "()V"⟩ : MethodName) ∈ wG := wG_at 264 rfl rfl
set_option maxRecDepth 100000 in
theorem a_265 : Cond.fieldLink "MayNotPause$Sightings" 11 "MayNotPause$Sightings" "breaths" "[I" ∈ wG := wG_at 265 rfl rfl
set_option maxRecDepth 100000 in
theorem a_266 : Cond.fieldLink "MayNotPause$Sightings" 15 "MayNotPause$Sightings" "made" "[I" ∈ wG := wG_at 266 rfl rfl
set_option maxRecDepth 100000 in
theorem a_267 : Cond.fieldLink "MayNotPause$Sightings" 18 "MayNotPause$Sightings" "size" "I" ∈ wG := wG_at 267 rfl rfl
set_option maxRecDepth 100000 in
theorem a_268 : Cond.fieldLink "MayNotPause" 234 "MayNotPause$Sightings" "size" "I" ∈ wG := wG_at 268 rfl rfl
set_option maxRecDepth 100000 in
theorem a_280 : Cond.instanceMethod (⟨"MayNotPause$Sheet", "<init>", "()V"⟩ : MethodName) ∈ wG := wG_at 280 rfl rfl
set_option maxRecDepth 100000 in
theorem a_281 : Cond.code (⟨"MayNotPause$Sheet", "<init>", "()V"⟩ : MethodName) cX3_init 1 none ∈ wG := wG_at 281 rfl rfl
set_option maxRecDepth 100000 in
theorem a_282 : Cond.methodLink "MayNotPause$Sheet" 3 (⟨"java/lang/Object", "<init>", "()V"⟩ : MethodName) ∈ wG := wG_at 282 rfl rfl
set_option maxRecDepth 100000 in
theorem a_283 : Cond.fieldLink "MayNotPause$Sheet" 9 "MayNotPause$Sheet" "items" "[I" ∈ wG := wG_at 283 rfl rfl
set_option maxRecDepth 100000 in
theorem a_284 : Cond.fieldLink "MayNotPause" 275 "MayNotPause$Sheet" "items" "[I" ∈ wG := wG_at 284 rfl rfl
set_option maxRecDepth 100000 in
theorem a_285 : Cond.fieldLink "MayNotPause$Sheet" 15 "MayNotPause$Sheet" "lost" "Z" ∈ wG := wG_at 285 rfl rfl
set_option maxRecDepth 100000 in
theorem a_286 : Cond.fieldLink "MayNotPause" 242 "MayNotPause$Sheet" "lost" "Z" ∈ wG := wG_at 286 rfl rfl
set_option maxRecDepth 100000 in
theorem a_287 : Cond.fieldLink "MayNotPause$Sheet" 19 "MayNotPause$Sheet" "form" "I" ∈ wG := wG_at 287 rfl rfl
set_option maxRecDepth 100000 in
theorem a_288 : Cond.fieldLink "MayNotPause" 269 "MayNotPause$Sheet" "form" "I" ∈ wG := wG_at 288 rfl rfl
set_option maxRecDepth 100000 in
theorem a_289 : Cond.fieldLink "MayNotPause$Sheet" 23 "MayNotPause$Sheet" "size" "I" ∈ wG := wG_at 289 rfl rfl
set_option maxRecDepth 100000 in
theorem a_290 : Cond.fieldLink "MayNotPause" 248 "MayNotPause$Sheet" "size" "I" ∈ wG := wG_at 290 rfl rfl
set_option maxRecDepth 100000 in
theorem a_300 : Cond.fieldLink "MayNotPause" 7 "MayNotPause" "settings" "[I" ∈ wG := wG_at 300 rfl rfl
set_option maxRecDepth 100000 in
theorem a_301 : Cond.fieldLink "MayNotPause" 18 "MayNotPause" "verses" "LMayNotPause$Script;" ∈ wG := wG_at 301 rfl rfl
set_option maxRecDepth 100000 in
theorem a_302 : Cond.fieldLink "MayNotPause" 22 "MayNotPause" "hards" "LMayNotPause$Script;" ∈ wG := wG_at 302 rfl rfl
set_option maxRecDepth 100000 in
theorem a_303 : Cond.fieldLink "MayNotPause" 28 "MayNotPause" "told" "LMayNotPause$Telling;" ∈ wG := wG_at 303 rfl rfl
set_option maxRecDepth 100000 in
theorem a_304 : Cond.fieldLink "MayNotPause" 32 "MayNotPause" "trial" "LMayNotPause$Telling;" ∈ wG := wG_at 304 rfl rfl
set_option maxRecDepth 100000 in
theorem a_305 : Cond.fieldLink "MayNotPause" 40 "MayNotPause" "putSearch" "LMayNotPause$PutSearch;" ∈ wG := wG_at 305 rfl rfl
set_option maxRecDepth 100000 in
theorem a_306 : Cond.fieldLink "MayNotPause" 49 "MayNotPause" "orderSearch" "LMayNotPause$OrderSearch;" ∈ wG := wG_at 306 rfl rfl
set_option maxRecDepth 100000 in
theorem a_307 : Cond.fieldLink "MayNotPause" 56 "MayNotPause" "sightings" "LMayNotPause$Sightings;" ∈ wG := wG_at 307 rfl rfl
set_option maxRecDepth 100000 in
theorem a_308 : Cond.fieldLink "MayNotPause" 62 "MayNotPause" "sheets" "[LMayNotPause$Sheet;" ∈ wG := wG_at 308 rfl rfl
set_option maxRecDepth 100000 in
theorem a_309 : Cond.fieldLink "MayNotPause" 174 "MayNotPause" "putIsFound" "Z" ∈ wG := wG_at 309 rfl rfl
set_option maxRecDepth 100000 in
theorem a_310 : Cond.fieldLink "MayNotPause" 184 "MayNotPause" "orderIsFound" "Z" ∈ wG := wG_at 310 rfl rfl
set_option maxRecDepth 100000 in
theorem a_311 : Cond.fieldLink "MayNotPause" 266 "MayNotPause" "latestFinding" "I" ∈ wG := wG_at 311 rfl rfl
set_option maxRecDepth 100000 in
theorem a_337 : Cond.methodLink "MayNotPauseLaw" 13 (⟨"MayNotPause", "type", "(II)I"⟩ : MethodName) ∈ wG := wG_at 337 rfl rfl
set_option maxRecDepth 100000 in
theorem a_338 : Cond.instanceMethod (⟨"MayNotPause", "type", "(II)I"⟩ : MethodName) ∈ wG := wG_at 338 rfl rfl
set_option maxRecDepth 100000 in
theorem a_339 : Cond.selects "MayNotPause" (⟨"MayNotPause", "type", "(II)I"⟩ : MethodName) (⟨"MayNotPause", "type", "(II)I"⟩ : MethodName) ∈ wG := wG_at 339 rfl rfl
set_option maxRecDepth 100000 in
theorem a_340 : Cond.code (⟨"MayNotPause", "type", "(II)I"⟩ : MethodName) cX7_type 4 (some .int) ∈ wG := wG_at 340 rfl rfl
set_option maxRecDepth 100000 in
theorem a_341 : Cond.methodLink "MayNotPause" 67 (⟨"MayNotPause", "isText", "(I)Z"⟩ : MethodName) ∈ wG := wG_at 341 rfl rfl
set_option maxRecDepth 100000 in
theorem a_342 : Cond.static (⟨"MayNotPause", "isText", "(I)Z"⟩ : MethodName) ∈ wG := wG_at 342 rfl rfl
set_option maxRecDepth 100000 in
theorem a_343 : Cond.code (⟨"MayNotPause", "isText", "(I)Z"⟩ : MethodName) cX7_isText 1 (some .boolean) ∈ wG := wG_at 343 rfl rfl
set_option maxRecDepth 100000 in
theorem a_344 : Cond.methodLink "MayNotPause" 71 (⟨"MayNotPause", "scriptOf", "(I)LMayNotPause$Script;"⟩ : MethodName) ∈ wG := wG_at 344 rfl rfl
set_option maxRecDepth 100000 in
theorem a_346 : Cond.instanceMethod (⟨"MayNotPause", "scriptOf", "(I)LMayNotPause$Script;"⟩ : MethodName) ∈ wG := wG_at 346 rfl rfl
set_option maxRecDepth 100000 in
theorem a_347 : Cond.code (⟨"MayNotPause", "scriptOf", "(I)LMayNotPause$Script;"⟩ : MethodName) cX7_scriptOf 2 (some (.object "MayNotPause$Script")) ∈ wG := wG_at 347 rfl rfl
set_option maxRecDepth 100000 in
theorem a_348 : Cond.methodLink "MayNotPause" 75 (⟨"MayNotPause$Script", "isFull", "()Z"⟩ : MethodName) ∈ wG := wG_at 348 rfl rfl
set_option maxRecDepth 100000 in
theorem a_349 : Cond.instanceMethod (⟨"MayNotPause$Script", "isFull", "()Z"⟩ : MethodName) ∈ wG := wG_at 349 rfl rfl
set_option maxRecDepth 100000 in
theorem a_350 : Cond.selects "MayNotPause$Script" (⟨"MayNotPause$Script", "isFull", "()Z"⟩ : MethodName) (⟨"MayNotPause$Script", "isFull", "()Z"⟩ : MethodName) ∈ wG := wG_at 350 rfl rfl
set_option maxRecDepth 100000 in
theorem a_351 : Cond.code (⟨"MayNotPause$Script", "isFull", "()Z"⟩ : MethodName) cX2_isFull 1 (some .boolean) ∈ wG := wG_at 351 rfl rfl
set_option maxRecDepth 100000 in
theorem a_352 : Cond.methodLink "MayNotPause" 79 (⟨"MayNotPause$Script", "append", "(I)V"⟩ : MethodName) ∈ wG := wG_at 352 rfl rfl
set_option maxRecDepth 100000 in
theorem a_353 : Cond.instanceMethod (⟨"MayNotPause$Script", "append", "(I)V"⟩ : MethodName) ∈ wG := wG_at 353 rfl rfl
set_option maxRecDepth 100000 in
theorem a_354 : Cond.selects "MayNotPause$Script" (⟨"MayNotPause$Script", "append", "(I)V"⟩ : MethodName) (⟨"MayNotPause$Script", "append", "(I)V"⟩ : MethodName) ∈ wG := wG_at 354 rfl rfl
set_option maxRecDepth 100000 in
theorem a_355 : Cond.code (⟨"MayNotPause$Script", "append", "(I)V"⟩ : MethodName) cX2_append 2 none ∈ wG := wG_at 355 rfl rfl
set_option maxRecDepth 100000 in
theorem a_356 : Cond.methodLink "MayNotPause$Script" 22 (⟨"MayNotPause$Script", "isFull", "()Z"⟩ : MethodName) ∈ wG := wG_at 356 rfl rfl
set_option maxRecDepth 100000 in
theorem a_357 : Cond.methodLink "MayNotPause$Script" 26 (⟨"MayNotPause$Script", "settle", "()V"⟩ : MethodName) ∈ wG := wG_at 357 rfl rfl
set_option maxRecDepth 100000 in
theorem a_359 : Cond.instanceMethod (⟨"MayNotPause$Script", "settle", "()V"⟩ : MethodName) ∈ wG := wG_at 359 rfl rfl
set_option maxRecDepth 100000 in
theorem a_360 : Cond.code (⟨"MayNotPause$Script", "settle", "()V"⟩ : MethodName) cX2_settle 1 none ∈ wG := wG_at 360 rfl rfl
set_option maxRecDepth 100000 in
theorem a_361 : Cond.methodLink "MayNotPause$Script" 36 (⟨"MayNotPause$Script", "firstFlaw", "()I"⟩ : MethodName) ∈ wG := wG_at 361 rfl rfl
set_option maxRecDepth 100000 in
theorem a_363 : Cond.instanceMethod (⟨"MayNotPause$Script", "firstFlaw", "()I"⟩ : MethodName) ∈ wG := wG_at 363 rfl rfl
set_option maxRecDepth 100000 in
theorem a_364 : Cond.code (⟨"MayNotPause$Script", "firstFlaw", "()I"⟩ : MethodName) cX2_firstFlaw 2 (some .int) ∈ wG := wG_at 364 rfl rfl
set_option maxRecDepth 100000 in
theorem a_365 : Cond.methodLink "MayNotPause$Script" 40 (⟨"MayNotPause$Script", "fits", "(II)Z"⟩ : MethodName) ∈ wG := wG_at 365 rfl rfl
set_option maxRecDepth 100000 in
theorem a_366 : Cond.static (⟨"MayNotPause$Script", "fits", "(II)Z"⟩ : MethodName) ∈ wG := wG_at 366 rfl rfl
set_option maxRecDepth 100000 in
theorem a_367 : Cond.code (⟨"MayNotPause$Script", "fits", "(II)Z"⟩ : MethodName) cX2_fits 2 (some .boolean) ∈ wG := wG_at 367 rfl rfl
set_option maxRecDepth 100000 in
theorem a_368 : Cond.methodLink "MayNotPause$Script" 44 (⟨"MayNotPause$Script", "kindBy", "(I)I"⟩ : MethodName) ∈ wG := wG_at 368 rfl rfl
set_option maxRecDepth 100000 in
theorem a_369 : Cond.static (⟨"MayNotPause$Script", "kindBy", "(I)I"⟩ : MethodName) ∈ wG := wG_at 369 rfl rfl
set_option maxRecDepth 100000 in
theorem a_370 : Cond.code (⟨"MayNotPause$Script", "kindBy", "(I)I"⟩ : MethodName) cX2_kindBy 1 (some .int) ∈ wG := wG_at 370 rfl rfl
set_option maxRecDepth 100000 in
theorem a_371 : Cond.methodLink "MayNotPause" 82 (⟨"MayNotPause", "tellAnew", "()V"⟩ : MethodName) ∈ wG := wG_at 371 rfl rfl
set_option maxRecDepth 100000 in
theorem a_373 : Cond.instanceMethod (⟨"MayNotPause", "tellAnew", "()V"⟩ : MethodName) ∈ wG := wG_at 373 rfl rfl
set_option maxRecDepth 100000 in
theorem a_374 : Cond.code (⟨"MayNotPause", "tellAnew", "()V"⟩ : MethodName) cX7_tellAnew 1 none ∈ wG := wG_at 374 rfl rfl
set_option maxRecDepth 100000 in
theorem a_375 : Cond.methodLink "MayNotPause" 195 (⟨"MayNotPause$Telling", "open", "([I)V"⟩ : MethodName) ∈ wG := wG_at 375 rfl rfl
set_option maxRecDepth 100000 in
theorem a_376 : Cond.instanceMethod (⟨"MayNotPause$Telling", "open", "([I)V"⟩ : MethodName) ∈ wG := wG_at 376 rfl rfl
set_option maxRecDepth 100000 in
theorem a_377 : Cond.selects "MayNotPause$Telling" (⟨"MayNotPause$Telling", "open", "([I)V"⟩ : MethodName) (⟨"MayNotPause$Telling", "open", "([I)V"⟩ : MethodName) ∈ wG := wG_at 377 rfl rfl
set_option maxRecDepth 100000 in
theorem a_378 : Cond.code (⟨"MayNotPause$Telling", "open", "([I)V"⟩ : MethodName) cX5_open 3 none ∈ wG := wG_at 378 rfl rfl
set_option maxRecDepth 100000 in
theorem a_379 : Cond.methodLink "MayNotPause$Telling" 30 (⟨"MayNotPause$Turn", "beStart", "(I)V"⟩ : MethodName) ∈ wG := wG_at 379 rfl rfl
set_option maxRecDepth 100000 in
theorem a_380 : Cond.instanceMethod (⟨"MayNotPause$Turn", "beStart", "(I)V"⟩ : MethodName) ∈ wG := wG_at 380 rfl rfl
set_option maxRecDepth 100000 in
theorem a_381 : Cond.selects "MayNotPause$Turn" (⟨"MayNotPause$Turn", "beStart", "(I)V"⟩ : MethodName) (⟨"MayNotPause$Turn", "beStart", "(I)V"⟩ : MethodName) ∈ wG := wG_at 381 rfl rfl
set_option maxRecDepth 100000 in
theorem a_382 : Cond.code (⟨"MayNotPause$Turn", "beStart", "(I)V"⟩ : MethodName) cX6_beStart 2 none ∈ wG := wG_at 382 rfl rfl
set_option maxRecDepth 100000 in
theorem a_383 : Cond.methodLink "MayNotPause$Turn" 9 (⟨"MayNotPause$Turn", "comeToNothing", "()V"⟩ : MethodName) ∈ wG := wG_at 383 rfl rfl
set_option maxRecDepth 100000 in
theorem a_385 : Cond.instanceMethod (⟨"MayNotPause$Turn", "comeToNothing", "()V"⟩ : MethodName) ∈ wG := wG_at 385 rfl rfl
set_option maxRecDepth 100000 in
theorem a_386 : Cond.code (⟨"MayNotPause$Turn", "comeToNothing", "()V"⟩ : MethodName) cX6_comeToNothing 1 none ∈ wG := wG_at 386 rfl rfl
set_option maxRecDepth 100000 in
theorem a_387 : Cond.methodLink "MayNotPause" 202 (⟨"MayNotPause$Telling", "addAll", "(LMayNotPause$Script;)V"⟩ : MethodName) ∈ wG := wG_at 387 rfl rfl
set_option maxRecDepth 100000 in
theorem a_388 : Cond.instanceMethod (⟨"MayNotPause$Telling", "addAll", "(LMayNotPause$Script;)V"⟩ : MethodName) ∈ wG := wG_at 388 rfl rfl
set_option maxRecDepth 100000 in
theorem a_389 : Cond.selects "MayNotPause$Telling" (⟨"MayNotPause$Telling", "addAll", "(LMayNotPause$Script;)V"⟩ : MethodName) (⟨"MayNotPause$Telling", "addAll", "(LMayNotPause$Script;)V"⟩ : MethodName) ∈ wG := wG_at 389 rfl rfl
set_option maxRecDepth 100000 in
theorem a_390 : Cond.code (⟨"MayNotPause$Telling", "addAll", "(LMayNotPause$Script;)V"⟩ : MethodName) cX5_addAll 3 none ∈ wG := wG_at 390 rfl rfl
set_option maxRecDepth 100000 in
theorem a_391 : Cond.methodLink "MayNotPause$Telling" 37 (⟨"MayNotPause$Telling", "add", "(LMayNotPause$Script;I)V"⟩ : MethodName) ∈ wG := wG_at 391 rfl rfl
set_option maxRecDepth 100000 in
theorem a_392 : Cond.instanceMethod (⟨"MayNotPause$Telling", "add", "(LMayNotPause$Script;I)V"⟩ : MethodName) ∈ wG := wG_at 392 rfl rfl
set_option maxRecDepth 100000 in
theorem a_393 : Cond.selects "MayNotPause$Telling" (⟨"MayNotPause$Telling", "add", "(LMayNotPause$Script;I)V"⟩ : MethodName) (⟨"MayNotPause$Telling", "add", "(LMayNotPause$Script;I)V"⟩ : MethodName) ∈ wG := wG_at 393 rfl rfl
set_option maxRecDepth 100000 in
theorem a_394 : Cond.code (⟨"MayNotPause$Telling", "add", "(LMayNotPause$Script;I)V"⟩ : MethodName) cX5_add 8 none ∈ wG := wG_at 394 rfl rfl
set_option maxRecDepth 100000 in
theorem a_395 : Cond.methodLink "MayNotPause$Telling" 41 (⟨"MayNotPause$Script", "kindOf", "(I)I"⟩ : MethodName) ∈ wG := wG_at 395 rfl rfl
set_option maxRecDepth 100000 in
theorem a_396 : Cond.instanceMethod (⟨"MayNotPause$Script", "kindOf", "(I)I"⟩ : MethodName) ∈ wG := wG_at 396 rfl rfl
set_option maxRecDepth 100000 in
theorem a_397 : Cond.selects "MayNotPause$Script" (⟨"MayNotPause$Script", "kindOf", "(I)I"⟩ : MethodName) (⟨"MayNotPause$Script", "kindOf", "(I)I"⟩ : MethodName) ∈ wG := wG_at 397 rfl rfl
set_option maxRecDepth 100000 in
theorem a_398 : Cond.code (⟨"MayNotPause$Script", "kindOf", "(I)I"⟩ : MethodName) cX2_kindOf 2 (some .int) ∈ wG := wG_at 398 rfl rfl
set_option maxRecDepth 100000 in
theorem a_399 : Cond.methodLink "MayNotPause$Telling" 48 (⟨"MayNotPause$Script", "figure", "(II)I"⟩ : MethodName) ∈ wG := wG_at 399 rfl rfl
set_option maxRecDepth 100000 in
theorem a_400 : Cond.instanceMethod (⟨"MayNotPause$Script", "figure", "(II)I"⟩ : MethodName) ∈ wG := wG_at 400 rfl rfl
set_option maxRecDepth 100000 in
theorem a_401 : Cond.selects "MayNotPause$Script" (⟨"MayNotPause$Script", "figure", "(II)I"⟩ : MethodName) (⟨"MayNotPause$Script", "figure", "(II)I"⟩ : MethodName) ∈ wG := wG_at 401 rfl rfl
set_option maxRecDepth 100000 in
theorem a_402 : Cond.code (⟨"MayNotPause$Script", "figure", "(II)I"⟩ : MethodName) cX2_figure 3 (some .int) ∈ wG := wG_at 402 rfl rfl
set_option maxRecDepth 100000 in
theorem a_403 : Cond.methodLink "MayNotPause$Telling" 55 (⟨"MayNotPause$Telling", "howManyOf", "(I)I"⟩ : MethodName) ∈ wG := wG_at 403 rfl rfl
set_option maxRecDepth 100000 in
theorem a_405 : Cond.instanceMethod (⟨"MayNotPause$Telling", "howManyOf", "(I)I"⟩ : MethodName) ∈ wG := wG_at 405 rfl rfl
set_option maxRecDepth 100000 in
theorem a_406 : Cond.code (⟨"MayNotPause$Telling", "howManyOf", "(I)I"⟩ : MethodName) cX5_howManyOf 4 (some .int) ∈ wG := wG_at 406 rfl rfl
set_option maxRecDepth 100000 in
theorem a_407 : Cond.methodLink "MayNotPause$Telling" 61 (⟨"java/lang/Math", "max", "(II)I"⟩ : MethodName) ∈ wG := wG_at 407 rfl rfl
set_option maxRecDepth 100000 in
theorem a_410 : Cond.methodLink "MayNotPause$Telling" 69 (⟨"MayNotPause$Telling", "last", "()LMayNotPause$Turn;"⟩ : MethodName) ∈ wG := wG_at 410 rfl rfl
set_option maxRecDepth 100000 in
theorem a_411 : Cond.instanceMethod (⟨"MayNotPause$Telling", "last", "()LMayNotPause$Turn;"⟩ : MethodName) ∈ wG := wG_at 411 rfl rfl
set_option maxRecDepth 100000 in
theorem a_412 : Cond.selects "MayNotPause$Telling" (⟨"MayNotPause$Telling", "last", "()LMayNotPause$Turn;"⟩ : MethodName) (⟨"MayNotPause$Telling", "last", "()LMayNotPause$Turn;"⟩ : MethodName) ∈ wG := wG_at 412 rfl rfl
set_option maxRecDepth 100000 in
theorem a_413 : Cond.code (⟨"MayNotPause$Telling", "last", "()LMayNotPause$Turn;"⟩ : MethodName) cX5_last 1 (some (.object "MayNotPause$Turn")) ∈ wG := wG_at 413 rfl rfl
set_option maxRecDepth 100000 in
theorem a_414 : Cond.methodLink "MayNotPause$Telling" 93 (⟨"MayNotPause$Telling", "turnAt", "(I)LMayNotPause$Turn;"⟩ : MethodName) ∈ wG := wG_at 414 rfl rfl
set_option maxRecDepth 100000 in
theorem a_415 : Cond.instanceMethod (⟨"MayNotPause$Telling", "turnAt", "(I)LMayNotPause$Turn;"⟩ : MethodName) ∈ wG := wG_at 415 rfl rfl
set_option maxRecDepth 100000 in
theorem a_416 : Cond.selects "MayNotPause$Telling" (⟨"MayNotPause$Telling", "turnAt", "(I)LMayNotPause$Turn;"⟩ : MethodName) (⟨"MayNotPause$Telling", "turnAt", "(I)LMayNotPause$Turn;"⟩ : MethodName) ∈ wG := wG_at 416 rfl rfl
set_option maxRecDepth 100000 in
theorem a_417 : Cond.code (⟨"MayNotPause$Telling", "turnAt", "(I)LMayNotPause$Turn;"⟩ : MethodName) cX5_turnAt 2 (some (.object "MayNotPause$Turn")) ∈ wG := wG_at 417 rfl rfl
set_option maxRecDepth 100000 in
theorem a_418 : Cond.methodLink "MayNotPause$Telling" 73 (⟨"MayNotPause$Turn", "follow", "(LMayNotPause$Turn;)V"⟩ : MethodName) ∈ wG := wG_at 418 rfl rfl
set_option maxRecDepth 100000 in
theorem a_419 : Cond.instanceMethod (⟨"MayNotPause$Turn", "follow", "(LMayNotPause$Turn;)V"⟩ : MethodName) ∈ wG := wG_at 419 rfl rfl
set_option maxRecDepth 100000 in
theorem a_420 : Cond.selects "MayNotPause$Turn" (⟨"MayNotPause$Turn", "follow", "(LMayNotPause$Turn;)V"⟩ : MethodName) (⟨"MayNotPause$Turn", "follow", "(LMayNotPause$Turn;)V"⟩ : MethodName) ∈ wG := wG_at 420 rfl rfl
set_option maxRecDepth 100000 in
theorem a_421 : Cond.code (⟨"MayNotPause$Turn", "follow", "(LMayNotPause$Turn;)V"⟩ : MethodName) cX6_follow 2 none ∈ wG := wG_at 421 rfl rfl
set_option maxRecDepth 100000 in
theorem a_422 : Cond.methodLink "MayNotPause$Telling" 86 (⟨"MayNotPause$Turn", "beSaid", "(I)V"⟩ : MethodName) ∈ wG := wG_at 422 rfl rfl
set_option maxRecDepth 100000 in
theorem a_423 : Cond.instanceMethod (⟨"MayNotPause$Turn", "beSaid", "(I)V"⟩ : MethodName) ∈ wG := wG_at 423 rfl rfl
set_option maxRecDepth 100000 in
theorem a_424 : Cond.selects "MayNotPause$Turn" (⟨"MayNotPause$Turn", "beSaid", "(I)V"⟩ : MethodName) (⟨"MayNotPause$Turn", "beSaid", "(I)V"⟩ : MethodName) ∈ wG := wG_at 424 rfl rfl
set_option maxRecDepth 100000 in
theorem a_425 : Cond.code (⟨"MayNotPause$Turn", "beSaid", "(I)V"⟩ : MethodName) cX6_beSaid 2 none ∈ wG := wG_at 425 rfl rfl
set_option maxRecDepth 100000 in
theorem a_426 : Cond.methodLink "MayNotPause$Turn" 48 (⟨"java/lang/Math", "max", "(II)I"⟩ : MethodName) ∈ wG := wG_at 426 rfl rfl
set_option maxRecDepth 100000 in
theorem a_427 : Cond.methodLink "MayNotPause$Telling" 89 (⟨"MayNotPause$Turn", "beWritten", "(III)V"⟩ : MethodName) ∈ wG := wG_at 427 rfl rfl
set_option maxRecDepth 100000 in
theorem a_428 : Cond.instanceMethod (⟨"MayNotPause$Turn", "beWritten", "(III)V"⟩ : MethodName) ∈ wG := wG_at 428 rfl rfl
set_option maxRecDepth 100000 in
theorem a_429 : Cond.selects "MayNotPause$Turn" (⟨"MayNotPause$Turn", "beWritten", "(III)V"⟩ : MethodName) (⟨"MayNotPause$Turn", "beWritten", "(III)V"⟩ : MethodName) ∈ wG := wG_at 429 rfl rfl
set_option maxRecDepth 100000 in
theorem a_430 : Cond.code (⟨"MayNotPause$Turn", "beWritten", "(III)V"⟩ : MethodName) cX6_beWritten 6 none ∈ wG := wG_at 430 rfl rfl
set_option maxRecDepth 100000 in
theorem a_431 : Cond.methodLink "MayNotPauseLaw" 18 (⟨"MayNotPause", "wipe", "(I)I"⟩ : MethodName) ∈ wG := wG_at 431 rfl rfl
set_option maxRecDepth 100000 in
theorem a_432 : Cond.instanceMethod (⟨"MayNotPause", "wipe", "(I)I"⟩ : MethodName) ∈ wG := wG_at 432 rfl rfl
set_option maxRecDepth 100000 in
theorem a_433 : Cond.selects "MayNotPause" (⟨"MayNotPause", "wipe", "(I)I"⟩ : MethodName) (⟨"MayNotPause", "wipe", "(I)I"⟩ : MethodName) ∈ wG := wG_at 433 rfl rfl
set_option maxRecDepth 100000 in
theorem a_434 : Cond.code (⟨"MayNotPause", "wipe", "(I)I"⟩ : MethodName) cX7_wipe 4 (some .int) ∈ wG := wG_at 434 rfl rfl
set_option maxRecDepth 100000 in
theorem a_435 : Cond.methodLink "MayNotPause" 89 (⟨"MayNotPause$Script", "shorten", "(I)V"⟩ : MethodName) ∈ wG := wG_at 435 rfl rfl
set_option maxRecDepth 100000 in
theorem a_436 : Cond.instanceMethod (⟨"MayNotPause$Script", "shorten", "(I)V"⟩ : MethodName) ∈ wG := wG_at 436 rfl rfl
set_option maxRecDepth 100000 in
theorem a_437 : Cond.selects "MayNotPause$Script" (⟨"MayNotPause$Script", "shorten", "(I)V"⟩ : MethodName) (⟨"MayNotPause$Script", "shorten", "(I)V"⟩ : MethodName) ∈ wG := wG_at 437 rfl rfl
set_option maxRecDepth 100000 in
theorem a_438 : Cond.code (⟨"MayNotPause$Script", "shorten", "(I)V"⟩ : MethodName) cX2_shorten 2 none ∈ wG := wG_at 438 rfl rfl
set_option maxRecDepth 100000 in
theorem a_439 : Cond.methodLink "MayNotPauseLaw" 23 (⟨"MayNotPause", "undo", "(I)I"⟩ : MethodName) ∈ wG := wG_at 439 rfl rfl
set_option maxRecDepth 100000 in
theorem a_440 : Cond.instanceMethod (⟨"MayNotPause", "undo", "(I)I"⟩ : MethodName) ∈ wG := wG_at 440 rfl rfl
set_option maxRecDepth 100000 in
theorem a_441 : Cond.selects "MayNotPause" (⟨"MayNotPause", "undo", "(I)I"⟩ : MethodName) (⟨"MayNotPause", "undo", "(I)I"⟩ : MethodName) ∈ wG := wG_at 441 rfl rfl
set_option maxRecDepth 100000 in
theorem a_442 : Cond.code (⟨"MayNotPause", "undo", "(I)I"⟩ : MethodName) cX7_undo 3 (some .int) ∈ wG := wG_at 442 rfl rfl
set_option maxRecDepth 100000 in
theorem a_443 : Cond.methodLink "MayNotPause" 95 (⟨"MayNotPause$Script", "dropLastVerse", "()V"⟩ : MethodName) ∈ wG := wG_at 443 rfl rfl
set_option maxRecDepth 100000 in
theorem a_444 : Cond.instanceMethod (⟨"MayNotPause$Script", "dropLastVerse", "()V"⟩ : MethodName) ∈ wG := wG_at 444 rfl rfl
set_option maxRecDepth 100000 in
theorem a_445 : Cond.selects "MayNotPause$Script" (⟨"MayNotPause$Script", "dropLastVerse", "()V"⟩ : MethodName) (⟨"MayNotPause$Script", "dropLastVerse", "()V"⟩ : MethodName) ∈ wG := wG_at 445 rfl rfl
set_option maxRecDepth 100000 in
theorem a_446 : Cond.code (⟨"MayNotPause$Script", "dropLastVerse", "()V"⟩ : MethodName) cX2_dropLastVerse 1 none ∈ wG := wG_at 446 rfl rfl
set_option maxRecDepth 100000 in
theorem a_447 : Cond.methodLink "MayNotPause$Script" 32 (⟨"MayNotPause$Script", "shorten", "(I)V"⟩ : MethodName) ∈ wG := wG_at 447 rfl rfl
set_option maxRecDepth 100000 in
theorem a_448 : Cond.methodLink "MayNotPauseLaw" 27 (⟨"MayNotPause", "fault", "(I)I"⟩ : MethodName) ∈ wG := wG_at 448 rfl rfl
set_option maxRecDepth 100000 in
theorem a_449 : Cond.instanceMethod (⟨"MayNotPause", "fault", "(I)I"⟩ : MethodName) ∈ wG := wG_at 449 rfl rfl
set_option maxRecDepth 100000 in
theorem a_450 : Cond.selects "MayNotPause" (⟨"MayNotPause", "fault", "(I)I"⟩ : MethodName) (⟨"MayNotPause", "fault", "(I)I"⟩ : MethodName) ∈ wG := wG_at 450 rfl rfl
set_option maxRecDepth 100000 in
theorem a_451 : Cond.code (⟨"MayNotPause", "fault", "(I)I"⟩ : MethodName) cX7_fault 2 (some .int) ∈ wG := wG_at 451 rfl rfl
set_option maxRecDepth 100000 in
theorem a_452 : Cond.methodLink "MayNotPauseLaw" 31 (⟨"MayNotPause", "set", "(II)I"⟩ : MethodName) ∈ wG := wG_at 452 rfl rfl
set_option maxRecDepth 100000 in
theorem a_453 : Cond.instanceMethod (⟨"MayNotPause", "set", "(II)I"⟩ : MethodName) ∈ wG := wG_at 453 rfl rfl
set_option maxRecDepth 100000 in
theorem a_454 : Cond.selects "MayNotPause" (⟨"MayNotPause", "set", "(II)I"⟩ : MethodName) (⟨"MayNotPause", "set", "(II)I"⟩ : MethodName) ∈ wG := wG_at 454 rfl rfl
set_option maxRecDepth 100000 in
theorem a_455 : Cond.code (⟨"MayNotPause", "set", "(II)I"⟩ : MethodName) cX7_set 4 (some .int) ∈ wG := wG_at 455 rfl rfl
set_option maxRecDepth 100000 in
theorem a_456 : Cond.fieldLink "MayNotPause" 101 "MayNotPause" "LEAST_SETTING" "[I" ∈ wG := wG_at 456 rfl rfl
set_option maxRecDepth 100000 in
theorem a_458 : Cond.fieldLink "MayNotPause" 104 "MayNotPause" "MOST_SETTING" "[I" ∈ wG := wG_at 458 rfl rfl
set_option maxRecDepth 100000 in
theorem a_460 : Cond.methodLink "MayNotPauseLaw" 35 (⟨"MayNotPause", "verse", "(II)I"⟩ : MethodName) ∈ wG := wG_at 460 rfl rfl
set_option maxRecDepth 100000 in
theorem a_461 : Cond.instanceMethod (⟨"MayNotPause", "verse", "(II)I"⟩ : MethodName) ∈ wG := wG_at 461 rfl rfl
set_option maxRecDepth 100000 in
theorem a_462 : Cond.selects "MayNotPause" (⟨"MayNotPause", "verse", "(II)I"⟩ : MethodName) (⟨"MayNotPause", "verse", "(II)I"⟩ : MethodName) ∈ wG := wG_at 462 rfl rfl
set_option maxRecDepth 100000 in
theorem a_463 : Cond.code (⟨"MayNotPause", "verse", "(II)I"⟩ : MethodName) cX7_verse 4 (some .int) ∈ wG := wG_at 463 rfl rfl
set_option maxRecDepth 100000 in
theorem a_464 : Cond.methodLink "MayNotPause" 107 (⟨"MayNotPause", "isVerse", "(I)Z"⟩ : MethodName) ∈ wG := wG_at 464 rfl rfl
set_option maxRecDepth 100000 in
theorem a_466 : Cond.instanceMethod (⟨"MayNotPause", "isVerse", "(I)Z"⟩ : MethodName) ∈ wG := wG_at 466 rfl rfl
set_option maxRecDepth 100000 in
theorem a_467 : Cond.code (⟨"MayNotPause", "isVerse", "(I)Z"⟩ : MethodName) cX7_isVerse 2 (some .boolean) ∈ wG := wG_at 467 rfl rfl
set_option maxRecDepth 100000 in
theorem a_468 : Cond.methodLink "MayNotPause" 110 (⟨"MayNotPause$Telling", "turnAt", "(I)LMayNotPause$Turn;"⟩ : MethodName) ∈ wG := wG_at 468 rfl rfl
set_option maxRecDepth 100000 in
theorem a_469 : Cond.methodLink "MayNotPause" 114 (⟨"MayNotPause$Script", "figure", "(II)I"⟩ : MethodName) ∈ wG := wG_at 469 rfl rfl
set_option maxRecDepth 100000 in
theorem a_470 : Cond.methodLink "MayNotPauseLaw" 39 (⟨"MayNotPause", "when", "(II)I"⟩ : MethodName) ∈ wG := wG_at 470 rfl rfl
set_option maxRecDepth 100000 in
theorem a_471 : Cond.instanceMethod (⟨"MayNotPause", "when", "(II)I"⟩ : MethodName) ∈ wG := wG_at 471 rfl rfl
set_option maxRecDepth 100000 in
theorem a_472 : Cond.selects "MayNotPause" (⟨"MayNotPause", "when", "(II)I"⟩ : MethodName) (⟨"MayNotPause", "when", "(II)I"⟩ : MethodName) ∈ wG := wG_at 472 rfl rfl
set_option maxRecDepth 100000 in
theorem a_473 : Cond.code (⟨"MayNotPause", "when", "(II)I"⟩ : MethodName) cX7_when 4 (some .int) ∈ wG := wG_at 473 rfl rfl
set_option maxRecDepth 100000 in
theorem a_474 : Cond.methodLink "MayNotPauseLaw" 43 (⟨"MayNotPause", "poem", "(I)I"⟩ : MethodName) ∈ wG := wG_at 474 rfl rfl
set_option maxRecDepth 100000 in
theorem a_475 : Cond.instanceMethod (⟨"MayNotPause", "poem", "(I)I"⟩ : MethodName) ∈ wG := wG_at 475 rfl rfl
set_option maxRecDepth 100000 in
theorem a_476 : Cond.selects "MayNotPause" (⟨"MayNotPause", "poem", "(I)I"⟩ : MethodName) (⟨"MayNotPause", "poem", "(I)I"⟩ : MethodName) ∈ wG := wG_at 476 rfl rfl
set_option maxRecDepth 100000 in
theorem a_477 : Cond.code (⟨"MayNotPause", "poem", "(I)I"⟩ : MethodName) cX7_poem 2 (some .int) ∈ wG := wG_at 477 rfl rfl
set_option maxRecDepth 100000 in
theorem a_478 : Cond.methodLink "MayNotPause" 144 (⟨"MayNotPause$Telling", "howManyWritten", "()I"⟩ : MethodName) ∈ wG := wG_at 478 rfl rfl
set_option maxRecDepth 100000 in
theorem a_479 : Cond.instanceMethod (⟨"MayNotPause$Telling", "howManyWritten", "()I"⟩ : MethodName) ∈ wG := wG_at 479 rfl rfl
set_option maxRecDepth 100000 in
theorem a_480 : Cond.selects "MayNotPause$Telling" (⟨"MayNotPause$Telling", "howManyWritten", "()I"⟩ : MethodName) (⟨"MayNotPause$Telling", "howManyWritten", "()I"⟩ : MethodName) ∈ wG := wG_at 480 rfl rfl
set_option maxRecDepth 100000 in
theorem a_481 : Cond.code (⟨"MayNotPause$Telling", "howManyWritten", "()I"⟩ : MethodName) cX5_howManyWritten 2 (some .int) ∈ wG := wG_at 481 rfl rfl
set_option maxRecDepth 100000 in
theorem a_482 : Cond.methodLink "MayNotPause" 148 (⟨"MayNotPause$Telling", "lastWritten", "()I"⟩ : MethodName) ∈ wG := wG_at 482 rfl rfl
set_option maxRecDepth 100000 in
theorem a_483 : Cond.instanceMethod (⟨"MayNotPause$Telling", "lastWritten", "()I"⟩ : MethodName) ∈ wG := wG_at 483 rfl rfl
set_option maxRecDepth 100000 in
theorem a_484 : Cond.selects "MayNotPause$Telling" (⟨"MayNotPause$Telling", "lastWritten", "()I"⟩ : MethodName) (⟨"MayNotPause$Telling", "lastWritten", "()I"⟩ : MethodName) ∈ wG := wG_at 484 rfl rfl
set_option maxRecDepth 100000 in
theorem a_485 : Cond.code (⟨"MayNotPause$Telling", "lastWritten", "()I"⟩ : MethodName) cX5_lastWritten 1 (some .int) ∈ wG := wG_at 485 rfl rfl
set_option maxRecDepth 100000 in
theorem a_486 : Cond.methodLink "MayNotPause$Telling" 100 (⟨"MayNotPause$Telling", "howManyWritten", "()I"⟩ : MethodName) ∈ wG := wG_at 486 rfl rfl
set_option maxRecDepth 100000 in
theorem a_487 : Cond.methodLink "MayNotPause" 151 (⟨"MayNotPause$Telling", "last", "()LMayNotPause$Turn;"⟩ : MethodName) ∈ wG := wG_at 487 rfl rfl
set_option maxRecDepth 100000 in
theorem a_488 : Cond.methodLink "MayNotPauseLaw" 47 (⟨"MayNotPause", "judged", "()I"⟩ : MethodName) ∈ wG := wG_at 488 rfl rfl
set_option maxRecDepth 100000 in
theorem a_489 : Cond.instanceMethod (⟨"MayNotPause", "judged", "()I"⟩ : MethodName) ∈ wG := wG_at 489 rfl rfl
set_option maxRecDepth 100000 in
theorem a_490 : Cond.selects "MayNotPause" (⟨"MayNotPause", "judged", "()I"⟩ : MethodName) (⟨"MayNotPause", "judged", "()I"⟩ : MethodName) ∈ wG := wG_at 490 rfl rfl
set_option maxRecDepth 100000 in
theorem a_491 : Cond.code (⟨"MayNotPause", "judged", "()I"⟩ : MethodName) cX7_judged 3 (some .int) ∈ wG := wG_at 491 rfl rfl
set_option maxRecDepth 100000 in
theorem a_492 : Cond.methodLink "MayNotPauseLaw" 52 (⟨"MayNotPause", "rest", "(I)I"⟩ : MethodName) ∈ wG := wG_at 492 rfl rfl
set_option maxRecDepth 100000 in
theorem a_493 : Cond.instanceMethod (⟨"MayNotPause", "rest", "(I)I"⟩ : MethodName) ∈ wG := wG_at 493 rfl rfl
set_option maxRecDepth 100000 in
theorem a_494 : Cond.selects "MayNotPause" (⟨"MayNotPause", "rest", "(I)I"⟩ : MethodName) (⟨"MayNotPause", "rest", "(I)I"⟩ : MethodName) ∈ wG := wG_at 494 rfl rfl
set_option maxRecDepth 100000 in
theorem a_495 : Cond.code (⟨"MayNotPause", "rest", "(I)I"⟩ : MethodName) cX7_rest 3 (some .int) ∈ wG := wG_at 495 rfl rfl
set_option maxRecDepth 100000 in
theorem a_496 : Cond.methodLink "MayNotPauseLaw" 56 (⟨"MayNotPause", "doing", "(II)I"⟩ : MethodName) ∈ wG := wG_at 496 rfl rfl
set_option maxRecDepth 100000 in
theorem a_497 : Cond.instanceMethod (⟨"MayNotPause", "doing", "(II)I"⟩ : MethodName) ∈ wG := wG_at 497 rfl rfl
set_option maxRecDepth 100000 in
theorem a_498 : Cond.selects "MayNotPause" (⟨"MayNotPause", "doing", "(II)I"⟩ : MethodName) (⟨"MayNotPause", "doing", "(II)I"⟩ : MethodName) ∈ wG := wG_at 498 rfl rfl
set_option maxRecDepth 100000 in
theorem a_499 : Cond.code (⟨"MayNotPause", "doing", "(II)I"⟩ : MethodName) cX7_doing 3 (some .int) ∈ wG := wG_at 499 rfl rfl
set_option maxRecDepth 100000 in
theorem a_500 : Cond.methodLink "MayNotPause" 164 (⟨"MayNotPause$Telling", "saidIn", "(I)I"⟩ : MethodName) ∈ wG := wG_at 500 rfl rfl
set_option maxRecDepth 100000 in
theorem a_501 : Cond.instanceMethod (⟨"MayNotPause$Telling", "saidIn", "(I)I"⟩ : MethodName) ∈ wG := wG_at 501 rfl rfl
set_option maxRecDepth 100000 in
theorem a_502 : Cond.selects "MayNotPause$Telling" (⟨"MayNotPause$Telling", "saidIn", "(I)I"⟩ : MethodName) (⟨"MayNotPause$Telling", "saidIn", "(I)I"⟩ : MethodName) ∈ wG := wG_at 502 rfl rfl
set_option maxRecDepth 100000 in
theorem a_503 : Cond.code (⟨"MayNotPause$Telling", "saidIn", "(I)I"⟩ : MethodName) cX5_saidIn 3 (some .int) ∈ wG := wG_at 503 rfl rfl
set_option maxRecDepth 100000 in
theorem a_504 : Cond.methodLink "MayNotPause$Telling" 104 (⟨"MayNotPause$Telling", "isSaidIn", "(LMayNotPause$Turn;I)Z"⟩ : MethodName) ∈ wG := wG_at 504 rfl rfl
set_option maxRecDepth 100000 in
theorem a_505 : Cond.static (⟨"MayNotPause$Telling", "isSaidIn", "(LMayNotPause$Turn;I)Z"⟩ : MethodName) ∈ wG := wG_at 505 rfl rfl
set_option maxRecDepth 100000 in
theorem a_506 : Cond.code (⟨"MayNotPause$Telling", "isSaidIn", "(LMayNotPause$Turn;I)Z"⟩ : MethodName) cX5_isSaidIn 2 (some .boolean) ∈ wG := wG_at 506 rfl rfl
set_option maxRecDepth 100000 in
theorem a_507 : Cond.methodLink "MayNotPause" 168 (⟨"MayNotPause$Telling", "madeIn", "(I)I"⟩ : MethodName) ∈ wG := wG_at 507 rfl rfl
set_option maxRecDepth 100000 in
theorem a_508 : Cond.instanceMethod (⟨"MayNotPause$Telling", "madeIn", "(I)I"⟩ : MethodName) ∈ wG := wG_at 508 rfl rfl
set_option maxRecDepth 100000 in
theorem a_509 : Cond.selects "MayNotPause$Telling" (⟨"MayNotPause$Telling", "madeIn", "(I)I"⟩ : MethodName) (⟨"MayNotPause$Telling", "madeIn", "(I)I"⟩ : MethodName) ∈ wG := wG_at 509 rfl rfl
set_option maxRecDepth 100000 in
theorem a_510 : Cond.code (⟨"MayNotPause$Telling", "madeIn", "(I)I"⟩ : MethodName) cX5_madeIn 5 (some .int) ∈ wG := wG_at 510 rfl rfl
set_option maxRecDepth 100000 in
theorem a_511 : Cond.methodLink "MayNotPause" 171 (⟨"MayNotPause$Telling", "inHandIn", "(I)I"⟩ : MethodName) ∈ wG := wG_at 511 rfl rfl
set_option maxRecDepth 100000 in
theorem a_512 : Cond.instanceMethod (⟨"MayNotPause$Telling", "inHandIn", "(I)I"⟩ : MethodName) ∈ wG := wG_at 512 rfl rfl
set_option maxRecDepth 100000 in
theorem a_513 : Cond.selects "MayNotPause$Telling" (⟨"MayNotPause$Telling", "inHandIn", "(I)I"⟩ : MethodName) (⟨"MayNotPause$Telling", "inHandIn", "(I)I"⟩ : MethodName) ∈ wG := wG_at 513 rfl rfl
set_option maxRecDepth 100000 in
theorem a_514 : Cond.code (⟨"MayNotPause$Telling", "inHandIn", "(I)I"⟩ : MethodName) cX5_inHandIn 5 (some .int) ∈ wG := wG_at 514 rfl rfl
set_option maxRecDepth 100000 in
theorem a_515 : Cond.methodLink "MayNotPauseLaw" 60 (⟨"MayNotPause", "put", "(I)I"⟩ : MethodName) ∈ wG := wG_at 515 rfl rfl
set_option maxRecDepth 100000 in
theorem a_516 : Cond.instanceMethod (⟨"MayNotPause", "put", "(I)I"⟩ : MethodName) ∈ wG := wG_at 516 rfl rfl
set_option maxRecDepth 100000 in
theorem a_517 : Cond.selects "MayNotPause" (⟨"MayNotPause", "put", "(I)I"⟩ : MethodName) (⟨"MayNotPause", "put", "(I)I"⟩ : MethodName) ∈ wG := wG_at 517 rfl rfl
set_option maxRecDepth 100000 in
theorem a_518 : Cond.code (⟨"MayNotPause", "put", "(I)I"⟩ : MethodName) cX7_put 2 (some .int) ∈ wG := wG_at 518 rfl rfl
set_option maxRecDepth 100000 in
theorem a_519 : Cond.methodLink "MayNotPause" 178 (⟨"MayNotPause$PutSearch", "seek", "()V"⟩ : MethodName) ∈ wG := wG_at 519 rfl rfl
set_option maxRecDepth 100000 in
theorem a_520 : Cond.instanceMethod (⟨"MayNotPause$PutSearch", "seek", "()V"⟩ : MethodName) ∈ wG := wG_at 520 rfl rfl
set_option maxRecDepth 100000 in
theorem a_521 : Cond.selects "MayNotPause$PutSearch" (⟨"MayNotPause$PutSearch", "seek", "()V"⟩ : MethodName) (⟨"MayNotPause$PutSearch", "seek", "()V"⟩ : MethodName) ∈ wG := wG_at 521 rfl rfl
set_option maxRecDepth 100000 in
theorem a_522 : Cond.code (⟨"MayNotPause$PutSearch", "seek", "()V"⟩ : MethodName) cX1_seek 2 none ∈ wG := wG_at 522 rfl rfl
set_option maxRecDepth 100000 in
theorem a_523 : Cond.methodLink "MayNotPause$PutSearch" 29 (⟨"MayNotPause$PutSearch", "attempt", "(IIIII)V"⟩ : MethodName) ∈ wG := wG_at 523 rfl rfl
set_option maxRecDepth 100000 in
theorem a_525 : Cond.instanceMethod (⟨"MayNotPause$PutSearch", "attempt", "(IIIII)V"⟩ : MethodName) ∈ wG := wG_at 525 rfl rfl
set_option maxRecDepth 100000 in
theorem a_526 : Cond.code (⟨"MayNotPause$PutSearch", "attempt", "(IIIII)V"⟩ : MethodName) cX1_attempt 7 none ∈ wG := wG_at 526 rfl rfl
set_option maxRecDepth 100000 in
theorem a_527 : Cond.methodLink "MayNotPause$PutSearch" 45 (⟨"MayNotPause$Telling", "open", "([I)V"⟩ : MethodName) ∈ wG := wG_at 527 rfl rfl
set_option maxRecDepth 100000 in
theorem a_528 : Cond.methodLink "MayNotPause$PutSearch" 51 (⟨"MayNotPause$Telling", "isWholeWithoutPause", "()Z"⟩ : MethodName) ∈ wG := wG_at 528 rfl rfl
set_option maxRecDepth 100000 in
theorem a_529 : Cond.instanceMethod (⟨"MayNotPause$Telling", "isWholeWithoutPause", "()Z"⟩ : MethodName) ∈ wG := wG_at 529 rfl rfl
set_option maxRecDepth 100000 in
theorem a_530 : Cond.selects "MayNotPause$Telling" (⟨"MayNotPause$Telling", "isWholeWithoutPause", "()Z"⟩ : MethodName) (⟨"MayNotPause$Telling", "isWholeWithoutPause", "()Z"⟩ : MethodName) ∈ wG := wG_at 530 rfl rfl
set_option maxRecDepth 100000 in
theorem a_531 : Cond.code (⟨"MayNotPause$Telling", "isWholeWithoutPause", "()Z"⟩ : MethodName) cX5_isWholeWithoutPause 1 (some .boolean) ∈ wG := wG_at 531 rfl rfl
set_option maxRecDepth 100000 in
theorem a_532 : Cond.methodLink "MayNotPause$PutSearch" 55 (⟨"MayNotPause$Telling", "add", "(LMayNotPause$Script;I)V"⟩ : MethodName) ∈ wG := wG_at 532 rfl rfl
set_option maxRecDepth 100000 in
theorem a_533 : Cond.methodLink "MayNotPause$PutSearch" 59 (⟨"MayNotPause$Telling", "last", "()LMayNotPause$Turn;"⟩ : MethodName) ∈ wG := wG_at 533 rfl rfl
set_option maxRecDepth 100000 in
theorem a_534 : Cond.methodLink "MayNotPause$PutSearch" 33 (⟨"MayNotPause$PutSearch", "seekOne", "()V"⟩ : MethodName) ∈ wG := wG_at 534 rfl rfl
set_option maxRecDepth 100000 in
theorem a_536 : Cond.instanceMethod (⟨"MayNotPause$PutSearch", "seekOne", "()V"⟩ : MethodName) ∈ wG := wG_at 536 rfl rfl
set_option maxRecDepth 100000 in
theorem a_537 : Cond.code (⟨"MayNotPause$PutSearch", "seekOne", "()V"⟩ : MethodName) cX1_seekOne 3 none ∈ wG := wG_at 537 rfl rfl
set_option maxRecDepth 100000 in
theorem a_538 : Cond.methodLink "MayNotPause$PutSearch" 36 (⟨"MayNotPause$PutSearch", "seekTwo", "()V"⟩ : MethodName) ∈ wG := wG_at 538 rfl rfl
set_option maxRecDepth 100000 in
theorem a_540 : Cond.instanceMethod (⟨"MayNotPause$PutSearch", "seekTwo", "()V"⟩ : MethodName) ∈ wG := wG_at 540 rfl rfl
set_option maxRecDepth 100000 in
theorem a_541 : Cond.code (⟨"MayNotPause$PutSearch", "seekTwo", "()V"⟩ : MethodName) cX1_seekTwo 5 none ∈ wG := wG_at 541 rfl rfl
set_option maxRecDepth 100000 in
theorem a_542 : Cond.methodLink "MayNotPauseLaw" 64 (⟨"MayNotPause", "order", "(I)I"⟩ : MethodName) ∈ wG := wG_at 542 rfl rfl
set_option maxRecDepth 100000 in
theorem a_543 : Cond.instanceMethod (⟨"MayNotPause", "order", "(I)I"⟩ : MethodName) ∈ wG := wG_at 543 rfl rfl
set_option maxRecDepth 100000 in
theorem a_544 : Cond.selects "MayNotPause" (⟨"MayNotPause", "order", "(I)I"⟩ : MethodName) (⟨"MayNotPause", "order", "(I)I"⟩ : MethodName) ∈ wG := wG_at 544 rfl rfl
set_option maxRecDepth 100000 in
theorem a_545 : Cond.code (⟨"MayNotPause", "order", "(I)I"⟩ : MethodName) cX7_order 2 (some .int) ∈ wG := wG_at 545 rfl rfl
set_option maxRecDepth 100000 in
theorem a_546 : Cond.methodLink "MayNotPause" 187 (⟨"MayNotPause$OrderSearch", "seek", "()V"⟩ : MethodName) ∈ wG := wG_at 546 rfl rfl
set_option maxRecDepth 100000 in
theorem a_547 : Cond.instanceMethod (⟨"MayNotPause$OrderSearch", "seek", "()V"⟩ : MethodName) ∈ wG := wG_at 547 rfl rfl
set_option maxRecDepth 100000 in
theorem a_548 : Cond.selects "MayNotPause$OrderSearch" (⟨"MayNotPause$OrderSearch", "seek", "()V"⟩ : MethodName) (⟨"MayNotPause$OrderSearch", "seek", "()V"⟩ : MethodName) ∈ wG := wG_at 548 rfl rfl
set_option maxRecDepth 100000 in
theorem a_549 : Cond.code (⟨"MayNotPause$OrderSearch", "seek", "()V"⟩ : MethodName) cX0_seek 2 none ∈ wG := wG_at 549 rfl rfl
set_option maxRecDepth 100000 in
theorem a_550 : Cond.methodLink "MayNotPause$OrderSearch" 39 (⟨"java/lang/Math", "min", "(II)I"⟩ : MethodName) ∈ wG := wG_at 550 rfl rfl
set_option maxRecDepth 100000 in
theorem a_553 : Cond.constant "MayNotPause$OrderSearch" 46 1000000 ∈ wG := wG_at 553 rfl rfl
set_option maxRecDepth 100000 in
theorem a_554 : Cond.methodLink "MayNotPause$OrderSearch" 53 (⟨"MayNotPause$Telling", "open", "([I)V"⟩ : MethodName) ∈ wG := wG_at 554 rfl rfl
set_option maxRecDepth 100000 in
theorem a_555 : Cond.methodLink "MayNotPause$OrderSearch" 59 (⟨"MayNotPause$Telling", "letHimPause", "()V"⟩ : MethodName) ∈ wG := wG_at 555 rfl rfl
set_option maxRecDepth 100000 in
theorem a_556 : Cond.instanceMethod (⟨"MayNotPause$Telling", "letHimPause", "()V"⟩ : MethodName) ∈ wG := wG_at 556 rfl rfl
set_option maxRecDepth 100000 in
theorem a_557 : Cond.selects "MayNotPause$Telling" (⟨"MayNotPause$Telling", "letHimPause", "()V"⟩ : MethodName) (⟨"MayNotPause$Telling", "letHimPause", "()V"⟩ : MethodName) ∈ wG := wG_at 557 rfl rfl
set_option maxRecDepth 100000 in
theorem a_558 : Cond.code (⟨"MayNotPause$Telling", "letHimPause", "()V"⟩ : MethodName) cX5_letHimPause 1 none ∈ wG := wG_at 558 rfl rfl
set_option maxRecDepth 100000 in
theorem a_559 : Cond.methodLink "MayNotPause$OrderSearch" 62 (⟨"MayNotPause$OrderSearch", "placeFrom", "(LMayNotPause$OrderSearch;I)V"⟩ : MethodName) ∈ wG := wG_at 559 rfl rfl
set_option maxRecDepth 100000 in
theorem a_560 : Cond.static (⟨"MayNotPause$OrderSearch", "placeFrom", "(LMayNotPause$OrderSearch;I)V"⟩ : MethodName) ∈ wG := wG_at 560 rfl rfl
set_option maxRecDepth 100000 in
theorem a_561 : Cond.code (⟨"MayNotPause$OrderSearch", "placeFrom", "(LMayNotPause$OrderSearch;I)V"⟩ : MethodName) cX0_placeFrom 3 none ∈ wG := wG_at 561 rfl rfl
set_option maxRecDepth 100000 in
theorem a_562 : Cond.methodLink "MayNotPause$OrderSearch" 66 (⟨"MayNotPause$OrderSearch", "keep", "()V"⟩ : MethodName) ∈ wG := wG_at 562 rfl rfl
set_option maxRecDepth 100000 in
theorem a_564 : Cond.instanceMethod (⟨"MayNotPause$OrderSearch", "keep", "()V"⟩ : MethodName) ∈ wG := wG_at 564 rfl rfl
set_option maxRecDepth 100000 in
theorem a_565 : Cond.code (⟨"MayNotPause$OrderSearch", "keep", "()V"⟩ : MethodName) cX0_keep 2 none ∈ wG := wG_at 565 rfl rfl
set_option maxRecDepth 100000 in
theorem a_566 : Cond.methodLink "MayNotPause$OrderSearch" 80 (⟨"MayNotPause$Telling", "last", "()LMayNotPause$Turn;"⟩ : MethodName) ∈ wG := wG_at 566 rfl rfl
set_option maxRecDepth 100000 in
theorem a_567 : Cond.methodLink "MayNotPause$OrderSearch" 69 (⟨"MayNotPause$Telling", "add", "(LMayNotPause$Script;I)V"⟩ : MethodName) ∈ wG := wG_at 567 rfl rfl
set_option maxRecDepth 100000 in
theorem a_568 : Cond.methodLink "MayNotPause$OrderSearch" 73 (⟨"MayNotPause$OrderSearch", "mayBeBest", "()Z"⟩ : MethodName) ∈ wG := wG_at 568 rfl rfl
set_option maxRecDepth 100000 in
theorem a_570 : Cond.instanceMethod (⟨"MayNotPause$OrderSearch", "mayBeBest", "()Z"⟩ : MethodName) ∈ wG := wG_at 570 rfl rfl
set_option maxRecDepth 100000 in
theorem a_571 : Cond.code (⟨"MayNotPause$OrderSearch", "mayBeBest", "()Z"⟩ : MethodName) cX0_mayBeBest 2 (some .boolean) ∈ wG := wG_at 571 rfl rfl
set_option maxRecDepth 100000 in
theorem a_572 : Cond.methodLink "MayNotPause$OrderSearch" 77 (⟨"MayNotPause$Telling", "dropLast", "()V"⟩ : MethodName) ∈ wG := wG_at 572 rfl rfl
set_option maxRecDepth 100000 in
theorem a_573 : Cond.instanceMethod (⟨"MayNotPause$Telling", "dropLast", "()V"⟩ : MethodName) ∈ wG := wG_at 573 rfl rfl
set_option maxRecDepth 100000 in
theorem a_574 : Cond.selects "MayNotPause$Telling" (⟨"MayNotPause$Telling", "dropLast", "()V"⟩ : MethodName) (⟨"MayNotPause$Telling", "dropLast", "()V"⟩ : MethodName) ∈ wG := wG_at 574 rfl rfl
set_option maxRecDepth 100000 in
theorem a_575 : Cond.code (⟨"MayNotPause$Telling", "dropLast", "()V"⟩ : MethodName) cX5_dropLast 1 none ∈ wG := wG_at 575 rfl rfl
set_option maxRecDepth 100000 in
theorem a_576 : Cond.methodLink "MayNotPauseLaw" 68 (⟨"MayNotPause", "lead", "()I"⟩ : MethodName) ∈ wG := wG_at 576 rfl rfl
set_option maxRecDepth 100000 in
theorem a_577 : Cond.instanceMethod (⟨"MayNotPause", "lead", "()I"⟩ : MethodName) ∈ wG := wG_at 577 rfl rfl
set_option maxRecDepth 100000 in
theorem a_578 : Cond.selects "MayNotPause" (⟨"MayNotPause", "lead", "()I"⟩ : MethodName) (⟨"MayNotPause", "lead", "()I"⟩ : MethodName) ∈ wG := wG_at 578 rfl rfl
set_option maxRecDepth 100000 in
theorem a_579 : Cond.code (⟨"MayNotPause", "lead", "()I"⟩ : MethodName) cX7_lead 2 (some .int) ∈ wG := wG_at 579 rfl rfl
set_option maxRecDepth 100000 in
theorem a_580 : Cond.methodLink "MayNotPause" 199 (⟨"MayNotPause$Telling", "changeLead", "(I)V"⟩ : MethodName) ∈ wG := wG_at 580 rfl rfl
set_option maxRecDepth 100000 in
theorem a_581 : Cond.instanceMethod (⟨"MayNotPause$Telling", "changeLead", "(I)V"⟩ : MethodName) ∈ wG := wG_at 581 rfl rfl
set_option maxRecDepth 100000 in
theorem a_582 : Cond.selects "MayNotPause$Telling" (⟨"MayNotPause$Telling", "changeLead", "(I)V"⟩ : MethodName) (⟨"MayNotPause$Telling", "changeLead", "(I)V"⟩ : MethodName) ∈ wG := wG_at 582 rfl rfl
set_option maxRecDepth 100000 in
theorem a_583 : Cond.code (⟨"MayNotPause$Telling", "changeLead", "(I)V"⟩ : MethodName) cX5_changeLead 2 none ∈ wG := wG_at 583 rfl rfl
set_option maxRecDepth 100000 in
theorem a_584 : Cond.methodLink "MayNotPause" 206 (⟨"MayNotPause$Telling", "isWholeWithoutPause", "()Z"⟩ : MethodName) ∈ wG := wG_at 584 rfl rfl
set_option maxRecDepth 100000 in
theorem a_585 : Cond.methodLink "MayNotPauseLaw" 72 (⟨"MayNotPause", "odds", "(I)J"⟩ : MethodName) ∈ wG := wG_at 585 rfl rfl
set_option maxRecDepth 100000 in
theorem a_586 : Cond.instanceMethod (⟨"MayNotPause", "odds", "(I)J"⟩ : MethodName) ∈ wG := wG_at 586 rfl rfl
set_option maxRecDepth 100000 in
theorem a_587 : Cond.selects "MayNotPause" (⟨"MayNotPause", "odds", "(I)J"⟩ : MethodName) (⟨"MayNotPause", "odds", "(I)J"⟩ : MethodName) ∈ wG := wG_at 587 rfl rfl
set_option maxRecDepth 100000 in
theorem a_588 : Cond.code (⟨"MayNotPause", "odds", "(I)J"⟩ : MethodName) cX7_odds 11 (some .long) ∈ wG := wG_at 588 rfl rfl
set_option maxRecDepth 100000 in
theorem a_589 : Cond.constantLong "MayNotPause" 209 (-9223372036854775806) ∈ wG := wG_at 589 rfl rfl
set_option maxRecDepth 100000 in
theorem a_590 : Cond.methodLink "MayNotPause" 211 (⟨"MayNotPause", "sixteenths", "(I)I"⟩ : MethodName) ∈ wG := wG_at 590 rfl rfl
set_option maxRecDepth 100000 in
theorem a_592 : Cond.instanceMethod (⟨"MayNotPause", "sixteenths", "(I)I"⟩ : MethodName) ∈ wG := wG_at 592 rfl rfl
set_option maxRecDepth 100000 in
theorem a_593 : Cond.code (⟨"MayNotPause", "sixteenths", "(I)I"⟩ : MethodName) cX7_sixteenths 2 (some .int) ∈ wG := wG_at 593 rfl rfl
set_option maxRecDepth 100000 in
theorem a_594 : Cond.methodLink "MayNotPause" 355 (⟨"java/lang/Math", "max", "(II)I"⟩ : MethodName) ∈ wG := wG_at 594 rfl rfl
set_option maxRecDepth 100000 in
theorem a_595 : Cond.constantLong "MayNotPause" 214 16 ∈ wG := wG_at 595 rfl rfl
set_option maxRecDepth 100000 in
theorem a_596 : Cond.constantLong "MayNotPause" 216 2 ∈ wG := wG_at 596 rfl rfl
set_option maxRecDepth 100000 in
theorem a_597 : Cond.methodLink "MayNotPauseLaw" 77 (⟨"MayNotPause", "drawn", "(I)I"⟩ : MethodName) ∈ wG := wG_at 597 rfl rfl
set_option maxRecDepth 100000 in
theorem a_598 : Cond.instanceMethod (⟨"MayNotPause", "drawn", "(I)I"⟩ : MethodName) ∈ wG := wG_at 598 rfl rfl
set_option maxRecDepth 100000 in
theorem a_599 : Cond.selects "MayNotPause" (⟨"MayNotPause", "drawn", "(I)I"⟩ : MethodName) (⟨"MayNotPause", "drawn", "(I)I"⟩ : MethodName) ∈ wG := wG_at 599 rfl rfl
set_option maxRecDepth 100000 in
theorem a_600 : Cond.code (⟨"MayNotPause", "drawn", "(I)I"⟩ : MethodName) cX7_drawn 5 (some .int) ∈ wG := wG_at 600 rfl rfl
set_option maxRecDepth 100000 in
theorem a_601 : Cond.constant "MayNotPause" 218 1103515245 ∈ wG := wG_at 601 rfl rfl
set_option maxRecDepth 100000 in
theorem a_602 : Cond.methodLink "MayNotPauseLaw" 81 (⟨"MayNotPause", "line", "(II)I"⟩ : MethodName) ∈ wG := wG_at 602 rfl rfl
set_option maxRecDepth 100000 in
theorem a_603 : Cond.instanceMethod (⟨"MayNotPause", "line", "(II)I"⟩ : MethodName) ∈ wG := wG_at 603 rfl rfl
set_option maxRecDepth 100000 in
theorem a_604 : Cond.selects "MayNotPause" (⟨"MayNotPause", "line", "(II)I"⟩ : MethodName) (⟨"MayNotPause", "line", "(II)I"⟩ : MethodName) ∈ wG := wG_at 604 rfl rfl
set_option maxRecDepth 100000 in
theorem a_605 : Cond.code (⟨"MayNotPause", "line", "(II)I"⟩ : MethodName) cX7_line 4 (some .int) ∈ wG := wG_at 605 rfl rfl
set_option maxRecDepth 100000 in
theorem a_606 : Cond.methodLink "MayNotPause" 219 (⟨"MayNotPause", "errorsBy", "(II)I"⟩ : MethodName) ∈ wG := wG_at 606 rfl rfl
set_option maxRecDepth 100000 in
theorem a_608 : Cond.instanceMethod (⟨"MayNotPause", "errorsBy", "(II)I"⟩ : MethodName) ∈ wG := wG_at 608 rfl rfl
set_option maxRecDepth 100000 in
theorem a_609 : Cond.code (⟨"MayNotPause", "errorsBy", "(II)I"⟩ : MethodName) cX7_errorsBy 7 (some .int) ∈ wG := wG_at 609 rfl rfl
set_option maxRecDepth 100000 in
theorem a_610 : Cond.methodLink "MayNotPause" 222 (⟨"MayNotPause", "bestLine", "()I"⟩ : MethodName) ∈ wG := wG_at 610 rfl rfl
set_option maxRecDepth 100000 in
theorem a_612 : Cond.instanceMethod (⟨"MayNotPause", "bestLine", "()I"⟩ : MethodName) ∈ wG := wG_at 612 rfl rfl
set_option maxRecDepth 100000 in
theorem a_613 : Cond.code (⟨"MayNotPause", "bestLine", "()I"⟩ : MethodName) cX7_bestLine 5 (some .int) ∈ wG := wG_at 613 rfl rfl
set_option maxRecDepth 100000 in
theorem a_614 : Cond.methodLink "MayNotPauseLaw" 85 (⟨"MayNotPause", "seen", "(II)I"⟩ : MethodName) ∈ wG := wG_at 614 rfl rfl
set_option maxRecDepth 100000 in
theorem a_615 : Cond.instanceMethod (⟨"MayNotPause", "seen", "(II)I"⟩ : MethodName) ∈ wG := wG_at 615 rfl rfl
set_option maxRecDepth 100000 in
theorem a_616 : Cond.selects "MayNotPause" (⟨"MayNotPause", "seen", "(II)I"⟩ : MethodName) (⟨"MayNotPause", "seen", "(II)I"⟩ : MethodName) ∈ wG := wG_at 616 rfl rfl
set_option maxRecDepth 100000 in
theorem a_617 : Cond.code (⟨"MayNotPause", "seen", "(II)I"⟩ : MethodName) cX7_seen 3 (some .int) ∈ wG := wG_at 617 rfl rfl
set_option maxRecDepth 100000 in
theorem a_618 : Cond.methodLink "MayNotPause" 225 (⟨"MayNotPause$Sightings", "mayBe", "(II)Z"⟩ : MethodName) ∈ wG := wG_at 618 rfl rfl
set_option maxRecDepth 100000 in
theorem a_619 : Cond.static (⟨"MayNotPause$Sightings", "mayBe", "(II)Z"⟩ : MethodName) ∈ wG := wG_at 619 rfl rfl
set_option maxRecDepth 100000 in
theorem a_620 : Cond.code (⟨"MayNotPause$Sightings", "mayBe", "(II)Z"⟩ : MethodName) cX4_mayBe 2 (some .boolean) ∈ wG := wG_at 620 rfl rfl
set_option maxRecDepth 100000 in
theorem a_621 : Cond.methodLink "MayNotPause" 229 (⟨"MayNotPause$Sightings", "isFull", "()Z"⟩ : MethodName) ∈ wG := wG_at 621 rfl rfl
set_option maxRecDepth 100000 in
theorem a_622 : Cond.instanceMethod (⟨"MayNotPause$Sightings", "isFull", "()Z"⟩ : MethodName) ∈ wG := wG_at 622 rfl rfl
set_option maxRecDepth 100000 in
theorem a_623 : Cond.selects "MayNotPause$Sightings" (⟨"MayNotPause$Sightings", "isFull", "()Z"⟩ : MethodName) (⟨"MayNotPause$Sightings", "isFull", "()Z"⟩ : MethodName) ∈ wG := wG_at 623 rfl rfl
set_option maxRecDepth 100000 in
theorem a_624 : Cond.code (⟨"MayNotPause$Sightings", "isFull", "()Z"⟩ : MethodName) cX4_isFull 1 (some .boolean) ∈ wG := wG_at 624 rfl rfl
set_option maxRecDepth 100000 in
theorem a_625 : Cond.methodLink "MayNotPause" 230 (⟨"MayNotPause$Sightings", "add", "(II)V"⟩ : MethodName) ∈ wG := wG_at 625 rfl rfl
set_option maxRecDepth 100000 in
theorem a_626 : Cond.instanceMethod (⟨"MayNotPause$Sightings", "add", "(II)V"⟩ : MethodName) ∈ wG := wG_at 626 rfl rfl
set_option maxRecDepth 100000 in
theorem a_627 : Cond.selects "MayNotPause$Sightings" (⟨"MayNotPause$Sightings", "add", "(II)V"⟩ : MethodName) (⟨"MayNotPause$Sightings", "add", "(II)V"⟩ : MethodName) ∈ wG := wG_at 627 rfl rfl
set_option maxRecDepth 100000 in
theorem a_628 : Cond.code (⟨"MayNotPause$Sightings", "add", "(II)V"⟩ : MethodName) cX4_add 3 none ∈ wG := wG_at 628 rfl rfl
set_option maxRecDepth 100000 in
theorem a_629 : Cond.methodLink "MayNotPause$Sightings" 22 (⟨"MayNotPause$Sightings", "isFull", "()Z"⟩ : MethodName) ∈ wG := wG_at 629 rfl rfl
set_option maxRecDepth 100000 in
theorem a_630 : Cond.methodLink "MayNotPauseLaw" 89 (⟨"MayNotPause", "forget", "()I"⟩ : MethodName) ∈ wG := wG_at 630 rfl rfl
set_option maxRecDepth 100000 in
theorem a_631 : Cond.instanceMethod (⟨"MayNotPause", "forget", "()I"⟩ : MethodName) ∈ wG := wG_at 631 rfl rfl
set_option maxRecDepth 100000 in
theorem a_632 : Cond.selects "MayNotPause" (⟨"MayNotPause", "forget", "()I"⟩ : MethodName) (⟨"MayNotPause", "forget", "()I"⟩ : MethodName) ∈ wG := wG_at 632 rfl rfl
set_option maxRecDepth 100000 in
theorem a_633 : Cond.code (⟨"MayNotPause", "forget", "()I"⟩ : MethodName) cX7_forget 2 (some .int) ∈ wG := wG_at 633 rfl rfl
set_option maxRecDepth 100000 in
theorem a_634 : Cond.methodLink "MayNotPauseLaw" 93 (⟨"MayNotPause", "leads", "()I"⟩ : MethodName) ∈ wG := wG_at 634 rfl rfl
set_option maxRecDepth 100000 in
theorem a_635 : Cond.instanceMethod (⟨"MayNotPause", "leads", "()I"⟩ : MethodName) ∈ wG := wG_at 635 rfl rfl
set_option maxRecDepth 100000 in
theorem a_636 : Cond.selects "MayNotPause" (⟨"MayNotPause", "leads", "()I"⟩ : MethodName) (⟨"MayNotPause", "leads", "()I"⟩ : MethodName) ∈ wG := wG_at 636 rfl rfl
set_option maxRecDepth 100000 in
theorem a_637 : Cond.code (⟨"MayNotPause", "leads", "()I"⟩ : MethodName) cX7_leads 3 (some .int) ∈ wG := wG_at 637 rfl rfl
set_option maxRecDepth 100000 in
theorem a_638 : Cond.methodLink "MayNotPause" 235 (⟨"MayNotPause$Sightings", "fit", "(LMayNotPause$Telling;)Z"⟩ : MethodName) ∈ wG := wG_at 638 rfl rfl
set_option maxRecDepth 100000 in
theorem a_639 : Cond.instanceMethod (⟨"MayNotPause$Sightings", "fit", "(LMayNotPause$Telling;)Z"⟩ : MethodName) ∈ wG := wG_at 639 rfl rfl
set_option maxRecDepth 100000 in
theorem a_640 : Cond.selects "MayNotPause$Sightings" (⟨"MayNotPause$Sightings", "fit", "(LMayNotPause$Telling;)Z"⟩ : MethodName) (⟨"MayNotPause$Sightings", "fit", "(LMayNotPause$Telling;)Z"⟩ : MethodName) ∈ wG := wG_at 640 rfl rfl
set_option maxRecDepth 100000 in
theorem a_641 : Cond.code (⟨"MayNotPause$Sightings", "fit", "(LMayNotPause$Telling;)Z"⟩ : MethodName) cX4_fit 3 (some .boolean) ∈ wG := wG_at 641 rfl rfl
set_option maxRecDepth 100000 in
theorem a_642 : Cond.methodLink "MayNotPause$Sightings" 26 (⟨"MayNotPause$Telling", "madeIn", "(I)I"⟩ : MethodName) ∈ wG := wG_at 642 rfl rfl
set_option maxRecDepth 100000 in
theorem a_643 : Cond.methodLink "MayNotPauseLaw" 97 (⟨"MayNotPause", "read", "(I)I"⟩ : MethodName) ∈ wG := wG_at 643 rfl rfl
set_option maxRecDepth 100000 in
theorem a_644 : Cond.instanceMethod (⟨"MayNotPause", "read", "(I)I"⟩ : MethodName) ∈ wG := wG_at 644 rfl rfl
set_option maxRecDepth 100000 in
theorem a_645 : Cond.selects "MayNotPause" (⟨"MayNotPause", "read", "(I)I"⟩ : MethodName) (⟨"MayNotPause", "read", "(I)I"⟩ : MethodName) ∈ wG := wG_at 645 rfl rfl
set_option maxRecDepth 100000 in
theorem a_646 : Cond.code (⟨"MayNotPause", "read", "(I)I"⟩ : MethodName) cX7_read 7 (some .int) ∈ wG := wG_at 646 rfl rfl
set_option maxRecDepth 100000 in
theorem a_647 : Cond.methodLink "MayNotPause" 239 (⟨"MayNotPause", "isSheet", "(I)Z"⟩ : MethodName) ∈ wG := wG_at 647 rfl rfl
set_option maxRecDepth 100000 in
theorem a_648 : Cond.static (⟨"MayNotPause", "isSheet", "(I)Z"⟩ : MethodName) ∈ wG := wG_at 648 rfl rfl
set_option maxRecDepth 100000 in
theorem a_649 : Cond.code (⟨"MayNotPause", "isSheet", "(I)Z"⟩ : MethodName) cX7_isSheet 1 (some .boolean) ∈ wG := wG_at 649 rfl rfl
set_option maxRecDepth 100000 in
theorem a_650 : Cond.methodLink "MayNotPause" 245 (⟨"MayNotPause", "found", "(I)I"⟩ : MethodName) ∈ wG := wG_at 650 rfl rfl
set_option maxRecDepth 100000 in
theorem a_652 : Cond.instanceMethod (⟨"MayNotPause", "found", "(I)I"⟩ : MethodName) ∈ wG := wG_at 652 rfl rfl
set_option maxRecDepth 100000 in
theorem a_653 : Cond.code (⟨"MayNotPause", "found", "(I)I"⟩ : MethodName) cX7_found 2 (some .int) ∈ wG := wG_at 653 rfl rfl
set_option maxRecDepth 100000 in
theorem a_654 : Cond.methodLink "MayNotPause" 249 (⟨"MayNotPause$Sheet", "item", "(I)I"⟩ : MethodName) ∈ wG := wG_at 654 rfl rfl
set_option maxRecDepth 100000 in
theorem a_655 : Cond.instanceMethod (⟨"MayNotPause$Sheet", "item", "(I)I"⟩ : MethodName) ∈ wG := wG_at 655 rfl rfl
set_option maxRecDepth 100000 in
theorem a_656 : Cond.selects "MayNotPause$Sheet" (⟨"MayNotPause$Sheet", "item", "(I)I"⟩ : MethodName) (⟨"MayNotPause$Sheet", "item", "(I)I"⟩ : MethodName) ∈ wG := wG_at 656 rfl rfl
set_option maxRecDepth 100000 in
theorem a_657 : Cond.code (⟨"MayNotPause$Sheet", "item", "(I)I"⟩ : MethodName) cX3_item 2 (some .int) ∈ wG := wG_at 657 rfl rfl
set_option maxRecDepth 100000 in
theorem a_658 : Cond.methodLink "MayNotPause$Sheet" 26 (⟨"MayNotPause$Sheet", "hasItem", "(I)Z"⟩ : MethodName) ∈ wG := wG_at 658 rfl rfl
set_option maxRecDepth 100000 in
theorem a_659 : Cond.instanceMethod (⟨"MayNotPause$Sheet", "hasItem", "(I)Z"⟩ : MethodName) ∈ wG := wG_at 659 rfl rfl
set_option maxRecDepth 100000 in
theorem a_660 : Cond.selects "MayNotPause$Sheet" (⟨"MayNotPause$Sheet", "hasItem", "(I)Z"⟩ : MethodName) (⟨"MayNotPause$Sheet", "hasItem", "(I)Z"⟩ : MethodName) ∈ wG := wG_at 660 rfl rfl
set_option maxRecDepth 100000 in
theorem a_661 : Cond.code (⟨"MayNotPause$Sheet", "hasItem", "(I)Z"⟩ : MethodName) cX3_hasItem 2 (some .boolean) ∈ wG := wG_at 661 rfl rfl
set_option maxRecDepth 100000 in
theorem a_662 : Cond.methodLink "MayNotPauseLaw" 101 (⟨"MayNotPause", "sheet", "(III)I"⟩ : MethodName) ∈ wG := wG_at 662 rfl rfl
set_option maxRecDepth 100000 in
theorem a_663 : Cond.instanceMethod (⟨"MayNotPause", "sheet", "(III)I"⟩ : MethodName) ∈ wG := wG_at 663 rfl rfl
set_option maxRecDepth 100000 in
theorem a_664 : Cond.selects "MayNotPause" (⟨"MayNotPause", "sheet", "(III)I"⟩ : MethodName) (⟨"MayNotPause", "sheet", "(III)I"⟩ : MethodName) ∈ wG := wG_at 664 rfl rfl
set_option maxRecDepth 100000 in
theorem a_665 : Cond.code (⟨"MayNotPause", "sheet", "(III)I"⟩ : MethodName) cX7_sheet 4 (some .int) ∈ wG := wG_at 665 rfl rfl
set_option maxRecDepth 100000 in
theorem a_666 : Cond.methodLink "MayNotPause" 252 (⟨"MayNotPause", "isForm", "(I)Z"⟩ : MethodName) ∈ wG := wG_at 666 rfl rfl
set_option maxRecDepth 100000 in
theorem a_667 : Cond.static (⟨"MayNotPause", "isForm", "(I)Z"⟩ : MethodName) ∈ wG := wG_at 667 rfl rfl
set_option maxRecDepth 100000 in
theorem a_668 : Cond.code (⟨"MayNotPause", "isForm", "(I)Z"⟩ : MethodName) cX7_isForm 1 (some .boolean) ∈ wG := wG_at 668 rfl rfl
set_option maxRecDepth 100000 in
theorem a_669 : Cond.methodLink "MayNotPause" 255 (⟨"MayNotPause$Sheet", "renew", "(II)V"⟩ : MethodName) ∈ wG := wG_at 669 rfl rfl
set_option maxRecDepth 100000 in
theorem a_670 : Cond.instanceMethod (⟨"MayNotPause$Sheet", "renew", "(II)V"⟩ : MethodName) ∈ wG := wG_at 670 rfl rfl
set_option maxRecDepth 100000 in
theorem a_671 : Cond.selects "MayNotPause$Sheet" (⟨"MayNotPause$Sheet", "renew", "(II)V"⟩ : MethodName) (⟨"MayNotPause$Sheet", "renew", "(II)V"⟩ : MethodName) ∈ wG := wG_at 671 rfl rfl
set_option maxRecDepth 100000 in
theorem a_672 : Cond.code (⟨"MayNotPause$Sheet", "renew", "(II)V"⟩ : MethodName) cX3_renew 4 none ∈ wG := wG_at 672 rfl rfl
set_option maxRecDepth 100000 in
theorem a_673 : Cond.methodLink "MayNotPauseLaw" 106 (⟨"MayNotPause", "lose", "(I)I"⟩ : MethodName) ∈ wG := wG_at 673 rfl rfl
set_option maxRecDepth 100000 in
theorem a_674 : Cond.instanceMethod (⟨"MayNotPause", "lose", "(I)I"⟩ : MethodName) ∈ wG := wG_at 674 rfl rfl
set_option maxRecDepth 100000 in
theorem a_675 : Cond.selects "MayNotPause" (⟨"MayNotPause", "lose", "(I)I"⟩ : MethodName) (⟨"MayNotPause", "lose", "(I)I"⟩ : MethodName) ∈ wG := wG_at 675 rfl rfl
set_option maxRecDepth 100000 in
theorem a_676 : Cond.code (⟨"MayNotPause", "lose", "(I)I"⟩ : MethodName) cX7_lose 2 (some .int) ∈ wG := wG_at 676 rfl rfl
set_option maxRecDepth 100000 in
theorem a_677 : Cond.methodLink "MayNotPauseLaw" 110 (⟨"MayNotPause", "lay", "(IIII)I"⟩ : MethodName) ∈ wG := wG_at 677 rfl rfl
set_option maxRecDepth 100000 in
theorem a_678 : Cond.instanceMethod (⟨"MayNotPause", "lay", "(IIII)I"⟩ : MethodName) ∈ wG := wG_at 678 rfl rfl
set_option maxRecDepth 100000 in
theorem a_679 : Cond.selects "MayNotPause" (⟨"MayNotPause", "lay", "(IIII)I"⟩ : MethodName) (⟨"MayNotPause", "lay", "(IIII)I"⟩ : MethodName) ∈ wG := wG_at 679 rfl rfl
set_option maxRecDepth 100000 in
theorem a_680 : Cond.code (⟨"MayNotPause", "lay", "(IIII)I"⟩ : MethodName) cX7_lay 6 (some .int) ∈ wG := wG_at 680 rfl rfl
set_option maxRecDepth 100000 in
theorem a_681 : Cond.methodLink "MayNotPause" 258 (⟨"MayNotPause", "findingAt", "(LMayNotPause$Sheet;II)I"⟩ : MethodName) ∈ wG := wG_at 681 rfl rfl
set_option maxRecDepth 100000 in
theorem a_682 : Cond.static (⟨"MayNotPause", "findingAt", "(LMayNotPause$Sheet;II)I"⟩ : MethodName) ∈ wG := wG_at 682 rfl rfl
set_option maxRecDepth 100000 in
theorem a_683 : Cond.code (⟨"MayNotPause", "findingAt", "(LMayNotPause$Sheet;II)I"⟩ : MethodName) cX7_findingAt 3 (some .int) ∈ wG := wG_at 683 rfl rfl
set_option maxRecDepth 100000 in
theorem a_684 : Cond.methodLink "MayNotPause" 358 (⟨"MayNotPause$Sheet", "hasItem", "(I)Z"⟩ : MethodName) ∈ wG := wG_at 684 rfl rfl
set_option maxRecDepth 100000 in
theorem a_685 : Cond.methodLink "MayNotPause" 262 (⟨"MayNotPause$Sheet", "store", "(II)V"⟩ : MethodName) ∈ wG := wG_at 685 rfl rfl
set_option maxRecDepth 100000 in
theorem a_686 : Cond.instanceMethod (⟨"MayNotPause$Sheet", "store", "(II)V"⟩ : MethodName) ∈ wG := wG_at 686 rfl rfl
set_option maxRecDepth 100000 in
theorem a_687 : Cond.selects "MayNotPause$Sheet" (⟨"MayNotPause$Sheet", "store", "(II)V"⟩ : MethodName) (⟨"MayNotPause$Sheet", "store", "(II)V"⟩ : MethodName) ∈ wG := wG_at 687 rfl rfl
set_option maxRecDepth 100000 in
theorem a_688 : Cond.code (⟨"MayNotPause$Sheet", "store", "(II)V"⟩ : MethodName) cX3_store 3 none ∈ wG := wG_at 688 rfl rfl
set_option maxRecDepth 100000 in
theorem a_689 : Cond.methodLink "MayNotPauseLaw" 115 (⟨"MayNotPause", "get", "(III)I"⟩ : MethodName) ∈ wG := wG_at 689 rfl rfl
set_option maxRecDepth 100000 in
theorem a_690 : Cond.instanceMethod (⟨"MayNotPause", "get", "(III)I"⟩ : MethodName) ∈ wG := wG_at 690 rfl rfl
set_option maxRecDepth 100000 in
theorem a_691 : Cond.selects "MayNotPause" (⟨"MayNotPause", "get", "(III)I"⟩ : MethodName) (⟨"MayNotPause", "get", "(III)I"⟩ : MethodName) ∈ wG := wG_at 691 rfl rfl
set_option maxRecDepth 100000 in
theorem a_692 : Cond.code (⟨"MayNotPause", "get", "(III)I"⟩ : MethodName) cX7_get 5 (some .int) ∈ wG := wG_at 692 rfl rfl
set_option maxRecDepth 100000 in
theorem a_693 : Cond.constant "MayNotPause" 265 (-2147483648) ∈ wG := wG_at 693 rfl rfl
set_option maxRecDepth 100000 in
theorem a_694 : Cond.methodLink "MayNotPauseLaw" 119 (⟨"MayNotPause", "copy", "(IIIII)I"⟩ : MethodName) ∈ wG := wG_at 694 rfl rfl
set_option maxRecDepth 100000 in
theorem a_695 : Cond.instanceMethod (⟨"MayNotPause", "copy", "(IIIII)I"⟩ : MethodName) ∈ wG := wG_at 695 rfl rfl
set_option maxRecDepth 100000 in
theorem a_696 : Cond.selects "MayNotPause" (⟨"MayNotPause", "copy", "(IIIII)I"⟩ : MethodName) (⟨"MayNotPause", "copy", "(IIIII)I"⟩ : MethodName) ∈ wG := wG_at 696 rfl rfl
set_option maxRecDepth 100000 in
theorem a_697 : Cond.code (⟨"MayNotPause", "copy", "(IIIII)I"⟩ : MethodName) cX7_copy 8 (some .int) ∈ wG := wG_at 697 rfl rfl
set_option maxRecDepth 100000 in
theorem a_698 : Cond.methodLink "MayNotPause" 272 (⟨"MayNotPause$Sheet", "hasSpan", "(II)Z"⟩ : MethodName) ∈ wG := wG_at 698 rfl rfl
set_option maxRecDepth 100000 in
theorem a_699 : Cond.instanceMethod (⟨"MayNotPause$Sheet", "hasSpan", "(II)Z"⟩ : MethodName) ∈ wG := wG_at 699 rfl rfl
set_option maxRecDepth 100000 in
theorem a_700 : Cond.selects "MayNotPause$Sheet" (⟨"MayNotPause$Sheet", "hasSpan", "(II)Z"⟩ : MethodName) (⟨"MayNotPause$Sheet", "hasSpan", "(II)Z"⟩ : MethodName) ∈ wG := wG_at 700 rfl rfl
set_option maxRecDepth 100000 in
theorem a_701 : Cond.code (⟨"MayNotPause$Sheet", "hasSpan", "(II)Z"⟩ : MethodName) cX3_hasSpan 3 (some .boolean) ∈ wG := wG_at 701 rfl rfl
set_option maxRecDepth 100000 in
theorem a_702 : Cond.methodLink "MayNotPause" 278 (⟨"java/lang/System", "arraycopy", "(Ljava/lang/Object;ILjava/lang/Object;II)V"⟩ : MethodName) ∈ wG := wG_at 702 rfl rfl
set_option maxRecDepth 100000 in
theorem a_705 : Cond.methodLink "MayNotPauseLaw" 124 (⟨"MayNotPause", "write", "(I)I"⟩ : MethodName) ∈ wG := wG_at 705 rfl rfl
set_option maxRecDepth 100000 in
theorem a_706 : Cond.instanceMethod (⟨"MayNotPause", "write", "(I)I"⟩ : MethodName) ∈ wG := wG_at 706 rfl rfl
set_option maxRecDepth 100000 in
theorem a_707 : Cond.selects "MayNotPause" (⟨"MayNotPause", "write", "(I)I"⟩ : MethodName) (⟨"MayNotPause", "write", "(I)I"⟩ : MethodName) ∈ wG := wG_at 707 rfl rfl
set_option maxRecDepth 100000 in
theorem a_708 : Cond.code (⟨"MayNotPause", "write", "(I)I"⟩ : MethodName) cX7_write 5 (some .int) ∈ wG := wG_at 708 rfl rfl
set_option maxRecDepth 100000 in
theorem a_709 : Cond.methodLink "MayNotPause" 284 (⟨"java/lang/Math", "min", "(II)I"⟩ : MethodName) ∈ wG := wG_at 709 rfl rfl
set_option maxRecDepth 100000 in
theorem a_710 : Cond.methodLink "MayNotPauseLaw" 128 (⟨"MayNotPause", "count", "(I)I"⟩ : MethodName) ∈ wG := wG_at 710 rfl rfl
set_option maxRecDepth 100000 in
theorem a_711 : Cond.instanceMethod (⟨"MayNotPause", "count", "(I)I"⟩ : MethodName) ∈ wG := wG_at 711 rfl rfl
set_option maxRecDepth 100000 in
theorem a_712 : Cond.selects "MayNotPause" (⟨"MayNotPause", "count", "(I)I"⟩ : MethodName) (⟨"MayNotPause", "count", "(I)I"⟩ : MethodName) ∈ wG := wG_at 712 rfl rfl
set_option maxRecDepth 100000 in
theorem a_713 : Cond.code (⟨"MayNotPause", "count", "(I)I"⟩ : MethodName) cX7_count 2 (some .int) ∈ wG := wG_at 713 rfl rfl
set_option maxRecDepth 100000 in
theorem a_714 : Cond.methodLink "MayNotPause" 292 (⟨"java/lang/Integer", "bitCount", "(I)I"⟩ : MethodName) ∈ wG := wG_at 714 rfl rfl
set_option maxRecDepth 100000 in
theorem a_715 : Cond.static (⟨"java/lang/Integer", "bitCount", "(I)I"⟩ : MethodName) ∈ wG := wG_at 715 rfl rfl
set_option maxRecDepth 100000 in
theorem a_716 : Cond.code (⟨"java/lang/Integer", "bitCount", "(I)I"⟩ : MethodName) cJ6_bitCount_0f7a4 1 (some .int) ∈ wG := wG_at 716 rfl rfl
set_option maxRecDepth 100000 in
theorem a_717 : Cond.constant "java/lang/Integer" 265 1431655765 ∈ wG := wG_at 717 rfl rfl
set_option maxRecDepth 100000 in
theorem a_718 : Cond.constant "java/lang/Integer" 266 858993459 ∈ wG := wG_at 718 rfl rfl
set_option maxRecDepth 100000 in
theorem a_719 : Cond.constant "java/lang/Integer" 267 252645135 ∈ wG := wG_at 719 rfl rfl
set_option maxRecDepth 100000 in
theorem a_720 : Cond.methodLink "MayNotPauseLaw" 132 (⟨"MayNotPause", "digest", "()J"⟩ : MethodName) ∈ wG := wG_at 720 rfl rfl
set_option maxRecDepth 100000 in
theorem a_721 : Cond.instanceMethod (⟨"MayNotPause", "digest", "()J"⟩ : MethodName) ∈ wG := wG_at 721 rfl rfl
set_option maxRecDepth 100000 in
theorem a_722 : Cond.selects "MayNotPause" (⟨"MayNotPause", "digest", "()J"⟩ : MethodName) (⟨"MayNotPause", "digest", "()J"⟩ : MethodName) ∈ wG := wG_at 722 rfl rfl
set_option maxRecDepth 100000 in
theorem a_723 : Cond.code (⟨"MayNotPause", "digest", "()J"⟩ : MethodName) cX7_digest 4 (some .long) ∈ wG := wG_at 723 rfl rfl
set_option maxRecDepth 100000 in
theorem a_724 : Cond.constantLong "MayNotPause" 297 17 ∈ wG := wG_at 724 rfl rfl
set_option maxRecDepth 100000 in
theorem a_725 : Cond.constantLong "MayNotPause" 299 31 ∈ wG := wG_at 725 rfl rfl
set_option maxRecDepth 100000 in
theorem a_726 : Cond.methodLink "MayNotPause" 301 (⟨"MayNotPause", "count", "(I)I"⟩ : MethodName) ∈ wG := wG_at 726 rfl rfl
set_option maxRecDepth 100000 in
theorem a_727 : Cond.methodLink "MayNotPause" 304 (⟨"MayNotPause", "fault", "(I)I"⟩ : MethodName) ∈ wG := wG_at 727 rfl rfl
set_option maxRecDepth 100000 in
theorem a_728 : Cond.methodLink "MayNotPause" 307 (⟨"MayNotPause", "digestOfVerse", "(JI)J"⟩ : MethodName) ∈ wG := wG_at 728 rfl rfl
set_option maxRecDepth 100000 in
theorem a_730 : Cond.instanceMethod (⟨"MayNotPause", "digestOfVerse", "(JI)J"⟩ : MethodName) ∈ wG := wG_at 730 rfl rfl
set_option maxRecDepth 100000 in
theorem a_731 : Cond.code (⟨"MayNotPause", "digestOfVerse", "(JI)J"⟩ : MethodName) cX7_digestOfVerse 7 (some .long) ∈ wG := wG_at 731 rfl rfl
set_option maxRecDepth 100000 in
theorem a_732 : Cond.methodLink "MayNotPause" 337 (⟨"MayNotPause", "verse", "(II)I"⟩ : MethodName) ∈ wG := wG_at 732 rfl rfl
set_option maxRecDepth 100000 in
theorem a_733 : Cond.methodLink "MayNotPause" 340 (⟨"MayNotPause", "when", "(II)I"⟩ : MethodName) ∈ wG := wG_at 733 rfl rfl
set_option maxRecDepth 100000 in
theorem a_734 : Cond.methodLink "MayNotPause" 343 (⟨"MayNotPause", "rest", "(I)I"⟩ : MethodName) ∈ wG := wG_at 734 rfl rfl
set_option maxRecDepth 100000 in
theorem a_735 : Cond.methodLink "MayNotPause" 311 (⟨"MayNotPause", "digestOfBreaths", "(J)J"⟩ : MethodName) ∈ wG := wG_at 735 rfl rfl
set_option maxRecDepth 100000 in
theorem a_737 : Cond.instanceMethod (⟨"MayNotPause", "digestOfBreaths", "(J)J"⟩ : MethodName) ∈ wG := wG_at 737 rfl rfl
set_option maxRecDepth 100000 in
theorem a_738 : Cond.code (⟨"MayNotPause", "digestOfBreaths", "(J)J"⟩ : MethodName) cX7_digestOfBreaths 7 (some .long) ∈ wG := wG_at 738 rfl rfl
set_option maxRecDepth 100000 in
theorem a_739 : Cond.methodLink "MayNotPause" 346 (⟨"MayNotPause", "poem", "(I)I"⟩ : MethodName) ∈ wG := wG_at 739 rfl rfl
set_option maxRecDepth 100000 in
theorem a_740 : Cond.methodLink "MayNotPause" 349 (⟨"MayNotPause", "judged", "()I"⟩ : MethodName) ∈ wG := wG_at 740 rfl rfl
set_option maxRecDepth 100000 in
theorem a_741 : Cond.methodLink "MayNotPause" 352 (⟨"MayNotPause", "doing", "(II)I"⟩ : MethodName) ∈ wG := wG_at 741 rfl rfl
set_option maxRecDepth 100000 in
theorem a_742 : Cond.methodLink "MayNotPause" 315 (⟨"MayNotPause", "put", "(I)I"⟩ : MethodName) ∈ wG := wG_at 742 rfl rfl
set_option maxRecDepth 100000 in
theorem a_743 : Cond.methodLink "MayNotPause" 318 (⟨"MayNotPause", "order", "(I)I"⟩ : MethodName) ∈ wG := wG_at 743 rfl rfl
set_option maxRecDepth 100000 in
theorem a_744 : Cond.methodLink "MayNotPause" 321 (⟨"MayNotPause", "lead", "()I"⟩ : MethodName) ∈ wG := wG_at 744 rfl rfl
set_option maxRecDepth 100000 in
theorem a_745 : Cond.methodLink "MayNotPause" 324 (⟨"MayNotPause", "odds", "(I)J"⟩ : MethodName) ∈ wG := wG_at 745 rfl rfl
set_option maxRecDepth 100000 in
theorem a_746 : Cond.methodLink "MayNotPause" 328 (⟨"MayNotPause", "drawn", "(I)I"⟩ : MethodName) ∈ wG := wG_at 746 rfl rfl
set_option maxRecDepth 100000 in
theorem a_747 : Cond.methodLink "MayNotPause" 331 (⟨"MayNotPause", "line", "(II)I"⟩ : MethodName) ∈ wG := wG_at 747 rfl rfl
set_option maxRecDepth 100000 in
theorem a_748 : Cond.methodLink "MayNotPause" 334 (⟨"MayNotPause", "leads", "()I"⟩ : MethodName) ∈ wG := wG_at 748 rfl rfl
set_option maxRecDepth 100000 in
theorem a_751 : Cond.methodLink "MayNotPauseLaw" 12 (⟨"MayNotPauseModel", "<init>", "()V"⟩ : MethodName) ∈ wG := wG_at 751 rfl rfl
set_option maxRecDepth 100000 in
theorem a_752 : Cond.instanceMethod (⟨"MayNotPauseModel", "<init>", "()V"⟩ : MethodName) ∈ wG := wG_at 752 rfl rfl
set_option maxRecDepth 100000 in
theorem a_753 : Cond.code (⟨"MayNotPauseModel", "<init>", "()V"⟩ : MethodName) cX8_init 2 none ∈ wG := wG_at 753 rfl rfl
set_option maxRecDepth 100000 in
theorem a_754 : Cond.methodLink "MayNotPauseModel" 1 (⟨"java/lang/Object", "<init>", "()V"⟩ : MethodName) ∈ wG := wG_at 754 rfl rfl
set_option maxRecDepth 100000 in
theorem a_755 : Cond.fieldLink "MayNotPauseModel" 7 "MayNotPauseModel" "forms" "[I" ∈ wG := wG_at 755 rfl rfl
set_option maxRecDepth 100000 in
theorem a_756 : Cond.fieldLink "MayNotPauseModel" 13 "MayNotPauseModel" "sizes" "[I" ∈ wG := wG_at 756 rfl rfl
set_option maxRecDepth 100000 in
theorem a_757 : Cond.fieldLink "MayNotPauseModel" 16 "MayNotPauseModel" "items" "[I" ∈ wG := wG_at 757 rfl rfl
set_option maxRecDepth 100000 in
theorem a_758 : Cond.fieldLink "MayNotPauseModel" 19 "MayNotPauseModel" "moved" "[I" ∈ wG := wG_at 758 rfl rfl
set_option maxRecDepth 100000 in
theorem a_759 : Cond.fieldLink "MayNotPauseModel" 76 "MayNotPauseModel" "latest" "I" ∈ wG := wG_at 759 rfl rfl
set_option maxRecDepth 100000 in
theorem a_760 : Cond.fieldLink "MayNotPauseModel" 22 "MayNotPauseModel" "bytes" "[I" ∈ wG := wG_at 760 rfl rfl
set_option maxRecDepth 100000 in
theorem a_761 : Cond.fieldLink "MayNotPauseModel" 25 "MayNotPauseModel" "typed" "[I" ∈ wG := wG_at 761 rfl rfl
set_option maxRecDepth 100000 in
theorem a_762 : Cond.fieldLink "MayNotPauseModel" 106 "MayNotPauseModel" "at" "I" ∈ wG := wG_at 762 rfl rfl
set_option maxRecDepth 100000 in
theorem a_763 : Cond.fieldLink "MayNotPauseModel" 28 "MayNotPauseModel" "many" "[I" ∈ wG := wG_at 763 rfl rfl
set_option maxRecDepth 100000 in
theorem a_764 : Cond.fieldLink "MayNotPauseModel" 31 "MayNotPauseModel" "told" "[I" ∈ wG := wG_at 764 rfl rfl
set_option maxRecDepth 100000 in
theorem a_765 : Cond.fieldLink "MayNotPauseModel" 34 "MayNotPauseModel" "settings" "[I" ∈ wG := wG_at 765 rfl rfl
set_option maxRecDepth 100000 in
theorem a_766 : Cond.fieldLink "MayNotPauseModel" 128 "MayNotPauseModel" "length" "I" ∈ wG := wG_at 766 rfl rfl
set_option maxRecDepth 100000 in
theorem a_767 : Cond.fieldLink "MayNotPauseModel" 37 "MayNotPauseModel" "row" "[I" ∈ wG := wG_at 767 rfl rfl
set_option maxRecDepth 100000 in
theorem a_768 : Cond.fieldLink "MayNotPauseModel" 40 "MayNotPauseModel" "makes" "[I" ∈ wG := wG_at 768 rfl rfl
set_option maxRecDepth 100000 in
theorem a_769 : Cond.fieldLink "MayNotPauseModel" 43 "MayNotPauseModel" "knots" "[I" ∈ wG := wG_at 769 rfl rfl
set_option maxRecDepth 100000 in
theorem a_770 : Cond.fieldLink "MayNotPauseModel" 46 "MayNotPauseModel" "begins" "[I" ∈ wG := wG_at 770 rfl rfl
set_option maxRecDepth 100000 in
theorem a_771 : Cond.fieldLink "MayNotPauseModel" 49 "MayNotPauseModel" "said" "[I" ∈ wG := wG_at 771 rfl rfl
set_option maxRecDepth 100000 in
theorem a_772 : Cond.fieldLink "MayNotPauseModel" 52 "MayNotPauseModel" "understood" "[I" ∈ wG := wG_at 772 rfl rfl
set_option maxRecDepth 100000 in
theorem a_773 : Cond.fieldLink "MayNotPauseModel" 55 "MayNotPauseModel" "written" "[I" ∈ wG := wG_at 773 rfl rfl
set_option maxRecDepth 100000 in
theorem a_774 : Cond.fieldLink "MayNotPauseModel" 58 "MayNotPauseModel" "pauses" "[I" ∈ wG := wG_at 774 rfl rfl
set_option maxRecDepth 100000 in
theorem a_775 : Cond.fieldLink "MayNotPauseModel" 140 "MayNotPauseModel" "end" "I" ∈ wG := wG_at 775 rfl rfl
set_option maxRecDepth 100000 in
theorem a_776 : Cond.fieldLink "MayNotPauseModel" 143 "MayNotPauseModel" "allPauses" "I" ∈ wG := wG_at 776 rfl rfl
set_option maxRecDepth 100000 in
theorem a_777 : Cond.fieldLink "MayNotPauseModel" 146 "MayNotPauseModel" "writtenMany" "I" ∈ wG := wG_at 777 rfl rfl
set_option maxRecDepth 100000 in
theorem a_778 : Cond.fieldLink "MayNotPauseModel" 149 "MayNotPauseModel" "newPens" "I" ∈ wG := wG_at 778 rfl rfl
set_option maxRecDepth 100000 in
theorem a_779 : Cond.fieldLink "MayNotPauseModel" 61 "MayNotPauseModel" "best" "[I" ∈ wG := wG_at 779 rfl rfl
set_option maxRecDepth 100000 in
theorem a_780 : Cond.fieldLink "MayNotPauseModel" 64 "MayNotPauseModel" "bestRow" "[I" ∈ wG := wG_at 780 rfl rfl
set_option maxRecDepth 100000 in
theorem a_781 : Cond.fieldLink "MayNotPauseModel" 220 "MayNotPauseModel" "leastPauses" "I" ∈ wG := wG_at 781 rfl rfl
set_option maxRecDepth 100000 in
theorem a_782 : Cond.fieldLink "MayNotPauseModel" 223 "MayNotPauseModel" "leastLong" "I" ∈ wG := wG_at 782 rfl rfl
set_option maxRecDepth 100000 in
theorem a_783 : Cond.fieldLink "MayNotPauseModel" 276 "MayNotPauseModel" "sights" "I" ∈ wG := wG_at 783 rfl rfl
set_option maxRecDepth 100000 in
theorem a_784 : Cond.fieldLink "MayNotPauseModel" 67 "MayNotPauseModel" "seen" "[I" ∈ wG := wG_at 784 rfl rfl
set_option maxRecDepth 100000 in
theorem a_846 : Cond.methodLink "MayNotPauseLaw" 105 (⟨"MayNotPauseModel", "sheet", "(III)I"⟩ : MethodName) ∈ wG := wG_at 846 rfl rfl
set_option maxRecDepth 100000 in
theorem a_847 : Cond.instanceMethod (⟨"MayNotPauseModel", "sheet", "(III)I"⟩ : MethodName) ∈ wG := wG_at 847 rfl rfl
set_option maxRecDepth 100000 in
theorem a_848 : Cond.selects "MayNotPauseModel" (⟨"MayNotPauseModel", "sheet", "(III)I"⟩ : MethodName) (⟨"MayNotPauseModel", "sheet", "(III)I"⟩ : MethodName) ∈ wG := wG_at 848 rfl rfl
set_option maxRecDepth 100000 in
theorem a_849 : Cond.code (⟨"MayNotPauseModel", "sheet", "(III)I"⟩ : MethodName) cX8_sheet 5 (some .int) ∈ wG := wG_at 849 rfl rfl
set_option maxRecDepth 100000 in
theorem a_850 : Cond.methodLink "MayNotPauseModel" 82 (⟨"MayNotPauseModel", "isSheet", "(I)Z"⟩ : MethodName) ∈ wG := wG_at 850 rfl rfl
set_option maxRecDepth 100000 in
theorem a_851 : Cond.static (⟨"MayNotPauseModel", "isSheet", "(I)Z"⟩ : MethodName) ∈ wG := wG_at 851 rfl rfl
set_option maxRecDepth 100000 in
theorem a_852 : Cond.code (⟨"MayNotPauseModel", "isSheet", "(I)Z"⟩ : MethodName) cX8_isSheet 1 (some .boolean) ∈ wG := wG_at 852 rfl rfl
set_option maxRecDepth 100000 in
theorem a_853 : Cond.constantLong "MayNotPauseModel" 80 3 ∈ wG := wG_at 853 rfl rfl
set_option maxRecDepth 100000 in
theorem a_854 : Cond.methodLink "MayNotPauseModel" 72 (⟨"MayNotPauseModel", "in", "(JJJ)Z"⟩ : MethodName) ∈ wG := wG_at 854 rfl rfl
set_option maxRecDepth 100000 in
theorem a_855 : Cond.static (⟨"MayNotPauseModel", "in", "(JJJ)Z"⟩ : MethodName) ∈ wG := wG_at 855 rfl rfl
set_option maxRecDepth 100000 in
theorem a_856 : Cond.code (⟨"MayNotPauseModel", "in", "(JJJ)Z"⟩ : MethodName) cX8_in 6 (some .boolean) ∈ wG := wG_at 856 rfl rfl
set_option maxRecDepth 100000 in
theorem a_857 : Cond.constantLong "MayNotPauseModel" 86 2 ∈ wG := wG_at 857 rfl rfl
set_option maxRecDepth 100000 in
theorem a_858 : Cond.methodLink "MayNotPauseModel" 88 (⟨"MayNotPauseModel", "met", "(I)I"⟩ : MethodName) ∈ wG := wG_at 858 rfl rfl
set_option maxRecDepth 100000 in
theorem a_860 : Cond.instanceMethod (⟨"MayNotPauseModel", "met", "(I)I"⟩ : MethodName) ∈ wG := wG_at 860 rfl rfl
set_option maxRecDepth 100000 in
theorem a_861 : Cond.code (⟨"MayNotPauseModel", "met", "(I)I"⟩ : MethodName) cX8_met 2 (some .int) ∈ wG := wG_at 861 rfl rfl
set_option maxRecDepth 100000 in
theorem a_862 : Cond.methodLink "MayNotPauseLaw" 109 (⟨"MayNotPauseModel", "lose", "(I)I"⟩ : MethodName) ∈ wG := wG_at 862 rfl rfl
set_option maxRecDepth 100000 in
theorem a_863 : Cond.instanceMethod (⟨"MayNotPauseModel", "lose", "(I)I"⟩ : MethodName) ∈ wG := wG_at 863 rfl rfl
set_option maxRecDepth 100000 in
theorem a_864 : Cond.selects "MayNotPauseModel" (⟨"MayNotPauseModel", "lose", "(I)I"⟩ : MethodName) (⟨"MayNotPauseModel", "lose", "(I)I"⟩ : MethodName) ∈ wG := wG_at 864 rfl rfl
set_option maxRecDepth 100000 in
theorem a_865 : Cond.code (⟨"MayNotPauseModel", "lose", "(I)I"⟩ : MethodName) cX8_lose 2 (some .int) ∈ wG := wG_at 865 rfl rfl
set_option maxRecDepth 100000 in
theorem a_866 : Cond.methodLink "MayNotPauseLaw" 114 (⟨"MayNotPauseModel", "lay", "(IIII)I"⟩ : MethodName) ∈ wG := wG_at 866 rfl rfl
set_option maxRecDepth 100000 in
theorem a_867 : Cond.instanceMethod (⟨"MayNotPauseModel", "lay", "(IIII)I"⟩ : MethodName) ∈ wG := wG_at 867 rfl rfl
set_option maxRecDepth 100000 in
theorem a_868 : Cond.selects "MayNotPauseModel" (⟨"MayNotPauseModel", "lay", "(IIII)I"⟩ : MethodName) (⟨"MayNotPauseModel", "lay", "(IIII)I"⟩ : MethodName) ∈ wG := wG_at 868 rfl rfl
set_option maxRecDepth 100000 in
theorem a_869 : Cond.code (⟨"MayNotPauseModel", "lay", "(IIII)I"⟩ : MethodName) cX8_lay 6 (some .int) ∈ wG := wG_at 869 rfl rfl
set_option maxRecDepth 100000 in
theorem a_870 : Cond.methodLink "MayNotPauseModel" 92 (⟨"MayNotPauseModel", "lacks", "(III)I"⟩ : MethodName) ∈ wG := wG_at 870 rfl rfl
set_option maxRecDepth 100000 in
theorem a_872 : Cond.instanceMethod (⟨"MayNotPauseModel", "lacks", "(III)I"⟩ : MethodName) ∈ wG := wG_at 872 rfl rfl
set_option maxRecDepth 100000 in
theorem a_873 : Cond.code (⟨"MayNotPauseModel", "lacks", "(III)I"⟩ : MethodName) cX8_lacks 4 (some .int) ∈ wG := wG_at 873 rfl rfl
set_option maxRecDepth 100000 in
theorem a_874 : Cond.methodLink "MayNotPauseModel" 96 (⟨"MayNotPauseModel", "cut", "(II)I"⟩ : MethodName) ∈ wG := wG_at 874 rfl rfl
set_option maxRecDepth 100000 in
theorem a_875 : Cond.static (⟨"MayNotPauseModel", "cut", "(II)I"⟩ : MethodName) ∈ wG := wG_at 875 rfl rfl
set_option maxRecDepth 100000 in
theorem a_876 : Cond.code (⟨"MayNotPauseModel", "cut", "(II)I"⟩ : MethodName) cX8_cut 2 (some .int) ∈ wG := wG_at 876 rfl rfl
set_option maxRecDepth 100000 in
theorem a_877 : Cond.methodLink "MayNotPauseLaw" 118 (⟨"MayNotPauseModel", "get", "(III)I"⟩ : MethodName) ∈ wG := wG_at 877 rfl rfl
set_option maxRecDepth 100000 in
theorem a_878 : Cond.instanceMethod (⟨"MayNotPauseModel", "get", "(III)I"⟩ : MethodName) ∈ wG := wG_at 878 rfl rfl
set_option maxRecDepth 100000 in
theorem a_879 : Cond.selects "MayNotPauseModel" (⟨"MayNotPauseModel", "get", "(III)I"⟩ : MethodName) (⟨"MayNotPauseModel", "get", "(III)I"⟩ : MethodName) ∈ wG := wG_at 879 rfl rfl
set_option maxRecDepth 100000 in
theorem a_880 : Cond.code (⟨"MayNotPauseModel", "get", "(III)I"⟩ : MethodName) cX8_get 4 (some .int) ∈ wG := wG_at 880 rfl rfl
set_option maxRecDepth 100000 in
theorem a_881 : Cond.constant "MayNotPauseModel" 100 (-2147483648) ∈ wG := wG_at 881 rfl rfl
set_option maxRecDepth 100000 in
theorem a_882 : Cond.methodLink "MayNotPauseLaw" 123 (⟨"MayNotPauseModel", "copy", "(IIIII)I"⟩ : MethodName) ∈ wG := wG_at 882 rfl rfl
set_option maxRecDepth 100000 in
theorem a_883 : Cond.instanceMethod (⟨"MayNotPauseModel", "copy", "(IIIII)I"⟩ : MethodName) ∈ wG := wG_at 883 rfl rfl
set_option maxRecDepth 100000 in
theorem a_884 : Cond.selects "MayNotPauseModel" (⟨"MayNotPauseModel", "copy", "(IIIII)I"⟩ : MethodName) (⟨"MayNotPauseModel", "copy", "(IIIII)I"⟩ : MethodName) ∈ wG := wG_at 884 rfl rfl
set_option maxRecDepth 100000 in
theorem a_885 : Cond.code (⟨"MayNotPauseModel", "copy", "(IIIII)I"⟩ : MethodName) cX8_copy 7 (some .int) ∈ wG := wG_at 885 rfl rfl
set_option maxRecDepth 100000 in
theorem a_886 : Cond.methodLink "MayNotPauseLaw" 17 (⟨"MayNotPauseModel", "type", "(II)I"⟩ : MethodName) ∈ wG := wG_at 886 rfl rfl
set_option maxRecDepth 100000 in
theorem a_887 : Cond.instanceMethod (⟨"MayNotPauseModel", "type", "(II)I"⟩ : MethodName) ∈ wG := wG_at 887 rfl rfl
set_option maxRecDepth 100000 in
theorem a_888 : Cond.selects "MayNotPauseModel" (⟨"MayNotPauseModel", "type", "(II)I"⟩ : MethodName) (⟨"MayNotPauseModel", "type", "(II)I"⟩ : MethodName) ∈ wG := wG_at 888 rfl rfl
set_option maxRecDepth 100000 in
theorem a_889 : Cond.code (⟨"MayNotPauseModel", "type", "(II)I"⟩ : MethodName) cX8_type 3 (some .int) ∈ wG := wG_at 889 rfl rfl
set_option maxRecDepth 100000 in
theorem a_890 : Cond.methodLink "MayNotPauseModel" 101 (⟨"MayNotPauseModel", "isTwo", "(I)Z"⟩ : MethodName) ∈ wG := wG_at 890 rfl rfl
set_option maxRecDepth 100000 in
theorem a_891 : Cond.static (⟨"MayNotPauseModel", "isTwo", "(I)Z"⟩ : MethodName) ∈ wG := wG_at 891 rfl rfl
set_option maxRecDepth 100000 in
theorem a_892 : Cond.code (⟨"MayNotPauseModel", "isTwo", "(I)Z"⟩ : MethodName) cX8_isTwo 1 (some .boolean) ∈ wG := wG_at 892 rfl rfl
set_option maxRecDepth 100000 in
theorem a_893 : Cond.constantLong "MayNotPauseModel" 104 255 ∈ wG := wG_at 893 rfl rfl
set_option maxRecDepth 100000 in
theorem a_894 : Cond.methodLink "MayNotPauseLaw" 22 (⟨"MayNotPauseModel", "wipe", "(I)I"⟩ : MethodName) ∈ wG := wG_at 894 rfl rfl
set_option maxRecDepth 100000 in
theorem a_895 : Cond.instanceMethod (⟨"MayNotPauseModel", "wipe", "(I)I"⟩ : MethodName) ∈ wG := wG_at 895 rfl rfl
set_option maxRecDepth 100000 in
theorem a_896 : Cond.selects "MayNotPauseModel" (⟨"MayNotPauseModel", "wipe", "(I)I"⟩ : MethodName) (⟨"MayNotPauseModel", "wipe", "(I)I"⟩ : MethodName) ∈ wG := wG_at 896 rfl rfl
set_option maxRecDepth 100000 in
theorem a_897 : Cond.code (⟨"MayNotPauseModel", "wipe", "(I)I"⟩ : MethodName) cX8_wipe 3 (some .int) ∈ wG := wG_at 897 rfl rfl
set_option maxRecDepth 100000 in
theorem a_898 : Cond.methodLink "MayNotPauseLaw" 30 (⟨"MayNotPauseModel", "fault", "(I)I"⟩ : MethodName) ∈ wG := wG_at 898 rfl rfl
set_option maxRecDepth 100000 in
theorem a_899 : Cond.instanceMethod (⟨"MayNotPauseModel", "fault", "(I)I"⟩ : MethodName) ∈ wG := wG_at 899 rfl rfl
set_option maxRecDepth 100000 in
theorem a_900 : Cond.selects "MayNotPauseModel" (⟨"MayNotPauseModel", "fault", "(I)I"⟩ : MethodName) (⟨"MayNotPauseModel", "fault", "(I)I"⟩ : MethodName) ∈ wG := wG_at 900 rfl rfl
set_option maxRecDepth 100000 in
theorem a_901 : Cond.code (⟨"MayNotPauseModel", "fault", "(I)I"⟩ : MethodName) cX8_fault 2 (some .int) ∈ wG := wG_at 901 rfl rfl
set_option maxRecDepth 100000 in
theorem a_902 : Cond.methodLink "MayNotPauseModel" 120 (⟨"MayNotPauseModel", "readsText", "(I)I"⟩ : MethodName) ∈ wG := wG_at 902 rfl rfl
set_option maxRecDepth 100000 in
theorem a_904 : Cond.instanceMethod (⟨"MayNotPauseModel", "readsText", "(I)I"⟩ : MethodName) ∈ wG := wG_at 904 rfl rfl
set_option maxRecDepth 100000 in
theorem a_905 : Cond.code (⟨"MayNotPauseModel", "readsText", "(I)I"⟩ : MethodName) cX8_readsText 4 (some .int) ∈ wG := wG_at 905 rfl rfl
set_option maxRecDepth 100000 in
theorem a_906 : Cond.methodLink "MayNotPauseModel" 117 (⟨"MayNotPauseModel", "readsVerse", "(I)Z"⟩ : MethodName) ∈ wG := wG_at 906 rfl rfl
set_option maxRecDepth 100000 in
theorem a_908 : Cond.instanceMethod (⟨"MayNotPauseModel", "readsVerse", "(I)Z"⟩ : MethodName) ∈ wG := wG_at 908 rfl rfl
set_option maxRecDepth 100000 in
theorem a_909 : Cond.code (⟨"MayNotPauseModel", "readsVerse", "(I)Z"⟩ : MethodName) cX8_readsVerse 6 (some .boolean) ∈ wG := wG_at 909 rfl rfl
set_option maxRecDepth 100000 in
theorem a_910 : Cond.methodLink "MayNotPauseModel" 109 (⟨"MayNotPauseModel", "here", "(I)I"⟩ : MethodName) ∈ wG := wG_at 910 rfl rfl
set_option maxRecDepth 100000 in
theorem a_912 : Cond.instanceMethod (⟨"MayNotPauseModel", "here", "(I)I"⟩ : MethodName) ∈ wG := wG_at 912 rfl rfl
set_option maxRecDepth 100000 in
theorem a_913 : Cond.code (⟨"MayNotPauseModel", "here", "(I)I"⟩ : MethodName) cX8_here 2 (some .int) ∈ wG := wG_at 913 rfl rfl
set_option maxRecDepth 100000 in
theorem a_914 : Cond.methodLink "MayNotPauseModel" 112 (⟨"MayNotPauseModel", "kindOf", "(I)I"⟩ : MethodName) ∈ wG := wG_at 914 rfl rfl
set_option maxRecDepth 100000 in
theorem a_915 : Cond.static (⟨"MayNotPauseModel", "kindOf", "(I)I"⟩ : MethodName) ∈ wG := wG_at 915 rfl rfl
set_option maxRecDepth 100000 in
theorem a_916 : Cond.code (⟨"MayNotPauseModel", "kindOf", "(I)I"⟩ : MethodName) cX8_kindOf 1 (some .int) ∈ wG := wG_at 916 rfl rfl
set_option maxRecDepth 100000 in
theorem a_917 : Cond.constantLong "MayNotPauseModel" 115 9 ∈ wG := wG_at 917 rfl rfl
set_option maxRecDepth 100000 in
theorem a_918 : Cond.methodLink "MayNotPauseLaw" 26 (⟨"MayNotPauseModel", "undo", "(I)I"⟩ : MethodName) ∈ wG := wG_at 918 rfl rfl
set_option maxRecDepth 100000 in
theorem a_919 : Cond.instanceMethod (⟨"MayNotPauseModel", "undo", "(I)I"⟩ : MethodName) ∈ wG := wG_at 919 rfl rfl
set_option maxRecDepth 100000 in
theorem a_920 : Cond.selects "MayNotPauseModel" (⟨"MayNotPauseModel", "undo", "(I)I"⟩ : MethodName) (⟨"MayNotPauseModel", "undo", "(I)I"⟩ : MethodName) ∈ wG := wG_at 920 rfl rfl
set_option maxRecDepth 100000 in
theorem a_921 : Cond.code (⟨"MayNotPauseModel", "undo", "(I)I"⟩ : MethodName) cX8_undo 2 (some .int) ∈ wG := wG_at 921 rfl rfl
set_option maxRecDepth 100000 in
theorem a_922 : Cond.methodLink "MayNotPauseLaw" 34 (⟨"MayNotPauseModel", "set", "(II)I"⟩ : MethodName) ∈ wG := wG_at 922 rfl rfl
set_option maxRecDepth 100000 in
theorem a_923 : Cond.instanceMethod (⟨"MayNotPauseModel", "set", "(II)I"⟩ : MethodName) ∈ wG := wG_at 923 rfl rfl
set_option maxRecDepth 100000 in
theorem a_924 : Cond.selects "MayNotPauseModel" (⟨"MayNotPauseModel", "set", "(II)I"⟩ : MethodName) (⟨"MayNotPauseModel", "set", "(II)I"⟩ : MethodName) ∈ wG := wG_at 924 rfl rfl
set_option maxRecDepth 100000 in
theorem a_925 : Cond.code (⟨"MayNotPauseModel", "set", "(II)I"⟩ : MethodName) cX8_set 4 (some .int) ∈ wG := wG_at 925 rfl rfl
set_option maxRecDepth 100000 in
theorem a_926 : Cond.constantLong "MayNotPauseModel" 123 5 ∈ wG := wG_at 926 rfl rfl
set_option maxRecDepth 100000 in
theorem a_927 : Cond.methodLink "MayNotPauseModel" 125 (⟨"MayNotPauseModel", "most", "(I)I"⟩ : MethodName) ∈ wG := wG_at 927 rfl rfl
set_option maxRecDepth 100000 in
theorem a_928 : Cond.static (⟨"MayNotPauseModel", "most", "(I)I"⟩ : MethodName) ∈ wG := wG_at 928 rfl rfl
set_option maxRecDepth 100000 in
theorem a_929 : Cond.code (⟨"MayNotPauseModel", "most", "(I)I"⟩ : MethodName) cX8_most 1 (some .int) ∈ wG := wG_at 929 rfl rfl
set_option maxRecDepth 100000 in
theorem a_930 : Cond.methodLink "MayNotPauseLaw" 38 (⟨"MayNotPauseModel", "verse", "(II)I"⟩ : MethodName) ∈ wG := wG_at 930 rfl rfl
set_option maxRecDepth 100000 in
theorem a_931 : Cond.instanceMethod (⟨"MayNotPauseModel", "verse", "(II)I"⟩ : MethodName) ∈ wG := wG_at 931 rfl rfl
set_option maxRecDepth 100000 in
theorem a_932 : Cond.selects "MayNotPauseModel" (⟨"MayNotPauseModel", "verse", "(II)I"⟩ : MethodName) (⟨"MayNotPauseModel", "verse", "(II)I"⟩ : MethodName) ∈ wG := wG_at 932 rfl rfl
set_option maxRecDepth 100000 in
theorem a_933 : Cond.code (⟨"MayNotPauseModel", "verse", "(II)I"⟩ : MethodName) cX8_verse 3 (some .int) ∈ wG := wG_at 933 rfl rfl
set_option maxRecDepth 100000 in
theorem a_934 : Cond.methodLink "MayNotPauseModel" 162 (⟨"MayNotPauseModel", "find", "()V"⟩ : MethodName) ∈ wG := wG_at 934 rfl rfl
set_option maxRecDepth 100000 in
theorem a_936 : Cond.instanceMethod (⟨"MayNotPauseModel", "find", "()V"⟩ : MethodName) ∈ wG := wG_at 936 rfl rfl
set_option maxRecDepth 100000 in
theorem a_937 : Cond.code (⟨"MayNotPauseModel", "find", "()V"⟩ : MethodName) cX8_find 1 none ∈ wG := wG_at 937 rfl rfl
set_option maxRecDepth 100000 in
theorem a_938 : Cond.methodLink "MayNotPauseModel" 155 (⟨"MayNotPauseModel", "plain", "()V"⟩ : MethodName) ∈ wG := wG_at 938 rfl rfl
set_option maxRecDepth 100000 in
theorem a_940 : Cond.instanceMethod (⟨"MayNotPauseModel", "plain", "()V"⟩ : MethodName) ∈ wG := wG_at 940 rfl rfl
set_option maxRecDepth 100000 in
theorem a_941 : Cond.code (⟨"MayNotPauseModel", "plain", "()V"⟩ : MethodName) cX8_plain 2 none ∈ wG := wG_at 941 rfl rfl
set_option maxRecDepth 100000 in
theorem a_942 : Cond.methodLink "MayNotPauseModel" 158 (⟨"MayNotPauseModel", "says", "(III)V"⟩ : MethodName) ∈ wG := wG_at 942 rfl rfl
set_option maxRecDepth 100000 in
theorem a_944 : Cond.instanceMethod (⟨"MayNotPauseModel", "says", "(III)V"⟩ : MethodName) ∈ wG := wG_at 944 rfl rfl
set_option maxRecDepth 100000 in
theorem a_945 : Cond.code (⟨"MayNotPauseModel", "says", "(III)V"⟩ : MethodName) cX8_says 14 none ∈ wG := wG_at 945 rfl rfl
set_option maxRecDepth 100000 in
theorem a_946 : Cond.methodLink "MayNotPauseModel" 137 (⟨"MayNotPauseModel", "counts", "()V"⟩ : MethodName) ∈ wG := wG_at 946 rfl rfl
set_option maxRecDepth 100000 in
theorem a_948 : Cond.instanceMethod (⟨"MayNotPauseModel", "counts", "()V"⟩ : MethodName) ∈ wG := wG_at 948 rfl rfl
set_option maxRecDepth 100000 in
theorem a_949 : Cond.code (⟨"MayNotPauseModel", "counts", "()V"⟩ : MethodName) cX8_counts 4 none ∈ wG := wG_at 949 rfl rfl
set_option maxRecDepth 100000 in
theorem a_950 : Cond.methodLink "MayNotPauseModel" 131 (⟨"MayNotPauseModel", "kindAt", "(I)I"⟩ : MethodName) ∈ wG := wG_at 950 rfl rfl
set_option maxRecDepth 100000 in
theorem a_952 : Cond.instanceMethod (⟨"MayNotPauseModel", "kindAt", "(I)I"⟩ : MethodName) ∈ wG := wG_at 952 rfl rfl
set_option maxRecDepth 100000 in
theorem a_953 : Cond.code (⟨"MayNotPauseModel", "kindAt", "(I)I"⟩ : MethodName) cX8_kindAt 2 (some .int) ∈ wG := wG_at 953 rfl rfl
set_option maxRecDepth 100000 in
theorem a_954 : Cond.methodLink "MayNotPauseModel" 134 (⟨"MayNotPauseModel", "greater", "(II)I"⟩ : MethodName) ∈ wG := wG_at 954 rfl rfl
set_option maxRecDepth 100000 in
theorem a_955 : Cond.static (⟨"MayNotPauseModel", "greater", "(II)I"⟩ : MethodName) ∈ wG := wG_at 955 rfl rfl
set_option maxRecDepth 100000 in
theorem a_956 : Cond.code (⟨"MayNotPauseModel", "greater", "(II)I"⟩ : MethodName) cX8_greater 2 (some .int) ∈ wG := wG_at 956 rfl rfl
set_option maxRecDepth 100000 in
theorem a_957 : Cond.methodLink "MayNotPauseModel" 152 (⟨"MayNotPauseModel", "sayAt", "(I)I"⟩ : MethodName) ∈ wG := wG_at 957 rfl rfl
set_option maxRecDepth 100000 in
theorem a_959 : Cond.instanceMethod (⟨"MayNotPauseModel", "sayAt", "(I)I"⟩ : MethodName) ∈ wG := wG_at 959 rfl rfl
set_option maxRecDepth 100000 in
theorem a_960 : Cond.code (⟨"MayNotPauseModel", "sayAt", "(I)I"⟩ : MethodName) cX8_sayAt 2 (some .int) ∈ wG := wG_at 960 rfl rfl
set_option maxRecDepth 100000 in
theorem a_961 : Cond.methodLink "MayNotPauseModel" 165 (⟨"MayNotPauseModel", "isVerse", "(I)Z"⟩ : MethodName) ∈ wG := wG_at 961 rfl rfl
set_option maxRecDepth 100000 in
theorem a_963 : Cond.instanceMethod (⟨"MayNotPauseModel", "isVerse", "(I)Z"⟩ : MethodName) ∈ wG := wG_at 963 rfl rfl
set_option maxRecDepth 100000 in
theorem a_964 : Cond.code (⟨"MayNotPauseModel", "isVerse", "(I)Z"⟩ : MethodName) cX8_isVerse 2 (some .boolean) ∈ wG := wG_at 964 rfl rfl
set_option maxRecDepth 100000 in
theorem a_965 : Cond.methodLink "MayNotPauseModel" 168 (⟨"MayNotPauseModel", "verseOf", "(II)I"⟩ : MethodName) ∈ wG := wG_at 965 rfl rfl
set_option maxRecDepth 100000 in
theorem a_967 : Cond.instanceMethod (⟨"MayNotPauseModel", "verseOf", "(II)I"⟩ : MethodName) ∈ wG := wG_at 967 rfl rfl
set_option maxRecDepth 100000 in
theorem a_968 : Cond.code (⟨"MayNotPauseModel", "verseOf", "(II)I"⟩ : MethodName) cX8_verseOf 3 (some .int) ∈ wG := wG_at 968 rfl rfl
set_option maxRecDepth 100000 in
theorem a_969 : Cond.methodLink "MayNotPauseLaw" 42 (⟨"MayNotPauseModel", "when", "(II)I"⟩ : MethodName) ∈ wG := wG_at 969 rfl rfl
set_option maxRecDepth 100000 in
theorem a_970 : Cond.instanceMethod (⟨"MayNotPauseModel", "when", "(II)I"⟩ : MethodName) ∈ wG := wG_at 970 rfl rfl
set_option maxRecDepth 100000 in
theorem a_971 : Cond.selects "MayNotPauseModel" (⟨"MayNotPauseModel", "when", "(II)I"⟩ : MethodName) (⟨"MayNotPauseModel", "when", "(II)I"⟩ : MethodName) ∈ wG := wG_at 971 rfl rfl
set_option maxRecDepth 100000 in
theorem a_972 : Cond.code (⟨"MayNotPauseModel", "when", "(II)I"⟩ : MethodName) cX8_when 3 (some .int) ∈ wG := wG_at 972 rfl rfl
set_option maxRecDepth 100000 in
theorem a_973 : Cond.constantLong "MayNotPauseModel" 171 4 ∈ wG := wG_at 973 rfl rfl
set_option maxRecDepth 100000 in
theorem a_974 : Cond.methodLink "MayNotPauseModel" 173 (⟨"MayNotPauseModel", "whenOf", "(II)I"⟩ : MethodName) ∈ wG := wG_at 974 rfl rfl
set_option maxRecDepth 100000 in
theorem a_976 : Cond.instanceMethod (⟨"MayNotPauseModel", "whenOf", "(II)I"⟩ : MethodName) ∈ wG := wG_at 976 rfl rfl
set_option maxRecDepth 100000 in
theorem a_977 : Cond.code (⟨"MayNotPauseModel", "whenOf", "(II)I"⟩ : MethodName) cX8_whenOf 3 (some .int) ∈ wG := wG_at 977 rfl rfl
set_option maxRecDepth 100000 in
theorem a_978 : Cond.methodLink "MayNotPauseLaw" 46 (⟨"MayNotPauseModel", "poem", "(I)I"⟩ : MethodName) ∈ wG := wG_at 978 rfl rfl
set_option maxRecDepth 100000 in
theorem a_979 : Cond.instanceMethod (⟨"MayNotPauseModel", "poem", "(I)I"⟩ : MethodName) ∈ wG := wG_at 979 rfl rfl
set_option maxRecDepth 100000 in
theorem a_980 : Cond.selects "MayNotPauseModel" (⟨"MayNotPauseModel", "poem", "(I)I"⟩ : MethodName) (⟨"MayNotPauseModel", "poem", "(I)I"⟩ : MethodName) ∈ wG := wG_at 980 rfl rfl
set_option maxRecDepth 100000 in
theorem a_981 : Cond.code (⟨"MayNotPauseModel", "poem", "(I)I"⟩ : MethodName) cX8_poem 2 (some .int) ∈ wG := wG_at 981 rfl rfl
set_option maxRecDepth 100000 in
theorem a_982 : Cond.methodLink "MayNotPauseModel" 176 (⟨"MayNotPauseModel", "poemOf", "(I)I"⟩ : MethodName) ∈ wG := wG_at 982 rfl rfl
set_option maxRecDepth 100000 in
theorem a_984 : Cond.instanceMethod (⟨"MayNotPauseModel", "poemOf", "(I)I"⟩ : MethodName) ∈ wG := wG_at 984 rfl rfl
set_option maxRecDepth 100000 in
theorem a_985 : Cond.code (⟨"MayNotPauseModel", "poemOf", "(I)I"⟩ : MethodName) cX8_poemOf 2 (some .int) ∈ wG := wG_at 985 rfl rfl
set_option maxRecDepth 100000 in
theorem a_986 : Cond.methodLink "MayNotPauseLaw" 51 (⟨"MayNotPauseModel", "judged", "()I"⟩ : MethodName) ∈ wG := wG_at 986 rfl rfl
set_option maxRecDepth 100000 in
theorem a_987 : Cond.instanceMethod (⟨"MayNotPauseModel", "judged", "()I"⟩ : MethodName) ∈ wG := wG_at 987 rfl rfl
set_option maxRecDepth 100000 in
theorem a_988 : Cond.selects "MayNotPauseModel" (⟨"MayNotPauseModel", "judged", "()I"⟩ : MethodName) (⟨"MayNotPauseModel", "judged", "()I"⟩ : MethodName) ∈ wG := wG_at 988 rfl rfl
set_option maxRecDepth 100000 in
theorem a_989 : Cond.code (⟨"MayNotPauseModel", "judged", "()I"⟩ : MethodName) cX8_judged 1 (some .int) ∈ wG := wG_at 989 rfl rfl
set_option maxRecDepth 100000 in
theorem a_990 : Cond.methodLink "MayNotPauseModel" 179 (⟨"MayNotPauseModel", "judgedNow", "()I"⟩ : MethodName) ∈ wG := wG_at 990 rfl rfl
set_option maxRecDepth 100000 in
theorem a_992 : Cond.instanceMethod (⟨"MayNotPauseModel", "judgedNow", "()I"⟩ : MethodName) ∈ wG := wG_at 992 rfl rfl
set_option maxRecDepth 100000 in
theorem a_993 : Cond.code (⟨"MayNotPauseModel", "judgedNow", "()I"⟩ : MethodName) cX8_judgedNow 2 (some .int) ∈ wG := wG_at 993 rfl rfl
set_option maxRecDepth 100000 in
theorem a_994 : Cond.methodLink "MayNotPauseLaw" 55 (⟨"MayNotPauseModel", "rest", "(I)I"⟩ : MethodName) ∈ wG := wG_at 994 rfl rfl
set_option maxRecDepth 100000 in
theorem a_995 : Cond.instanceMethod (⟨"MayNotPauseModel", "rest", "(I)I"⟩ : MethodName) ∈ wG := wG_at 995 rfl rfl
set_option maxRecDepth 100000 in
theorem a_996 : Cond.selects "MayNotPauseModel" (⟨"MayNotPauseModel", "rest", "(I)I"⟩ : MethodName) (⟨"MayNotPauseModel", "rest", "(I)I"⟩ : MethodName) ∈ wG := wG_at 996 rfl rfl
set_option maxRecDepth 100000 in
theorem a_997 : Cond.code (⟨"MayNotPauseModel", "rest", "(I)I"⟩ : MethodName) cX8_rest 2 (some .int) ∈ wG := wG_at 997 rfl rfl
set_option maxRecDepth 100000 in
theorem a_998 : Cond.methodLink "MayNotPauseModel" 189 (⟨"MayNotPauseModel", "restOf", "(I)I"⟩ : MethodName) ∈ wG := wG_at 998 rfl rfl
set_option maxRecDepth 100000 in
theorem a_1000 : Cond.instanceMethod (⟨"MayNotPauseModel", "restOf", "(I)I"⟩ : MethodName) ∈ wG := wG_at 1000 rfl rfl
set_option maxRecDepth 100000 in
theorem a_1001 : Cond.code (⟨"MayNotPauseModel", "restOf", "(I)I"⟩ : MethodName) cX8_restOf 4 (some .int) ∈ wG := wG_at 1001 rfl rfl
set_option maxRecDepth 100000 in
theorem a_1002 : Cond.methodLink "MayNotPauseModel" 186 (⟨"MayNotPauseModel", "freeAhead", "(II)I"⟩ : MethodName) ∈ wG := wG_at 1002 rfl rfl
set_option maxRecDepth 100000 in
theorem a_1004 : Cond.instanceMethod (⟨"MayNotPauseModel", "freeAhead", "(II)I"⟩ : MethodName) ∈ wG := wG_at 1004 rfl rfl
set_option maxRecDepth 100000 in
theorem a_1005 : Cond.code (⟨"MayNotPauseModel", "freeAhead", "(II)I"⟩ : MethodName) cX8_freeAhead 5 (some .int) ∈ wG := wG_at 1005 rfl rfl
set_option maxRecDepth 100000 in
theorem a_1006 : Cond.methodLink "MayNotPauseModel" 183 (⟨"MayNotPauseModel", "isFree", "(I)Z"⟩ : MethodName) ∈ wG := wG_at 1006 rfl rfl
set_option maxRecDepth 100000 in
theorem a_1008 : Cond.instanceMethod (⟨"MayNotPauseModel", "isFree", "(I)Z"⟩ : MethodName) ∈ wG := wG_at 1008 rfl rfl
set_option maxRecDepth 100000 in
theorem a_1009 : Cond.code (⟨"MayNotPauseModel", "isFree", "(I)Z"⟩ : MethodName) cX8_isFree 5 (some .boolean) ∈ wG := wG_at 1009 rfl rfl
set_option maxRecDepth 100000 in
theorem a_1010 : Cond.methodLink "MayNotPauseLaw" 59 (⟨"MayNotPauseModel", "doing", "(II)I"⟩ : MethodName) ∈ wG := wG_at 1010 rfl rfl
set_option maxRecDepth 100000 in
theorem a_1011 : Cond.instanceMethod (⟨"MayNotPauseModel", "doing", "(II)I"⟩ : MethodName) ∈ wG := wG_at 1011 rfl rfl
set_option maxRecDepth 100000 in
theorem a_1012 : Cond.selects "MayNotPauseModel" (⟨"MayNotPauseModel", "doing", "(II)I"⟩ : MethodName) (⟨"MayNotPauseModel", "doing", "(II)I"⟩ : MethodName) ∈ wG := wG_at 1012 rfl rfl
set_option maxRecDepth 100000 in
theorem a_1013 : Cond.code (⟨"MayNotPauseModel", "doing", "(II)I"⟩ : MethodName) cX8_doing 3 (some .int) ∈ wG := wG_at 1013 rfl rfl
set_option maxRecDepth 100000 in
theorem a_1014 : Cond.constantLong "MayNotPauseModel" 201 299 ∈ wG := wG_at 1014 rfl rfl
set_option maxRecDepth 100000 in
theorem a_1015 : Cond.methodLink "MayNotPauseModel" 203 (⟨"MayNotPauseModel", "doingOf", "(II)I"⟩ : MethodName) ∈ wG := wG_at 1015 rfl rfl
set_option maxRecDepth 100000 in
theorem a_1017 : Cond.instanceMethod (⟨"MayNotPauseModel", "doingOf", "(II)I"⟩ : MethodName) ∈ wG := wG_at 1017 rfl rfl
set_option maxRecDepth 100000 in
theorem a_1018 : Cond.code (⟨"MayNotPauseModel", "doingOf", "(II)I"⟩ : MethodName) cX8_doingOf 3 (some .int) ∈ wG := wG_at 1018 rfl rfl
set_option maxRecDepth 100000 in
theorem a_1019 : Cond.methodLink "MayNotPauseModel" 192 (⟨"MayNotPauseModel", "saysIn", "(I)I"⟩ : MethodName) ∈ wG := wG_at 1019 rfl rfl
set_option maxRecDepth 100000 in
theorem a_1021 : Cond.instanceMethod (⟨"MayNotPauseModel", "saysIn", "(I)I"⟩ : MethodName) ∈ wG := wG_at 1021 rfl rfl
set_option maxRecDepth 100000 in
theorem a_1022 : Cond.code (⟨"MayNotPauseModel", "saysIn", "(I)I"⟩ : MethodName) cX8_saysIn 3 (some .int) ∈ wG := wG_at 1022 rfl rfl
set_option maxRecDepth 100000 in
theorem a_1023 : Cond.methodLink "MayNotPauseModel" 195 (⟨"MayNotPauseModel", "makesIn", "(II)I"⟩ : MethodName) ∈ wG := wG_at 1023 rfl rfl
set_option maxRecDepth 100000 in
theorem a_1025 : Cond.instanceMethod (⟨"MayNotPauseModel", "makesIn", "(II)I"⟩ : MethodName) ∈ wG := wG_at 1025 rfl rfl
set_option maxRecDepth 100000 in
theorem a_1026 : Cond.code (⟨"MayNotPauseModel", "makesIn", "(II)I"⟩ : MethodName) cX8_makesIn 5 (some .int) ∈ wG := wG_at 1026 rfl rfl
set_option maxRecDepth 100000 in
theorem a_1027 : Cond.methodLink "MayNotPauseModel" 198 (⟨"MayNotPauseModel", "hasIn", "(I)I"⟩ : MethodName) ∈ wG := wG_at 1027 rfl rfl
set_option maxRecDepth 100000 in
theorem a_1029 : Cond.instanceMethod (⟨"MayNotPauseModel", "hasIn", "(I)I"⟩ : MethodName) ∈ wG := wG_at 1029 rfl rfl
set_option maxRecDepth 100000 in
theorem a_1030 : Cond.code (⟨"MayNotPauseModel", "hasIn", "(I)I"⟩ : MethodName) cX8_hasIn 4 (some .int) ∈ wG := wG_at 1030 rfl rfl
set_option maxRecDepth 100000 in
theorem a_1031 : Cond.methodLink "MayNotPauseLaw" 63 (⟨"MayNotPauseModel", "put", "(I)I"⟩ : MethodName) ∈ wG := wG_at 1031 rfl rfl
set_option maxRecDepth 100000 in
theorem a_1032 : Cond.instanceMethod (⟨"MayNotPauseModel", "put", "(I)I"⟩ : MethodName) ∈ wG := wG_at 1032 rfl rfl
set_option maxRecDepth 100000 in
theorem a_1033 : Cond.selects "MayNotPauseModel" (⟨"MayNotPauseModel", "put", "(I)I"⟩ : MethodName) (⟨"MayNotPauseModel", "put", "(I)I"⟩ : MethodName) ∈ wG := wG_at 1033 rfl rfl
set_option maxRecDepth 100000 in
theorem a_1034 : Cond.code (⟨"MayNotPauseModel", "put", "(I)I"⟩ : MethodName) cX8_put 2 (some .int) ∈ wG := wG_at 1034 rfl rfl
set_option maxRecDepth 100000 in
theorem a_1035 : Cond.methodLink "MayNotPauseModel" 214 (⟨"MayNotPauseModel", "findPut", "()V"⟩ : MethodName) ∈ wG := wG_at 1035 rfl rfl
set_option maxRecDepth 100000 in
theorem a_1037 : Cond.instanceMethod (⟨"MayNotPauseModel", "findPut", "()V"⟩ : MethodName) ∈ wG := wG_at 1037 rfl rfl
set_option maxRecDepth 100000 in
theorem a_1038 : Cond.code (⟨"MayNotPauseModel", "findPut", "()V"⟩ : MethodName) cX8_findPut 5 none ∈ wG := wG_at 1038 rfl rfl
set_option maxRecDepth 100000 in
theorem a_1039 : Cond.methodLink "MayNotPauseModel" 210 (⟨"MayNotPauseModel", "looks", "(IIIII)V"⟩ : MethodName) ∈ wG := wG_at 1039 rfl rfl
set_option maxRecDepth 100000 in
theorem a_1041 : Cond.instanceMethod (⟨"MayNotPauseModel", "looks", "(IIIII)V"⟩ : MethodName) ∈ wG := wG_at 1041 rfl rfl
set_option maxRecDepth 100000 in
theorem a_1042 : Cond.code (⟨"MayNotPauseModel", "looks", "(IIIII)V"⟩ : MethodName) cX8_looks 6 none ∈ wG := wG_at 1042 rfl rfl
set_option maxRecDepth 100000 in
theorem a_1043 : Cond.methodLink "MayNotPauseModel" 206 (⟨"MayNotPauseModel", "lays", "(IIII)V"⟩ : MethodName) ∈ wG := wG_at 1043 rfl rfl
set_option maxRecDepth 100000 in
theorem a_1045 : Cond.instanceMethod (⟨"MayNotPauseModel", "lays", "(IIII)V"⟩ : MethodName) ∈ wG := wG_at 1045 rfl rfl
set_option maxRecDepth 100000 in
theorem a_1046 : Cond.code (⟨"MayNotPauseModel", "lays", "(IIII)V"⟩ : MethodName) cX8_lays 6 none ∈ wG := wG_at 1046 rfl rfl
set_option maxRecDepth 100000 in
theorem a_1047 : Cond.methodLink "MayNotPauseLaw" 67 (⟨"MayNotPauseModel", "order", "(I)I"⟩ : MethodName) ∈ wG := wG_at 1047 rfl rfl
set_option maxRecDepth 100000 in
theorem a_1048 : Cond.instanceMethod (⟨"MayNotPauseModel", "order", "(I)I"⟩ : MethodName) ∈ wG := wG_at 1048 rfl rfl
set_option maxRecDepth 100000 in
theorem a_1049 : Cond.selects "MayNotPauseModel" (⟨"MayNotPauseModel", "order", "(I)I"⟩ : MethodName) (⟨"MayNotPauseModel", "order", "(I)I"⟩ : MethodName) ∈ wG := wG_at 1049 rfl rfl
set_option maxRecDepth 100000 in
theorem a_1050 : Cond.code (⟨"MayNotPauseModel", "order", "(I)I"⟩ : MethodName) cX8_order 2 (some .int) ∈ wG := wG_at 1050 rfl rfl
set_option maxRecDepth 100000 in
theorem a_1051 : Cond.constantLong "MayNotPauseModel" 230 (-2) ∈ wG := wG_at 1051 rfl rfl
set_option maxRecDepth 100000 in
theorem a_1052 : Cond.constantLong "MayNotPauseModel" 232 6 ∈ wG := wG_at 1052 rfl rfl
set_option maxRecDepth 100000 in
theorem a_1053 : Cond.methodLink "MayNotPauseModel" 234 (⟨"MayNotPauseModel", "findOrder", "()V"⟩ : MethodName) ∈ wG := wG_at 1053 rfl rfl
set_option maxRecDepth 100000 in
theorem a_1055 : Cond.instanceMethod (⟨"MayNotPauseModel", "findOrder", "()V"⟩ : MethodName) ∈ wG := wG_at 1055 rfl rfl
set_option maxRecDepth 100000 in
theorem a_1056 : Cond.code (⟨"MayNotPauseModel", "findOrder", "()V"⟩ : MethodName) cX8_findOrder 6 none ∈ wG := wG_at 1056 rfl rfl
set_option maxRecDepth 100000 in
theorem a_1057 : Cond.methodLink "MayNotPauseModel" 217 (⟨"MayNotPauseModel", "lesser", "(II)I"⟩ : MethodName) ∈ wG := wG_at 1057 rfl rfl
set_option maxRecDepth 100000 in
theorem a_1058 : Cond.static (⟨"MayNotPauseModel", "lesser", "(II)I"⟩ : MethodName) ∈ wG := wG_at 1058 rfl rfl
set_option maxRecDepth 100000 in
theorem a_1059 : Cond.code (⟨"MayNotPauseModel", "lesser", "(II)I"⟩ : MethodName) cX8_lesser 2 (some .int) ∈ wG := wG_at 1059 rfl rfl
set_option maxRecDepth 100000 in
theorem a_1060 : Cond.methodLink "MayNotPauseModel" 226 (⟨"MayNotPauseModel", "unfolds", "(II)V"⟩ : MethodName) ∈ wG := wG_at 1060 rfl rfl
set_option maxRecDepth 100000 in
theorem a_1062 : Cond.instanceMethod (⟨"MayNotPauseModel", "unfolds", "(II)V"⟩ : MethodName) ∈ wG := wG_at 1062 rfl rfl
set_option maxRecDepth 100000 in
theorem a_1063 : Cond.code (⟨"MayNotPauseModel", "unfolds", "(II)V"⟩ : MethodName) cX8_unfolds 6 none ∈ wG := wG_at 1063 rfl rfl
set_option maxRecDepth 100000 in
theorem a_1064 : Cond.methodLink "MayNotPauseModel" 237 (⟨"MayNotPauseModel", "tellsOrder", "(I)I"⟩ : MethodName) ∈ wG := wG_at 1064 rfl rfl
set_option maxRecDepth 100000 in
theorem a_1066 : Cond.instanceMethod (⟨"MayNotPauseModel", "tellsOrder", "(I)I"⟩ : MethodName) ∈ wG := wG_at 1066 rfl rfl
set_option maxRecDepth 100000 in
theorem a_1067 : Cond.code (⟨"MayNotPauseModel", "tellsOrder", "(I)I"⟩ : MethodName) cX8_tellsOrder 2 (some .int) ∈ wG := wG_at 1067 rfl rfl
set_option maxRecDepth 100000 in
theorem a_1068 : Cond.methodLink "MayNotPauseLaw" 71 (⟨"MayNotPauseModel", "lead", "()I"⟩ : MethodName) ∈ wG := wG_at 1068 rfl rfl
set_option maxRecDepth 100000 in
theorem a_1069 : Cond.instanceMethod (⟨"MayNotPauseModel", "lead", "()I"⟩ : MethodName) ∈ wG := wG_at 1069 rfl rfl
set_option maxRecDepth 100000 in
theorem a_1070 : Cond.selects "MayNotPauseModel" (⟨"MayNotPauseModel", "lead", "()I"⟩ : MethodName) (⟨"MayNotPauseModel", "lead", "()I"⟩ : MethodName) ∈ wG := wG_at 1070 rfl rfl
set_option maxRecDepth 100000 in
theorem a_1071 : Cond.code (⟨"MayNotPauseModel", "lead", "()I"⟩ : MethodName) cX8_lead 1 (some .int) ∈ wG := wG_at 1071 rfl rfl
set_option maxRecDepth 100000 in
theorem a_1072 : Cond.methodLink "MayNotPauseModel" 240 (⟨"MayNotPauseModel", "leadNow", "()I"⟩ : MethodName) ∈ wG := wG_at 1072 rfl rfl
set_option maxRecDepth 100000 in
theorem a_1074 : Cond.instanceMethod (⟨"MayNotPauseModel", "leadNow", "()I"⟩ : MethodName) ∈ wG := wG_at 1074 rfl rfl
set_option maxRecDepth 100000 in
theorem a_1075 : Cond.code (⟨"MayNotPauseModel", "leadNow", "()I"⟩ : MethodName) cX8_leadNow 2 (some .int) ∈ wG := wG_at 1075 rfl rfl
set_option maxRecDepth 100000 in
theorem a_1076 : Cond.methodLink "MayNotPauseLaw" 76 (⟨"MayNotPauseModel", "odds", "(I)J"⟩ : MethodName) ∈ wG := wG_at 1076 rfl rfl
set_option maxRecDepth 100000 in
theorem a_1077 : Cond.instanceMethod (⟨"MayNotPauseModel", "odds", "(I)J"⟩ : MethodName) ∈ wG := wG_at 1077 rfl rfl
set_option maxRecDepth 100000 in
theorem a_1078 : Cond.selects "MayNotPauseModel" (⟨"MayNotPauseModel", "odds", "(I)J"⟩ : MethodName) (⟨"MayNotPauseModel", "odds", "(I)J"⟩ : MethodName) ∈ wG := wG_at 1078 rfl rfl
set_option maxRecDepth 100000 in
theorem a_1079 : Cond.code (⟨"MayNotPauseModel", "odds", "(I)J"⟩ : MethodName) cX8_odds 2 (some .long) ∈ wG := wG_at 1079 rfl rfl
set_option maxRecDepth 100000 in
theorem a_1080 : Cond.methodLink "MayNotPauseModel" 249 (⟨"MayNotPauseModel", "oddsOf", "(I)J"⟩ : MethodName) ∈ wG := wG_at 1080 rfl rfl
set_option maxRecDepth 100000 in
theorem a_1082 : Cond.instanceMethod (⟨"MayNotPauseModel", "oddsOf", "(I)J"⟩ : MethodName) ∈ wG := wG_at 1082 rfl rfl
set_option maxRecDepth 100000 in
theorem a_1083 : Cond.code (⟨"MayNotPauseModel", "oddsOf", "(I)J"⟩ : MethodName) cX8_oddsOf 9 (some .long) ∈ wG := wG_at 1083 rfl rfl
set_option maxRecDepth 100000 in
theorem a_1084 : Cond.constantLong "MayNotPauseModel" 243 16 ∈ wG := wG_at 1084 rfl rfl
set_option maxRecDepth 100000 in
theorem a_1085 : Cond.methodLink "MayNotPauseModel" 245 (⟨"MayNotPauseModel", "part", "(JJI)J"⟩ : MethodName) ∈ wG := wG_at 1085 rfl rfl
set_option maxRecDepth 100000 in
theorem a_1086 : Cond.static (⟨"MayNotPauseModel", "part", "(JJI)J"⟩ : MethodName) ∈ wG := wG_at 1086 rfl rfl
set_option maxRecDepth 100000 in
theorem a_1087 : Cond.code (⟨"MayNotPauseModel", "part", "(JJI)J"⟩ : MethodName) cX8_part 11 (some .long) ∈ wG := wG_at 1087 rfl rfl
set_option maxRecDepth 100000 in
theorem a_1088 : Cond.methodLink "MayNotPauseModel" 253 (⟨"MayNotPauseModel", "no", "(I)J"⟩ : MethodName) ∈ wG := wG_at 1088 rfl rfl
set_option maxRecDepth 100000 in
theorem a_1089 : Cond.static (⟨"MayNotPauseModel", "no", "(I)J"⟩ : MethodName) ∈ wG := wG_at 1089 rfl rfl
set_option maxRecDepth 100000 in
theorem a_1090 : Cond.code (⟨"MayNotPauseModel", "no", "(I)J"⟩ : MethodName) cX8_no 1 (some .long) ∈ wG := wG_at 1090 rfl rfl
set_option maxRecDepth 100000 in
theorem a_1091 : Cond.constantLong "MayNotPauseModel" 70 (-9223372036854775808) ∈ wG := wG_at 1091 rfl rfl
set_option maxRecDepth 100000 in
theorem a_1092 : Cond.methodLink "MayNotPauseLaw" 80 (⟨"MayNotPauseModel", "drawn", "(I)I"⟩ : MethodName) ∈ wG := wG_at 1092 rfl rfl
set_option maxRecDepth 100000 in
theorem a_1093 : Cond.instanceMethod (⟨"MayNotPauseModel", "drawn", "(I)I"⟩ : MethodName) ∈ wG := wG_at 1093 rfl rfl
set_option maxRecDepth 100000 in
theorem a_1094 : Cond.selects "MayNotPauseModel" (⟨"MayNotPauseModel", "drawn", "(I)I"⟩ : MethodName) (⟨"MayNotPauseModel", "drawn", "(I)I"⟩ : MethodName) ∈ wG := wG_at 1094 rfl rfl
set_option maxRecDepth 100000 in
theorem a_1095 : Cond.code (⟨"MayNotPauseModel", "drawn", "(I)I"⟩ : MethodName) cX8_drawn 2 (some .int) ∈ wG := wG_at 1095 rfl rfl
set_option maxRecDepth 100000 in
theorem a_1096 : Cond.methodLink "MayNotPauseModel" 257 (⟨"MayNotPauseModel", "drawnOf", "(I)I"⟩ : MethodName) ∈ wG := wG_at 1096 rfl rfl
set_option maxRecDepth 100000 in
theorem a_1098 : Cond.instanceMethod (⟨"MayNotPauseModel", "drawnOf", "(I)I"⟩ : MethodName) ∈ wG := wG_at 1098 rfl rfl
set_option maxRecDepth 100000 in
theorem a_1099 : Cond.code (⟨"MayNotPauseModel", "drawnOf", "(I)I"⟩ : MethodName) cX8_drawnOf 4 (some .int) ∈ wG := wG_at 1099 rfl rfl
set_option maxRecDepth 100000 in
theorem a_1100 : Cond.constant "MayNotPauseModel" 256 1103515245 ∈ wG := wG_at 1100 rfl rfl
set_option maxRecDepth 100000 in
theorem a_1101 : Cond.methodLink "MayNotPauseLaw" 84 (⟨"MayNotPauseModel", "line", "(II)I"⟩ : MethodName) ∈ wG := wG_at 1101 rfl rfl
set_option maxRecDepth 100000 in
theorem a_1102 : Cond.instanceMethod (⟨"MayNotPauseModel", "line", "(II)I"⟩ : MethodName) ∈ wG := wG_at 1102 rfl rfl
set_option maxRecDepth 100000 in
theorem a_1103 : Cond.selects "MayNotPauseModel" (⟨"MayNotPauseModel", "line", "(II)I"⟩ : MethodName) (⟨"MayNotPauseModel", "line", "(II)I"⟩ : MethodName) ∈ wG := wG_at 1103 rfl rfl
set_option maxRecDepth 100000 in
theorem a_1104 : Cond.code (⟨"MayNotPauseModel", "line", "(II)I"⟩ : MethodName) cX8_line 3 (some .int) ∈ wG := wG_at 1104 rfl rfl
set_option maxRecDepth 100000 in
theorem a_1105 : Cond.constantLong "MayNotPauseModel" 267 (-1) ∈ wG := wG_at 1105 rfl rfl
set_option maxRecDepth 100000 in
theorem a_1106 : Cond.constantLong "MayNotPauseModel" 269 10 ∈ wG := wG_at 1106 rfl rfl
set_option maxRecDepth 100000 in
theorem a_1107 : Cond.methodLink "MayNotPauseModel" 271 (⟨"MayNotPauseModel", "lineOf", "(II)I"⟩ : MethodName) ∈ wG := wG_at 1107 rfl rfl
set_option maxRecDepth 100000 in
theorem a_1109 : Cond.instanceMethod (⟨"MayNotPauseModel", "lineOf", "(II)I"⟩ : MethodName) ∈ wG := wG_at 1109 rfl rfl
set_option maxRecDepth 100000 in
theorem a_1110 : Cond.code (⟨"MayNotPauseModel", "lineOf", "(II)I"⟩ : MethodName) cX8_lineOf 5 (some .int) ∈ wG := wG_at 1110 rfl rfl
set_option maxRecDepth 100000 in
theorem a_1111 : Cond.methodLink "MayNotPauseModel" 264 (⟨"MayNotPauseModel", "errors", "(II)I"⟩ : MethodName) ∈ wG := wG_at 1111 rfl rfl
set_option maxRecDepth 100000 in
theorem a_1113 : Cond.instanceMethod (⟨"MayNotPauseModel", "errors", "(II)I"⟩ : MethodName) ∈ wG := wG_at 1113 rfl rfl
set_option maxRecDepth 100000 in
theorem a_1114 : Cond.code (⟨"MayNotPauseModel", "errors", "(II)I"⟩ : MethodName) cX8_errors 7 (some .int) ∈ wG := wG_at 1114 rfl rfl
set_option maxRecDepth 100000 in
theorem a_1115 : Cond.methodLink "MayNotPauseModel" 260 (⟨"MayNotPauseModel", "isIn", "(II)Z"⟩ : MethodName) ∈ wG := wG_at 1115 rfl rfl
set_option maxRecDepth 100000 in
theorem a_1116 : Cond.static (⟨"MayNotPauseModel", "isIn", "(II)Z"⟩ : MethodName) ∈ wG := wG_at 1116 rfl rfl
set_option maxRecDepth 100000 in
theorem a_1117 : Cond.code (⟨"MayNotPauseModel", "isIn", "(II)Z"⟩ : MethodName) cX8_isIn 2 (some .boolean) ∈ wG := wG_at 1117 rfl rfl
set_option maxRecDepth 100000 in
theorem a_1118 : Cond.methodLink "MayNotPauseLaw" 88 (⟨"MayNotPauseModel", "seen", "(II)I"⟩ : MethodName) ∈ wG := wG_at 1118 rfl rfl
set_option maxRecDepth 100000 in
theorem a_1119 : Cond.instanceMethod (⟨"MayNotPauseModel", "seen", "(II)I"⟩ : MethodName) ∈ wG := wG_at 1119 rfl rfl
set_option maxRecDepth 100000 in
theorem a_1120 : Cond.selects "MayNotPauseModel" (⟨"MayNotPauseModel", "seen", "(II)I"⟩ : MethodName) (⟨"MayNotPauseModel", "seen", "(II)I"⟩ : MethodName) ∈ wG := wG_at 1120 rfl rfl
set_option maxRecDepth 100000 in
theorem a_1121 : Cond.code (⟨"MayNotPauseModel", "seen", "(II)I"⟩ : MethodName) cX8_seen 3 (some .int) ∈ wG := wG_at 1121 rfl rfl
set_option maxRecDepth 100000 in
theorem a_1122 : Cond.constantLong "MayNotPauseModel" 274 11 ∈ wG := wG_at 1122 rfl rfl
set_option maxRecDepth 100000 in
theorem a_1123 : Cond.methodLink "MayNotPauseLaw" 92 (⟨"MayNotPauseModel", "forget", "()I"⟩ : MethodName) ∈ wG := wG_at 1123 rfl rfl
set_option maxRecDepth 100000 in
theorem a_1124 : Cond.instanceMethod (⟨"MayNotPauseModel", "forget", "()I"⟩ : MethodName) ∈ wG := wG_at 1124 rfl rfl
set_option maxRecDepth 100000 in
theorem a_1125 : Cond.selects "MayNotPauseModel" (⟨"MayNotPauseModel", "forget", "()I"⟩ : MethodName) (⟨"MayNotPauseModel", "forget", "()I"⟩ : MethodName) ∈ wG := wG_at 1125 rfl rfl
set_option maxRecDepth 100000 in
theorem a_1126 : Cond.code (⟨"MayNotPauseModel", "forget", "()I"⟩ : MethodName) cX8_forget 2 (some .int) ∈ wG := wG_at 1126 rfl rfl
set_option maxRecDepth 100000 in
theorem a_1127 : Cond.methodLink "MayNotPauseLaw" 100 (⟨"MayNotPauseModel", "read", "(I)I"⟩ : MethodName) ∈ wG := wG_at 1127 rfl rfl
set_option maxRecDepth 100000 in
theorem a_1128 : Cond.instanceMethod (⟨"MayNotPauseModel", "read", "(I)I"⟩ : MethodName) ∈ wG := wG_at 1128 rfl rfl
set_option maxRecDepth 100000 in
theorem a_1129 : Cond.selects "MayNotPauseModel" (⟨"MayNotPauseModel", "read", "(I)I"⟩ : MethodName) (⟨"MayNotPauseModel", "read", "(I)I"⟩ : MethodName) ∈ wG := wG_at 1129 rfl rfl
set_option maxRecDepth 100000 in
theorem a_1130 : Cond.code (⟨"MayNotPauseModel", "read", "(I)I"⟩ : MethodName) cX8_read 4 (some .int) ∈ wG := wG_at 1130 rfl rfl
set_option maxRecDepth 100000 in
theorem a_1131 : Cond.methodLink "MayNotPauseModel" 279 (⟨"MayNotPauseModel", "seen", "(II)I"⟩ : MethodName) ∈ wG := wG_at 1131 rfl rfl
set_option maxRecDepth 100000 in
theorem a_1132 : Cond.methodLink "MayNotPauseLaw" 96 (⟨"MayNotPauseModel", "leads", "()I"⟩ : MethodName) ∈ wG := wG_at 1132 rfl rfl
set_option maxRecDepth 100000 in
theorem a_1133 : Cond.instanceMethod (⟨"MayNotPauseModel", "leads", "()I"⟩ : MethodName) ∈ wG := wG_at 1133 rfl rfl
set_option maxRecDepth 100000 in
theorem a_1134 : Cond.selects "MayNotPauseModel" (⟨"MayNotPauseModel", "leads", "()I"⟩ : MethodName) (⟨"MayNotPauseModel", "leads", "()I"⟩ : MethodName) ∈ wG := wG_at 1134 rfl rfl
set_option maxRecDepth 100000 in
theorem a_1135 : Cond.code (⟨"MayNotPauseModel", "leads", "()I"⟩ : MethodName) cX8_leads 1 (some .int) ∈ wG := wG_at 1135 rfl rfl
set_option maxRecDepth 100000 in
theorem a_1136 : Cond.methodLink "MayNotPauseModel" 281 (⟨"MayNotPauseModel", "leadsNow", "()I"⟩ : MethodName) ∈ wG := wG_at 1136 rfl rfl
set_option maxRecDepth 100000 in
theorem a_1138 : Cond.instanceMethod (⟨"MayNotPauseModel", "leadsNow", "()I"⟩ : MethodName) ∈ wG := wG_at 1138 rfl rfl
set_option maxRecDepth 100000 in
theorem a_1139 : Cond.code (⟨"MayNotPauseModel", "leadsNow", "()I"⟩ : MethodName) cX8_leadsNow 5 (some .int) ∈ wG := wG_at 1139 rfl rfl
set_option maxRecDepth 100000 in
theorem a_1140 : Cond.methodLink "MayNotPauseLaw" 127 (⟨"MayNotPauseModel", "write", "(I)I"⟩ : MethodName) ∈ wG := wG_at 1140 rfl rfl
set_option maxRecDepth 100000 in
theorem a_1141 : Cond.instanceMethod (⟨"MayNotPauseModel", "write", "(I)I"⟩ : MethodName) ∈ wG := wG_at 1141 rfl rfl
set_option maxRecDepth 100000 in
theorem a_1142 : Cond.selects "MayNotPauseModel" (⟨"MayNotPauseModel", "write", "(I)I"⟩ : MethodName) (⟨"MayNotPauseModel", "write", "(I)I"⟩ : MethodName) ∈ wG := wG_at 1142 rfl rfl
set_option maxRecDepth 100000 in
theorem a_1143 : Cond.code (⟨"MayNotPauseModel", "write", "(I)I"⟩ : MethodName) cX8_write 4 (some .int) ∈ wG := wG_at 1143 rfl rfl
set_option maxRecDepth 100000 in
theorem a_1144 : Cond.methodLink "MayNotPauseLaw" 131 (⟨"MayNotPauseModel", "count", "(I)I"⟩ : MethodName) ∈ wG := wG_at 1144 rfl rfl
set_option maxRecDepth 100000 in
theorem a_1145 : Cond.instanceMethod (⟨"MayNotPauseModel", "count", "(I)I"⟩ : MethodName) ∈ wG := wG_at 1145 rfl rfl
set_option maxRecDepth 100000 in
theorem a_1146 : Cond.selects "MayNotPauseModel" (⟨"MayNotPauseModel", "count", "(I)I"⟩ : MethodName) (⟨"MayNotPauseModel", "count", "(I)I"⟩ : MethodName) ∈ wG := wG_at 1146 rfl rfl
set_option maxRecDepth 100000 in
theorem a_1147 : Cond.code (⟨"MayNotPauseModel", "count", "(I)I"⟩ : MethodName) cX8_count 4 (some .int) ∈ wG := wG_at 1147 rfl rfl
set_option maxRecDepth 100000 in
theorem a_1148 : Cond.methodLink "MayNotPauseLaw" 136 (⟨"MayNotPauseModel", "digest", "()J"⟩ : MethodName) ∈ wG := wG_at 1148 rfl rfl
set_option maxRecDepth 100000 in
theorem a_1149 : Cond.instanceMethod (⟨"MayNotPauseModel", "digest", "()J"⟩ : MethodName) ∈ wG := wG_at 1149 rfl rfl
set_option maxRecDepth 100000 in
theorem a_1150 : Cond.selects "MayNotPauseModel" (⟨"MayNotPauseModel", "digest", "()J"⟩ : MethodName) (⟨"MayNotPauseModel", "digest", "()J"⟩ : MethodName) ∈ wG := wG_at 1150 rfl rfl
set_option maxRecDepth 100000 in
theorem a_1151 : Cond.code (⟨"MayNotPauseModel", "digest", "()J"⟩ : MethodName) cX8_digest 5 (some .long) ∈ wG := wG_at 1151 rfl rfl
set_option maxRecDepth 100000 in
theorem a_1152 : Cond.constantLong "MayNotPauseModel" 284 17 ∈ wG := wG_at 1152 rfl rfl
set_option maxRecDepth 100000 in
theorem a_1153 : Cond.constantLong "MayNotPauseModel" 286 31 ∈ wG := wG_at 1153 rfl rfl
set_option maxRecDepth 100000 in
theorem a_1154 : Cond.methodLink "MayNotPauseModel" 288 (⟨"MayNotPauseModel", "count", "(I)I"⟩ : MethodName) ∈ wG := wG_at 1154 rfl rfl
theorem gX0 : ∀ w ∈ u_ws RX0 TX0 9, w ∈ wG := fun w h => wG_in (inX0 w h) (List.all_eq_true.mp (by decide +kernel : (u_ws RX0 TX0 9).all goodWord = true) w h)
theorem gX1 : ∀ w ∈ u_ws RX1 TX1 5, w ∈ wG := fun w h => wG_in (inX1 w h) (List.all_eq_true.mp (by decide +kernel : (u_ws RX1 TX1 5).all goodWord = true) w h)
theorem gX2 : ∀ w ∈ u_ws RX2 TX2 4, w ∈ wG := fun w h => wG_in (inX2 w h) (List.all_eq_true.mp (by decide +kernel : (u_ws RX2 TX2 4).all goodWord = true) w h)
theorem gX3 : ∀ w ∈ u_ws RX3 TX3 4, w ∈ wG := fun w h => wG_in (inX3 w h) (List.all_eq_true.mp (by decide +kernel : (u_ws RX3 TX3 4).all goodWord = true) w h)
theorem gX4 : ∀ w ∈ u_ws RX4 TX4 3, w ∈ wG := fun w h => wG_in (inX4 w h) (List.all_eq_true.mp (by decide +kernel : (u_ws RX4 TX4 3).all goodWord = true) w h)
theorem gX5 : ∀ w ∈ u_ws RX5 TX5 4, w ∈ wG := fun w h => wG_in (inX5 w h) (List.all_eq_true.mp (by decide +kernel : (u_ws RX5 TX5 4).all goodWord = true) w h)
theorem gX6 : ∀ w ∈ u_ws RX6 TX6 15, w ∈ wG := fun w h => wG_in (inX6 w h) (List.all_eq_true.mp (by decide +kernel : (u_ws RX6 TX6 15).all goodWord = true) w h)
theorem gX7 : ∀ w ∈ u_ws RX7 TX7 12, w ∈ wG := fun w h => wG_in (inX7 w h) (List.all_eq_true.mp (by decide +kernel : (u_ws RX7 TX7 12).all goodWord = true) w h)
theorem gX8 : ∀ w ∈ u_ws RX8 TX8 30, w ∈ wG := fun w h => wG_in (inX8 w h) (List.all_eq_true.mp (by decide +kernel : (u_ws RX8 TX8 30).all goodWord = true) w h)
theorem f_X0_11 : FL RX0 11 0 3 := ⟨_, _, _, rfl, gX0, by decide, a_230⟩
theorem p_X0_11 : FP RX0 11 0 3 (tyX0 3) true := ⟨_, _, _, tyX0, rfl, gX0, by decide, a_230, tyX0_ok, nmX0, rfl, (fun _ => rfl), tyX0_ok 3 (by decide)⟩
theorem f_X0_15 : FL RX0 15 0 4 := ⟨_, _, _, rfl, gX0, by decide, a_231⟩
theorem p_X0_15 : FP RX0 15 0 4 (tyX0 4) true := ⟨_, _, _, tyX0, rfl, gX0, by decide, a_231, tyX0_ok, nmX0, rfl, (fun _ => rfl), tyX0_ok 4 (by decide)⟩
theorem f_X0_18 : FL RX0 18 0 5 := ⟨_, _, _, rfl, gX0, by decide, a_233⟩
theorem p_X0_18 : FP RX0 18 0 5 (tyX0 5) true := ⟨_, _, _, tyX0, rfl, gX0, by decide, a_233, tyX0_ok, nmX0, rfl, (fun _ => rfl), tyX0_ok 5 (by decide)⟩
theorem f_X0_22 : FL RX0 22 0 0 := ⟨_, _, _, rfl, gX0, by decide, a_227⟩
theorem p_X0_22 : FP RX0 22 0 0 (tyX0 0) true := ⟨_, _, _, tyX0, rfl, gX0, by decide, a_227, tyX0_ok, nmX0, rfl, (fun _ => rfl), tyX0_ok 0 (by decide)⟩
theorem f_X0_26 : FL RX0 26 0 1 := ⟨_, _, _, rfl, gX0, by decide, a_228⟩
theorem p_X0_26 : FP RX0 26 0 1 (tyX0 1) true := ⟨_, _, _, tyX0, rfl, gX0, by decide, a_228, tyX0_ok, nmX0, rfl, (fun _ => rfl), tyX0_ok 1 (by decide)⟩
theorem f_X0_30 : FL RX0 30 0 2 := ⟨_, _, _, rfl, gX0, by decide, a_229⟩
theorem p_X0_30 : FP RX0 30 0 2 (tyX0 2) true := ⟨_, _, _, tyX0, rfl, gX0, by decide, a_229, tyX0_ok, nmX0, rfl, (fun _ => rfl), tyX0_ok 2 (by decide)⟩
theorem f_X0_33 : FL RX0 33 2 3 := ⟨_, _, _, rfl, gX2, by decide, a_85⟩
theorem p_X0_33 : FP RX0 33 2 3 (tyX2 3) false := ⟨_, _, _, tyX2, rfl, gX2, by decide, a_85, tyX2_ok, nmX2, rfl, (fun h => by cases h), tyX2_ok 3 (by decide)⟩
theorem f_X0_45 : FL RX0 45 0 6 := ⟨_, _, _, rfl, gX0, by decide, a_234⟩
theorem p_X0_45 : FP RX0 45 0 6 (tyX0 6) false := ⟨_, _, _, tyX0, rfl, gX0, by decide, a_234, tyX0_ok, nmX0, rfl, (fun h => by cases h), tyX0_ok 6 (by decide)⟩
theorem f_X0_47 : FL RX0 47 0 7 := ⟨_, _, _, rfl, gX0, by decide, a_235⟩
theorem p_X0_47 : FP RX0 47 0 7 (tyX0 7) false := ⟨_, _, _, tyX0, rfl, gX0, by decide, a_235, tyX0_ok, nmX0, rfl, (fun h => by cases h), tyX0_ok 7 (by decide)⟩
theorem f_X0_50 : FL RX0 50 0 8 := ⟨_, _, _, rfl, gX0, by decide, a_237⟩
theorem p_X0_50 : FP RX0 50 0 8 (tyX0 8) false := ⟨_, _, _, tyX0, rfl, gX0, by decide, a_237, tyX0_ok, nmX0, rfl, (fun h => by cases h), tyX0_ok 8 (by decide)⟩
theorem f_X0_84 : FL RX0 84 6 10 := ⟨_, _, _, rfl, gX6, by decide, a_143⟩
theorem p_X0_84 : FP RX0 84 6 10 (tyX6 10) false := ⟨_, _, _, tyX6, rfl, gX6, by decide, a_143, tyX6_ok, nmX6, rfl, (fun h => by cases h), tyX6_ok 10 (by decide)⟩
theorem f_X0_89 : FL RX0 89 6 7 := ⟨_, _, _, rfl, gX6, by decide, a_133⟩
theorem p_X0_89 : FP RX0 89 6 7 (tyX6 7) false := ⟨_, _, _, tyX6, rfl, gX6, by decide, a_133, tyX6_ok, nmX6, rfl, (fun h => by cases h), tyX6_ok 7 (by decide)⟩
theorem f_X1_11 : FL RX1 11 1 4 := ⟨_, _, _, rfl, gX1, by decide, a_208⟩
theorem p_X1_11 : FP RX1 11 1 4 (tyX1 4) true := ⟨_, _, _, tyX1, rfl, gX1, by decide, a_208, tyX1_ok, nmX1, rfl, (fun _ => rfl), tyX1_ok 4 (by decide)⟩
theorem f_X1_15 : FL RX1 15 1 0 := ⟨_, _, _, rfl, gX1, by decide, a_204⟩
theorem p_X1_15 : FP RX1 15 1 0 (tyX1 0) true := ⟨_, _, _, tyX1, rfl, gX1, by decide, a_204, tyX1_ok, nmX1, rfl, (fun _ => rfl), tyX1_ok 0 (by decide)⟩
theorem f_X1_19 : FL RX1 19 1 1 := ⟨_, _, _, rfl, gX1, by decide, a_205⟩
theorem p_X1_19 : FP RX1 19 1 1 (tyX1 1) true := ⟨_, _, _, tyX1, rfl, gX1, by decide, a_205, tyX1_ok, nmX1, rfl, (fun _ => rfl), tyX1_ok 1 (by decide)⟩
theorem f_X1_23 : FL RX1 23 1 2 := ⟨_, _, _, rfl, gX1, by decide, a_206⟩
theorem p_X1_23 : FP RX1 23 1 2 (tyX1 2) true := ⟨_, _, _, tyX1, rfl, gX1, by decide, a_206, tyX1_ok, nmX1, rfl, (fun _ => rfl), tyX1_ok 2 (by decide)⟩
theorem f_X1_26 : FL RX1 26 1 3 := ⟨_, _, _, rfl, gX1, by decide, a_207⟩
theorem p_X1_26 : FP RX1 26 1 3 (tyX1 3) true := ⟨_, _, _, tyX1, rfl, gX1, by decide, a_207, tyX1_ok, nmX1, rfl, (fun _ => rfl), tyX1_ok 3 (by decide)⟩
theorem f_X1_39 : FL RX1 39 2 3 := ⟨_, _, _, rfl, gX2, by decide, a_86⟩
theorem p_X1_39 : FP RX1 39 2 3 (tyX2 3) false := ⟨_, _, _, tyX2, rfl, gX2, by decide, a_86, tyX2_ok, nmX2, rfl, (fun h => by cases h), tyX2_ok 3 (by decide)⟩
theorem f_X1_63 : FL RX1 63 6 7 := ⟨_, _, _, rfl, gX6, by decide, a_134⟩
theorem p_X1_63 : FP RX1 63 6 7 (tyX6 7) false := ⟨_, _, _, tyX6, rfl, gX6, by decide, a_134, tyX6_ok, nmX6, rfl, (fun h => by cases h), tyX6_ok 7 (by decide)⟩
theorem f_X2_9 : FL RX2 9 2 2 := ⟨_, _, _, rfl, gX2, by decide, a_83⟩
theorem p_X2_9 : FP RX2 9 2 2 (tyX2 2) false := ⟨_, _, _, tyX2, rfl, gX2, by decide, a_83, tyX2_ok, nmX2, rfl, (fun h => by cases h), tyX2_ok 2 (by decide)⟩
theorem f_X2_15 : FL RX2 15 2 0 := ⟨_, _, _, rfl, gX2, by decide, a_80⟩
theorem p_X2_15 : FP RX2 15 2 0 (tyX2 0) true := ⟨_, _, _, tyX2, rfl, gX2, by decide, a_80, tyX2_ok, nmX2, rfl, (fun _ => rfl), tyX2_ok 0 (by decide)⟩
theorem f_X2_19 : FL RX2 19 2 1 := ⟨_, _, _, rfl, gX2, by decide, a_81⟩
theorem p_X2_19 : FP RX2 19 2 1 (tyX2 1) false := ⟨_, _, _, tyX2, rfl, gX2, by decide, a_81, tyX2_ok, nmX2, rfl, (fun h => by cases h), tyX2_ok 1 (by decide)⟩
theorem f_X2_29 : FL RX2 29 2 3 := ⟨_, _, _, rfl, gX2, by decide, a_88⟩
theorem p_X2_29 : FP RX2 29 2 3 (tyX2 3) false := ⟨_, _, _, tyX2, rfl, gX2, by decide, a_88, tyX2_ok, nmX2, rfl, (fun h => by cases h), tyX2_ok 3 (by decide)⟩
theorem f_X3_9 : FL RX3 9 3 0 := ⟨_, _, _, rfl, gX3, by decide, a_283⟩
theorem p_X3_9 : FP RX3 9 3 0 (tyX3 0) true := ⟨_, _, _, tyX3, rfl, gX3, by decide, a_283, tyX3_ok, nmX3, rfl, (fun _ => rfl), tyX3_ok 0 (by decide)⟩
theorem f_X3_15 : FL RX3 15 3 1 := ⟨_, _, _, rfl, gX3, by decide, a_285⟩
theorem p_X3_15 : FP RX3 15 3 1 (tyX3 1) false := ⟨_, _, _, tyX3, rfl, gX3, by decide, a_285, tyX3_ok, nmX3, rfl, (fun h => by cases h), tyX3_ok 1 (by decide)⟩
theorem f_X3_19 : FL RX3 19 3 2 := ⟨_, _, _, rfl, gX3, by decide, a_287⟩
theorem p_X3_19 : FP RX3 19 3 2 (tyX3 2) false := ⟨_, _, _, tyX3, rfl, gX3, by decide, a_287, tyX3_ok, nmX3, rfl, (fun h => by cases h), tyX3_ok 2 (by decide)⟩
theorem f_X3_23 : FL RX3 23 3 3 := ⟨_, _, _, rfl, gX3, by decide, a_289⟩
theorem p_X3_23 : FP RX3 23 3 3 (tyX3 3) false := ⟨_, _, _, tyX3, rfl, gX3, by decide, a_289, tyX3_ok, nmX3, rfl, (fun h => by cases h), tyX3_ok 3 (by decide)⟩
theorem f_X4_11 : FL RX4 11 4 0 := ⟨_, _, _, rfl, gX4, by decide, a_265⟩
theorem p_X4_11 : FP RX4 11 4 0 (tyX4 0) true := ⟨_, _, _, tyX4, rfl, gX4, by decide, a_265, tyX4_ok, nmX4, rfl, (fun _ => rfl), tyX4_ok 0 (by decide)⟩
theorem f_X4_15 : FL RX4 15 4 1 := ⟨_, _, _, rfl, gX4, by decide, a_266⟩
theorem p_X4_15 : FP RX4 15 4 1 (tyX4 1) true := ⟨_, _, _, tyX4, rfl, gX4, by decide, a_266, tyX4_ok, nmX4, rfl, (fun _ => rfl), tyX4_ok 1 (by decide)⟩
theorem f_X4_18 : FL RX4 18 4 2 := ⟨_, _, _, rfl, gX4, by decide, a_267⟩
theorem p_X4_18 : FP RX4 18 4 2 (tyX4 2) false := ⟨_, _, _, tyX4, rfl, gX4, by decide, a_267, tyX4_ok, nmX4, rfl, (fun h => by cases h), tyX4_ok 2 (by decide)⟩
theorem f_X5_9 : FL RX5 9 5 0 := ⟨_, _, _, rfl, gX5, by decide, a_185⟩
theorem p_X5_9 : FP RX5 9 5 0 (tyX5 0) true := ⟨_, _, _, tyX5, rfl, gX5, by decide, a_185, tyX5_ok, nmX5, rfl, (fun _ => rfl), tyX5_ok 0 (by decide)⟩
theorem f_X5_18 : FL RX5 18 5 1 := ⟨_, _, _, rfl, gX5, by decide, a_186⟩
theorem p_X5_18 : FP RX5 18 5 1 (tyX5 1) true := ⟨_, _, _, tyX5, rfl, gX5, by decide, a_186, tyX5_ok, nmX5, rfl, (fun _ => rfl), tyX5_ok 1 (by decide)⟩
theorem f_X5_22 : FL RX5 22 5 2 := ⟨_, _, _, rfl, gX5, by decide, a_187⟩
theorem p_X5_22 : FP RX5 22 5 2 (tyX5 2) true := ⟨_, _, _, tyX5, rfl, gX5, by decide, a_187, tyX5_ok, nmX5, rfl, (fun _ => rfl), tyX5_ok 2 (by decide)⟩
theorem f_X5_26 : FL RX5 26 5 3 := ⟨_, _, _, rfl, gX5, by decide, a_188⟩
theorem p_X5_26 : FP RX5 26 5 3 (tyX5 3) false := ⟨_, _, _, tyX5, rfl, gX5, by decide, a_188, tyX5_ok, nmX5, rfl, (fun h => by cases h), tyX5_ok 3 (by decide)⟩
theorem f_X5_34 : FL RX5 34 2 3 := ⟨_, _, _, rfl, gX2, by decide, a_89⟩
theorem p_X5_34 : FP RX5 34 2 3 (tyX2 3) false := ⟨_, _, _, tyX2, rfl, gX2, by decide, a_89, tyX2_ok, nmX2, rfl, (fun h => by cases h), tyX2_ok 3 (by decide)⟩
theorem f_X5_45 : FL RX5 45 6 0 := ⟨_, _, _, rfl, gX6, by decide, a_113⟩
theorem p_X5_45 : FP RX5 45 6 0 (tyX6 0) false := ⟨_, _, _, tyX6, rfl, gX6, by decide, a_113, tyX6_ok, nmX6, rfl, (fun h => by cases h), tyX6_ok 0 (by decide)⟩
theorem f_X5_52 : FL RX5 52 6 2 := ⟨_, _, _, rfl, gX6, by decide, a_119⟩
theorem p_X5_52 : FP RX5 52 6 2 (tyX6 2) false := ⟨_, _, _, tyX6, rfl, gX6, by decide, a_119, tyX6_ok, nmX6, rfl, (fun h => by cases h), tyX6_ok 2 (by decide)⟩
theorem f_X5_58 : FL RX5 58 6 1 := ⟨_, _, _, rfl, gX6, by decide, a_116⟩
theorem p_X5_58 : FP RX5 58 6 1 (tyX6 1) false := ⟨_, _, _, tyX6, rfl, gX6, by decide, a_116, tyX6_ok, nmX6, rfl, (fun h => by cases h), tyX6_ok 1 (by decide)⟩
theorem f_X5_66 : FL RX5 66 6 3 := ⟨_, _, _, rfl, gX6, by decide, a_121⟩
theorem p_X5_66 : FP RX5 66 6 3 (tyX6 3) false := ⟨_, _, _, tyX6, rfl, gX6, by decide, a_121, tyX6_ok, nmX6, rfl, (fun h => by cases h), tyX6_ok 3 (by decide)⟩
theorem f_X5_77 : FL RX5 77 6 9 := ⟨_, _, _, rfl, gX6, by decide, a_140⟩
theorem p_X5_77 : FP RX5 77 6 9 (tyX6 9) false := ⟨_, _, _, tyX6, rfl, gX6, by decide, a_140, tyX6_ok, nmX6, rfl, (fun h => by cases h), tyX6_ok 9 (by decide)⟩
theorem f_X5_80 : FL RX5 80 6 13 := ⟨_, _, _, rfl, gX6, by decide, a_150⟩
theorem p_X5_80 : FP RX5 80 6 13 (tyX6 13) false := ⟨_, _, _, tyX6, rfl, gX6, by decide, a_150, tyX6_ok, nmX6, rfl, (fun h => by cases h), tyX6_ok 13 (by decide)⟩
theorem f_X5_83 : FL RX5 83 6 7 := ⟨_, _, _, rfl, gX6, by decide, a_135⟩
theorem p_X5_83 : FP RX5 83 6 7 (tyX6 7) false := ⟨_, _, _, tyX6, rfl, gX6, by decide, a_135, tyX6_ok, nmX6, rfl, (fun h => by cases h), tyX6_ok 7 (by decide)⟩
theorem f_X5_97 : FL RX5 97 6 10 := ⟨_, _, _, rfl, gX6, by decide, a_145⟩
theorem p_X5_97 : FP RX5 97 6 10 (tyX6 10) false := ⟨_, _, _, tyX6, rfl, gX6, by decide, a_145, tyX6_ok, nmX6, rfl, (fun h => by cases h), tyX6_ok 10 (by decide)⟩
theorem f_X5_108 : FL RX5 108 6 4 := ⟨_, _, _, rfl, gX6, by decide, a_125⟩
theorem p_X5_108 : FP RX5 108 6 4 (tyX6 4) false := ⟨_, _, _, tyX6, rfl, gX6, by decide, a_125, tyX6_ok, nmX6, rfl, (fun h => by cases h), tyX6_ok 4 (by decide)⟩
theorem f_X5_111 : FL RX5 111 6 5 := ⟨_, _, _, rfl, gX6, by decide, a_128⟩
theorem p_X5_111 : FP RX5 111 6 5 (tyX6 5) false := ⟨_, _, _, tyX6, rfl, gX6, by decide, a_128, tyX6_ok, nmX6, rfl, (fun h => by cases h), tyX6_ok 5 (by decide)⟩
theorem f_X5_114 : FL RX5 114 6 6 := ⟨_, _, _, rfl, gX6, by decide, a_131⟩
theorem p_X5_114 : FP RX5 114 6 6 (tyX6 6) false := ⟨_, _, _, tyX6, rfl, gX6, by decide, a_131, tyX6_ok, nmX6, rfl, (fun h => by cases h), tyX6_ok 6 (by decide)⟩
theorem f_X6_14 : FL RX6 14 6 7 := ⟨_, _, _, rfl, gX6, by decide, a_132⟩
theorem p_X6_14 : FP RX6 14 6 7 (tyX6 7) false := ⟨_, _, _, tyX6, rfl, gX6, by decide, a_132, tyX6_ok, nmX6, rfl, (fun h => by cases h), tyX6_ok 7 (by decide)⟩
theorem f_X6_18 : FL RX6 18 6 13 := ⟨_, _, _, rfl, gX6, by decide, a_149⟩
theorem p_X6_18 : FP RX6 18 6 13 (tyX6 13) false := ⟨_, _, _, tyX6, rfl, gX6, by decide, a_149, tyX6_ok, nmX6, rfl, (fun h => by cases h), tyX6_ok 13 (by decide)⟩
theorem f_X6_21 : FL RX6 21 6 9 := ⟨_, _, _, rfl, gX6, by decide, a_139⟩
theorem p_X6_21 : FP RX6 21 6 9 (tyX6 9) false := ⟨_, _, _, tyX6, rfl, gX6, by decide, a_139, tyX6_ok, nmX6, rfl, (fun h => by cases h), tyX6_ok 9 (by decide)⟩
theorem f_X6_24 : FL RX6 24 6 1 := ⟨_, _, _, rfl, gX6, by decide, a_115⟩
theorem p_X6_24 : FP RX6 24 6 1 (tyX6 1) false := ⟨_, _, _, tyX6, rfl, gX6, by decide, a_115, tyX6_ok, nmX6, rfl, (fun h => by cases h), tyX6_ok 1 (by decide)⟩
theorem f_X6_27 : FL RX6 27 6 10 := ⟨_, _, _, rfl, gX6, by decide, a_142⟩
theorem p_X6_27 : FP RX6 27 6 10 (tyX6 10) false := ⟨_, _, _, tyX6, rfl, gX6, by decide, a_142, tyX6_ok, nmX6, rfl, (fun h => by cases h), tyX6_ok 10 (by decide)⟩
theorem f_X6_30 : FL RX6 30 6 11 := ⟨_, _, _, rfl, gX6, by decide, a_146⟩
theorem p_X6_30 : FP RX6 30 6 11 (tyX6 11) false := ⟨_, _, _, tyX6, rfl, gX6, by decide, a_146, tyX6_ok, nmX6, rfl, (fun h => by cases h), tyX6_ok 11 (by decide)⟩
theorem f_X6_33 : FL RX6 33 6 12 := ⟨_, _, _, rfl, gX6, by decide, a_147⟩
theorem p_X6_33 : FP RX6 33 6 12 (tyX6 12) false := ⟨_, _, _, tyX6, rfl, gX6, by decide, a_147, tyX6_ok, nmX6, rfl, (fun h => by cases h), tyX6_ok 12 (by decide)⟩
theorem f_X6_36 : FL RX6 36 6 4 := ⟨_, _, _, rfl, gX6, by decide, a_123⟩
theorem p_X6_36 : FP RX6 36 6 4 (tyX6 4) false := ⟨_, _, _, tyX6, rfl, gX6, by decide, a_123, tyX6_ok, nmX6, rfl, (fun h => by cases h), tyX6_ok 4 (by decide)⟩
theorem f_X6_39 : FL RX6 39 6 5 := ⟨_, _, _, rfl, gX6, by decide, a_126⟩
theorem p_X6_39 : FP RX6 39 6 5 (tyX6 5) false := ⟨_, _, _, tyX6, rfl, gX6, by decide, a_126, tyX6_ok, nmX6, rfl, (fun h => by cases h), tyX6_ok 5 (by decide)⟩
theorem f_X6_42 : FL RX6 42 6 6 := ⟨_, _, _, rfl, gX6, by decide, a_129⟩
theorem p_X6_42 : FP RX6 42 6 6 (tyX6 6) false := ⟨_, _, _, tyX6, rfl, gX6, by decide, a_129, tyX6_ok, nmX6, rfl, (fun h => by cases h), tyX6_ok 6 (by decide)⟩
theorem f_X6_45 : FL RX6 45 6 8 := ⟨_, _, _, rfl, gX6, by decide, a_137⟩
theorem p_X6_45 : FP RX6 45 6 8 (tyX6 8) false := ⟨_, _, _, tyX6, rfl, gX6, by decide, a_137, tyX6_ok, nmX6, rfl, (fun h => by cases h), tyX6_ok 8 (by decide)⟩
theorem f_X6_54 : FL RX6 54 6 14 := ⟨_, _, _, rfl, gX6, by decide, a_151⟩
theorem p_X6_54 : FP RX6 54 6 14 (tyX6 14) false := ⟨_, _, _, tyX6, rfl, gX6, by decide, a_151, tyX6_ok, nmX6, rfl, (fun h => by cases h), tyX6_ok 14 (by decide)⟩
theorem f_X6_57 : FL RX6 57 6 2 := ⟨_, _, _, rfl, gX6, by decide, a_118⟩
theorem p_X6_57 : FP RX6 57 6 2 (tyX6 2) false := ⟨_, _, _, tyX6, rfl, gX6, by decide, a_118, tyX6_ok, nmX6, rfl, (fun h => by cases h), tyX6_ok 2 (by decide)⟩
theorem f_X6_60 : FL RX6 60 6 0 := ⟨_, _, _, rfl, gX6, by decide, a_112⟩
theorem p_X6_60 : FP RX6 60 6 0 (tyX6 0) false := ⟨_, _, _, tyX6, rfl, gX6, by decide, a_112, tyX6_ok, nmX6, rfl, (fun h => by cases h), tyX6_ok 0 (by decide)⟩
theorem f_X6_63 : FL RX6 63 6 3 := ⟨_, _, _, rfl, gX6, by decide, a_120⟩
theorem p_X6_63 : FP RX6 63 6 3 (tyX6 3) false := ⟨_, _, _, tyX6, rfl, gX6, by decide, a_120, tyX6_ok, nmX6, rfl, (fun h => by cases h), tyX6_ok 3 (by decide)⟩
theorem f_X7_7 : FL RX7 7 7 0 := ⟨_, _, _, rfl, gX7, by decide, a_300⟩
theorem p_X7_7 : FP RX7 7 7 0 (tyX7 0) true := ⟨_, _, _, tyX7, rfl, gX7, by decide, a_300, tyX7_ok, nmX7, rfl, (fun _ => rfl), tyX7_ok 0 (by decide)⟩
theorem f_X7_18 : FL RX7 18 7 1 := ⟨_, _, _, rfl, gX7, by decide, a_301⟩
theorem p_X7_18 : FP RX7 18 7 1 (tyX7 1) true := ⟨_, _, _, tyX7, rfl, gX7, by decide, a_301, tyX7_ok, nmX7, rfl, (fun _ => rfl), tyX7_ok 1 (by decide)⟩
theorem f_X7_22 : FL RX7 22 7 2 := ⟨_, _, _, rfl, gX7, by decide, a_302⟩
theorem p_X7_22 : FP RX7 22 7 2 (tyX7 2) true := ⟨_, _, _, tyX7, rfl, gX7, by decide, a_302, tyX7_ok, nmX7, rfl, (fun _ => rfl), tyX7_ok 2 (by decide)⟩
theorem f_X7_28 : FL RX7 28 7 3 := ⟨_, _, _, rfl, gX7, by decide, a_303⟩
theorem p_X7_28 : FP RX7 28 7 3 (tyX7 3) true := ⟨_, _, _, tyX7, rfl, gX7, by decide, a_303, tyX7_ok, nmX7, rfl, (fun _ => rfl), tyX7_ok 3 (by decide)⟩
theorem f_X7_32 : FL RX7 32 7 4 := ⟨_, _, _, rfl, gX7, by decide, a_304⟩
theorem p_X7_32 : FP RX7 32 7 4 (tyX7 4) true := ⟨_, _, _, tyX7, rfl, gX7, by decide, a_304, tyX7_ok, nmX7, rfl, (fun _ => rfl), tyX7_ok 4 (by decide)⟩
theorem f_X7_40 : FL RX7 40 7 5 := ⟨_, _, _, rfl, gX7, by decide, a_305⟩
theorem p_X7_40 : FP RX7 40 7 5 (tyX7 5) true := ⟨_, _, _, tyX7, rfl, gX7, by decide, a_305, tyX7_ok, nmX7, rfl, (fun _ => rfl), tyX7_ok 5 (by decide)⟩
theorem f_X7_49 : FL RX7 49 7 6 := ⟨_, _, _, rfl, gX7, by decide, a_306⟩
theorem p_X7_49 : FP RX7 49 7 6 (tyX7 6) true := ⟨_, _, _, tyX7, rfl, gX7, by decide, a_306, tyX7_ok, nmX7, rfl, (fun _ => rfl), tyX7_ok 6 (by decide)⟩
theorem f_X7_56 : FL RX7 56 7 7 := ⟨_, _, _, rfl, gX7, by decide, a_307⟩
theorem p_X7_56 : FP RX7 56 7 7 (tyX7 7) true := ⟨_, _, _, tyX7, rfl, gX7, by decide, a_307, tyX7_ok, nmX7, rfl, (fun _ => rfl), tyX7_ok 7 (by decide)⟩
theorem f_X7_62 : FL RX7 62 7 8 := ⟨_, _, _, rfl, gX7, by decide, a_308⟩
theorem p_X7_62 : FP RX7 62 7 8 (tyX7 8) true := ⟨_, _, _, tyX7, rfl, gX7, by decide, a_308, tyX7_ok, nmX7, rfl, (fun _ => rfl), tyX7_ok 8 (by decide)⟩
theorem f_X7_85 : FL RX7 85 2 1 := ⟨_, _, _, rfl, gX2, by decide, a_82⟩
theorem p_X7_85 : FP RX7 85 2 1 (tyX2 1) false := ⟨_, _, _, tyX2, rfl, gX2, by decide, a_82, tyX2_ok, nmX2, rfl, (fun h => by cases h), tyX2_ok 1 (by decide)⟩
theorem f_X7_92 : FL RX7 92 2 3 := ⟨_, _, _, rfl, gX2, by decide, a_87⟩
theorem p_X7_92 : FP RX7 92 2 3 (tyX2 3) false := ⟨_, _, _, tyX2, rfl, gX2, by decide, a_87, tyX2_ok, nmX2, rfl, (fun h => by cases h), tyX2_ok 3 (by decide)⟩
theorem f_X7_98 : FL RX7 98 2 2 := ⟨_, _, _, rfl, gX2, by decide, a_84⟩
theorem p_X7_98 : FP RX7 98 2 2 (tyX2 2) false := ⟨_, _, _, tyX2, rfl, gX2, by decide, a_84, tyX2_ok, nmX2, rfl, (fun h => by cases h), tyX2_ok 2 (by decide)⟩
theorem s_X7_101 : Cond.fieldLink RX7 101 "MayNotPause" "LEAST_SETTING" "[I" ∈ wG := a_456
theorem s_X7_104 : Cond.fieldLink RX7 104 "MayNotPause" "MOST_SETTING" "[I" ∈ wG := a_458
theorem f_X7_118 : FL RX7 118 6 0 := ⟨_, _, _, rfl, gX6, by decide, a_114⟩
theorem p_X7_118 : FP RX7 118 6 0 (tyX6 0) false := ⟨_, _, _, tyX6, rfl, gX6, by decide, a_114, tyX6_ok, nmX6, rfl, (fun h => by cases h), tyX6_ok 0 (by decide)⟩
theorem f_X7_123 : FL RX7 123 6 1 := ⟨_, _, _, rfl, gX6, by decide, a_117⟩
theorem p_X7_123 : FP RX7 123 6 1 (tyX6 1) false := ⟨_, _, _, tyX6, rfl, gX6, by decide, a_117, tyX6_ok, nmX6, rfl, (fun h => by cases h), tyX6_ok 1 (by decide)⟩
theorem f_X7_126 : FL RX7 126 6 3 := ⟨_, _, _, rfl, gX6, by decide, a_122⟩
theorem p_X7_126 : FP RX7 126 6 3 (tyX6 3) false := ⟨_, _, _, tyX6, rfl, gX6, by decide, a_122, tyX6_ok, nmX6, rfl, (fun h => by cases h), tyX6_ok 3 (by decide)⟩
theorem f_X7_129 : FL RX7 129 6 4 := ⟨_, _, _, rfl, gX6, by decide, a_124⟩
theorem p_X7_129 : FP RX7 129 6 4 (tyX6 4) false := ⟨_, _, _, tyX6, rfl, gX6, by decide, a_124, tyX6_ok, nmX6, rfl, (fun h => by cases h), tyX6_ok 4 (by decide)⟩
theorem f_X7_132 : FL RX7 132 6 5 := ⟨_, _, _, rfl, gX6, by decide, a_127⟩
theorem p_X7_132 : FP RX7 132 6 5 (tyX6 5) false := ⟨_, _, _, tyX6, rfl, gX6, by decide, a_127, tyX6_ok, nmX6, rfl, (fun h => by cases h), tyX6_ok 5 (by decide)⟩
theorem f_X7_135 : FL RX7 135 6 6 := ⟨_, _, _, rfl, gX6, by decide, a_130⟩
theorem p_X7_135 : FP RX7 135 6 6 (tyX6 6) false := ⟨_, _, _, tyX6, rfl, gX6, by decide, a_130, tyX6_ok, nmX6, rfl, (fun h => by cases h), tyX6_ok 6 (by decide)⟩
theorem f_X7_138 : FL RX7 138 6 7 := ⟨_, _, _, rfl, gX6, by decide, a_136⟩
theorem p_X7_138 : FP RX7 138 6 7 (tyX6 7) false := ⟨_, _, _, tyX6, rfl, gX6, by decide, a_136, tyX6_ok, nmX6, rfl, (fun h => by cases h), tyX6_ok 7 (by decide)⟩
theorem f_X7_141 : FL RX7 141 6 8 := ⟨_, _, _, rfl, gX6, by decide, a_138⟩
theorem p_X7_141 : FP RX7 141 6 8 (tyX6 8) false := ⟨_, _, _, tyX6, rfl, gX6, by decide, a_138, tyX6_ok, nmX6, rfl, (fun h => by cases h), tyX6_ok 8 (by decide)⟩
theorem f_X7_155 : FL RX7 155 6 10 := ⟨_, _, _, rfl, gX6, by decide, a_144⟩
theorem p_X7_155 : FP RX7 155 6 10 (tyX6 10) false := ⟨_, _, _, tyX6, rfl, gX6, by decide, a_144, tyX6_ok, nmX6, rfl, (fun h => by cases h), tyX6_ok 10 (by decide)⟩
theorem f_X7_158 : FL RX7 158 6 12 := ⟨_, _, _, rfl, gX6, by decide, a_148⟩
theorem p_X7_158 : FP RX7 158 6 12 (tyX6 12) false := ⟨_, _, _, tyX6, rfl, gX6, by decide, a_148, tyX6_ok, nmX6, rfl, (fun h => by cases h), tyX6_ok 12 (by decide)⟩
theorem f_X7_161 : FL RX7 161 6 14 := ⟨_, _, _, rfl, gX6, by decide, a_152⟩
theorem p_X7_161 : FP RX7 161 6 14 (tyX6 14) false := ⟨_, _, _, tyX6, rfl, gX6, by decide, a_152, tyX6_ok, nmX6, rfl, (fun h => by cases h), tyX6_ok 14 (by decide)⟩
theorem f_X7_174 : FL RX7 174 7 9 := ⟨_, _, _, rfl, gX7, by decide, a_309⟩
theorem p_X7_174 : FP RX7 174 7 9 (tyX7 9) false := ⟨_, _, _, tyX7, rfl, gX7, by decide, a_309, tyX7_ok, nmX7, rfl, (fun h => by cases h), tyX7_ok 9 (by decide)⟩
theorem f_X7_181 : FL RX7 181 1 4 := ⟨_, _, _, rfl, gX1, by decide, a_209⟩
theorem f_X7_184 : FL RX7 184 7 10 := ⟨_, _, _, rfl, gX7, by decide, a_310⟩
theorem p_X7_184 : FP RX7 184 7 10 (tyX7 10) false := ⟨_, _, _, tyX7, rfl, gX7, by decide, a_310, tyX7_ok, nmX7, rfl, (fun h => by cases h), tyX7_ok 10 (by decide)⟩
theorem f_X7_188 : FL RX7 188 0 7 := ⟨_, _, _, rfl, gX0, by decide, a_236⟩
theorem p_X7_188 : FP RX7 188 0 7 (tyX0 7) false := ⟨_, _, _, tyX0, rfl, gX0, by decide, a_236, tyX0_ok, nmX0, rfl, (fun h => by cases h), tyX0_ok 7 (by decide)⟩
theorem f_X7_191 : FL RX7 191 0 8 := ⟨_, _, _, rfl, gX0, by decide, a_238⟩
theorem p_X7_191 : FP RX7 191 0 8 (tyX0 8) false := ⟨_, _, _, tyX0, rfl, gX0, by decide, a_238, tyX0_ok, nmX0, rfl, (fun h => by cases h), tyX0_ok 8 (by decide)⟩
theorem f_X7_194 : FL RX7 194 0 4 := ⟨_, _, _, rfl, gX0, by decide, a_232⟩
theorem f_X7_234 : FL RX7 234 4 2 := ⟨_, _, _, rfl, gX4, by decide, a_268⟩
theorem p_X7_234 : FP RX7 234 4 2 (tyX4 2) false := ⟨_, _, _, tyX4, rfl, gX4, by decide, a_268, tyX4_ok, nmX4, rfl, (fun h => by cases h), tyX4_ok 2 (by decide)⟩
theorem f_X7_242 : FL RX7 242 3 1 := ⟨_, _, _, rfl, gX3, by decide, a_286⟩
theorem p_X7_242 : FP RX7 242 3 1 (tyX3 1) false := ⟨_, _, _, tyX3, rfl, gX3, by decide, a_286, tyX3_ok, nmX3, rfl, (fun h => by cases h), tyX3_ok 1 (by decide)⟩
theorem f_X7_248 : FL RX7 248 3 3 := ⟨_, _, _, rfl, gX3, by decide, a_290⟩
theorem p_X7_248 : FP RX7 248 3 3 (tyX3 3) false := ⟨_, _, _, tyX3, rfl, gX3, by decide, a_290, tyX3_ok, nmX3, rfl, (fun h => by cases h), tyX3_ok 3 (by decide)⟩
theorem f_X7_266 : FL RX7 266 7 11 := ⟨_, _, _, rfl, gX7, by decide, a_311⟩
theorem p_X7_266 : FP RX7 266 7 11 (tyX7 11) false := ⟨_, _, _, tyX7, rfl, gX7, by decide, a_311, tyX7_ok, nmX7, rfl, (fun h => by cases h), tyX7_ok 11 (by decide)⟩
theorem f_X7_269 : FL RX7 269 3 2 := ⟨_, _, _, rfl, gX3, by decide, a_288⟩
theorem p_X7_269 : FP RX7 269 3 2 (tyX3 2) false := ⟨_, _, _, tyX3, rfl, gX3, by decide, a_288, tyX3_ok, nmX3, rfl, (fun h => by cases h), tyX3_ok 2 (by decide)⟩
theorem f_X7_275 : FL RX7 275 3 0 := ⟨_, _, _, rfl, gX3, by decide, a_284⟩
theorem f_X7_289 : FL RX7 289 6 9 := ⟨_, _, _, rfl, gX6, by decide, a_141⟩
theorem p_X7_289 : FP RX7 289 6 9 (tyX6 9) false := ⟨_, _, _, tyX6, rfl, gX6, by decide, a_141, tyX6_ok, nmX6, rfl, (fun h => by cases h), tyX6_ok 9 (by decide)⟩
theorem f_X8_7 : FL RX8 7 8 0 := ⟨_, _, _, rfl, gX8, by decide, a_755⟩
theorem p_X8_7 : FP RX8 7 8 0 (tyX8 0) true := ⟨_, _, _, tyX8, rfl, gX8, by decide, a_755, tyX8_ok, nmX8, rfl, (fun _ => rfl), tyX8_ok 0 (by decide)⟩
theorem f_X8_13 : FL RX8 13 8 1 := ⟨_, _, _, rfl, gX8, by decide, a_756⟩
theorem p_X8_13 : FP RX8 13 8 1 (tyX8 1) true := ⟨_, _, _, tyX8, rfl, gX8, by decide, a_756, tyX8_ok, nmX8, rfl, (fun _ => rfl), tyX8_ok 1 (by decide)⟩
theorem f_X8_16 : FL RX8 16 8 2 := ⟨_, _, _, rfl, gX8, by decide, a_757⟩
theorem p_X8_16 : FP RX8 16 8 2 (tyX8 2) true := ⟨_, _, _, tyX8, rfl, gX8, by decide, a_757, tyX8_ok, nmX8, rfl, (fun _ => rfl), tyX8_ok 2 (by decide)⟩
theorem f_X8_19 : FL RX8 19 8 3 := ⟨_, _, _, rfl, gX8, by decide, a_758⟩
theorem p_X8_19 : FP RX8 19 8 3 (tyX8 3) true := ⟨_, _, _, tyX8, rfl, gX8, by decide, a_758, tyX8_ok, nmX8, rfl, (fun _ => rfl), tyX8_ok 3 (by decide)⟩
theorem f_X8_22 : FL RX8 22 8 5 := ⟨_, _, _, rfl, gX8, by decide, a_760⟩
theorem p_X8_22 : FP RX8 22 8 5 (tyX8 5) true := ⟨_, _, _, tyX8, rfl, gX8, by decide, a_760, tyX8_ok, nmX8, rfl, (fun _ => rfl), tyX8_ok 5 (by decide)⟩
theorem f_X8_25 : FL RX8 25 8 6 := ⟨_, _, _, rfl, gX8, by decide, a_761⟩
theorem p_X8_25 : FP RX8 25 8 6 (tyX8 6) true := ⟨_, _, _, tyX8, rfl, gX8, by decide, a_761, tyX8_ok, nmX8, rfl, (fun _ => rfl), tyX8_ok 6 (by decide)⟩
theorem f_X8_28 : FL RX8 28 8 8 := ⟨_, _, _, rfl, gX8, by decide, a_763⟩
theorem p_X8_28 : FP RX8 28 8 8 (tyX8 8) true := ⟨_, _, _, tyX8, rfl, gX8, by decide, a_763, tyX8_ok, nmX8, rfl, (fun _ => rfl), tyX8_ok 8 (by decide)⟩
theorem f_X8_31 : FL RX8 31 8 9 := ⟨_, _, _, rfl, gX8, by decide, a_764⟩
theorem p_X8_31 : FP RX8 31 8 9 (tyX8 9) true := ⟨_, _, _, tyX8, rfl, gX8, by decide, a_764, tyX8_ok, nmX8, rfl, (fun _ => rfl), tyX8_ok 9 (by decide)⟩
theorem f_X8_34 : FL RX8 34 8 10 := ⟨_, _, _, rfl, gX8, by decide, a_765⟩
theorem p_X8_34 : FP RX8 34 8 10 (tyX8 10) true := ⟨_, _, _, tyX8, rfl, gX8, by decide, a_765, tyX8_ok, nmX8, rfl, (fun _ => rfl), tyX8_ok 10 (by decide)⟩
theorem f_X8_37 : FL RX8 37 8 12 := ⟨_, _, _, rfl, gX8, by decide, a_767⟩
theorem p_X8_37 : FP RX8 37 8 12 (tyX8 12) true := ⟨_, _, _, tyX8, rfl, gX8, by decide, a_767, tyX8_ok, nmX8, rfl, (fun _ => rfl), tyX8_ok 12 (by decide)⟩
theorem f_X8_40 : FL RX8 40 8 13 := ⟨_, _, _, rfl, gX8, by decide, a_768⟩
theorem p_X8_40 : FP RX8 40 8 13 (tyX8 13) true := ⟨_, _, _, tyX8, rfl, gX8, by decide, a_768, tyX8_ok, nmX8, rfl, (fun _ => rfl), tyX8_ok 13 (by decide)⟩
theorem f_X8_43 : FL RX8 43 8 14 := ⟨_, _, _, rfl, gX8, by decide, a_769⟩
theorem p_X8_43 : FP RX8 43 8 14 (tyX8 14) true := ⟨_, _, _, tyX8, rfl, gX8, by decide, a_769, tyX8_ok, nmX8, rfl, (fun _ => rfl), tyX8_ok 14 (by decide)⟩
theorem f_X8_46 : FL RX8 46 8 15 := ⟨_, _, _, rfl, gX8, by decide, a_770⟩
theorem p_X8_46 : FP RX8 46 8 15 (tyX8 15) true := ⟨_, _, _, tyX8, rfl, gX8, by decide, a_770, tyX8_ok, nmX8, rfl, (fun _ => rfl), tyX8_ok 15 (by decide)⟩
theorem f_X8_49 : FL RX8 49 8 16 := ⟨_, _, _, rfl, gX8, by decide, a_771⟩
theorem p_X8_49 : FP RX8 49 8 16 (tyX8 16) true := ⟨_, _, _, tyX8, rfl, gX8, by decide, a_771, tyX8_ok, nmX8, rfl, (fun _ => rfl), tyX8_ok 16 (by decide)⟩
theorem f_X8_52 : FL RX8 52 8 17 := ⟨_, _, _, rfl, gX8, by decide, a_772⟩
theorem p_X8_52 : FP RX8 52 8 17 (tyX8 17) true := ⟨_, _, _, tyX8, rfl, gX8, by decide, a_772, tyX8_ok, nmX8, rfl, (fun _ => rfl), tyX8_ok 17 (by decide)⟩
theorem f_X8_55 : FL RX8 55 8 18 := ⟨_, _, _, rfl, gX8, by decide, a_773⟩
theorem p_X8_55 : FP RX8 55 8 18 (tyX8 18) true := ⟨_, _, _, tyX8, rfl, gX8, by decide, a_773, tyX8_ok, nmX8, rfl, (fun _ => rfl), tyX8_ok 18 (by decide)⟩
theorem f_X8_58 : FL RX8 58 8 19 := ⟨_, _, _, rfl, gX8, by decide, a_774⟩
theorem p_X8_58 : FP RX8 58 8 19 (tyX8 19) true := ⟨_, _, _, tyX8, rfl, gX8, by decide, a_774, tyX8_ok, nmX8, rfl, (fun _ => rfl), tyX8_ok 19 (by decide)⟩
theorem f_X8_61 : FL RX8 61 8 24 := ⟨_, _, _, rfl, gX8, by decide, a_779⟩
theorem p_X8_61 : FP RX8 61 8 24 (tyX8 24) true := ⟨_, _, _, tyX8, rfl, gX8, by decide, a_779, tyX8_ok, nmX8, rfl, (fun _ => rfl), tyX8_ok 24 (by decide)⟩
theorem f_X8_64 : FL RX8 64 8 25 := ⟨_, _, _, rfl, gX8, by decide, a_780⟩
theorem p_X8_64 : FP RX8 64 8 25 (tyX8 25) true := ⟨_, _, _, tyX8, rfl, gX8, by decide, a_780, tyX8_ok, nmX8, rfl, (fun _ => rfl), tyX8_ok 25 (by decide)⟩
theorem f_X8_67 : FL RX8 67 8 29 := ⟨_, _, _, rfl, gX8, by decide, a_784⟩
theorem p_X8_67 : FP RX8 67 8 29 (tyX8 29) true := ⟨_, _, _, tyX8, rfl, gX8, by decide, a_784, tyX8_ok, nmX8, rfl, (fun _ => rfl), tyX8_ok 29 (by decide)⟩
theorem f_X8_76 : FL RX8 76 8 4 := ⟨_, _, _, rfl, gX8, by decide, a_759⟩
theorem p_X8_76 : FP RX8 76 8 4 (tyX8 4) false := ⟨_, _, _, tyX8, rfl, gX8, by decide, a_759, tyX8_ok, nmX8, rfl, (fun h => by cases h), tyX8_ok 4 (by decide)⟩
theorem f_X8_106 : FL RX8 106 8 7 := ⟨_, _, _, rfl, gX8, by decide, a_762⟩
theorem p_X8_106 : FP RX8 106 8 7 (tyX8 7) false := ⟨_, _, _, tyX8, rfl, gX8, by decide, a_762, tyX8_ok, nmX8, rfl, (fun h => by cases h), tyX8_ok 7 (by decide)⟩
theorem f_X8_128 : FL RX8 128 8 11 := ⟨_, _, _, rfl, gX8, by decide, a_766⟩
theorem p_X8_128 : FP RX8 128 8 11 (tyX8 11) false := ⟨_, _, _, tyX8, rfl, gX8, by decide, a_766, tyX8_ok, nmX8, rfl, (fun h => by cases h), tyX8_ok 11 (by decide)⟩
theorem f_X8_140 : FL RX8 140 8 20 := ⟨_, _, _, rfl, gX8, by decide, a_775⟩
theorem p_X8_140 : FP RX8 140 8 20 (tyX8 20) false := ⟨_, _, _, tyX8, rfl, gX8, by decide, a_775, tyX8_ok, nmX8, rfl, (fun h => by cases h), tyX8_ok 20 (by decide)⟩
theorem f_X8_143 : FL RX8 143 8 21 := ⟨_, _, _, rfl, gX8, by decide, a_776⟩
theorem p_X8_143 : FP RX8 143 8 21 (tyX8 21) false := ⟨_, _, _, tyX8, rfl, gX8, by decide, a_776, tyX8_ok, nmX8, rfl, (fun h => by cases h), tyX8_ok 21 (by decide)⟩
theorem f_X8_146 : FL RX8 146 8 22 := ⟨_, _, _, rfl, gX8, by decide, a_777⟩
theorem p_X8_146 : FP RX8 146 8 22 (tyX8 22) false := ⟨_, _, _, tyX8, rfl, gX8, by decide, a_777, tyX8_ok, nmX8, rfl, (fun h => by cases h), tyX8_ok 22 (by decide)⟩
theorem f_X8_149 : FL RX8 149 8 23 := ⟨_, _, _, rfl, gX8, by decide, a_778⟩
theorem p_X8_149 : FP RX8 149 8 23 (tyX8 23) false := ⟨_, _, _, tyX8, rfl, gX8, by decide, a_778, tyX8_ok, nmX8, rfl, (fun h => by cases h), tyX8_ok 23 (by decide)⟩
theorem f_X8_220 : FL RX8 220 8 26 := ⟨_, _, _, rfl, gX8, by decide, a_781⟩
theorem p_X8_220 : FP RX8 220 8 26 (tyX8 26) false := ⟨_, _, _, tyX8, rfl, gX8, by decide, a_781, tyX8_ok, nmX8, rfl, (fun h => by cases h), tyX8_ok 26 (by decide)⟩
theorem f_X8_223 : FL RX8 223 8 27 := ⟨_, _, _, rfl, gX8, by decide, a_782⟩
theorem p_X8_223 : FP RX8 223 8 27 (tyX8 27) false := ⟨_, _, _, tyX8, rfl, gX8, by decide, a_782, tyX8_ok, nmX8, rfl, (fun h => by cases h), tyX8_ok 27 (by decide)⟩
theorem f_X8_276 : FL RX8 276 8 28 := ⟨_, _, _, rfl, gX8, by decide, a_783⟩
theorem p_X8_276 : FP RX8 276 8 28 (tyX8 28) false := ⟨_, _, _, tyX8, rfl, gX8, by decide, a_783, tyX8_ok, nmX8, rfl, (fun h => by cases h), tyX8_ok 28 (by decide)⟩
theorem l_L_9 : Cond.methodLink RL 9 yX7_init ∈ wG := a_68
theorem l_L_12 : Cond.methodLink RL 12 yX8_init ∈ wG := a_751
theorem l_L_13 : Cond.methodLink RL 13 yX7_type ∈ wG := a_337
theorem l_L_17 : Cond.methodLink RL 17 yX8_type ∈ wG := a_886
theorem l_L_18 : Cond.methodLink RL 18 yX7_wipe ∈ wG := a_431
theorem l_L_22 : Cond.methodLink RL 22 yX8_wipe ∈ wG := a_894
theorem l_L_23 : Cond.methodLink RL 23 yX7_undo ∈ wG := a_439
theorem l_L_26 : Cond.methodLink RL 26 yX8_undo ∈ wG := a_918
theorem l_L_27 : Cond.methodLink RL 27 yX7_fault ∈ wG := a_448
theorem l_L_30 : Cond.methodLink RL 30 yX8_fault ∈ wG := a_898
theorem l_L_31 : Cond.methodLink RL 31 yX7_set ∈ wG := a_452
theorem l_L_34 : Cond.methodLink RL 34 yX8_set ∈ wG := a_922
theorem l_L_35 : Cond.methodLink RL 35 yX7_verse ∈ wG := a_460
theorem l_L_38 : Cond.methodLink RL 38 yX8_verse ∈ wG := a_930
theorem l_L_39 : Cond.methodLink RL 39 yX7_when ∈ wG := a_470
theorem l_L_42 : Cond.methodLink RL 42 yX8_when ∈ wG := a_969
theorem l_L_43 : Cond.methodLink RL 43 yX7_poem ∈ wG := a_474
theorem l_L_46 : Cond.methodLink RL 46 yX8_poem ∈ wG := a_978
theorem l_L_47 : Cond.methodLink RL 47 yX7_judged ∈ wG := a_488
theorem l_L_51 : Cond.methodLink RL 51 yX8_judged ∈ wG := a_986
theorem l_L_52 : Cond.methodLink RL 52 yX7_rest ∈ wG := a_492
theorem l_L_55 : Cond.methodLink RL 55 yX8_rest ∈ wG := a_994
theorem l_L_56 : Cond.methodLink RL 56 yX7_doing ∈ wG := a_496
theorem l_L_59 : Cond.methodLink RL 59 yX8_doing ∈ wG := a_1010
theorem l_L_60 : Cond.methodLink RL 60 yX7_put ∈ wG := a_515
theorem l_L_63 : Cond.methodLink RL 63 yX8_put ∈ wG := a_1031
theorem l_L_64 : Cond.methodLink RL 64 yX7_order ∈ wG := a_542
theorem l_L_67 : Cond.methodLink RL 67 yX8_order ∈ wG := a_1047
theorem l_L_68 : Cond.methodLink RL 68 yX7_lead ∈ wG := a_576
theorem l_L_71 : Cond.methodLink RL 71 yX8_lead ∈ wG := a_1068
theorem l_L_72 : Cond.methodLink RL 72 yX7_odds ∈ wG := a_585
theorem l_L_76 : Cond.methodLink RL 76 yX8_odds ∈ wG := a_1076
theorem l_L_77 : Cond.methodLink RL 77 yX7_drawn ∈ wG := a_597
theorem l_L_80 : Cond.methodLink RL 80 yX8_drawn ∈ wG := a_1092
theorem l_L_81 : Cond.methodLink RL 81 yX7_line ∈ wG := a_602
theorem l_L_84 : Cond.methodLink RL 84 yX8_line ∈ wG := a_1101
theorem l_L_85 : Cond.methodLink RL 85 yX7_seen ∈ wG := a_614
theorem l_L_88 : Cond.methodLink RL 88 yX8_seen ∈ wG := a_1118
theorem l_L_89 : Cond.methodLink RL 89 yX7_forget ∈ wG := a_630
theorem l_L_92 : Cond.methodLink RL 92 yX8_forget ∈ wG := a_1123
theorem l_L_93 : Cond.methodLink RL 93 yX7_leads ∈ wG := a_634
theorem l_L_96 : Cond.methodLink RL 96 yX8_leads ∈ wG := a_1132
theorem l_L_97 : Cond.methodLink RL 97 yX7_read ∈ wG := a_643
theorem l_L_100 : Cond.methodLink RL 100 yX8_read ∈ wG := a_1127
theorem l_L_101 : Cond.methodLink RL 101 yX7_sheet ∈ wG := a_662
theorem l_L_105 : Cond.methodLink RL 105 yX8_sheet ∈ wG := a_846
theorem l_L_106 : Cond.methodLink RL 106 yX7_lose ∈ wG := a_673
theorem l_L_109 : Cond.methodLink RL 109 yX8_lose ∈ wG := a_862
theorem l_L_110 : Cond.methodLink RL 110 yX7_lay ∈ wG := a_677
theorem l_L_114 : Cond.methodLink RL 114 yX8_lay ∈ wG := a_866
theorem l_L_115 : Cond.methodLink RL 115 yX7_get ∈ wG := a_689
theorem l_L_118 : Cond.methodLink RL 118 yX8_get ∈ wG := a_877
theorem l_L_119 : Cond.methodLink RL 119 yX7_copy ∈ wG := a_694
theorem l_L_123 : Cond.methodLink RL 123 yX8_copy ∈ wG := a_882
theorem l_L_124 : Cond.methodLink RL 124 yX7_write ∈ wG := a_705
theorem l_L_127 : Cond.methodLink RL 127 yX8_write ∈ wG := a_1140
theorem l_L_128 : Cond.methodLink RL 128 yX7_count ∈ wG := a_710
theorem l_L_131 : Cond.methodLink RL 131 yX8_count ∈ wG := a_1144
theorem l_L_132 : Cond.methodLink RL 132 yX7_digest ∈ wG := a_720
theorem l_L_136 : Cond.methodLink RL 136 yX8_digest ∈ wG := a_1148
theorem l_X0_3 : Cond.methodLink RX0 3 Lib.objectInit ∈ wG := a_226
theorem l_X0_39 : Cond.methodLink RX0 39 Lib.Math.min.name ∈ wG := a_550
theorem l_X0_53 : Cond.methodLink RX0 53 yX5_open ∈ wG := a_554
theorem l_X0_59 : Cond.methodLink RX0 59 yX5_letHimPause ∈ wG := a_555
theorem l_X0_62 : Cond.methodLink RX0 62 yX0_placeFrom ∈ wG := a_559
theorem l_X0_66 : Cond.methodLink RX0 66 yX0_keep ∈ wG := a_562
theorem l_X0_69 : Cond.methodLink RX0 69 yX5_add ∈ wG := a_567
theorem l_X0_73 : Cond.methodLink RX0 73 yX0_mayBeBest ∈ wG := a_568
theorem l_X0_77 : Cond.methodLink RX0 77 yX5_dropLast ∈ wG := a_572
theorem l_X0_80 : Cond.methodLink RX0 80 yX5_last ∈ wG := a_566
theorem l_X1_3 : Cond.methodLink RX1 3 Lib.objectInit ∈ wG := a_203
theorem l_X1_29 : Cond.methodLink RX1 29 yX1_attempt ∈ wG := a_523
theorem l_X1_33 : Cond.methodLink RX1 33 yX1_seekOne ∈ wG := a_534
theorem l_X1_36 : Cond.methodLink RX1 36 yX1_seekTwo ∈ wG := a_538
theorem l_X1_45 : Cond.methodLink RX1 45 yX5_open ∈ wG := a_527
theorem l_X1_51 : Cond.methodLink RX1 51 yX5_isWholeWithoutPause ∈ wG := a_528
theorem l_X1_55 : Cond.methodLink RX1 55 yX5_add ∈ wG := a_532
theorem l_X1_59 : Cond.methodLink RX1 59 yX5_last ∈ wG := a_533
theorem l_X2_3 : Cond.methodLink RX2 3 Lib.objectInit ∈ wG := a_79
theorem l_X2_22 : Cond.methodLink RX2 22 yX2_isFull ∈ wG := a_356
theorem l_X2_26 : Cond.methodLink RX2 26 yX2_settle ∈ wG := a_357
theorem l_X2_32 : Cond.methodLink RX2 32 yX2_shorten ∈ wG := a_447
theorem l_X2_36 : Cond.methodLink RX2 36 yX2_firstFlaw ∈ wG := a_361
theorem l_X2_40 : Cond.methodLink RX2 40 yX2_fits ∈ wG := a_365
theorem l_X2_44 : Cond.methodLink RX2 44 yX2_kindBy ∈ wG := a_368
theorem l_X3_3 : Cond.methodLink RX3 3 Lib.objectInit ∈ wG := a_282
theorem l_X3_26 : Cond.methodLink RX3 26 yX3_hasItem ∈ wG := a_658
theorem l_X4_3 : Cond.methodLink RX4 3 Lib.objectInit ∈ wG := a_264
theorem l_X4_22 : Cond.methodLink RX4 22 yX4_isFull ∈ wG := a_629
theorem l_X4_26 : Cond.methodLink RX4 26 yX5_madeIn ∈ wG := a_642
theorem l_X5_3 : Cond.methodLink RX5 3 Lib.objectInit ∈ wG := a_105
theorem l_X5_30 : Cond.methodLink RX5 30 yX6_beStart ∈ wG := a_379
theorem l_X5_37 : Cond.methodLink RX5 37 yX5_add ∈ wG := a_391
theorem l_X5_41 : Cond.methodLink RX5 41 yX2_kindOf ∈ wG := a_395
theorem l_X5_48 : Cond.methodLink RX5 48 yX2_figure ∈ wG := a_399
theorem l_X5_55 : Cond.methodLink RX5 55 yX5_howManyOf ∈ wG := a_403
theorem l_X5_61 : Cond.methodLink RX5 61 Lib.Math.max.name ∈ wG := a_407
theorem l_X5_69 : Cond.methodLink RX5 69 yX5_last ∈ wG := a_410
theorem l_X5_73 : Cond.methodLink RX5 73 yX6_follow ∈ wG := a_418
theorem l_X5_86 : Cond.methodLink RX5 86 yX6_beSaid ∈ wG := a_422
theorem l_X5_89 : Cond.methodLink RX5 89 yX6_beWritten ∈ wG := a_427
theorem l_X5_93 : Cond.methodLink RX5 93 yX5_turnAt ∈ wG := a_414
theorem l_X5_100 : Cond.methodLink RX5 100 yX5_howManyWritten ∈ wG := a_486
theorem l_X5_104 : Cond.methodLink RX5 104 yX5_isSaidIn ∈ wG := a_504
theorem l_X6_3 : Cond.methodLink RX6 3 Lib.objectInit ∈ wG := a_111
theorem l_X6_9 : Cond.methodLink RX6 9 yX6_comeToNothing ∈ wG := a_383
theorem l_X6_48 : Cond.methodLink RX6 48 Lib.Math.max.name ∈ wG := a_426
theorem l_X7_1 : Cond.methodLink RX7 1 Lib.objectInit ∈ wG := a_71
theorem l_X7_15 : Cond.methodLink RX7 15 yX2_init ∈ wG := a_76
theorem l_X7_27 : Cond.methodLink RX7 27 yX5_init ∈ wG := a_102
theorem l_X7_37 : Cond.methodLink RX7 37 yX1_init ∈ wG := a_200
theorem l_X7_46 : Cond.methodLink RX7 46 yX0_init ∈ wG := a_223
theorem l_X7_67 : Cond.methodLink RX7 67 yX7_isText ∈ wG := a_341
theorem l_X7_71 : Cond.methodLink RX7 71 yX7_scriptOf ∈ wG := a_344
theorem l_X7_75 : Cond.methodLink RX7 75 yX2_isFull ∈ wG := a_348
theorem l_X7_79 : Cond.methodLink RX7 79 yX2_append ∈ wG := a_352
theorem l_X7_82 : Cond.methodLink RX7 82 yX7_tellAnew ∈ wG := a_371
theorem l_X7_89 : Cond.methodLink RX7 89 yX2_shorten ∈ wG := a_435
theorem l_X7_95 : Cond.methodLink RX7 95 yX2_dropLastVerse ∈ wG := a_443
theorem l_X7_107 : Cond.methodLink RX7 107 yX7_isVerse ∈ wG := a_464
theorem l_X7_110 : Cond.methodLink RX7 110 yX5_turnAt ∈ wG := a_468
theorem l_X7_114 : Cond.methodLink RX7 114 yX2_figure ∈ wG := a_469
theorem l_X7_144 : Cond.methodLink RX7 144 yX5_howManyWritten ∈ wG := a_478
theorem l_X7_148 : Cond.methodLink RX7 148 yX5_lastWritten ∈ wG := a_482
theorem l_X7_151 : Cond.methodLink RX7 151 yX5_last ∈ wG := a_487
theorem l_X7_164 : Cond.methodLink RX7 164 yX5_saidIn ∈ wG := a_500
theorem l_X7_168 : Cond.methodLink RX7 168 yX5_madeIn ∈ wG := a_507
theorem l_X7_171 : Cond.methodLink RX7 171 yX5_inHandIn ∈ wG := a_511
theorem l_X7_178 : Cond.methodLink RX7 178 yX1_seek ∈ wG := a_519
theorem l_X7_187 : Cond.methodLink RX7 187 yX0_seek ∈ wG := a_546
theorem l_X7_195 : Cond.methodLink RX7 195 yX5_open ∈ wG := a_375
theorem l_X7_199 : Cond.methodLink RX7 199 yX5_changeLead ∈ wG := a_580
theorem l_X7_202 : Cond.methodLink RX7 202 yX5_addAll ∈ wG := a_387
theorem l_X7_206 : Cond.methodLink RX7 206 yX5_isWholeWithoutPause ∈ wG := a_584
theorem l_X7_211 : Cond.methodLink RX7 211 yX7_sixteenths ∈ wG := a_590
theorem l_X7_219 : Cond.methodLink RX7 219 yX7_errorsBy ∈ wG := a_606
theorem l_X7_222 : Cond.methodLink RX7 222 yX7_bestLine ∈ wG := a_610
theorem l_X7_225 : Cond.methodLink RX7 225 yX4_mayBe ∈ wG := a_618
theorem l_X7_229 : Cond.methodLink RX7 229 yX4_isFull ∈ wG := a_621
theorem l_X7_230 : Cond.methodLink RX7 230 yX4_add ∈ wG := a_625
theorem l_X7_235 : Cond.methodLink RX7 235 yX4_fit ∈ wG := a_638
theorem l_X7_239 : Cond.methodLink RX7 239 yX7_isSheet ∈ wG := a_647
theorem l_X7_245 : Cond.methodLink RX7 245 yX7_found ∈ wG := a_650
theorem l_X7_249 : Cond.methodLink RX7 249 yX3_item ∈ wG := a_654
theorem l_X7_252 : Cond.methodLink RX7 252 yX7_isForm ∈ wG := a_666
theorem l_X7_255 : Cond.methodLink RX7 255 yX3_renew ∈ wG := a_669
theorem l_X7_258 : Cond.methodLink RX7 258 yX7_findingAt ∈ wG := a_681
theorem l_X7_262 : Cond.methodLink RX7 262 yX3_store ∈ wG := a_685
theorem l_X7_272 : Cond.methodLink RX7 272 yX3_hasSpan ∈ wG := a_698
theorem l_X7_278 : Cond.methodLink RX7 278 arraycopyName ∈ wG := a_702
theorem l_X7_284 : Cond.methodLink RX7 284 Lib.Math.min.name ∈ wG := a_709
theorem l_X7_292 : Cond.methodLink RX7 292 yJ6_bitCount_0f7a4 ∈ wG := a_714
theorem l_X7_301 : Cond.methodLink RX7 301 yX7_count ∈ wG := a_726
theorem l_X7_304 : Cond.methodLink RX7 304 yX7_fault ∈ wG := a_727
theorem l_X7_307 : Cond.methodLink RX7 307 yX7_digestOfVerse ∈ wG := a_728
theorem l_X7_311 : Cond.methodLink RX7 311 yX7_digestOfBreaths ∈ wG := a_735
theorem l_X7_315 : Cond.methodLink RX7 315 yX7_put ∈ wG := a_742
theorem l_X7_318 : Cond.methodLink RX7 318 yX7_order ∈ wG := a_743
theorem l_X7_321 : Cond.methodLink RX7 321 yX7_lead ∈ wG := a_744
theorem l_X7_324 : Cond.methodLink RX7 324 yX7_odds ∈ wG := a_745
theorem l_X7_328 : Cond.methodLink RX7 328 yX7_drawn ∈ wG := a_746
theorem l_X7_331 : Cond.methodLink RX7 331 yX7_line ∈ wG := a_747
theorem l_X7_334 : Cond.methodLink RX7 334 yX7_leads ∈ wG := a_748
theorem l_X7_337 : Cond.methodLink RX7 337 yX7_verse ∈ wG := a_732
theorem l_X7_340 : Cond.methodLink RX7 340 yX7_when ∈ wG := a_733
theorem l_X7_343 : Cond.methodLink RX7 343 yX7_rest ∈ wG := a_734
theorem l_X7_346 : Cond.methodLink RX7 346 yX7_poem ∈ wG := a_739
theorem l_X7_349 : Cond.methodLink RX7 349 yX7_judged ∈ wG := a_740
theorem l_X7_352 : Cond.methodLink RX7 352 yX7_doing ∈ wG := a_741
theorem l_X7_355 : Cond.methodLink RX7 355 Lib.Math.max.name ∈ wG := a_594
theorem l_X7_358 : Cond.methodLink RX7 358 yX3_hasItem ∈ wG := a_684
theorem l_X8_1 : Cond.methodLink RX8 1 Lib.objectInit ∈ wG := a_754
theorem l_X8_72 : Cond.methodLink RX8 72 yX8_in ∈ wG := a_854
theorem l_X8_82 : Cond.methodLink RX8 82 yX8_isSheet ∈ wG := a_850
theorem l_X8_88 : Cond.methodLink RX8 88 yX8_met ∈ wG := a_858
theorem l_X8_92 : Cond.methodLink RX8 92 yX8_lacks ∈ wG := a_870
theorem l_X8_96 : Cond.methodLink RX8 96 yX8_cut ∈ wG := a_874
theorem l_X8_101 : Cond.methodLink RX8 101 yX8_isTwo ∈ wG := a_890
theorem l_X8_109 : Cond.methodLink RX8 109 yX8_here ∈ wG := a_910
theorem l_X8_112 : Cond.methodLink RX8 112 yX8_kindOf ∈ wG := a_914
theorem l_X8_117 : Cond.methodLink RX8 117 yX8_readsVerse ∈ wG := a_906
theorem l_X8_120 : Cond.methodLink RX8 120 yX8_readsText ∈ wG := a_902
theorem l_X8_125 : Cond.methodLink RX8 125 yX8_most ∈ wG := a_927
theorem l_X8_131 : Cond.methodLink RX8 131 yX8_kindAt ∈ wG := a_950
theorem l_X8_134 : Cond.methodLink RX8 134 yX8_greater ∈ wG := a_954
theorem l_X8_137 : Cond.methodLink RX8 137 yX8_counts ∈ wG := a_946
theorem l_X8_152 : Cond.methodLink RX8 152 yX8_sayAt ∈ wG := a_957
theorem l_X8_155 : Cond.methodLink RX8 155 yX8_plain ∈ wG := a_938
theorem l_X8_158 : Cond.methodLink RX8 158 yX8_says ∈ wG := a_942
theorem l_X8_162 : Cond.methodLink RX8 162 yX8_find ∈ wG := a_934
theorem l_X8_165 : Cond.methodLink RX8 165 yX8_isVerse ∈ wG := a_961
theorem l_X8_168 : Cond.methodLink RX8 168 yX8_verseOf ∈ wG := a_965
theorem l_X8_173 : Cond.methodLink RX8 173 yX8_whenOf ∈ wG := a_974
theorem l_X8_176 : Cond.methodLink RX8 176 yX8_poemOf ∈ wG := a_982
theorem l_X8_179 : Cond.methodLink RX8 179 yX8_judgedNow ∈ wG := a_990
theorem l_X8_183 : Cond.methodLink RX8 183 yX8_isFree ∈ wG := a_1006
theorem l_X8_186 : Cond.methodLink RX8 186 yX8_freeAhead ∈ wG := a_1002
theorem l_X8_189 : Cond.methodLink RX8 189 yX8_restOf ∈ wG := a_998
theorem l_X8_192 : Cond.methodLink RX8 192 yX8_saysIn ∈ wG := a_1019
theorem l_X8_195 : Cond.methodLink RX8 195 yX8_makesIn ∈ wG := a_1023
theorem l_X8_198 : Cond.methodLink RX8 198 yX8_hasIn ∈ wG := a_1027
theorem l_X8_203 : Cond.methodLink RX8 203 yX8_doingOf ∈ wG := a_1015
theorem l_X8_206 : Cond.methodLink RX8 206 yX8_lays ∈ wG := a_1043
theorem l_X8_210 : Cond.methodLink RX8 210 yX8_looks ∈ wG := a_1039
theorem l_X8_214 : Cond.methodLink RX8 214 yX8_findPut ∈ wG := a_1035
theorem l_X8_217 : Cond.methodLink RX8 217 yX8_lesser ∈ wG := a_1057
theorem l_X8_226 : Cond.methodLink RX8 226 yX8_unfolds ∈ wG := a_1060
theorem l_X8_234 : Cond.methodLink RX8 234 yX8_findOrder ∈ wG := a_1053
theorem l_X8_237 : Cond.methodLink RX8 237 yX8_tellsOrder ∈ wG := a_1064
theorem l_X8_240 : Cond.methodLink RX8 240 yX8_leadNow ∈ wG := a_1072
theorem l_X8_245 : Cond.methodLink RX8 245 yX8_part ∈ wG := a_1085
theorem l_X8_249 : Cond.methodLink RX8 249 yX8_oddsOf ∈ wG := a_1080
theorem l_X8_253 : Cond.methodLink RX8 253 yX8_no ∈ wG := a_1088
theorem l_X8_257 : Cond.methodLink RX8 257 yX8_drawnOf ∈ wG := a_1096
theorem l_X8_260 : Cond.methodLink RX8 260 yX8_isIn ∈ wG := a_1115
theorem l_X8_264 : Cond.methodLink RX8 264 yX8_errors ∈ wG := a_1111
theorem l_X8_271 : Cond.methodLink RX8 271 yX8_lineOf ∈ wG := a_1107
theorem l_X8_279 : Cond.methodLink RX8 279 yX8_seen ∈ wG := a_1131
theorem l_X8_281 : Cond.methodLink RX8 281 yX8_leadsNow ∈ wG := a_1136
theorem l_X8_288 : Cond.methodLink RX8 288 yX8_count ∈ wG := a_1154
theorem k_J6_265 : Cond.constant RJ6 265 (1431655765) ∈ wG := a_717
theorem k_J6_266 : Cond.constant RJ6 266 (858993459) ∈ wG := a_718
theorem k_J6_267 : Cond.constant RJ6 267 (252645135) ∈ wG := a_719
theorem k_X0_46 : Cond.constant RX0 46 (1000000) ∈ wG := a_553
theorem k_X7_218 : Cond.constant RX7 218 (1103515245) ∈ wG := a_601
theorem k_X7_265 : Cond.constant RX7 265 (-2147483648) ∈ wG := a_693
theorem k_X8_100 : Cond.constant RX8 100 (-2147483648) ∈ wG := a_881
theorem k_X8_256 : Cond.constant RX8 256 (1103515245) ∈ wG := a_1100
theorem k_X7_209 : Cond.constantLong RX7 209 (-9223372036854775806) ∈ wG := a_589
theorem k_X7_214 : Cond.constantLong RX7 214 (16) ∈ wG := a_595
theorem k_X7_216 : Cond.constantLong RX7 216 (2) ∈ wG := a_596
theorem k_X7_297 : Cond.constantLong RX7 297 (17) ∈ wG := a_724
theorem k_X7_299 : Cond.constantLong RX7 299 (31) ∈ wG := a_725
theorem k_X8_70 : Cond.constantLong RX8 70 (-9223372036854775808) ∈ wG := a_1091
theorem k_X8_80 : Cond.constantLong RX8 80 (3) ∈ wG := a_853
theorem k_X8_86 : Cond.constantLong RX8 86 (2) ∈ wG := a_857
theorem k_X8_104 : Cond.constantLong RX8 104 (255) ∈ wG := a_893
theorem k_X8_115 : Cond.constantLong RX8 115 (9) ∈ wG := a_917
theorem k_X8_123 : Cond.constantLong RX8 123 (5) ∈ wG := a_926
theorem k_X8_171 : Cond.constantLong RX8 171 (4) ∈ wG := a_973
theorem k_X8_201 : Cond.constantLong RX8 201 (299) ∈ wG := a_1014
theorem k_X8_230 : Cond.constantLong RX8 230 (-2) ∈ wG := a_1051
theorem k_X8_232 : Cond.constantLong RX8 232 (6) ∈ wG := a_1052
theorem k_X8_243 : Cond.constantLong RX8 243 (16) ∈ wG := a_1084
theorem k_X8_267 : Cond.constantLong RX8 267 (-1) ∈ wG := a_1105
theorem k_X8_269 : Cond.constantLong RX8 269 (10) ∈ wG := a_1106
theorem k_X8_274 : Cond.constantLong RX8 274 (11) ∈ wG := a_1122
theorem k_X8_284 : Cond.constantLong RX8 284 (17) ∈ wG := a_1152
theorem k_X8_286 : Cond.constantLong RX8 286 (31) ∈ wG := a_1153
theorem bt_max : Cond.static Lib.Math.max.name ∈ wG ∧ Cond.initialized "java/lang/Math" ∈ wG ∧ Cond.code Lib.Math.max.name Lib.Math.max.code 2 (some .int) ∈ wG := ⟨wG_in (by decide +kernel) rfl, wG_in (by decide +kernel) rfl, wG_in (by decide +kernel) rfl⟩
theorem bt_min : Cond.static Lib.Math.min.name ∈ wG ∧ Cond.initialized "java/lang/Math" ∈ wG ∧ Cond.code Lib.Math.min.name Lib.Math.min.code 2 (some .int) ∈ wG := ⟨wG_in (by decide +kernel) rfl, wG_in (by decide +kernel) rfl, wG_in (by decide +kernel) rfl⟩
theorem bt_cpy : Cond.native arraycopyName ∈ wG ∧ Cond.static arraycopyName ∈ wG ∧ Cond.initialized "java/lang/System" ∈ wG := ⟨wG_in (by decide +kernel) rfl, wG_in (by decide +kernel) rfl, wG_in (by decide +kernel) rfl⟩
theorem bt_obj : Cond.instanceMethod Lib.objectInit ∈ wG ∧ Cond.code Lib.objectInit ⟨#[0xb1]⟩ 1 none ∈ wG := ⟨wG_in (by decide +kernel) rfl, wG_in (by decide +kernel) rfl⟩
def Y_J6_bitCount_0f7a4 : YY := (yJ6_bitCount_0f7a4, cJ6_bitCount_0f7a4, 1, (some .int), 1, 0, 0)
theorem ok_J6_bitCount_0f7a4 : okS Y_J6_bitCount_0f7a4 1 := ⟨⟨a_716, a_65, by decide +kernel, by decide⟩, a_715⟩
def Y_X0_init : YY := (yX0_init, cX0_init, 4, none, 1, 3, 21)
theorem ok_X0_init : okI Y_X0_init 3 := ⟨⟨a_225, a_59, by decide +kernel, by decide⟩, a_224, rfl, rfl⟩
def Y_X0_keep : YY := (yX0_keep, cX0_keep, 2, none, 3, 0, 0)
theorem ok_X0_keep : okV Y_X0_keep 0 := ⟨⟨a_565, a_59, by decide +kernel, by decide⟩, a_564, a_10⟩
def Y_X0_mayBeBest : YY := (yX0_mayBeBest, cX0_mayBeBest, 2, (some .boolean), 3, 0, 0)
theorem ok_X0_mayBeBest : okV Y_X0_mayBeBest 0 := ⟨⟨a_571, a_59, by decide +kernel, by decide⟩, a_570, a_11⟩
def Y_X0_placeFrom (d : Nat) : YY := (yX0_placeFrom, cX0_placeFrom, 3, none, 4 + d, 0, 0)
theorem ok_X0_placeFrom (d : Nat) : okS (Y_X0_placeFrom d) 2 := ⟨⟨a_561, a_59, (by decide +kernel : yX0_placeFrom.cls ≠ "java/lang/invoke/MethodHandle" ∧ yX0_placeFrom.cls ≠ "java/lang/invoke/VarHandle" ∧ (parseMethodDescriptor yX0_placeFrom.desc).map (fun d => d.parameters.length) = some 2), (by decide : 3 ≤ 41)⟩, a_560⟩
def Y_X0_seek : YY := (yX0_seek, cX0_seek, 2, none, 14, 0, 0)
theorem ok_X0_seek : okV Y_X0_seek 0 := ⟨⟨a_549, a_59, by decide +kernel, by decide⟩, a_547, a_548⟩
def Y_X1_attempt : YY := (yX1_attempt, cX1_attempt, 7, none, 4, 0, 0)
theorem ok_X1_attempt : okV Y_X1_attempt 5 := ⟨⟨a_526, a_58, by decide +kernel, by decide⟩, a_525, a_7⟩
def Y_X1_init : YY := (yX1_init, cX1_init, 5, none, 1, 1, 6)
theorem ok_X1_init : okI Y_X1_init 4 := ⟨⟨a_202, a_58, by decide +kernel, by decide⟩, a_201, rfl, rfl⟩
def Y_X1_seek : YY := (yX1_seek, cX1_seek, 2, none, 6, 0, 0)
theorem ok_X1_seek : okV Y_X1_seek 0 := ⟨⟨a_522, a_58, by decide +kernel, by decide⟩, a_520, a_521⟩
def Y_X1_seekOne : YY := (yX1_seekOne, cX1_seekOne, 3, none, 5, 0, 0)
theorem ok_X1_seekOne : okV Y_X1_seekOne 0 := ⟨⟨a_537, a_58, by decide +kernel, by decide⟩, a_536, a_8⟩
def Y_X1_seekTwo : YY := (yX1_seekTwo, cX1_seekTwo, 5, none, 5, 0, 0)
theorem ok_X1_seekTwo : okV Y_X1_seekTwo 0 := ⟨⟨a_541, a_58, by decide +kernel, by decide⟩, a_540, a_9⟩
def Y_X2_append : YY := (yX2_append, cX2_append, 2, none, 5, 0, 0)
theorem ok_X2_append : okV Y_X2_append 1 := ⟨⟨a_355, a_55, by decide +kernel, by decide⟩, a_353, a_354⟩
def Y_X2_dropLastVerse : YY := (yX2_dropLastVerse, cX2_dropLastVerse, 1, none, 6, 0, 0)
theorem ok_X2_dropLastVerse : okV Y_X2_dropLastVerse 0 := ⟨⟨a_446, a_55, by decide +kernel, by decide⟩, a_444, a_445⟩
def Y_X2_figure : YY := (yX2_figure, cX2_figure, 3, (some .int), 1, 0, 0)
theorem ok_X2_figure : okV Y_X2_figure 2 := ⟨⟨a_402, a_55, by decide +kernel, by decide⟩, a_400, a_401⟩
def Y_X2_firstFlaw : YY := (yX2_firstFlaw, cX2_firstFlaw, 2, (some .int), 3, 0, 0)
theorem ok_X2_firstFlaw : okV Y_X2_firstFlaw 0 := ⟨⟨a_364, a_55, by decide +kernel, by decide⟩, a_363, a_2⟩
def Y_X2_fits : YY := (yX2_fits, cX2_fits, 2, (some .boolean), 2, 0, 0)
theorem ok_X2_fits : okS Y_X2_fits 2 := ⟨⟨a_367, a_55, by decide +kernel, by decide⟩, a_366⟩
def Y_X2_init59 : YY := (yX2_init, cX2_init, 2, none, 1, 1, 59)
theorem ok_X2_init59 : okI Y_X2_init59 1 := ⟨⟨a_78, a_55, by decide +kernel, by decide⟩, a_77, rfl, rfl⟩
def Y_X2_init19 : YY := (yX2_init, cX2_init, 2, none, 1, 1, 19)
theorem ok_X2_init19 : okI Y_X2_init19 1 := ⟨⟨a_78, a_55, by decide +kernel, by decide⟩, a_77, rfl, rfl⟩
def Y_X2_isFull : YY := (yX2_isFull, cX2_isFull, 1, (some .boolean), 1, 0, 0)
theorem ok_X2_isFull : okV Y_X2_isFull 0 := ⟨⟨a_351, a_55, by decide +kernel, by decide⟩, a_349, a_350⟩
def Y_X2_kindBy : YY := (yX2_kindBy, cX2_kindBy, 1, (some .int), 1, 0, 0)
theorem ok_X2_kindBy : okS Y_X2_kindBy 1 := ⟨⟨a_370, a_55, by decide +kernel, by decide⟩, a_369⟩
def Y_X2_kindOf : YY := (yX2_kindOf, cX2_kindOf, 2, (some .int), 2, 0, 0)
theorem ok_X2_kindOf : okV Y_X2_kindOf 1 := ⟨⟨a_398, a_55, by decide +kernel, by decide⟩, a_396, a_397⟩
def Y_X2_settle : YY := (yX2_settle, cX2_settle, 1, none, 4, 0, 0)
theorem ok_X2_settle : okV Y_X2_settle 0 := ⟨⟨a_360, a_55, by decide +kernel, by decide⟩, a_359, a_1⟩
def Y_X2_shorten : YY := (yX2_shorten, cX2_shorten, 2, none, 5, 0, 0)
theorem ok_X2_shorten : okV Y_X2_shorten 1 := ⟨⟨a_438, a_55, by decide +kernel, by decide⟩, a_436, a_437⟩
def Y_X3_hasItem : YY := (yX3_hasItem, cX3_hasItem, 2, (some .boolean), 1, 0, 0)
theorem ok_X3_hasItem : okV Y_X3_hasItem 1 := ⟨⟨a_661, a_61, by decide +kernel, by decide⟩, a_659, a_660⟩
def Y_X3_hasSpan : YY := (yX3_hasSpan, cX3_hasSpan, 3, (some .boolean), 1, 0, 0)
theorem ok_X3_hasSpan : okV Y_X3_hasSpan 2 := ⟨⟨a_701, a_61, by decide +kernel, by decide⟩, a_699, a_700⟩
def Y_X3_init : YY := (yX3_init, cX3_init, 1, none, 1, 1, 60)
theorem ok_X3_init : okI Y_X3_init 0 := ⟨⟨a_281, a_61, by decide +kernel, by decide⟩, a_280, rfl, rfl⟩
def Y_X3_item : YY := (yX3_item, cX3_item, 2, (some .int), 2, 0, 0)
theorem ok_X3_item : okV Y_X3_item 1 := ⟨⟨a_657, a_61, by decide +kernel, by decide⟩, a_655, a_656⟩
def Y_X3_renew : YY := (yX3_renew, cX3_renew, 4, none, 1, 0, 0)
theorem ok_X3_renew : okV Y_X3_renew 2 := ⟨⟨a_672, a_61, by decide +kernel, by decide⟩, a_670, a_671⟩
def Y_X3_store : YY := (yX3_store, cX3_store, 3, none, 2, 0, 0)
theorem ok_X3_store : okV Y_X3_store 2 := ⟨⟨a_688, a_61, by decide +kernel, by decide⟩, a_686, a_687⟩
def Y_X4_add : YY := (yX4_add, cX4_add, 3, none, 2, 0, 0)
theorem ok_X4_add : okV Y_X4_add 2 := ⟨⟨a_628, a_60, by decide +kernel, by decide⟩, a_626, a_627⟩
def Y_X4_fit : YY := (yX4_fit, cX4_fit, 3, (some .boolean), 3, 0, 0)
theorem ok_X4_fit : okV Y_X4_fit 1 := ⟨⟨a_641, a_60, by decide +kernel, by decide⟩, a_639, a_640⟩
def Y_X4_init : YY := (yX4_init, cX4_init, 1, none, 1, 2, 16)
theorem ok_X4_init : okI Y_X4_init 0 := ⟨⟨a_263, a_60, by decide +kernel, by decide⟩, a_262, rfl, rfl⟩
def Y_X4_isFull : YY := (yX4_isFull, cX4_isFull, 1, (some .boolean), 1, 0, 0)
theorem ok_X4_isFull : okV Y_X4_isFull 0 := ⟨⟨a_624, a_60, by decide +kernel, by decide⟩, a_622, a_623⟩
def Y_X4_mayBe : YY := (yX4_mayBe, cX4_mayBe, 2, (some .boolean), 1, 0, 0)
theorem ok_X4_mayBe : okS Y_X4_mayBe 2 := ⟨⟨a_620, a_60, by decide +kernel, by decide⟩, a_619⟩
def Y_X5_add : YY := (yX5_add, cX5_add, 8, none, 3, 0, 0)
theorem ok_X5_add : okV Y_X5_add 2 := ⟨⟨a_394, a_56, by decide +kernel, by decide⟩, a_392, a_393⟩
def Y_X5_addAll : YY := (yX5_addAll, cX5_addAll, 3, none, 4, 0, 0)
theorem ok_X5_addAll : okV Y_X5_addAll 1 := ⟨⟨a_390, a_56, by decide +kernel, by decide⟩, a_388, a_389⟩
def Y_X5_changeLead : YY := (yX5_changeLead, cX5_changeLead, 2, none, 3, 0, 0)
theorem ok_X5_changeLead : okV Y_X5_changeLead 1 := ⟨⟨a_583, a_56, by decide +kernel, by decide⟩, a_581, a_582⟩
def Y_X5_dropLast : YY := (yX5_dropLast, cX5_dropLast, 1, none, 1, 0, 0)
theorem ok_X5_dropLast : okV Y_X5_dropLast 0 := ⟨⟨a_575, a_56, by decide +kernel, by decide⟩, a_573, a_574⟩
def Y_X5_howManyOf : YY := (yX5_howManyOf, cX5_howManyOf, 4, (some .int), 1, 0, 0)
theorem ok_X5_howManyOf : okV Y_X5_howManyOf 1 := ⟨⟨a_406, a_56, by decide +kernel, by decide⟩, a_405, a_5⟩
def Y_X5_howManyWritten : YY := (yX5_howManyWritten, cX5_howManyWritten, 2, (some .int), 1, 0, 0)
theorem ok_X5_howManyWritten : okV Y_X5_howManyWritten 0 := ⟨⟨a_481, a_56, by decide +kernel, by decide⟩, a_479, a_480⟩
def Y_X5_inHandIn : YY := (yX5_inHandIn, cX5_inHandIn, 5, (some .int), 1, 0, 0)
theorem ok_X5_inHandIn : okV Y_X5_inHandIn 1 := ⟨⟨a_514, a_56, by decide +kernel, by decide⟩, a_512, a_513⟩
def Y_X5_init12 : YY := (yX5_init, cX5_init, 3, none, 2, 15, 212)
theorem ok_X5_init12 : okI Y_X5_init12 1 := ⟨⟨a_104, a_56, by decide +kernel, by decide⟩, a_103, rfl, rfl⟩
def Y_X5_init14 : YY := (yX5_init, cX5_init, 3, none, 2, 17, 244)
theorem ok_X5_init14 : okI Y_X5_init14 1 := ⟨⟨a_104, a_56, by decide +kernel, by decide⟩, a_103, rfl, rfl⟩
def Y_X5_isSaidIn : YY := (yX5_isSaidIn, cX5_isSaidIn, 2, (some .boolean), 1, 0, 0)
theorem ok_X5_isSaidIn : okS Y_X5_isSaidIn 2 := ⟨⟨a_506, a_56, by decide +kernel, by decide⟩, a_505⟩
def Y_X5_isWholeWithoutPause : YY := (yX5_isWholeWithoutPause, cX5_isWholeWithoutPause, 1, (some .boolean), 3, 0, 0)
theorem ok_X5_isWholeWithoutPause : okV Y_X5_isWholeWithoutPause 0 := ⟨⟨a_531, a_56, by decide +kernel, by decide⟩, a_529, a_530⟩
def Y_X5_last : YY := (yX5_last, cX5_last, 1, (some (.object "MayNotPause$Turn")), 2, 0, 0)
theorem ok_X5_last : okV Y_X5_last 0 := ⟨⟨a_413, a_56, by decide +kernel, by decide⟩, a_411, a_412⟩
def Y_X5_lastWritten : YY := (yX5_lastWritten, cX5_lastWritten, 1, (some .int), 2, 0, 0)
theorem ok_X5_lastWritten : okV Y_X5_lastWritten 0 := ⟨⟨a_485, a_56, by decide +kernel, by decide⟩, a_483, a_484⟩
def Y_X5_letHimPause : YY := (yX5_letHimPause, cX5_letHimPause, 1, none, 1, 0, 0)
theorem ok_X5_letHimPause : okV Y_X5_letHimPause 0 := ⟨⟨a_558, a_56, by decide +kernel, by decide⟩, a_556, a_557⟩
def Y_X5_madeIn : YY := (yX5_madeIn, cX5_madeIn, 5, (some .int), 2, 0, 0)
theorem ok_X5_madeIn : okV Y_X5_madeIn 1 := ⟨⟨a_510, a_56, by decide +kernel, by decide⟩, a_508, a_509⟩
def Y_X5_open : YY := (yX5_open, cX5_open, 3, none, 3, 0, 0)
theorem ok_X5_open : okV Y_X5_open 1 := ⟨⟨a_378, a_56, by decide +kernel, by decide⟩, a_376, a_377⟩
def Y_X5_saidIn : YY := (yX5_saidIn, cX5_saidIn, 3, (some .int), 2, 0, 0)
theorem ok_X5_saidIn : okV Y_X5_saidIn 1 := ⟨⟨a_503, a_56, by decide +kernel, by decide⟩, a_501, a_502⟩
def Y_X5_turnAt : YY := (yX5_turnAt, cX5_turnAt, 2, (some (.object "MayNotPause$Turn")), 1, 0, 0)
theorem ok_X5_turnAt : okV Y_X5_turnAt 1 := ⟨⟨a_417, a_56, by decide +kernel, by decide⟩, a_415, a_416⟩
def Y_X6_beSaid : YY := (yX6_beSaid, cX6_beSaid, 2, none, 1, 0, 0)
theorem ok_X6_beSaid : okV Y_X6_beSaid 1 := ⟨⟨a_425, a_57, by decide +kernel, by decide⟩, a_423, a_424⟩
def Y_X6_beStart : YY := (yX6_beStart, cX6_beStart, 2, none, 2, 0, 0)
theorem ok_X6_beStart : okV Y_X6_beStart 1 := ⟨⟨a_382, a_57, by decide +kernel, by decide⟩, a_380, a_381⟩
def Y_X6_beWritten : YY := (yX6_beWritten, cX6_beWritten, 6, none, 1, 0, 0)
theorem ok_X6_beWritten : okV Y_X6_beWritten 3 := ⟨⟨a_430, a_57, by decide +kernel, by decide⟩, a_428, a_429⟩
def Y_X6_comeToNothing : YY := (yX6_comeToNothing, cX6_comeToNothing, 1, none, 1, 0, 0)
theorem ok_X6_comeToNothing : okV Y_X6_comeToNothing 0 := ⟨⟨a_386, a_57, by decide +kernel, by decide⟩, a_385, a_4⟩
def Y_X6_follow : YY := (yX6_follow, cX6_follow, 2, none, 2, 0, 0)
theorem ok_X6_follow : okV Y_X6_follow 1 := ⟨⟨a_421, a_57, by decide +kernel, by decide⟩, a_419, a_420⟩
def Y_X6_init : YY := (yX6_init, cX6_init, 1, none, 1, 0, 0)
theorem ok_X6_init : okI Y_X6_init 0 := ⟨⟨a_110, a_57, by decide +kernel, by decide⟩, a_109, rfl, rfl⟩
def Y_X7_bestLine : YY := (yX7_bestLine, cX7_bestLine, 5, (some .int), 3, 0, 0)
theorem ok_X7_bestLine : okV Y_X7_bestLine 0 := ⟨⟨a_613, a_54, by decide +kernel, by decide⟩, a_612, a_14⟩
def Y_X7_copy : YY := (yX7_copy, cX7_copy, 8, (some .int), 2, 0, 0)
theorem ok_X7_copy : okV Y_X7_copy 5 := ⟨⟨a_697, a_54, by decide +kernel, by decide⟩, a_695, a_696⟩
def Y_X7_count : YY := (yX7_count, cX7_count, 2, (some .int), 3, 0, 0)
theorem ok_X7_count : okV Y_X7_count 1 := ⟨⟨a_713, a_54, by decide +kernel, by decide⟩, a_711, a_712⟩
def Y_X7_digest : YY := (yX7_digest, cX7_digest, 4, (some .long), 16, 0, 0)
theorem ok_X7_digest : okV Y_X7_digest 0 := ⟨⟨a_723, a_54, by decide +kernel, by decide⟩, a_721, a_722⟩
def Y_X7_digestOfBreaths : YY := (yX7_digestOfBreaths, cX7_digestOfBreaths, 7, (some .long), 4, 0, 0)
theorem ok_X7_digestOfBreaths : okV Y_X7_digestOfBreaths 1 := ⟨⟨a_738, a_54, by decide +kernel, by decide⟩, a_737, a_17⟩
def Y_X7_digestOfVerse : YY := (yX7_digestOfVerse, cX7_digestOfVerse, 7, (some .long), 3, 0, 0)
theorem ok_X7_digestOfVerse : okV Y_X7_digestOfVerse 2 := ⟨⟨a_731, a_54, by decide +kernel, by decide⟩, a_730, a_16⟩
def Y_X7_doing : YY := (yX7_doing, cX7_doing, 3, (some .int), 3, 0, 0)
theorem ok_X7_doing : okV Y_X7_doing 2 := ⟨⟨a_499, a_54, by decide +kernel, by decide⟩, a_497, a_498⟩
def Y_X7_drawn : YY := (yX7_drawn, cX7_drawn, 5, (some .int), 3, 0, 0)
theorem ok_X7_drawn : okV Y_X7_drawn 1 := ⟨⟨a_600, a_54, by decide +kernel, by decide⟩, a_598, a_599⟩
def Y_X7_errorsBy : YY := (yX7_errorsBy, cX7_errorsBy, 7, (some .int), 2, 0, 0)
theorem ok_X7_errorsBy : okV Y_X7_errorsBy 2 := ⟨⟨a_609, a_54, by decide +kernel, by decide⟩, a_608, a_13⟩
def Y_X7_fault : YY := (yX7_fault, cX7_fault, 2, (some .int), 2, 0, 0)
theorem ok_X7_fault : okV Y_X7_fault 1 := ⟨⟨a_451, a_54, by decide +kernel, by decide⟩, a_449, a_450⟩
def Y_X7_findingAt : YY := (yX7_findingAt, cX7_findingAt, 3, (some .int), 2, 0, 0)
theorem ok_X7_findingAt : okS Y_X7_findingAt 3 := ⟨⟨a_683, a_54, by decide +kernel, by decide⟩, a_682⟩
def Y_X7_forget : YY := (yX7_forget, cX7_forget, 2, (some .int), 1, 0, 0)
theorem ok_X7_forget : okV Y_X7_forget 0 := ⟨⟨a_633, a_54, by decide +kernel, by decide⟩, a_631, a_632⟩
def Y_X7_found : YY := (yX7_found, cX7_found, 2, (some .int), 1, 0, 0)
theorem ok_X7_found : okV Y_X7_found 1 := ⟨⟨a_653, a_54, by decide +kernel, by decide⟩, a_652, a_15⟩
def Y_X7_get : YY := (yX7_get, cX7_get, 5, (some .int), 3, 0, 0)
theorem ok_X7_get : okV Y_X7_get 3 := ⟨⟨a_692, a_54, by decide +kernel, by decide⟩, a_690, a_691⟩
def Y_X7_init : YY := (yX7_init, cX7_init, 2, none, 3, 57, 876)
theorem ok_X7_init : okI Y_X7_init 0 := ⟨⟨a_70, a_54, by decide +kernel, by decide⟩, a_69, rfl, rfl⟩
def Y_X7_isForm : YY := (yX7_isForm, cX7_isForm, 1, (some .boolean), 1, 0, 0)
theorem ok_X7_isForm : okS Y_X7_isForm 1 := ⟨⟨a_668, a_54, by decide +kernel, by decide⟩, a_667⟩
def Y_X7_isSheet : YY := (yX7_isSheet, cX7_isSheet, 1, (some .boolean), 1, 0, 0)
theorem ok_X7_isSheet : okS Y_X7_isSheet 1 := ⟨⟨a_649, a_54, by decide +kernel, by decide⟩, a_648⟩
def Y_X7_isText : YY := (yX7_isText, cX7_isText, 1, (some .boolean), 1, 0, 0)
theorem ok_X7_isText : okS Y_X7_isText 1 := ⟨⟨a_343, a_54, by decide +kernel, by decide⟩, a_342⟩
def Y_X7_isVerse : YY := (yX7_isVerse, cX7_isVerse, 2, (some .boolean), 1, 0, 0)
theorem ok_X7_isVerse : okV Y_X7_isVerse 1 := ⟨⟨a_467, a_54, by decide +kernel, by decide⟩, a_466, a_6⟩
def Y_X7_judged : YY := (yX7_judged, cX7_judged, 3, (some .int), 2, 0, 0)
theorem ok_X7_judged : okV Y_X7_judged 0 := ⟨⟨a_491, a_54, by decide +kernel, by decide⟩, a_489, a_490⟩
def Y_X7_lay : YY := (yX7_lay, cX7_lay, 6, (some .int), 3, 0, 0)
theorem ok_X7_lay : okV Y_X7_lay 4 := ⟨⟨a_680, a_54, by decide +kernel, by decide⟩, a_678, a_679⟩
def Y_X7_lead : YY := (yX7_lead, cX7_lead, 2, (some .int), 5, 0, 0)
theorem ok_X7_lead : okV Y_X7_lead 0 := ⟨⟨a_579, a_54, by decide +kernel, by decide⟩, a_577, a_578⟩
def Y_X7_leads : YY := (yX7_leads, cX7_leads, 3, (some .int), 5, 0, 0)
theorem ok_X7_leads : okV Y_X7_leads 0 := ⟨⟨a_637, a_54, by decide +kernel, by decide⟩, a_635, a_636⟩
def Y_X7_line : YY := (yX7_line, cX7_line, 4, (some .int), 4, 0, 0)
theorem ok_X7_line : okV Y_X7_line 2 := ⟨⟨a_605, a_54, by decide +kernel, by decide⟩, a_603, a_604⟩
def Y_X7_lose : YY := (yX7_lose, cX7_lose, 2, (some .int), 2, 0, 0)
theorem ok_X7_lose : okV Y_X7_lose 1 := ⟨⟨a_676, a_54, by decide +kernel, by decide⟩, a_674, a_675⟩
def Y_X7_odds : YY := (yX7_odds, cX7_odds, 11, (some .long), 3, 0, 0)
theorem ok_X7_odds : okV Y_X7_odds 1 := ⟨⟨a_588, a_54, by decide +kernel, by decide⟩, a_586, a_587⟩
def Y_X7_order : YY := (yX7_order, cX7_order, 2, (some .int), 15, 0, 0)
theorem ok_X7_order : okV Y_X7_order 1 := ⟨⟨a_545, a_54, by decide +kernel, by decide⟩, a_543, a_544⟩
def Y_X7_poem : YY := (yX7_poem, cX7_poem, 2, (some .int), 3, 0, 0)
theorem ok_X7_poem : okV Y_X7_poem 1 := ⟨⟨a_477, a_54, by decide +kernel, by decide⟩, a_475, a_476⟩
def Y_X7_put : YY := (yX7_put, cX7_put, 2, (some .int), 7, 0, 0)
theorem ok_X7_put : okV Y_X7_put 1 := ⟨⟨a_518, a_54, by decide +kernel, by decide⟩, a_516, a_517⟩
def Y_X7_read : YY := (yX7_read, cX7_read, 7, (some .int), 3, 0, 0)
theorem ok_X7_read : okV Y_X7_read 1 := ⟨⟨a_646, a_54, by decide +kernel, by decide⟩, a_644, a_645⟩
def Y_X7_rest : YY := (yX7_rest, cX7_rest, 3, (some .int), 2, 0, 0)
theorem ok_X7_rest : okV Y_X7_rest 1 := ⟨⟨a_495, a_54, by decide +kernel, by decide⟩, a_493, a_494⟩
def Y_X7_scriptOf : YY := (yX7_scriptOf, cX7_scriptOf, 2, (some (.object "MayNotPause$Script")), 1, 0, 0)
theorem ok_X7_scriptOf : okV Y_X7_scriptOf 1 := ⟨⟨a_347, a_54, by decide +kernel, by decide⟩, a_346, a_0⟩
def Y_X7_seen : YY := (yX7_seen, cX7_seen, 3, (some .int), 3, 0, 0)
theorem ok_X7_seen : okV Y_X7_seen 2 := ⟨⟨a_617, a_54, by decide +kernel, by decide⟩, a_615, a_616⟩
def Y_X7_set : YY := (yX7_set, cX7_set, 4, (some .int), 6, 0, 0)
theorem ok_X7_set : okV Y_X7_set 2 := ⟨⟨a_455, a_54, by decide +kernel, by decide⟩, a_453, a_454⟩
def Y_X7_sheet : YY := (yX7_sheet, cX7_sheet, 4, (some .int), 2, 0, 0)
theorem ok_X7_sheet : okV Y_X7_sheet 3 := ⟨⟨a_665, a_54, by decide +kernel, by decide⟩, a_663, a_664⟩
def Y_X7_sixteenths : YY := (yX7_sixteenths, cX7_sixteenths, 2, (some .int), 2, 0, 0)
theorem ok_X7_sixteenths : okV Y_X7_sixteenths 1 := ⟨⟨a_593, a_54, by decide +kernel, by decide⟩, a_592, a_12⟩
def Y_X7_tellAnew : YY := (yX7_tellAnew, cX7_tellAnew, 1, none, 5, 0, 0)
theorem ok_X7_tellAnew : okV Y_X7_tellAnew 0 := ⟨⟨a_374, a_54, by decide +kernel, by decide⟩, a_373, a_3⟩
def Y_X7_type : YY := (yX7_type, cX7_type, 4, (some .int), 6, 0, 0)
theorem ok_X7_type : okV Y_X7_type 2 := ⟨⟨a_340, a_54, by decide +kernel, by decide⟩, a_338, a_339⟩
def Y_X7_undo : YY := (yX7_undo, cX7_undo, 3, (some .int), 7, 0, 0)
theorem ok_X7_undo : okV Y_X7_undo 1 := ⟨⟨a_442, a_54, by decide +kernel, by decide⟩, a_440, a_441⟩
def Y_X7_verse : YY := (yX7_verse, cX7_verse, 4, (some .int), 2, 0, 0)
theorem ok_X7_verse : okV Y_X7_verse 2 := ⟨⟨a_463, a_54, by decide +kernel, by decide⟩, a_461, a_462⟩
def Y_X7_when : YY := (yX7_when, cX7_when, 4, (some .int), 2, 0, 0)
theorem ok_X7_when : okV Y_X7_when 2 := ⟨⟨a_473, a_54, by decide +kernel, by decide⟩, a_471, a_472⟩
def Y_X7_wipe : YY := (yX7_wipe, cX7_wipe, 4, (some .int), 6, 0, 0)
theorem ok_X7_wipe : okV Y_X7_wipe 1 := ⟨⟨a_434, a_54, by decide +kernel, by decide⟩, a_432, a_433⟩
def Y_X7_write : YY := (yX7_write, cX7_write, 5, (some .int), 3, 0, 0)
theorem ok_X7_write : okV Y_X7_write 1 := ⟨⟨a_708, a_54, by decide +kernel, by decide⟩, a_706, a_707⟩
def Y_X8_copy : YY := (yX8_copy, cX8_copy, 7, (some .int), 3, 0, 0)
theorem ok_X8_copy : okV Y_X8_copy 5 := ⟨⟨a_885, a_62, by decide +kernel, by decide⟩, a_883, a_884⟩
def Y_X8_count : YY := (yX8_count, cX8_count, 4, (some .int), 5, 0, 0)
theorem ok_X8_count : okV Y_X8_count 1 := ⟨⟨a_1147, a_62, by decide +kernel, by decide⟩, a_1145, a_1146⟩
def Y_X8_counts : YY := (yX8_counts, cX8_counts, 4, none, 2, 0, 0)
theorem ok_X8_counts : okV Y_X8_counts 0 := ⟨⟨a_949, a_62, by decide +kernel, by decide⟩, a_948, a_26⟩
def Y_X8_cut : YY := (yX8_cut, cX8_cut, 2, (some .int), 1, 0, 0)
theorem ok_X8_cut : okS Y_X8_cut 2 := ⟨⟨a_876, a_62, by decide +kernel, by decide⟩, a_875⟩
def Y_X8_digest : YY := (yX8_digest, cX8_digest, 5, (some .long), 6, 0, 0)
theorem ok_X8_digest : okV Y_X8_digest 0 := ⟨⟨a_1151, a_62, by decide +kernel, by decide⟩, a_1149, a_1150⟩
def Y_X8_doing : YY := (yX8_doing, cX8_doing, 3, (some .int), 6, 0, 0)
theorem ok_X8_doing : okV Y_X8_doing 2 := ⟨⟨a_1013, a_62, by decide +kernel, by decide⟩, a_1011, a_1012⟩
def Y_X8_doingOf : YY := (yX8_doingOf, cX8_doingOf, 3, (some .int), 5, 0, 0)
theorem ok_X8_doingOf : okV Y_X8_doingOf 2 := ⟨⟨a_1018, a_62, by decide +kernel, by decide⟩, a_1017, a_37⟩
def Y_X8_drawn : YY := (yX8_drawn, cX8_drawn, 2, (some .int), 5, 0, 0)
theorem ok_X8_drawn : okV Y_X8_drawn 1 := ⟨⟨a_1095, a_62, by decide +kernel, by decide⟩, a_1093, a_1094⟩
def Y_X8_drawnOf : YY := (yX8_drawnOf, cX8_drawnOf, 4, (some .int), 1, 0, 0)
theorem ok_X8_drawnOf : okV Y_X8_drawnOf 1 := ⟨⟨a_1099, a_62, by decide +kernel, by decide⟩, a_1098, a_49⟩
def Y_X8_errors : YY := (yX8_errors, cX8_errors, 7, (some .int), 2, 0, 0)
theorem ok_X8_errors : okV Y_X8_errors 2 := ⟨⟨a_1114, a_62, by decide +kernel, by decide⟩, a_1113, a_51⟩
def Y_X8_fault : YY := (yX8_fault, cX8_fault, 2, (some .int), 4, 0, 0)
theorem ok_X8_fault : okV Y_X8_fault 1 := ⟨⟨a_901, a_62, by decide +kernel, by decide⟩, a_899, a_900⟩
def Y_X8_find : YY := (yX8_find, cX8_find, 1, none, 4, 0, 0)
theorem ok_X8_find : okV Y_X8_find 0 := ⟨⟨a_937, a_62, by decide +kernel, by decide⟩, a_936, a_23⟩
def Y_X8_findOrder : YY := (yX8_findOrder, cX8_findOrder, 6, none, 4, 0, 0)
theorem ok_X8_findOrder : okV Y_X8_findOrder 0 := ⟨⟨a_1056, a_62, by decide +kernel, by decide⟩, a_1055, a_44⟩
def Y_X8_findPut : YY := (yX8_findPut, cX8_findPut, 5, none, 5, 0, 0)
theorem ok_X8_findPut : okV Y_X8_findPut 0 := ⟨⟨a_1038, a_62, by decide +kernel, by decide⟩, a_1037, a_41⟩
def Y_X8_forget : YY := (yX8_forget, cX8_forget, 2, (some .int), 1, 0, 0)
theorem ok_X8_forget : okV Y_X8_forget 0 := ⟨⟨a_1126, a_62, by decide +kernel, by decide⟩, a_1124, a_1125⟩
def Y_X8_freeAhead : YY := (yX8_freeAhead, cX8_freeAhead, 5, (some .int), 3, 0, 0)
theorem ok_X8_freeAhead : okV Y_X8_freeAhead 2 := ⟨⟨a_1005, a_62, by decide +kernel, by decide⟩, a_1004, a_35⟩
def Y_X8_get : YY := (yX8_get, cX8_get, 4, (some .int), 3, 0, 0)
theorem ok_X8_get : okV Y_X8_get 3 := ⟨⟨a_880, a_62, by decide +kernel, by decide⟩, a_878, a_879⟩
def Y_X8_greater : YY := (yX8_greater, cX8_greater, 2, (some .int), 1, 0, 0)
theorem ok_X8_greater : okS Y_X8_greater 2 := ⟨⟨a_956, a_62, by decide +kernel, by decide⟩, a_955⟩
def Y_X8_hasIn : YY := (yX8_hasIn, cX8_hasIn, 4, (some .int), 1, 0, 0)
theorem ok_X8_hasIn : okV Y_X8_hasIn 1 := ⟨⟨a_1030, a_62, by decide +kernel, by decide⟩, a_1029, a_40⟩
def Y_X8_here : YY := (yX8_here, cX8_here, 2, (some .int), 1, 0, 0)
theorem ok_X8_here : okV Y_X8_here 1 := ⟨⟨a_913, a_62, by decide +kernel, by decide⟩, a_912, a_22⟩
def Y_X8_in : YY := (yX8_in, cX8_in, 6, (some .boolean), 1, 0, 0)
theorem ok_X8_in : okS Y_X8_in 3 := ⟨⟨a_856, a_62, by decide +kernel, by decide⟩, a_855⟩
def Y_X8_init : YY := (yX8_init, cX8_init, 2, none, 1, 20, 643)
theorem ok_X8_init : okI Y_X8_init 0 := ⟨⟨a_753, a_62, by decide +kernel, by decide⟩, a_752, rfl, rfl⟩
def Y_X8_isFree : YY := (yX8_isFree, cX8_isFree, 5, (some .boolean), 2, 0, 0)
theorem ok_X8_isFree : okV Y_X8_isFree 1 := ⟨⟨a_1009, a_62, by decide +kernel, by decide⟩, a_1008, a_36⟩
def Y_X8_isIn : YY := (yX8_isIn, cX8_isIn, 2, (some .boolean), 1, 0, 0)
theorem ok_X8_isIn : okS Y_X8_isIn 2 := ⟨⟨a_1117, a_62, by decide +kernel, by decide⟩, a_1116⟩
def Y_X8_isSheet : YY := (yX8_isSheet, cX8_isSheet, 1, (some .boolean), 2, 0, 0)
theorem ok_X8_isSheet : okS Y_X8_isSheet 1 := ⟨⟨a_852, a_62, by decide +kernel, by decide⟩, a_851⟩
def Y_X8_isTwo : YY := (yX8_isTwo, cX8_isTwo, 1, (some .boolean), 2, 0, 0)
theorem ok_X8_isTwo : okS Y_X8_isTwo 1 := ⟨⟨a_892, a_62, by decide +kernel, by decide⟩, a_891⟩
def Y_X8_isVerse : YY := (yX8_isVerse, cX8_isVerse, 2, (some .boolean), 2, 0, 0)
theorem ok_X8_isVerse : okV Y_X8_isVerse 1 := ⟨⟨a_964, a_62, by decide +kernel, by decide⟩, a_963, a_29⟩
def Y_X8_judged : YY := (yX8_judged, cX8_judged, 1, (some .int), 5, 0, 0)
theorem ok_X8_judged : okV Y_X8_judged 0 := ⟨⟨a_989, a_62, by decide +kernel, by decide⟩, a_987, a_988⟩
def Y_X8_judgedNow : YY := (yX8_judgedNow, cX8_judgedNow, 2, (some .int), 1, 0, 0)
theorem ok_X8_judgedNow : okV Y_X8_judgedNow 0 := ⟨⟨a_993, a_62, by decide +kernel, by decide⟩, a_992, a_33⟩
def Y_X8_kindAt : YY := (yX8_kindAt, cX8_kindAt, 2, (some .int), 1, 0, 0)
theorem ok_X8_kindAt : okV Y_X8_kindAt 1 := ⟨⟨a_953, a_62, by decide +kernel, by decide⟩, a_952, a_27⟩
def Y_X8_kindOf : YY := (yX8_kindOf, cX8_kindOf, 1, (some .int), 1, 0, 0)
theorem ok_X8_kindOf : okS Y_X8_kindOf 1 := ⟨⟨a_916, a_62, by decide +kernel, by decide⟩, a_915⟩
def Y_X8_lacks : YY := (yX8_lacks, cX8_lacks, 4, (some .int), 2, 0, 0)
theorem ok_X8_lacks : okV Y_X8_lacks 3 := ⟨⟨a_873, a_62, by decide +kernel, by decide⟩, a_872, a_19⟩
def Y_X8_lay : YY := (yX8_lay, cX8_lay, 6, (some .int), 3, 0, 0)
theorem ok_X8_lay : okV Y_X8_lay 4 := ⟨⟨a_869, a_62, by decide +kernel, by decide⟩, a_867, a_868⟩
def Y_X8_lays : YY := (yX8_lays, cX8_lays, 6, none, 1, 0, 0)
theorem ok_X8_lays : okV Y_X8_lays 4 := ⟨⟨a_1046, a_62, by decide +kernel, by decide⟩, a_1045, a_43⟩
def Y_X8_lead : YY := (yX8_lead, cX8_lead, 1, (some .int), 5, 0, 0)
theorem ok_X8_lead : okV Y_X8_lead 0 := ⟨⟨a_1071, a_62, by decide +kernel, by decide⟩, a_1069, a_1070⟩
def Y_X8_leadNow : YY := (yX8_leadNow, cX8_leadNow, 2, (some .int), 4, 0, 0)
theorem ok_X8_leadNow : okV Y_X8_leadNow 0 := ⟨⟨a_1075, a_62, by decide +kernel, by decide⟩, a_1074, a_47⟩
def Y_X8_leads : YY := (yX8_leads, cX8_leads, 1, (some .int), 6, 0, 0)
theorem ok_X8_leads : okV Y_X8_leads 0 := ⟨⟨a_1135, a_62, by decide +kernel, by decide⟩, a_1133, a_1134⟩
def Y_X8_leadsNow : YY := (yX8_leadsNow, cX8_leadsNow, 5, (some .int), 5, 0, 0)
theorem ok_X8_leadsNow : okV Y_X8_leadsNow 0 := ⟨⟨a_1139, a_62, by decide +kernel, by decide⟩, a_1138, a_52⟩
def Y_X8_lesser : YY := (yX8_lesser, cX8_lesser, 2, (some .int), 1, 0, 0)
theorem ok_X8_lesser : okS Y_X8_lesser 2 := ⟨⟨a_1059, a_62, by decide +kernel, by decide⟩, a_1058⟩
def Y_X8_line : YY := (yX8_line, cX8_line, 3, (some .int), 4, 0, 0)
theorem ok_X8_line : okV Y_X8_line 2 := ⟨⟨a_1104, a_62, by decide +kernel, by decide⟩, a_1102, a_1103⟩
def Y_X8_lineOf : YY := (yX8_lineOf, cX8_lineOf, 5, (some .int), 3, 0, 0)
theorem ok_X8_lineOf : okV Y_X8_lineOf 2 := ⟨⟨a_1110, a_62, by decide +kernel, by decide⟩, a_1109, a_50⟩
def Y_X8_looks : YY := (yX8_looks, cX8_looks, 6, none, 4, 0, 0)
theorem ok_X8_looks : okV Y_X8_looks 5 := ⟨⟨a_1042, a_62, by decide +kernel, by decide⟩, a_1041, a_42⟩
def Y_X8_lose : YY := (yX8_lose, cX8_lose, 2, (some .int), 3, 0, 0)
theorem ok_X8_lose : okV Y_X8_lose 1 := ⟨⟨a_865, a_62, by decide +kernel, by decide⟩, a_863, a_864⟩
def Y_X8_makesIn : YY := (yX8_makesIn, cX8_makesIn, 5, (some .int), 4, 0, 0)
theorem ok_X8_makesIn : okV Y_X8_makesIn 2 := ⟨⟨a_1026, a_62, by decide +kernel, by decide⟩, a_1025, a_39⟩
def Y_X8_met : YY := (yX8_met, cX8_met, 2, (some .int), 1, 0, 0)
theorem ok_X8_met : okV Y_X8_met 1 := ⟨⟨a_861, a_62, by decide +kernel, by decide⟩, a_860, a_18⟩
def Y_X8_most : YY := (yX8_most, cX8_most, 1, (some .int), 1, 0, 0)
theorem ok_X8_most : okS Y_X8_most 1 := ⟨⟨a_929, a_62, by decide +kernel, by decide⟩, a_928⟩
def Y_X8_no : YY := (yX8_no, cX8_no, 1, (some .long), 1, 0, 0)
theorem ok_X8_no : okS Y_X8_no 1 := ⟨⟨a_1090, a_62, by decide +kernel, by decide⟩, a_1089⟩
def Y_X8_odds : YY := (yX8_odds, cX8_odds, 2, (some .long), 5, 0, 0)
theorem ok_X8_odds : okV Y_X8_odds 1 := ⟨⟨a_1079, a_62, by decide +kernel, by decide⟩, a_1077, a_1078⟩
def Y_X8_oddsOf : YY := (yX8_oddsOf, cX8_oddsOf, 9, (some .long), 2, 0, 0)
theorem ok_X8_oddsOf : okV Y_X8_oddsOf 1 := ⟨⟨a_1083, a_62, by decide +kernel, by decide⟩, a_1082, a_48⟩
def Y_X8_order : YY := (yX8_order, cX8_order, 2, (some .int), 5, 0, 0)
theorem ok_X8_order : okV Y_X8_order 1 := ⟨⟨a_1050, a_62, by decide +kernel, by decide⟩, a_1048, a_1049⟩
def Y_X8_part : YY := (yX8_part, cX8_part, 11, (some .long), 1, 0, 0)
theorem ok_X8_part : okS Y_X8_part 3 := ⟨⟨a_1087, a_62, by decide +kernel, by decide⟩, a_1086⟩
def Y_X8_plain : YY := (yX8_plain, cX8_plain, 2, none, 1, 0, 0)
theorem ok_X8_plain : okV Y_X8_plain 0 := ⟨⟨a_941, a_62, by decide +kernel, by decide⟩, a_940, a_24⟩
def Y_X8_poem : YY := (yX8_poem, cX8_poem, 2, (some .int), 5, 0, 0)
theorem ok_X8_poem : okV Y_X8_poem 1 := ⟨⟨a_981, a_62, by decide +kernel, by decide⟩, a_979, a_980⟩
def Y_X8_poemOf : YY := (yX8_poemOf, cX8_poemOf, 2, (some .int), 1, 0, 0)
theorem ok_X8_poemOf : okV Y_X8_poemOf 1 := ⟨⟨a_985, a_62, by decide +kernel, by decide⟩, a_984, a_32⟩
def Y_X8_put : YY := (yX8_put, cX8_put, 2, (some .int), 6, 0, 0)
theorem ok_X8_put : okV Y_X8_put 1 := ⟨⟨a_1034, a_62, by decide +kernel, by decide⟩, a_1032, a_1033⟩
def Y_X8_read : YY := (yX8_read, cX8_read, 4, (some .int), 3, 0, 0)
theorem ok_X8_read : okV Y_X8_read 1 := ⟨⟨a_1130, a_62, by decide +kernel, by decide⟩, a_1128, a_1129⟩
def Y_X8_readsText : YY := (yX8_readsText, cX8_readsText, 4, (some .int), 3, 0, 0)
theorem ok_X8_readsText : okV Y_X8_readsText 1 := ⟨⟨a_905, a_62, by decide +kernel, by decide⟩, a_904, a_20⟩
def Y_X8_readsVerse : YY := (yX8_readsVerse, cX8_readsVerse, 6, (some .boolean), 2, 0, 0)
theorem ok_X8_readsVerse : okV Y_X8_readsVerse 1 := ⟨⟨a_909, a_62, by decide +kernel, by decide⟩, a_908, a_21⟩
def Y_X8_rest : YY := (yX8_rest, cX8_rest, 2, (some .int), 5, 0, 0)
theorem ok_X8_rest : okV Y_X8_rest 1 := ⟨⟨a_997, a_62, by decide +kernel, by decide⟩, a_995, a_996⟩
def Y_X8_restOf : YY := (yX8_restOf, cX8_restOf, 4, (some .int), 4, 0, 0)
theorem ok_X8_restOf : okV Y_X8_restOf 1 := ⟨⟨a_1001, a_62, by decide +kernel, by decide⟩, a_1000, a_34⟩
def Y_X8_sayAt : YY := (yX8_sayAt, cX8_sayAt, 2, (some .int), 1, 0, 0)
theorem ok_X8_sayAt : okV Y_X8_sayAt 1 := ⟨⟨a_960, a_62, by decide +kernel, by decide⟩, a_959, a_28⟩
def Y_X8_says : YY := (yX8_says, cX8_says, 14, none, 3, 0, 0)
theorem ok_X8_says : okV Y_X8_says 3 := ⟨⟨a_945, a_62, by decide +kernel, by decide⟩, a_944, a_25⟩
def Y_X8_saysIn : YY := (yX8_saysIn, cX8_saysIn, 3, (some .int), 1, 0, 0)
theorem ok_X8_saysIn : okV Y_X8_saysIn 1 := ⟨⟨a_1022, a_62, by decide +kernel, by decide⟩, a_1021, a_38⟩
def Y_X8_seen : YY := (yX8_seen, cX8_seen, 3, (some .int), 2, 0, 0)
theorem ok_X8_seen : okV Y_X8_seen 2 := ⟨⟨a_1121, a_62, by decide +kernel, by decide⟩, a_1119, a_1120⟩
def Y_X8_set : YY := (yX8_set, cX8_set, 4, (some .int), 2, 0, 0)
theorem ok_X8_set : okV Y_X8_set 2 := ⟨⟨a_925, a_62, by decide +kernel, by decide⟩, a_923, a_924⟩
def Y_X8_sheet : YY := (yX8_sheet, cX8_sheet, 5, (some .int), 3, 0, 0)
theorem ok_X8_sheet : okV Y_X8_sheet 3 := ⟨⟨a_849, a_62, by decide +kernel, by decide⟩, a_847, a_848⟩
def Y_X8_tellsOrder : YY := (yX8_tellsOrder, cX8_tellsOrder, 2, (some .int), 1, 0, 0)
theorem ok_X8_tellsOrder : okV Y_X8_tellsOrder 1 := ⟨⟨a_1067, a_62, by decide +kernel, by decide⟩, a_1066, a_46⟩
def Y_X8_type : YY := (yX8_type, cX8_type, 3, (some .int), 3, 0, 0)
theorem ok_X8_type : okV Y_X8_type 2 := ⟨⟨a_889, a_62, by decide +kernel, by decide⟩, a_887, a_888⟩
def Y_X8_undo : YY := (yX8_undo, cX8_undo, 2, (some .int), 4, 0, 0)
theorem ok_X8_undo : okV Y_X8_undo 1 := ⟨⟨a_921, a_62, by decide +kernel, by decide⟩, a_919, a_920⟩
def Y_X8_unfolds : YY := (yX8_unfolds, cX8_unfolds, 6, none, 1, 0, 0)
theorem ok_X8_unfolds : okV Y_X8_unfolds 2 := ⟨⟨a_1063, a_62, by decide +kernel, by decide⟩, a_1062, a_45⟩
def Y_X8_verse : YY := (yX8_verse, cX8_verse, 3, (some .int), 5, 0, 0)
theorem ok_X8_verse : okV Y_X8_verse 2 := ⟨⟨a_933, a_62, by decide +kernel, by decide⟩, a_931, a_932⟩
def Y_X8_verseOf : YY := (yX8_verseOf, cX8_verseOf, 3, (some .int), 1, 0, 0)
theorem ok_X8_verseOf : okV Y_X8_verseOf 2 := ⟨⟨a_968, a_62, by decide +kernel, by decide⟩, a_967, a_30⟩
def Y_X8_when : YY := (yX8_when, cX8_when, 3, (some .int), 5, 0, 0)
theorem ok_X8_when : okV Y_X8_when 2 := ⟨⟨a_972, a_62, by decide +kernel, by decide⟩, a_970, a_971⟩
def Y_X8_whenOf : YY := (yX8_whenOf, cX8_whenOf, 3, (some .int), 1, 0, 0)
theorem ok_X8_whenOf : okV Y_X8_whenOf 2 := ⟨⟨a_977, a_62, by decide +kernel, by decide⟩, a_976, a_31⟩
def Y_X8_wipe : YY := (yX8_wipe, cX8_wipe, 3, (some .int), 3, 0, 0)
theorem ok_X8_wipe : okV Y_X8_wipe 1 := ⟨⟨a_897, a_62, by decide +kernel, by decide⟩, a_895, a_896⟩
def Y_X8_write : YY := (yX8_write, cX8_write, 4, (some .int), 5, 0, 0)
theorem ok_X8_write : okV Y_X8_write 1 := ⟨⟨a_1143, a_62, by decide +kernel, by decide⟩, a_1141, a_1142⟩
def Y_L_law : YY := (yL_law, cL_law, 4, some .boolean, 17, 79, 1561)
