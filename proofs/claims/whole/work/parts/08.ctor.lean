/-! ===== the constructors at their heaps; the law's start ===== -/
def zI : HP := fun _ _ => 0
section Rows
variable {G : CX} {Y : YY} {pc : Nat} {L : List (Nat × Value)} {S : List Value} {sh : Sh} {I : HP} {k n : Nat} {Q : Sh → HP → Option Value → Prop}
theorem nw_z {r : Nat} (h : ∀ b, I r b = 0) : nw I r = I := by
  funext a b
  unfold nw
  split
  · rename_i e; rw [e, h]
  · rfl
theorem go_new2 {idx ci N r k2 n2 : Nat} {C0 : String} {T : u_T} {sh2 : Sh} (ty : Nat → FieldType) (hd : decode Y.2.1 pc = .ok (.new idx, 3)) (hc : vwCl[ci]? = some (C0, T, N)) (h9 : ci < 9) (hin : ∀ w ∈ u_ws C0 T N, w ∈ wG) (hw : Cond.classLink Y.1.cls idx C0 ∈ wG ∧ Cond.instantiable C0 N ∈ wG ∧ Cond.initialized C0 ∈ wG) (hty : ∀ j, j < N → parseFieldDescriptor (T j).2.2.1 = some (ty j)) (hdf : ∀ j, j < N → defaultValue (ty j) = if rK ci j = true then .null else .int 0) (hh : k + 1 ≤ yC Y ∧ n + N ≤ yS Y) (hlt : sh.length < 1000) (hr : sh.length = r) (hz : ∀ b, I r b = 0) (h2 : sh ++ [(ci, N, List.replicate N none)] = sh2) (hk : k + 1 = k2) (hn : n + N = n2) (kk : Go G Y (pc + 3) L (.ref r :: S) sh2 I k2 n2 Q) : Go G Y pc L S sh I k n Q := by
  subst h2 hk hn hr
  refine go_new ty hd hc h9 hin hw hty hdf hh hlt ?_
  rw [nw_z hz]
  exact kk
theorem go_newI2 {len r k2 n2 : Nat} {a : Int32} {sh2 : Sh} (hd : decode Y.2.1 pc = .ok (.newarray .int, 2)) (hw : Cond.arrayClass .int ∈ wG) (ha : ¬ a < 0 ∧ a.toNatClampNeg = len ∧ len ≤ 1000) (hh : k + 1 ≤ yC Y ∧ n + len ≤ yS Y) (hlt : sh.length < 1000) (hr : sh.length = r) (hz : ∀ b, I r b = 0) (h2 : sh ++ [(9, len, [])] = sh2) (hk : k + 1 = k2) (hn : n + len = n2) (kk : Go G Y (pc + 2) L (.ref r :: S) sh2 I k2 n2 Q) : Go G Y pc L (.int a :: S) sh I k n Q := by
  subst h2 hk hn hr
  refine go_newI hd hw ha hh hlt ?_
  rw [nw_z hz]
  exact kk
theorem go_newZ2 {len r k2 n2 : Nat} {a : Int32} {sh2 : Sh} (hd : decode Y.2.1 pc = .ok (.newarray .boolean, 2)) (hw : Cond.arrayClass .boolean ∈ wG) (ha : ¬ a < 0 ∧ a.toNatClampNeg = len ∧ len ≤ 1000) (hh : k + 1 ≤ yC Y ∧ n + len ≤ yS Y) (hlt : sh.length < 1000) (hr : sh.length = r) (hz : ∀ b, I r b = 0) (h2 : sh ++ [(10, len, [])] = sh2) (hk : k + 1 = k2) (hn : n + len = n2) (kk : Go G Y (pc + 2) L (.ref r :: S) sh2 I k2 n2 Q) : Go G Y pc L (.int a :: S) sh I k n Q := by
  subst h2 hk hn hr
  refine go_newZ hd hw ha hh hlt ?_
  rw [nw_z hz]
  exact kk
theorem go_newq2 {idx len t r k2 n2 : Nat} {a : Int32} {C0 : String} {sh2 : Sh} (hd : decode Y.2.1 pc = .ok (.anewarray idx, 3)) (hw : Cond.classLink Y.1.cls idx C0 ∈ wG) (ht : (t = 11 ∧ C0 = "MayNotPause$Turn") ∨ (t = 12 ∧ C0 = "MayNotPause$Sheet")) (ha : ¬ a < 0 ∧ a.toNatClampNeg = len ∧ len ≤ 1000) (hh : k + 1 ≤ yC Y ∧ n + len ≤ yS Y) (hlt : sh.length < 1000) (hr : sh.length = r) (hz : ∀ b, I r b = 0) (h2 : sh ++ [(t, len, List.replicate len none)] = sh2) (hk : k + 1 = k2) (hn : n + len = n2) (kk : Go G Y (pc + 3) L (.ref r :: S) sh2 I k2 n2 Q) : Go G Y pc L (.int a :: S) sh I k n Q := by
  subst h2 hk hn hr
  refine go_newq hd hw ht ha hh hlt ?_
  rw [nw_z hz]
  exact kk
theorem c_turn {r : Nat} (h : Q sh I none) : Ret G Y_X6_init [.ref r] sh I Q := by
  refine ret_of (show plainName RX6 = true by decide) (Nat.le_of_ble_eq_true rfl) ?_
  show Go G Y_X6_init 0 [(0, .ref r)] [] sh I 0 0 Q
  refine go_aload_n dX6_init_0 rfl 0 rfl ?_
  refine go_oinit dX6_init_1 ⟨l_X6_3, bt_obj⟩ (by decide) (Nat.le_of_ble_eq_true rfl) ?_
  exact go_vret dX6_init_4 rfl rfl (by decide) h
end Rows
set_option maxRecDepth 100000 in
theorem aw_54 : Cond.initialized "MayNotPause" ∈ wG := wG_at 54 rfl rfl
set_option maxRecDepth 100000 in
theorem aw_55 : Cond.initialized "MayNotPause$Script" ∈ wG := wG_at 55 rfl rfl
set_option maxRecDepth 100000 in
theorem aw_56 : Cond.initialized "MayNotPause$Telling" ∈ wG := wG_at 56 rfl rfl
set_option maxRecDepth 100000 in
theorem aw_57 : Cond.initialized "MayNotPause$Turn" ∈ wG := wG_at 57 rfl rfl
set_option maxRecDepth 100000 in
theorem aw_58 : Cond.initialized "MayNotPause$PutSearch" ∈ wG := wG_at 58 rfl rfl
set_option maxRecDepth 100000 in
theorem aw_59 : Cond.initialized "MayNotPause$OrderSearch" ∈ wG := wG_at 59 rfl rfl
set_option maxRecDepth 100000 in
theorem aw_60 : Cond.initialized "MayNotPause$Sightings" ∈ wG := wG_at 60 rfl rfl
set_option maxRecDepth 100000 in
theorem aw_61 : Cond.initialized "MayNotPause$Sheet" ∈ wG := wG_at 61 rfl rfl
set_option maxRecDepth 100000 in
theorem aw_62 : Cond.initialized "MayNotPauseModel" ∈ wG := wG_at 62 rfl rfl
set_option maxRecDepth 100000 in
theorem aw_66 : Cond.classLink "MayNotPauseLaw" 7 "MayNotPause" ∈ wG := wG_at 66 rfl rfl
set_option maxRecDepth 100000 in
theorem aw_67 : Cond.instantiable "MayNotPause" 12 ∈ wG := wG_at 67 rfl rfl
set_option maxRecDepth 100000 in
theorem aw_74 : Cond.classLink "MayNotPause" 13 "MayNotPause$Script" ∈ wG := wG_at 74 rfl rfl
set_option maxRecDepth 100000 in
theorem aw_75 : Cond.instantiable "MayNotPause$Script" 4 ∈ wG := wG_at 75 rfl rfl
set_option maxRecDepth 100000 in
theorem aw_99 : Cond.arrayClass FieldType.int ∈ wG := wG_at 99 rfl rfl
set_option maxRecDepth 100000 in
theorem aw_100 : Cond.classLink "MayNotPause" 25 "MayNotPause$Telling" ∈ wG := wG_at 100 rfl rfl
set_option maxRecDepth 100000 in
theorem aw_101 : Cond.instantiable "MayNotPause$Telling" 4 ∈ wG := wG_at 101 rfl rfl
set_option maxRecDepth 100000 in
theorem aw_106 : Cond.classLink "MayNotPause$Telling" 15 "MayNotPause$Turn" ∈ wG := wG_at 106 rfl rfl
set_option maxRecDepth 100000 in
theorem aw_107 : Cond.instantiable "MayNotPause$Turn" 15 ∈ wG := wG_at 107 rfl rfl
set_option maxRecDepth 100000 in
theorem aw_198 : Cond.classLink "MayNotPause" 35 "MayNotPause$PutSearch" ∈ wG := wG_at 198 rfl rfl
set_option maxRecDepth 100000 in
theorem aw_199 : Cond.instantiable "MayNotPause$PutSearch" 5 ∈ wG := wG_at 199 rfl rfl
set_option maxRecDepth 100000 in
theorem aw_221 : Cond.classLink "MayNotPause" 44 "MayNotPause$OrderSearch" ∈ wG := wG_at 221 rfl rfl
set_option maxRecDepth 100000 in
theorem aw_222 : Cond.instantiable "MayNotPause$OrderSearch" 9 ∈ wG := wG_at 222 rfl rfl
set_option maxRecDepth 100000 in
theorem aw_258 : Cond.arrayClass FieldType.boolean ∈ wG := wG_at 258 rfl rfl
set_option maxRecDepth 100000 in
theorem aw_259 : Cond.classLink "MayNotPause" 53 "MayNotPause$Sightings" ∈ wG := wG_at 259 rfl rfl
set_option maxRecDepth 100000 in
theorem aw_260 : Cond.instantiable "MayNotPause$Sightings" 3 ∈ wG := wG_at 260 rfl rfl
set_option maxRecDepth 100000 in
theorem aw_276 : Cond.classLink "MayNotPause" 60 "MayNotPause$Sheet" ∈ wG := wG_at 276 rfl rfl
set_option maxRecDepth 100000 in
theorem aw_278 : Cond.instantiable "MayNotPause$Sheet" 4 ∈ wG := wG_at 278 rfl rfl
set_option maxRecDepth 100000 in
theorem aw_749 : Cond.classLink "MayNotPauseLaw" 10 "MayNotPauseModel" ∈ wG := wG_at 749 rfl rfl
set_option maxRecDepth 100000 in
theorem aw_750 : Cond.instantiable "MayNotPauseModel" 30 ∈ wG := wG_at 750 rfl rfl
def S_0 : Sh := []
def S_1 : Sh := S_0 ++ [(7, 12, [none, none, none, none, none, none, none, none, none, none, none, none])]
def S_2 : Sh := S_1 ++ [(9, 6, [])]
def J_1 : HP := st zI 1 0 (0 : Int32)
def J_2 : HP := st J_1 1 1 (99 : Int32)
def J_3 : HP := st J_2 1 2 (0 : Int32)
def J_4 : HP := st J_3 1 3 (9 : Int32)
def J_5 : HP := st J_4 1 4 (0 : Int32)
def J_6 : HP := st J_5 1 5 (0 : Int32)
def S_3 : Sh := S_2.set 0 (7, 12, [some 1, none, none, none, none, none, none, none, none, none, none, none])
def S_4 : Sh := S_3 ++ [(2, 4, [none, none, none, none])]
def J_7 : HP := st J_6 2 2 (-1 : Int32)
def S_5 : Sh := S_4 ++ [(9, 59, [])]
def S_6 : Sh := S_5.set 2 (2, 4, [some 3, none, none, none])
def S_7 : Sh := S_6.set 0 (7, 12, [some 1, some 2, none, none, none, none, none, none, none, none, none, none])
def S_8 : Sh := S_7 ++ [(2, 4, [none, none, none, none])]
def J_8 : HP := st J_7 4 2 (-1 : Int32)
def S_9 : Sh := S_8 ++ [(9, 19, [])]
def S_10 : Sh := S_9.set 4 (2, 4, [some 5, none, none, none])
def S_11 : Sh := S_10.set 0 (7, 12, [some 1, some 2, some 4, none, none, none, none, none, none, none, none, none])
def S_12 : Sh := S_11 ++ [(5, 4, [none, none, none, none])]
def S_13 : Sh := S_12 ++ [(9, 5, [])]
def S_14 : Sh := S_13.set 6 (5, 4, [some 7, none, none, none])
def S_15 : Sh := S_14 ++ [(6, 15, [none, none, none, none, none, none, none, none, none, none, none, none, none, none, none])]
def S_16 : Sh := S_15.set 6 (5, 4, [some 7, some 8, none, none])
def S_17 : Sh := S_16 ++ [(11, 12, [none, none, none, none, none, none, none, none, none, none, none, none])]
def S_18 : Sh := S_17.set 6 (5, 4, [some 7, some 8, some 9, none])
def S_19 : Sh := S_18 ++ [(6, 15, [none, none, none, none, none, none, none, none, none, none, none, none, none, none, none])]
def S_20 : Sh := S_19.set 9 (11, 12, [some 10, none, none, none, none, none, none, none, none, none, none, none])
def S_21 : Sh := S_20 ++ [(6, 15, [none, none, none, none, none, none, none, none, none, none, none, none, none, none, none])]
def S_22 : Sh := S_21.set 9 (11, 12, [some 10, some 11, none, none, none, none, none, none, none, none, none, none])
def S_23 : Sh := S_22 ++ [(6, 15, [none, none, none, none, none, none, none, none, none, none, none, none, none, none, none])]
def S_24 : Sh := S_23.set 9 (11, 12, [some 10, some 11, some 12, none, none, none, none, none, none, none, none, none])
def S_25 : Sh := S_24 ++ [(6, 15, [none, none, none, none, none, none, none, none, none, none, none, none, none, none, none])]
def S_26 : Sh := S_25.set 9 (11, 12, [some 10, some 11, some 12, some 13, none, none, none, none, none, none, none, none])
def S_27 : Sh := S_26 ++ [(6, 15, [none, none, none, none, none, none, none, none, none, none, none, none, none, none, none])]
def S_28 : Sh := S_27.set 9 (11, 12, [some 10, some 11, some 12, some 13, some 14, none, none, none, none, none, none, none])
def S_29 : Sh := S_28 ++ [(6, 15, [none, none, none, none, none, none, none, none, none, none, none, none, none, none, none])]
def S_30 : Sh := S_29.set 9 (11, 12, [some 10, some 11, some 12, some 13, some 14, some 15, none, none, none, none, none, none])
def S_31 : Sh := S_30 ++ [(6, 15, [none, none, none, none, none, none, none, none, none, none, none, none, none, none, none])]
def S_32 : Sh := S_31.set 9 (11, 12, [some 10, some 11, some 12, some 13, some 14, some 15, some 16, none, none, none, none, none])
def S_33 : Sh := S_32 ++ [(6, 15, [none, none, none, none, none, none, none, none, none, none, none, none, none, none, none])]
def S_34 : Sh := S_33.set 9 (11, 12, [some 10, some 11, some 12, some 13, some 14, some 15, some 16, some 17, none, none, none, none])
def S_35 : Sh := S_34 ++ [(6, 15, [none, none, none, none, none, none, none, none, none, none, none, none, none, none, none])]
def S_36 : Sh := S_35.set 9 (11, 12, [some 10, some 11, some 12, some 13, some 14, some 15, some 16, some 17, some 18, none, none, none])
def S_37 : Sh := S_36 ++ [(6, 15, [none, none, none, none, none, none, none, none, none, none, none, none, none, none, none])]
def S_38 : Sh := S_37.set 9 (11, 12, [some 10, some 11, some 12, some 13, some 14, some 15, some 16, some 17, some 18, some 19, none, none])
def S_39 : Sh := S_38 ++ [(6, 15, [none, none, none, none, none, none, none, none, none, none, none, none, none, none, none])]
def S_40 : Sh := S_39.set 9 (11, 12, [some 10, some 11, some 12, some 13, some 14, some 15, some 16, some 17, some 18, some 19, some 20, none])
def S_41 : Sh := S_40 ++ [(6, 15, [none, none, none, none, none, none, none, none, none, none, none, none, none, none, none])]
def S_42 : Sh := S_41.set 9 (11, 12, [some 10, some 11, some 12, some 13, some 14, some 15, some 16, some 17, some 18, some 19, some 20, some 21])
def S_43 : Sh := S_42.set 0 (7, 12, [some 1, some 2, some 4, some 6, none, none, none, none, none, none, none, none])
def S_44 : Sh := S_43 ++ [(5, 4, [none, none, none, none])]
def S_45 : Sh := S_44 ++ [(9, 5, [])]
def S_46 : Sh := S_45.set 22 (5, 4, [some 23, none, none, none])
def S_47 : Sh := S_46 ++ [(6, 15, [none, none, none, none, none, none, none, none, none, none, none, none, none, none, none])]
def S_48 : Sh := S_47.set 22 (5, 4, [some 23, some 24, none, none])
def S_49 : Sh := S_48 ++ [(11, 14, [none, none, none, none, none, none, none, none, none, none, none, none, none, none])]
def S_50 : Sh := S_49.set 22 (5, 4, [some 23, some 24, some 25, none])
def S_51 : Sh := S_50 ++ [(6, 15, [none, none, none, none, none, none, none, none, none, none, none, none, none, none, none])]
def S_52 : Sh := S_51.set 25 (11, 14, [some 26, none, none, none, none, none, none, none, none, none, none, none, none, none])
def S_53 : Sh := S_52 ++ [(6, 15, [none, none, none, none, none, none, none, none, none, none, none, none, none, none, none])]
def S_54 : Sh := S_53.set 25 (11, 14, [some 26, some 27, none, none, none, none, none, none, none, none, none, none, none, none])
def S_55 : Sh := S_54 ++ [(6, 15, [none, none, none, none, none, none, none, none, none, none, none, none, none, none, none])]
def S_56 : Sh := S_55.set 25 (11, 14, [some 26, some 27, some 28, none, none, none, none, none, none, none, none, none, none, none])
def S_57 : Sh := S_56 ++ [(6, 15, [none, none, none, none, none, none, none, none, none, none, none, none, none, none, none])]
def S_58 : Sh := S_57.set 25 (11, 14, [some 26, some 27, some 28, some 29, none, none, none, none, none, none, none, none, none, none])
def S_59 : Sh := S_58 ++ [(6, 15, [none, none, none, none, none, none, none, none, none, none, none, none, none, none, none])]
def S_60 : Sh := S_59.set 25 (11, 14, [some 26, some 27, some 28, some 29, some 30, none, none, none, none, none, none, none, none, none])
def S_61 : Sh := S_60 ++ [(6, 15, [none, none, none, none, none, none, none, none, none, none, none, none, none, none, none])]
def S_62 : Sh := S_61.set 25 (11, 14, [some 26, some 27, some 28, some 29, some 30, some 31, none, none, none, none, none, none, none, none])
def S_63 : Sh := S_62 ++ [(6, 15, [none, none, none, none, none, none, none, none, none, none, none, none, none, none, none])]
def S_64 : Sh := S_63.set 25 (11, 14, [some 26, some 27, some 28, some 29, some 30, some 31, some 32, none, none, none, none, none, none, none])
def S_65 : Sh := S_64 ++ [(6, 15, [none, none, none, none, none, none, none, none, none, none, none, none, none, none, none])]
def S_66 : Sh := S_65.set 25 (11, 14, [some 26, some 27, some 28, some 29, some 30, some 31, some 32, some 33, none, none, none, none, none, none])
def S_67 : Sh := S_66 ++ [(6, 15, [none, none, none, none, none, none, none, none, none, none, none, none, none, none, none])]
def S_68 : Sh := S_67.set 25 (11, 14, [some 26, some 27, some 28, some 29, some 30, some 31, some 32, some 33, some 34, none, none, none, none, none])
def S_69 : Sh := S_68 ++ [(6, 15, [none, none, none, none, none, none, none, none, none, none, none, none, none, none, none])]
def S_70 : Sh := S_69.set 25 (11, 14, [some 26, some 27, some 28, some 29, some 30, some 31, some 32, some 33, some 34, some 35, none, none, none, none])
def S_71 : Sh := S_70 ++ [(6, 15, [none, none, none, none, none, none, none, none, none, none, none, none, none, none, none])]
def S_72 : Sh := S_71.set 25 (11, 14, [some 26, some 27, some 28, some 29, some 30, some 31, some 32, some 33, some 34, some 35, some 36, none, none, none])
def S_73 : Sh := S_72 ++ [(6, 15, [none, none, none, none, none, none, none, none, none, none, none, none, none, none, none])]
def S_74 : Sh := S_73.set 25 (11, 14, [some 26, some 27, some 28, some 29, some 30, some 31, some 32, some 33, some 34, some 35, some 36, some 37, none, none])
def S_75 : Sh := S_74 ++ [(6, 15, [none, none, none, none, none, none, none, none, none, none, none, none, none, none, none])]
def S_76 : Sh := S_75.set 25 (11, 14, [some 26, some 27, some 28, some 29, some 30, some 31, some 32, some 33, some 34, some 35, some 36, some 37, some 38, none])
def S_77 : Sh := S_76 ++ [(6, 15, [none, none, none, none, none, none, none, none, none, none, none, none, none, none, none])]
def S_78 : Sh := S_77.set 25 (11, 14, [some 26, some 27, some 28, some 29, some 30, some 31, some 32, some 33, some 34, some 35, some 36, some 37, some 38, some 39])
def S_79 : Sh := S_78.set 0 (7, 12, [some 1, some 2, some 4, some 6, some 22, none, none, none, none, none, none, none])
def S_80 : Sh := S_79 ++ [(1, 5, [none, none, none, none, none])]
def S_81 : Sh := S_80 ++ [(9, 6, [])]
def S_82 : Sh := S_81.set 40 (1, 5, [none, none, none, none, some 41])
def S_83 : Sh := S_82.set 40 (1, 5, [some 22, none, none, none, some 41])
def S_84 : Sh := S_83.set 40 (1, 5, [some 22, some 2, none, none, some 41])
def S_85 : Sh := S_84.set 40 (1, 5, [some 22, some 2, some 4, none, some 41])
def S_86 : Sh := S_85.set 40 (1, 5, [some 22, some 2, some 4, some 1, some 41])
def S_87 : Sh := S_86.set 0 (7, 12, [some 1, some 2, some 4, some 6, some 22, some 40, none, none, none, none, none, none])
def S_88 : Sh := S_87 ++ [(0, 9, [none, none, none, none, none, none, none, none, none])]
def S_89 : Sh := S_88 ++ [(9, 7, [])]
def S_90 : Sh := S_89.set 42 (0, 9, [none, none, none, some 43, none, none, none, none, none])
def S_91 : Sh := S_90 ++ [(9, 7, [])]
def S_92 : Sh := S_91.set 42 (0, 9, [none, none, none, some 43, some 44, none, none, none, none])
def S_93 : Sh := S_92 ++ [(10, 7, [])]
def S_94 : Sh := S_93.set 42 (0, 9, [none, none, none, some 43, some 44, some 45, none, none, none])
def S_95 : Sh := S_94.set 42 (0, 9, [some 22, none, none, some 43, some 44, some 45, none, none, none])
def S_96 : Sh := S_95.set 42 (0, 9, [some 22, some 2, none, some 43, some 44, some 45, none, none, none])
def S_97 : Sh := S_96.set 42 (0, 9, [some 22, some 2, some 1, some 43, some 44, some 45, none, none, none])
def S_98 : Sh := S_97.set 0 (7, 12, [some 1, some 2, some 4, some 6, some 22, some 40, some 42, none, none, none, none, none])
def S_99 : Sh := S_98 ++ [(4, 3, [none, none, none])]
def S_100 : Sh := S_99 ++ [(9, 8, [])]
def S_101 : Sh := S_100.set 46 (4, 3, [some 47, none, none])
def S_102 : Sh := S_101 ++ [(9, 8, [])]
def S_103 : Sh := S_102.set 46 (4, 3, [some 47, some 48, none])
def S_104 : Sh := S_103.set 0 (7, 12, [some 1, some 2, some 4, some 6, some 22, some 40, some 42, some 46, none, none, none, none])
def S_105 : Sh := S_104 ++ [(12, 4, [none, none, none, none])]
def S_106 : Sh := S_105.set 0 (7, 12, [some 1, some 2, some 4, some 6, some 22, some 40, some 42, some 46, some 49, none, none, none])
def S_107 : Sh := S_106 ++ [(3, 4, [none, none, none, none])]
def S_108 : Sh := S_107 ++ [(9, 60, [])]
def S_109 : Sh := S_108.set 50 (3, 4, [some 51, none, none, none])
def J_9 : HP := st J_8 50 1 (1 : Int32)
def S_110 : Sh := S_109.set 49 (12, 4, [some 50, none, none, none])
def S_111 : Sh := S_110 ++ [(3, 4, [none, none, none, none])]
def S_112 : Sh := S_111 ++ [(9, 60, [])]
def S_113 : Sh := S_112.set 52 (3, 4, [some 53, none, none, none])
def J_10 : HP := st J_9 52 1 (1 : Int32)
def S_114 : Sh := S_113.set 49 (12, 4, [some 50, some 52, none, none])
def S_115 : Sh := S_114 ++ [(3, 4, [none, none, none, none])]
def S_116 : Sh := S_115 ++ [(9, 60, [])]
def S_117 : Sh := S_116.set 54 (3, 4, [some 55, none, none, none])
def J_11 : HP := st J_10 54 1 (1 : Int32)
def S_118 : Sh := S_117.set 49 (12, 4, [some 50, some 52, some 54, none])
def S_119 : Sh := S_118 ++ [(3, 4, [none, none, none, none])]
def S_120 : Sh := S_119 ++ [(9, 60, [])]
def S_121 : Sh := S_120.set 56 (3, 4, [some 57, none, none, none])
def J_12 : HP := st J_11 56 1 (1 : Int32)
def S_122 : Sh := S_121.set 49 (12, 4, [some 50, some 52, some 54, some 56])
def S_123 : Sh := S_122 ++ [(8, 30, [none, none, none, none, none, none, none, none, none, none, none, none, none, none, none, none, none, none, none, none, none, none, none, none, none, none, none, none, none, none])]
def S_124 : Sh := S_123 ++ [(9, 4, [])]
def S_125 : Sh := S_124.set 58 (8, 30, [some 59, none, none, none, none, none, none, none, none, none, none, none, none, none, none, none, none, none, none, none, none, none, none, none, none, none, none, none, none, none])
def S_126 : Sh := S_125 ++ [(9, 4, [])]
def S_127 : Sh := S_126.set 58 (8, 30, [some 59, some 60, none, none, none, none, none, none, none, none, none, none, none, none, none, none, none, none, none, none, none, none, none, none, none, none, none, none, none, none])
def S_128 : Sh := S_127 ++ [(9, 240, [])]
def S_129 : Sh := S_128.set 58 (8, 30, [some 59, some 60, some 61, none, none, none, none, none, none, none, none, none, none, none, none, none, none, none, none, none, none, none, none, none, none, none, none, none, none, none])
def S_130 : Sh := S_129 ++ [(9, 60, [])]
def S_131 : Sh := S_130.set 58 (8, 30, [some 59, some 60, some 61, some 62, none, none, none, none, none, none, none, none, none, none, none, none, none, none, none, none, none, none, none, none, none, none, none, none, none, none])
def S_132 : Sh := S_131 ++ [(9, 120, [])]
def S_133 : Sh := S_132.set 58 (8, 30, [some 59, some 60, some 61, some 62, none, some 63, none, none, none, none, none, none, none, none, none, none, none, none, none, none, none, none, none, none, none, none, none, none, none, none])
def S_134 : Sh := S_133 ++ [(9, 2, [])]
def S_135 : Sh := S_134.set 58 (8, 30, [some 59, some 60, some 61, some 62, none, some 63, some 64, none, none, none, none, none, none, none, none, none, none, none, none, none, none, none, none, none, none, none, none, none, none, none])
def S_136 : Sh := S_135 ++ [(9, 2, [])]
def S_137 : Sh := S_136.set 58 (8, 30, [some 59, some 60, some 61, some 62, none, some 63, some 64, none, some 65, none, none, none, none, none, none, none, none, none, none, none, none, none, none, none, none, none, none, none, none, none])
def S_138 : Sh := S_137 ++ [(9, 64, [])]
def S_139 : Sh := S_138.set 58 (8, 30, [some 59, some 60, some 61, some 62, none, some 63, some 64, none, some 65, some 66, none, none, none, none, none, none, none, none, none, none, none, none, none, none, none, none, none, none, none, none])
def S_140 : Sh := S_139 ++ [(9, 6, [])]
def S_141 : Sh := S_140.set 58 (8, 30, [some 59, some 60, some 61, some 62, none, some 63, some 64, none, some 65, some 66, some 67, none, none, none, none, none, none, none, none, none, none, none, none, none, none, none, none, none, none, none])
def S_142 : Sh := S_141 ++ [(9, 14, [])]
def S_143 : Sh := S_142.set 58 (8, 30, [some 59, some 60, some 61, some 62, none, some 63, some 64, none, some 65, some 66, some 67, none, some 68, none, none, none, none, none, none, none, none, none, none, none, none, none, none, none, none, none])
def S_144 : Sh := S_143 ++ [(9, 14, [])]
def S_145 : Sh := S_144.set 58 (8, 30, [some 59, some 60, some 61, some 62, none, some 63, some 64, none, some 65, some 66, some 67, none, some 68, some 69, none, none, none, none, none, none, none, none, none, none, none, none, none, none, none, none])
def S_146 : Sh := S_145 ++ [(9, 14, [])]
def S_147 : Sh := S_146.set 58 (8, 30, [some 59, some 60, some 61, some 62, none, some 63, some 64, none, some 65, some 66, some 67, none, some 68, some 69, some 70, none, none, none, none, none, none, none, none, none, none, none, none, none, none, none])
def S_148 : Sh := S_147 ++ [(9, 14, [])]
def S_149 : Sh := S_148.set 58 (8, 30, [some 59, some 60, some 61, some 62, none, some 63, some 64, none, some 65, some 66, some 67, none, some 68, some 69, some 70, some 71, none, none, none, none, none, none, none, none, none, none, none, none, none, none])
def S_150 : Sh := S_149 ++ [(9, 14, [])]
def S_151 : Sh := S_150.set 58 (8, 30, [some 59, some 60, some 61, some 62, none, some 63, some 64, none, some 65, some 66, some 67, none, some 68, some 69, some 70, some 71, some 72, none, none, none, none, none, none, none, none, none, none, none, none, none])
def S_152 : Sh := S_151 ++ [(9, 14, [])]
def S_153 : Sh := S_152.set 58 (8, 30, [some 59, some 60, some 61, some 62, none, some 63, some 64, none, some 65, some 66, some 67, none, some 68, some 69, some 70, some 71, some 72, some 73, none, none, none, none, none, none, none, none, none, none, none, none])
def S_154 : Sh := S_153 ++ [(9, 14, [])]
def S_155 : Sh := S_154.set 58 (8, 30, [some 59, some 60, some 61, some 62, none, some 63, some 64, none, some 65, some 66, some 67, none, some 68, some 69, some 70, some 71, some 72, some 73, some 74, none, none, none, none, none, none, none, none, none, none, none])
def S_156 : Sh := S_155 ++ [(9, 14, [])]
def S_157 : Sh := S_156.set 58 (8, 30, [some 59, some 60, some 61, some 62, none, some 63, some 64, none, some 65, some 66, some 67, none, some 68, some 69, some 70, some 71, some 72, some 73, some 74, some 75, none, none, none, none, none, none, none, none, none, none])
def S_158 : Sh := S_157 ++ [(9, 6, [])]
def S_159 : Sh := S_158.set 58 (8, 30, [some 59, some 60, some 61, some 62, none, some 63, some 64, none, some 65, some 66, some 67, none, some 68, some 69, some 70, some 71, some 72, some 73, some 74, some 75, none, none, none, none, some 76, none, none, none, none, none])
def S_160 : Sh := S_159 ++ [(9, 7, [])]
def S_161 : Sh := S_160.set 58 (8, 30, [some 59, some 60, some 61, some 62, none, some 63, some 64, none, some 65, some 66, some 67, none, some 68, some 69, some 70, some 71, some 72, some 73, some 74, some 75, none, none, none, none, some 76, some 77, none, none, none, none])
def S_162 : Sh := S_161 ++ [(9, 16, [])]
def S_163 : Sh := S_162.set 58 (8, 30, [some 59, some 60, some 61, some 62, none, some 63, some 64, none, some 65, some 66, some 67, none, some 68, some 69, some 70, some 71, some 72, some 73, some 74, some 75, none, none, none, none, some 76, some 77, none, none, none, some 78])
def J_13 : HP := st J_12 59 0 (-1 : Int32)
def J_14 : HP := st J_13 59 1 (-1 : Int32)
def J_15 : HP := st J_14 59 2 (-1 : Int32)
def J_16 : HP := st J_15 59 3 (-1 : Int32)
def J_17 : HP := st J_16 67 1 (99 : Int32)
def J_18 : HP := st J_17 67 3 (9 : Int32)
set_option maxRecDepth 100000 in
set_option maxHeartbeats 4000000 in
theorem c_X2_init_1 {G : CX} {Q : Sh → HP → Option Value → Prop} (h : Q S_6 J_7 none) : Ret G Y_X2_init59 [.ref 2, .int (59 : Int32)] S_4 J_6 Q := by
  refine ret_of (show plainName RX2 = true by decide) (Nat.le_of_ble_eq_true rfl) ?_
  show Go G Y_X2_init59 0 [(0, .ref 2), (1, .int (59 : Int32))] [] S_4 J_6 0 0 Q
  refine go_aload_n dX2_init_0 rfl 0 rfl ?_
  refine go_oinit dX2_init_1 ⟨l_X2_3, bt_obj⟩ (by decide) (Nat.le_of_ble_eq_true rfl) ?_
  refine go_aload_n dX2_init_4 rfl 0 rfl ?_
  refine go_iconst dX2_init_5 (v := (-1 : Int32)) (by decide) ?_
  refine go_putT dX2_init_6 (show S_4[2]? = some (2, 4, [none, none, none, none]) from rfl) (by decide) p_X2_9 ⟨Nat.le_of_ble_eq_true rfl, Nat.le_of_ble_eq_true rfl, rfl⟩ rfl rfl ?_
  show Go G Y_X2_init59 9 [(0, .ref 2), (1, .int (59 : Int32))] [] S_4 J_7 0 0 Q
  refine go_aload_n dX2_init_9 rfl 0 rfl ?_
  refine go_iload_n dX2_init_10 rfl 1 rfl ?_
  refine go_newI2 dX2_init_11 aw_99 ⟨by decide, by decide, by decide⟩ (by decide) (by decide) (r := 3) rfl (fun _ => rfl) (sh2 := S_5) rfl (k2 := 1) rfl (n2 := 59) rfl ?_
  refine go_putR dX2_init_13 (show S_5[2]? = some (2, 4, [none, none, none, none]) from rfl) (by decide) p_X2_15 ⟨Nat.le_of_ble_eq_true rfl, Nat.le_of_ble_eq_true rfl, rfl, Nat.le_of_ble_eq_true rfl⟩ rfl (fun _ => ⟨rfl, rfl⟩) ?_
  show Go G Y_X2_init59 16 [(0, .ref 2), (1, .int (59 : Int32))] [] S_6 J_7 1 59 Q
  exact go_vret dX2_init_16 rfl rfl (by decide) h
set_option maxRecDepth 100000 in
set_option maxHeartbeats 4000000 in
theorem c_X2_init_2 {G : CX} {Q : Sh → HP → Option Value → Prop} (h : Q S_10 J_8 none) : Ret G Y_X2_init19 [.ref 4, .int (19 : Int32)] S_8 J_7 Q := by
  refine ret_of (show plainName RX2 = true by decide) (Nat.le_of_ble_eq_true rfl) ?_
  show Go G Y_X2_init19 0 [(0, .ref 4), (1, .int (19 : Int32))] [] S_8 J_7 0 0 Q
  refine go_aload_n dX2_init_0 rfl 0 rfl ?_
  refine go_oinit dX2_init_1 ⟨l_X2_3, bt_obj⟩ (by decide) (Nat.le_of_ble_eq_true rfl) ?_
  refine go_aload_n dX2_init_4 rfl 0 rfl ?_
  refine go_iconst dX2_init_5 (v := (-1 : Int32)) (by decide) ?_
  refine go_putT dX2_init_6 (show S_8[4]? = some (2, 4, [none, none, none, none]) from rfl) (by decide) p_X2_9 ⟨Nat.le_of_ble_eq_true rfl, Nat.le_of_ble_eq_true rfl, rfl⟩ rfl rfl ?_
  show Go G Y_X2_init19 9 [(0, .ref 4), (1, .int (19 : Int32))] [] S_8 J_8 0 0 Q
  refine go_aload_n dX2_init_9 rfl 0 rfl ?_
  refine go_iload_n dX2_init_10 rfl 1 rfl ?_
  refine go_newI2 dX2_init_11 aw_99 ⟨by decide, by decide, by decide⟩ (by decide) (by decide) (r := 5) rfl (fun _ => rfl) (sh2 := S_9) rfl (k2 := 1) rfl (n2 := 19) rfl ?_
  refine go_putR dX2_init_13 (show S_9[4]? = some (2, 4, [none, none, none, none]) from rfl) (by decide) p_X2_15 ⟨Nat.le_of_ble_eq_true rfl, Nat.le_of_ble_eq_true rfl, rfl, Nat.le_of_ble_eq_true rfl⟩ rfl (fun _ => ⟨rfl, rfl⟩) ?_
  show Go G Y_X2_init19 16 [(0, .ref 4), (1, .int (19 : Int32))] [] S_10 J_8 1 19 Q
  exact go_vret dX2_init_16 rfl rfl (by decide) h
set_option maxRecDepth 100000 in
set_option maxHeartbeats 4000000 in
theorem c_X5_init_3 {G : CX} {Q : Sh → HP → Option Value → Prop} (h : Q S_42 J_8 none) : Ret G Y_X5_init12 [.ref 6, .int (12 : Int32)] S_12 J_8 Q := by
  refine ret_of (show plainName RX5 = true by decide) (Nat.le_of_ble_eq_true rfl) ?_
  show Go G Y_X5_init12 0 [(0, .ref 6), (1, .int (12 : Int32))] [] S_12 J_8 0 0 Q
  refine go_aload_n dX5_init_0 rfl 0 rfl ?_
  refine go_oinit dX5_init_1 ⟨l_X5_3, bt_obj⟩ (by decide) (Nat.le_of_ble_eq_true rfl) ?_
  refine go_aload_n dX5_init_4 rfl 0 rfl ?_
  refine go_iconst dX5_init_5 (v := (5 : Int32)) (by decide) ?_
  refine go_newI2 dX5_init_6 aw_99 ⟨by decide, by decide, by decide⟩ (by decide) (by decide) (r := 7) rfl (fun _ => rfl) (sh2 := S_13) rfl (k2 := 1) rfl (n2 := 5) rfl ?_
  refine go_putR dX5_init_8 (show S_13[6]? = some (5, 4, [none, none, none, none]) from rfl) (by decide) p_X5_9 ⟨Nat.le_of_ble_eq_true rfl, Nat.le_of_ble_eq_true rfl, rfl, Nat.le_of_ble_eq_true rfl⟩ rfl (fun _ => ⟨rfl, rfl⟩) ?_
  show Go G Y_X5_init12 11 [(0, .ref 6), (1, .int (12 : Int32))] [] S_14 J_8 1 5 Q
  refine go_aload_n dX5_init_11 rfl 0 rfl ?_
  refine go_new2 tyX6 dX5_init_12 rfl (by decide) gX6 ⟨aw_106, aw_107, aw_57⟩ tyX6_ok (by decide) (by decide) (by decide) (r := 8) rfl (fun _ => rfl) (sh2 := S_15) rfl (k2 := 2) rfl (n2 := 20) rfl ?_
  refine go_dup dX5_init_15 rfl ?_
  refine go_iNcall (Z := Y_X6_init) (host := RX7) (As := []) (S := [.ref 8, .ref 6]) (r := 8) dX5_init_16 ok_X6_init (fun s H h => h.2.2.2.2.2.1.1) (by decide) rfl rfl (Nat.le_of_ble_eq_true rfl) (c_turn (Q := fun sh' I' v => sh' = S_15 ∧ I' = J_8 ∧ v = none) ⟨rfl, rfl, rfl⟩) (fun _ _ _ hq => ?_)
  obtain ⟨rfl, rfl, rfl⟩ := hq
  show Go G Y_X5_init12 19 [(0, .ref 6), (1, .int (12 : Int32))] [.ref 8, .ref 6] S_15 J_8 2 20 Q
  refine go_putR dX5_init_19 (show S_15[6]? = some (5, 4, [some 7, none, none, none]) from rfl) (by decide) p_X5_18 ⟨Nat.le_of_ble_eq_true rfl, Nat.le_of_ble_eq_true rfl, rfl, Nat.le_of_ble_eq_true rfl⟩ rfl (fun _ => ⟨rfl, rfl⟩) ?_
  show Go G Y_X5_init12 22 [(0, .ref 6), (1, .int (12 : Int32))] [] S_16 J_8 2 20 Q
  refine go_aload_n dX5_init_22 rfl 0 rfl ?_
  refine go_iload_n dX5_init_23 rfl 1 rfl ?_
  refine go_newq2 dX5_init_24 aw_106 (Or.inl ⟨rfl, rfl⟩) ⟨by decide, by decide, by decide⟩ (by decide) (by decide) (r := 9) rfl (fun _ => rfl) (sh2 := S_17) rfl (k2 := 3) rfl (n2 := 32) rfl ?_
  refine go_putR dX5_init_27 (show S_17[6]? = some (5, 4, [some 7, some 8, none, none]) from rfl) (by decide) p_X5_22 ⟨Nat.le_of_ble_eq_true rfl, Nat.le_of_ble_eq_true rfl, rfl, Nat.le_of_ble_eq_true rfl⟩ rfl (fun _ => ⟨rfl, rfl⟩) ?_
  show Go G Y_X5_init12 30 [(0, .ref 6), (1, .int (12 : Int32))] [] S_18 J_8 3 32 Q
  refine go_iconst dX5_init_30 (v := (0 : Int32)) (by decide) ?_
  refine go_istore_n dX5_init_31 rfl (Nat.le_of_ble_eq_true rfl) (L2 := [(2, .int (0 : Int32)), (0, .ref 6), (1, .int (12 : Int32))]) rfl ?_
  refine go_iload_n dX5_init_32 rfl 0 rfl ?_
  refine go_iload_n dX5_init_33 rfl 2 rfl ?_
  refine go_icmp_ge (tgt := 56) dX5_init_34 (by decide) (fun c => absurd c (by decide)) (fun _ => ?_)
  refine go_aload_n dX5_init_37 rfl 1 rfl ?_
  refine go_getR dX5_init_38 (show S_18[6]? = some (5, 4, [some 7, some 8, some 9, none]) from rfl) (by decide) f_X5_22 ⟨Nat.le_of_ble_eq_true rfl, Nat.le_of_ble_eq_true rfl, rfl⟩ rfl ?_
  refine go_iload_n dX5_init_41 rfl 0 rfl ?_
  refine go_new2 tyX6 dX5_init_42 rfl (by decide) gX6 ⟨aw_106, aw_107, aw_57⟩ tyX6_ok (by decide) (by decide) (by decide) (r := 10) rfl (fun _ => rfl) (sh2 := S_19) rfl (k2 := 4) rfl (n2 := 47) rfl ?_
  refine go_dup dX5_init_45 rfl ?_
  refine go_iNcall (Z := Y_X6_init) (host := RX7) (As := []) (S := [.ref 10, .int (0 : Int32), .ref 9]) (r := 10) dX5_init_46 ok_X6_init (fun s H h => h.2.2.2.2.2.1.1) (by decide) rfl rfl (Nat.le_of_ble_eq_true rfl) (c_turn (Q := fun sh' I' v => sh' = S_19 ∧ I' = J_8 ∧ v = none) ⟨rfl, rfl, rfl⟩) (fun _ _ _ hq => ?_)
  obtain ⟨rfl, rfl, rfl⟩ := hq
  show Go G Y_X5_init12 49 [(2, .int (0 : Int32)), (0, .ref 6), (1, .int (12 : Int32))] [.ref 10, .int (0 : Int32), .ref 9] S_19 J_8 4 47 Q
  refine go_aast dX5_init_49 (show S_19[9]? = some (11, 12, [none, none, none, none, none, none, none, none, none, none, none, none]) from rfl) (Or.inl ⟨rfl, rfl⟩) ⟨by decide, by decide⟩ (show S_19[10]? = some (6, 15, [none, none, none, none, none, none, none, none, none, none, none, none, none, none, none]) from rfl) rfl (by unfold vp_in; decide) (by decide) ?_
  show Go G Y_X5_init12 50 [(2, .int (0 : Int32)), (0, .ref 6), (1, .int (12 : Int32))] [] S_20 J_8 4 47 Q
  refine go_iinc dX5_init_50 0 rfl (v := (1 : Int32)) (by decide) (Nat.le_of_ble_eq_true rfl) (L2 := [(2, .int (1 : Int32)), (0, .ref 6), (1, .int (12 : Int32))]) rfl ?_
  refine go_goto (tgt := 32) dX5_init_53 (by decide) ?_
  refine go_iload_n dX5_init_32 rfl 0 rfl ?_
  refine go_iload_n dX5_init_33 rfl 2 rfl ?_
  refine go_icmp_ge (tgt := 56) dX5_init_34 (by decide) (fun c => absurd c (by decide)) (fun _ => ?_)
  refine go_aload_n dX5_init_37 rfl 1 rfl ?_
  refine go_getR dX5_init_38 (show S_20[6]? = some (5, 4, [some 7, some 8, some 9, none]) from rfl) (by decide) f_X5_22 ⟨Nat.le_of_ble_eq_true rfl, Nat.le_of_ble_eq_true rfl, rfl⟩ rfl ?_
  refine go_iload_n dX5_init_41 rfl 0 rfl ?_
  refine go_new2 tyX6 dX5_init_42 rfl (by decide) gX6 ⟨aw_106, aw_107, aw_57⟩ tyX6_ok (by decide) (by decide) (by decide) (r := 11) rfl (fun _ => rfl) (sh2 := S_21) rfl (k2 := 5) rfl (n2 := 62) rfl ?_
  refine go_dup dX5_init_45 rfl ?_
  refine go_iNcall (Z := Y_X6_init) (host := RX7) (As := []) (S := [.ref 11, .int (1 : Int32), .ref 9]) (r := 11) dX5_init_46 ok_X6_init (fun s H h => h.2.2.2.2.2.1.1) (by decide) rfl rfl (Nat.le_of_ble_eq_true rfl) (c_turn (Q := fun sh' I' v => sh' = S_21 ∧ I' = J_8 ∧ v = none) ⟨rfl, rfl, rfl⟩) (fun _ _ _ hq => ?_)
  obtain ⟨rfl, rfl, rfl⟩ := hq
  show Go G Y_X5_init12 49 [(2, .int (1 : Int32)), (0, .ref 6), (1, .int (12 : Int32))] [.ref 11, .int (1 : Int32), .ref 9] S_21 J_8 5 62 Q
  refine go_aast dX5_init_49 (show S_21[9]? = some (11, 12, [some 10, none, none, none, none, none, none, none, none, none, none, none]) from rfl) (Or.inl ⟨rfl, rfl⟩) ⟨by decide, by decide⟩ (show S_21[11]? = some (6, 15, [none, none, none, none, none, none, none, none, none, none, none, none, none, none, none]) from rfl) rfl (by unfold vp_in; decide) (by decide) ?_
  show Go G Y_X5_init12 50 [(2, .int (1 : Int32)), (0, .ref 6), (1, .int (12 : Int32))] [] S_22 J_8 5 62 Q
  refine go_iinc dX5_init_50 0 rfl (v := (2 : Int32)) (by decide) (Nat.le_of_ble_eq_true rfl) (L2 := [(2, .int (2 : Int32)), (0, .ref 6), (1, .int (12 : Int32))]) rfl ?_
  refine go_goto (tgt := 32) dX5_init_53 (by decide) ?_
  refine go_iload_n dX5_init_32 rfl 0 rfl ?_
  refine go_iload_n dX5_init_33 rfl 2 rfl ?_
  refine go_icmp_ge (tgt := 56) dX5_init_34 (by decide) (fun c => absurd c (by decide)) (fun _ => ?_)
  refine go_aload_n dX5_init_37 rfl 1 rfl ?_
  refine go_getR dX5_init_38 (show S_22[6]? = some (5, 4, [some 7, some 8, some 9, none]) from rfl) (by decide) f_X5_22 ⟨Nat.le_of_ble_eq_true rfl, Nat.le_of_ble_eq_true rfl, rfl⟩ rfl ?_
  refine go_iload_n dX5_init_41 rfl 0 rfl ?_
  refine go_new2 tyX6 dX5_init_42 rfl (by decide) gX6 ⟨aw_106, aw_107, aw_57⟩ tyX6_ok (by decide) (by decide) (by decide) (r := 12) rfl (fun _ => rfl) (sh2 := S_23) rfl (k2 := 6) rfl (n2 := 77) rfl ?_
  refine go_dup dX5_init_45 rfl ?_
  refine go_iNcall (Z := Y_X6_init) (host := RX7) (As := []) (S := [.ref 12, .int (2 : Int32), .ref 9]) (r := 12) dX5_init_46 ok_X6_init (fun s H h => h.2.2.2.2.2.1.1) (by decide) rfl rfl (Nat.le_of_ble_eq_true rfl) (c_turn (Q := fun sh' I' v => sh' = S_23 ∧ I' = J_8 ∧ v = none) ⟨rfl, rfl, rfl⟩) (fun _ _ _ hq => ?_)
  obtain ⟨rfl, rfl, rfl⟩ := hq
  show Go G Y_X5_init12 49 [(2, .int (2 : Int32)), (0, .ref 6), (1, .int (12 : Int32))] [.ref 12, .int (2 : Int32), .ref 9] S_23 J_8 6 77 Q
  refine go_aast dX5_init_49 (show S_23[9]? = some (11, 12, [some 10, some 11, none, none, none, none, none, none, none, none, none, none]) from rfl) (Or.inl ⟨rfl, rfl⟩) ⟨by decide, by decide⟩ (show S_23[12]? = some (6, 15, [none, none, none, none, none, none, none, none, none, none, none, none, none, none, none]) from rfl) rfl (by unfold vp_in; decide) (by decide) ?_
  show Go G Y_X5_init12 50 [(2, .int (2 : Int32)), (0, .ref 6), (1, .int (12 : Int32))] [] S_24 J_8 6 77 Q
  refine go_iinc dX5_init_50 0 rfl (v := (3 : Int32)) (by decide) (Nat.le_of_ble_eq_true rfl) (L2 := [(2, .int (3 : Int32)), (0, .ref 6), (1, .int (12 : Int32))]) rfl ?_
  refine go_goto (tgt := 32) dX5_init_53 (by decide) ?_
  refine go_iload_n dX5_init_32 rfl 0 rfl ?_
  refine go_iload_n dX5_init_33 rfl 2 rfl ?_
  refine go_icmp_ge (tgt := 56) dX5_init_34 (by decide) (fun c => absurd c (by decide)) (fun _ => ?_)
  refine go_aload_n dX5_init_37 rfl 1 rfl ?_
  refine go_getR dX5_init_38 (show S_24[6]? = some (5, 4, [some 7, some 8, some 9, none]) from rfl) (by decide) f_X5_22 ⟨Nat.le_of_ble_eq_true rfl, Nat.le_of_ble_eq_true rfl, rfl⟩ rfl ?_
  refine go_iload_n dX5_init_41 rfl 0 rfl ?_
  refine go_new2 tyX6 dX5_init_42 rfl (by decide) gX6 ⟨aw_106, aw_107, aw_57⟩ tyX6_ok (by decide) (by decide) (by decide) (r := 13) rfl (fun _ => rfl) (sh2 := S_25) rfl (k2 := 7) rfl (n2 := 92) rfl ?_
  refine go_dup dX5_init_45 rfl ?_
  refine go_iNcall (Z := Y_X6_init) (host := RX7) (As := []) (S := [.ref 13, .int (3 : Int32), .ref 9]) (r := 13) dX5_init_46 ok_X6_init (fun s H h => h.2.2.2.2.2.1.1) (by decide) rfl rfl (Nat.le_of_ble_eq_true rfl) (c_turn (Q := fun sh' I' v => sh' = S_25 ∧ I' = J_8 ∧ v = none) ⟨rfl, rfl, rfl⟩) (fun _ _ _ hq => ?_)
  obtain ⟨rfl, rfl, rfl⟩ := hq
  show Go G Y_X5_init12 49 [(2, .int (3 : Int32)), (0, .ref 6), (1, .int (12 : Int32))] [.ref 13, .int (3 : Int32), .ref 9] S_25 J_8 7 92 Q
  refine go_aast dX5_init_49 (show S_25[9]? = some (11, 12, [some 10, some 11, some 12, none, none, none, none, none, none, none, none, none]) from rfl) (Or.inl ⟨rfl, rfl⟩) ⟨by decide, by decide⟩ (show S_25[13]? = some (6, 15, [none, none, none, none, none, none, none, none, none, none, none, none, none, none, none]) from rfl) rfl (by unfold vp_in; decide) (by decide) ?_
  show Go G Y_X5_init12 50 [(2, .int (3 : Int32)), (0, .ref 6), (1, .int (12 : Int32))] [] S_26 J_8 7 92 Q
  refine go_iinc dX5_init_50 0 rfl (v := (4 : Int32)) (by decide) (Nat.le_of_ble_eq_true rfl) (L2 := [(2, .int (4 : Int32)), (0, .ref 6), (1, .int (12 : Int32))]) rfl ?_
  refine go_goto (tgt := 32) dX5_init_53 (by decide) ?_
  refine go_iload_n dX5_init_32 rfl 0 rfl ?_
  refine go_iload_n dX5_init_33 rfl 2 rfl ?_
  refine go_icmp_ge (tgt := 56) dX5_init_34 (by decide) (fun c => absurd c (by decide)) (fun _ => ?_)
  refine go_aload_n dX5_init_37 rfl 1 rfl ?_
  refine go_getR dX5_init_38 (show S_26[6]? = some (5, 4, [some 7, some 8, some 9, none]) from rfl) (by decide) f_X5_22 ⟨Nat.le_of_ble_eq_true rfl, Nat.le_of_ble_eq_true rfl, rfl⟩ rfl ?_
  refine go_iload_n dX5_init_41 rfl 0 rfl ?_
  refine go_new2 tyX6 dX5_init_42 rfl (by decide) gX6 ⟨aw_106, aw_107, aw_57⟩ tyX6_ok (by decide) (by decide) (by decide) (r := 14) rfl (fun _ => rfl) (sh2 := S_27) rfl (k2 := 8) rfl (n2 := 107) rfl ?_
  refine go_dup dX5_init_45 rfl ?_
  refine go_iNcall (Z := Y_X6_init) (host := RX7) (As := []) (S := [.ref 14, .int (4 : Int32), .ref 9]) (r := 14) dX5_init_46 ok_X6_init (fun s H h => h.2.2.2.2.2.1.1) (by decide) rfl rfl (Nat.le_of_ble_eq_true rfl) (c_turn (Q := fun sh' I' v => sh' = S_27 ∧ I' = J_8 ∧ v = none) ⟨rfl, rfl, rfl⟩) (fun _ _ _ hq => ?_)
  obtain ⟨rfl, rfl, rfl⟩ := hq
  show Go G Y_X5_init12 49 [(2, .int (4 : Int32)), (0, .ref 6), (1, .int (12 : Int32))] [.ref 14, .int (4 : Int32), .ref 9] S_27 J_8 8 107 Q
  refine go_aast dX5_init_49 (show S_27[9]? = some (11, 12, [some 10, some 11, some 12, some 13, none, none, none, none, none, none, none, none]) from rfl) (Or.inl ⟨rfl, rfl⟩) ⟨by decide, by decide⟩ (show S_27[14]? = some (6, 15, [none, none, none, none, none, none, none, none, none, none, none, none, none, none, none]) from rfl) rfl (by unfold vp_in; decide) (by decide) ?_
  show Go G Y_X5_init12 50 [(2, .int (4 : Int32)), (0, .ref 6), (1, .int (12 : Int32))] [] S_28 J_8 8 107 Q
  refine go_iinc dX5_init_50 0 rfl (v := (5 : Int32)) (by decide) (Nat.le_of_ble_eq_true rfl) (L2 := [(2, .int (5 : Int32)), (0, .ref 6), (1, .int (12 : Int32))]) rfl ?_
  refine go_goto (tgt := 32) dX5_init_53 (by decide) ?_
  refine go_iload_n dX5_init_32 rfl 0 rfl ?_
  refine go_iload_n dX5_init_33 rfl 2 rfl ?_
  refine go_icmp_ge (tgt := 56) dX5_init_34 (by decide) (fun c => absurd c (by decide)) (fun _ => ?_)
  refine go_aload_n dX5_init_37 rfl 1 rfl ?_
  refine go_getR dX5_init_38 (show S_28[6]? = some (5, 4, [some 7, some 8, some 9, none]) from rfl) (by decide) f_X5_22 ⟨Nat.le_of_ble_eq_true rfl, Nat.le_of_ble_eq_true rfl, rfl⟩ rfl ?_
  refine go_iload_n dX5_init_41 rfl 0 rfl ?_
  refine go_new2 tyX6 dX5_init_42 rfl (by decide) gX6 ⟨aw_106, aw_107, aw_57⟩ tyX6_ok (by decide) (by decide) (by decide) (r := 15) rfl (fun _ => rfl) (sh2 := S_29) rfl (k2 := 9) rfl (n2 := 122) rfl ?_
  refine go_dup dX5_init_45 rfl ?_
  refine go_iNcall (Z := Y_X6_init) (host := RX7) (As := []) (S := [.ref 15, .int (5 : Int32), .ref 9]) (r := 15) dX5_init_46 ok_X6_init (fun s H h => h.2.2.2.2.2.1.1) (by decide) rfl rfl (Nat.le_of_ble_eq_true rfl) (c_turn (Q := fun sh' I' v => sh' = S_29 ∧ I' = J_8 ∧ v = none) ⟨rfl, rfl, rfl⟩) (fun _ _ _ hq => ?_)
  obtain ⟨rfl, rfl, rfl⟩ := hq
  show Go G Y_X5_init12 49 [(2, .int (5 : Int32)), (0, .ref 6), (1, .int (12 : Int32))] [.ref 15, .int (5 : Int32), .ref 9] S_29 J_8 9 122 Q
  refine go_aast dX5_init_49 (show S_29[9]? = some (11, 12, [some 10, some 11, some 12, some 13, some 14, none, none, none, none, none, none, none]) from rfl) (Or.inl ⟨rfl, rfl⟩) ⟨by decide, by decide⟩ (show S_29[15]? = some (6, 15, [none, none, none, none, none, none, none, none, none, none, none, none, none, none, none]) from rfl) rfl (by unfold vp_in; decide) (by decide) ?_
  show Go G Y_X5_init12 50 [(2, .int (5 : Int32)), (0, .ref 6), (1, .int (12 : Int32))] [] S_30 J_8 9 122 Q
  refine go_iinc dX5_init_50 0 rfl (v := (6 : Int32)) (by decide) (Nat.le_of_ble_eq_true rfl) (L2 := [(2, .int (6 : Int32)), (0, .ref 6), (1, .int (12 : Int32))]) rfl ?_
  refine go_goto (tgt := 32) dX5_init_53 (by decide) ?_
  refine go_iload_n dX5_init_32 rfl 0 rfl ?_
  refine go_iload_n dX5_init_33 rfl 2 rfl ?_
  refine go_icmp_ge (tgt := 56) dX5_init_34 (by decide) (fun c => absurd c (by decide)) (fun _ => ?_)
  refine go_aload_n dX5_init_37 rfl 1 rfl ?_
  refine go_getR dX5_init_38 (show S_30[6]? = some (5, 4, [some 7, some 8, some 9, none]) from rfl) (by decide) f_X5_22 ⟨Nat.le_of_ble_eq_true rfl, Nat.le_of_ble_eq_true rfl, rfl⟩ rfl ?_
  refine go_iload_n dX5_init_41 rfl 0 rfl ?_
  refine go_new2 tyX6 dX5_init_42 rfl (by decide) gX6 ⟨aw_106, aw_107, aw_57⟩ tyX6_ok (by decide) (by decide) (by decide) (r := 16) rfl (fun _ => rfl) (sh2 := S_31) rfl (k2 := 10) rfl (n2 := 137) rfl ?_
  refine go_dup dX5_init_45 rfl ?_
  refine go_iNcall (Z := Y_X6_init) (host := RX7) (As := []) (S := [.ref 16, .int (6 : Int32), .ref 9]) (r := 16) dX5_init_46 ok_X6_init (fun s H h => h.2.2.2.2.2.1.1) (by decide) rfl rfl (Nat.le_of_ble_eq_true rfl) (c_turn (Q := fun sh' I' v => sh' = S_31 ∧ I' = J_8 ∧ v = none) ⟨rfl, rfl, rfl⟩) (fun _ _ _ hq => ?_)
  obtain ⟨rfl, rfl, rfl⟩ := hq
  show Go G Y_X5_init12 49 [(2, .int (6 : Int32)), (0, .ref 6), (1, .int (12 : Int32))] [.ref 16, .int (6 : Int32), .ref 9] S_31 J_8 10 137 Q
  refine go_aast dX5_init_49 (show S_31[9]? = some (11, 12, [some 10, some 11, some 12, some 13, some 14, some 15, none, none, none, none, none, none]) from rfl) (Or.inl ⟨rfl, rfl⟩) ⟨by decide, by decide⟩ (show S_31[16]? = some (6, 15, [none, none, none, none, none, none, none, none, none, none, none, none, none, none, none]) from rfl) rfl (by unfold vp_in; decide) (by decide) ?_
  show Go G Y_X5_init12 50 [(2, .int (6 : Int32)), (0, .ref 6), (1, .int (12 : Int32))] [] S_32 J_8 10 137 Q
  refine go_iinc dX5_init_50 0 rfl (v := (7 : Int32)) (by decide) (Nat.le_of_ble_eq_true rfl) (L2 := [(2, .int (7 : Int32)), (0, .ref 6), (1, .int (12 : Int32))]) rfl ?_
  refine go_goto (tgt := 32) dX5_init_53 (by decide) ?_
  refine go_iload_n dX5_init_32 rfl 0 rfl ?_
  refine go_iload_n dX5_init_33 rfl 2 rfl ?_
  refine go_icmp_ge (tgt := 56) dX5_init_34 (by decide) (fun c => absurd c (by decide)) (fun _ => ?_)
  refine go_aload_n dX5_init_37 rfl 1 rfl ?_
  refine go_getR dX5_init_38 (show S_32[6]? = some (5, 4, [some 7, some 8, some 9, none]) from rfl) (by decide) f_X5_22 ⟨Nat.le_of_ble_eq_true rfl, Nat.le_of_ble_eq_true rfl, rfl⟩ rfl ?_
  refine go_iload_n dX5_init_41 rfl 0 rfl ?_
  refine go_new2 tyX6 dX5_init_42 rfl (by decide) gX6 ⟨aw_106, aw_107, aw_57⟩ tyX6_ok (by decide) (by decide) (by decide) (r := 17) rfl (fun _ => rfl) (sh2 := S_33) rfl (k2 := 11) rfl (n2 := 152) rfl ?_
  refine go_dup dX5_init_45 rfl ?_
  refine go_iNcall (Z := Y_X6_init) (host := RX7) (As := []) (S := [.ref 17, .int (7 : Int32), .ref 9]) (r := 17) dX5_init_46 ok_X6_init (fun s H h => h.2.2.2.2.2.1.1) (by decide) rfl rfl (Nat.le_of_ble_eq_true rfl) (c_turn (Q := fun sh' I' v => sh' = S_33 ∧ I' = J_8 ∧ v = none) ⟨rfl, rfl, rfl⟩) (fun _ _ _ hq => ?_)
  obtain ⟨rfl, rfl, rfl⟩ := hq
  show Go G Y_X5_init12 49 [(2, .int (7 : Int32)), (0, .ref 6), (1, .int (12 : Int32))] [.ref 17, .int (7 : Int32), .ref 9] S_33 J_8 11 152 Q
  refine go_aast dX5_init_49 (show S_33[9]? = some (11, 12, [some 10, some 11, some 12, some 13, some 14, some 15, some 16, none, none, none, none, none]) from rfl) (Or.inl ⟨rfl, rfl⟩) ⟨by decide, by decide⟩ (show S_33[17]? = some (6, 15, [none, none, none, none, none, none, none, none, none, none, none, none, none, none, none]) from rfl) rfl (by unfold vp_in; decide) (by decide) ?_
  show Go G Y_X5_init12 50 [(2, .int (7 : Int32)), (0, .ref 6), (1, .int (12 : Int32))] [] S_34 J_8 11 152 Q
  refine go_iinc dX5_init_50 0 rfl (v := (8 : Int32)) (by decide) (Nat.le_of_ble_eq_true rfl) (L2 := [(2, .int (8 : Int32)), (0, .ref 6), (1, .int (12 : Int32))]) rfl ?_
  refine go_goto (tgt := 32) dX5_init_53 (by decide) ?_
  refine go_iload_n dX5_init_32 rfl 0 rfl ?_
  refine go_iload_n dX5_init_33 rfl 2 rfl ?_
  refine go_icmp_ge (tgt := 56) dX5_init_34 (by decide) (fun c => absurd c (by decide)) (fun _ => ?_)
  refine go_aload_n dX5_init_37 rfl 1 rfl ?_
  refine go_getR dX5_init_38 (show S_34[6]? = some (5, 4, [some 7, some 8, some 9, none]) from rfl) (by decide) f_X5_22 ⟨Nat.le_of_ble_eq_true rfl, Nat.le_of_ble_eq_true rfl, rfl⟩ rfl ?_
  refine go_iload_n dX5_init_41 rfl 0 rfl ?_
  refine go_new2 tyX6 dX5_init_42 rfl (by decide) gX6 ⟨aw_106, aw_107, aw_57⟩ tyX6_ok (by decide) (by decide) (by decide) (r := 18) rfl (fun _ => rfl) (sh2 := S_35) rfl (k2 := 12) rfl (n2 := 167) rfl ?_
  refine go_dup dX5_init_45 rfl ?_
  refine go_iNcall (Z := Y_X6_init) (host := RX7) (As := []) (S := [.ref 18, .int (8 : Int32), .ref 9]) (r := 18) dX5_init_46 ok_X6_init (fun s H h => h.2.2.2.2.2.1.1) (by decide) rfl rfl (Nat.le_of_ble_eq_true rfl) (c_turn (Q := fun sh' I' v => sh' = S_35 ∧ I' = J_8 ∧ v = none) ⟨rfl, rfl, rfl⟩) (fun _ _ _ hq => ?_)
  obtain ⟨rfl, rfl, rfl⟩ := hq
  show Go G Y_X5_init12 49 [(2, .int (8 : Int32)), (0, .ref 6), (1, .int (12 : Int32))] [.ref 18, .int (8 : Int32), .ref 9] S_35 J_8 12 167 Q
  refine go_aast dX5_init_49 (show S_35[9]? = some (11, 12, [some 10, some 11, some 12, some 13, some 14, some 15, some 16, some 17, none, none, none, none]) from rfl) (Or.inl ⟨rfl, rfl⟩) ⟨by decide, by decide⟩ (show S_35[18]? = some (6, 15, [none, none, none, none, none, none, none, none, none, none, none, none, none, none, none]) from rfl) rfl (by unfold vp_in; decide) (by decide) ?_
  show Go G Y_X5_init12 50 [(2, .int (8 : Int32)), (0, .ref 6), (1, .int (12 : Int32))] [] S_36 J_8 12 167 Q
  refine go_iinc dX5_init_50 0 rfl (v := (9 : Int32)) (by decide) (Nat.le_of_ble_eq_true rfl) (L2 := [(2, .int (9 : Int32)), (0, .ref 6), (1, .int (12 : Int32))]) rfl ?_
  refine go_goto (tgt := 32) dX5_init_53 (by decide) ?_
  refine go_iload_n dX5_init_32 rfl 0 rfl ?_
  refine go_iload_n dX5_init_33 rfl 2 rfl ?_
  refine go_icmp_ge (tgt := 56) dX5_init_34 (by decide) (fun c => absurd c (by decide)) (fun _ => ?_)
  refine go_aload_n dX5_init_37 rfl 1 rfl ?_
  refine go_getR dX5_init_38 (show S_36[6]? = some (5, 4, [some 7, some 8, some 9, none]) from rfl) (by decide) f_X5_22 ⟨Nat.le_of_ble_eq_true rfl, Nat.le_of_ble_eq_true rfl, rfl⟩ rfl ?_
  refine go_iload_n dX5_init_41 rfl 0 rfl ?_
  refine go_new2 tyX6 dX5_init_42 rfl (by decide) gX6 ⟨aw_106, aw_107, aw_57⟩ tyX6_ok (by decide) (by decide) (by decide) (r := 19) rfl (fun _ => rfl) (sh2 := S_37) rfl (k2 := 13) rfl (n2 := 182) rfl ?_
  refine go_dup dX5_init_45 rfl ?_
  refine go_iNcall (Z := Y_X6_init) (host := RX7) (As := []) (S := [.ref 19, .int (9 : Int32), .ref 9]) (r := 19) dX5_init_46 ok_X6_init (fun s H h => h.2.2.2.2.2.1.1) (by decide) rfl rfl (Nat.le_of_ble_eq_true rfl) (c_turn (Q := fun sh' I' v => sh' = S_37 ∧ I' = J_8 ∧ v = none) ⟨rfl, rfl, rfl⟩) (fun _ _ _ hq => ?_)
  obtain ⟨rfl, rfl, rfl⟩ := hq
  show Go G Y_X5_init12 49 [(2, .int (9 : Int32)), (0, .ref 6), (1, .int (12 : Int32))] [.ref 19, .int (9 : Int32), .ref 9] S_37 J_8 13 182 Q
  refine go_aast dX5_init_49 (show S_37[9]? = some (11, 12, [some 10, some 11, some 12, some 13, some 14, some 15, some 16, some 17, some 18, none, none, none]) from rfl) (Or.inl ⟨rfl, rfl⟩) ⟨by decide, by decide⟩ (show S_37[19]? = some (6, 15, [none, none, none, none, none, none, none, none, none, none, none, none, none, none, none]) from rfl) rfl (by unfold vp_in; decide) (by decide) ?_
  show Go G Y_X5_init12 50 [(2, .int (9 : Int32)), (0, .ref 6), (1, .int (12 : Int32))] [] S_38 J_8 13 182 Q
  refine go_iinc dX5_init_50 0 rfl (v := (10 : Int32)) (by decide) (Nat.le_of_ble_eq_true rfl) (L2 := [(2, .int (10 : Int32)), (0, .ref 6), (1, .int (12 : Int32))]) rfl ?_
  refine go_goto (tgt := 32) dX5_init_53 (by decide) ?_
  refine go_iload_n dX5_init_32 rfl 0 rfl ?_
  refine go_iload_n dX5_init_33 rfl 2 rfl ?_
  refine go_icmp_ge (tgt := 56) dX5_init_34 (by decide) (fun c => absurd c (by decide)) (fun _ => ?_)
  refine go_aload_n dX5_init_37 rfl 1 rfl ?_
  refine go_getR dX5_init_38 (show S_38[6]? = some (5, 4, [some 7, some 8, some 9, none]) from rfl) (by decide) f_X5_22 ⟨Nat.le_of_ble_eq_true rfl, Nat.le_of_ble_eq_true rfl, rfl⟩ rfl ?_
  refine go_iload_n dX5_init_41 rfl 0 rfl ?_
  refine go_new2 tyX6 dX5_init_42 rfl (by decide) gX6 ⟨aw_106, aw_107, aw_57⟩ tyX6_ok (by decide) (by decide) (by decide) (r := 20) rfl (fun _ => rfl) (sh2 := S_39) rfl (k2 := 14) rfl (n2 := 197) rfl ?_
  refine go_dup dX5_init_45 rfl ?_
  refine go_iNcall (Z := Y_X6_init) (host := RX7) (As := []) (S := [.ref 20, .int (10 : Int32), .ref 9]) (r := 20) dX5_init_46 ok_X6_init (fun s H h => h.2.2.2.2.2.1.1) (by decide) rfl rfl (Nat.le_of_ble_eq_true rfl) (c_turn (Q := fun sh' I' v => sh' = S_39 ∧ I' = J_8 ∧ v = none) ⟨rfl, rfl, rfl⟩) (fun _ _ _ hq => ?_)
  obtain ⟨rfl, rfl, rfl⟩ := hq
  show Go G Y_X5_init12 49 [(2, .int (10 : Int32)), (0, .ref 6), (1, .int (12 : Int32))] [.ref 20, .int (10 : Int32), .ref 9] S_39 J_8 14 197 Q
  refine go_aast dX5_init_49 (show S_39[9]? = some (11, 12, [some 10, some 11, some 12, some 13, some 14, some 15, some 16, some 17, some 18, some 19, none, none]) from rfl) (Or.inl ⟨rfl, rfl⟩) ⟨by decide, by decide⟩ (show S_39[20]? = some (6, 15, [none, none, none, none, none, none, none, none, none, none, none, none, none, none, none]) from rfl) rfl (by unfold vp_in; decide) (by decide) ?_
  show Go G Y_X5_init12 50 [(2, .int (10 : Int32)), (0, .ref 6), (1, .int (12 : Int32))] [] S_40 J_8 14 197 Q
  refine go_iinc dX5_init_50 0 rfl (v := (11 : Int32)) (by decide) (Nat.le_of_ble_eq_true rfl) (L2 := [(2, .int (11 : Int32)), (0, .ref 6), (1, .int (12 : Int32))]) rfl ?_
  refine go_goto (tgt := 32) dX5_init_53 (by decide) ?_
  refine go_iload_n dX5_init_32 rfl 0 rfl ?_
  refine go_iload_n dX5_init_33 rfl 2 rfl ?_
  refine go_icmp_ge (tgt := 56) dX5_init_34 (by decide) (fun c => absurd c (by decide)) (fun _ => ?_)
  refine go_aload_n dX5_init_37 rfl 1 rfl ?_
  refine go_getR dX5_init_38 (show S_40[6]? = some (5, 4, [some 7, some 8, some 9, none]) from rfl) (by decide) f_X5_22 ⟨Nat.le_of_ble_eq_true rfl, Nat.le_of_ble_eq_true rfl, rfl⟩ rfl ?_
  refine go_iload_n dX5_init_41 rfl 0 rfl ?_
  refine go_new2 tyX6 dX5_init_42 rfl (by decide) gX6 ⟨aw_106, aw_107, aw_57⟩ tyX6_ok (by decide) (by decide) (by decide) (r := 21) rfl (fun _ => rfl) (sh2 := S_41) rfl (k2 := 15) rfl (n2 := 212) rfl ?_
  refine go_dup dX5_init_45 rfl ?_
  refine go_iNcall (Z := Y_X6_init) (host := RX7) (As := []) (S := [.ref 21, .int (11 : Int32), .ref 9]) (r := 21) dX5_init_46 ok_X6_init (fun s H h => h.2.2.2.2.2.1.1) (by decide) rfl rfl (Nat.le_of_ble_eq_true rfl) (c_turn (Q := fun sh' I' v => sh' = S_41 ∧ I' = J_8 ∧ v = none) ⟨rfl, rfl, rfl⟩) (fun _ _ _ hq => ?_)
  obtain ⟨rfl, rfl, rfl⟩ := hq
  show Go G Y_X5_init12 49 [(2, .int (11 : Int32)), (0, .ref 6), (1, .int (12 : Int32))] [.ref 21, .int (11 : Int32), .ref 9] S_41 J_8 15 212 Q
  refine go_aast dX5_init_49 (show S_41[9]? = some (11, 12, [some 10, some 11, some 12, some 13, some 14, some 15, some 16, some 17, some 18, some 19, some 20, none]) from rfl) (Or.inl ⟨rfl, rfl⟩) ⟨by decide, by decide⟩ (show S_41[21]? = some (6, 15, [none, none, none, none, none, none, none, none, none, none, none, none, none, none, none]) from rfl) rfl (by unfold vp_in; decide) (by decide) ?_
  show Go G Y_X5_init12 50 [(2, .int (11 : Int32)), (0, .ref 6), (1, .int (12 : Int32))] [] S_42 J_8 15 212 Q
  refine go_iinc dX5_init_50 0 rfl (v := (12 : Int32)) (by decide) (Nat.le_of_ble_eq_true rfl) (L2 := [(2, .int (12 : Int32)), (0, .ref 6), (1, .int (12 : Int32))]) rfl ?_
  refine go_goto (tgt := 32) dX5_init_53 (by decide) ?_
  refine go_iload_n dX5_init_32 rfl 0 rfl ?_
  refine go_iload_n dX5_init_33 rfl 2 rfl ?_
  refine go_icmp_ge (tgt := 56) dX5_init_34 (by decide) (fun _ => ?_) (fun c => absurd (by decide) c)
  exact go_vret dX5_init_56 rfl rfl (by decide) h
set_option maxRecDepth 100000 in
set_option maxHeartbeats 4000000 in
theorem c_X5_init_4 {G : CX} {Q : Sh → HP → Option Value → Prop} (h : Q S_78 J_8 none) : Ret G Y_X5_init14 [.ref 22, .int (14 : Int32)] S_44 J_8 Q := by
  refine ret_of (show plainName RX5 = true by decide) (Nat.le_of_ble_eq_true rfl) ?_
  show Go G Y_X5_init14 0 [(0, .ref 22), (1, .int (14 : Int32))] [] S_44 J_8 0 0 Q
  refine go_aload_n dX5_init_0 rfl 0 rfl ?_
  refine go_oinit dX5_init_1 ⟨l_X5_3, bt_obj⟩ (by decide) (Nat.le_of_ble_eq_true rfl) ?_
  refine go_aload_n dX5_init_4 rfl 0 rfl ?_
  refine go_iconst dX5_init_5 (v := (5 : Int32)) (by decide) ?_
  refine go_newI2 dX5_init_6 aw_99 ⟨by decide, by decide, by decide⟩ (by decide) (by decide) (r := 23) rfl (fun _ => rfl) (sh2 := S_45) rfl (k2 := 1) rfl (n2 := 5) rfl ?_
  refine go_putR dX5_init_8 (show S_45[22]? = some (5, 4, [none, none, none, none]) from rfl) (by decide) p_X5_9 ⟨Nat.le_of_ble_eq_true rfl, Nat.le_of_ble_eq_true rfl, rfl, Nat.le_of_ble_eq_true rfl⟩ rfl (fun _ => ⟨rfl, rfl⟩) ?_
  show Go G Y_X5_init14 11 [(0, .ref 22), (1, .int (14 : Int32))] [] S_46 J_8 1 5 Q
  refine go_aload_n dX5_init_11 rfl 0 rfl ?_
  refine go_new2 tyX6 dX5_init_12 rfl (by decide) gX6 ⟨aw_106, aw_107, aw_57⟩ tyX6_ok (by decide) (by decide) (by decide) (r := 24) rfl (fun _ => rfl) (sh2 := S_47) rfl (k2 := 2) rfl (n2 := 20) rfl ?_
  refine go_dup dX5_init_15 rfl ?_
  refine go_iNcall (Z := Y_X6_init) (host := RX7) (As := []) (S := [.ref 24, .ref 22]) (r := 24) dX5_init_16 ok_X6_init (fun s H h => h.2.2.2.2.2.1.1) (by decide) rfl rfl (Nat.le_of_ble_eq_true rfl) (c_turn (Q := fun sh' I' v => sh' = S_47 ∧ I' = J_8 ∧ v = none) ⟨rfl, rfl, rfl⟩) (fun _ _ _ hq => ?_)
  obtain ⟨rfl, rfl, rfl⟩ := hq
  show Go G Y_X5_init14 19 [(0, .ref 22), (1, .int (14 : Int32))] [.ref 24, .ref 22] S_47 J_8 2 20 Q
  refine go_putR dX5_init_19 (show S_47[22]? = some (5, 4, [some 23, none, none, none]) from rfl) (by decide) p_X5_18 ⟨Nat.le_of_ble_eq_true rfl, Nat.le_of_ble_eq_true rfl, rfl, Nat.le_of_ble_eq_true rfl⟩ rfl (fun _ => ⟨rfl, rfl⟩) ?_
  show Go G Y_X5_init14 22 [(0, .ref 22), (1, .int (14 : Int32))] [] S_48 J_8 2 20 Q
  refine go_aload_n dX5_init_22 rfl 0 rfl ?_
  refine go_iload_n dX5_init_23 rfl 1 rfl ?_
  refine go_newq2 dX5_init_24 aw_106 (Or.inl ⟨rfl, rfl⟩) ⟨by decide, by decide, by decide⟩ (by decide) (by decide) (r := 25) rfl (fun _ => rfl) (sh2 := S_49) rfl (k2 := 3) rfl (n2 := 34) rfl ?_
  refine go_putR dX5_init_27 (show S_49[22]? = some (5, 4, [some 23, some 24, none, none]) from rfl) (by decide) p_X5_22 ⟨Nat.le_of_ble_eq_true rfl, Nat.le_of_ble_eq_true rfl, rfl, Nat.le_of_ble_eq_true rfl⟩ rfl (fun _ => ⟨rfl, rfl⟩) ?_
  show Go G Y_X5_init14 30 [(0, .ref 22), (1, .int (14 : Int32))] [] S_50 J_8 3 34 Q
  refine go_iconst dX5_init_30 (v := (0 : Int32)) (by decide) ?_
  refine go_istore_n dX5_init_31 rfl (Nat.le_of_ble_eq_true rfl) (L2 := [(2, .int (0 : Int32)), (0, .ref 22), (1, .int (14 : Int32))]) rfl ?_
  refine go_iload_n dX5_init_32 rfl 0 rfl ?_
  refine go_iload_n dX5_init_33 rfl 2 rfl ?_
  refine go_icmp_ge (tgt := 56) dX5_init_34 (by decide) (fun c => absurd c (by decide)) (fun _ => ?_)
  refine go_aload_n dX5_init_37 rfl 1 rfl ?_
  refine go_getR dX5_init_38 (show S_50[22]? = some (5, 4, [some 23, some 24, some 25, none]) from rfl) (by decide) f_X5_22 ⟨Nat.le_of_ble_eq_true rfl, Nat.le_of_ble_eq_true rfl, rfl⟩ rfl ?_
  refine go_iload_n dX5_init_41 rfl 0 rfl ?_
  refine go_new2 tyX6 dX5_init_42 rfl (by decide) gX6 ⟨aw_106, aw_107, aw_57⟩ tyX6_ok (by decide) (by decide) (by decide) (r := 26) rfl (fun _ => rfl) (sh2 := S_51) rfl (k2 := 4) rfl (n2 := 49) rfl ?_
  refine go_dup dX5_init_45 rfl ?_
  refine go_iNcall (Z := Y_X6_init) (host := RX7) (As := []) (S := [.ref 26, .int (0 : Int32), .ref 25]) (r := 26) dX5_init_46 ok_X6_init (fun s H h => h.2.2.2.2.2.1.1) (by decide) rfl rfl (Nat.le_of_ble_eq_true rfl) (c_turn (Q := fun sh' I' v => sh' = S_51 ∧ I' = J_8 ∧ v = none) ⟨rfl, rfl, rfl⟩) (fun _ _ _ hq => ?_)
  obtain ⟨rfl, rfl, rfl⟩ := hq
  show Go G Y_X5_init14 49 [(2, .int (0 : Int32)), (0, .ref 22), (1, .int (14 : Int32))] [.ref 26, .int (0 : Int32), .ref 25] S_51 J_8 4 49 Q
  refine go_aast dX5_init_49 (show S_51[25]? = some (11, 14, [none, none, none, none, none, none, none, none, none, none, none, none, none, none]) from rfl) (Or.inl ⟨rfl, rfl⟩) ⟨by decide, by decide⟩ (show S_51[26]? = some (6, 15, [none, none, none, none, none, none, none, none, none, none, none, none, none, none, none]) from rfl) rfl (by unfold vp_in; decide) (by decide) ?_
  show Go G Y_X5_init14 50 [(2, .int (0 : Int32)), (0, .ref 22), (1, .int (14 : Int32))] [] S_52 J_8 4 49 Q
  refine go_iinc dX5_init_50 0 rfl (v := (1 : Int32)) (by decide) (Nat.le_of_ble_eq_true rfl) (L2 := [(2, .int (1 : Int32)), (0, .ref 22), (1, .int (14 : Int32))]) rfl ?_
  refine go_goto (tgt := 32) dX5_init_53 (by decide) ?_
  refine go_iload_n dX5_init_32 rfl 0 rfl ?_
  refine go_iload_n dX5_init_33 rfl 2 rfl ?_
  refine go_icmp_ge (tgt := 56) dX5_init_34 (by decide) (fun c => absurd c (by decide)) (fun _ => ?_)
  refine go_aload_n dX5_init_37 rfl 1 rfl ?_
  refine go_getR dX5_init_38 (show S_52[22]? = some (5, 4, [some 23, some 24, some 25, none]) from rfl) (by decide) f_X5_22 ⟨Nat.le_of_ble_eq_true rfl, Nat.le_of_ble_eq_true rfl, rfl⟩ rfl ?_
  refine go_iload_n dX5_init_41 rfl 0 rfl ?_
  refine go_new2 tyX6 dX5_init_42 rfl (by decide) gX6 ⟨aw_106, aw_107, aw_57⟩ tyX6_ok (by decide) (by decide) (by decide) (r := 27) rfl (fun _ => rfl) (sh2 := S_53) rfl (k2 := 5) rfl (n2 := 64) rfl ?_
  refine go_dup dX5_init_45 rfl ?_
  refine go_iNcall (Z := Y_X6_init) (host := RX7) (As := []) (S := [.ref 27, .int (1 : Int32), .ref 25]) (r := 27) dX5_init_46 ok_X6_init (fun s H h => h.2.2.2.2.2.1.1) (by decide) rfl rfl (Nat.le_of_ble_eq_true rfl) (c_turn (Q := fun sh' I' v => sh' = S_53 ∧ I' = J_8 ∧ v = none) ⟨rfl, rfl, rfl⟩) (fun _ _ _ hq => ?_)
  obtain ⟨rfl, rfl, rfl⟩ := hq
  show Go G Y_X5_init14 49 [(2, .int (1 : Int32)), (0, .ref 22), (1, .int (14 : Int32))] [.ref 27, .int (1 : Int32), .ref 25] S_53 J_8 5 64 Q
  refine go_aast dX5_init_49 (show S_53[25]? = some (11, 14, [some 26, none, none, none, none, none, none, none, none, none, none, none, none, none]) from rfl) (Or.inl ⟨rfl, rfl⟩) ⟨by decide, by decide⟩ (show S_53[27]? = some (6, 15, [none, none, none, none, none, none, none, none, none, none, none, none, none, none, none]) from rfl) rfl (by unfold vp_in; decide) (by decide) ?_
  show Go G Y_X5_init14 50 [(2, .int (1 : Int32)), (0, .ref 22), (1, .int (14 : Int32))] [] S_54 J_8 5 64 Q
  refine go_iinc dX5_init_50 0 rfl (v := (2 : Int32)) (by decide) (Nat.le_of_ble_eq_true rfl) (L2 := [(2, .int (2 : Int32)), (0, .ref 22), (1, .int (14 : Int32))]) rfl ?_
  refine go_goto (tgt := 32) dX5_init_53 (by decide) ?_
  refine go_iload_n dX5_init_32 rfl 0 rfl ?_
  refine go_iload_n dX5_init_33 rfl 2 rfl ?_
  refine go_icmp_ge (tgt := 56) dX5_init_34 (by decide) (fun c => absurd c (by decide)) (fun _ => ?_)
  refine go_aload_n dX5_init_37 rfl 1 rfl ?_
  refine go_getR dX5_init_38 (show S_54[22]? = some (5, 4, [some 23, some 24, some 25, none]) from rfl) (by decide) f_X5_22 ⟨Nat.le_of_ble_eq_true rfl, Nat.le_of_ble_eq_true rfl, rfl⟩ rfl ?_
  refine go_iload_n dX5_init_41 rfl 0 rfl ?_
  refine go_new2 tyX6 dX5_init_42 rfl (by decide) gX6 ⟨aw_106, aw_107, aw_57⟩ tyX6_ok (by decide) (by decide) (by decide) (r := 28) rfl (fun _ => rfl) (sh2 := S_55) rfl (k2 := 6) rfl (n2 := 79) rfl ?_
  refine go_dup dX5_init_45 rfl ?_
  refine go_iNcall (Z := Y_X6_init) (host := RX7) (As := []) (S := [.ref 28, .int (2 : Int32), .ref 25]) (r := 28) dX5_init_46 ok_X6_init (fun s H h => h.2.2.2.2.2.1.1) (by decide) rfl rfl (Nat.le_of_ble_eq_true rfl) (c_turn (Q := fun sh' I' v => sh' = S_55 ∧ I' = J_8 ∧ v = none) ⟨rfl, rfl, rfl⟩) (fun _ _ _ hq => ?_)
  obtain ⟨rfl, rfl, rfl⟩ := hq
  show Go G Y_X5_init14 49 [(2, .int (2 : Int32)), (0, .ref 22), (1, .int (14 : Int32))] [.ref 28, .int (2 : Int32), .ref 25] S_55 J_8 6 79 Q
  refine go_aast dX5_init_49 (show S_55[25]? = some (11, 14, [some 26, some 27, none, none, none, none, none, none, none, none, none, none, none, none]) from rfl) (Or.inl ⟨rfl, rfl⟩) ⟨by decide, by decide⟩ (show S_55[28]? = some (6, 15, [none, none, none, none, none, none, none, none, none, none, none, none, none, none, none]) from rfl) rfl (by unfold vp_in; decide) (by decide) ?_
  show Go G Y_X5_init14 50 [(2, .int (2 : Int32)), (0, .ref 22), (1, .int (14 : Int32))] [] S_56 J_8 6 79 Q
  refine go_iinc dX5_init_50 0 rfl (v := (3 : Int32)) (by decide) (Nat.le_of_ble_eq_true rfl) (L2 := [(2, .int (3 : Int32)), (0, .ref 22), (1, .int (14 : Int32))]) rfl ?_
  refine go_goto (tgt := 32) dX5_init_53 (by decide) ?_
  refine go_iload_n dX5_init_32 rfl 0 rfl ?_
  refine go_iload_n dX5_init_33 rfl 2 rfl ?_
  refine go_icmp_ge (tgt := 56) dX5_init_34 (by decide) (fun c => absurd c (by decide)) (fun _ => ?_)
  refine go_aload_n dX5_init_37 rfl 1 rfl ?_
  refine go_getR dX5_init_38 (show S_56[22]? = some (5, 4, [some 23, some 24, some 25, none]) from rfl) (by decide) f_X5_22 ⟨Nat.le_of_ble_eq_true rfl, Nat.le_of_ble_eq_true rfl, rfl⟩ rfl ?_
  refine go_iload_n dX5_init_41 rfl 0 rfl ?_
  refine go_new2 tyX6 dX5_init_42 rfl (by decide) gX6 ⟨aw_106, aw_107, aw_57⟩ tyX6_ok (by decide) (by decide) (by decide) (r := 29) rfl (fun _ => rfl) (sh2 := S_57) rfl (k2 := 7) rfl (n2 := 94) rfl ?_
  refine go_dup dX5_init_45 rfl ?_
  refine go_iNcall (Z := Y_X6_init) (host := RX7) (As := []) (S := [.ref 29, .int (3 : Int32), .ref 25]) (r := 29) dX5_init_46 ok_X6_init (fun s H h => h.2.2.2.2.2.1.1) (by decide) rfl rfl (Nat.le_of_ble_eq_true rfl) (c_turn (Q := fun sh' I' v => sh' = S_57 ∧ I' = J_8 ∧ v = none) ⟨rfl, rfl, rfl⟩) (fun _ _ _ hq => ?_)
  obtain ⟨rfl, rfl, rfl⟩ := hq
  show Go G Y_X5_init14 49 [(2, .int (3 : Int32)), (0, .ref 22), (1, .int (14 : Int32))] [.ref 29, .int (3 : Int32), .ref 25] S_57 J_8 7 94 Q
  refine go_aast dX5_init_49 (show S_57[25]? = some (11, 14, [some 26, some 27, some 28, none, none, none, none, none, none, none, none, none, none, none]) from rfl) (Or.inl ⟨rfl, rfl⟩) ⟨by decide, by decide⟩ (show S_57[29]? = some (6, 15, [none, none, none, none, none, none, none, none, none, none, none, none, none, none, none]) from rfl) rfl (by unfold vp_in; decide) (by decide) ?_
  show Go G Y_X5_init14 50 [(2, .int (3 : Int32)), (0, .ref 22), (1, .int (14 : Int32))] [] S_58 J_8 7 94 Q
  refine go_iinc dX5_init_50 0 rfl (v := (4 : Int32)) (by decide) (Nat.le_of_ble_eq_true rfl) (L2 := [(2, .int (4 : Int32)), (0, .ref 22), (1, .int (14 : Int32))]) rfl ?_
  refine go_goto (tgt := 32) dX5_init_53 (by decide) ?_
  refine go_iload_n dX5_init_32 rfl 0 rfl ?_
  refine go_iload_n dX5_init_33 rfl 2 rfl ?_
  refine go_icmp_ge (tgt := 56) dX5_init_34 (by decide) (fun c => absurd c (by decide)) (fun _ => ?_)
  refine go_aload_n dX5_init_37 rfl 1 rfl ?_
  refine go_getR dX5_init_38 (show S_58[22]? = some (5, 4, [some 23, some 24, some 25, none]) from rfl) (by decide) f_X5_22 ⟨Nat.le_of_ble_eq_true rfl, Nat.le_of_ble_eq_true rfl, rfl⟩ rfl ?_
  refine go_iload_n dX5_init_41 rfl 0 rfl ?_
  refine go_new2 tyX6 dX5_init_42 rfl (by decide) gX6 ⟨aw_106, aw_107, aw_57⟩ tyX6_ok (by decide) (by decide) (by decide) (r := 30) rfl (fun _ => rfl) (sh2 := S_59) rfl (k2 := 8) rfl (n2 := 109) rfl ?_
  refine go_dup dX5_init_45 rfl ?_
  refine go_iNcall (Z := Y_X6_init) (host := RX7) (As := []) (S := [.ref 30, .int (4 : Int32), .ref 25]) (r := 30) dX5_init_46 ok_X6_init (fun s H h => h.2.2.2.2.2.1.1) (by decide) rfl rfl (Nat.le_of_ble_eq_true rfl) (c_turn (Q := fun sh' I' v => sh' = S_59 ∧ I' = J_8 ∧ v = none) ⟨rfl, rfl, rfl⟩) (fun _ _ _ hq => ?_)
  obtain ⟨rfl, rfl, rfl⟩ := hq
  show Go G Y_X5_init14 49 [(2, .int (4 : Int32)), (0, .ref 22), (1, .int (14 : Int32))] [.ref 30, .int (4 : Int32), .ref 25] S_59 J_8 8 109 Q
  refine go_aast dX5_init_49 (show S_59[25]? = some (11, 14, [some 26, some 27, some 28, some 29, none, none, none, none, none, none, none, none, none, none]) from rfl) (Or.inl ⟨rfl, rfl⟩) ⟨by decide, by decide⟩ (show S_59[30]? = some (6, 15, [none, none, none, none, none, none, none, none, none, none, none, none, none, none, none]) from rfl) rfl (by unfold vp_in; decide) (by decide) ?_
  show Go G Y_X5_init14 50 [(2, .int (4 : Int32)), (0, .ref 22), (1, .int (14 : Int32))] [] S_60 J_8 8 109 Q
  refine go_iinc dX5_init_50 0 rfl (v := (5 : Int32)) (by decide) (Nat.le_of_ble_eq_true rfl) (L2 := [(2, .int (5 : Int32)), (0, .ref 22), (1, .int (14 : Int32))]) rfl ?_
  refine go_goto (tgt := 32) dX5_init_53 (by decide) ?_
  refine go_iload_n dX5_init_32 rfl 0 rfl ?_
  refine go_iload_n dX5_init_33 rfl 2 rfl ?_
  refine go_icmp_ge (tgt := 56) dX5_init_34 (by decide) (fun c => absurd c (by decide)) (fun _ => ?_)
  refine go_aload_n dX5_init_37 rfl 1 rfl ?_
  refine go_getR dX5_init_38 (show S_60[22]? = some (5, 4, [some 23, some 24, some 25, none]) from rfl) (by decide) f_X5_22 ⟨Nat.le_of_ble_eq_true rfl, Nat.le_of_ble_eq_true rfl, rfl⟩ rfl ?_
  refine go_iload_n dX5_init_41 rfl 0 rfl ?_
  refine go_new2 tyX6 dX5_init_42 rfl (by decide) gX6 ⟨aw_106, aw_107, aw_57⟩ tyX6_ok (by decide) (by decide) (by decide) (r := 31) rfl (fun _ => rfl) (sh2 := S_61) rfl (k2 := 9) rfl (n2 := 124) rfl ?_
  refine go_dup dX5_init_45 rfl ?_
  refine go_iNcall (Z := Y_X6_init) (host := RX7) (As := []) (S := [.ref 31, .int (5 : Int32), .ref 25]) (r := 31) dX5_init_46 ok_X6_init (fun s H h => h.2.2.2.2.2.1.1) (by decide) rfl rfl (Nat.le_of_ble_eq_true rfl) (c_turn (Q := fun sh' I' v => sh' = S_61 ∧ I' = J_8 ∧ v = none) ⟨rfl, rfl, rfl⟩) (fun _ _ _ hq => ?_)
  obtain ⟨rfl, rfl, rfl⟩ := hq
  show Go G Y_X5_init14 49 [(2, .int (5 : Int32)), (0, .ref 22), (1, .int (14 : Int32))] [.ref 31, .int (5 : Int32), .ref 25] S_61 J_8 9 124 Q
  refine go_aast dX5_init_49 (show S_61[25]? = some (11, 14, [some 26, some 27, some 28, some 29, some 30, none, none, none, none, none, none, none, none, none]) from rfl) (Or.inl ⟨rfl, rfl⟩) ⟨by decide, by decide⟩ (show S_61[31]? = some (6, 15, [none, none, none, none, none, none, none, none, none, none, none, none, none, none, none]) from rfl) rfl (by unfold vp_in; decide) (by decide) ?_
  show Go G Y_X5_init14 50 [(2, .int (5 : Int32)), (0, .ref 22), (1, .int (14 : Int32))] [] S_62 J_8 9 124 Q
  refine go_iinc dX5_init_50 0 rfl (v := (6 : Int32)) (by decide) (Nat.le_of_ble_eq_true rfl) (L2 := [(2, .int (6 : Int32)), (0, .ref 22), (1, .int (14 : Int32))]) rfl ?_
  refine go_goto (tgt := 32) dX5_init_53 (by decide) ?_
  refine go_iload_n dX5_init_32 rfl 0 rfl ?_
  refine go_iload_n dX5_init_33 rfl 2 rfl ?_
  refine go_icmp_ge (tgt := 56) dX5_init_34 (by decide) (fun c => absurd c (by decide)) (fun _ => ?_)
  refine go_aload_n dX5_init_37 rfl 1 rfl ?_
  refine go_getR dX5_init_38 (show S_62[22]? = some (5, 4, [some 23, some 24, some 25, none]) from rfl) (by decide) f_X5_22 ⟨Nat.le_of_ble_eq_true rfl, Nat.le_of_ble_eq_true rfl, rfl⟩ rfl ?_
  refine go_iload_n dX5_init_41 rfl 0 rfl ?_
  refine go_new2 tyX6 dX5_init_42 rfl (by decide) gX6 ⟨aw_106, aw_107, aw_57⟩ tyX6_ok (by decide) (by decide) (by decide) (r := 32) rfl (fun _ => rfl) (sh2 := S_63) rfl (k2 := 10) rfl (n2 := 139) rfl ?_
  refine go_dup dX5_init_45 rfl ?_
  refine go_iNcall (Z := Y_X6_init) (host := RX7) (As := []) (S := [.ref 32, .int (6 : Int32), .ref 25]) (r := 32) dX5_init_46 ok_X6_init (fun s H h => h.2.2.2.2.2.1.1) (by decide) rfl rfl (Nat.le_of_ble_eq_true rfl) (c_turn (Q := fun sh' I' v => sh' = S_63 ∧ I' = J_8 ∧ v = none) ⟨rfl, rfl, rfl⟩) (fun _ _ _ hq => ?_)
  obtain ⟨rfl, rfl, rfl⟩ := hq
  show Go G Y_X5_init14 49 [(2, .int (6 : Int32)), (0, .ref 22), (1, .int (14 : Int32))] [.ref 32, .int (6 : Int32), .ref 25] S_63 J_8 10 139 Q
  refine go_aast dX5_init_49 (show S_63[25]? = some (11, 14, [some 26, some 27, some 28, some 29, some 30, some 31, none, none, none, none, none, none, none, none]) from rfl) (Or.inl ⟨rfl, rfl⟩) ⟨by decide, by decide⟩ (show S_63[32]? = some (6, 15, [none, none, none, none, none, none, none, none, none, none, none, none, none, none, none]) from rfl) rfl (by unfold vp_in; decide) (by decide) ?_
  show Go G Y_X5_init14 50 [(2, .int (6 : Int32)), (0, .ref 22), (1, .int (14 : Int32))] [] S_64 J_8 10 139 Q
  refine go_iinc dX5_init_50 0 rfl (v := (7 : Int32)) (by decide) (Nat.le_of_ble_eq_true rfl) (L2 := [(2, .int (7 : Int32)), (0, .ref 22), (1, .int (14 : Int32))]) rfl ?_
  refine go_goto (tgt := 32) dX5_init_53 (by decide) ?_
  refine go_iload_n dX5_init_32 rfl 0 rfl ?_
  refine go_iload_n dX5_init_33 rfl 2 rfl ?_
  refine go_icmp_ge (tgt := 56) dX5_init_34 (by decide) (fun c => absurd c (by decide)) (fun _ => ?_)
  refine go_aload_n dX5_init_37 rfl 1 rfl ?_
  refine go_getR dX5_init_38 (show S_64[22]? = some (5, 4, [some 23, some 24, some 25, none]) from rfl) (by decide) f_X5_22 ⟨Nat.le_of_ble_eq_true rfl, Nat.le_of_ble_eq_true rfl, rfl⟩ rfl ?_
  refine go_iload_n dX5_init_41 rfl 0 rfl ?_
  refine go_new2 tyX6 dX5_init_42 rfl (by decide) gX6 ⟨aw_106, aw_107, aw_57⟩ tyX6_ok (by decide) (by decide) (by decide) (r := 33) rfl (fun _ => rfl) (sh2 := S_65) rfl (k2 := 11) rfl (n2 := 154) rfl ?_
  refine go_dup dX5_init_45 rfl ?_
  refine go_iNcall (Z := Y_X6_init) (host := RX7) (As := []) (S := [.ref 33, .int (7 : Int32), .ref 25]) (r := 33) dX5_init_46 ok_X6_init (fun s H h => h.2.2.2.2.2.1.1) (by decide) rfl rfl (Nat.le_of_ble_eq_true rfl) (c_turn (Q := fun sh' I' v => sh' = S_65 ∧ I' = J_8 ∧ v = none) ⟨rfl, rfl, rfl⟩) (fun _ _ _ hq => ?_)
  obtain ⟨rfl, rfl, rfl⟩ := hq
  show Go G Y_X5_init14 49 [(2, .int (7 : Int32)), (0, .ref 22), (1, .int (14 : Int32))] [.ref 33, .int (7 : Int32), .ref 25] S_65 J_8 11 154 Q
  refine go_aast dX5_init_49 (show S_65[25]? = some (11, 14, [some 26, some 27, some 28, some 29, some 30, some 31, some 32, none, none, none, none, none, none, none]) from rfl) (Or.inl ⟨rfl, rfl⟩) ⟨by decide, by decide⟩ (show S_65[33]? = some (6, 15, [none, none, none, none, none, none, none, none, none, none, none, none, none, none, none]) from rfl) rfl (by unfold vp_in; decide) (by decide) ?_
  show Go G Y_X5_init14 50 [(2, .int (7 : Int32)), (0, .ref 22), (1, .int (14 : Int32))] [] S_66 J_8 11 154 Q
  refine go_iinc dX5_init_50 0 rfl (v := (8 : Int32)) (by decide) (Nat.le_of_ble_eq_true rfl) (L2 := [(2, .int (8 : Int32)), (0, .ref 22), (1, .int (14 : Int32))]) rfl ?_
  refine go_goto (tgt := 32) dX5_init_53 (by decide) ?_
  refine go_iload_n dX5_init_32 rfl 0 rfl ?_
  refine go_iload_n dX5_init_33 rfl 2 rfl ?_
  refine go_icmp_ge (tgt := 56) dX5_init_34 (by decide) (fun c => absurd c (by decide)) (fun _ => ?_)
  refine go_aload_n dX5_init_37 rfl 1 rfl ?_
  refine go_getR dX5_init_38 (show S_66[22]? = some (5, 4, [some 23, some 24, some 25, none]) from rfl) (by decide) f_X5_22 ⟨Nat.le_of_ble_eq_true rfl, Nat.le_of_ble_eq_true rfl, rfl⟩ rfl ?_
  refine go_iload_n dX5_init_41 rfl 0 rfl ?_
  refine go_new2 tyX6 dX5_init_42 rfl (by decide) gX6 ⟨aw_106, aw_107, aw_57⟩ tyX6_ok (by decide) (by decide) (by decide) (r := 34) rfl (fun _ => rfl) (sh2 := S_67) rfl (k2 := 12) rfl (n2 := 169) rfl ?_
  refine go_dup dX5_init_45 rfl ?_
  refine go_iNcall (Z := Y_X6_init) (host := RX7) (As := []) (S := [.ref 34, .int (8 : Int32), .ref 25]) (r := 34) dX5_init_46 ok_X6_init (fun s H h => h.2.2.2.2.2.1.1) (by decide) rfl rfl (Nat.le_of_ble_eq_true rfl) (c_turn (Q := fun sh' I' v => sh' = S_67 ∧ I' = J_8 ∧ v = none) ⟨rfl, rfl, rfl⟩) (fun _ _ _ hq => ?_)
  obtain ⟨rfl, rfl, rfl⟩ := hq
  show Go G Y_X5_init14 49 [(2, .int (8 : Int32)), (0, .ref 22), (1, .int (14 : Int32))] [.ref 34, .int (8 : Int32), .ref 25] S_67 J_8 12 169 Q
  refine go_aast dX5_init_49 (show S_67[25]? = some (11, 14, [some 26, some 27, some 28, some 29, some 30, some 31, some 32, some 33, none, none, none, none, none, none]) from rfl) (Or.inl ⟨rfl, rfl⟩) ⟨by decide, by decide⟩ (show S_67[34]? = some (6, 15, [none, none, none, none, none, none, none, none, none, none, none, none, none, none, none]) from rfl) rfl (by unfold vp_in; decide) (by decide) ?_
  show Go G Y_X5_init14 50 [(2, .int (8 : Int32)), (0, .ref 22), (1, .int (14 : Int32))] [] S_68 J_8 12 169 Q
  refine go_iinc dX5_init_50 0 rfl (v := (9 : Int32)) (by decide) (Nat.le_of_ble_eq_true rfl) (L2 := [(2, .int (9 : Int32)), (0, .ref 22), (1, .int (14 : Int32))]) rfl ?_
  refine go_goto (tgt := 32) dX5_init_53 (by decide) ?_
  refine go_iload_n dX5_init_32 rfl 0 rfl ?_
  refine go_iload_n dX5_init_33 rfl 2 rfl ?_
  refine go_icmp_ge (tgt := 56) dX5_init_34 (by decide) (fun c => absurd c (by decide)) (fun _ => ?_)
  refine go_aload_n dX5_init_37 rfl 1 rfl ?_
  refine go_getR dX5_init_38 (show S_68[22]? = some (5, 4, [some 23, some 24, some 25, none]) from rfl) (by decide) f_X5_22 ⟨Nat.le_of_ble_eq_true rfl, Nat.le_of_ble_eq_true rfl, rfl⟩ rfl ?_
  refine go_iload_n dX5_init_41 rfl 0 rfl ?_
  refine go_new2 tyX6 dX5_init_42 rfl (by decide) gX6 ⟨aw_106, aw_107, aw_57⟩ tyX6_ok (by decide) (by decide) (by decide) (r := 35) rfl (fun _ => rfl) (sh2 := S_69) rfl (k2 := 13) rfl (n2 := 184) rfl ?_
  refine go_dup dX5_init_45 rfl ?_
  refine go_iNcall (Z := Y_X6_init) (host := RX7) (As := []) (S := [.ref 35, .int (9 : Int32), .ref 25]) (r := 35) dX5_init_46 ok_X6_init (fun s H h => h.2.2.2.2.2.1.1) (by decide) rfl rfl (Nat.le_of_ble_eq_true rfl) (c_turn (Q := fun sh' I' v => sh' = S_69 ∧ I' = J_8 ∧ v = none) ⟨rfl, rfl, rfl⟩) (fun _ _ _ hq => ?_)
  obtain ⟨rfl, rfl, rfl⟩ := hq
  show Go G Y_X5_init14 49 [(2, .int (9 : Int32)), (0, .ref 22), (1, .int (14 : Int32))] [.ref 35, .int (9 : Int32), .ref 25] S_69 J_8 13 184 Q
  refine go_aast dX5_init_49 (show S_69[25]? = some (11, 14, [some 26, some 27, some 28, some 29, some 30, some 31, some 32, some 33, some 34, none, none, none, none, none]) from rfl) (Or.inl ⟨rfl, rfl⟩) ⟨by decide, by decide⟩ (show S_69[35]? = some (6, 15, [none, none, none, none, none, none, none, none, none, none, none, none, none, none, none]) from rfl) rfl (by unfold vp_in; decide) (by decide) ?_
  show Go G Y_X5_init14 50 [(2, .int (9 : Int32)), (0, .ref 22), (1, .int (14 : Int32))] [] S_70 J_8 13 184 Q
  refine go_iinc dX5_init_50 0 rfl (v := (10 : Int32)) (by decide) (Nat.le_of_ble_eq_true rfl) (L2 := [(2, .int (10 : Int32)), (0, .ref 22), (1, .int (14 : Int32))]) rfl ?_
  refine go_goto (tgt := 32) dX5_init_53 (by decide) ?_
  refine go_iload_n dX5_init_32 rfl 0 rfl ?_
  refine go_iload_n dX5_init_33 rfl 2 rfl ?_
  refine go_icmp_ge (tgt := 56) dX5_init_34 (by decide) (fun c => absurd c (by decide)) (fun _ => ?_)
  refine go_aload_n dX5_init_37 rfl 1 rfl ?_
  refine go_getR dX5_init_38 (show S_70[22]? = some (5, 4, [some 23, some 24, some 25, none]) from rfl) (by decide) f_X5_22 ⟨Nat.le_of_ble_eq_true rfl, Nat.le_of_ble_eq_true rfl, rfl⟩ rfl ?_
  refine go_iload_n dX5_init_41 rfl 0 rfl ?_
  refine go_new2 tyX6 dX5_init_42 rfl (by decide) gX6 ⟨aw_106, aw_107, aw_57⟩ tyX6_ok (by decide) (by decide) (by decide) (r := 36) rfl (fun _ => rfl) (sh2 := S_71) rfl (k2 := 14) rfl (n2 := 199) rfl ?_
  refine go_dup dX5_init_45 rfl ?_
  refine go_iNcall (Z := Y_X6_init) (host := RX7) (As := []) (S := [.ref 36, .int (10 : Int32), .ref 25]) (r := 36) dX5_init_46 ok_X6_init (fun s H h => h.2.2.2.2.2.1.1) (by decide) rfl rfl (Nat.le_of_ble_eq_true rfl) (c_turn (Q := fun sh' I' v => sh' = S_71 ∧ I' = J_8 ∧ v = none) ⟨rfl, rfl, rfl⟩) (fun _ _ _ hq => ?_)
  obtain ⟨rfl, rfl, rfl⟩ := hq
  show Go G Y_X5_init14 49 [(2, .int (10 : Int32)), (0, .ref 22), (1, .int (14 : Int32))] [.ref 36, .int (10 : Int32), .ref 25] S_71 J_8 14 199 Q
  refine go_aast dX5_init_49 (show S_71[25]? = some (11, 14, [some 26, some 27, some 28, some 29, some 30, some 31, some 32, some 33, some 34, some 35, none, none, none, none]) from rfl) (Or.inl ⟨rfl, rfl⟩) ⟨by decide, by decide⟩ (show S_71[36]? = some (6, 15, [none, none, none, none, none, none, none, none, none, none, none, none, none, none, none]) from rfl) rfl (by unfold vp_in; decide) (by decide) ?_
  show Go G Y_X5_init14 50 [(2, .int (10 : Int32)), (0, .ref 22), (1, .int (14 : Int32))] [] S_72 J_8 14 199 Q
  refine go_iinc dX5_init_50 0 rfl (v := (11 : Int32)) (by decide) (Nat.le_of_ble_eq_true rfl) (L2 := [(2, .int (11 : Int32)), (0, .ref 22), (1, .int (14 : Int32))]) rfl ?_
  refine go_goto (tgt := 32) dX5_init_53 (by decide) ?_
  refine go_iload_n dX5_init_32 rfl 0 rfl ?_
  refine go_iload_n dX5_init_33 rfl 2 rfl ?_
  refine go_icmp_ge (tgt := 56) dX5_init_34 (by decide) (fun c => absurd c (by decide)) (fun _ => ?_)
  refine go_aload_n dX5_init_37 rfl 1 rfl ?_
  refine go_getR dX5_init_38 (show S_72[22]? = some (5, 4, [some 23, some 24, some 25, none]) from rfl) (by decide) f_X5_22 ⟨Nat.le_of_ble_eq_true rfl, Nat.le_of_ble_eq_true rfl, rfl⟩ rfl ?_
  refine go_iload_n dX5_init_41 rfl 0 rfl ?_
  refine go_new2 tyX6 dX5_init_42 rfl (by decide) gX6 ⟨aw_106, aw_107, aw_57⟩ tyX6_ok (by decide) (by decide) (by decide) (r := 37) rfl (fun _ => rfl) (sh2 := S_73) rfl (k2 := 15) rfl (n2 := 214) rfl ?_
  refine go_dup dX5_init_45 rfl ?_
  refine go_iNcall (Z := Y_X6_init) (host := RX7) (As := []) (S := [.ref 37, .int (11 : Int32), .ref 25]) (r := 37) dX5_init_46 ok_X6_init (fun s H h => h.2.2.2.2.2.1.1) (by decide) rfl rfl (Nat.le_of_ble_eq_true rfl) (c_turn (Q := fun sh' I' v => sh' = S_73 ∧ I' = J_8 ∧ v = none) ⟨rfl, rfl, rfl⟩) (fun _ _ _ hq => ?_)
  obtain ⟨rfl, rfl, rfl⟩ := hq
  show Go G Y_X5_init14 49 [(2, .int (11 : Int32)), (0, .ref 22), (1, .int (14 : Int32))] [.ref 37, .int (11 : Int32), .ref 25] S_73 J_8 15 214 Q
  refine go_aast dX5_init_49 (show S_73[25]? = some (11, 14, [some 26, some 27, some 28, some 29, some 30, some 31, some 32, some 33, some 34, some 35, some 36, none, none, none]) from rfl) (Or.inl ⟨rfl, rfl⟩) ⟨by decide, by decide⟩ (show S_73[37]? = some (6, 15, [none, none, none, none, none, none, none, none, none, none, none, none, none, none, none]) from rfl) rfl (by unfold vp_in; decide) (by decide) ?_
  show Go G Y_X5_init14 50 [(2, .int (11 : Int32)), (0, .ref 22), (1, .int (14 : Int32))] [] S_74 J_8 15 214 Q
  refine go_iinc dX5_init_50 0 rfl (v := (12 : Int32)) (by decide) (Nat.le_of_ble_eq_true rfl) (L2 := [(2, .int (12 : Int32)), (0, .ref 22), (1, .int (14 : Int32))]) rfl ?_
  refine go_goto (tgt := 32) dX5_init_53 (by decide) ?_
  refine go_iload_n dX5_init_32 rfl 0 rfl ?_
  refine go_iload_n dX5_init_33 rfl 2 rfl ?_
  refine go_icmp_ge (tgt := 56) dX5_init_34 (by decide) (fun c => absurd c (by decide)) (fun _ => ?_)
  refine go_aload_n dX5_init_37 rfl 1 rfl ?_
  refine go_getR dX5_init_38 (show S_74[22]? = some (5, 4, [some 23, some 24, some 25, none]) from rfl) (by decide) f_X5_22 ⟨Nat.le_of_ble_eq_true rfl, Nat.le_of_ble_eq_true rfl, rfl⟩ rfl ?_
  refine go_iload_n dX5_init_41 rfl 0 rfl ?_
  refine go_new2 tyX6 dX5_init_42 rfl (by decide) gX6 ⟨aw_106, aw_107, aw_57⟩ tyX6_ok (by decide) (by decide) (by decide) (r := 38) rfl (fun _ => rfl) (sh2 := S_75) rfl (k2 := 16) rfl (n2 := 229) rfl ?_
  refine go_dup dX5_init_45 rfl ?_
  refine go_iNcall (Z := Y_X6_init) (host := RX7) (As := []) (S := [.ref 38, .int (12 : Int32), .ref 25]) (r := 38) dX5_init_46 ok_X6_init (fun s H h => h.2.2.2.2.2.1.1) (by decide) rfl rfl (Nat.le_of_ble_eq_true rfl) (c_turn (Q := fun sh' I' v => sh' = S_75 ∧ I' = J_8 ∧ v = none) ⟨rfl, rfl, rfl⟩) (fun _ _ _ hq => ?_)
  obtain ⟨rfl, rfl, rfl⟩ := hq
  show Go G Y_X5_init14 49 [(2, .int (12 : Int32)), (0, .ref 22), (1, .int (14 : Int32))] [.ref 38, .int (12 : Int32), .ref 25] S_75 J_8 16 229 Q
  refine go_aast dX5_init_49 (show S_75[25]? = some (11, 14, [some 26, some 27, some 28, some 29, some 30, some 31, some 32, some 33, some 34, some 35, some 36, some 37, none, none]) from rfl) (Or.inl ⟨rfl, rfl⟩) ⟨by decide, by decide⟩ (show S_75[38]? = some (6, 15, [none, none, none, none, none, none, none, none, none, none, none, none, none, none, none]) from rfl) rfl (by unfold vp_in; decide) (by decide) ?_
  show Go G Y_X5_init14 50 [(2, .int (12 : Int32)), (0, .ref 22), (1, .int (14 : Int32))] [] S_76 J_8 16 229 Q
  refine go_iinc dX5_init_50 0 rfl (v := (13 : Int32)) (by decide) (Nat.le_of_ble_eq_true rfl) (L2 := [(2, .int (13 : Int32)), (0, .ref 22), (1, .int (14 : Int32))]) rfl ?_
  refine go_goto (tgt := 32) dX5_init_53 (by decide) ?_
  refine go_iload_n dX5_init_32 rfl 0 rfl ?_
  refine go_iload_n dX5_init_33 rfl 2 rfl ?_
  refine go_icmp_ge (tgt := 56) dX5_init_34 (by decide) (fun c => absurd c (by decide)) (fun _ => ?_)
  refine go_aload_n dX5_init_37 rfl 1 rfl ?_
  refine go_getR dX5_init_38 (show S_76[22]? = some (5, 4, [some 23, some 24, some 25, none]) from rfl) (by decide) f_X5_22 ⟨Nat.le_of_ble_eq_true rfl, Nat.le_of_ble_eq_true rfl, rfl⟩ rfl ?_
  refine go_iload_n dX5_init_41 rfl 0 rfl ?_
  refine go_new2 tyX6 dX5_init_42 rfl (by decide) gX6 ⟨aw_106, aw_107, aw_57⟩ tyX6_ok (by decide) (by decide) (by decide) (r := 39) rfl (fun _ => rfl) (sh2 := S_77) rfl (k2 := 17) rfl (n2 := 244) rfl ?_
  refine go_dup dX5_init_45 rfl ?_
  refine go_iNcall (Z := Y_X6_init) (host := RX7) (As := []) (S := [.ref 39, .int (13 : Int32), .ref 25]) (r := 39) dX5_init_46 ok_X6_init (fun s H h => h.2.2.2.2.2.1.1) (by decide) rfl rfl (Nat.le_of_ble_eq_true rfl) (c_turn (Q := fun sh' I' v => sh' = S_77 ∧ I' = J_8 ∧ v = none) ⟨rfl, rfl, rfl⟩) (fun _ _ _ hq => ?_)
  obtain ⟨rfl, rfl, rfl⟩ := hq
  show Go G Y_X5_init14 49 [(2, .int (13 : Int32)), (0, .ref 22), (1, .int (14 : Int32))] [.ref 39, .int (13 : Int32), .ref 25] S_77 J_8 17 244 Q
  refine go_aast dX5_init_49 (show S_77[25]? = some (11, 14, [some 26, some 27, some 28, some 29, some 30, some 31, some 32, some 33, some 34, some 35, some 36, some 37, some 38, none]) from rfl) (Or.inl ⟨rfl, rfl⟩) ⟨by decide, by decide⟩ (show S_77[39]? = some (6, 15, [none, none, none, none, none, none, none, none, none, none, none, none, none, none, none]) from rfl) rfl (by unfold vp_in; decide) (by decide) ?_
  show Go G Y_X5_init14 50 [(2, .int (13 : Int32)), (0, .ref 22), (1, .int (14 : Int32))] [] S_78 J_8 17 244 Q
  refine go_iinc dX5_init_50 0 rfl (v := (14 : Int32)) (by decide) (Nat.le_of_ble_eq_true rfl) (L2 := [(2, .int (14 : Int32)), (0, .ref 22), (1, .int (14 : Int32))]) rfl ?_
  refine go_goto (tgt := 32) dX5_init_53 (by decide) ?_
  refine go_iload_n dX5_init_32 rfl 0 rfl ?_
  refine go_iload_n dX5_init_33 rfl 2 rfl ?_
  refine go_icmp_ge (tgt := 56) dX5_init_34 (by decide) (fun _ => ?_) (fun c => absurd (by decide) c)
  exact go_vret dX5_init_56 rfl rfl (by decide) h
set_option maxRecDepth 100000 in
set_option maxHeartbeats 4000000 in
theorem c_X1_init_5 {G : CX} {Q : Sh → HP → Option Value → Prop} (h : Q S_86 J_8 none) : Ret G Y_X1_init [.ref 40, .ref 22, .ref 2, .ref 4, .ref 1] S_80 J_8 Q := by
  refine ret_of (show plainName RX1 = true by decide) (Nat.le_of_ble_eq_true rfl) ?_
  show Go G Y_X1_init 0 [(0, .ref 40), (1, .ref 22), (2, .ref 2), (3, .ref 4), (4, .ref 1)] [] S_80 J_8 0 0 Q
  refine go_aload_n dX1_init_0 rfl 0 rfl ?_
  refine go_oinit dX1_init_1 ⟨l_X1_3, bt_obj⟩ (by decide) (Nat.le_of_ble_eq_true rfl) ?_
  refine go_aload_n dX1_init_4 rfl 0 rfl ?_
  refine go_bipush dX1_init_5 (v := (6 : Int32)) (by decide) ?_
  refine go_newI2 dX1_init_7 aw_99 ⟨by decide, by decide, by decide⟩ (by decide) (by decide) (r := 41) rfl (fun _ => rfl) (sh2 := S_81) rfl (k2 := 1) rfl (n2 := 6) rfl ?_
  refine go_putR dX1_init_9 (show S_81[40]? = some (1, 5, [none, none, none, none, none]) from rfl) (by decide) p_X1_11 ⟨Nat.le_of_ble_eq_true rfl, Nat.le_of_ble_eq_true rfl, rfl, Nat.le_of_ble_eq_true rfl⟩ rfl (fun _ => ⟨rfl, rfl⟩) ?_
  show Go G Y_X1_init 12 [(0, .ref 40), (1, .ref 22), (2, .ref 2), (3, .ref 4), (4, .ref 1)] [] S_82 J_8 1 6 Q
  refine go_aload_n dX1_init_12 rfl 0 rfl ?_
  refine go_aload_n dX1_init_13 rfl 1 rfl ?_
  refine go_putR dX1_init_14 (show S_82[40]? = some (1, 5, [none, none, none, none, some 41]) from rfl) (by decide) p_X1_15 ⟨Nat.le_of_ble_eq_true rfl, Nat.le_of_ble_eq_true rfl, rfl, Nat.le_of_ble_eq_true rfl⟩ rfl (fun _ => ⟨rfl, rfl⟩) ?_
  show Go G Y_X1_init 17 [(0, .ref 40), (1, .ref 22), (2, .ref 2), (3, .ref 4), (4, .ref 1)] [] S_83 J_8 1 6 Q
  refine go_aload_n dX1_init_17 rfl 0 rfl ?_
  refine go_aload_n dX1_init_18 rfl 2 rfl ?_
  refine go_putR dX1_init_19 (show S_83[40]? = some (1, 5, [some 22, none, none, none, some 41]) from rfl) (by decide) p_X1_19 ⟨Nat.le_of_ble_eq_true rfl, Nat.le_of_ble_eq_true rfl, rfl, Nat.le_of_ble_eq_true rfl⟩ rfl (fun _ => ⟨rfl, rfl⟩) ?_
  show Go G Y_X1_init 22 [(0, .ref 40), (1, .ref 22), (2, .ref 2), (3, .ref 4), (4, .ref 1)] [] S_84 J_8 1 6 Q
  refine go_aload_n dX1_init_22 rfl 0 rfl ?_
  refine go_aload_n dX1_init_23 rfl 3 rfl ?_
  refine go_putR dX1_init_24 (show S_84[40]? = some (1, 5, [some 22, some 2, none, none, some 41]) from rfl) (by decide) p_X1_23 ⟨Nat.le_of_ble_eq_true rfl, Nat.le_of_ble_eq_true rfl, rfl, Nat.le_of_ble_eq_true rfl⟩ rfl (fun _ => ⟨rfl, rfl⟩) ?_
  show Go G Y_X1_init 27 [(0, .ref 40), (1, .ref 22), (2, .ref 2), (3, .ref 4), (4, .ref 1)] [] S_85 J_8 1 6 Q
  refine go_aload_n dX1_init_27 rfl 0 rfl ?_
  refine go_aload dX1_init_28 4 rfl ?_
  refine go_putR dX1_init_30 (show S_85[40]? = some (1, 5, [some 22, some 2, some 4, none, some 41]) from rfl) (by decide) p_X1_26 ⟨Nat.le_of_ble_eq_true rfl, Nat.le_of_ble_eq_true rfl, rfl, Nat.le_of_ble_eq_true rfl⟩ rfl (fun _ => ⟨rfl, rfl⟩) ?_
  show Go G Y_X1_init 33 [(0, .ref 40), (1, .ref 22), (2, .ref 2), (3, .ref 4), (4, .ref 1)] [] S_86 J_8 1 6 Q
  exact go_vret dX1_init_33 rfl rfl (by decide) h
set_option maxRecDepth 100000 in
set_option maxHeartbeats 4000000 in
theorem c_X0_init_6 {G : CX} {Q : Sh → HP → Option Value → Prop} (h : Q S_97 J_8 none) : Ret G Y_X0_init [.ref 42, .ref 22, .ref 2, .ref 1] S_88 J_8 Q := by
  refine ret_of (show plainName RX0 = true by decide) (Nat.le_of_ble_eq_true rfl) ?_
  show Go G Y_X0_init 0 [(0, .ref 42), (1, .ref 22), (2, .ref 2), (3, .ref 1)] [] S_88 J_8 0 0 Q
  refine go_aload_n dX0_init_0 rfl 0 rfl ?_
  refine go_oinit dX0_init_1 ⟨l_X0_3, bt_obj⟩ (by decide) (Nat.le_of_ble_eq_true rfl) ?_
  refine go_aload_n dX0_init_4 rfl 0 rfl ?_
  refine go_bipush dX0_init_5 (v := (7 : Int32)) (by decide) ?_
  refine go_newI2 dX0_init_7 aw_99 ⟨by decide, by decide, by decide⟩ (by decide) (by decide) (r := 43) rfl (fun _ => rfl) (sh2 := S_89) rfl (k2 := 1) rfl (n2 := 7) rfl ?_
  refine go_putR dX0_init_9 (show S_89[42]? = some (0, 9, [none, none, none, none, none, none, none, none, none]) from rfl) (by decide) p_X0_11 ⟨Nat.le_of_ble_eq_true rfl, Nat.le_of_ble_eq_true rfl, rfl, Nat.le_of_ble_eq_true rfl⟩ rfl (fun _ => ⟨rfl, rfl⟩) ?_
  show Go G Y_X0_init 12 [(0, .ref 42), (1, .ref 22), (2, .ref 2), (3, .ref 1)] [] S_90 J_8 1 7 Q
  refine go_aload_n dX0_init_12 rfl 0 rfl ?_
  refine go_bipush dX0_init_13 (v := (7 : Int32)) (by decide) ?_
  refine go_newI2 dX0_init_15 aw_99 ⟨by decide, by decide, by decide⟩ (by decide) (by decide) (r := 44) rfl (fun _ => rfl) (sh2 := S_91) rfl (k2 := 2) rfl (n2 := 14) rfl ?_
  refine go_putR dX0_init_17 (show S_91[42]? = some (0, 9, [none, none, none, some 43, none, none, none, none, none]) from rfl) (by decide) p_X0_15 ⟨Nat.le_of_ble_eq_true rfl, Nat.le_of_ble_eq_true rfl, rfl, Nat.le_of_ble_eq_true rfl⟩ rfl (fun _ => ⟨rfl, rfl⟩) ?_
  show Go G Y_X0_init 20 [(0, .ref 42), (1, .ref 22), (2, .ref 2), (3, .ref 1)] [] S_92 J_8 2 14 Q
  refine go_aload_n dX0_init_20 rfl 0 rfl ?_
  refine go_bipush dX0_init_21 (v := (7 : Int32)) (by decide) ?_
  refine go_newZ2 dX0_init_23 aw_258 ⟨by decide, by decide, by decide⟩ (by decide) (by decide) (r := 45) rfl (fun _ => rfl) (sh2 := S_93) rfl (k2 := 3) rfl (n2 := 21) rfl ?_
  refine go_putR dX0_init_25 (show S_93[42]? = some (0, 9, [none, none, none, some 43, some 44, none, none, none, none]) from rfl) (by decide) p_X0_18 ⟨Nat.le_of_ble_eq_true rfl, Nat.le_of_ble_eq_true rfl, rfl, Nat.le_of_ble_eq_true rfl⟩ rfl (fun _ => ⟨rfl, rfl⟩) ?_
  show Go G Y_X0_init 28 [(0, .ref 42), (1, .ref 22), (2, .ref 2), (3, .ref 1)] [] S_94 J_8 3 21 Q
  refine go_aload_n dX0_init_28 rfl 0 rfl ?_
  refine go_aload_n dX0_init_29 rfl 1 rfl ?_
  refine go_putR dX0_init_30 (show S_94[42]? = some (0, 9, [none, none, none, some 43, some 44, some 45, none, none, none]) from rfl) (by decide) p_X0_22 ⟨Nat.le_of_ble_eq_true rfl, Nat.le_of_ble_eq_true rfl, rfl, Nat.le_of_ble_eq_true rfl⟩ rfl (fun _ => ⟨rfl, rfl⟩) ?_
  show Go G Y_X0_init 33 [(0, .ref 42), (1, .ref 22), (2, .ref 2), (3, .ref 1)] [] S_95 J_8 3 21 Q
  refine go_aload_n dX0_init_33 rfl 0 rfl ?_
  refine go_aload_n dX0_init_34 rfl 2 rfl ?_
  refine go_putR dX0_init_35 (show S_95[42]? = some (0, 9, [some 22, none, none, some 43, some 44, some 45, none, none, none]) from rfl) (by decide) p_X0_26 ⟨Nat.le_of_ble_eq_true rfl, Nat.le_of_ble_eq_true rfl, rfl, Nat.le_of_ble_eq_true rfl⟩ rfl (fun _ => ⟨rfl, rfl⟩) ?_
  show Go G Y_X0_init 38 [(0, .ref 42), (1, .ref 22), (2, .ref 2), (3, .ref 1)] [] S_96 J_8 3 21 Q
  refine go_aload_n dX0_init_38 rfl 0 rfl ?_
  refine go_aload_n dX0_init_39 rfl 3 rfl ?_
  refine go_putR dX0_init_40 (show S_96[42]? = some (0, 9, [some 22, some 2, none, some 43, some 44, some 45, none, none, none]) from rfl) (by decide) p_X0_30 ⟨Nat.le_of_ble_eq_true rfl, Nat.le_of_ble_eq_true rfl, rfl, Nat.le_of_ble_eq_true rfl⟩ rfl (fun _ => ⟨rfl, rfl⟩) ?_
  show Go G Y_X0_init 43 [(0, .ref 42), (1, .ref 22), (2, .ref 2), (3, .ref 1)] [] S_97 J_8 3 21 Q
  exact go_vret dX0_init_43 rfl rfl (by decide) h
set_option maxRecDepth 100000 in
set_option maxHeartbeats 4000000 in
theorem c_X4_init_7 {G : CX} {Q : Sh → HP → Option Value → Prop} (h : Q S_103 J_8 none) : Ret G Y_X4_init [.ref 46] S_99 J_8 Q := by
  refine ret_of (show plainName RX4 = true by decide) (Nat.le_of_ble_eq_true rfl) ?_
  show Go G Y_X4_init 0 [(0, .ref 46)] [] S_99 J_8 0 0 Q
  refine go_aload_n dX4_init_0 rfl 0 rfl ?_
  refine go_oinit dX4_init_1 ⟨l_X4_3, bt_obj⟩ (by decide) (Nat.le_of_ble_eq_true rfl) ?_
  refine go_aload_n dX4_init_4 rfl 0 rfl ?_
  refine go_bipush dX4_init_5 (v := (8 : Int32)) (by decide) ?_
  refine go_newI2 dX4_init_7 aw_99 ⟨by decide, by decide, by decide⟩ (by decide) (by decide) (r := 47) rfl (fun _ => rfl) (sh2 := S_100) rfl (k2 := 1) rfl (n2 := 8) rfl ?_
  refine go_putR dX4_init_9 (show S_100[46]? = some (4, 3, [none, none, none]) from rfl) (by decide) p_X4_11 ⟨Nat.le_of_ble_eq_true rfl, Nat.le_of_ble_eq_true rfl, rfl, Nat.le_of_ble_eq_true rfl⟩ rfl (fun _ => ⟨rfl, rfl⟩) ?_
  show Go G Y_X4_init 12 [(0, .ref 46)] [] S_101 J_8 1 8 Q
  refine go_aload_n dX4_init_12 rfl 0 rfl ?_
  refine go_bipush dX4_init_13 (v := (8 : Int32)) (by decide) ?_
  refine go_newI2 dX4_init_15 aw_99 ⟨by decide, by decide, by decide⟩ (by decide) (by decide) (r := 48) rfl (fun _ => rfl) (sh2 := S_102) rfl (k2 := 2) rfl (n2 := 16) rfl ?_
  refine go_putR dX4_init_17 (show S_102[46]? = some (4, 3, [some 47, none, none]) from rfl) (by decide) p_X4_15 ⟨Nat.le_of_ble_eq_true rfl, Nat.le_of_ble_eq_true rfl, rfl, Nat.le_of_ble_eq_true rfl⟩ rfl (fun _ => ⟨rfl, rfl⟩) ?_
  show Go G Y_X4_init 20 [(0, .ref 46)] [] S_103 J_8 2 16 Q
  exact go_vret dX4_init_20 rfl rfl (by decide) h
set_option maxRecDepth 100000 in
set_option maxHeartbeats 4000000 in
theorem c_X3_init_8 {G : CX} {Q : Sh → HP → Option Value → Prop} (h : Q S_109 J_9 none) : Ret G Y_X3_init [.ref 50] S_107 J_8 Q := by
  refine ret_of (show plainName RX3 = true by decide) (Nat.le_of_ble_eq_true rfl) ?_
  show Go G Y_X3_init 0 [(0, .ref 50)] [] S_107 J_8 0 0 Q
  refine go_aload_n dX3_init_0 rfl 0 rfl ?_
  refine go_oinit dX3_init_1 ⟨l_X3_3, bt_obj⟩ (by decide) (Nat.le_of_ble_eq_true rfl) ?_
  refine go_aload_n dX3_init_4 rfl 0 rfl ?_
  refine go_bipush dX3_init_5 (v := (60 : Int32)) (by decide) ?_
  refine go_newI2 dX3_init_7 aw_99 ⟨by decide, by decide, by decide⟩ (by decide) (by decide) (r := 51) rfl (fun _ => rfl) (sh2 := S_108) rfl (k2 := 1) rfl (n2 := 60) rfl ?_
  refine go_putR dX3_init_9 (show S_108[50]? = some (3, 4, [none, none, none, none]) from rfl) (by decide) p_X3_9 ⟨Nat.le_of_ble_eq_true rfl, Nat.le_of_ble_eq_true rfl, rfl, Nat.le_of_ble_eq_true rfl⟩ rfl (fun _ => ⟨rfl, rfl⟩) ?_
  show Go G Y_X3_init 12 [(0, .ref 50)] [] S_109 J_8 1 60 Q
  refine go_aload_n dX3_init_12 rfl 0 rfl ?_
  refine go_iconst dX3_init_13 (v := (1 : Int32)) (by decide) ?_
  refine go_putT dX3_init_14 (show S_109[50]? = some (3, 4, [some 51, none, none, none]) from rfl) (by decide) p_X3_15 ⟨Nat.le_of_ble_eq_true rfl, Nat.le_of_ble_eq_true rfl, rfl⟩ rfl rfl ?_
  show Go G Y_X3_init 17 [(0, .ref 50)] [] S_109 J_9 1 60 Q
  exact go_vret dX3_init_17 rfl rfl (by decide) h
set_option maxRecDepth 100000 in
set_option maxHeartbeats 4000000 in
theorem c_X3_init_9 {G : CX} {Q : Sh → HP → Option Value → Prop} (h : Q S_113 J_10 none) : Ret G Y_X3_init [.ref 52] S_111 J_9 Q := by
  refine ret_of (show plainName RX3 = true by decide) (Nat.le_of_ble_eq_true rfl) ?_
  show Go G Y_X3_init 0 [(0, .ref 52)] [] S_111 J_9 0 0 Q
  refine go_aload_n dX3_init_0 rfl 0 rfl ?_
  refine go_oinit dX3_init_1 ⟨l_X3_3, bt_obj⟩ (by decide) (Nat.le_of_ble_eq_true rfl) ?_
  refine go_aload_n dX3_init_4 rfl 0 rfl ?_
  refine go_bipush dX3_init_5 (v := (60 : Int32)) (by decide) ?_
  refine go_newI2 dX3_init_7 aw_99 ⟨by decide, by decide, by decide⟩ (by decide) (by decide) (r := 53) rfl (fun _ => rfl) (sh2 := S_112) rfl (k2 := 1) rfl (n2 := 60) rfl ?_
  refine go_putR dX3_init_9 (show S_112[52]? = some (3, 4, [none, none, none, none]) from rfl) (by decide) p_X3_9 ⟨Nat.le_of_ble_eq_true rfl, Nat.le_of_ble_eq_true rfl, rfl, Nat.le_of_ble_eq_true rfl⟩ rfl (fun _ => ⟨rfl, rfl⟩) ?_
  show Go G Y_X3_init 12 [(0, .ref 52)] [] S_113 J_9 1 60 Q
  refine go_aload_n dX3_init_12 rfl 0 rfl ?_
  refine go_iconst dX3_init_13 (v := (1 : Int32)) (by decide) ?_
  refine go_putT dX3_init_14 (show S_113[52]? = some (3, 4, [some 53, none, none, none]) from rfl) (by decide) p_X3_15 ⟨Nat.le_of_ble_eq_true rfl, Nat.le_of_ble_eq_true rfl, rfl⟩ rfl rfl ?_
  show Go G Y_X3_init 17 [(0, .ref 52)] [] S_113 J_10 1 60 Q
  exact go_vret dX3_init_17 rfl rfl (by decide) h
set_option maxRecDepth 100000 in
set_option maxHeartbeats 4000000 in
theorem c_X3_init_10 {G : CX} {Q : Sh → HP → Option Value → Prop} (h : Q S_117 J_11 none) : Ret G Y_X3_init [.ref 54] S_115 J_10 Q := by
  refine ret_of (show plainName RX3 = true by decide) (Nat.le_of_ble_eq_true rfl) ?_
  show Go G Y_X3_init 0 [(0, .ref 54)] [] S_115 J_10 0 0 Q
  refine go_aload_n dX3_init_0 rfl 0 rfl ?_
  refine go_oinit dX3_init_1 ⟨l_X3_3, bt_obj⟩ (by decide) (Nat.le_of_ble_eq_true rfl) ?_
  refine go_aload_n dX3_init_4 rfl 0 rfl ?_
  refine go_bipush dX3_init_5 (v := (60 : Int32)) (by decide) ?_
  refine go_newI2 dX3_init_7 aw_99 ⟨by decide, by decide, by decide⟩ (by decide) (by decide) (r := 55) rfl (fun _ => rfl) (sh2 := S_116) rfl (k2 := 1) rfl (n2 := 60) rfl ?_
  refine go_putR dX3_init_9 (show S_116[54]? = some (3, 4, [none, none, none, none]) from rfl) (by decide) p_X3_9 ⟨Nat.le_of_ble_eq_true rfl, Nat.le_of_ble_eq_true rfl, rfl, Nat.le_of_ble_eq_true rfl⟩ rfl (fun _ => ⟨rfl, rfl⟩) ?_
  show Go G Y_X3_init 12 [(0, .ref 54)] [] S_117 J_10 1 60 Q
  refine go_aload_n dX3_init_12 rfl 0 rfl ?_
  refine go_iconst dX3_init_13 (v := (1 : Int32)) (by decide) ?_
  refine go_putT dX3_init_14 (show S_117[54]? = some (3, 4, [some 55, none, none, none]) from rfl) (by decide) p_X3_15 ⟨Nat.le_of_ble_eq_true rfl, Nat.le_of_ble_eq_true rfl, rfl⟩ rfl rfl ?_
  show Go G Y_X3_init 17 [(0, .ref 54)] [] S_117 J_11 1 60 Q
  exact go_vret dX3_init_17 rfl rfl (by decide) h
set_option maxRecDepth 100000 in
set_option maxHeartbeats 4000000 in
theorem c_X3_init_11 {G : CX} {Q : Sh → HP → Option Value → Prop} (h : Q S_121 J_12 none) : Ret G Y_X3_init [.ref 56] S_119 J_11 Q := by
  refine ret_of (show plainName RX3 = true by decide) (Nat.le_of_ble_eq_true rfl) ?_
  show Go G Y_X3_init 0 [(0, .ref 56)] [] S_119 J_11 0 0 Q
  refine go_aload_n dX3_init_0 rfl 0 rfl ?_
  refine go_oinit dX3_init_1 ⟨l_X3_3, bt_obj⟩ (by decide) (Nat.le_of_ble_eq_true rfl) ?_
  refine go_aload_n dX3_init_4 rfl 0 rfl ?_
  refine go_bipush dX3_init_5 (v := (60 : Int32)) (by decide) ?_
  refine go_newI2 dX3_init_7 aw_99 ⟨by decide, by decide, by decide⟩ (by decide) (by decide) (r := 57) rfl (fun _ => rfl) (sh2 := S_120) rfl (k2 := 1) rfl (n2 := 60) rfl ?_
  refine go_putR dX3_init_9 (show S_120[56]? = some (3, 4, [none, none, none, none]) from rfl) (by decide) p_X3_9 ⟨Nat.le_of_ble_eq_true rfl, Nat.le_of_ble_eq_true rfl, rfl, Nat.le_of_ble_eq_true rfl⟩ rfl (fun _ => ⟨rfl, rfl⟩) ?_
  show Go G Y_X3_init 12 [(0, .ref 56)] [] S_121 J_11 1 60 Q
  refine go_aload_n dX3_init_12 rfl 0 rfl ?_
  refine go_iconst dX3_init_13 (v := (1 : Int32)) (by decide) ?_
  refine go_putT dX3_init_14 (show S_121[56]? = some (3, 4, [some 57, none, none, none]) from rfl) (by decide) p_X3_15 ⟨Nat.le_of_ble_eq_true rfl, Nat.le_of_ble_eq_true rfl, rfl⟩ rfl rfl ?_
  show Go G Y_X3_init 17 [(0, .ref 56)] [] S_121 J_12 1 60 Q
  exact go_vret dX3_init_17 rfl rfl (by decide) h
set_option maxRecDepth 100000 in
set_option maxHeartbeats 4000000 in
theorem c_X7_init_12 {G : CX} {Q : Sh → HP → Option Value → Prop} (h : Q S_122 J_12 none) : Ret G Y_X7_init [.ref 0] S_1 zI Q := by
  refine ret_of (show plainName RX7 = true by decide) (Nat.le_of_ble_eq_true rfl) ?_
  show Go G Y_X7_init 0 [(0, .ref 0)] [] S_1 zI 0 0 Q
  refine go_aload_n dX7_init_0 rfl 0 rfl ?_
  refine go_oinit dX7_init_1 ⟨l_X7_1, bt_obj⟩ (by decide) (Nat.le_of_ble_eq_true rfl) ?_
  refine go_aload_n dX7_init_4 rfl 0 rfl ?_
  refine go_bipush dX7_init_5 (v := (6 : Int32)) (by decide) ?_
  refine go_newI2 dX7_init_7 aw_99 ⟨by decide, by decide, by decide⟩ (by decide) (by decide) (r := 1) rfl (fun _ => rfl) (sh2 := S_2) rfl (k2 := 1) rfl (n2 := 6) rfl ?_
  refine go_dup dX7_init_9 rfl ?_
  refine go_iconst dX7_init_10 (v := (0 : Int32)) (by decide) ?_
  refine go_iconst dX7_init_11 (v := (0 : Int32)) (by decide) ?_
  refine go_iast dX7_init_12 (show S_2[1]? = some (9, 6, []) from rfl) (by decide) (by unfold vp_in; decide) (j := 0) (by decide) ?_
  show Go G Y_X7_init 13 [(0, .ref 0)] [.ref 1, .ref 0] S_2 J_1 1 6 Q
  refine go_dup dX7_init_13 rfl ?_
  refine go_iconst dX7_init_14 (v := (1 : Int32)) (by decide) ?_
  refine go_bipush dX7_init_15 (v := (99 : Int32)) (by decide) ?_
  refine go_iast dX7_init_17 (show S_2[1]? = some (9, 6, []) from rfl) (by decide) (by unfold vp_in; decide) (j := 1) (by decide) ?_
  show Go G Y_X7_init 18 [(0, .ref 0)] [.ref 1, .ref 0] S_2 J_2 1 6 Q
  refine go_dup dX7_init_18 rfl ?_
  refine go_iconst dX7_init_19 (v := (2 : Int32)) (by decide) ?_
  refine go_iconst dX7_init_20 (v := (0 : Int32)) (by decide) ?_
  refine go_iast dX7_init_21 (show S_2[1]? = some (9, 6, []) from rfl) (by decide) (by unfold vp_in; decide) (j := 2) (by decide) ?_
  show Go G Y_X7_init 22 [(0, .ref 0)] [.ref 1, .ref 0] S_2 J_3 1 6 Q
  refine go_dup dX7_init_22 rfl ?_
  refine go_iconst dX7_init_23 (v := (3 : Int32)) (by decide) ?_
  refine go_bipush dX7_init_24 (v := (9 : Int32)) (by decide) ?_
  refine go_iast dX7_init_26 (show S_2[1]? = some (9, 6, []) from rfl) (by decide) (by unfold vp_in; decide) (j := 3) (by decide) ?_
  show Go G Y_X7_init 27 [(0, .ref 0)] [.ref 1, .ref 0] S_2 J_4 1 6 Q
  refine go_dup dX7_init_27 rfl ?_
  refine go_iconst dX7_init_28 (v := (4 : Int32)) (by decide) ?_
  refine go_iconst dX7_init_29 (v := (0 : Int32)) (by decide) ?_
  refine go_iast dX7_init_30 (show S_2[1]? = some (9, 6, []) from rfl) (by decide) (by unfold vp_in; decide) (j := 4) (by decide) ?_
  show Go G Y_X7_init 31 [(0, .ref 0)] [.ref 1, .ref 0] S_2 J_5 1 6 Q
  refine go_dup dX7_init_31 rfl ?_
  refine go_iconst dX7_init_32 (v := (5 : Int32)) (by decide) ?_
  refine go_iconst dX7_init_33 (v := (0 : Int32)) (by decide) ?_
  refine go_iast dX7_init_34 (show S_2[1]? = some (9, 6, []) from rfl) (by decide) (by unfold vp_in; decide) (j := 5) (by decide) ?_
  show Go G Y_X7_init 35 [(0, .ref 0)] [.ref 1, .ref 0] S_2 J_6 1 6 Q
  refine go_putR dX7_init_35 (show S_2[0]? = some (7, 12, [none, none, none, none, none, none, none, none, none, none, none, none]) from rfl) (by decide) p_X7_7 ⟨Nat.le_of_ble_eq_true rfl, Nat.le_of_ble_eq_true rfl, rfl, Nat.le_of_ble_eq_true rfl⟩ rfl (fun _ => ⟨rfl, rfl⟩) ?_
  show Go G Y_X7_init 38 [(0, .ref 0)] [] S_3 J_6 1 6 Q
  refine go_aload_n dX7_init_38 rfl 0 rfl ?_
  refine go_new2 tyX2 dX7_init_39 rfl (by decide) gX2 ⟨aw_74, aw_75, aw_55⟩ tyX2_ok (by decide) (by decide) (by decide) (r := 2) rfl (fun _ => rfl) (sh2 := S_4) rfl (k2 := 2) rfl (n2 := 10) rfl ?_
  refine go_dup dX7_init_42 rfl ?_
  refine go_bipush dX7_init_43 (v := (59 : Int32)) (by decide) ?_
  refine go_icall (Z := Y_X2_init59) (As := [.int (59 : Int32)]) (S := [.ref 2, .ref 0]) (r := 2) dX7_init_45 ok_X2_init59 l_X7_15 (by decide) rfl rfl (Nat.le_of_ble_eq_true rfl) (c_X2_init_1 (Q := fun sh' I' v => sh' = S_6 ∧ I' = J_7 ∧ v = none) ⟨rfl, rfl, rfl⟩) (fun _ _ _ hq => ?_)
  obtain ⟨rfl, rfl, rfl⟩ := hq
  show Go G Y_X7_init 48 [(0, .ref 0)] [.ref 2, .ref 0] S_6 J_7 3 69 Q
  refine go_putR dX7_init_48 (show S_6[0]? = some (7, 12, [some 1, none, none, none, none, none, none, none, none, none, none, none]) from rfl) (by decide) p_X7_18 ⟨Nat.le_of_ble_eq_true rfl, Nat.le_of_ble_eq_true rfl, rfl, Nat.le_of_ble_eq_true rfl⟩ rfl (fun _ => ⟨rfl, rfl⟩) ?_
  show Go G Y_X7_init 51 [(0, .ref 0)] [] S_7 J_7 3 69 Q
  refine go_aload_n dX7_init_51 rfl 0 rfl ?_
  refine go_new2 tyX2 dX7_init_52 rfl (by decide) gX2 ⟨aw_74, aw_75, aw_55⟩ tyX2_ok (by decide) (by decide) (by decide) (r := 4) rfl (fun _ => rfl) (sh2 := S_8) rfl (k2 := 4) rfl (n2 := 73) rfl ?_
  refine go_dup dX7_init_55 rfl ?_
  refine go_bipush dX7_init_56 (v := (19 : Int32)) (by decide) ?_
  refine go_icall (Z := Y_X2_init19) (As := [.int (19 : Int32)]) (S := [.ref 4, .ref 0]) (r := 4) dX7_init_58 ok_X2_init19 l_X7_15 (by decide) rfl rfl (Nat.le_of_ble_eq_true rfl) (c_X2_init_2 (Q := fun sh' I' v => sh' = S_10 ∧ I' = J_8 ∧ v = none) ⟨rfl, rfl, rfl⟩) (fun _ _ _ hq => ?_)
  obtain ⟨rfl, rfl, rfl⟩ := hq
  show Go G Y_X7_init 61 [(0, .ref 0)] [.ref 4, .ref 0] S_10 J_8 5 92 Q
  refine go_putR dX7_init_61 (show S_10[0]? = some (7, 12, [some 1, some 2, none, none, none, none, none, none, none, none, none, none]) from rfl) (by decide) p_X7_22 ⟨Nat.le_of_ble_eq_true rfl, Nat.le_of_ble_eq_true rfl, rfl, Nat.le_of_ble_eq_true rfl⟩ rfl (fun _ => ⟨rfl, rfl⟩) ?_
  show Go G Y_X7_init 64 [(0, .ref 0)] [] S_11 J_8 5 92 Q
  refine go_aload_n dX7_init_64 rfl 0 rfl ?_
  refine go_new2 tyX5 dX7_init_65 rfl (by decide) gX5 ⟨aw_100, aw_101, aw_56⟩ tyX5_ok (by decide) (by decide) (by decide) (r := 6) rfl (fun _ => rfl) (sh2 := S_12) rfl (k2 := 6) rfl (n2 := 96) rfl ?_
  refine go_dup dX7_init_68 rfl ?_
  refine go_bipush dX7_init_69 (v := (12 : Int32)) (by decide) ?_
  refine go_icall (Z := Y_X5_init12) (As := [.int (12 : Int32)]) (S := [.ref 6, .ref 0]) (r := 6) dX7_init_71 ok_X5_init12 l_X7_27 (by decide) rfl rfl (Nat.le_of_ble_eq_true rfl) (c_X5_init_3 (Q := fun sh' I' v => sh' = S_42 ∧ I' = J_8 ∧ v = none) ⟨rfl, rfl, rfl⟩) (fun _ _ _ hq => ?_)
  obtain ⟨rfl, rfl, rfl⟩ := hq
  show Go G Y_X7_init 74 [(0, .ref 0)] [.ref 6, .ref 0] S_42 J_8 21 308 Q
  refine go_putR dX7_init_74 (show S_42[0]? = some (7, 12, [some 1, some 2, some 4, none, none, none, none, none, none, none, none, none]) from rfl) (by decide) p_X7_28 ⟨Nat.le_of_ble_eq_true rfl, Nat.le_of_ble_eq_true rfl, rfl, Nat.le_of_ble_eq_true rfl⟩ rfl (fun _ => ⟨rfl, rfl⟩) ?_
  show Go G Y_X7_init 77 [(0, .ref 0)] [] S_43 J_8 21 308 Q
  refine go_aload_n dX7_init_77 rfl 0 rfl ?_
  refine go_new2 tyX5 dX7_init_78 rfl (by decide) gX5 ⟨aw_100, aw_101, aw_56⟩ tyX5_ok (by decide) (by decide) (by decide) (r := 22) rfl (fun _ => rfl) (sh2 := S_44) rfl (k2 := 22) rfl (n2 := 312) rfl ?_
  refine go_dup dX7_init_81 rfl ?_
  refine go_bipush dX7_init_82 (v := (14 : Int32)) (by decide) ?_
  refine go_icall (Z := Y_X5_init14) (As := [.int (14 : Int32)]) (S := [.ref 22, .ref 0]) (r := 22) dX7_init_84 ok_X5_init14 l_X7_27 (by decide) rfl rfl (Nat.le_of_ble_eq_true rfl) (c_X5_init_4 (Q := fun sh' I' v => sh' = S_78 ∧ I' = J_8 ∧ v = none) ⟨rfl, rfl, rfl⟩) (fun _ _ _ hq => ?_)
  obtain ⟨rfl, rfl, rfl⟩ := hq
  show Go G Y_X7_init 87 [(0, .ref 0)] [.ref 22, .ref 0] S_78 J_8 39 556 Q
  refine go_putR dX7_init_87 (show S_78[0]? = some (7, 12, [some 1, some 2, some 4, some 6, none, none, none, none, none, none, none, none]) from rfl) (by decide) p_X7_32 ⟨Nat.le_of_ble_eq_true rfl, Nat.le_of_ble_eq_true rfl, rfl, Nat.le_of_ble_eq_true rfl⟩ rfl (fun _ => ⟨rfl, rfl⟩) ?_
  show Go G Y_X7_init 90 [(0, .ref 0)] [] S_79 J_8 39 556 Q
  refine go_aload_n dX7_init_90 rfl 0 rfl ?_
  refine go_new2 tyX1 dX7_init_91 rfl (by decide) gX1 ⟨aw_198, aw_199, aw_58⟩ tyX1_ok (by decide) (by decide) (by decide) (r := 40) rfl (fun _ => rfl) (sh2 := S_80) rfl (k2 := 40) rfl (n2 := 561) rfl ?_
  refine go_dup dX7_init_94 rfl ?_
  refine go_aload_n dX7_init_95 rfl 0 rfl ?_
  refine go_getR dX7_init_96 (show S_80[0]? = some (7, 12, [some 1, some 2, some 4, some 6, some 22, none, none, none, none, none, none, none]) from rfl) (by decide) f_X7_32 ⟨Nat.le_of_ble_eq_true rfl, Nat.le_of_ble_eq_true rfl, rfl⟩ rfl ?_
  refine go_aload_n dX7_init_99 rfl 0 rfl ?_
  refine go_getR dX7_init_100 (show S_80[0]? = some (7, 12, [some 1, some 2, some 4, some 6, some 22, none, none, none, none, none, none, none]) from rfl) (by decide) f_X7_18 ⟨Nat.le_of_ble_eq_true rfl, Nat.le_of_ble_eq_true rfl, rfl⟩ rfl ?_
  refine go_aload_n dX7_init_103 rfl 0 rfl ?_
  refine go_getR dX7_init_104 (show S_80[0]? = some (7, 12, [some 1, some 2, some 4, some 6, some 22, none, none, none, none, none, none, none]) from rfl) (by decide) f_X7_22 ⟨Nat.le_of_ble_eq_true rfl, Nat.le_of_ble_eq_true rfl, rfl⟩ rfl ?_
  refine go_aload_n dX7_init_107 rfl 0 rfl ?_
  refine go_getR dX7_init_108 (show S_80[0]? = some (7, 12, [some 1, some 2, some 4, some 6, some 22, none, none, none, none, none, none, none]) from rfl) (by decide) f_X7_7 ⟨Nat.le_of_ble_eq_true rfl, Nat.le_of_ble_eq_true rfl, rfl⟩ rfl ?_
  refine go_icall (Z := Y_X1_init) (As := [.ref 22, .ref 2, .ref 4, .ref 1]) (S := [.ref 40, .ref 0]) (r := 40) dX7_init_111 ok_X1_init l_X7_37 (by decide) rfl rfl (Nat.le_of_ble_eq_true rfl) (c_X1_init_5 (Q := fun sh' I' v => sh' = S_86 ∧ I' = J_8 ∧ v = none) ⟨rfl, rfl, rfl⟩) (fun _ _ _ hq => ?_)
  obtain ⟨rfl, rfl, rfl⟩ := hq
  show Go G Y_X7_init 114 [(0, .ref 0)] [.ref 40, .ref 0] S_86 J_8 41 567 Q
  refine go_putR dX7_init_114 (show S_86[0]? = some (7, 12, [some 1, some 2, some 4, some 6, some 22, none, none, none, none, none, none, none]) from rfl) (by decide) p_X7_40 ⟨Nat.le_of_ble_eq_true rfl, Nat.le_of_ble_eq_true rfl, rfl, Nat.le_of_ble_eq_true rfl⟩ rfl (fun _ => ⟨rfl, rfl⟩) ?_
  show Go G Y_X7_init 117 [(0, .ref 0)] [] S_87 J_8 41 567 Q
  refine go_aload_n dX7_init_117 rfl 0 rfl ?_
  refine go_new2 tyX0 dX7_init_118 rfl (by decide) gX0 ⟨aw_221, aw_222, aw_59⟩ tyX0_ok (by decide) (by decide) (by decide) (r := 42) rfl (fun _ => rfl) (sh2 := S_88) rfl (k2 := 42) rfl (n2 := 576) rfl ?_
  refine go_dup dX7_init_121 rfl ?_
  refine go_aload_n dX7_init_122 rfl 0 rfl ?_
  refine go_getR dX7_init_123 (show S_88[0]? = some (7, 12, [some 1, some 2, some 4, some 6, some 22, some 40, none, none, none, none, none, none]) from rfl) (by decide) f_X7_32 ⟨Nat.le_of_ble_eq_true rfl, Nat.le_of_ble_eq_true rfl, rfl⟩ rfl ?_
  refine go_aload_n dX7_init_126 rfl 0 rfl ?_
  refine go_getR dX7_init_127 (show S_88[0]? = some (7, 12, [some 1, some 2, some 4, some 6, some 22, some 40, none, none, none, none, none, none]) from rfl) (by decide) f_X7_18 ⟨Nat.le_of_ble_eq_true rfl, Nat.le_of_ble_eq_true rfl, rfl⟩ rfl ?_
  refine go_aload_n dX7_init_130 rfl 0 rfl ?_
  refine go_getR dX7_init_131 (show S_88[0]? = some (7, 12, [some 1, some 2, some 4, some 6, some 22, some 40, none, none, none, none, none, none]) from rfl) (by decide) f_X7_7 ⟨Nat.le_of_ble_eq_true rfl, Nat.le_of_ble_eq_true rfl, rfl⟩ rfl ?_
  refine go_icall (Z := Y_X0_init) (As := [.ref 22, .ref 2, .ref 1]) (S := [.ref 42, .ref 0]) (r := 42) dX7_init_134 ok_X0_init l_X7_46 (by decide) rfl rfl (Nat.le_of_ble_eq_true rfl) (c_X0_init_6 (Q := fun sh' I' v => sh' = S_97 ∧ I' = J_8 ∧ v = none) ⟨rfl, rfl, rfl⟩) (fun _ _ _ hq => ?_)
  obtain ⟨rfl, rfl, rfl⟩ := hq
  show Go G Y_X7_init 137 [(0, .ref 0)] [.ref 42, .ref 0] S_97 J_8 45 597 Q
  refine go_putR dX7_init_137 (show S_97[0]? = some (7, 12, [some 1, some 2, some 4, some 6, some 22, some 40, none, none, none, none, none, none]) from rfl) (by decide) p_X7_49 ⟨Nat.le_of_ble_eq_true rfl, Nat.le_of_ble_eq_true rfl, rfl, Nat.le_of_ble_eq_true rfl⟩ rfl (fun _ => ⟨rfl, rfl⟩) ?_
  show Go G Y_X7_init 140 [(0, .ref 0)] [] S_98 J_8 45 597 Q
  refine go_aload_n dX7_init_140 rfl 0 rfl ?_
  refine go_new2 tyX4 dX7_init_141 rfl (by decide) gX4 ⟨aw_259, aw_260, aw_60⟩ tyX4_ok (by decide) (by decide) (by decide) (r := 46) rfl (fun _ => rfl) (sh2 := S_99) rfl (k2 := 46) rfl (n2 := 600) rfl ?_
  refine go_dup dX7_init_144 rfl ?_
  refine go_iNcall (Z := Y_X4_init) (host := RX7) (As := []) (S := [.ref 46, .ref 0]) (r := 46) dX7_init_145 ok_X4_init (fun s H h => h.2.2.2.2.2.1.2.1) (by decide) rfl rfl (Nat.le_of_ble_eq_true rfl) (c_X4_init_7 (Q := fun sh' I' v => sh' = S_103 ∧ I' = J_8 ∧ v = none) ⟨rfl, rfl, rfl⟩) (fun _ _ _ hq => ?_)
  obtain ⟨rfl, rfl, rfl⟩ := hq
  show Go G Y_X7_init 148 [(0, .ref 0)] [.ref 46, .ref 0] S_103 J_8 48 616 Q
  refine go_putR dX7_init_148 (show S_103[0]? = some (7, 12, [some 1, some 2, some 4, some 6, some 22, some 40, some 42, none, none, none, none, none]) from rfl) (by decide) p_X7_56 ⟨Nat.le_of_ble_eq_true rfl, Nat.le_of_ble_eq_true rfl, rfl, Nat.le_of_ble_eq_true rfl⟩ rfl (fun _ => ⟨rfl, rfl⟩) ?_
  show Go G Y_X7_init 151 [(0, .ref 0)] [] S_104 J_8 48 616 Q
  refine go_aload_n dX7_init_151 rfl 0 rfl ?_
  refine go_iconst dX7_init_152 (v := (4 : Int32)) (by decide) ?_
  refine go_newq2 dX7_init_153 aw_276 (Or.inr ⟨rfl, rfl⟩) ⟨by decide, by decide, by decide⟩ (by decide) (by decide) (r := 49) rfl (fun _ => rfl) (sh2 := S_105) rfl (k2 := 49) rfl (n2 := 620) rfl ?_
  refine go_putR dX7_init_156 (show S_105[0]? = some (7, 12, [some 1, some 2, some 4, some 6, some 22, some 40, some 42, some 46, none, none, none, none]) from rfl) (by decide) p_X7_62 ⟨Nat.le_of_ble_eq_true rfl, Nat.le_of_ble_eq_true rfl, rfl, Nat.le_of_ble_eq_true rfl⟩ rfl (fun _ => ⟨rfl, rfl⟩) ?_
  show Go G Y_X7_init 159 [(0, .ref 0)] [] S_106 J_8 49 620 Q
  refine go_iconst dX7_init_159 (v := (0 : Int32)) (by decide) ?_
  refine go_istore_n dX7_init_160 rfl (Nat.le_of_ble_eq_true rfl) (L2 := [(1, .int (0 : Int32)), (0, .ref 0)]) rfl ?_
  refine go_iload_n dX7_init_161 rfl 0 rfl ?_
  refine go_iconst dX7_init_162 (v := (4 : Int32)) (by decide) ?_
  refine go_icmp_ge (tgt := 185) dX7_init_163 (by decide) (fun c => absurd c (by decide)) (fun _ => ?_)
  refine go_aload_n dX7_init_166 rfl 1 rfl ?_
  refine go_getR dX7_init_167 (show S_106[0]? = some (7, 12, [some 1, some 2, some 4, some 6, some 22, some 40, some 42, some 46, some 49, none, none, none]) from rfl) (by decide) f_X7_62 ⟨Nat.le_of_ble_eq_true rfl, Nat.le_of_ble_eq_true rfl, rfl⟩ rfl ?_
  refine go_iload_n dX7_init_170 rfl 0 rfl ?_
  refine go_new2 tyX3 dX7_init_171 rfl (by decide) gX3 ⟨aw_276, aw_278, aw_61⟩ tyX3_ok (by decide) (by decide) (by decide) (r := 50) rfl (fun _ => rfl) (sh2 := S_107) rfl (k2 := 50) rfl (n2 := 624) rfl ?_
  refine go_dup dX7_init_174 rfl ?_
  refine go_iNcall (Z := Y_X3_init) (host := RX7) (As := []) (S := [.ref 50, .int (0 : Int32), .ref 49]) (r := 50) dX7_init_175 ok_X3_init (fun s H h => h.2.2.2.2.2.1.2.2) (by decide) rfl rfl (Nat.le_of_ble_eq_true rfl) (c_X3_init_8 (Q := fun sh' I' v => sh' = S_109 ∧ I' = J_9 ∧ v = none) ⟨rfl, rfl, rfl⟩) (fun _ _ _ hq => ?_)
  obtain ⟨rfl, rfl, rfl⟩ := hq
  show Go G Y_X7_init 178 [(1, .int (0 : Int32)), (0, .ref 0)] [.ref 50, .int (0 : Int32), .ref 49] S_109 J_9 51 684 Q
  refine go_aast dX7_init_178 (show S_109[49]? = some (12, 4, [none, none, none, none]) from rfl) (Or.inr ⟨rfl, rfl⟩) ⟨by decide, by decide⟩ (show S_109[50]? = some (3, 4, [some 51, none, none, none]) from rfl) rfl (by unfold vp_in; decide) (by decide) ?_
  show Go G Y_X7_init 179 [(1, .int (0 : Int32)), (0, .ref 0)] [] S_110 J_9 51 684 Q
  refine go_iinc dX7_init_179 0 rfl (v := (1 : Int32)) (by decide) (Nat.le_of_ble_eq_true rfl) (L2 := [(1, .int (1 : Int32)), (0, .ref 0)]) rfl ?_
  refine go_goto (tgt := 161) dX7_init_182 (by decide) ?_
  refine go_iload_n dX7_init_161 rfl 0 rfl ?_
  refine go_iconst dX7_init_162 (v := (4 : Int32)) (by decide) ?_
  refine go_icmp_ge (tgt := 185) dX7_init_163 (by decide) (fun c => absurd c (by decide)) (fun _ => ?_)
  refine go_aload_n dX7_init_166 rfl 1 rfl ?_
  refine go_getR dX7_init_167 (show S_110[0]? = some (7, 12, [some 1, some 2, some 4, some 6, some 22, some 40, some 42, some 46, some 49, none, none, none]) from rfl) (by decide) f_X7_62 ⟨Nat.le_of_ble_eq_true rfl, Nat.le_of_ble_eq_true rfl, rfl⟩ rfl ?_
  refine go_iload_n dX7_init_170 rfl 0 rfl ?_
  refine go_new2 tyX3 dX7_init_171 rfl (by decide) gX3 ⟨aw_276, aw_278, aw_61⟩ tyX3_ok (by decide) (by decide) (by decide) (r := 52) rfl (fun _ => rfl) (sh2 := S_111) rfl (k2 := 52) rfl (n2 := 688) rfl ?_
  refine go_dup dX7_init_174 rfl ?_
  refine go_iNcall (Z := Y_X3_init) (host := RX7) (As := []) (S := [.ref 52, .int (1 : Int32), .ref 49]) (r := 52) dX7_init_175 ok_X3_init (fun s H h => h.2.2.2.2.2.1.2.2) (by decide) rfl rfl (Nat.le_of_ble_eq_true rfl) (c_X3_init_9 (Q := fun sh' I' v => sh' = S_113 ∧ I' = J_10 ∧ v = none) ⟨rfl, rfl, rfl⟩) (fun _ _ _ hq => ?_)
  obtain ⟨rfl, rfl, rfl⟩ := hq
  show Go G Y_X7_init 178 [(1, .int (1 : Int32)), (0, .ref 0)] [.ref 52, .int (1 : Int32), .ref 49] S_113 J_10 53 748 Q
  refine go_aast dX7_init_178 (show S_113[49]? = some (12, 4, [some 50, none, none, none]) from rfl) (Or.inr ⟨rfl, rfl⟩) ⟨by decide, by decide⟩ (show S_113[52]? = some (3, 4, [some 53, none, none, none]) from rfl) rfl (by unfold vp_in; decide) (by decide) ?_
  show Go G Y_X7_init 179 [(1, .int (1 : Int32)), (0, .ref 0)] [] S_114 J_10 53 748 Q
  refine go_iinc dX7_init_179 0 rfl (v := (2 : Int32)) (by decide) (Nat.le_of_ble_eq_true rfl) (L2 := [(1, .int (2 : Int32)), (0, .ref 0)]) rfl ?_
  refine go_goto (tgt := 161) dX7_init_182 (by decide) ?_
  refine go_iload_n dX7_init_161 rfl 0 rfl ?_
  refine go_iconst dX7_init_162 (v := (4 : Int32)) (by decide) ?_
  refine go_icmp_ge (tgt := 185) dX7_init_163 (by decide) (fun c => absurd c (by decide)) (fun _ => ?_)
  refine go_aload_n dX7_init_166 rfl 1 rfl ?_
  refine go_getR dX7_init_167 (show S_114[0]? = some (7, 12, [some 1, some 2, some 4, some 6, some 22, some 40, some 42, some 46, some 49, none, none, none]) from rfl) (by decide) f_X7_62 ⟨Nat.le_of_ble_eq_true rfl, Nat.le_of_ble_eq_true rfl, rfl⟩ rfl ?_
  refine go_iload_n dX7_init_170 rfl 0 rfl ?_
  refine go_new2 tyX3 dX7_init_171 rfl (by decide) gX3 ⟨aw_276, aw_278, aw_61⟩ tyX3_ok (by decide) (by decide) (by decide) (r := 54) rfl (fun _ => rfl) (sh2 := S_115) rfl (k2 := 54) rfl (n2 := 752) rfl ?_
  refine go_dup dX7_init_174 rfl ?_
  refine go_iNcall (Z := Y_X3_init) (host := RX7) (As := []) (S := [.ref 54, .int (2 : Int32), .ref 49]) (r := 54) dX7_init_175 ok_X3_init (fun s H h => h.2.2.2.2.2.1.2.2) (by decide) rfl rfl (Nat.le_of_ble_eq_true rfl) (c_X3_init_10 (Q := fun sh' I' v => sh' = S_117 ∧ I' = J_11 ∧ v = none) ⟨rfl, rfl, rfl⟩) (fun _ _ _ hq => ?_)
  obtain ⟨rfl, rfl, rfl⟩ := hq
  show Go G Y_X7_init 178 [(1, .int (2 : Int32)), (0, .ref 0)] [.ref 54, .int (2 : Int32), .ref 49] S_117 J_11 55 812 Q
  refine go_aast dX7_init_178 (show S_117[49]? = some (12, 4, [some 50, some 52, none, none]) from rfl) (Or.inr ⟨rfl, rfl⟩) ⟨by decide, by decide⟩ (show S_117[54]? = some (3, 4, [some 55, none, none, none]) from rfl) rfl (by unfold vp_in; decide) (by decide) ?_
  show Go G Y_X7_init 179 [(1, .int (2 : Int32)), (0, .ref 0)] [] S_118 J_11 55 812 Q
  refine go_iinc dX7_init_179 0 rfl (v := (3 : Int32)) (by decide) (Nat.le_of_ble_eq_true rfl) (L2 := [(1, .int (3 : Int32)), (0, .ref 0)]) rfl ?_
  refine go_goto (tgt := 161) dX7_init_182 (by decide) ?_
  refine go_iload_n dX7_init_161 rfl 0 rfl ?_
  refine go_iconst dX7_init_162 (v := (4 : Int32)) (by decide) ?_
  refine go_icmp_ge (tgt := 185) dX7_init_163 (by decide) (fun c => absurd c (by decide)) (fun _ => ?_)
  refine go_aload_n dX7_init_166 rfl 1 rfl ?_
  refine go_getR dX7_init_167 (show S_118[0]? = some (7, 12, [some 1, some 2, some 4, some 6, some 22, some 40, some 42, some 46, some 49, none, none, none]) from rfl) (by decide) f_X7_62 ⟨Nat.le_of_ble_eq_true rfl, Nat.le_of_ble_eq_true rfl, rfl⟩ rfl ?_
  refine go_iload_n dX7_init_170 rfl 0 rfl ?_
  refine go_new2 tyX3 dX7_init_171 rfl (by decide) gX3 ⟨aw_276, aw_278, aw_61⟩ tyX3_ok (by decide) (by decide) (by decide) (r := 56) rfl (fun _ => rfl) (sh2 := S_119) rfl (k2 := 56) rfl (n2 := 816) rfl ?_
  refine go_dup dX7_init_174 rfl ?_
  refine go_iNcall (Z := Y_X3_init) (host := RX7) (As := []) (S := [.ref 56, .int (3 : Int32), .ref 49]) (r := 56) dX7_init_175 ok_X3_init (fun s H h => h.2.2.2.2.2.1.2.2) (by decide) rfl rfl (Nat.le_of_ble_eq_true rfl) (c_X3_init_11 (Q := fun sh' I' v => sh' = S_121 ∧ I' = J_12 ∧ v = none) ⟨rfl, rfl, rfl⟩) (fun _ _ _ hq => ?_)
  obtain ⟨rfl, rfl, rfl⟩ := hq
  show Go G Y_X7_init 178 [(1, .int (3 : Int32)), (0, .ref 0)] [.ref 56, .int (3 : Int32), .ref 49] S_121 J_12 57 876 Q
  refine go_aast dX7_init_178 (show S_121[49]? = some (12, 4, [some 50, some 52, some 54, none]) from rfl) (Or.inr ⟨rfl, rfl⟩) ⟨by decide, by decide⟩ (show S_121[56]? = some (3, 4, [some 57, none, none, none]) from rfl) rfl (by unfold vp_in; decide) (by decide) ?_
  show Go G Y_X7_init 179 [(1, .int (3 : Int32)), (0, .ref 0)] [] S_122 J_12 57 876 Q
  refine go_iinc dX7_init_179 0 rfl (v := (4 : Int32)) (by decide) (Nat.le_of_ble_eq_true rfl) (L2 := [(1, .int (4 : Int32)), (0, .ref 0)]) rfl ?_
  refine go_goto (tgt := 161) dX7_init_182 (by decide) ?_
  refine go_iload_n dX7_init_161 rfl 0 rfl ?_
  refine go_iconst dX7_init_162 (v := (4 : Int32)) (by decide) ?_
  refine go_icmp_ge (tgt := 185) dX7_init_163 (by decide) (fun _ => ?_) (fun c => absurd (by decide) c)
  exact go_vret dX7_init_185 rfl rfl (by decide) h
set_option maxRecDepth 100000 in
set_option maxHeartbeats 4000000 in
theorem c_X8_init_13 {G : CX} {Q : Sh → HP → Option Value → Prop} (h : Q S_163 J_18 none) : Ret G Y_X8_init [.ref 58] S_123 J_12 Q := by
  refine ret_of (show plainName RX8 = true by decide) (Nat.le_of_ble_eq_true rfl) ?_
  show Go G Y_X8_init 0 [(0, .ref 58)] [] S_123 J_12 0 0 Q
  refine go_aload_n dX8_init_0 rfl 0 rfl ?_
  refine go_oinit dX8_init_1 ⟨l_X8_1, bt_obj⟩ (by decide) (Nat.le_of_ble_eq_true rfl) ?_
  refine go_aload_n dX8_init_4 rfl 0 rfl ?_
  refine go_iconst dX8_init_5 (v := (4 : Int32)) (by decide) ?_
  refine go_newI2 dX8_init_6 aw_99 ⟨by decide, by decide, by decide⟩ (by decide) (by decide) (r := 59) rfl (fun _ => rfl) (sh2 := S_124) rfl (k2 := 1) rfl (n2 := 4) rfl ?_
  refine go_putR dX8_init_8 (show S_124[58]? = some (8, 30, [none, none, none, none, none, none, none, none, none, none, none, none, none, none, none, none, none, none, none, none, none, none, none, none, none, none, none, none, none, none]) from rfl) (by decide) p_X8_7 ⟨Nat.le_of_ble_eq_true rfl, Nat.le_of_ble_eq_true rfl, rfl, Nat.le_of_ble_eq_true rfl⟩ rfl (fun _ => ⟨rfl, rfl⟩) ?_
  show Go G Y_X8_init 11 [(0, .ref 58)] [] S_125 J_12 1 4 Q
  refine go_aload_n dX8_init_11 rfl 0 rfl ?_
  refine go_iconst dX8_init_12 (v := (4 : Int32)) (by decide) ?_
  refine go_newI2 dX8_init_13 aw_99 ⟨by decide, by decide, by decide⟩ (by decide) (by decide) (r := 60) rfl (fun _ => rfl) (sh2 := S_126) rfl (k2 := 2) rfl (n2 := 8) rfl ?_
  refine go_putR dX8_init_15 (show S_126[58]? = some (8, 30, [some 59, none, none, none, none, none, none, none, none, none, none, none, none, none, none, none, none, none, none, none, none, none, none, none, none, none, none, none, none, none]) from rfl) (by decide) p_X8_13 ⟨Nat.le_of_ble_eq_true rfl, Nat.le_of_ble_eq_true rfl, rfl, Nat.le_of_ble_eq_true rfl⟩ rfl (fun _ => ⟨rfl, rfl⟩) ?_
  show Go G Y_X8_init 18 [(0, .ref 58)] [] S_127 J_12 2 8 Q
  refine go_aload_n dX8_init_18 rfl 0 rfl ?_
  refine go_sipush dX8_init_19 (v := (240 : Int32)) (by decide) ?_
  refine go_newI2 dX8_init_22 aw_99 ⟨by decide, by decide, by decide⟩ (by decide) (by decide) (r := 61) rfl (fun _ => rfl) (sh2 := S_128) rfl (k2 := 3) rfl (n2 := 248) rfl ?_
  refine go_putR dX8_init_24 (show S_128[58]? = some (8, 30, [some 59, some 60, none, none, none, none, none, none, none, none, none, none, none, none, none, none, none, none, none, none, none, none, none, none, none, none, none, none, none, none]) from rfl) (by decide) p_X8_16 ⟨Nat.le_of_ble_eq_true rfl, Nat.le_of_ble_eq_true rfl, rfl, Nat.le_of_ble_eq_true rfl⟩ rfl (fun _ => ⟨rfl, rfl⟩) ?_
  show Go G Y_X8_init 27 [(0, .ref 58)] [] S_129 J_12 3 248 Q
  refine go_aload_n dX8_init_27 rfl 0 rfl ?_
  refine go_bipush dX8_init_28 (v := (60 : Int32)) (by decide) ?_
  refine go_newI2 dX8_init_30 aw_99 ⟨by decide, by decide, by decide⟩ (by decide) (by decide) (r := 62) rfl (fun _ => rfl) (sh2 := S_130) rfl (k2 := 4) rfl (n2 := 308) rfl ?_
  refine go_putR dX8_init_32 (show S_130[58]? = some (8, 30, [some 59, some 60, some 61, none, none, none, none, none, none, none, none, none, none, none, none, none, none, none, none, none, none, none, none, none, none, none, none, none, none, none]) from rfl) (by decide) p_X8_19 ⟨Nat.le_of_ble_eq_true rfl, Nat.le_of_ble_eq_true rfl, rfl, Nat.le_of_ble_eq_true rfl⟩ rfl (fun _ => ⟨rfl, rfl⟩) ?_
  show Go G Y_X8_init 35 [(0, .ref 58)] [] S_131 J_12 4 308 Q
  refine go_aload_n dX8_init_35 rfl 0 rfl ?_
  refine go_bipush dX8_init_36 (v := (120 : Int32)) (by decide) ?_
  refine go_newI2 dX8_init_38 aw_99 ⟨by decide, by decide, by decide⟩ (by decide) (by decide) (r := 63) rfl (fun _ => rfl) (sh2 := S_132) rfl (k2 := 5) rfl (n2 := 428) rfl ?_
  refine go_putR dX8_init_40 (show S_132[58]? = some (8, 30, [some 59, some 60, some 61, some 62, none, none, none, none, none, none, none, none, none, none, none, none, none, none, none, none, none, none, none, none, none, none, none, none, none, none]) from rfl) (by decide) p_X8_22 ⟨Nat.le_of_ble_eq_true rfl, Nat.le_of_ble_eq_true rfl, rfl, Nat.le_of_ble_eq_true rfl⟩ rfl (fun _ => ⟨rfl, rfl⟩) ?_
  show Go G Y_X8_init 43 [(0, .ref 58)] [] S_133 J_12 5 428 Q
  refine go_aload_n dX8_init_43 rfl 0 rfl ?_
  refine go_iconst dX8_init_44 (v := (2 : Int32)) (by decide) ?_
  refine go_newI2 dX8_init_45 aw_99 ⟨by decide, by decide, by decide⟩ (by decide) (by decide) (r := 64) rfl (fun _ => rfl) (sh2 := S_134) rfl (k2 := 6) rfl (n2 := 430) rfl ?_
  refine go_putR dX8_init_47 (show S_134[58]? = some (8, 30, [some 59, some 60, some 61, some 62, none, some 63, none, none, none, none, none, none, none, none, none, none, none, none, none, none, none, none, none, none, none, none, none, none, none, none]) from rfl) (by decide) p_X8_25 ⟨Nat.le_of_ble_eq_true rfl, Nat.le_of_ble_eq_true rfl, rfl, Nat.le_of_ble_eq_true rfl⟩ rfl (fun _ => ⟨rfl, rfl⟩) ?_
  show Go G Y_X8_init 50 [(0, .ref 58)] [] S_135 J_12 6 430 Q
  refine go_aload_n dX8_init_50 rfl 0 rfl ?_
  refine go_iconst dX8_init_51 (v := (2 : Int32)) (by decide) ?_
  refine go_newI2 dX8_init_52 aw_99 ⟨by decide, by decide, by decide⟩ (by decide) (by decide) (r := 65) rfl (fun _ => rfl) (sh2 := S_136) rfl (k2 := 7) rfl (n2 := 432) rfl ?_
  refine go_putR dX8_init_54 (show S_136[58]? = some (8, 30, [some 59, some 60, some 61, some 62, none, some 63, some 64, none, none, none, none, none, none, none, none, none, none, none, none, none, none, none, none, none, none, none, none, none, none, none]) from rfl) (by decide) p_X8_28 ⟨Nat.le_of_ble_eq_true rfl, Nat.le_of_ble_eq_true rfl, rfl, Nat.le_of_ble_eq_true rfl⟩ rfl (fun _ => ⟨rfl, rfl⟩) ?_
  show Go G Y_X8_init 57 [(0, .ref 58)] [] S_137 J_12 7 432 Q
  refine go_aload_n dX8_init_57 rfl 0 rfl ?_
  refine go_bipush dX8_init_58 (v := (64 : Int32)) (by decide) ?_
  refine go_newI2 dX8_init_60 aw_99 ⟨by decide, by decide, by decide⟩ (by decide) (by decide) (r := 66) rfl (fun _ => rfl) (sh2 := S_138) rfl (k2 := 8) rfl (n2 := 496) rfl ?_
  refine go_putR dX8_init_62 (show S_138[58]? = some (8, 30, [some 59, some 60, some 61, some 62, none, some 63, some 64, none, some 65, none, none, none, none, none, none, none, none, none, none, none, none, none, none, none, none, none, none, none, none, none]) from rfl) (by decide) p_X8_31 ⟨Nat.le_of_ble_eq_true rfl, Nat.le_of_ble_eq_true rfl, rfl, Nat.le_of_ble_eq_true rfl⟩ rfl (fun _ => ⟨rfl, rfl⟩) ?_
  show Go G Y_X8_init 65 [(0, .ref 58)] [] S_139 J_12 8 496 Q
  refine go_aload_n dX8_init_65 rfl 0 rfl ?_
  refine go_bipush dX8_init_66 (v := (6 : Int32)) (by decide) ?_
  refine go_newI2 dX8_init_68 aw_99 ⟨by decide, by decide, by decide⟩ (by decide) (by decide) (r := 67) rfl (fun _ => rfl) (sh2 := S_140) rfl (k2 := 9) rfl (n2 := 502) rfl ?_
  refine go_putR dX8_init_70 (show S_140[58]? = some (8, 30, [some 59, some 60, some 61, some 62, none, some 63, some 64, none, some 65, some 66, none, none, none, none, none, none, none, none, none, none, none, none, none, none, none, none, none, none, none, none]) from rfl) (by decide) p_X8_34 ⟨Nat.le_of_ble_eq_true rfl, Nat.le_of_ble_eq_true rfl, rfl, Nat.le_of_ble_eq_true rfl⟩ rfl (fun _ => ⟨rfl, rfl⟩) ?_
  show Go G Y_X8_init 73 [(0, .ref 58)] [] S_141 J_12 9 502 Q
  refine go_aload_n dX8_init_73 rfl 0 rfl ?_
  refine go_bipush dX8_init_74 (v := (14 : Int32)) (by decide) ?_
  refine go_newI2 dX8_init_76 aw_99 ⟨by decide, by decide, by decide⟩ (by decide) (by decide) (r := 68) rfl (fun _ => rfl) (sh2 := S_142) rfl (k2 := 10) rfl (n2 := 516) rfl ?_
  refine go_putR dX8_init_78 (show S_142[58]? = some (8, 30, [some 59, some 60, some 61, some 62, none, some 63, some 64, none, some 65, some 66, some 67, none, none, none, none, none, none, none, none, none, none, none, none, none, none, none, none, none, none, none]) from rfl) (by decide) p_X8_37 ⟨Nat.le_of_ble_eq_true rfl, Nat.le_of_ble_eq_true rfl, rfl, Nat.le_of_ble_eq_true rfl⟩ rfl (fun _ => ⟨rfl, rfl⟩) ?_
  show Go G Y_X8_init 81 [(0, .ref 58)] [] S_143 J_12 10 516 Q
  refine go_aload_n dX8_init_81 rfl 0 rfl ?_
  refine go_bipush dX8_init_82 (v := (14 : Int32)) (by decide) ?_
  refine go_newI2 dX8_init_84 aw_99 ⟨by decide, by decide, by decide⟩ (by decide) (by decide) (r := 69) rfl (fun _ => rfl) (sh2 := S_144) rfl (k2 := 11) rfl (n2 := 530) rfl ?_
  refine go_putR dX8_init_86 (show S_144[58]? = some (8, 30, [some 59, some 60, some 61, some 62, none, some 63, some 64, none, some 65, some 66, some 67, none, some 68, none, none, none, none, none, none, none, none, none, none, none, none, none, none, none, none, none]) from rfl) (by decide) p_X8_40 ⟨Nat.le_of_ble_eq_true rfl, Nat.le_of_ble_eq_true rfl, rfl, Nat.le_of_ble_eq_true rfl⟩ rfl (fun _ => ⟨rfl, rfl⟩) ?_
  show Go G Y_X8_init 89 [(0, .ref 58)] [] S_145 J_12 11 530 Q
  refine go_aload_n dX8_init_89 rfl 0 rfl ?_
  refine go_bipush dX8_init_90 (v := (14 : Int32)) (by decide) ?_
  refine go_newI2 dX8_init_92 aw_99 ⟨by decide, by decide, by decide⟩ (by decide) (by decide) (r := 70) rfl (fun _ => rfl) (sh2 := S_146) rfl (k2 := 12) rfl (n2 := 544) rfl ?_
  refine go_putR dX8_init_94 (show S_146[58]? = some (8, 30, [some 59, some 60, some 61, some 62, none, some 63, some 64, none, some 65, some 66, some 67, none, some 68, some 69, none, none, none, none, none, none, none, none, none, none, none, none, none, none, none, none]) from rfl) (by decide) p_X8_43 ⟨Nat.le_of_ble_eq_true rfl, Nat.le_of_ble_eq_true rfl, rfl, Nat.le_of_ble_eq_true rfl⟩ rfl (fun _ => ⟨rfl, rfl⟩) ?_
  show Go G Y_X8_init 97 [(0, .ref 58)] [] S_147 J_12 12 544 Q
  refine go_aload_n dX8_init_97 rfl 0 rfl ?_
  refine go_bipush dX8_init_98 (v := (14 : Int32)) (by decide) ?_
  refine go_newI2 dX8_init_100 aw_99 ⟨by decide, by decide, by decide⟩ (by decide) (by decide) (r := 71) rfl (fun _ => rfl) (sh2 := S_148) rfl (k2 := 13) rfl (n2 := 558) rfl ?_
  refine go_putR dX8_init_102 (show S_148[58]? = some (8, 30, [some 59, some 60, some 61, some 62, none, some 63, some 64, none, some 65, some 66, some 67, none, some 68, some 69, some 70, none, none, none, none, none, none, none, none, none, none, none, none, none, none, none]) from rfl) (by decide) p_X8_46 ⟨Nat.le_of_ble_eq_true rfl, Nat.le_of_ble_eq_true rfl, rfl, Nat.le_of_ble_eq_true rfl⟩ rfl (fun _ => ⟨rfl, rfl⟩) ?_
  show Go G Y_X8_init 105 [(0, .ref 58)] [] S_149 J_12 13 558 Q
  refine go_aload_n dX8_init_105 rfl 0 rfl ?_
  refine go_bipush dX8_init_106 (v := (14 : Int32)) (by decide) ?_
  refine go_newI2 dX8_init_108 aw_99 ⟨by decide, by decide, by decide⟩ (by decide) (by decide) (r := 72) rfl (fun _ => rfl) (sh2 := S_150) rfl (k2 := 14) rfl (n2 := 572) rfl ?_
  refine go_putR dX8_init_110 (show S_150[58]? = some (8, 30, [some 59, some 60, some 61, some 62, none, some 63, some 64, none, some 65, some 66, some 67, none, some 68, some 69, some 70, some 71, none, none, none, none, none, none, none, none, none, none, none, none, none, none]) from rfl) (by decide) p_X8_49 ⟨Nat.le_of_ble_eq_true rfl, Nat.le_of_ble_eq_true rfl, rfl, Nat.le_of_ble_eq_true rfl⟩ rfl (fun _ => ⟨rfl, rfl⟩) ?_
  show Go G Y_X8_init 113 [(0, .ref 58)] [] S_151 J_12 14 572 Q
  refine go_aload_n dX8_init_113 rfl 0 rfl ?_
  refine go_bipush dX8_init_114 (v := (14 : Int32)) (by decide) ?_
  refine go_newI2 dX8_init_116 aw_99 ⟨by decide, by decide, by decide⟩ (by decide) (by decide) (r := 73) rfl (fun _ => rfl) (sh2 := S_152) rfl (k2 := 15) rfl (n2 := 586) rfl ?_
  refine go_putR dX8_init_118 (show S_152[58]? = some (8, 30, [some 59, some 60, some 61, some 62, none, some 63, some 64, none, some 65, some 66, some 67, none, some 68, some 69, some 70, some 71, some 72, none, none, none, none, none, none, none, none, none, none, none, none, none]) from rfl) (by decide) p_X8_52 ⟨Nat.le_of_ble_eq_true rfl, Nat.le_of_ble_eq_true rfl, rfl, Nat.le_of_ble_eq_true rfl⟩ rfl (fun _ => ⟨rfl, rfl⟩) ?_
  show Go G Y_X8_init 121 [(0, .ref 58)] [] S_153 J_12 15 586 Q
  refine go_aload_n dX8_init_121 rfl 0 rfl ?_
  refine go_bipush dX8_init_122 (v := (14 : Int32)) (by decide) ?_
  refine go_newI2 dX8_init_124 aw_99 ⟨by decide, by decide, by decide⟩ (by decide) (by decide) (r := 74) rfl (fun _ => rfl) (sh2 := S_154) rfl (k2 := 16) rfl (n2 := 600) rfl ?_
  refine go_putR dX8_init_126 (show S_154[58]? = some (8, 30, [some 59, some 60, some 61, some 62, none, some 63, some 64, none, some 65, some 66, some 67, none, some 68, some 69, some 70, some 71, some 72, some 73, none, none, none, none, none, none, none, none, none, none, none, none]) from rfl) (by decide) p_X8_55 ⟨Nat.le_of_ble_eq_true rfl, Nat.le_of_ble_eq_true rfl, rfl, Nat.le_of_ble_eq_true rfl⟩ rfl (fun _ => ⟨rfl, rfl⟩) ?_
  show Go G Y_X8_init 129 [(0, .ref 58)] [] S_155 J_12 16 600 Q
  refine go_aload_n dX8_init_129 rfl 0 rfl ?_
  refine go_bipush dX8_init_130 (v := (14 : Int32)) (by decide) ?_
  refine go_newI2 dX8_init_132 aw_99 ⟨by decide, by decide, by decide⟩ (by decide) (by decide) (r := 75) rfl (fun _ => rfl) (sh2 := S_156) rfl (k2 := 17) rfl (n2 := 614) rfl ?_
  refine go_putR dX8_init_134 (show S_156[58]? = some (8, 30, [some 59, some 60, some 61, some 62, none, some 63, some 64, none, some 65, some 66, some 67, none, some 68, some 69, some 70, some 71, some 72, some 73, some 74, none, none, none, none, none, none, none, none, none, none, none]) from rfl) (by decide) p_X8_58 ⟨Nat.le_of_ble_eq_true rfl, Nat.le_of_ble_eq_true rfl, rfl, Nat.le_of_ble_eq_true rfl⟩ rfl (fun _ => ⟨rfl, rfl⟩) ?_
  show Go G Y_X8_init 137 [(0, .ref 58)] [] S_157 J_12 17 614 Q
  refine go_aload_n dX8_init_137 rfl 0 rfl ?_
  refine go_bipush dX8_init_138 (v := (6 : Int32)) (by decide) ?_
  refine go_newI2 dX8_init_140 aw_99 ⟨by decide, by decide, by decide⟩ (by decide) (by decide) (r := 76) rfl (fun _ => rfl) (sh2 := S_158) rfl (k2 := 18) rfl (n2 := 620) rfl ?_
  refine go_putR dX8_init_142 (show S_158[58]? = some (8, 30, [some 59, some 60, some 61, some 62, none, some 63, some 64, none, some 65, some 66, some 67, none, some 68, some 69, some 70, some 71, some 72, some 73, some 74, some 75, none, none, none, none, none, none, none, none, none, none]) from rfl) (by decide) p_X8_61 ⟨Nat.le_of_ble_eq_true rfl, Nat.le_of_ble_eq_true rfl, rfl, Nat.le_of_ble_eq_true rfl⟩ rfl (fun _ => ⟨rfl, rfl⟩) ?_
  show Go G Y_X8_init 145 [(0, .ref 58)] [] S_159 J_12 18 620 Q
  refine go_aload_n dX8_init_145 rfl 0 rfl ?_
  refine go_bipush dX8_init_146 (v := (7 : Int32)) (by decide) ?_
  refine go_newI2 dX8_init_148 aw_99 ⟨by decide, by decide, by decide⟩ (by decide) (by decide) (r := 77) rfl (fun _ => rfl) (sh2 := S_160) rfl (k2 := 19) rfl (n2 := 627) rfl ?_
  refine go_putR dX8_init_150 (show S_160[58]? = some (8, 30, [some 59, some 60, some 61, some 62, none, some 63, some 64, none, some 65, some 66, some 67, none, some 68, some 69, some 70, some 71, some 72, some 73, some 74, some 75, none, none, none, none, some 76, none, none, none, none, none]) from rfl) (by decide) p_X8_64 ⟨Nat.le_of_ble_eq_true rfl, Nat.le_of_ble_eq_true rfl, rfl, Nat.le_of_ble_eq_true rfl⟩ rfl (fun _ => ⟨rfl, rfl⟩) ?_
  show Go G Y_X8_init 153 [(0, .ref 58)] [] S_161 J_12 19 627 Q
  refine go_aload_n dX8_init_153 rfl 0 rfl ?_
  refine go_bipush dX8_init_154 (v := (16 : Int32)) (by decide) ?_
  refine go_newI2 dX8_init_156 aw_99 ⟨by decide, by decide, by decide⟩ (by decide) (by decide) (r := 78) rfl (fun _ => rfl) (sh2 := S_162) rfl (k2 := 20) rfl (n2 := 643) rfl ?_
  refine go_putR dX8_init_158 (show S_162[58]? = some (8, 30, [some 59, some 60, some 61, some 62, none, some 63, some 64, none, some 65, some 66, some 67, none, some 68, some 69, some 70, some 71, some 72, some 73, some 74, some 75, none, none, none, none, some 76, some 77, none, none, none, none]) from rfl) (by decide) p_X8_67 ⟨Nat.le_of_ble_eq_true rfl, Nat.le_of_ble_eq_true rfl, rfl, Nat.le_of_ble_eq_true rfl⟩ rfl (fun _ => ⟨rfl, rfl⟩) ?_
  show Go G Y_X8_init 161 [(0, .ref 58)] [] S_163 J_12 20 643 Q
  refine go_iconst dX8_init_161 (v := (0 : Int32)) (by decide) ?_
  refine go_istore_n dX8_init_162 rfl (Nat.le_of_ble_eq_true rfl) (L2 := [(1, .int (0 : Int32)), (0, .ref 58)]) rfl ?_
  refine go_iload_n dX8_init_163 rfl 0 rfl ?_
  refine go_iconst dX8_init_164 (v := (4 : Int32)) (by decide) ?_
  refine go_icmp_ge (tgt := 181) dX8_init_165 (by decide) (fun c => absurd c (by decide)) (fun _ => ?_)
  refine go_aload_n dX8_init_168 rfl 1 rfl ?_
  refine go_getR dX8_init_169 (show S_163[58]? = some (8, 30, [some 59, some 60, some 61, some 62, none, some 63, some 64, none, some 65, some 66, some 67, none, some 68, some 69, some 70, some 71, some 72, some 73, some 74, some 75, none, none, none, none, some 76, some 77, none, none, none, some 78]) from rfl) (by decide) f_X8_7 ⟨Nat.le_of_ble_eq_true rfl, Nat.le_of_ble_eq_true rfl, rfl⟩ rfl ?_
  refine go_iload_n dX8_init_172 rfl 0 rfl ?_
  refine go_iconst dX8_init_173 (v := (-1 : Int32)) (by decide) ?_
  refine go_iast dX8_init_174 (show S_163[59]? = some (9, 4, []) from rfl) (by decide) (by unfold vp_in; decide) (j := 0) (by decide) ?_
  show Go G Y_X8_init 175 [(1, .int (0 : Int32)), (0, .ref 58)] [] S_163 J_13 20 643 Q
  refine go_iinc dX8_init_175 0 rfl (v := (1 : Int32)) (by decide) (Nat.le_of_ble_eq_true rfl) (L2 := [(1, .int (1 : Int32)), (0, .ref 58)]) rfl ?_
  refine go_goto (tgt := 163) dX8_init_178 (by decide) ?_
  refine go_iload_n dX8_init_163 rfl 0 rfl ?_
  refine go_iconst dX8_init_164 (v := (4 : Int32)) (by decide) ?_
  refine go_icmp_ge (tgt := 181) dX8_init_165 (by decide) (fun c => absurd c (by decide)) (fun _ => ?_)
  refine go_aload_n dX8_init_168 rfl 1 rfl ?_
  refine go_getR dX8_init_169 (show S_163[58]? = some (8, 30, [some 59, some 60, some 61, some 62, none, some 63, some 64, none, some 65, some 66, some 67, none, some 68, some 69, some 70, some 71, some 72, some 73, some 74, some 75, none, none, none, none, some 76, some 77, none, none, none, some 78]) from rfl) (by decide) f_X8_7 ⟨Nat.le_of_ble_eq_true rfl, Nat.le_of_ble_eq_true rfl, rfl⟩ rfl ?_
  refine go_iload_n dX8_init_172 rfl 0 rfl ?_
  refine go_iconst dX8_init_173 (v := (-1 : Int32)) (by decide) ?_
  refine go_iast dX8_init_174 (show S_163[59]? = some (9, 4, []) from rfl) (by decide) (by unfold vp_in; decide) (j := 1) (by decide) ?_
  show Go G Y_X8_init 175 [(1, .int (1 : Int32)), (0, .ref 58)] [] S_163 J_14 20 643 Q
  refine go_iinc dX8_init_175 0 rfl (v := (2 : Int32)) (by decide) (Nat.le_of_ble_eq_true rfl) (L2 := [(1, .int (2 : Int32)), (0, .ref 58)]) rfl ?_
  refine go_goto (tgt := 163) dX8_init_178 (by decide) ?_
  refine go_iload_n dX8_init_163 rfl 0 rfl ?_
  refine go_iconst dX8_init_164 (v := (4 : Int32)) (by decide) ?_
  refine go_icmp_ge (tgt := 181) dX8_init_165 (by decide) (fun c => absurd c (by decide)) (fun _ => ?_)
  refine go_aload_n dX8_init_168 rfl 1 rfl ?_
  refine go_getR dX8_init_169 (show S_163[58]? = some (8, 30, [some 59, some 60, some 61, some 62, none, some 63, some 64, none, some 65, some 66, some 67, none, some 68, some 69, some 70, some 71, some 72, some 73, some 74, some 75, none, none, none, none, some 76, some 77, none, none, none, some 78]) from rfl) (by decide) f_X8_7 ⟨Nat.le_of_ble_eq_true rfl, Nat.le_of_ble_eq_true rfl, rfl⟩ rfl ?_
  refine go_iload_n dX8_init_172 rfl 0 rfl ?_
  refine go_iconst dX8_init_173 (v := (-1 : Int32)) (by decide) ?_
  refine go_iast dX8_init_174 (show S_163[59]? = some (9, 4, []) from rfl) (by decide) (by unfold vp_in; decide) (j := 2) (by decide) ?_
  show Go G Y_X8_init 175 [(1, .int (2 : Int32)), (0, .ref 58)] [] S_163 J_15 20 643 Q
  refine go_iinc dX8_init_175 0 rfl (v := (3 : Int32)) (by decide) (Nat.le_of_ble_eq_true rfl) (L2 := [(1, .int (3 : Int32)), (0, .ref 58)]) rfl ?_
  refine go_goto (tgt := 163) dX8_init_178 (by decide) ?_
  refine go_iload_n dX8_init_163 rfl 0 rfl ?_
  refine go_iconst dX8_init_164 (v := (4 : Int32)) (by decide) ?_
  refine go_icmp_ge (tgt := 181) dX8_init_165 (by decide) (fun c => absurd c (by decide)) (fun _ => ?_)
  refine go_aload_n dX8_init_168 rfl 1 rfl ?_
  refine go_getR dX8_init_169 (show S_163[58]? = some (8, 30, [some 59, some 60, some 61, some 62, none, some 63, some 64, none, some 65, some 66, some 67, none, some 68, some 69, some 70, some 71, some 72, some 73, some 74, some 75, none, none, none, none, some 76, some 77, none, none, none, some 78]) from rfl) (by decide) f_X8_7 ⟨Nat.le_of_ble_eq_true rfl, Nat.le_of_ble_eq_true rfl, rfl⟩ rfl ?_
  refine go_iload_n dX8_init_172 rfl 0 rfl ?_
  refine go_iconst dX8_init_173 (v := (-1 : Int32)) (by decide) ?_
  refine go_iast dX8_init_174 (show S_163[59]? = some (9, 4, []) from rfl) (by decide) (by unfold vp_in; decide) (j := 3) (by decide) ?_
  show Go G Y_X8_init 175 [(1, .int (3 : Int32)), (0, .ref 58)] [] S_163 J_16 20 643 Q
  refine go_iinc dX8_init_175 0 rfl (v := (4 : Int32)) (by decide) (Nat.le_of_ble_eq_true rfl) (L2 := [(1, .int (4 : Int32)), (0, .ref 58)]) rfl ?_
  refine go_goto (tgt := 163) dX8_init_178 (by decide) ?_
  refine go_iload_n dX8_init_163 rfl 0 rfl ?_
  refine go_iconst dX8_init_164 (v := (4 : Int32)) (by decide) ?_
  refine go_icmp_ge (tgt := 181) dX8_init_165 (by decide) (fun _ => ?_) (fun c => absurd (by decide) c)
  refine go_aload_n dX8_init_181 rfl 1 rfl ?_
  refine go_getR dX8_init_182 (show S_163[58]? = some (8, 30, [some 59, some 60, some 61, some 62, none, some 63, some 64, none, some 65, some 66, some 67, none, some 68, some 69, some 70, some 71, some 72, some 73, some 74, some 75, none, none, none, none, some 76, some 77, none, none, none, some 78]) from rfl) (by decide) f_X8_34 ⟨Nat.le_of_ble_eq_true rfl, Nat.le_of_ble_eq_true rfl, rfl⟩ rfl ?_
  refine go_iconst dX8_init_185 (v := (1 : Int32)) (by decide) ?_
  refine go_bipush dX8_init_186 (v := (99 : Int32)) (by decide) ?_
  refine go_iast dX8_init_188 (show S_163[67]? = some (9, 6, []) from rfl) (by decide) (by unfold vp_in; decide) (j := 1) (by decide) ?_
  show Go G Y_X8_init 189 [(1, .int (4 : Int32)), (0, .ref 58)] [] S_163 J_17 20 643 Q
  refine go_aload_n dX8_init_189 rfl 1 rfl ?_
  refine go_getR dX8_init_190 (show S_163[58]? = some (8, 30, [some 59, some 60, some 61, some 62, none, some 63, some 64, none, some 65, some 66, some 67, none, some 68, some 69, some 70, some 71, some 72, some 73, some 74, some 75, none, none, none, none, some 76, some 77, none, none, none, some 78]) from rfl) (by decide) f_X8_34 ⟨Nat.le_of_ble_eq_true rfl, Nat.le_of_ble_eq_true rfl, rfl⟩ rfl ?_
  refine go_iconst dX8_init_193 (v := (3 : Int32)) (by decide) ?_
  refine go_bipush dX8_init_194 (v := (9 : Int32)) (by decide) ?_
  refine go_iast dX8_init_196 (show S_163[67]? = some (9, 6, []) from rfl) (by decide) (by unfold vp_in; decide) (j := 3) (by decide) ?_
  show Go G Y_X8_init 197 [(1, .int (4 : Int32)), (0, .ref 58)] [] S_163 J_18 20 643 Q
  exact go_vret dX8_init_197 rfl rfl (by decide) h
def IN0 : HP := J_18
theorem SH_end : S_163 = SH := by decide +kernel
set_option maxRecDepth 100000 in
set_option maxHeartbeats 4000000 in
theorem law_start {G : CX} {Q : Sh → HP → Option Value → Prop} (h : Go G Y_L_law 18 [(3, .int (0 : Int32)), (2, .ref 58), (1, .ref 0), (0, .ref 1000)] [] SH IN0 79 1561 Q) : Go G Y_L_law 0 [(0, .ref 1000)] [] [] zI 0 0 Q := by
  show Go G Y_L_law 0 [(0, .ref 1000)] [] S_0 zI 0 0 Q
  refine go_new2 tyX7 dL_law_0 rfl (by decide) gX7 ⟨aw_66, aw_67, aw_54⟩ tyX7_ok (by decide) (by decide) (by decide) (r := 0) rfl (fun _ => rfl) (sh2 := S_1) rfl (k2 := 1) rfl (n2 := 12) rfl ?_
  refine go_dup dL_law_3 rfl ?_
  refine go_icall (Z := Y_X7_init) (As := []) (S := [.ref 0]) (r := 0) dL_law_4 ok_X7_init l_L_9 (by decide) rfl rfl (Nat.le_of_ble_eq_true rfl) (c_X7_init_12 (Q := fun sh' I' v => sh' = S_122 ∧ I' = J_12 ∧ v = none) ⟨rfl, rfl, rfl⟩) (fun _ _ _ hq => ?_)
  obtain ⟨rfl, rfl, rfl⟩ := hq
  show Go G Y_L_law 7 [(0, .ref 1000)] [.ref 0] S_122 J_12 58 888 Q
  refine go_astore_n dL_law_7 rfl (Nat.le_of_ble_eq_true rfl) (L2 := [(1, .ref 0), (0, .ref 1000)]) rfl ?_
  refine go_new2 tyX8 dL_law_8 rfl (by decide) gX8 ⟨aw_749, aw_750, aw_62⟩ tyX8_ok (by decide) (by decide) (by decide) (r := 58) rfl (fun _ => rfl) (sh2 := S_123) rfl (k2 := 59) rfl (n2 := 918) rfl ?_
  refine go_dup dL_law_11 rfl ?_
  refine go_icall (Z := Y_X8_init) (As := []) (S := [.ref 58]) (r := 58) dL_law_12 ok_X8_init l_L_12 (by decide) rfl rfl (Nat.le_of_ble_eq_true rfl) (c_X8_init_13 (Q := fun sh' I' v => sh' = S_163 ∧ I' = J_18 ∧ v = none) ⟨rfl, rfl, rfl⟩) (fun _ _ _ hq => ?_)
  obtain ⟨rfl, rfl, rfl⟩ := hq
  show Go G Y_L_law 15 [(1, .ref 0), (0, .ref 1000)] [.ref 58] S_163 J_18 79 1561 Q
  refine go_astore_n dL_law_15 rfl (Nat.le_of_ble_eq_true rfl) (L2 := [(2, .ref 58), (1, .ref 0), (0, .ref 1000)]) rfl ?_
  refine go_iconst dL_law_16 (v := (0 : Int32)) (by decide) ?_
  refine go_istore_n dL_law_17 rfl (Nat.le_of_ble_eq_true rfl) (L2 := [(3, .int (0 : Int32)), (2, .ref 58), (1, .ref 0), (0, .ref 1000)]) rfl ?_
  rw [SH_end]
  exact h
