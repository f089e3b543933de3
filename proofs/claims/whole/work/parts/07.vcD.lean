set_option maxRecDepth 100000 in
set_option maxHeartbeats 4000000 in
theorem v_X8_in {G : CX} {a1 : Int64} {a2 : Int64} {a3 : Int64}  {I : HP} {Q : HP → Bool → Prop} (h : (((lg_cmp a1 a2) < 0) → (Q I false)) ∧ ((¬ (lg_cmp a1 a2) < 0) → (((0 < (lg_cmp a1 a3)) → (Q I false)) ∧ ((¬ 0 < (lg_cmp a1 a3)) → (Q I true))))) : RZ G Y_X8_in [.long a1, .long a2, .long a3] I Q := by
  refine ret_of (show plainName RX8 = true by decide) (Nat.le_of_ble_eq_true rfl) ?_
  show Go G Y_X8_in 0 [(0, .long a1), (2, .long a2), (4, .long a3)] [] SH I 0 0 _
  refine go_lload_n dX8_in_0 rfl 0 rfl ?_
  refine go_lload_n dX8_in_1 rfl 1 rfl ?_
  refine go_lcmp dX8_in_2 ?_
  refine go_if_lt (tgt := 17) dX8_in_3 (by decide) (fun c1 => ?_) (fun c1 => ?_)
  · have h := h.1 c1
    refine go_iconst dX8_in_17 (v := (0 : Int32)) (by decide) ?_
    exact go_zret dX8_in_18 rfl rfl rfl (by decide) ⟨rfl, false, rfl, h⟩
  · have h := h.2 c1
    refine go_lload_n dX8_in_6 rfl 0 rfl ?_
    refine go_lload dX8_in_7 2 rfl ?_
    refine go_lcmp dX8_in_9 ?_
    refine go_if_gt (tgt := 17) dX8_in_10 (by decide) (fun c2 => ?_) (fun c2 => ?_)
    · have h := h.1 c2
      refine go_iconst dX8_in_17 (v := (0 : Int32)) (by decide) ?_
      exact go_zret dX8_in_18 rfl rfl rfl (by decide) ⟨rfl, false, rfl, h⟩
    · have h := h.2 c2
      refine go_iconst dX8_in_13 (v := (1 : Int32)) (by decide) ?_
      refine go_goto (tgt := 18) dX8_in_14 (by decide) ?_
      exact go_zret dX8_in_18 rfl rfl rfl (by decide) ⟨rfl, true, rfl, h⟩
set_option maxRecDepth 100000 in
set_option maxHeartbeats 4000000 in
theorem v_X8_no {G : CX} {a1 : Int32}  {I : HP} {Q : HP → Int64 → Prop} (h : Q I ((-9223372036854775808 : Int64) - (a1.toInt64))) : RJ G Y_X8_no [.int a1] I Q := by
  refine ret_of (show plainName RX8 = true by decide) (Nat.le_of_ble_eq_true rfl) ?_
  show Go G Y_X8_no 0 [(0, .int a1)] [] SH I 0 0 _
  refine go_ldc2 dX8_no_0 k_X8_70 ?_
  refine go_iload_n dX8_no_3 rfl 0 rfl ?_
  refine go_i2l dX8_no_4 ?_
  refine go_lsub dX8_no_5 ?_
  exact go_lret dX8_no_6 rfl rfl (by decide) ⟨rfl, _, rfl, h⟩
set_option maxRecDepth 100000 in
set_option maxHeartbeats 4000000 in
theorem v_X8_isTwo {G : CX} {a1 : Int32}  {I : HP} {Q : HP → Bool → Prop} (h : RZ G Y_X8_in [.long (a1.toInt64), .long (0 : Int64), .long (1 : Int64)] I (fun I1 r2 => Q I1 r2)) : RZ G Y_X8_isTwo [.int a1] I Q := by
  refine ret_of (show plainName RX8 = true by decide) (Nat.le_of_ble_eq_true rfl) ?_
  show Go G Y_X8_isTwo 0 [(0, .int a1)] [] SH I 0 0 _
  refine go_iload_n dX8_isTwo_0 rfl 0 rfl ?_
  refine go_i2l dX8_isTwo_1 ?_
  refine go_lconst dX8_isTwo_2 (v := (0 : Int64)) (by decide) ?_
  refine go_lconst dX8_isTwo_3 (v := (1 : Int64)) (by decide) ?_
  refine go_scall (Z := Y_X8_in) (As := [.long (a1.toInt64), .long (0 : Int64), .long (1 : Int64)]) (S := []) dX8_isTwo_4 ok_X8_in l_X8_72 (by decide) rfl rfl (Nat.le_of_ble_eq_true rfl) h (fun _ I1 _ hq => ?_)
  obtain ⟨rfl, r2, rfl, h⟩ := hq
  show Go G Y_X8_isTwo 7 [(0, .int a1)] [.int (bI r2)] SH I1 0 0 _
  exact go_zret dX8_isTwo_7 rfl (bI_nar _) rfl (by decide) ⟨rfl, r2, rfl, h⟩
set_option maxRecDepth 100000 in
set_option maxHeartbeats 4000000 in
theorem v_X8_isIn {G : CX} {a1 : Int32} {a2 : Int32}  {I : HP} {Q : HP → Bool → Prop} (h : ((¬ ((a1 >>> (a2 &&& 31)) &&& (1 : Int32)) = (1 : Int32)) → (Q I false)) ∧ ((((a1 >>> (a2 &&& 31)) &&& (1 : Int32)) = (1 : Int32)) → (Q I true))) : RZ G Y_X8_isIn [.int a1, .int a2] I Q := by
  refine ret_of (show plainName RX8 = true by decide) (Nat.le_of_ble_eq_true rfl) ?_
  show Go G Y_X8_isIn 0 [(0, .int a1), (1, .int a2)] [] SH I 0 0 _
  refine go_iload_n dX8_isIn_0 rfl 0 rfl ?_
  refine go_iload_n dX8_isIn_1 rfl 1 rfl ?_
  refine go_ishr dX8_isIn_2 ?_
  refine go_iconst dX8_isIn_3 (v := (1 : Int32)) (by decide) ?_
  refine go_iand dX8_isIn_4 ?_
  refine go_iconst dX8_isIn_5 (v := (1 : Int32)) (by decide) ?_
  refine go_icmp_ne (tgt := 13) dX8_isIn_6 (by decide) (fun c1 => ?_) (fun c1 => ?_)
  · have h := h.1 c1
    refine go_iconst dX8_isIn_13 (v := (0 : Int32)) (by decide) ?_
    exact go_zret dX8_isIn_14 rfl rfl rfl (by decide) ⟨rfl, false, rfl, h⟩
  · have h := h.2 c1
    refine go_iconst dX8_isIn_9 (v := (1 : Int32)) (by decide) ?_
    refine go_goto (tgt := 14) dX8_isIn_10 (by decide) ?_
    exact go_zret dX8_isIn_14 rfl rfl rfl (by decide) ⟨rfl, true, rfl, h⟩
set_option maxRecDepth 100000 in
set_option maxHeartbeats 4000000 in
theorem v_X8_greater {G : CX} {a1 : Int32} {a2 : Int32}  {I : HP} {Q : HP → Int32 → Prop} (h : ((a1 ≤ a2) → (Q I a2)) ∧ ((¬ a1 ≤ a2) → (Q I a1))) : RI G Y_X8_greater [.int a1, .int a2] I Q := by
  refine ret_of (show plainName RX8 = true by decide) (Nat.le_of_ble_eq_true rfl) ?_
  show Go G Y_X8_greater 0 [(0, .int a1), (1, .int a2)] [] SH I 0 0 _
  refine go_iload_n dX8_greater_0 rfl 0 rfl ?_
  refine go_iload_n dX8_greater_1 rfl 1 rfl ?_
  refine go_icmp_le (tgt := 9) dX8_greater_2 (by decide) (fun c1 => ?_) (fun c1 => ?_)
  · have h := h.1 c1
    refine go_iload_n dX8_greater_9 rfl 1 rfl ?_
    exact go_iret dX8_greater_10 rfl rfl (by decide) ⟨rfl, _, rfl, h⟩
  · have h := h.2 c1
    refine go_iload_n dX8_greater_5 rfl 0 rfl ?_
    refine go_goto (tgt := 10) dX8_greater_6 (by decide) ?_
    exact go_iret dX8_greater_10 rfl rfl (by decide) ⟨rfl, _, rfl, h⟩
set_option maxRecDepth 100000 in
set_option maxHeartbeats 4000000 in
theorem v_X8_lesser {G : CX} {a1 : Int32} {a2 : Int32}  {I : HP} {Q : HP → Int32 → Prop} (h : ((a2 ≤ a1) → (Q I a2)) ∧ ((¬ a2 ≤ a1) → (Q I a1))) : RI G Y_X8_lesser [.int a1, .int a2] I Q := by
  refine ret_of (show plainName RX8 = true by decide) (Nat.le_of_ble_eq_true rfl) ?_
  show Go G Y_X8_lesser 0 [(0, .int a1), (1, .int a2)] [] SH I 0 0 _
  refine go_iload_n dX8_lesser_0 rfl 0 rfl ?_
  refine go_iload_n dX8_lesser_1 rfl 1 rfl ?_
  refine go_icmp_ge (tgt := 9) dX8_lesser_2 (by decide) (fun c1 => ?_) (fun c1 => ?_)
  · have h := h.1 c1
    refine go_iload_n dX8_lesser_9 rfl 1 rfl ?_
    exact go_iret dX8_lesser_10 rfl rfl (by decide) ⟨rfl, _, rfl, h⟩
  · have h := h.2 c1
    refine go_iload_n dX8_lesser_5 rfl 0 rfl ?_
    refine go_goto (tgt := 10) dX8_lesser_6 (by decide) ?_
    exact go_iret dX8_lesser_10 rfl rfl (by decide) ⟨rfl, _, rfl, h⟩
set_option maxRecDepth 100000 in
set_option maxHeartbeats 4000000 in
theorem v_X8_met {G : CX} {a1 : Int32}  {I : HP} {Q : HP → Int32 → Prop} (h : Q (st I 58 4 a1) ((-10 : Int32) - a1)) : RI G Y_X8_met [.ref 58, .int a1] I Q := by
  refine ret_of (show plainName RX8 = true by decide) (Nat.le_of_ble_eq_true rfl) ?_
  show Go G Y_X8_met 0 [(0, .ref 58), (1, .int a1)] [] SH I 0 0 _
  refine go_aload_n dX8_met_0 rfl 0 rfl ?_
  refine go_iload_n dX8_met_1 rfl 1 rfl ?_
  refine go_putT dX8_met_2 sh_58 (by decide) p_X8_76 ⟨Nat.le_of_ble_eq_true rfl, Nat.le_of_ble_eq_true rfl, rfl⟩ rfl rfl ?_
  refine go_bipush dX8_met_5 (v := (-10 : Int32)) (by decide) ?_
  refine go_iload_n dX8_met_7 rfl 1 rfl ?_
  refine go_isub dX8_met_8 ?_
  exact go_iret dX8_met_9 rfl rfl (by decide) ⟨rfl, _, rfl, h⟩
set_option maxRecDepth 100000 in
set_option maxHeartbeats 4000000 in
theorem v_X8_isSheet {G : CX} {a1 : Int32}  {I : HP} {Q : HP → Bool → Prop} (h : RZ G Y_X8_in [.long (a1.toInt64), .long (0 : Int64), .long (3 : Int64)] I (fun I1 r2 => Q I1 r2)) : RZ G Y_X8_isSheet [.int a1] I Q := by
  refine ret_of (show plainName RX8 = true by decide) (Nat.le_of_ble_eq_true rfl) ?_
  show Go G Y_X8_isSheet 0 [(0, .int a1)] [] SH I 0 0 _
  refine go_iload_n dX8_isSheet_0 rfl 0 rfl ?_
  refine go_i2l dX8_isSheet_1 ?_
  refine go_lconst dX8_isSheet_2 (v := (0 : Int64)) (by decide) ?_
  refine go_ldc2 dX8_isSheet_3 k_X8_80 ?_
  refine go_scall (Z := Y_X8_in) (As := [.long (a1.toInt64), .long (0 : Int64), .long (3 : Int64)]) (S := []) dX8_isSheet_6 ok_X8_in l_X8_72 (by decide) rfl rfl (Nat.le_of_ble_eq_true rfl) h (fun _ I1 _ hq => ?_)
  obtain ⟨rfl, r2, rfl, h⟩ := hq
  show Go G Y_X8_isSheet 9 [(0, .int a1)] [.int (bI r2)] SH I1 0 0 _
  exact go_zret dX8_isSheet_9 rfl (bI_nar _) rfl (by decide) ⟨rfl, r2, rfl, h⟩
set_option maxRecDepth 100000 in
set_option maxHeartbeats 4000000 in
theorem v_X8_sheet {G : CX} {a1 : Int32} {a2 : Int32} {a3 : Int32}  {I : HP} {Q : HP → Int32 → Prop} (h : RZ G Y_X8_isSheet [.int a1] I (fun I1 r2 => (((bI r2) = 0) → (Q I1 (-2 : Int32))) ∧ ((¬ (bI r2) = 0) → (RZ G Y_X8_in [.long (a2.toInt64), .long (0 : Int64), .long (2 : Int64)] I1 (fun I4 r5 => (((bI r5) = 0) → (Q I4 (-2 : Int32))) ∧ ((¬ (bI r5) = 0) → (((a3 ≤ (60 : Int32)) → (((0 ≤ a3) → ((vp_in a1 4) ∧ (GI G Y_X8_sheet 55 [(0, .ref 58), (1, .int a1), (3, .int a3), (4, .int (0 : Int32))] (st (st I4 59 (nn a1) a2) 60 (nn a1) a3) Q))) ∧ ((¬ 0 ≤ a3) → (RI G Y_X8_met [.ref 58, .int (5 : Int32)] I4 (fun I10 r11 => Q I10 r11))))) ∧ ((¬ a3 ≤ (60 : Int32)) → (Q I4 (-2 : Int32)))))))))) : RI G Y_X8_sheet [.ref 58, .int a1, .int a2, .int a3] I Q := by
  refine ret_of (show plainName RX8 = true by decide) (Nat.le_of_ble_eq_true rfl) ?_
  show Go G Y_X8_sheet 0 [(0, .ref 58), (1, .int a1), (2, .int a2), (3, .int a3)] [] SH I 0 0 _
  refine go_iload_n dX8_sheet_0 rfl 1 rfl ?_
  refine go_scall (Z := Y_X8_isSheet) (As := [.int a1]) (S := []) dX8_sheet_1 ok_X8_isSheet l_X8_82 (by decide) rfl rfl (Nat.le_of_ble_eq_true rfl) h (fun _ I1 _ hq => ?_)
  obtain ⟨rfl, r2, rfl, h⟩ := hq
  show Go G Y_X8_sheet 4 [(0, .ref 58), (1, .int a1), (2, .int a2), (3, .int a3)] [.int (bI r2)] SH I1 0 0 _
  refine go_if_eq (tgt := 25) dX8_sheet_4 (by decide) (fun c3 => ?_) (fun c3 => ?_)
  · have h := h.1 c3
    refine go_bipush dX8_sheet_25 (v := (-2 : Int32)) (by decide) ?_
    exact go_iret dX8_sheet_27 rfl rfl (by decide) ⟨rfl, _, rfl, h⟩
  · have h := h.2 c3
    refine go_iload_n dX8_sheet_7 rfl 2 rfl ?_
    refine go_i2l dX8_sheet_8 ?_
    refine go_lconst dX8_sheet_9 (v := (0 : Int64)) (by decide) ?_
    refine go_ldc2 dX8_sheet_10 k_X8_86 ?_
    refine go_scall (Z := Y_X8_in) (As := [.long (a2.toInt64), .long (0 : Int64), .long (2 : Int64)]) (S := []) dX8_sheet_13 ok_X8_in l_X8_72 (by decide) rfl rfl (Nat.le_of_ble_eq_true rfl) h (fun _ I4 _ hq => ?_)
    obtain ⟨rfl, r5, rfl, h⟩ := hq
    show Go G Y_X8_sheet 16 [(0, .ref 58), (1, .int a1), (2, .int a2), (3, .int a3)] [.int (bI r5)] SH I4 0 0 _
    refine go_if_eq (tgt := 25) dX8_sheet_16 (by decide) (fun c6 => ?_) (fun c6 => ?_)
    · have h := h.1 c6
      refine go_bipush dX8_sheet_25 (v := (-2 : Int32)) (by decide) ?_
      exact go_iret dX8_sheet_27 rfl rfl (by decide) ⟨rfl, _, rfl, h⟩
    · have h := h.2 c6
      refine go_iload_n dX8_sheet_19 rfl 3 rfl ?_
      refine go_bipush dX8_sheet_20 (v := (60 : Int32)) (by decide) ?_
      refine go_icmp_le (tgt := 28) dX8_sheet_22 (by decide) (fun c7 => ?_) (fun c7 => ?_)
      · have h := h.1 c7
        refine go_iload_n dX8_sheet_28 rfl 3 rfl ?_
        refine go_if_ge (tgt := 38) dX8_sheet_29 (by decide) (fun c8 => ?_) (fun c8 => ?_)
        · have h := h.1 c8
          refine go_aload_n dX8_sheet_38 rfl 0 rfl ?_
          refine go_getR dX8_sheet_39 sh_58 (by decide) f_X8_7 ⟨Nat.le_of_ble_eq_true rfl, Nat.le_of_ble_eq_true rfl, rfl⟩ rfl ?_
          refine go_iload_n dX8_sheet_42 rfl 1 rfl ?_
          refine go_iload_n dX8_sheet_43 rfl 2 rfl ?_
          have hb9 := h.1
          have h := h.2
          refine go_iast dX8_sheet_44 sh_59 (by decide) hb9 (j := (nn a1)) rfl ?_
          refine go_aload_n dX8_sheet_45 rfl 0 rfl ?_
          refine go_getR dX8_sheet_46 sh_58 (by decide) f_X8_13 ⟨Nat.le_of_ble_eq_true rfl, Nat.le_of_ble_eq_true rfl, rfl⟩ rfl ?_
          refine go_iload_n dX8_sheet_49 rfl 1 rfl ?_
          refine go_iload_n dX8_sheet_50 rfl 3 rfl ?_
          refine go_iast dX8_sheet_51 sh_60 (by decide) hb9 (j := (nn a1)) rfl ?_
          refine go_iconst dX8_sheet_52 (v := (0 : Int32)) (by decide) ?_
          refine go_istore dX8_sheet_53 (Nat.le_of_ble_eq_true rfl) (L2 := [(4, .int (0 : Int32)), (0, .ref 58), (1, .int a1), (2, .int a2), (3, .int a3)]) rfl ?_
          exact go_loc [(0, .ref 58), (1, .int a1), (3, .int a3), (4, .int (0 : Int32))] [1, 2, 4, 0] rfl h
        · have h := h.2 c8
          refine go_aload_n dX8_sheet_32 rfl 0 rfl ?_
          refine go_iconst dX8_sheet_33 (v := (5 : Int32)) (by decide) ?_
          refine go_vcall (Z := Y_X8_met) (As := [.int (5 : Int32)]) (S := []) dX8_sheet_34 ok_X8_met l_X8_88 (by decide) sh_58 (by decide) (Nat.le_of_ble_eq_true rfl) rfl rfl rfl (Nat.le_of_ble_eq_true rfl) h (fun _ I10 _ hq => ?_)
          obtain ⟨rfl, r11, rfl, h⟩ := hq
          show Go G Y_X8_sheet 37 [(0, .ref 58), (1, .int a1), (2, .int a2), (3, .int a3)] [.int r11] SH I10 0 0 _
          exact go_iret dX8_sheet_37 rfl rfl (by decide) ⟨rfl, _, rfl, h⟩
      · have h := h.2 c7
        refine go_bipush dX8_sheet_25 (v := (-2 : Int32)) (by decide) ?_
        exact go_iret dX8_sheet_27 rfl rfl (by decide) ⟨rfl, _, rfl, h⟩
set_option maxRecDepth 100000 in
set_option maxHeartbeats 4000000 in
theorem v_X8_sheet_55 {G : CX} {x1 : Int32} {x3 : Int32} {x4 : Int32}  {I : HP} {Q : HP → Int32 → Prop} (h : ((x3 ≤ x4) → (Q I x3)) ∧ ((¬ x3 ≤ x4) → ((vp_in (((60 : Int32) * x1) + x4) 240) ∧ (GI G Y_X8_sheet 55 [(0, .ref 58), (1, .int x1), (3, .int x3), (4, .int (x4 + 1))] (st I 61 (nn (((60 : Int32) * x1) + x4)) (0 : Int32)) Q)))) : GI G Y_X8_sheet 55 [(0, .ref 58), (1, .int x1), (3, .int x3), (4, .int x4)] I Q := by
  show Go G Y_X8_sheet 55 [(0, .ref 58), (1, .int x1), (3, .int x3), (4, .int x4)] [] SH I 0 0 _
  refine go_iload dX8_sheet_55 3 rfl ?_
  refine go_iload_n dX8_sheet_57 rfl 2 rfl ?_
  refine go_icmp_ge (tgt := 80) dX8_sheet_58 (by decide) (fun c1 => ?_) (fun c1 => ?_)
  · have h := h.1 c1
    refine go_iload_n dX8_sheet_80 rfl 2 rfl ?_
    exact go_iret dX8_sheet_81 rfl rfl (by decide) ⟨rfl, _, rfl, h⟩
  · have h := h.2 c1
    refine go_aload_n dX8_sheet_61 rfl 0 rfl ?_
    refine go_getR dX8_sheet_62 sh_58 (by decide) f_X8_16 ⟨Nat.le_of_ble_eq_true rfl, Nat.le_of_ble_eq_true rfl, rfl⟩ rfl ?_
    refine go_bipush dX8_sheet_65 (v := (60 : Int32)) (by decide) ?_
    refine go_iload_n dX8_sheet_67 rfl 1 rfl ?_
    refine go_imul dX8_sheet_68 ?_
    refine go_iload dX8_sheet_69 3 rfl ?_
    refine go_iadd dX8_sheet_71 ?_
    refine go_iconst dX8_sheet_72 (v := (0 : Int32)) (by decide) ?_
    have hb2 := h.1
    have h := h.2
    refine go_iast dX8_sheet_73 sh_61 (by decide) hb2 (j := (nn (((60 : Int32) * x1) + x4))) rfl ?_
    refine go_iinc dX8_sheet_74 3 rfl (v := (x4 + 1)) rfl (Nat.le_of_ble_eq_true rfl) (L2 := [(4, .int (x4 + 1)), (0, .ref 58), (1, .int x1), (3, .int x3)]) rfl ?_
    refine go_goto (tgt := 55) dX8_sheet_77 (by decide) ?_
    exact go_loc [(0, .ref 58), (1, .int x1), (3, .int x3), (4, .int (x4 + 1))] [1, 2, 3, 0] rfl h
set_option maxRecDepth 100000 in
set_option maxHeartbeats 4000000 in
theorem v_X8_lose {G : CX} {a1 : Int32}  {I : HP} {Q : HP → Int32 → Prop} (h : RZ G Y_X8_isSheet [.int a1] I (fun I1 r2 => ((¬ (bI r2) = 0) → ((vp_in a1 4) ∧ (((0 ≤ (I1 59 (nn a1))) → (Q (st I1 59 (nn a1) (-1 : Int32)) ((st I1 59 (nn a1) (-1 : Int32)) 60 (nn a1)))) ∧ ((¬ 0 ≤ (I1 59 (nn a1))) → (RI G Y_X8_met [.ref 58, .int (1 : Int32)] I1 (fun I6 r7 => Q I6 r7)))))) ∧ (((bI r2) = 0) → (Q I1 (-2 : Int32))))) : RI G Y_X8_lose [.ref 58, .int a1] I Q := by
  refine ret_of (show plainName RX8 = true by decide) (Nat.le_of_ble_eq_true rfl) ?_
  show Go G Y_X8_lose 0 [(0, .ref 58), (1, .int a1)] [] SH I 0 0 _
  refine go_iload_n dX8_lose_0 rfl 1 rfl ?_
  refine go_scall (Z := Y_X8_isSheet) (As := [.int a1]) (S := []) dX8_lose_1 ok_X8_isSheet l_X8_82 (by decide) rfl rfl (Nat.le_of_ble_eq_true rfl) h (fun _ I1 _ hq => ?_)
  obtain ⟨rfl, r2, rfl, h⟩ := hq
  show Go G Y_X8_lose 4 [(0, .ref 58), (1, .int a1)] [.int (bI r2)] SH I1 0 0 _
  refine go_if_ne (tgt := 10) dX8_lose_4 (by decide) (fun c3 => ?_) (fun c3 => ?_)
  · have h := h.1 c3
    refine go_aload_n dX8_lose_10 rfl 0 rfl ?_
    refine go_getR dX8_lose_11 sh_58 (by decide) f_X8_7 ⟨Nat.le_of_ble_eq_true rfl, Nat.le_of_ble_eq_true rfl, rfl⟩ rfl ?_
    refine go_iload_n dX8_lose_14 rfl 1 rfl ?_
    have hb4 := h.1
    have h := h.2
    refine go_iald dX8_lose_15 sh_59 (by decide) hb4 rfl ?_
    refine go_if_ge (tgt := 25) dX8_lose_16 (by decide) (fun c5 => ?_) (fun c5 => ?_)
    · have h := h.1 c5
      refine go_aload_n dX8_lose_25 rfl 0 rfl ?_
      refine go_getR dX8_lose_26 sh_58 (by decide) f_X8_7 ⟨Nat.le_of_ble_eq_true rfl, Nat.le_of_ble_eq_true rfl, rfl⟩ rfl ?_
      refine go_iload_n dX8_lose_29 rfl 1 rfl ?_
      refine go_iconst dX8_lose_30 (v := (-1 : Int32)) (by decide) ?_
      refine go_iast dX8_lose_31 sh_59 (by decide) hb4 (j := (nn a1)) rfl ?_
      refine go_aload_n dX8_lose_32 rfl 0 rfl ?_
      refine go_getR dX8_lose_33 sh_58 (by decide) f_X8_13 ⟨Nat.le_of_ble_eq_true rfl, Nat.le_of_ble_eq_true rfl, rfl⟩ rfl ?_
      refine go_iload_n dX8_lose_36 rfl 1 rfl ?_
      refine go_iald dX8_lose_37 sh_60 (by decide) hb4 rfl ?_
      exact go_iret dX8_lose_38 rfl rfl (by decide) ⟨rfl, _, rfl, h⟩
    · have h := h.2 c5
      refine go_aload_n dX8_lose_19 rfl 0 rfl ?_
      refine go_iconst dX8_lose_20 (v := (1 : Int32)) (by decide) ?_
      refine go_vcall (Z := Y_X8_met) (As := [.int (1 : Int32)]) (S := []) dX8_lose_21 ok_X8_met l_X8_88 (by decide) sh_58 (by decide) (Nat.le_of_ble_eq_true rfl) rfl rfl rfl (Nat.le_of_ble_eq_true rfl) h (fun _ I6 _ hq => ?_)
      obtain ⟨rfl, r7, rfl, h⟩ := hq
      show Go G Y_X8_lose 24 [(0, .ref 58), (1, .int a1)] [.int r7] SH I6 0 0 _
      exact go_iret dX8_lose_24 rfl rfl (by decide) ⟨rfl, _, rfl, h⟩
  · have h := h.2 c3
    refine go_bipush dX8_lose_7 (v := (-2 : Int32)) (by decide) ?_
    exact go_iret dX8_lose_9 rfl rfl (by decide) ⟨rfl, _, rfl, h⟩
set_option maxRecDepth 100000 in
set_option maxHeartbeats 4000000 in
theorem v_X8_lacks {G : CX} {a1 : Int32} {a2 : Int32} {a3 : Int32}  {I : HP} {Q : HP → Int32 → Prop} (h : (vp_in a1 4) ∧ (((0 ≤ (I 59 (nn a1))) → ((((I 59 (nn a1)) = a2) → (RZ G Y_X8_in [.long (a3.toInt64), .long (0 : Int64), .long (((I 60 (nn a1)) - (1 : Int32)).toInt64)] I (fun I4 r5 => (((bI r5) = 0) → (RI G Y_X8_met [.ref 58, .int (2 : Int32)] I4 (fun I7 r8 => Q I7 r8))) ∧ ((¬ (bI r5) = 0) → (Q I4 (0 : Int32)))))) ∧ ((¬ (I 59 (nn a1)) = a2) → (RI G Y_X8_met [.ref 58, .int (3 : Int32)] I (fun I9 r10 => Q I9 r10))))) ∧ ((¬ 0 ≤ (I 59 (nn a1))) → (RI G Y_X8_met [.ref 58, .int (1 : Int32)] I (fun I11 r12 => Q I11 r12))))) : RI G Y_X8_lacks [.ref 58, .int a1, .int a2, .int a3] I Q := by
  refine ret_of (show plainName RX8 = true by decide) (Nat.le_of_ble_eq_true rfl) ?_
  show Go G Y_X8_lacks 0 [(0, .ref 58), (1, .int a1), (2, .int a2), (3, .int a3)] [] SH I 0 0 _
  refine go_aload_n dX8_lacks_0 rfl 0 rfl ?_
  refine go_getR dX8_lacks_1 sh_58 (by decide) f_X8_7 ⟨Nat.le_of_ble_eq_true rfl, Nat.le_of_ble_eq_true rfl, rfl⟩ rfl ?_
  refine go_iload_n dX8_lacks_4 rfl 1 rfl ?_
  have hb1 := h.1
  have h := h.2
  refine go_iald dX8_lacks_5 sh_59 (by decide) hb1 rfl ?_
  refine go_if_ge (tgt := 15) dX8_lacks_6 (by decide) (fun c2 => ?_) (fun c2 => ?_)
  · have h := h.1 c2
    refine go_aload_n dX8_lacks_15 rfl 0 rfl ?_
    refine go_getR dX8_lacks_16 sh_58 (by decide) f_X8_7 ⟨Nat.le_of_ble_eq_true rfl, Nat.le_of_ble_eq_true rfl, rfl⟩ rfl ?_
    refine go_iload_n dX8_lacks_19 rfl 1 rfl ?_
    refine go_iald dX8_lacks_20 sh_59 (by decide) hb1 rfl ?_
    refine go_iload_n dX8_lacks_21 rfl 2 rfl ?_
    refine go_icmp_eq (tgt := 31) dX8_lacks_22 (by decide) (fun c3 => ?_) (fun c3 => ?_)
    · have h := h.1 c3
      refine go_iload_n dX8_lacks_31 rfl 3 rfl ?_
      refine go_i2l dX8_lacks_32 ?_
      refine go_lconst dX8_lacks_33 (v := (0 : Int64)) (by decide) ?_
      refine go_aload_n dX8_lacks_34 rfl 0 rfl ?_
      refine go_getR dX8_lacks_35 sh_58 (by decide) f_X8_13 ⟨Nat.le_of_ble_eq_true rfl, Nat.le_of_ble_eq_true rfl, rfl⟩ rfl ?_
      refine go_iload_n dX8_lacks_38 rfl 1 rfl ?_
      refine go_iald dX8_lacks_39 sh_60 (by decide) hb1 rfl ?_
      refine go_iconst dX8_lacks_40 (v := (1 : Int32)) (by decide) ?_
      refine go_isub dX8_lacks_41 ?_
      refine go_i2l dX8_lacks_42 ?_
      refine go_scall (Z := Y_X8_in) (As := [.long (a3.toInt64), .long (0 : Int64), .long (((I 60 (nn a1)) - (1 : Int32)).toInt64)]) (S := []) dX8_lacks_43 ok_X8_in l_X8_72 (by decide) rfl rfl (Nat.le_of_ble_eq_true rfl) h (fun _ I4 _ hq => ?_)
      obtain ⟨rfl, r5, rfl, h⟩ := hq
      show Go G Y_X8_lacks 46 [(0, .ref 58), (1, .int a1), (2, .int a2), (3, .int a3)] [.int (bI r5)] SH I4 0 0 _
      refine go_if_eq (tgt := 53) dX8_lacks_46 (by decide) (fun c6 => ?_) (fun c6 => ?_)
      · have h := h.1 c6
        refine go_aload_n dX8_lacks_53 rfl 0 rfl ?_
        refine go_iconst dX8_lacks_54 (v := (2 : Int32)) (by decide) ?_
        refine go_vcall (Z := Y_X8_met) (As := [.int (2 : Int32)]) (S := []) dX8_lacks_55 ok_X8_met l_X8_88 (by decide) sh_58 (by decide) (Nat.le_of_ble_eq_true rfl) rfl rfl rfl (Nat.le_of_ble_eq_true rfl) h (fun _ I7 _ hq => ?_)
        obtain ⟨rfl, r8, rfl, h⟩ := hq
        show Go G Y_X8_lacks 58 [(0, .ref 58), (1, .int a1), (2, .int a2), (3, .int a3)] [.int r8] SH I7 0 0 _
        exact go_iret dX8_lacks_58 rfl rfl (by decide) ⟨rfl, _, rfl, h⟩
      · have h := h.2 c6
        refine go_iconst dX8_lacks_49 (v := (0 : Int32)) (by decide) ?_
        refine go_goto (tgt := 58) dX8_lacks_50 (by decide) ?_
        exact go_iret dX8_lacks_58 rfl rfl (by decide) ⟨rfl, _, rfl, h⟩
    · have h := h.2 c3
      refine go_aload_n dX8_lacks_25 rfl 0 rfl ?_
      refine go_iconst dX8_lacks_26 (v := (3 : Int32)) (by decide) ?_
      refine go_vcall (Z := Y_X8_met) (As := [.int (3 : Int32)]) (S := []) dX8_lacks_27 ok_X8_met l_X8_88 (by decide) sh_58 (by decide) (Nat.le_of_ble_eq_true rfl) rfl rfl rfl (Nat.le_of_ble_eq_true rfl) h (fun _ I9 _ hq => ?_)
      obtain ⟨rfl, r10, rfl, h⟩ := hq
      show Go G Y_X8_lacks 30 [(0, .ref 58), (1, .int a1), (2, .int a2), (3, .int a3)] [.int r10] SH I9 0 0 _
      exact go_iret dX8_lacks_30 rfl rfl (by decide) ⟨rfl, _, rfl, h⟩
  · have h := h.2 c2
    refine go_aload_n dX8_lacks_9 rfl 0 rfl ?_
    refine go_iconst dX8_lacks_10 (v := (1 : Int32)) (by decide) ?_
    refine go_vcall (Z := Y_X8_met) (As := [.int (1 : Int32)]) (S := []) dX8_lacks_11 ok_X8_met l_X8_88 (by decide) sh_58 (by decide) (Nat.le_of_ble_eq_true rfl) rfl rfl rfl (Nat.le_of_ble_eq_true rfl) h (fun _ I11 _ hq => ?_)
    obtain ⟨rfl, r12, rfl, h⟩ := hq
    show Go G Y_X8_lacks 14 [(0, .ref 58), (1, .int a1), (2, .int a2), (3, .int a3)] [.int r12] SH I11 0 0 _
    exact go_iret dX8_lacks_14 rfl rfl (by decide) ⟨rfl, _, rfl, h⟩
set_option maxRecDepth 100000 in
set_option maxHeartbeats 4000000 in
theorem v_X8_cut {G : CX} {a1 : Int32} {a2 : Int32}  {I : HP} {Q : HP → Int32 → Prop} (h : ((¬ a1 = 0) → (((¬ a1 = (1 : Int32)) → (Q I a2)) ∧ ((a1 = (1 : Int32)) → (Q I (a2.toInt16.toInt32))))) ∧ ((a1 = 0) → (Q I (a2.toInt8.toInt32)))) : RI G Y_X8_cut [.int a1, .int a2] I Q := by
  refine ret_of (show plainName RX8 = true by decide) (Nat.le_of_ble_eq_true rfl) ?_
  show Go G Y_X8_cut 0 [(0, .int a1), (1, .int a2)] [] SH I 0 0 _
  refine go_iload_n dX8_cut_0 rfl 0 rfl ?_
  refine go_if_ne (tgt := 9) dX8_cut_1 (by decide) (fun c1 => ?_) (fun c1 => ?_)
  · have h := h.1 c1
    refine go_iload_n dX8_cut_9 rfl 0 rfl ?_
    refine go_iconst dX8_cut_10 (v := (1 : Int32)) (by decide) ?_
    refine go_icmp_ne (tgt := 19) dX8_cut_11 (by decide) (fun c2 => ?_) (fun c2 => ?_)
    · have h := h.1 c2
      refine go_iload_n dX8_cut_19 rfl 1 rfl ?_
      exact go_iret dX8_cut_20 rfl rfl (by decide) ⟨rfl, _, rfl, h⟩
    · have h := h.2 c2
      refine go_iload_n dX8_cut_14 rfl 1 rfl ?_
      refine go_i2s dX8_cut_15 ?_
      refine go_goto (tgt := 20) dX8_cut_16 (by decide) ?_
      exact go_iret dX8_cut_20 rfl rfl (by decide) ⟨rfl, _, rfl, h⟩
  · have h := h.2 c1
    refine go_iload_n dX8_cut_4 rfl 1 rfl ?_
    refine go_i2b dX8_cut_5 ?_
    refine go_goto (tgt := 20) dX8_cut_6 (by decide) ?_
    exact go_iret dX8_cut_20 rfl rfl (by decide) ⟨rfl, _, rfl, h⟩
set_option maxRecDepth 100000 in
set_option maxHeartbeats 4000000 in
theorem v_X8_lay {G : CX} {a1 : Int32} {a2 : Int32} {a3 : Int32} {a4 : Int32}  {I : HP} {Q : HP → Int32 → Prop} (h : RZ G Y_X8_isSheet [.int a1] I (fun I1 r2 => (((bI r2) = 0) → (Q I1 (-2 : Int32))) ∧ ((¬ (bI r2) = 0) → (RZ G Y_X8_in [.long (a2.toInt64), .long (0 : Int64), .long (2 : Int64)] I1 (fun I4 r5 => ((¬ (bI r5) = 0) → (RI G Y_X8_lacks [.ref 58, .int a1, .int a2, .int a3] I4 (fun I7 r8 => ((r8 = 0) → (RI G Y_X8_cut [.int a2, .int a4] I7 (fun I10 r11 => (vp_in (((60 : Int32) * a1) + a3) 240) ∧ (Q (st I10 61 (nn (((60 : Int32) * a1) + a3)) r11) (1 : Int32))))) ∧ ((¬ r8 = 0) → (Q I7 r8))))) ∧ (((bI r5) = 0) → (Q I4 (-2 : Int32)))))))) : RI G Y_X8_lay [.ref 58, .int a1, .int a2, .int a3, .int a4] I Q := by
  refine ret_of (show plainName RX8 = true by decide) (Nat.le_of_ble_eq_true rfl) ?_
  show Go G Y_X8_lay 0 [(0, .ref 58), (1, .int a1), (2, .int a2), (3, .int a3), (4, .int a4)] [] SH I 0 0 _
  refine go_iload_n dX8_lay_0 rfl 1 rfl ?_
  refine go_scall (Z := Y_X8_isSheet) (As := [.int a1]) (S := []) dX8_lay_1 ok_X8_isSheet l_X8_82 (by decide) rfl rfl (Nat.le_of_ble_eq_true rfl) h (fun _ I1 _ hq => ?_)
  obtain ⟨rfl, r2, rfl, h⟩ := hq
  show Go G Y_X8_lay 4 [(0, .ref 58), (1, .int a1), (2, .int a2), (3, .int a3), (4, .int a4)] [.int (bI r2)] SH I1 0 0 _
  refine go_if_eq (tgt := 19) dX8_lay_4 (by decide) (fun c3 => ?_) (fun c3 => ?_)
  · have h := h.1 c3
    refine go_bipush dX8_lay_19 (v := (-2 : Int32)) (by decide) ?_
    exact go_iret dX8_lay_21 rfl rfl (by decide) ⟨rfl, _, rfl, h⟩
  · have h := h.2 c3
    refine go_iload_n dX8_lay_7 rfl 2 rfl ?_
    refine go_i2l dX8_lay_8 ?_
    refine go_lconst dX8_lay_9 (v := (0 : Int64)) (by decide) ?_
    refine go_ldc2 dX8_lay_10 k_X8_86 ?_
    refine go_scall (Z := Y_X8_in) (As := [.long (a2.toInt64), .long (0 : Int64), .long (2 : Int64)]) (S := []) dX8_lay_13 ok_X8_in l_X8_72 (by decide) rfl rfl (Nat.le_of_ble_eq_true rfl) h (fun _ I4 _ hq => ?_)
    obtain ⟨rfl, r5, rfl, h⟩ := hq
    show Go G Y_X8_lay 16 [(0, .ref 58), (1, .int a1), (2, .int a2), (3, .int a3), (4, .int a4)] [.int (bI r5)] SH I4 0 0 _
    refine go_if_ne (tgt := 22) dX8_lay_16 (by decide) (fun c6 => ?_) (fun c6 => ?_)
    · have h := h.1 c6
      refine go_aload_n dX8_lay_22 rfl 0 rfl ?_
      refine go_iload_n dX8_lay_23 rfl 1 rfl ?_
      refine go_iload_n dX8_lay_24 rfl 2 rfl ?_
      refine go_iload_n dX8_lay_25 rfl 3 rfl ?_
      refine go_vcall (Z := Y_X8_lacks) (As := [.int a1, .int a2, .int a3]) (S := []) dX8_lay_26 ok_X8_lacks l_X8_92 (by decide) sh_58 (by decide) (Nat.le_of_ble_eq_true rfl) rfl rfl rfl (Nat.le_of_ble_eq_true rfl) h (fun _ I7 _ hq => ?_)
      obtain ⟨rfl, r8, rfl, h⟩ := hq
      show Go G Y_X8_lay 29 [(0, .ref 58), (1, .int a1), (2, .int a2), (3, .int a3), (4, .int a4)] [.int r8] SH I7 0 0 _
      refine go_istore dX8_lay_29 (Nat.le_of_ble_eq_true rfl) (L2 := [(5, .int r8), (0, .ref 58), (1, .int a1), (2, .int a2), (3, .int a3), (4, .int a4)]) rfl ?_
      refine go_iload dX8_lay_31 0 rfl ?_
      refine go_if_eq (tgt := 39) dX8_lay_33 (by decide) (fun c9 => ?_) (fun c9 => ?_)
      · have h := h.1 c9
        refine go_aload_n dX8_lay_39 rfl 1 rfl ?_
        refine go_getR dX8_lay_40 sh_58 (by decide) f_X8_16 ⟨Nat.le_of_ble_eq_true rfl, Nat.le_of_ble_eq_true rfl, rfl⟩ rfl ?_
        refine go_bipush dX8_lay_43 (v := (60 : Int32)) (by decide) ?_
        refine go_iload_n dX8_lay_45 rfl 2 rfl ?_
        refine go_imul dX8_lay_46 ?_
        refine go_iload_n dX8_lay_47 rfl 4 rfl ?_
        refine go_iadd dX8_lay_48 ?_
        refine go_iload_n dX8_lay_49 rfl 3 rfl ?_
        refine go_iload dX8_lay_50 5 rfl ?_
        refine go_scall (Z := Y_X8_cut) (As := [.int a2, .int a4]) (S := [.int (((60 : Int32) * a1) + a3), .ref 61]) dX8_lay_52 ok_X8_cut l_X8_96 (by decide) rfl rfl (Nat.le_of_ble_eq_true rfl) h (fun _ I10 _ hq => ?_)
        obtain ⟨rfl, r11, rfl, h⟩ := hq
        show Go G Y_X8_lay 55 [(5, .int r8), (0, .ref 58), (1, .int a1), (2, .int a2), (3, .int a3), (4, .int a4)] [.int r11, .int (((60 : Int32) * a1) + a3), .ref 61] SH I10 0 0 _
        have hb12 := h.1
        have h := h.2
        refine go_iast dX8_lay_55 sh_61 (by decide) hb12 (j := (nn (((60 : Int32) * a1) + a3))) rfl ?_
        refine go_iconst dX8_lay_56 (v := (1 : Int32)) (by decide) ?_
        exact go_iret dX8_lay_57 rfl rfl (by decide) ⟨rfl, _, rfl, h⟩
      · have h := h.2 c9
        refine go_iload dX8_lay_36 0 rfl ?_
        exact go_iret dX8_lay_38 rfl rfl (by decide) ⟨rfl, _, rfl, h⟩
    · have h := h.2 c6
      refine go_bipush dX8_lay_19 (v := (-2 : Int32)) (by decide) ?_
      exact go_iret dX8_lay_21 rfl rfl (by decide) ⟨rfl, _, rfl, h⟩
set_option maxRecDepth 100000 in
set_option maxHeartbeats 4000000 in
theorem v_X8_get {G : CX} {a1 : Int32} {a2 : Int32} {a3 : Int32}  {I : HP} {Q : HP → Int32 → Prop} (h : RZ G Y_X8_isSheet [.int a1] I (fun I1 r2 => (((bI r2) = 0) → (Q I1 (-2147483648 : Int32))) ∧ ((¬ (bI r2) = 0) → (RZ G Y_X8_in [.long (a2.toInt64), .long (0 : Int64), .long (2 : Int64)] I1 (fun I4 r5 => (((bI r5) = 0) → (Q I4 (-2147483648 : Int32))) ∧ ((¬ (bI r5) = 0) → (RI G Y_X8_lacks [.ref 58, .int a1, .int a2, .int a3] I4 (fun I7 r8 => ((r8 = 0) → ((vp_in (((60 : Int32) * a1) + a3) 240) ∧ (Q I7 (I7 61 (nn (((60 : Int32) * a1) + a3)))))) ∧ ((¬ r8 = 0) → (Q I7 (-2147483648 : Int32))))))))))) : RI G Y_X8_get [.ref 58, .int a1, .int a2, .int a3] I Q := by
  refine ret_of (show plainName RX8 = true by decide) (Nat.le_of_ble_eq_true rfl) ?_
  show Go G Y_X8_get 0 [(0, .ref 58), (1, .int a1), (2, .int a2), (3, .int a3)] [] SH I 0 0 _
  refine go_iload_n dX8_get_0 rfl 1 rfl ?_
  refine go_scall (Z := Y_X8_isSheet) (As := [.int a1]) (S := []) dX8_get_1 ok_X8_isSheet l_X8_82 (by decide) rfl rfl (Nat.le_of_ble_eq_true rfl) h (fun _ I1 _ hq => ?_)
  obtain ⟨rfl, r2, rfl, h⟩ := hq
  show Go G Y_X8_get 4 [(0, .ref 58), (1, .int a1), (2, .int a2), (3, .int a3)] [.int (bI r2)] SH I1 0 0 _
  refine go_if_eq (tgt := 29) dX8_get_4 (by decide) (fun c3 => ?_) (fun c3 => ?_)
  · have h := h.1 c3
    refine go_ldc dX8_get_29 k_X8_100 ?_
    exact go_iret dX8_get_31 rfl rfl (by decide) ⟨rfl, _, rfl, h⟩
  · have h := h.2 c3
    refine go_iload_n dX8_get_7 rfl 2 rfl ?_
    refine go_i2l dX8_get_8 ?_
    refine go_lconst dX8_get_9 (v := (0 : Int64)) (by decide) ?_
    refine go_ldc2 dX8_get_10 k_X8_86 ?_
    refine go_scall (Z := Y_X8_in) (As := [.long (a2.toInt64), .long (0 : Int64), .long (2 : Int64)]) (S := []) dX8_get_13 ok_X8_in l_X8_72 (by decide) rfl rfl (Nat.le_of_ble_eq_true rfl) h (fun _ I4 _ hq => ?_)
    obtain ⟨rfl, r5, rfl, h⟩ := hq
    show Go G Y_X8_get 16 [(0, .ref 58), (1, .int a1), (2, .int a2), (3, .int a3)] [.int (bI r5)] SH I4 0 0 _
    refine go_if_eq (tgt := 29) dX8_get_16 (by decide) (fun c6 => ?_) (fun c6 => ?_)
    · have h := h.1 c6
      refine go_ldc dX8_get_29 k_X8_100 ?_
      exact go_iret dX8_get_31 rfl rfl (by decide) ⟨rfl, _, rfl, h⟩
    · have h := h.2 c6
      refine go_aload_n dX8_get_19 rfl 0 rfl ?_
      refine go_iload_n dX8_get_20 rfl 1 rfl ?_
      refine go_iload_n dX8_get_21 rfl 2 rfl ?_
      refine go_iload_n dX8_get_22 rfl 3 rfl ?_
      refine go_vcall (Z := Y_X8_lacks) (As := [.int a1, .int a2, .int a3]) (S := []) dX8_get_23 ok_X8_lacks l_X8_92 (by decide) sh_58 (by decide) (Nat.le_of_ble_eq_true rfl) rfl rfl rfl (Nat.le_of_ble_eq_true rfl) h (fun _ I7 _ hq => ?_)
      obtain ⟨rfl, r8, rfl, h⟩ := hq
      show Go G Y_X8_get 26 [(0, .ref 58), (1, .int a1), (2, .int a2), (3, .int a3)] [.int r8] SH I7 0 0 _
      refine go_if_eq (tgt := 32) dX8_get_26 (by decide) (fun c9 => ?_) (fun c9 => ?_)
      · have h := h.1 c9
        refine go_aload_n dX8_get_32 rfl 0 rfl ?_
        refine go_getR dX8_get_33 sh_58 (by decide) f_X8_16 ⟨Nat.le_of_ble_eq_true rfl, Nat.le_of_ble_eq_true rfl, rfl⟩ rfl ?_
        refine go_bipush dX8_get_36 (v := (60 : Int32)) (by decide) ?_
        refine go_iload_n dX8_get_38 rfl 1 rfl ?_
        refine go_imul dX8_get_39 ?_
        refine go_iload_n dX8_get_40 rfl 3 rfl ?_
        refine go_iadd dX8_get_41 ?_
        have hb10 := h.1
        have h := h.2
        refine go_iald dX8_get_42 sh_61 (by decide) hb10 rfl ?_
        exact go_iret dX8_get_43 rfl rfl (by decide) ⟨rfl, _, rfl, h⟩
      · have h := h.2 c9
        refine go_ldc dX8_get_29 k_X8_100 ?_
        exact go_iret dX8_get_31 rfl rfl (by decide) ⟨rfl, _, rfl, h⟩
set_option maxRecDepth 100000 in
set_option maxHeartbeats 4000000 in
theorem v_X8_copy {G : CX} {a1 : Int32} {a2 : Int32} {a3 : Int32} {a4 : Int32} {a5 : Int32}  {I : HP} {Q : HP → Int32 → Prop} (h : RZ G Y_X8_isSheet [.int a1] I (fun I1 r2 => (((bI r2) = 0) → (Q I1 (-2 : Int32))) ∧ ((¬ (bI r2) = 0) → (RZ G Y_X8_isSheet [.int a3] I1 (fun I4 r5 => ((¬ (bI r5) = 0) → ((vp_in a1 4) ∧ ((((I4 59 (nn a1)) < 0) → (RI G Y_X8_met [.ref 58, .int (1 : Int32)] I4 (fun I9 r10 => Q I9 r10))) ∧ ((¬ (I4 59 (nn a1)) < 0) → ((vp_in a3 4) ∧ (((0 ≤ (I4 59 (nn a3))) → ((((I4 59 (nn a1)) = (I4 59 (nn a3))) → (((a2 < 0) → (RI G Y_X8_met [.ref 58, .int (2 : Int32)] I4 (fun I15 r16 => Q I15 r16))) ∧ ((¬ a2 < 0) → (((a4 < 0) → (RI G Y_X8_met [.ref 58, .int (2 : Int32)] I4 (fun I18 r19 => Q I18 r19))) ∧ ((¬ a4 < 0) → (((a5 < 0) → (RI G Y_X8_met [.ref 58, .int (2 : Int32)] I4 (fun I21 r22 => Q I21 r22))) ∧ ((¬ a5 < 0) → (((0 < (lg_cmp ((a2.toInt64) + (a5.toInt64)) ((I4 60 (nn a1)).toInt64))) → (RI G Y_X8_met [.ref 58, .int (2 : Int32)] I4 (fun I24 r25 => Q I24 r25))) ∧ ((¬ 0 < (lg_cmp ((a2.toInt64) + (a5.toInt64)) ((I4 60 (nn a1)).toInt64))) → ((((lg_cmp ((a4.toInt64) + (a5.toInt64)) ((I4 60 (nn a3)).toInt64)) ≤ 0) → (GI G Y_X8_copy 120 [(0, .ref 58), (1, .int a1), (2, .int a2), (3, .int a3), (4, .int a4), (5, .int a5), (6, .int (0 : Int32))] I4 Q)) ∧ ((¬ (lg_cmp ((a4.toInt64) + (a5.toInt64)) ((I4 60 (nn a3)).toInt64)) ≤ 0) → (RI G Y_X8_met [.ref 58, .int (2 : Int32)] I4 (fun I27 r28 => Q I27 r28))))))))))))) ∧ ((¬ (I4 59 (nn a1)) = (I4 59 (nn a3))) → (RI G Y_X8_met [.ref 58, .int (4 : Int32)] I4 (fun I29 r30 => Q I29 r30))))) ∧ ((¬ 0 ≤ (I4 59 (nn a3))) → (RI G Y_X8_met [.ref 58, .int (1 : Int32)] I4 (fun I31 r32 => Q I31 r32))))))))) ∧ (((bI r5) = 0) → (Q I4 (-2 : Int32)))))))) : RI G Y_X8_copy [.ref 58, .int a1, .int a2, .int a3, .int a4, .int a5] I Q := by
  refine ret_of (show plainName RX8 = true by decide) (Nat.le_of_ble_eq_true rfl) ?_
  show Go G Y_X8_copy 0 [(0, .ref 58), (1, .int a1), (2, .int a2), (3, .int a3), (4, .int a4), (5, .int a5)] [] SH I 0 0 _
  refine go_iload_n dX8_copy_0 rfl 1 rfl ?_
  refine go_scall (Z := Y_X8_isSheet) (As := [.int a1]) (S := []) dX8_copy_1 ok_X8_isSheet l_X8_82 (by decide) rfl rfl (Nat.le_of_ble_eq_true rfl) h (fun _ I1 _ hq => ?_)
  obtain ⟨rfl, r2, rfl, h⟩ := hq
  show Go G Y_X8_copy 4 [(0, .ref 58), (1, .int a1), (2, .int a2), (3, .int a3), (4, .int a4), (5, .int a5)] [.int (bI r2)] SH I1 0 0 _
  refine go_if_eq (tgt := 14) dX8_copy_4 (by decide) (fun c3 => ?_) (fun c3 => ?_)
  · have h := h.1 c3
    refine go_bipush dX8_copy_14 (v := (-2 : Int32)) (by decide) ?_
    exact go_iret dX8_copy_16 rfl rfl (by decide) ⟨rfl, _, rfl, h⟩
  · have h := h.2 c3
    refine go_iload_n dX8_copy_7 rfl 3 rfl ?_
    refine go_scall (Z := Y_X8_isSheet) (As := [.int a3]) (S := []) dX8_copy_8 ok_X8_isSheet l_X8_82 (by decide) rfl rfl (Nat.le_of_ble_eq_true rfl) h (fun _ I4 _ hq => ?_)
    obtain ⟨rfl, r5, rfl, h⟩ := hq
    show Go G Y_X8_copy 11 [(0, .ref 58), (1, .int a1), (2, .int a2), (3, .int a3), (4, .int a4), (5, .int a5)] [.int (bI r5)] SH I4 0 0 _
    refine go_if_ne (tgt := 17) dX8_copy_11 (by decide) (fun c6 => ?_) (fun c6 => ?_)
    · have h := h.1 c6
      refine go_aload_n dX8_copy_17 rfl 0 rfl ?_
      refine go_getR dX8_copy_18 sh_58 (by decide) f_X8_7 ⟨Nat.le_of_ble_eq_true rfl, Nat.le_of_ble_eq_true rfl, rfl⟩ rfl ?_
      refine go_iload_n dX8_copy_21 rfl 1 rfl ?_
      have hb7 := h.1
      have h := h.2
      refine go_iald dX8_copy_22 sh_59 (by decide) hb7 rfl ?_
      refine go_if_lt (tgt := 35) dX8_copy_23 (by decide) (fun c8 => ?_) (fun c8 => ?_)
      · have h := h.1 c8
        refine go_aload_n dX8_copy_35 rfl 0 rfl ?_
        refine go_iconst dX8_copy_36 (v := (1 : Int32)) (by decide) ?_
        refine go_vcall (Z := Y_X8_met) (As := [.int (1 : Int32)]) (S := []) dX8_copy_37 ok_X8_met l_X8_88 (by decide) sh_58 (by decide) (Nat.le_of_ble_eq_true rfl) rfl rfl rfl (Nat.le_of_ble_eq_true rfl) h (fun _ I9 _ hq => ?_)
        obtain ⟨rfl, r10, rfl, h⟩ := hq
        show Go G Y_X8_copy 40 [(0, .ref 58), (1, .int a1), (2, .int a2), (3, .int a3), (4, .int a4), (5, .int a5)] [.int r10] SH I9 0 0 _
        exact go_iret dX8_copy_40 rfl rfl (by decide) ⟨rfl, _, rfl, h⟩
      · have h := h.2 c8
        refine go_aload_n dX8_copy_26 rfl 0 rfl ?_
        refine go_getR dX8_copy_27 sh_58 (by decide) f_X8_7 ⟨Nat.le_of_ble_eq_true rfl, Nat.le_of_ble_eq_true rfl, rfl⟩ rfl ?_
        refine go_iload_n dX8_copy_30 rfl 3 rfl ?_
        have hb11 := h.1
        have h := h.2
        refine go_iald dX8_copy_31 sh_59 (by decide) hb11 rfl ?_
        refine go_if_ge (tgt := 41) dX8_copy_32 (by decide) (fun c12 => ?_) (fun c12 => ?_)
        · have h := h.1 c12
          refine go_aload_n dX8_copy_41 rfl 0 rfl ?_
          refine go_getR dX8_copy_42 sh_58 (by decide) f_X8_7 ⟨Nat.le_of_ble_eq_true rfl, Nat.le_of_ble_eq_true rfl, rfl⟩ rfl ?_
          refine go_iload_n dX8_copy_45 rfl 1 rfl ?_
          refine go_iald dX8_copy_46 sh_59 (by decide) hb7 rfl ?_
          refine go_aload_n dX8_copy_47 rfl 0 rfl ?_
          refine go_getR dX8_copy_48 sh_58 (by decide) f_X8_7 ⟨Nat.le_of_ble_eq_true rfl, Nat.le_of_ble_eq_true rfl, rfl⟩ rfl ?_
          refine go_iload_n dX8_copy_51 rfl 3 rfl ?_
          refine go_iald dX8_copy_52 sh_59 (by decide) hb11 rfl ?_
          refine go_icmp_eq (tgt := 62) dX8_copy_53 (by decide) (fun c13 => ?_) (fun c13 => ?_)
          · have h := h.1 c13
            refine go_iload_n dX8_copy_62 rfl 2 rfl ?_
            refine go_if_lt (tgt := 111) dX8_copy_63 (by decide) (fun c14 => ?_) (fun c14 => ?_)
            · have h := h.1 c14
              refine go_aload_n dX8_copy_111 rfl 0 rfl ?_
              refine go_iconst dX8_copy_112 (v := (2 : Int32)) (by decide) ?_
              refine go_vcall (Z := Y_X8_met) (As := [.int (2 : Int32)]) (S := []) dX8_copy_113 ok_X8_met l_X8_88 (by decide) sh_58 (by decide) (Nat.le_of_ble_eq_true rfl) rfl rfl rfl (Nat.le_of_ble_eq_true rfl) h (fun _ I15 _ hq => ?_)
              obtain ⟨rfl, r16, rfl, h⟩ := hq
              show Go G Y_X8_copy 116 [(0, .ref 58), (1, .int a1), (2, .int a2), (3, .int a3), (4, .int a4), (5, .int a5)] [.int r16] SH I15 0 0 _
              exact go_iret dX8_copy_116 rfl rfl (by decide) ⟨rfl, _, rfl, h⟩
            · have h := h.2 c14
              refine go_iload dX8_copy_66 4 rfl ?_
              refine go_if_lt (tgt := 111) dX8_copy_68 (by decide) (fun c17 => ?_) (fun c17 => ?_)
              · have h := h.1 c17
                refine go_aload_n dX8_copy_111 rfl 0 rfl ?_
                refine go_iconst dX8_copy_112 (v := (2 : Int32)) (by decide) ?_
                refine go_vcall (Z := Y_X8_met) (As := [.int (2 : Int32)]) (S := []) dX8_copy_113 ok_X8_met l_X8_88 (by decide) sh_58 (by decide) (Nat.le_of_ble_eq_true rfl) rfl rfl rfl (Nat.le_of_ble_eq_true rfl) h (fun _ I18 _ hq => ?_)
                obtain ⟨rfl, r19, rfl, h⟩ := hq
                show Go G Y_X8_copy 116 [(0, .ref 58), (1, .int a1), (2, .int a2), (3, .int a3), (4, .int a4), (5, .int a5)] [.int r19] SH I18 0 0 _
                exact go_iret dX8_copy_116 rfl rfl (by decide) ⟨rfl, _, rfl, h⟩
              · have h := h.2 c17
                refine go_iload dX8_copy_71 5 rfl ?_
                refine go_if_lt (tgt := 111) dX8_copy_73 (by decide) (fun c20 => ?_) (fun c20 => ?_)
                · have h := h.1 c20
                  refine go_aload_n dX8_copy_111 rfl 0 rfl ?_
                  refine go_iconst dX8_copy_112 (v := (2 : Int32)) (by decide) ?_
                  refine go_vcall (Z := Y_X8_met) (As := [.int (2 : Int32)]) (S := []) dX8_copy_113 ok_X8_met l_X8_88 (by decide) sh_58 (by decide) (Nat.le_of_ble_eq_true rfl) rfl rfl rfl (Nat.le_of_ble_eq_true rfl) h (fun _ I21 _ hq => ?_)
                  obtain ⟨rfl, r22, rfl, h⟩ := hq
                  show Go G Y_X8_copy 116 [(0, .ref 58), (1, .int a1), (2, .int a2), (3, .int a3), (4, .int a4), (5, .int a5)] [.int r22] SH I21 0 0 _
                  exact go_iret dX8_copy_116 rfl rfl (by decide) ⟨rfl, _, rfl, h⟩
                · have h := h.2 c20
                  refine go_iload_n dX8_copy_76 rfl 2 rfl ?_
                  refine go_i2l dX8_copy_77 ?_
                  refine go_iload dX8_copy_78 5 rfl ?_
                  refine go_i2l dX8_copy_80 ?_
                  refine go_ladd dX8_copy_81 ?_
                  refine go_aload_n dX8_copy_82 rfl 0 rfl ?_
                  refine go_getR dX8_copy_83 sh_58 (by decide) f_X8_13 ⟨Nat.le_of_ble_eq_true rfl, Nat.le_of_ble_eq_true rfl, rfl⟩ rfl ?_
                  refine go_iload_n dX8_copy_86 rfl 1 rfl ?_
                  refine go_iald dX8_copy_87 sh_60 (by decide) hb7 rfl ?_
                  refine go_i2l dX8_copy_88 ?_
                  refine go_lcmp dX8_copy_89 ?_
                  refine go_if_gt (tgt := 111) dX8_copy_90 (by decide) (fun c23 => ?_) (fun c23 => ?_)
                  · have h := h.1 c23
                    refine go_aload_n dX8_copy_111 rfl 0 rfl ?_
                    refine go_iconst dX8_copy_112 (v := (2 : Int32)) (by decide) ?_
                    refine go_vcall (Z := Y_X8_met) (As := [.int (2 : Int32)]) (S := []) dX8_copy_113 ok_X8_met l_X8_88 (by decide) sh_58 (by decide) (Nat.le_of_ble_eq_true rfl) rfl rfl rfl (Nat.le_of_ble_eq_true rfl) h (fun _ I24 _ hq => ?_)
                    obtain ⟨rfl, r25, rfl, h⟩ := hq
                    show Go G Y_X8_copy 116 [(0, .ref 58), (1, .int a1), (2, .int a2), (3, .int a3), (4, .int a4), (5, .int a5)] [.int r25] SH I24 0 0 _
                    exact go_iret dX8_copy_116 rfl rfl (by decide) ⟨rfl, _, rfl, h⟩
                  · have h := h.2 c23
                    refine go_iload dX8_copy_93 4 rfl ?_
                    refine go_i2l dX8_copy_95 ?_
                    refine go_iload dX8_copy_96 5 rfl ?_
                    refine go_i2l dX8_copy_98 ?_
                    refine go_ladd dX8_copy_99 ?_
                    refine go_aload_n dX8_copy_100 rfl 0 rfl ?_
                    refine go_getR dX8_copy_101 sh_58 (by decide) f_X8_13 ⟨Nat.le_of_ble_eq_true rfl, Nat.le_of_ble_eq_true rfl, rfl⟩ rfl ?_
                    refine go_iload_n dX8_copy_104 rfl 3 rfl ?_
                    refine go_iald dX8_copy_105 sh_60 (by decide) hb11 rfl ?_
                    refine go_i2l dX8_copy_106 ?_
                    refine go_lcmp dX8_copy_107 ?_
                    refine go_if_le (tgt := 117) dX8_copy_108 (by decide) (fun c26 => ?_) (fun c26 => ?_)
                    · have h := h.1 c26
                      refine go_iconst dX8_copy_117 (v := (0 : Int32)) (by decide) ?_
                      refine go_istore dX8_copy_118 (Nat.le_of_ble_eq_true rfl) (L2 := [(6, .int (0 : Int32)), (0, .ref 58), (1, .int a1), (2, .int a2), (3, .int a3), (4, .int a4), (5, .int a5)]) rfl ?_
                      exact go_loc [(0, .ref 58), (1, .int a1), (2, .int a2), (3, .int a3), (4, .int a4), (5, .int a5), (6, .int (0 : Int32))] [1, 2, 3, 4, 5, 6, 0] rfl h
                    · have h := h.2 c26
                      refine go_aload_n dX8_copy_111 rfl 0 rfl ?_
                      refine go_iconst dX8_copy_112 (v := (2 : Int32)) (by decide) ?_
                      refine go_vcall (Z := Y_X8_met) (As := [.int (2 : Int32)]) (S := []) dX8_copy_113 ok_X8_met l_X8_88 (by decide) sh_58 (by decide) (Nat.le_of_ble_eq_true rfl) rfl rfl rfl (Nat.le_of_ble_eq_true rfl) h (fun _ I27 _ hq => ?_)
                      obtain ⟨rfl, r28, rfl, h⟩ := hq
                      show Go G Y_X8_copy 116 [(0, .ref 58), (1, .int a1), (2, .int a2), (3, .int a3), (4, .int a4), (5, .int a5)] [.int r28] SH I27 0 0 _
                      exact go_iret dX8_copy_116 rfl rfl (by decide) ⟨rfl, _, rfl, h⟩
          · have h := h.2 c13
            refine go_aload_n dX8_copy_56 rfl 0 rfl ?_
            refine go_iconst dX8_copy_57 (v := (4 : Int32)) (by decide) ?_
            refine go_vcall (Z := Y_X8_met) (As := [.int (4 : Int32)]) (S := []) dX8_copy_58 ok_X8_met l_X8_88 (by decide) sh_58 (by decide) (Nat.le_of_ble_eq_true rfl) rfl rfl rfl (Nat.le_of_ble_eq_true rfl) h (fun _ I29 _ hq => ?_)
            obtain ⟨rfl, r30, rfl, h⟩ := hq
            show Go G Y_X8_copy 61 [(0, .ref 58), (1, .int a1), (2, .int a2), (3, .int a3), (4, .int a4), (5, .int a5)] [.int r30] SH I29 0 0 _
            exact go_iret dX8_copy_61 rfl rfl (by decide) ⟨rfl, _, rfl, h⟩
        · have h := h.2 c12
          refine go_aload_n dX8_copy_35 rfl 0 rfl ?_
          refine go_iconst dX8_copy_36 (v := (1 : Int32)) (by decide) ?_
          refine go_vcall (Z := Y_X8_met) (As := [.int (1 : Int32)]) (S := []) dX8_copy_37 ok_X8_met l_X8_88 (by decide) sh_58 (by decide) (Nat.le_of_ble_eq_true rfl) rfl rfl rfl (Nat.le_of_ble_eq_true rfl) h (fun _ I31 _ hq => ?_)
          obtain ⟨rfl, r32, rfl, h⟩ := hq
          show Go G Y_X8_copy 40 [(0, .ref 58), (1, .int a1), (2, .int a2), (3, .int a3), (4, .int a4), (5, .int a5)] [.int r32] SH I31 0 0 _
          exact go_iret dX8_copy_40 rfl rfl (by decide) ⟨rfl, _, rfl, h⟩
    · have h := h.2 c6
      refine go_bipush dX8_copy_14 (v := (-2 : Int32)) (by decide) ?_
      exact go_iret dX8_copy_16 rfl rfl (by decide) ⟨rfl, _, rfl, h⟩
set_option maxRecDepth 100000 in
set_option maxHeartbeats 4000000 in
theorem v_X8_copy_120 {G : CX} {x1 : Int32} {x2 : Int32} {x3 : Int32} {x4 : Int32} {x5 : Int32} {x6 : Int32}  {I : HP} {Q : HP → Int32 → Prop} (h : ((x5 ≤ x6) → (GI G Y_X8_copy 157 [(0, .ref 58), (3, .int x3), (4, .int x4), (5, .int x5), (6, .int (0 : Int32))] I Q)) ∧ ((¬ x5 ≤ x6) → ((vp_in ((((60 : Int32) * x1) + x2) + x6) 240) ∧ ((vp_in x6 60) ∧ (GI G Y_X8_copy 120 [(0, .ref 58), (1, .int x1), (2, .int x2), (3, .int x3), (4, .int x4), (5, .int x5), (6, .int (x6 + 1))] (st I 62 (nn x6) (I 61 (nn ((((60 : Int32) * x1) + x2) + x6)))) Q))))) : GI G Y_X8_copy 120 [(0, .ref 58), (1, .int x1), (2, .int x2), (3, .int x3), (4, .int x4), (5, .int x5), (6, .int x6)] I Q := by
  show Go G Y_X8_copy 120 [(0, .ref 58), (1, .int x1), (2, .int x2), (3, .int x3), (4, .int x4), (5, .int x5), (6, .int x6)] [] SH I 0 0 _
  refine go_iload dX8_copy_120 6 rfl ?_
  refine go_iload dX8_copy_122 5 rfl ?_
  refine go_icmp_ge (tgt := 154) dX8_copy_124 (by decide) (fun c1 => ?_) (fun c1 => ?_)
  · have h := h.1 c1
    refine go_iconst dX8_copy_154 (v := (0 : Int32)) (by decide) ?_
    refine go_istore dX8_copy_155 (Nat.le_of_ble_eq_true rfl) (L2 := [(6, .int (0 : Int32)), (0, .ref 58), (1, .int x1), (2, .int x2), (3, .int x3), (4, .int x4), (5, .int x5)]) rfl ?_
    exact go_loc [(0, .ref 58), (3, .int x3), (4, .int x4), (5, .int x5), (6, .int (0 : Int32))] [1, 4, 5, 6, 0] rfl h
  · have h := h.2 c1
    refine go_aload_n dX8_copy_127 rfl 0 rfl ?_
    refine go_getR dX8_copy_128 sh_58 (by decide) f_X8_19 ⟨Nat.le_of_ble_eq_true rfl, Nat.le_of_ble_eq_true rfl, rfl⟩ rfl ?_
    refine go_iload dX8_copy_131 6 rfl ?_
    refine go_aload_n dX8_copy_133 rfl 0 rfl ?_
    refine go_getR dX8_copy_134 sh_58 (by decide) f_X8_16 ⟨Nat.le_of_ble_eq_true rfl, Nat.le_of_ble_eq_true rfl, rfl⟩ rfl ?_
    refine go_bipush dX8_copy_137 (v := (60 : Int32)) (by decide) ?_
    refine go_iload_n dX8_copy_139 rfl 1 rfl ?_
    refine go_imul dX8_copy_140 ?_
    refine go_iload_n dX8_copy_141 rfl 2 rfl ?_
    refine go_iadd dX8_copy_142 ?_
    refine go_iload dX8_copy_143 6 rfl ?_
    refine go_iadd dX8_copy_145 ?_
    have hb2 := h.1
    have h := h.2
    refine go_iald dX8_copy_146 sh_61 (by decide) hb2 rfl ?_
    have hb3 := h.1
    have h := h.2
    refine go_iast dX8_copy_147 sh_62 (by decide) hb3 (j := (nn x6)) rfl ?_
    refine go_iinc dX8_copy_148 6 rfl (v := (x6 + 1)) rfl (Nat.le_of_ble_eq_true rfl) (L2 := [(6, .int (x6 + 1)), (0, .ref 58), (1, .int x1), (2, .int x2), (3, .int x3), (4, .int x4), (5, .int x5)]) rfl ?_
    refine go_goto (tgt := 120) dX8_copy_151 (by decide) ?_
    exact go_loc [(0, .ref 58), (1, .int x1), (2, .int x2), (3, .int x3), (4, .int x4), (5, .int x5), (6, .int (x6 + 1))] [1, 2, 3, 4, 5, 6, 0] rfl h
set_option maxRecDepth 100000 in
set_option maxHeartbeats 4000000 in
theorem v_X8_copy_157 {G : CX} {x3 : Int32} {x4 : Int32} {x5 : Int32} {x6 : Int32}  {I : HP} {Q : HP → Int32 → Prop} (h : ((x5 ≤ x6) → (Q I (1 : Int32))) ∧ ((¬ x5 ≤ x6) → ((vp_in x6 60) ∧ ((vp_in ((((60 : Int32) * x3) + x4) + x6) 240) ∧ (GI G Y_X8_copy 157 [(0, .ref 58), (3, .int x3), (4, .int x4), (5, .int x5), (6, .int (x6 + 1))] (st I 61 (nn ((((60 : Int32) * x3) + x4) + x6)) (I 62 (nn x6))) Q))))) : GI G Y_X8_copy 157 [(0, .ref 58), (3, .int x3), (4, .int x4), (5, .int x5), (6, .int x6)] I Q := by
  show Go G Y_X8_copy 157 [(0, .ref 58), (3, .int x3), (4, .int x4), (5, .int x5), (6, .int x6)] [] SH I 0 0 _
  refine go_iload dX8_copy_157 4 rfl ?_
  refine go_iload dX8_copy_159 3 rfl ?_
  refine go_icmp_ge (tgt := 192) dX8_copy_161 (by decide) (fun c1 => ?_) (fun c1 => ?_)
  · have h := h.1 c1
    refine go_iconst dX8_copy_192 (v := (1 : Int32)) (by decide) ?_
    exact go_iret dX8_copy_193 rfl rfl (by decide) ⟨rfl, _, rfl, h⟩
  · have h := h.2 c1
    refine go_aload_n dX8_copy_164 rfl 0 rfl ?_
    refine go_getR dX8_copy_165 sh_58 (by decide) f_X8_16 ⟨Nat.le_of_ble_eq_true rfl, Nat.le_of_ble_eq_true rfl, rfl⟩ rfl ?_
    refine go_bipush dX8_copy_168 (v := (60 : Int32)) (by decide) ?_
    refine go_iload_n dX8_copy_170 rfl 1 rfl ?_
    refine go_imul dX8_copy_171 ?_
    refine go_iload dX8_copy_172 2 rfl ?_
    refine go_iadd dX8_copy_174 ?_
    refine go_iload dX8_copy_175 4 rfl ?_
    refine go_iadd dX8_copy_177 ?_
    refine go_aload_n dX8_copy_178 rfl 0 rfl ?_
    refine go_getR dX8_copy_179 sh_58 (by decide) f_X8_19 ⟨Nat.le_of_ble_eq_true rfl, Nat.le_of_ble_eq_true rfl, rfl⟩ rfl ?_
    refine go_iload dX8_copy_182 4 rfl ?_
    have hb2 := h.1
    have h := h.2
    refine go_iald dX8_copy_184 sh_62 (by decide) hb2 rfl ?_
    have hb3 := h.1
    have h := h.2
    refine go_iast dX8_copy_185 sh_61 (by decide) hb3 (j := (nn ((((60 : Int32) * x3) + x4) + x6))) rfl ?_
    refine go_iinc dX8_copy_186 4 rfl (v := (x6 + 1)) rfl (Nat.le_of_ble_eq_true rfl) (L2 := [(6, .int (x6 + 1)), (0, .ref 58), (3, .int x3), (4, .int x4), (5, .int x5)]) rfl ?_
    refine go_goto (tgt := 157) dX8_copy_189 (by decide) ?_
    exact go_loc [(0, .ref 58), (3, .int x3), (4, .int x4), (5, .int x5), (6, .int (x6 + 1))] [1, 2, 3, 4, 0] rfl h
set_option maxRecDepth 100000 in
set_option maxHeartbeats 4000000 in
theorem v_X8_type {G : CX} {a1 : Int32} {a2 : Int32}  {I : HP} {Q : HP → Int32 → Prop} (h : RZ G Y_X8_isTwo [.int a1] I (fun I1 r2 => (((bI r2) = 0) → (Q I1 (-2 : Int32))) ∧ ((¬ (bI r2) = 0) → (RZ G Y_X8_in [.long (a2.toInt64), .long (0 : Int64), .long (255 : Int64)] I1 (fun I4 r5 => ((¬ (bI r5) = 0) → ((vp_in a1 2) ∧ (((¬ a1 = 0) → (((¬ (I4 64 (nn a1)) = (19 : Int32)) → ((vp_in (((60 : Int32) * a1) + (I4 64 (nn a1))) 120) ∧ (∀ I11 : HP, I11 = (st (st I4 63 (nn (((60 : Int32) * a1) + (I4 64 (nn a1)))) a2) 64 (nn a1) (((st I4 63 (nn (((60 : Int32) * a1) + (I4 64 (nn a1)))) a2) 64 (nn a1)) + (1 : Int32))) → Q I11 (I11 64 (nn a1))))) ∧ (((I4 64 (nn a1)) = (19 : Int32)) → (Q I4 (-4 : Int32))))) ∧ ((a1 = 0) → (((¬ (I4 64 (nn a1)) = (59 : Int32)) → ((vp_in (((60 : Int32) * a1) + (I4 64 (nn a1))) 120) ∧ (∀ I14 : HP, I14 = (st (st I4 63 (nn (((60 : Int32) * a1) + (I4 64 (nn a1)))) a2) 64 (nn a1) (((st I4 63 (nn (((60 : Int32) * a1) + (I4 64 (nn a1)))) a2) 64 (nn a1)) + (1 : Int32))) → Q I14 (I14 64 (nn a1))))) ∧ (((I4 64 (nn a1)) = (59 : Int32)) → (Q I4 (-4 : Int32)))))))) ∧ (((bI r5) = 0) → (Q I4 (-2 : Int32)))))))) : RI G Y_X8_type [.ref 58, .int a1, .int a2] I Q := by
  refine ret_of (show plainName RX8 = true by decide) (Nat.le_of_ble_eq_true rfl) ?_
  show Go G Y_X8_type 0 [(0, .ref 58), (1, .int a1), (2, .int a2)] [] SH I 0 0 _
  refine go_iload_n dX8_type_0 rfl 1 rfl ?_
  refine go_scall (Z := Y_X8_isTwo) (As := [.int a1]) (S := []) dX8_type_1 ok_X8_isTwo l_X8_101 (by decide) rfl rfl (Nat.le_of_ble_eq_true rfl) h (fun _ I1 _ hq => ?_)
  obtain ⟨rfl, r2, rfl, h⟩ := hq
  show Go G Y_X8_type 4 [(0, .ref 58), (1, .int a1), (2, .int a2)] [.int (bI r2)] SH I1 0 0 _
  refine go_if_eq (tgt := 19) dX8_type_4 (by decide) (fun c3 => ?_) (fun c3 => ?_)
  · have h := h.1 c3
    refine go_bipush dX8_type_19 (v := (-2 : Int32)) (by decide) ?_
    exact go_iret dX8_type_21 rfl rfl (by decide) ⟨rfl, _, rfl, h⟩
  · have h := h.2 c3
    refine go_iload_n dX8_type_7 rfl 2 rfl ?_
    refine go_i2l dX8_type_8 ?_
    refine go_lconst dX8_type_9 (v := (0 : Int64)) (by decide) ?_
    refine go_ldc2 dX8_type_10 k_X8_104 ?_
    refine go_scall (Z := Y_X8_in) (As := [.long (a2.toInt64), .long (0 : Int64), .long (255 : Int64)]) (S := []) dX8_type_13 ok_X8_in l_X8_72 (by decide) rfl rfl (Nat.le_of_ble_eq_true rfl) h (fun _ I4 _ hq => ?_)
    obtain ⟨rfl, r5, rfl, h⟩ := hq
    show Go G Y_X8_type 16 [(0, .ref 58), (1, .int a1), (2, .int a2)] [.int (bI r5)] SH I4 0 0 _
    refine go_if_ne (tgt := 22) dX8_type_16 (by decide) (fun c6 => ?_) (fun c6 => ?_)
    · have h := h.1 c6
      refine go_aload_n dX8_type_22 rfl 0 rfl ?_
      refine go_getR dX8_type_23 sh_58 (by decide) f_X8_25 ⟨Nat.le_of_ble_eq_true rfl, Nat.le_of_ble_eq_true rfl, rfl⟩ rfl ?_
      refine go_iload_n dX8_type_26 rfl 1 rfl ?_
      have hb7 := h.1
      have h := h.2
      refine go_iald dX8_type_27 sh_64 (by decide) hb7 rfl ?_
      refine go_iload_n dX8_type_28 rfl 1 rfl ?_
      refine go_if_ne (tgt := 37) dX8_type_29 (by decide) (fun c8 => ?_) (fun c8 => ?_)
      · have h := h.1 c8
        refine go_bipush dX8_type_37 (v := (19 : Int32)) (by decide) ?_
        refine go_icmp_ne (tgt := 45) dX8_type_39 (by decide) (fun c9 => ?_) (fun c9 => ?_)
        · have h := h.1 c9
          refine go_aload_n dX8_type_45 rfl 0 rfl ?_
          refine go_getR dX8_type_46 sh_58 (by decide) f_X8_22 ⟨Nat.le_of_ble_eq_true rfl, Nat.le_of_ble_eq_true rfl, rfl⟩ rfl ?_
          refine go_bipush dX8_type_49 (v := (60 : Int32)) (by decide) ?_
          refine go_iload_n dX8_type_51 rfl 1 rfl ?_
          refine go_imul dX8_type_52 ?_
          refine go_aload_n dX8_type_53 rfl 0 rfl ?_
          refine go_getR dX8_type_54 sh_58 (by decide) f_X8_25 ⟨Nat.le_of_ble_eq_true rfl, Nat.le_of_ble_eq_true rfl, rfl⟩ rfl ?_
          refine go_iload_n dX8_type_57 rfl 1 rfl ?_
          refine go_iald dX8_type_58 sh_64 (by decide) hb7 rfl ?_
          refine go_iadd dX8_type_59 ?_
          refine go_iload_n dX8_type_60 rfl 2 rfl ?_
          have hb10 := h.1
          have h := h.2
          refine go_iast dX8_type_61 sh_63 (by decide) hb10 (j := (nn (((60 : Int32) * a1) + (I4 64 (nn a1))))) rfl ?_
          refine go_aload_n dX8_type_62 rfl 0 rfl ?_
          refine go_getR dX8_type_63 sh_58 (by decide) f_X8_25 ⟨Nat.le_of_ble_eq_true rfl, Nat.le_of_ble_eq_true rfl, rfl⟩ rfl ?_
          refine go_iload_n dX8_type_66 rfl 1 rfl ?_
          refine go_dup2 dX8_type_67 rfl rfl ?_
          refine go_iald dX8_type_68 sh_64 (by decide) hb7 rfl ?_
          refine go_iconst dX8_type_69 (v := (1 : Int32)) (by decide) ?_
          refine go_iadd dX8_type_70 ?_
          refine go_iast dX8_type_71 sh_64 (by decide) hb7 (j := (nn a1)) rfl ?_
          refine go_nm (fun I11 eI11 => ?_)
          have h := h I11 eI11
          refine go_aload_n dX8_type_72 rfl 0 rfl ?_
          refine go_getR dX8_type_73 sh_58 (by decide) f_X8_25 ⟨Nat.le_of_ble_eq_true rfl, Nat.le_of_ble_eq_true rfl, rfl⟩ rfl ?_
          refine go_iload_n dX8_type_76 rfl 1 rfl ?_
          refine go_iald dX8_type_77 sh_64 (by decide) hb7 rfl ?_
          exact go_iret dX8_type_78 rfl rfl (by decide) ⟨rfl, _, rfl, h⟩
        · have h := h.2 c9
          refine go_bipush dX8_type_42 (v := (-4 : Int32)) (by decide) ?_
          exact go_iret dX8_type_44 rfl rfl (by decide) ⟨rfl, _, rfl, h⟩
      · have h := h.2 c8
        refine go_bipush dX8_type_32 (v := (59 : Int32)) (by decide) ?_
        refine go_goto (tgt := 39) dX8_type_34 (by decide) ?_
        refine go_icmp_ne (tgt := 45) dX8_type_39 (by decide) (fun c12 => ?_) (fun c12 => ?_)
        · have h := h.1 c12
          refine go_aload_n dX8_type_45 rfl 0 rfl ?_
          refine go_getR dX8_type_46 sh_58 (by decide) f_X8_22 ⟨Nat.le_of_ble_eq_true rfl, Nat.le_of_ble_eq_true rfl, rfl⟩ rfl ?_
          refine go_bipush dX8_type_49 (v := (60 : Int32)) (by decide) ?_
          refine go_iload_n dX8_type_51 rfl 1 rfl ?_
          refine go_imul dX8_type_52 ?_
          refine go_aload_n dX8_type_53 rfl 0 rfl ?_
          refine go_getR dX8_type_54 sh_58 (by decide) f_X8_25 ⟨Nat.le_of_ble_eq_true rfl, Nat.le_of_ble_eq_true rfl, rfl⟩ rfl ?_
          refine go_iload_n dX8_type_57 rfl 1 rfl ?_
          refine go_iald dX8_type_58 sh_64 (by decide) hb7 rfl ?_
          refine go_iadd dX8_type_59 ?_
          refine go_iload_n dX8_type_60 rfl 2 rfl ?_
          have hb13 := h.1
          have h := h.2
          refine go_iast dX8_type_61 sh_63 (by decide) hb13 (j := (nn (((60 : Int32) * a1) + (I4 64 (nn a1))))) rfl ?_
          refine go_aload_n dX8_type_62 rfl 0 rfl ?_
          refine go_getR dX8_type_63 sh_58 (by decide) f_X8_25 ⟨Nat.le_of_ble_eq_true rfl, Nat.le_of_ble_eq_true rfl, rfl⟩ rfl ?_
          refine go_iload_n dX8_type_66 rfl 1 rfl ?_
          refine go_dup2 dX8_type_67 rfl rfl ?_
          refine go_iald dX8_type_68 sh_64 (by decide) hb7 rfl ?_
          refine go_iconst dX8_type_69 (v := (1 : Int32)) (by decide) ?_
          refine go_iadd dX8_type_70 ?_
          refine go_iast dX8_type_71 sh_64 (by decide) hb7 (j := (nn a1)) rfl ?_
          refine go_nm (fun I14 eI14 => ?_)
          have h := h I14 eI14
          refine go_aload_n dX8_type_72 rfl 0 rfl ?_
          refine go_getR dX8_type_73 sh_58 (by decide) f_X8_25 ⟨Nat.le_of_ble_eq_true rfl, Nat.le_of_ble_eq_true rfl, rfl⟩ rfl ?_
          refine go_iload_n dX8_type_76 rfl 1 rfl ?_
          refine go_iald dX8_type_77 sh_64 (by decide) hb7 rfl ?_
          exact go_iret dX8_type_78 rfl rfl (by decide) ⟨rfl, _, rfl, h⟩
        · have h := h.2 c12
          refine go_bipush dX8_type_42 (v := (-4 : Int32)) (by decide) ?_
          exact go_iret dX8_type_44 rfl rfl (by decide) ⟨rfl, _, rfl, h⟩
    · have h := h.2 c6
      refine go_bipush dX8_type_19 (v := (-2 : Int32)) (by decide) ?_
      exact go_iret dX8_type_21 rfl rfl (by decide) ⟨rfl, _, rfl, h⟩
set_option maxRecDepth 100000 in
set_option maxHeartbeats 4000000 in
theorem v_X8_wipe {G : CX} {a1 : Int32}  {I : HP} {Q : HP → Int32 → Prop} (h : RZ G Y_X8_isTwo [.int a1] I (fun I1 r2 => ((¬ (bI r2) = 0) → ((vp_in a1 2) ∧ (Q (st I1 64 (nn a1) (0 : Int32)) (I1 64 (nn a1))))) ∧ (((bI r2) = 0) → (Q I1 (-2 : Int32))))) : RI G Y_X8_wipe [.ref 58, .int a1] I Q := by
  refine ret_of (show plainName RX8 = true by decide) (Nat.le_of_ble_eq_true rfl) ?_
  show Go G Y_X8_wipe 0 [(0, .ref 58), (1, .int a1)] [] SH I 0 0 _
  refine go_iload_n dX8_wipe_0 rfl 1 rfl ?_
  refine go_scall (Z := Y_X8_isTwo) (As := [.int a1]) (S := []) dX8_wipe_1 ok_X8_isTwo l_X8_101 (by decide) rfl rfl (Nat.le_of_ble_eq_true rfl) h (fun _ I1 _ hq => ?_)
  obtain ⟨rfl, r2, rfl, h⟩ := hq
  show Go G Y_X8_wipe 4 [(0, .ref 58), (1, .int a1)] [.int (bI r2)] SH I1 0 0 _
  refine go_if_ne (tgt := 10) dX8_wipe_4 (by decide) (fun c3 => ?_) (fun c3 => ?_)
  · have h := h.1 c3
    refine go_aload_n dX8_wipe_10 rfl 0 rfl ?_
    refine go_getR dX8_wipe_11 sh_58 (by decide) f_X8_25 ⟨Nat.le_of_ble_eq_true rfl, Nat.le_of_ble_eq_true rfl, rfl⟩ rfl ?_
    refine go_iload_n dX8_wipe_14 rfl 1 rfl ?_
    have hb4 := h.1
    have h := h.2
    refine go_iald dX8_wipe_15 sh_64 (by decide) hb4 rfl ?_
    refine go_istore_n dX8_wipe_16 rfl (Nat.le_of_ble_eq_true rfl) (L2 := [(2, .int (I1 64 (nn a1))), (0, .ref 58), (1, .int a1)]) rfl ?_
    refine go_aload_n dX8_wipe_17 rfl 1 rfl ?_
    refine go_getR dX8_wipe_18 sh_58 (by decide) f_X8_25 ⟨Nat.le_of_ble_eq_true rfl, Nat.le_of_ble_eq_true rfl, rfl⟩ rfl ?_
    refine go_iload_n dX8_wipe_21 rfl 2 rfl ?_
    refine go_iconst dX8_wipe_22 (v := (0 : Int32)) (by decide) ?_
    refine go_iast dX8_wipe_23 sh_64 (by decide) hb4 (j := (nn a1)) rfl ?_
    refine go_iload_n dX8_wipe_24 rfl 0 rfl ?_
    exact go_iret dX8_wipe_25 rfl rfl (by decide) ⟨rfl, _, rfl, h⟩
  · have h := h.2 c3
    refine go_bipush dX8_wipe_7 (v := (-2 : Int32)) (by decide) ?_
    exact go_iret dX8_wipe_9 rfl rfl (by decide) ⟨rfl, _, rfl, h⟩
set_option maxRecDepth 100000 in
set_option maxHeartbeats 4000000 in
theorem v_X8_here {G : CX} {a1 : Int32}  {I : HP} {Q : HP → Int32 → Prop} (h : (vp_in a1 2) ∧ ((((I 64 (nn a1)) ≤ (I 58 7)) → (Q I (-1 : Int32))) ∧ ((¬ (I 64 (nn a1)) ≤ (I 58 7)) → ((vp_in (((60 : Int32) * a1) + (I 58 7)) 120) ∧ (Q I (I 63 (nn (((60 : Int32) * a1) + (I 58 7))))))))) : RI G Y_X8_here [.ref 58, .int a1] I Q := by
  refine ret_of (show plainName RX8 = true by decide) (Nat.le_of_ble_eq_true rfl) ?_
  show Go G Y_X8_here 0 [(0, .ref 58), (1, .int a1)] [] SH I 0 0 _
  refine go_aload_n dX8_here_0 rfl 0 rfl ?_
  refine go_getI dX8_here_1 sh_58 (by decide) f_X8_106 ⟨Nat.le_of_ble_eq_true rfl, Nat.le_of_ble_eq_true rfl, rfl⟩ ?_
  refine go_aload_n dX8_here_4 rfl 0 rfl ?_
  refine go_getR dX8_here_5 sh_58 (by decide) f_X8_25 ⟨Nat.le_of_ble_eq_true rfl, Nat.le_of_ble_eq_true rfl, rfl⟩ rfl ?_
  refine go_iload_n dX8_here_8 rfl 1 rfl ?_
  have hb1 := h.1
  have h := h.2
  refine go_iald dX8_here_9 sh_64 (by decide) hb1 rfl ?_
  refine go_icmp_ge (tgt := 30) dX8_here_10 (by decide) (fun c2 => ?_) (fun c2 => ?_)
  · have h := h.1 c2
    refine go_iconst dX8_here_30 (v := (-1 : Int32)) (by decide) ?_
    exact go_iret dX8_here_31 rfl rfl (by decide) ⟨rfl, _, rfl, h⟩
  · have h := h.2 c2
    refine go_aload_n dX8_here_13 rfl 0 rfl ?_
    refine go_getR dX8_here_14 sh_58 (by decide) f_X8_22 ⟨Nat.le_of_ble_eq_true rfl, Nat.le_of_ble_eq_true rfl, rfl⟩ rfl ?_
    refine go_bipush dX8_here_17 (v := (60 : Int32)) (by decide) ?_
    refine go_iload_n dX8_here_19 rfl 1 rfl ?_
    refine go_imul dX8_here_20 ?_
    refine go_aload_n dX8_here_21 rfl 0 rfl ?_
    refine go_getI dX8_here_22 sh_58 (by decide) f_X8_106 ⟨Nat.le_of_ble_eq_true rfl, Nat.le_of_ble_eq_true rfl, rfl⟩ ?_
    refine go_iadd dX8_here_25 ?_
    have hb3 := h.1
    have h := h.2
    refine go_iald dX8_here_26 sh_63 (by decide) hb3 rfl ?_
    refine go_goto (tgt := 31) dX8_here_27 (by decide) ?_
    exact go_iret dX8_here_31 rfl rfl (by decide) ⟨rfl, _, rfl, h⟩
set_option maxRecDepth 100000 in
set_option maxHeartbeats 4000000 in
theorem v_X8_kindOf {G : CX} {a1 : Int32}  {I : HP} {Q : HP → Int32 → Prop} (h : ((¬ a1 = (112 : Int32)) → (((¬ a1 = (99 : Int32)) → (((¬ a1 = (108 : Int32)) → (((¬ a1 = (114 : Int32)) → (Q I (-1 : Int32))) ∧ ((a1 = (114 : Int32)) → (Q I (3 : Int32))))) ∧ ((a1 = (108 : Int32)) → (Q I (2 : Int32))))) ∧ ((a1 = (99 : Int32)) → (Q I (1 : Int32))))) ∧ ((a1 = (112 : Int32)) → (Q I (0 : Int32)))) : RI G Y_X8_kindOf [.int a1] I Q := by
  refine ret_of (show plainName RX8 = true by decide) (Nat.le_of_ble_eq_true rfl) ?_
  show Go G Y_X8_kindOf 0 [(0, .int a1)] [] SH I 0 0 _
  refine go_iload_n dX8_kindOf_0 rfl 0 rfl ?_
  refine go_bipush dX8_kindOf_1 (v := (112 : Int32)) (by decide) ?_
  refine go_icmp_ne (tgt := 10) dX8_kindOf_3 (by decide) (fun c1 => ?_) (fun c1 => ?_)
  · have h := h.1 c1
    refine go_iload_n dX8_kindOf_10 rfl 0 rfl ?_
    refine go_bipush dX8_kindOf_11 (v := (99 : Int32)) (by decide) ?_
    refine go_icmp_ne (tgt := 20) dX8_kindOf_13 (by decide) (fun c2 => ?_) (fun c2 => ?_)
    · have h := h.1 c2
      refine go_iload_n dX8_kindOf_20 rfl 0 rfl ?_
      refine go_bipush dX8_kindOf_21 (v := (108 : Int32)) (by decide) ?_
      refine go_icmp_ne (tgt := 30) dX8_kindOf_23 (by decide) (fun c3 => ?_) (fun c3 => ?_)
      · have h := h.1 c3
        refine go_iload_n dX8_kindOf_30 rfl 0 rfl ?_
        refine go_bipush dX8_kindOf_31 (v := (114 : Int32)) (by decide) ?_
        refine go_icmp_ne (tgt := 40) dX8_kindOf_33 (by decide) (fun c4 => ?_) (fun c4 => ?_)
        · have h := h.1 c4
          refine go_iconst dX8_kindOf_40 (v := (-1 : Int32)) (by decide) ?_
          exact go_iret dX8_kindOf_41 rfl rfl (by decide) ⟨rfl, _, rfl, h⟩
        · have h := h.2 c4
          refine go_iconst dX8_kindOf_36 (v := (3 : Int32)) (by decide) ?_
          refine go_goto (tgt := 41) dX8_kindOf_37 (by decide) ?_
          exact go_iret dX8_kindOf_41 rfl rfl (by decide) ⟨rfl, _, rfl, h⟩
      · have h := h.2 c3
        refine go_iconst dX8_kindOf_26 (v := (2 : Int32)) (by decide) ?_
        refine go_goto (tgt := 41) dX8_kindOf_27 (by decide) ?_
        exact go_iret dX8_kindOf_41 rfl rfl (by decide) ⟨rfl, _, rfl, h⟩
    · have h := h.2 c2
      refine go_iconst dX8_kindOf_16 (v := (1 : Int32)) (by decide) ?_
      refine go_goto (tgt := 41) dX8_kindOf_17 (by decide) ?_
      exact go_iret dX8_kindOf_41 rfl rfl (by decide) ⟨rfl, _, rfl, h⟩
  · have h := h.2 c1
    refine go_iconst dX8_kindOf_6 (v := (0 : Int32)) (by decide) ?_
    refine go_goto (tgt := 41) dX8_kindOf_7 (by decide) ?_
    exact go_iret dX8_kindOf_41 rfl rfl (by decide) ⟨rfl, _, rfl, h⟩
set_option maxRecDepth 100000 in
set_option maxHeartbeats 4000000 in
theorem v_X8_readsVerse {G : CX} {a1 : Int32}  {I : HP} {Q : HP → Bool → Prop} (h : RI G Y_X8_here [.ref 58, .int a1] I (fun I1 r2 => RI G Y_X8_kindOf [.int r2] I1 (fun I3 r4 => (vp_in a1 2) ∧ (((¬ a1 = 0) → ((((I3 65 (nn a1)) = (4 : Int32)) → (Q I3 false)) ∧ ((¬ (I3 65 (nn a1)) = (4 : Int32)) → (((¬ r4 = (-1 : Int32)) → (∀ z9 : Int32, z9 = ((4 : Int32) * (((12 : Int32) * a1) + (I3 65 (nn a1)))) → GZ G Y_X8_readsVerse 62 [(0, .ref 58), (1, .int a1), (2, .int r4), (3, .int z9), (4, .int (0 : Int32))] (st I3 58 7 ((I3 58 7) + (1 : Int32))) Q)) ∧ ((r4 = (-1 : Int32)) → (Q I3 false)))))) ∧ ((a1 = 0) → ((((I3 65 (nn a1)) = (12 : Int32)) → (Q I3 false)) ∧ ((¬ (I3 65 (nn a1)) = (12 : Int32)) → (((¬ r4 = (-1 : Int32)) → (∀ z12 : Int32, z12 = ((4 : Int32) * (((12 : Int32) * a1) + (I3 65 (nn a1)))) → GZ G Y_X8_readsVerse 62 [(0, .ref 58), (1, .int a1), (2, .int r4), (3, .int z12), (4, .int (0 : Int32))] (st I3 58 7 ((I3 58 7) + (1 : Int32))) Q)) ∧ ((r4 = (-1 : Int32)) → (Q I3 false)))))))))) : RZ G Y_X8_readsVerse [.ref 58, .int a1] I Q := by
  refine ret_of (show plainName RX8 = true by decide) (Nat.le_of_ble_eq_true rfl) ?_
  show Go G Y_X8_readsVerse 0 [(0, .ref 58), (1, .int a1)] [] SH I 0 0 _
  refine go_aload_n dX8_readsVerse_0 rfl 0 rfl ?_
  refine go_iload_n dX8_readsVerse_1 rfl 1 rfl ?_
  refine go_vcall (Z := Y_X8_here) (As := [.int a1]) (S := []) dX8_readsVerse_2 ok_X8_here l_X8_109 (by decide) sh_58 (by decide) (Nat.le_of_ble_eq_true rfl) rfl rfl rfl (Nat.le_of_ble_eq_true rfl) h (fun _ I1 _ hq => ?_)
  obtain ⟨rfl, r2, rfl, h⟩ := hq
  show Go G Y_X8_readsVerse 5 [(0, .ref 58), (1, .int a1)] [.int r2] SH I1 0 0 _
  refine go_scall (Z := Y_X8_kindOf) (As := [.int r2]) (S := []) dX8_readsVerse_5 ok_X8_kindOf l_X8_112 (by decide) rfl rfl (Nat.le_of_ble_eq_true rfl) h (fun _ I3 _ hq => ?_)
  obtain ⟨rfl, r4, rfl, h⟩ := hq
  show Go G Y_X8_readsVerse 8 [(0, .ref 58), (1, .int a1)] [.int r4] SH I3 0 0 _
  refine go_istore_n dX8_readsVerse_8 rfl (Nat.le_of_ble_eq_true rfl) (L2 := [(2, .int r4), (0, .ref 58), (1, .int a1)]) rfl ?_
  refine go_aload_n dX8_readsVerse_9 rfl 1 rfl ?_
  refine go_getR dX8_readsVerse_10 sh_58 (by decide) f_X8_28 ⟨Nat.le_of_ble_eq_true rfl, Nat.le_of_ble_eq_true rfl, rfl⟩ rfl ?_
  refine go_iload_n dX8_readsVerse_13 rfl 2 rfl ?_
  have hb5 := h.1
  have h := h.2
  refine go_iald dX8_readsVerse_14 sh_65 (by decide) hb5 rfl ?_
  refine go_iload_n dX8_readsVerse_15 rfl 2 rfl ?_
  refine go_if_ne (tgt := 24) dX8_readsVerse_16 (by decide) (fun c6 => ?_) (fun c6 => ?_)
  · have h := h.1 c6
    refine go_iconst dX8_readsVerse_24 (v := (4 : Int32)) (by decide) ?_
    refine go_icmp_eq (tgt := 33) dX8_readsVerse_25 (by decide) (fun c7 => ?_) (fun c7 => ?_)
    · have h := h.1 c7
      refine go_iconst dX8_readsVerse_33 (v := (0 : Int32)) (by decide) ?_
      exact go_zret dX8_readsVerse_34 rfl rfl rfl (by decide) ⟨rfl, false, rfl, h⟩
    · have h := h.2 c7
      refine go_iload_n dX8_readsVerse_28 rfl 0 rfl ?_
      refine go_iconst dX8_readsVerse_29 (v := (-1 : Int32)) (by decide) ?_
      refine go_icmp_ne (tgt := 35) dX8_readsVerse_30 (by decide) (fun c8 => ?_) (fun c8 => ?_)
      · have h := h.1 c8
        refine go_iconst dX8_readsVerse_35 (v := (4 : Int32)) (by decide) ?_
        refine go_bipush dX8_readsVerse_36 (v := (12 : Int32)) (by decide) ?_
        refine go_iload_n dX8_readsVerse_38 rfl 2 rfl ?_
        refine go_imul dX8_readsVerse_39 ?_
        refine go_aload_n dX8_readsVerse_40 rfl 1 rfl ?_
        refine go_getR dX8_readsVerse_41 sh_58 (by decide) f_X8_28 ⟨Nat.le_of_ble_eq_true rfl, Nat.le_of_ble_eq_true rfl, rfl⟩ rfl ?_
        refine go_iload_n dX8_readsVerse_44 rfl 2 rfl ?_
        refine go_iald dX8_readsVerse_45 sh_65 (by decide) hb5 rfl ?_
        refine go_iadd dX8_readsVerse_46 ?_
        refine go_imul dX8_readsVerse_47 ?_
        refine go_top (fun z9 ez9 => ?_)
        have h := h z9 ez9
        refine go_istore_n dX8_readsVerse_48 rfl (Nat.le_of_ble_eq_true rfl) (L2 := [(3, .int z9), (2, .int r4), (0, .ref 58), (1, .int a1)]) rfl ?_
        refine go_aload_n dX8_readsVerse_49 rfl 2 rfl ?_
        refine go_dup dX8_readsVerse_50 rfl ?_
        refine go_getI dX8_readsVerse_51 sh_58 (by decide) f_X8_106 ⟨Nat.le_of_ble_eq_true rfl, Nat.le_of_ble_eq_true rfl, rfl⟩ ?_
        refine go_iconst dX8_readsVerse_54 (v := (1 : Int32)) (by decide) ?_
        refine go_iadd dX8_readsVerse_55 ?_
        refine go_putT dX8_readsVerse_56 sh_58 (by decide) p_X8_106 ⟨Nat.le_of_ble_eq_true rfl, Nat.le_of_ble_eq_true rfl, rfl⟩ rfl rfl ?_
        refine go_iconst dX8_readsVerse_59 (v := (0 : Int32)) (by decide) ?_
        refine go_istore dX8_readsVerse_60 (Nat.le_of_ble_eq_true rfl) (L2 := [(4, .int (0 : Int32)), (3, .int z9), (2, .int r4), (0, .ref 58), (1, .int a1)]) rfl ?_
        exact go_loc [(0, .ref 58), (1, .int a1), (2, .int r4), (3, .int z9), (4, .int (0 : Int32))] [3, 4, 2, 1, 0] rfl h
      · have h := h.2 c8
        refine go_iconst dX8_readsVerse_33 (v := (0 : Int32)) (by decide) ?_
        exact go_zret dX8_readsVerse_34 rfl rfl rfl (by decide) ⟨rfl, false, rfl, h⟩
  · have h := h.2 c6
    refine go_bipush dX8_readsVerse_19 (v := (12 : Int32)) (by decide) ?_
    refine go_goto (tgt := 25) dX8_readsVerse_21 (by decide) ?_
    refine go_icmp_eq (tgt := 33) dX8_readsVerse_25 (by decide) (fun c10 => ?_) (fun c10 => ?_)
    · have h := h.1 c10
      refine go_iconst dX8_readsVerse_33 (v := (0 : Int32)) (by decide) ?_
      exact go_zret dX8_readsVerse_34 rfl rfl rfl (by decide) ⟨rfl, false, rfl, h⟩
    · have h := h.2 c10
      refine go_iload_n dX8_readsVerse_28 rfl 0 rfl ?_
      refine go_iconst dX8_readsVerse_29 (v := (-1 : Int32)) (by decide) ?_
      refine go_icmp_ne (tgt := 35) dX8_readsVerse_30 (by decide) (fun c11 => ?_) (fun c11 => ?_)
      · have h := h.1 c11
        refine go_iconst dX8_readsVerse_35 (v := (4 : Int32)) (by decide) ?_
        refine go_bipush dX8_readsVerse_36 (v := (12 : Int32)) (by decide) ?_
        refine go_iload_n dX8_readsVerse_38 rfl 2 rfl ?_
        refine go_imul dX8_readsVerse_39 ?_
        refine go_aload_n dX8_readsVerse_40 rfl 1 rfl ?_
        refine go_getR dX8_readsVerse_41 sh_58 (by decide) f_X8_28 ⟨Nat.le_of_ble_eq_true rfl, Nat.le_of_ble_eq_true rfl, rfl⟩ rfl ?_
        refine go_iload_n dX8_readsVerse_44 rfl 2 rfl ?_
        refine go_iald dX8_readsVerse_45 sh_65 (by decide) hb5 rfl ?_
        refine go_iadd dX8_readsVerse_46 ?_
        refine go_imul dX8_readsVerse_47 ?_
        refine go_top (fun z12 ez12 => ?_)
        have h := h z12 ez12
        refine go_istore_n dX8_readsVerse_48 rfl (Nat.le_of_ble_eq_true rfl) (L2 := [(3, .int z12), (2, .int r4), (0, .ref 58), (1, .int a1)]) rfl ?_
        refine go_aload_n dX8_readsVerse_49 rfl 2 rfl ?_
        refine go_dup dX8_readsVerse_50 rfl ?_
        refine go_getI dX8_readsVerse_51 sh_58 (by decide) f_X8_106 ⟨Nat.le_of_ble_eq_true rfl, Nat.le_of_ble_eq_true rfl, rfl⟩ ?_
        refine go_iconst dX8_readsVerse_54 (v := (1 : Int32)) (by decide) ?_
        refine go_iadd dX8_readsVerse_55 ?_
        refine go_putT dX8_readsVerse_56 sh_58 (by decide) p_X8_106 ⟨Nat.le_of_ble_eq_true rfl, Nat.le_of_ble_eq_true rfl, rfl⟩ rfl rfl ?_
        refine go_iconst dX8_readsVerse_59 (v := (0 : Int32)) (by decide) ?_
        refine go_istore dX8_readsVerse_60 (Nat.le_of_ble_eq_true rfl) (L2 := [(4, .int (0 : Int32)), (3, .int z12), (2, .int r4), (0, .ref 58), (1, .int a1)]) rfl ?_
        exact go_loc [(0, .ref 58), (1, .int a1), (2, .int r4), (3, .int z12), (4, .int (0 : Int32))] [3, 4, 2, 1, 0] rfl h
      · have h := h.2 c11
        refine go_iconst dX8_readsVerse_33 (v := (0 : Int32)) (by decide) ?_
        exact go_zret dX8_readsVerse_34 rfl rfl rfl (by decide) ⟨rfl, false, rfl, h⟩
set_option maxRecDepth 100000 in
set_option maxHeartbeats 4000000 in
theorem v_X8_readsVerse_62 {G : CX} {x1 : Int32} {x2 : Int32} {x3 : Int32} {x4 : Int32}  {I : HP} {Q : HP → Bool → Prop} (h : (((3 : Int32) ≤ x4) → ((vp_in (x3 + (3 : Int32)) 64) ∧ ((vp_in x1 2) ∧ (∀ I4 : HP, I4 = (st (st I 66 (nn (x3 + (3 : Int32))) x2) 65 (nn x1) (((st I 66 (nn (x3 + (3 : Int32))) x2) 65 (nn x1)) + (1 : Int32))) → Q I4 true)))) ∧ ((¬ (3 : Int32) ≤ x4) → (RI G Y_X8_here [.ref 58, .int x1] I (fun I5 r6 => ((¬ x4 = (1 : Int32)) → (RZ G Y_X8_in [.long ((r6 - (48 : Int32)).toInt64), .long (0 : Int64), .long (9 : Int64)] I5 (fun I8 r9 => ((¬ (bI r9) = 0) → ((vp_in (x3 + x4) 64) ∧ (∀ I12 : HP, I12 = (st (st I8 66 (nn (x3 + x4)) (r6 - (48 : Int32))) 58 7 (((st I8 66 (nn (x3 + x4)) (r6 - (48 : Int32))) 58 7) + (1 : Int32))) → GZ G Y_X8_readsVerse 62 [(0, .ref 58), (1, .int x1), (2, .int x2), (3, .int x3), (4, .int (x4 + 1))] I12 Q))) ∧ (((bI r9) = 0) → (Q I8 false))))) ∧ ((x4 = (1 : Int32)) → (RZ G Y_X8_in [.long ((r6 - (48 : Int32)).toInt64), .long (1 : Int64), .long (9 : Int64)] I5 (fun I13 r14 => ((¬ (bI r14) = 0) → ((vp_in (x3 + x4) 64) ∧ (∀ I17 : HP, I17 = (st (st I13 66 (nn (x3 + x4)) (r6 - (48 : Int32))) 58 7 (((st I13 66 (nn (x3 + x4)) (r6 - (48 : Int32))) 58 7) + (1 : Int32))) → GZ G Y_X8_readsVerse 62 [(0, .ref 58), (1, .int x1), (2, .int x2), (3, .int x3), (4, .int (x4 + 1))] I17 Q))) ∧ (((bI r14) = 0) → (Q I13 false))))))))) : GZ G Y_X8_readsVerse 62 [(0, .ref 58), (1, .int x1), (2, .int x2), (3, .int x3), (4, .int x4)] I Q := by
  show Go G Y_X8_readsVerse 62 [(0, .ref 58), (1, .int x1), (2, .int x2), (3, .int x3), (4, .int x4)] [] SH I 0 0 _
  refine go_iload dX8_readsVerse_62 4 rfl ?_
  refine go_iconst dX8_readsVerse_64 (v := (3 : Int32)) (by decide) ?_
  refine go_icmp_ge (tgt := 130) dX8_readsVerse_65 (by decide) (fun c1 => ?_) (fun c1 => ?_)
  · have h := h.1 c1
    refine go_aload_n dX8_readsVerse_130 rfl 0 rfl ?_
    refine go_getR dX8_readsVerse_131 sh_58 (by decide) f_X8_31 ⟨Nat.le_of_ble_eq_true rfl, Nat.le_of_ble_eq_true rfl, rfl⟩ rfl ?_
    refine go_iload_n dX8_readsVerse_134 rfl 3 rfl ?_
    refine go_iconst dX8_readsVerse_135 (v := (3 : Int32)) (by decide) ?_
    refine go_iadd dX8_readsVerse_136 ?_
    refine go_iload_n dX8_readsVerse_137 rfl 2 rfl ?_
    have hb2 := h.1
    have h := h.2
    refine go_iast dX8_readsVerse_138 sh_66 (by decide) hb2 (j := (nn (x3 + (3 : Int32)))) rfl ?_
    refine go_aload_n dX8_readsVerse_139 rfl 0 rfl ?_
    refine go_getR dX8_readsVerse_140 sh_58 (by decide) f_X8_28 ⟨Nat.le_of_ble_eq_true rfl, Nat.le_of_ble_eq_true rfl, rfl⟩ rfl ?_
    refine go_iload_n dX8_readsVerse_143 rfl 1 rfl ?_
    refine go_dup2 dX8_readsVerse_144 rfl rfl ?_
    have hb3 := h.1
    have h := h.2
    refine go_iald dX8_readsVerse_145 sh_65 (by decide) hb3 rfl ?_
    refine go_iconst dX8_readsVerse_146 (v := (1 : Int32)) (by decide) ?_
    refine go_iadd dX8_readsVerse_147 ?_
    refine go_iast dX8_readsVerse_148 sh_65 (by decide) hb3 (j := (nn x1)) rfl ?_
    refine go_nm (fun I4 eI4 => ?_)
    have h := h I4 eI4
    refine go_iconst dX8_readsVerse_149 (v := (1 : Int32)) (by decide) ?_
    exact go_zret dX8_readsVerse_150 rfl rfl rfl (by decide) ⟨rfl, true, rfl, h⟩
  · have h := h.2 c1
    refine go_aload_n dX8_readsVerse_68 rfl 0 rfl ?_
    refine go_iload_n dX8_readsVerse_69 rfl 1 rfl ?_
    refine go_vcall (Z := Y_X8_here) (As := [.int x1]) (S := []) dX8_readsVerse_70 ok_X8_here l_X8_109 (by decide) sh_58 (by decide) (Nat.le_of_ble_eq_true rfl) rfl rfl rfl (Nat.le_of_ble_eq_true rfl) h (fun _ I5 _ hq => ?_)
    obtain ⟨rfl, r6, rfl, h⟩ := hq
    show Go G Y_X8_readsVerse 73 [(0, .ref 58), (1, .int x1), (2, .int x2), (3, .int x3), (4, .int x4)] [.int r6] SH I5 0 0 _
    refine go_bipush dX8_readsVerse_73 (v := (48 : Int32)) (by decide) ?_
    refine go_isub dX8_readsVerse_75 ?_
    refine go_istore dX8_readsVerse_76 (Nat.le_of_ble_eq_true rfl) (L2 := [(5, .int (r6 - (48 : Int32))), (0, .ref 58), (1, .int x1), (2, .int x2), (3, .int x3), (4, .int x4)]) rfl ?_
    refine go_iload dX8_readsVerse_78 0 rfl ?_
    refine go_i2l dX8_readsVerse_80 ?_
    refine go_iload dX8_readsVerse_81 5 rfl ?_
    refine go_iconst dX8_readsVerse_83 (v := (1 : Int32)) (by decide) ?_
    refine go_icmp_ne (tgt := 91) dX8_readsVerse_84 (by decide) (fun c7 => ?_) (fun c7 => ?_)
    · have h := h.1 c7
      refine go_lconst dX8_readsVerse_91 (v := (0 : Int64)) (by decide) ?_
      refine go_ldc2 dX8_readsVerse_92 k_X8_115 ?_
      refine go_scall (Z := Y_X8_in) (As := [.long ((r6 - (48 : Int32)).toInt64), .long (0 : Int64), .long (9 : Int64)]) (S := []) dX8_readsVerse_95 ok_X8_in l_X8_72 (by decide) rfl rfl (Nat.le_of_ble_eq_true rfl) h (fun _ I8 _ hq => ?_)
      obtain ⟨rfl, r9, rfl, h⟩ := hq
      show Go G Y_X8_readsVerse 98 [(5, .int (r6 - (48 : Int32))), (0, .ref 58), (1, .int x1), (2, .int x2), (3, .int x3), (4, .int x4)] [.int (bI r9)] SH I8 0 0 _
      refine go_if_ne (tgt := 103) dX8_readsVerse_98 (by decide) (fun c10 => ?_) (fun c10 => ?_)
      · have h := h.1 c10
        refine go_aload_n dX8_readsVerse_103 rfl 1 rfl ?_
        refine go_getR dX8_readsVerse_104 sh_58 (by decide) f_X8_31 ⟨Nat.le_of_ble_eq_true rfl, Nat.le_of_ble_eq_true rfl, rfl⟩ rfl ?_
        refine go_iload_n dX8_readsVerse_107 rfl 4 rfl ?_
        refine go_iload dX8_readsVerse_108 5 rfl ?_
        refine go_iadd dX8_readsVerse_110 ?_
        refine go_iload dX8_readsVerse_111 0 rfl ?_
        have hb11 := h.1
        have h := h.2
        refine go_iast dX8_readsVerse_113 sh_66 (by decide) hb11 (j := (nn (x3 + x4))) rfl ?_
        refine go_aload_n dX8_readsVerse_114 rfl 1 rfl ?_
        refine go_dup dX8_readsVerse_115 rfl ?_
        refine go_getI dX8_readsVerse_116 sh_58 (by decide) f_X8_106 ⟨Nat.le_of_ble_eq_true rfl, Nat.le_of_ble_eq_true rfl, rfl⟩ ?_
        refine go_iconst dX8_readsVerse_119 (v := (1 : Int32)) (by decide) ?_
        refine go_iadd dX8_readsVerse_120 ?_
        refine go_putT dX8_readsVerse_121 sh_58 (by decide) p_X8_106 ⟨Nat.le_of_ble_eq_true rfl, Nat.le_of_ble_eq_true rfl, rfl⟩ rfl rfl ?_
        refine go_nm (fun I12 eI12 => ?_)
        have h := h I12 eI12
        refine go_iinc dX8_readsVerse_124 5 rfl (v := (x4 + 1)) rfl (Nat.le_of_ble_eq_true rfl) (L2 := [(4, .int (x4 + 1)), (5, .int (r6 - (48 : Int32))), (0, .ref 58), (1, .int x1), (2, .int x2), (3, .int x3)]) rfl ?_
        refine go_goto (tgt := 62) dX8_readsVerse_127 (by decide) ?_
        exact go_loc [(0, .ref 58), (1, .int x1), (2, .int x2), (3, .int x3), (4, .int (x4 + 1))] [2, 3, 4, 5, 0] rfl h
      · have h := h.2 c10
        refine go_iconst dX8_readsVerse_101 (v := (0 : Int32)) (by decide) ?_
        exact go_zret dX8_readsVerse_102 rfl rfl rfl (by decide) ⟨rfl, false, rfl, h⟩
    · have h := h.2 c7
      refine go_lconst dX8_readsVerse_87 (v := (1 : Int64)) (by decide) ?_
      refine go_goto (tgt := 92) dX8_readsVerse_88 (by decide) ?_
      refine go_ldc2 dX8_readsVerse_92 k_X8_115 ?_
      refine go_scall (Z := Y_X8_in) (As := [.long ((r6 - (48 : Int32)).toInt64), .long (1 : Int64), .long (9 : Int64)]) (S := []) dX8_readsVerse_95 ok_X8_in l_X8_72 (by decide) rfl rfl (Nat.le_of_ble_eq_true rfl) h (fun _ I13 _ hq => ?_)
      obtain ⟨rfl, r14, rfl, h⟩ := hq
      show Go G Y_X8_readsVerse 98 [(5, .int (r6 - (48 : Int32))), (0, .ref 58), (1, .int x1), (2, .int x2), (3, .int x3), (4, .int x4)] [.int (bI r14)] SH I13 0 0 _
      refine go_if_ne (tgt := 103) dX8_readsVerse_98 (by decide) (fun c15 => ?_) (fun c15 => ?_)
      · have h := h.1 c15
        refine go_aload_n dX8_readsVerse_103 rfl 1 rfl ?_
        refine go_getR dX8_readsVerse_104 sh_58 (by decide) f_X8_31 ⟨Nat.le_of_ble_eq_true rfl, Nat.le_of_ble_eq_true rfl, rfl⟩ rfl ?_
        refine go_iload_n dX8_readsVerse_107 rfl 4 rfl ?_
        refine go_iload dX8_readsVerse_108 5 rfl ?_
        refine go_iadd dX8_readsVerse_110 ?_
        refine go_iload dX8_readsVerse_111 0 rfl ?_
        have hb16 := h.1
        have h := h.2
        refine go_iast dX8_readsVerse_113 sh_66 (by decide) hb16 (j := (nn (x3 + x4))) rfl ?_
        refine go_aload_n dX8_readsVerse_114 rfl 1 rfl ?_
        refine go_dup dX8_readsVerse_115 rfl ?_
        refine go_getI dX8_readsVerse_116 sh_58 (by decide) f_X8_106 ⟨Nat.le_of_ble_eq_true rfl, Nat.le_of_ble_eq_true rfl, rfl⟩ ?_
        refine go_iconst dX8_readsVerse_119 (v := (1 : Int32)) (by decide) ?_
        refine go_iadd dX8_readsVerse_120 ?_
        refine go_putT dX8_readsVerse_121 sh_58 (by decide) p_X8_106 ⟨Nat.le_of_ble_eq_true rfl, Nat.le_of_ble_eq_true rfl, rfl⟩ rfl rfl ?_
        refine go_nm (fun I17 eI17 => ?_)
        have h := h I17 eI17
        refine go_iinc dX8_readsVerse_124 5 rfl (v := (x4 + 1)) rfl (Nat.le_of_ble_eq_true rfl) (L2 := [(4, .int (x4 + 1)), (5, .int (r6 - (48 : Int32))), (0, .ref 58), (1, .int x1), (2, .int x2), (3, .int x3)]) rfl ?_
        refine go_goto (tgt := 62) dX8_readsVerse_127 (by decide) ?_
        exact go_loc [(0, .ref 58), (1, .int x1), (2, .int x2), (3, .int x3), (4, .int (x4 + 1))] [2, 3, 4, 5, 0] rfl h
      · have h := h.2 c15
        refine go_iconst dX8_readsVerse_101 (v := (0 : Int32)) (by decide) ?_
        exact go_zret dX8_readsVerse_102 rfl rfl rfl (by decide) ⟨rfl, false, rfl, h⟩
set_option maxRecDepth 100000 in
set_option maxHeartbeats 4000000 in
theorem v_X8_readsText {G : CX} {a1 : Int32}  {I : HP} {Q : HP → Int32 → Prop} (h : (vp_in a1 2) ∧ (((((st (st I 58 7 (0 : Int32)) 65 (nn a1) (0 : Int32)) 64 (nn a1)) ≤ 0) → (GI G Y_X8_readsText 27 [(0, .ref 58), (1, .int a1), (2, .int (0 : Int32))] (st (st I 58 7 (0 : Int32)) 65 (nn a1) (0 : Int32)) Q)) ∧ ((¬ ((st (st I 58 7 (0 : Int32)) 65 (nn a1) (0 : Int32)) 64 (nn a1)) ≤ 0) → (GI G Y_X8_readsText 27 [(0, .ref 58), (1, .int a1), (2, .int (1 : Int32))] (st (st I 58 7 (0 : Int32)) 65 (nn a1) (0 : Int32)) Q)))) : RI G Y_X8_readsText [.ref 58, .int a1] I Q := by
  refine ret_of (show plainName RX8 = true by decide) (Nat.le_of_ble_eq_true rfl) ?_
  show Go G Y_X8_readsText 0 [(0, .ref 58), (1, .int a1)] [] SH I 0 0 _
  refine go_aload_n dX8_readsText_0 rfl 0 rfl ?_
  refine go_iconst dX8_readsText_1 (v := (0 : Int32)) (by decide) ?_
  refine go_putT dX8_readsText_2 sh_58 (by decide) p_X8_106 ⟨Nat.le_of_ble_eq_true rfl, Nat.le_of_ble_eq_true rfl, rfl⟩ rfl rfl ?_
  refine go_aload_n dX8_readsText_5 rfl 0 rfl ?_
  refine go_getR dX8_readsText_6 sh_58 (by decide) f_X8_28 ⟨Nat.le_of_ble_eq_true rfl, Nat.le_of_ble_eq_true rfl, rfl⟩ rfl ?_
  refine go_iload_n dX8_readsText_9 rfl 1 rfl ?_
  refine go_iconst dX8_readsText_10 (v := (0 : Int32)) (by decide) ?_
  have hb1 := h.1
  have h := h.2
  refine go_iast dX8_readsText_11 sh_65 (by decide) hb1 (j := (nn a1)) rfl ?_
  refine go_aload_n dX8_readsText_12 rfl 0 rfl ?_
  refine go_getR dX8_readsText_13 sh_58 (by decide) f_X8_25 ⟨Nat.le_of_ble_eq_true rfl, Nat.le_of_ble_eq_true rfl, rfl⟩ rfl ?_
  refine go_iload_n dX8_readsText_16 rfl 1 rfl ?_
  refine go_iald dX8_readsText_17 sh_64 (by decide) hb1 rfl ?_
  refine go_if_le (tgt := 25) dX8_readsText_18 (by decide) (fun c2 => ?_) (fun c2 => ?_)
  · have h := h.1 c2
    refine go_iconst dX8_readsText_25 (v := (0 : Int32)) (by decide) ?_
    refine go_istore_n dX8_readsText_26 rfl (Nat.le_of_ble_eq_true rfl) (L2 := [(2, .int (0 : Int32)), (0, .ref 58), (1, .int a1)]) rfl ?_
    exact go_loc [(0, .ref 58), (1, .int a1), (2, .int (0 : Int32))] [1, 2, 0] rfl h
  · have h := h.2 c2
    refine go_iconst dX8_readsText_21 (v := (1 : Int32)) (by decide) ?_
    refine go_goto (tgt := 26) dX8_readsText_22 (by decide) ?_
    refine go_istore_n dX8_readsText_26 rfl (Nat.le_of_ble_eq_true rfl) (L2 := [(2, .int (1 : Int32)), (0, .ref 58), (1, .int a1)]) rfl ?_
    exact go_loc [(0, .ref 58), (1, .int a1), (2, .int (1 : Int32))] [1, 2, 0] rfl h
set_option maxRecDepth 100000 in
set_option maxHeartbeats 4000000 in
theorem v_X8_readsText_27 {G : CX} {x1 : Int32} {x2 : Int32}  {I : HP} {Q : HP → Int32 → Prop} (h : ((x2 = 0) → (Q I (-1 : Int32))) ∧ ((¬ x2 = 0) → (RZ G Y_X8_readsVerse [.ref 58, .int x1] I (fun I2 r3 => (((bI r3) = 0) → ((vp_in x1 2) ∧ (Q (st I2 65 (nn x1) (0 : Int32)) ((st I2 65 (nn x1) (0 : Int32)) 58 7)))) ∧ ((¬ (bI r3) = 0) → ((vp_in x1 2) ∧ ((((I2 64 (nn x1)) ≤ (I2 58 7)) → (GI G Y_X8_readsText 27 [(0, .ref 58), (1, .int x1), (2, .int (0 : Int32))] (st I2 58 7 ((I2 58 7) + (0 : Int32))) Q)) ∧ ((¬ (I2 64 (nn x1)) ≤ (I2 58 7)) → (RI G Y_X8_here [.ref 58, .int x1] I2 (fun I8 r9 => ((r9 = (59 : Int32)) → (GI G Y_X8_readsText 27 [(0, .ref 58), (1, .int x1), (2, .int (1 : Int32))] (st I8 58 7 ((I8 58 7) + (1 : Int32))) Q)) ∧ ((¬ r9 = (59 : Int32)) → (Q (st I8 65 (nn x1) (0 : Int32)) ((st I8 65 (nn x1) (0 : Int32)) 58 7))))))))))))) : GI G Y_X8_readsText 27 [(0, .ref 58), (1, .int x1), (2, .int x2)] I Q := by
  show Go G Y_X8_readsText 27 [(0, .ref 58), (1, .int x1), (2, .int x2)] [] SH I 0 0 _
  refine go_iload_n dX8_readsText_27 rfl 2 rfl ?_
  refine go_if_eq (tgt := 111) dX8_readsText_28 (by decide) (fun c1 => ?_) (fun c1 => ?_)
  · have h := h.1 c1
    refine go_iconst dX8_readsText_111 (v := (-1 : Int32)) (by decide) ?_
    exact go_iret dX8_readsText_112 rfl rfl (by decide) ⟨rfl, _, rfl, h⟩
  · have h := h.2 c1
    refine go_aload_n dX8_readsText_31 rfl 0 rfl ?_
    refine go_iload_n dX8_readsText_32 rfl 1 rfl ?_
    refine go_vcall (Z := Y_X8_readsVerse) (As := [.int x1]) (S := []) dX8_readsText_33 ok_X8_readsVerse l_X8_117 (by decide) sh_58 (by decide) (Nat.le_of_ble_eq_true rfl) rfl rfl rfl (Nat.le_of_ble_eq_true rfl) h (fun _ I2 _ hq => ?_)
    obtain ⟨rfl, r3, rfl, h⟩ := hq
    show Go G Y_X8_readsText 36 [(0, .ref 58), (1, .int x1), (2, .int x2)] [.int (bI r3)] SH I2 0 0 _
    refine go_istore_n dX8_readsText_36 rfl (Nat.le_of_ble_eq_true rfl) (L2 := [(3, .int (bI r3)), (0, .ref 58), (1, .int x1), (2, .int x2)]) rfl ?_
    refine go_iload_n dX8_readsText_37 rfl 0 rfl ?_
    refine go_if_eq (tgt := 58) dX8_readsText_38 (by decide) (fun c4 => ?_) (fun c4 => ?_)
    · have h := h.1 c4
      refine go_iconst dX8_readsText_58 (v := (0 : Int32)) (by decide) ?_
      refine go_istore_n dX8_readsText_59 rfl (Nat.le_of_ble_eq_true rfl) (L2 := [(2, .int (0 : Int32)), (3, .int (bI r3)), (0, .ref 58), (1, .int x1)]) rfl ?_
      refine go_iload_n dX8_readsText_60 rfl 1 rfl ?_
      refine go_if_eq (tgt := 78) dX8_readsText_61 (by decide) (fun _ => ?_) (fun c => absurd c4 c)
      refine go_aload_n dX8_readsText_78 rfl 2 rfl ?_
      refine go_getR dX8_readsText_79 sh_58 (by decide) f_X8_28 ⟨Nat.le_of_ble_eq_true rfl, Nat.le_of_ble_eq_true rfl, rfl⟩ rfl ?_
      refine go_iload_n dX8_readsText_82 rfl 3 rfl ?_
      refine go_iconst dX8_readsText_83 (v := (0 : Int32)) (by decide) ?_
      have hb5 := h.1
      have h := h.2
      refine go_iast dX8_readsText_84 sh_65 (by decide) hb5 (j := (nn x1)) rfl ?_
      refine go_aload_n dX8_readsText_85 rfl 2 rfl ?_
      refine go_getI dX8_readsText_86 sh_58 (by decide) f_X8_106 ⟨Nat.le_of_ble_eq_true rfl, Nat.le_of_ble_eq_true rfl, rfl⟩ ?_
      exact go_iret dX8_readsText_89 rfl rfl (by decide) ⟨rfl, _, rfl, h⟩
    · have h := h.2 c4
      refine go_aload_n dX8_readsText_41 rfl 1 rfl ?_
      refine go_getI dX8_readsText_42 sh_58 (by decide) f_X8_106 ⟨Nat.le_of_ble_eq_true rfl, Nat.le_of_ble_eq_true rfl, rfl⟩ ?_
      refine go_aload_n dX8_readsText_45 rfl 1 rfl ?_
      refine go_getR dX8_readsText_46 sh_58 (by decide) f_X8_25 ⟨Nat.le_of_ble_eq_true rfl, Nat.le_of_ble_eq_true rfl, rfl⟩ rfl ?_
      refine go_iload_n dX8_readsText_49 rfl 2 rfl ?_
      have hb6 := h.1
      have h := h.2
      refine go_iald dX8_readsText_50 sh_64 (by decide) hb6 rfl ?_
      refine go_icmp_ge (tgt := 58) dX8_readsText_51 (by decide) (fun c7 => ?_) (fun c7 => ?_)
      · have h := h.1 c7
        refine go_iconst dX8_readsText_58 (v := (0 : Int32)) (by decide) ?_
        refine go_istore_n dX8_readsText_59 rfl (Nat.le_of_ble_eq_true rfl) (L2 := [(2, .int (0 : Int32)), (3, .int (bI r3)), (0, .ref 58), (1, .int x1)]) rfl ?_
        refine go_iload_n dX8_readsText_60 rfl 1 rfl ?_
        refine go_if_eq (tgt := 78) dX8_readsText_61 (by decide) (fun c => absurd c c4) (fun _ => ?_)
        refine go_iload_n dX8_readsText_64 rfl 0 rfl ?_
        refine go_if_eq (tgt := 90) dX8_readsText_65 (by decide) (fun _ => ?_) (fun c => absurd (by decide) c)
        refine go_aload_n dX8_readsText_90 rfl 2 rfl ?_
        refine go_dup dX8_readsText_91 rfl ?_
        refine go_getI dX8_readsText_92 sh_58 (by decide) f_X8_106 ⟨Nat.le_of_ble_eq_true rfl, Nat.le_of_ble_eq_true rfl, rfl⟩ ?_
        refine go_iload_n dX8_readsText_95 rfl 0 rfl ?_
        refine go_if_eq (tgt := 103) dX8_readsText_96 (by decide) (fun _ => ?_) (fun c => absurd (by decide) c)
        refine go_iconst dX8_readsText_103 (v := (0 : Int32)) (by decide) ?_
        refine go_iadd dX8_readsText_104 ?_
        refine go_putT dX8_readsText_105 sh_58 (by decide) p_X8_106 ⟨Nat.le_of_ble_eq_true rfl, Nat.le_of_ble_eq_true rfl, rfl⟩ rfl rfl ?_
        refine go_goto (tgt := 27) dX8_readsText_108 (by decide) ?_
        exact go_loc [(0, .ref 58), (1, .int x1), (2, .int (0 : Int32))] [2, 3, 0] rfl h
      · have h := h.2 c7
        refine go_iconst dX8_readsText_54 (v := (1 : Int32)) (by decide) ?_
        refine go_goto (tgt := 59) dX8_readsText_55 (by decide) ?_
        refine go_istore_n dX8_readsText_59 rfl (Nat.le_of_ble_eq_true rfl) (L2 := [(2, .int (1 : Int32)), (3, .int (bI r3)), (0, .ref 58), (1, .int x1)]) rfl ?_
        refine go_iload_n dX8_readsText_60 rfl 1 rfl ?_
        refine go_if_eq (tgt := 78) dX8_readsText_61 (by decide) (fun c => absurd c c4) (fun _ => ?_)
        refine go_iload_n dX8_readsText_64 rfl 0 rfl ?_
        refine go_if_eq (tgt := 90) dX8_readsText_65 (by decide) (fun c => absurd c (by decide)) (fun _ => ?_)
        refine go_aload_n dX8_readsText_68 rfl 2 rfl ?_
        refine go_iload_n dX8_readsText_69 rfl 3 rfl ?_
        refine go_vcall (Z := Y_X8_here) (As := [.int x1]) (S := []) dX8_readsText_70 ok_X8_here l_X8_109 (by decide) sh_58 (by decide) (Nat.le_of_ble_eq_true rfl) rfl rfl rfl (Nat.le_of_ble_eq_true rfl) h (fun _ I8 _ hq => ?_)
        obtain ⟨rfl, r9, rfl, h⟩ := hq
        show Go G Y_X8_readsText 73 [(2, .int (1 : Int32)), (3, .int (bI r3)), (0, .ref 58), (1, .int x1)] [.int r9] SH I8 0 0 _
        refine go_bipush dX8_readsText_73 (v := (59 : Int32)) (by decide) ?_
        refine go_icmp_eq (tgt := 90) dX8_readsText_75 (by decide) (fun c10 => ?_) (fun c10 => ?_)
        · have h := h.1 c10
          refine go_aload_n dX8_readsText_90 rfl 2 rfl ?_
          refine go_dup dX8_readsText_91 rfl ?_
          refine go_getI dX8_readsText_92 sh_58 (by decide) f_X8_106 ⟨Nat.le_of_ble_eq_true rfl, Nat.le_of_ble_eq_true rfl, rfl⟩ ?_
          refine go_iload_n dX8_readsText_95 rfl 0 rfl ?_
          refine go_if_eq (tgt := 103) dX8_readsText_96 (by decide) (fun c => absurd c (by decide)) (fun _ => ?_)
          refine go_iconst dX8_readsText_99 (v := (1 : Int32)) (by decide) ?_
          refine go_goto (tgt := 104) dX8_readsText_100 (by decide) ?_
          refine go_iadd dX8_readsText_104 ?_
          refine go_putT dX8_readsText_105 sh_58 (by decide) p_X8_106 ⟨Nat.le_of_ble_eq_true rfl, Nat.le_of_ble_eq_true rfl, rfl⟩ rfl rfl ?_
          refine go_goto (tgt := 27) dX8_readsText_108 (by decide) ?_
          exact go_loc [(0, .ref 58), (1, .int x1), (2, .int (1 : Int32))] [2, 3, 0] rfl h
        · have h := h.2 c10
          refine go_aload_n dX8_readsText_78 rfl 2 rfl ?_
          refine go_getR dX8_readsText_79 sh_58 (by decide) f_X8_28 ⟨Nat.le_of_ble_eq_true rfl, Nat.le_of_ble_eq_true rfl, rfl⟩ rfl ?_
          refine go_iload_n dX8_readsText_82 rfl 3 rfl ?_
          refine go_iconst dX8_readsText_83 (v := (0 : Int32)) (by decide) ?_
          refine go_iast dX8_readsText_84 sh_65 (by decide) hb6 (j := (nn x1)) rfl ?_
          refine go_aload_n dX8_readsText_85 rfl 2 rfl ?_
          refine go_getI dX8_readsText_86 sh_58 (by decide) f_X8_106 ⟨Nat.le_of_ble_eq_true rfl, Nat.le_of_ble_eq_true rfl, rfl⟩ ?_
          exact go_iret dX8_readsText_89 rfl rfl (by decide) ⟨rfl, _, rfl, h⟩
set_option maxRecDepth 100000 in
set_option maxHeartbeats 4000000 in
theorem v_X8_fault {G : CX} {a1 : Int32}  {I : HP} {Q : HP → Int32 → Prop} (h : RZ G Y_X8_isTwo [.int a1] I (fun I1 r2 => (((bI r2) = 0) → (Q I1 (-2 : Int32))) ∧ ((¬ (bI r2) = 0) → (RI G Y_X8_readsText [.ref 58, .int a1] I1 (fun I4 r5 => Q I4 r5))))) : RI G Y_X8_fault [.ref 58, .int a1] I Q := by
  refine ret_of (show plainName RX8 = true by decide) (Nat.le_of_ble_eq_true rfl) ?_
  show Go G Y_X8_fault 0 [(0, .ref 58), (1, .int a1)] [] SH I 0 0 _
  refine go_iload_n dX8_fault_0 rfl 1 rfl ?_
  refine go_scall (Z := Y_X8_isTwo) (As := [.int a1]) (S := []) dX8_fault_1 ok_X8_isTwo l_X8_101 (by decide) rfl rfl (Nat.le_of_ble_eq_true rfl) h (fun _ I1 _ hq => ?_)
  obtain ⟨rfl, r2, rfl, h⟩ := hq
  show Go G Y_X8_fault 4 [(0, .ref 58), (1, .int a1)] [.int (bI r2)] SH I1 0 0 _
  refine go_if_eq (tgt := 15) dX8_fault_4 (by decide) (fun c3 => ?_) (fun c3 => ?_)
  · have h := h.1 c3
    refine go_bipush dX8_fault_15 (v := (-2 : Int32)) (by decide) ?_
    exact go_iret dX8_fault_17 rfl rfl (by decide) ⟨rfl, _, rfl, h⟩
  · have h := h.2 c3
    refine go_aload_n dX8_fault_7 rfl 0 rfl ?_
    refine go_iload_n dX8_fault_8 rfl 1 rfl ?_
    refine go_vcall (Z := Y_X8_readsText) (As := [.int a1]) (S := []) dX8_fault_9 ok_X8_readsText l_X8_120 (by decide) sh_58 (by decide) (Nat.le_of_ble_eq_true rfl) rfl rfl rfl (Nat.le_of_ble_eq_true rfl) h (fun _ I4 _ hq => ?_)
    obtain ⟨rfl, r5, rfl, h⟩ := hq
    show Go G Y_X8_fault 12 [(0, .ref 58), (1, .int a1)] [.int r5] SH I4 0 0 _
    refine go_goto (tgt := 17) dX8_fault_12 (by decide) ?_
    exact go_iret dX8_fault_17 rfl rfl (by decide) ⟨rfl, _, rfl, h⟩
set_option maxRecDepth 100000 in
set_option maxHeartbeats 4000000 in
theorem v_X8_undo {G : CX} {a1 : Int32}  {I : HP} {Q : HP → Int32 → Prop} (h : RZ G Y_X8_isTwo [.int a1] I (fun I1 r2 => ((¬ (bI r2) = 0) → (RI G Y_X8_readsText [.ref 58, .int a1] I1 (fun I4 r5 => (vp_in a1 2) ∧ (((¬ (I4 65 (nn a1)) = 0) → (((¬ (I4 65 (nn a1)) = (1 : Int32)) → (Q (st I4 64 (nn a1) ((I4 64 (nn a1)) - (5 : Int32))) (((st I4 64 (nn a1) ((I4 64 (nn a1)) - (5 : Int32))) 65 (nn a1)) - (1 : Int32)))) ∧ (((I4 65 (nn a1)) = (1 : Int32)) → (Q (st I4 64 (nn a1) ((I4 64 (nn a1)) - (4 : Int32))) (((st I4 64 (nn a1) ((I4 64 (nn a1)) - (4 : Int32))) 65 (nn a1)) - (1 : Int32)))))) ∧ (((I4 65 (nn a1)) = 0) → (Q I4 (-3 : Int32))))))) ∧ (((bI r2) = 0) → (Q I1 (-2 : Int32))))) : RI G Y_X8_undo [.ref 58, .int a1] I Q := by
  refine ret_of (show plainName RX8 = true by decide) (Nat.le_of_ble_eq_true rfl) ?_
  show Go G Y_X8_undo 0 [(0, .ref 58), (1, .int a1)] [] SH I 0 0 _
  refine go_iload_n dX8_undo_0 rfl 1 rfl ?_
  refine go_scall (Z := Y_X8_isTwo) (As := [.int a1]) (S := []) dX8_undo_1 ok_X8_isTwo l_X8_101 (by decide) rfl rfl (Nat.le_of_ble_eq_true rfl) h (fun _ I1 _ hq => ?_)
  obtain ⟨rfl, r2, rfl, h⟩ := hq
  show Go G Y_X8_undo 4 [(0, .ref 58), (1, .int a1)] [.int (bI r2)] SH I1 0 0 _
  refine go_if_ne (tgt := 10) dX8_undo_4 (by decide) (fun c3 => ?_) (fun c3 => ?_)
  · have h := h.1 c3
    refine go_aload_n dX8_undo_10 rfl 0 rfl ?_
    refine go_iload_n dX8_undo_11 rfl 1 rfl ?_
    refine go_vcall (Z := Y_X8_readsText) (As := [.int a1]) (S := []) dX8_undo_12 ok_X8_readsText l_X8_120 (by decide) sh_58 (by decide) (Nat.le_of_ble_eq_true rfl) rfl rfl rfl (Nat.le_of_ble_eq_true rfl) h (fun _ I4 _ hq => ?_)
    obtain ⟨rfl, r5, rfl, h⟩ := hq
    show Go G Y_X8_undo 15 [(0, .ref 58), (1, .int a1)] [.int r5] SH I4 0 0 _
    refine go_pop dX8_undo_15 rfl ?_
    refine go_aload_n dX8_undo_16 rfl 0 rfl ?_
    refine go_getR dX8_undo_17 sh_58 (by decide) f_X8_28 ⟨Nat.le_of_ble_eq_true rfl, Nat.le_of_ble_eq_true rfl, rfl⟩ rfl ?_
    refine go_iload_n dX8_undo_20 rfl 1 rfl ?_
    have hb6 := h.1
    have h := h.2
    refine go_iald dX8_undo_21 sh_65 (by decide) hb6 rfl ?_
    refine go_if_ne (tgt := 28) dX8_undo_22 (by decide) (fun c7 => ?_) (fun c7 => ?_)
    · have h := h.1 c7
      refine go_aload_n dX8_undo_28 rfl 0 rfl ?_
      refine go_getR dX8_undo_29 sh_58 (by decide) f_X8_25 ⟨Nat.le_of_ble_eq_true rfl, Nat.le_of_ble_eq_true rfl, rfl⟩ rfl ?_
      refine go_iload_n dX8_undo_32 rfl 1 rfl ?_
      refine go_dup2 dX8_undo_33 rfl rfl ?_
      refine go_iald dX8_undo_34 sh_64 (by decide) hb6 rfl ?_
      refine go_aload_n dX8_undo_35 rfl 0 rfl ?_
      refine go_getR dX8_undo_36 sh_58 (by decide) f_X8_28 ⟨Nat.le_of_ble_eq_true rfl, Nat.le_of_ble_eq_true rfl, rfl⟩ rfl ?_
      refine go_iload_n dX8_undo_39 rfl 1 rfl ?_
      refine go_iald dX8_undo_40 sh_65 (by decide) hb6 rfl ?_
      refine go_iconst dX8_undo_41 (v := (1 : Int32)) (by decide) ?_
      refine go_icmp_ne (tgt := 49) dX8_undo_42 (by decide) (fun c8 => ?_) (fun c8 => ?_)
      · have h := h.1 c8
        refine go_iconst dX8_undo_49 (v := (5 : Int32)) (by decide) ?_
        refine go_isub dX8_undo_50 ?_
        refine go_iast dX8_undo_51 sh_64 (by decide) hb6 (j := (nn a1)) rfl ?_
        refine go_aload_n dX8_undo_52 rfl 0 rfl ?_
        refine go_getR dX8_undo_53 sh_58 (by decide) f_X8_28 ⟨Nat.le_of_ble_eq_true rfl, Nat.le_of_ble_eq_true rfl, rfl⟩ rfl ?_
        refine go_iload_n dX8_undo_56 rfl 1 rfl ?_
        refine go_iald dX8_undo_57 sh_65 (by decide) hb6 rfl ?_
        refine go_iconst dX8_undo_58 (v := (1 : Int32)) (by decide) ?_
        refine go_isub dX8_undo_59 ?_
        exact go_iret dX8_undo_60 rfl rfl (by decide) ⟨rfl, _, rfl, h⟩
      · have h := h.2 c8
        refine go_iconst dX8_undo_45 (v := (4 : Int32)) (by decide) ?_
        refine go_goto (tgt := 50) dX8_undo_46 (by decide) ?_
        refine go_isub dX8_undo_50 ?_
        refine go_iast dX8_undo_51 sh_64 (by decide) hb6 (j := (nn a1)) rfl ?_
        refine go_aload_n dX8_undo_52 rfl 0 rfl ?_
        refine go_getR dX8_undo_53 sh_58 (by decide) f_X8_28 ⟨Nat.le_of_ble_eq_true rfl, Nat.le_of_ble_eq_true rfl, rfl⟩ rfl ?_
        refine go_iload_n dX8_undo_56 rfl 1 rfl ?_
        refine go_iald dX8_undo_57 sh_65 (by decide) hb6 rfl ?_
        refine go_iconst dX8_undo_58 (v := (1 : Int32)) (by decide) ?_
        refine go_isub dX8_undo_59 ?_
        exact go_iret dX8_undo_60 rfl rfl (by decide) ⟨rfl, _, rfl, h⟩
    · have h := h.2 c7
      refine go_bipush dX8_undo_25 (v := (-3 : Int32)) (by decide) ?_
      exact go_iret dX8_undo_27 rfl rfl (by decide) ⟨rfl, _, rfl, h⟩
  · have h := h.2 c3
    refine go_bipush dX8_undo_7 (v := (-2 : Int32)) (by decide) ?_
    exact go_iret dX8_undo_9 rfl rfl (by decide) ⟨rfl, _, rfl, h⟩
set_option maxRecDepth 100000 in
set_option maxHeartbeats 4000000 in
theorem v_X8_most {G : CX} {a1 : Int32}  {I : HP} {Q : HP → Int32 → Prop} (h : (((2 : Int32) ≤ a1) → ((((4 : Int32) ≤ a1) → (((¬ a1 = (4 : Int32)) → (Q I (4095 : Int32))) ∧ ((a1 = (4 : Int32)) → (Q I (1 : Int32))))) ∧ ((¬ (4 : Int32) ≤ a1) → (Q I (9 : Int32))))) ∧ ((¬ (2 : Int32) ≤ a1) → (Q I (99 : Int32)))) : RI G Y_X8_most [.int a1] I Q := by
  refine ret_of (show plainName RX8 = true by decide) (Nat.le_of_ble_eq_true rfl) ?_
  show Go G Y_X8_most 0 [(0, .int a1)] [] SH I 0 0 _
  refine go_iload_n dX8_most_0 rfl 0 rfl ?_
  refine go_iconst dX8_most_1 (v := (2 : Int32)) (by decide) ?_
  refine go_icmp_ge (tgt := 10) dX8_most_2 (by decide) (fun c1 => ?_) (fun c1 => ?_)
  · have h := h.1 c1
    refine go_iload_n dX8_most_10 rfl 0 rfl ?_
    refine go_iconst dX8_most_11 (v := (4 : Int32)) (by decide) ?_
    refine go_icmp_ge (tgt := 20) dX8_most_12 (by decide) (fun c2 => ?_) (fun c2 => ?_)
    · have h := h.1 c2
      refine go_iload_n dX8_most_20 rfl 0 rfl ?_
      refine go_iconst dX8_most_21 (v := (4 : Int32)) (by decide) ?_
      refine go_icmp_ne (tgt := 29) dX8_most_22 (by decide) (fun c3 => ?_) (fun c3 => ?_)
      · have h := h.1 c3
        refine go_sipush dX8_most_29 (v := (4095 : Int32)) (by decide) ?_
        exact go_iret dX8_most_32 rfl rfl (by decide) ⟨rfl, _, rfl, h⟩
      · have h := h.2 c3
        refine go_iconst dX8_most_25 (v := (1 : Int32)) (by decide) ?_
        refine go_goto (tgt := 32) dX8_most_26 (by decide) ?_
        exact go_iret dX8_most_32 rfl rfl (by decide) ⟨rfl, _, rfl, h⟩
    · have h := h.2 c2
      refine go_bipush dX8_most_15 (v := (9 : Int32)) (by decide) ?_
      refine go_goto (tgt := 32) dX8_most_17 (by decide) ?_
      exact go_iret dX8_most_32 rfl rfl (by decide) ⟨rfl, _, rfl, h⟩
  · have h := h.2 c1
    refine go_bipush dX8_most_5 (v := (99 : Int32)) (by decide) ?_
    refine go_goto (tgt := 32) dX8_most_7 (by decide) ?_
    exact go_iret dX8_most_32 rfl rfl (by decide) ⟨rfl, _, rfl, h⟩
set_option maxRecDepth 100000 in
set_option maxHeartbeats 4000000 in
theorem v_X8_set {G : CX} {a1 : Int32} {a2 : Int32}  {I : HP} {Q : HP → Int32 → Prop} (h : RZ G Y_X8_in [.long (a1.toInt64), .long (0 : Int64), .long (5 : Int64)] I (fun I1 r2 => (((bI r2) = 0) → (Q I1 (-2 : Int32))) ∧ ((¬ (bI r2) = 0) → (((¬ a1 = (1 : Int32)) → (RI G Y_X8_most [.int a1] I1 (fun I5 r6 => RZ G Y_X8_in [.long (a2.toInt64), .long (0 : Int64), .long (r6.toInt64)] I5 (fun I7 r8 => ((¬ (bI r8) = 0) → ((vp_in a1 6) ∧ (Q (st I7 67 (nn a1) a2) (I7 67 (nn a1))))) ∧ (((bI r8) = 0) → (Q I7 (-2 : Int32))))))) ∧ ((a1 = (1 : Int32)) → (RI G Y_X8_most [.int a1] I1 (fun I11 r12 => RZ G Y_X8_in [.long (a2.toInt64), .long (1 : Int64), .long (r12.toInt64)] I11 (fun I13 r14 => ((¬ (bI r14) = 0) → ((vp_in a1 6) ∧ (Q (st I13 67 (nn a1) a2) (I13 67 (nn a1))))) ∧ (((bI r14) = 0) → (Q I13 (-2 : Int32))))))))))) : RI G Y_X8_set [.ref 58, .int a1, .int a2] I Q := by
  refine ret_of (show plainName RX8 = true by decide) (Nat.le_of_ble_eq_true rfl) ?_
  show Go G Y_X8_set 0 [(0, .ref 58), (1, .int a1), (2, .int a2)] [] SH I 0 0 _
  refine go_iload_n dX8_set_0 rfl 1 rfl ?_
  refine go_i2l dX8_set_1 ?_
  refine go_lconst dX8_set_2 (v := (0 : Int64)) (by decide) ?_
  refine go_ldc2 dX8_set_3 k_X8_123 ?_
  refine go_scall (Z := Y_X8_in) (As := [.long (a1.toInt64), .long (0 : Int64), .long (5 : Int64)]) (S := []) dX8_set_6 ok_X8_in l_X8_72 (by decide) rfl rfl (Nat.le_of_ble_eq_true rfl) h (fun _ I1 _ hq => ?_)
  obtain ⟨rfl, r2, rfl, h⟩ := hq
  show Go G Y_X8_set 9 [(0, .ref 58), (1, .int a1), (2, .int a2)] [.int (bI r2)] SH I1 0 0 _
  refine go_if_eq (tgt := 35) dX8_set_9 (by decide) (fun c3 => ?_) (fun c3 => ?_)
  · have h := h.1 c3
    refine go_bipush dX8_set_35 (v := (-2 : Int32)) (by decide) ?_
    exact go_iret dX8_set_37 rfl rfl (by decide) ⟨rfl, _, rfl, h⟩
  · have h := h.2 c3
    refine go_iload_n dX8_set_12 rfl 2 rfl ?_
    refine go_i2l dX8_set_13 ?_
    refine go_iload_n dX8_set_14 rfl 1 rfl ?_
    refine go_iconst dX8_set_15 (v := (1 : Int32)) (by decide) ?_
    refine go_icmp_ne (tgt := 23) dX8_set_16 (by decide) (fun c4 => ?_) (fun c4 => ?_)
    · have h := h.1 c4
      refine go_lconst dX8_set_23 (v := (0 : Int64)) (by decide) ?_
      refine go_iload_n dX8_set_24 rfl 1 rfl ?_
      refine go_scall (Z := Y_X8_most) (As := [.int a1]) (S := [.long (0 : Int64), .long (a2.toInt64)]) dX8_set_25 ok_X8_most l_X8_125 (by decide) rfl rfl (Nat.le_of_ble_eq_true rfl) h (fun _ I5 _ hq => ?_)
      obtain ⟨rfl, r6, rfl, h⟩ := hq
      show Go G Y_X8_set 28 [(0, .ref 58), (1, .int a1), (2, .int a2)] [.int r6, .long (0 : Int64), .long (a2.toInt64)] SH I5 0 0 _
      refine go_i2l dX8_set_28 ?_
      refine go_scall (Z := Y_X8_in) (As := [.long (a2.toInt64), .long (0 : Int64), .long (r6.toInt64)]) (S := []) dX8_set_29 ok_X8_in l_X8_72 (by decide) rfl rfl (Nat.le_of_ble_eq_true rfl) h (fun _ I7 _ hq => ?_)
      obtain ⟨rfl, r8, rfl, h⟩ := hq
      show Go G Y_X8_set 32 [(0, .ref 58), (1, .int a1), (2, .int a2)] [.int (bI r8)] SH I7 0 0 _
      refine go_if_ne (tgt := 38) dX8_set_32 (by decide) (fun c9 => ?_) (fun c9 => ?_)
      · have h := h.1 c9
        refine go_aload_n dX8_set_38 rfl 0 rfl ?_
        refine go_getR dX8_set_39 sh_58 (by decide) f_X8_34 ⟨Nat.le_of_ble_eq_true rfl, Nat.le_of_ble_eq_true rfl, rfl⟩ rfl ?_
        refine go_iload_n dX8_set_42 rfl 1 rfl ?_
        have hb10 := h.1
        have h := h.2
        refine go_iald dX8_set_43 sh_67 (by decide) hb10 rfl ?_
        refine go_istore_n dX8_set_44 rfl (Nat.le_of_ble_eq_true rfl) (L2 := [(3, .int (I7 67 (nn a1))), (0, .ref 58), (1, .int a1), (2, .int a2)]) rfl ?_
        refine go_aload_n dX8_set_45 rfl 1 rfl ?_
        refine go_getR dX8_set_46 sh_58 (by decide) f_X8_34 ⟨Nat.le_of_ble_eq_true rfl, Nat.le_of_ble_eq_true rfl, rfl⟩ rfl ?_
        refine go_iload_n dX8_set_49 rfl 2 rfl ?_
        refine go_iload_n dX8_set_50 rfl 3 rfl ?_
        refine go_iast dX8_set_51 sh_67 (by decide) hb10 (j := (nn a1)) rfl ?_
        refine go_iload_n dX8_set_52 rfl 0 rfl ?_
        exact go_iret dX8_set_53 rfl rfl (by decide) ⟨rfl, _, rfl, h⟩
      · have h := h.2 c9
        refine go_bipush dX8_set_35 (v := (-2 : Int32)) (by decide) ?_
        exact go_iret dX8_set_37 rfl rfl (by decide) ⟨rfl, _, rfl, h⟩
    · have h := h.2 c4
      refine go_lconst dX8_set_19 (v := (1 : Int64)) (by decide) ?_
      refine go_goto (tgt := 24) dX8_set_20 (by decide) ?_
      refine go_iload_n dX8_set_24 rfl 1 rfl ?_
      refine go_scall (Z := Y_X8_most) (As := [.int a1]) (S := [.long (1 : Int64), .long (a2.toInt64)]) dX8_set_25 ok_X8_most l_X8_125 (by decide) rfl rfl (Nat.le_of_ble_eq_true rfl) h (fun _ I11 _ hq => ?_)
      obtain ⟨rfl, r12, rfl, h⟩ := hq
      show Go G Y_X8_set 28 [(0, .ref 58), (1, .int a1), (2, .int a2)] [.int r12, .long (1 : Int64), .long (a2.toInt64)] SH I11 0 0 _
      refine go_i2l dX8_set_28 ?_
      refine go_scall (Z := Y_X8_in) (As := [.long (a2.toInt64), .long (1 : Int64), .long (r12.toInt64)]) (S := []) dX8_set_29 ok_X8_in l_X8_72 (by decide) rfl rfl (Nat.le_of_ble_eq_true rfl) h (fun _ I13 _ hq => ?_)
      obtain ⟨rfl, r14, rfl, h⟩ := hq
      show Go G Y_X8_set 32 [(0, .ref 58), (1, .int a1), (2, .int a2)] [.int (bI r14)] SH I13 0 0 _
      refine go_if_ne (tgt := 38) dX8_set_32 (by decide) (fun c15 => ?_) (fun c15 => ?_)
      · have h := h.1 c15
        refine go_aload_n dX8_set_38 rfl 0 rfl ?_
        refine go_getR dX8_set_39 sh_58 (by decide) f_X8_34 ⟨Nat.le_of_ble_eq_true rfl, Nat.le_of_ble_eq_true rfl, rfl⟩ rfl ?_
        refine go_iload_n dX8_set_42 rfl 1 rfl ?_
        have hb16 := h.1
        have h := h.2
        refine go_iald dX8_set_43 sh_67 (by decide) hb16 rfl ?_
        refine go_istore_n dX8_set_44 rfl (Nat.le_of_ble_eq_true rfl) (L2 := [(3, .int (I13 67 (nn a1))), (0, .ref 58), (1, .int a1), (2, .int a2)]) rfl ?_
        refine go_aload_n dX8_set_45 rfl 1 rfl ?_
        refine go_getR dX8_set_46 sh_58 (by decide) f_X8_34 ⟨Nat.le_of_ble_eq_true rfl, Nat.le_of_ble_eq_true rfl, rfl⟩ rfl ?_
        refine go_iload_n dX8_set_49 rfl 2 rfl ?_
        refine go_iload_n dX8_set_50 rfl 3 rfl ?_
        refine go_iast dX8_set_51 sh_67 (by decide) hb16 (j := (nn a1)) rfl ?_
        refine go_iload_n dX8_set_52 rfl 0 rfl ?_
        exact go_iret dX8_set_53 rfl rfl (by decide) ⟨rfl, _, rfl, h⟩
      · have h := h.2 c15
        refine go_bipush dX8_set_35 (v := (-2 : Int32)) (by decide) ?_
        exact go_iret dX8_set_37 rfl rfl (by decide) ⟨rfl, _, rfl, h⟩
set_option maxRecDepth 100000 in
set_option maxHeartbeats 4000000 in
theorem v_X8_kindAt {G : CX} {a1 : Int32}  {I : HP} {Q : HP → Int32 → Prop} (h : (vp_in a1 14) ∧ ((vp_in (((4 : Int32) * (I 68 (nn a1))) + (3 : Int32)) 64) ∧ (Q I (I 66 (nn (((4 : Int32) * (I 68 (nn a1))) + (3 : Int32))))))) : RI G Y_X8_kindAt [.ref 58, .int a1] I Q := by
  refine ret_of (show plainName RX8 = true by decide) (Nat.le_of_ble_eq_true rfl) ?_
  show Go G Y_X8_kindAt 0 [(0, .ref 58), (1, .int a1)] [] SH I 0 0 _
  refine go_aload_n dX8_kindAt_0 rfl 0 rfl ?_
  refine go_getR dX8_kindAt_1 sh_58 (by decide) f_X8_31 ⟨Nat.le_of_ble_eq_true rfl, Nat.le_of_ble_eq_true rfl, rfl⟩ rfl ?_
  refine go_iconst dX8_kindAt_4 (v := (4 : Int32)) (by decide) ?_
  refine go_aload_n dX8_kindAt_5 rfl 0 rfl ?_
  refine go_getR dX8_kindAt_6 sh_58 (by decide) f_X8_37 ⟨Nat.le_of_ble_eq_true rfl, Nat.le_of_ble_eq_true rfl, rfl⟩ rfl ?_
  refine go_iload_n dX8_kindAt_9 rfl 1 rfl ?_
  have hb1 := h.1
  have h := h.2
  refine go_iald dX8_kindAt_10 sh_68 (by decide) hb1 rfl ?_
  refine go_imul dX8_kindAt_11 ?_
  refine go_iconst dX8_kindAt_12 (v := (3 : Int32)) (by decide) ?_
  refine go_iadd dX8_kindAt_13 ?_
  have hb2 := h.1
  have h := h.2
  refine go_iald dX8_kindAt_14 sh_66 (by decide) hb2 rfl ?_
  exact go_iret dX8_kindAt_15 rfl rfl (by decide) ⟨rfl, _, rfl, h⟩
set_option maxRecDepth 100000 in
set_option maxHeartbeats 4000000 in
theorem v_X8_sayAt {G : CX} {a1 : Int32}  {I : HP} {Q : HP → Int32 → Prop} (h : (vp_in a1 14) ∧ ((vp_in (((4 : Int32) * (I 68 (nn a1))) + (1 : Int32)) 64) ∧ (Q I (I 66 (nn (((4 : Int32) * (I 68 (nn a1))) + (1 : Int32))))))) : RI G Y_X8_sayAt [.ref 58, .int a1] I Q := by
  refine ret_of (show plainName RX8 = true by decide) (Nat.le_of_ble_eq_true rfl) ?_
  show Go G Y_X8_sayAt 0 [(0, .ref 58), (1, .int a1)] [] SH I 0 0 _
  refine go_aload_n dX8_sayAt_0 rfl 0 rfl ?_
  refine go_getR dX8_sayAt_1 sh_58 (by decide) f_X8_31 ⟨Nat.le_of_ble_eq_true rfl, Nat.le_of_ble_eq_true rfl, rfl⟩ rfl ?_
  refine go_iconst dX8_sayAt_4 (v := (4 : Int32)) (by decide) ?_
  refine go_aload_n dX8_sayAt_5 rfl 0 rfl ?_
  refine go_getR dX8_sayAt_6 sh_58 (by decide) f_X8_37 ⟨Nat.le_of_ble_eq_true rfl, Nat.le_of_ble_eq_true rfl, rfl⟩ rfl ?_
  refine go_iload_n dX8_sayAt_9 rfl 1 rfl ?_
  have hb1 := h.1
  have h := h.2
  refine go_iald dX8_sayAt_10 sh_68 (by decide) hb1 rfl ?_
  refine go_imul dX8_sayAt_11 ?_
  refine go_iconst dX8_sayAt_12 (v := (1 : Int32)) (by decide) ?_
  refine go_iadd dX8_sayAt_13 ?_
  have hb2 := h.1
  have h := h.2
  refine go_iald dX8_sayAt_14 sh_66 (by decide) hb2 rfl ?_
  exact go_iret dX8_sayAt_15 rfl rfl (by decide) ⟨rfl, _, rfl, h⟩
set_option maxRecDepth 100000 in
set_option maxHeartbeats 4000000 in
theorem v_X8_plain {G : CX}   {I : HP} {Q : HP → Prop} (h : GV G Y_X8_plain 12 [(0, .ref 58), (1, .int (0 : Int32))] (st I 58 11 (I 65 0)) Q) : RV G Y_X8_plain [.ref 58] I Q := by
  refine ret_of (show plainName RX8 = true by decide) (Nat.le_of_ble_eq_true rfl) ?_
  show Go G Y_X8_plain 0 [(0, .ref 58)] [] SH I 0 0 _
  refine go_aload_n dX8_plain_0 rfl 0 rfl ?_
  refine go_aload_n dX8_plain_1 rfl 0 rfl ?_
  refine go_getR dX8_plain_2 sh_58 (by decide) f_X8_28 ⟨Nat.le_of_ble_eq_true rfl, Nat.le_of_ble_eq_true rfl, rfl⟩ rfl ?_
  refine go_iconst dX8_plain_5 (v := (0 : Int32)) (by decide) ?_
  refine go_iald dX8_plain_6 sh_65 (by decide) (by unfold vp_in; decide) (j := 0) (by decide) ?_
  refine go_putT dX8_plain_7 sh_58 (by decide) p_X8_128 ⟨Nat.le_of_ble_eq_true rfl, Nat.le_of_ble_eq_true rfl, rfl⟩ rfl rfl ?_
  refine go_iconst dX8_plain_10 (v := (0 : Int32)) (by decide) ?_
  refine go_istore_n dX8_plain_11 rfl (Nat.le_of_ble_eq_true rfl) (L2 := [(1, .int (0 : Int32)), (0, .ref 58)]) rfl ?_
  exact go_loc [(0, .ref 58), (1, .int (0 : Int32))] [1, 0] rfl h
set_option maxRecDepth 100000 in
set_option maxHeartbeats 4000000 in
theorem v_X8_plain_12 {G : CX} {x1 : Int32}  {I : HP} {Q : HP → Prop} (h : (((I 58 11) ≤ x1) → (Q I)) ∧ ((¬ (I 58 11) ≤ x1) → ((vp_in x1 14) ∧ (GV G Y_X8_plain 12 [(0, .ref 58), (1, .int (x1 + 1))] (st I 68 (nn x1) x1) Q)))) : GV G Y_X8_plain 12 [(0, .ref 58), (1, .int x1)] I Q := by
  show Go G Y_X8_plain 12 [(0, .ref 58), (1, .int x1)] [] SH I 0 0 _
  refine go_iload_n dX8_plain_12 rfl 1 rfl ?_
  refine go_aload_n dX8_plain_13 rfl 0 rfl ?_
  refine go_getI dX8_plain_14 sh_58 (by decide) f_X8_128 ⟨Nat.le_of_ble_eq_true rfl, Nat.le_of_ble_eq_true rfl, rfl⟩ ?_
  refine go_icmp_ge (tgt := 33) dX8_plain_17 (by decide) (fun c1 => ?_) (fun c1 => ?_)
  · have h := h.1 c1
    exact go_vret dX8_plain_33 rfl rfl (by decide) ⟨rfl, rfl, h⟩
  · have h := h.2 c1
    refine go_aload_n dX8_plain_20 rfl 0 rfl ?_
    refine go_getR dX8_plain_21 sh_58 (by decide) f_X8_37 ⟨Nat.le_of_ble_eq_true rfl, Nat.le_of_ble_eq_true rfl, rfl⟩ rfl ?_
    refine go_iload_n dX8_plain_24 rfl 1 rfl ?_
    refine go_iload_n dX8_plain_25 rfl 1 rfl ?_
    have hb2 := h.1
    have h := h.2
    refine go_iast dX8_plain_26 sh_68 (by decide) hb2 (j := (nn x1)) rfl ?_
    refine go_iinc dX8_plain_27 1 rfl (v := (x1 + 1)) rfl (Nat.le_of_ble_eq_true rfl) (L2 := [(1, .int (x1 + 1)), (0, .ref 58)]) rfl ?_
    refine go_goto (tgt := 12) dX8_plain_30 (by decide) ?_
    exact go_loc [(0, .ref 58), (1, .int (x1 + 1))] [1, 0] rfl h
set_option maxRecDepth 100000 in
set_option maxHeartbeats 4000000 in
theorem v_X8_counts {G : CX}   {I : HP} {Q : HP → Prop} (h : GV G Y_X8_counts 2 [(0, .ref 58), (1, .int (0 : Int32))] I Q) : RV G Y_X8_counts [.ref 58] I Q := by
  refine ret_of (show plainName RX8 = true by decide) (Nat.le_of_ble_eq_true rfl) ?_
  show Go G Y_X8_counts 0 [(0, .ref 58)] [] SH I 0 0 _
  refine go_iconst dX8_counts_0 (v := (0 : Int32)) (by decide) ?_
  refine go_istore_n dX8_counts_1 rfl (Nat.le_of_ble_eq_true rfl) (L2 := [(1, .int (0 : Int32)), (0, .ref 58)]) rfl ?_
  exact go_loc [(0, .ref 58), (1, .int (0 : Int32))] [1, 0] rfl h
set_option maxRecDepth 100000 in
set_option maxHeartbeats 4000000 in
theorem v_X8_counts_2 {G : CX} {x1 : Int32}  {I : HP} {Q : HP → Prop} (h : (((I 58 11) ≤ x1) → (Q I)) ∧ ((¬ (I 58 11) ≤ x1) → (GV G Y_X8_counts 14 [(0, .ref 58), (1, .int x1), (2, .int (0 : Int32)), (3, .int (0 : Int32))] I Q))) : GV G Y_X8_counts 2 [(0, .ref 58), (1, .int x1)] I Q := by
  show Go G Y_X8_counts 2 [(0, .ref 58), (1, .int x1)] [] SH I 0 0 _
  refine go_iload_n dX8_counts_2 rfl 1 rfl ?_
  refine go_aload_n dX8_counts_3 rfl 0 rfl ?_
  refine go_getI dX8_counts_4 sh_58 (by decide) f_X8_128 ⟨Nat.le_of_ble_eq_true rfl, Nat.le_of_ble_eq_true rfl, rfl⟩ ?_
  refine go_icmp_ge (tgt := 133) dX8_counts_7 (by decide) (fun c1 => ?_) (fun c1 => ?_)
  · have h := h.1 c1
    exact go_vret dX8_counts_133 rfl rfl (by decide) ⟨rfl, rfl, h⟩
  · have h := h.2 c1
    refine go_iconst dX8_counts_10 (v := (0 : Int32)) (by decide) ?_
    refine go_istore_n dX8_counts_11 rfl (Nat.le_of_ble_eq_true rfl) (L2 := [(2, .int (0 : Int32)), (0, .ref 58), (1, .int x1)]) rfl ?_
    refine go_iconst dX8_counts_12 (v := (0 : Int32)) (by decide) ?_
    refine go_istore_n dX8_counts_13 rfl (Nat.le_of_ble_eq_true rfl) (L2 := [(3, .int (0 : Int32)), (2, .int (0 : Int32)), (0, .ref 58), (1, .int x1)]) rfl ?_
    exact go_loc [(0, .ref 58), (1, .int x1), (2, .int (0 : Int32)), (3, .int (0 : Int32))] [2, 3, 1, 0] rfl h
set_option maxRecDepth 100000 in
set_option maxHeartbeats 4000000 in
theorem v_X8_counts_14 {G : CX} {x1 : Int32} {x2 : Int32} {x3 : Int32}  {I : HP} {Q : HP → Prop} (h : ((x1 ≤ x3) → (RI G Y_X8_kindAt [.ref 58, .int x1] I (fun I2 r3 => ((¬ r3 = (1 : Int32)) → ((vp_in x1 14) ∧ ((vp_in ((4 : Int32) * (I2 68 (nn x1))) 64) ∧ ((vp_in (((4 : Int32) * ((st I2 69 (nn x1) (I2 66 (nn ((4 : Int32) * (I2 68 (nn x1)))))) 68 (nn x1))) + (2 : Int32)) 64) ∧ (RI G Y_X8_greater [.int (((st I2 69 (nn x1) (I2 66 (nn ((4 : Int32) * (I2 68 (nn x1)))))) 66 (nn (((4 : Int32) * ((st I2 69 (nn x1) (I2 66 (nn ((4 : Int32) * (I2 68 (nn x1)))))) 68 (nn x1))) + (2 : Int32)))) - x2), .int (0 : Int32)] (st I2 69 (nn x1) (I2 66 (nn ((4 : Int32) * (I2 68 (nn x1)))))) (fun I8 r9 => GV G Y_X8_counts 2 [(0, .ref 58), (1, .int (x1 + 1))] (st I8 70 (nn x1) r9) Q)))))) ∧ ((r3 = (1 : Int32)) → (((x2 ≤ 0) → ((vp_in x1 14) ∧ ((vp_in ((4 : Int32) * (I2 68 (nn x1))) 64) ∧ ((vp_in (((4 : Int32) * ((st I2 69 (nn x1) (I2 66 (nn ((4 : Int32) * (I2 68 (nn x1)))))) 68 (nn x1))) + (2 : Int32)) 64) ∧ (RI G Y_X8_greater [.int (((st I2 69 (nn x1) (I2 66 (nn ((4 : Int32) * (I2 68 (nn x1)))))) 66 (nn (((4 : Int32) * ((st I2 69 (nn x1) (I2 66 (nn ((4 : Int32) * (I2 68 (nn x1)))))) 68 (nn x1))) + (2 : Int32)))) - x2), .int (0 : Int32)] (st I2 69 (nn x1) (I2 66 (nn ((4 : Int32) * (I2 68 (nn x1)))))) (fun I14 r15 => GV G Y_X8_counts 2 [(0, .ref 58), (1, .int (x1 + 1))] (st I14 70 (nn x1) r15) Q)))))) ∧ ((¬ x2 ≤ 0) → ((vp_in x1 14) ∧ (GV G Y_X8_counts 2 [(0, .ref 58), (1, .int (x1 + 1))] (st (st I2 69 (nn x1) (0 : Int32)) 70 (nn x1) (0 : Int32)) Q)))))))) ∧ ((¬ x1 ≤ x3) → (RI G Y_X8_kindAt [.ref 58, .int x3] I (fun I17 r18 => RI G Y_X8_kindAt [.ref 58, .int x1] I17 (fun I19 r20 => ((¬ r18 = r20) → (GV G Y_X8_counts 14 [(0, .ref 58), (1, .int x1), (2, .int (x2 + (0 : Int32))), (3, .int (x3 + 1))] I19 Q)) ∧ ((r18 = r20) → (GV G Y_X8_counts 14 [(0, .ref 58), (1, .int x1), (2, .int (x2 + (1 : Int32))), (3, .int (x3 + 1))] I19 Q))))))) : GV G Y_X8_counts 14 [(0, .ref 58), (1, .int x1), (2, .int x2), (3, .int x3)] I Q := by
  show Go G Y_X8_counts 14 [(0, .ref 58), (1, .int x1), (2, .int x2), (3, .int x3)] [] SH I 0 0 _
  refine go_iload_n dX8_counts_14 rfl 3 rfl ?_
  refine go_iload_n dX8_counts_15 rfl 1 rfl ?_
  refine go_icmp_ge (tgt := 46) dX8_counts_16 (by decide) (fun c1 => ?_) (fun c1 => ?_)
  · have h := h.1 c1
    refine go_aload_n dX8_counts_46 rfl 0 rfl ?_
    refine go_iload_n dX8_counts_47 rfl 1 rfl ?_
    refine go_vcall (Z := Y_X8_kindAt) (As := [.int x1]) (S := []) dX8_counts_48 ok_X8_kindAt l_X8_131 (by decide) sh_58 (by decide) (Nat.le_of_ble_eq_true rfl) rfl rfl rfl (Nat.le_of_ble_eq_true rfl) h (fun _ I2 _ hq => ?_)
    obtain ⟨rfl, r3, rfl, h⟩ := hq
    show Go G Y_X8_counts 51 [(0, .ref 58), (1, .int x1), (2, .int x2), (3, .int x3)] [.int r3] SH I2 0 0 _
    refine go_iconst dX8_counts_51 (v := (1 : Int32)) (by decide) ?_
    refine go_icmp_ne (tgt := 63) dX8_counts_52 (by decide) (fun c4 => ?_) (fun c4 => ?_)
    · have h := h.1 c4
      refine go_iconst dX8_counts_63 (v := (0 : Int32)) (by decide) ?_
      refine go_istore_n dX8_counts_64 rfl (Nat.le_of_ble_eq_true rfl) (L2 := [(3, .int (0 : Int32)), (0, .ref 58), (1, .int x1), (2, .int x2)]) rfl ?_
      refine go_aload_n dX8_counts_65 rfl 1 rfl ?_
      refine go_getR dX8_counts_66 sh_58 (by decide) f_X8_40 ⟨Nat.le_of_ble_eq_true rfl, Nat.le_of_ble_eq_true rfl, rfl⟩ rfl ?_
      refine go_iload_n dX8_counts_69 rfl 2 rfl ?_
      refine go_iload_n dX8_counts_70 rfl 0 rfl ?_
      refine go_if_eq (tgt := 78) dX8_counts_71 (by decide) (fun _ => ?_) (fun c => absurd (by decide) c)
      refine go_aload_n dX8_counts_78 rfl 1 rfl ?_
      refine go_getR dX8_counts_79 sh_58 (by decide) f_X8_31 ⟨Nat.le_of_ble_eq_true rfl, Nat.le_of_ble_eq_true rfl, rfl⟩ rfl ?_
      refine go_iconst dX8_counts_82 (v := (4 : Int32)) (by decide) ?_
      refine go_aload_n dX8_counts_83 rfl 1 rfl ?_
      refine go_getR dX8_counts_84 sh_58 (by decide) f_X8_37 ⟨Nat.le_of_ble_eq_true rfl, Nat.le_of_ble_eq_true rfl, rfl⟩ rfl ?_
      refine go_iload_n dX8_counts_87 rfl 2 rfl ?_
      have hb5 := h.1
      have h := h.2
      refine go_iald dX8_counts_88 sh_68 (by decide) hb5 rfl ?_
      refine go_imul dX8_counts_89 ?_
      have hb6 := h.1
      have h := h.2
      refine go_iald dX8_counts_90 sh_66 (by decide) hb6 rfl ?_
      refine go_iast dX8_counts_91 sh_69 (by decide) hb5 (j := (nn x1)) rfl ?_
      refine go_aload_n dX8_counts_92 rfl 1 rfl ?_
      refine go_getR dX8_counts_93 sh_58 (by decide) f_X8_43 ⟨Nat.le_of_ble_eq_true rfl, Nat.le_of_ble_eq_true rfl, rfl⟩ rfl ?_
      refine go_iload_n dX8_counts_96 rfl 2 rfl ?_
      refine go_iload_n dX8_counts_97 rfl 0 rfl ?_
      refine go_if_eq (tgt := 105) dX8_counts_98 (by decide) (fun _ => ?_) (fun c => absurd (by decide) c)
      refine go_aload_n dX8_counts_105 rfl 1 rfl ?_
      refine go_getR dX8_counts_106 sh_58 (by decide) f_X8_31 ⟨Nat.le_of_ble_eq_true rfl, Nat.le_of_ble_eq_true rfl, rfl⟩ rfl ?_
      refine go_iconst dX8_counts_109 (v := (4 : Int32)) (by decide) ?_
      refine go_aload_n dX8_counts_110 rfl 1 rfl ?_
      refine go_getR dX8_counts_111 sh_58 (by decide) f_X8_37 ⟨Nat.le_of_ble_eq_true rfl, Nat.le_of_ble_eq_true rfl, rfl⟩ rfl ?_
      refine go_iload_n dX8_counts_114 rfl 2 rfl ?_
      refine go_iald dX8_counts_115 sh_68 (by decide) hb5 rfl ?_
      refine go_imul dX8_counts_116 ?_
      refine go_iconst dX8_counts_117 (v := (2 : Int32)) (by decide) ?_
      refine go_iadd dX8_counts_118 ?_
      have hb7 := h.1
      have h := h.2
      refine go_iald dX8_counts_119 sh_66 (by decide) hb7 rfl ?_
      refine go_iload_n dX8_counts_120 rfl 3 rfl ?_
      refine go_isub dX8_counts_121 ?_
      refine go_iconst dX8_counts_122 (v := (0 : Int32)) (by decide) ?_
      refine go_scall (Z := Y_X8_greater) (As := [.int (((st I2 69 (nn x1) (I2 66 (nn ((4 : Int32) * (I2 68 (nn x1)))))) 66 (nn (((4 : Int32) * ((st I2 69 (nn x1) (I2 66 (nn ((4 : Int32) * (I2 68 (nn x1)))))) 68 (nn x1))) + (2 : Int32)))) - x2), .int (0 : Int32)]) (S := [.int x1, .ref 70]) dX8_counts_123 ok_X8_greater l_X8_134 (by decide) rfl rfl (Nat.le_of_ble_eq_true rfl) h (fun _ I8 _ hq => ?_)
      obtain ⟨rfl, r9, rfl, h⟩ := hq
      show Go G Y_X8_counts 126 [(3, .int (0 : Int32)), (0, .ref 58), (1, .int x1), (2, .int x2)] [.int r9, .int x1, .ref 70] SH I8 0 0 _
      refine go_iast dX8_counts_126 sh_70 (by decide) hb5 (j := (nn x1)) rfl ?_
      refine go_iinc dX8_counts_127 2 rfl (v := (x1 + 1)) rfl (Nat.le_of_ble_eq_true rfl) (L2 := [(1, .int (x1 + 1)), (3, .int (0 : Int32)), (0, .ref 58), (2, .int x2)]) rfl ?_
      refine go_goto (tgt := 2) dX8_counts_130 (by decide) ?_
      exact go_loc [(0, .ref 58), (1, .int (x1 + 1))] [2, 0] rfl h
    · have h := h.2 c4
      refine go_iload_n dX8_counts_55 rfl 2 rfl ?_
      refine go_if_le (tgt := 63) dX8_counts_56 (by decide) (fun c10 => ?_) (fun c10 => ?_)
      · have h := h.1 c10
        refine go_iconst dX8_counts_63 (v := (0 : Int32)) (by decide) ?_
        refine go_istore_n dX8_counts_64 rfl (Nat.le_of_ble_eq_true rfl) (L2 := [(3, .int (0 : Int32)), (0, .ref 58), (1, .int x1), (2, .int x2)]) rfl ?_
        refine go_aload_n dX8_counts_65 rfl 1 rfl ?_
        refine go_getR dX8_counts_66 sh_58 (by decide) f_X8_40 ⟨Nat.le_of_ble_eq_true rfl, Nat.le_of_ble_eq_true rfl, rfl⟩ rfl ?_
        refine go_iload_n dX8_counts_69 rfl 2 rfl ?_
        refine go_iload_n dX8_counts_70 rfl 0 rfl ?_
        refine go_if_eq (tgt := 78) dX8_counts_71 (by decide) (fun _ => ?_) (fun c => absurd (by decide) c)
        refine go_aload_n dX8_counts_78 rfl 1 rfl ?_
        refine go_getR dX8_counts_79 sh_58 (by decide) f_X8_31 ⟨Nat.le_of_ble_eq_true rfl, Nat.le_of_ble_eq_true rfl, rfl⟩ rfl ?_
        refine go_iconst dX8_counts_82 (v := (4 : Int32)) (by decide) ?_
        refine go_aload_n dX8_counts_83 rfl 1 rfl ?_
        refine go_getR dX8_counts_84 sh_58 (by decide) f_X8_37 ⟨Nat.le_of_ble_eq_true rfl, Nat.le_of_ble_eq_true rfl, rfl⟩ rfl ?_
        refine go_iload_n dX8_counts_87 rfl 2 rfl ?_
        have hb11 := h.1
        have h := h.2
        refine go_iald dX8_counts_88 sh_68 (by decide) hb11 rfl ?_
        refine go_imul dX8_counts_89 ?_
        have hb12 := h.1
        have h := h.2
        refine go_iald dX8_counts_90 sh_66 (by decide) hb12 rfl ?_
        refine go_iast dX8_counts_91 sh_69 (by decide) hb11 (j := (nn x1)) rfl ?_
        refine go_aload_n dX8_counts_92 rfl 1 rfl ?_
        refine go_getR dX8_counts_93 sh_58 (by decide) f_X8_43 ⟨Nat.le_of_ble_eq_true rfl, Nat.le_of_ble_eq_true rfl, rfl⟩ rfl ?_
        refine go_iload_n dX8_counts_96 rfl 2 rfl ?_
        refine go_iload_n dX8_counts_97 rfl 0 rfl ?_
        refine go_if_eq (tgt := 105) dX8_counts_98 (by decide) (fun _ => ?_) (fun c => absurd (by decide) c)
        refine go_aload_n dX8_counts_105 rfl 1 rfl ?_
        refine go_getR dX8_counts_106 sh_58 (by decide) f_X8_31 ⟨Nat.le_of_ble_eq_true rfl, Nat.le_of_ble_eq_true rfl, rfl⟩ rfl ?_
        refine go_iconst dX8_counts_109 (v := (4 : Int32)) (by decide) ?_
        refine go_aload_n dX8_counts_110 rfl 1 rfl ?_
        refine go_getR dX8_counts_111 sh_58 (by decide) f_X8_37 ⟨Nat.le_of_ble_eq_true rfl, Nat.le_of_ble_eq_true rfl, rfl⟩ rfl ?_
        refine go_iload_n dX8_counts_114 rfl 2 rfl ?_
        refine go_iald dX8_counts_115 sh_68 (by decide) hb11 rfl ?_
        refine go_imul dX8_counts_116 ?_
        refine go_iconst dX8_counts_117 (v := (2 : Int32)) (by decide) ?_
        refine go_iadd dX8_counts_118 ?_
        have hb13 := h.1
        have h := h.2
        refine go_iald dX8_counts_119 sh_66 (by decide) hb13 rfl ?_
        refine go_iload_n dX8_counts_120 rfl 3 rfl ?_
        refine go_isub dX8_counts_121 ?_
        refine go_iconst dX8_counts_122 (v := (0 : Int32)) (by decide) ?_
        refine go_scall (Z := Y_X8_greater) (As := [.int (((st I2 69 (nn x1) (I2 66 (nn ((4 : Int32) * (I2 68 (nn x1)))))) 66 (nn (((4 : Int32) * ((st I2 69 (nn x1) (I2 66 (nn ((4 : Int32) * (I2 68 (nn x1)))))) 68 (nn x1))) + (2 : Int32)))) - x2), .int (0 : Int32)]) (S := [.int x1, .ref 70]) dX8_counts_123 ok_X8_greater l_X8_134 (by decide) rfl rfl (Nat.le_of_ble_eq_true rfl) h (fun _ I14 _ hq => ?_)
        obtain ⟨rfl, r15, rfl, h⟩ := hq
        show Go G Y_X8_counts 126 [(3, .int (0 : Int32)), (0, .ref 58), (1, .int x1), (2, .int x2)] [.int r15, .int x1, .ref 70] SH I14 0 0 _
        refine go_iast dX8_counts_126 sh_70 (by decide) hb11 (j := (nn x1)) rfl ?_
        refine go_iinc dX8_counts_127 2 rfl (v := (x1 + 1)) rfl (Nat.le_of_ble_eq_true rfl) (L2 := [(1, .int (x1 + 1)), (3, .int (0 : Int32)), (0, .ref 58), (2, .int x2)]) rfl ?_
        refine go_goto (tgt := 2) dX8_counts_130 (by decide) ?_
        exact go_loc [(0, .ref 58), (1, .int (x1 + 1))] [2, 0] rfl h
      · have h := h.2 c10
        refine go_iconst dX8_counts_59 (v := (1 : Int32)) (by decide) ?_
        refine go_goto (tgt := 64) dX8_counts_60 (by decide) ?_
        refine go_istore_n dX8_counts_64 rfl (Nat.le_of_ble_eq_true rfl) (L2 := [(3, .int (1 : Int32)), (0, .ref 58), (1, .int x1), (2, .int x2)]) rfl ?_
        refine go_aload_n dX8_counts_65 rfl 1 rfl ?_
        refine go_getR dX8_counts_66 sh_58 (by decide) f_X8_40 ⟨Nat.le_of_ble_eq_true rfl, Nat.le_of_ble_eq_true rfl, rfl⟩ rfl ?_
        refine go_iload_n dX8_counts_69 rfl 2 rfl ?_
        refine go_iload_n dX8_counts_70 rfl 0 rfl ?_
        refine go_if_eq (tgt := 78) dX8_counts_71 (by decide) (fun c => absurd c (by decide)) (fun _ => ?_)
        refine go_iconst dX8_counts_74 (v := (0 : Int32)) (by decide) ?_
        refine go_goto (tgt := 91) dX8_counts_75 (by decide) ?_
        have hb16 := h.1
        have h := h.2
        refine go_iast dX8_counts_91 sh_69 (by decide) hb16 (j := (nn x1)) rfl ?_
        refine go_aload_n dX8_counts_92 rfl 1 rfl ?_
        refine go_getR dX8_counts_93 sh_58 (by decide) f_X8_43 ⟨Nat.le_of_ble_eq_true rfl, Nat.le_of_ble_eq_true rfl, rfl⟩ rfl ?_
        refine go_iload_n dX8_counts_96 rfl 2 rfl ?_
        refine go_iload_n dX8_counts_97 rfl 0 rfl ?_
        refine go_if_eq (tgt := 105) dX8_counts_98 (by decide) (fun c => absurd c (by decide)) (fun _ => ?_)
        refine go_iconst dX8_counts_101 (v := (0 : Int32)) (by decide) ?_
        refine go_goto (tgt := 126) dX8_counts_102 (by decide) ?_
        refine go_iast dX8_counts_126 sh_70 (by decide) hb16 (j := (nn x1)) rfl ?_
        refine go_iinc dX8_counts_127 2 rfl (v := (x1 + 1)) rfl (Nat.le_of_ble_eq_true rfl) (L2 := [(1, .int (x1 + 1)), (3, .int (1 : Int32)), (0, .ref 58), (2, .int x2)]) rfl ?_
        refine go_goto (tgt := 2) dX8_counts_130 (by decide) ?_
        exact go_loc [(0, .ref 58), (1, .int (x1 + 1))] [2, 0] rfl h
  · have h := h.2 c1
    refine go_iload_n dX8_counts_19 rfl 2 rfl ?_
    refine go_aload_n dX8_counts_20 rfl 0 rfl ?_
    refine go_iload_n dX8_counts_21 rfl 3 rfl ?_
    refine go_vcall (Z := Y_X8_kindAt) (As := [.int x3]) (S := [.int x2]) dX8_counts_22 ok_X8_kindAt l_X8_131 (by decide) sh_58 (by decide) (Nat.le_of_ble_eq_true rfl) rfl rfl rfl (Nat.le_of_ble_eq_true rfl) h (fun _ I17 _ hq => ?_)
    obtain ⟨rfl, r18, rfl, h⟩ := hq
    show Go G Y_X8_counts 25 [(0, .ref 58), (1, .int x1), (2, .int x2), (3, .int x3)] [.int r18, .int x2] SH I17 0 0 _
    refine go_aload_n dX8_counts_25 rfl 0 rfl ?_
    refine go_iload_n dX8_counts_26 rfl 1 rfl ?_
    refine go_vcall (Z := Y_X8_kindAt) (As := [.int x1]) (S := [.int r18, .int x2]) dX8_counts_27 ok_X8_kindAt l_X8_131 (by decide) sh_58 (by decide) (Nat.le_of_ble_eq_true rfl) rfl rfl rfl (Nat.le_of_ble_eq_true rfl) h (fun _ I19 _ hq => ?_)
    obtain ⟨rfl, r20, rfl, h⟩ := hq
    show Go G Y_X8_counts 30 [(0, .ref 58), (1, .int x1), (2, .int x2), (3, .int x3)] [.int r20, .int r18, .int x2] SH I19 0 0 _
    refine go_icmp_ne (tgt := 37) dX8_counts_30 (by decide) (fun c21 => ?_) (fun c21 => ?_)
    · have h := h.1 c21
      refine go_iconst dX8_counts_37 (v := (0 : Int32)) (by decide) ?_
      refine go_iadd dX8_counts_38 ?_
      refine go_istore_n dX8_counts_39 rfl (Nat.le_of_ble_eq_true rfl) (L2 := [(2, .int (x2 + (0 : Int32))), (0, .ref 58), (1, .int x1), (3, .int x3)]) rfl ?_
      refine go_iinc dX8_counts_40 3 rfl (v := (x3 + 1)) rfl (Nat.le_of_ble_eq_true rfl) (L2 := [(3, .int (x3 + 1)), (2, .int (x2 + (0 : Int32))), (0, .ref 58), (1, .int x1)]) rfl ?_
      refine go_goto (tgt := 14) dX8_counts_43 (by decide) ?_
      exact go_loc [(0, .ref 58), (1, .int x1), (2, .int (x2 + (0 : Int32))), (3, .int (x3 + 1))] [2, 3, 1, 0] rfl h
    · have h := h.2 c21
      refine go_iconst dX8_counts_33 (v := (1 : Int32)) (by decide) ?_
      refine go_goto (tgt := 38) dX8_counts_34 (by decide) ?_
      refine go_iadd dX8_counts_38 ?_
      refine go_istore_n dX8_counts_39 rfl (Nat.le_of_ble_eq_true rfl) (L2 := [(2, .int (x2 + (1 : Int32))), (0, .ref 58), (1, .int x1), (3, .int x3)]) rfl ?_
      refine go_iinc dX8_counts_40 3 rfl (v := (x3 + 1)) rfl (Nat.le_of_ble_eq_true rfl) (L2 := [(3, .int (x3 + 1)), (2, .int (x2 + (1 : Int32))), (0, .ref 58), (1, .int x1)]) rfl ?_
      refine go_goto (tgt := 14) dX8_counts_43 (by decide) ?_
      exact go_loc [(0, .ref 58), (1, .int x1), (2, .int (x2 + (1 : Int32))), (3, .int (x3 + 1))] [2, 3, 1, 0] rfl h
set_option maxRecDepth 100000 in
set_option maxHeartbeats 4000000 in
theorem v_X8_says {G : CX} {a1 : Int32} {a2 : Int32} {a3 : Int32}  {I : HP} {Q : HP → Prop} (h : RV G Y_X8_counts [.ref 58] I (fun I1 => GV G Y_X8_says 7 [(0, .ref 58), (1, .int a1), (2, .int a2), (3, .int a3), (4, .int (0 : Int32))] I1 Q)) : RV G Y_X8_says [.ref 58, .int a1, .int a2, .int a3] I Q := by
  refine ret_of (show plainName RX8 = true by decide) (Nat.le_of_ble_eq_true rfl) ?_
  show Go G Y_X8_says 0 [(0, .ref 58), (1, .int a1), (2, .int a2), (3, .int a3)] [] SH I 0 0 _
  refine go_aload_n dX8_says_0 rfl 0 rfl ?_
  refine go_vcall (Z := Y_X8_counts) (As := []) (S := []) dX8_says_1 ok_X8_counts l_X8_137 (by decide) sh_58 (by decide) (Nat.le_of_ble_eq_true rfl) rfl rfl rfl (Nat.le_of_ble_eq_true rfl) h (fun _ I1 _ hq => ?_)
  obtain ⟨rfl, rfl, h⟩ := hq
  show Go G Y_X8_says 4 [(0, .ref 58), (1, .int a1), (2, .int a2), (3, .int a3)] [] SH I1 0 0 _
  refine go_iconst dX8_says_4 (v := (0 : Int32)) (by decide) ?_
  refine go_istore dX8_says_5 (Nat.le_of_ble_eq_true rfl) (L2 := [(4, .int (0 : Int32)), (0, .ref 58), (1, .int a1), (2, .int a2), (3, .int a3)]) rfl ?_
  exact go_loc [(0, .ref 58), (1, .int a1), (2, .int a2), (3, .int a3), (4, .int (0 : Int32))] [1, 2, 3, 4, 0] rfl h
set_option maxRecDepth 100000 in
set_option maxHeartbeats 4000000 in
theorem v_X8_says_7 {G : CX} {x1 : Int32} {x2 : Int32} {x3 : Int32} {x4 : Int32}  {I : HP} {Q : HP → Prop} (h : (((I 58 11) ≤ x4) → (GV G Y_X8_says 108 [(0, .ref 58), (2, .int x2), (3, .int x3), (4, .int (0 : Int32)), (5, .int x1), (6, .int (0 : Int32)), (7, .int (I 67 1)), (8, .int (0 : Int32)), (9, .int (1 : Int32)), (10, .int (0 : Int32))] (st (st (st (st I 58 20 (0 : Int32)) 58 21 (0 : Int32)) 58 22 (0 : Int32)) 58 23 (0 : Int32)) Q)) ∧ ((¬ (I 58 11) ≤ x4) → ((vp_in x4 14) ∧ (∀ I3 : HP, I3 = (st (st (st (st I 71 (nn x4) (-1 : Int32)) 72 (nn x4) (-1 : Int32)) 73 (nn x4) (-1 : Int32)) 74 (nn x4) (-1 : Int32)) → GV G Y_X8_says 7 [(0, .ref 58), (1, .int x1), (2, .int x2), (3, .int x3), (4, .int (x4 + 1))] (st I3 75 (nn x4) (-1 : Int32)) Q)))) : GV G Y_X8_says 7 [(0, .ref 58), (1, .int x1), (2, .int x2), (3, .int x3), (4, .int x4)] I Q := by
  show Go G Y_X8_says 7 [(0, .ref 58), (1, .int x1), (2, .int x2), (3, .int x3), (4, .int x4)] [] SH I 0 0 _
  refine go_iload dX8_says_7 4 rfl ?_
  refine go_aload_n dX8_says_9 rfl 0 rfl ?_
  refine go_getI dX8_says_10 sh_58 (by decide) f_X8_128 ⟨Nat.le_of_ble_eq_true rfl, Nat.le_of_ble_eq_true rfl, rfl⟩ ?_
  refine go_icmp_ge (tgt := 62) dX8_says_13 (by decide) (fun c1 => ?_) (fun c1 => ?_)
  · have h := h.1 c1
    refine go_iconst dX8_says_62 (v := (0 : Int32)) (by decide) ?_
    refine go_istore dX8_says_63 (Nat.le_of_ble_eq_true rfl) (L2 := [(4, .int (0 : Int32)), (0, .ref 58), (1, .int x1), (2, .int x2), (3, .int x3)]) rfl ?_
    refine go_iload_n dX8_says_65 rfl 2 rfl ?_
    refine go_istore dX8_says_66 (Nat.le_of_ble_eq_true rfl) (L2 := [(5, .int x1), (4, .int (0 : Int32)), (0, .ref 58), (1, .int x1), (2, .int x2), (3, .int x3)]) rfl ?_
    refine go_iconst dX8_says_68 (v := (0 : Int32)) (by decide) ?_
    refine go_istore dX8_says_69 (Nat.le_of_ble_eq_true rfl) (L2 := [(6, .int (0 : Int32)), (5, .int x1), (4, .int (0 : Int32)), (0, .ref 58), (1, .int x1), (2, .int x2), (3, .int x3)]) rfl ?_
    refine go_aload_n dX8_says_71 rfl 3 rfl ?_
    refine go_getR dX8_says_72 sh_58 (by decide) f_X8_34 ⟨Nat.le_of_ble_eq_true rfl, Nat.le_of_ble_eq_true rfl, rfl⟩ rfl ?_
    refine go_iconst dX8_says_75 (v := (1 : Int32)) (by decide) ?_
    refine go_iald dX8_says_76 sh_67 (by decide) (by unfold vp_in; decide) (j := 1) (by decide) ?_
    refine go_istore dX8_says_77 (Nat.le_of_ble_eq_true rfl) (L2 := [(7, .int (I 67 1)), (6, .int (0 : Int32)), (5, .int x1), (4, .int (0 : Int32)), (0, .ref 58), (1, .int x1), (2, .int x2), (3, .int x3)]) rfl ?_
    refine go_iconst dX8_says_79 (v := (0 : Int32)) (by decide) ?_
    refine go_istore dX8_says_80 (Nat.le_of_ble_eq_true rfl) (L2 := [(8, .int (0 : Int32)), (7, .int (I 67 1)), (6, .int (0 : Int32)), (5, .int x1), (4, .int (0 : Int32)), (0, .ref 58), (1, .int x1), (2, .int x2), (3, .int x3)]) rfl ?_
    refine go_aload_n dX8_says_82 rfl 5 rfl ?_
    refine go_iconst dX8_says_83 (v := (0 : Int32)) (by decide) ?_
    refine go_putT dX8_says_84 sh_58 (by decide) p_X8_140 ⟨Nat.le_of_ble_eq_true rfl, Nat.le_of_ble_eq_true rfl, rfl⟩ rfl rfl ?_
    refine go_aload_n dX8_says_87 rfl 5 rfl ?_
    refine go_iconst dX8_says_88 (v := (0 : Int32)) (by decide) ?_
    refine go_putT dX8_says_89 sh_58 (by decide) p_X8_143 ⟨Nat.le_of_ble_eq_true rfl, Nat.le_of_ble_eq_true rfl, rfl⟩ rfl rfl ?_
    refine go_aload_n dX8_says_92 rfl 5 rfl ?_
    refine go_iconst dX8_says_93 (v := (0 : Int32)) (by decide) ?_
    refine go_putT dX8_says_94 sh_58 (by decide) p_X8_146 ⟨Nat.le_of_ble_eq_true rfl, Nat.le_of_ble_eq_true rfl, rfl⟩ rfl rfl ?_
    refine go_aload_n dX8_says_97 rfl 5 rfl ?_
    refine go_iconst dX8_says_98 (v := (0 : Int32)) (by decide) ?_
    refine go_putT dX8_says_99 sh_58 (by decide) p_X8_149 ⟨Nat.le_of_ble_eq_true rfl, Nat.le_of_ble_eq_true rfl, rfl⟩ rfl rfl ?_
    refine go_iconst dX8_says_102 (v := (1 : Int32)) (by decide) ?_
    refine go_istore dX8_says_103 (Nat.le_of_ble_eq_true rfl) (L2 := [(9, .int (1 : Int32)), (8, .int (0 : Int32)), (7, .int (I 67 1)), (6, .int (0 : Int32)), (5, .int x1), (4, .int (0 : Int32)), (0, .ref 58), (1, .int x1), (2, .int x2), (3, .int x3)]) rfl ?_
    refine go_iconst dX8_says_105 (v := (0 : Int32)) (by decide) ?_
    refine go_istore dX8_says_106 (Nat.le_of_ble_eq_true rfl) (L2 := [(10, .int (0 : Int32)), (9, .int (1 : Int32)), (8, .int (0 : Int32)), (7, .int (I 67 1)), (6, .int (0 : Int32)), (5, .int x1), (4, .int (0 : Int32)), (0, .ref 58), (1, .int x1), (2, .int x2), (3, .int x3)]) rfl ?_
    exact go_loc [(0, .ref 58), (2, .int x2), (3, .int x3), (4, .int (0 : Int32)), (5, .int x1), (6, .int (0 : Int32)), (7, .int (I 67 1)), (8, .int (0 : Int32)), (9, .int (1 : Int32)), (10, .int (0 : Int32))] [7, 9, 10, 6, 5, 4, 3, 2, 1, 0] rfl h
  · have h := h.2 c1
    refine go_aload_n dX8_says_16 rfl 0 rfl ?_
    refine go_getR dX8_says_17 sh_58 (by decide) f_X8_46 ⟨Nat.le_of_ble_eq_true rfl, Nat.le_of_ble_eq_true rfl, rfl⟩ rfl ?_
    refine go_iload dX8_says_20 4 rfl ?_
    refine go_iconst dX8_says_22 (v := (-1 : Int32)) (by decide) ?_
    have hb2 := h.1
    have h := h.2
    refine go_iast dX8_says_23 sh_71 (by decide) hb2 (j := (nn x4)) rfl ?_
    refine go_aload_n dX8_says_24 rfl 0 rfl ?_
    refine go_getR dX8_says_25 sh_58 (by decide) f_X8_49 ⟨Nat.le_of_ble_eq_true rfl, Nat.le_of_ble_eq_true rfl, rfl⟩ rfl ?_
    refine go_iload dX8_says_28 4 rfl ?_
    refine go_iconst dX8_says_30 (v := (-1 : Int32)) (by decide) ?_
    refine go_iast dX8_says_31 sh_72 (by decide) hb2 (j := (nn x4)) rfl ?_
    refine go_aload_n dX8_says_32 rfl 0 rfl ?_
    refine go_getR dX8_says_33 sh_58 (by decide) f_X8_52 ⟨Nat.le_of_ble_eq_true rfl, Nat.le_of_ble_eq_true rfl, rfl⟩ rfl ?_
    refine go_iload dX8_says_36 4 rfl ?_
    refine go_iconst dX8_says_38 (v := (-1 : Int32)) (by decide) ?_
    refine go_iast dX8_says_39 sh_73 (by decide) hb2 (j := (nn x4)) rfl ?_
    refine go_aload_n dX8_says_40 rfl 0 rfl ?_
    refine go_getR dX8_says_41 sh_58 (by decide) f_X8_55 ⟨Nat.le_of_ble_eq_true rfl, Nat.le_of_ble_eq_true rfl, rfl⟩ rfl ?_
    refine go_iload dX8_says_44 4 rfl ?_
    refine go_iconst dX8_says_46 (v := (-1 : Int32)) (by decide) ?_
    refine go_iast dX8_says_47 sh_74 (by decide) hb2 (j := (nn x4)) rfl ?_
    refine go_nm (fun I3 eI3 => ?_)
    have h := h I3 eI3
    refine go_aload_n dX8_says_48 rfl 0 rfl ?_
    refine go_getR dX8_says_49 sh_58 (by decide) f_X8_58 ⟨Nat.le_of_ble_eq_true rfl, Nat.le_of_ble_eq_true rfl, rfl⟩ rfl ?_
    refine go_iload dX8_says_52 4 rfl ?_
    refine go_iconst dX8_says_54 (v := (-1 : Int32)) (by decide) ?_
    refine go_iast dX8_says_55 sh_75 (by decide) hb2 (j := (nn x4)) rfl ?_
    refine go_iinc dX8_says_56 4 rfl (v := (x4 + 1)) rfl (Nat.le_of_ble_eq_true rfl) (L2 := [(4, .int (x4 + 1)), (0, .ref 58), (1, .int x1), (2, .int x2), (3, .int x3)]) rfl ?_
    refine go_goto (tgt := 7) dX8_says_59 (by decide) ?_
    exact go_loc [(0, .ref 58), (1, .int x1), (2, .int x2), (3, .int x3), (4, .int (x4 + 1))] [1, 2, 3, 4, 0] rfl h
set_option maxRecDepth 100000 in
set_option maxHeartbeats 4000000 in
theorem v_X8_says_108 {G : CX} {x2 : Int32} {x3 : Int32} {x4 : Int32} {x5 : Int32} {x6 : Int32} {x7 : Int32} {x8 : Int32} {x9 : Int32} {x10 : Int32}  {I : HP} {Q : HP → Prop} (h : (((I 58 11) ≤ x10) → (Q I)) ∧ ((¬ (I 58 11) ≤ x10) → (((x9 = 0) → (Q I)) ∧ ((¬ x9 = 0) → ((vp_in x10 14) ∧ (RI G Y_X8_greater [.int ((x6 + (I 69 (nn x10))) - x5), .int (0 : Int32)] I (fun I4 r5 => ((x2 = 0) → (GV G Y_X8_says 161 [(0, .ref 58), (2, .int x2), (3, .int x3), (4, .int x4), (5, .int x5), (6, .int (x6 + (I 69 (nn x10)))), (7, .int x7), (8, .int x8), (9, .int (1 : Int32)), (10, .int x10), (11, .int r5)] I4 Q)) ∧ ((¬ x2 = 0) → (((¬ r5 = 0) → (GV G Y_X8_says 161 [(0, .ref 58), (2, .int x2), (3, .int x3), (4, .int x4), (5, .int x5), (6, .int (x6 + (I 69 (nn x10)))), (7, .int x7), (8, .int x8), (9, .int (0 : Int32)), (10, .int x10), (11, .int r5)] I4 Q)) ∧ ((r5 = 0) → (GV G Y_X8_says 161 [(0, .ref 58), (2, .int x2), (3, .int x3), (4, .int x4), (5, .int x5), (6, .int (x6 + (I 69 (nn x10)))), (7, .int x7), (8, .int x8), (9, .int (1 : Int32)), (10, .int x10), (11, .int r5)] I4 Q))))))))))) : GV G Y_X8_says 108 [(0, .ref 58), (2, .int x2), (3, .int x3), (4, .int x4), (5, .int x5), (6, .int x6), (7, .int x7), (8, .int x8), (9, .int x9), (10, .int x10)] I Q := by
  show Go G Y_X8_says 108 [(0, .ref 58), (2, .int x2), (3, .int x3), (4, .int x4), (5, .int x5), (6, .int x6), (7, .int x7), (8, .int x8), (9, .int x9), (10, .int x10)] [] SH I 0 0 _
  refine go_iload dX8_says_108 9 rfl ?_
  refine go_aload_n dX8_says_110 rfl 0 rfl ?_
  refine go_getI dX8_says_111 sh_58 (by decide) f_X8_128 ⟨Nat.le_of_ble_eq_true rfl, Nat.le_of_ble_eq_true rfl, rfl⟩ ?_
  refine go_icmp_ge (tgt := 464) dX8_says_114 (by decide) (fun c1 => ?_) (fun c1 => ?_)
  · have h := h.1 c1
    exact go_vret dX8_says_464 rfl rfl (by decide) ⟨rfl, rfl, h⟩
  · have h := h.2 c1
    refine go_iload dX8_says_117 8 rfl ?_
    refine go_if_eq (tgt := 464) dX8_says_119 (by decide) (fun c2 => ?_) (fun c2 => ?_)
    · have h := h.1 c2
      exact go_vret dX8_says_464 rfl rfl (by decide) ⟨rfl, rfl, h⟩
    · have h := h.2 c2
      refine go_iload dX8_says_122 5 rfl ?_
      refine go_aload_n dX8_says_124 rfl 0 rfl ?_
      refine go_getR dX8_says_125 sh_58 (by decide) f_X8_40 ⟨Nat.le_of_ble_eq_true rfl, Nat.le_of_ble_eq_true rfl, rfl⟩ rfl ?_
      refine go_iload dX8_says_128 9 rfl ?_
      have hb3 := h.1
      have h := h.2
      refine go_iald dX8_says_130 sh_69 (by decide) hb3 rfl ?_
      refine go_iadd dX8_says_131 ?_
      refine go_istore dX8_says_132 (Nat.le_of_ble_eq_true rfl) (L2 := [(6, .int (x6 + (I 69 (nn x10)))), (0, .ref 58), (2, .int x2), (3, .int x3), (4, .int x4), (5, .int x5), (7, .int x7), (8, .int x8), (9, .int x9), (10, .int x10)]) rfl ?_
      refine go_iload dX8_says_134 0 rfl ?_
      refine go_iload dX8_says_136 5 rfl ?_
      refine go_isub dX8_says_138 ?_
      refine go_iconst dX8_says_139 (v := (0 : Int32)) (by decide) ?_
      refine go_scall (Z := Y_X8_greater) (As := [.int ((x6 + (I 69 (nn x10))) - x5), .int (0 : Int32)]) (S := []) dX8_says_140 ok_X8_greater l_X8_134 (by decide) rfl rfl (Nat.le_of_ble_eq_true rfl) h (fun _ I4 _ hq => ?_)
      obtain ⟨rfl, r5, rfl, h⟩ := hq
      show Go G Y_X8_says 143 [(6, .int (x6 + (I 69 (nn x10)))), (0, .ref 58), (2, .int x2), (3, .int x3), (4, .int x4), (5, .int x5), (7, .int x7), (8, .int x8), (9, .int x9), (10, .int x10)] [.int r5] SH I4 0 0 _
      refine go_istore dX8_says_143 (Nat.le_of_ble_eq_true rfl) (L2 := [(11, .int r5), (6, .int (x6 + (I 69 (nn x10)))), (0, .ref 58), (2, .int x2), (3, .int x3), (4, .int x4), (5, .int x5), (7, .int x7), (8, .int x8), (9, .int x9), (10, .int x10)]) rfl ?_
      refine go_iload_n dX8_says_145 rfl 3 rfl ?_
      refine go_if_eq (tgt := 154) dX8_says_146 (by decide) (fun c6 => ?_) (fun c6 => ?_)
      · have h := h.1 c6
        refine go_iconst dX8_says_154 (v := (1 : Int32)) (by decide) ?_
        refine go_goto (tgt := 159) dX8_says_155 (by decide) ?_
        refine go_istore dX8_says_159 (Nat.le_of_ble_eq_true rfl) (L2 := [(9, .int (1 : Int32)), (11, .int r5), (6, .int (x6 + (I 69 (nn x10)))), (0, .ref 58), (2, .int x2), (3, .int x3), (4, .int x4), (5, .int x5), (7, .int x7), (8, .int x8), (10, .int x10)]) rfl ?_
        exact go_loc [(0, .ref 58), (2, .int x2), (3, .int x3), (4, .int x4), (5, .int x5), (6, .int (x6 + (I 69 (nn x10)))), (7, .int x7), (8, .int x8), (9, .int (1 : Int32)), (10, .int x10), (11, .int r5)] [3, 4, 5, 6, 7, 2, 8, 9, 0, 10, 1] rfl h
      · have h := h.2 c6
        refine go_iload dX8_says_149 0 rfl ?_
        refine go_if_ne (tgt := 158) dX8_says_151 (by decide) (fun c7 => ?_) (fun c7 => ?_)
        · have h := h.1 c7
          refine go_iconst dX8_says_158 (v := (0 : Int32)) (by decide) ?_
          refine go_istore dX8_says_159 (Nat.le_of_ble_eq_true rfl) (L2 := [(9, .int (0 : Int32)), (11, .int r5), (6, .int (x6 + (I 69 (nn x10)))), (0, .ref 58), (2, .int x2), (3, .int x3), (4, .int x4), (5, .int x5), (7, .int x7), (8, .int x8), (10, .int x10)]) rfl ?_
          exact go_loc [(0, .ref 58), (2, .int x2), (3, .int x3), (4, .int x4), (5, .int x5), (6, .int (x6 + (I 69 (nn x10)))), (7, .int x7), (8, .int x8), (9, .int (0 : Int32)), (10, .int x10), (11, .int r5)] [3, 4, 5, 6, 7, 2, 8, 9, 0, 10, 1] rfl h
        · have h := h.2 c7
          refine go_iconst dX8_says_154 (v := (1 : Int32)) (by decide) ?_
          refine go_goto (tgt := 159) dX8_says_155 (by decide) ?_
          refine go_istore dX8_says_159 (Nat.le_of_ble_eq_true rfl) (L2 := [(9, .int (1 : Int32)), (11, .int r5), (6, .int (x6 + (I 69 (nn x10)))), (0, .ref 58), (2, .int x2), (3, .int x3), (4, .int x4), (5, .int x5), (7, .int x7), (8, .int x8), (10, .int x10)]) rfl ?_
          exact go_loc [(0, .ref 58), (2, .int x2), (3, .int x3), (4, .int x4), (5, .int x5), (6, .int (x6 + (I 69 (nn x10)))), (7, .int x7), (8, .int x8), (9, .int (1 : Int32)), (10, .int x10), (11, .int r5)] [3, 4, 5, 6, 7, 2, 8, 9, 0, 10, 1] rfl h
set_option maxRecDepth 100000 in
set_option maxHeartbeats 4000000 in
theorem v_X8_says_161 {G : CX} {x2 : Int32} {x3 : Int32} {x4 : Int32} {x5 : Int32} {x6 : Int32} {x7 : Int32} {x8 : Int32} {x9 : Int32} {x10 : Int32} {x11 : Int32}  {I : HP} {Q : HP → Prop} (h : ((x9 = 0) → (GV G Y_X8_says 458 [(0, .ref 58), (2, .int x2), (3, .int x3), (4, .int x4), (5, .int x5), (6, .int x6), (7, .int x7), (8, .int x8), (9, .int x9), (10, .int x10)] I Q)) ∧ ((¬ x9 = 0) → ((vp_in x10 14) ∧ (RI G Y_X8_sayAt [.ref 58, .int x10] (st (st (st I 75 (nn x10) x11) 58 21 (((st I 75 (nn x10) x11) 58 21) + x11)) 71 (nn x10) (x4 + x11)) (fun I3 r4 => ∀ I5 : HP, I5 = (st I3 72 (nn x10) (((st (st (st I 75 (nn x10) x11) 58 21 (((st I 75 (nn x10) x11) 58 21) + x11)) 71 (nn x10) (x4 + x11)) 71 (nn x10)) + r4)) → RI G Y_X8_sayAt [.ref 58, .int x10] (st I5 73 (nn x10) ((I5 72 (nn x10)) + (I5 70 (nn x10)))) (fun I6 r7 => RI G Y_X8_kindAt [.ref 58, .int x10] I6 (fun I8 r9 => ((¬ r9 = (3 : Int32)) → (GV G Y_X8_says 272 [(0, .ref 58), (2, .int x2), (3, .int x3), (4, .int x4), (5, .int (x5 + x11)), (6, .int x6), (7, .int x7), (8, .int x8), (10, .int x10), (12, .int (r7 + (0 : Int32)))] I8 Q)) ∧ ((r9 = (3 : Int32)) → (GV G Y_X8_says 272 [(0, .ref 58), (2, .int x2), (3, .int x3), (4, .int x4), (5, .int (x5 + x11)), (6, .int x6), (7, .int x7), (8, .int x8), (10, .int x10), (12, .int (r7 + (2 : Int32)))] I8 Q))))))))) : GV G Y_X8_says 161 [(0, .ref 58), (2, .int x2), (3, .int x3), (4, .int x4), (5, .int x5), (6, .int x6), (7, .int x7), (8, .int x8), (9, .int x9), (10, .int x10), (11, .int x11)] I Q := by
  show Go G Y_X8_says 161 [(0, .ref 58), (2, .int x2), (3, .int x3), (4, .int x4), (5, .int x5), (6, .int x6), (7, .int x7), (8, .int x8), (9, .int x9), (10, .int x10), (11, .int x11)] [] SH I 0 0 _
  refine go_iload dX8_says_161 8 rfl ?_
  refine go_if_eq (tgt := 458) dX8_says_163 (by decide) (fun c1 => ?_) (fun c1 => ?_)
  · have h := h.1 c1
    exact go_loc [(0, .ref 58), (2, .int x2), (3, .int x3), (4, .int x4), (5, .int x5), (6, .int x6), (7, .int x7), (8, .int x8), (9, .int x9), (10, .int x10)] [0, 1, 2, 3, 4, 5, 6, 7, 8, 9] rfl h
  · have h := h.2 c1
    refine go_iload dX8_says_166 4 rfl ?_
    refine go_iload dX8_says_168 10 rfl ?_
    refine go_iadd dX8_says_170 ?_
    refine go_istore dX8_says_171 (Nat.le_of_ble_eq_true rfl) (L2 := [(5, .int (x5 + x11)), (0, .ref 58), (2, .int x2), (3, .int x3), (4, .int x4), (6, .int x6), (7, .int x7), (8, .int x8), (9, .int x9), (10, .int x10), (11, .int x11)]) rfl ?_
    refine go_aload_n dX8_says_173 rfl 1 rfl ?_
    refine go_getR dX8_says_174 sh_58 (by decide) f_X8_58 ⟨Nat.le_of_ble_eq_true rfl, Nat.le_of_ble_eq_true rfl, rfl⟩ rfl ?_
    refine go_iload dX8_says_177 9 rfl ?_
    refine go_iload dX8_says_179 10 rfl ?_
    have hb2 := h.1
    have h := h.2
    refine go_iast dX8_says_181 sh_75 (by decide) hb2 (j := (nn x10)) rfl ?_
    refine go_aload_n dX8_says_182 rfl 1 rfl ?_
    refine go_dup dX8_says_183 rfl ?_
    refine go_getI dX8_says_184 sh_58 (by decide) f_X8_143 ⟨Nat.le_of_ble_eq_true rfl, Nat.le_of_ble_eq_true rfl, rfl⟩ ?_
    refine go_iload dX8_says_187 10 rfl ?_
    refine go_iadd dX8_says_189 ?_
    refine go_putT dX8_says_190 sh_58 (by decide) p_X8_143 ⟨Nat.le_of_ble_eq_true rfl, Nat.le_of_ble_eq_true rfl, rfl⟩ rfl rfl ?_
    refine go_aload_n dX8_says_193 rfl 1 rfl ?_
    refine go_getR dX8_says_194 sh_58 (by decide) f_X8_46 ⟨Nat.le_of_ble_eq_true rfl, Nat.le_of_ble_eq_true rfl, rfl⟩ rfl ?_
    refine go_iload dX8_says_197 9 rfl ?_
    refine go_iload dX8_says_199 4 rfl ?_
    refine go_iload dX8_says_201 10 rfl ?_
    refine go_iadd dX8_says_203 ?_
    refine go_iast dX8_says_204 sh_71 (by decide) hb2 (j := (nn x10)) rfl ?_
    refine go_aload_n dX8_says_205 rfl 1 rfl ?_
    refine go_getR dX8_says_206 sh_58 (by decide) f_X8_49 ⟨Nat.le_of_ble_eq_true rfl, Nat.le_of_ble_eq_true rfl, rfl⟩ rfl ?_
    refine go_iload dX8_says_209 9 rfl ?_
    refine go_aload_n dX8_says_211 rfl 1 rfl ?_
    refine go_getR dX8_says_212 sh_58 (by decide) f_X8_46 ⟨Nat.le_of_ble_eq_true rfl, Nat.le_of_ble_eq_true rfl, rfl⟩ rfl ?_
    refine go_iload dX8_says_215 9 rfl ?_
    refine go_iald dX8_says_217 sh_71 (by decide) hb2 rfl ?_
    refine go_aload_n dX8_says_218 rfl 1 rfl ?_
    refine go_iload dX8_says_219 9 rfl ?_
    refine go_vcall (Z := Y_X8_sayAt) (As := [.int x10]) (S := [.int ((st (st (st I 75 (nn x10) x11) 58 21 (((st I 75 (nn x10) x11) 58 21) + x11)) 71 (nn x10) (x4 + x11)) 71 (nn x10)), .int x10, .ref 72]) dX8_says_221 ok_X8_sayAt l_X8_152 (by decide) sh_58 (by decide) (Nat.le_of_ble_eq_true rfl) rfl rfl rfl (Nat.le_of_ble_eq_true rfl) h (fun _ I3 _ hq => ?_)
    obtain ⟨rfl, r4, rfl, h⟩ := hq
    show Go G Y_X8_says 224 [(5, .int (x5 + x11)), (0, .ref 58), (2, .int x2), (3, .int x3), (4, .int x4), (6, .int x6), (7, .int x7), (8, .int x8), (9, .int x9), (10, .int x10), (11, .int x11)] [.int r4, .int ((st (st (st I 75 (nn x10) x11) 58 21 (((st I 75 (nn x10) x11) 58 21) + x11)) 71 (nn x10) (x4 + x11)) 71 (nn x10)), .int x10, .ref 72] SH I3 0 0 _
    refine go_iadd dX8_says_224 ?_
    refine go_iast dX8_says_225 sh_72 (by decide) hb2 (j := (nn x10)) rfl ?_
    refine go_nm (fun I5 eI5 => ?_)
    have h := h I5 eI5
    refine go_aload_n dX8_says_226 rfl 1 rfl ?_
    refine go_getR dX8_says_227 sh_58 (by decide) f_X8_52 ⟨Nat.le_of_ble_eq_true rfl, Nat.le_of_ble_eq_true rfl, rfl⟩ rfl ?_
    refine go_iload dX8_says_230 9 rfl ?_
    refine go_aload_n dX8_says_232 rfl 1 rfl ?_
    refine go_getR dX8_says_233 sh_58 (by decide) f_X8_49 ⟨Nat.le_of_ble_eq_true rfl, Nat.le_of_ble_eq_true rfl, rfl⟩ rfl ?_
    refine go_iload dX8_says_236 9 rfl ?_
    refine go_iald dX8_says_238 sh_72 (by decide) hb2 rfl ?_
    refine go_aload_n dX8_says_239 rfl 1 rfl ?_
    refine go_getR dX8_says_240 sh_58 (by decide) f_X8_43 ⟨Nat.le_of_ble_eq_true rfl, Nat.le_of_ble_eq_true rfl, rfl⟩ rfl ?_
    refine go_iload dX8_says_243 9 rfl ?_
    refine go_iald dX8_says_245 sh_70 (by decide) hb2 rfl ?_
    refine go_iadd dX8_says_246 ?_
    refine go_iast dX8_says_247 sh_73 (by decide) hb2 (j := (nn x10)) rfl ?_
    refine go_aload_n dX8_says_248 rfl 1 rfl ?_
    refine go_iload dX8_says_249 9 rfl ?_
    refine go_vcall (Z := Y_X8_sayAt) (As := [.int x10]) (S := []) dX8_says_251 ok_X8_sayAt l_X8_152 (by decide) sh_58 (by decide) (Nat.le_of_ble_eq_true rfl) rfl rfl rfl (Nat.le_of_ble_eq_true rfl) h (fun _ I6 _ hq => ?_)
    obtain ⟨rfl, r7, rfl, h⟩ := hq
    show Go G Y_X8_says 254 [(5, .int (x5 + x11)), (0, .ref 58), (2, .int x2), (3, .int x3), (4, .int x4), (6, .int x6), (7, .int x7), (8, .int x8), (9, .int x9), (10, .int x10), (11, .int x11)] [.int r7] SH I6 0 0 _
    refine go_aload_n dX8_says_254 rfl 1 rfl ?_
    refine go_iload dX8_says_255 9 rfl ?_
    refine go_vcall (Z := Y_X8_kindAt) (As := [.int x10]) (S := [.int r7]) dX8_says_257 ok_X8_kindAt l_X8_131 (by decide) sh_58 (by decide) (Nat.le_of_ble_eq_true rfl) rfl rfl rfl (Nat.le_of_ble_eq_true rfl) h (fun _ I8 _ hq => ?_)
    obtain ⟨rfl, r9, rfl, h⟩ := hq
    show Go G Y_X8_says 260 [(5, .int (x5 + x11)), (0, .ref 58), (2, .int x2), (3, .int x3), (4, .int x4), (6, .int x6), (7, .int x7), (8, .int x8), (9, .int x9), (10, .int x10), (11, .int x11)] [.int r9, .int r7] SH I8 0 0 _
    refine go_iconst dX8_says_260 (v := (3 : Int32)) (by decide) ?_
    refine go_icmp_ne (tgt := 268) dX8_says_261 (by decide) (fun c10 => ?_) (fun c10 => ?_)
    · have h := h.1 c10
      refine go_iconst dX8_says_268 (v := (0 : Int32)) (by decide) ?_
      refine go_iadd dX8_says_269 ?_
      refine go_istore dX8_says_270 (Nat.le_of_ble_eq_true rfl) (L2 := [(12, .int (r7 + (0 : Int32))), (5, .int (x5 + x11)), (0, .ref 58), (2, .int x2), (3, .int x3), (4, .int x4), (6, .int x6), (7, .int x7), (8, .int x8), (9, .int x9), (10, .int x10), (11, .int x11)]) rfl ?_
      exact go_loc [(0, .ref 58), (2, .int x2), (3, .int x3), (4, .int x4), (5, .int (x5 + x11)), (6, .int x6), (7, .int x7), (8, .int x8), (10, .int x10), (12, .int (r7 + (0 : Int32)))] [2, 3, 4, 5, 1, 6, 7, 8, 10, 0] rfl h
    · have h := h.2 c10
      refine go_iconst dX8_says_264 (v := (2 : Int32)) (by decide) ?_
      refine go_goto (tgt := 269) dX8_says_265 (by decide) ?_
      refine go_iadd dX8_says_269 ?_
      refine go_istore dX8_says_270 (Nat.le_of_ble_eq_true rfl) (L2 := [(12, .int (r7 + (2 : Int32))), (5, .int (x5 + x11)), (0, .ref 58), (2, .int x2), (3, .int x3), (4, .int x4), (6, .int x6), (7, .int x7), (8, .int x8), (9, .int x9), (10, .int x10), (11, .int x11)]) rfl ?_
      exact go_loc [(0, .ref 58), (2, .int x2), (3, .int x3), (4, .int x4), (5, .int (x5 + x11)), (6, .int x6), (7, .int x7), (8, .int x8), (10, .int x10), (12, .int (r7 + (2 : Int32)))] [2, 3, 4, 5, 1, 6, 7, 8, 10, 0] rfl h
set_option maxRecDepth 100000 in
set_option maxHeartbeats 4000000 in
theorem v_X8_says_272 {G : CX} {x2 : Int32} {x3 : Int32} {x4 : Int32} {x5 : Int32} {x6 : Int32} {x7 : Int32} {x8 : Int32} {x10 : Int32} {x12 : Int32}  {I : HP} {Q : HP → Prop} (h : ((x8 = 0) → (GV G Y_X8_says 291 [(0, .ref 58), (2, .int x2), (3, .int x3), (4, .int x4), (5, .int x5), (6, .int x6), (7, .int x7), (8, .int x8), (10, .int x10), (12, .int x12), (13, .int (0 : Int32))] I Q)) ∧ ((¬ x8 = 0) → (((x12 ≤ x7) → (GV G Y_X8_says 291 [(0, .ref 58), (2, .int x2), (3, .int x3), (4, .int x4), (5, .int x5), (6, .int x6), (7, .int x7), (8, .int x8), (10, .int x10), (12, .int x12), (13, .int (0 : Int32))] I Q)) ∧ ((¬ x12 ≤ x7) → (GV G Y_X8_says 291 [(0, .ref 58), (2, .int x2), (3, .int x3), (4, .int x4), (5, .int x5), (6, .int x6), (7, .int x7), (8, .int x8), (10, .int x10), (12, .int x12), (13, .int (1 : Int32))] I Q))))) : GV G Y_X8_says 272 [(0, .ref 58), (2, .int x2), (3, .int x3), (4, .int x4), (5, .int x5), (6, .int x6), (7, .int x7), (8, .int x8), (10, .int x10), (12, .int x12)] I Q := by
  show Go G Y_X8_says 272 [(0, .ref 58), (2, .int x2), (3, .int x3), (4, .int x4), (5, .int x5), (6, .int x6), (7, .int x7), (8, .int x8), (10, .int x10), (12, .int x12)] [] SH I 0 0 _
  refine go_iload dX8_says_272 7 rfl ?_
  refine go_if_eq (tgt := 288) dX8_says_274 (by decide) (fun c1 => ?_) (fun c1 => ?_)
  · have h := h.1 c1
    refine go_iconst dX8_says_288 (v := (0 : Int32)) (by decide) ?_
    refine go_istore dX8_says_289 (Nat.le_of_ble_eq_true rfl) (L2 := [(13, .int (0 : Int32)), (0, .ref 58), (2, .int x2), (3, .int x3), (4, .int x4), (5, .int x5), (6, .int x6), (7, .int x7), (8, .int x8), (10, .int x10), (12, .int x12)]) rfl ?_
    exact go_loc [(0, .ref 58), (2, .int x2), (3, .int x3), (4, .int x4), (5, .int x5), (6, .int x6), (7, .int x7), (8, .int x8), (10, .int x10), (12, .int x12), (13, .int (0 : Int32))] [1, 2, 3, 4, 5, 6, 7, 8, 9, 10, 0] rfl h
  · have h := h.2 c1
    refine go_iload dX8_says_277 6 rfl ?_
    refine go_iload dX8_says_279 9 rfl ?_
    refine go_icmp_ge (tgt := 288) dX8_says_281 (by decide) (fun c2 => ?_) (fun c2 => ?_)
    · have h := h.1 c2
      refine go_iconst dX8_says_288 (v := (0 : Int32)) (by decide) ?_
      refine go_istore dX8_says_289 (Nat.le_of_ble_eq_true rfl) (L2 := [(13, .int (0 : Int32)), (0, .ref 58), (2, .int x2), (3, .int x3), (4, .int x4), (5, .int x5), (6, .int x6), (7, .int x7), (8, .int x8), (10, .int x10), (12, .int x12)]) rfl ?_
      exact go_loc [(0, .ref 58), (2, .int x2), (3, .int x3), (4, .int x4), (5, .int x5), (6, .int x6), (7, .int x7), (8, .int x8), (10, .int x10), (12, .int x12), (13, .int (0 : Int32))] [1, 2, 3, 4, 5, 6, 7, 8, 9, 10, 0] rfl h
    · have h := h.2 c2
      refine go_iconst dX8_says_284 (v := (1 : Int32)) (by decide) ?_
      refine go_goto (tgt := 289) dX8_says_285 (by decide) ?_
      refine go_istore dX8_says_289 (Nat.le_of_ble_eq_true rfl) (L2 := [(13, .int (1 : Int32)), (0, .ref 58), (2, .int x2), (3, .int x3), (4, .int x4), (5, .int x5), (6, .int x6), (7, .int x7), (8, .int x8), (10, .int x10), (12, .int x12)]) rfl ?_
      exact go_loc [(0, .ref 58), (2, .int x2), (3, .int x3), (4, .int x4), (5, .int x5), (6, .int x6), (7, .int x7), (8, .int x8), (10, .int x10), (12, .int x12), (13, .int (1 : Int32))] [1, 2, 3, 4, 5, 6, 7, 8, 9, 10, 0] rfl h
set_option maxRecDepth 100000 in
set_option maxHeartbeats 4000000 in
theorem v_X8_says_291 {G : CX} {x2 : Int32} {x3 : Int32} {x4 : Int32} {x5 : Int32} {x6 : Int32} {x7 : Int32} {x8 : Int32} {x10 : Int32} {x12 : Int32} {x13 : Int32}  {I : HP} {Q : HP → Prop} (h : ((x13 = 0) → (GV G Y_X8_says 311 [(0, .ref 58), (2, .int x2), (3, .int x3), (4, .int x4), (5, .int x5), (6, .int x6), (7, .int x7), (8, .int x8), (9, .int (1 : Int32)), (10, .int x10), (12, .int x12), (13, .int x13)] I Q)) ∧ ((¬ x13 = 0) → (((x3 ≤ (I 58 23)) → (GV G Y_X8_says 311 [(0, .ref 58), (2, .int x2), (3, .int x3), (4, .int x4), (5, .int x5), (6, .int x6), (7, .int x7), (8, .int x8), (9, .int (0 : Int32)), (10, .int x10), (12, .int x12), (13, .int x13)] I Q)) ∧ ((¬ x3 ≤ (I 58 23)) → (GV G Y_X8_says 311 [(0, .ref 58), (2, .int x2), (3, .int x3), (4, .int x4), (5, .int x5), (6, .int x6), (7, .int x7), (8, .int x8), (9, .int (1 : Int32)), (10, .int x10), (12, .int x12), (13, .int x13)] I Q))))) : GV G Y_X8_says 291 [(0, .ref 58), (2, .int x2), (3, .int x3), (4, .int x4), (5, .int x5), (6, .int x6), (7, .int x7), (8, .int x8), (10, .int x10), (12, .int x12), (13, .int x13)] I Q := by
  show Go G Y_X8_says 291 [(0, .ref 58), (2, .int x2), (3, .int x3), (4, .int x4), (5, .int x5), (6, .int x6), (7, .int x7), (8, .int x8), (10, .int x10), (12, .int x12), (13, .int x13)] [] SH I 0 0 _
  refine go_iload dX8_says_291 10 rfl ?_
  refine go_if_eq (tgt := 304) dX8_says_293 (by decide) (fun c1 => ?_) (fun c1 => ?_)
  · have h := h.1 c1
    refine go_iconst dX8_says_304 (v := (1 : Int32)) (by decide) ?_
    refine go_goto (tgt := 309) dX8_says_305 (by decide) ?_
    refine go_istore dX8_says_309 (Nat.le_of_ble_eq_true rfl) (L2 := [(9, .int (1 : Int32)), (0, .ref 58), (2, .int x2), (3, .int x3), (4, .int x4), (5, .int x5), (6, .int x6), (7, .int x7), (8, .int x8), (10, .int x10), (12, .int x12), (13, .int x13)]) rfl ?_
    exact go_loc [(0, .ref 58), (2, .int x2), (3, .int x3), (4, .int x4), (5, .int x5), (6, .int x6), (7, .int x7), (8, .int x8), (9, .int (1 : Int32)), (10, .int x10), (12, .int x12), (13, .int x13)] [1, 2, 3, 4, 5, 6, 7, 8, 0, 9, 10, 11] rfl h
  · have h := h.2 c1
    refine go_aload_n dX8_says_296 rfl 0 rfl ?_
    refine go_getI dX8_says_297 sh_58 (by decide) f_X8_149 ⟨Nat.le_of_ble_eq_true rfl, Nat.le_of_ble_eq_true rfl, rfl⟩ ?_
    refine go_iload_n dX8_says_300 rfl 2 rfl ?_
    refine go_icmp_ge (tgt := 308) dX8_says_301 (by decide) (fun c2 => ?_) (fun c2 => ?_)
    · have h := h.1 c2
      refine go_iconst dX8_says_308 (v := (0 : Int32)) (by decide) ?_
      refine go_istore dX8_says_309 (Nat.le_of_ble_eq_true rfl) (L2 := [(9, .int (0 : Int32)), (0, .ref 58), (2, .int x2), (3, .int x3), (4, .int x4), (5, .int x5), (6, .int x6), (7, .int x7), (8, .int x8), (10, .int x10), (12, .int x12), (13, .int x13)]) rfl ?_
      exact go_loc [(0, .ref 58), (2, .int x2), (3, .int x3), (4, .int x4), (5, .int x5), (6, .int x6), (7, .int x7), (8, .int x8), (9, .int (0 : Int32)), (10, .int x10), (12, .int x12), (13, .int x13)] [1, 2, 3, 4, 5, 6, 7, 8, 0, 9, 10, 11] rfl h
    · have h := h.2 c2
      refine go_iconst dX8_says_304 (v := (1 : Int32)) (by decide) ?_
      refine go_goto (tgt := 309) dX8_says_305 (by decide) ?_
      refine go_istore dX8_says_309 (Nat.le_of_ble_eq_true rfl) (L2 := [(9, .int (1 : Int32)), (0, .ref 58), (2, .int x2), (3, .int x3), (4, .int x4), (5, .int x5), (6, .int x6), (7, .int x7), (8, .int x8), (10, .int x10), (12, .int x12), (13, .int x13)]) rfl ?_
      exact go_loc [(0, .ref 58), (2, .int x2), (3, .int x3), (4, .int x4), (5, .int x5), (6, .int x6), (7, .int x7), (8, .int x8), (9, .int (1 : Int32)), (10, .int x10), (12, .int x12), (13, .int x13)] [1, 2, 3, 4, 5, 6, 7, 8, 0, 9, 10, 11] rfl h
set_option maxRecDepth 100000 in
set_option maxHeartbeats 4000000 in
theorem v_X8_says_311 {G : CX} {x2 : Int32} {x3 : Int32} {x4 : Int32} {x5 : Int32} {x6 : Int32} {x7 : Int32} {x8 : Int32} {x9 : Int32} {x10 : Int32} {x12 : Int32} {x13 : Int32}  {I : HP} {Q : HP → Prop} (h : ((x9 = 0) → (GV G Y_X8_says 458 [(0, .ref 58), (2, .int x2), (3, .int x3), (4, .int x4), (5, .int x5), (6, .int x6), (7, .int x7), (8, .int x8), (9, .int x9), (10, .int x10)] I Q)) ∧ ((¬ x9 = 0) → (((x13 = 0) → (GV G Y_X8_says 335 [(0, .ref 58), (2, .int x2), (3, .int x3), (5, .int x5), (6, .int x6), (7, .int x7), (9, .int x9), (10, .int x10), (12, .int x12), (13, .int x13)] (st I 58 23 ((I 58 23) + (0 : Int32))) Q)) ∧ ((¬ x13 = 0) → (GV G Y_X8_says 335 [(0, .ref 58), (2, .int x2), (3, .int x3), (5, .int x5), (6, .int x6), (7, .int x7), (9, .int x9), (10, .int x10), (12, .int x12), (13, .int x13)] (st I 58 23 ((I 58 23) + (1 : Int32))) Q))))) : GV G Y_X8_says 311 [(0, .ref 58), (2, .int x2), (3, .int x3), (4, .int x4), (5, .int x5), (6, .int x6), (7, .int x7), (8, .int x8), (9, .int x9), (10, .int x10), (12, .int x12), (13, .int x13)] I Q := by
  show Go G Y_X8_says 311 [(0, .ref 58), (2, .int x2), (3, .int x3), (4, .int x4), (5, .int x5), (6, .int x6), (7, .int x7), (8, .int x8), (9, .int x9), (10, .int x10), (12, .int x12), (13, .int x13)] [] SH I 0 0 _
  refine go_iload dX8_says_311 8 rfl ?_
  refine go_if_eq (tgt := 458) dX8_says_313 (by decide) (fun c1 => ?_) (fun c1 => ?_)
  · have h := h.1 c1
    exact go_loc [(0, .ref 58), (2, .int x2), (3, .int x3), (4, .int x4), (5, .int x5), (6, .int x6), (7, .int x7), (8, .int x8), (9, .int x9), (10, .int x10)] [0, 1, 2, 3, 4, 5, 6, 7, 8, 9] rfl h
  · have h := h.2 c1
    refine go_aload_n dX8_says_316 rfl 0 rfl ?_
    refine go_dup dX8_says_317 rfl ?_
    refine go_getI dX8_says_318 sh_58 (by decide) f_X8_149 ⟨Nat.le_of_ble_eq_true rfl, Nat.le_of_ble_eq_true rfl, rfl⟩ ?_
    refine go_iload dX8_says_321 11 rfl ?_
    refine go_if_eq (tgt := 330) dX8_says_323 (by decide) (fun c2 => ?_) (fun c2 => ?_)
    · have h := h.1 c2
      refine go_iconst dX8_says_330 (v := (0 : Int32)) (by decide) ?_
      refine go_iadd dX8_says_331 ?_
      refine go_putT dX8_says_332 sh_58 (by decide) p_X8_149 ⟨Nat.le_of_ble_eq_true rfl, Nat.le_of_ble_eq_true rfl, rfl⟩ rfl rfl ?_
      exact go_loc [(0, .ref 58), (2, .int x2), (3, .int x3), (5, .int x5), (6, .int x6), (7, .int x7), (9, .int x9), (10, .int x10), (12, .int x12), (13, .int x13)] [0, 1, 2, 4, 5, 6, 8, 9, 10, 11] rfl h
    · have h := h.2 c2
      refine go_iconst dX8_says_326 (v := (1 : Int32)) (by decide) ?_
      refine go_goto (tgt := 331) dX8_says_327 (by decide) ?_
      refine go_iadd dX8_says_331 ?_
      refine go_putT dX8_says_332 sh_58 (by decide) p_X8_149 ⟨Nat.le_of_ble_eq_true rfl, Nat.le_of_ble_eq_true rfl, rfl⟩ rfl rfl ?_
      exact go_loc [(0, .ref 58), (2, .int x2), (3, .int x3), (5, .int x5), (6, .int x6), (7, .int x7), (9, .int x9), (10, .int x10), (12, .int x12), (13, .int x13)] [0, 1, 2, 4, 5, 6, 8, 9, 10, 11] rfl h
set_option maxRecDepth 100000 in
set_option maxHeartbeats 4000000 in
theorem v_X8_says_335 {G : CX} {x2 : Int32} {x3 : Int32} {x5 : Int32} {x6 : Int32} {x7 : Int32} {x9 : Int32} {x10 : Int32} {x12 : Int32} {x13 : Int32}  {I : HP} {Q : HP → Prop} (h : ((x13 = 0) → (GV G Y_X8_says 356 [(0, .ref 58), (2, .int x2), (3, .int x3), (5, .int x5), (6, .int x6), (7, .int (x7 - x12)), (9, .int x9), (10, .int x10), (12, .int x12), (13, .int x13)] I Q)) ∧ ((¬ x13 = 0) → (GV G Y_X8_says 356 [(0, .ref 58), (2, .int x2), (3, .int x3), (5, .int x5), (6, .int x6), (7, .int ((I 67 1) - x12)), (9, .int x9), (10, .int x10), (12, .int x12), (13, .int x13)] I Q))) : GV G Y_X8_says 335 [(0, .ref 58), (2, .int x2), (3, .int x3), (5, .int x5), (6, .int x6), (7, .int x7), (9, .int x9), (10, .int x10), (12, .int x12), (13, .int x13)] I Q := by
  show Go G Y_X8_says 335 [(0, .ref 58), (2, .int x2), (3, .int x3), (5, .int x5), (6, .int x6), (7, .int x7), (9, .int x9), (10, .int x10), (12, .int x12), (13, .int x13)] [] SH I 0 0 _
  refine go_iload dX8_says_335 9 rfl ?_
  refine go_if_eq (tgt := 349) dX8_says_337 (by decide) (fun c1 => ?_) (fun c1 => ?_)
  · have h := h.1 c1
    refine go_iload dX8_says_349 5 rfl ?_
    refine go_iload dX8_says_351 8 rfl ?_
    refine go_isub dX8_says_353 ?_
    refine go_istore dX8_says_354 (Nat.le_of_ble_eq_true rfl) (L2 := [(7, .int (x7 - x12)), (0, .ref 58), (2, .int x2), (3, .int x3), (5, .int x5), (6, .int x6), (9, .int x9), (10, .int x10), (12, .int x12), (13, .int x13)]) rfl ?_
    exact go_loc [(0, .ref 58), (2, .int x2), (3, .int x3), (5, .int x5), (6, .int x6), (7, .int (x7 - x12)), (9, .int x9), (10, .int x10), (12, .int x12), (13, .int x13)] [1, 2, 3, 4, 5, 0, 6, 7, 8, 9] rfl h
  · have h := h.2 c1
    refine go_aload_n dX8_says_340 rfl 0 rfl ?_
    refine go_getR dX8_says_341 sh_58 (by decide) f_X8_34 ⟨Nat.le_of_ble_eq_true rfl, Nat.le_of_ble_eq_true rfl, rfl⟩ rfl ?_
    refine go_iconst dX8_says_344 (v := (1 : Int32)) (by decide) ?_
    refine go_iald dX8_says_345 sh_67 (by decide) (by unfold vp_in; decide) (j := 1) (by decide) ?_
    refine go_goto (tgt := 351) dX8_says_346 (by decide) ?_
    refine go_iload dX8_says_351 8 rfl ?_
    refine go_isub dX8_says_353 ?_
    refine go_istore dX8_says_354 (Nat.le_of_ble_eq_true rfl) (L2 := [(7, .int ((I 67 1) - x12)), (0, .ref 58), (2, .int x2), (3, .int x3), (5, .int x5), (6, .int x6), (9, .int x9), (10, .int x10), (12, .int x12), (13, .int x13)]) rfl ?_
    exact go_loc [(0, .ref 58), (2, .int x2), (3, .int x3), (5, .int x5), (6, .int x6), (7, .int ((I 67 1) - x12)), (9, .int x9), (10, .int x10), (12, .int x12), (13, .int x13)] [1, 2, 3, 4, 5, 0, 6, 7, 8, 9] rfl h
set_option maxRecDepth 100000 in
set_option maxHeartbeats 4000000 in
theorem v_X8_says_356 {G : CX} {x2 : Int32} {x3 : Int32} {x5 : Int32} {x6 : Int32} {x7 : Int32} {x9 : Int32} {x10 : Int32} {x12 : Int32} {x13 : Int32}  {I : HP} {Q : HP → Prop} (h : (vp_in x10 14) ∧ (((x13 = 0) → (GV G Y_X8_says 392 [(0, .ref 58), (2, .int x2), (3, .int x3), (5, .int x5), (6, .int x6), (7, .int x7), (8, .int (1 : Int32)), (9, .int x9), (10, .int x10)] (st I 74 (nn x10) (((I 73 (nn x10)) + (0 : Int32)) + x12)) Q)) ∧ ((¬ x13 = 0) → (GV G Y_X8_says 392 [(0, .ref 58), (2, .int x2), (3, .int x3), (5, .int x5), (6, .int x6), (7, .int x7), (8, .int (1 : Int32)), (9, .int x9), (10, .int x10)] (st I 74 (nn x10) (((I 73 (nn x10)) + (I 67 2)) + x12)) Q)))) : GV G Y_X8_says 356 [(0, .ref 58), (2, .int x2), (3, .int x3), (5, .int x5), (6, .int x6), (7, .int x7), (9, .int x9), (10, .int x10), (12, .int x12), (13, .int x13)] I Q := by
  show Go G Y_X8_says 356 [(0, .ref 58), (2, .int x2), (3, .int x3), (5, .int x5), (6, .int x6), (7, .int x7), (9, .int x9), (10, .int x10), (12, .int x12), (13, .int x13)] [] SH I 0 0 _
  refine go_iconst dX8_says_356 (v := (1 : Int32)) (by decide) ?_
  refine go_istore dX8_says_357 (Nat.le_of_ble_eq_true rfl) (L2 := [(8, .int (1 : Int32)), (0, .ref 58), (2, .int x2), (3, .int x3), (5, .int x5), (6, .int x6), (7, .int x7), (9, .int x9), (10, .int x10), (12, .int x12), (13, .int x13)]) rfl ?_
  refine go_aload_n dX8_says_359 rfl 1 rfl ?_
  refine go_getR dX8_says_360 sh_58 (by decide) f_X8_55 ⟨Nat.le_of_ble_eq_true rfl, Nat.le_of_ble_eq_true rfl, rfl⟩ rfl ?_
  refine go_iload dX8_says_363 8 rfl ?_
  refine go_aload_n dX8_says_365 rfl 1 rfl ?_
  refine go_getR dX8_says_366 sh_58 (by decide) f_X8_52 ⟨Nat.le_of_ble_eq_true rfl, Nat.le_of_ble_eq_true rfl, rfl⟩ rfl ?_
  refine go_iload dX8_says_369 8 rfl ?_
  have hb1 := h.1
  have h := h.2
  refine go_iald dX8_says_371 sh_73 (by decide) hb1 rfl ?_
  refine go_iload dX8_says_372 10 rfl ?_
  refine go_if_eq (tgt := 386) dX8_says_374 (by decide) (fun c2 => ?_) (fun c2 => ?_)
  · have h := h.1 c2
    refine go_iconst dX8_says_386 (v := (0 : Int32)) (by decide) ?_
    refine go_iadd dX8_says_387 ?_
    refine go_iload dX8_says_388 9 rfl ?_
    refine go_iadd dX8_says_390 ?_
    refine go_iast dX8_says_391 sh_74 (by decide) hb1 (j := (nn x10)) rfl ?_
    exact go_loc [(0, .ref 58), (2, .int x2), (3, .int x3), (5, .int x5), (6, .int x6), (7, .int x7), (8, .int (1 : Int32)), (9, .int x9), (10, .int x10)] [1, 2, 3, 4, 5, 6, 0, 7, 8] rfl h
  · have h := h.2 c2
    refine go_aload_n dX8_says_377 rfl 1 rfl ?_
    refine go_getR dX8_says_378 sh_58 (by decide) f_X8_34 ⟨Nat.le_of_ble_eq_true rfl, Nat.le_of_ble_eq_true rfl, rfl⟩ rfl ?_
    refine go_iconst dX8_says_381 (v := (2 : Int32)) (by decide) ?_
    refine go_iald dX8_says_382 sh_67 (by decide) (by unfold vp_in; decide) (j := 2) (by decide) ?_
    refine go_goto (tgt := 387) dX8_says_383 (by decide) ?_
    refine go_iadd dX8_says_387 ?_
    refine go_iload dX8_says_388 9 rfl ?_
    refine go_iadd dX8_says_390 ?_
    refine go_iast dX8_says_391 sh_74 (by decide) hb1 (j := (nn x10)) rfl ?_
    exact go_loc [(0, .ref 58), (2, .int x2), (3, .int x3), (5, .int x5), (6, .int x6), (7, .int x7), (8, .int (1 : Int32)), (9, .int x9), (10, .int x10)] [1, 2, 3, 4, 5, 6, 0, 7, 8] rfl h
set_option maxRecDepth 100000 in
set_option maxHeartbeats 4000000 in
theorem v_X8_says_392 {G : CX} {x2 : Int32} {x3 : Int32} {x5 : Int32} {x6 : Int32} {x7 : Int32} {x8 : Int32} {x9 : Int32} {x10 : Int32}  {I : HP} {Q : HP → Prop} (h : (vp_in x10 14) ∧ (RI G Y_X8_kindAt [.ref 58, .int x10] I (fun I2 r3 => ((¬ r3 = (2 : Int32)) → (RI G Y_X8_sayAt [.ref 58, .int x10] I2 (fun I5 r6 => ∀ z7 : Int32, z7 = (x5 + (((I 74 (nn x10)) - (I 71 (nn x10))) - r6)) → GV G Y_X8_says 433 [(0, .ref 58), (2, .int x2), (3, .int x3), (5, .int z7), (6, .int x6), (7, .int x7), (8, .int x8), (9, .int x9), (10, .int x10)] I5 Q))) ∧ ((r3 = (2 : Int32)) → (∀ z8 : Int32, z8 = (x5 + (((I 74 (nn x10)) - (I 71 (nn x10))) - (0 : Int32))) → GV G Y_X8_says 433 [(0, .ref 58), (2, .int x2), (3, .int x3), (5, .int z8), (6, .int x6), (7, .int x7), (8, .int x8), (9, .int x9), (10, .int x10)] I2 Q))))) : GV G Y_X8_says 392 [(0, .ref 58), (2, .int x2), (3, .int x3), (5, .int x5), (6, .int x6), (7, .int x7), (8, .int x8), (9, .int x9), (10, .int x10)] I Q := by
  show Go G Y_X8_says 392 [(0, .ref 58), (2, .int x2), (3, .int x3), (5, .int x5), (6, .int x6), (7, .int x7), (8, .int x8), (9, .int x9), (10, .int x10)] [] SH I 0 0 _
  refine go_iload dX8_says_392 3 rfl ?_
  refine go_aload_n dX8_says_394 rfl 0 rfl ?_
  refine go_getR dX8_says_395 sh_58 (by decide) f_X8_55 ⟨Nat.le_of_ble_eq_true rfl, Nat.le_of_ble_eq_true rfl, rfl⟩ rfl ?_
  refine go_iload dX8_says_398 8 rfl ?_
  have hb1 := h.1
  have h := h.2
  refine go_iald dX8_says_400 sh_74 (by decide) hb1 rfl ?_
  refine go_aload_n dX8_says_401 rfl 0 rfl ?_
  refine go_getR dX8_says_402 sh_58 (by decide) f_X8_46 ⟨Nat.le_of_ble_eq_true rfl, Nat.le_of_ble_eq_true rfl, rfl⟩ rfl ?_
  refine go_iload dX8_says_405 8 rfl ?_
  refine go_iald dX8_says_407 sh_71 (by decide) hb1 rfl ?_
  refine go_isub dX8_says_408 ?_
  refine go_aload_n dX8_says_409 rfl 0 rfl ?_
  refine go_iload dX8_says_410 8 rfl ?_
  refine go_vcall (Z := Y_X8_kindAt) (As := [.int x10]) (S := [.int ((I 74 (nn x10)) - (I 71 (nn x10))), .int x5]) dX8_says_412 ok_X8_kindAt l_X8_131 (by decide) sh_58 (by decide) (Nat.le_of_ble_eq_true rfl) rfl rfl rfl (Nat.le_of_ble_eq_true rfl) h (fun _ I2 _ hq => ?_)
  obtain ⟨rfl, r3, rfl, h⟩ := hq
  show Go G Y_X8_says 415 [(0, .ref 58), (2, .int x2), (3, .int x3), (5, .int x5), (6, .int x6), (7, .int x7), (8, .int x8), (9, .int x9), (10, .int x10)] [.int r3, .int ((I 74 (nn x10)) - (I 71 (nn x10))), .int x5] SH I2 0 0 _
  refine go_iconst dX8_says_415 (v := (2 : Int32)) (by decide) ?_
  refine go_icmp_ne (tgt := 423) dX8_says_416 (by decide) (fun c4 => ?_) (fun c4 => ?_)
  · have h := h.1 c4
    refine go_aload_n dX8_says_423 rfl 0 rfl ?_
    refine go_iload dX8_says_424 8 rfl ?_
    refine go_vcall (Z := Y_X8_sayAt) (As := [.int x10]) (S := [.int ((I 74 (nn x10)) - (I 71 (nn x10))), .int x5]) dX8_says_426 ok_X8_sayAt l_X8_152 (by decide) sh_58 (by decide) (Nat.le_of_ble_eq_true rfl) rfl rfl rfl (Nat.le_of_ble_eq_true rfl) h (fun _ I5 _ hq => ?_)
    obtain ⟨rfl, r6, rfl, h⟩ := hq
    show Go G Y_X8_says 429 [(0, .ref 58), (2, .int x2), (3, .int x3), (5, .int x5), (6, .int x6), (7, .int x7), (8, .int x8), (9, .int x9), (10, .int x10)] [.int r6, .int ((I 74 (nn x10)) - (I 71 (nn x10))), .int x5] SH I5 0 0 _
    refine go_isub dX8_says_429 ?_
    refine go_iadd dX8_says_430 ?_
    refine go_top (fun z7 ez7 => ?_)
    have h := h z7 ez7
    refine go_istore dX8_says_431 (Nat.le_of_ble_eq_true rfl) (L2 := [(5, .int z7), (0, .ref 58), (2, .int x2), (3, .int x3), (6, .int x6), (7, .int x7), (8, .int x8), (9, .int x9), (10, .int x10)]) rfl ?_
    exact go_loc [(0, .ref 58), (2, .int x2), (3, .int x3), (5, .int z7), (6, .int x6), (7, .int x7), (8, .int x8), (9, .int x9), (10, .int x10)] [1, 2, 3, 0, 4, 5, 6, 7, 8] rfl h
  · have h := h.2 c4
    refine go_iconst dX8_says_419 (v := (0 : Int32)) (by decide) ?_
    refine go_goto (tgt := 429) dX8_says_420 (by decide) ?_
    refine go_isub dX8_says_429 ?_
    refine go_iadd dX8_says_430 ?_
    refine go_top (fun z8 ez8 => ?_)
    have h := h z8 ez8
    refine go_istore dX8_says_431 (Nat.le_of_ble_eq_true rfl) (L2 := [(5, .int z8), (0, .ref 58), (2, .int x2), (3, .int x3), (6, .int x6), (7, .int x7), (8, .int x8), (9, .int x9), (10, .int x10)]) rfl ?_
    exact go_loc [(0, .ref 58), (2, .int x2), (3, .int x3), (5, .int z8), (6, .int x6), (7, .int x7), (8, .int x8), (9, .int x9), (10, .int x10)] [1, 2, 3, 0, 4, 5, 6, 7, 8] rfl h
set_option maxRecDepth 100000 in
set_option maxHeartbeats 4000000 in
theorem v_X8_says_433 {G : CX} {x2 : Int32} {x3 : Int32} {x5 : Int32} {x6 : Int32} {x7 : Int32} {x8 : Int32} {x9 : Int32} {x10 : Int32}  {I : HP} {Q : HP → Prop} (h : (vp_in x10 14) ∧ (GV G Y_X8_says 458 [(0, .ref 58), (2, .int x2), (3, .int x3), (4, .int (I 74 (nn x10))), (5, .int x5), (6, .int x6), (7, .int x7), (8, .int x8), (9, .int x9), (10, .int x10)] (st (st I 58 20 (I 74 (nn x10))) 58 22 (((st I 58 20 (I 74 (nn x10))) 58 22) + (1 : Int32))) Q)) : GV G Y_X8_says 433 [(0, .ref 58), (2, .int x2), (3, .int x3), (5, .int x5), (6, .int x6), (7, .int x7), (8, .int x8), (9, .int x9), (10, .int x10)] I Q := by
  show Go G Y_X8_says 433 [(0, .ref 58), (2, .int x2), (3, .int x3), (5, .int x5), (6, .int x6), (7, .int x7), (8, .int x8), (9, .int x9), (10, .int x10)] [] SH I 0 0 _
  refine go_aload_n dX8_says_433 rfl 0 rfl ?_
  refine go_getR dX8_says_434 sh_58 (by decide) f_X8_55 ⟨Nat.le_of_ble_eq_true rfl, Nat.le_of_ble_eq_true rfl, rfl⟩ rfl ?_
  refine go_iload dX8_says_437 8 rfl ?_
  have hb1 := h.1
  have h := h.2
  refine go_iald dX8_says_439 sh_74 (by decide) hb1 rfl ?_
  refine go_istore dX8_says_440 (Nat.le_of_ble_eq_true rfl) (L2 := [(4, .int (I 74 (nn x10))), (0, .ref 58), (2, .int x2), (3, .int x3), (5, .int x5), (6, .int x6), (7, .int x7), (8, .int x8), (9, .int x9), (10, .int x10)]) rfl ?_
  refine go_aload_n dX8_says_442 rfl 1 rfl ?_
  refine go_iload dX8_says_443 0 rfl ?_
  refine go_putT dX8_says_445 sh_58 (by decide) p_X8_140 ⟨Nat.le_of_ble_eq_true rfl, Nat.le_of_ble_eq_true rfl, rfl⟩ rfl rfl ?_
  refine go_aload_n dX8_says_448 rfl 1 rfl ?_
  refine go_dup dX8_says_449 rfl ?_
  refine go_getI dX8_says_450 sh_58 (by decide) f_X8_146 ⟨Nat.le_of_ble_eq_true rfl, Nat.le_of_ble_eq_true rfl, rfl⟩ ?_
  refine go_iconst dX8_says_453 (v := (1 : Int32)) (by decide) ?_
  refine go_iadd dX8_says_454 ?_
  refine go_putT dX8_says_455 sh_58 (by decide) p_X8_146 ⟨Nat.le_of_ble_eq_true rfl, Nat.le_of_ble_eq_true rfl, rfl⟩ rfl rfl ?_
  exact go_loc [(0, .ref 58), (2, .int x2), (3, .int x3), (4, .int (I 74 (nn x10))), (5, .int x5), (6, .int x6), (7, .int x7), (8, .int x8), (9, .int x9), (10, .int x10)] [1, 2, 3, 0, 4, 5, 6, 7, 8, 9] rfl h
set_option maxRecDepth 100000 in
set_option maxHeartbeats 4000000 in
theorem v_X8_says_458 {G : CX} {x2 : Int32} {x3 : Int32} {x4 : Int32} {x5 : Int32} {x6 : Int32} {x7 : Int32} {x8 : Int32} {x9 : Int32} {x10 : Int32}  {I : HP} {Q : HP → Prop} (h : GV G Y_X8_says 108 [(0, .ref 58), (2, .int x2), (3, .int x3), (4, .int x4), (5, .int x5), (6, .int x6), (7, .int x7), (8, .int x8), (9, .int x9), (10, .int (x10 + 1))] I Q) : GV G Y_X8_says 458 [(0, .ref 58), (2, .int x2), (3, .int x3), (4, .int x4), (5, .int x5), (6, .int x6), (7, .int x7), (8, .int x8), (9, .int x9), (10, .int x10)] I Q := by
  show Go G Y_X8_says 458 [(0, .ref 58), (2, .int x2), (3, .int x3), (4, .int x4), (5, .int x5), (6, .int x6), (7, .int x7), (8, .int x8), (9, .int x9), (10, .int x10)] [] SH I 0 0 _
  refine go_iinc dX8_says_458 9 rfl (v := (x10 + 1)) rfl (Nat.le_of_ble_eq_true rfl) (L2 := [(10, .int (x10 + 1)), (0, .ref 58), (2, .int x2), (3, .int x3), (4, .int x4), (5, .int x5), (6, .int x6), (7, .int x7), (8, .int x8), (9, .int x9)]) rfl ?_
  refine go_goto (tgt := 108) dX8_says_461 (by decide) ?_
  exact go_loc [(0, .ref 58), (2, .int x2), (3, .int x3), (4, .int x4), (5, .int x5), (6, .int x6), (7, .int x7), (8, .int x8), (9, .int x9), (10, .int (x10 + 1))] [1, 2, 3, 4, 5, 6, 7, 8, 9, 0] rfl h
set_option maxRecDepth 100000 in
set_option maxHeartbeats 4000000 in
theorem v_X8_find {G : CX}   {I : HP} {Q : HP → Prop} (h : RI G Y_X8_readsText [.ref 58, .int (0 : Int32)] I (fun I1 r2 => RI G Y_X8_readsText [.ref 58, .int (1 : Int32)] I1 (fun I3 r4 => RV G Y_X8_plain [.ref 58] I3 (fun I5 => RV G Y_X8_says [.ref 58, .int (I5 67 0), .int (I5 67 4), .int (I5 67 3)] I5 (fun I6 => Q I6))))) : RV G Y_X8_find [.ref 58] I Q := by
  refine ret_of (show plainName RX8 = true by decide) (Nat.le_of_ble_eq_true rfl) ?_
  show Go G Y_X8_find 0 [(0, .ref 58)] [] SH I 0 0 _
  refine go_aload_n dX8_find_0 rfl 0 rfl ?_
  refine go_iconst dX8_find_1 (v := (0 : Int32)) (by decide) ?_
  refine go_vcall (Z := Y_X8_readsText) (As := [.int (0 : Int32)]) (S := []) dX8_find_2 ok_X8_readsText l_X8_120 (by decide) sh_58 (by decide) (Nat.le_of_ble_eq_true rfl) rfl rfl rfl (Nat.le_of_ble_eq_true rfl) h (fun _ I1 _ hq => ?_)
  obtain ⟨rfl, r2, rfl, h⟩ := hq
  show Go G Y_X8_find 5 [(0, .ref 58)] [.int r2] SH I1 0 0 _
  refine go_pop dX8_find_5 rfl ?_
  refine go_aload_n dX8_find_6 rfl 0 rfl ?_
  refine go_iconst dX8_find_7 (v := (1 : Int32)) (by decide) ?_
  refine go_vcall (Z := Y_X8_readsText) (As := [.int (1 : Int32)]) (S := []) dX8_find_8 ok_X8_readsText l_X8_120 (by decide) sh_58 (by decide) (Nat.le_of_ble_eq_true rfl) rfl rfl rfl (Nat.le_of_ble_eq_true rfl) h (fun _ I3 _ hq => ?_)
  obtain ⟨rfl, r4, rfl, h⟩ := hq
  show Go G Y_X8_find 11 [(0, .ref 58)] [.int r4] SH I3 0 0 _
  refine go_pop dX8_find_11 rfl ?_
  refine go_aload_n dX8_find_12 rfl 0 rfl ?_
  refine go_vcall (Z := Y_X8_plain) (As := []) (S := []) dX8_find_13 ok_X8_plain l_X8_155 (by decide) sh_58 (by decide) (Nat.le_of_ble_eq_true rfl) rfl rfl rfl (Nat.le_of_ble_eq_true rfl) h (fun _ I5 _ hq => ?_)
  obtain ⟨rfl, rfl, h⟩ := hq
  show Go G Y_X8_find 16 [(0, .ref 58)] [] SH I5 0 0 _
  refine go_aload_n dX8_find_16 rfl 0 rfl ?_
  refine go_aload_n dX8_find_17 rfl 0 rfl ?_
  refine go_getR dX8_find_18 sh_58 (by decide) f_X8_34 ⟨Nat.le_of_ble_eq_true rfl, Nat.le_of_ble_eq_true rfl, rfl⟩ rfl ?_
  refine go_iconst dX8_find_21 (v := (0 : Int32)) (by decide) ?_
  refine go_iald dX8_find_22 sh_67 (by decide) (by unfold vp_in; decide) (j := 0) (by decide) ?_
  refine go_aload_n dX8_find_23 rfl 0 rfl ?_
  refine go_getR dX8_find_24 sh_58 (by decide) f_X8_34 ⟨Nat.le_of_ble_eq_true rfl, Nat.le_of_ble_eq_true rfl, rfl⟩ rfl ?_
  refine go_iconst dX8_find_27 (v := (4 : Int32)) (by decide) ?_
  refine go_iald dX8_find_28 sh_67 (by decide) (by unfold vp_in; decide) (j := 4) (by decide) ?_
  refine go_aload_n dX8_find_29 rfl 0 rfl ?_
  refine go_getR dX8_find_30 sh_58 (by decide) f_X8_34 ⟨Nat.le_of_ble_eq_true rfl, Nat.le_of_ble_eq_true rfl, rfl⟩ rfl ?_
  refine go_iconst dX8_find_33 (v := (3 : Int32)) (by decide) ?_
  refine go_iald dX8_find_34 sh_67 (by decide) (by unfold vp_in; decide) (j := 3) (by decide) ?_
  refine go_vcall (Z := Y_X8_says) (As := [.int (I5 67 0), .int (I5 67 4), .int (I5 67 3)]) (S := []) dX8_find_35 ok_X8_says l_X8_158 (by decide) sh_58 (by decide) (Nat.le_of_ble_eq_true rfl) rfl rfl rfl (Nat.le_of_ble_eq_true rfl) h (fun _ I6 _ hq => ?_)
  obtain ⟨rfl, rfl, h⟩ := hq
  show Go G Y_X8_find 38 [(0, .ref 58)] [] SH I6 0 0 _
  exact go_vret dX8_find_38 rfl rfl (by decide) ⟨rfl, rfl, h⟩
set_option maxRecDepth 100000 in
set_option maxHeartbeats 4000000 in
theorem v_X8_verseOf {G : CX} {a1 : Int32} {a2 : Int32}  {I : HP} {Q : HP → Int32 → Prop} (h : (((4 : Int32) ≤ a2) → (((¬ a2 = (4 : Int32)) → ((vp_in a1 14) ∧ (Q I (I 70 (nn a1))))) ∧ ((a2 = (4 : Int32)) → ((vp_in a1 14) ∧ (Q I (I 69 (nn a1))))))) ∧ ((¬ (4 : Int32) ≤ a2) → ((vp_in (((4 : Int32) * a1) + a2) 64) ∧ (Q I (I 66 (nn (((4 : Int32) * a1) + a2))))))) : RI G Y_X8_verseOf [.ref 58, .int a1, .int a2] I Q := by
  refine ret_of (show plainName RX8 = true by decide) (Nat.le_of_ble_eq_true rfl) ?_
  show Go G Y_X8_verseOf 0 [(0, .ref 58), (1, .int a1), (2, .int a2)] [] SH I 0 0 _
  refine go_iload_n dX8_verseOf_0 rfl 2 rfl ?_
  refine go_iconst dX8_verseOf_1 (v := (4 : Int32)) (by decide) ?_
  refine go_icmp_ge (tgt := 18) dX8_verseOf_2 (by decide) (fun c1 => ?_) (fun c1 => ?_)
  · have h := h.1 c1
    refine go_iload_n dX8_verseOf_18 rfl 2 rfl ?_
    refine go_iconst dX8_verseOf_19 (v := (4 : Int32)) (by decide) ?_
    refine go_icmp_ne (tgt := 32) dX8_verseOf_20 (by decide) (fun c2 => ?_) (fun c2 => ?_)
    · have h := h.1 c2
      refine go_aload_n dX8_verseOf_32 rfl 0 rfl ?_
      refine go_getR dX8_verseOf_33 sh_58 (by decide) f_X8_43 ⟨Nat.le_of_ble_eq_true rfl, Nat.le_of_ble_eq_true rfl, rfl⟩ rfl ?_
      refine go_iload_n dX8_verseOf_36 rfl 1 rfl ?_
      have hb3 := h.1
      have h := h.2
      refine go_iald dX8_verseOf_37 sh_70 (by decide) hb3 rfl ?_
      exact go_iret dX8_verseOf_38 rfl rfl (by decide) ⟨rfl, _, rfl, h⟩
    · have h := h.2 c2
      refine go_aload_n dX8_verseOf_23 rfl 0 rfl ?_
      refine go_getR dX8_verseOf_24 sh_58 (by decide) f_X8_40 ⟨Nat.le_of_ble_eq_true rfl, Nat.le_of_ble_eq_true rfl, rfl⟩ rfl ?_
      refine go_iload_n dX8_verseOf_27 rfl 1 rfl ?_
      have hb4 := h.1
      have h := h.2
      refine go_iald dX8_verseOf_28 sh_69 (by decide) hb4 rfl ?_
      refine go_goto (tgt := 38) dX8_verseOf_29 (by decide) ?_
      exact go_iret dX8_verseOf_38 rfl rfl (by decide) ⟨rfl, _, rfl, h⟩
  · have h := h.2 c1
    refine go_aload_n dX8_verseOf_5 rfl 0 rfl ?_
    refine go_getR dX8_verseOf_6 sh_58 (by decide) f_X8_31 ⟨Nat.le_of_ble_eq_true rfl, Nat.le_of_ble_eq_true rfl, rfl⟩ rfl ?_
    refine go_iconst dX8_verseOf_9 (v := (4 : Int32)) (by decide) ?_
    refine go_iload_n dX8_verseOf_10 rfl 1 rfl ?_
    refine go_imul dX8_verseOf_11 ?_
    refine go_iload_n dX8_verseOf_12 rfl 2 rfl ?_
    refine go_iadd dX8_verseOf_13 ?_
    have hb5 := h.1
    have h := h.2
    refine go_iald dX8_verseOf_14 sh_66 (by decide) hb5 rfl ?_
    refine go_goto (tgt := 38) dX8_verseOf_15 (by decide) ?_
    exact go_iret dX8_verseOf_38 rfl rfl (by decide) ⟨rfl, _, rfl, h⟩
set_option maxRecDepth 100000 in
set_option maxHeartbeats 4000000 in
theorem v_X8_isVerse {G : CX} {a1 : Int32}  {I : HP} {Q : HP → Bool → Prop} (h : RZ G Y_X8_in [.long (a1.toInt64), .long (0 : Int64), .long (((I 65 0) - (1 : Int32)).toInt64)] I (fun I1 r2 => Q I1 r2)) : RZ G Y_X8_isVerse [.ref 58, .int a1] I Q := by
  refine ret_of (show plainName RX8 = true by decide) (Nat.le_of_ble_eq_true rfl) ?_
  show Go G Y_X8_isVerse 0 [(0, .ref 58), (1, .int a1)] [] SH I 0 0 _
  refine go_iload_n dX8_isVerse_0 rfl 1 rfl ?_
  refine go_i2l dX8_isVerse_1 ?_
  refine go_lconst dX8_isVerse_2 (v := (0 : Int64)) (by decide) ?_
  refine go_aload_n dX8_isVerse_3 rfl 0 rfl ?_
  refine go_getR dX8_isVerse_4 sh_58 (by decide) f_X8_28 ⟨Nat.le_of_ble_eq_true rfl, Nat.le_of_ble_eq_true rfl, rfl⟩ rfl ?_
  refine go_iconst dX8_isVerse_7 (v := (0 : Int32)) (by decide) ?_
  refine go_iald dX8_isVerse_8 sh_65 (by decide) (by unfold vp_in; decide) (j := 0) (by decide) ?_
  refine go_iconst dX8_isVerse_9 (v := (1 : Int32)) (by decide) ?_
  refine go_isub dX8_isVerse_10 ?_
  refine go_i2l dX8_isVerse_11 ?_
  refine go_scall (Z := Y_X8_in) (As := [.long (a1.toInt64), .long (0 : Int64), .long (((I 65 0) - (1 : Int32)).toInt64)]) (S := []) dX8_isVerse_12 ok_X8_in l_X8_72 (by decide) rfl rfl (Nat.le_of_ble_eq_true rfl) h (fun _ I1 _ hq => ?_)
  obtain ⟨rfl, r2, rfl, h⟩ := hq
  show Go G Y_X8_isVerse 15 [(0, .ref 58), (1, .int a1)] [.int (bI r2)] SH I1 0 0 _
  exact go_zret dX8_isVerse_15 rfl (bI_nar _) rfl (by decide) ⟨rfl, r2, rfl, h⟩
set_option maxRecDepth 100000 in
set_option maxHeartbeats 4000000 in
theorem v_X8_verse {G : CX} {a1 : Int32} {a2 : Int32}  {I : HP} {Q : HP → Int32 → Prop} (h : RV G Y_X8_find [.ref 58] I (fun I1 => RZ G Y_X8_isVerse [.ref 58, .int a1] I1 (fun I2 r3 => (((bI r3) = 0) → (Q I2 (-2 : Int32))) ∧ ((¬ (bI r3) = 0) → (RZ G Y_X8_in [.long (a2.toInt64), .long (0 : Int64), .long (5 : Int64)] I2 (fun I5 r6 => (((bI r6) = 0) → (Q I5 (-2 : Int32))) ∧ ((¬ (bI r6) = 0) → (RI G Y_X8_verseOf [.ref 58, .int a1, .int a2] I5 (fun I8 r9 => Q I8 r9))))))))) : RI G Y_X8_verse [.ref 58, .int a1, .int a2] I Q := by
  refine ret_of (show plainName RX8 = true by decide) (Nat.le_of_ble_eq_true rfl) ?_
  show Go G Y_X8_verse 0 [(0, .ref 58), (1, .int a1), (2, .int a2)] [] SH I 0 0 _
  refine go_aload_n dX8_verse_0 rfl 0 rfl ?_
  refine go_vcall (Z := Y_X8_find) (As := []) (S := []) dX8_verse_1 ok_X8_find l_X8_162 (by decide) sh_58 (by decide) (Nat.le_of_ble_eq_true rfl) rfl rfl rfl (Nat.le_of_ble_eq_true rfl) h (fun _ I1 _ hq => ?_)
  obtain ⟨rfl, rfl, h⟩ := hq
  show Go G Y_X8_verse 4 [(0, .ref 58), (1, .int a1), (2, .int a2)] [] SH I1 0 0 _
  refine go_aload_n dX8_verse_4 rfl 0 rfl ?_
  refine go_iload_n dX8_verse_5 rfl 1 rfl ?_
  refine go_vcall (Z := Y_X8_isVerse) (As := [.int a1]) (S := []) dX8_verse_6 ok_X8_isVerse l_X8_165 (by decide) sh_58 (by decide) (Nat.le_of_ble_eq_true rfl) rfl rfl rfl (Nat.le_of_ble_eq_true rfl) h (fun _ I2 _ hq => ?_)
  obtain ⟨rfl, r3, rfl, h⟩ := hq
  show Go G Y_X8_verse 9 [(0, .ref 58), (1, .int a1), (2, .int a2)] [.int (bI r3)] SH I2 0 0 _
  refine go_if_eq (tgt := 33) dX8_verse_9 (by decide) (fun c4 => ?_) (fun c4 => ?_)
  · have h := h.1 c4
    refine go_bipush dX8_verse_33 (v := (-2 : Int32)) (by decide) ?_
    exact go_iret dX8_verse_35 rfl rfl (by decide) ⟨rfl, _, rfl, h⟩
  · have h := h.2 c4
    refine go_iload_n dX8_verse_12 rfl 2 rfl ?_
    refine go_i2l dX8_verse_13 ?_
    refine go_lconst dX8_verse_14 (v := (0 : Int64)) (by decide) ?_
    refine go_ldc2 dX8_verse_15 k_X8_123 ?_
    refine go_scall (Z := Y_X8_in) (As := [.long (a2.toInt64), .long (0 : Int64), .long (5 : Int64)]) (S := []) dX8_verse_18 ok_X8_in l_X8_72 (by decide) rfl rfl (Nat.le_of_ble_eq_true rfl) h (fun _ I5 _ hq => ?_)
    obtain ⟨rfl, r6, rfl, h⟩ := hq
    show Go G Y_X8_verse 21 [(0, .ref 58), (1, .int a1), (2, .int a2)] [.int (bI r6)] SH I5 0 0 _
    refine go_if_eq (tgt := 33) dX8_verse_21 (by decide) (fun c7 => ?_) (fun c7 => ?_)
    · have h := h.1 c7
      refine go_bipush dX8_verse_33 (v := (-2 : Int32)) (by decide) ?_
      exact go_iret dX8_verse_35 rfl rfl (by decide) ⟨rfl, _, rfl, h⟩
    · have h := h.2 c7
      refine go_aload_n dX8_verse_24 rfl 0 rfl ?_
      refine go_iload_n dX8_verse_25 rfl 1 rfl ?_
      refine go_iload_n dX8_verse_26 rfl 2 rfl ?_
      refine go_vcall (Z := Y_X8_verseOf) (As := [.int a1, .int a2]) (S := []) dX8_verse_27 ok_X8_verseOf l_X8_168 (by decide) sh_58 (by decide) (Nat.le_of_ble_eq_true rfl) rfl rfl rfl (Nat.le_of_ble_eq_true rfl) h (fun _ I8 _ hq => ?_)
      obtain ⟨rfl, r9, rfl, h⟩ := hq
      show Go G Y_X8_verse 30 [(0, .ref 58), (1, .int a1), (2, .int a2)] [.int r9] SH I8 0 0 _
      refine go_goto (tgt := 35) dX8_verse_30 (by decide) ?_
      exact go_iret dX8_verse_35 rfl rfl (by decide) ⟨rfl, _, rfl, h⟩
set_option maxRecDepth 100000 in
set_option maxHeartbeats 4000000 in
theorem v_X8_whenOf {G : CX} {a1 : Int32} {a2 : Int32}  {I : HP} {Q : HP → Int32 → Prop} (h : ((¬ a2 = 0) → (((¬ a2 = (1 : Int32)) → (((¬ a2 = (2 : Int32)) → (((¬ a2 = (3 : Int32)) → ((vp_in a1 14) ∧ (Q I (I 75 (nn a1))))) ∧ ((a2 = (3 : Int32)) → ((vp_in a1 14) ∧ (Q I (I 74 (nn a1))))))) ∧ ((a2 = (2 : Int32)) → ((vp_in a1 14) ∧ (Q I (I 73 (nn a1))))))) ∧ ((a2 = (1 : Int32)) → ((vp_in a1 14) ∧ (Q I (I 72 (nn a1))))))) ∧ ((a2 = 0) → ((vp_in a1 14) ∧ (Q I (I 71 (nn a1)))))) : RI G Y_X8_whenOf [.ref 58, .int a1, .int a2] I Q := by
  refine ret_of (show plainName RX8 = true by decide) (Nat.le_of_ble_eq_true rfl) ?_
  show Go G Y_X8_whenOf 0 [(0, .ref 58), (1, .int a1), (2, .int a2)] [] SH I 0 0 _
  refine go_iload_n dX8_whenOf_0 rfl 2 rfl ?_
  refine go_if_ne (tgt := 13) dX8_whenOf_1 (by decide) (fun c1 => ?_) (fun c1 => ?_)
  · have h := h.1 c1
    refine go_iload_n dX8_whenOf_13 rfl 2 rfl ?_
    refine go_iconst dX8_whenOf_14 (v := (1 : Int32)) (by decide) ?_
    refine go_icmp_ne (tgt := 27) dX8_whenOf_15 (by decide) (fun c2 => ?_) (fun c2 => ?_)
    · have h := h.1 c2
      refine go_iload_n dX8_whenOf_27 rfl 2 rfl ?_
      refine go_iconst dX8_whenOf_28 (v := (2 : Int32)) (by decide) ?_
      refine go_icmp_ne (tgt := 41) dX8_whenOf_29 (by decide) (fun c3 => ?_) (fun c3 => ?_)
      · have h := h.1 c3
        refine go_iload_n dX8_whenOf_41 rfl 2 rfl ?_
        refine go_iconst dX8_whenOf_42 (v := (3 : Int32)) (by decide) ?_
        refine go_icmp_ne (tgt := 55) dX8_whenOf_43 (by decide) (fun c4 => ?_) (fun c4 => ?_)
        · have h := h.1 c4
          refine go_aload_n dX8_whenOf_55 rfl 0 rfl ?_
          refine go_getR dX8_whenOf_56 sh_58 (by decide) f_X8_58 ⟨Nat.le_of_ble_eq_true rfl, Nat.le_of_ble_eq_true rfl, rfl⟩ rfl ?_
          refine go_iload_n dX8_whenOf_59 rfl 1 rfl ?_
          have hb5 := h.1
          have h := h.2
          refine go_iald dX8_whenOf_60 sh_75 (by decide) hb5 rfl ?_
          exact go_iret dX8_whenOf_61 rfl rfl (by decide) ⟨rfl, _, rfl, h⟩
        · have h := h.2 c4
          refine go_aload_n dX8_whenOf_46 rfl 0 rfl ?_
          refine go_getR dX8_whenOf_47 sh_58 (by decide) f_X8_55 ⟨Nat.le_of_ble_eq_true rfl, Nat.le_of_ble_eq_true rfl, rfl⟩ rfl ?_
          refine go_iload_n dX8_whenOf_50 rfl 1 rfl ?_
          have hb6 := h.1
          have h := h.2
          refine go_iald dX8_whenOf_51 sh_74 (by decide) hb6 rfl ?_
          refine go_goto (tgt := 61) dX8_whenOf_52 (by decide) ?_
          exact go_iret dX8_whenOf_61 rfl rfl (by decide) ⟨rfl, _, rfl, h⟩
      · have h := h.2 c3
        refine go_aload_n dX8_whenOf_32 rfl 0 rfl ?_
        refine go_getR dX8_whenOf_33 sh_58 (by decide) f_X8_52 ⟨Nat.le_of_ble_eq_true rfl, Nat.le_of_ble_eq_true rfl, rfl⟩ rfl ?_
        refine go_iload_n dX8_whenOf_36 rfl 1 rfl ?_
        have hb7 := h.1
        have h := h.2
        refine go_iald dX8_whenOf_37 sh_73 (by decide) hb7 rfl ?_
        refine go_goto (tgt := 61) dX8_whenOf_38 (by decide) ?_
        exact go_iret dX8_whenOf_61 rfl rfl (by decide) ⟨rfl, _, rfl, h⟩
    · have h := h.2 c2
      refine go_aload_n dX8_whenOf_18 rfl 0 rfl ?_
      refine go_getR dX8_whenOf_19 sh_58 (by decide) f_X8_49 ⟨Nat.le_of_ble_eq_true rfl, Nat.le_of_ble_eq_true rfl, rfl⟩ rfl ?_
      refine go_iload_n dX8_whenOf_22 rfl 1 rfl ?_
      have hb8 := h.1
      have h := h.2
      refine go_iald dX8_whenOf_23 sh_72 (by decide) hb8 rfl ?_
      refine go_goto (tgt := 61) dX8_whenOf_24 (by decide) ?_
      exact go_iret dX8_whenOf_61 rfl rfl (by decide) ⟨rfl, _, rfl, h⟩
  · have h := h.2 c1
    refine go_aload_n dX8_whenOf_4 rfl 0 rfl ?_
    refine go_getR dX8_whenOf_5 sh_58 (by decide) f_X8_46 ⟨Nat.le_of_ble_eq_true rfl, Nat.le_of_ble_eq_true rfl, rfl⟩ rfl ?_
    refine go_iload_n dX8_whenOf_8 rfl 1 rfl ?_
    have hb9 := h.1
    have h := h.2
    refine go_iald dX8_whenOf_9 sh_71 (by decide) hb9 rfl ?_
    refine go_goto (tgt := 61) dX8_whenOf_10 (by decide) ?_
    exact go_iret dX8_whenOf_61 rfl rfl (by decide) ⟨rfl, _, rfl, h⟩
set_option maxRecDepth 100000 in
set_option maxHeartbeats 4000000 in
theorem v_X8_when {G : CX} {a1 : Int32} {a2 : Int32}  {I : HP} {Q : HP → Int32 → Prop} (h : RV G Y_X8_find [.ref 58] I (fun I1 => RZ G Y_X8_isVerse [.ref 58, .int a1] I1 (fun I2 r3 => (((bI r3) = 0) → (Q I2 (-2 : Int32))) ∧ ((¬ (bI r3) = 0) → (RZ G Y_X8_in [.long (a2.toInt64), .long (0 : Int64), .long (4 : Int64)] I2 (fun I5 r6 => (((bI r6) = 0) → (Q I5 (-2 : Int32))) ∧ ((¬ (bI r6) = 0) → (RI G Y_X8_whenOf [.ref 58, .int a1, .int a2] I5 (fun I8 r9 => Q I8 r9))))))))) : RI G Y_X8_when [.ref 58, .int a1, .int a2] I Q := by
  refine ret_of (show plainName RX8 = true by decide) (Nat.le_of_ble_eq_true rfl) ?_
  show Go G Y_X8_when 0 [(0, .ref 58), (1, .int a1), (2, .int a2)] [] SH I 0 0 _
  refine go_aload_n dX8_when_0 rfl 0 rfl ?_
  refine go_vcall (Z := Y_X8_find) (As := []) (S := []) dX8_when_1 ok_X8_find l_X8_162 (by decide) sh_58 (by decide) (Nat.le_of_ble_eq_true rfl) rfl rfl rfl (Nat.le_of_ble_eq_true rfl) h (fun _ I1 _ hq => ?_)
  obtain ⟨rfl, rfl, h⟩ := hq
  show Go G Y_X8_when 4 [(0, .ref 58), (1, .int a1), (2, .int a2)] [] SH I1 0 0 _
  refine go_aload_n dX8_when_4 rfl 0 rfl ?_
  refine go_iload_n dX8_when_5 rfl 1 rfl ?_
  refine go_vcall (Z := Y_X8_isVerse) (As := [.int a1]) (S := []) dX8_when_6 ok_X8_isVerse l_X8_165 (by decide) sh_58 (by decide) (Nat.le_of_ble_eq_true rfl) rfl rfl rfl (Nat.le_of_ble_eq_true rfl) h (fun _ I2 _ hq => ?_)
  obtain ⟨rfl, r3, rfl, h⟩ := hq
  show Go G Y_X8_when 9 [(0, .ref 58), (1, .int a1), (2, .int a2)] [.int (bI r3)] SH I2 0 0 _
  refine go_if_eq (tgt := 33) dX8_when_9 (by decide) (fun c4 => ?_) (fun c4 => ?_)
  · have h := h.1 c4
    refine go_bipush dX8_when_33 (v := (-2 : Int32)) (by decide) ?_
    exact go_iret dX8_when_35 rfl rfl (by decide) ⟨rfl, _, rfl, h⟩
  · have h := h.2 c4
    refine go_iload_n dX8_when_12 rfl 2 rfl ?_
    refine go_i2l dX8_when_13 ?_
    refine go_lconst dX8_when_14 (v := (0 : Int64)) (by decide) ?_
    refine go_ldc2 dX8_when_15 k_X8_171 ?_
    refine go_scall (Z := Y_X8_in) (As := [.long (a2.toInt64), .long (0 : Int64), .long (4 : Int64)]) (S := []) dX8_when_18 ok_X8_in l_X8_72 (by decide) rfl rfl (Nat.le_of_ble_eq_true rfl) h (fun _ I5 _ hq => ?_)
    obtain ⟨rfl, r6, rfl, h⟩ := hq
    show Go G Y_X8_when 21 [(0, .ref 58), (1, .int a1), (2, .int a2)] [.int (bI r6)] SH I5 0 0 _
    refine go_if_eq (tgt := 33) dX8_when_21 (by decide) (fun c7 => ?_) (fun c7 => ?_)
    · have h := h.1 c7
      refine go_bipush dX8_when_33 (v := (-2 : Int32)) (by decide) ?_
      exact go_iret dX8_when_35 rfl rfl (by decide) ⟨rfl, _, rfl, h⟩
    · have h := h.2 c7
      refine go_aload_n dX8_when_24 rfl 0 rfl ?_
      refine go_iload_n dX8_when_25 rfl 1 rfl ?_
      refine go_iload_n dX8_when_26 rfl 2 rfl ?_
      refine go_vcall (Z := Y_X8_whenOf) (As := [.int a1, .int a2]) (S := []) dX8_when_27 ok_X8_whenOf l_X8_173 (by decide) sh_58 (by decide) (Nat.le_of_ble_eq_true rfl) rfl rfl rfl (Nat.le_of_ble_eq_true rfl) h (fun _ I8 _ hq => ?_)
      obtain ⟨rfl, r9, rfl, h⟩ := hq
      show Go G Y_X8_when 30 [(0, .ref 58), (1, .int a1), (2, .int a2)] [.int r9] SH I8 0 0 _
      refine go_goto (tgt := 35) dX8_when_30 (by decide) ?_
      exact go_iret dX8_when_35 rfl rfl (by decide) ⟨rfl, _, rfl, h⟩
set_option maxRecDepth 100000 in
set_option maxHeartbeats 4000000 in
theorem v_X8_poemOf {G : CX} {a1 : Int32}  {I : HP} {Q : HP → Int32 → Prop} (h : ((¬ a1 = 0) → (((¬ a1 = (1 : Int32)) → (((¬ a1 = (2 : Int32)) → (Q I (I 58 23))) ∧ ((a1 = (2 : Int32)) → (Q I (I 58 21))))) ∧ ((a1 = (1 : Int32)) → (Q I (I 58 20))))) ∧ ((a1 = 0) → (Q I (I 58 22)))) : RI G Y_X8_poemOf [.ref 58, .int a1] I Q := by
  refine ret_of (show plainName RX8 = true by decide) (Nat.le_of_ble_eq_true rfl) ?_
  show Go G Y_X8_poemOf 0 [(0, .ref 58), (1, .int a1)] [] SH I 0 0 _
  refine go_iload_n dX8_poemOf_0 rfl 1 rfl ?_
  refine go_if_ne (tgt := 11) dX8_poemOf_1 (by decide) (fun c1 => ?_) (fun c1 => ?_)
  · have h := h.1 c1
    refine go_iload_n dX8_poemOf_11 rfl 1 rfl ?_
    refine go_iconst dX8_poemOf_12 (v := (1 : Int32)) (by decide) ?_
    refine go_icmp_ne (tgt := 23) dX8_poemOf_13 (by decide) (fun c2 => ?_) (fun c2 => ?_)
    · have h := h.1 c2
      refine go_iload_n dX8_poemOf_23 rfl 1 rfl ?_
      refine go_iconst dX8_poemOf_24 (v := (2 : Int32)) (by decide) ?_
      refine go_icmp_ne (tgt := 35) dX8_poemOf_25 (by decide) (fun c3 => ?_) (fun c3 => ?_)
      · have h := h.1 c3
        refine go_aload_n dX8_poemOf_35 rfl 0 rfl ?_
        refine go_getI dX8_poemOf_36 sh_58 (by decide) f_X8_149 ⟨Nat.le_of_ble_eq_true rfl, Nat.le_of_ble_eq_true rfl, rfl⟩ ?_
        exact go_iret dX8_poemOf_39 rfl rfl (by decide) ⟨rfl, _, rfl, h⟩
      · have h := h.2 c3
        refine go_aload_n dX8_poemOf_28 rfl 0 rfl ?_
        refine go_getI dX8_poemOf_29 sh_58 (by decide) f_X8_143 ⟨Nat.le_of_ble_eq_true rfl, Nat.le_of_ble_eq_true rfl, rfl⟩ ?_
        refine go_goto (tgt := 39) dX8_poemOf_32 (by decide) ?_
        exact go_iret dX8_poemOf_39 rfl rfl (by decide) ⟨rfl, _, rfl, h⟩
    · have h := h.2 c2
      refine go_aload_n dX8_poemOf_16 rfl 0 rfl ?_
      refine go_getI dX8_poemOf_17 sh_58 (by decide) f_X8_140 ⟨Nat.le_of_ble_eq_true rfl, Nat.le_of_ble_eq_true rfl, rfl⟩ ?_
      refine go_goto (tgt := 39) dX8_poemOf_20 (by decide) ?_
      exact go_iret dX8_poemOf_39 rfl rfl (by decide) ⟨rfl, _, rfl, h⟩
  · have h := h.2 c1
    refine go_aload_n dX8_poemOf_4 rfl 0 rfl ?_
    refine go_getI dX8_poemOf_5 sh_58 (by decide) f_X8_146 ⟨Nat.le_of_ble_eq_true rfl, Nat.le_of_ble_eq_true rfl, rfl⟩ ?_
    refine go_goto (tgt := 39) dX8_poemOf_8 (by decide) ?_
    exact go_iret dX8_poemOf_39 rfl rfl (by decide) ⟨rfl, _, rfl, h⟩
set_option maxRecDepth 100000 in
set_option maxHeartbeats 4000000 in
theorem v_X8_poem {G : CX} {a1 : Int32}  {I : HP} {Q : HP → Int32 → Prop} (h : RV G Y_X8_find [.ref 58] I (fun I1 => RZ G Y_X8_in [.long (a1.toInt64), .long (0 : Int64), .long (3 : Int64)] I1 (fun I2 r3 => (((bI r3) = 0) → (Q I2 (-2 : Int32))) ∧ ((¬ (bI r3) = 0) → (RI G Y_X8_poemOf [.ref 58, .int a1] I2 (fun I5 r6 => Q I5 r6)))))) : RI G Y_X8_poem [.ref 58, .int a1] I Q := by
  refine ret_of (show plainName RX8 = true by decide) (Nat.le_of_ble_eq_true rfl) ?_
  show Go G Y_X8_poem 0 [(0, .ref 58), (1, .int a1)] [] SH I 0 0 _
  refine go_aload_n dX8_poem_0 rfl 0 rfl ?_
  refine go_vcall (Z := Y_X8_find) (As := []) (S := []) dX8_poem_1 ok_X8_find l_X8_162 (by decide) sh_58 (by decide) (Nat.le_of_ble_eq_true rfl) rfl rfl rfl (Nat.le_of_ble_eq_true rfl) h (fun _ I1 _ hq => ?_)
  obtain ⟨rfl, rfl, h⟩ := hq
  show Go G Y_X8_poem 4 [(0, .ref 58), (1, .int a1)] [] SH I1 0 0 _
  refine go_iload_n dX8_poem_4 rfl 1 rfl ?_
  refine go_i2l dX8_poem_5 ?_
  refine go_lconst dX8_poem_6 (v := (0 : Int64)) (by decide) ?_
  refine go_ldc2 dX8_poem_7 k_X8_80 ?_
  refine go_scall (Z := Y_X8_in) (As := [.long (a1.toInt64), .long (0 : Int64), .long (3 : Int64)]) (S := []) dX8_poem_10 ok_X8_in l_X8_72 (by decide) rfl rfl (Nat.le_of_ble_eq_true rfl) h (fun _ I2 _ hq => ?_)
  obtain ⟨rfl, r3, rfl, h⟩ := hq
  show Go G Y_X8_poem 13 [(0, .ref 58), (1, .int a1)] [.int (bI r3)] SH I2 0 0 _
  refine go_if_eq (tgt := 24) dX8_poem_13 (by decide) (fun c4 => ?_) (fun c4 => ?_)
  · have h := h.1 c4
    refine go_bipush dX8_poem_24 (v := (-2 : Int32)) (by decide) ?_
    exact go_iret dX8_poem_26 rfl rfl (by decide) ⟨rfl, _, rfl, h⟩
  · have h := h.2 c4
    refine go_aload_n dX8_poem_16 rfl 0 rfl ?_
    refine go_iload_n dX8_poem_17 rfl 1 rfl ?_
    refine go_vcall (Z := Y_X8_poemOf) (As := [.int a1]) (S := []) dX8_poem_18 ok_X8_poemOf l_X8_176 (by decide) sh_58 (by decide) (Nat.le_of_ble_eq_true rfl) rfl rfl rfl (Nat.le_of_ble_eq_true rfl) h (fun _ I5 _ hq => ?_)
    obtain ⟨rfl, r6, rfl, h⟩ := hq
    show Go G Y_X8_poem 21 [(0, .ref 58), (1, .int a1)] [.int r6] SH I5 0 0 _
    refine go_goto (tgt := 26) dX8_poem_21 (by decide) ?_
    exact go_iret dX8_poem_26 rfl rfl (by decide) ⟨rfl, _, rfl, h⟩
set_option maxRecDepth 100000 in
set_option maxHeartbeats 4000000 in
theorem v_X8_judgedNow {G : CX}   {I : HP} {Q : HP → Int32 → Prop} (h : GI G Y_X8_judgedNow 2 [(0, .ref 58), (1, .int (0 : Int32))] I Q) : RI G Y_X8_judgedNow [.ref 58] I Q := by
  refine ret_of (show plainName RX8 = true by decide) (Nat.le_of_ble_eq_true rfl) ?_
  show Go G Y_X8_judgedNow 0 [(0, .ref 58)] [] SH I 0 0 _
  refine go_iconst dX8_judgedNow_0 (v := (0 : Int32)) (by decide) ?_
  refine go_istore_n dX8_judgedNow_1 rfl (Nat.le_of_ble_eq_true rfl) (L2 := [(1, .int (0 : Int32)), (0, .ref 58)]) rfl ?_
  exact go_loc [(0, .ref 58), (1, .int (0 : Int32))] [1, 0] rfl h
set_option maxRecDepth 100000 in
set_option maxHeartbeats 4000000 in
theorem v_X8_judgedNow_2 {G : CX} {x1 : Int32}  {I : HP} {Q : HP → Int32 → Prop} (h : (((I 58 11) ≤ x1) → (Q I (-1 : Int32))) ∧ ((¬ (I 58 11) ≤ x1) → ((vp_in x1 14) ∧ (((¬ (I 75 (nn x1)) = 0) → (Q I x1)) ∧ (((I 75 (nn x1)) = 0) → (((¬ (I 74 (nn x1)) = (-1 : Int32)) → (GI G Y_X8_judgedNow 2 [(0, .ref 58), (1, .int (x1 + 1))] I Q)) ∧ (((I 74 (nn x1)) = (-1 : Int32)) → (Q I x1)))))))) : GI G Y_X8_judgedNow 2 [(0, .ref 58), (1, .int x1)] I Q := by
  show Go G Y_X8_judgedNow 2 [(0, .ref 58), (1, .int x1)] [] SH I 0 0 _
  refine go_iload_n dX8_judgedNow_2 rfl 1 rfl ?_
  refine go_aload_n dX8_judgedNow_3 rfl 0 rfl ?_
  refine go_getI dX8_judgedNow_4 sh_58 (by decide) f_X8_128 ⟨Nat.le_of_ble_eq_true rfl, Nat.le_of_ble_eq_true rfl, rfl⟩ ?_
  refine go_icmp_ge (tgt := 37) dX8_judgedNow_7 (by decide) (fun c1 => ?_) (fun c1 => ?_)
  · have h := h.1 c1
    refine go_iconst dX8_judgedNow_37 (v := (-1 : Int32)) (by decide) ?_
    exact go_iret dX8_judgedNow_38 rfl rfl (by decide) ⟨rfl, _, rfl, h⟩
  · have h := h.2 c1
    refine go_aload_n dX8_judgedNow_10 rfl 0 rfl ?_
    refine go_getR dX8_judgedNow_11 sh_58 (by decide) f_X8_58 ⟨Nat.le_of_ble_eq_true rfl, Nat.le_of_ble_eq_true rfl, rfl⟩ rfl ?_
    refine go_iload_n dX8_judgedNow_14 rfl 1 rfl ?_
    have hb2 := h.1
    have h := h.2
    refine go_iald dX8_judgedNow_15 sh_75 (by decide) hb2 rfl ?_
    refine go_if_ne (tgt := 29) dX8_judgedNow_16 (by decide) (fun c3 => ?_) (fun c3 => ?_)
    · have h := h.1 c3
      refine go_iload_n dX8_judgedNow_29 rfl 1 rfl ?_
      exact go_iret dX8_judgedNow_30 rfl rfl (by decide) ⟨rfl, _, rfl, h⟩
    · have h := h.2 c3
      refine go_aload_n dX8_judgedNow_19 rfl 0 rfl ?_
      refine go_getR dX8_judgedNow_20 sh_58 (by decide) f_X8_55 ⟨Nat.le_of_ble_eq_true rfl, Nat.le_of_ble_eq_true rfl, rfl⟩ rfl ?_
      refine go_iload_n dX8_judgedNow_23 rfl 1 rfl ?_
      refine go_iald dX8_judgedNow_24 sh_74 (by decide) hb2 rfl ?_
      refine go_iconst dX8_judgedNow_25 (v := (-1 : Int32)) (by decide) ?_
      refine go_icmp_ne (tgt := 31) dX8_judgedNow_26 (by decide) (fun c4 => ?_) (fun c4 => ?_)
      · have h := h.1 c4
        refine go_iinc dX8_judgedNow_31 1 rfl (v := (x1 + 1)) rfl (Nat.le_of_ble_eq_true rfl) (L2 := [(1, .int (x1 + 1)), (0, .ref 58)]) rfl ?_
        refine go_goto (tgt := 2) dX8_judgedNow_34 (by decide) ?_
        exact go_loc [(0, .ref 58), (1, .int (x1 + 1))] [1, 0] rfl h
      · have h := h.2 c4
        refine go_iload_n dX8_judgedNow_29 rfl 1 rfl ?_
        exact go_iret dX8_judgedNow_30 rfl rfl (by decide) ⟨rfl, _, rfl, h⟩
set_option maxRecDepth 100000 in
set_option maxHeartbeats 4000000 in
theorem v_X8_judged {G : CX}   {I : HP} {Q : HP → Int32 → Prop} (h : RV G Y_X8_find [.ref 58] I (fun I1 => RI G Y_X8_judgedNow [.ref 58] I1 (fun I2 r3 => Q I2 r3))) : RI G Y_X8_judged [.ref 58] I Q := by
  refine ret_of (show plainName RX8 = true by decide) (Nat.le_of_ble_eq_true rfl) ?_
  show Go G Y_X8_judged 0 [(0, .ref 58)] [] SH I 0 0 _
  refine go_aload_n dX8_judged_0 rfl 0 rfl ?_
  refine go_vcall (Z := Y_X8_find) (As := []) (S := []) dX8_judged_1 ok_X8_find l_X8_162 (by decide) sh_58 (by decide) (Nat.le_of_ble_eq_true rfl) rfl rfl rfl (Nat.le_of_ble_eq_true rfl) h (fun _ I1 _ hq => ?_)
  obtain ⟨rfl, rfl, h⟩ := hq
  show Go G Y_X8_judged 4 [(0, .ref 58)] [] SH I1 0 0 _
  refine go_aload_n dX8_judged_4 rfl 0 rfl ?_
  refine go_vcall (Z := Y_X8_judgedNow) (As := []) (S := []) dX8_judged_5 ok_X8_judgedNow l_X8_179 (by decide) sh_58 (by decide) (Nat.le_of_ble_eq_true rfl) rfl rfl rfl (Nat.le_of_ble_eq_true rfl) h (fun _ I2 _ hq => ?_)
  obtain ⟨rfl, r3, rfl, h⟩ := hq
  show Go G Y_X8_judged 8 [(0, .ref 58)] [.int r3] SH I2 0 0 _
  exact go_iret dX8_judged_8 rfl rfl (by decide) ⟨rfl, _, rfl, h⟩
set_option maxRecDepth 100000 in
set_option maxHeartbeats 4000000 in
theorem v_X8_isFree {G : CX} {a1 : Int32}  {I : HP} {Q : HP → Bool → Prop} (h : GZ G Y_X8_isFree 4 [(0, .ref 58), (1, .int a1), (2, .int (1 : Int32)), (3, .int (0 : Int32))] I Q) : RZ G Y_X8_isFree [.ref 58, .int a1] I Q := by
  refine ret_of (show plainName RX8 = true by decide) (Nat.le_of_ble_eq_true rfl) ?_
  show Go G Y_X8_isFree 0 [(0, .ref 58), (1, .int a1)] [] SH I 0 0 _
  refine go_iconst dX8_isFree_0 (v := (1 : Int32)) (by decide) ?_
  refine go_istore_n dX8_isFree_1 rfl (Nat.le_of_ble_eq_true rfl) (L2 := [(2, .int (1 : Int32)), (0, .ref 58), (1, .int a1)]) rfl ?_
  refine go_iconst dX8_isFree_2 (v := (0 : Int32)) (by decide) ?_
  refine go_istore_n dX8_isFree_3 rfl (Nat.le_of_ble_eq_true rfl) (L2 := [(3, .int (0 : Int32)), (2, .int (1 : Int32)), (0, .ref 58), (1, .int a1)]) rfl ?_
  exact go_loc [(0, .ref 58), (1, .int a1), (2, .int (1 : Int32)), (3, .int (0 : Int32))] [2, 3, 1, 0] rfl h
set_option maxRecDepth 100000 in
set_option maxHeartbeats 4000000 in
theorem v_X8_isFree_4 {G : CX} {x1 : Int32} {x2 : Int32} {x3 : Int32}  {I : HP} {Q : HP → Bool → Prop} (h : (((I 58 11) ≤ x3) → (∃ b2 : Bool, x2 = bI b2 ∧ Q I b2)) ∧ ((¬ (I 58 11) ≤ x3) → ((vp_in x3 14) ∧ ((((I 71 (nn x3)) = (-1 : Int32)) → (((x2 = 0) → (GZ G Y_X8_isFree 4 [(0, .ref 58), (1, .int x1), (2, .int (0 : Int32)), (3, .int (x3 + 1))] I Q)) ∧ ((¬ x2 = 0) → (GZ G Y_X8_isFree 4 [(0, .ref 58), (1, .int x1), (2, .int (1 : Int32)), (3, .int (x3 + 1))] I Q)))) ∧ ((¬ (I 71 (nn x3)) = (-1 : Int32)) → (((x1 < (I 71 (nn x3))) → (((x2 = 0) → (GZ G Y_X8_isFree 4 [(0, .ref 58), (1, .int x1), (2, .int (0 : Int32)), (3, .int (x3 + 1))] I Q)) ∧ ((¬ x2 = 0) → (GZ G Y_X8_isFree 4 [(0, .ref 58), (1, .int x1), (2, .int (1 : Int32)), (3, .int (x3 + 1))] I Q)))) ∧ ((¬ x1 < (I 71 (nn x3))) → ((((I 72 (nn x3)) ≤ x1) → (((x2 = 0) → (GZ G Y_X8_isFree 4 [(0, .ref 58), (1, .int x1), (2, .int (0 : Int32)), (3, .int (x3 + 1))] I Q)) ∧ ((¬ x2 = 0) → (GZ G Y_X8_isFree 4 [(0, .ref 58), (1, .int x1), (2, .int (1 : Int32)), (3, .int (x3 + 1))] I Q)))) ∧ ((¬ (I 72 (nn x3)) ≤ x1) → (((x2 = 0) → (GZ G Y_X8_isFree 4 [(0, .ref 58), (1, .int x1), (2, .int (0 : Int32)), (3, .int (x3 + 1))] I Q)) ∧ ((¬ x2 = 0) → (RI G Y_X8_kindAt [.ref 58, .int x3] I (fun I11 r12 => ((¬ r12 = (2 : Int32)) → (GZ G Y_X8_isFree 4 [(0, .ref 58), (1, .int x1), (2, .int (0 : Int32)), (3, .int (x3 + 1))] I11 Q)) ∧ ((r12 = (2 : Int32)) → (GZ G Y_X8_isFree 4 [(0, .ref 58), (1, .int x1), (2, .int (1 : Int32)), (3, .int (x3 + 1))] I11 Q))))))))))))))) : GZ G Y_X8_isFree 4 [(0, .ref 58), (1, .int x1), (2, .int x2), (3, .int x3)] I Q := by
  show Go G Y_X8_isFree 4 [(0, .ref 58), (1, .int x1), (2, .int x2), (3, .int x3)] [] SH I 0 0 _
  refine go_iload_n dX8_isFree_4 rfl 3 rfl ?_
  refine go_aload_n dX8_isFree_5 rfl 0 rfl ?_
  refine go_getI dX8_isFree_6 sh_58 (by decide) f_X8_128 ⟨Nat.le_of_ble_eq_true rfl, Nat.le_of_ble_eq_true rfl, rfl⟩ ?_
  refine go_icmp_ge (tgt := 79) dX8_isFree_9 (by decide) (fun c1 => ?_) (fun c1 => ?_)
  · have h := h.1 c1
    refine go_iload_n dX8_isFree_79 rfl 2 rfl ?_
    obtain ⟨b2, eb2, h⟩ := h
    exact go_zret dX8_isFree_80 rfl (by rw [eb2]; exact bI_nar _) rfl (by decide) ⟨rfl, b2, by rw [eb2], h⟩
  · have h := h.2 c1
    refine go_aload_n dX8_isFree_12 rfl 0 rfl ?_
    refine go_getR dX8_isFree_13 sh_58 (by decide) f_X8_46 ⟨Nat.le_of_ble_eq_true rfl, Nat.le_of_ble_eq_true rfl, rfl⟩ rfl ?_
    refine go_iload_n dX8_isFree_16 rfl 3 rfl ?_
    have hb3 := h.1
    have h := h.2
    refine go_iald dX8_isFree_17 sh_71 (by decide) hb3 rfl ?_
    refine go_iconst dX8_isFree_18 (v := (-1 : Int32)) (by decide) ?_
    refine go_icmp_eq (tgt := 46) dX8_isFree_19 (by decide) (fun c4 => ?_) (fun c4 => ?_)
    · have h := h.1 c4
      refine go_iconst dX8_isFree_46 (v := (0 : Int32)) (by decide) ?_
      refine go_istore dX8_isFree_47 (Nat.le_of_ble_eq_true rfl) (L2 := [(4, .int (0 : Int32)), (0, .ref 58), (1, .int x1), (2, .int x2), (3, .int x3)]) rfl ?_
      refine go_iload_n dX8_isFree_49 rfl 3 rfl ?_
      refine go_if_eq (tgt := 71) dX8_isFree_50 (by decide) (fun c5 => ?_) (fun c5 => ?_)
      · have h := h.1 c5
        refine go_iconst dX8_isFree_71 (v := (0 : Int32)) (by decide) ?_
        refine go_istore_n dX8_isFree_72 rfl (Nat.le_of_ble_eq_true rfl) (L2 := [(2, .int (0 : Int32)), (4, .int (0 : Int32)), (0, .ref 58), (1, .int x1), (3, .int x3)]) rfl ?_
        refine go_iinc dX8_isFree_73 4 rfl (v := (x3 + 1)) rfl (Nat.le_of_ble_eq_true rfl) (L2 := [(3, .int (x3 + 1)), (2, .int (0 : Int32)), (4, .int (0 : Int32)), (0, .ref 58), (1, .int x1)]) rfl ?_
        refine go_goto (tgt := 4) dX8_isFree_76 (by decide) ?_
        exact go_loc [(0, .ref 58), (1, .int x1), (2, .int (0 : Int32)), (3, .int (x3 + 1))] [3, 4, 1, 0] rfl h
      · have h := h.2 c5
        refine go_iload dX8_isFree_53 0 rfl ?_
        refine go_if_eq (tgt := 67) dX8_isFree_55 (by decide) (fun _ => ?_) (fun c => absurd (by decide) c)
        refine go_iconst dX8_isFree_67 (v := (1 : Int32)) (by decide) ?_
        refine go_goto (tgt := 72) dX8_isFree_68 (by decide) ?_
        refine go_istore_n dX8_isFree_72 rfl (Nat.le_of_ble_eq_true rfl) (L2 := [(2, .int (1 : Int32)), (4, .int (0 : Int32)), (0, .ref 58), (1, .int x1), (3, .int x3)]) rfl ?_
        refine go_iinc dX8_isFree_73 4 rfl (v := (x3 + 1)) rfl (Nat.le_of_ble_eq_true rfl) (L2 := [(3, .int (x3 + 1)), (2, .int (1 : Int32)), (4, .int (0 : Int32)), (0, .ref 58), (1, .int x1)]) rfl ?_
        refine go_goto (tgt := 4) dX8_isFree_76 (by decide) ?_
        exact go_loc [(0, .ref 58), (1, .int x1), (2, .int (1 : Int32)), (3, .int (x3 + 1))] [3, 4, 1, 0] rfl h
    · have h := h.2 c4
      refine go_iload_n dX8_isFree_22 rfl 1 rfl ?_
      refine go_aload_n dX8_isFree_23 rfl 0 rfl ?_
      refine go_getR dX8_isFree_24 sh_58 (by decide) f_X8_46 ⟨Nat.le_of_ble_eq_true rfl, Nat.le_of_ble_eq_true rfl, rfl⟩ rfl ?_
      refine go_iload_n dX8_isFree_27 rfl 3 rfl ?_
      refine go_iald dX8_isFree_28 sh_71 (by decide) hb3 rfl ?_
      refine go_icmp_lt (tgt := 46) dX8_isFree_29 (by decide) (fun c6 => ?_) (fun c6 => ?_)
      · have h := h.1 c6
        refine go_iconst dX8_isFree_46 (v := (0 : Int32)) (by decide) ?_
        refine go_istore dX8_isFree_47 (Nat.le_of_ble_eq_true rfl) (L2 := [(4, .int (0 : Int32)), (0, .ref 58), (1, .int x1), (2, .int x2), (3, .int x3)]) rfl ?_
        refine go_iload_n dX8_isFree_49 rfl 3 rfl ?_
        refine go_if_eq (tgt := 71) dX8_isFree_50 (by decide) (fun c7 => ?_) (fun c7 => ?_)
        · have h := h.1 c7
          refine go_iconst dX8_isFree_71 (v := (0 : Int32)) (by decide) ?_
          refine go_istore_n dX8_isFree_72 rfl (Nat.le_of_ble_eq_true rfl) (L2 := [(2, .int (0 : Int32)), (4, .int (0 : Int32)), (0, .ref 58), (1, .int x1), (3, .int x3)]) rfl ?_
          refine go_iinc dX8_isFree_73 4 rfl (v := (x3 + 1)) rfl (Nat.le_of_ble_eq_true rfl) (L2 := [(3, .int (x3 + 1)), (2, .int (0 : Int32)), (4, .int (0 : Int32)), (0, .ref 58), (1, .int x1)]) rfl ?_
          refine go_goto (tgt := 4) dX8_isFree_76 (by decide) ?_
          exact go_loc [(0, .ref 58), (1, .int x1), (2, .int (0 : Int32)), (3, .int (x3 + 1))] [3, 4, 1, 0] rfl h
        · have h := h.2 c7
          refine go_iload dX8_isFree_53 0 rfl ?_
          refine go_if_eq (tgt := 67) dX8_isFree_55 (by decide) (fun _ => ?_) (fun c => absurd (by decide) c)
          refine go_iconst dX8_isFree_67 (v := (1 : Int32)) (by decide) ?_
          refine go_goto (tgt := 72) dX8_isFree_68 (by decide) ?_
          refine go_istore_n dX8_isFree_72 rfl (Nat.le_of_ble_eq_true rfl) (L2 := [(2, .int (1 : Int32)), (4, .int (0 : Int32)), (0, .ref 58), (1, .int x1), (3, .int x3)]) rfl ?_
          refine go_iinc dX8_isFree_73 4 rfl (v := (x3 + 1)) rfl (Nat.le_of_ble_eq_true rfl) (L2 := [(3, .int (x3 + 1)), (2, .int (1 : Int32)), (4, .int (0 : Int32)), (0, .ref 58), (1, .int x1)]) rfl ?_
          refine go_goto (tgt := 4) dX8_isFree_76 (by decide) ?_
          exact go_loc [(0, .ref 58), (1, .int x1), (2, .int (1 : Int32)), (3, .int (x3 + 1))] [3, 4, 1, 0] rfl h
      · have h := h.2 c6
        refine go_iload_n dX8_isFree_32 rfl 1 rfl ?_
        refine go_aload_n dX8_isFree_33 rfl 0 rfl ?_
        refine go_getR dX8_isFree_34 sh_58 (by decide) f_X8_49 ⟨Nat.le_of_ble_eq_true rfl, Nat.le_of_ble_eq_true rfl, rfl⟩ rfl ?_
        refine go_iload_n dX8_isFree_37 rfl 3 rfl ?_
        refine go_iald dX8_isFree_38 sh_72 (by decide) hb3 rfl ?_
        refine go_icmp_ge (tgt := 46) dX8_isFree_39 (by decide) (fun c8 => ?_) (fun c8 => ?_)
        · have h := h.1 c8
          refine go_iconst dX8_isFree_46 (v := (0 : Int32)) (by decide) ?_
          refine go_istore dX8_isFree_47 (Nat.le_of_ble_eq_true rfl) (L2 := [(4, .int (0 : Int32)), (0, .ref 58), (1, .int x1), (2, .int x2), (3, .int x3)]) rfl ?_
          refine go_iload_n dX8_isFree_49 rfl 3 rfl ?_
          refine go_if_eq (tgt := 71) dX8_isFree_50 (by decide) (fun c9 => ?_) (fun c9 => ?_)
          · have h := h.1 c9
            refine go_iconst dX8_isFree_71 (v := (0 : Int32)) (by decide) ?_
            refine go_istore_n dX8_isFree_72 rfl (Nat.le_of_ble_eq_true rfl) (L2 := [(2, .int (0 : Int32)), (4, .int (0 : Int32)), (0, .ref 58), (1, .int x1), (3, .int x3)]) rfl ?_
            refine go_iinc dX8_isFree_73 4 rfl (v := (x3 + 1)) rfl (Nat.le_of_ble_eq_true rfl) (L2 := [(3, .int (x3 + 1)), (2, .int (0 : Int32)), (4, .int (0 : Int32)), (0, .ref 58), (1, .int x1)]) rfl ?_
            refine go_goto (tgt := 4) dX8_isFree_76 (by decide) ?_
            exact go_loc [(0, .ref 58), (1, .int x1), (2, .int (0 : Int32)), (3, .int (x3 + 1))] [3, 4, 1, 0] rfl h
          · have h := h.2 c9
            refine go_iload dX8_isFree_53 0 rfl ?_
            refine go_if_eq (tgt := 67) dX8_isFree_55 (by decide) (fun _ => ?_) (fun c => absurd (by decide) c)
            refine go_iconst dX8_isFree_67 (v := (1 : Int32)) (by decide) ?_
            refine go_goto (tgt := 72) dX8_isFree_68 (by decide) ?_
            refine go_istore_n dX8_isFree_72 rfl (Nat.le_of_ble_eq_true rfl) (L2 := [(2, .int (1 : Int32)), (4, .int (0 : Int32)), (0, .ref 58), (1, .int x1), (3, .int x3)]) rfl ?_
            refine go_iinc dX8_isFree_73 4 rfl (v := (x3 + 1)) rfl (Nat.le_of_ble_eq_true rfl) (L2 := [(3, .int (x3 + 1)), (2, .int (1 : Int32)), (4, .int (0 : Int32)), (0, .ref 58), (1, .int x1)]) rfl ?_
            refine go_goto (tgt := 4) dX8_isFree_76 (by decide) ?_
            exact go_loc [(0, .ref 58), (1, .int x1), (2, .int (1 : Int32)), (3, .int (x3 + 1))] [3, 4, 1, 0] rfl h
        · have h := h.2 c8
          refine go_iconst dX8_isFree_42 (v := (1 : Int32)) (by decide) ?_
          refine go_goto (tgt := 47) dX8_isFree_43 (by decide) ?_
          refine go_istore dX8_isFree_47 (Nat.le_of_ble_eq_true rfl) (L2 := [(4, .int (1 : Int32)), (0, .ref 58), (1, .int x1), (2, .int x2), (3, .int x3)]) rfl ?_
          refine go_iload_n dX8_isFree_49 rfl 3 rfl ?_
          refine go_if_eq (tgt := 71) dX8_isFree_50 (by decide) (fun c10 => ?_) (fun c10 => ?_)
          · have h := h.1 c10
            refine go_iconst dX8_isFree_71 (v := (0 : Int32)) (by decide) ?_
            refine go_istore_n dX8_isFree_72 rfl (Nat.le_of_ble_eq_true rfl) (L2 := [(2, .int (0 : Int32)), (4, .int (1 : Int32)), (0, .ref 58), (1, .int x1), (3, .int x3)]) rfl ?_
            refine go_iinc dX8_isFree_73 4 rfl (v := (x3 + 1)) rfl (Nat.le_of_ble_eq_true rfl) (L2 := [(3, .int (x3 + 1)), (2, .int (0 : Int32)), (4, .int (1 : Int32)), (0, .ref 58), (1, .int x1)]) rfl ?_
            refine go_goto (tgt := 4) dX8_isFree_76 (by decide) ?_
            exact go_loc [(0, .ref 58), (1, .int x1), (2, .int (0 : Int32)), (3, .int (x3 + 1))] [3, 4, 1, 0] rfl h
          · have h := h.2 c10
            refine go_iload dX8_isFree_53 0 rfl ?_
            refine go_if_eq (tgt := 67) dX8_isFree_55 (by decide) (fun c => absurd c (by decide)) (fun _ => ?_)
            refine go_aload_n dX8_isFree_58 rfl 1 rfl ?_
            refine go_iload_n dX8_isFree_59 rfl 4 rfl ?_
            refine go_vcall (Z := Y_X8_kindAt) (As := [.int x3]) (S := []) dX8_isFree_60 ok_X8_kindAt l_X8_131 (by decide) sh_58 (by decide) (Nat.le_of_ble_eq_true rfl) rfl rfl rfl (Nat.le_of_ble_eq_true rfl) h (fun _ I11 _ hq => ?_)
            obtain ⟨rfl, r12, rfl, h⟩ := hq
            show Go G Y_X8_isFree 63 [(4, .int (1 : Int32)), (0, .ref 58), (1, .int x1), (2, .int x2), (3, .int x3)] [.int r12] SH I11 0 0 _
            refine go_iconst dX8_isFree_63 (v := (2 : Int32)) (by decide) ?_
            refine go_icmp_ne (tgt := 71) dX8_isFree_64 (by decide) (fun c13 => ?_) (fun c13 => ?_)
            · have h := h.1 c13
              refine go_iconst dX8_isFree_71 (v := (0 : Int32)) (by decide) ?_
              refine go_istore_n dX8_isFree_72 rfl (Nat.le_of_ble_eq_true rfl) (L2 := [(2, .int (0 : Int32)), (4, .int (1 : Int32)), (0, .ref 58), (1, .int x1), (3, .int x3)]) rfl ?_
              refine go_iinc dX8_isFree_73 4 rfl (v := (x3 + 1)) rfl (Nat.le_of_ble_eq_true rfl) (L2 := [(3, .int (x3 + 1)), (2, .int (0 : Int32)), (4, .int (1 : Int32)), (0, .ref 58), (1, .int x1)]) rfl ?_
              refine go_goto (tgt := 4) dX8_isFree_76 (by decide) ?_
              exact go_loc [(0, .ref 58), (1, .int x1), (2, .int (0 : Int32)), (3, .int (x3 + 1))] [3, 4, 1, 0] rfl h
            · have h := h.2 c13
              refine go_iconst dX8_isFree_67 (v := (1 : Int32)) (by decide) ?_
              refine go_goto (tgt := 72) dX8_isFree_68 (by decide) ?_
              refine go_istore_n dX8_isFree_72 rfl (Nat.le_of_ble_eq_true rfl) (L2 := [(2, .int (1 : Int32)), (4, .int (1 : Int32)), (0, .ref 58), (1, .int x1), (3, .int x3)]) rfl ?_
              refine go_iinc dX8_isFree_73 4 rfl (v := (x3 + 1)) rfl (Nat.le_of_ble_eq_true rfl) (L2 := [(3, .int (x3 + 1)), (2, .int (1 : Int32)), (4, .int (1 : Int32)), (0, .ref 58), (1, .int x1)]) rfl ?_
              refine go_goto (tgt := 4) dX8_isFree_76 (by decide) ?_
              exact go_loc [(0, .ref 58), (1, .int x1), (2, .int (1 : Int32)), (3, .int (x3 + 1))] [3, 4, 1, 0] rfl h
set_option maxRecDepth 100000 in
set_option maxHeartbeats 4000000 in
theorem v_X8_freeAhead {G : CX} {a1 : Int32} {a2 : Int32}  {I : HP} {Q : HP → Int32 → Prop} (h : GI G Y_X8_freeAhead 5 [(0, .ref 58), (2, .int a2), (3, .int a1), (4, .int (0 : Int32))] I Q) : RI G Y_X8_freeAhead [.ref 58, .int a1, .int a2] I Q := by
  refine ret_of (show plainName RX8 = true by decide) (Nat.le_of_ble_eq_true rfl) ?_
  show Go G Y_X8_freeAhead 0 [(0, .ref 58), (1, .int a1), (2, .int a2)] [] SH I 0 0 _
  refine go_iload_n dX8_freeAhead_0 rfl 1 rfl ?_
  refine go_istore_n dX8_freeAhead_1 rfl (Nat.le_of_ble_eq_true rfl) (L2 := [(3, .int a1), (0, .ref 58), (1, .int a1), (2, .int a2)]) rfl ?_
  refine go_iconst dX8_freeAhead_2 (v := (0 : Int32)) (by decide) ?_
  refine go_istore dX8_freeAhead_3 (Nat.le_of_ble_eq_true rfl) (L2 := [(4, .int (0 : Int32)), (3, .int a1), (0, .ref 58), (1, .int a1), (2, .int a2)]) rfl ?_
  exact go_loc [(0, .ref 58), (2, .int a2), (3, .int a1), (4, .int (0 : Int32))] [2, 4, 1, 0] rfl h
set_option maxRecDepth 100000 in
set_option maxHeartbeats 4000000 in
theorem v_X8_freeAhead_5 {G : CX} {x2 : Int32} {x3 : Int32} {x4 : Int32}  {I : HP} {Q : HP → Int32 → Prop} (h : ((x2 ≤ x4) → (Q I x3)) ∧ ((¬ x2 ≤ x4) → (RZ G Y_X8_isFree [.ref 58, .int x4] I (fun I2 r3 => (((bI r3) = 0) → (GI G Y_X8_freeAhead 5 [(0, .ref 58), (2, .int x2), (3, .int (x3 + (0 : Int32))), (4, .int (x4 + 1))] I2 Q)) ∧ ((¬ (bI r3) = 0) → (GI G Y_X8_freeAhead 5 [(0, .ref 58), (2, .int x2), (3, .int (x3 + (1 : Int32))), (4, .int (x4 + 1))] I2 Q)))))) : GI G Y_X8_freeAhead 5 [(0, .ref 58), (2, .int x2), (3, .int x3), (4, .int x4)] I Q := by
  show Go G Y_X8_freeAhead 5 [(0, .ref 58), (2, .int x2), (3, .int x3), (4, .int x4)] [] SH I 0 0 _
  refine go_iload dX8_freeAhead_5 3 rfl ?_
  refine go_iload_n dX8_freeAhead_7 rfl 1 rfl ?_
  refine go_icmp_ge (tgt := 34) dX8_freeAhead_8 (by decide) (fun c1 => ?_) (fun c1 => ?_)
  · have h := h.1 c1
    refine go_iload_n dX8_freeAhead_34 rfl 2 rfl ?_
    exact go_iret dX8_freeAhead_35 rfl rfl (by decide) ⟨rfl, _, rfl, h⟩
  · have h := h.2 c1
    refine go_iload_n dX8_freeAhead_11 rfl 2 rfl ?_
    refine go_aload_n dX8_freeAhead_12 rfl 0 rfl ?_
    refine go_iload dX8_freeAhead_13 3 rfl ?_
    refine go_vcall (Z := Y_X8_isFree) (As := [.int x4]) (S := [.int x3]) dX8_freeAhead_15 ok_X8_isFree l_X8_183 (by decide) sh_58 (by decide) (Nat.le_of_ble_eq_true rfl) rfl rfl rfl (Nat.le_of_ble_eq_true rfl) h (fun _ I2 _ hq => ?_)
    obtain ⟨rfl, r3, rfl, h⟩ := hq
    show Go G Y_X8_freeAhead 18 [(0, .ref 58), (2, .int x2), (3, .int x3), (4, .int x4)] [.int (bI r3), .int x3] SH I2 0 0 _
    refine go_if_eq (tgt := 25) dX8_freeAhead_18 (by decide) (fun c4 => ?_) (fun c4 => ?_)
    · have h := h.1 c4
      refine go_iconst dX8_freeAhead_25 (v := (0 : Int32)) (by decide) ?_
      refine go_iadd dX8_freeAhead_26 ?_
      refine go_istore_n dX8_freeAhead_27 rfl (Nat.le_of_ble_eq_true rfl) (L2 := [(3, .int (x3 + (0 : Int32))), (0, .ref 58), (2, .int x2), (4, .int x4)]) rfl ?_
      refine go_iinc dX8_freeAhead_28 3 rfl (v := (x4 + 1)) rfl (Nat.le_of_ble_eq_true rfl) (L2 := [(4, .int (x4 + 1)), (3, .int (x3 + (0 : Int32))), (0, .ref 58), (2, .int x2)]) rfl ?_
      refine go_goto (tgt := 5) dX8_freeAhead_31 (by decide) ?_
      exact go_loc [(0, .ref 58), (2, .int x2), (3, .int (x3 + (0 : Int32))), (4, .int (x4 + 1))] [2, 3, 1, 0] rfl h
    · have h := h.2 c4
      refine go_iconst dX8_freeAhead_21 (v := (1 : Int32)) (by decide) ?_
      refine go_goto (tgt := 26) dX8_freeAhead_22 (by decide) ?_
      refine go_iadd dX8_freeAhead_26 ?_
      refine go_istore_n dX8_freeAhead_27 rfl (Nat.le_of_ble_eq_true rfl) (L2 := [(3, .int (x3 + (1 : Int32))), (0, .ref 58), (2, .int x2), (4, .int x4)]) rfl ?_
      refine go_iinc dX8_freeAhead_28 3 rfl (v := (x4 + 1)) rfl (Nat.le_of_ble_eq_true rfl) (L2 := [(4, .int (x4 + 1)), (3, .int (x3 + (1 : Int32))), (0, .ref 58), (2, .int x2)]) rfl ?_
      refine go_goto (tgt := 5) dX8_freeAhead_31 (by decide) ?_
      exact go_loc [(0, .ref 58), (2, .int x2), (3, .int (x3 + (1 : Int32))), (4, .int (x4 + 1))] [2, 3, 1, 0] rfl h
set_option maxRecDepth 100000 in
set_option maxHeartbeats 4000000 in
theorem v_X8_restOf {G : CX} {a1 : Int32}  {I : HP} {Q : HP → Int32 → Prop} (h : (vp_in a1 14) ∧ (((¬ (I 71 (nn a1)) = (-1 : Int32)) → (RI G Y_X8_freeAhead [.ref 58, .int (I 67 0), .int (I 71 (nn a1))] I (fun I3 r4 => GI G Y_X8_restOf 32 [(0, .ref 58), (1, .int a1), (2, .int r4), (3, .int (0 : Int32))] I3 Q))) ∧ (((I 71 (nn a1)) = (-1 : Int32)) → (Q I (-3 : Int32))))) : RI G Y_X8_restOf [.ref 58, .int a1] I Q := by
  refine ret_of (show plainName RX8 = true by decide) (Nat.le_of_ble_eq_true rfl) ?_
  show Go G Y_X8_restOf 0 [(0, .ref 58), (1, .int a1)] [] SH I 0 0 _
  refine go_aload_n dX8_restOf_0 rfl 0 rfl ?_
  refine go_getR dX8_restOf_1 sh_58 (by decide) f_X8_46 ⟨Nat.le_of_ble_eq_true rfl, Nat.le_of_ble_eq_true rfl, rfl⟩ rfl ?_
  refine go_iload_n dX8_restOf_4 rfl 1 rfl ?_
  have hb1 := h.1
  have h := h.2
  refine go_iald dX8_restOf_5 sh_71 (by decide) hb1 rfl ?_
  refine go_iconst dX8_restOf_6 (v := (-1 : Int32)) (by decide) ?_
  refine go_icmp_ne (tgt := 13) dX8_restOf_7 (by decide) (fun c2 => ?_) (fun c2 => ?_)
  · have h := h.1 c2
    refine go_aload_n dX8_restOf_13 rfl 0 rfl ?_
    refine go_aload_n dX8_restOf_14 rfl 0 rfl ?_
    refine go_getR dX8_restOf_15 sh_58 (by decide) f_X8_34 ⟨Nat.le_of_ble_eq_true rfl, Nat.le_of_ble_eq_true rfl, rfl⟩ rfl ?_
    refine go_iconst dX8_restOf_18 (v := (0 : Int32)) (by decide) ?_
    refine go_iald dX8_restOf_19 sh_67 (by decide) (by unfold vp_in; decide) (j := 0) (by decide) ?_
    refine go_aload_n dX8_restOf_20 rfl 0 rfl ?_
    refine go_getR dX8_restOf_21 sh_58 (by decide) f_X8_46 ⟨Nat.le_of_ble_eq_true rfl, Nat.le_of_ble_eq_true rfl, rfl⟩ rfl ?_
    refine go_iload_n dX8_restOf_24 rfl 1 rfl ?_
    refine go_iald dX8_restOf_25 sh_71 (by decide) hb1 rfl ?_
    refine go_vcall (Z := Y_X8_freeAhead) (As := [.int (I 67 0), .int (I 71 (nn a1))]) (S := []) dX8_restOf_26 ok_X8_freeAhead l_X8_186 (by decide) sh_58 (by decide) (Nat.le_of_ble_eq_true rfl) rfl rfl rfl (Nat.le_of_ble_eq_true rfl) h (fun _ I3 _ hq => ?_)
    obtain ⟨rfl, r4, rfl, h⟩ := hq
    show Go G Y_X8_restOf 29 [(0, .ref 58), (1, .int a1)] [.int r4] SH I3 0 0 _
    refine go_istore_n dX8_restOf_29 rfl (Nat.le_of_ble_eq_true rfl) (L2 := [(2, .int r4), (0, .ref 58), (1, .int a1)]) rfl ?_
    refine go_iconst dX8_restOf_30 (v := (0 : Int32)) (by decide) ?_
    refine go_istore_n dX8_restOf_31 rfl (Nat.le_of_ble_eq_true rfl) (L2 := [(3, .int (0 : Int32)), (2, .int r4), (0, .ref 58), (1, .int a1)]) rfl ?_
    exact go_loc [(0, .ref 58), (1, .int a1), (2, .int r4), (3, .int (0 : Int32))] [2, 3, 1, 0] rfl h
  · have h := h.2 c2
    refine go_bipush dX8_restOf_10 (v := (-3 : Int32)) (by decide) ?_
    exact go_iret dX8_restOf_12 rfl rfl (by decide) ⟨rfl, _, rfl, h⟩
set_option maxRecDepth 100000 in
set_option maxHeartbeats 4000000 in
theorem v_X8_restOf_32 {G : CX} {x1 : Int32} {x2 : Int32} {x3 : Int32}  {I : HP} {Q : HP → Int32 → Prop} (h : ((x1 < x3) → (Q I x2)) ∧ ((¬ x1 < x3) → ((vp_in x3 14) ∧ (GI G Y_X8_restOf 32 [(0, .ref 58), (1, .int x1), (2, .int (x2 - (I 69 (nn x3)))), (3, .int (x3 + 1))] I Q)))) : GI G Y_X8_restOf 32 [(0, .ref 58), (1, .int x1), (2, .int x2), (3, .int x3)] I Q := by
  show Go G Y_X8_restOf 32 [(0, .ref 58), (1, .int x1), (2, .int x2), (3, .int x3)] [] SH I 0 0 _
  refine go_iload_n dX8_restOf_32 rfl 3 rfl ?_
  refine go_iload_n dX8_restOf_33 rfl 1 rfl ?_
  refine go_icmp_gt (tgt := 52) dX8_restOf_34 (by decide) (fun c1 => ?_) (fun c1 => ?_)
  · have h := h.1 c1
    refine go_iload_n dX8_restOf_52 rfl 2 rfl ?_
    exact go_iret dX8_restOf_53 rfl rfl (by decide) ⟨rfl, _, rfl, h⟩
  · have h := h.2 c1
    refine go_iload_n dX8_restOf_37 rfl 2 rfl ?_
    refine go_aload_n dX8_restOf_38 rfl 0 rfl ?_
    refine go_getR dX8_restOf_39 sh_58 (by decide) f_X8_40 ⟨Nat.le_of_ble_eq_true rfl, Nat.le_of_ble_eq_true rfl, rfl⟩ rfl ?_
    refine go_iload_n dX8_restOf_42 rfl 3 rfl ?_
    have hb2 := h.1
    have h := h.2
    refine go_iald dX8_restOf_43 sh_69 (by decide) hb2 rfl ?_
    refine go_isub dX8_restOf_44 ?_
    refine go_istore_n dX8_restOf_45 rfl (Nat.le_of_ble_eq_true rfl) (L2 := [(2, .int (x2 - (I 69 (nn x3)))), (0, .ref 58), (1, .int x1), (3, .int x3)]) rfl ?_
    refine go_iinc dX8_restOf_46 3 rfl (v := (x3 + 1)) rfl (Nat.le_of_ble_eq_true rfl) (L2 := [(3, .int (x3 + 1)), (2, .int (x2 - (I 69 (nn x3)))), (0, .ref 58), (1, .int x1)]) rfl ?_
    refine go_goto (tgt := 32) dX8_restOf_49 (by decide) ?_
    exact go_loc [(0, .ref 58), (1, .int x1), (2, .int (x2 - (I 69 (nn x3)))), (3, .int (x3 + 1))] [2, 3, 1, 0] rfl h
set_option maxRecDepth 100000 in
set_option maxHeartbeats 4000000 in
theorem v_X8_rest {G : CX} {a1 : Int32}  {I : HP} {Q : HP → Int32 → Prop} (h : RV G Y_X8_find [.ref 58] I (fun I1 => RZ G Y_X8_isVerse [.ref 58, .int a1] I1 (fun I2 r3 => (((bI r3) = 0) → (Q I2 (-2 : Int32))) ∧ ((¬ (bI r3) = 0) → (RI G Y_X8_restOf [.ref 58, .int a1] I2 (fun I5 r6 => Q I5 r6)))))) : RI G Y_X8_rest [.ref 58, .int a1] I Q := by
  refine ret_of (show plainName RX8 = true by decide) (Nat.le_of_ble_eq_true rfl) ?_
  show Go G Y_X8_rest 0 [(0, .ref 58), (1, .int a1)] [] SH I 0 0 _
  refine go_aload_n dX8_rest_0 rfl 0 rfl ?_
  refine go_vcall (Z := Y_X8_find) (As := []) (S := []) dX8_rest_1 ok_X8_find l_X8_162 (by decide) sh_58 (by decide) (Nat.le_of_ble_eq_true rfl) rfl rfl rfl (Nat.le_of_ble_eq_true rfl) h (fun _ I1 _ hq => ?_)
  obtain ⟨rfl, rfl, h⟩ := hq
  show Go G Y_X8_rest 4 [(0, .ref 58), (1, .int a1)] [] SH I1 0 0 _
  refine go_aload_n dX8_rest_4 rfl 0 rfl ?_
  refine go_iload_n dX8_rest_5 rfl 1 rfl ?_
  refine go_vcall (Z := Y_X8_isVerse) (As := [.int a1]) (S := []) dX8_rest_6 ok_X8_isVerse l_X8_165 (by decide) sh_58 (by decide) (Nat.le_of_ble_eq_true rfl) rfl rfl rfl (Nat.le_of_ble_eq_true rfl) h (fun _ I2 _ hq => ?_)
  obtain ⟨rfl, r3, rfl, h⟩ := hq
  show Go G Y_X8_rest 9 [(0, .ref 58), (1, .int a1)] [.int (bI r3)] SH I2 0 0 _
  refine go_if_eq (tgt := 20) dX8_rest_9 (by decide) (fun c4 => ?_) (fun c4 => ?_)
  · have h := h.1 c4
    refine go_bipush dX8_rest_20 (v := (-2 : Int32)) (by decide) ?_
    exact go_iret dX8_rest_22 rfl rfl (by decide) ⟨rfl, _, rfl, h⟩
  · have h := h.2 c4
    refine go_aload_n dX8_rest_12 rfl 0 rfl ?_
    refine go_iload_n dX8_rest_13 rfl 1 rfl ?_
    refine go_vcall (Z := Y_X8_restOf) (As := [.int a1]) (S := []) dX8_rest_14 ok_X8_restOf l_X8_189 (by decide) sh_58 (by decide) (Nat.le_of_ble_eq_true rfl) rfl rfl rfl (Nat.le_of_ble_eq_true rfl) h (fun _ I5 _ hq => ?_)
    obtain ⟨rfl, r6, rfl, h⟩ := hq
    show Go G Y_X8_rest 17 [(0, .ref 58), (1, .int a1)] [.int r6] SH I5 0 0 _
    refine go_goto (tgt := 22) dX8_rest_17 (by decide) ?_
    exact go_iret dX8_rest_22 rfl rfl (by decide) ⟨rfl, _, rfl, h⟩
set_option maxRecDepth 100000 in
set_option maxHeartbeats 4000000 in
theorem v_X8_makesIn {G : CX} {a1 : Int32} {a2 : Int32}  {I : HP} {Q : HP → Int32 → Prop} (h : RZ G Y_X8_isFree [.ref 58, .int a2] I (fun I1 r2 => ((¬ (bI r2) = 0) → (RI G Y_X8_freeAhead [.ref 58, .int a1, .int a2] I1 (fun I4 r5 => GI G Y_X8_makesIn 20 [(0, .ref 58), (3, .int r5), (4, .int (0 : Int32))] I4 Q))) ∧ (((bI r2) = 0) → (Q I1 (-1 : Int32))))) : RI G Y_X8_makesIn [.ref 58, .int a1, .int a2] I Q := by
  refine ret_of (show plainName RX8 = true by decide) (Nat.le_of_ble_eq_true rfl) ?_
  show Go G Y_X8_makesIn 0 [(0, .ref 58), (1, .int a1), (2, .int a2)] [] SH I 0 0 _
  refine go_aload_n dX8_makesIn_0 rfl 0 rfl ?_
  refine go_iload_n dX8_makesIn_1 rfl 2 rfl ?_
  refine go_vcall (Z := Y_X8_isFree) (As := [.int a2]) (S := []) dX8_makesIn_2 ok_X8_isFree l_X8_183 (by decide) sh_58 (by decide) (Nat.le_of_ble_eq_true rfl) rfl rfl rfl (Nat.le_of_ble_eq_true rfl) h (fun _ I1 _ hq => ?_)
  obtain ⟨rfl, r2, rfl, h⟩ := hq
  show Go G Y_X8_makesIn 5 [(0, .ref 58), (1, .int a1), (2, .int a2)] [.int (bI r2)] SH I1 0 0 _
  refine go_if_ne (tgt := 10) dX8_makesIn_5 (by decide) (fun c3 => ?_) (fun c3 => ?_)
  · have h := h.1 c3
    refine go_aload_n dX8_makesIn_10 rfl 0 rfl ?_
    refine go_iload_n dX8_makesIn_11 rfl 1 rfl ?_
    refine go_iload_n dX8_makesIn_12 rfl 2 rfl ?_
    refine go_vcall (Z := Y_X8_freeAhead) (As := [.int a1, .int a2]) (S := []) dX8_makesIn_13 ok_X8_freeAhead l_X8_186 (by decide) sh_58 (by decide) (Nat.le_of_ble_eq_true rfl) rfl rfl rfl (Nat.le_of_ble_eq_true rfl) h (fun _ I4 _ hq => ?_)
    obtain ⟨rfl, r5, rfl, h⟩ := hq
    show Go G Y_X8_makesIn 16 [(0, .ref 58), (1, .int a1), (2, .int a2)] [.int r5] SH I4 0 0 _
    refine go_istore_n dX8_makesIn_16 rfl (Nat.le_of_ble_eq_true rfl) (L2 := [(3, .int r5), (0, .ref 58), (1, .int a1), (2, .int a2)]) rfl ?_
    refine go_iconst dX8_makesIn_17 (v := (0 : Int32)) (by decide) ?_
    refine go_istore dX8_makesIn_18 (Nat.le_of_ble_eq_true rfl) (L2 := [(4, .int (0 : Int32)), (3, .int r5), (0, .ref 58), (1, .int a1), (2, .int a2)]) rfl ?_
    exact go_loc [(0, .ref 58), (3, .int r5), (4, .int (0 : Int32))] [2, 1, 0] rfl h
  · have h := h.2 c3
    refine go_iconst dX8_makesIn_8 (v := (-1 : Int32)) (by decide) ?_
    exact go_iret dX8_makesIn_9 rfl rfl (by decide) ⟨rfl, _, rfl, h⟩
set_option maxRecDepth 100000 in
set_option maxHeartbeats 4000000 in
theorem v_X8_makesIn_20 {G : CX} {x3 : Int32} {x4 : Int32}  {I : HP} {Q : HP → Int32 → Prop} (h : (((I 58 11) ≤ x4) → (Q I (-1 : Int32))) ∧ ((¬ (I 58 11) ≤ x4) → ((vp_in x4 14) ∧ (((0 ≤ (x3 - (I 69 (nn x4)))) → (GI G Y_X8_makesIn 20 [(0, .ref 58), (3, .int (x3 - (I 69 (nn x4)))), (4, .int (x4 + 1))] I Q)) ∧ ((¬ 0 ≤ (x3 - (I 69 (nn x4)))) → (Q I x4)))))) : GI G Y_X8_makesIn 20 [(0, .ref 58), (3, .int x3), (4, .int x4)] I Q := by
  show Go G Y_X8_makesIn 20 [(0, .ref 58), (3, .int x3), (4, .int x4)] [] SH I 0 0 _
  refine go_iload dX8_makesIn_20 2 rfl ?_
  refine go_aload_n dX8_makesIn_22 rfl 0 rfl ?_
  refine go_getI dX8_makesIn_23 sh_58 (by decide) f_X8_128 ⟨Nat.le_of_ble_eq_true rfl, Nat.le_of_ble_eq_true rfl, rfl⟩ ?_
  refine go_icmp_ge (tgt := 52) dX8_makesIn_26 (by decide) (fun c1 => ?_) (fun c1 => ?_)
  · have h := h.1 c1
    refine go_iconst dX8_makesIn_52 (v := (-1 : Int32)) (by decide) ?_
    exact go_iret dX8_makesIn_53 rfl rfl (by decide) ⟨rfl, _, rfl, h⟩
  · have h := h.2 c1
    refine go_iload_n dX8_makesIn_29 rfl 1 rfl ?_
    refine go_aload_n dX8_makesIn_30 rfl 0 rfl ?_
    refine go_getR dX8_makesIn_31 sh_58 (by decide) f_X8_40 ⟨Nat.le_of_ble_eq_true rfl, Nat.le_of_ble_eq_true rfl, rfl⟩ rfl ?_
    refine go_iload dX8_makesIn_34 2 rfl ?_
    have hb2 := h.1
    have h := h.2
    refine go_iald dX8_makesIn_36 sh_69 (by decide) hb2 rfl ?_
    refine go_isub dX8_makesIn_37 ?_
    refine go_istore_n dX8_makesIn_38 rfl (Nat.le_of_ble_eq_true rfl) (L2 := [(3, .int (x3 - (I 69 (nn x4)))), (0, .ref 58), (4, .int x4)]) rfl ?_
    refine go_iload_n dX8_makesIn_39 rfl 0 rfl ?_
    refine go_if_ge (tgt := 46) dX8_makesIn_40 (by decide) (fun c3 => ?_) (fun c3 => ?_)
    · have h := h.1 c3
      refine go_iinc dX8_makesIn_46 2 rfl (v := (x4 + 1)) rfl (Nat.le_of_ble_eq_true rfl) (L2 := [(4, .int (x4 + 1)), (3, .int (x3 - (I 69 (nn x4)))), (0, .ref 58)]) rfl ?_
      refine go_goto (tgt := 20) dX8_makesIn_49 (by decide) ?_
      exact go_loc [(0, .ref 58), (3, .int (x3 - (I 69 (nn x4)))), (4, .int (x4 + 1))] [2, 1, 0] rfl h
    · have h := h.2 c3
      refine go_iload dX8_makesIn_43 2 rfl ?_
      exact go_iret dX8_makesIn_45 rfl rfl (by decide) ⟨rfl, _, rfl, h⟩
set_option maxRecDepth 100000 in
set_option maxHeartbeats 4000000 in
theorem v_X8_saysIn {G : CX} {a1 : Int32}  {I : HP} {Q : HP → Int32 → Prop} (h : GI G Y_X8_saysIn 2 [(0, .ref 58), (1, .int a1), (2, .int (0 : Int32))] I Q) : RI G Y_X8_saysIn [.ref 58, .int a1] I Q := by
  refine ret_of (show plainName RX8 = true by decide) (Nat.le_of_ble_eq_true rfl) ?_
  show Go G Y_X8_saysIn 0 [(0, .ref 58), (1, .int a1)] [] SH I 0 0 _
  refine go_iconst dX8_saysIn_0 (v := (0 : Int32)) (by decide) ?_
  refine go_istore_n dX8_saysIn_1 rfl (Nat.le_of_ble_eq_true rfl) (L2 := [(2, .int (0 : Int32)), (0, .ref 58), (1, .int a1)]) rfl ?_
  exact go_loc [(0, .ref 58), (1, .int a1), (2, .int (0 : Int32))] [1, 2, 0] rfl h
set_option maxRecDepth 100000 in
set_option maxHeartbeats 4000000 in
theorem v_X8_saysIn_2 {G : CX} {x1 : Int32} {x2 : Int32}  {I : HP} {Q : HP → Int32 → Prop} (h : (((I 58 11) ≤ x2) → (Q I (-1 : Int32))) ∧ ((¬ (I 58 11) ≤ x2) → ((vp_in x2 14) ∧ ((((I 71 (nn x2)) = (-1 : Int32)) → (GI G Y_X8_saysIn 2 [(0, .ref 58), (1, .int x1), (2, .int (x2 + 1))] I Q)) ∧ ((¬ (I 71 (nn x2)) = (-1 : Int32)) → (((x1 < (I 71 (nn x2))) → (GI G Y_X8_saysIn 2 [(0, .ref 58), (1, .int x1), (2, .int (x2 + 1))] I Q)) ∧ ((¬ x1 < (I 71 (nn x2))) → ((((I 72 (nn x2)) ≤ x1) → (GI G Y_X8_saysIn 2 [(0, .ref 58), (1, .int x1), (2, .int (x2 + 1))] I Q)) ∧ ((¬ (I 72 (nn x2)) ≤ x1) → (Q I x2)))))))))) : GI G Y_X8_saysIn 2 [(0, .ref 58), (1, .int x1), (2, .int x2)] I Q := by
  show Go G Y_X8_saysIn 2 [(0, .ref 58), (1, .int x1), (2, .int x2)] [] SH I 0 0 _
  refine go_iload_n dX8_saysIn_2 rfl 2 rfl ?_
  refine go_aload_n dX8_saysIn_3 rfl 0 rfl ?_
  refine go_getI dX8_saysIn_4 sh_58 (by decide) f_X8_128 ⟨Nat.le_of_ble_eq_true rfl, Nat.le_of_ble_eq_true rfl, rfl⟩ ?_
  refine go_icmp_ge (tgt := 48) dX8_saysIn_7 (by decide) (fun c1 => ?_) (fun c1 => ?_)
  · have h := h.1 c1
    refine go_iconst dX8_saysIn_48 (v := (-1 : Int32)) (by decide) ?_
    exact go_iret dX8_saysIn_49 rfl rfl (by decide) ⟨rfl, _, rfl, h⟩
  · have h := h.2 c1
    refine go_aload_n dX8_saysIn_10 rfl 0 rfl ?_
    refine go_getR dX8_saysIn_11 sh_58 (by decide) f_X8_46 ⟨Nat.le_of_ble_eq_true rfl, Nat.le_of_ble_eq_true rfl, rfl⟩ rfl ?_
    refine go_iload_n dX8_saysIn_14 rfl 2 rfl ?_
    have hb2 := h.1
    have h := h.2
    refine go_iald dX8_saysIn_15 sh_71 (by decide) hb2 rfl ?_
    refine go_iconst dX8_saysIn_16 (v := (-1 : Int32)) (by decide) ?_
    refine go_icmp_eq (tgt := 42) dX8_saysIn_17 (by decide) (fun c3 => ?_) (fun c3 => ?_)
    · have h := h.1 c3
      refine go_iinc dX8_saysIn_42 2 rfl (v := (x2 + 1)) rfl (Nat.le_of_ble_eq_true rfl) (L2 := [(2, .int (x2 + 1)), (0, .ref 58), (1, .int x1)]) rfl ?_
      refine go_goto (tgt := 2) dX8_saysIn_45 (by decide) ?_
      exact go_loc [(0, .ref 58), (1, .int x1), (2, .int (x2 + 1))] [1, 2, 0] rfl h
    · have h := h.2 c3
      refine go_iload_n dX8_saysIn_20 rfl 1 rfl ?_
      refine go_aload_n dX8_saysIn_21 rfl 0 rfl ?_
      refine go_getR dX8_saysIn_22 sh_58 (by decide) f_X8_46 ⟨Nat.le_of_ble_eq_true rfl, Nat.le_of_ble_eq_true rfl, rfl⟩ rfl ?_
      refine go_iload_n dX8_saysIn_25 rfl 2 rfl ?_
      refine go_iald dX8_saysIn_26 sh_71 (by decide) hb2 rfl ?_
      refine go_icmp_lt (tgt := 42) dX8_saysIn_27 (by decide) (fun c4 => ?_) (fun c4 => ?_)
      · have h := h.1 c4
        refine go_iinc dX8_saysIn_42 2 rfl (v := (x2 + 1)) rfl (Nat.le_of_ble_eq_true rfl) (L2 := [(2, .int (x2 + 1)), (0, .ref 58), (1, .int x1)]) rfl ?_
        refine go_goto (tgt := 2) dX8_saysIn_45 (by decide) ?_
        exact go_loc [(0, .ref 58), (1, .int x1), (2, .int (x2 + 1))] [1, 2, 0] rfl h
      · have h := h.2 c4
        refine go_iload_n dX8_saysIn_30 rfl 1 rfl ?_
        refine go_aload_n dX8_saysIn_31 rfl 0 rfl ?_
        refine go_getR dX8_saysIn_32 sh_58 (by decide) f_X8_49 ⟨Nat.le_of_ble_eq_true rfl, Nat.le_of_ble_eq_true rfl, rfl⟩ rfl ?_
        refine go_iload_n dX8_saysIn_35 rfl 2 rfl ?_
        refine go_iald dX8_saysIn_36 sh_72 (by decide) hb2 rfl ?_
        refine go_icmp_ge (tgt := 42) dX8_saysIn_37 (by decide) (fun c5 => ?_) (fun c5 => ?_)
        · have h := h.1 c5
          refine go_iinc dX8_saysIn_42 2 rfl (v := (x2 + 1)) rfl (Nat.le_of_ble_eq_true rfl) (L2 := [(2, .int (x2 + 1)), (0, .ref 58), (1, .int x1)]) rfl ?_
          refine go_goto (tgt := 2) dX8_saysIn_45 (by decide) ?_
          exact go_loc [(0, .ref 58), (1, .int x1), (2, .int (x2 + 1))] [1, 2, 0] rfl h
        · have h := h.2 c5
          refine go_iload_n dX8_saysIn_40 rfl 2 rfl ?_
          exact go_iret dX8_saysIn_41 rfl rfl (by decide) ⟨rfl, _, rfl, h⟩
set_option maxRecDepth 100000 in
set_option maxHeartbeats 4000000 in
theorem v_X8_hasIn {G : CX} {a1 : Int32}  {I : HP} {Q : HP → Int32 → Prop} (h : GI G Y_X8_hasIn 2 [(0, .ref 58), (1, .int a1), (2, .int (0 : Int32))] I Q) : RI G Y_X8_hasIn [.ref 58, .int a1] I Q := by
  refine ret_of (show plainName RX8 = true by decide) (Nat.le_of_ble_eq_true rfl) ?_
  show Go G Y_X8_hasIn 0 [(0, .ref 58), (1, .int a1)] [] SH I 0 0 _
  refine go_iconst dX8_hasIn_0 (v := (0 : Int32)) (by decide) ?_
  refine go_istore_n dX8_hasIn_1 rfl (Nat.le_of_ble_eq_true rfl) (L2 := [(2, .int (0 : Int32)), (0, .ref 58), (1, .int a1)]) rfl ?_
  exact go_loc [(0, .ref 58), (1, .int a1), (2, .int (0 : Int32))] [1, 2, 0] rfl h
set_option maxRecDepth 100000 in
set_option maxHeartbeats 4000000 in
theorem v_X8_hasIn_2 {G : CX} {x1 : Int32} {x2 : Int32}  {I : HP} {Q : HP → Int32 → Prop} (h : (((I 58 11) ≤ x2) → (Q I (-1 : Int32))) ∧ ((¬ (I 58 11) ≤ x2) → ((vp_in x2 14) ∧ (((¬ (I 74 (nn x2)) = (-1 : Int32)) → ((((I 71 (nn x2)) = (-1 : Int32)) → (GI G Y_X8_hasIn 2 [(0, .ref 58), (1, .int x1), (2, .int (x2 + 1))] I Q)) ∧ ((¬ (I 71 (nn x2)) = (-1 : Int32)) → (((x1 < (I 72 (nn x2))) → (GI G Y_X8_hasIn 2 [(0, .ref 58), (1, .int x1), (2, .int (x2 + 1))] I Q)) ∧ ((¬ x1 < (I 72 (nn x2))) → ((((I 74 (nn x2)) ≤ x1) → (GI G Y_X8_hasIn 2 [(0, .ref 58), (1, .int x1), (2, .int (x2 + 1))] I Q)) ∧ ((¬ (I 74 (nn x2)) ≤ x1) → (Q I x2)))))))) ∧ (((I 74 (nn x2)) = (-1 : Int32)) → ((((I 71 (nn x2)) = (-1 : Int32)) → (GI G Y_X8_hasIn 2 [(0, .ref 58), (1, .int x1), (2, .int (x2 + 1))] I Q)) ∧ ((¬ (I 71 (nn x2)) = (-1 : Int32)) → (((x1 < (I 72 (nn x2))) → (GI G Y_X8_hasIn 2 [(0, .ref 58), (1, .int x1), (2, .int (x2 + 1))] I Q)) ∧ ((¬ x1 < (I 72 (nn x2))) → ((((I 73 (nn x2)) ≤ x1) → (GI G Y_X8_hasIn 2 [(0, .ref 58), (1, .int x1), (2, .int (x2 + 1))] I Q)) ∧ ((¬ (I 73 (nn x2)) ≤ x1) → (Q I x2)))))))))))) : GI G Y_X8_hasIn 2 [(0, .ref 58), (1, .int x1), (2, .int x2)] I Q := by
  show Go G Y_X8_hasIn 2 [(0, .ref 58), (1, .int x1), (2, .int x2)] [] SH I 0 0 _
  refine go_iload_n dX8_hasIn_2 rfl 2 rfl ?_
  refine go_aload_n dX8_hasIn_3 rfl 0 rfl ?_
  refine go_getI dX8_hasIn_4 sh_58 (by decide) f_X8_128 ⟨Nat.le_of_ble_eq_true rfl, Nat.le_of_ble_eq_true rfl, rfl⟩ ?_
  refine go_icmp_ge (tgt := 69) dX8_hasIn_7 (by decide) (fun c1 => ?_) (fun c1 => ?_)
  · have h := h.1 c1
    refine go_iconst dX8_hasIn_69 (v := (-1 : Int32)) (by decide) ?_
    exact go_iret dX8_hasIn_70 rfl rfl (by decide) ⟨rfl, _, rfl, h⟩
  · have h := h.2 c1
    refine go_aload_n dX8_hasIn_10 rfl 0 rfl ?_
    refine go_getR dX8_hasIn_11 sh_58 (by decide) f_X8_55 ⟨Nat.le_of_ble_eq_true rfl, Nat.le_of_ble_eq_true rfl, rfl⟩ rfl ?_
    refine go_iload_n dX8_hasIn_14 rfl 2 rfl ?_
    have hb2 := h.1
    have h := h.2
    refine go_iald dX8_hasIn_15 sh_74 (by decide) hb2 rfl ?_
    refine go_iconst dX8_hasIn_16 (v := (-1 : Int32)) (by decide) ?_
    refine go_icmp_ne (tgt := 29) dX8_hasIn_17 (by decide) (fun c3 => ?_) (fun c3 => ?_)
    · have h := h.1 c3
      refine go_aload_n dX8_hasIn_29 rfl 0 rfl ?_
      refine go_getR dX8_hasIn_30 sh_58 (by decide) f_X8_55 ⟨Nat.le_of_ble_eq_true rfl, Nat.le_of_ble_eq_true rfl, rfl⟩ rfl ?_
      refine go_iload_n dX8_hasIn_33 rfl 2 rfl ?_
      refine go_iald dX8_hasIn_34 sh_74 (by decide) hb2 rfl ?_
      refine go_istore_n dX8_hasIn_35 rfl (Nat.le_of_ble_eq_true rfl) (L2 := [(3, .int (I 74 (nn x2))), (0, .ref 58), (1, .int x1), (2, .int x2)]) rfl ?_
      refine go_aload_n dX8_hasIn_36 rfl 1 rfl ?_
      refine go_getR dX8_hasIn_37 sh_58 (by decide) f_X8_46 ⟨Nat.le_of_ble_eq_true rfl, Nat.le_of_ble_eq_true rfl, rfl⟩ rfl ?_
      refine go_iload_n dX8_hasIn_40 rfl 3 rfl ?_
      refine go_iald dX8_hasIn_41 sh_71 (by decide) hb2 rfl ?_
      refine go_iconst dX8_hasIn_42 (v := (-1 : Int32)) (by decide) ?_
      refine go_icmp_eq (tgt := 63) dX8_hasIn_43 (by decide) (fun c4 => ?_) (fun c4 => ?_)
      · have h := h.1 c4
        refine go_iinc dX8_hasIn_63 3 rfl (v := (x2 + 1)) rfl (Nat.le_of_ble_eq_true rfl) (L2 := [(2, .int (x2 + 1)), (3, .int (I 74 (nn x2))), (0, .ref 58), (1, .int x1)]) rfl ?_
        refine go_goto (tgt := 2) dX8_hasIn_66 (by decide) ?_
        exact go_loc [(0, .ref 58), (1, .int x1), (2, .int (x2 + 1))] [2, 3, 0] rfl h
      · have h := h.2 c4
        refine go_iload_n dX8_hasIn_46 rfl 2 rfl ?_
        refine go_aload_n dX8_hasIn_47 rfl 1 rfl ?_
        refine go_getR dX8_hasIn_48 sh_58 (by decide) f_X8_49 ⟨Nat.le_of_ble_eq_true rfl, Nat.le_of_ble_eq_true rfl, rfl⟩ rfl ?_
        refine go_iload_n dX8_hasIn_51 rfl 3 rfl ?_
        refine go_iald dX8_hasIn_52 sh_72 (by decide) hb2 rfl ?_
        refine go_icmp_lt (tgt := 63) dX8_hasIn_53 (by decide) (fun c5 => ?_) (fun c5 => ?_)
        · have h := h.1 c5
          refine go_iinc dX8_hasIn_63 3 rfl (v := (x2 + 1)) rfl (Nat.le_of_ble_eq_true rfl) (L2 := [(2, .int (x2 + 1)), (3, .int (I 74 (nn x2))), (0, .ref 58), (1, .int x1)]) rfl ?_
          refine go_goto (tgt := 2) dX8_hasIn_66 (by decide) ?_
          exact go_loc [(0, .ref 58), (1, .int x1), (2, .int (x2 + 1))] [2, 3, 0] rfl h
        · have h := h.2 c5
          refine go_iload_n dX8_hasIn_56 rfl 2 rfl ?_
          refine go_iload_n dX8_hasIn_57 rfl 0 rfl ?_
          refine go_icmp_ge (tgt := 63) dX8_hasIn_58 (by decide) (fun c6 => ?_) (fun c6 => ?_)
          · have h := h.1 c6
            refine go_iinc dX8_hasIn_63 3 rfl (v := (x2 + 1)) rfl (Nat.le_of_ble_eq_true rfl) (L2 := [(2, .int (x2 + 1)), (3, .int (I 74 (nn x2))), (0, .ref 58), (1, .int x1)]) rfl ?_
            refine go_goto (tgt := 2) dX8_hasIn_66 (by decide) ?_
            exact go_loc [(0, .ref 58), (1, .int x1), (2, .int (x2 + 1))] [2, 3, 0] rfl h
          · have h := h.2 c6
            refine go_iload_n dX8_hasIn_61 rfl 3 rfl ?_
            exact go_iret dX8_hasIn_62 rfl rfl (by decide) ⟨rfl, _, rfl, h⟩
    · have h := h.2 c3
      refine go_aload_n dX8_hasIn_20 rfl 0 rfl ?_
      refine go_getR dX8_hasIn_21 sh_58 (by decide) f_X8_52 ⟨Nat.le_of_ble_eq_true rfl, Nat.le_of_ble_eq_true rfl, rfl⟩ rfl ?_
      refine go_iload_n dX8_hasIn_24 rfl 2 rfl ?_
      refine go_iald dX8_hasIn_25 sh_73 (by decide) hb2 rfl ?_
      refine go_goto (tgt := 35) dX8_hasIn_26 (by decide) ?_
      refine go_istore_n dX8_hasIn_35 rfl (Nat.le_of_ble_eq_true rfl) (L2 := [(3, .int (I 73 (nn x2))), (0, .ref 58), (1, .int x1), (2, .int x2)]) rfl ?_
      refine go_aload_n dX8_hasIn_36 rfl 1 rfl ?_
      refine go_getR dX8_hasIn_37 sh_58 (by decide) f_X8_46 ⟨Nat.le_of_ble_eq_true rfl, Nat.le_of_ble_eq_true rfl, rfl⟩ rfl ?_
      refine go_iload_n dX8_hasIn_40 rfl 3 rfl ?_
      refine go_iald dX8_hasIn_41 sh_71 (by decide) hb2 rfl ?_
      refine go_iconst dX8_hasIn_42 (v := (-1 : Int32)) (by decide) ?_
      refine go_icmp_eq (tgt := 63) dX8_hasIn_43 (by decide) (fun c7 => ?_) (fun c7 => ?_)
      · have h := h.1 c7
        refine go_iinc dX8_hasIn_63 3 rfl (v := (x2 + 1)) rfl (Nat.le_of_ble_eq_true rfl) (L2 := [(2, .int (x2 + 1)), (3, .int (I 73 (nn x2))), (0, .ref 58), (1, .int x1)]) rfl ?_
        refine go_goto (tgt := 2) dX8_hasIn_66 (by decide) ?_
        exact go_loc [(0, .ref 58), (1, .int x1), (2, .int (x2 + 1))] [2, 3, 0] rfl h
      · have h := h.2 c7
        refine go_iload_n dX8_hasIn_46 rfl 2 rfl ?_
        refine go_aload_n dX8_hasIn_47 rfl 1 rfl ?_
        refine go_getR dX8_hasIn_48 sh_58 (by decide) f_X8_49 ⟨Nat.le_of_ble_eq_true rfl, Nat.le_of_ble_eq_true rfl, rfl⟩ rfl ?_
        refine go_iload_n dX8_hasIn_51 rfl 3 rfl ?_
        refine go_iald dX8_hasIn_52 sh_72 (by decide) hb2 rfl ?_
        refine go_icmp_lt (tgt := 63) dX8_hasIn_53 (by decide) (fun c8 => ?_) (fun c8 => ?_)
        · have h := h.1 c8
          refine go_iinc dX8_hasIn_63 3 rfl (v := (x2 + 1)) rfl (Nat.le_of_ble_eq_true rfl) (L2 := [(2, .int (x2 + 1)), (3, .int (I 73 (nn x2))), (0, .ref 58), (1, .int x1)]) rfl ?_
          refine go_goto (tgt := 2) dX8_hasIn_66 (by decide) ?_
          exact go_loc [(0, .ref 58), (1, .int x1), (2, .int (x2 + 1))] [2, 3, 0] rfl h
        · have h := h.2 c8
          refine go_iload_n dX8_hasIn_56 rfl 2 rfl ?_
          refine go_iload_n dX8_hasIn_57 rfl 0 rfl ?_
          refine go_icmp_ge (tgt := 63) dX8_hasIn_58 (by decide) (fun c9 => ?_) (fun c9 => ?_)
          · have h := h.1 c9
            refine go_iinc dX8_hasIn_63 3 rfl (v := (x2 + 1)) rfl (Nat.le_of_ble_eq_true rfl) (L2 := [(2, .int (x2 + 1)), (3, .int (I 73 (nn x2))), (0, .ref 58), (1, .int x1)]) rfl ?_
            refine go_goto (tgt := 2) dX8_hasIn_66 (by decide) ?_
            exact go_loc [(0, .ref 58), (1, .int x1), (2, .int (x2 + 1))] [2, 3, 0] rfl h
          · have h := h.2 c9
            refine go_iload_n dX8_hasIn_61 rfl 3 rfl ?_
            exact go_iret dX8_hasIn_62 rfl rfl (by decide) ⟨rfl, _, rfl, h⟩
set_option maxRecDepth 100000 in
set_option maxHeartbeats 4000000 in
theorem v_X8_doingOf {G : CX} {a1 : Int32} {a2 : Int32}  {I : HP} {Q : HP → Int32 → Prop} (h : ((¬ a2 = 0) → (((¬ a2 = (1 : Int32)) → (RI G Y_X8_hasIn [.ref 58, .int a1] I (fun I3 r4 => Q I3 r4))) ∧ ((a2 = (1 : Int32)) → (RI G Y_X8_makesIn [.ref 58, .int (I 67 0), .int a1] I (fun I5 r6 => Q I5 r6))))) ∧ ((a2 = 0) → (RI G Y_X8_saysIn [.ref 58, .int a1] I (fun I7 r8 => Q I7 r8)))) : RI G Y_X8_doingOf [.ref 58, .int a1, .int a2] I Q := by
  refine ret_of (show plainName RX8 = true by decide) (Nat.le_of_ble_eq_true rfl) ?_
  show Go G Y_X8_doingOf 0 [(0, .ref 58), (1, .int a1), (2, .int a2)] [] SH I 0 0 _
  refine go_iload_n dX8_doingOf_0 rfl 2 rfl ?_
  refine go_if_ne (tgt := 12) dX8_doingOf_1 (by decide) (fun c1 => ?_) (fun c1 => ?_)
  · have h := h.1 c1
    refine go_iload_n dX8_doingOf_12 rfl 2 rfl ?_
    refine go_iconst dX8_doingOf_13 (v := (1 : Int32)) (by decide) ?_
    refine go_icmp_ne (tgt := 31) dX8_doingOf_14 (by decide) (fun c2 => ?_) (fun c2 => ?_)
    · have h := h.1 c2
      refine go_aload_n dX8_doingOf_31 rfl 0 rfl ?_
      refine go_iload_n dX8_doingOf_32 rfl 1 rfl ?_
      refine go_vcall (Z := Y_X8_hasIn) (As := [.int a1]) (S := []) dX8_doingOf_33 ok_X8_hasIn l_X8_198 (by decide) sh_58 (by decide) (Nat.le_of_ble_eq_true rfl) rfl rfl rfl (Nat.le_of_ble_eq_true rfl) h (fun _ I3 _ hq => ?_)
      obtain ⟨rfl, r4, rfl, h⟩ := hq
      show Go G Y_X8_doingOf 36 [(0, .ref 58), (1, .int a1), (2, .int a2)] [.int r4] SH I3 0 0 _
      exact go_iret dX8_doingOf_36 rfl rfl (by decide) ⟨rfl, _, rfl, h⟩
    · have h := h.2 c2
      refine go_aload_n dX8_doingOf_17 rfl 0 rfl ?_
      refine go_aload_n dX8_doingOf_18 rfl 0 rfl ?_
      refine go_getR dX8_doingOf_19 sh_58 (by decide) f_X8_34 ⟨Nat.le_of_ble_eq_true rfl, Nat.le_of_ble_eq_true rfl, rfl⟩ rfl ?_
      refine go_iconst dX8_doingOf_22 (v := (0 : Int32)) (by decide) ?_
      refine go_iald dX8_doingOf_23 sh_67 (by decide) (by unfold vp_in; decide) (j := 0) (by decide) ?_
      refine go_iload_n dX8_doingOf_24 rfl 1 rfl ?_
      refine go_vcall (Z := Y_X8_makesIn) (As := [.int (I 67 0), .int a1]) (S := []) dX8_doingOf_25 ok_X8_makesIn l_X8_195 (by decide) sh_58 (by decide) (Nat.le_of_ble_eq_true rfl) rfl rfl rfl (Nat.le_of_ble_eq_true rfl) h (fun _ I5 _ hq => ?_)
      obtain ⟨rfl, r6, rfl, h⟩ := hq
      show Go G Y_X8_doingOf 28 [(0, .ref 58), (1, .int a1), (2, .int a2)] [.int r6] SH I5 0 0 _
      refine go_goto (tgt := 36) dX8_doingOf_28 (by decide) ?_
      exact go_iret dX8_doingOf_36 rfl rfl (by decide) ⟨rfl, _, rfl, h⟩
  · have h := h.2 c1
    refine go_aload_n dX8_doingOf_4 rfl 0 rfl ?_
    refine go_iload_n dX8_doingOf_5 rfl 1 rfl ?_
    refine go_vcall (Z := Y_X8_saysIn) (As := [.int a1]) (S := []) dX8_doingOf_6 ok_X8_saysIn l_X8_192 (by decide) sh_58 (by decide) (Nat.le_of_ble_eq_true rfl) rfl rfl rfl (Nat.le_of_ble_eq_true rfl) h (fun _ I7 _ hq => ?_)
    obtain ⟨rfl, r8, rfl, h⟩ := hq
    show Go G Y_X8_doingOf 9 [(0, .ref 58), (1, .int a1), (2, .int a2)] [.int r8] SH I7 0 0 _
    refine go_goto (tgt := 36) dX8_doingOf_9 (by decide) ?_
    exact go_iret dX8_doingOf_36 rfl rfl (by decide) ⟨rfl, _, rfl, h⟩
set_option maxRecDepth 100000 in
set_option maxHeartbeats 4000000 in
theorem v_X8_doing {G : CX} {a1 : Int32} {a2 : Int32}  {I : HP} {Q : HP → Int32 → Prop} (h : RV G Y_X8_find [.ref 58] I (fun I1 => RZ G Y_X8_in [.long (a1.toInt64), .long (0 : Int64), .long (299 : Int64)] I1 (fun I2 r3 => (((bI r3) = 0) → (Q I2 (-2 : Int32))) ∧ ((¬ (bI r3) = 0) → (RZ G Y_X8_in [.long (a2.toInt64), .long (0 : Int64), .long (2 : Int64)] I2 (fun I5 r6 => (((bI r6) = 0) → (Q I5 (-2 : Int32))) ∧ ((¬ (bI r6) = 0) → (RI G Y_X8_doingOf [.ref 58, .int a1, .int a2] I5 (fun I8 r9 => Q I8 r9))))))))) : RI G Y_X8_doing [.ref 58, .int a1, .int a2] I Q := by
  refine ret_of (show plainName RX8 = true by decide) (Nat.le_of_ble_eq_true rfl) ?_
  show Go G Y_X8_doing 0 [(0, .ref 58), (1, .int a1), (2, .int a2)] [] SH I 0 0 _
  refine go_aload_n dX8_doing_0 rfl 0 rfl ?_
  refine go_vcall (Z := Y_X8_find) (As := []) (S := []) dX8_doing_1 ok_X8_find l_X8_162 (by decide) sh_58 (by decide) (Nat.le_of_ble_eq_true rfl) rfl rfl rfl (Nat.le_of_ble_eq_true rfl) h (fun _ I1 _ hq => ?_)
  obtain ⟨rfl, rfl, h⟩ := hq
  show Go G Y_X8_doing 4 [(0, .ref 58), (1, .int a1), (2, .int a2)] [] SH I1 0 0 _
  refine go_iload_n dX8_doing_4 rfl 1 rfl ?_
  refine go_i2l dX8_doing_5 ?_
  refine go_lconst dX8_doing_6 (v := (0 : Int64)) (by decide) ?_
  refine go_ldc2 dX8_doing_7 k_X8_201 ?_
  refine go_scall (Z := Y_X8_in) (As := [.long (a1.toInt64), .long (0 : Int64), .long (299 : Int64)]) (S := []) dX8_doing_10 ok_X8_in l_X8_72 (by decide) rfl rfl (Nat.le_of_ble_eq_true rfl) h (fun _ I2 _ hq => ?_)
  obtain ⟨rfl, r3, rfl, h⟩ := hq
  show Go G Y_X8_doing 13 [(0, .ref 58), (1, .int a1), (2, .int a2)] [.int (bI r3)] SH I2 0 0 _
  refine go_if_eq (tgt := 37) dX8_doing_13 (by decide) (fun c4 => ?_) (fun c4 => ?_)
  · have h := h.1 c4
    refine go_bipush dX8_doing_37 (v := (-2 : Int32)) (by decide) ?_
    exact go_iret dX8_doing_39 rfl rfl (by decide) ⟨rfl, _, rfl, h⟩
  · have h := h.2 c4
    refine go_iload_n dX8_doing_16 rfl 2 rfl ?_
    refine go_i2l dX8_doing_17 ?_
    refine go_lconst dX8_doing_18 (v := (0 : Int64)) (by decide) ?_
    refine go_ldc2 dX8_doing_19 k_X8_86 ?_
    refine go_scall (Z := Y_X8_in) (As := [.long (a2.toInt64), .long (0 : Int64), .long (2 : Int64)]) (S := []) dX8_doing_22 ok_X8_in l_X8_72 (by decide) rfl rfl (Nat.le_of_ble_eq_true rfl) h (fun _ I5 _ hq => ?_)
    obtain ⟨rfl, r6, rfl, h⟩ := hq
    show Go G Y_X8_doing 25 [(0, .ref 58), (1, .int a1), (2, .int a2)] [.int (bI r6)] SH I5 0 0 _
    refine go_if_eq (tgt := 37) dX8_doing_25 (by decide) (fun c7 => ?_) (fun c7 => ?_)
    · have h := h.1 c7
      refine go_bipush dX8_doing_37 (v := (-2 : Int32)) (by decide) ?_
      exact go_iret dX8_doing_39 rfl rfl (by decide) ⟨rfl, _, rfl, h⟩
    · have h := h.2 c7
      refine go_aload_n dX8_doing_28 rfl 0 rfl ?_
      refine go_iload_n dX8_doing_29 rfl 1 rfl ?_
      refine go_iload_n dX8_doing_30 rfl 2 rfl ?_
      refine go_vcall (Z := Y_X8_doingOf) (As := [.int a1, .int a2]) (S := []) dX8_doing_31 ok_X8_doingOf l_X8_203 (by decide) sh_58 (by decide) (Nat.le_of_ble_eq_true rfl) rfl rfl rfl (Nat.le_of_ble_eq_true rfl) h (fun _ I8 _ hq => ?_)
      obtain ⟨rfl, r9, rfl, h⟩ := hq
      show Go G Y_X8_doing 34 [(0, .ref 58), (1, .int a1), (2, .int a2)] [.int r9] SH I8 0 0 _
      refine go_goto (tgt := 39) dX8_doing_34 (by decide) ?_
      exact go_iret dX8_doing_39 rfl rfl (by decide) ⟨rfl, _, rfl, h⟩
set_option maxRecDepth 100000 in
set_option maxHeartbeats 4000000 in
theorem v_X8_lays {G : CX} {a1 : Int32} {a2 : Int32} {a3 : Int32} {a4 : Int32}  {I : HP} {Q : HP → Prop} (h : GV G Y_X8_lays 8 [(0, .ref 58), (1, .int a1), (2, .int a2), (3, .int a3), (4, .int a4), (5, .int (0 : Int32))] (st I 58 11 (0 : Int32)) Q) : RV G Y_X8_lays [.ref 58, .int a1, .int a2, .int a3, .int a4] I Q := by
  refine ret_of (show plainName RX8 = true by decide) (Nat.le_of_ble_eq_true rfl) ?_
  show Go G Y_X8_lays 0 [(0, .ref 58), (1, .int a1), (2, .int a2), (3, .int a3), (4, .int a4)] [] SH I 0 0 _
  refine go_aload_n dX8_lays_0 rfl 0 rfl ?_
  refine go_iconst dX8_lays_1 (v := (0 : Int32)) (by decide) ?_
  refine go_putT dX8_lays_2 sh_58 (by decide) p_X8_128 ⟨Nat.le_of_ble_eq_true rfl, Nat.le_of_ble_eq_true rfl, rfl⟩ rfl rfl ?_
  refine go_iconst dX8_lays_5 (v := (0 : Int32)) (by decide) ?_
  refine go_istore dX8_lays_6 (Nat.le_of_ble_eq_true rfl) (L2 := [(5, .int (0 : Int32)), (0, .ref 58), (1, .int a1), (2, .int a2), (3, .int a3), (4, .int a4)]) rfl ?_
  exact go_loc [(0, .ref 58), (1, .int a1), (2, .int a2), (3, .int a3), (4, .int a4), (5, .int (0 : Int32))] [1, 2, 3, 4, 5, 0] rfl h
set_option maxRecDepth 100000 in
set_option maxHeartbeats 4000000 in
theorem v_X8_lays_8 {G : CX} {x1 : Int32} {x2 : Int32} {x3 : Int32} {x4 : Int32} {x5 : Int32}  {I : HP} {Q : HP → Prop} (h : (((I 65 0) < x5) → (Q I)) ∧ ((¬ (I 65 0) < x5) → (((¬ x5 = x1) → (((¬ x5 = x3) → ((((I 65 0) ≤ x5) → (GV G Y_X8_lays 8 [(0, .ref 58), (1, .int x1), (2, .int x2), (3, .int x3), (4, .int x4), (5, .int (x5 + 1))] I Q)) ∧ ((¬ (I 65 0) ≤ x5) → ((vp_in (I 58 11) 14) ∧ (GV G Y_X8_lays 8 [(0, .ref 58), (1, .int x1), (2, .int x2), (3, .int x3), (4, .int x4), (5, .int (x5 + 1))] (st (st I 68 (nn (I 58 11)) x5) 58 11 (((st I 68 (nn (I 58 11)) x5) 58 11) + (1 : Int32))) Q))))) ∧ ((x5 = x3) → ((vp_in (I 58 11) 14) ∧ (∀ I7 : HP, I7 = (st (st I 68 (nn (I 58 11)) ((12 : Int32) + x4)) 58 11 (((st I 68 (nn (I 58 11)) ((12 : Int32) + x4)) 58 11) + (1 : Int32))) → (((I7 65 0) ≤ x5) → (GV G Y_X8_lays 8 [(0, .ref 58), (1, .int x1), (2, .int x2), (3, .int x3), (4, .int x4), (5, .int (x5 + 1))] I7 Q)) ∧ ((¬ (I7 65 0) ≤ x5) → ((vp_in (I7 58 11) 14) ∧ (GV G Y_X8_lays 8 [(0, .ref 58), (1, .int x1), (2, .int x2), (3, .int x3), (4, .int x4), (5, .int (x5 + 1))] (st (st I7 68 (nn (I7 58 11)) x5) 58 11 (((st I7 68 (nn (I7 58 11)) x5) 58 11) + (1 : Int32))) Q)))))))) ∧ ((x5 = x1) → ((vp_in (I 58 11) 14) ∧ (∀ I11 : HP, I11 = (st (st I 68 (nn (I 58 11)) ((12 : Int32) + x2)) 58 11 (((st I 68 (nn (I 58 11)) ((12 : Int32) + x2)) 58 11) + (1 : Int32))) → ((¬ x5 = x3) → ((((I11 65 0) ≤ x5) → (GV G Y_X8_lays 8 [(0, .ref 58), (1, .int x1), (2, .int x2), (3, .int x3), (4, .int x4), (5, .int (x5 + 1))] I11 Q)) ∧ ((¬ (I11 65 0) ≤ x5) → ((vp_in (I11 58 11) 14) ∧ (GV G Y_X8_lays 8 [(0, .ref 58), (1, .int x1), (2, .int x2), (3, .int x3), (4, .int x4), (5, .int (x5 + 1))] (st (st I11 68 (nn (I11 58 11)) x5) 58 11 (((st I11 68 (nn (I11 58 11)) x5) 58 11) + (1 : Int32))) Q))))) ∧ ((x5 = x3) → ((vp_in (I11 58 11) 14) ∧ (∀ I16 : HP, I16 = (st (st I11 68 (nn (I11 58 11)) ((12 : Int32) + x4)) 58 11 (((st I11 68 (nn (I11 58 11)) ((12 : Int32) + x4)) 58 11) + (1 : Int32))) → (((I16 65 0) ≤ x5) → (GV G Y_X8_lays 8 [(0, .ref 58), (1, .int x1), (2, .int x2), (3, .int x3), (4, .int x4), (5, .int (x5 + 1))] I16 Q)) ∧ ((¬ (I16 65 0) ≤ x5) → ((vp_in (I16 58 11) 14) ∧ (GV G Y_X8_lays 8 [(0, .ref 58), (1, .int x1), (2, .int x2), (3, .int x3), (4, .int x4), (5, .int (x5 + 1))] (st (st I16 68 (nn (I16 58 11)) x5) 58 11 (((st I16 68 (nn (I16 58 11)) x5) 58 11) + (1 : Int32))) Q)))))))))))) : GV G Y_X8_lays 8 [(0, .ref 58), (1, .int x1), (2, .int x2), (3, .int x3), (4, .int x4), (5, .int x5)] I Q := by
  show Go G Y_X8_lays 8 [(0, .ref 58), (1, .int x1), (2, .int x2), (3, .int x3), (4, .int x4), (5, .int x5)] [] SH I 0 0 _
  refine go_iload dX8_lays_8 5 rfl ?_
  refine go_aload_n dX8_lays_10 rfl 0 rfl ?_
  refine go_getR dX8_lays_11 sh_58 (by decide) f_X8_28 ⟨Nat.le_of_ble_eq_true rfl, Nat.le_of_ble_eq_true rfl, rfl⟩ rfl ?_
  refine go_iconst dX8_lays_14 (v := (0 : Int32)) (by decide) ?_
  refine go_iald dX8_lays_15 sh_65 (by decide) (by unfold vp_in; decide) (j := 0) (by decide) ?_
  refine go_icmp_gt (tgt := 116) dX8_lays_16 (by decide) (fun c1 => ?_) (fun c1 => ?_)
  · have h := h.1 c1
    exact go_vret dX8_lays_116 rfl rfl (by decide) ⟨rfl, rfl, h⟩
  · have h := h.2 c1
    refine go_iload dX8_lays_19 5 rfl ?_
    refine go_iload_n dX8_lays_21 rfl 1 rfl ?_
    refine go_icmp_ne (tgt := 48) dX8_lays_22 (by decide) (fun c2 => ?_) (fun c2 => ?_)
    · have h := h.1 c2
      refine go_iload dX8_lays_48 5 rfl ?_
      refine go_iload_n dX8_lays_50 rfl 3 rfl ?_
      refine go_icmp_ne (tgt := 78) dX8_lays_51 (by decide) (fun c3 => ?_) (fun c3 => ?_)
      · have h := h.1 c3
        refine go_iload dX8_lays_78 5 rfl ?_
        refine go_aload_n dX8_lays_80 rfl 0 rfl ?_
        refine go_getR dX8_lays_81 sh_58 (by decide) f_X8_28 ⟨Nat.le_of_ble_eq_true rfl, Nat.le_of_ble_eq_true rfl, rfl⟩ rfl ?_
        refine go_iconst dX8_lays_84 (v := (0 : Int32)) (by decide) ?_
        refine go_iald dX8_lays_85 sh_65 (by decide) (by unfold vp_in; decide) (j := 0) (by decide) ?_
        refine go_icmp_ge (tgt := 110) dX8_lays_86 (by decide) (fun c4 => ?_) (fun c4 => ?_)
        · have h := h.1 c4
          refine go_iinc dX8_lays_110 5 rfl (v := (x5 + 1)) rfl (Nat.le_of_ble_eq_true rfl) (L2 := [(5, .int (x5 + 1)), (0, .ref 58), (1, .int x1), (2, .int x2), (3, .int x3), (4, .int x4)]) rfl ?_
          refine go_goto (tgt := 8) dX8_lays_113 (by decide) ?_
          exact go_loc [(0, .ref 58), (1, .int x1), (2, .int x2), (3, .int x3), (4, .int x4), (5, .int (x5 + 1))] [1, 2, 3, 4, 5, 0] rfl h
        · have h := h.2 c4
          refine go_aload_n dX8_lays_89 rfl 0 rfl ?_
          refine go_getR dX8_lays_90 sh_58 (by decide) f_X8_37 ⟨Nat.le_of_ble_eq_true rfl, Nat.le_of_ble_eq_true rfl, rfl⟩ rfl ?_
          refine go_aload_n dX8_lays_93 rfl 0 rfl ?_
          refine go_getI dX8_lays_94 sh_58 (by decide) f_X8_128 ⟨Nat.le_of_ble_eq_true rfl, Nat.le_of_ble_eq_true rfl, rfl⟩ ?_
          refine go_iload dX8_lays_97 5 rfl ?_
          have hb5 := h.1
          have h := h.2
          refine go_iast dX8_lays_99 sh_68 (by decide) hb5 (j := (nn (I 58 11))) rfl ?_
          refine go_aload_n dX8_lays_100 rfl 0 rfl ?_
          refine go_dup dX8_lays_101 rfl ?_
          refine go_getI dX8_lays_102 sh_58 (by decide) f_X8_128 ⟨Nat.le_of_ble_eq_true rfl, Nat.le_of_ble_eq_true rfl, rfl⟩ ?_
          refine go_iconst dX8_lays_105 (v := (1 : Int32)) (by decide) ?_
          refine go_iadd dX8_lays_106 ?_
          refine go_putT dX8_lays_107 sh_58 (by decide) p_X8_128 ⟨Nat.le_of_ble_eq_true rfl, Nat.le_of_ble_eq_true rfl, rfl⟩ rfl rfl ?_
          refine go_iinc dX8_lays_110 5 rfl (v := (x5 + 1)) rfl (Nat.le_of_ble_eq_true rfl) (L2 := [(5, .int (x5 + 1)), (0, .ref 58), (1, .int x1), (2, .int x2), (3, .int x3), (4, .int x4)]) rfl ?_
          refine go_goto (tgt := 8) dX8_lays_113 (by decide) ?_
          exact go_loc [(0, .ref 58), (1, .int x1), (2, .int x2), (3, .int x3), (4, .int x4), (5, .int (x5 + 1))] [1, 2, 3, 4, 5, 0] rfl h
      · have h := h.2 c3
        refine go_aload_n dX8_lays_54 rfl 0 rfl ?_
        refine go_getR dX8_lays_55 sh_58 (by decide) f_X8_37 ⟨Nat.le_of_ble_eq_true rfl, Nat.le_of_ble_eq_true rfl, rfl⟩ rfl ?_
        refine go_aload_n dX8_lays_58 rfl 0 rfl ?_
        refine go_getI dX8_lays_59 sh_58 (by decide) f_X8_128 ⟨Nat.le_of_ble_eq_true rfl, Nat.le_of_ble_eq_true rfl, rfl⟩ ?_
        refine go_bipush dX8_lays_62 (v := (12 : Int32)) (by decide) ?_
        refine go_iload dX8_lays_64 4 rfl ?_
        refine go_iadd dX8_lays_66 ?_
        have hb6 := h.1
        have h := h.2
        refine go_iast dX8_lays_67 sh_68 (by decide) hb6 (j := (nn (I 58 11))) rfl ?_
        refine go_aload_n dX8_lays_68 rfl 0 rfl ?_
        refine go_dup dX8_lays_69 rfl ?_
        refine go_getI dX8_lays_70 sh_58 (by decide) f_X8_128 ⟨Nat.le_of_ble_eq_true rfl, Nat.le_of_ble_eq_true rfl, rfl⟩ ?_
        refine go_iconst dX8_lays_73 (v := (1 : Int32)) (by decide) ?_
        refine go_iadd dX8_lays_74 ?_
        refine go_putT dX8_lays_75 sh_58 (by decide) p_X8_128 ⟨Nat.le_of_ble_eq_true rfl, Nat.le_of_ble_eq_true rfl, rfl⟩ rfl rfl ?_
        refine go_nm (fun I7 eI7 => ?_)
        have h := h I7 eI7
        refine go_iload dX8_lays_78 5 rfl ?_
        refine go_aload_n dX8_lays_80 rfl 0 rfl ?_
        refine go_getR dX8_lays_81 sh_58 (by decide) f_X8_28 ⟨Nat.le_of_ble_eq_true rfl, Nat.le_of_ble_eq_true rfl, rfl⟩ rfl ?_
        refine go_iconst dX8_lays_84 (v := (0 : Int32)) (by decide) ?_
        refine go_iald dX8_lays_85 sh_65 (by decide) (by unfold vp_in; decide) (j := 0) (by decide) ?_
        refine go_icmp_ge (tgt := 110) dX8_lays_86 (by decide) (fun c8 => ?_) (fun c8 => ?_)
        · have h := h.1 c8
          refine go_iinc dX8_lays_110 5 rfl (v := (x5 + 1)) rfl (Nat.le_of_ble_eq_true rfl) (L2 := [(5, .int (x5 + 1)), (0, .ref 58), (1, .int x1), (2, .int x2), (3, .int x3), (4, .int x4)]) rfl ?_
          refine go_goto (tgt := 8) dX8_lays_113 (by decide) ?_
          exact go_loc [(0, .ref 58), (1, .int x1), (2, .int x2), (3, .int x3), (4, .int x4), (5, .int (x5 + 1))] [1, 2, 3, 4, 5, 0] rfl h
        · have h := h.2 c8
          refine go_aload_n dX8_lays_89 rfl 0 rfl ?_
          refine go_getR dX8_lays_90 sh_58 (by decide) f_X8_37 ⟨Nat.le_of_ble_eq_true rfl, Nat.le_of_ble_eq_true rfl, rfl⟩ rfl ?_
          refine go_aload_n dX8_lays_93 rfl 0 rfl ?_
          refine go_getI dX8_lays_94 sh_58 (by decide) f_X8_128 ⟨Nat.le_of_ble_eq_true rfl, Nat.le_of_ble_eq_true rfl, rfl⟩ ?_
          refine go_iload dX8_lays_97 5 rfl ?_
          have hb9 := h.1
          have h := h.2
          refine go_iast dX8_lays_99 sh_68 (by decide) hb9 (j := (nn (I7 58 11))) rfl ?_
          refine go_aload_n dX8_lays_100 rfl 0 rfl ?_
          refine go_dup dX8_lays_101 rfl ?_
          refine go_getI dX8_lays_102 sh_58 (by decide) f_X8_128 ⟨Nat.le_of_ble_eq_true rfl, Nat.le_of_ble_eq_true rfl, rfl⟩ ?_
          refine go_iconst dX8_lays_105 (v := (1 : Int32)) (by decide) ?_
          refine go_iadd dX8_lays_106 ?_
          refine go_putT dX8_lays_107 sh_58 (by decide) p_X8_128 ⟨Nat.le_of_ble_eq_true rfl, Nat.le_of_ble_eq_true rfl, rfl⟩ rfl rfl ?_
          refine go_iinc dX8_lays_110 5 rfl (v := (x5 + 1)) rfl (Nat.le_of_ble_eq_true rfl) (L2 := [(5, .int (x5 + 1)), (0, .ref 58), (1, .int x1), (2, .int x2), (3, .int x3), (4, .int x4)]) rfl ?_
          refine go_goto (tgt := 8) dX8_lays_113 (by decide) ?_
          exact go_loc [(0, .ref 58), (1, .int x1), (2, .int x2), (3, .int x3), (4, .int x4), (5, .int (x5 + 1))] [1, 2, 3, 4, 5, 0] rfl h
    · have h := h.2 c2
      refine go_aload_n dX8_lays_25 rfl 0 rfl ?_
      refine go_getR dX8_lays_26 sh_58 (by decide) f_X8_37 ⟨Nat.le_of_ble_eq_true rfl, Nat.le_of_ble_eq_true rfl, rfl⟩ rfl ?_
      refine go_aload_n dX8_lays_29 rfl 0 rfl ?_
      refine go_getI dX8_lays_30 sh_58 (by decide) f_X8_128 ⟨Nat.le_of_ble_eq_true rfl, Nat.le_of_ble_eq_true rfl, rfl⟩ ?_
      refine go_bipush dX8_lays_33 (v := (12 : Int32)) (by decide) ?_
      refine go_iload_n dX8_lays_35 rfl 2 rfl ?_
      refine go_iadd dX8_lays_36 ?_
      have hb10 := h.1
      have h := h.2
      refine go_iast dX8_lays_37 sh_68 (by decide) hb10 (j := (nn (I 58 11))) rfl ?_
      refine go_aload_n dX8_lays_38 rfl 0 rfl ?_
      refine go_dup dX8_lays_39 rfl ?_
      refine go_getI dX8_lays_40 sh_58 (by decide) f_X8_128 ⟨Nat.le_of_ble_eq_true rfl, Nat.le_of_ble_eq_true rfl, rfl⟩ ?_
      refine go_iconst dX8_lays_43 (v := (1 : Int32)) (by decide) ?_
      refine go_iadd dX8_lays_44 ?_
      refine go_putT dX8_lays_45 sh_58 (by decide) p_X8_128 ⟨Nat.le_of_ble_eq_true rfl, Nat.le_of_ble_eq_true rfl, rfl⟩ rfl rfl ?_
      refine go_nm (fun I11 eI11 => ?_)
      have h := h I11 eI11
      refine go_iload dX8_lays_48 5 rfl ?_
      refine go_iload_n dX8_lays_50 rfl 3 rfl ?_
      refine go_icmp_ne (tgt := 78) dX8_lays_51 (by decide) (fun c12 => ?_) (fun c12 => ?_)
      · have h := h.1 c12
        refine go_iload dX8_lays_78 5 rfl ?_
        refine go_aload_n dX8_lays_80 rfl 0 rfl ?_
        refine go_getR dX8_lays_81 sh_58 (by decide) f_X8_28 ⟨Nat.le_of_ble_eq_true rfl, Nat.le_of_ble_eq_true rfl, rfl⟩ rfl ?_
        refine go_iconst dX8_lays_84 (v := (0 : Int32)) (by decide) ?_
        refine go_iald dX8_lays_85 sh_65 (by decide) (by unfold vp_in; decide) (j := 0) (by decide) ?_
        refine go_icmp_ge (tgt := 110) dX8_lays_86 (by decide) (fun c13 => ?_) (fun c13 => ?_)
        · have h := h.1 c13
          refine go_iinc dX8_lays_110 5 rfl (v := (x5 + 1)) rfl (Nat.le_of_ble_eq_true rfl) (L2 := [(5, .int (x5 + 1)), (0, .ref 58), (1, .int x1), (2, .int x2), (3, .int x3), (4, .int x4)]) rfl ?_
          refine go_goto (tgt := 8) dX8_lays_113 (by decide) ?_
          exact go_loc [(0, .ref 58), (1, .int x1), (2, .int x2), (3, .int x3), (4, .int x4), (5, .int (x5 + 1))] [1, 2, 3, 4, 5, 0] rfl h
        · have h := h.2 c13
          refine go_aload_n dX8_lays_89 rfl 0 rfl ?_
          refine go_getR dX8_lays_90 sh_58 (by decide) f_X8_37 ⟨Nat.le_of_ble_eq_true rfl, Nat.le_of_ble_eq_true rfl, rfl⟩ rfl ?_
          refine go_aload_n dX8_lays_93 rfl 0 rfl ?_
          refine go_getI dX8_lays_94 sh_58 (by decide) f_X8_128 ⟨Nat.le_of_ble_eq_true rfl, Nat.le_of_ble_eq_true rfl, rfl⟩ ?_
          refine go_iload dX8_lays_97 5 rfl ?_
          have hb14 := h.1
          have h := h.2
          refine go_iast dX8_lays_99 sh_68 (by decide) hb14 (j := (nn (I11 58 11))) rfl ?_
          refine go_aload_n dX8_lays_100 rfl 0 rfl ?_
          refine go_dup dX8_lays_101 rfl ?_
          refine go_getI dX8_lays_102 sh_58 (by decide) f_X8_128 ⟨Nat.le_of_ble_eq_true rfl, Nat.le_of_ble_eq_true rfl, rfl⟩ ?_
          refine go_iconst dX8_lays_105 (v := (1 : Int32)) (by decide) ?_
          refine go_iadd dX8_lays_106 ?_
          refine go_putT dX8_lays_107 sh_58 (by decide) p_X8_128 ⟨Nat.le_of_ble_eq_true rfl, Nat.le_of_ble_eq_true rfl, rfl⟩ rfl rfl ?_
          refine go_iinc dX8_lays_110 5 rfl (v := (x5 + 1)) rfl (Nat.le_of_ble_eq_true rfl) (L2 := [(5, .int (x5 + 1)), (0, .ref 58), (1, .int x1), (2, .int x2), (3, .int x3), (4, .int x4)]) rfl ?_
          refine go_goto (tgt := 8) dX8_lays_113 (by decide) ?_
          exact go_loc [(0, .ref 58), (1, .int x1), (2, .int x2), (3, .int x3), (4, .int x4), (5, .int (x5 + 1))] [1, 2, 3, 4, 5, 0] rfl h
      · have h := h.2 c12
        refine go_aload_n dX8_lays_54 rfl 0 rfl ?_
        refine go_getR dX8_lays_55 sh_58 (by decide) f_X8_37 ⟨Nat.le_of_ble_eq_true rfl, Nat.le_of_ble_eq_true rfl, rfl⟩ rfl ?_
        refine go_aload_n dX8_lays_58 rfl 0 rfl ?_
        refine go_getI dX8_lays_59 sh_58 (by decide) f_X8_128 ⟨Nat.le_of_ble_eq_true rfl, Nat.le_of_ble_eq_true rfl, rfl⟩ ?_
        refine go_bipush dX8_lays_62 (v := (12 : Int32)) (by decide) ?_
        refine go_iload dX8_lays_64 4 rfl ?_
        refine go_iadd dX8_lays_66 ?_
        have hb15 := h.1
        have h := h.2
        refine go_iast dX8_lays_67 sh_68 (by decide) hb15 (j := (nn (I11 58 11))) rfl ?_
        refine go_aload_n dX8_lays_68 rfl 0 rfl ?_
        refine go_dup dX8_lays_69 rfl ?_
        refine go_getI dX8_lays_70 sh_58 (by decide) f_X8_128 ⟨Nat.le_of_ble_eq_true rfl, Nat.le_of_ble_eq_true rfl, rfl⟩ ?_
        refine go_iconst dX8_lays_73 (v := (1 : Int32)) (by decide) ?_
        refine go_iadd dX8_lays_74 ?_
        refine go_putT dX8_lays_75 sh_58 (by decide) p_X8_128 ⟨Nat.le_of_ble_eq_true rfl, Nat.le_of_ble_eq_true rfl, rfl⟩ rfl rfl ?_
        refine go_nm (fun I16 eI16 => ?_)
        have h := h I16 eI16
        refine go_iload dX8_lays_78 5 rfl ?_
        refine go_aload_n dX8_lays_80 rfl 0 rfl ?_
        refine go_getR dX8_lays_81 sh_58 (by decide) f_X8_28 ⟨Nat.le_of_ble_eq_true rfl, Nat.le_of_ble_eq_true rfl, rfl⟩ rfl ?_
        refine go_iconst dX8_lays_84 (v := (0 : Int32)) (by decide) ?_
        refine go_iald dX8_lays_85 sh_65 (by decide) (by unfold vp_in; decide) (j := 0) (by decide) ?_
        refine go_icmp_ge (tgt := 110) dX8_lays_86 (by decide) (fun c17 => ?_) (fun c17 => ?_)
        · have h := h.1 c17
          refine go_iinc dX8_lays_110 5 rfl (v := (x5 + 1)) rfl (Nat.le_of_ble_eq_true rfl) (L2 := [(5, .int (x5 + 1)), (0, .ref 58), (1, .int x1), (2, .int x2), (3, .int x3), (4, .int x4)]) rfl ?_
          refine go_goto (tgt := 8) dX8_lays_113 (by decide) ?_
          exact go_loc [(0, .ref 58), (1, .int x1), (2, .int x2), (3, .int x3), (4, .int x4), (5, .int (x5 + 1))] [1, 2, 3, 4, 5, 0] rfl h
        · have h := h.2 c17
          refine go_aload_n dX8_lays_89 rfl 0 rfl ?_
          refine go_getR dX8_lays_90 sh_58 (by decide) f_X8_37 ⟨Nat.le_of_ble_eq_true rfl, Nat.le_of_ble_eq_true rfl, rfl⟩ rfl ?_
          refine go_aload_n dX8_lays_93 rfl 0 rfl ?_
          refine go_getI dX8_lays_94 sh_58 (by decide) f_X8_128 ⟨Nat.le_of_ble_eq_true rfl, Nat.le_of_ble_eq_true rfl, rfl⟩ ?_
          refine go_iload dX8_lays_97 5 rfl ?_
          have hb18 := h.1
          have h := h.2
          refine go_iast dX8_lays_99 sh_68 (by decide) hb18 (j := (nn (I16 58 11))) rfl ?_
          refine go_aload_n dX8_lays_100 rfl 0 rfl ?_
          refine go_dup dX8_lays_101 rfl ?_
          refine go_getI dX8_lays_102 sh_58 (by decide) f_X8_128 ⟨Nat.le_of_ble_eq_true rfl, Nat.le_of_ble_eq_true rfl, rfl⟩ ?_
          refine go_iconst dX8_lays_105 (v := (1 : Int32)) (by decide) ?_
          refine go_iadd dX8_lays_106 ?_
          refine go_putT dX8_lays_107 sh_58 (by decide) p_X8_128 ⟨Nat.le_of_ble_eq_true rfl, Nat.le_of_ble_eq_true rfl, rfl⟩ rfl rfl ?_
          refine go_iinc dX8_lays_110 5 rfl (v := (x5 + 1)) rfl (Nat.le_of_ble_eq_true rfl) (L2 := [(5, .int (x5 + 1)), (0, .ref 58), (1, .int x1), (2, .int x2), (3, .int x3), (4, .int x4)]) rfl ?_
          refine go_goto (tgt := 8) dX8_lays_113 (by decide) ?_
          exact go_loc [(0, .ref 58), (1, .int x1), (2, .int x2), (3, .int x3), (4, .int x4), (5, .int (x5 + 1))] [1, 2, 3, 4, 5, 0] rfl h
set_option maxRecDepth 100000 in
set_option maxHeartbeats 4000000 in
theorem v_X8_looks {G : CX} {a1 : Int32} {a2 : Int32} {a3 : Int32} {a4 : Int32} {a5 : Int32}  {I : HP} {Q : HP → Prop} (h : RV G Y_X8_lays [.ref 58, .int a2, .int a3, .int a4, .int a5] I (fun I1 => RV G Y_X8_says [.ref 58, .int (I1 67 0), .int (I1 67 4), .int (I1 67 3)] I1 (fun I2 => ((¬ (I2 58 21) = 0) → (Q I2)) ∧ (((I2 58 21) = 0) → (((¬ (I2 58 22) = (I2 58 11)) → (Q I2)) ∧ (((I2 58 22) = (I2 58 11)) → ((((I2 76 0) = (-1 : Int32)) → (Q (st (st (st (st (st (st I2 76 0 a1) 76 1 ((st I2 76 0 a1) 58 20)) 76 2 a2) 76 3 a3) 76 4 a4) 76 5 a5))) ∧ ((¬ (I2 76 0) = (-1 : Int32)) → ((((I2 76 1) ≤ (I2 58 20)) → (Q I2)) ∧ ((¬ (I2 76 1) ≤ (I2 58 20)) → (Q (st (st (st (st (st (st I2 76 0 a1) 76 1 ((st I2 76 0 a1) 58 20)) 76 2 a2) 76 3 a3) 76 4 a4) 76 5 a5)))))))))))) : RV G Y_X8_looks [.ref 58, .int a1, .int a2, .int a3, .int a4, .int a5] I Q := by
  refine ret_of (show plainName RX8 = true by decide) (Nat.le_of_ble_eq_true rfl) ?_
  show Go G Y_X8_looks 0 [(0, .ref 58), (1, .int a1), (2, .int a2), (3, .int a3), (4, .int a4), (5, .int a5)] [] SH I 0 0 _
  refine go_aload_n dX8_looks_0 rfl 0 rfl ?_
  refine go_iload_n dX8_looks_1 rfl 2 rfl ?_
  refine go_iload_n dX8_looks_2 rfl 3 rfl ?_
  refine go_iload dX8_looks_3 4 rfl ?_
  refine go_iload dX8_looks_5 5 rfl ?_
  refine go_vcall (Z := Y_X8_lays) (As := [.int a2, .int a3, .int a4, .int a5]) (S := []) dX8_looks_7 ok_X8_lays l_X8_206 (by decide) sh_58 (by decide) (Nat.le_of_ble_eq_true rfl) rfl rfl rfl (Nat.le_of_ble_eq_true rfl) h (fun _ I1 _ hq => ?_)
  obtain ⟨rfl, rfl, h⟩ := hq
  show Go G Y_X8_looks 10 [(0, .ref 58), (1, .int a1), (2, .int a2), (3, .int a3), (4, .int a4), (5, .int a5)] [] SH I1 0 0 _
  refine go_aload_n dX8_looks_10 rfl 0 rfl ?_
  refine go_aload_n dX8_looks_11 rfl 0 rfl ?_
  refine go_getR dX8_looks_12 sh_58 (by decide) f_X8_34 ⟨Nat.le_of_ble_eq_true rfl, Nat.le_of_ble_eq_true rfl, rfl⟩ rfl ?_
  refine go_iconst dX8_looks_15 (v := (0 : Int32)) (by decide) ?_
  refine go_iald dX8_looks_16 sh_67 (by decide) (by unfold vp_in; decide) (j := 0) (by decide) ?_
  refine go_aload_n dX8_looks_17 rfl 0 rfl ?_
  refine go_getR dX8_looks_18 sh_58 (by decide) f_X8_34 ⟨Nat.le_of_ble_eq_true rfl, Nat.le_of_ble_eq_true rfl, rfl⟩ rfl ?_
  refine go_iconst dX8_looks_21 (v := (4 : Int32)) (by decide) ?_
  refine go_iald dX8_looks_22 sh_67 (by decide) (by unfold vp_in; decide) (j := 4) (by decide) ?_
  refine go_aload_n dX8_looks_23 rfl 0 rfl ?_
  refine go_getR dX8_looks_24 sh_58 (by decide) f_X8_34 ⟨Nat.le_of_ble_eq_true rfl, Nat.le_of_ble_eq_true rfl, rfl⟩ rfl ?_
  refine go_iconst dX8_looks_27 (v := (3 : Int32)) (by decide) ?_
  refine go_iald dX8_looks_28 sh_67 (by decide) (by unfold vp_in; decide) (j := 3) (by decide) ?_
  refine go_vcall (Z := Y_X8_says) (As := [.int (I1 67 0), .int (I1 67 4), .int (I1 67 3)]) (S := []) dX8_looks_29 ok_X8_says l_X8_158 (by decide) sh_58 (by decide) (Nat.le_of_ble_eq_true rfl) rfl rfl rfl (Nat.le_of_ble_eq_true rfl) h (fun _ I2 _ hq => ?_)
  obtain ⟨rfl, rfl, h⟩ := hq
  show Go G Y_X8_looks 32 [(0, .ref 58), (1, .int a1), (2, .int a2), (3, .int a3), (4, .int a4), (5, .int a5)] [] SH I2 0 0 _
  refine go_aload_n dX8_looks_32 rfl 0 rfl ?_
  refine go_getI dX8_looks_33 sh_58 (by decide) f_X8_143 ⟨Nat.le_of_ble_eq_true rfl, Nat.le_of_ble_eq_true rfl, rfl⟩ ?_
  refine go_if_ne (tgt := 120) dX8_looks_36 (by decide) (fun c3 => ?_) (fun c3 => ?_)
  · have h := h.1 c3
    exact go_vret dX8_looks_120 rfl rfl (by decide) ⟨rfl, rfl, h⟩
  · have h := h.2 c3
    refine go_aload_n dX8_looks_39 rfl 0 rfl ?_
    refine go_getI dX8_looks_40 sh_58 (by decide) f_X8_146 ⟨Nat.le_of_ble_eq_true rfl, Nat.le_of_ble_eq_true rfl, rfl⟩ ?_
    refine go_aload_n dX8_looks_43 rfl 0 rfl ?_
    refine go_getI dX8_looks_44 sh_58 (by decide) f_X8_128 ⟨Nat.le_of_ble_eq_true rfl, Nat.le_of_ble_eq_true rfl, rfl⟩ ?_
    refine go_icmp_ne (tgt := 120) dX8_looks_47 (by decide) (fun c4 => ?_) (fun c4 => ?_)
    · have h := h.1 c4
      exact go_vret dX8_looks_120 rfl rfl (by decide) ⟨rfl, rfl, h⟩
    · have h := h.2 c4
      refine go_aload_n dX8_looks_50 rfl 0 rfl ?_
      refine go_getR dX8_looks_51 sh_58 (by decide) f_X8_61 ⟨Nat.le_of_ble_eq_true rfl, Nat.le_of_ble_eq_true rfl, rfl⟩ rfl ?_
      refine go_iconst dX8_looks_54 (v := (0 : Int32)) (by decide) ?_
      refine go_iald dX8_looks_55 sh_76 (by decide) (by unfold vp_in; decide) (j := 0) (by decide) ?_
      refine go_iconst dX8_looks_56 (v := (-1 : Int32)) (by decide) ?_
      refine go_icmp_eq (tgt := 73) dX8_looks_57 (by decide) (fun c5 => ?_) (fun c5 => ?_)
      · have h := h.1 c5
        refine go_aload_n dX8_looks_73 rfl 0 rfl ?_
        refine go_getR dX8_looks_74 sh_58 (by decide) f_X8_61 ⟨Nat.le_of_ble_eq_true rfl, Nat.le_of_ble_eq_true rfl, rfl⟩ rfl ?_
        refine go_iconst dX8_looks_77 (v := (0 : Int32)) (by decide) ?_
        refine go_iload_n dX8_looks_78 rfl 1 rfl ?_
        refine go_iast dX8_looks_79 sh_76 (by decide) (by unfold vp_in; decide) (j := 0) (by decide) ?_
        refine go_aload_n dX8_looks_80 rfl 0 rfl ?_
        refine go_getR dX8_looks_81 sh_58 (by decide) f_X8_61 ⟨Nat.le_of_ble_eq_true rfl, Nat.le_of_ble_eq_true rfl, rfl⟩ rfl ?_
        refine go_iconst dX8_looks_84 (v := (1 : Int32)) (by decide) ?_
        refine go_aload_n dX8_looks_85 rfl 0 rfl ?_
        refine go_getI dX8_looks_86 sh_58 (by decide) f_X8_140 ⟨Nat.le_of_ble_eq_true rfl, Nat.le_of_ble_eq_true rfl, rfl⟩ ?_
        refine go_iast dX8_looks_89 sh_76 (by decide) (by unfold vp_in; decide) (j := 1) (by decide) ?_
        refine go_aload_n dX8_looks_90 rfl 0 rfl ?_
        refine go_getR dX8_looks_91 sh_58 (by decide) f_X8_61 ⟨Nat.le_of_ble_eq_true rfl, Nat.le_of_ble_eq_true rfl, rfl⟩ rfl ?_
        refine go_iconst dX8_looks_94 (v := (2 : Int32)) (by decide) ?_
        refine go_iload_n dX8_looks_95 rfl 2 rfl ?_
        refine go_iast dX8_looks_96 sh_76 (by decide) (by unfold vp_in; decide) (j := 2) (by decide) ?_
        refine go_aload_n dX8_looks_97 rfl 0 rfl ?_
        refine go_getR dX8_looks_98 sh_58 (by decide) f_X8_61 ⟨Nat.le_of_ble_eq_true rfl, Nat.le_of_ble_eq_true rfl, rfl⟩ rfl ?_
        refine go_iconst dX8_looks_101 (v := (3 : Int32)) (by decide) ?_
        refine go_iload_n dX8_looks_102 rfl 3 rfl ?_
        refine go_iast dX8_looks_103 sh_76 (by decide) (by unfold vp_in; decide) (j := 3) (by decide) ?_
        refine go_aload_n dX8_looks_104 rfl 0 rfl ?_
        refine go_getR dX8_looks_105 sh_58 (by decide) f_X8_61 ⟨Nat.le_of_ble_eq_true rfl, Nat.le_of_ble_eq_true rfl, rfl⟩ rfl ?_
        refine go_iconst dX8_looks_108 (v := (4 : Int32)) (by decide) ?_
        refine go_iload dX8_looks_109 4 rfl ?_
        refine go_iast dX8_looks_111 sh_76 (by decide) (by unfold vp_in; decide) (j := 4) (by decide) ?_
        refine go_aload_n dX8_looks_112 rfl 0 rfl ?_
        refine go_getR dX8_looks_113 sh_58 (by decide) f_X8_61 ⟨Nat.le_of_ble_eq_true rfl, Nat.le_of_ble_eq_true rfl, rfl⟩ rfl ?_
        refine go_iconst dX8_looks_116 (v := (5 : Int32)) (by decide) ?_
        refine go_iload dX8_looks_117 5 rfl ?_
        refine go_iast dX8_looks_119 sh_76 (by decide) (by unfold vp_in; decide) (j := 5) (by decide) ?_
        exact go_vret dX8_looks_120 rfl rfl (by decide) ⟨rfl, rfl, h⟩
      · have h := h.2 c5
        refine go_aload_n dX8_looks_60 rfl 0 rfl ?_
        refine go_getI dX8_looks_61 sh_58 (by decide) f_X8_140 ⟨Nat.le_of_ble_eq_true rfl, Nat.le_of_ble_eq_true rfl, rfl⟩ ?_
        refine go_aload_n dX8_looks_64 rfl 0 rfl ?_
        refine go_getR dX8_looks_65 sh_58 (by decide) f_X8_61 ⟨Nat.le_of_ble_eq_true rfl, Nat.le_of_ble_eq_true rfl, rfl⟩ rfl ?_
        refine go_iconst dX8_looks_68 (v := (1 : Int32)) (by decide) ?_
        refine go_iald dX8_looks_69 sh_76 (by decide) (by unfold vp_in; decide) (j := 1) (by decide) ?_
        refine go_icmp_ge (tgt := 120) dX8_looks_70 (by decide) (fun c6 => ?_) (fun c6 => ?_)
        · have h := h.1 c6
          exact go_vret dX8_looks_120 rfl rfl (by decide) ⟨rfl, rfl, h⟩
        · have h := h.2 c6
          refine go_aload_n dX8_looks_73 rfl 0 rfl ?_
          refine go_getR dX8_looks_74 sh_58 (by decide) f_X8_61 ⟨Nat.le_of_ble_eq_true rfl, Nat.le_of_ble_eq_true rfl, rfl⟩ rfl ?_
          refine go_iconst dX8_looks_77 (v := (0 : Int32)) (by decide) ?_
          refine go_iload_n dX8_looks_78 rfl 1 rfl ?_
          refine go_iast dX8_looks_79 sh_76 (by decide) (by unfold vp_in; decide) (j := 0) (by decide) ?_
          refine go_aload_n dX8_looks_80 rfl 0 rfl ?_
          refine go_getR dX8_looks_81 sh_58 (by decide) f_X8_61 ⟨Nat.le_of_ble_eq_true rfl, Nat.le_of_ble_eq_true rfl, rfl⟩ rfl ?_
          refine go_iconst dX8_looks_84 (v := (1 : Int32)) (by decide) ?_
          refine go_aload_n dX8_looks_85 rfl 0 rfl ?_
          refine go_getI dX8_looks_86 sh_58 (by decide) f_X8_140 ⟨Nat.le_of_ble_eq_true rfl, Nat.le_of_ble_eq_true rfl, rfl⟩ ?_
          refine go_iast dX8_looks_89 sh_76 (by decide) (by unfold vp_in; decide) (j := 1) (by decide) ?_
          refine go_aload_n dX8_looks_90 rfl 0 rfl ?_
          refine go_getR dX8_looks_91 sh_58 (by decide) f_X8_61 ⟨Nat.le_of_ble_eq_true rfl, Nat.le_of_ble_eq_true rfl, rfl⟩ rfl ?_
          refine go_iconst dX8_looks_94 (v := (2 : Int32)) (by decide) ?_
          refine go_iload_n dX8_looks_95 rfl 2 rfl ?_
          refine go_iast dX8_looks_96 sh_76 (by decide) (by unfold vp_in; decide) (j := 2) (by decide) ?_
          refine go_aload_n dX8_looks_97 rfl 0 rfl ?_
          refine go_getR dX8_looks_98 sh_58 (by decide) f_X8_61 ⟨Nat.le_of_ble_eq_true rfl, Nat.le_of_ble_eq_true rfl, rfl⟩ rfl ?_
          refine go_iconst dX8_looks_101 (v := (3 : Int32)) (by decide) ?_
          refine go_iload_n dX8_looks_102 rfl 3 rfl ?_
          refine go_iast dX8_looks_103 sh_76 (by decide) (by unfold vp_in; decide) (j := 3) (by decide) ?_
          refine go_aload_n dX8_looks_104 rfl 0 rfl ?_
          refine go_getR dX8_looks_105 sh_58 (by decide) f_X8_61 ⟨Nat.le_of_ble_eq_true rfl, Nat.le_of_ble_eq_true rfl, rfl⟩ rfl ?_
          refine go_iconst dX8_looks_108 (v := (4 : Int32)) (by decide) ?_
          refine go_iload dX8_looks_109 4 rfl ?_
          refine go_iast dX8_looks_111 sh_76 (by decide) (by unfold vp_in; decide) (j := 4) (by decide) ?_
          refine go_aload_n dX8_looks_112 rfl 0 rfl ?_
          refine go_getR dX8_looks_113 sh_58 (by decide) f_X8_61 ⟨Nat.le_of_ble_eq_true rfl, Nat.le_of_ble_eq_true rfl, rfl⟩ rfl ?_
          refine go_iconst dX8_looks_116 (v := (5 : Int32)) (by decide) ?_
          refine go_iload dX8_looks_117 5 rfl ?_
          refine go_iast dX8_looks_119 sh_76 (by decide) (by unfold vp_in; decide) (j := 5) (by decide) ?_
          exact go_vret dX8_looks_120 rfl rfl (by decide) ⟨rfl, rfl, h⟩
set_option maxRecDepth 100000 in
set_option maxHeartbeats 4000000 in
theorem v_X8_findPut {G : CX}   {I : HP} {Q : HP → Prop} (h : GV G Y_X8_findPut 2 [(0, .ref 58), (1, .int (0 : Int32))] I Q) : RV G Y_X8_findPut [.ref 58] I Q := by
  refine ret_of (show plainName RX8 = true by decide) (Nat.le_of_ble_eq_true rfl) ?_
  show Go G Y_X8_findPut 0 [(0, .ref 58)] [] SH I 0 0 _
  refine go_iconst dX8_findPut_0 (v := (0 : Int32)) (by decide) ?_
  refine go_istore_n dX8_findPut_1 rfl (Nat.le_of_ble_eq_true rfl) (L2 := [(1, .int (0 : Int32)), (0, .ref 58)]) rfl ?_
  exact go_loc [(0, .ref 58), (1, .int (0 : Int32))] [1, 0] rfl h
set_option maxRecDepth 100000 in
set_option maxHeartbeats 4000000 in
theorem v_X8_findPut_2 {G : CX} {x1 : Int32}  {I : HP} {Q : HP → Prop} (h : (((6 : Int32) ≤ x1) → (RV G Y_X8_looks [.ref 58, .int (0 : Int32), .int (-1 : Int32), .int (-1 : Int32), .int (-1 : Int32), .int (-1 : Int32)] I (fun I2 => GV G Y_X8_findPut 32 [(0, .ref 58), (1, .int (0 : Int32))] I2 Q))) ∧ ((¬ (6 : Int32) ≤ x1) → ((vp_in x1 6) ∧ (GV G Y_X8_findPut 2 [(0, .ref 58), (1, .int (x1 + 1))] (st I 76 (nn x1) (-1 : Int32)) Q)))) : GV G Y_X8_findPut 2 [(0, .ref 58), (1, .int x1)] I Q := by
  show Go G Y_X8_findPut 2 [(0, .ref 58), (1, .int x1)] [] SH I 0 0 _
  refine go_iload_n dX8_findPut_2 rfl 1 rfl ?_
  refine go_bipush dX8_findPut_3 (v := (6 : Int32)) (by decide) ?_
  refine go_icmp_ge (tgt := 21) dX8_findPut_5 (by decide) (fun c1 => ?_) (fun c1 => ?_)
  · have h := h.1 c1
    refine go_aload_n dX8_findPut_21 rfl 0 rfl ?_
    refine go_iconst dX8_findPut_22 (v := (0 : Int32)) (by decide) ?_
    refine go_iconst dX8_findPut_23 (v := (-1 : Int32)) (by decide) ?_
    refine go_iconst dX8_findPut_24 (v := (-1 : Int32)) (by decide) ?_
    refine go_iconst dX8_findPut_25 (v := (-1 : Int32)) (by decide) ?_
    refine go_iconst dX8_findPut_26 (v := (-1 : Int32)) (by decide) ?_
    refine go_vcall (Z := Y_X8_looks) (As := [.int (0 : Int32), .int (-1 : Int32), .int (-1 : Int32), .int (-1 : Int32), .int (-1 : Int32)]) (S := []) dX8_findPut_27 ok_X8_looks l_X8_210 (by decide) sh_58 (by decide) (Nat.le_of_ble_eq_true rfl) rfl rfl rfl (Nat.le_of_ble_eq_true rfl) h (fun _ I2 _ hq => ?_)
    obtain ⟨rfl, rfl, h⟩ := hq
    show Go G Y_X8_findPut 30 [(0, .ref 58), (1, .int x1)] [] SH I2 0 0 _
    refine go_iconst dX8_findPut_30 (v := (0 : Int32)) (by decide) ?_
    refine go_istore_n dX8_findPut_31 rfl (Nat.le_of_ble_eq_true rfl) (L2 := [(1, .int (0 : Int32)), (0, .ref 58)]) rfl ?_
    exact go_loc [(0, .ref 58), (1, .int (0 : Int32))] [1, 0] rfl h
  · have h := h.2 c1
    refine go_aload_n dX8_findPut_8 rfl 0 rfl ?_
    refine go_getR dX8_findPut_9 sh_58 (by decide) f_X8_61 ⟨Nat.le_of_ble_eq_true rfl, Nat.le_of_ble_eq_true rfl, rfl⟩ rfl ?_
    refine go_iload_n dX8_findPut_12 rfl 1 rfl ?_
    refine go_iconst dX8_findPut_13 (v := (-1 : Int32)) (by decide) ?_
    have hb3 := h.1
    have h := h.2
    refine go_iast dX8_findPut_14 sh_76 (by decide) hb3 (j := (nn x1)) rfl ?_
    refine go_iinc dX8_findPut_15 1 rfl (v := (x1 + 1)) rfl (Nat.le_of_ble_eq_true rfl) (L2 := [(1, .int (x1 + 1)), (0, .ref 58)]) rfl ?_
    refine go_goto (tgt := 2) dX8_findPut_18 (by decide) ?_
    exact go_loc [(0, .ref 58), (1, .int (x1 + 1))] [1, 0] rfl h
set_option maxRecDepth 100000 in
set_option maxHeartbeats 4000000 in
theorem v_X8_findPut_32 {G : CX} {x1 : Int32}  {I : HP} {Q : HP → Prop} (h : (((I 65 0) < x1) → (((¬ (I 76 0) = (-1 : Int32)) → (GV G Y_X8_findPut 102 [(0, .ref 58), (1, .int (0 : Int32)), (2, .int (0 : Int32))] I Q)) ∧ (((I 76 0) = (-1 : Int32)) → (GV G Y_X8_findPut 102 [(0, .ref 58), (1, .int (1 : Int32)), (2, .int (0 : Int32))] I Q)))) ∧ ((¬ (I 65 0) < x1) → ((((I 76 0) = 0) → (((¬ (I 76 0) = (-1 : Int32)) → (GV G Y_X8_findPut 102 [(0, .ref 58), (1, .int (0 : Int32)), (2, .int (0 : Int32))] I Q)) ∧ (((I 76 0) = (-1 : Int32)) → (GV G Y_X8_findPut 102 [(0, .ref 58), (1, .int (1 : Int32)), (2, .int (0 : Int32))] I Q)))) ∧ ((¬ (I 76 0) = 0) → (GV G Y_X8_findPut 53 [(0, .ref 58), (1, .int x1), (2, .int (0 : Int32))] I Q))))) : GV G Y_X8_findPut 32 [(0, .ref 58), (1, .int x1)] I Q := by
  show Go G Y_X8_findPut 32 [(0, .ref 58), (1, .int x1)] [] SH I 0 0 _
  refine go_iload_n dX8_findPut_32 rfl 1 rfl ?_
  refine go_aload_n dX8_findPut_33 rfl 0 rfl ?_
  refine go_getR dX8_findPut_34 sh_58 (by decide) f_X8_28 ⟨Nat.le_of_ble_eq_true rfl, Nat.le_of_ble_eq_true rfl, rfl⟩ rfl ?_
  refine go_iconst dX8_findPut_37 (v := (0 : Int32)) (by decide) ?_
  refine go_iald dX8_findPut_38 sh_65 (by decide) (by unfold vp_in; decide) (j := 0) (by decide) ?_
  refine go_icmp_gt (tgt := 84) dX8_findPut_39 (by decide) (fun c1 => ?_) (fun c1 => ?_)
  · have h := h.1 c1
    refine go_aload_n dX8_findPut_84 rfl 0 rfl ?_
    refine go_getR dX8_findPut_85 sh_58 (by decide) f_X8_61 ⟨Nat.le_of_ble_eq_true rfl, Nat.le_of_ble_eq_true rfl, rfl⟩ rfl ?_
    refine go_iconst dX8_findPut_88 (v := (0 : Int32)) (by decide) ?_
    refine go_iald dX8_findPut_89 sh_76 (by decide) (by unfold vp_in; decide) (j := 0) (by decide) ?_
    refine go_iconst dX8_findPut_90 (v := (-1 : Int32)) (by decide) ?_
    refine go_icmp_ne (tgt := 98) dX8_findPut_91 (by decide) (fun c2 => ?_) (fun c2 => ?_)
    · have h := h.1 c2
      refine go_iconst dX8_findPut_98 (v := (0 : Int32)) (by decide) ?_
      refine go_istore_n dX8_findPut_99 rfl (Nat.le_of_ble_eq_true rfl) (L2 := [(1, .int (0 : Int32)), (0, .ref 58)]) rfl ?_
      refine go_iconst dX8_findPut_100 (v := (0 : Int32)) (by decide) ?_
      refine go_istore_n dX8_findPut_101 rfl (Nat.le_of_ble_eq_true rfl) (L2 := [(2, .int (0 : Int32)), (1, .int (0 : Int32)), (0, .ref 58)]) rfl ?_
      exact go_loc [(0, .ref 58), (1, .int (0 : Int32)), (2, .int (0 : Int32))] [2, 1, 0] rfl h
    · have h := h.2 c2
      refine go_iconst dX8_findPut_94 (v := (1 : Int32)) (by decide) ?_
      refine go_goto (tgt := 99) dX8_findPut_95 (by decide) ?_
      refine go_istore_n dX8_findPut_99 rfl (Nat.le_of_ble_eq_true rfl) (L2 := [(1, .int (1 : Int32)), (0, .ref 58)]) rfl ?_
      refine go_iconst dX8_findPut_100 (v := (0 : Int32)) (by decide) ?_
      refine go_istore_n dX8_findPut_101 rfl (Nat.le_of_ble_eq_true rfl) (L2 := [(2, .int (0 : Int32)), (1, .int (1 : Int32)), (0, .ref 58)]) rfl ?_
      exact go_loc [(0, .ref 58), (1, .int (1 : Int32)), (2, .int (0 : Int32))] [2, 1, 0] rfl h
  · have h := h.2 c1
    refine go_aload_n dX8_findPut_42 rfl 0 rfl ?_
    refine go_getR dX8_findPut_43 sh_58 (by decide) f_X8_61 ⟨Nat.le_of_ble_eq_true rfl, Nat.le_of_ble_eq_true rfl, rfl⟩ rfl ?_
    refine go_iconst dX8_findPut_46 (v := (0 : Int32)) (by decide) ?_
    refine go_iald dX8_findPut_47 sh_76 (by decide) (by unfold vp_in; decide) (j := 0) (by decide) ?_
    refine go_if_eq (tgt := 84) dX8_findPut_48 (by decide) (fun c3 => ?_) (fun c3 => ?_)
    · have h := h.1 c3
      refine go_aload_n dX8_findPut_84 rfl 0 rfl ?_
      refine go_getR dX8_findPut_85 sh_58 (by decide) f_X8_61 ⟨Nat.le_of_ble_eq_true rfl, Nat.le_of_ble_eq_true rfl, rfl⟩ rfl ?_
      refine go_iconst dX8_findPut_88 (v := (0 : Int32)) (by decide) ?_
      refine go_iald dX8_findPut_89 sh_76 (by decide) (by unfold vp_in; decide) (j := 0) (by decide) ?_
      refine go_iconst dX8_findPut_90 (v := (-1 : Int32)) (by decide) ?_
      refine go_icmp_ne (tgt := 98) dX8_findPut_91 (by decide) (fun c4 => ?_) (fun c4 => ?_)
      · have h := h.1 c4
        refine go_iconst dX8_findPut_98 (v := (0 : Int32)) (by decide) ?_
        refine go_istore_n dX8_findPut_99 rfl (Nat.le_of_ble_eq_true rfl) (L2 := [(1, .int (0 : Int32)), (0, .ref 58)]) rfl ?_
        refine go_iconst dX8_findPut_100 (v := (0 : Int32)) (by decide) ?_
        refine go_istore_n dX8_findPut_101 rfl (Nat.le_of_ble_eq_true rfl) (L2 := [(2, .int (0 : Int32)), (1, .int (0 : Int32)), (0, .ref 58)]) rfl ?_
        exact go_loc [(0, .ref 58), (1, .int (0 : Int32)), (2, .int (0 : Int32))] [2, 1, 0] rfl h
      · have h := h.2 c4
        refine go_iconst dX8_findPut_94 (v := (1 : Int32)) (by decide) ?_
        refine go_goto (tgt := 99) dX8_findPut_95 (by decide) ?_
        refine go_istore_n dX8_findPut_99 rfl (Nat.le_of_ble_eq_true rfl) (L2 := [(1, .int (1 : Int32)), (0, .ref 58)]) rfl ?_
        refine go_iconst dX8_findPut_100 (v := (0 : Int32)) (by decide) ?_
        refine go_istore_n dX8_findPut_101 rfl (Nat.le_of_ble_eq_true rfl) (L2 := [(2, .int (0 : Int32)), (1, .int (1 : Int32)), (0, .ref 58)]) rfl ?_
        exact go_loc [(0, .ref 58), (1, .int (1 : Int32)), (2, .int (0 : Int32))] [2, 1, 0] rfl h
    · have h := h.2 c3
      refine go_iconst dX8_findPut_51 (v := (0 : Int32)) (by decide) ?_
      refine go_istore_n dX8_findPut_52 rfl (Nat.le_of_ble_eq_true rfl) (L2 := [(2, .int (0 : Int32)), (0, .ref 58), (1, .int x1)]) rfl ?_
      exact go_loc [(0, .ref 58), (1, .int x1), (2, .int (0 : Int32))] [1, 2, 0] rfl h
set_option maxRecDepth 100000 in
set_option maxHeartbeats 4000000 in
theorem v_X8_findPut_53 {G : CX} {x1 : Int32} {x2 : Int32}  {I : HP} {Q : HP → Prop} (h : (((I 65 1) ≤ x2) → (GV G Y_X8_findPut 32 [(0, .ref 58), (1, .int (x1 + 1))] I Q)) ∧ ((¬ (I 65 1) ≤ x2) → (RV G Y_X8_looks [.ref 58, .int (1 : Int32), .int x1, .int x2, .int (-1 : Int32), .int (-1 : Int32)] I (fun I2 => GV G Y_X8_findPut 53 [(0, .ref 58), (1, .int x1), (2, .int (x2 + 1))] I2 Q)))) : GV G Y_X8_findPut 53 [(0, .ref 58), (1, .int x1), (2, .int x2)] I Q := by
  show Go G Y_X8_findPut 53 [(0, .ref 58), (1, .int x1), (2, .int x2)] [] SH I 0 0 _
  refine go_iload_n dX8_findPut_53 rfl 2 rfl ?_
  refine go_aload_n dX8_findPut_54 rfl 0 rfl ?_
  refine go_getR dX8_findPut_55 sh_58 (by decide) f_X8_28 ⟨Nat.le_of_ble_eq_true rfl, Nat.le_of_ble_eq_true rfl, rfl⟩ rfl ?_
  refine go_iconst dX8_findPut_58 (v := (1 : Int32)) (by decide) ?_
  refine go_iald dX8_findPut_59 sh_65 (by decide) (by unfold vp_in; decide) (j := 1) (by decide) ?_
  refine go_icmp_ge (tgt := 78) dX8_findPut_60 (by decide) (fun c1 => ?_) (fun c1 => ?_)
  · have h := h.1 c1
    refine go_iinc dX8_findPut_78 1 rfl (v := (x1 + 1)) rfl (Nat.le_of_ble_eq_true rfl) (L2 := [(1, .int (x1 + 1)), (0, .ref 58), (2, .int x2)]) rfl ?_
    refine go_goto (tgt := 32) dX8_findPut_81 (by decide) ?_
    exact go_loc [(0, .ref 58), (1, .int (x1 + 1))] [1, 0] rfl h
  · have h := h.2 c1
    refine go_aload_n dX8_findPut_63 rfl 0 rfl ?_
    refine go_iconst dX8_findPut_64 (v := (1 : Int32)) (by decide) ?_
    refine go_iload_n dX8_findPut_65 rfl 1 rfl ?_
    refine go_iload_n dX8_findPut_66 rfl 2 rfl ?_
    refine go_iconst dX8_findPut_67 (v := (-1 : Int32)) (by decide) ?_
    refine go_iconst dX8_findPut_68 (v := (-1 : Int32)) (by decide) ?_
    refine go_vcall (Z := Y_X8_looks) (As := [.int (1 : Int32), .int x1, .int x2, .int (-1 : Int32), .int (-1 : Int32)]) (S := []) dX8_findPut_69 ok_X8_looks l_X8_210 (by decide) sh_58 (by decide) (Nat.le_of_ble_eq_true rfl) rfl rfl rfl (Nat.le_of_ble_eq_true rfl) h (fun _ I2 _ hq => ?_)
    obtain ⟨rfl, rfl, h⟩ := hq
    show Go G Y_X8_findPut 72 [(0, .ref 58), (1, .int x1), (2, .int x2)] [] SH I2 0 0 _
    refine go_iinc dX8_findPut_72 2 rfl (v := (x2 + 1)) rfl (Nat.le_of_ble_eq_true rfl) (L2 := [(2, .int (x2 + 1)), (0, .ref 58), (1, .int x1)]) rfl ?_
    refine go_goto (tgt := 53) dX8_findPut_75 (by decide) ?_
    exact go_loc [(0, .ref 58), (1, .int x1), (2, .int (x2 + 1))] [1, 2, 0] rfl h
set_option maxRecDepth 100000 in
set_option maxHeartbeats 4000000 in
theorem v_X8_findPut_102 {G : CX} {x1 : Int32} {x2 : Int32}  {I : HP} {Q : HP → Prop} (h : (((I 65 0) < x2) → (Q I)) ∧ ((¬ (I 65 0) < x2) → (((x1 = 0) → (Q I)) ∧ ((¬ x1 = 0) → (GV G Y_X8_findPut 118 [(0, .ref 58), (1, .int x1), (2, .int x2), (3, .int x2)] I Q))))) : GV G Y_X8_findPut 102 [(0, .ref 58), (1, .int x1), (2, .int x2)] I Q := by
  show Go G Y_X8_findPut 102 [(0, .ref 58), (1, .int x1), (2, .int x2)] [] SH I 0 0 _
  refine go_iload_n dX8_findPut_102 rfl 2 rfl ?_
  refine go_aload_n dX8_findPut_103 rfl 0 rfl ?_
  refine go_getR dX8_findPut_104 sh_58 (by decide) f_X8_28 ⟨Nat.le_of_ble_eq_true rfl, Nat.le_of_ble_eq_true rfl, rfl⟩ rfl ?_
  refine go_iconst dX8_findPut_107 (v := (0 : Int32)) (by decide) ?_
  refine go_iald dX8_findPut_108 sh_65 (by decide) (by unfold vp_in; decide) (j := 0) (by decide) ?_
  refine go_icmp_gt (tgt := 192) dX8_findPut_109 (by decide) (fun c1 => ?_) (fun c1 => ?_)
  · have h := h.1 c1
    exact go_vret dX8_findPut_192 rfl rfl (by decide) ⟨rfl, rfl, h⟩
  · have h := h.2 c1
    refine go_iload_n dX8_findPut_112 rfl 1 rfl ?_
    refine go_if_eq (tgt := 192) dX8_findPut_113 (by decide) (fun c2 => ?_) (fun c2 => ?_)
    · have h := h.1 c2
      exact go_vret dX8_findPut_192 rfl rfl (by decide) ⟨rfl, rfl, h⟩
    · have h := h.2 c2
      refine go_iload_n dX8_findPut_116 rfl 2 rfl ?_
      refine go_istore_n dX8_findPut_117 rfl (Nat.le_of_ble_eq_true rfl) (L2 := [(3, .int x2), (0, .ref 58), (1, .int x1), (2, .int x2)]) rfl ?_
      exact go_loc [(0, .ref 58), (1, .int x1), (2, .int x2), (3, .int x2)] [1, 2, 3, 0] rfl h
set_option maxRecDepth 100000 in
set_option maxHeartbeats 4000000 in
theorem v_X8_findPut_118 {G : CX} {x1 : Int32} {x2 : Int32} {x3 : Int32}  {I : HP} {Q : HP → Prop} (h : (((I 65 0) < x3) → (GV G Y_X8_findPut 102 [(0, .ref 58), (1, .int x1), (2, .int (x2 + 1))] I Q)) ∧ ((¬ (I 65 0) < x3) → (GV G Y_X8_findPut 131 [(0, .ref 58), (1, .int x1), (2, .int x2), (3, .int x3), (4, .int (0 : Int32))] I Q))) : GV G Y_X8_findPut 118 [(0, .ref 58), (1, .int x1), (2, .int x2), (3, .int x3)] I Q := by
  show Go G Y_X8_findPut 118 [(0, .ref 58), (1, .int x1), (2, .int x2), (3, .int x3)] [] SH I 0 0 _
  refine go_iload_n dX8_findPut_118 rfl 3 rfl ?_
  refine go_aload_n dX8_findPut_119 rfl 0 rfl ?_
  refine go_getR dX8_findPut_120 sh_58 (by decide) f_X8_28 ⟨Nat.le_of_ble_eq_true rfl, Nat.le_of_ble_eq_true rfl, rfl⟩ rfl ?_
  refine go_iconst dX8_findPut_123 (v := (0 : Int32)) (by decide) ?_
  refine go_iald dX8_findPut_124 sh_65 (by decide) (by unfold vp_in; decide) (j := 0) (by decide) ?_
  refine go_icmp_gt (tgt := 186) dX8_findPut_125 (by decide) (fun c1 => ?_) (fun c1 => ?_)
  · have h := h.1 c1
    refine go_iinc dX8_findPut_186 2 rfl (v := (x2 + 1)) rfl (Nat.le_of_ble_eq_true rfl) (L2 := [(2, .int (x2 + 1)), (0, .ref 58), (1, .int x1), (3, .int x3)]) rfl ?_
    refine go_goto (tgt := 102) dX8_findPut_189 (by decide) ?_
    exact go_loc [(0, .ref 58), (1, .int x1), (2, .int (x2 + 1))] [1, 2, 0] rfl h
  · have h := h.2 c1
    refine go_iconst dX8_findPut_128 (v := (0 : Int32)) (by decide) ?_
    refine go_istore dX8_findPut_129 (Nat.le_of_ble_eq_true rfl) (L2 := [(4, .int (0 : Int32)), (0, .ref 58), (1, .int x1), (2, .int x2), (3, .int x3)]) rfl ?_
    exact go_loc [(0, .ref 58), (1, .int x1), (2, .int x2), (3, .int x3), (4, .int (0 : Int32))] [1, 2, 3, 4, 0] rfl h
set_option maxRecDepth 100000 in
set_option maxHeartbeats 4000000 in
theorem v_X8_findPut_131 {G : CX} {x1 : Int32} {x2 : Int32} {x3 : Int32} {x4 : Int32}  {I : HP} {Q : HP → Prop} (h : ((((I 65 1) * (I 65 1)) ≤ x4) → (GV G Y_X8_findPut 118 [(0, .ref 58), (1, .int x1), (2, .int x2), (3, .int (x3 + 1))] I Q)) ∧ ((¬ ((I 65 1) * (I 65 1)) ≤ x4) → ((¬ (I 65 1) = 0) ∧ ((¬ (I 65 1) = 0) ∧ (RV G Y_X8_looks [.ref 58, .int (2 : Int32), .int x2, .int (x4 / (I 65 1)), .int x3, .int (x4 - x4 / (I 65 1) * (I 65 1))] I (fun I4 => GV G Y_X8_findPut 131 [(0, .ref 58), (1, .int x1), (2, .int x2), (3, .int x3), (4, .int (x4 + 1))] I4 Q)))))) : GV G Y_X8_findPut 131 [(0, .ref 58), (1, .int x1), (2, .int x2), (3, .int x3), (4, .int x4)] I Q := by
  show Go G Y_X8_findPut 131 [(0, .ref 58), (1, .int x1), (2, .int x2), (3, .int x3), (4, .int x4)] [] SH I 0 0 _
  refine go_iload dX8_findPut_131 4 rfl ?_
  refine go_aload_n dX8_findPut_133 rfl 0 rfl ?_
  refine go_getR dX8_findPut_134 sh_58 (by decide) f_X8_28 ⟨Nat.le_of_ble_eq_true rfl, Nat.le_of_ble_eq_true rfl, rfl⟩ rfl ?_
  refine go_iconst dX8_findPut_137 (v := (1 : Int32)) (by decide) ?_
  refine go_iald dX8_findPut_138 sh_65 (by decide) (by unfold vp_in; decide) (j := 1) (by decide) ?_
  refine go_aload_n dX8_findPut_139 rfl 0 rfl ?_
  refine go_getR dX8_findPut_140 sh_58 (by decide) f_X8_28 ⟨Nat.le_of_ble_eq_true rfl, Nat.le_of_ble_eq_true rfl, rfl⟩ rfl ?_
  refine go_iconst dX8_findPut_143 (v := (1 : Int32)) (by decide) ?_
  refine go_iald dX8_findPut_144 sh_65 (by decide) (by unfold vp_in; decide) (j := 1) (by decide) ?_
  refine go_imul dX8_findPut_145 ?_
  refine go_icmp_ge (tgt := 180) dX8_findPut_146 (by decide) (fun c1 => ?_) (fun c1 => ?_)
  · have h := h.1 c1
    refine go_iinc dX8_findPut_180 3 rfl (v := (x3 + 1)) rfl (Nat.le_of_ble_eq_true rfl) (L2 := [(3, .int (x3 + 1)), (0, .ref 58), (1, .int x1), (2, .int x2), (4, .int x4)]) rfl ?_
    refine go_goto (tgt := 118) dX8_findPut_183 (by decide) ?_
    exact go_loc [(0, .ref 58), (1, .int x1), (2, .int x2), (3, .int (x3 + 1))] [1, 2, 3, 0] rfl h
  · have h := h.2 c1
    refine go_aload_n dX8_findPut_149 rfl 0 rfl ?_
    refine go_iconst dX8_findPut_150 (v := (2 : Int32)) (by decide) ?_
    refine go_iload_n dX8_findPut_151 rfl 2 rfl ?_
    refine go_iload dX8_findPut_152 4 rfl ?_
    refine go_aload_n dX8_findPut_154 rfl 0 rfl ?_
    refine go_getR dX8_findPut_155 sh_58 (by decide) f_X8_28 ⟨Nat.le_of_ble_eq_true rfl, Nat.le_of_ble_eq_true rfl, rfl⟩ rfl ?_
    refine go_iconst dX8_findPut_158 (v := (1 : Int32)) (by decide) ?_
    refine go_iald dX8_findPut_159 sh_65 (by decide) (by unfold vp_in; decide) (j := 1) (by decide) ?_
    have hb2 := h.1
    have h := h.2
    refine go_idiv dX8_findPut_160 hb2 ?_
    refine go_iload_n dX8_findPut_161 rfl 3 rfl ?_
    refine go_iload dX8_findPut_162 4 rfl ?_
    refine go_aload_n dX8_findPut_164 rfl 0 rfl ?_
    refine go_getR dX8_findPut_165 sh_58 (by decide) f_X8_28 ⟨Nat.le_of_ble_eq_true rfl, Nat.le_of_ble_eq_true rfl, rfl⟩ rfl ?_
    refine go_iconst dX8_findPut_168 (v := (1 : Int32)) (by decide) ?_
    refine go_iald dX8_findPut_169 sh_65 (by decide) (by unfold vp_in; decide) (j := 1) (by decide) ?_
    have hb3 := h.1
    have h := h.2
    refine go_irem dX8_findPut_170 hb3 ?_
    refine go_vcall (Z := Y_X8_looks) (As := [.int (2 : Int32), .int x2, .int (x4 / (I 65 1)), .int x3, .int (x4 - x4 / (I 65 1) * (I 65 1))]) (S := []) dX8_findPut_171 ok_X8_looks l_X8_210 (by decide) sh_58 (by decide) (Nat.le_of_ble_eq_true rfl) rfl rfl rfl (Nat.le_of_ble_eq_true rfl) h (fun _ I4 _ hq => ?_)
    obtain ⟨rfl, rfl, h⟩ := hq
    show Go G Y_X8_findPut 174 [(0, .ref 58), (1, .int x1), (2, .int x2), (3, .int x3), (4, .int x4)] [] SH I4 0 0 _
    refine go_iinc dX8_findPut_174 4 rfl (v := (x4 + 1)) rfl (Nat.le_of_ble_eq_true rfl) (L2 := [(4, .int (x4 + 1)), (0, .ref 58), (1, .int x1), (2, .int x2), (3, .int x3)]) rfl ?_
    refine go_goto (tgt := 131) dX8_findPut_177 (by decide) ?_
    exact go_loc [(0, .ref 58), (1, .int x1), (2, .int x2), (3, .int x3), (4, .int (x4 + 1))] [1, 2, 3, 4, 0] rfl h
set_option maxRecDepth 100000 in
set_option maxHeartbeats 4000000 in
theorem v_X8_put {G : CX} {a1 : Int32}  {I : HP} {Q : HP → Int32 → Prop} (h : RZ G Y_X8_in [.long (a1.toInt64), .long (0 : Int64), .long (5 : Int64)] I (fun I1 r2 => ((¬ (bI r2) = 0) → (RV G Y_X8_find [.ref 58] I1 (fun I4 => RV G Y_X8_findPut [.ref 58] I4 (fun I5 => (vp_in a1 6) ∧ (Q I5 (I5 76 (nn a1))))))) ∧ (((bI r2) = 0) → (Q I1 (-2 : Int32))))) : RI G Y_X8_put [.ref 58, .int a1] I Q := by
  refine ret_of (show plainName RX8 = true by decide) (Nat.le_of_ble_eq_true rfl) ?_
  show Go G Y_X8_put 0 [(0, .ref 58), (1, .int a1)] [] SH I 0 0 _
  refine go_iload_n dX8_put_0 rfl 1 rfl ?_
  refine go_i2l dX8_put_1 ?_
  refine go_lconst dX8_put_2 (v := (0 : Int64)) (by decide) ?_
  refine go_ldc2 dX8_put_3 k_X8_123 ?_
  refine go_scall (Z := Y_X8_in) (As := [.long (a1.toInt64), .long (0 : Int64), .long (5 : Int64)]) (S := []) dX8_put_6 ok_X8_in l_X8_72 (by decide) rfl rfl (Nat.le_of_ble_eq_true rfl) h (fun _ I1 _ hq => ?_)
  obtain ⟨rfl, r2, rfl, h⟩ := hq
  show Go G Y_X8_put 9 [(0, .ref 58), (1, .int a1)] [.int (bI r2)] SH I1 0 0 _
  refine go_if_ne (tgt := 15) dX8_put_9 (by decide) (fun c3 => ?_) (fun c3 => ?_)
  · have h := h.1 c3
    refine go_aload_n dX8_put_15 rfl 0 rfl ?_
    refine go_vcall (Z := Y_X8_find) (As := []) (S := []) dX8_put_16 ok_X8_find l_X8_162 (by decide) sh_58 (by decide) (Nat.le_of_ble_eq_true rfl) rfl rfl rfl (Nat.le_of_ble_eq_true rfl) h (fun _ I4 _ hq => ?_)
    obtain ⟨rfl, rfl, h⟩ := hq
    show Go G Y_X8_put 19 [(0, .ref 58), (1, .int a1)] [] SH I4 0 0 _
    refine go_aload_n dX8_put_19 rfl 0 rfl ?_
    refine go_vcall (Z := Y_X8_findPut) (As := []) (S := []) dX8_put_20 ok_X8_findPut l_X8_214 (by decide) sh_58 (by decide) (Nat.le_of_ble_eq_true rfl) rfl rfl rfl (Nat.le_of_ble_eq_true rfl) h (fun _ I5 _ hq => ?_)
    obtain ⟨rfl, rfl, h⟩ := hq
    show Go G Y_X8_put 23 [(0, .ref 58), (1, .int a1)] [] SH I5 0 0 _
    refine go_aload_n dX8_put_23 rfl 0 rfl ?_
    refine go_getR dX8_put_24 sh_58 (by decide) f_X8_61 ⟨Nat.le_of_ble_eq_true rfl, Nat.le_of_ble_eq_true rfl, rfl⟩ rfl ?_
    refine go_iload_n dX8_put_27 rfl 1 rfl ?_
    have hb6 := h.1
    have h := h.2
    refine go_iald dX8_put_28 sh_76 (by decide) hb6 rfl ?_
    exact go_iret dX8_put_29 rfl rfl (by decide) ⟨rfl, _, rfl, h⟩
  · have h := h.2 c3
    refine go_bipush dX8_put_12 (v := (-2 : Int32)) (by decide) ?_
    exact go_iret dX8_put_14 rfl rfl (by decide) ⟨rfl, _, rfl, h⟩
set_option maxRecDepth 100000 in
set_option maxHeartbeats 4000000 in
theorem v_X8_unfolds {G : CX} {a1 : Int32} {a2 : Int32}  {I : HP} {Q : HP → Prop} (h : GV G Y_X8_unfolds 7 [(0, .ref 58), (1, .int a1), (3, .int a2), (4, .int (a1 - (1 : Int32)))] I Q) : RV G Y_X8_unfolds [.ref 58, .int a1, .int a2] I Q := by
  refine ret_of (show plainName RX8 = true by decide) (Nat.le_of_ble_eq_true rfl) ?_
  show Go G Y_X8_unfolds 0 [(0, .ref 58), (1, .int a1), (2, .int a2)] [] SH I 0 0 _
  refine go_iload_n dX8_unfolds_0 rfl 2 rfl ?_
  refine go_istore_n dX8_unfolds_1 rfl (Nat.le_of_ble_eq_true rfl) (L2 := [(3, .int a2), (0, .ref 58), (1, .int a1), (2, .int a2)]) rfl ?_
  refine go_iload_n dX8_unfolds_2 rfl 2 rfl ?_
  refine go_iconst dX8_unfolds_3 (v := (1 : Int32)) (by decide) ?_
  refine go_isub dX8_unfolds_4 ?_
  refine go_istore dX8_unfolds_5 (Nat.le_of_ble_eq_true rfl) (L2 := [(4, .int (a1 - (1 : Int32))), (3, .int a2), (0, .ref 58), (1, .int a1), (2, .int a2)]) rfl ?_
  exact go_loc [(0, .ref 58), (1, .int a1), (3, .int a2), (4, .int (a1 - (1 : Int32)))] [2, 3, 1, 0] rfl h
set_option maxRecDepth 100000 in
set_option maxHeartbeats 4000000 in
theorem v_X8_unfolds_7 {G : CX} {x1 : Int32} {x3 : Int32} {x4 : Int32}  {I : HP} {Q : HP → Prop} (h : ((x4 < 0) → (GV G Y_X8_unfolds 43 [(0, .ref 58), (1, .int x1), (4, .int (x1 - (1 : Int32)))] I Q)) ∧ ((¬ x4 < 0) → ((¬ (x1 - x4) = 0) ∧ ((vp_in x4 14) ∧ ((¬ (x1 - x4) = 0) ∧ (GV G Y_X8_unfolds 7 [(0, .ref 58), (1, .int x1), (3, .int (x3 / (x1 - x4))), (4, .int (x4 + (-1)))] (st I 68 (nn x4) (x3 - x3 / (x1 - x4) * (x1 - x4))) Q)))))) : GV G Y_X8_unfolds 7 [(0, .ref 58), (1, .int x1), (3, .int x3), (4, .int x4)] I Q := by
  show Go G Y_X8_unfolds 7 [(0, .ref 58), (1, .int x1), (3, .int x3), (4, .int x4)] [] SH I 0 0 _
  refine go_iload dX8_unfolds_7 3 rfl ?_
  refine go_if_lt (tgt := 38) dX8_unfolds_9 (by decide) (fun c1 => ?_) (fun c1 => ?_)
  · have h := h.1 c1
    refine go_iload_n dX8_unfolds_38 rfl 1 rfl ?_
    refine go_iconst dX8_unfolds_39 (v := (1 : Int32)) (by decide) ?_
    refine go_isub dX8_unfolds_40 ?_
    refine go_istore dX8_unfolds_41 (Nat.le_of_ble_eq_true rfl) (L2 := [(4, .int (x1 - (1 : Int32))), (0, .ref 58), (1, .int x1), (3, .int x3)]) rfl ?_
    exact go_loc [(0, .ref 58), (1, .int x1), (4, .int (x1 - (1 : Int32)))] [1, 2, 0] rfl h
  · have h := h.2 c1
    refine go_aload_n dX8_unfolds_12 rfl 0 rfl ?_
    refine go_getR dX8_unfolds_13 sh_58 (by decide) f_X8_37 ⟨Nat.le_of_ble_eq_true rfl, Nat.le_of_ble_eq_true rfl, rfl⟩ rfl ?_
    refine go_iload dX8_unfolds_16 3 rfl ?_
    refine go_iload_n dX8_unfolds_18 rfl 2 rfl ?_
    refine go_iload_n dX8_unfolds_19 rfl 1 rfl ?_
    refine go_iload dX8_unfolds_20 3 rfl ?_
    refine go_isub dX8_unfolds_22 ?_
    have hb2 := h.1
    have h := h.2
    refine go_irem dX8_unfolds_23 hb2 ?_
    have hb3 := h.1
    have h := h.2
    refine go_iast dX8_unfolds_24 sh_68 (by decide) hb3 (j := (nn x4)) rfl ?_
    refine go_iload_n dX8_unfolds_25 rfl 2 rfl ?_
    refine go_iload_n dX8_unfolds_26 rfl 1 rfl ?_
    refine go_iload dX8_unfolds_27 3 rfl ?_
    refine go_isub dX8_unfolds_29 ?_
    have hb4 := h.1
    have h := h.2
    refine go_idiv dX8_unfolds_30 hb4 ?_
    refine go_istore_n dX8_unfolds_31 rfl (Nat.le_of_ble_eq_true rfl) (L2 := [(3, .int (x3 / (x1 - x4))), (0, .ref 58), (1, .int x1), (4, .int x4)]) rfl ?_
    refine go_iinc dX8_unfolds_32 3 rfl (v := (x4 + (-1))) rfl (Nat.le_of_ble_eq_true rfl) (L2 := [(4, .int (x4 + (-1))), (3, .int (x3 / (x1 - x4))), (0, .ref 58), (1, .int x1)]) rfl ?_
    refine go_goto (tgt := 7) dX8_unfolds_35 (by decide) ?_
    exact go_loc [(0, .ref 58), (1, .int x1), (3, .int (x3 / (x1 - x4))), (4, .int (x4 + (-1)))] [2, 3, 1, 0] rfl h
set_option maxRecDepth 100000 in
set_option maxHeartbeats 4000000 in
theorem v_X8_unfolds_43 {G : CX} {x1 : Int32} {x4 : Int32}  {I : HP} {Q : HP → Prop} (h : ((x4 < 0) → (Q I)) ∧ ((¬ x4 < 0) → (GV G Y_X8_unfolds 54 [(0, .ref 58), (1, .int x1), (4, .int x4), (5, .int (x4 + (1 : Int32)))] I Q))) : GV G Y_X8_unfolds 43 [(0, .ref 58), (1, .int x1), (4, .int x4)] I Q := by
  show Go G Y_X8_unfolds 43 [(0, .ref 58), (1, .int x1), (4, .int x4)] [] SH I 0 0 _
  refine go_iload dX8_unfolds_43 2 rfl ?_
  refine go_if_lt (tgt := 104) dX8_unfolds_45 (by decide) (fun c1 => ?_) (fun c1 => ?_)
  · have h := h.1 c1
    exact go_vret dX8_unfolds_104 rfl rfl (by decide) ⟨rfl, rfl, h⟩
  · have h := h.2 c1
    refine go_iload dX8_unfolds_48 2 rfl ?_
    refine go_iconst dX8_unfolds_50 (v := (1 : Int32)) (by decide) ?_
    refine go_iadd dX8_unfolds_51 ?_
    refine go_istore dX8_unfolds_52 (Nat.le_of_ble_eq_true rfl) (L2 := [(5, .int (x4 + (1 : Int32))), (0, .ref 58), (1, .int x1), (4, .int x4)]) rfl ?_
    exact go_loc [(0, .ref 58), (1, .int x1), (4, .int x4), (5, .int (x4 + (1 : Int32)))] [1, 2, 3, 0] rfl h
set_option maxRecDepth 100000 in
set_option maxHeartbeats 4000000 in
theorem v_X8_unfolds_54 {G : CX} {x1 : Int32} {x4 : Int32} {x5 : Int32}  {I : HP} {Q : HP → Prop} (h : ((x1 ≤ x5) → (GV G Y_X8_unfolds 43 [(0, .ref 58), (1, .int x1), (4, .int (x4 + (-1)))] I Q)) ∧ ((¬ x1 ≤ x5) → ((vp_in x5 14) ∧ ((vp_in x4 14) ∧ ((((I 68 (nn x5)) < (I 68 (nn x4))) → (GV G Y_X8_unfolds 54 [(0, .ref 58), (1, .int x1), (4, .int x4), (5, .int (x5 + 1))] (st I 68 (nn x5) ((I 68 (nn x5)) + (0 : Int32))) Q)) ∧ ((¬ (I 68 (nn x5)) < (I 68 (nn x4))) → (GV G Y_X8_unfolds 54 [(0, .ref 58), (1, .int x1), (4, .int x4), (5, .int (x5 + 1))] (st I 68 (nn x5) ((I 68 (nn x5)) + (1 : Int32))) Q))))))) : GV G Y_X8_unfolds 54 [(0, .ref 58), (1, .int x1), (4, .int x4), (5, .int x5)] I Q := by
  show Go G Y_X8_unfolds 54 [(0, .ref 58), (1, .int x1), (4, .int x4), (5, .int x5)] [] SH I 0 0 _
  refine go_iload dX8_unfolds_54 3 rfl ?_
  refine go_iload_n dX8_unfolds_56 rfl 1 rfl ?_
  refine go_icmp_ge (tgt := 98) dX8_unfolds_57 (by decide) (fun c1 => ?_) (fun c1 => ?_)
  · have h := h.1 c1
    refine go_iinc dX8_unfolds_98 2 rfl (v := (x4 + (-1))) rfl (Nat.le_of_ble_eq_true rfl) (L2 := [(4, .int (x4 + (-1))), (0, .ref 58), (1, .int x1), (5, .int x5)]) rfl ?_
    refine go_goto (tgt := 43) dX8_unfolds_101 (by decide) ?_
    exact go_loc [(0, .ref 58), (1, .int x1), (4, .int (x4 + (-1)))] [1, 2, 0] rfl h
  · have h := h.2 c1
    refine go_aload_n dX8_unfolds_60 rfl 0 rfl ?_
    refine go_getR dX8_unfolds_61 sh_58 (by decide) f_X8_37 ⟨Nat.le_of_ble_eq_true rfl, Nat.le_of_ble_eq_true rfl, rfl⟩ rfl ?_
    refine go_iload dX8_unfolds_64 3 rfl ?_
    refine go_dup2 dX8_unfolds_66 rfl rfl ?_
    have hb2 := h.1
    have h := h.2
    refine go_iald dX8_unfolds_67 sh_68 (by decide) hb2 rfl ?_
    refine go_aload_n dX8_unfolds_68 rfl 0 rfl ?_
    refine go_getR dX8_unfolds_69 sh_58 (by decide) f_X8_37 ⟨Nat.le_of_ble_eq_true rfl, Nat.le_of_ble_eq_true rfl, rfl⟩ rfl ?_
    refine go_iload dX8_unfolds_72 3 rfl ?_
    refine go_iald dX8_unfolds_74 sh_68 (by decide) hb2 rfl ?_
    refine go_aload_n dX8_unfolds_75 rfl 0 rfl ?_
    refine go_getR dX8_unfolds_76 sh_58 (by decide) f_X8_37 ⟨Nat.le_of_ble_eq_true rfl, Nat.le_of_ble_eq_true rfl, rfl⟩ rfl ?_
    refine go_iload dX8_unfolds_79 2 rfl ?_
    have hb3 := h.1
    have h := h.2
    refine go_iald dX8_unfolds_81 sh_68 (by decide) hb3 rfl ?_
    refine go_icmp_lt (tgt := 89) dX8_unfolds_82 (by decide) (fun c4 => ?_) (fun c4 => ?_)
    · have h := h.1 c4
      refine go_iconst dX8_unfolds_89 (v := (0 : Int32)) (by decide) ?_
      refine go_iadd dX8_unfolds_90 ?_
      refine go_iast dX8_unfolds_91 sh_68 (by decide) hb2 (j := (nn x5)) rfl ?_
      refine go_iinc dX8_unfolds_92 3 rfl (v := (x5 + 1)) rfl (Nat.le_of_ble_eq_true rfl) (L2 := [(5, .int (x5 + 1)), (0, .ref 58), (1, .int x1), (4, .int x4)]) rfl ?_
      refine go_goto (tgt := 54) dX8_unfolds_95 (by decide) ?_
      exact go_loc [(0, .ref 58), (1, .int x1), (4, .int x4), (5, .int (x5 + 1))] [1, 2, 3, 0] rfl h
    · have h := h.2 c4
      refine go_iconst dX8_unfolds_85 (v := (1 : Int32)) (by decide) ?_
      refine go_goto (tgt := 90) dX8_unfolds_86 (by decide) ?_
      refine go_iadd dX8_unfolds_90 ?_
      refine go_iast dX8_unfolds_91 sh_68 (by decide) hb2 (j := (nn x5)) rfl ?_
      refine go_iinc dX8_unfolds_92 3 rfl (v := (x5 + 1)) rfl (Nat.le_of_ble_eq_true rfl) (L2 := [(5, .int (x5 + 1)), (0, .ref 58), (1, .int x1), (4, .int x4)]) rfl ?_
      refine go_goto (tgt := 54) dX8_unfolds_95 (by decide) ?_
      exact go_loc [(0, .ref 58), (1, .int x1), (4, .int x4), (5, .int (x5 + 1))] [1, 2, 3, 0] rfl h
set_option maxRecDepth 100000 in
set_option maxHeartbeats 4000000 in
theorem v_X8_findOrder {G : CX}   {I : HP} {Q : HP → Prop} (h : RI G Y_X8_lesser [.int (I 65 0), .int (7 : Int32)] I (fun I1 r2 => GV G Y_X8_findOrder 16 [(0, .ref 58), (1, .int r2), (2, .int (1 : Int32)), (3, .int (2 : Int32))] I1 Q)) : RV G Y_X8_findOrder [.ref 58] I Q := by
  refine ret_of (show plainName RX8 = true by decide) (Nat.le_of_ble_eq_true rfl) ?_
  show Go G Y_X8_findOrder 0 [(0, .ref 58)] [] SH I 0 0 _
  refine go_aload_n dX8_findOrder_0 rfl 0 rfl ?_
  refine go_getR dX8_findOrder_1 sh_58 (by decide) f_X8_28 ⟨Nat.le_of_ble_eq_true rfl, Nat.le_of_ble_eq_true rfl, rfl⟩ rfl ?_
  refine go_iconst dX8_findOrder_4 (v := (0 : Int32)) (by decide) ?_
  refine go_iald dX8_findOrder_5 sh_65 (by decide) (by unfold vp_in; decide) (j := 0) (by decide) ?_
  refine go_bipush dX8_findOrder_6 (v := (7 : Int32)) (by decide) ?_
  refine go_scall (Z := Y_X8_lesser) (As := [.int (I 65 0), .int (7 : Int32)]) (S := []) dX8_findOrder_8 ok_X8_lesser l_X8_217 (by decide) rfl rfl (Nat.le_of_ble_eq_true rfl) h (fun _ I1 _ hq => ?_)
  obtain ⟨rfl, r2, rfl, h⟩ := hq
  show Go G Y_X8_findOrder 11 [(0, .ref 58)] [.int r2] SH I1 0 0 _
  refine go_istore_n dX8_findOrder_11 rfl (Nat.le_of_ble_eq_true rfl) (L2 := [(1, .int r2), (0, .ref 58)]) rfl ?_
  refine go_iconst dX8_findOrder_12 (v := (1 : Int32)) (by decide) ?_
  refine go_istore_n dX8_findOrder_13 rfl (Nat.le_of_ble_eq_true rfl) (L2 := [(2, .int (1 : Int32)), (1, .int r2), (0, .ref 58)]) rfl ?_
  refine go_iconst dX8_findOrder_14 (v := (2 : Int32)) (by decide) ?_
  refine go_istore_n dX8_findOrder_15 rfl (Nat.le_of_ble_eq_true rfl) (L2 := [(3, .int (2 : Int32)), (2, .int (1 : Int32)), (1, .int r2), (0, .ref 58)]) rfl ?_
  exact go_loc [(0, .ref 58), (1, .int r2), (2, .int (1 : Int32)), (3, .int (2 : Int32))] [3, 2, 1, 0] rfl h
set_option maxRecDepth 100000 in
set_option maxHeartbeats 4000000 in
theorem v_X8_findOrder_16 {G : CX} {x1 : Int32} {x2 : Int32} {x3 : Int32}  {I : HP} {Q : HP → Prop} (h : ((x1 < x3) → (GV G Y_X8_findOrder 43 [(0, .ref 58), (1, .int x1), (2, .int x2), (3, .int (0 : Int32))] (st (st I 58 26 (-1 : Int32)) 58 27 (0 : Int32)) Q)) ∧ ((¬ x1 < x3) → (GV G Y_X8_findOrder 16 [(0, .ref 58), (1, .int x1), (2, .int (x2 * x3)), (3, .int (x3 + 1))] I Q))) : GV G Y_X8_findOrder 16 [(0, .ref 58), (1, .int x1), (2, .int x2), (3, .int x3)] I Q := by
  show Go G Y_X8_findOrder 16 [(0, .ref 58), (1, .int x1), (2, .int x2), (3, .int x3)] [] SH I 0 0 _
  refine go_iload_n dX8_findOrder_16 rfl 3 rfl ?_
  refine go_iload_n dX8_findOrder_17 rfl 1 rfl ?_
  refine go_icmp_gt (tgt := 31) dX8_findOrder_18 (by decide) (fun c1 => ?_) (fun c1 => ?_)
  · have h := h.1 c1
    refine go_aload_n dX8_findOrder_31 rfl 0 rfl ?_
    refine go_iconst dX8_findOrder_32 (v := (-1 : Int32)) (by decide) ?_
    refine go_putT dX8_findOrder_33 sh_58 (by decide) p_X8_220 ⟨Nat.le_of_ble_eq_true rfl, Nat.le_of_ble_eq_true rfl, rfl⟩ rfl rfl ?_
    refine go_aload_n dX8_findOrder_36 rfl 0 rfl ?_
    refine go_iconst dX8_findOrder_37 (v := (0 : Int32)) (by decide) ?_
    refine go_putT dX8_findOrder_38 sh_58 (by decide) p_X8_223 ⟨Nat.le_of_ble_eq_true rfl, Nat.le_of_ble_eq_true rfl, rfl⟩ rfl rfl ?_
    refine go_iconst dX8_findOrder_41 (v := (0 : Int32)) (by decide) ?_
    refine go_istore_n dX8_findOrder_42 rfl (Nat.le_of_ble_eq_true rfl) (L2 := [(3, .int (0 : Int32)), (0, .ref 58), (1, .int x1), (2, .int x2)]) rfl ?_
    exact go_loc [(0, .ref 58), (1, .int x1), (2, .int x2), (3, .int (0 : Int32))] [1, 2, 3, 0] rfl h
  · have h := h.2 c1
    refine go_iload_n dX8_findOrder_21 rfl 2 rfl ?_
    refine go_iload_n dX8_findOrder_22 rfl 3 rfl ?_
    refine go_imul dX8_findOrder_23 ?_
    refine go_istore_n dX8_findOrder_24 rfl (Nat.le_of_ble_eq_true rfl) (L2 := [(2, .int (x2 * x3)), (0, .ref 58), (1, .int x1), (3, .int x3)]) rfl ?_
    refine go_iinc dX8_findOrder_25 3 rfl (v := (x3 + 1)) rfl (Nat.le_of_ble_eq_true rfl) (L2 := [(3, .int (x3 + 1)), (2, .int (x2 * x3)), (0, .ref 58), (1, .int x1)]) rfl ?_
    refine go_goto (tgt := 16) dX8_findOrder_28 (by decide) ?_
    exact go_loc [(0, .ref 58), (1, .int x1), (2, .int (x2 * x3)), (3, .int (x3 + 1))] [2, 3, 1, 0] rfl h
set_option maxRecDepth 100000 in
set_option maxHeartbeats 4000000 in
theorem v_X8_findOrder_43 {G : CX} {x1 : Int32} {x2 : Int32} {x3 : Int32}  {I : HP} {Q : HP → Prop} (h : ((x2 ≤ x3) → (Q I)) ∧ ((¬ x2 ≤ x3) → (RV G Y_X8_unfolds [.ref 58, .int x1, .int x3] I (fun I2 => RV G Y_X8_says [.ref 58, .int ((st I2 58 11 x1) 67 0), .int (0 : Int32), .int (99 : Int32)] (st I2 58 11 x1) (fun I3 => (((I3 58 21) < (I3 58 26)) → ((((I3 58 26) = (-1 : Int32)) → (GV G Y_X8_findOrder 144 [(0, .ref 58), (1, .int x1), (2, .int x2), (3, .int x3), (5, .int (0 : Int32))] (st (st I3 58 26 (I3 58 21)) 58 27 ((st I3 58 26 (I3 58 21)) 58 20)) Q)) ∧ ((¬ (I3 58 26) = (-1 : Int32)) → (GV G Y_X8_findOrder 144 [(0, .ref 58), (1, .int x1), (2, .int x2), (3, .int x3), (5, .int (0 : Int32))] (st (st I3 58 26 (I3 58 21)) 58 27 ((st I3 58 26 (I3 58 21)) 58 20)) Q)))) ∧ ((¬ (I3 58 21) < (I3 58 26)) → (((¬ (I3 58 21) = (I3 58 26)) → ((((I3 58 26) = (-1 : Int32)) → (GV G Y_X8_findOrder 144 [(0, .ref 58), (1, .int x1), (2, .int x2), (3, .int x3), (5, .int (0 : Int32))] (st (st I3 58 26 (I3 58 21)) 58 27 ((st I3 58 26 (I3 58 21)) 58 20)) Q)) ∧ ((¬ (I3 58 26) = (-1 : Int32)) → (GV G Y_X8_findOrder 43 [(0, .ref 58), (1, .int x1), (2, .int x2), (3, .int (x3 + 1))] I3 Q)))) ∧ (((I3 58 21) = (I3 58 26)) → ((((I3 58 27) ≤ (I3 58 20)) → ((((I3 58 26) = (-1 : Int32)) → (GV G Y_X8_findOrder 144 [(0, .ref 58), (1, .int x1), (2, .int x2), (3, .int x3), (5, .int (0 : Int32))] (st (st I3 58 26 (I3 58 21)) 58 27 ((st I3 58 26 (I3 58 21)) 58 20)) Q)) ∧ ((¬ (I3 58 26) = (-1 : Int32)) → (GV G Y_X8_findOrder 43 [(0, .ref 58), (1, .int x1), (2, .int x2), (3, .int (x3 + 1))] I3 Q)))) ∧ ((¬ (I3 58 27) ≤ (I3 58 20)) → ((((I3 58 26) = (-1 : Int32)) → (GV G Y_X8_findOrder 144 [(0, .ref 58), (1, .int x1), (2, .int x2), (3, .int x3), (5, .int (0 : Int32))] (st (st I3 58 26 (I3 58 21)) 58 27 ((st I3 58 26 (I3 58 21)) 58 20)) Q)) ∧ ((¬ (I3 58 26) = (-1 : Int32)) → (GV G Y_X8_findOrder 144 [(0, .ref 58), (1, .int x1), (2, .int x2), (3, .int x3), (5, .int (0 : Int32))] (st (st I3 58 26 (I3 58 21)) 58 27 ((st I3 58 26 (I3 58 21)) 58 20)) Q))))))))))))) : GV G Y_X8_findOrder 43 [(0, .ref 58), (1, .int x1), (2, .int x2), (3, .int x3)] I Q := by
  show Go G Y_X8_findOrder 43 [(0, .ref 58), (1, .int x1), (2, .int x2), (3, .int x3)] [] SH I 0 0 _
  refine go_iload_n dX8_findOrder_43 rfl 3 rfl ?_
  refine go_iload_n dX8_findOrder_44 rfl 2 rfl ?_
  refine go_icmp_ge (tgt := 176) dX8_findOrder_45 (by decide) (fun c1 => ?_) (fun c1 => ?_)
  · have h := h.1 c1
    exact go_vret dX8_findOrder_176 rfl rfl (by decide) ⟨rfl, rfl, h⟩
  · have h := h.2 c1
    refine go_aload_n dX8_findOrder_48 rfl 0 rfl ?_
    refine go_iload_n dX8_findOrder_49 rfl 1 rfl ?_
    refine go_iload_n dX8_findOrder_50 rfl 3 rfl ?_
    refine go_vcall (Z := Y_X8_unfolds) (As := [.int x1, .int x3]) (S := []) dX8_findOrder_51 ok_X8_unfolds l_X8_226 (by decide) sh_58 (by decide) (Nat.le_of_ble_eq_true rfl) rfl rfl rfl (Nat.le_of_ble_eq_true rfl) h (fun _ I2 _ hq => ?_)
    obtain ⟨rfl, rfl, h⟩ := hq
    show Go G Y_X8_findOrder 54 [(0, .ref 58), (1, .int x1), (2, .int x2), (3, .int x3)] [] SH I2 0 0 _
    refine go_aload_n dX8_findOrder_54 rfl 0 rfl ?_
    refine go_iload_n dX8_findOrder_55 rfl 1 rfl ?_
    refine go_putT dX8_findOrder_56 sh_58 (by decide) p_X8_128 ⟨Nat.le_of_ble_eq_true rfl, Nat.le_of_ble_eq_true rfl, rfl⟩ rfl rfl ?_
    refine go_aload_n dX8_findOrder_59 rfl 0 rfl ?_
    refine go_aload_n dX8_findOrder_60 rfl 0 rfl ?_
    refine go_getR dX8_findOrder_61 sh_58 (by decide) f_X8_34 ⟨Nat.le_of_ble_eq_true rfl, Nat.le_of_ble_eq_true rfl, rfl⟩ rfl ?_
    refine go_iconst dX8_findOrder_64 (v := (0 : Int32)) (by decide) ?_
    refine go_iald dX8_findOrder_65 sh_67 (by decide) (by unfold vp_in; decide) (j := 0) (by decide) ?_
    refine go_iconst dX8_findOrder_66 (v := (0 : Int32)) (by decide) ?_
    refine go_bipush dX8_findOrder_67 (v := (99 : Int32)) (by decide) ?_
    refine go_vcall (Z := Y_X8_says) (As := [.int ((st I2 58 11 x1) 67 0), .int (0 : Int32), .int (99 : Int32)]) (S := []) dX8_findOrder_69 ok_X8_says l_X8_158 (by decide) sh_58 (by decide) (Nat.le_of_ble_eq_true rfl) rfl rfl rfl (Nat.le_of_ble_eq_true rfl) h (fun _ I3 _ hq => ?_)
    obtain ⟨rfl, rfl, h⟩ := hq
    show Go G Y_X8_findOrder 72 [(0, .ref 58), (1, .int x1), (2, .int x2), (3, .int x3)] [] SH I3 0 0 _
    refine go_aload_n dX8_findOrder_72 rfl 0 rfl ?_
    refine go_getI dX8_findOrder_73 sh_58 (by decide) f_X8_143 ⟨Nat.le_of_ble_eq_true rfl, Nat.le_of_ble_eq_true rfl, rfl⟩ ?_
    refine go_aload_n dX8_findOrder_76 rfl 0 rfl ?_
    refine go_getI dX8_findOrder_77 sh_58 (by decide) f_X8_220 ⟨Nat.le_of_ble_eq_true rfl, Nat.le_of_ble_eq_true rfl, rfl⟩ ?_
    refine go_icmp_lt (tgt := 105) dX8_findOrder_80 (by decide) (fun c4 => ?_) (fun c4 => ?_)
    · have h := h.1 c4
      refine go_iconst dX8_findOrder_105 (v := (1 : Int32)) (by decide) ?_
      refine go_goto (tgt := 110) dX8_findOrder_106 (by decide) ?_
      refine go_istore dX8_findOrder_110 (Nat.le_of_ble_eq_true rfl) (L2 := [(4, .int (1 : Int32)), (0, .ref 58), (1, .int x1), (2, .int x2), (3, .int x3)]) rfl ?_
      refine go_aload_n dX8_findOrder_112 rfl 1 rfl ?_
      refine go_getI dX8_findOrder_113 sh_58 (by decide) f_X8_220 ⟨Nat.le_of_ble_eq_true rfl, Nat.le_of_ble_eq_true rfl, rfl⟩ ?_
      refine go_iconst dX8_findOrder_116 (v := (-1 : Int32)) (by decide) ?_
      refine go_icmp_eq (tgt := 125) dX8_findOrder_117 (by decide) (fun c5 => ?_) (fun c5 => ?_)
      · have h := h.1 c5
        refine go_aload_n dX8_findOrder_125 rfl 1 rfl ?_
        refine go_aload_n dX8_findOrder_126 rfl 1 rfl ?_
        refine go_getI dX8_findOrder_127 sh_58 (by decide) f_X8_143 ⟨Nat.le_of_ble_eq_true rfl, Nat.le_of_ble_eq_true rfl, rfl⟩ ?_
        refine go_putT dX8_findOrder_130 sh_58 (by decide) p_X8_220 ⟨Nat.le_of_ble_eq_true rfl, Nat.le_of_ble_eq_true rfl, rfl⟩ rfl rfl ?_
        refine go_aload_n dX8_findOrder_133 rfl 1 rfl ?_
        refine go_aload_n dX8_findOrder_134 rfl 1 rfl ?_
        refine go_getI dX8_findOrder_135 sh_58 (by decide) f_X8_140 ⟨Nat.le_of_ble_eq_true rfl, Nat.le_of_ble_eq_true rfl, rfl⟩ ?_
        refine go_putT dX8_findOrder_138 sh_58 (by decide) p_X8_223 ⟨Nat.le_of_ble_eq_true rfl, Nat.le_of_ble_eq_true rfl, rfl⟩ rfl rfl ?_
        refine go_iconst dX8_findOrder_141 (v := (0 : Int32)) (by decide) ?_
        refine go_istore dX8_findOrder_142 (Nat.le_of_ble_eq_true rfl) (L2 := [(5, .int (0 : Int32)), (4, .int (1 : Int32)), (0, .ref 58), (1, .int x1), (2, .int x2), (3, .int x3)]) rfl ?_
        exact go_loc [(0, .ref 58), (1, .int x1), (2, .int x2), (3, .int x3), (5, .int (0 : Int32))] [2, 3, 4, 5, 0] rfl h
      · have h := h.2 c5
        refine go_iload dX8_findOrder_120 0 rfl ?_
        refine go_if_eq (tgt := 170) dX8_findOrder_122 (by decide) (fun c => absurd c (by decide)) (fun _ => ?_)
        refine go_aload_n dX8_findOrder_125 rfl 1 rfl ?_
        refine go_aload_n dX8_findOrder_126 rfl 1 rfl ?_
        refine go_getI dX8_findOrder_127 sh_58 (by decide) f_X8_143 ⟨Nat.le_of_ble_eq_true rfl, Nat.le_of_ble_eq_true rfl, rfl⟩ ?_
        refine go_putT dX8_findOrder_130 sh_58 (by decide) p_X8_220 ⟨Nat.le_of_ble_eq_true rfl, Nat.le_of_ble_eq_true rfl, rfl⟩ rfl rfl ?_
        refine go_aload_n dX8_findOrder_133 rfl 1 rfl ?_
        refine go_aload_n dX8_findOrder_134 rfl 1 rfl ?_
        refine go_getI dX8_findOrder_135 sh_58 (by decide) f_X8_140 ⟨Nat.le_of_ble_eq_true rfl, Nat.le_of_ble_eq_true rfl, rfl⟩ ?_
        refine go_putT dX8_findOrder_138 sh_58 (by decide) p_X8_223 ⟨Nat.le_of_ble_eq_true rfl, Nat.le_of_ble_eq_true rfl, rfl⟩ rfl rfl ?_
        refine go_iconst dX8_findOrder_141 (v := (0 : Int32)) (by decide) ?_
        refine go_istore dX8_findOrder_142 (Nat.le_of_ble_eq_true rfl) (L2 := [(5, .int (0 : Int32)), (4, .int (1 : Int32)), (0, .ref 58), (1, .int x1), (2, .int x2), (3, .int x3)]) rfl ?_
        exact go_loc [(0, .ref 58), (1, .int x1), (2, .int x2), (3, .int x3), (5, .int (0 : Int32))] [2, 3, 4, 5, 0] rfl h
    · have h := h.2 c4
      refine go_aload_n dX8_findOrder_83 rfl 0 rfl ?_
      refine go_getI dX8_findOrder_84 sh_58 (by decide) f_X8_143 ⟨Nat.le_of_ble_eq_true rfl, Nat.le_of_ble_eq_true rfl, rfl⟩ ?_
      refine go_aload_n dX8_findOrder_87 rfl 0 rfl ?_
      refine go_getI dX8_findOrder_88 sh_58 (by decide) f_X8_220 ⟨Nat.le_of_ble_eq_true rfl, Nat.le_of_ble_eq_true rfl, rfl⟩ ?_
      refine go_icmp_ne (tgt := 109) dX8_findOrder_91 (by decide) (fun c6 => ?_) (fun c6 => ?_)
      · have h := h.1 c6
        refine go_iconst dX8_findOrder_109 (v := (0 : Int32)) (by decide) ?_
        refine go_istore dX8_findOrder_110 (Nat.le_of_ble_eq_true rfl) (L2 := [(4, .int (0 : Int32)), (0, .ref 58), (1, .int x1), (2, .int x2), (3, .int x3)]) rfl ?_
        refine go_aload_n dX8_findOrder_112 rfl 1 rfl ?_
        refine go_getI dX8_findOrder_113 sh_58 (by decide) f_X8_220 ⟨Nat.le_of_ble_eq_true rfl, Nat.le_of_ble_eq_true rfl, rfl⟩ ?_
        refine go_iconst dX8_findOrder_116 (v := (-1 : Int32)) (by decide) ?_
        refine go_icmp_eq (tgt := 125) dX8_findOrder_117 (by decide) (fun c7 => ?_) (fun c7 => ?_)
        · have h := h.1 c7
          refine go_aload_n dX8_findOrder_125 rfl 1 rfl ?_
          refine go_aload_n dX8_findOrder_126 rfl 1 rfl ?_
          refine go_getI dX8_findOrder_127 sh_58 (by decide) f_X8_143 ⟨Nat.le_of_ble_eq_true rfl, Nat.le_of_ble_eq_true rfl, rfl⟩ ?_
          refine go_putT dX8_findOrder_130 sh_58 (by decide) p_X8_220 ⟨Nat.le_of_ble_eq_true rfl, Nat.le_of_ble_eq_true rfl, rfl⟩ rfl rfl ?_
          refine go_aload_n dX8_findOrder_133 rfl 1 rfl ?_
          refine go_aload_n dX8_findOrder_134 rfl 1 rfl ?_
          refine go_getI dX8_findOrder_135 sh_58 (by decide) f_X8_140 ⟨Nat.le_of_ble_eq_true rfl, Nat.le_of_ble_eq_true rfl, rfl⟩ ?_
          refine go_putT dX8_findOrder_138 sh_58 (by decide) p_X8_223 ⟨Nat.le_of_ble_eq_true rfl, Nat.le_of_ble_eq_true rfl, rfl⟩ rfl rfl ?_
          refine go_iconst dX8_findOrder_141 (v := (0 : Int32)) (by decide) ?_
          refine go_istore dX8_findOrder_142 (Nat.le_of_ble_eq_true rfl) (L2 := [(5, .int (0 : Int32)), (4, .int (0 : Int32)), (0, .ref 58), (1, .int x1), (2, .int x2), (3, .int x3)]) rfl ?_
          exact go_loc [(0, .ref 58), (1, .int x1), (2, .int x2), (3, .int x3), (5, .int (0 : Int32))] [2, 3, 4, 5, 0] rfl h
        · have h := h.2 c7
          refine go_iload dX8_findOrder_120 0 rfl ?_
          refine go_if_eq (tgt := 170) dX8_findOrder_122 (by decide) (fun _ => ?_) (fun c => absurd (by decide) c)
          refine go_iinc dX8_findOrder_170 4 rfl (v := (x3 + 1)) rfl (Nat.le_of_ble_eq_true rfl) (L2 := [(3, .int (x3 + 1)), (4, .int (0 : Int32)), (0, .ref 58), (1, .int x1), (2, .int x2)]) rfl ?_
          refine go_goto (tgt := 43) dX8_findOrder_173 (by decide) ?_
          exact go_loc [(0, .ref 58), (1, .int x1), (2, .int x2), (3, .int (x3 + 1))] [2, 3, 4, 0] rfl h
      · have h := h.2 c6
        refine go_aload_n dX8_findOrder_94 rfl 0 rfl ?_
        refine go_getI dX8_findOrder_95 sh_58 (by decide) f_X8_140 ⟨Nat.le_of_ble_eq_true rfl, Nat.le_of_ble_eq_true rfl, rfl⟩ ?_
        refine go_aload_n dX8_findOrder_98 rfl 0 rfl ?_
        refine go_getI dX8_findOrder_99 sh_58 (by decide) f_X8_223 ⟨Nat.le_of_ble_eq_true rfl, Nat.le_of_ble_eq_true rfl, rfl⟩ ?_
        refine go_icmp_ge (tgt := 109) dX8_findOrder_102 (by decide) (fun c8 => ?_) (fun c8 => ?_)
        · have h := h.1 c8
          refine go_iconst dX8_findOrder_109 (v := (0 : Int32)) (by decide) ?_
          refine go_istore dX8_findOrder_110 (Nat.le_of_ble_eq_true rfl) (L2 := [(4, .int (0 : Int32)), (0, .ref 58), (1, .int x1), (2, .int x2), (3, .int x3)]) rfl ?_
          refine go_aload_n dX8_findOrder_112 rfl 1 rfl ?_
          refine go_getI dX8_findOrder_113 sh_58 (by decide) f_X8_220 ⟨Nat.le_of_ble_eq_true rfl, Nat.le_of_ble_eq_true rfl, rfl⟩ ?_
          refine go_iconst dX8_findOrder_116 (v := (-1 : Int32)) (by decide) ?_
          refine go_icmp_eq (tgt := 125) dX8_findOrder_117 (by decide) (fun c9 => ?_) (fun c9 => ?_)
          · have h := h.1 c9
            refine go_aload_n dX8_findOrder_125 rfl 1 rfl ?_
            refine go_aload_n dX8_findOrder_126 rfl 1 rfl ?_
            refine go_getI dX8_findOrder_127 sh_58 (by decide) f_X8_143 ⟨Nat.le_of_ble_eq_true rfl, Nat.le_of_ble_eq_true rfl, rfl⟩ ?_
            refine go_putT dX8_findOrder_130 sh_58 (by decide) p_X8_220 ⟨Nat.le_of_ble_eq_true rfl, Nat.le_of_ble_eq_true rfl, rfl⟩ rfl rfl ?_
            refine go_aload_n dX8_findOrder_133 rfl 1 rfl ?_
            refine go_aload_n dX8_findOrder_134 rfl 1 rfl ?_
            refine go_getI dX8_findOrder_135 sh_58 (by decide) f_X8_140 ⟨Nat.le_of_ble_eq_true rfl, Nat.le_of_ble_eq_true rfl, rfl⟩ ?_
            refine go_putT dX8_findOrder_138 sh_58 (by decide) p_X8_223 ⟨Nat.le_of_ble_eq_true rfl, Nat.le_of_ble_eq_true rfl, rfl⟩ rfl rfl ?_
            refine go_iconst dX8_findOrder_141 (v := (0 : Int32)) (by decide) ?_
            refine go_istore dX8_findOrder_142 (Nat.le_of_ble_eq_true rfl) (L2 := [(5, .int (0 : Int32)), (4, .int (0 : Int32)), (0, .ref 58), (1, .int x1), (2, .int x2), (3, .int x3)]) rfl ?_
            exact go_loc [(0, .ref 58), (1, .int x1), (2, .int x2), (3, .int x3), (5, .int (0 : Int32))] [2, 3, 4, 5, 0] rfl h
          · have h := h.2 c9
            refine go_iload dX8_findOrder_120 0 rfl ?_
            refine go_if_eq (tgt := 170) dX8_findOrder_122 (by decide) (fun _ => ?_) (fun c => absurd (by decide) c)
            refine go_iinc dX8_findOrder_170 4 rfl (v := (x3 + 1)) rfl (Nat.le_of_ble_eq_true rfl) (L2 := [(3, .int (x3 + 1)), (4, .int (0 : Int32)), (0, .ref 58), (1, .int x1), (2, .int x2)]) rfl ?_
            refine go_goto (tgt := 43) dX8_findOrder_173 (by decide) ?_
            exact go_loc [(0, .ref 58), (1, .int x1), (2, .int x2), (3, .int (x3 + 1))] [2, 3, 4, 0] rfl h
        · have h := h.2 c8
          refine go_iconst dX8_findOrder_105 (v := (1 : Int32)) (by decide) ?_
          refine go_goto (tgt := 110) dX8_findOrder_106 (by decide) ?_
          refine go_istore dX8_findOrder_110 (Nat.le_of_ble_eq_true rfl) (L2 := [(4, .int (1 : Int32)), (0, .ref 58), (1, .int x1), (2, .int x2), (3, .int x3)]) rfl ?_
          refine go_aload_n dX8_findOrder_112 rfl 1 rfl ?_
          refine go_getI dX8_findOrder_113 sh_58 (by decide) f_X8_220 ⟨Nat.le_of_ble_eq_true rfl, Nat.le_of_ble_eq_true rfl, rfl⟩ ?_
          refine go_iconst dX8_findOrder_116 (v := (-1 : Int32)) (by decide) ?_
          refine go_icmp_eq (tgt := 125) dX8_findOrder_117 (by decide) (fun c10 => ?_) (fun c10 => ?_)
          · have h := h.1 c10
            refine go_aload_n dX8_findOrder_125 rfl 1 rfl ?_
            refine go_aload_n dX8_findOrder_126 rfl 1 rfl ?_
            refine go_getI dX8_findOrder_127 sh_58 (by decide) f_X8_143 ⟨Nat.le_of_ble_eq_true rfl, Nat.le_of_ble_eq_true rfl, rfl⟩ ?_
            refine go_putT dX8_findOrder_130 sh_58 (by decide) p_X8_220 ⟨Nat.le_of_ble_eq_true rfl, Nat.le_of_ble_eq_true rfl, rfl⟩ rfl rfl ?_
            refine go_aload_n dX8_findOrder_133 rfl 1 rfl ?_
            refine go_aload_n dX8_findOrder_134 rfl 1 rfl ?_
            refine go_getI dX8_findOrder_135 sh_58 (by decide) f_X8_140 ⟨Nat.le_of_ble_eq_true rfl, Nat.le_of_ble_eq_true rfl, rfl⟩ ?_
            refine go_putT dX8_findOrder_138 sh_58 (by decide) p_X8_223 ⟨Nat.le_of_ble_eq_true rfl, Nat.le_of_ble_eq_true rfl, rfl⟩ rfl rfl ?_
            refine go_iconst dX8_findOrder_141 (v := (0 : Int32)) (by decide) ?_
            refine go_istore dX8_findOrder_142 (Nat.le_of_ble_eq_true rfl) (L2 := [(5, .int (0 : Int32)), (4, .int (1 : Int32)), (0, .ref 58), (1, .int x1), (2, .int x2), (3, .int x3)]) rfl ?_
            exact go_loc [(0, .ref 58), (1, .int x1), (2, .int x2), (3, .int x3), (5, .int (0 : Int32))] [2, 3, 4, 5, 0] rfl h
          · have h := h.2 c10
            refine go_iload dX8_findOrder_120 0 rfl ?_
            refine go_if_eq (tgt := 170) dX8_findOrder_122 (by decide) (fun c => absurd c (by decide)) (fun _ => ?_)
            refine go_aload_n dX8_findOrder_125 rfl 1 rfl ?_
            refine go_aload_n dX8_findOrder_126 rfl 1 rfl ?_
            refine go_getI dX8_findOrder_127 sh_58 (by decide) f_X8_143 ⟨Nat.le_of_ble_eq_true rfl, Nat.le_of_ble_eq_true rfl, rfl⟩ ?_
            refine go_putT dX8_findOrder_130 sh_58 (by decide) p_X8_220 ⟨Nat.le_of_ble_eq_true rfl, Nat.le_of_ble_eq_true rfl, rfl⟩ rfl rfl ?_
            refine go_aload_n dX8_findOrder_133 rfl 1 rfl ?_
            refine go_aload_n dX8_findOrder_134 rfl 1 rfl ?_
            refine go_getI dX8_findOrder_135 sh_58 (by decide) f_X8_140 ⟨Nat.le_of_ble_eq_true rfl, Nat.le_of_ble_eq_true rfl, rfl⟩ ?_
            refine go_putT dX8_findOrder_138 sh_58 (by decide) p_X8_223 ⟨Nat.le_of_ble_eq_true rfl, Nat.le_of_ble_eq_true rfl, rfl⟩ rfl rfl ?_
            refine go_iconst dX8_findOrder_141 (v := (0 : Int32)) (by decide) ?_
            refine go_istore dX8_findOrder_142 (Nat.le_of_ble_eq_true rfl) (L2 := [(5, .int (0 : Int32)), (4, .int (1 : Int32)), (0, .ref 58), (1, .int x1), (2, .int x2), (3, .int x3)]) rfl ?_
            exact go_loc [(0, .ref 58), (1, .int x1), (2, .int x2), (3, .int x3), (5, .int (0 : Int32))] [2, 3, 4, 5, 0] rfl h
set_option maxRecDepth 100000 in
set_option maxHeartbeats 4000000 in
theorem v_X8_findOrder_144 {G : CX} {x1 : Int32} {x2 : Int32} {x3 : Int32} {x5 : Int32}  {I : HP} {Q : HP → Prop} (h : ((x1 ≤ x5) → (GV G Y_X8_findOrder 43 [(0, .ref 58), (1, .int x1), (2, .int x2), (3, .int (x3 + 1))] I Q)) ∧ ((¬ x1 ≤ x5) → ((vp_in x5 14) ∧ ((vp_in x5 7) ∧ (GV G Y_X8_findOrder 144 [(0, .ref 58), (1, .int x1), (2, .int x2), (3, .int x3), (5, .int (x5 + 1))] (st I 77 (nn x5) (I 68 (nn x5))) Q))))) : GV G Y_X8_findOrder 144 [(0, .ref 58), (1, .int x1), (2, .int x2), (3, .int x3), (5, .int x5)] I Q := by
  show Go G Y_X8_findOrder 144 [(0, .ref 58), (1, .int x1), (2, .int x2), (3, .int x3), (5, .int x5)] [] SH I 0 0 _
  refine go_iload dX8_findOrder_144 4 rfl ?_
  refine go_iload_n dX8_findOrder_146 rfl 1 rfl ?_
  refine go_icmp_ge (tgt := 170) dX8_findOrder_147 (by decide) (fun c1 => ?_) (fun c1 => ?_)
  · have h := h.1 c1
    refine go_iinc dX8_findOrder_170 3 rfl (v := (x3 + 1)) rfl (Nat.le_of_ble_eq_true rfl) (L2 := [(3, .int (x3 + 1)), (0, .ref 58), (1, .int x1), (2, .int x2), (5, .int x5)]) rfl ?_
    refine go_goto (tgt := 43) dX8_findOrder_173 (by decide) ?_
    exact go_loc [(0, .ref 58), (1, .int x1), (2, .int x2), (3, .int (x3 + 1))] [1, 2, 3, 0] rfl h
  · have h := h.2 c1
    refine go_aload_n dX8_findOrder_150 rfl 0 rfl ?_
    refine go_getR dX8_findOrder_151 sh_58 (by decide) f_X8_64 ⟨Nat.le_of_ble_eq_true rfl, Nat.le_of_ble_eq_true rfl, rfl⟩ rfl ?_
    refine go_iload dX8_findOrder_154 4 rfl ?_
    refine go_aload_n dX8_findOrder_156 rfl 0 rfl ?_
    refine go_getR dX8_findOrder_157 sh_58 (by decide) f_X8_37 ⟨Nat.le_of_ble_eq_true rfl, Nat.le_of_ble_eq_true rfl, rfl⟩ rfl ?_
    refine go_iload dX8_findOrder_160 4 rfl ?_
    have hb2 := h.1
    have h := h.2
    refine go_iald dX8_findOrder_162 sh_68 (by decide) hb2 rfl ?_
    have hb3 := h.1
    have h := h.2
    refine go_iast dX8_findOrder_163 sh_77 (by decide) hb3 (j := (nn x5)) rfl ?_
    refine go_iinc dX8_findOrder_164 4 rfl (v := (x5 + 1)) rfl (Nat.le_of_ble_eq_true rfl) (L2 := [(5, .int (x5 + 1)), (0, .ref 58), (1, .int x1), (2, .int x2), (3, .int x3)]) rfl ?_
    refine go_goto (tgt := 144) dX8_findOrder_167 (by decide) ?_
    exact go_loc [(0, .ref 58), (1, .int x1), (2, .int x2), (3, .int x3), (5, .int (x5 + 1))] [1, 2, 3, 4, 0] rfl h
set_option maxRecDepth 100000 in
set_option maxHeartbeats 4000000 in
theorem v_X8_tellsOrder {G : CX} {a1 : Int32}  {I : HP} {Q : HP → Int32 → Prop} (h : ((¬ a1 = (-2 : Int32)) → (((¬ a1 = (-1 : Int32)) → ((((I 65 0) ≤ a1) → (Q I (-1 : Int32))) ∧ ((¬ (I 65 0) ≤ a1) → ((vp_in a1 7) ∧ (Q I (I 77 (nn a1))))))) ∧ ((a1 = (-1 : Int32)) → (Q I (I 58 27))))) ∧ ((a1 = (-2 : Int32)) → (Q I (I 58 26)))) : RI G Y_X8_tellsOrder [.ref 58, .int a1] I Q := by
  refine ret_of (show plainName RX8 = true by decide) (Nat.le_of_ble_eq_true rfl) ?_
  show Go G Y_X8_tellsOrder 0 [(0, .ref 58), (1, .int a1)] [] SH I 0 0 _
  refine go_iload_n dX8_tellsOrder_0 rfl 1 rfl ?_
  refine go_bipush dX8_tellsOrder_1 (v := (-2 : Int32)) (by decide) ?_
  refine go_icmp_ne (tgt := 13) dX8_tellsOrder_3 (by decide) (fun c1 => ?_) (fun c1 => ?_)
  · have h := h.1 c1
    refine go_iload_n dX8_tellsOrder_13 rfl 1 rfl ?_
    refine go_iconst dX8_tellsOrder_14 (v := (-1 : Int32)) (by decide) ?_
    refine go_icmp_ne (tgt := 25) dX8_tellsOrder_15 (by decide) (fun c2 => ?_) (fun c2 => ?_)
    · have h := h.1 c2
      refine go_iload_n dX8_tellsOrder_25 rfl 1 rfl ?_
      refine go_aload_n dX8_tellsOrder_26 rfl 0 rfl ?_
      refine go_getR dX8_tellsOrder_27 sh_58 (by decide) f_X8_28 ⟨Nat.le_of_ble_eq_true rfl, Nat.le_of_ble_eq_true rfl, rfl⟩ rfl ?_
      refine go_iconst dX8_tellsOrder_30 (v := (0 : Int32)) (by decide) ?_
      refine go_iald dX8_tellsOrder_31 sh_65 (by decide) (by unfold vp_in; decide) (j := 0) (by decide) ?_
      refine go_icmp_ge (tgt := 44) dX8_tellsOrder_32 (by decide) (fun c3 => ?_) (fun c3 => ?_)
      · have h := h.1 c3
        refine go_iconst dX8_tellsOrder_44 (v := (-1 : Int32)) (by decide) ?_
        exact go_iret dX8_tellsOrder_45 rfl rfl (by decide) ⟨rfl, _, rfl, h⟩
      · have h := h.2 c3
        refine go_aload_n dX8_tellsOrder_35 rfl 0 rfl ?_
        refine go_getR dX8_tellsOrder_36 sh_58 (by decide) f_X8_64 ⟨Nat.le_of_ble_eq_true rfl, Nat.le_of_ble_eq_true rfl, rfl⟩ rfl ?_
        refine go_iload_n dX8_tellsOrder_39 rfl 1 rfl ?_
        have hb4 := h.1
        have h := h.2
        refine go_iald dX8_tellsOrder_40 sh_77 (by decide) hb4 rfl ?_
        refine go_goto (tgt := 45) dX8_tellsOrder_41 (by decide) ?_
        exact go_iret dX8_tellsOrder_45 rfl rfl (by decide) ⟨rfl, _, rfl, h⟩
    · have h := h.2 c2
      refine go_aload_n dX8_tellsOrder_18 rfl 0 rfl ?_
      refine go_getI dX8_tellsOrder_19 sh_58 (by decide) f_X8_223 ⟨Nat.le_of_ble_eq_true rfl, Nat.le_of_ble_eq_true rfl, rfl⟩ ?_
      refine go_goto (tgt := 45) dX8_tellsOrder_22 (by decide) ?_
      exact go_iret dX8_tellsOrder_45 rfl rfl (by decide) ⟨rfl, _, rfl, h⟩
  · have h := h.2 c1
    refine go_aload_n dX8_tellsOrder_6 rfl 0 rfl ?_
    refine go_getI dX8_tellsOrder_7 sh_58 (by decide) f_X8_220 ⟨Nat.le_of_ble_eq_true rfl, Nat.le_of_ble_eq_true rfl, rfl⟩ ?_
    refine go_goto (tgt := 45) dX8_tellsOrder_10 (by decide) ?_
    exact go_iret dX8_tellsOrder_45 rfl rfl (by decide) ⟨rfl, _, rfl, h⟩
set_option maxRecDepth 100000 in
set_option maxHeartbeats 4000000 in
theorem v_X8_order {G : CX} {a1 : Int32}  {I : HP} {Q : HP → Int32 → Prop} (h : RZ G Y_X8_in [.long (a1.toInt64), .long (-2 : Int64), .long (6 : Int64)] I (fun I1 r2 => ((¬ (bI r2) = 0) → (RV G Y_X8_find [.ref 58] I1 (fun I4 => RV G Y_X8_findOrder [.ref 58] I4 (fun I5 => RI G Y_X8_tellsOrder [.ref 58, .int a1] I5 (fun I6 r7 => Q I6 r7))))) ∧ (((bI r2) = 0) → (Q I1 (-2 : Int32))))) : RI G Y_X8_order [.ref 58, .int a1] I Q := by
  refine ret_of (show plainName RX8 = true by decide) (Nat.le_of_ble_eq_true rfl) ?_
  show Go G Y_X8_order 0 [(0, .ref 58), (1, .int a1)] [] SH I 0 0 _
  refine go_iload_n dX8_order_0 rfl 1 rfl ?_
  refine go_i2l dX8_order_1 ?_
  refine go_ldc2 dX8_order_2 k_X8_230 ?_
  refine go_ldc2 dX8_order_5 k_X8_232 ?_
  refine go_scall (Z := Y_X8_in) (As := [.long (a1.toInt64), .long (-2 : Int64), .long (6 : Int64)]) (S := []) dX8_order_8 ok_X8_in l_X8_72 (by decide) rfl rfl (Nat.le_of_ble_eq_true rfl) h (fun _ I1 _ hq => ?_)
  obtain ⟨rfl, r2, rfl, h⟩ := hq
  show Go G Y_X8_order 11 [(0, .ref 58), (1, .int a1)] [.int (bI r2)] SH I1 0 0 _
  refine go_if_ne (tgt := 17) dX8_order_11 (by decide) (fun c3 => ?_) (fun c3 => ?_)
  · have h := h.1 c3
    refine go_aload_n dX8_order_17 rfl 0 rfl ?_
    refine go_vcall (Z := Y_X8_find) (As := []) (S := []) dX8_order_18 ok_X8_find l_X8_162 (by decide) sh_58 (by decide) (Nat.le_of_ble_eq_true rfl) rfl rfl rfl (Nat.le_of_ble_eq_true rfl) h (fun _ I4 _ hq => ?_)
    obtain ⟨rfl, rfl, h⟩ := hq
    show Go G Y_X8_order 21 [(0, .ref 58), (1, .int a1)] [] SH I4 0 0 _
    refine go_aload_n dX8_order_21 rfl 0 rfl ?_
    refine go_vcall (Z := Y_X8_findOrder) (As := []) (S := []) dX8_order_22 ok_X8_findOrder l_X8_234 (by decide) sh_58 (by decide) (Nat.le_of_ble_eq_true rfl) rfl rfl rfl (Nat.le_of_ble_eq_true rfl) h (fun _ I5 _ hq => ?_)
    obtain ⟨rfl, rfl, h⟩ := hq
    show Go G Y_X8_order 25 [(0, .ref 58), (1, .int a1)] [] SH I5 0 0 _
    refine go_aload_n dX8_order_25 rfl 0 rfl ?_
    refine go_iload_n dX8_order_26 rfl 1 rfl ?_
    refine go_vcall (Z := Y_X8_tellsOrder) (As := [.int a1]) (S := []) dX8_order_27 ok_X8_tellsOrder l_X8_237 (by decide) sh_58 (by decide) (Nat.le_of_ble_eq_true rfl) rfl rfl rfl (Nat.le_of_ble_eq_true rfl) h (fun _ I6 _ hq => ?_)
    obtain ⟨rfl, r7, rfl, h⟩ := hq
    show Go G Y_X8_order 30 [(0, .ref 58), (1, .int a1)] [.int r7] SH I6 0 0 _
    exact go_iret dX8_order_30 rfl rfl (by decide) ⟨rfl, _, rfl, h⟩
  · have h := h.2 c3
    refine go_bipush dX8_order_14 (v := (-2 : Int32)) (by decide) ?_
    exact go_iret dX8_order_16 rfl rfl (by decide) ⟨rfl, _, rfl, h⟩
set_option maxRecDepth 100000 in
set_option maxHeartbeats 4000000 in
theorem v_X8_leadNow {G : CX}   {I : HP} {Q : HP → Int32 → Prop} (h : RV G Y_X8_plain [.ref 58] I (fun I1 => GI G Y_X8_leadNow 6 [(0, .ref 58), (1, .int (0 : Int32))] I1 Q)) : RI G Y_X8_leadNow [.ref 58] I Q := by
  refine ret_of (show plainName RX8 = true by decide) (Nat.le_of_ble_eq_true rfl) ?_
  show Go G Y_X8_leadNow 0 [(0, .ref 58)] [] SH I 0 0 _
  refine go_aload_n dX8_leadNow_0 rfl 0 rfl ?_
  refine go_vcall (Z := Y_X8_plain) (As := []) (S := []) dX8_leadNow_1 ok_X8_plain l_X8_155 (by decide) sh_58 (by decide) (Nat.le_of_ble_eq_true rfl) rfl rfl rfl (Nat.le_of_ble_eq_true rfl) h (fun _ I1 _ hq => ?_)
  obtain ⟨rfl, rfl, h⟩ := hq
  show Go G Y_X8_leadNow 4 [(0, .ref 58)] [] SH I1 0 0 _
  refine go_iconst dX8_leadNow_4 (v := (0 : Int32)) (by decide) ?_
  refine go_istore_n dX8_leadNow_5 rfl (Nat.le_of_ble_eq_true rfl) (L2 := [(1, .int (0 : Int32)), (0, .ref 58)]) rfl ?_
  exact go_loc [(0, .ref 58), (1, .int (0 : Int32))] [1, 0] rfl h
set_option maxRecDepth 100000 in
set_option maxHeartbeats 4000000 in
theorem v_X8_leadNow_6 {G : CX} {x1 : Int32}  {I : HP} {Q : HP → Int32 → Prop} (h : (((100 : Int32) ≤ x1) → (Q I (-1 : Int32))) ∧ ((¬ (100 : Int32) ≤ x1) → (RV G Y_X8_says [.ref 58, .int x1, .int (I 67 4), .int (I 67 3)] I (fun I2 => ((¬ (I2 58 21) = 0) → (GI G Y_X8_leadNow 6 [(0, .ref 58), (1, .int (x1 + 1))] I2 Q)) ∧ (((I2 58 21) = 0) → (((¬ (I2 58 22) = (I2 58 11)) → (GI G Y_X8_leadNow 6 [(0, .ref 58), (1, .int (x1 + 1))] I2 Q)) ∧ (((I2 58 22) = (I2 58 11)) → (Q I2 x1)))))))) : GI G Y_X8_leadNow 6 [(0, .ref 58), (1, .int x1)] I Q := by
  show Go G Y_X8_leadNow 6 [(0, .ref 58), (1, .int x1)] [] SH I 0 0 _
  refine go_iload_n dX8_leadNow_6 rfl 1 rfl ?_
  refine go_bipush dX8_leadNow_7 (v := (100 : Int32)) (by decide) ?_
  refine go_icmp_ge (tgt := 55) dX8_leadNow_9 (by decide) (fun c1 => ?_) (fun c1 => ?_)
  · have h := h.1 c1
    refine go_iconst dX8_leadNow_55 (v := (-1 : Int32)) (by decide) ?_
    exact go_iret dX8_leadNow_56 rfl rfl (by decide) ⟨rfl, _, rfl, h⟩
  · have h := h.2 c1
    refine go_aload_n dX8_leadNow_12 rfl 0 rfl ?_
    refine go_iload_n dX8_leadNow_13 rfl 1 rfl ?_
    refine go_aload_n dX8_leadNow_14 rfl 0 rfl ?_
    refine go_getR dX8_leadNow_15 sh_58 (by decide) f_X8_34 ⟨Nat.le_of_ble_eq_true rfl, Nat.le_of_ble_eq_true rfl, rfl⟩ rfl ?_
    refine go_iconst dX8_leadNow_18 (v := (4 : Int32)) (by decide) ?_
    refine go_iald dX8_leadNow_19 sh_67 (by decide) (by unfold vp_in; decide) (j := 4) (by decide) ?_
    refine go_aload_n dX8_leadNow_20 rfl 0 rfl ?_
    refine go_getR dX8_leadNow_21 sh_58 (by decide) f_X8_34 ⟨Nat.le_of_ble_eq_true rfl, Nat.le_of_ble_eq_true rfl, rfl⟩ rfl ?_
    refine go_iconst dX8_leadNow_24 (v := (3 : Int32)) (by decide) ?_
    refine go_iald dX8_leadNow_25 sh_67 (by decide) (by unfold vp_in; decide) (j := 3) (by decide) ?_
    refine go_vcall (Z := Y_X8_says) (As := [.int x1, .int (I 67 4), .int (I 67 3)]) (S := []) dX8_leadNow_26 ok_X8_says l_X8_158 (by decide) sh_58 (by decide) (Nat.le_of_ble_eq_true rfl) rfl rfl rfl (Nat.le_of_ble_eq_true rfl) h (fun _ I2 _ hq => ?_)
    obtain ⟨rfl, rfl, h⟩ := hq
    show Go G Y_X8_leadNow 29 [(0, .ref 58), (1, .int x1)] [] SH I2 0 0 _
    refine go_aload_n dX8_leadNow_29 rfl 0 rfl ?_
    refine go_getI dX8_leadNow_30 sh_58 (by decide) f_X8_143 ⟨Nat.le_of_ble_eq_true rfl, Nat.le_of_ble_eq_true rfl, rfl⟩ ?_
    refine go_if_ne (tgt := 49) dX8_leadNow_33 (by decide) (fun c3 => ?_) (fun c3 => ?_)
    · have h := h.1 c3
      refine go_iinc dX8_leadNow_49 1 rfl (v := (x1 + 1)) rfl (Nat.le_of_ble_eq_true rfl) (L2 := [(1, .int (x1 + 1)), (0, .ref 58)]) rfl ?_
      refine go_goto (tgt := 6) dX8_leadNow_52 (by decide) ?_
      exact go_loc [(0, .ref 58), (1, .int (x1 + 1))] [1, 0] rfl h
    · have h := h.2 c3
      refine go_aload_n dX8_leadNow_36 rfl 0 rfl ?_
      refine go_getI dX8_leadNow_37 sh_58 (by decide) f_X8_146 ⟨Nat.le_of_ble_eq_true rfl, Nat.le_of_ble_eq_true rfl, rfl⟩ ?_
      refine go_aload_n dX8_leadNow_40 rfl 0 rfl ?_
      refine go_getI dX8_leadNow_41 sh_58 (by decide) f_X8_128 ⟨Nat.le_of_ble_eq_true rfl, Nat.le_of_ble_eq_true rfl, rfl⟩ ?_
      refine go_icmp_ne (tgt := 49) dX8_leadNow_44 (by decide) (fun c4 => ?_) (fun c4 => ?_)
      · have h := h.1 c4
        refine go_iinc dX8_leadNow_49 1 rfl (v := (x1 + 1)) rfl (Nat.le_of_ble_eq_true rfl) (L2 := [(1, .int (x1 + 1)), (0, .ref 58)]) rfl ?_
        refine go_goto (tgt := 6) dX8_leadNow_52 (by decide) ?_
        exact go_loc [(0, .ref 58), (1, .int (x1 + 1))] [1, 0] rfl h
      · have h := h.2 c4
        refine go_iload_n dX8_leadNow_47 rfl 1 rfl ?_
        exact go_iret dX8_leadNow_48 rfl rfl (by decide) ⟨rfl, _, rfl, h⟩
set_option maxRecDepth 100000 in
set_option maxHeartbeats 4000000 in
theorem v_X8_lead {G : CX}   {I : HP} {Q : HP → Int32 → Prop} (h : RV G Y_X8_find [.ref 58] I (fun I1 => RI G Y_X8_leadNow [.ref 58] I1 (fun I2 r3 => Q I2 r3))) : RI G Y_X8_lead [.ref 58] I Q := by
  refine ret_of (show plainName RX8 = true by decide) (Nat.le_of_ble_eq_true rfl) ?_
  show Go G Y_X8_lead 0 [(0, .ref 58)] [] SH I 0 0 _
  refine go_aload_n dX8_lead_0 rfl 0 rfl ?_
  refine go_vcall (Z := Y_X8_find) (As := []) (S := []) dX8_lead_1 ok_X8_find l_X8_162 (by decide) sh_58 (by decide) (Nat.le_of_ble_eq_true rfl) rfl rfl rfl (Nat.le_of_ble_eq_true rfl) h (fun _ I1 _ hq => ?_)
  obtain ⟨rfl, rfl, h⟩ := hq
  show Go G Y_X8_lead 4 [(0, .ref 58)] [] SH I1 0 0 _
  refine go_aload_n dX8_lead_4 rfl 0 rfl ?_
  refine go_vcall (Z := Y_X8_leadNow) (As := []) (S := []) dX8_lead_5 ok_X8_leadNow l_X8_240 (by decide) sh_58 (by decide) (Nat.le_of_ble_eq_true rfl) rfl rfl rfl (Nat.le_of_ble_eq_true rfl) h (fun _ I2 _ hq => ?_)
  obtain ⟨rfl, r3, rfl, h⟩ := hq
  show Go G Y_X8_lead 8 [(0, .ref 58)] [.int r3] SH I2 0 0 _
  exact go_iret dX8_lead_8 rfl rfl (by decide) ⟨rfl, _, rfl, h⟩
set_option maxRecDepth 100000 in
set_option maxHeartbeats 4000000 in
theorem v_X8_part {G : CX} {a1 : Int64} {a2 : Int64} {a3 : Int32}  {I : HP} {Q : HP → Int64 → Prop} (h : GJ G Y_X8_part 6 [(0, .long a1), (2, .long a2), (4, .int a3), (5, .long a1), (7, .long a2)] I Q) : RJ G Y_X8_part [.long a1, .long a2, .int a3] I Q := by
  refine ret_of (show plainName RX8 = true by decide) (Nat.le_of_ble_eq_true rfl) ?_
  show Go G Y_X8_part 0 [(0, .long a1), (2, .long a2), (4, .int a3)] [] SH I 0 0 _
  refine go_lload_n dX8_part_0 rfl 0 rfl ?_
  refine go_lstore dX8_part_1 (Nat.le_of_ble_eq_true rfl) (L2 := [(5, .long a1), (0, .long a1), (2, .long a2), (4, .int a3)]) rfl ?_
  refine go_lload_n dX8_part_3 rfl 2 rfl ?_
  refine go_lstore dX8_part_4 (Nat.le_of_ble_eq_true rfl) (L2 := [(7, .long a2), (5, .long a1), (0, .long a1), (2, .long a2), (4, .int a3)]) rfl ?_
  exact go_loc [(0, .long a1), (2, .long a2), (4, .int a3), (5, .long a1), (7, .long a2)] [2, 3, 4, 1, 0] rfl h
set_option maxRecDepth 100000 in
set_option maxHeartbeats 4000000 in
theorem v_X8_part_6 {G : CX} {x0 : Int64} {x2 : Int64} {x4 : Int32} {x5 : Int64} {x7 : Int64}  {I : HP} {Q : HP → Int64 → Prop} (h : (((lg_cmp x7 (0 : Int64)) = 0) → (((¬ x4 = 0) → ((¬ x5 = 0) ∧ (Q I (x2 / x5)))) ∧ ((x4 = 0) → ((¬ x5 = 0) ∧ (Q I (x0 / x5)))))) ∧ ((¬ (lg_cmp x7 (0 : Int64)) = 0) → ((¬ x7 = 0) ∧ (GJ G Y_X8_part 6 [(0, .long x0), (2, .long x2), (4, .int x4), (5, .long x7), (7, .long (x5 - x5 / x7 * x7))] I Q)))) : GJ G Y_X8_part 6 [(0, .long x0), (2, .long x2), (4, .int x4), (5, .long x5), (7, .long x7)] I Q := by
  show Go G Y_X8_part 6 [(0, .long x0), (2, .long x2), (4, .int x4), (5, .long x5), (7, .long x7)] [] SH I 0 0 _
  refine go_lload dX8_part_6 4 rfl ?_
  refine go_lconst dX8_part_8 (v := (0 : Int64)) (by decide) ?_
  refine go_lcmp dX8_part_9 ?_
  refine go_if_eq (tgt := 31) dX8_part_10 (by decide) (fun c1 => ?_) (fun c1 => ?_)
  · have h := h.1 c1
    refine go_iload dX8_part_31 2 rfl ?_
    refine go_if_ne (tgt := 40) dX8_part_33 (by decide) (fun c2 => ?_) (fun c2 => ?_)
    · have h := h.1 c2
      refine go_lload_n dX8_part_40 rfl 1 rfl ?_
      refine go_lload dX8_part_41 3 rfl ?_
      have hb3 := h.1
      have h := h.2
      refine go_ldiv dX8_part_43 hb3 ?_
      exact go_lret dX8_part_44 rfl rfl (by decide) ⟨rfl, _, rfl, h⟩
    · have h := h.2 c2
      refine go_lload_n dX8_part_36 rfl 0 rfl ?_
      refine go_goto (tgt := 41) dX8_part_37 (by decide) ?_
      refine go_lload dX8_part_41 3 rfl ?_
      have hb4 := h.1
      have h := h.2
      refine go_ldiv dX8_part_43 hb4 ?_
      exact go_lret dX8_part_44 rfl rfl (by decide) ⟨rfl, _, rfl, h⟩
  · have h := h.2 c1
    refine go_lload dX8_part_13 3 rfl ?_
    refine go_lload dX8_part_15 4 rfl ?_
    have hb5 := h.1
    have h := h.2
    refine go_lrem dX8_part_17 hb5 ?_
    refine go_lstore dX8_part_18 (Nat.le_of_ble_eq_true rfl) (L2 := [(9, .long (x5 - x5 / x7 * x7)), (0, .long x0), (2, .long x2), (4, .int x4), (5, .long x5), (7, .long x7)]) rfl ?_
    refine go_lload dX8_part_20 5 rfl ?_
    refine go_lstore dX8_part_22 (Nat.le_of_ble_eq_true rfl) (L2 := [(5, .long x7), (9, .long (x5 - x5 / x7 * x7)), (0, .long x0), (2, .long x2), (4, .int x4), (7, .long x7)]) rfl ?_
    refine go_lload dX8_part_24 1 rfl ?_
    refine go_lstore dX8_part_26 (Nat.le_of_ble_eq_true rfl) (L2 := [(7, .long (x5 - x5 / x7 * x7)), (5, .long x7), (9, .long (x5 - x5 / x7 * x7)), (0, .long x0), (2, .long x2), (4, .int x4)]) rfl ?_
    refine go_goto (tgt := 6) dX8_part_28 (by decide) ?_
    exact go_loc [(0, .long x0), (2, .long x2), (4, .int x4), (5, .long x7), (7, .long (x5 - x5 / x7 * x7))] [3, 4, 5, 1, 0] rfl h
set_option maxRecDepth 100000 in
set_option maxHeartbeats 4000000 in
theorem v_X8_oddsOf {G : CX} {a1 : Int32}  {I : HP} {Q : HP → Int64 → Prop} (h : GJ G Y_X8_oddsOf 11 [(0, .ref 58), (1, .int a1), (2, .long (1 : Int64)), (4, .long (1 : Int64)), (6, .long (0 : Int64)), (8, .int (0 : Int32))] I Q) : RJ G Y_X8_oddsOf [.ref 58, .int a1] I Q := by
  refine ret_of (show plainName RX8 = true by decide) (Nat.le_of_ble_eq_true rfl) ?_
  show Go G Y_X8_oddsOf 0 [(0, .ref 58), (1, .int a1)] [] SH I 0 0 _
  refine go_lconst dX8_oddsOf_0 (v := (1 : Int64)) (by decide) ?_
  refine go_lstore_n dX8_oddsOf_1 rfl (Nat.le_of_ble_eq_true rfl) (L2 := [(2, .long (1 : Int64)), (0, .ref 58), (1, .int a1)]) rfl ?_
  refine go_lconst dX8_oddsOf_2 (v := (1 : Int64)) (by decide) ?_
  refine go_lstore dX8_oddsOf_3 (Nat.le_of_ble_eq_true rfl) (L2 := [(4, .long (1 : Int64)), (2, .long (1 : Int64)), (0, .ref 58), (1, .int a1)]) rfl ?_
  refine go_lconst dX8_oddsOf_5 (v := (0 : Int64)) (by decide) ?_
  refine go_lstore dX8_oddsOf_6 (Nat.le_of_ble_eq_true rfl) (L2 := [(6, .long (0 : Int64)), (4, .long (1 : Int64)), (2, .long (1 : Int64)), (0, .ref 58), (1, .int a1)]) rfl ?_
  refine go_iconst dX8_oddsOf_8 (v := (0 : Int32)) (by decide) ?_
  refine go_istore dX8_oddsOf_9 (Nat.le_of_ble_eq_true rfl) (L2 := [(8, .int (0 : Int32)), (6, .long (0 : Int64)), (4, .long (1 : Int64)), (2, .long (1 : Int64)), (0, .ref 58), (1, .int a1)]) rfl ?_
  exact go_loc [(0, .ref 58), (1, .int a1), (2, .long (1 : Int64)), (4, .long (1 : Int64)), (6, .long (0 : Int64)), (8, .int (0 : Int32))] [4, 5, 3, 2, 1, 0] rfl h
set_option maxRecDepth 100000 in
set_option maxHeartbeats 4000000 in
theorem v_X8_oddsOf_11 {G : CX} {x1 : Int32} {x2 : Int64} {x4 : Int64} {x6 : Int64} {x8 : Int32}  {I : HP} {Q : HP → Int64 → Prop} (h : (((I 58 11) ≤ x8) → ((((2 : Int32) ≤ x1) → (RJ G Y_X8_part [.long x6, .long x4, .int (x1 - (2 : Int32))] I (fun I3 r4 => Q I3 r4))) ∧ ((¬ (2 : Int32) ≤ x1) → (RJ G Y_X8_part [.long x2, .long x4, .int x1] I (fun I5 r6 => Q I5 r6))))) ∧ ((¬ (I 58 11) ≤ x8) → ((vp_in x8 14) ∧ (RI G Y_X8_greater [.int ((I 70 (nn x8)) - (5 : Int32)), .int (0 : Int32)] I (fun I8 r9 => ∀ z10 : Int64, z10 = (((16 : Int64) * x6) + (x2 * (((16 : Int32) - r9).toInt64))) → GJ G Y_X8_oddsOf 11 [(0, .ref 58), (1, .int x1), (2, .long (x2 * (((16 : Int32) - r9).toInt64))), (4, .long (x4 * (16 : Int64))), (6, .long z10), (8, .int (x8 + 1))] I8 Q))))) : GJ G Y_X8_oddsOf 11 [(0, .ref 58), (1, .int x1), (2, .long x2), (4, .long x4), (6, .long x6), (8, .int x8)] I Q := by
  show Go G Y_X8_oddsOf 11 [(0, .ref 58), (1, .int x1), (2, .long x2), (4, .long x4), (6, .long x6), (8, .int x8)] [] SH I 0 0 _
  refine go_iload dX8_oddsOf_11 5 rfl ?_
  refine go_aload_n dX8_oddsOf_13 rfl 0 rfl ?_
  refine go_getI dX8_oddsOf_14 sh_58 (by decide) f_X8_128 ⟨Nat.le_of_ble_eq_true rfl, Nat.le_of_ble_eq_true rfl, rfl⟩ ?_
  refine go_icmp_ge (tgt := 64) dX8_oddsOf_17 (by decide) (fun c1 => ?_) (fun c1 => ?_)
  · have h := h.1 c1
    refine go_iload_n dX8_oddsOf_64 rfl 1 rfl ?_
    refine go_iconst dX8_oddsOf_65 (v := (2 : Int32)) (by decide) ?_
    refine go_icmp_ge (tgt := 79) dX8_oddsOf_66 (by decide) (fun c2 => ?_) (fun c2 => ?_)
    · have h := h.1 c2
      refine go_lload dX8_oddsOf_79 4 rfl ?_
      refine go_lload dX8_oddsOf_81 3 rfl ?_
      refine go_iload_n dX8_oddsOf_83 rfl 1 rfl ?_
      refine go_iconst dX8_oddsOf_84 (v := (2 : Int32)) (by decide) ?_
      refine go_isub dX8_oddsOf_85 ?_
      refine go_scall (Z := Y_X8_part) (As := [.long x6, .long x4, .int (x1 - (2 : Int32))]) (S := []) dX8_oddsOf_86 ok_X8_part l_X8_245 (by decide) rfl rfl (Nat.le_of_ble_eq_true rfl) h (fun _ I3 _ hq => ?_)
      obtain ⟨rfl, r4, rfl, h⟩ := hq
      show Go G Y_X8_oddsOf 89 [(0, .ref 58), (1, .int x1), (2, .long x2), (4, .long x4), (6, .long x6), (8, .int x8)] [.long r4] SH I3 0 0 _
      exact go_lret dX8_oddsOf_89 rfl rfl (by decide) ⟨rfl, _, rfl, h⟩
    · have h := h.2 c2
      refine go_lload_n dX8_oddsOf_69 rfl 2 rfl ?_
      refine go_lload dX8_oddsOf_70 3 rfl ?_
      refine go_iload_n dX8_oddsOf_72 rfl 1 rfl ?_
      refine go_scall (Z := Y_X8_part) (As := [.long x2, .long x4, .int x1]) (S := []) dX8_oddsOf_73 ok_X8_part l_X8_245 (by decide) rfl rfl (Nat.le_of_ble_eq_true rfl) h (fun _ I5 _ hq => ?_)
      obtain ⟨rfl, r6, rfl, h⟩ := hq
      show Go G Y_X8_oddsOf 76 [(0, .ref 58), (1, .int x1), (2, .long x2), (4, .long x4), (6, .long x6), (8, .int x8)] [.long r6] SH I5 0 0 _
      refine go_goto (tgt := 89) dX8_oddsOf_76 (by decide) ?_
      exact go_lret dX8_oddsOf_89 rfl rfl (by decide) ⟨rfl, _, rfl, h⟩
  · have h := h.2 c1
    refine go_lload_n dX8_oddsOf_20 rfl 2 rfl ?_
    refine go_bipush dX8_oddsOf_21 (v := (16 : Int32)) (by decide) ?_
    refine go_aload_n dX8_oddsOf_23 rfl 0 rfl ?_
    refine go_getR dX8_oddsOf_24 sh_58 (by decide) f_X8_43 ⟨Nat.le_of_ble_eq_true rfl, Nat.le_of_ble_eq_true rfl, rfl⟩ rfl ?_
    refine go_iload dX8_oddsOf_27 5 rfl ?_
    have hb7 := h.1
    have h := h.2
    refine go_iald dX8_oddsOf_29 sh_70 (by decide) hb7 rfl ?_
    refine go_iconst dX8_oddsOf_30 (v := (5 : Int32)) (by decide) ?_
    refine go_isub dX8_oddsOf_31 ?_
    refine go_iconst dX8_oddsOf_32 (v := (0 : Int32)) (by decide) ?_
    refine go_scall (Z := Y_X8_greater) (As := [.int ((I 70 (nn x8)) - (5 : Int32)), .int (0 : Int32)]) (S := [.int (16 : Int32), .long x2]) dX8_oddsOf_33 ok_X8_greater l_X8_134 (by decide) rfl rfl (Nat.le_of_ble_eq_true rfl) h (fun _ I8 _ hq => ?_)
    obtain ⟨rfl, r9, rfl, h⟩ := hq
    show Go G Y_X8_oddsOf 36 [(0, .ref 58), (1, .int x1), (2, .long x2), (4, .long x4), (6, .long x6), (8, .int x8)] [.int r9, .int (16 : Int32), .long x2] SH I8 0 0 _
    refine go_isub dX8_oddsOf_36 ?_
    refine go_i2l dX8_oddsOf_37 ?_
    refine go_lmul dX8_oddsOf_38 ?_
    refine go_lstore_n dX8_oddsOf_39 rfl (Nat.le_of_ble_eq_true rfl) (L2 := [(2, .long (x2 * (((16 : Int32) - r9).toInt64))), (0, .ref 58), (1, .int x1), (4, .long x4), (6, .long x6), (8, .int x8)]) rfl ?_
    refine go_lload dX8_oddsOf_40 3 rfl ?_
    refine go_ldc2 dX8_oddsOf_42 k_X8_243 ?_
    refine go_lmul dX8_oddsOf_45 ?_
    refine go_lstore dX8_oddsOf_46 (Nat.le_of_ble_eq_true rfl) (L2 := [(4, .long (x4 * (16 : Int64))), (2, .long (x2 * (((16 : Int32) - r9).toInt64))), (0, .ref 58), (1, .int x1), (6, .long x6), (8, .int x8)]) rfl ?_
    refine go_ldc2 dX8_oddsOf_48 k_X8_243 ?_
    refine go_lload dX8_oddsOf_51 4 rfl ?_
    refine go_lmul dX8_oddsOf_53 ?_
    refine go_lload_n dX8_oddsOf_54 rfl 1 rfl ?_
    refine go_ladd dX8_oddsOf_55 ?_
    refine go_topl (fun z10 ez10 => ?_)
    have h := h z10 ez10
    refine go_lstore dX8_oddsOf_56 (Nat.le_of_ble_eq_true rfl) (L2 := [(6, .long z10), (4, .long (x4 * (16 : Int64))), (2, .long (x2 * (((16 : Int32) - r9).toInt64))), (0, .ref 58), (1, .int x1), (8, .int x8)]) rfl ?_
    refine go_iinc dX8_oddsOf_58 5 rfl (v := (x8 + 1)) rfl (Nat.le_of_ble_eq_true rfl) (L2 := [(8, .int (x8 + 1)), (6, .long z10), (4, .long (x4 * (16 : Int64))), (2, .long (x2 * (((16 : Int32) - r9).toInt64))), (0, .ref 58), (1, .int x1)]) rfl ?_
    refine go_goto (tgt := 11) dX8_oddsOf_61 (by decide) ?_
    exact go_loc [(0, .ref 58), (1, .int x1), (2, .long (x2 * (((16 : Int32) - r9).toInt64))), (4, .long (x4 * (16 : Int64))), (6, .long z10), (8, .int (x8 + 1))] [4, 5, 3, 2, 1, 0] rfl h
set_option maxRecDepth 100000 in
set_option maxHeartbeats 4000000 in
theorem v_X8_odds {G : CX} {a1 : Int32}  {I : HP} {Q : HP → Int64 → Prop} (h : RV G Y_X8_find [.ref 58] I (fun I1 => RZ G Y_X8_in [.long (a1.toInt64), .long (0 : Int64), .long (3 : Int64)] I1 (fun I2 r3 => (((bI r3) = 0) → (RJ G Y_X8_no [.int (-2 : Int32)] I2 (fun I5 r6 => Q I5 r6))) ∧ ((¬ (bI r3) = 0) → (RJ G Y_X8_oddsOf [.ref 58, .int a1] I2 (fun I7 r8 => Q I7 r8)))))) : RJ G Y_X8_odds [.ref 58, .int a1] I Q := by
  refine ret_of (show plainName RX8 = true by decide) (Nat.le_of_ble_eq_true rfl) ?_
  show Go G Y_X8_odds 0 [(0, .ref 58), (1, .int a1)] [] SH I 0 0 _
  refine go_aload_n dX8_odds_0 rfl 0 rfl ?_
  refine go_vcall (Z := Y_X8_find) (As := []) (S := []) dX8_odds_1 ok_X8_find l_X8_162 (by decide) sh_58 (by decide) (Nat.le_of_ble_eq_true rfl) rfl rfl rfl (Nat.le_of_ble_eq_true rfl) h (fun _ I1 _ hq => ?_)
  obtain ⟨rfl, rfl, h⟩ := hq
  show Go G Y_X8_odds 4 [(0, .ref 58), (1, .int a1)] [] SH I1 0 0 _
  refine go_iload_n dX8_odds_4 rfl 1 rfl ?_
  refine go_i2l dX8_odds_5 ?_
  refine go_lconst dX8_odds_6 (v := (0 : Int64)) (by decide) ?_
  refine go_ldc2 dX8_odds_7 k_X8_80 ?_
  refine go_scall (Z := Y_X8_in) (As := [.long (a1.toInt64), .long (0 : Int64), .long (3 : Int64)]) (S := []) dX8_odds_10 ok_X8_in l_X8_72 (by decide) rfl rfl (Nat.le_of_ble_eq_true rfl) h (fun _ I2 _ hq => ?_)
  obtain ⟨rfl, r3, rfl, h⟩ := hq
  show Go G Y_X8_odds 13 [(0, .ref 58), (1, .int a1)] [.int (bI r3)] SH I2 0 0 _
  refine go_if_eq (tgt := 24) dX8_odds_13 (by decide) (fun c4 => ?_) (fun c4 => ?_)
  · have h := h.1 c4
    refine go_bipush dX8_odds_24 (v := (-2 : Int32)) (by decide) ?_
    refine go_scall (Z := Y_X8_no) (As := [.int (-2 : Int32)]) (S := []) dX8_odds_26 ok_X8_no l_X8_253 (by decide) rfl rfl (Nat.le_of_ble_eq_true rfl) h (fun _ I5 _ hq => ?_)
    obtain ⟨rfl, r6, rfl, h⟩ := hq
    show Go G Y_X8_odds 29 [(0, .ref 58), (1, .int a1)] [.long r6] SH I5 0 0 _
    exact go_lret dX8_odds_29 rfl rfl (by decide) ⟨rfl, _, rfl, h⟩
  · have h := h.2 c4
    refine go_aload_n dX8_odds_16 rfl 0 rfl ?_
    refine go_iload_n dX8_odds_17 rfl 1 rfl ?_
    refine go_vcall (Z := Y_X8_oddsOf) (As := [.int a1]) (S := []) dX8_odds_18 ok_X8_oddsOf l_X8_249 (by decide) sh_58 (by decide) (Nat.le_of_ble_eq_true rfl) rfl rfl rfl (Nat.le_of_ble_eq_true rfl) h (fun _ I7 _ hq => ?_)
    obtain ⟨rfl, r8, rfl, h⟩ := hq
    show Go G Y_X8_odds 21 [(0, .ref 58), (1, .int a1)] [.long r8] SH I7 0 0 _
    refine go_goto (tgt := 29) dX8_odds_21 (by decide) ?_
    exact go_lret dX8_odds_29 rfl rfl (by decide) ⟨rfl, _, rfl, h⟩
set_option maxRecDepth 100000 in
set_option maxHeartbeats 4000000 in
theorem v_X8_drawnOf {G : CX} {a1 : Int32}  {I : HP} {Q : HP → Int32 → Prop} (h : GI G Y_X8_drawnOf 4 [(0, .ref 58), (2, .int a1), (3, .int (0 : Int32))] I Q) : RI G Y_X8_drawnOf [.ref 58, .int a1] I Q := by
  refine ret_of (show plainName RX8 = true by decide) (Nat.le_of_ble_eq_true rfl) ?_
  show Go G Y_X8_drawnOf 0 [(0, .ref 58), (1, .int a1)] [] SH I 0 0 _
  refine go_iload_n dX8_drawnOf_0 rfl 1 rfl ?_
  refine go_istore_n dX8_drawnOf_1 rfl (Nat.le_of_ble_eq_true rfl) (L2 := [(2, .int a1), (0, .ref 58), (1, .int a1)]) rfl ?_
  refine go_iconst dX8_drawnOf_2 (v := (0 : Int32)) (by decide) ?_
  refine go_istore_n dX8_drawnOf_3 rfl (Nat.le_of_ble_eq_true rfl) (L2 := [(3, .int (0 : Int32)), (2, .int a1), (0, .ref 58), (1, .int a1)]) rfl ?_
  exact go_loc [(0, .ref 58), (2, .int a1), (3, .int (0 : Int32))] [2, 1, 0] rfl h
set_option maxRecDepth 100000 in
set_option maxHeartbeats 4000000 in
theorem v_X8_drawnOf_4 {G : CX} {x2 : Int32} {x3 : Int32}  {I : HP} {Q : HP → Int32 → Prop} (h : (((I 58 11) ≤ x3) → (Q I (I 58 11))) ∧ ((¬ (I 58 11) ≤ x3) → ((vp_in x3 14) ∧ ((((I 70 (nn x3)) ≤ (5 : Int32)) → (GI G Y_X8_drawnOf 4 [(0, .ref 58), (2, .int x2), (3, .int (x3 + 1))] I Q)) ∧ ((¬ (I 70 (nn x3)) ≤ (5 : Int32)) → (∀ z4 : Int32, z4 = (((1103515245 : Int32) * x2) + (12345 : Int32)) → ((((I 70 (nn x3)) - (5 : Int32)) ≤ ((ushr z4 (16 : Int32)) - (ushr z4 (16 : Int32)) / (16 : Int32) * (16 : Int32))) → (GI G Y_X8_drawnOf 4 [(0, .ref 58), (2, .int z4), (3, .int (x3 + 1))] I Q)) ∧ ((¬ ((I 70 (nn x3)) - (5 : Int32)) ≤ ((ushr z4 (16 : Int32)) - (ushr z4 (16 : Int32)) / (16 : Int32) * (16 : Int32))) → (Q I x3)))))))) : GI G Y_X8_drawnOf 4 [(0, .ref 58), (2, .int x2), (3, .int x3)] I Q := by
  show Go G Y_X8_drawnOf 4 [(0, .ref 58), (2, .int x2), (3, .int x3)] [] SH I 0 0 _
  refine go_iload_n dX8_drawnOf_4 rfl 2 rfl ?_
  refine go_aload_n dX8_drawnOf_5 rfl 0 rfl ?_
  refine go_getI dX8_drawnOf_6 sh_58 (by decide) f_X8_128 ⟨Nat.le_of_ble_eq_true rfl, Nat.le_of_ble_eq_true rfl, rfl⟩ ?_
  refine go_icmp_ge (tgt := 58) dX8_drawnOf_9 (by decide) (fun c1 => ?_) (fun c1 => ?_)
  · have h := h.1 c1
    refine go_aload_n dX8_drawnOf_58 rfl 0 rfl ?_
    refine go_getI dX8_drawnOf_59 sh_58 (by decide) f_X8_128 ⟨Nat.le_of_ble_eq_true rfl, Nat.le_of_ble_eq_true rfl, rfl⟩ ?_
    exact go_iret dX8_drawnOf_62 rfl rfl (by decide) ⟨rfl, _, rfl, h⟩
  · have h := h.2 c1
    refine go_aload_n dX8_drawnOf_12 rfl 0 rfl ?_
    refine go_getR dX8_drawnOf_13 sh_58 (by decide) f_X8_43 ⟨Nat.le_of_ble_eq_true rfl, Nat.le_of_ble_eq_true rfl, rfl⟩ rfl ?_
    refine go_iload_n dX8_drawnOf_16 rfl 2 rfl ?_
    have hb2 := h.1
    have h := h.2
    refine go_iald dX8_drawnOf_17 sh_70 (by decide) hb2 rfl ?_
    refine go_iconst dX8_drawnOf_18 (v := (5 : Int32)) (by decide) ?_
    refine go_icmp_le (tgt := 52) dX8_drawnOf_19 (by decide) (fun c3 => ?_) (fun c3 => ?_)
    · have h := h.1 c3
      refine go_iinc dX8_drawnOf_52 2 rfl (v := (x3 + 1)) rfl (Nat.le_of_ble_eq_true rfl) (L2 := [(3, .int (x3 + 1)), (0, .ref 58), (2, .int x2)]) rfl ?_
      refine go_goto (tgt := 4) dX8_drawnOf_55 (by decide) ?_
      exact go_loc [(0, .ref 58), (2, .int x2), (3, .int (x3 + 1))] [1, 2, 0] rfl h
    · have h := h.2 c3
      refine go_ldcw dX8_drawnOf_22 k_X8_256 ?_
      refine go_iload_n dX8_drawnOf_25 rfl 1 rfl ?_
      refine go_imul dX8_drawnOf_26 ?_
      refine go_sipush dX8_drawnOf_27 (v := (12345 : Int32)) (by decide) ?_
      refine go_iadd dX8_drawnOf_30 ?_
      refine go_top (fun z4 ez4 => ?_)
      have h := h z4 ez4
      refine go_istore_n dX8_drawnOf_31 rfl (Nat.le_of_ble_eq_true rfl) (L2 := [(2, .int z4), (0, .ref 58), (3, .int x3)]) rfl ?_
      refine go_iload_n dX8_drawnOf_32 rfl 0 rfl ?_
      refine go_bipush dX8_drawnOf_33 (v := (16 : Int32)) (by decide) ?_
      refine go_iushr dX8_drawnOf_35 rfl ?_
      refine go_bipush dX8_drawnOf_36 (v := (16 : Int32)) (by decide) ?_
      refine go_irem dX8_drawnOf_38 (by decide) ?_
      refine go_aload_n dX8_drawnOf_39 rfl 1 rfl ?_
      refine go_getR dX8_drawnOf_40 sh_58 (by decide) f_X8_43 ⟨Nat.le_of_ble_eq_true rfl, Nat.le_of_ble_eq_true rfl, rfl⟩ rfl ?_
      refine go_iload_n dX8_drawnOf_43 rfl 2 rfl ?_
      refine go_iald dX8_drawnOf_44 sh_70 (by decide) hb2 rfl ?_
      refine go_iconst dX8_drawnOf_45 (v := (5 : Int32)) (by decide) ?_
      refine go_isub dX8_drawnOf_46 ?_
      refine go_icmp_ge (tgt := 52) dX8_drawnOf_47 (by decide) (fun c5 => ?_) (fun c5 => ?_)
      · have h := h.1 c5
        refine go_iinc dX8_drawnOf_52 2 rfl (v := (x3 + 1)) rfl (Nat.le_of_ble_eq_true rfl) (L2 := [(3, .int (x3 + 1)), (2, .int z4), (0, .ref 58)]) rfl ?_
        refine go_goto (tgt := 4) dX8_drawnOf_55 (by decide) ?_
        exact go_loc [(0, .ref 58), (2, .int z4), (3, .int (x3 + 1))] [2, 1, 0] rfl h
      · have h := h.2 c5
        refine go_iload_n dX8_drawnOf_50 rfl 2 rfl ?_
        exact go_iret dX8_drawnOf_51 rfl rfl (by decide) ⟨rfl, _, rfl, h⟩
set_option maxRecDepth 100000 in
set_option maxHeartbeats 4000000 in
theorem v_X8_drawn {G : CX} {a1 : Int32}  {I : HP} {Q : HP → Int32 → Prop} (h : RV G Y_X8_find [.ref 58] I (fun I1 => RI G Y_X8_drawnOf [.ref 58, .int a1] I1 (fun I2 r3 => Q I2 r3))) : RI G Y_X8_drawn [.ref 58, .int a1] I Q := by
  refine ret_of (show plainName RX8 = true by decide) (Nat.le_of_ble_eq_true rfl) ?_
  show Go G Y_X8_drawn 0 [(0, .ref 58), (1, .int a1)] [] SH I 0 0 _
  refine go_aload_n dX8_drawn_0 rfl 0 rfl ?_
  refine go_vcall (Z := Y_X8_find) (As := []) (S := []) dX8_drawn_1 ok_X8_find l_X8_162 (by decide) sh_58 (by decide) (Nat.le_of_ble_eq_true rfl) rfl rfl rfl (Nat.le_of_ble_eq_true rfl) h (fun _ I1 _ hq => ?_)
  obtain ⟨rfl, rfl, h⟩ := hq
  show Go G Y_X8_drawn 4 [(0, .ref 58), (1, .int a1)] [] SH I1 0 0 _
  refine go_aload_n dX8_drawn_4 rfl 0 rfl ?_
  refine go_iload_n dX8_drawn_5 rfl 1 rfl ?_
  refine go_vcall (Z := Y_X8_drawnOf) (As := [.int a1]) (S := []) dX8_drawn_6 ok_X8_drawnOf l_X8_257 (by decide) sh_58 (by decide) (Nat.le_of_ble_eq_true rfl) rfl rfl rfl (Nat.le_of_ble_eq_true rfl) h (fun _ I2 _ hq => ?_)
  obtain ⟨rfl, r3, rfl, h⟩ := hq
  show Go G Y_X8_drawn 9 [(0, .ref 58), (1, .int a1)] [.int r3] SH I2 0 0 _
  exact go_iret dX8_drawn_9 rfl rfl (by decide) ⟨rfl, _, rfl, h⟩
set_option maxRecDepth 100000 in
set_option maxHeartbeats 4000000 in
theorem v_X8_errors {G : CX} {a1 : Int32} {a2 : Int32}  {I : HP} {Q : HP → Int32 → Prop} (h : GI G Y_X8_errors 5 [(0, .ref 58), (1, .int a1), (2, .int a2), (3, .int (0 : Int32)), (4, .int (0 : Int32))] I Q) : RI G Y_X8_errors [.ref 58, .int a1, .int a2] I Q := by
  refine ret_of (show plainName RX8 = true by decide) (Nat.le_of_ble_eq_true rfl) ?_
  show Go G Y_X8_errors 0 [(0, .ref 58), (1, .int a1), (2, .int a2)] [] SH I 0 0 _
  refine go_iconst dX8_errors_0 (v := (0 : Int32)) (by decide) ?_
  refine go_istore_n dX8_errors_1 rfl (Nat.le_of_ble_eq_true rfl) (L2 := [(3, .int (0 : Int32)), (0, .ref 58), (1, .int a1), (2, .int a2)]) rfl ?_
  refine go_iconst dX8_errors_2 (v := (0 : Int32)) (by decide) ?_
  refine go_istore dX8_errors_3 (Nat.le_of_ble_eq_true rfl) (L2 := [(4, .int (0 : Int32)), (3, .int (0 : Int32)), (0, .ref 58), (1, .int a1), (2, .int a2)]) rfl ?_
  exact go_loc [(0, .ref 58), (1, .int a1), (2, .int a2), (3, .int (0 : Int32)), (4, .int (0 : Int32))] [2, 3, 4, 1, 0] rfl h
set_option maxRecDepth 100000 in
set_option maxHeartbeats 4000000 in
theorem v_X8_errors_5 {G : CX} {x1 : Int32} {x2 : Int32} {x3 : Int32} {x4 : Int32}  {I : HP} {Q : HP → Int32 → Prop} (h : (((I 65 0) ≤ x4) → (Q I x3)) ∧ ((¬ (I 65 0) ≤ x4) → ((vp_in (((4 : Int32) * x4) + (2 : Int32)) 64) ∧ ((((I 66 (nn (((4 : Int32) * x4) + (2 : Int32)))) < x1) → (RZ G Y_X8_isIn [.int (I 67 5), .int x4] I (fun I4 r5 => ((¬ x2 = 0) → (((¬ x2 = (1 : Int32)) → (GI G Y_X8_errors 5 [(0, .ref 58), (1, .int x1), (2, .int x2), (3, .int (x3 + (0 : Int32))), (4, .int (x4 + 1))] I4 Q)) ∧ ((x2 = (1 : Int32)) → ((((bI r5) = 0) → (GI G Y_X8_errors 5 [(0, .ref 58), (1, .int x1), (2, .int x2), (3, .int (x3 + (0 : Int32))), (4, .int (x4 + 1))] I4 Q)) ∧ ((¬ (bI r5) = 0) → (GI G Y_X8_errors 5 [(0, .ref 58), (1, .int x1), (2, .int x2), (3, .int (x3 + (1 : Int32))), (4, .int (x4 + 1))] I4 Q)))))) ∧ ((x2 = 0) → (((¬ x2 = (1 : Int32)) → (GI G Y_X8_errors 5 [(0, .ref 58), (1, .int x1), (2, .int x2), (3, .int (x3 + (0 : Int32))), (4, .int (x4 + 1))] I4 Q)) ∧ ((x2 = (1 : Int32)) → ((((bI r5) = 0) → (GI G Y_X8_errors 5 [(0, .ref 58), (1, .int x1), (2, .int x2), (3, .int (x3 + (0 : Int32))), (4, .int (x4 + 1))] I4 Q)) ∧ ((¬ (bI r5) = 0) → (GI G Y_X8_errors 5 [(0, .ref 58), (1, .int x1), (2, .int x2), (3, .int (x3 + (1 : Int32))), (4, .int (x4 + 1))] I4 Q))))))))) ∧ ((¬ (I 66 (nn (((4 : Int32) * x4) + (2 : Int32)))) < x1) → (RZ G Y_X8_isIn [.int (I 67 5), .int x4] I (fun I11 r12 => ((¬ x2 = 0) → (((¬ x2 = (1 : Int32)) → (GI G Y_X8_errors 5 [(0, .ref 58), (1, .int x1), (2, .int x2), (3, .int (x3 + (0 : Int32))), (4, .int (x4 + 1))] I11 Q)) ∧ ((x2 = (1 : Int32)) → (GI G Y_X8_errors 5 [(0, .ref 58), (1, .int x1), (2, .int x2), (3, .int (x3 + (0 : Int32))), (4, .int (x4 + 1))] I11 Q)))) ∧ ((x2 = 0) → ((((bI r12) = 0) → (GI G Y_X8_errors 5 [(0, .ref 58), (1, .int x1), (2, .int x2), (3, .int (x3 + (1 : Int32))), (4, .int (x4 + 1))] I11 Q)) ∧ ((¬ (bI r12) = 0) → (((¬ x2 = (1 : Int32)) → (GI G Y_X8_errors 5 [(0, .ref 58), (1, .int x1), (2, .int x2), (3, .int (x3 + (0 : Int32))), (4, .int (x4 + 1))] I11 Q)) ∧ ((x2 = (1 : Int32)) → (GI G Y_X8_errors 5 [(0, .ref 58), (1, .int x1), (2, .int x2), (3, .int (x3 + (0 : Int32))), (4, .int (x4 + 1))] I11 Q))))))))))))) : GI G Y_X8_errors 5 [(0, .ref 58), (1, .int x1), (2, .int x2), (3, .int x3), (4, .int x4)] I Q := by
  show Go G Y_X8_errors 5 [(0, .ref 58), (1, .int x1), (2, .int x2), (3, .int x3), (4, .int x4)] [] SH I 0 0 _
  refine go_iload dX8_errors_5 4 rfl ?_
  refine go_aload_n dX8_errors_7 rfl 0 rfl ?_
  refine go_getR dX8_errors_8 sh_58 (by decide) f_X8_28 ⟨Nat.le_of_ble_eq_true rfl, Nat.le_of_ble_eq_true rfl, rfl⟩ rfl ?_
  refine go_iconst dX8_errors_11 (v := (0 : Int32)) (by decide) ?_
  refine go_iald dX8_errors_12 sh_65 (by decide) (by unfold vp_in; decide) (j := 0) (by decide) ?_
  refine go_icmp_ge (tgt := 94) dX8_errors_13 (by decide) (fun c1 => ?_) (fun c1 => ?_)
  · have h := h.1 c1
    refine go_iload_n dX8_errors_94 rfl 3 rfl ?_
    exact go_iret dX8_errors_95 rfl rfl (by decide) ⟨rfl, _, rfl, h⟩
  · have h := h.2 c1
    refine go_aload_n dX8_errors_16 rfl 0 rfl ?_
    refine go_getR dX8_errors_17 sh_58 (by decide) f_X8_31 ⟨Nat.le_of_ble_eq_true rfl, Nat.le_of_ble_eq_true rfl, rfl⟩ rfl ?_
    refine go_iconst dX8_errors_20 (v := (4 : Int32)) (by decide) ?_
    refine go_iload dX8_errors_21 4 rfl ?_
    refine go_imul dX8_errors_23 ?_
    refine go_iconst dX8_errors_24 (v := (2 : Int32)) (by decide) ?_
    refine go_iadd dX8_errors_25 ?_
    have hb2 := h.1
    have h := h.2
    refine go_iald dX8_errors_26 sh_66 (by decide) hb2 rfl ?_
    refine go_iload_n dX8_errors_27 rfl 1 rfl ?_
    refine go_icmp_lt (tgt := 35) dX8_errors_28 (by decide) (fun c3 => ?_) (fun c3 => ?_)
    · have h := h.1 c3
      refine go_iconst dX8_errors_35 (v := (0 : Int32)) (by decide) ?_
      refine go_istore dX8_errors_36 (Nat.le_of_ble_eq_true rfl) (L2 := [(5, .int (0 : Int32)), (0, .ref 58), (1, .int x1), (2, .int x2), (3, .int x3), (4, .int x4)]) rfl ?_
      refine go_aload_n dX8_errors_38 rfl 1 rfl ?_
      refine go_getR dX8_errors_39 sh_58 (by decide) f_X8_34 ⟨Nat.le_of_ble_eq_true rfl, Nat.le_of_ble_eq_true rfl, rfl⟩ rfl ?_
      refine go_iconst dX8_errors_42 (v := (5 : Int32)) (by decide) ?_
      refine go_iald dX8_errors_43 sh_67 (by decide) (by unfold vp_in; decide) (j := 5) (by decide) ?_
      refine go_iload dX8_errors_44 5 rfl ?_
      refine go_scall (Z := Y_X8_isIn) (As := [.int (I 67 5), .int x4]) (S := []) dX8_errors_46 ok_X8_isIn l_X8_260 (by decide) rfl rfl (Nat.le_of_ble_eq_true rfl) h (fun _ I4 _ hq => ?_)
      obtain ⟨rfl, r5, rfl, h⟩ := hq
      show Go G Y_X8_errors 49 [(5, .int (0 : Int32)), (0, .ref 58), (1, .int x1), (2, .int x2), (3, .int x3), (4, .int x4)] [.int (bI r5)] SH I4 0 0 _
      refine go_istore dX8_errors_49 (Nat.le_of_ble_eq_true rfl) (L2 := [(6, .int (bI r5)), (5, .int (0 : Int32)), (0, .ref 58), (1, .int x1), (2, .int x2), (3, .int x3), (4, .int x4)]) rfl ?_
      refine go_iload_n dX8_errors_51 rfl 5 rfl ?_
      refine go_iload_n dX8_errors_52 rfl 4 rfl ?_
      refine go_if_ne (tgt := 66) dX8_errors_53 (by decide) (fun c6 => ?_) (fun c6 => ?_)
      · have h := h.1 c6
        refine go_iload_n dX8_errors_66 rfl 4 rfl ?_
        refine go_iconst dX8_errors_67 (v := (1 : Int32)) (by decide) ?_
        refine go_icmp_ne (tgt := 85) dX8_errors_68 (by decide) (fun c7 => ?_) (fun c7 => ?_)
        · have h := h.1 c7
          refine go_iconst dX8_errors_85 (v := (0 : Int32)) (by decide) ?_
          refine go_iadd dX8_errors_86 ?_
          refine go_istore_n dX8_errors_87 rfl (Nat.le_of_ble_eq_true rfl) (L2 := [(3, .int (x3 + (0 : Int32))), (6, .int (bI r5)), (5, .int (0 : Int32)), (0, .ref 58), (1, .int x1), (2, .int x2), (4, .int x4)]) rfl ?_
          refine go_iinc dX8_errors_88 6 rfl (v := (x4 + 1)) rfl (Nat.le_of_ble_eq_true rfl) (L2 := [(4, .int (x4 + 1)), (3, .int (x3 + (0 : Int32))), (6, .int (bI r5)), (5, .int (0 : Int32)), (0, .ref 58), (1, .int x1), (2, .int x2)]) rfl ?_
          refine go_goto (tgt := 5) dX8_errors_91 (by decide) ?_
          exact go_loc [(0, .ref 58), (1, .int x1), (2, .int x2), (3, .int (x3 + (0 : Int32))), (4, .int (x4 + 1))] [4, 5, 6, 1, 0] rfl h
        · have h := h.2 c7
          refine go_iload dX8_errors_71 1 rfl ?_
          refine go_if_ne (tgt := 85) dX8_errors_73 (by decide) (fun c => absurd (by decide) c) (fun _ => ?_)
          refine go_iload dX8_errors_76 0 rfl ?_
          refine go_if_eq (tgt := 85) dX8_errors_78 (by decide) (fun c8 => ?_) (fun c8 => ?_)
          · have h := h.1 c8
            refine go_iconst dX8_errors_85 (v := (0 : Int32)) (by decide) ?_
            refine go_iadd dX8_errors_86 ?_
            refine go_istore_n dX8_errors_87 rfl (Nat.le_of_ble_eq_true rfl) (L2 := [(3, .int (x3 + (0 : Int32))), (6, .int (bI r5)), (5, .int (0 : Int32)), (0, .ref 58), (1, .int x1), (2, .int x2), (4, .int x4)]) rfl ?_
            refine go_iinc dX8_errors_88 6 rfl (v := (x4 + 1)) rfl (Nat.le_of_ble_eq_true rfl) (L2 := [(4, .int (x4 + 1)), (3, .int (x3 + (0 : Int32))), (6, .int (bI r5)), (5, .int (0 : Int32)), (0, .ref 58), (1, .int x1), (2, .int x2)]) rfl ?_
            refine go_goto (tgt := 5) dX8_errors_91 (by decide) ?_
            exact go_loc [(0, .ref 58), (1, .int x1), (2, .int x2), (3, .int (x3 + (0 : Int32))), (4, .int (x4 + 1))] [4, 5, 6, 1, 0] rfl h
          · have h := h.2 c8
            refine go_iconst dX8_errors_81 (v := (1 : Int32)) (by decide) ?_
            refine go_goto (tgt := 86) dX8_errors_82 (by decide) ?_
            refine go_iadd dX8_errors_86 ?_
            refine go_istore_n dX8_errors_87 rfl (Nat.le_of_ble_eq_true rfl) (L2 := [(3, .int (x3 + (1 : Int32))), (6, .int (bI r5)), (5, .int (0 : Int32)), (0, .ref 58), (1, .int x1), (2, .int x2), (4, .int x4)]) rfl ?_
            refine go_iinc dX8_errors_88 6 rfl (v := (x4 + 1)) rfl (Nat.le_of_ble_eq_true rfl) (L2 := [(4, .int (x4 + 1)), (3, .int (x3 + (1 : Int32))), (6, .int (bI r5)), (5, .int (0 : Int32)), (0, .ref 58), (1, .int x1), (2, .int x2)]) rfl ?_
            refine go_goto (tgt := 5) dX8_errors_91 (by decide) ?_
            exact go_loc [(0, .ref 58), (1, .int x1), (2, .int x2), (3, .int (x3 + (1 : Int32))), (4, .int (x4 + 1))] [4, 5, 6, 1, 0] rfl h
      · have h := h.2 c6
        refine go_iload dX8_errors_56 1 rfl ?_
        refine go_if_eq (tgt := 66) dX8_errors_58 (by decide) (fun _ => ?_) (fun c => absurd (by decide) c)
        refine go_iload_n dX8_errors_66 rfl 4 rfl ?_
        refine go_iconst dX8_errors_67 (v := (1 : Int32)) (by decide) ?_
        refine go_icmp_ne (tgt := 85) dX8_errors_68 (by decide) (fun c9 => ?_) (fun c9 => ?_)
        · have h := h.1 c9
          refine go_iconst dX8_errors_85 (v := (0 : Int32)) (by decide) ?_
          refine go_iadd dX8_errors_86 ?_
          refine go_istore_n dX8_errors_87 rfl (Nat.le_of_ble_eq_true rfl) (L2 := [(3, .int (x3 + (0 : Int32))), (6, .int (bI r5)), (5, .int (0 : Int32)), (0, .ref 58), (1, .int x1), (2, .int x2), (4, .int x4)]) rfl ?_
          refine go_iinc dX8_errors_88 6 rfl (v := (x4 + 1)) rfl (Nat.le_of_ble_eq_true rfl) (L2 := [(4, .int (x4 + 1)), (3, .int (x3 + (0 : Int32))), (6, .int (bI r5)), (5, .int (0 : Int32)), (0, .ref 58), (1, .int x1), (2, .int x2)]) rfl ?_
          refine go_goto (tgt := 5) dX8_errors_91 (by decide) ?_
          exact go_loc [(0, .ref 58), (1, .int x1), (2, .int x2), (3, .int (x3 + (0 : Int32))), (4, .int (x4 + 1))] [4, 5, 6, 1, 0] rfl h
        · have h := h.2 c9
          refine go_iload dX8_errors_71 1 rfl ?_
          refine go_if_ne (tgt := 85) dX8_errors_73 (by decide) (fun c => absurd (by decide) c) (fun _ => ?_)
          refine go_iload dX8_errors_76 0 rfl ?_
          refine go_if_eq (tgt := 85) dX8_errors_78 (by decide) (fun c10 => ?_) (fun c10 => ?_)
          · have h := h.1 c10
            refine go_iconst dX8_errors_85 (v := (0 : Int32)) (by decide) ?_
            refine go_iadd dX8_errors_86 ?_
            refine go_istore_n dX8_errors_87 rfl (Nat.le_of_ble_eq_true rfl) (L2 := [(3, .int (x3 + (0 : Int32))), (6, .int (bI r5)), (5, .int (0 : Int32)), (0, .ref 58), (1, .int x1), (2, .int x2), (4, .int x4)]) rfl ?_
            refine go_iinc dX8_errors_88 6 rfl (v := (x4 + 1)) rfl (Nat.le_of_ble_eq_true rfl) (L2 := [(4, .int (x4 + 1)), (3, .int (x3 + (0 : Int32))), (6, .int (bI r5)), (5, .int (0 : Int32)), (0, .ref 58), (1, .int x1), (2, .int x2)]) rfl ?_
            refine go_goto (tgt := 5) dX8_errors_91 (by decide) ?_
            exact go_loc [(0, .ref 58), (1, .int x1), (2, .int x2), (3, .int (x3 + (0 : Int32))), (4, .int (x4 + 1))] [4, 5, 6, 1, 0] rfl h
          · have h := h.2 c10
            refine go_iconst dX8_errors_81 (v := (1 : Int32)) (by decide) ?_
            refine go_goto (tgt := 86) dX8_errors_82 (by decide) ?_
            refine go_iadd dX8_errors_86 ?_
            refine go_istore_n dX8_errors_87 rfl (Nat.le_of_ble_eq_true rfl) (L2 := [(3, .int (x3 + (1 : Int32))), (6, .int (bI r5)), (5, .int (0 : Int32)), (0, .ref 58), (1, .int x1), (2, .int x2), (4, .int x4)]) rfl ?_
            refine go_iinc dX8_errors_88 6 rfl (v := (x4 + 1)) rfl (Nat.le_of_ble_eq_true rfl) (L2 := [(4, .int (x4 + 1)), (3, .int (x3 + (1 : Int32))), (6, .int (bI r5)), (5, .int (0 : Int32)), (0, .ref 58), (1, .int x1), (2, .int x2)]) rfl ?_
            refine go_goto (tgt := 5) dX8_errors_91 (by decide) ?_
            exact go_loc [(0, .ref 58), (1, .int x1), (2, .int x2), (3, .int (x3 + (1 : Int32))), (4, .int (x4 + 1))] [4, 5, 6, 1, 0] rfl h
    · have h := h.2 c3
      refine go_iconst dX8_errors_31 (v := (1 : Int32)) (by decide) ?_
      refine go_goto (tgt := 36) dX8_errors_32 (by decide) ?_
      refine go_istore dX8_errors_36 (Nat.le_of_ble_eq_true rfl) (L2 := [(5, .int (1 : Int32)), (0, .ref 58), (1, .int x1), (2, .int x2), (3, .int x3), (4, .int x4)]) rfl ?_
      refine go_aload_n dX8_errors_38 rfl 1 rfl ?_
      refine go_getR dX8_errors_39 sh_58 (by decide) f_X8_34 ⟨Nat.le_of_ble_eq_true rfl, Nat.le_of_ble_eq_true rfl, rfl⟩ rfl ?_
      refine go_iconst dX8_errors_42 (v := (5 : Int32)) (by decide) ?_
      refine go_iald dX8_errors_43 sh_67 (by decide) (by unfold vp_in; decide) (j := 5) (by decide) ?_
      refine go_iload dX8_errors_44 5 rfl ?_
      refine go_scall (Z := Y_X8_isIn) (As := [.int (I 67 5), .int x4]) (S := []) dX8_errors_46 ok_X8_isIn l_X8_260 (by decide) rfl rfl (Nat.le_of_ble_eq_true rfl) h (fun _ I11 _ hq => ?_)
      obtain ⟨rfl, r12, rfl, h⟩ := hq
      show Go G Y_X8_errors 49 [(5, .int (1 : Int32)), (0, .ref 58), (1, .int x1), (2, .int x2), (3, .int x3), (4, .int x4)] [.int (bI r12)] SH I11 0 0 _
      refine go_istore dX8_errors_49 (Nat.le_of_ble_eq_true rfl) (L2 := [(6, .int (bI r12)), (5, .int (1 : Int32)), (0, .ref 58), (1, .int x1), (2, .int x2), (3, .int x3), (4, .int x4)]) rfl ?_
      refine go_iload_n dX8_errors_51 rfl 5 rfl ?_
      refine go_iload_n dX8_errors_52 rfl 4 rfl ?_
      refine go_if_ne (tgt := 66) dX8_errors_53 (by decide) (fun c13 => ?_) (fun c13 => ?_)
      · have h := h.1 c13
        refine go_iload_n dX8_errors_66 rfl 4 rfl ?_
        refine go_iconst dX8_errors_67 (v := (1 : Int32)) (by decide) ?_
        refine go_icmp_ne (tgt := 85) dX8_errors_68 (by decide) (fun c14 => ?_) (fun c14 => ?_)
        · have h := h.1 c14
          refine go_iconst dX8_errors_85 (v := (0 : Int32)) (by decide) ?_
          refine go_iadd dX8_errors_86 ?_
          refine go_istore_n dX8_errors_87 rfl (Nat.le_of_ble_eq_true rfl) (L2 := [(3, .int (x3 + (0 : Int32))), (6, .int (bI r12)), (5, .int (1 : Int32)), (0, .ref 58), (1, .int x1), (2, .int x2), (4, .int x4)]) rfl ?_
          refine go_iinc dX8_errors_88 6 rfl (v := (x4 + 1)) rfl (Nat.le_of_ble_eq_true rfl) (L2 := [(4, .int (x4 + 1)), (3, .int (x3 + (0 : Int32))), (6, .int (bI r12)), (5, .int (1 : Int32)), (0, .ref 58), (1, .int x1), (2, .int x2)]) rfl ?_
          refine go_goto (tgt := 5) dX8_errors_91 (by decide) ?_
          exact go_loc [(0, .ref 58), (1, .int x1), (2, .int x2), (3, .int (x3 + (0 : Int32))), (4, .int (x4 + 1))] [4, 5, 6, 1, 0] rfl h
        · have h := h.2 c14
          refine go_iload dX8_errors_71 1 rfl ?_
          refine go_if_ne (tgt := 85) dX8_errors_73 (by decide) (fun _ => ?_) (fun c => absurd c (by decide))
          refine go_iconst dX8_errors_85 (v := (0 : Int32)) (by decide) ?_
          refine go_iadd dX8_errors_86 ?_
          refine go_istore_n dX8_errors_87 rfl (Nat.le_of_ble_eq_true rfl) (L2 := [(3, .int (x3 + (0 : Int32))), (6, .int (bI r12)), (5, .int (1 : Int32)), (0, .ref 58), (1, .int x1), (2, .int x2), (4, .int x4)]) rfl ?_
          refine go_iinc dX8_errors_88 6 rfl (v := (x4 + 1)) rfl (Nat.le_of_ble_eq_true rfl) (L2 := [(4, .int (x4 + 1)), (3, .int (x3 + (0 : Int32))), (6, .int (bI r12)), (5, .int (1 : Int32)), (0, .ref 58), (1, .int x1), (2, .int x2)]) rfl ?_
          refine go_goto (tgt := 5) dX8_errors_91 (by decide) ?_
          exact go_loc [(0, .ref 58), (1, .int x1), (2, .int x2), (3, .int (x3 + (0 : Int32))), (4, .int (x4 + 1))] [4, 5, 6, 1, 0] rfl h
      · have h := h.2 c13
        refine go_iload dX8_errors_56 1 rfl ?_
        refine go_if_eq (tgt := 66) dX8_errors_58 (by decide) (fun c => absurd c (by decide)) (fun _ => ?_)
        refine go_iload dX8_errors_61 0 rfl ?_
        refine go_if_eq (tgt := 81) dX8_errors_63 (by decide) (fun c15 => ?_) (fun c15 => ?_)
        · have h := h.1 c15
          refine go_iconst dX8_errors_81 (v := (1 : Int32)) (by decide) ?_
          refine go_goto (tgt := 86) dX8_errors_82 (by decide) ?_
          refine go_iadd dX8_errors_86 ?_
          refine go_istore_n dX8_errors_87 rfl (Nat.le_of_ble_eq_true rfl) (L2 := [(3, .int (x3 + (1 : Int32))), (6, .int (bI r12)), (5, .int (1 : Int32)), (0, .ref 58), (1, .int x1), (2, .int x2), (4, .int x4)]) rfl ?_
          refine go_iinc dX8_errors_88 6 rfl (v := (x4 + 1)) rfl (Nat.le_of_ble_eq_true rfl) (L2 := [(4, .int (x4 + 1)), (3, .int (x3 + (1 : Int32))), (6, .int (bI r12)), (5, .int (1 : Int32)), (0, .ref 58), (1, .int x1), (2, .int x2)]) rfl ?_
          refine go_goto (tgt := 5) dX8_errors_91 (by decide) ?_
          exact go_loc [(0, .ref 58), (1, .int x1), (2, .int x2), (3, .int (x3 + (1 : Int32))), (4, .int (x4 + 1))] [4, 5, 6, 1, 0] rfl h
        · have h := h.2 c15
          refine go_iload_n dX8_errors_66 rfl 4 rfl ?_
          refine go_iconst dX8_errors_67 (v := (1 : Int32)) (by decide) ?_
          refine go_icmp_ne (tgt := 85) dX8_errors_68 (by decide) (fun c16 => ?_) (fun c16 => ?_)
          · have h := h.1 c16
            refine go_iconst dX8_errors_85 (v := (0 : Int32)) (by decide) ?_
            refine go_iadd dX8_errors_86 ?_
            refine go_istore_n dX8_errors_87 rfl (Nat.le_of_ble_eq_true rfl) (L2 := [(3, .int (x3 + (0 : Int32))), (6, .int (bI r12)), (5, .int (1 : Int32)), (0, .ref 58), (1, .int x1), (2, .int x2), (4, .int x4)]) rfl ?_
            refine go_iinc dX8_errors_88 6 rfl (v := (x4 + 1)) rfl (Nat.le_of_ble_eq_true rfl) (L2 := [(4, .int (x4 + 1)), (3, .int (x3 + (0 : Int32))), (6, .int (bI r12)), (5, .int (1 : Int32)), (0, .ref 58), (1, .int x1), (2, .int x2)]) rfl ?_
            refine go_goto (tgt := 5) dX8_errors_91 (by decide) ?_
            exact go_loc [(0, .ref 58), (1, .int x1), (2, .int x2), (3, .int (x3 + (0 : Int32))), (4, .int (x4 + 1))] [4, 5, 6, 1, 0] rfl h
          · have h := h.2 c16
            refine go_iload dX8_errors_71 1 rfl ?_
            refine go_if_ne (tgt := 85) dX8_errors_73 (by decide) (fun _ => ?_) (fun c => absurd c (by decide))
            refine go_iconst dX8_errors_85 (v := (0 : Int32)) (by decide) ?_
            refine go_iadd dX8_errors_86 ?_
            refine go_istore_n dX8_errors_87 rfl (Nat.le_of_ble_eq_true rfl) (L2 := [(3, .int (x3 + (0 : Int32))), (6, .int (bI r12)), (5, .int (1 : Int32)), (0, .ref 58), (1, .int x1), (2, .int x2), (4, .int x4)]) rfl ?_
            refine go_iinc dX8_errors_88 6 rfl (v := (x4 + 1)) rfl (Nat.le_of_ble_eq_true rfl) (L2 := [(4, .int (x4 + 1)), (3, .int (x3 + (0 : Int32))), (6, .int (bI r12)), (5, .int (1 : Int32)), (0, .ref 58), (1, .int x1), (2, .int x2)]) rfl ?_
            refine go_goto (tgt := 5) dX8_errors_91 (by decide) ?_
            exact go_loc [(0, .ref 58), (1, .int x1), (2, .int x2), (3, .int (x3 + (0 : Int32))), (4, .int (x4 + 1))] [4, 5, 6, 1, 0] rfl h
set_option maxRecDepth 100000 in
set_option maxHeartbeats 4000000 in
theorem v_X8_lineOf {G : CX} {a1 : Int32} {a2 : Int32}  {I : HP} {Q : HP → Int32 → Prop} (h : ((a1 = (-1 : Int32)) → (GI G Y_X8_lineOf 17 [(0, .ref 58), (2, .int a2), (3, .int (0 : Int32)), (4, .int (1 : Int32))] I Q)) ∧ ((¬ a1 = (-1 : Int32)) → (RI G Y_X8_errors [.ref 58, .int a1, .int a2] I (fun I2 r3 => Q I2 r3)))) : RI G Y_X8_lineOf [.ref 58, .int a1, .int a2] I Q := by
  refine ret_of (show plainName RX8 = true by decide) (Nat.le_of_ble_eq_true rfl) ?_
  show Go G Y_X8_lineOf 0 [(0, .ref 58), (1, .int a1), (2, .int a2)] [] SH I 0 0 _
  refine go_iload_n dX8_lineOf_0 rfl 1 rfl ?_
  refine go_iconst dX8_lineOf_1 (v := (-1 : Int32)) (by decide) ?_
  refine go_icmp_eq (tgt := 12) dX8_lineOf_2 (by decide) (fun c1 => ?_) (fun c1 => ?_)
  · have h := h.1 c1
    refine go_iconst dX8_lineOf_12 (v := (0 : Int32)) (by decide) ?_
    refine go_istore_n dX8_lineOf_13 rfl (Nat.le_of_ble_eq_true rfl) (L2 := [(3, .int (0 : Int32)), (0, .ref 58), (1, .int a1), (2, .int a2)]) rfl ?_
    refine go_iconst dX8_lineOf_14 (v := (1 : Int32)) (by decide) ?_
    refine go_istore dX8_lineOf_15 (Nat.le_of_ble_eq_true rfl) (L2 := [(4, .int (1 : Int32)), (3, .int (0 : Int32)), (0, .ref 58), (1, .int a1), (2, .int a2)]) rfl ?_
    exact go_loc [(0, .ref 58), (2, .int a2), (3, .int (0 : Int32)), (4, .int (1 : Int32))] [2, 4, 1, 0] rfl h
  · have h := h.2 c1
    refine go_aload_n dX8_lineOf_5 rfl 0 rfl ?_
    refine go_iload_n dX8_lineOf_6 rfl 1 rfl ?_
    refine go_iload_n dX8_lineOf_7 rfl 2 rfl ?_
    refine go_vcall (Z := Y_X8_errors) (As := [.int a1, .int a2]) (S := []) dX8_lineOf_8 ok_X8_errors l_X8_264 (by decide) sh_58 (by decide) (Nat.le_of_ble_eq_true rfl) rfl rfl rfl (Nat.le_of_ble_eq_true rfl) h (fun _ I2 _ hq => ?_)
    obtain ⟨rfl, r3, rfl, h⟩ := hq
    show Go G Y_X8_lineOf 11 [(0, .ref 58), (1, .int a1), (2, .int a2)] [.int r3] SH I2 0 0 _
    exact go_iret dX8_lineOf_11 rfl rfl (by decide) ⟨rfl, _, rfl, h⟩
set_option maxRecDepth 100000 in
set_option maxHeartbeats 4000000 in
theorem v_X8_lineOf_17 {G : CX} {x2 : Int32} {x3 : Int32} {x4 : Int32}  {I : HP} {Q : HP → Int32 → Prop} (h : (((11 : Int32) ≤ x4) → (((¬ x2 = 0) → (RI G Y_X8_errors [.ref 58, .int x3, .int (0 : Int32)] I (fun I3 r4 => RI G Y_X8_errors [.ref 58, .int x3, .int (1 : Int32)] I3 (fun I5 r6 => Q I5 (r4 + r6))))) ∧ ((x2 = 0) → (Q I x3)))) ∧ ((¬ (11 : Int32) ≤ x4) → (RI G Y_X8_errors [.ref 58, .int x4, .int (0 : Int32)] I (fun I7 r8 => RI G Y_X8_errors [.ref 58, .int x4, .int (1 : Int32)] I7 (fun I9 r10 => RI G Y_X8_errors [.ref 58, .int x3, .int (0 : Int32)] I9 (fun I11 r12 => RI G Y_X8_errors [.ref 58, .int x3, .int (1 : Int32)] I11 (fun I13 r14 => (((r12 + r14) ≤ (r8 + r10)) → (GI G Y_X8_lineOf 17 [(0, .ref 58), (2, .int x2), (3, .int x3), (4, .int (x4 + 1))] I13 Q)) ∧ ((¬ (r12 + r14) ≤ (r8 + r10)) → (GI G Y_X8_lineOf 17 [(0, .ref 58), (2, .int x2), (3, .int x4), (4, .int (x4 + 1))] I13 Q))))))))) : GI G Y_X8_lineOf 17 [(0, .ref 58), (2, .int x2), (3, .int x3), (4, .int x4)] I Q := by
  show Go G Y_X8_lineOf 17 [(0, .ref 58), (2, .int x2), (3, .int x3), (4, .int x4)] [] SH I 0 0 _
  refine go_iload dX8_lineOf_17 3 rfl ?_
  refine go_bipush dX8_lineOf_19 (v := (11 : Int32)) (by decide) ?_
  refine go_icmp_ge (tgt := 68) dX8_lineOf_21 (by decide) (fun c1 => ?_) (fun c1 => ?_)
  · have h := h.1 c1
    refine go_iload_n dX8_lineOf_68 rfl 1 rfl ?_
    refine go_if_ne (tgt := 76) dX8_lineOf_69 (by decide) (fun c2 => ?_) (fun c2 => ?_)
    · have h := h.1 c2
      refine go_aload_n dX8_lineOf_76 rfl 0 rfl ?_
      refine go_iload_n dX8_lineOf_77 rfl 2 rfl ?_
      refine go_iconst dX8_lineOf_78 (v := (0 : Int32)) (by decide) ?_
      refine go_vcall (Z := Y_X8_errors) (As := [.int x3, .int (0 : Int32)]) (S := []) dX8_lineOf_79 ok_X8_errors l_X8_264 (by decide) sh_58 (by decide) (Nat.le_of_ble_eq_true rfl) rfl rfl rfl (Nat.le_of_ble_eq_true rfl) h (fun _ I3 _ hq => ?_)
      obtain ⟨rfl, r4, rfl, h⟩ := hq
      show Go G Y_X8_lineOf 82 [(0, .ref 58), (2, .int x2), (3, .int x3), (4, .int x4)] [.int r4] SH I3 0 0 _
      refine go_aload_n dX8_lineOf_82 rfl 0 rfl ?_
      refine go_iload_n dX8_lineOf_83 rfl 2 rfl ?_
      refine go_iconst dX8_lineOf_84 (v := (1 : Int32)) (by decide) ?_
      refine go_vcall (Z := Y_X8_errors) (As := [.int x3, .int (1 : Int32)]) (S := [.int r4]) dX8_lineOf_85 ok_X8_errors l_X8_264 (by decide) sh_58 (by decide) (Nat.le_of_ble_eq_true rfl) rfl rfl rfl (Nat.le_of_ble_eq_true rfl) h (fun _ I5 _ hq => ?_)
      obtain ⟨rfl, r6, rfl, h⟩ := hq
      show Go G Y_X8_lineOf 88 [(0, .ref 58), (2, .int x2), (3, .int x3), (4, .int x4)] [.int r6, .int r4] SH I5 0 0 _
      refine go_iadd dX8_lineOf_88 ?_
      exact go_iret dX8_lineOf_89 rfl rfl (by decide) ⟨rfl, _, rfl, h⟩
    · have h := h.2 c2
      refine go_iload_n dX8_lineOf_72 rfl 2 rfl ?_
      refine go_goto (tgt := 89) dX8_lineOf_73 (by decide) ?_
      exact go_iret dX8_lineOf_89 rfl rfl (by decide) ⟨rfl, _, rfl, h⟩
  · have h := h.2 c1
    refine go_aload_n dX8_lineOf_24 rfl 0 rfl ?_
    refine go_iload dX8_lineOf_25 3 rfl ?_
    refine go_iconst dX8_lineOf_27 (v := (0 : Int32)) (by decide) ?_
    refine go_vcall (Z := Y_X8_errors) (As := [.int x4, .int (0 : Int32)]) (S := []) dX8_lineOf_28 ok_X8_errors l_X8_264 (by decide) sh_58 (by decide) (Nat.le_of_ble_eq_true rfl) rfl rfl rfl (Nat.le_of_ble_eq_true rfl) h (fun _ I7 _ hq => ?_)
    obtain ⟨rfl, r8, rfl, h⟩ := hq
    show Go G Y_X8_lineOf 31 [(0, .ref 58), (2, .int x2), (3, .int x3), (4, .int x4)] [.int r8] SH I7 0 0 _
    refine go_aload_n dX8_lineOf_31 rfl 0 rfl ?_
    refine go_iload dX8_lineOf_32 3 rfl ?_
    refine go_iconst dX8_lineOf_34 (v := (1 : Int32)) (by decide) ?_
    refine go_vcall (Z := Y_X8_errors) (As := [.int x4, .int (1 : Int32)]) (S := [.int r8]) dX8_lineOf_35 ok_X8_errors l_X8_264 (by decide) sh_58 (by decide) (Nat.le_of_ble_eq_true rfl) rfl rfl rfl (Nat.le_of_ble_eq_true rfl) h (fun _ I9 _ hq => ?_)
    obtain ⟨rfl, r10, rfl, h⟩ := hq
    show Go G Y_X8_lineOf 38 [(0, .ref 58), (2, .int x2), (3, .int x3), (4, .int x4)] [.int r10, .int r8] SH I9 0 0 _
    refine go_iadd dX8_lineOf_38 ?_
    refine go_aload_n dX8_lineOf_39 rfl 0 rfl ?_
    refine go_iload_n dX8_lineOf_40 rfl 2 rfl ?_
    refine go_iconst dX8_lineOf_41 (v := (0 : Int32)) (by decide) ?_
    refine go_vcall (Z := Y_X8_errors) (As := [.int x3, .int (0 : Int32)]) (S := [.int (r8 + r10)]) dX8_lineOf_42 ok_X8_errors l_X8_264 (by decide) sh_58 (by decide) (Nat.le_of_ble_eq_true rfl) rfl rfl rfl (Nat.le_of_ble_eq_true rfl) h (fun _ I11 _ hq => ?_)
    obtain ⟨rfl, r12, rfl, h⟩ := hq
    show Go G Y_X8_lineOf 45 [(0, .ref 58), (2, .int x2), (3, .int x3), (4, .int x4)] [.int r12, .int (r8 + r10)] SH I11 0 0 _
    refine go_aload_n dX8_lineOf_45 rfl 0 rfl ?_
    refine go_iload_n dX8_lineOf_46 rfl 2 rfl ?_
    refine go_iconst dX8_lineOf_47 (v := (1 : Int32)) (by decide) ?_
    refine go_vcall (Z := Y_X8_errors) (As := [.int x3, .int (1 : Int32)]) (S := [.int r12, .int (r8 + r10)]) dX8_lineOf_48 ok_X8_errors l_X8_264 (by decide) sh_58 (by decide) (Nat.le_of_ble_eq_true rfl) rfl rfl rfl (Nat.le_of_ble_eq_true rfl) h (fun _ I13 _ hq => ?_)
    obtain ⟨rfl, r14, rfl, h⟩ := hq
    show Go G Y_X8_lineOf 51 [(0, .ref 58), (2, .int x2), (3, .int x3), (4, .int x4)] [.int r14, .int r12, .int (r8 + r10)] SH I13 0 0 _
    refine go_iadd dX8_lineOf_51 ?_
    refine go_icmp_ge (tgt := 60) dX8_lineOf_52 (by decide) (fun c15 => ?_) (fun c15 => ?_)
    · have h := h.1 c15
      refine go_iload_n dX8_lineOf_60 rfl 2 rfl ?_
      refine go_istore_n dX8_lineOf_61 rfl (Nat.le_of_ble_eq_true rfl) (L2 := [(3, .int x3), (0, .ref 58), (2, .int x2), (4, .int x4)]) rfl ?_
      refine go_iinc dX8_lineOf_62 3 rfl (v := (x4 + 1)) rfl (Nat.le_of_ble_eq_true rfl) (L2 := [(4, .int (x4 + 1)), (3, .int x3), (0, .ref 58), (2, .int x2)]) rfl ?_
      refine go_goto (tgt := 17) dX8_lineOf_65 (by decide) ?_
      exact go_loc [(0, .ref 58), (2, .int x2), (3, .int x3), (4, .int (x4 + 1))] [2, 3, 1, 0] rfl h
    · have h := h.2 c15
      refine go_iload dX8_lineOf_55 3 rfl ?_
      refine go_goto (tgt := 61) dX8_lineOf_57 (by decide) ?_
      refine go_istore_n dX8_lineOf_61 rfl (Nat.le_of_ble_eq_true rfl) (L2 := [(3, .int x4), (0, .ref 58), (2, .int x2), (4, .int x4)]) rfl ?_
      refine go_iinc dX8_lineOf_62 3 rfl (v := (x4 + 1)) rfl (Nat.le_of_ble_eq_true rfl) (L2 := [(4, .int (x4 + 1)), (3, .int x4), (0, .ref 58), (2, .int x2)]) rfl ?_
      refine go_goto (tgt := 17) dX8_lineOf_65 (by decide) ?_
      exact go_loc [(0, .ref 58), (2, .int x2), (3, .int x4), (4, .int (x4 + 1))] [2, 3, 1, 0] rfl h
set_option maxRecDepth 100000 in
set_option maxHeartbeats 4000000 in
theorem v_X8_line {G : CX} {a1 : Int32} {a2 : Int32}  {I : HP} {Q : HP → Int32 → Prop} (h : RI G Y_X8_readsText [.ref 58, .int (0 : Int32)] I (fun I1 r2 => RZ G Y_X8_in [.long (a1.toInt64), .long (-1 : Int64), .long (10 : Int64)] I1 (fun I3 r4 => (((bI r4) = 0) → (Q I3 (-2 : Int32))) ∧ ((¬ (bI r4) = 0) → (RZ G Y_X8_isTwo [.int a2] I3 (fun I6 r7 => (((bI r7) = 0) → (Q I6 (-2 : Int32))) ∧ ((¬ (bI r7) = 0) → (RI G Y_X8_lineOf [.ref 58, .int a1, .int a2] I6 (fun I9 r10 => Q I9 r10))))))))) : RI G Y_X8_line [.ref 58, .int a1, .int a2] I Q := by
  refine ret_of (show plainName RX8 = true by decide) (Nat.le_of_ble_eq_true rfl) ?_
  show Go G Y_X8_line 0 [(0, .ref 58), (1, .int a1), (2, .int a2)] [] SH I 0 0 _
  refine go_aload_n dX8_line_0 rfl 0 rfl ?_
  refine go_iconst dX8_line_1 (v := (0 : Int32)) (by decide) ?_
  refine go_vcall (Z := Y_X8_readsText) (As := [.int (0 : Int32)]) (S := []) dX8_line_2 ok_X8_readsText l_X8_120 (by decide) sh_58 (by decide) (Nat.le_of_ble_eq_true rfl) rfl rfl rfl (Nat.le_of_ble_eq_true rfl) h (fun _ I1 _ hq => ?_)
  obtain ⟨rfl, r2, rfl, h⟩ := hq
  show Go G Y_X8_line 5 [(0, .ref 58), (1, .int a1), (2, .int a2)] [.int r2] SH I1 0 0 _
  refine go_pop dX8_line_5 rfl ?_
  refine go_iload_n dX8_line_6 rfl 1 rfl ?_
  refine go_i2l dX8_line_7 ?_
  refine go_ldc2 dX8_line_8 k_X8_267 ?_
  refine go_ldc2 dX8_line_11 k_X8_269 ?_
  refine go_scall (Z := Y_X8_in) (As := [.long (a1.toInt64), .long (-1 : Int64), .long (10 : Int64)]) (S := []) dX8_line_14 ok_X8_in l_X8_72 (by decide) rfl rfl (Nat.le_of_ble_eq_true rfl) h (fun _ I3 _ hq => ?_)
  obtain ⟨rfl, r4, rfl, h⟩ := hq
  show Go G Y_X8_line 17 [(0, .ref 58), (1, .int a1), (2, .int a2)] [.int (bI r4)] SH I3 0 0 _
  refine go_if_eq (tgt := 36) dX8_line_17 (by decide) (fun c5 => ?_) (fun c5 => ?_)
  · have h := h.1 c5
    refine go_bipush dX8_line_36 (v := (-2 : Int32)) (by decide) ?_
    exact go_iret dX8_line_38 rfl rfl (by decide) ⟨rfl, _, rfl, h⟩
  · have h := h.2 c5
    refine go_iload_n dX8_line_20 rfl 2 rfl ?_
    refine go_scall (Z := Y_X8_isTwo) (As := [.int a2]) (S := []) dX8_line_21 ok_X8_isTwo l_X8_101 (by decide) rfl rfl (Nat.le_of_ble_eq_true rfl) h (fun _ I6 _ hq => ?_)
    obtain ⟨rfl, r7, rfl, h⟩ := hq
    show Go G Y_X8_line 24 [(0, .ref 58), (1, .int a1), (2, .int a2)] [.int (bI r7)] SH I6 0 0 _
    refine go_if_eq (tgt := 36) dX8_line_24 (by decide) (fun c8 => ?_) (fun c8 => ?_)
    · have h := h.1 c8
      refine go_bipush dX8_line_36 (v := (-2 : Int32)) (by decide) ?_
      exact go_iret dX8_line_38 rfl rfl (by decide) ⟨rfl, _, rfl, h⟩
    · have h := h.2 c8
      refine go_aload_n dX8_line_27 rfl 0 rfl ?_
      refine go_iload_n dX8_line_28 rfl 1 rfl ?_
      refine go_iload_n dX8_line_29 rfl 2 rfl ?_
      refine go_vcall (Z := Y_X8_lineOf) (As := [.int a1, .int a2]) (S := []) dX8_line_30 ok_X8_lineOf l_X8_271 (by decide) sh_58 (by decide) (Nat.le_of_ble_eq_true rfl) rfl rfl rfl (Nat.le_of_ble_eq_true rfl) h (fun _ I9 _ hq => ?_)
      obtain ⟨rfl, r10, rfl, h⟩ := hq
      show Go G Y_X8_line 33 [(0, .ref 58), (1, .int a1), (2, .int a2)] [.int r10] SH I9 0 0 _
      refine go_goto (tgt := 38) dX8_line_33 (by decide) ?_
      exact go_iret dX8_line_38 rfl rfl (by decide) ⟨rfl, _, rfl, h⟩
set_option maxRecDepth 100000 in
set_option maxHeartbeats 4000000 in
theorem v_X8_seen {G : CX} {a1 : Int32} {a2 : Int32}  {I : HP} {Q : HP → Int32 → Prop} (h : RZ G Y_X8_in [.long (a1.toInt64), .long (0 : Int64), .long (299 : Int64)] I (fun I1 r2 => (((bI r2) = 0) → (Q I1 (-2 : Int32))) ∧ ((¬ (bI r2) = 0) → (RZ G Y_X8_in [.long (a2.toInt64), .long (-1 : Int64), .long (11 : Int64)] I1 (fun I4 r5 => ((¬ (bI r5) = 0) → (((¬ (I4 58 28) = (8 : Int32)) → ((vp_in ((2 : Int32) * (I4 58 28)) 16) ∧ ((vp_in (((2 : Int32) * ((st I4 78 (nn ((2 : Int32) * (I4 58 28))) a1) 58 28)) + (1 : Int32)) 16) ∧ (∀ I10 : HP, I10 = (st (st I4 78 (nn ((2 : Int32) * (I4 58 28))) a1) 78 (nn (((2 : Int32) * ((st I4 78 (nn ((2 : Int32) * (I4 58 28))) a1) 58 28)) + (1 : Int32))) a2) → Q (st I10 58 28 ((I10 58 28) + (1 : Int32))) ((st I10 58 28 ((I10 58 28) + (1 : Int32))) 58 28))))) ∧ (((I4 58 28) = (8 : Int32)) → (Q I4 (-4 : Int32))))) ∧ (((bI r5) = 0) → (Q I4 (-2 : Int32)))))))) : RI G Y_X8_seen [.ref 58, .int a1, .int a2] I Q := by
  refine ret_of (show plainName RX8 = true by decide) (Nat.le_of_ble_eq_true rfl) ?_
  show Go G Y_X8_seen 0 [(0, .ref 58), (1, .int a1), (2, .int a2)] [] SH I 0 0 _
  refine go_iload_n dX8_seen_0 rfl 1 rfl ?_
  refine go_i2l dX8_seen_1 ?_
  refine go_lconst dX8_seen_2 (v := (0 : Int64)) (by decide) ?_
  refine go_ldc2 dX8_seen_3 k_X8_201 ?_
  refine go_scall (Z := Y_X8_in) (As := [.long (a1.toInt64), .long (0 : Int64), .long (299 : Int64)]) (S := []) dX8_seen_6 ok_X8_in l_X8_72 (by decide) rfl rfl (Nat.le_of_ble_eq_true rfl) h (fun _ I1 _ hq => ?_)
  obtain ⟨rfl, r2, rfl, h⟩ := hq
  show Go G Y_X8_seen 9 [(0, .ref 58), (1, .int a1), (2, .int a2)] [.int (bI r2)] SH I1 0 0 _
  refine go_if_eq (tgt := 26) dX8_seen_9 (by decide) (fun c3 => ?_) (fun c3 => ?_)
  · have h := h.1 c3
    refine go_bipush dX8_seen_26 (v := (-2 : Int32)) (by decide) ?_
    exact go_iret dX8_seen_28 rfl rfl (by decide) ⟨rfl, _, rfl, h⟩
  · have h := h.2 c3
    refine go_iload_n dX8_seen_12 rfl 2 rfl ?_
    refine go_i2l dX8_seen_13 ?_
    refine go_ldc2 dX8_seen_14 k_X8_267 ?_
    refine go_ldc2 dX8_seen_17 k_X8_274 ?_
    refine go_scall (Z := Y_X8_in) (As := [.long (a2.toInt64), .long (-1 : Int64), .long (11 : Int64)]) (S := []) dX8_seen_20 ok_X8_in l_X8_72 (by decide) rfl rfl (Nat.le_of_ble_eq_true rfl) h (fun _ I4 _ hq => ?_)
    obtain ⟨rfl, r5, rfl, h⟩ := hq
    show Go G Y_X8_seen 23 [(0, .ref 58), (1, .int a1), (2, .int a2)] [.int (bI r5)] SH I4 0 0 _
    refine go_if_ne (tgt := 29) dX8_seen_23 (by decide) (fun c6 => ?_) (fun c6 => ?_)
    · have h := h.1 c6
      refine go_aload_n dX8_seen_29 rfl 0 rfl ?_
      refine go_getI dX8_seen_30 sh_58 (by decide) f_X8_276 ⟨Nat.le_of_ble_eq_true rfl, Nat.le_of_ble_eq_true rfl, rfl⟩ ?_
      refine go_bipush dX8_seen_33 (v := (8 : Int32)) (by decide) ?_
      refine go_icmp_ne (tgt := 41) dX8_seen_35 (by decide) (fun c7 => ?_) (fun c7 => ?_)
      · have h := h.1 c7
        refine go_aload_n dX8_seen_41 rfl 0 rfl ?_
        refine go_getR dX8_seen_42 sh_58 (by decide) f_X8_67 ⟨Nat.le_of_ble_eq_true rfl, Nat.le_of_ble_eq_true rfl, rfl⟩ rfl ?_
        refine go_iconst dX8_seen_45 (v := (2 : Int32)) (by decide) ?_
        refine go_aload_n dX8_seen_46 rfl 0 rfl ?_
        refine go_getI dX8_seen_47 sh_58 (by decide) f_X8_276 ⟨Nat.le_of_ble_eq_true rfl, Nat.le_of_ble_eq_true rfl, rfl⟩ ?_
        refine go_imul dX8_seen_50 ?_
        refine go_iload_n dX8_seen_51 rfl 1 rfl ?_
        have hb8 := h.1
        have h := h.2
        refine go_iast dX8_seen_52 sh_78 (by decide) hb8 (j := (nn ((2 : Int32) * (I4 58 28)))) rfl ?_
        refine go_aload_n dX8_seen_53 rfl 0 rfl ?_
        refine go_getR dX8_seen_54 sh_58 (by decide) f_X8_67 ⟨Nat.le_of_ble_eq_true rfl, Nat.le_of_ble_eq_true rfl, rfl⟩ rfl ?_
        refine go_iconst dX8_seen_57 (v := (2 : Int32)) (by decide) ?_
        refine go_aload_n dX8_seen_58 rfl 0 rfl ?_
        refine go_getI dX8_seen_59 sh_58 (by decide) f_X8_276 ⟨Nat.le_of_ble_eq_true rfl, Nat.le_of_ble_eq_true rfl, rfl⟩ ?_
        refine go_imul dX8_seen_62 ?_
        refine go_iconst dX8_seen_63 (v := (1 : Int32)) (by decide) ?_
        refine go_iadd dX8_seen_64 ?_
        refine go_iload_n dX8_seen_65 rfl 2 rfl ?_
        have hb9 := h.1
        have h := h.2
        refine go_iast dX8_seen_66 sh_78 (by decide) hb9 (j := (nn (((2 : Int32) * ((st I4 78 (nn ((2 : Int32) * (I4 58 28))) a1) 58 28)) + (1 : Int32)))) rfl ?_
        refine go_nm (fun I10 eI10 => ?_)
        have h := h I10 eI10
        refine go_aload_n dX8_seen_67 rfl 0 rfl ?_
        refine go_dup dX8_seen_68 rfl ?_
        refine go_getI dX8_seen_69 sh_58 (by decide) f_X8_276 ⟨Nat.le_of_ble_eq_true rfl, Nat.le_of_ble_eq_true rfl, rfl⟩ ?_
        refine go_iconst dX8_seen_72 (v := (1 : Int32)) (by decide) ?_
        refine go_iadd dX8_seen_73 ?_
        refine go_putT dX8_seen_74 sh_58 (by decide) p_X8_276 ⟨Nat.le_of_ble_eq_true rfl, Nat.le_of_ble_eq_true rfl, rfl⟩ rfl rfl ?_
        refine go_aload_n dX8_seen_77 rfl 0 rfl ?_
        refine go_getI dX8_seen_78 sh_58 (by decide) f_X8_276 ⟨Nat.le_of_ble_eq_true rfl, Nat.le_of_ble_eq_true rfl, rfl⟩ ?_
        exact go_iret dX8_seen_81 rfl rfl (by decide) ⟨rfl, _, rfl, h⟩
      · have h := h.2 c7
        refine go_bipush dX8_seen_38 (v := (-4 : Int32)) (by decide) ?_
        exact go_iret dX8_seen_40 rfl rfl (by decide) ⟨rfl, _, rfl, h⟩
    · have h := h.2 c6
      refine go_bipush dX8_seen_26 (v := (-2 : Int32)) (by decide) ?_
      exact go_iret dX8_seen_28 rfl rfl (by decide) ⟨rfl, _, rfl, h⟩
set_option maxRecDepth 100000 in
set_option maxHeartbeats 4000000 in
theorem v_X8_forget {G : CX}   {I : HP} {Q : HP → Int32 → Prop} (h : Q (st I 58 28 (0 : Int32)) (I 58 28)) : RI G Y_X8_forget [.ref 58] I Q := by
  refine ret_of (show plainName RX8 = true by decide) (Nat.le_of_ble_eq_true rfl) ?_
  show Go G Y_X8_forget 0 [(0, .ref 58)] [] SH I 0 0 _
  refine go_aload_n dX8_forget_0 rfl 0 rfl ?_
  refine go_getI dX8_forget_1 sh_58 (by decide) f_X8_276 ⟨Nat.le_of_ble_eq_true rfl, Nat.le_of_ble_eq_true rfl, rfl⟩ ?_
  refine go_istore_n dX8_forget_4 rfl (Nat.le_of_ble_eq_true rfl) (L2 := [(1, .int (I 58 28)), (0, .ref 58)]) rfl ?_
  refine go_aload_n dX8_forget_5 rfl 1 rfl ?_
  refine go_iconst dX8_forget_6 (v := (0 : Int32)) (by decide) ?_
  refine go_putT dX8_forget_7 sh_58 (by decide) p_X8_276 ⟨Nat.le_of_ble_eq_true rfl, Nat.le_of_ble_eq_true rfl, rfl⟩ rfl rfl ?_
  refine go_iload_n dX8_forget_10 rfl 0 rfl ?_
  exact go_iret dX8_forget_11 rfl rfl (by decide) ⟨rfl, _, rfl, h⟩
set_option maxRecDepth 100000 in
set_option maxHeartbeats 4000000 in
theorem v_X8_read {G : CX} {a1 : Int32}  {I : HP} {Q : HP → Int32 → Prop} (h : RZ G Y_X8_isSheet [.int a1] I (fun I1 r2 => ((¬ (bI r2) = 0) → ((vp_in a1 4) ∧ (((0 ≤ (I1 59 (nn a1))) → (GI G Y_X8_read 29 [(0, .ref 58), (1, .int a1), (2, .int (0 : Int32)), (3, .int (1 : Int32))] I1 Q)) ∧ ((¬ 0 ≤ (I1 59 (nn a1))) → (RI G Y_X8_met [.ref 58, .int (1 : Int32)] I1 (fun I6 r7 => Q I6 r7)))))) ∧ (((bI r2) = 0) → (Q I1 (-2 : Int32))))) : RI G Y_X8_read [.ref 58, .int a1] I Q := by
  refine ret_of (show plainName RX8 = true by decide) (Nat.le_of_ble_eq_true rfl) ?_
  show Go G Y_X8_read 0 [(0, .ref 58), (1, .int a1)] [] SH I 0 0 _
  refine go_iload_n dX8_read_0 rfl 1 rfl ?_
  refine go_scall (Z := Y_X8_isSheet) (As := [.int a1]) (S := []) dX8_read_1 ok_X8_isSheet l_X8_82 (by decide) rfl rfl (Nat.le_of_ble_eq_true rfl) h (fun _ I1 _ hq => ?_)
  obtain ⟨rfl, r2, rfl, h⟩ := hq
  show Go G Y_X8_read 4 [(0, .ref 58), (1, .int a1)] [.int (bI r2)] SH I1 0 0 _
  refine go_if_ne (tgt := 10) dX8_read_4 (by decide) (fun c3 => ?_) (fun c3 => ?_)
  · have h := h.1 c3
    refine go_aload_n dX8_read_10 rfl 0 rfl ?_
    refine go_getR dX8_read_11 sh_58 (by decide) f_X8_7 ⟨Nat.le_of_ble_eq_true rfl, Nat.le_of_ble_eq_true rfl, rfl⟩ rfl ?_
    refine go_iload_n dX8_read_14 rfl 1 rfl ?_
    have hb4 := h.1
    have h := h.2
    refine go_iald dX8_read_15 sh_59 (by decide) hb4 rfl ?_
    refine go_if_ge (tgt := 25) dX8_read_16 (by decide) (fun c5 => ?_) (fun c5 => ?_)
    · have h := h.1 c5
      refine go_iconst dX8_read_25 (v := (0 : Int32)) (by decide) ?_
      refine go_istore_n dX8_read_26 rfl (Nat.le_of_ble_eq_true rfl) (L2 := [(2, .int (0 : Int32)), (0, .ref 58), (1, .int a1)]) rfl ?_
      refine go_iconst dX8_read_27 (v := (1 : Int32)) (by decide) ?_
      refine go_istore_n dX8_read_28 rfl (Nat.le_of_ble_eq_true rfl) (L2 := [(3, .int (1 : Int32)), (2, .int (0 : Int32)), (0, .ref 58), (1, .int a1)]) rfl ?_
      exact go_loc [(0, .ref 58), (1, .int a1), (2, .int (0 : Int32)), (3, .int (1 : Int32))] [2, 3, 1, 0] rfl h
    · have h := h.2 c5
      refine go_aload_n dX8_read_19 rfl 0 rfl ?_
      refine go_iconst dX8_read_20 (v := (1 : Int32)) (by decide) ?_
      refine go_vcall (Z := Y_X8_met) (As := [.int (1 : Int32)]) (S := []) dX8_read_21 ok_X8_met l_X8_88 (by decide) sh_58 (by decide) (Nat.le_of_ble_eq_true rfl) rfl rfl rfl (Nat.le_of_ble_eq_true rfl) h (fun _ I6 _ hq => ?_)
      obtain ⟨rfl, r7, rfl, h⟩ := hq
      show Go G Y_X8_read 24 [(0, .ref 58), (1, .int a1)] [.int r7] SH I6 0 0 _
      exact go_iret dX8_read_24 rfl rfl (by decide) ⟨rfl, _, rfl, h⟩
  · have h := h.2 c3
    refine go_bipush dX8_read_7 (v := (-2 : Int32)) (by decide) ?_
    exact go_iret dX8_read_9 rfl rfl (by decide) ⟨rfl, _, rfl, h⟩
set_option maxRecDepth 100000 in
set_option maxHeartbeats 4000000 in
theorem v_X8_read_29 {G : CX} {x1 : Int32} {x2 : Int32} {x3 : Int32}  {I : HP} {Q : HP → Int32 → Prop} (h : ((x3 = 0) → (Q I x2)) ∧ ((¬ x3 = 0) → ((vp_in x1 4) ∧ ((((I 60 (nn x1)) < (((2 : Int32) * x2) + (2 : Int32))) → (Q I x2)) ∧ ((¬ (I 60 (nn x1)) < (((2 : Int32) * x2) + (2 : Int32))) → ((vp_in (((60 : Int32) * x1) + ((2 : Int32) * x2)) 240) ∧ ((vp_in ((((60 : Int32) * x1) + ((2 : Int32) * x2)) + (1 : Int32)) 240) ∧ (RI G Y_X8_seen [.ref 58, .int (I 61 (nn (((60 : Int32) * x1) + ((2 : Int32) * x2)))), .int (I 61 (nn ((((60 : Int32) * x1) + ((2 : Int32) * x2)) + (1 : Int32))))] I (fun I6 r7 => ((r7 < 0) → (GI G Y_X8_read 29 [(0, .ref 58), (1, .int x1), (2, .int (x2 + (0 : Int32))), (3, .int (0 : Int32))] I6 Q)) ∧ ((¬ r7 < 0) → (GI G Y_X8_read 29 [(0, .ref 58), (1, .int x1), (2, .int (x2 + (1 : Int32))), (3, .int (1 : Int32))] I6 Q))))))))))) : GI G Y_X8_read 29 [(0, .ref 58), (1, .int x1), (2, .int x2), (3, .int x3)] I Q := by
  show Go G Y_X8_read 29 [(0, .ref 58), (1, .int x1), (2, .int x2), (3, .int x3)] [] SH I 0 0 _
  refine go_iload_n dX8_read_29 rfl 3 rfl ?_
  refine go_if_eq (tgt := 103) dX8_read_30 (by decide) (fun c1 => ?_) (fun c1 => ?_)
  · have h := h.1 c1
    refine go_iload_n dX8_read_103 rfl 2 rfl ?_
    exact go_iret dX8_read_104 rfl rfl (by decide) ⟨rfl, _, rfl, h⟩
  · have h := h.2 c1
    refine go_iconst dX8_read_33 (v := (2 : Int32)) (by decide) ?_
    refine go_iload_n dX8_read_34 rfl 2 rfl ?_
    refine go_imul dX8_read_35 ?_
    refine go_iconst dX8_read_36 (v := (2 : Int32)) (by decide) ?_
    refine go_iadd dX8_read_37 ?_
    refine go_aload_n dX8_read_38 rfl 0 rfl ?_
    refine go_getR dX8_read_39 sh_58 (by decide) f_X8_13 ⟨Nat.le_of_ble_eq_true rfl, Nat.le_of_ble_eq_true rfl, rfl⟩ rfl ?_
    refine go_iload_n dX8_read_42 rfl 1 rfl ?_
    have hb2 := h.1
    have h := h.2
    refine go_iald dX8_read_43 sh_60 (by decide) hb2 rfl ?_
    refine go_icmp_gt (tgt := 103) dX8_read_44 (by decide) (fun c3 => ?_) (fun c3 => ?_)
    · have h := h.1 c3
      refine go_iload_n dX8_read_103 rfl 2 rfl ?_
      exact go_iret dX8_read_104 rfl rfl (by decide) ⟨rfl, _, rfl, h⟩
    · have h := h.2 c3
      refine go_aload_n dX8_read_47 rfl 0 rfl ?_
      refine go_aload_n dX8_read_48 rfl 0 rfl ?_
      refine go_getR dX8_read_49 sh_58 (by decide) f_X8_16 ⟨Nat.le_of_ble_eq_true rfl, Nat.le_of_ble_eq_true rfl, rfl⟩ rfl ?_
      refine go_bipush dX8_read_52 (v := (60 : Int32)) (by decide) ?_
      refine go_iload_n dX8_read_54 rfl 1 rfl ?_
      refine go_imul dX8_read_55 ?_
      refine go_iconst dX8_read_56 (v := (2 : Int32)) (by decide) ?_
      refine go_iload_n dX8_read_57 rfl 2 rfl ?_
      refine go_imul dX8_read_58 ?_
      refine go_iadd dX8_read_59 ?_
      have hb4 := h.1
      have h := h.2
      refine go_iald dX8_read_60 sh_61 (by decide) hb4 rfl ?_
      refine go_aload_n dX8_read_61 rfl 0 rfl ?_
      refine go_getR dX8_read_62 sh_58 (by decide) f_X8_16 ⟨Nat.le_of_ble_eq_true rfl, Nat.le_of_ble_eq_true rfl, rfl⟩ rfl ?_
      refine go_bipush dX8_read_65 (v := (60 : Int32)) (by decide) ?_
      refine go_iload_n dX8_read_67 rfl 1 rfl ?_
      refine go_imul dX8_read_68 ?_
      refine go_iconst dX8_read_69 (v := (2 : Int32)) (by decide) ?_
      refine go_iload_n dX8_read_70 rfl 2 rfl ?_
      refine go_imul dX8_read_71 ?_
      refine go_iadd dX8_read_72 ?_
      refine go_iconst dX8_read_73 (v := (1 : Int32)) (by decide) ?_
      refine go_iadd dX8_read_74 ?_
      have hb5 := h.1
      have h := h.2
      refine go_iald dX8_read_75 sh_61 (by decide) hb5 rfl ?_
      refine go_vcall (Z := Y_X8_seen) (As := [.int (I 61 (nn (((60 : Int32) * x1) + ((2 : Int32) * x2)))), .int (I 61 (nn ((((60 : Int32) * x1) + ((2 : Int32) * x2)) + (1 : Int32))))]) (S := []) dX8_read_76 ok_X8_seen l_X8_279 (by decide) sh_58 (by decide) (Nat.le_of_ble_eq_true rfl) rfl rfl rfl (Nat.le_of_ble_eq_true rfl) h (fun _ I6 _ hq => ?_)
      obtain ⟨rfl, r7, rfl, h⟩ := hq
      show Go G Y_X8_read 79 [(0, .ref 58), (1, .int x1), (2, .int x2), (3, .int x3)] [.int r7] SH I6 0 0 _
      refine go_if_lt (tgt := 86) dX8_read_79 (by decide) (fun c8 => ?_) (fun c8 => ?_)
      · have h := h.1 c8
        refine go_iconst dX8_read_86 (v := (0 : Int32)) (by decide) ?_
        refine go_istore_n dX8_read_87 rfl (Nat.le_of_ble_eq_true rfl) (L2 := [(3, .int (0 : Int32)), (0, .ref 58), (1, .int x1), (2, .int x2)]) rfl ?_
        refine go_iload_n dX8_read_88 rfl 3 rfl ?_
        refine go_iload_n dX8_read_89 rfl 0 rfl ?_
        refine go_if_eq (tgt := 97) dX8_read_90 (by decide) (fun _ => ?_) (fun c => absurd (by decide) c)
        refine go_iconst dX8_read_97 (v := (0 : Int32)) (by decide) ?_
        refine go_iadd dX8_read_98 ?_
        refine go_istore_n dX8_read_99 rfl (Nat.le_of_ble_eq_true rfl) (L2 := [(2, .int (x2 + (0 : Int32))), (3, .int (0 : Int32)), (0, .ref 58), (1, .int x1)]) rfl ?_
        refine go_goto (tgt := 29) dX8_read_100 (by decide) ?_
        exact go_loc [(0, .ref 58), (1, .int x1), (2, .int (x2 + (0 : Int32))), (3, .int (0 : Int32))] [2, 3, 0, 1] rfl h
      · have h := h.2 c8
        refine go_iconst dX8_read_82 (v := (1 : Int32)) (by decide) ?_
        refine go_goto (tgt := 87) dX8_read_83 (by decide) ?_
        refine go_istore_n dX8_read_87 rfl (Nat.le_of_ble_eq_true rfl) (L2 := [(3, .int (1 : Int32)), (0, .ref 58), (1, .int x1), (2, .int x2)]) rfl ?_
        refine go_iload_n dX8_read_88 rfl 3 rfl ?_
        refine go_iload_n dX8_read_89 rfl 0 rfl ?_
        refine go_if_eq (tgt := 97) dX8_read_90 (by decide) (fun c => absurd c (by decide)) (fun _ => ?_)
        refine go_iconst dX8_read_93 (v := (1 : Int32)) (by decide) ?_
        refine go_goto (tgt := 98) dX8_read_94 (by decide) ?_
        refine go_iadd dX8_read_98 ?_
        refine go_istore_n dX8_read_99 rfl (Nat.le_of_ble_eq_true rfl) (L2 := [(2, .int (x2 + (1 : Int32))), (3, .int (1 : Int32)), (0, .ref 58), (1, .int x1)]) rfl ?_
        refine go_goto (tgt := 29) dX8_read_100 (by decide) ?_
        exact go_loc [(0, .ref 58), (1, .int x1), (2, .int (x2 + (1 : Int32))), (3, .int (1 : Int32))] [2, 3, 0, 1] rfl h
set_option maxRecDepth 100000 in
set_option maxHeartbeats 4000000 in
theorem v_X8_leadsNow {G : CX}   {I : HP} {Q : HP → Int32 → Prop} (h : RV G Y_X8_plain [.ref 58] I (fun I1 => GI G Y_X8_leadsNow 8 [(0, .ref 58), (1, .int (0 : Int32)), (2, .int (0 : Int32))] I1 Q)) : RI G Y_X8_leadsNow [.ref 58] I Q := by
  refine ret_of (show plainName RX8 = true by decide) (Nat.le_of_ble_eq_true rfl) ?_
  show Go G Y_X8_leadsNow 0 [(0, .ref 58)] [] SH I 0 0 _
  refine go_iconst dX8_leadsNow_0 (v := (0 : Int32)) (by decide) ?_
  refine go_istore_n dX8_leadsNow_1 rfl (Nat.le_of_ble_eq_true rfl) (L2 := [(1, .int (0 : Int32)), (0, .ref 58)]) rfl ?_
  refine go_aload_n dX8_leadsNow_2 rfl 1 rfl ?_
  refine go_vcall (Z := Y_X8_plain) (As := []) (S := []) dX8_leadsNow_3 ok_X8_plain l_X8_155 (by decide) sh_58 (by decide) (Nat.le_of_ble_eq_true rfl) rfl rfl rfl (Nat.le_of_ble_eq_true rfl) h (fun _ I1 _ hq => ?_)
  obtain ⟨rfl, rfl, h⟩ := hq
  show Go G Y_X8_leadsNow 6 [(1, .int (0 : Int32)), (0, .ref 58)] [] SH I1 0 0 _
  refine go_iconst dX8_leadsNow_6 (v := (0 : Int32)) (by decide) ?_
  refine go_istore_n dX8_leadsNow_7 rfl (Nat.le_of_ble_eq_true rfl) (L2 := [(2, .int (0 : Int32)), (1, .int (0 : Int32)), (0, .ref 58)]) rfl ?_
  exact go_loc [(0, .ref 58), (1, .int (0 : Int32)), (2, .int (0 : Int32))] [2, 1, 0] rfl h
set_option maxRecDepth 100000 in
set_option maxHeartbeats 4000000 in
theorem v_X8_leadsNow_8 {G : CX} {x1 : Int32} {x2 : Int32}  {I : HP} {Q : HP → Int32 → Prop} (h : (((31 : Int32) ≤ x2) → (Q I x1)) ∧ ((¬ (31 : Int32) ≤ x2) → (RV G Y_X8_says [.ref 58, .int x2, .int (I 67 4), .int (I 67 3)] I (fun I2 => GI G Y_X8_leadsNow 36 [(0, .ref 58), (1, .int x1), (2, .int x2), (3, .int (1 : Int32)), (4, .int (0 : Int32))] I2 Q)))) : GI G Y_X8_leadsNow 8 [(0, .ref 58), (1, .int x1), (2, .int x2)] I Q := by
  show Go G Y_X8_leadsNow 8 [(0, .ref 58), (1, .int x1), (2, .int x2)] [] SH I 0 0 _
  refine go_iload_n dX8_leadsNow_8 rfl 2 rfl ?_
  refine go_bipush dX8_leadsNow_9 (v := (31 : Int32)) (by decide) ?_
  refine go_icmp_ge (tgt := 109) dX8_leadsNow_11 (by decide) (fun c1 => ?_) (fun c1 => ?_)
  · have h := h.1 c1
    refine go_iload_n dX8_leadsNow_109 rfl 1 rfl ?_
    exact go_iret dX8_leadsNow_110 rfl rfl (by decide) ⟨rfl, _, rfl, h⟩
  · have h := h.2 c1
    refine go_aload_n dX8_leadsNow_14 rfl 0 rfl ?_
    refine go_iload_n dX8_leadsNow_15 rfl 2 rfl ?_
    refine go_aload_n dX8_leadsNow_16 rfl 0 rfl ?_
    refine go_getR dX8_leadsNow_17 sh_58 (by decide) f_X8_34 ⟨Nat.le_of_ble_eq_true rfl, Nat.le_of_ble_eq_true rfl, rfl⟩ rfl ?_
    refine go_iconst dX8_leadsNow_20 (v := (4 : Int32)) (by decide) ?_
    refine go_iald dX8_leadsNow_21 sh_67 (by decide) (by unfold vp_in; decide) (j := 4) (by decide) ?_
    refine go_aload_n dX8_leadsNow_22 rfl 0 rfl ?_
    refine go_getR dX8_leadsNow_23 sh_58 (by decide) f_X8_34 ⟨Nat.le_of_ble_eq_true rfl, Nat.le_of_ble_eq_true rfl, rfl⟩ rfl ?_
    refine go_iconst dX8_leadsNow_26 (v := (3 : Int32)) (by decide) ?_
    refine go_iald dX8_leadsNow_27 sh_67 (by decide) (by unfold vp_in; decide) (j := 3) (by decide) ?_
    refine go_vcall (Z := Y_X8_says) (As := [.int x2, .int (I 67 4), .int (I 67 3)]) (S := []) dX8_leadsNow_28 ok_X8_says l_X8_158 (by decide) sh_58 (by decide) (Nat.le_of_ble_eq_true rfl) rfl rfl rfl (Nat.le_of_ble_eq_true rfl) h (fun _ I2 _ hq => ?_)
    obtain ⟨rfl, rfl, h⟩ := hq
    show Go G Y_X8_leadsNow 31 [(0, .ref 58), (1, .int x1), (2, .int x2)] [] SH I2 0 0 _
    refine go_iconst dX8_leadsNow_31 (v := (1 : Int32)) (by decide) ?_
    refine go_istore_n dX8_leadsNow_32 rfl (Nat.le_of_ble_eq_true rfl) (L2 := [(3, .int (1 : Int32)), (0, .ref 58), (1, .int x1), (2, .int x2)]) rfl ?_
    refine go_iconst dX8_leadsNow_33 (v := (0 : Int32)) (by decide) ?_
    refine go_istore dX8_leadsNow_34 (Nat.le_of_ble_eq_true rfl) (L2 := [(4, .int (0 : Int32)), (3, .int (1 : Int32)), (0, .ref 58), (1, .int x1), (2, .int x2)]) rfl ?_
    exact go_loc [(0, .ref 58), (1, .int x1), (2, .int x2), (3, .int (1 : Int32)), (4, .int (0 : Int32))] [2, 3, 4, 1, 0] rfl h
set_option maxRecDepth 100000 in
set_option maxHeartbeats 4000000 in
theorem v_X8_leadsNow_36 {G : CX} {x1 : Int32} {x2 : Int32} {x3 : Int32} {x4 : Int32}  {I : HP} {Q : HP → Int32 → Prop} (h : (((I 58 28) ≤ x4) → (((x3 = 0) → (GI G Y_X8_leadsNow 8 [(0, .ref 58), (1, .int (x1 ||| (0 : Int32))), (2, .int (x2 + 1))] I Q)) ∧ ((¬ x3 = 0) → (GI G Y_X8_leadsNow 8 [(0, .ref 58), (1, .int (x1 ||| ((1 : Int32) <<< (x2 &&& 31)))), (2, .int (x2 + 1))] I Q)))) ∧ ((¬ (I 58 28) ≤ x4) → (((x3 = 0) → (GI G Y_X8_leadsNow 36 [(0, .ref 58), (1, .int x1), (2, .int x2), (3, .int (0 : Int32)), (4, .int (x4 + 1))] I Q)) ∧ ((¬ x3 = 0) → ((vp_in ((2 : Int32) * x4) 16) ∧ (RI G Y_X8_makesIn [.ref 58, .int x2, .int (I 78 (nn ((2 : Int32) * x4)))] I (fun I5 r6 => (vp_in (((2 : Int32) * x4) + (1 : Int32)) 16) ∧ (((¬ r6 = (I5 78 (nn (((2 : Int32) * x4) + (1 : Int32))))) → (GI G Y_X8_leadsNow 36 [(0, .ref 58), (1, .int x1), (2, .int x2), (3, .int (0 : Int32)), (4, .int (x4 + 1))] I5 Q)) ∧ ((r6 = (I5 78 (nn (((2 : Int32) * x4) + (1 : Int32))))) → (GI G Y_X8_leadsNow 36 [(0, .ref 58), (1, .int x1), (2, .int x2), (3, .int (1 : Int32)), (4, .int (x4 + 1))] I5 Q)))))))))) : GI G Y_X8_leadsNow 36 [(0, .ref 58), (1, .int x1), (2, .int x2), (3, .int x3), (4, .int x4)] I Q := by
  show Go G Y_X8_leadsNow 36 [(0, .ref 58), (1, .int x1), (2, .int x2), (3, .int x3), (4, .int x4)] [] SH I 0 0 _
  refine go_iload dX8_leadsNow_36 4 rfl ?_
  refine go_aload_n dX8_leadsNow_38 rfl 0 rfl ?_
  refine go_getI dX8_leadsNow_39 sh_58 (by decide) f_X8_276 ⟨Nat.le_of_ble_eq_true rfl, Nat.le_of_ble_eq_true rfl, rfl⟩ ?_
  refine go_icmp_ge (tgt := 89) dX8_leadsNow_42 (by decide) (fun c1 => ?_) (fun c1 => ?_)
  · have h := h.1 c1
    refine go_iload_n dX8_leadsNow_89 rfl 1 rfl ?_
    refine go_iload_n dX8_leadsNow_90 rfl 3 rfl ?_
    refine go_if_eq (tgt := 100) dX8_leadsNow_91 (by decide) (fun c2 => ?_) (fun c2 => ?_)
    · have h := h.1 c2
      refine go_iconst dX8_leadsNow_100 (v := (0 : Int32)) (by decide) ?_
      refine go_ior dX8_leadsNow_101 ?_
      refine go_istore_n dX8_leadsNow_102 rfl (Nat.le_of_ble_eq_true rfl) (L2 := [(1, .int (x1 ||| (0 : Int32))), (0, .ref 58), (2, .int x2), (3, .int x3), (4, .int x4)]) rfl ?_
      refine go_iinc dX8_leadsNow_103 2 rfl (v := (x2 + 1)) rfl (Nat.le_of_ble_eq_true rfl) (L2 := [(2, .int (x2 + 1)), (1, .int (x1 ||| (0 : Int32))), (0, .ref 58), (3, .int x3), (4, .int x4)]) rfl ?_
      refine go_goto (tgt := 8) dX8_leadsNow_106 (by decide) ?_
      exact go_loc [(0, .ref 58), (1, .int (x1 ||| (0 : Int32))), (2, .int (x2 + 1))] [2, 1, 0] rfl h
    · have h := h.2 c2
      refine go_iconst dX8_leadsNow_94 (v := (1 : Int32)) (by decide) ?_
      refine go_iload_n dX8_leadsNow_95 rfl 2 rfl ?_
      refine go_ishl dX8_leadsNow_96 ?_
      refine go_goto (tgt := 101) dX8_leadsNow_97 (by decide) ?_
      refine go_ior dX8_leadsNow_101 ?_
      refine go_istore_n dX8_leadsNow_102 rfl (Nat.le_of_ble_eq_true rfl) (L2 := [(1, .int (x1 ||| ((1 : Int32) <<< (x2 &&& 31)))), (0, .ref 58), (2, .int x2), (3, .int x3), (4, .int x4)]) rfl ?_
      refine go_iinc dX8_leadsNow_103 2 rfl (v := (x2 + 1)) rfl (Nat.le_of_ble_eq_true rfl) (L2 := [(2, .int (x2 + 1)), (1, .int (x1 ||| ((1 : Int32) <<< (x2 &&& 31)))), (0, .ref 58), (3, .int x3), (4, .int x4)]) rfl ?_
      refine go_goto (tgt := 8) dX8_leadsNow_106 (by decide) ?_
      exact go_loc [(0, .ref 58), (1, .int (x1 ||| ((1 : Int32) <<< (x2 &&& 31)))), (2, .int (x2 + 1))] [2, 1, 0] rfl h
  · have h := h.2 c1
    refine go_iload_n dX8_leadsNow_45 rfl 3 rfl ?_
    refine go_if_eq (tgt := 81) dX8_leadsNow_46 (by decide) (fun c3 => ?_) (fun c3 => ?_)
    · have h := h.1 c3
      refine go_iconst dX8_leadsNow_81 (v := (0 : Int32)) (by decide) ?_
      refine go_istore_n dX8_leadsNow_82 rfl (Nat.le_of_ble_eq_true rfl) (L2 := [(3, .int (0 : Int32)), (0, .ref 58), (1, .int x1), (2, .int x2), (4, .int x4)]) rfl ?_
      refine go_iinc dX8_leadsNow_83 4 rfl (v := (x4 + 1)) rfl (Nat.le_of_ble_eq_true rfl) (L2 := [(4, .int (x4 + 1)), (3, .int (0 : Int32)), (0, .ref 58), (1, .int x1), (2, .int x2)]) rfl ?_
      refine go_goto (tgt := 36) dX8_leadsNow_86 (by decide) ?_
      exact go_loc [(0, .ref 58), (1, .int x1), (2, .int x2), (3, .int (0 : Int32)), (4, .int (x4 + 1))] [2, 3, 4, 1, 0] rfl h
    · have h := h.2 c3
      refine go_aload_n dX8_leadsNow_49 rfl 0 rfl ?_
      refine go_iload_n dX8_leadsNow_50 rfl 2 rfl ?_
      refine go_aload_n dX8_leadsNow_51 rfl 0 rfl ?_
      refine go_getR dX8_leadsNow_52 sh_58 (by decide) f_X8_67 ⟨Nat.le_of_ble_eq_true rfl, Nat.le_of_ble_eq_true rfl, rfl⟩ rfl ?_
      refine go_iconst dX8_leadsNow_55 (v := (2 : Int32)) (by decide) ?_
      refine go_iload dX8_leadsNow_56 4 rfl ?_
      refine go_imul dX8_leadsNow_58 ?_
      have hb4 := h.1
      have h := h.2
      refine go_iald dX8_leadsNow_59 sh_78 (by decide) hb4 rfl ?_
      refine go_vcall (Z := Y_X8_makesIn) (As := [.int x2, .int (I 78 (nn ((2 : Int32) * x4)))]) (S := []) dX8_leadsNow_60 ok_X8_makesIn l_X8_195 (by decide) sh_58 (by decide) (Nat.le_of_ble_eq_true rfl) rfl rfl rfl (Nat.le_of_ble_eq_true rfl) h (fun _ I5 _ hq => ?_)
      obtain ⟨rfl, r6, rfl, h⟩ := hq
      show Go G Y_X8_leadsNow 63 [(0, .ref 58), (1, .int x1), (2, .int x2), (3, .int x3), (4, .int x4)] [.int r6] SH I5 0 0 _
      refine go_aload_n dX8_leadsNow_63 rfl 0 rfl ?_
      refine go_getR dX8_leadsNow_64 sh_58 (by decide) f_X8_67 ⟨Nat.le_of_ble_eq_true rfl, Nat.le_of_ble_eq_true rfl, rfl⟩ rfl ?_
      refine go_iconst dX8_leadsNow_67 (v := (2 : Int32)) (by decide) ?_
      refine go_iload dX8_leadsNow_68 4 rfl ?_
      refine go_imul dX8_leadsNow_70 ?_
      refine go_iconst dX8_leadsNow_71 (v := (1 : Int32)) (by decide) ?_
      refine go_iadd dX8_leadsNow_72 ?_
      have hb7 := h.1
      have h := h.2
      refine go_iald dX8_leadsNow_73 sh_78 (by decide) hb7 rfl ?_
      refine go_icmp_ne (tgt := 81) dX8_leadsNow_74 (by decide) (fun c8 => ?_) (fun c8 => ?_)
      · have h := h.1 c8
        refine go_iconst dX8_leadsNow_81 (v := (0 : Int32)) (by decide) ?_
        refine go_istore_n dX8_leadsNow_82 rfl (Nat.le_of_ble_eq_true rfl) (L2 := [(3, .int (0 : Int32)), (0, .ref 58), (1, .int x1), (2, .int x2), (4, .int x4)]) rfl ?_
        refine go_iinc dX8_leadsNow_83 4 rfl (v := (x4 + 1)) rfl (Nat.le_of_ble_eq_true rfl) (L2 := [(4, .int (x4 + 1)), (3, .int (0 : Int32)), (0, .ref 58), (1, .int x1), (2, .int x2)]) rfl ?_
        refine go_goto (tgt := 36) dX8_leadsNow_86 (by decide) ?_
        exact go_loc [(0, .ref 58), (1, .int x1), (2, .int x2), (3, .int (0 : Int32)), (4, .int (x4 + 1))] [2, 3, 4, 1, 0] rfl h
      · have h := h.2 c8
        refine go_iconst dX8_leadsNow_77 (v := (1 : Int32)) (by decide) ?_
        refine go_goto (tgt := 82) dX8_leadsNow_78 (by decide) ?_
        refine go_istore_n dX8_leadsNow_82 rfl (Nat.le_of_ble_eq_true rfl) (L2 := [(3, .int (1 : Int32)), (0, .ref 58), (1, .int x1), (2, .int x2), (4, .int x4)]) rfl ?_
        refine go_iinc dX8_leadsNow_83 4 rfl (v := (x4 + 1)) rfl (Nat.le_of_ble_eq_true rfl) (L2 := [(4, .int (x4 + 1)), (3, .int (1 : Int32)), (0, .ref 58), (1, .int x1), (2, .int x2)]) rfl ?_
        refine go_goto (tgt := 36) dX8_leadsNow_86 (by decide) ?_
        exact go_loc [(0, .ref 58), (1, .int x1), (2, .int x2), (3, .int (1 : Int32)), (4, .int (x4 + 1))] [2, 3, 4, 1, 0] rfl h
set_option maxRecDepth 100000 in
set_option maxHeartbeats 4000000 in
theorem v_X8_leads {G : CX}   {I : HP} {Q : HP → Int32 → Prop} (h : RV G Y_X8_find [.ref 58] I (fun I1 => RI G Y_X8_leadsNow [.ref 58] I1 (fun I2 r3 => Q I2 r3))) : RI G Y_X8_leads [.ref 58] I Q := by
  refine ret_of (show plainName RX8 = true by decide) (Nat.le_of_ble_eq_true rfl) ?_
  show Go G Y_X8_leads 0 [(0, .ref 58)] [] SH I 0 0 _
  refine go_aload_n dX8_leads_0 rfl 0 rfl ?_
  refine go_vcall (Z := Y_X8_find) (As := []) (S := []) dX8_leads_1 ok_X8_find l_X8_162 (by decide) sh_58 (by decide) (Nat.le_of_ble_eq_true rfl) rfl rfl rfl (Nat.le_of_ble_eq_true rfl) h (fun _ I1 _ hq => ?_)
  obtain ⟨rfl, rfl, h⟩ := hq
  show Go G Y_X8_leads 4 [(0, .ref 58)] [] SH I1 0 0 _
  refine go_aload_n dX8_leads_4 rfl 0 rfl ?_
  refine go_vcall (Z := Y_X8_leadsNow) (As := []) (S := []) dX8_leads_5 ok_X8_leadsNow l_X8_281 (by decide) sh_58 (by decide) (Nat.le_of_ble_eq_true rfl) rfl rfl rfl (Nat.le_of_ble_eq_true rfl) h (fun _ I2 _ hq => ?_)
  obtain ⟨rfl, r3, rfl, h⟩ := hq
  show Go G Y_X8_leads 8 [(0, .ref 58)] [.int r3] SH I2 0 0 _
  exact go_iret dX8_leads_8 rfl rfl (by decide) ⟨rfl, _, rfl, h⟩
set_option maxRecDepth 100000 in
set_option maxHeartbeats 4000000 in
theorem v_X8_write {G : CX} {a1 : Int32}  {I : HP} {Q : HP → Int32 → Prop} (h : RZ G Y_X8_isSheet [.int a1] I (fun I1 r2 => ((¬ (bI r2) = 0) → ((vp_in a1 4) ∧ (((0 ≤ (I1 59 (nn a1))) → (RV G Y_X8_find [.ref 58] I1 (fun I6 => RI G Y_X8_lesser [.int (I6 60 (nn a1)), .int (I6 58 11)] I6 (fun I7 r8 => GI G Y_X8_write 45 [(0, .ref 58), (1, .int a1), (2, .int r8), (3, .int (0 : Int32))] I7 Q)))) ∧ ((¬ 0 ≤ (I1 59 (nn a1))) → (RI G Y_X8_met [.ref 58, .int (1 : Int32)] I1 (fun I9 r10 => Q I9 r10)))))) ∧ (((bI r2) = 0) → (Q I1 (-2 : Int32))))) : RI G Y_X8_write [.ref 58, .int a1] I Q := by
  refine ret_of (show plainName RX8 = true by decide) (Nat.le_of_ble_eq_true rfl) ?_
  show Go G Y_X8_write 0 [(0, .ref 58), (1, .int a1)] [] SH I 0 0 _
  refine go_iload_n dX8_write_0 rfl 1 rfl ?_
  refine go_scall (Z := Y_X8_isSheet) (As := [.int a1]) (S := []) dX8_write_1 ok_X8_isSheet l_X8_82 (by decide) rfl rfl (Nat.le_of_ble_eq_true rfl) h (fun _ I1 _ hq => ?_)
  obtain ⟨rfl, r2, rfl, h⟩ := hq
  show Go G Y_X8_write 4 [(0, .ref 58), (1, .int a1)] [.int (bI r2)] SH I1 0 0 _
  refine go_if_ne (tgt := 10) dX8_write_4 (by decide) (fun c3 => ?_) (fun c3 => ?_)
  · have h := h.1 c3
    refine go_aload_n dX8_write_10 rfl 0 rfl ?_
    refine go_getR dX8_write_11 sh_58 (by decide) f_X8_7 ⟨Nat.le_of_ble_eq_true rfl, Nat.le_of_ble_eq_true rfl, rfl⟩ rfl ?_
    refine go_iload_n dX8_write_14 rfl 1 rfl ?_
    have hb4 := h.1
    have h := h.2
    refine go_iald dX8_write_15 sh_59 (by decide) hb4 rfl ?_
    refine go_if_ge (tgt := 25) dX8_write_16 (by decide) (fun c5 => ?_) (fun c5 => ?_)
    · have h := h.1 c5
      refine go_aload_n dX8_write_25 rfl 0 rfl ?_
      refine go_vcall (Z := Y_X8_find) (As := []) (S := []) dX8_write_26 ok_X8_find l_X8_162 (by decide) sh_58 (by decide) (Nat.le_of_ble_eq_true rfl) rfl rfl rfl (Nat.le_of_ble_eq_true rfl) h (fun _ I6 _ hq => ?_)
      obtain ⟨rfl, rfl, h⟩ := hq
      show Go G Y_X8_write 29 [(0, .ref 58), (1, .int a1)] [] SH I6 0 0 _
      refine go_aload_n dX8_write_29 rfl 0 rfl ?_
      refine go_getR dX8_write_30 sh_58 (by decide) f_X8_13 ⟨Nat.le_of_ble_eq_true rfl, Nat.le_of_ble_eq_true rfl, rfl⟩ rfl ?_
      refine go_iload_n dX8_write_33 rfl 1 rfl ?_
      refine go_iald dX8_write_34 sh_60 (by decide) hb4 rfl ?_
      refine go_aload_n dX8_write_35 rfl 0 rfl ?_
      refine go_getI dX8_write_36 sh_58 (by decide) f_X8_128 ⟨Nat.le_of_ble_eq_true rfl, Nat.le_of_ble_eq_true rfl, rfl⟩ ?_
      refine go_scall (Z := Y_X8_lesser) (As := [.int (I6 60 (nn a1)), .int (I6 58 11)]) (S := []) dX8_write_39 ok_X8_lesser l_X8_217 (by decide) rfl rfl (Nat.le_of_ble_eq_true rfl) h (fun _ I7 _ hq => ?_)
      obtain ⟨rfl, r8, rfl, h⟩ := hq
      show Go G Y_X8_write 42 [(0, .ref 58), (1, .int a1)] [.int r8] SH I7 0 0 _
      refine go_istore_n dX8_write_42 rfl (Nat.le_of_ble_eq_true rfl) (L2 := [(2, .int r8), (0, .ref 58), (1, .int a1)]) rfl ?_
      refine go_iconst dX8_write_43 (v := (0 : Int32)) (by decide) ?_
      refine go_istore_n dX8_write_44 rfl (Nat.le_of_ble_eq_true rfl) (L2 := [(3, .int (0 : Int32)), (2, .int r8), (0, .ref 58), (1, .int a1)]) rfl ?_
      exact go_loc [(0, .ref 58), (1, .int a1), (2, .int r8), (3, .int (0 : Int32))] [2, 3, 1, 0] rfl h
    · have h := h.2 c5
      refine go_aload_n dX8_write_19 rfl 0 rfl ?_
      refine go_iconst dX8_write_20 (v := (1 : Int32)) (by decide) ?_
      refine go_vcall (Z := Y_X8_met) (As := [.int (1 : Int32)]) (S := []) dX8_write_21 ok_X8_met l_X8_88 (by decide) sh_58 (by decide) (Nat.le_of_ble_eq_true rfl) rfl rfl rfl (Nat.le_of_ble_eq_true rfl) h (fun _ I9 _ hq => ?_)
      obtain ⟨rfl, r10, rfl, h⟩ := hq
      show Go G Y_X8_write 24 [(0, .ref 58), (1, .int a1)] [.int r10] SH I9 0 0 _
      exact go_iret dX8_write_24 rfl rfl (by decide) ⟨rfl, _, rfl, h⟩
  · have h := h.2 c3
    refine go_bipush dX8_write_7 (v := (-2 : Int32)) (by decide) ?_
    exact go_iret dX8_write_9 rfl rfl (by decide) ⟨rfl, _, rfl, h⟩
set_option maxRecDepth 100000 in
set_option maxHeartbeats 4000000 in
theorem v_X8_write_45 {G : CX} {x1 : Int32} {x2 : Int32} {x3 : Int32}  {I : HP} {Q : HP → Int32 → Prop} (h : ((x2 ≤ x3) → (Q I x2)) ∧ ((¬ x2 ≤ x3) → ((vp_in x1 4) ∧ ((vp_in x3 14) ∧ (RI G Y_X8_cut [.int (I 59 (nn x1)), .int (I 71 (nn x3))] I (fun I4 r5 => (vp_in (((60 : Int32) * x1) + x3) 240) ∧ (GI G Y_X8_write 45 [(0, .ref 58), (1, .int x1), (2, .int x2), (3, .int (x3 + 1))] (st I4 61 (nn (((60 : Int32) * x1) + x3)) r5) Q))))))) : GI G Y_X8_write 45 [(0, .ref 58), (1, .int x1), (2, .int x2), (3, .int x3)] I Q := by
  show Go G Y_X8_write 45 [(0, .ref 58), (1, .int x1), (2, .int x2), (3, .int x3)] [] SH I 0 0 _
  refine go_iload_n dX8_write_45 rfl 3 rfl ?_
  refine go_iload_n dX8_write_46 rfl 2 rfl ?_
  refine go_icmp_ge (tgt := 82) dX8_write_47 (by decide) (fun c1 => ?_) (fun c1 => ?_)
  · have h := h.1 c1
    refine go_iload_n dX8_write_82 rfl 2 rfl ?_
    exact go_iret dX8_write_83 rfl rfl (by decide) ⟨rfl, _, rfl, h⟩
  · have h := h.2 c1
    refine go_aload_n dX8_write_50 rfl 0 rfl ?_
    refine go_getR dX8_write_51 sh_58 (by decide) f_X8_16 ⟨Nat.le_of_ble_eq_true rfl, Nat.le_of_ble_eq_true rfl, rfl⟩ rfl ?_
    refine go_bipush dX8_write_54 (v := (60 : Int32)) (by decide) ?_
    refine go_iload_n dX8_write_56 rfl 1 rfl ?_
    refine go_imul dX8_write_57 ?_
    refine go_iload_n dX8_write_58 rfl 3 rfl ?_
    refine go_iadd dX8_write_59 ?_
    refine go_aload_n dX8_write_60 rfl 0 rfl ?_
    refine go_getR dX8_write_61 sh_58 (by decide) f_X8_7 ⟨Nat.le_of_ble_eq_true rfl, Nat.le_of_ble_eq_true rfl, rfl⟩ rfl ?_
    refine go_iload_n dX8_write_64 rfl 1 rfl ?_
    have hb2 := h.1
    have h := h.2
    refine go_iald dX8_write_65 sh_59 (by decide) hb2 rfl ?_
    refine go_aload_n dX8_write_66 rfl 0 rfl ?_
    refine go_getR dX8_write_67 sh_58 (by decide) f_X8_46 ⟨Nat.le_of_ble_eq_true rfl, Nat.le_of_ble_eq_true rfl, rfl⟩ rfl ?_
    refine go_iload_n dX8_write_70 rfl 3 rfl ?_
    have hb3 := h.1
    have h := h.2
    refine go_iald dX8_write_71 sh_71 (by decide) hb3 rfl ?_
    refine go_scall (Z := Y_X8_cut) (As := [.int (I 59 (nn x1)), .int (I 71 (nn x3))]) (S := [.int (((60 : Int32) * x1) + x3), .ref 61]) dX8_write_72 ok_X8_cut l_X8_96 (by decide) rfl rfl (Nat.le_of_ble_eq_true rfl) h (fun _ I4 _ hq => ?_)
    obtain ⟨rfl, r5, rfl, h⟩ := hq
    show Go G Y_X8_write 75 [(0, .ref 58), (1, .int x1), (2, .int x2), (3, .int x3)] [.int r5, .int (((60 : Int32) * x1) + x3), .ref 61] SH I4 0 0 _
    have hb6 := h.1
    have h := h.2
    refine go_iast dX8_write_75 sh_61 (by decide) hb6 (j := (nn (((60 : Int32) * x1) + x3))) rfl ?_
    refine go_iinc dX8_write_76 3 rfl (v := (x3 + 1)) rfl (Nat.le_of_ble_eq_true rfl) (L2 := [(3, .int (x3 + 1)), (0, .ref 58), (1, .int x1), (2, .int x2)]) rfl ?_
    refine go_goto (tgt := 45) dX8_write_79 (by decide) ?_
    exact go_loc [(0, .ref 58), (1, .int x1), (2, .int x2), (3, .int (x3 + 1))] [1, 2, 3, 0] rfl h
set_option maxRecDepth 100000 in
set_option maxHeartbeats 4000000 in
theorem v_X8_count {G : CX} {a1 : Int32}  {I : HP} {Q : HP → Int32 → Prop} (h : RV G Y_X8_find [.ref 58] I (fun I1 => ((a1 = (0 : Int32)) → ((vp_in a1 2) ∧ (Q I1 (I1 65 (nn a1))))) ∧ ((a1 = (1 : Int32)) → ((vp_in a1 2) ∧ (Q I1 (I1 65 (nn a1))))) ∧ ((a1 = (2 : Int32)) → ((vp_in (a1 - (2 : Int32)) 2) ∧ (Q I1 (I1 64 (nn (a1 - (2 : Int32))))))) ∧ ((a1 = (3 : Int32)) → ((vp_in (a1 - (2 : Int32)) 2) ∧ (Q I1 (I1 64 (nn (a1 - (2 : Int32))))))) ∧ ((a1 = (4 : Int32)) → (Q I1 (I1 58 28))) ∧ ((a1 = (5 : Int32)) → (GI G Y_X8_count 79 [(0, .ref 58), (2, .int (0 : Int32)), (3, .int (0 : Int32))] I1 Q)) ∧ ((a1 = (6 : Int32)) → (Q I1 (I1 67 0))) ∧ ((a1 = (7 : Int32)) → (GI G Y_X8_count 113 [(0, .ref 58), (2, .int (0 : Int32)), (3, .int (0 : Int32))] I1 Q)) ∧ ((a1 = (8 : Int32)) → (Q I1 (I1 58 4))) ∧ ((∀ j : Nat, j < 9 → a1 ≠ nI j) → (Q I1 (-2 : Int32))))) : RI G Y_X8_count [.ref 58, .int a1] I Q := by
  refine ret_of (show plainName RX8 = true by decide) (Nat.le_of_ble_eq_true rfl) ?_
  show Go G Y_X8_count 0 [(0, .ref 58), (1, .int a1)] [] SH I 0 0 _
  refine go_iconst dX8_count_0 (v := (0 : Int32)) (by decide) ?_
  refine go_istore_n dX8_count_1 rfl (Nat.le_of_ble_eq_true rfl) (L2 := [(2, .int (0 : Int32)), (0, .ref 58), (1, .int a1)]) rfl ?_
  refine go_aload_n dX8_count_2 rfl 1 rfl ?_
  refine go_vcall (Z := Y_X8_find) (As := []) (S := []) dX8_count_3 ok_X8_find l_X8_162 (by decide) sh_58 (by decide) (Nat.le_of_ble_eq_true rfl) rfl rfl rfl (Nat.le_of_ble_eq_true rfl) h (fun _ I1 _ hq => ?_)
  obtain ⟨rfl, rfl, h⟩ := hq
  show Go G Y_X8_count 6 [(2, .int (0 : Int32)), (0, .ref 58), (1, .int a1)] [] SH I1 0 0 _
  refine go_iload_n dX8_count_6 rfl 2 rfl ?_
  by_cases c2 : a1 = (0 : Int32)
  · have h := h.1 c2
    refine go_tIn (tgt := 56) dX8_count_7 (by rw [c2]; decide) (by rw [c2]; decide) (by rw [c2] <;> rfl) (by decide) ?_
    refine go_aload_n dX8_count_56 rfl 1 rfl ?_
    refine go_getR dX8_count_57 sh_58 (by decide) f_X8_28 ⟨Nat.le_of_ble_eq_true rfl, Nat.le_of_ble_eq_true rfl, rfl⟩ rfl ?_
    refine go_iload_n dX8_count_60 rfl 2 rfl ?_
    have hb3 := h.1
    have h := h.2
    refine go_iald dX8_count_61 sh_65 (by decide) hb3 rfl ?_
    exact go_iret dX8_count_62 rfl rfl (by decide) ⟨rfl, _, rfl, h⟩
  have h := h.2
  have c2_0 : a1 ≠ nI 0 := c2
  clear c2
  by_cases c2 : a1 = (1 : Int32)
  · have h := h.1 c2
    refine go_tIn (tgt := 56) dX8_count_7 (by rw [c2]; decide) (by rw [c2]; decide) (by rw [c2] <;> rfl) (by decide) ?_
    refine go_aload_n dX8_count_56 rfl 1 rfl ?_
    refine go_getR dX8_count_57 sh_58 (by decide) f_X8_28 ⟨Nat.le_of_ble_eq_true rfl, Nat.le_of_ble_eq_true rfl, rfl⟩ rfl ?_
    refine go_iload_n dX8_count_60 rfl 2 rfl ?_
    have hb4 := h.1
    have h := h.2
    refine go_iald dX8_count_61 sh_65 (by decide) hb4 rfl ?_
    exact go_iret dX8_count_62 rfl rfl (by decide) ⟨rfl, _, rfl, h⟩
  have h := h.2
  have c2_1 : a1 ≠ nI 1 := c2
  clear c2
  by_cases c2 : a1 = (2 : Int32)
  · have h := h.1 c2
    refine go_tIn (tgt := 63) dX8_count_7 (by rw [c2]; decide) (by rw [c2]; decide) (by rw [c2] <;> rfl) (by decide) ?_
    refine go_aload_n dX8_count_63 rfl 1 rfl ?_
    refine go_getR dX8_count_64 sh_58 (by decide) f_X8_25 ⟨Nat.le_of_ble_eq_true rfl, Nat.le_of_ble_eq_true rfl, rfl⟩ rfl ?_
    refine go_iload_n dX8_count_67 rfl 2 rfl ?_
    refine go_iconst dX8_count_68 (v := (2 : Int32)) (by decide) ?_
    refine go_isub dX8_count_69 ?_
    have hb5 := h.1
    have h := h.2
    refine go_iald dX8_count_70 sh_64 (by decide) hb5 rfl ?_
    exact go_iret dX8_count_71 rfl rfl (by decide) ⟨rfl, _, rfl, h⟩
  have h := h.2
  have c2_2 : a1 ≠ nI 2 := c2
  clear c2
  by_cases c2 : a1 = (3 : Int32)
  · have h := h.1 c2
    refine go_tIn (tgt := 63) dX8_count_7 (by rw [c2]; decide) (by rw [c2]; decide) (by rw [c2] <;> rfl) (by decide) ?_
    refine go_aload_n dX8_count_63 rfl 1 rfl ?_
    refine go_getR dX8_count_64 sh_58 (by decide) f_X8_25 ⟨Nat.le_of_ble_eq_true rfl, Nat.le_of_ble_eq_true rfl, rfl⟩ rfl ?_
    refine go_iload_n dX8_count_67 rfl 2 rfl ?_
    refine go_iconst dX8_count_68 (v := (2 : Int32)) (by decide) ?_
    refine go_isub dX8_count_69 ?_
    have hb6 := h.1
    have h := h.2
    refine go_iald dX8_count_70 sh_64 (by decide) hb6 rfl ?_
    exact go_iret dX8_count_71 rfl rfl (by decide) ⟨rfl, _, rfl, h⟩
  have h := h.2
  have c2_3 : a1 ≠ nI 3 := c2
  clear c2
  by_cases c2 : a1 = (4 : Int32)
  · have h := h.1 c2
    refine go_tIn (tgt := 72) dX8_count_7 (by rw [c2]; decide) (by rw [c2]; decide) (by rw [c2] <;> rfl) (by decide) ?_
    refine go_aload_n dX8_count_72 rfl 1 rfl ?_
    refine go_getI dX8_count_73 sh_58 (by decide) f_X8_276 ⟨Nat.le_of_ble_eq_true rfl, Nat.le_of_ble_eq_true rfl, rfl⟩ ?_
    exact go_iret dX8_count_76 rfl rfl (by decide) ⟨rfl, _, rfl, h⟩
  have h := h.2
  have c2_4 : a1 ≠ nI 4 := c2
  clear c2
  by_cases c2 : a1 = (5 : Int32)
  · have h := h.1 c2
    refine go_tIn (tgt := 77) dX8_count_7 (by rw [c2]; decide) (by rw [c2]; decide) (by rw [c2] <;> rfl) (by decide) ?_
    refine go_iconst dX8_count_77 (v := (0 : Int32)) (by decide) ?_
    refine go_istore_n dX8_count_78 rfl (Nat.le_of_ble_eq_true rfl) (L2 := [(3, .int (0 : Int32)), (2, .int (0 : Int32)), (0, .ref 58), (1, .int a1)]) rfl ?_
    exact go_loc [(0, .ref 58), (2, .int (0 : Int32)), (3, .int (0 : Int32))] [2, 1, 0] rfl h
  have h := h.2
  have c2_5 : a1 ≠ nI 5 := c2
  clear c2
  by_cases c2 : a1 = (6 : Int32)
  · have h := h.1 c2
    refine go_tIn (tgt := 104) dX8_count_7 (by rw [c2]; decide) (by rw [c2]; decide) (by rw [c2] <;> rfl) (by decide) ?_
    refine go_aload_n dX8_count_104 rfl 1 rfl ?_
    refine go_getR dX8_count_105 sh_58 (by decide) f_X8_34 ⟨Nat.le_of_ble_eq_true rfl, Nat.le_of_ble_eq_true rfl, rfl⟩ rfl ?_
    refine go_iconst dX8_count_108 (v := (0 : Int32)) (by decide) ?_
    refine go_iald dX8_count_109 sh_67 (by decide) (by unfold vp_in; decide) (j := 0) (by decide) ?_
    exact go_iret dX8_count_110 rfl rfl (by decide) ⟨rfl, _, rfl, h⟩
  have h := h.2
  have c2_6 : a1 ≠ nI 6 := c2
  clear c2
  by_cases c2 : a1 = (7 : Int32)
  · have h := h.1 c2
    refine go_tIn (tgt := 111) dX8_count_7 (by rw [c2]; decide) (by rw [c2]; decide) (by rw [c2] <;> rfl) (by decide) ?_
    refine go_iconst dX8_count_111 (v := (0 : Int32)) (by decide) ?_
    refine go_istore_n dX8_count_112 rfl (Nat.le_of_ble_eq_true rfl) (L2 := [(3, .int (0 : Int32)), (2, .int (0 : Int32)), (0, .ref 58), (1, .int a1)]) rfl ?_
    exact go_loc [(0, .ref 58), (2, .int (0 : Int32)), (3, .int (0 : Int32))] [2, 1, 0] rfl h
  have h := h.2
  have c2_7 : a1 ≠ nI 7 := c2
  clear c2
  by_cases c2 : a1 = (8 : Int32)
  · have h := h.1 c2
    refine go_tIn (tgt := 144) dX8_count_7 (by rw [c2]; decide) (by rw [c2]; decide) (by rw [c2] <;> rfl) (by decide) ?_
    refine go_aload_n dX8_count_144 rfl 1 rfl ?_
    refine go_getI dX8_count_145 sh_58 (by decide) f_X8_76 ⟨Nat.le_of_ble_eq_true rfl, Nat.le_of_ble_eq_true rfl, rfl⟩ ?_
    exact go_iret dX8_count_148 rfl rfl (by decide) ⟨rfl, _, rfl, h⟩
  have h := h.2
  have c2_8 : a1 ≠ nI 8 := c2
  clear c2
  have hb7 : ∀ j : Nat, j < 9 → a1 ≠ nI j := by
    intro j hj
    rcases (show j = 0 ∨ j = 1 ∨ j = 2 ∨ j = 3 ∨ j = 4 ∨ j = 5 ∨ j = 6 ∨ j = 7 ∨ j = 8 by omega) with rfl | rfl | rfl | rfl | rfl | rfl | rfl | rfl | rfl
    · exact c2_0
    · exact c2_1
    · exact c2_2
    · exact c2_3
    · exact c2_4
    · exact c2_5
    · exact c2_6
    · exact c2_7
    · exact c2_8
  have h := h hb7
  refine go_tOut (tgt := 149) dX8_count_7 (sw_out (n := 9) (by decide) hb7) (by decide) ?_
  refine go_bipush dX8_count_149 (v := (-2 : Int32)) (by decide) ?_
  exact go_iret dX8_count_151 rfl rfl (by decide) ⟨rfl, _, rfl, h⟩
set_option maxRecDepth 100000 in
set_option maxHeartbeats 4000000 in
theorem v_X8_count_79 {G : CX} {x2 : Int32} {x3 : Int32}  {I : HP} {Q : HP → Int32 → Prop} (h : (((I 58 11) ≤ x3) → (Q I x2)) ∧ ((¬ (I 58 11) ≤ x3) → ((vp_in x3 14) ∧ (GI G Y_X8_count 79 [(0, .ref 58), (2, .int (x2 + (I 69 (nn x3)))), (3, .int (x3 + 1))] I Q)))) : GI G Y_X8_count 79 [(0, .ref 58), (2, .int x2), (3, .int x3)] I Q := by
  show Go G Y_X8_count 79 [(0, .ref 58), (2, .int x2), (3, .int x3)] [] SH I 0 0 _
  refine go_iload_n dX8_count_79 rfl 2 rfl ?_
  refine go_aload_n dX8_count_80 rfl 0 rfl ?_
  refine go_getI dX8_count_81 sh_58 (by decide) f_X8_128 ⟨Nat.le_of_ble_eq_true rfl, Nat.le_of_ble_eq_true rfl, rfl⟩ ?_
  refine go_icmp_ge (tgt := 102) dX8_count_84 (by decide) (fun c1 => ?_) (fun c1 => ?_)
  · have h := h.1 c1
    refine go_iload_n dX8_count_102 rfl 1 rfl ?_
    exact go_iret dX8_count_103 rfl rfl (by decide) ⟨rfl, _, rfl, h⟩
  · have h := h.2 c1
    refine go_iload_n dX8_count_87 rfl 1 rfl ?_
    refine go_aload_n dX8_count_88 rfl 0 rfl ?_
    refine go_getR dX8_count_89 sh_58 (by decide) f_X8_40 ⟨Nat.le_of_ble_eq_true rfl, Nat.le_of_ble_eq_true rfl, rfl⟩ rfl ?_
    refine go_iload_n dX8_count_92 rfl 2 rfl ?_
    have hb2 := h.1
    have h := h.2
    refine go_iald dX8_count_93 sh_69 (by decide) hb2 rfl ?_
    refine go_iadd dX8_count_94 ?_
    refine go_istore_n dX8_count_95 rfl (Nat.le_of_ble_eq_true rfl) (L2 := [(2, .int (x2 + (I 69 (nn x3)))), (0, .ref 58), (3, .int x3)]) rfl ?_
    refine go_iinc dX8_count_96 2 rfl (v := (x3 + 1)) rfl (Nat.le_of_ble_eq_true rfl) (L2 := [(3, .int (x3 + 1)), (2, .int (x2 + (I 69 (nn x3)))), (0, .ref 58)]) rfl ?_
    refine go_goto (tgt := 79) dX8_count_99 (by decide) ?_
    exact go_loc [(0, .ref 58), (2, .int (x2 + (I 69 (nn x3)))), (3, .int (x3 + 1))] [2, 1, 0] rfl h
set_option maxRecDepth 100000 in
set_option maxHeartbeats 4000000 in
theorem v_X8_count_113 {G : CX} {x2 : Int32} {x3 : Int32}  {I : HP} {Q : HP → Int32 → Prop} (h : (((I 65 0) ≤ x3) → (Q I x2)) ∧ ((¬ (I 65 0) ≤ x3) → (∀ z2 : Int32, z2 = (x2 + (((I 67 5) >>> (x3 &&& 31)) &&& (1 : Int32))) → GI G Y_X8_count 113 [(0, .ref 58), (2, .int z2), (3, .int (x3 + 1))] I Q))) : GI G Y_X8_count 113 [(0, .ref 58), (2, .int x2), (3, .int x3)] I Q := by
  show Go G Y_X8_count 113 [(0, .ref 58), (2, .int x2), (3, .int x3)] [] SH I 0 0 _
  refine go_iload_n dX8_count_113 rfl 2 rfl ?_
  refine go_aload_n dX8_count_114 rfl 0 rfl ?_
  refine go_getR dX8_count_115 sh_58 (by decide) f_X8_28 ⟨Nat.le_of_ble_eq_true rfl, Nat.le_of_ble_eq_true rfl, rfl⟩ rfl ?_
  refine go_iconst dX8_count_118 (v := (0 : Int32)) (by decide) ?_
  refine go_iald dX8_count_119 sh_65 (by decide) (by unfold vp_in; decide) (j := 0) (by decide) ?_
  refine go_icmp_ge (tgt := 142) dX8_count_120 (by decide) (fun c1 => ?_) (fun c1 => ?_)
  · have h := h.1 c1
    refine go_iload_n dX8_count_142 rfl 1 rfl ?_
    exact go_iret dX8_count_143 rfl rfl (by decide) ⟨rfl, _, rfl, h⟩
  · have h := h.2 c1
    refine go_iload_n dX8_count_123 rfl 1 rfl ?_
    refine go_aload_n dX8_count_124 rfl 0 rfl ?_
    refine go_getR dX8_count_125 sh_58 (by decide) f_X8_34 ⟨Nat.le_of_ble_eq_true rfl, Nat.le_of_ble_eq_true rfl, rfl⟩ rfl ?_
    refine go_iconst dX8_count_128 (v := (5 : Int32)) (by decide) ?_
    refine go_iald dX8_count_129 sh_67 (by decide) (by unfold vp_in; decide) (j := 5) (by decide) ?_
    refine go_iload_n dX8_count_130 rfl 2 rfl ?_
    refine go_ishr dX8_count_131 ?_
    refine go_iconst dX8_count_132 (v := (1 : Int32)) (by decide) ?_
    refine go_iand dX8_count_133 ?_
    refine go_iadd dX8_count_134 ?_
    refine go_top (fun z2 ez2 => ?_)
    have h := h z2 ez2
    refine go_istore_n dX8_count_135 rfl (Nat.le_of_ble_eq_true rfl) (L2 := [(2, .int z2), (0, .ref 58), (3, .int x3)]) rfl ?_
    refine go_iinc dX8_count_136 2 rfl (v := (x3 + 1)) rfl (Nat.le_of_ble_eq_true rfl) (L2 := [(3, .int (x3 + 1)), (2, .int z2), (0, .ref 58)]) rfl ?_
    refine go_goto (tgt := 113) dX8_count_139 (by decide) ?_
    exact go_loc [(0, .ref 58), (2, .int z2), (3, .int (x3 + 1))] [2, 1, 0] rfl h
set_option maxRecDepth 100000 in
set_option maxHeartbeats 4000000 in
theorem v_X8_digest {G : CX}   {I : HP} {Q : HP → Int64 → Prop} (h : GJ G Y_X8_digest 6 [(0, .ref 58), (1, .long (17 : Int64)), (3, .int (0 : Int32))] I Q) : RJ G Y_X8_digest [.ref 58] I Q := by
  refine ret_of (show plainName RX8 = true by decide) (Nat.le_of_ble_eq_true rfl) ?_
  show Go G Y_X8_digest 0 [(0, .ref 58)] [] SH I 0 0 _
  refine go_ldc2 dX8_digest_0 k_X8_284 ?_
  refine go_lstore_n dX8_digest_3 rfl (Nat.le_of_ble_eq_true rfl) (L2 := [(1, .long (17 : Int64)), (0, .ref 58)]) rfl ?_
  refine go_iconst dX8_digest_4 (v := (0 : Int32)) (by decide) ?_
  refine go_istore_n dX8_digest_5 rfl (Nat.le_of_ble_eq_true rfl) (L2 := [(3, .int (0 : Int32)), (1, .long (17 : Int64)), (0, .ref 58)]) rfl ?_
  exact go_loc [(0, .ref 58), (1, .long (17 : Int64)), (3, .int (0 : Int32))] [2, 1, 0] rfl h
set_option maxRecDepth 100000 in
set_option maxHeartbeats 4000000 in
theorem v_X8_digest_6 {G : CX} {x1 : Int64} {x3 : Int32}  {I : HP} {Q : HP → Int64 → Prop} (h : (((8 : Int32) ≤ x3) → (GJ G Y_X8_digest 33 [(0, .ref 58), (1, .long x1), (3, .int (0 : Int32))] I Q)) ∧ ((¬ (8 : Int32) ≤ x3) → (RI G Y_X8_count [.ref 58, .int x3] I (fun I2 r3 => GJ G Y_X8_digest 6 [(0, .ref 58), (1, .long (((31 : Int64) * x1) + (r3.toInt64))), (3, .int (x3 + 1))] I2 Q)))) : GJ G Y_X8_digest 6 [(0, .ref 58), (1, .long x1), (3, .int x3)] I Q := by
  show Go G Y_X8_digest 6 [(0, .ref 58), (1, .long x1), (3, .int x3)] [] SH I 0 0 _
  refine go_iload_n dX8_digest_6 rfl 2 rfl ?_
  refine go_bipush dX8_digest_7 (v := (8 : Int32)) (by decide) ?_
  refine go_icmp_ge (tgt := 31) dX8_digest_9 (by decide) (fun c1 => ?_) (fun c1 => ?_)
  · have h := h.1 c1
    refine go_iconst dX8_digest_31 (v := (0 : Int32)) (by decide) ?_
    refine go_istore_n dX8_digest_32 rfl (Nat.le_of_ble_eq_true rfl) (L2 := [(3, .int (0 : Int32)), (0, .ref 58), (1, .long x1)]) rfl ?_
    exact go_loc [(0, .ref 58), (1, .long x1), (3, .int (0 : Int32))] [1, 2, 0] rfl h
  · have h := h.2 c1
    refine go_ldc2 dX8_digest_12 k_X8_286 ?_
    refine go_lload_n dX8_digest_15 rfl 1 rfl ?_
    refine go_lmul dX8_digest_16 ?_
    refine go_aload_n dX8_digest_17 rfl 0 rfl ?_
    refine go_iload_n dX8_digest_18 rfl 2 rfl ?_
    refine go_vcall (Z := Y_X8_count) (As := [.int x3]) (S := [.long ((31 : Int64) * x1)]) dX8_digest_19 ok_X8_count l_X8_288 (by decide) sh_58 (by decide) (Nat.le_of_ble_eq_true rfl) rfl rfl rfl (Nat.le_of_ble_eq_true rfl) h (fun _ I2 _ hq => ?_)
    obtain ⟨rfl, r3, rfl, h⟩ := hq
    show Go G Y_X8_digest 22 [(0, .ref 58), (1, .long x1), (3, .int x3)] [.int r3, .long ((31 : Int64) * x1)] SH I2 0 0 _
    refine go_i2l dX8_digest_22 ?_
    refine go_ladd dX8_digest_23 ?_
    refine go_lstore_n dX8_digest_24 rfl (Nat.le_of_ble_eq_true rfl) (L2 := [(1, .long (((31 : Int64) * x1) + (r3.toInt64))), (0, .ref 58), (3, .int x3)]) rfl ?_
    refine go_iinc dX8_digest_25 2 rfl (v := (x3 + 1)) rfl (Nat.le_of_ble_eq_true rfl) (L2 := [(3, .int (x3 + 1)), (1, .long (((31 : Int64) * x1) + (r3.toInt64))), (0, .ref 58)]) rfl ?_
    refine go_goto (tgt := 6) dX8_digest_28 (by decide) ?_
    exact go_loc [(0, .ref 58), (1, .long (((31 : Int64) * x1) + (r3.toInt64))), (3, .int (x3 + 1))] [2, 1, 0] rfl h
set_option maxRecDepth 100000 in
set_option maxHeartbeats 4000000 in
theorem v_X8_digest_33 {G : CX} {x1 : Int64} {x3 : Int32}  {I : HP} {Q : HP → Int64 → Prop} (h : (((2 : Int32) ≤ x3) → (GJ G Y_X8_digest 59 [(0, .ref 58), (1, .long x1), (3, .int (0 : Int32))] I Q)) ∧ ((¬ (2 : Int32) ≤ x3) → (RI G Y_X8_readsText [.ref 58, .int x3] I (fun I2 r3 => GJ G Y_X8_digest 33 [(0, .ref 58), (1, .long (((31 : Int64) * x1) + (r3.toInt64))), (3, .int (x3 + 1))] I2 Q)))) : GJ G Y_X8_digest 33 [(0, .ref 58), (1, .long x1), (3, .int x3)] I Q := by
  show Go G Y_X8_digest 33 [(0, .ref 58), (1, .long x1), (3, .int x3)] [] SH I 0 0 _
  refine go_iload_n dX8_digest_33 rfl 2 rfl ?_
  refine go_iconst dX8_digest_34 (v := (2 : Int32)) (by decide) ?_
  refine go_icmp_ge (tgt := 57) dX8_digest_35 (by decide) (fun c1 => ?_) (fun c1 => ?_)
  · have h := h.1 c1
    refine go_iconst dX8_digest_57 (v := (0 : Int32)) (by decide) ?_
    refine go_istore_n dX8_digest_58 rfl (Nat.le_of_ble_eq_true rfl) (L2 := [(3, .int (0 : Int32)), (0, .ref 58), (1, .long x1)]) rfl ?_
    exact go_loc [(0, .ref 58), (1, .long x1), (3, .int (0 : Int32))] [1, 2, 0] rfl h
  · have h := h.2 c1
    refine go_ldc2 dX8_digest_38 k_X8_286 ?_
    refine go_lload_n dX8_digest_41 rfl 1 rfl ?_
    refine go_lmul dX8_digest_42 ?_
    refine go_aload_n dX8_digest_43 rfl 0 rfl ?_
    refine go_iload_n dX8_digest_44 rfl 2 rfl ?_
    refine go_vcall (Z := Y_X8_readsText) (As := [.int x3]) (S := [.long ((31 : Int64) * x1)]) dX8_digest_45 ok_X8_readsText l_X8_120 (by decide) sh_58 (by decide) (Nat.le_of_ble_eq_true rfl) rfl rfl rfl (Nat.le_of_ble_eq_true rfl) h (fun _ I2 _ hq => ?_)
    obtain ⟨rfl, r3, rfl, h⟩ := hq
    show Go G Y_X8_digest 48 [(0, .ref 58), (1, .long x1), (3, .int x3)] [.int r3, .long ((31 : Int64) * x1)] SH I2 0 0 _
    refine go_i2l dX8_digest_48 ?_
    refine go_ladd dX8_digest_49 ?_
    refine go_lstore_n dX8_digest_50 rfl (Nat.le_of_ble_eq_true rfl) (L2 := [(1, .long (((31 : Int64) * x1) + (r3.toInt64))), (0, .ref 58), (3, .int x3)]) rfl ?_
    refine go_iinc dX8_digest_51 2 rfl (v := (x3 + 1)) rfl (Nat.le_of_ble_eq_true rfl) (L2 := [(3, .int (x3 + 1)), (1, .long (((31 : Int64) * x1) + (r3.toInt64))), (0, .ref 58)]) rfl ?_
    refine go_goto (tgt := 33) dX8_digest_54 (by decide) ?_
    exact go_loc [(0, .ref 58), (1, .long (((31 : Int64) * x1) + (r3.toInt64))), (3, .int (x3 + 1))] [2, 1, 0] rfl h
set_option maxRecDepth 100000 in
set_option maxHeartbeats 4000000 in
theorem v_X8_digest_59 {G : CX} {x1 : Int64} {x3 : Int32}  {I : HP} {Q : HP → Int64 → Prop} (h : (((I 65 0) ≤ x3) → (GJ G Y_X8_digest 151 [(0, .ref 58), (1, .long x1), (3, .int (0 : Int32))] I Q)) ∧ ((¬ (I 65 0) ≤ x3) → (GJ G Y_X8_digest 72 [(0, .ref 58), (1, .long x1), (3, .int x3), (4, .int (0 : Int32))] I Q))) : GJ G Y_X8_digest 59 [(0, .ref 58), (1, .long x1), (3, .int x3)] I Q := by
  show Go G Y_X8_digest 59 [(0, .ref 58), (1, .long x1), (3, .int x3)] [] SH I 0 0 _
  refine go_iload_n dX8_digest_59 rfl 2 rfl ?_
  refine go_aload_n dX8_digest_60 rfl 0 rfl ?_
  refine go_getR dX8_digest_61 sh_58 (by decide) f_X8_28 ⟨Nat.le_of_ble_eq_true rfl, Nat.le_of_ble_eq_true rfl, rfl⟩ rfl ?_
  refine go_iconst dX8_digest_64 (v := (0 : Int32)) (by decide) ?_
  refine go_iald dX8_digest_65 sh_65 (by decide) (by unfold vp_in; decide) (j := 0) (by decide) ?_
  refine go_icmp_ge (tgt := 149) dX8_digest_66 (by decide) (fun c1 => ?_) (fun c1 => ?_)
  · have h := h.1 c1
    refine go_iconst dX8_digest_149 (v := (0 : Int32)) (by decide) ?_
    refine go_istore_n dX8_digest_150 rfl (Nat.le_of_ble_eq_true rfl) (L2 := [(3, .int (0 : Int32)), (0, .ref 58), (1, .long x1)]) rfl ?_
    exact go_loc [(0, .ref 58), (1, .long x1), (3, .int (0 : Int32))] [1, 2, 0] rfl h
  · have h := h.2 c1
    refine go_iconst dX8_digest_69 (v := (0 : Int32)) (by decide) ?_
    refine go_istore dX8_digest_70 (Nat.le_of_ble_eq_true rfl) (L2 := [(4, .int (0 : Int32)), (0, .ref 58), (1, .long x1), (3, .int x3)]) rfl ?_
    exact go_loc [(0, .ref 58), (1, .long x1), (3, .int x3), (4, .int (0 : Int32))] [1, 2, 3, 0] rfl h
set_option maxRecDepth 100000 in
set_option maxHeartbeats 4000000 in
theorem v_X8_digest_72 {G : CX} {x1 : Int64} {x3 : Int32} {x4 : Int32}  {I : HP} {Q : HP → Int64 → Prop} (h : (((6 : Int32) ≤ x4) → (GJ G Y_X8_digest 103 [(0, .ref 58), (1, .long x1), (3, .int x3), (4, .int (0 : Int32))] I Q)) ∧ ((¬ (6 : Int32) ≤ x4) → (RI G Y_X8_verseOf [.ref 58, .int x3, .int x4] I (fun I2 r3 => GJ G Y_X8_digest 72 [(0, .ref 58), (1, .long (((31 : Int64) * x1) + (r3.toInt64))), (3, .int x3), (4, .int (x4 + 1))] I2 Q)))) : GJ G Y_X8_digest 72 [(0, .ref 58), (1, .long x1), (3, .int x3), (4, .int x4)] I Q := by
  show Go G Y_X8_digest 72 [(0, .ref 58), (1, .long x1), (3, .int x3), (4, .int x4)] [] SH I 0 0 _
  refine go_iload dX8_digest_72 3 rfl ?_
  refine go_bipush dX8_digest_74 (v := (6 : Int32)) (by decide) ?_
  refine go_icmp_ge (tgt := 100) dX8_digest_76 (by decide) (fun c1 => ?_) (fun c1 => ?_)
  · have h := h.1 c1
    refine go_iconst dX8_digest_100 (v := (0 : Int32)) (by decide) ?_
    refine go_istore dX8_digest_101 (Nat.le_of_ble_eq_true rfl) (L2 := [(4, .int (0 : Int32)), (0, .ref 58), (1, .long x1), (3, .int x3)]) rfl ?_
    exact go_loc [(0, .ref 58), (1, .long x1), (3, .int x3), (4, .int (0 : Int32))] [1, 2, 3, 0] rfl h
  · have h := h.2 c1
    refine go_ldc2 dX8_digest_79 k_X8_286 ?_
    refine go_lload_n dX8_digest_82 rfl 1 rfl ?_
    refine go_lmul dX8_digest_83 ?_
    refine go_aload_n dX8_digest_84 rfl 0 rfl ?_
    refine go_iload_n dX8_digest_85 rfl 2 rfl ?_
    refine go_iload dX8_digest_86 3 rfl ?_
    refine go_vcall (Z := Y_X8_verseOf) (As := [.int x3, .int x4]) (S := [.long ((31 : Int64) * x1)]) dX8_digest_88 ok_X8_verseOf l_X8_168 (by decide) sh_58 (by decide) (Nat.le_of_ble_eq_true rfl) rfl rfl rfl (Nat.le_of_ble_eq_true rfl) h (fun _ I2 _ hq => ?_)
    obtain ⟨rfl, r3, rfl, h⟩ := hq
    show Go G Y_X8_digest 91 [(0, .ref 58), (1, .long x1), (3, .int x3), (4, .int x4)] [.int r3, .long ((31 : Int64) * x1)] SH I2 0 0 _
    refine go_i2l dX8_digest_91 ?_
    refine go_ladd dX8_digest_92 ?_
    refine go_lstore_n dX8_digest_93 rfl (Nat.le_of_ble_eq_true rfl) (L2 := [(1, .long (((31 : Int64) * x1) + (r3.toInt64))), (0, .ref 58), (3, .int x3), (4, .int x4)]) rfl ?_
    refine go_iinc dX8_digest_94 3 rfl (v := (x4 + 1)) rfl (Nat.le_of_ble_eq_true rfl) (L2 := [(4, .int (x4 + 1)), (1, .long (((31 : Int64) * x1) + (r3.toInt64))), (0, .ref 58), (3, .int x3)]) rfl ?_
    refine go_goto (tgt := 72) dX8_digest_97 (by decide) ?_
    exact go_loc [(0, .ref 58), (1, .long (((31 : Int64) * x1) + (r3.toInt64))), (3, .int x3), (4, .int (x4 + 1))] [2, 1, 3, 0] rfl h
set_option maxRecDepth 100000 in
set_option maxHeartbeats 4000000 in
theorem v_X8_digest_103 {G : CX} {x1 : Int64} {x3 : Int32} {x4 : Int32}  {I : HP} {Q : HP → Int64 → Prop} (h : (((5 : Int32) ≤ x4) → (RI G Y_X8_restOf [.ref 58, .int x3] I (fun I2 r3 => GJ G Y_X8_digest 59 [(0, .ref 58), (1, .long (((31 : Int64) * x1) + (r3.toInt64))), (3, .int (x3 + 1))] I2 Q))) ∧ ((¬ (5 : Int32) ≤ x4) → (RI G Y_X8_whenOf [.ref 58, .int x3, .int x4] I (fun I4 r5 => GJ G Y_X8_digest 103 [(0, .ref 58), (1, .long (((31 : Int64) * x1) + (r5.toInt64))), (3, .int x3), (4, .int (x4 + 1))] I4 Q)))) : GJ G Y_X8_digest 103 [(0, .ref 58), (1, .long x1), (3, .int x3), (4, .int x4)] I Q := by
  show Go G Y_X8_digest 103 [(0, .ref 58), (1, .long x1), (3, .int x3), (4, .int x4)] [] SH I 0 0 _
  refine go_iload dX8_digest_103 3 rfl ?_
  refine go_iconst dX8_digest_105 (v := (5 : Int32)) (by decide) ?_
  refine go_icmp_ge (tgt := 130) dX8_digest_106 (by decide) (fun c1 => ?_) (fun c1 => ?_)
  · have h := h.1 c1
    refine go_ldc2 dX8_digest_130 k_X8_286 ?_
    refine go_lload_n dX8_digest_133 rfl 1 rfl ?_
    refine go_lmul dX8_digest_134 ?_
    refine go_aload_n dX8_digest_135 rfl 0 rfl ?_
    refine go_iload_n dX8_digest_136 rfl 2 rfl ?_
    refine go_vcall (Z := Y_X8_restOf) (As := [.int x3]) (S := [.long ((31 : Int64) * x1)]) dX8_digest_137 ok_X8_restOf l_X8_189 (by decide) sh_58 (by decide) (Nat.le_of_ble_eq_true rfl) rfl rfl rfl (Nat.le_of_ble_eq_true rfl) h (fun _ I2 _ hq => ?_)
    obtain ⟨rfl, r3, rfl, h⟩ := hq
    show Go G Y_X8_digest 140 [(0, .ref 58), (1, .long x1), (3, .int x3), (4, .int x4)] [.int r3, .long ((31 : Int64) * x1)] SH I2 0 0 _
    refine go_i2l dX8_digest_140 ?_
    refine go_ladd dX8_digest_141 ?_
    refine go_lstore_n dX8_digest_142 rfl (Nat.le_of_ble_eq_true rfl) (L2 := [(1, .long (((31 : Int64) * x1) + (r3.toInt64))), (0, .ref 58), (3, .int x3), (4, .int x4)]) rfl ?_
    refine go_iinc dX8_digest_143 2 rfl (v := (x3 + 1)) rfl (Nat.le_of_ble_eq_true rfl) (L2 := [(3, .int (x3 + 1)), (1, .long (((31 : Int64) * x1) + (r3.toInt64))), (0, .ref 58), (4, .int x4)]) rfl ?_
    refine go_goto (tgt := 59) dX8_digest_146 (by decide) ?_
    exact go_loc [(0, .ref 58), (1, .long (((31 : Int64) * x1) + (r3.toInt64))), (3, .int (x3 + 1))] [2, 1, 0] rfl h
  · have h := h.2 c1
    refine go_ldc2 dX8_digest_109 k_X8_286 ?_
    refine go_lload_n dX8_digest_112 rfl 1 rfl ?_
    refine go_lmul dX8_digest_113 ?_
    refine go_aload_n dX8_digest_114 rfl 0 rfl ?_
    refine go_iload_n dX8_digest_115 rfl 2 rfl ?_
    refine go_iload dX8_digest_116 3 rfl ?_
    refine go_vcall (Z := Y_X8_whenOf) (As := [.int x3, .int x4]) (S := [.long ((31 : Int64) * x1)]) dX8_digest_118 ok_X8_whenOf l_X8_173 (by decide) sh_58 (by decide) (Nat.le_of_ble_eq_true rfl) rfl rfl rfl (Nat.le_of_ble_eq_true rfl) h (fun _ I4 _ hq => ?_)
    obtain ⟨rfl, r5, rfl, h⟩ := hq
    show Go G Y_X8_digest 121 [(0, .ref 58), (1, .long x1), (3, .int x3), (4, .int x4)] [.int r5, .long ((31 : Int64) * x1)] SH I4 0 0 _
    refine go_i2l dX8_digest_121 ?_
    refine go_ladd dX8_digest_122 ?_
    refine go_lstore_n dX8_digest_123 rfl (Nat.le_of_ble_eq_true rfl) (L2 := [(1, .long (((31 : Int64) * x1) + (r5.toInt64))), (0, .ref 58), (3, .int x3), (4, .int x4)]) rfl ?_
    refine go_iinc dX8_digest_124 3 rfl (v := (x4 + 1)) rfl (Nat.le_of_ble_eq_true rfl) (L2 := [(4, .int (x4 + 1)), (1, .long (((31 : Int64) * x1) + (r5.toInt64))), (0, .ref 58), (3, .int x3)]) rfl ?_
    refine go_goto (tgt := 103) dX8_digest_127 (by decide) ?_
    exact go_loc [(0, .ref 58), (1, .long (((31 : Int64) * x1) + (r5.toInt64))), (3, .int x3), (4, .int (x4 + 1))] [2, 1, 3, 0] rfl h
set_option maxRecDepth 100000 in
set_option maxHeartbeats 4000000 in
theorem v_X8_digest_151 {G : CX} {x1 : Int64} {x3 : Int32}  {I : HP} {Q : HP → Int64 → Prop} (h : (((4 : Int32) ≤ x3) → (RI G Y_X8_judgedNow [.ref 58] I (fun I2 r3 => GJ G Y_X8_digest 189 [(0, .ref 58), (1, .long (((31 : Int64) * x1) + (r3.toInt64))), (3, .int (0 : Int32))] I2 Q))) ∧ ((¬ (4 : Int32) ≤ x3) → (RI G Y_X8_poemOf [.ref 58, .int x3] I (fun I4 r5 => GJ G Y_X8_digest 151 [(0, .ref 58), (1, .long (((31 : Int64) * x1) + (r5.toInt64))), (3, .int (x3 + 1))] I4 Q)))) : GJ G Y_X8_digest 151 [(0, .ref 58), (1, .long x1), (3, .int x3)] I Q := by
  show Go G Y_X8_digest 151 [(0, .ref 58), (1, .long x1), (3, .int x3)] [] SH I 0 0 _
  refine go_iload_n dX8_digest_151 rfl 2 rfl ?_
  refine go_iconst dX8_digest_152 (v := (4 : Int32)) (by decide) ?_
  refine go_icmp_ge (tgt := 175) dX8_digest_153 (by decide) (fun c1 => ?_) (fun c1 => ?_)
  · have h := h.1 c1
    refine go_ldc2 dX8_digest_175 k_X8_286 ?_
    refine go_lload_n dX8_digest_178 rfl 1 rfl ?_
    refine go_lmul dX8_digest_179 ?_
    refine go_aload_n dX8_digest_180 rfl 0 rfl ?_
    refine go_vcall (Z := Y_X8_judgedNow) (As := []) (S := [.long ((31 : Int64) * x1)]) dX8_digest_181 ok_X8_judgedNow l_X8_179 (by decide) sh_58 (by decide) (Nat.le_of_ble_eq_true rfl) rfl rfl rfl (Nat.le_of_ble_eq_true rfl) h (fun _ I2 _ hq => ?_)
    obtain ⟨rfl, r3, rfl, h⟩ := hq
    show Go G Y_X8_digest 184 [(0, .ref 58), (1, .long x1), (3, .int x3)] [.int r3, .long ((31 : Int64) * x1)] SH I2 0 0 _
    refine go_i2l dX8_digest_184 ?_
    refine go_ladd dX8_digest_185 ?_
    refine go_lstore_n dX8_digest_186 rfl (Nat.le_of_ble_eq_true rfl) (L2 := [(1, .long (((31 : Int64) * x1) + (r3.toInt64))), (0, .ref 58), (3, .int x3)]) rfl ?_
    refine go_iconst dX8_digest_187 (v := (0 : Int32)) (by decide) ?_
    refine go_istore_n dX8_digest_188 rfl (Nat.le_of_ble_eq_true rfl) (L2 := [(3, .int (0 : Int32)), (1, .long (((31 : Int64) * x1) + (r3.toInt64))), (0, .ref 58)]) rfl ?_
    exact go_loc [(0, .ref 58), (1, .long (((31 : Int64) * x1) + (r3.toInt64))), (3, .int (0 : Int32))] [2, 1, 0] rfl h
  · have h := h.2 c1
    refine go_ldc2 dX8_digest_156 k_X8_286 ?_
    refine go_lload_n dX8_digest_159 rfl 1 rfl ?_
    refine go_lmul dX8_digest_160 ?_
    refine go_aload_n dX8_digest_161 rfl 0 rfl ?_
    refine go_iload_n dX8_digest_162 rfl 2 rfl ?_
    refine go_vcall (Z := Y_X8_poemOf) (As := [.int x3]) (S := [.long ((31 : Int64) * x1)]) dX8_digest_163 ok_X8_poemOf l_X8_176 (by decide) sh_58 (by decide) (Nat.le_of_ble_eq_true rfl) rfl rfl rfl (Nat.le_of_ble_eq_true rfl) h (fun _ I4 _ hq => ?_)
    obtain ⟨rfl, r5, rfl, h⟩ := hq
    show Go G Y_X8_digest 166 [(0, .ref 58), (1, .long x1), (3, .int x3)] [.int r5, .long ((31 : Int64) * x1)] SH I4 0 0 _
    refine go_i2l dX8_digest_166 ?_
    refine go_ladd dX8_digest_167 ?_
    refine go_lstore_n dX8_digest_168 rfl (Nat.le_of_ble_eq_true rfl) (L2 := [(1, .long (((31 : Int64) * x1) + (r5.toInt64))), (0, .ref 58), (3, .int x3)]) rfl ?_
    refine go_iinc dX8_digest_169 2 rfl (v := (x3 + 1)) rfl (Nat.le_of_ble_eq_true rfl) (L2 := [(3, .int (x3 + 1)), (1, .long (((31 : Int64) * x1) + (r5.toInt64))), (0, .ref 58)]) rfl ?_
    refine go_goto (tgt := 151) dX8_digest_172 (by decide) ?_
    exact go_loc [(0, .ref 58), (1, .long (((31 : Int64) * x1) + (r5.toInt64))), (3, .int (x3 + 1))] [2, 1, 0] rfl h
set_option maxRecDepth 100000 in
set_option maxHeartbeats 4000000 in
theorem v_X8_digest_189 {G : CX} {x1 : Int64} {x3 : Int32}  {I : HP} {Q : HP → Int64 → Prop} (h : (((10 : Int32) ≤ x3) → (RV G Y_X8_findPut [.ref 58] I (fun I2 => GJ G Y_X8_digest 237 [(0, .ref 58), (1, .long x1), (3, .int (0 : Int32))] I2 Q))) ∧ ((¬ (10 : Int32) ≤ x3) → (GJ G Y_X8_digest 198 [(0, .ref 58), (1, .long x1), (3, .int x3), (4, .int (0 : Int32))] I Q))) : GJ G Y_X8_digest 189 [(0, .ref 58), (1, .long x1), (3, .int x3)] I Q := by
  show Go G Y_X8_digest 189 [(0, .ref 58), (1, .long x1), (3, .int x3)] [] SH I 0 0 _
  refine go_iload_n dX8_digest_189 rfl 2 rfl ?_
  refine go_bipush dX8_digest_190 (v := (10 : Int32)) (by decide) ?_
  refine go_icmp_ge (tgt := 231) dX8_digest_192 (by decide) (fun c1 => ?_) (fun c1 => ?_)
  · have h := h.1 c1
    refine go_aload_n dX8_digest_231 rfl 0 rfl ?_
    refine go_vcall (Z := Y_X8_findPut) (As := []) (S := []) dX8_digest_232 ok_X8_findPut l_X8_214 (by decide) sh_58 (by decide) (Nat.le_of_ble_eq_true rfl) rfl rfl rfl (Nat.le_of_ble_eq_true rfl) h (fun _ I2 _ hq => ?_)
    obtain ⟨rfl, rfl, h⟩ := hq
    show Go G Y_X8_digest 235 [(0, .ref 58), (1, .long x1), (3, .int x3)] [] SH I2 0 0 _
    refine go_iconst dX8_digest_235 (v := (0 : Int32)) (by decide) ?_
    refine go_istore_n dX8_digest_236 rfl (Nat.le_of_ble_eq_true rfl) (L2 := [(3, .int (0 : Int32)), (0, .ref 58), (1, .long x1)]) rfl ?_
    exact go_loc [(0, .ref 58), (1, .long x1), (3, .int (0 : Int32))] [1, 2, 0] rfl h
  · have h := h.2 c1
    refine go_iconst dX8_digest_195 (v := (0 : Int32)) (by decide) ?_
    refine go_istore dX8_digest_196 (Nat.le_of_ble_eq_true rfl) (L2 := [(4, .int (0 : Int32)), (0, .ref 58), (1, .long x1), (3, .int x3)]) rfl ?_
    exact go_loc [(0, .ref 58), (1, .long x1), (3, .int x3), (4, .int (0 : Int32))] [1, 2, 3, 0] rfl h
set_option maxRecDepth 100000 in
set_option maxHeartbeats 4000000 in
theorem v_X8_digest_198 {G : CX} {x1 : Int64} {x3 : Int32} {x4 : Int32}  {I : HP} {Q : HP → Int64 → Prop} (h : (((3 : Int32) ≤ x4) → (GJ G Y_X8_digest 189 [(0, .ref 58), (1, .long x1), (3, .int (x3 + 1))] I Q)) ∧ ((¬ (3 : Int32) ≤ x4) → (RI G Y_X8_doingOf [.ref 58, .int x3, .int x4] I (fun I2 r3 => GJ G Y_X8_digest 198 [(0, .ref 58), (1, .long (((31 : Int64) * x1) + (r3.toInt64))), (3, .int x3), (4, .int (x4 + 1))] I2 Q)))) : GJ G Y_X8_digest 198 [(0, .ref 58), (1, .long x1), (3, .int x3), (4, .int x4)] I Q := by
  show Go G Y_X8_digest 198 [(0, .ref 58), (1, .long x1), (3, .int x3), (4, .int x4)] [] SH I 0 0 _
  refine go_iload dX8_digest_198 3 rfl ?_
  refine go_iconst dX8_digest_200 (v := (3 : Int32)) (by decide) ?_
  refine go_icmp_ge (tgt := 225) dX8_digest_201 (by decide) (fun c1 => ?_) (fun c1 => ?_)
  · have h := h.1 c1
    refine go_iinc dX8_digest_225 2 rfl (v := (x3 + 1)) rfl (Nat.le_of_ble_eq_true rfl) (L2 := [(3, .int (x3 + 1)), (0, .ref 58), (1, .long x1), (4, .int x4)]) rfl ?_
    refine go_goto (tgt := 189) dX8_digest_228 (by decide) ?_
    exact go_loc [(0, .ref 58), (1, .long x1), (3, .int (x3 + 1))] [1, 2, 0] rfl h
  · have h := h.2 c1
    refine go_ldc2 dX8_digest_204 k_X8_286 ?_
    refine go_lload_n dX8_digest_207 rfl 1 rfl ?_
    refine go_lmul dX8_digest_208 ?_
    refine go_aload_n dX8_digest_209 rfl 0 rfl ?_
    refine go_iload_n dX8_digest_210 rfl 2 rfl ?_
    refine go_iload dX8_digest_211 3 rfl ?_
    refine go_vcall (Z := Y_X8_doingOf) (As := [.int x3, .int x4]) (S := [.long ((31 : Int64) * x1)]) dX8_digest_213 ok_X8_doingOf l_X8_203 (by decide) sh_58 (by decide) (Nat.le_of_ble_eq_true rfl) rfl rfl rfl (Nat.le_of_ble_eq_true rfl) h (fun _ I2 _ hq => ?_)
    obtain ⟨rfl, r3, rfl, h⟩ := hq
    show Go G Y_X8_digest 216 [(0, .ref 58), (1, .long x1), (3, .int x3), (4, .int x4)] [.int r3, .long ((31 : Int64) * x1)] SH I2 0 0 _
    refine go_i2l dX8_digest_216 ?_
    refine go_ladd dX8_digest_217 ?_
    refine go_lstore_n dX8_digest_218 rfl (Nat.le_of_ble_eq_true rfl) (L2 := [(1, .long (((31 : Int64) * x1) + (r3.toInt64))), (0, .ref 58), (3, .int x3), (4, .int x4)]) rfl ?_
    refine go_iinc dX8_digest_219 3 rfl (v := (x4 + 1)) rfl (Nat.le_of_ble_eq_true rfl) (L2 := [(4, .int (x4 + 1)), (1, .long (((31 : Int64) * x1) + (r3.toInt64))), (0, .ref 58), (3, .int x3)]) rfl ?_
    refine go_goto (tgt := 198) dX8_digest_222 (by decide) ?_
    exact go_loc [(0, .ref 58), (1, .long (((31 : Int64) * x1) + (r3.toInt64))), (3, .int x3), (4, .int (x4 + 1))] [2, 1, 3, 0] rfl h
set_option maxRecDepth 100000 in
set_option maxHeartbeats 4000000 in
theorem v_X8_digest_237 {G : CX} {x1 : Int64} {x3 : Int32}  {I : HP} {Q : HP → Int64 → Prop} (h : (((6 : Int32) ≤ x3) → (RV G Y_X8_findOrder [.ref 58] I (fun I2 => GJ G Y_X8_digest 270 [(0, .ref 58), (1, .long x1), (3, .int (-2 : Int32))] I2 Q))) ∧ ((¬ (6 : Int32) ≤ x3) → ((vp_in x3 6) ∧ (∀ z4 : Int64, z4 = (((31 : Int64) * x1) + ((I 76 (nn x3)).toInt64)) → GJ G Y_X8_digest 237 [(0, .ref 58), (1, .long z4), (3, .int (x3 + 1))] I Q)))) : GJ G Y_X8_digest 237 [(0, .ref 58), (1, .long x1), (3, .int x3)] I Q := by
  show Go G Y_X8_digest 237 [(0, .ref 58), (1, .long x1), (3, .int x3)] [] SH I 0 0 _
  refine go_iload_n dX8_digest_237 rfl 2 rfl ?_
  refine go_bipush dX8_digest_238 (v := (6 : Int32)) (by decide) ?_
  refine go_icmp_ge (tgt := 263) dX8_digest_240 (by decide) (fun c1 => ?_) (fun c1 => ?_)
  · have h := h.1 c1
    refine go_aload_n dX8_digest_263 rfl 0 rfl ?_
    refine go_vcall (Z := Y_X8_findOrder) (As := []) (S := []) dX8_digest_264 ok_X8_findOrder l_X8_234 (by decide) sh_58 (by decide) (Nat.le_of_ble_eq_true rfl) rfl rfl rfl (Nat.le_of_ble_eq_true rfl) h (fun _ I2 _ hq => ?_)
    obtain ⟨rfl, rfl, h⟩ := hq
    show Go G Y_X8_digest 267 [(0, .ref 58), (1, .long x1), (3, .int x3)] [] SH I2 0 0 _
    refine go_bipush dX8_digest_267 (v := (-2 : Int32)) (by decide) ?_
    refine go_istore_n dX8_digest_269 rfl (Nat.le_of_ble_eq_true rfl) (L2 := [(3, .int (-2 : Int32)), (0, .ref 58), (1, .long x1)]) rfl ?_
    exact go_loc [(0, .ref 58), (1, .long x1), (3, .int (-2 : Int32))] [1, 2, 0] rfl h
  · have h := h.2 c1
    refine go_ldc2 dX8_digest_243 k_X8_286 ?_
    refine go_lload_n dX8_digest_246 rfl 1 rfl ?_
    refine go_lmul dX8_digest_247 ?_
    refine go_aload_n dX8_digest_248 rfl 0 rfl ?_
    refine go_getR dX8_digest_249 sh_58 (by decide) f_X8_61 ⟨Nat.le_of_ble_eq_true rfl, Nat.le_of_ble_eq_true rfl, rfl⟩ rfl ?_
    refine go_iload_n dX8_digest_252 rfl 2 rfl ?_
    have hb3 := h.1
    have h := h.2
    refine go_iald dX8_digest_253 sh_76 (by decide) hb3 rfl ?_
    refine go_i2l dX8_digest_254 ?_
    refine go_ladd dX8_digest_255 ?_
    refine go_topl (fun z4 ez4 => ?_)
    have h := h z4 ez4
    refine go_lstore_n dX8_digest_256 rfl (Nat.le_of_ble_eq_true rfl) (L2 := [(1, .long z4), (0, .ref 58), (3, .int x3)]) rfl ?_
    refine go_iinc dX8_digest_257 2 rfl (v := (x3 + 1)) rfl (Nat.le_of_ble_eq_true rfl) (L2 := [(3, .int (x3 + 1)), (1, .long z4), (0, .ref 58)]) rfl ?_
    refine go_goto (tgt := 237) dX8_digest_260 (by decide) ?_
    exact go_loc [(0, .ref 58), (1, .long z4), (3, .int (x3 + 1))] [2, 1, 0] rfl h
set_option maxRecDepth 100000 in
set_option maxHeartbeats 4000000 in
theorem v_X8_digest_270 {G : CX} {x1 : Int64} {x3 : Int32}  {I : HP} {Q : HP → Int64 → Prop} (h : (((3 : Int32) ≤ x3) → (RI G Y_X8_leadNow [.ref 58] I (fun I2 r3 => RV G Y_X8_find [.ref 58] I2 (fun I4 => GJ G Y_X8_digest 312 [(0, .ref 58), (1, .long (((31 : Int64) * x1) + (r3.toInt64))), (3, .int (0 : Int32))] I4 Q)))) ∧ ((¬ (3 : Int32) ≤ x3) → (RI G Y_X8_tellsOrder [.ref 58, .int x3] I (fun I5 r6 => GJ G Y_X8_digest 270 [(0, .ref 58), (1, .long (((31 : Int64) * x1) + (r6.toInt64))), (3, .int (x3 + 1))] I5 Q)))) : GJ G Y_X8_digest 270 [(0, .ref 58), (1, .long x1), (3, .int x3)] I Q := by
  show Go G Y_X8_digest 270 [(0, .ref 58), (1, .long x1), (3, .int x3)] [] SH I 0 0 _
  refine go_iload_n dX8_digest_270 rfl 2 rfl ?_
  refine go_iconst dX8_digest_271 (v := (3 : Int32)) (by decide) ?_
  refine go_icmp_ge (tgt := 294) dX8_digest_272 (by decide) (fun c1 => ?_) (fun c1 => ?_)
  · have h := h.1 c1
    refine go_ldc2 dX8_digest_294 k_X8_286 ?_
    refine go_lload_n dX8_digest_297 rfl 1 rfl ?_
    refine go_lmul dX8_digest_298 ?_
    refine go_aload_n dX8_digest_299 rfl 0 rfl ?_
    refine go_vcall (Z := Y_X8_leadNow) (As := []) (S := [.long ((31 : Int64) * x1)]) dX8_digest_300 ok_X8_leadNow l_X8_240 (by decide) sh_58 (by decide) (Nat.le_of_ble_eq_true rfl) rfl rfl rfl (Nat.le_of_ble_eq_true rfl) h (fun _ I2 _ hq => ?_)
    obtain ⟨rfl, r3, rfl, h⟩ := hq
    show Go G Y_X8_digest 303 [(0, .ref 58), (1, .long x1), (3, .int x3)] [.int r3, .long ((31 : Int64) * x1)] SH I2 0 0 _
    refine go_i2l dX8_digest_303 ?_
    refine go_ladd dX8_digest_304 ?_
    refine go_lstore_n dX8_digest_305 rfl (Nat.le_of_ble_eq_true rfl) (L2 := [(1, .long (((31 : Int64) * x1) + (r3.toInt64))), (0, .ref 58), (3, .int x3)]) rfl ?_
    refine go_aload_n dX8_digest_306 rfl 1 rfl ?_
    refine go_vcall (Z := Y_X8_find) (As := []) (S := []) dX8_digest_307 ok_X8_find l_X8_162 (by decide) sh_58 (by decide) (Nat.le_of_ble_eq_true rfl) rfl rfl rfl (Nat.le_of_ble_eq_true rfl) h (fun _ I4 _ hq => ?_)
    obtain ⟨rfl, rfl, h⟩ := hq
    show Go G Y_X8_digest 310 [(1, .long (((31 : Int64) * x1) + (r3.toInt64))), (0, .ref 58), (3, .int x3)] [] SH I4 0 0 _
    refine go_iconst dX8_digest_310 (v := (0 : Int32)) (by decide) ?_
    refine go_istore_n dX8_digest_311 rfl (Nat.le_of_ble_eq_true rfl) (L2 := [(3, .int (0 : Int32)), (1, .long (((31 : Int64) * x1) + (r3.toInt64))), (0, .ref 58)]) rfl ?_
    exact go_loc [(0, .ref 58), (1, .long (((31 : Int64) * x1) + (r3.toInt64))), (3, .int (0 : Int32))] [2, 1, 0] rfl h
  · have h := h.2 c1
    refine go_ldc2 dX8_digest_275 k_X8_286 ?_
    refine go_lload_n dX8_digest_278 rfl 1 rfl ?_
    refine go_lmul dX8_digest_279 ?_
    refine go_aload_n dX8_digest_280 rfl 0 rfl ?_
    refine go_iload_n dX8_digest_281 rfl 2 rfl ?_
    refine go_vcall (Z := Y_X8_tellsOrder) (As := [.int x3]) (S := [.long ((31 : Int64) * x1)]) dX8_digest_282 ok_X8_tellsOrder l_X8_237 (by decide) sh_58 (by decide) (Nat.le_of_ble_eq_true rfl) rfl rfl rfl (Nat.le_of_ble_eq_true rfl) h (fun _ I5 _ hq => ?_)
    obtain ⟨rfl, r6, rfl, h⟩ := hq
    show Go G Y_X8_digest 285 [(0, .ref 58), (1, .long x1), (3, .int x3)] [.int r6, .long ((31 : Int64) * x1)] SH I5 0 0 _
    refine go_i2l dX8_digest_285 ?_
    refine go_ladd dX8_digest_286 ?_
    refine go_lstore_n dX8_digest_287 rfl (Nat.le_of_ble_eq_true rfl) (L2 := [(1, .long (((31 : Int64) * x1) + (r6.toInt64))), (0, .ref 58), (3, .int x3)]) rfl ?_
    refine go_iinc dX8_digest_288 2 rfl (v := (x3 + 1)) rfl (Nat.le_of_ble_eq_true rfl) (L2 := [(3, .int (x3 + 1)), (1, .long (((31 : Int64) * x1) + (r6.toInt64))), (0, .ref 58)]) rfl ?_
    refine go_goto (tgt := 270) dX8_digest_291 (by decide) ?_
    exact go_loc [(0, .ref 58), (1, .long (((31 : Int64) * x1) + (r6.toInt64))), (3, .int (x3 + 1))] [2, 1, 0] rfl h
set_option maxRecDepth 100000 in
set_option maxHeartbeats 4000000 in
theorem v_X8_digest_312 {G : CX} {x1 : Int64} {x3 : Int32}  {I : HP} {Q : HP → Int64 → Prop} (h : (((4 : Int32) ≤ x3) → (RI G Y_X8_drawnOf [.ref 58, .int (7 : Int32)] I (fun I2 r3 => GJ G Y_X8_digest 351 [(0, .ref 58), (1, .long (((31 : Int64) * x1) + (r3.toInt64))), (3, .int (0 : Int32))] I2 Q))) ∧ ((¬ (4 : Int32) ≤ x3) → (RJ G Y_X8_oddsOf [.ref 58, .int x3] I (fun I4 r5 => GJ G Y_X8_digest 312 [(0, .ref 58), (1, .long (((31 : Int64) * x1) + r5)), (3, .int (x3 + 1))] I4 Q)))) : GJ G Y_X8_digest 312 [(0, .ref 58), (1, .long x1), (3, .int x3)] I Q := by
  show Go G Y_X8_digest 312 [(0, .ref 58), (1, .long x1), (3, .int x3)] [] SH I 0 0 _
  refine go_iload_n dX8_digest_312 rfl 2 rfl ?_
  refine go_iconst dX8_digest_313 (v := (4 : Int32)) (by decide) ?_
  refine go_icmp_ge (tgt := 335) dX8_digest_314 (by decide) (fun c1 => ?_) (fun c1 => ?_)
  · have h := h.1 c1
    refine go_ldc2 dX8_digest_335 k_X8_286 ?_
    refine go_lload_n dX8_digest_338 rfl 1 rfl ?_
    refine go_lmul dX8_digest_339 ?_
    refine go_aload_n dX8_digest_340 rfl 0 rfl ?_
    refine go_bipush dX8_digest_341 (v := (7 : Int32)) (by decide) ?_
    refine go_vcall (Z := Y_X8_drawnOf) (As := [.int (7 : Int32)]) (S := [.long ((31 : Int64) * x1)]) dX8_digest_343 ok_X8_drawnOf l_X8_257 (by decide) sh_58 (by decide) (Nat.le_of_ble_eq_true rfl) rfl rfl rfl (Nat.le_of_ble_eq_true rfl) h (fun _ I2 _ hq => ?_)
    obtain ⟨rfl, r3, rfl, h⟩ := hq
    show Go G Y_X8_digest 346 [(0, .ref 58), (1, .long x1), (3, .int x3)] [.int r3, .long ((31 : Int64) * x1)] SH I2 0 0 _
    refine go_i2l dX8_digest_346 ?_
    refine go_ladd dX8_digest_347 ?_
    refine go_lstore_n dX8_digest_348 rfl (Nat.le_of_ble_eq_true rfl) (L2 := [(1, .long (((31 : Int64) * x1) + (r3.toInt64))), (0, .ref 58), (3, .int x3)]) rfl ?_
    refine go_iconst dX8_digest_349 (v := (0 : Int32)) (by decide) ?_
    refine go_istore_n dX8_digest_350 rfl (Nat.le_of_ble_eq_true rfl) (L2 := [(3, .int (0 : Int32)), (1, .long (((31 : Int64) * x1) + (r3.toInt64))), (0, .ref 58)]) rfl ?_
    exact go_loc [(0, .ref 58), (1, .long (((31 : Int64) * x1) + (r3.toInt64))), (3, .int (0 : Int32))] [2, 1, 0] rfl h
  · have h := h.2 c1
    refine go_ldc2 dX8_digest_317 k_X8_286 ?_
    refine go_lload_n dX8_digest_320 rfl 1 rfl ?_
    refine go_lmul dX8_digest_321 ?_
    refine go_aload_n dX8_digest_322 rfl 0 rfl ?_
    refine go_iload_n dX8_digest_323 rfl 2 rfl ?_
    refine go_vcall (Z := Y_X8_oddsOf) (As := [.int x3]) (S := [.long ((31 : Int64) * x1)]) dX8_digest_324 ok_X8_oddsOf l_X8_249 (by decide) sh_58 (by decide) (Nat.le_of_ble_eq_true rfl) rfl rfl rfl (Nat.le_of_ble_eq_true rfl) h (fun _ I4 _ hq => ?_)
    obtain ⟨rfl, r5, rfl, h⟩ := hq
    show Go G Y_X8_digest 327 [(0, .ref 58), (1, .long x1), (3, .int x3)] [.long r5, .long ((31 : Int64) * x1)] SH I4 0 0 _
    refine go_ladd dX8_digest_327 ?_
    refine go_lstore_n dX8_digest_328 rfl (Nat.le_of_ble_eq_true rfl) (L2 := [(1, .long (((31 : Int64) * x1) + r5)), (0, .ref 58), (3, .int x3)]) rfl ?_
    refine go_iinc dX8_digest_329 2 rfl (v := (x3 + 1)) rfl (Nat.le_of_ble_eq_true rfl) (L2 := [(3, .int (x3 + 1)), (1, .long (((31 : Int64) * x1) + r5)), (0, .ref 58)]) rfl ?_
    refine go_goto (tgt := 312) dX8_digest_332 (by decide) ?_
    exact go_loc [(0, .ref 58), (1, .long (((31 : Int64) * x1) + r5)), (3, .int (x3 + 1))] [2, 1, 0] rfl h
set_option maxRecDepth 100000 in
set_option maxHeartbeats 4000000 in
theorem v_X8_digest_351 {G : CX} {x1 : Int64} {x3 : Int32}  {I : HP} {Q : HP → Int64 → Prop} (h : (((2 : Int32) ≤ x3) → (GJ G Y_X8_digest 378 [(0, .ref 58), (1, .long x1), (3, .int (0 : Int32))] I Q)) ∧ ((¬ (2 : Int32) ≤ x3) → (RI G Y_X8_lineOf [.ref 58, .int (-1 : Int32), .int x3] I (fun I2 r3 => GJ G Y_X8_digest 351 [(0, .ref 58), (1, .long (((31 : Int64) * x1) + (r3.toInt64))), (3, .int (x3 + 1))] I2 Q)))) : GJ G Y_X8_digest 351 [(0, .ref 58), (1, .long x1), (3, .int x3)] I Q := by
  show Go G Y_X8_digest 351 [(0, .ref 58), (1, .long x1), (3, .int x3)] [] SH I 0 0 _
  refine go_iload_n dX8_digest_351 rfl 2 rfl ?_
  refine go_iconst dX8_digest_352 (v := (2 : Int32)) (by decide) ?_
  refine go_icmp_ge (tgt := 376) dX8_digest_353 (by decide) (fun c1 => ?_) (fun c1 => ?_)
  · have h := h.1 c1
    refine go_iconst dX8_digest_376 (v := (0 : Int32)) (by decide) ?_
    refine go_istore_n dX8_digest_377 rfl (Nat.le_of_ble_eq_true rfl) (L2 := [(3, .int (0 : Int32)), (0, .ref 58), (1, .long x1)]) rfl ?_
    exact go_loc [(0, .ref 58), (1, .long x1), (3, .int (0 : Int32))] [1, 2, 0] rfl h
  · have h := h.2 c1
    refine go_ldc2 dX8_digest_356 k_X8_286 ?_
    refine go_lload_n dX8_digest_359 rfl 1 rfl ?_
    refine go_lmul dX8_digest_360 ?_
    refine go_aload_n dX8_digest_361 rfl 0 rfl ?_
    refine go_iconst dX8_digest_362 (v := (-1 : Int32)) (by decide) ?_
    refine go_iload_n dX8_digest_363 rfl 2 rfl ?_
    refine go_vcall (Z := Y_X8_lineOf) (As := [.int (-1 : Int32), .int x3]) (S := [.long ((31 : Int64) * x1)]) dX8_digest_364 ok_X8_lineOf l_X8_271 (by decide) sh_58 (by decide) (Nat.le_of_ble_eq_true rfl) rfl rfl rfl (Nat.le_of_ble_eq_true rfl) h (fun _ I2 _ hq => ?_)
    obtain ⟨rfl, r3, rfl, h⟩ := hq
    show Go G Y_X8_digest 367 [(0, .ref 58), (1, .long x1), (3, .int x3)] [.int r3, .long ((31 : Int64) * x1)] SH I2 0 0 _
    refine go_i2l dX8_digest_367 ?_
    refine go_ladd dX8_digest_368 ?_
    refine go_lstore_n dX8_digest_369 rfl (Nat.le_of_ble_eq_true rfl) (L2 := [(1, .long (((31 : Int64) * x1) + (r3.toInt64))), (0, .ref 58), (3, .int x3)]) rfl ?_
    refine go_iinc dX8_digest_370 2 rfl (v := (x3 + 1)) rfl (Nat.le_of_ble_eq_true rfl) (L2 := [(3, .int (x3 + 1)), (1, .long (((31 : Int64) * x1) + (r3.toInt64))), (0, .ref 58)]) rfl ?_
    refine go_goto (tgt := 351) dX8_digest_373 (by decide) ?_
    exact go_loc [(0, .ref 58), (1, .long (((31 : Int64) * x1) + (r3.toInt64))), (3, .int (x3 + 1))] [2, 1, 0] rfl h
set_option maxRecDepth 100000 in
set_option maxHeartbeats 4000000 in
theorem v_X8_digest_378 {G : CX} {x1 : Int64} {x3 : Int32}  {I : HP} {Q : HP → Int64 → Prop} (h : (((2 : Int32) ≤ x3) → (RI G Y_X8_leadsNow [.ref 58] I (fun I2 r3 => Q I2 (((31 : Int64) * x1) + (r3.toInt64))))) ∧ ((¬ (2 : Int32) ≤ x3) → (RI G Y_X8_lineOf [.ref 58, .int (5 : Int32), .int x3] I (fun I4 r5 => GJ G Y_X8_digest 378 [(0, .ref 58), (1, .long (((31 : Int64) * x1) + (r5.toInt64))), (3, .int (x3 + 1))] I4 Q)))) : GJ G Y_X8_digest 378 [(0, .ref 58), (1, .long x1), (3, .int x3)] I Q := by
  show Go G Y_X8_digest 378 [(0, .ref 58), (1, .long x1), (3, .int x3)] [] SH I 0 0 _
  refine go_iload_n dX8_digest_378 rfl 2 rfl ?_
  refine go_iconst dX8_digest_379 (v := (2 : Int32)) (by decide) ?_
  refine go_icmp_ge (tgt := 403) dX8_digest_380 (by decide) (fun c1 => ?_) (fun c1 => ?_)
  · have h := h.1 c1
    refine go_ldc2 dX8_digest_403 k_X8_286 ?_
    refine go_lload_n dX8_digest_406 rfl 1 rfl ?_
    refine go_lmul dX8_digest_407 ?_
    refine go_aload_n dX8_digest_408 rfl 0 rfl ?_
    refine go_vcall (Z := Y_X8_leadsNow) (As := []) (S := [.long ((31 : Int64) * x1)]) dX8_digest_409 ok_X8_leadsNow l_X8_281 (by decide) sh_58 (by decide) (Nat.le_of_ble_eq_true rfl) rfl rfl rfl (Nat.le_of_ble_eq_true rfl) h (fun _ I2 _ hq => ?_)
    obtain ⟨rfl, r3, rfl, h⟩ := hq
    show Go G Y_X8_digest 412 [(0, .ref 58), (1, .long x1), (3, .int x3)] [.int r3, .long ((31 : Int64) * x1)] SH I2 0 0 _
    refine go_i2l dX8_digest_412 ?_
    refine go_ladd dX8_digest_413 ?_
    exact go_lret dX8_digest_414 rfl rfl (by decide) ⟨rfl, _, rfl, h⟩
  · have h := h.2 c1
    refine go_ldc2 dX8_digest_383 k_X8_286 ?_
    refine go_lload_n dX8_digest_386 rfl 1 rfl ?_
    refine go_lmul dX8_digest_387 ?_
    refine go_aload_n dX8_digest_388 rfl 0 rfl ?_
    refine go_iconst dX8_digest_389 (v := (5 : Int32)) (by decide) ?_
    refine go_iload_n dX8_digest_390 rfl 2 rfl ?_
    refine go_vcall (Z := Y_X8_lineOf) (As := [.int (5 : Int32), .int x3]) (S := [.long ((31 : Int64) * x1)]) dX8_digest_391 ok_X8_lineOf l_X8_271 (by decide) sh_58 (by decide) (Nat.le_of_ble_eq_true rfl) rfl rfl rfl (Nat.le_of_ble_eq_true rfl) h (fun _ I4 _ hq => ?_)
    obtain ⟨rfl, r5, rfl, h⟩ := hq
    show Go G Y_X8_digest 394 [(0, .ref 58), (1, .long x1), (3, .int x3)] [.int r5, .long ((31 : Int64) * x1)] SH I4 0 0 _
    refine go_i2l dX8_digest_394 ?_
    refine go_ladd dX8_digest_395 ?_
    refine go_lstore_n dX8_digest_396 rfl (Nat.le_of_ble_eq_true rfl) (L2 := [(1, .long (((31 : Int64) * x1) + (r5.toInt64))), (0, .ref 58), (3, .int x3)]) rfl ?_
    refine go_iinc dX8_digest_397 2 rfl (v := (x3 + 1)) rfl (Nat.le_of_ble_eq_true rfl) (L2 := [(3, .int (x3 + 1)), (1, .long (((31 : Int64) * x1) + (r5.toInt64))), (0, .ref 58)]) rfl ?_
    refine go_goto (tgt := 378) dX8_digest_400 (by decide) ?_
    exact go_loc [(0, .ref 58), (1, .long (((31 : Int64) * x1) + (r5.toInt64))), (3, .int (x3 + 1))] [2, 1, 0] rfl h
def GL (G : CX) (Y : YY) (pc : Nat) (L : List (Nat × Value)) (I : HP) (Q : HP → Bool → Prop) : Prop := Go G Y pc L [] SH I 79 1561 (pZ Q)
set_option maxRecDepth 100000 in
set_option maxHeartbeats 4000000 in
theorem v_L_law_18 {G : CX} {x3 : Int32} {I : HP} {Q : HP → Bool → Prop} (h : ((((nI (gL G)) - (6 : Int32)) < x3) → (Q I true)) ∧ ((¬ ((nI (gL G)) - (6 : Int32)) < x3) → ((vp_in x3 (gL G)) ∧ (((((gXs G (nn x3)) &&& (31 : Int32)) = (0 : Int32)) → ((vp_in (x3 + (1 : Int32)) (gL G)) ∧ ((vp_in (x3 + (2 : Int32)) (gL G)) ∧ (RI G Y_X7_type [.ref 0, .int (gXs G (nn (x3 + (1 : Int32)))), .int (gXs G (nn (x3 + (2 : Int32))))] I (fun I6 r7 => RI G Y_X8_type [.ref 58, .int (gXs G (nn (x3 + (1 : Int32)))), .int (gXs G (nn (x3 + (2 : Int32))))] I6 (fun I8 r9 => ((r7 = r9) → (GL G Y_L_law 18 [(0, .ref 1000), (1, .ref 0), (2, .ref 58), (3, .int (x3 + 6))] I8 Q)) ∧ ((¬ r7 = r9) → (Q I8 false)))))))) ∧ ((((gXs G (nn x3)) &&& (31 : Int32)) = (1 : Int32)) → ((vp_in (x3 + (1 : Int32)) (gL G)) ∧ (RI G Y_X7_wipe [.ref 0, .int (gXs G (nn (x3 + (1 : Int32))))] I (fun I12 r13 => RI G Y_X8_wipe [.ref 58, .int (gXs G (nn (x3 + (1 : Int32))))] I12 (fun I14 r15 => ((r13 = r15) → (GL G Y_L_law 18 [(0, .ref 1000), (1, .ref 0), (2, .ref 58), (3, .int (x3 + 6))] I14 Q)) ∧ ((¬ r13 = r15) → (Q I14 false))))))) ∧ ((((gXs G (nn x3)) &&& (31 : Int32)) = (2 : Int32)) → ((vp_in (x3 + (1 : Int32)) (gL G)) ∧ (RI G Y_X7_undo [.ref 0, .int (gXs G (nn (x3 + (1 : Int32))))] I (fun I18 r19 => RI G Y_X8_undo [.ref 58, .int (gXs G (nn (x3 + (1 : Int32))))] I18 (fun I20 r21 => ((r19 = r21) → (GL G Y_L_law 18 [(0, .ref 1000), (1, .ref 0), (2, .ref 58), (3, .int (x3 + 6))] I20 Q)) ∧ ((¬ r19 = r21) → (Q I20 false))))))) ∧ ((((gXs G (nn x3)) &&& (31 : Int32)) = (3 : Int32)) → ((vp_in (x3 + (1 : Int32)) (gL G)) ∧ (RI G Y_X7_fault [.ref 0, .int (gXs G (nn (x3 + (1 : Int32))))] I (fun I24 r25 => RI G Y_X8_fault [.ref 58, .int (gXs G (nn (x3 + (1 : Int32))))] I24 (fun I26 r27 => ((r25 = r27) → (GL G Y_L_law 18 [(0, .ref 1000), (1, .ref 0), (2, .ref 58), (3, .int (x3 + 6))] I26 Q)) ∧ ((¬ r25 = r27) → (Q I26 false))))))) ∧ ((((gXs G (nn x3)) &&& (31 : Int32)) = (4 : Int32)) → ((vp_in (x3 + (1 : Int32)) (gL G)) ∧ ((vp_in (x3 + (2 : Int32)) (gL G)) ∧ (RI G Y_X7_set [.ref 0, .int (gXs G (nn (x3 + (1 : Int32)))), .int (gXs G (nn (x3 + (2 : Int32))))] I (fun I31 r32 => RI G Y_X8_set [.ref 58, .int (gXs G (nn (x3 + (1 : Int32)))), .int (gXs G (nn (x3 + (2 : Int32))))] I31 (fun I33 r34 => ((r32 = r34) → (GL G Y_L_law 18 [(0, .ref 1000), (1, .ref 0), (2, .ref 58), (3, .int (x3 + 6))] I33 Q)) ∧ ((¬ r32 = r34) → (Q I33 false)))))))) ∧ ((((gXs G (nn x3)) &&& (31 : Int32)) = (5 : Int32)) → ((vp_in (x3 + (1 : Int32)) (gL G)) ∧ ((vp_in (x3 + (2 : Int32)) (gL G)) ∧ (RI G Y_X7_verse [.ref 0, .int (gXs G (nn (x3 + (1 : Int32)))), .int (gXs G (nn (x3 + (2 : Int32))))] I (fun I38 r39 => RI G Y_X8_verse [.ref 58, .int (gXs G (nn (x3 + (1 : Int32)))), .int (gXs G (nn (x3 + (2 : Int32))))] I38 (fun I40 r41 => ((r39 = r41) → (GL G Y_L_law 18 [(0, .ref 1000), (1, .ref 0), (2, .ref 58), (3, .int (x3 + 6))] I40 Q)) ∧ ((¬ r39 = r41) → (Q I40 false)))))))) ∧ ((((gXs G (nn x3)) &&& (31 : Int32)) = (6 : Int32)) → ((vp_in (x3 + (1 : Int32)) (gL G)) ∧ ((vp_in (x3 + (2 : Int32)) (gL G)) ∧ (RI G Y_X7_when [.ref 0, .int (gXs G (nn (x3 + (1 : Int32)))), .int (gXs G (nn (x3 + (2 : Int32))))] I (fun I45 r46 => RI G Y_X8_when [.ref 58, .int (gXs G (nn (x3 + (1 : Int32)))), .int (gXs G (nn (x3 + (2 : Int32))))] I45 (fun I47 r48 => ((r46 = r48) → (GL G Y_L_law 18 [(0, .ref 1000), (1, .ref 0), (2, .ref 58), (3, .int (x3 + 6))] I47 Q)) ∧ ((¬ r46 = r48) → (Q I47 false)))))))) ∧ ((((gXs G (nn x3)) &&& (31 : Int32)) = (7 : Int32)) → ((vp_in (x3 + (1 : Int32)) (gL G)) ∧ (RI G Y_X7_poem [.ref 0, .int (gXs G (nn (x3 + (1 : Int32))))] I (fun I51 r52 => RI G Y_X8_poem [.ref 58, .int (gXs G (nn (x3 + (1 : Int32))))] I51 (fun I53 r54 => ((r52 = r54) → (GL G Y_L_law 18 [(0, .ref 1000), (1, .ref 0), (2, .ref 58), (3, .int (x3 + 6))] I53 Q)) ∧ ((¬ r52 = r54) → (Q I53 false))))))) ∧ ((((gXs G (nn x3)) &&& (31 : Int32)) = (8 : Int32)) → (RI G Y_X7_judged [.ref 0] I (fun I56 r57 => RI G Y_X8_judged [.ref 58] I56 (fun I58 r59 => ((r57 = r59) → (GL G Y_L_law 18 [(0, .ref 1000), (1, .ref 0), (2, .ref 58), (3, .int (x3 + 6))] I58 Q)) ∧ ((¬ r57 = r59) → (Q I58 false)))))) ∧ ((((gXs G (nn x3)) &&& (31 : Int32)) = (9 : Int32)) → ((vp_in (x3 + (1 : Int32)) (gL G)) ∧ (RI G Y_X7_rest [.ref 0, .int (gXs G (nn (x3 + (1 : Int32))))] I (fun I62 r63 => RI G Y_X8_rest [.ref 58, .int (gXs G (nn (x3 + (1 : Int32))))] I62 (fun I64 r65 => ((r63 = r65) → (GL G Y_L_law 18 [(0, .ref 1000), (1, .ref 0), (2, .ref 58), (3, .int (x3 + 6))] I64 Q)) ∧ ((¬ r63 = r65) → (Q I64 false))))))) ∧ ((((gXs G (nn x3)) &&& (31 : Int32)) = (10 : Int32)) → ((vp_in (x3 + (1 : Int32)) (gL G)) ∧ ((vp_in (x3 + (2 : Int32)) (gL G)) ∧ (RI G Y_X7_doing [.ref 0, .int (gXs G (nn (x3 + (1 : Int32)))), .int (gXs G (nn (x3 + (2 : Int32))))] I (fun I69 r70 => RI G Y_X8_doing [.ref 58, .int (gXs G (nn (x3 + (1 : Int32)))), .int (gXs G (nn (x3 + (2 : Int32))))] I69 (fun I71 r72 => ((r70 = r72) → (GL G Y_L_law 18 [(0, .ref 1000), (1, .ref 0), (2, .ref 58), (3, .int (x3 + 6))] I71 Q)) ∧ ((¬ r70 = r72) → (Q I71 false)))))))) ∧ ((((gXs G (nn x3)) &&& (31 : Int32)) = (11 : Int32)) → ((vp_in (x3 + (1 : Int32)) (gL G)) ∧ (RI G Y_X7_put [.ref 0, .int (gXs G (nn (x3 + (1 : Int32))))] I (fun I75 r76 => RI G Y_X8_put [.ref 58, .int (gXs G (nn (x3 + (1 : Int32))))] I75 (fun I77 r78 => ((r76 = r78) → (GL G Y_L_law 18 [(0, .ref 1000), (1, .ref 0), (2, .ref 58), (3, .int (x3 + 6))] I77 Q)) ∧ ((¬ r76 = r78) → (Q I77 false))))))) ∧ ((((gXs G (nn x3)) &&& (31 : Int32)) = (12 : Int32)) → ((vp_in (x3 + (1 : Int32)) (gL G)) ∧ (RI G Y_X7_order [.ref 0, .int (gXs G (nn (x3 + (1 : Int32))))] I (fun I81 r82 => RI G Y_X8_order [.ref 58, .int (gXs G (nn (x3 + (1 : Int32))))] I81 (fun I83 r84 => ((r82 = r84) → (GL G Y_L_law 18 [(0, .ref 1000), (1, .ref 0), (2, .ref 58), (3, .int (x3 + 6))] I83 Q)) ∧ ((¬ r82 = r84) → (Q I83 false))))))) ∧ ((((gXs G (nn x3)) &&& (31 : Int32)) = (13 : Int32)) → (RI G Y_X7_lead [.ref 0] I (fun I86 r87 => RI G Y_X8_lead [.ref 58] I86 (fun I88 r89 => ((r87 = r89) → (GL G Y_L_law 18 [(0, .ref 1000), (1, .ref 0), (2, .ref 58), (3, .int (x3 + 6))] I88 Q)) ∧ ((¬ r87 = r89) → (Q I88 false)))))) ∧ ((((gXs G (nn x3)) &&& (31 : Int32)) = (14 : Int32)) → ((vp_in (x3 + (1 : Int32)) (gL G)) ∧ (RJ G Y_X7_odds [.ref 0, .int (gXs G (nn (x3 + (1 : Int32))))] I (fun I92 r93 => RJ G Y_X8_odds [.ref 58, .int (gXs G (nn (x3 + (1 : Int32))))] I92 (fun I94 r95 => (((lg_cmp r93 r95) = 0) → (GL G Y_L_law 18 [(0, .ref 1000), (1, .ref 0), (2, .ref 58), (3, .int (x3 + 6))] I94 Q)) ∧ ((¬ (lg_cmp r93 r95) = 0) → (Q I94 false))))))) ∧ ((((gXs G (nn x3)) &&& (31 : Int32)) = (15 : Int32)) → ((vp_in (x3 + (1 : Int32)) (gL G)) ∧ (RI G Y_X7_drawn [.ref 0, .int (gXs G (nn (x3 + (1 : Int32))))] I (fun I98 r99 => RI G Y_X8_drawn [.ref 58, .int (gXs G (nn (x3 + (1 : Int32))))] I98 (fun I100 r101 => ((r99 = r101) → (GL G Y_L_law 18 [(0, .ref 1000), (1, .ref 0), (2, .ref 58), (3, .int (x3 + 6))] I100 Q)) ∧ ((¬ r99 = r101) → (Q I100 false))))))) ∧ ((((gXs G (nn x3)) &&& (31 : Int32)) = (16 : Int32)) → ((vp_in (x3 + (1 : Int32)) (gL G)) ∧ ((vp_in (x3 + (2 : Int32)) (gL G)) ∧ (RI G Y_X7_line [.ref 0, .int (gXs G (nn (x3 + (1 : Int32)))), .int (gXs G (nn (x3 + (2 : Int32))))] I (fun I105 r106 => RI G Y_X8_line [.ref 58, .int (gXs G (nn (x3 + (1 : Int32)))), .int (gXs G (nn (x3 + (2 : Int32))))] I105 (fun I107 r108 => ((r106 = r108) → (GL G Y_L_law 18 [(0, .ref 1000), (1, .ref 0), (2, .ref 58), (3, .int (x3 + 6))] I107 Q)) ∧ ((¬ r106 = r108) → (Q I107 false)))))))) ∧ ((((gXs G (nn x3)) &&& (31 : Int32)) = (17 : Int32)) → ((vp_in (x3 + (1 : Int32)) (gL G)) ∧ ((vp_in (x3 + (2 : Int32)) (gL G)) ∧ (RI G Y_X7_seen [.ref 0, .int (gXs G (nn (x3 + (1 : Int32)))), .int (gXs G (nn (x3 + (2 : Int32))))] I (fun I112 r113 => RI G Y_X8_seen [.ref 58, .int (gXs G (nn (x3 + (1 : Int32)))), .int (gXs G (nn (x3 + (2 : Int32))))] I112 (fun I114 r115 => ((r113 = r115) → (GL G Y_L_law 18 [(0, .ref 1000), (1, .ref 0), (2, .ref 58), (3, .int (x3 + 6))] I114 Q)) ∧ ((¬ r113 = r115) → (Q I114 false)))))))) ∧ ((((gXs G (nn x3)) &&& (31 : Int32)) = (18 : Int32)) → (RI G Y_X7_forget [.ref 0] I (fun I117 r118 => RI G Y_X8_forget [.ref 58] I117 (fun I119 r120 => ((r118 = r120) → (GL G Y_L_law 18 [(0, .ref 1000), (1, .ref 0), (2, .ref 58), (3, .int (x3 + 6))] I119 Q)) ∧ ((¬ r118 = r120) → (Q I119 false)))))) ∧ ((((gXs G (nn x3)) &&& (31 : Int32)) = (19 : Int32)) → (RI G Y_X7_leads [.ref 0] I (fun I122 r123 => RI G Y_X8_leads [.ref 58] I122 (fun I124 r125 => ((r123 = r125) → (GL G Y_L_law 18 [(0, .ref 1000), (1, .ref 0), (2, .ref 58), (3, .int (x3 + 6))] I124 Q)) ∧ ((¬ r123 = r125) → (Q I124 false)))))) ∧ ((((gXs G (nn x3)) &&& (31 : Int32)) = (20 : Int32)) → ((vp_in (x3 + (1 : Int32)) (gL G)) ∧ (RI G Y_X7_read [.ref 0, .int (gXs G (nn (x3 + (1 : Int32))))] I (fun I128 r129 => RI G Y_X8_read [.ref 58, .int (gXs G (nn (x3 + (1 : Int32))))] I128 (fun I130 r131 => ((r129 = r131) → (GL G Y_L_law 18 [(0, .ref 1000), (1, .ref 0), (2, .ref 58), (3, .int (x3 + 6))] I130 Q)) ∧ ((¬ r129 = r131) → (Q I130 false))))))) ∧ ((((gXs G (nn x3)) &&& (31 : Int32)) = (21 : Int32)) → ((vp_in (x3 + (1 : Int32)) (gL G)) ∧ ((vp_in (x3 + (2 : Int32)) (gL G)) ∧ ((vp_in (x3 + (3 : Int32)) (gL G)) ∧ (RI G Y_X7_sheet [.ref 0, .int (gXs G (nn (x3 + (1 : Int32)))), .int (gXs G (nn (x3 + (2 : Int32)))), .int (gXs G (nn (x3 + (3 : Int32))))] I (fun I136 r137 => RI G Y_X8_sheet [.ref 58, .int (gXs G (nn (x3 + (1 : Int32)))), .int (gXs G (nn (x3 + (2 : Int32)))), .int (gXs G (nn (x3 + (3 : Int32))))] I136 (fun I138 r139 => ((r137 = r139) → (GL G Y_L_law 18 [(0, .ref 1000), (1, .ref 0), (2, .ref 58), (3, .int (x3 + 6))] I138 Q)) ∧ ((¬ r137 = r139) → (Q I138 false))))))))) ∧ ((((gXs G (nn x3)) &&& (31 : Int32)) = (22 : Int32)) → ((vp_in (x3 + (1 : Int32)) (gL G)) ∧ (RI G Y_X7_lose [.ref 0, .int (gXs G (nn (x3 + (1 : Int32))))] I (fun I142 r143 => RI G Y_X8_lose [.ref 58, .int (gXs G (nn (x3 + (1 : Int32))))] I142 (fun I144 r145 => ((r143 = r145) → (GL G Y_L_law 18 [(0, .ref 1000), (1, .ref 0), (2, .ref 58), (3, .int (x3 + 6))] I144 Q)) ∧ ((¬ r143 = r145) → (Q I144 false))))))) ∧ ((((gXs G (nn x3)) &&& (31 : Int32)) = (23 : Int32)) → ((vp_in (x3 + (1 : Int32)) (gL G)) ∧ ((vp_in (x3 + (2 : Int32)) (gL G)) ∧ ((vp_in (x3 + (3 : Int32)) (gL G)) ∧ ((vp_in (x3 + (4 : Int32)) (gL G)) ∧ (RI G Y_X7_lay [.ref 0, .int (gXs G (nn (x3 + (1 : Int32)))), .int (gXs G (nn (x3 + (2 : Int32)))), .int (gXs G (nn (x3 + (3 : Int32)))), .int (gXs G (nn (x3 + (4 : Int32))))] I (fun I151 r152 => RI G Y_X8_lay [.ref 58, .int (gXs G (nn (x3 + (1 : Int32)))), .int (gXs G (nn (x3 + (2 : Int32)))), .int (gXs G (nn (x3 + (3 : Int32)))), .int (gXs G (nn (x3 + (4 : Int32))))] I151 (fun I153 r154 => ((r152 = r154) → (GL G Y_L_law 18 [(0, .ref 1000), (1, .ref 0), (2, .ref 58), (3, .int (x3 + 6))] I153 Q)) ∧ ((¬ r152 = r154) → (Q I153 false)))))))))) ∧ ((((gXs G (nn x3)) &&& (31 : Int32)) = (24 : Int32)) → ((vp_in (x3 + (1 : Int32)) (gL G)) ∧ ((vp_in (x3 + (2 : Int32)) (gL G)) ∧ ((vp_in (x3 + (3 : Int32)) (gL G)) ∧ (RI G Y_X7_get [.ref 0, .int (gXs G (nn (x3 + (1 : Int32)))), .int (gXs G (nn (x3 + (2 : Int32)))), .int (gXs G (nn (x3 + (3 : Int32))))] I (fun I159 r160 => RI G Y_X8_get [.ref 58, .int (gXs G (nn (x3 + (1 : Int32)))), .int (gXs G (nn (x3 + (2 : Int32)))), .int (gXs G (nn (x3 + (3 : Int32))))] I159 (fun I161 r162 => ((r160 = r162) → (GL G Y_L_law 18 [(0, .ref 1000), (1, .ref 0), (2, .ref 58), (3, .int (x3 + 6))] I161 Q)) ∧ ((¬ r160 = r162) → (Q I161 false))))))))) ∧ ((((gXs G (nn x3)) &&& (31 : Int32)) = (25 : Int32)) → ((vp_in (x3 + (1 : Int32)) (gL G)) ∧ ((vp_in (x3 + (2 : Int32)) (gL G)) ∧ ((vp_in (x3 + (3 : Int32)) (gL G)) ∧ ((vp_in (x3 + (4 : Int32)) (gL G)) ∧ ((vp_in (x3 + (5 : Int32)) (gL G)) ∧ (RI G Y_X7_copy [.ref 0, .int (gXs G (nn (x3 + (1 : Int32)))), .int (gXs G (nn (x3 + (2 : Int32)))), .int (gXs G (nn (x3 + (3 : Int32)))), .int (gXs G (nn (x3 + (4 : Int32)))), .int (gXs G (nn (x3 + (5 : Int32))))] I (fun I169 r170 => RI G Y_X8_copy [.ref 58, .int (gXs G (nn (x3 + (1 : Int32)))), .int (gXs G (nn (x3 + (2 : Int32)))), .int (gXs G (nn (x3 + (3 : Int32)))), .int (gXs G (nn (x3 + (4 : Int32)))), .int (gXs G (nn (x3 + (5 : Int32))))] I169 (fun I171 r172 => ((r170 = r172) → (GL G Y_L_law 18 [(0, .ref 1000), (1, .ref 0), (2, .ref 58), (3, .int (x3 + 6))] I171 Q)) ∧ ((¬ r170 = r172) → (Q I171 false))))))))))) ∧ ((((gXs G (nn x3)) &&& (31 : Int32)) = (26 : Int32)) → ((vp_in (x3 + (1 : Int32)) (gL G)) ∧ (RI G Y_X7_write [.ref 0, .int (gXs G (nn (x3 + (1 : Int32))))] I (fun I175 r176 => RI G Y_X8_write [.ref 58, .int (gXs G (nn (x3 + (1 : Int32))))] I175 (fun I177 r178 => ((r176 = r178) → (GL G Y_L_law 18 [(0, .ref 1000), (1, .ref 0), (2, .ref 58), (3, .int (x3 + 6))] I177 Q)) ∧ ((¬ r176 = r178) → (Q I177 false))))))) ∧ ((((gXs G (nn x3)) &&& (31 : Int32)) = (27 : Int32)) → ((vp_in (x3 + (1 : Int32)) (gL G)) ∧ (RI G Y_X7_count [.ref 0, .int (gXs G (nn (x3 + (1 : Int32))))] I (fun I181 r182 => RI G Y_X8_count [.ref 58, .int (gXs G (nn (x3 + (1 : Int32))))] I181 (fun I183 r184 => ((r182 = r184) → (GL G Y_L_law 18 [(0, .ref 1000), (1, .ref 0), (2, .ref 58), (3, .int (x3 + 6))] I183 Q)) ∧ ((¬ r182 = r184) → (Q I183 false))))))) ∧ ((((gXs G (nn x3)) &&& (31 : Int32)) = (28 : Int32)) → (RJ G Y_X7_digest [.ref 0] I (fun I186 r187 => RJ G Y_X8_digest [.ref 58] I186 (fun I188 r189 => (((lg_cmp r187 r189) = 0) → (GL G Y_L_law 18 [(0, .ref 1000), (1, .ref 0), (2, .ref 58), (3, .int (x3 + 6))] I188 Q)) ∧ ((¬ (lg_cmp r187 r189) = 0) → (Q I188 false)))))) ∧ ((∀ j : Nat, j < 29 → ((gXs G (nn x3)) &&& (31 : Int32)) ≠ nI j) → (GL G Y_L_law 18 [(0, .ref 1000), (1, .ref 0), (2, .ref 58), (3, .int (x3 + 6))] I Q)))))) : GL G Y_L_law 18 [(0, .ref 1000), (1, .ref 0), (2, .ref 58), (3, .int x3)] I Q := by
  show Go G Y_L_law 18 [(0, .ref 1000), (1, .ref 0), (2, .ref 58), (3, .int x3)] [] SH I 79 1561 _
  refine go_iload_n dL_law_18 rfl 3 rfl ?_
  refine go_aload_n dL_law_19 rfl 0 rfl ?_
  refine go_slen dL_law_20 (v := (nI (gL G))) rfl ?_
  refine go_bipush dL_law_21 (v := (6 : Int32)) (by decide) ?_
  refine go_isub dL_law_23 ?_
  refine go_icmp_gt (tgt := 969) dL_law_24 (by decide) (fun c1 => ?_) (fun c1 => ?_)
  · have h := h.1 c1
    refine go_iconst dL_law_969 (v := (1 : Int32)) (by decide) ?_
    exact go_zret dL_law_970 rfl rfl rfl (by decide) ⟨rfl, true, rfl, h⟩
  · have h := h.2 c1
    refine go_aload_n dL_law_27 rfl 0 rfl ?_
    refine go_iload_n dL_law_28 rfl 3 rfl ?_
    have hb2 := h.1
    have h := h.2
    refine go_sald dL_law_29 hb2 ?_
    refine go_bipush dL_law_30 (v := (31 : Int32)) (by decide) ?_
    refine go_iand dL_law_32 ?_
    by_cases c3 : ((gXs G (nn x3)) &&& (31 : Int32)) = (0 : Int32)
    · have h := h.1 c3
      refine go_tIn (tgt := 164) dL_law_33 (by rw [c3]; decide) (by rw [c3]; decide) (by rw [c3] <;> rfl) (by decide) ?_
      refine go_aload_n dL_law_164 rfl 1 rfl ?_
      refine go_aload_n dL_law_165 rfl 0 rfl ?_
      refine go_iload_n dL_law_166 rfl 3 rfl ?_
      refine go_iconst dL_law_167 (v := (1 : Int32)) (by decide) ?_
      refine go_iadd dL_law_168 ?_
      have hb4 := h.1
      have h := h.2
      refine go_sald dL_law_169 hb4 ?_
      refine go_aload_n dL_law_170 rfl 0 rfl ?_
      refine go_iload_n dL_law_171 rfl 3 rfl ?_
      refine go_iconst dL_law_172 (v := (2 : Int32)) (by decide) ?_
      refine go_iadd dL_law_173 ?_
      have hb5 := h.1
      have h := h.2
      refine go_sald dL_law_174 hb5 ?_
      refine go_vcall (Z := Y_X7_type) (As := [.int (gXs G (nn (x3 + (1 : Int32)))), .int (gXs G (nn (x3 + (2 : Int32))))]) (S := []) dL_law_175 ok_X7_type l_L_13 (by decide) sh_0 (by decide) (Nat.le_of_ble_eq_true rfl) rfl rfl rfl (Nat.le_of_ble_eq_true rfl) h (fun _ I6 _ hq => ?_)
      obtain ⟨rfl, r7, rfl, h⟩ := hq
      show Go G Y_L_law 178 [(0, .ref 1000), (1, .ref 0), (2, .ref 58), (3, .int x3)] [.int r7] SH I6 79 1561 _
      refine go_aload_n dL_law_178 rfl 2 rfl ?_
      refine go_aload_n dL_law_179 rfl 0 rfl ?_
      refine go_iload_n dL_law_180 rfl 3 rfl ?_
      refine go_iconst dL_law_181 (v := (1 : Int32)) (by decide) ?_
      refine go_iadd dL_law_182 ?_
      refine go_sald dL_law_183 hb4 ?_
      refine go_aload_n dL_law_184 rfl 0 rfl ?_
      refine go_iload_n dL_law_185 rfl 3 rfl ?_
      refine go_iconst dL_law_186 (v := (2 : Int32)) (by decide) ?_
      refine go_iadd dL_law_187 ?_
      refine go_sald dL_law_188 hb5 ?_
      refine go_vcall (Z := Y_X8_type) (As := [.int (gXs G (nn (x3 + (1 : Int32)))), .int (gXs G (nn (x3 + (2 : Int32))))]) (S := [.int r7]) dL_law_189 ok_X8_type l_L_17 (by decide) sh_58 (by decide) (Nat.le_of_ble_eq_true rfl) rfl rfl rfl (Nat.le_of_ble_eq_true rfl) h (fun _ I8 _ hq => ?_)
      obtain ⟨rfl, r9, rfl, h⟩ := hq
      show Go G Y_L_law 192 [(0, .ref 1000), (1, .ref 0), (2, .ref 58), (3, .int x3)] [.int r9, .int r7] SH I8 79 1561 _
      refine go_icmp_eq (tgt := 963) dL_law_192 (by decide) (fun c10 => ?_) (fun c10 => ?_)
      · have h := h.1 c10
        refine go_iinc dL_law_963 3 rfl (v := (x3 + 6)) rfl (Nat.le_of_ble_eq_true rfl) (L2 := [(3, .int (x3 + 6)), (0, .ref 1000), (1, .ref 0), (2, .ref 58)]) rfl ?_
        refine go_goto (tgt := 18) dL_law_966 (by decide) ?_
        exact go_loc [(0, .ref 1000), (1, .ref 0), (2, .ref 58), (3, .int (x3 + 6))] [1, 2, 3, 0] rfl h
      · have h := h.2 c10
        refine go_iconst dL_law_195 (v := (0 : Int32)) (by decide) ?_
        exact go_zret dL_law_196 rfl rfl rfl (by decide) ⟨rfl, false, rfl, h⟩
    have h := h.2
    have c3_0 : ((gXs G (nn x3)) &&& (31 : Int32)) ≠ nI 0 := c3
    clear c3
    by_cases c3 : ((gXs G (nn x3)) &&& (31 : Int32)) = (1 : Int32)
    · have h := h.1 c3
      refine go_tIn (tgt := 197) dL_law_33 (by rw [c3]; decide) (by rw [c3]; decide) (by rw [c3] <;> rfl) (by decide) ?_
      refine go_aload_n dL_law_197 rfl 1 rfl ?_
      refine go_aload_n dL_law_198 rfl 0 rfl ?_
      refine go_iload_n dL_law_199 rfl 3 rfl ?_
      refine go_iconst dL_law_200 (v := (1 : Int32)) (by decide) ?_
      refine go_iadd dL_law_201 ?_
      have hb11 := h.1
      have h := h.2
      refine go_sald dL_law_202 hb11 ?_
      refine go_vcall (Z := Y_X7_wipe) (As := [.int (gXs G (nn (x3 + (1 : Int32))))]) (S := []) dL_law_203 ok_X7_wipe l_L_18 (by decide) sh_0 (by decide) (Nat.le_of_ble_eq_true rfl) rfl rfl rfl (Nat.le_of_ble_eq_true rfl) h (fun _ I12 _ hq => ?_)
      obtain ⟨rfl, r13, rfl, h⟩ := hq
      show Go G Y_L_law 206 [(0, .ref 1000), (1, .ref 0), (2, .ref 58), (3, .int x3)] [.int r13] SH I12 79 1561 _
      refine go_aload_n dL_law_206 rfl 2 rfl ?_
      refine go_aload_n dL_law_207 rfl 0 rfl ?_
      refine go_iload_n dL_law_208 rfl 3 rfl ?_
      refine go_iconst dL_law_209 (v := (1 : Int32)) (by decide) ?_
      refine go_iadd dL_law_210 ?_
      refine go_sald dL_law_211 hb11 ?_
      refine go_vcall (Z := Y_X8_wipe) (As := [.int (gXs G (nn (x3 + (1 : Int32))))]) (S := [.int r13]) dL_law_212 ok_X8_wipe l_L_22 (by decide) sh_58 (by decide) (Nat.le_of_ble_eq_true rfl) rfl rfl rfl (Nat.le_of_ble_eq_true rfl) h (fun _ I14 _ hq => ?_)
      obtain ⟨rfl, r15, rfl, h⟩ := hq
      show Go G Y_L_law 215 [(0, .ref 1000), (1, .ref 0), (2, .ref 58), (3, .int x3)] [.int r15, .int r13] SH I14 79 1561 _
      refine go_icmp_eq (tgt := 963) dL_law_215 (by decide) (fun c16 => ?_) (fun c16 => ?_)
      · have h := h.1 c16
        refine go_iinc dL_law_963 3 rfl (v := (x3 + 6)) rfl (Nat.le_of_ble_eq_true rfl) (L2 := [(3, .int (x3 + 6)), (0, .ref 1000), (1, .ref 0), (2, .ref 58)]) rfl ?_
        refine go_goto (tgt := 18) dL_law_966 (by decide) ?_
        exact go_loc [(0, .ref 1000), (1, .ref 0), (2, .ref 58), (3, .int (x3 + 6))] [1, 2, 3, 0] rfl h
      · have h := h.2 c16
        refine go_iconst dL_law_218 (v := (0 : Int32)) (by decide) ?_
        exact go_zret dL_law_219 rfl rfl rfl (by decide) ⟨rfl, false, rfl, h⟩
    have h := h.2
    have c3_1 : ((gXs G (nn x3)) &&& (31 : Int32)) ≠ nI 1 := c3
    clear c3
    by_cases c3 : ((gXs G (nn x3)) &&& (31 : Int32)) = (2 : Int32)
    · have h := h.1 c3
      refine go_tIn (tgt := 220) dL_law_33 (by rw [c3]; decide) (by rw [c3]; decide) (by rw [c3] <;> rfl) (by decide) ?_
      refine go_aload_n dL_law_220 rfl 1 rfl ?_
      refine go_aload_n dL_law_221 rfl 0 rfl ?_
      refine go_iload_n dL_law_222 rfl 3 rfl ?_
      refine go_iconst dL_law_223 (v := (1 : Int32)) (by decide) ?_
      refine go_iadd dL_law_224 ?_
      have hb17 := h.1
      have h := h.2
      refine go_sald dL_law_225 hb17 ?_
      refine go_vcall (Z := Y_X7_undo) (As := [.int (gXs G (nn (x3 + (1 : Int32))))]) (S := []) dL_law_226 ok_X7_undo l_L_23 (by decide) sh_0 (by decide) (Nat.le_of_ble_eq_true rfl) rfl rfl rfl (Nat.le_of_ble_eq_true rfl) h (fun _ I18 _ hq => ?_)
      obtain ⟨rfl, r19, rfl, h⟩ := hq
      show Go G Y_L_law 229 [(0, .ref 1000), (1, .ref 0), (2, .ref 58), (3, .int x3)] [.int r19] SH I18 79 1561 _
      refine go_aload_n dL_law_229 rfl 2 rfl ?_
      refine go_aload_n dL_law_230 rfl 0 rfl ?_
      refine go_iload_n dL_law_231 rfl 3 rfl ?_
      refine go_iconst dL_law_232 (v := (1 : Int32)) (by decide) ?_
      refine go_iadd dL_law_233 ?_
      refine go_sald dL_law_234 hb17 ?_
      refine go_vcall (Z := Y_X8_undo) (As := [.int (gXs G (nn (x3 + (1 : Int32))))]) (S := [.int r19]) dL_law_235 ok_X8_undo l_L_26 (by decide) sh_58 (by decide) (Nat.le_of_ble_eq_true rfl) rfl rfl rfl (Nat.le_of_ble_eq_true rfl) h (fun _ I20 _ hq => ?_)
      obtain ⟨rfl, r21, rfl, h⟩ := hq
      show Go G Y_L_law 238 [(0, .ref 1000), (1, .ref 0), (2, .ref 58), (3, .int x3)] [.int r21, .int r19] SH I20 79 1561 _
      refine go_icmp_eq (tgt := 963) dL_law_238 (by decide) (fun c22 => ?_) (fun c22 => ?_)
      · have h := h.1 c22
        refine go_iinc dL_law_963 3 rfl (v := (x3 + 6)) rfl (Nat.le_of_ble_eq_true rfl) (L2 := [(3, .int (x3 + 6)), (0, .ref 1000), (1, .ref 0), (2, .ref 58)]) rfl ?_
        refine go_goto (tgt := 18) dL_law_966 (by decide) ?_
        exact go_loc [(0, .ref 1000), (1, .ref 0), (2, .ref 58), (3, .int (x3 + 6))] [1, 2, 3, 0] rfl h
      · have h := h.2 c22
        refine go_iconst dL_law_241 (v := (0 : Int32)) (by decide) ?_
        exact go_zret dL_law_242 rfl rfl rfl (by decide) ⟨rfl, false, rfl, h⟩
    have h := h.2
    have c3_2 : ((gXs G (nn x3)) &&& (31 : Int32)) ≠ nI 2 := c3
    clear c3
    by_cases c3 : ((gXs G (nn x3)) &&& (31 : Int32)) = (3 : Int32)
    · have h := h.1 c3
      refine go_tIn (tgt := 243) dL_law_33 (by rw [c3]; decide) (by rw [c3]; decide) (by rw [c3] <;> rfl) (by decide) ?_
      refine go_aload_n dL_law_243 rfl 1 rfl ?_
      refine go_aload_n dL_law_244 rfl 0 rfl ?_
      refine go_iload_n dL_law_245 rfl 3 rfl ?_
      refine go_iconst dL_law_246 (v := (1 : Int32)) (by decide) ?_
      refine go_iadd dL_law_247 ?_
      have hb23 := h.1
      have h := h.2
      refine go_sald dL_law_248 hb23 ?_
      refine go_vcall (Z := Y_X7_fault) (As := [.int (gXs G (nn (x3 + (1 : Int32))))]) (S := []) dL_law_249 ok_X7_fault l_L_27 (by decide) sh_0 (by decide) (Nat.le_of_ble_eq_true rfl) rfl rfl rfl (Nat.le_of_ble_eq_true rfl) h (fun _ I24 _ hq => ?_)
      obtain ⟨rfl, r25, rfl, h⟩ := hq
      show Go G Y_L_law 252 [(0, .ref 1000), (1, .ref 0), (2, .ref 58), (3, .int x3)] [.int r25] SH I24 79 1561 _
      refine go_aload_n dL_law_252 rfl 2 rfl ?_
      refine go_aload_n dL_law_253 rfl 0 rfl ?_
      refine go_iload_n dL_law_254 rfl 3 rfl ?_
      refine go_iconst dL_law_255 (v := (1 : Int32)) (by decide) ?_
      refine go_iadd dL_law_256 ?_
      refine go_sald dL_law_257 hb23 ?_
      refine go_vcall (Z := Y_X8_fault) (As := [.int (gXs G (nn (x3 + (1 : Int32))))]) (S := [.int r25]) dL_law_258 ok_X8_fault l_L_30 (by decide) sh_58 (by decide) (Nat.le_of_ble_eq_true rfl) rfl rfl rfl (Nat.le_of_ble_eq_true rfl) h (fun _ I26 _ hq => ?_)
      obtain ⟨rfl, r27, rfl, h⟩ := hq
      show Go G Y_L_law 261 [(0, .ref 1000), (1, .ref 0), (2, .ref 58), (3, .int x3)] [.int r27, .int r25] SH I26 79 1561 _
      refine go_icmp_eq (tgt := 963) dL_law_261 (by decide) (fun c28 => ?_) (fun c28 => ?_)
      · have h := h.1 c28
        refine go_iinc dL_law_963 3 rfl (v := (x3 + 6)) rfl (Nat.le_of_ble_eq_true rfl) (L2 := [(3, .int (x3 + 6)), (0, .ref 1000), (1, .ref 0), (2, .ref 58)]) rfl ?_
        refine go_goto (tgt := 18) dL_law_966 (by decide) ?_
        exact go_loc [(0, .ref 1000), (1, .ref 0), (2, .ref 58), (3, .int (x3 + 6))] [1, 2, 3, 0] rfl h
      · have h := h.2 c28
        refine go_iconst dL_law_264 (v := (0 : Int32)) (by decide) ?_
        exact go_zret dL_law_265 rfl rfl rfl (by decide) ⟨rfl, false, rfl, h⟩
    have h := h.2
    have c3_3 : ((gXs G (nn x3)) &&& (31 : Int32)) ≠ nI 3 := c3
    clear c3
    by_cases c3 : ((gXs G (nn x3)) &&& (31 : Int32)) = (4 : Int32)
    · have h := h.1 c3
      refine go_tIn (tgt := 266) dL_law_33 (by rw [c3]; decide) (by rw [c3]; decide) (by rw [c3] <;> rfl) (by decide) ?_
      refine go_aload_n dL_law_266 rfl 1 rfl ?_
      refine go_aload_n dL_law_267 rfl 0 rfl ?_
      refine go_iload_n dL_law_268 rfl 3 rfl ?_
      refine go_iconst dL_law_269 (v := (1 : Int32)) (by decide) ?_
      refine go_iadd dL_law_270 ?_
      have hb29 := h.1
      have h := h.2
      refine go_sald dL_law_271 hb29 ?_
      refine go_aload_n dL_law_272 rfl 0 rfl ?_
      refine go_iload_n dL_law_273 rfl 3 rfl ?_
      refine go_iconst dL_law_274 (v := (2 : Int32)) (by decide) ?_
      refine go_iadd dL_law_275 ?_
      have hb30 := h.1
      have h := h.2
      refine go_sald dL_law_276 hb30 ?_
      refine go_vcall (Z := Y_X7_set) (As := [.int (gXs G (nn (x3 + (1 : Int32)))), .int (gXs G (nn (x3 + (2 : Int32))))]) (S := []) dL_law_277 ok_X7_set l_L_31 (by decide) sh_0 (by decide) (Nat.le_of_ble_eq_true rfl) rfl rfl rfl (Nat.le_of_ble_eq_true rfl) h (fun _ I31 _ hq => ?_)
      obtain ⟨rfl, r32, rfl, h⟩ := hq
      show Go G Y_L_law 280 [(0, .ref 1000), (1, .ref 0), (2, .ref 58), (3, .int x3)] [.int r32] SH I31 79 1561 _
      refine go_aload_n dL_law_280 rfl 2 rfl ?_
      refine go_aload_n dL_law_281 rfl 0 rfl ?_
      refine go_iload_n dL_law_282 rfl 3 rfl ?_
      refine go_iconst dL_law_283 (v := (1 : Int32)) (by decide) ?_
      refine go_iadd dL_law_284 ?_
      refine go_sald dL_law_285 hb29 ?_
      refine go_aload_n dL_law_286 rfl 0 rfl ?_
      refine go_iload_n dL_law_287 rfl 3 rfl ?_
      refine go_iconst dL_law_288 (v := (2 : Int32)) (by decide) ?_
      refine go_iadd dL_law_289 ?_
      refine go_sald dL_law_290 hb30 ?_
      refine go_vcall (Z := Y_X8_set) (As := [.int (gXs G (nn (x3 + (1 : Int32)))), .int (gXs G (nn (x3 + (2 : Int32))))]) (S := [.int r32]) dL_law_291 ok_X8_set l_L_34 (by decide) sh_58 (by decide) (Nat.le_of_ble_eq_true rfl) rfl rfl rfl (Nat.le_of_ble_eq_true rfl) h (fun _ I33 _ hq => ?_)
      obtain ⟨rfl, r34, rfl, h⟩ := hq
      show Go G Y_L_law 294 [(0, .ref 1000), (1, .ref 0), (2, .ref 58), (3, .int x3)] [.int r34, .int r32] SH I33 79 1561 _
      refine go_icmp_eq (tgt := 963) dL_law_294 (by decide) (fun c35 => ?_) (fun c35 => ?_)
      · have h := h.1 c35
        refine go_iinc dL_law_963 3 rfl (v := (x3 + 6)) rfl (Nat.le_of_ble_eq_true rfl) (L2 := [(3, .int (x3 + 6)), (0, .ref 1000), (1, .ref 0), (2, .ref 58)]) rfl ?_
        refine go_goto (tgt := 18) dL_law_966 (by decide) ?_
        exact go_loc [(0, .ref 1000), (1, .ref 0), (2, .ref 58), (3, .int (x3 + 6))] [1, 2, 3, 0] rfl h
      · have h := h.2 c35
        refine go_iconst dL_law_297 (v := (0 : Int32)) (by decide) ?_
        exact go_zret dL_law_298 rfl rfl rfl (by decide) ⟨rfl, false, rfl, h⟩
    have h := h.2
    have c3_4 : ((gXs G (nn x3)) &&& (31 : Int32)) ≠ nI 4 := c3
    clear c3
    by_cases c3 : ((gXs G (nn x3)) &&& (31 : Int32)) = (5 : Int32)
    · have h := h.1 c3
      refine go_tIn (tgt := 299) dL_law_33 (by rw [c3]; decide) (by rw [c3]; decide) (by rw [c3] <;> rfl) (by decide) ?_
      refine go_aload_n dL_law_299 rfl 1 rfl ?_
      refine go_aload_n dL_law_300 rfl 0 rfl ?_
      refine go_iload_n dL_law_301 rfl 3 rfl ?_
      refine go_iconst dL_law_302 (v := (1 : Int32)) (by decide) ?_
      refine go_iadd dL_law_303 ?_
      have hb36 := h.1
      have h := h.2
      refine go_sald dL_law_304 hb36 ?_
      refine go_aload_n dL_law_305 rfl 0 rfl ?_
      refine go_iload_n dL_law_306 rfl 3 rfl ?_
      refine go_iconst dL_law_307 (v := (2 : Int32)) (by decide) ?_
      refine go_iadd dL_law_308 ?_
      have hb37 := h.1
      have h := h.2
      refine go_sald dL_law_309 hb37 ?_
      refine go_vcall (Z := Y_X7_verse) (As := [.int (gXs G (nn (x3 + (1 : Int32)))), .int (gXs G (nn (x3 + (2 : Int32))))]) (S := []) dL_law_310 ok_X7_verse l_L_35 (by decide) sh_0 (by decide) (Nat.le_of_ble_eq_true rfl) rfl rfl rfl (Nat.le_of_ble_eq_true rfl) h (fun _ I38 _ hq => ?_)
      obtain ⟨rfl, r39, rfl, h⟩ := hq
      show Go G Y_L_law 313 [(0, .ref 1000), (1, .ref 0), (2, .ref 58), (3, .int x3)] [.int r39] SH I38 79 1561 _
      refine go_aload_n dL_law_313 rfl 2 rfl ?_
      refine go_aload_n dL_law_314 rfl 0 rfl ?_
      refine go_iload_n dL_law_315 rfl 3 rfl ?_
      refine go_iconst dL_law_316 (v := (1 : Int32)) (by decide) ?_
      refine go_iadd dL_law_317 ?_
      refine go_sald dL_law_318 hb36 ?_
      refine go_aload_n dL_law_319 rfl 0 rfl ?_
      refine go_iload_n dL_law_320 rfl 3 rfl ?_
      refine go_iconst dL_law_321 (v := (2 : Int32)) (by decide) ?_
      refine go_iadd dL_law_322 ?_
      refine go_sald dL_law_323 hb37 ?_
      refine go_vcall (Z := Y_X8_verse) (As := [.int (gXs G (nn (x3 + (1 : Int32)))), .int (gXs G (nn (x3 + (2 : Int32))))]) (S := [.int r39]) dL_law_324 ok_X8_verse l_L_38 (by decide) sh_58 (by decide) (Nat.le_of_ble_eq_true rfl) rfl rfl rfl (Nat.le_of_ble_eq_true rfl) h (fun _ I40 _ hq => ?_)
      obtain ⟨rfl, r41, rfl, h⟩ := hq
      show Go G Y_L_law 327 [(0, .ref 1000), (1, .ref 0), (2, .ref 58), (3, .int x3)] [.int r41, .int r39] SH I40 79 1561 _
      refine go_icmp_eq (tgt := 963) dL_law_327 (by decide) (fun c42 => ?_) (fun c42 => ?_)
      · have h := h.1 c42
        refine go_iinc dL_law_963 3 rfl (v := (x3 + 6)) rfl (Nat.le_of_ble_eq_true rfl) (L2 := [(3, .int (x3 + 6)), (0, .ref 1000), (1, .ref 0), (2, .ref 58)]) rfl ?_
        refine go_goto (tgt := 18) dL_law_966 (by decide) ?_
        exact go_loc [(0, .ref 1000), (1, .ref 0), (2, .ref 58), (3, .int (x3 + 6))] [1, 2, 3, 0] rfl h
      · have h := h.2 c42
        refine go_iconst dL_law_330 (v := (0 : Int32)) (by decide) ?_
        exact go_zret dL_law_331 rfl rfl rfl (by decide) ⟨rfl, false, rfl, h⟩
    have h := h.2
    have c3_5 : ((gXs G (nn x3)) &&& (31 : Int32)) ≠ nI 5 := c3
    clear c3
    by_cases c3 : ((gXs G (nn x3)) &&& (31 : Int32)) = (6 : Int32)
    · have h := h.1 c3
      refine go_tIn (tgt := 332) dL_law_33 (by rw [c3]; decide) (by rw [c3]; decide) (by rw [c3] <;> rfl) (by decide) ?_
      refine go_aload_n dL_law_332 rfl 1 rfl ?_
      refine go_aload_n dL_law_333 rfl 0 rfl ?_
      refine go_iload_n dL_law_334 rfl 3 rfl ?_
      refine go_iconst dL_law_335 (v := (1 : Int32)) (by decide) ?_
      refine go_iadd dL_law_336 ?_
      have hb43 := h.1
      have h := h.2
      refine go_sald dL_law_337 hb43 ?_
      refine go_aload_n dL_law_338 rfl 0 rfl ?_
      refine go_iload_n dL_law_339 rfl 3 rfl ?_
      refine go_iconst dL_law_340 (v := (2 : Int32)) (by decide) ?_
      refine go_iadd dL_law_341 ?_
      have hb44 := h.1
      have h := h.2
      refine go_sald dL_law_342 hb44 ?_
      refine go_vcall (Z := Y_X7_when) (As := [.int (gXs G (nn (x3 + (1 : Int32)))), .int (gXs G (nn (x3 + (2 : Int32))))]) (S := []) dL_law_343 ok_X7_when l_L_39 (by decide) sh_0 (by decide) (Nat.le_of_ble_eq_true rfl) rfl rfl rfl (Nat.le_of_ble_eq_true rfl) h (fun _ I45 _ hq => ?_)
      obtain ⟨rfl, r46, rfl, h⟩ := hq
      show Go G Y_L_law 346 [(0, .ref 1000), (1, .ref 0), (2, .ref 58), (3, .int x3)] [.int r46] SH I45 79 1561 _
      refine go_aload_n dL_law_346 rfl 2 rfl ?_
      refine go_aload_n dL_law_347 rfl 0 rfl ?_
      refine go_iload_n dL_law_348 rfl 3 rfl ?_
      refine go_iconst dL_law_349 (v := (1 : Int32)) (by decide) ?_
      refine go_iadd dL_law_350 ?_
      refine go_sald dL_law_351 hb43 ?_
      refine go_aload_n dL_law_352 rfl 0 rfl ?_
      refine go_iload_n dL_law_353 rfl 3 rfl ?_
      refine go_iconst dL_law_354 (v := (2 : Int32)) (by decide) ?_
      refine go_iadd dL_law_355 ?_
      refine go_sald dL_law_356 hb44 ?_
      refine go_vcall (Z := Y_X8_when) (As := [.int (gXs G (nn (x3 + (1 : Int32)))), .int (gXs G (nn (x3 + (2 : Int32))))]) (S := [.int r46]) dL_law_357 ok_X8_when l_L_42 (by decide) sh_58 (by decide) (Nat.le_of_ble_eq_true rfl) rfl rfl rfl (Nat.le_of_ble_eq_true rfl) h (fun _ I47 _ hq => ?_)
      obtain ⟨rfl, r48, rfl, h⟩ := hq
      show Go G Y_L_law 360 [(0, .ref 1000), (1, .ref 0), (2, .ref 58), (3, .int x3)] [.int r48, .int r46] SH I47 79 1561 _
      refine go_icmp_eq (tgt := 963) dL_law_360 (by decide) (fun c49 => ?_) (fun c49 => ?_)
      · have h := h.1 c49
        refine go_iinc dL_law_963 3 rfl (v := (x3 + 6)) rfl (Nat.le_of_ble_eq_true rfl) (L2 := [(3, .int (x3 + 6)), (0, .ref 1000), (1, .ref 0), (2, .ref 58)]) rfl ?_
        refine go_goto (tgt := 18) dL_law_966 (by decide) ?_
        exact go_loc [(0, .ref 1000), (1, .ref 0), (2, .ref 58), (3, .int (x3 + 6))] [1, 2, 3, 0] rfl h
      · have h := h.2 c49
        refine go_iconst dL_law_363 (v := (0 : Int32)) (by decide) ?_
        exact go_zret dL_law_364 rfl rfl rfl (by decide) ⟨rfl, false, rfl, h⟩
    have h := h.2
    have c3_6 : ((gXs G (nn x3)) &&& (31 : Int32)) ≠ nI 6 := c3
    clear c3
    by_cases c3 : ((gXs G (nn x3)) &&& (31 : Int32)) = (7 : Int32)
    · have h := h.1 c3
      refine go_tIn (tgt := 365) dL_law_33 (by rw [c3]; decide) (by rw [c3]; decide) (by rw [c3] <;> rfl) (by decide) ?_
      refine go_aload_n dL_law_365 rfl 1 rfl ?_
      refine go_aload_n dL_law_366 rfl 0 rfl ?_
      refine go_iload_n dL_law_367 rfl 3 rfl ?_
      refine go_iconst dL_law_368 (v := (1 : Int32)) (by decide) ?_
      refine go_iadd dL_law_369 ?_
      have hb50 := h.1
      have h := h.2
      refine go_sald dL_law_370 hb50 ?_
      refine go_vcall (Z := Y_X7_poem) (As := [.int (gXs G (nn (x3 + (1 : Int32))))]) (S := []) dL_law_371 ok_X7_poem l_L_43 (by decide) sh_0 (by decide) (Nat.le_of_ble_eq_true rfl) rfl rfl rfl (Nat.le_of_ble_eq_true rfl) h (fun _ I51 _ hq => ?_)
      obtain ⟨rfl, r52, rfl, h⟩ := hq
      show Go G Y_L_law 374 [(0, .ref 1000), (1, .ref 0), (2, .ref 58), (3, .int x3)] [.int r52] SH I51 79 1561 _
      refine go_aload_n dL_law_374 rfl 2 rfl ?_
      refine go_aload_n dL_law_375 rfl 0 rfl ?_
      refine go_iload_n dL_law_376 rfl 3 rfl ?_
      refine go_iconst dL_law_377 (v := (1 : Int32)) (by decide) ?_
      refine go_iadd dL_law_378 ?_
      refine go_sald dL_law_379 hb50 ?_
      refine go_vcall (Z := Y_X8_poem) (As := [.int (gXs G (nn (x3 + (1 : Int32))))]) (S := [.int r52]) dL_law_380 ok_X8_poem l_L_46 (by decide) sh_58 (by decide) (Nat.le_of_ble_eq_true rfl) rfl rfl rfl (Nat.le_of_ble_eq_true rfl) h (fun _ I53 _ hq => ?_)
      obtain ⟨rfl, r54, rfl, h⟩ := hq
      show Go G Y_L_law 383 [(0, .ref 1000), (1, .ref 0), (2, .ref 58), (3, .int x3)] [.int r54, .int r52] SH I53 79 1561 _
      refine go_icmp_eq (tgt := 963) dL_law_383 (by decide) (fun c55 => ?_) (fun c55 => ?_)
      · have h := h.1 c55
        refine go_iinc dL_law_963 3 rfl (v := (x3 + 6)) rfl (Nat.le_of_ble_eq_true rfl) (L2 := [(3, .int (x3 + 6)), (0, .ref 1000), (1, .ref 0), (2, .ref 58)]) rfl ?_
        refine go_goto (tgt := 18) dL_law_966 (by decide) ?_
        exact go_loc [(0, .ref 1000), (1, .ref 0), (2, .ref 58), (3, .int (x3 + 6))] [1, 2, 3, 0] rfl h
      · have h := h.2 c55
        refine go_iconst dL_law_386 (v := (0 : Int32)) (by decide) ?_
        exact go_zret dL_law_387 rfl rfl rfl (by decide) ⟨rfl, false, rfl, h⟩
    have h := h.2
    have c3_7 : ((gXs G (nn x3)) &&& (31 : Int32)) ≠ nI 7 := c3
    clear c3
    by_cases c3 : ((gXs G (nn x3)) &&& (31 : Int32)) = (8 : Int32)
    · have h := h.1 c3
      refine go_tIn (tgt := 388) dL_law_33 (by rw [c3]; decide) (by rw [c3]; decide) (by rw [c3] <;> rfl) (by decide) ?_
      refine go_aload_n dL_law_388 rfl 1 rfl ?_
      refine go_vcall (Z := Y_X7_judged) (As := []) (S := []) dL_law_389 ok_X7_judged l_L_47 (by decide) sh_0 (by decide) (Nat.le_of_ble_eq_true rfl) rfl rfl rfl (Nat.le_of_ble_eq_true rfl) h (fun _ I56 _ hq => ?_)
      obtain ⟨rfl, r57, rfl, h⟩ := hq
      show Go G Y_L_law 392 [(0, .ref 1000), (1, .ref 0), (2, .ref 58), (3, .int x3)] [.int r57] SH I56 79 1561 _
      refine go_aload_n dL_law_392 rfl 2 rfl ?_
      refine go_vcall (Z := Y_X8_judged) (As := []) (S := [.int r57]) dL_law_393 ok_X8_judged l_L_51 (by decide) sh_58 (by decide) (Nat.le_of_ble_eq_true rfl) rfl rfl rfl (Nat.le_of_ble_eq_true rfl) h (fun _ I58 _ hq => ?_)
      obtain ⟨rfl, r59, rfl, h⟩ := hq
      show Go G Y_L_law 396 [(0, .ref 1000), (1, .ref 0), (2, .ref 58), (3, .int x3)] [.int r59, .int r57] SH I58 79 1561 _
      refine go_icmp_eq (tgt := 963) dL_law_396 (by decide) (fun c60 => ?_) (fun c60 => ?_)
      · have h := h.1 c60
        refine go_iinc dL_law_963 3 rfl (v := (x3 + 6)) rfl (Nat.le_of_ble_eq_true rfl) (L2 := [(3, .int (x3 + 6)), (0, .ref 1000), (1, .ref 0), (2, .ref 58)]) rfl ?_
        refine go_goto (tgt := 18) dL_law_966 (by decide) ?_
        exact go_loc [(0, .ref 1000), (1, .ref 0), (2, .ref 58), (3, .int (x3 + 6))] [1, 2, 3, 0] rfl h
      · have h := h.2 c60
        refine go_iconst dL_law_399 (v := (0 : Int32)) (by decide) ?_
        exact go_zret dL_law_400 rfl rfl rfl (by decide) ⟨rfl, false, rfl, h⟩
    have h := h.2
    have c3_8 : ((gXs G (nn x3)) &&& (31 : Int32)) ≠ nI 8 := c3
    clear c3
    by_cases c3 : ((gXs G (nn x3)) &&& (31 : Int32)) = (9 : Int32)
    · have h := h.1 c3
      refine go_tIn (tgt := 401) dL_law_33 (by rw [c3]; decide) (by rw [c3]; decide) (by rw [c3] <;> rfl) (by decide) ?_
      refine go_aload_n dL_law_401 rfl 1 rfl ?_
      refine go_aload_n dL_law_402 rfl 0 rfl ?_
      refine go_iload_n dL_law_403 rfl 3 rfl ?_
      refine go_iconst dL_law_404 (v := (1 : Int32)) (by decide) ?_
      refine go_iadd dL_law_405 ?_
      have hb61 := h.1
      have h := h.2
      refine go_sald dL_law_406 hb61 ?_
      refine go_vcall (Z := Y_X7_rest) (As := [.int (gXs G (nn (x3 + (1 : Int32))))]) (S := []) dL_law_407 ok_X7_rest l_L_52 (by decide) sh_0 (by decide) (Nat.le_of_ble_eq_true rfl) rfl rfl rfl (Nat.le_of_ble_eq_true rfl) h (fun _ I62 _ hq => ?_)
      obtain ⟨rfl, r63, rfl, h⟩ := hq
      show Go G Y_L_law 410 [(0, .ref 1000), (1, .ref 0), (2, .ref 58), (3, .int x3)] [.int r63] SH I62 79 1561 _
      refine go_aload_n dL_law_410 rfl 2 rfl ?_
      refine go_aload_n dL_law_411 rfl 0 rfl ?_
      refine go_iload_n dL_law_412 rfl 3 rfl ?_
      refine go_iconst dL_law_413 (v := (1 : Int32)) (by decide) ?_
      refine go_iadd dL_law_414 ?_
      refine go_sald dL_law_415 hb61 ?_
      refine go_vcall (Z := Y_X8_rest) (As := [.int (gXs G (nn (x3 + (1 : Int32))))]) (S := [.int r63]) dL_law_416 ok_X8_rest l_L_55 (by decide) sh_58 (by decide) (Nat.le_of_ble_eq_true rfl) rfl rfl rfl (Nat.le_of_ble_eq_true rfl) h (fun _ I64 _ hq => ?_)
      obtain ⟨rfl, r65, rfl, h⟩ := hq
      show Go G Y_L_law 419 [(0, .ref 1000), (1, .ref 0), (2, .ref 58), (3, .int x3)] [.int r65, .int r63] SH I64 79 1561 _
      refine go_icmp_eq (tgt := 963) dL_law_419 (by decide) (fun c66 => ?_) (fun c66 => ?_)
      · have h := h.1 c66
        refine go_iinc dL_law_963 3 rfl (v := (x3 + 6)) rfl (Nat.le_of_ble_eq_true rfl) (L2 := [(3, .int (x3 + 6)), (0, .ref 1000), (1, .ref 0), (2, .ref 58)]) rfl ?_
        refine go_goto (tgt := 18) dL_law_966 (by decide) ?_
        exact go_loc [(0, .ref 1000), (1, .ref 0), (2, .ref 58), (3, .int (x3 + 6))] [1, 2, 3, 0] rfl h
      · have h := h.2 c66
        refine go_iconst dL_law_422 (v := (0 : Int32)) (by decide) ?_
        exact go_zret dL_law_423 rfl rfl rfl (by decide) ⟨rfl, false, rfl, h⟩
    have h := h.2
    have c3_9 : ((gXs G (nn x3)) &&& (31 : Int32)) ≠ nI 9 := c3
    clear c3
    by_cases c3 : ((gXs G (nn x3)) &&& (31 : Int32)) = (10 : Int32)
    · have h := h.1 c3
      refine go_tIn (tgt := 424) dL_law_33 (by rw [c3]; decide) (by rw [c3]; decide) (by rw [c3] <;> rfl) (by decide) ?_
      refine go_aload_n dL_law_424 rfl 1 rfl ?_
      refine go_aload_n dL_law_425 rfl 0 rfl ?_
      refine go_iload_n dL_law_426 rfl 3 rfl ?_
      refine go_iconst dL_law_427 (v := (1 : Int32)) (by decide) ?_
      refine go_iadd dL_law_428 ?_
      have hb67 := h.1
      have h := h.2
      refine go_sald dL_law_429 hb67 ?_
      refine go_aload_n dL_law_430 rfl 0 rfl ?_
      refine go_iload_n dL_law_431 rfl 3 rfl ?_
      refine go_iconst dL_law_432 (v := (2 : Int32)) (by decide) ?_
      refine go_iadd dL_law_433 ?_
      have hb68 := h.1
      have h := h.2
      refine go_sald dL_law_434 hb68 ?_
      refine go_vcall (Z := Y_X7_doing) (As := [.int (gXs G (nn (x3 + (1 : Int32)))), .int (gXs G (nn (x3 + (2 : Int32))))]) (S := []) dL_law_435 ok_X7_doing l_L_56 (by decide) sh_0 (by decide) (Nat.le_of_ble_eq_true rfl) rfl rfl rfl (Nat.le_of_ble_eq_true rfl) h (fun _ I69 _ hq => ?_)
      obtain ⟨rfl, r70, rfl, h⟩ := hq
      show Go G Y_L_law 438 [(0, .ref 1000), (1, .ref 0), (2, .ref 58), (3, .int x3)] [.int r70] SH I69 79 1561 _
      refine go_aload_n dL_law_438 rfl 2 rfl ?_
      refine go_aload_n dL_law_439 rfl 0 rfl ?_
      refine go_iload_n dL_law_440 rfl 3 rfl ?_
      refine go_iconst dL_law_441 (v := (1 : Int32)) (by decide) ?_
      refine go_iadd dL_law_442 ?_
      refine go_sald dL_law_443 hb67 ?_
      refine go_aload_n dL_law_444 rfl 0 rfl ?_
      refine go_iload_n dL_law_445 rfl 3 rfl ?_
      refine go_iconst dL_law_446 (v := (2 : Int32)) (by decide) ?_
      refine go_iadd dL_law_447 ?_
      refine go_sald dL_law_448 hb68 ?_
      refine go_vcall (Z := Y_X8_doing) (As := [.int (gXs G (nn (x3 + (1 : Int32)))), .int (gXs G (nn (x3 + (2 : Int32))))]) (S := [.int r70]) dL_law_449 ok_X8_doing l_L_59 (by decide) sh_58 (by decide) (Nat.le_of_ble_eq_true rfl) rfl rfl rfl (Nat.le_of_ble_eq_true rfl) h (fun _ I71 _ hq => ?_)
      obtain ⟨rfl, r72, rfl, h⟩ := hq
      show Go G Y_L_law 452 [(0, .ref 1000), (1, .ref 0), (2, .ref 58), (3, .int x3)] [.int r72, .int r70] SH I71 79 1561 _
      refine go_icmp_eq (tgt := 963) dL_law_452 (by decide) (fun c73 => ?_) (fun c73 => ?_)
      · have h := h.1 c73
        refine go_iinc dL_law_963 3 rfl (v := (x3 + 6)) rfl (Nat.le_of_ble_eq_true rfl) (L2 := [(3, .int (x3 + 6)), (0, .ref 1000), (1, .ref 0), (2, .ref 58)]) rfl ?_
        refine go_goto (tgt := 18) dL_law_966 (by decide) ?_
        exact go_loc [(0, .ref 1000), (1, .ref 0), (2, .ref 58), (3, .int (x3 + 6))] [1, 2, 3, 0] rfl h
      · have h := h.2 c73
        refine go_iconst dL_law_455 (v := (0 : Int32)) (by decide) ?_
        exact go_zret dL_law_456 rfl rfl rfl (by decide) ⟨rfl, false, rfl, h⟩
    have h := h.2
    have c3_10 : ((gXs G (nn x3)) &&& (31 : Int32)) ≠ nI 10 := c3
    clear c3
    by_cases c3 : ((gXs G (nn x3)) &&& (31 : Int32)) = (11 : Int32)
    · have h := h.1 c3
      refine go_tIn (tgt := 457) dL_law_33 (by rw [c3]; decide) (by rw [c3]; decide) (by rw [c3] <;> rfl) (by decide) ?_
      refine go_aload_n dL_law_457 rfl 1 rfl ?_
      refine go_aload_n dL_law_458 rfl 0 rfl ?_
      refine go_iload_n dL_law_459 rfl 3 rfl ?_
      refine go_iconst dL_law_460 (v := (1 : Int32)) (by decide) ?_
      refine go_iadd dL_law_461 ?_
      have hb74 := h.1
      have h := h.2
      refine go_sald dL_law_462 hb74 ?_
      refine go_vcall (Z := Y_X7_put) (As := [.int (gXs G (nn (x3 + (1 : Int32))))]) (S := []) dL_law_463 ok_X7_put l_L_60 (by decide) sh_0 (by decide) (Nat.le_of_ble_eq_true rfl) rfl rfl rfl (Nat.le_of_ble_eq_true rfl) h (fun _ I75 _ hq => ?_)
      obtain ⟨rfl, r76, rfl, h⟩ := hq
      show Go G Y_L_law 466 [(0, .ref 1000), (1, .ref 0), (2, .ref 58), (3, .int x3)] [.int r76] SH I75 79 1561 _
      refine go_aload_n dL_law_466 rfl 2 rfl ?_
      refine go_aload_n dL_law_467 rfl 0 rfl ?_
      refine go_iload_n dL_law_468 rfl 3 rfl ?_
      refine go_iconst dL_law_469 (v := (1 : Int32)) (by decide) ?_
      refine go_iadd dL_law_470 ?_
      refine go_sald dL_law_471 hb74 ?_
      refine go_vcall (Z := Y_X8_put) (As := [.int (gXs G (nn (x3 + (1 : Int32))))]) (S := [.int r76]) dL_law_472 ok_X8_put l_L_63 (by decide) sh_58 (by decide) (Nat.le_of_ble_eq_true rfl) rfl rfl rfl (Nat.le_of_ble_eq_true rfl) h (fun _ I77 _ hq => ?_)
      obtain ⟨rfl, r78, rfl, h⟩ := hq
      show Go G Y_L_law 475 [(0, .ref 1000), (1, .ref 0), (2, .ref 58), (3, .int x3)] [.int r78, .int r76] SH I77 79 1561 _
      refine go_icmp_eq (tgt := 963) dL_law_475 (by decide) (fun c79 => ?_) (fun c79 => ?_)
      · have h := h.1 c79
        refine go_iinc dL_law_963 3 rfl (v := (x3 + 6)) rfl (Nat.le_of_ble_eq_true rfl) (L2 := [(3, .int (x3 + 6)), (0, .ref 1000), (1, .ref 0), (2, .ref 58)]) rfl ?_
        refine go_goto (tgt := 18) dL_law_966 (by decide) ?_
        exact go_loc [(0, .ref 1000), (1, .ref 0), (2, .ref 58), (3, .int (x3 + 6))] [1, 2, 3, 0] rfl h
      · have h := h.2 c79
        refine go_iconst dL_law_478 (v := (0 : Int32)) (by decide) ?_
        exact go_zret dL_law_479 rfl rfl rfl (by decide) ⟨rfl, false, rfl, h⟩
    have h := h.2
    have c3_11 : ((gXs G (nn x3)) &&& (31 : Int32)) ≠ nI 11 := c3
    clear c3
    by_cases c3 : ((gXs G (nn x3)) &&& (31 : Int32)) = (12 : Int32)
    · have h := h.1 c3
      refine go_tIn (tgt := 480) dL_law_33 (by rw [c3]; decide) (by rw [c3]; decide) (by rw [c3] <;> rfl) (by decide) ?_
      refine go_aload_n dL_law_480 rfl 1 rfl ?_
      refine go_aload_n dL_law_481 rfl 0 rfl ?_
      refine go_iload_n dL_law_482 rfl 3 rfl ?_
      refine go_iconst dL_law_483 (v := (1 : Int32)) (by decide) ?_
      refine go_iadd dL_law_484 ?_
      have hb80 := h.1
      have h := h.2
      refine go_sald dL_law_485 hb80 ?_
      refine go_vcall (Z := Y_X7_order) (As := [.int (gXs G (nn (x3 + (1 : Int32))))]) (S := []) dL_law_486 ok_X7_order l_L_64 (by decide) sh_0 (by decide) (Nat.le_of_ble_eq_true rfl) rfl rfl rfl (Nat.le_of_ble_eq_true rfl) h (fun _ I81 _ hq => ?_)
      obtain ⟨rfl, r82, rfl, h⟩ := hq
      show Go G Y_L_law 489 [(0, .ref 1000), (1, .ref 0), (2, .ref 58), (3, .int x3)] [.int r82] SH I81 79 1561 _
      refine go_aload_n dL_law_489 rfl 2 rfl ?_
      refine go_aload_n dL_law_490 rfl 0 rfl ?_
      refine go_iload_n dL_law_491 rfl 3 rfl ?_
      refine go_iconst dL_law_492 (v := (1 : Int32)) (by decide) ?_
      refine go_iadd dL_law_493 ?_
      refine go_sald dL_law_494 hb80 ?_
      refine go_vcall (Z := Y_X8_order) (As := [.int (gXs G (nn (x3 + (1 : Int32))))]) (S := [.int r82]) dL_law_495 ok_X8_order l_L_67 (by decide) sh_58 (by decide) (Nat.le_of_ble_eq_true rfl) rfl rfl rfl (Nat.le_of_ble_eq_true rfl) h (fun _ I83 _ hq => ?_)
      obtain ⟨rfl, r84, rfl, h⟩ := hq
      show Go G Y_L_law 498 [(0, .ref 1000), (1, .ref 0), (2, .ref 58), (3, .int x3)] [.int r84, .int r82] SH I83 79 1561 _
      refine go_icmp_eq (tgt := 963) dL_law_498 (by decide) (fun c85 => ?_) (fun c85 => ?_)
      · have h := h.1 c85
        refine go_iinc dL_law_963 3 rfl (v := (x3 + 6)) rfl (Nat.le_of_ble_eq_true rfl) (L2 := [(3, .int (x3 + 6)), (0, .ref 1000), (1, .ref 0), (2, .ref 58)]) rfl ?_
        refine go_goto (tgt := 18) dL_law_966 (by decide) ?_
        exact go_loc [(0, .ref 1000), (1, .ref 0), (2, .ref 58), (3, .int (x3 + 6))] [1, 2, 3, 0] rfl h
      · have h := h.2 c85
        refine go_iconst dL_law_501 (v := (0 : Int32)) (by decide) ?_
        exact go_zret dL_law_502 rfl rfl rfl (by decide) ⟨rfl, false, rfl, h⟩
    have h := h.2
    have c3_12 : ((gXs G (nn x3)) &&& (31 : Int32)) ≠ nI 12 := c3
    clear c3
    by_cases c3 : ((gXs G (nn x3)) &&& (31 : Int32)) = (13 : Int32)
    · have h := h.1 c3
      refine go_tIn (tgt := 503) dL_law_33 (by rw [c3]; decide) (by rw [c3]; decide) (by rw [c3] <;> rfl) (by decide) ?_
      refine go_aload_n dL_law_503 rfl 1 rfl ?_
      refine go_vcall (Z := Y_X7_lead) (As := []) (S := []) dL_law_504 ok_X7_lead l_L_68 (by decide) sh_0 (by decide) (Nat.le_of_ble_eq_true rfl) rfl rfl rfl (Nat.le_of_ble_eq_true rfl) h (fun _ I86 _ hq => ?_)
      obtain ⟨rfl, r87, rfl, h⟩ := hq
      show Go G Y_L_law 507 [(0, .ref 1000), (1, .ref 0), (2, .ref 58), (3, .int x3)] [.int r87] SH I86 79 1561 _
      refine go_aload_n dL_law_507 rfl 2 rfl ?_
      refine go_vcall (Z := Y_X8_lead) (As := []) (S := [.int r87]) dL_law_508 ok_X8_lead l_L_71 (by decide) sh_58 (by decide) (Nat.le_of_ble_eq_true rfl) rfl rfl rfl (Nat.le_of_ble_eq_true rfl) h (fun _ I88 _ hq => ?_)
      obtain ⟨rfl, r89, rfl, h⟩ := hq
      show Go G Y_L_law 511 [(0, .ref 1000), (1, .ref 0), (2, .ref 58), (3, .int x3)] [.int r89, .int r87] SH I88 79 1561 _
      refine go_icmp_eq (tgt := 963) dL_law_511 (by decide) (fun c90 => ?_) (fun c90 => ?_)
      · have h := h.1 c90
        refine go_iinc dL_law_963 3 rfl (v := (x3 + 6)) rfl (Nat.le_of_ble_eq_true rfl) (L2 := [(3, .int (x3 + 6)), (0, .ref 1000), (1, .ref 0), (2, .ref 58)]) rfl ?_
        refine go_goto (tgt := 18) dL_law_966 (by decide) ?_
        exact go_loc [(0, .ref 1000), (1, .ref 0), (2, .ref 58), (3, .int (x3 + 6))] [1, 2, 3, 0] rfl h
      · have h := h.2 c90
        refine go_iconst dL_law_514 (v := (0 : Int32)) (by decide) ?_
        exact go_zret dL_law_515 rfl rfl rfl (by decide) ⟨rfl, false, rfl, h⟩
    have h := h.2
    have c3_13 : ((gXs G (nn x3)) &&& (31 : Int32)) ≠ nI 13 := c3
    clear c3
    by_cases c3 : ((gXs G (nn x3)) &&& (31 : Int32)) = (14 : Int32)
    · have h := h.1 c3
      refine go_tIn (tgt := 516) dL_law_33 (by rw [c3]; decide) (by rw [c3]; decide) (by rw [c3] <;> rfl) (by decide) ?_
      refine go_aload_n dL_law_516 rfl 1 rfl ?_
      refine go_aload_n dL_law_517 rfl 0 rfl ?_
      refine go_iload_n dL_law_518 rfl 3 rfl ?_
      refine go_iconst dL_law_519 (v := (1 : Int32)) (by decide) ?_
      refine go_iadd dL_law_520 ?_
      have hb91 := h.1
      have h := h.2
      refine go_sald dL_law_521 hb91 ?_
      refine go_vcall (Z := Y_X7_odds) (As := [.int (gXs G (nn (x3 + (1 : Int32))))]) (S := []) dL_law_522 ok_X7_odds l_L_72 (by decide) sh_0 (by decide) (Nat.le_of_ble_eq_true rfl) rfl rfl rfl (Nat.le_of_ble_eq_true rfl) h (fun _ I92 _ hq => ?_)
      obtain ⟨rfl, r93, rfl, h⟩ := hq
      show Go G Y_L_law 525 [(0, .ref 1000), (1, .ref 0), (2, .ref 58), (3, .int x3)] [.long r93] SH I92 79 1561 _
      refine go_aload_n dL_law_525 rfl 2 rfl ?_
      refine go_aload_n dL_law_526 rfl 0 rfl ?_
      refine go_iload_n dL_law_527 rfl 3 rfl ?_
      refine go_iconst dL_law_528 (v := (1 : Int32)) (by decide) ?_
      refine go_iadd dL_law_529 ?_
      refine go_sald dL_law_530 hb91 ?_
      refine go_vcall (Z := Y_X8_odds) (As := [.int (gXs G (nn (x3 + (1 : Int32))))]) (S := [.long r93]) dL_law_531 ok_X8_odds l_L_76 (by decide) sh_58 (by decide) (Nat.le_of_ble_eq_true rfl) rfl rfl rfl (Nat.le_of_ble_eq_true rfl) h (fun _ I94 _ hq => ?_)
      obtain ⟨rfl, r95, rfl, h⟩ := hq
      show Go G Y_L_law 534 [(0, .ref 1000), (1, .ref 0), (2, .ref 58), (3, .int x3)] [.long r95, .long r93] SH I94 79 1561 _
      refine go_lcmp dL_law_534 ?_
      refine go_if_eq (tgt := 963) dL_law_535 (by decide) (fun c96 => ?_) (fun c96 => ?_)
      · have h := h.1 c96
        refine go_iinc dL_law_963 3 rfl (v := (x3 + 6)) rfl (Nat.le_of_ble_eq_true rfl) (L2 := [(3, .int (x3 + 6)), (0, .ref 1000), (1, .ref 0), (2, .ref 58)]) rfl ?_
        refine go_goto (tgt := 18) dL_law_966 (by decide) ?_
        exact go_loc [(0, .ref 1000), (1, .ref 0), (2, .ref 58), (3, .int (x3 + 6))] [1, 2, 3, 0] rfl h
      · have h := h.2 c96
        refine go_iconst dL_law_538 (v := (0 : Int32)) (by decide) ?_
        exact go_zret dL_law_539 rfl rfl rfl (by decide) ⟨rfl, false, rfl, h⟩
    have h := h.2
    have c3_14 : ((gXs G (nn x3)) &&& (31 : Int32)) ≠ nI 14 := c3
    clear c3
    by_cases c3 : ((gXs G (nn x3)) &&& (31 : Int32)) = (15 : Int32)
    · have h := h.1 c3
      refine go_tIn (tgt := 540) dL_law_33 (by rw [c3]; decide) (by rw [c3]; decide) (by rw [c3] <;> rfl) (by decide) ?_
      refine go_aload_n dL_law_540 rfl 1 rfl ?_
      refine go_aload_n dL_law_541 rfl 0 rfl ?_
      refine go_iload_n dL_law_542 rfl 3 rfl ?_
      refine go_iconst dL_law_543 (v := (1 : Int32)) (by decide) ?_
      refine go_iadd dL_law_544 ?_
      have hb97 := h.1
      have h := h.2
      refine go_sald dL_law_545 hb97 ?_
      refine go_vcall (Z := Y_X7_drawn) (As := [.int (gXs G (nn (x3 + (1 : Int32))))]) (S := []) dL_law_546 ok_X7_drawn l_L_77 (by decide) sh_0 (by decide) (Nat.le_of_ble_eq_true rfl) rfl rfl rfl (Nat.le_of_ble_eq_true rfl) h (fun _ I98 _ hq => ?_)
      obtain ⟨rfl, r99, rfl, h⟩ := hq
      show Go G Y_L_law 549 [(0, .ref 1000), (1, .ref 0), (2, .ref 58), (3, .int x3)] [.int r99] SH I98 79 1561 _
      refine go_aload_n dL_law_549 rfl 2 rfl ?_
      refine go_aload_n dL_law_550 rfl 0 rfl ?_
      refine go_iload_n dL_law_551 rfl 3 rfl ?_
      refine go_iconst dL_law_552 (v := (1 : Int32)) (by decide) ?_
      refine go_iadd dL_law_553 ?_
      refine go_sald dL_law_554 hb97 ?_
      refine go_vcall (Z := Y_X8_drawn) (As := [.int (gXs G (nn (x3 + (1 : Int32))))]) (S := [.int r99]) dL_law_555 ok_X8_drawn l_L_80 (by decide) sh_58 (by decide) (Nat.le_of_ble_eq_true rfl) rfl rfl rfl (Nat.le_of_ble_eq_true rfl) h (fun _ I100 _ hq => ?_)
      obtain ⟨rfl, r101, rfl, h⟩ := hq
      show Go G Y_L_law 558 [(0, .ref 1000), (1, .ref 0), (2, .ref 58), (3, .int x3)] [.int r101, .int r99] SH I100 79 1561 _
      refine go_icmp_eq (tgt := 963) dL_law_558 (by decide) (fun c102 => ?_) (fun c102 => ?_)
      · have h := h.1 c102
        refine go_iinc dL_law_963 3 rfl (v := (x3 + 6)) rfl (Nat.le_of_ble_eq_true rfl) (L2 := [(3, .int (x3 + 6)), (0, .ref 1000), (1, .ref 0), (2, .ref 58)]) rfl ?_
        refine go_goto (tgt := 18) dL_law_966 (by decide) ?_
        exact go_loc [(0, .ref 1000), (1, .ref 0), (2, .ref 58), (3, .int (x3 + 6))] [1, 2, 3, 0] rfl h
      · have h := h.2 c102
        refine go_iconst dL_law_561 (v := (0 : Int32)) (by decide) ?_
        exact go_zret dL_law_562 rfl rfl rfl (by decide) ⟨rfl, false, rfl, h⟩
    have h := h.2
    have c3_15 : ((gXs G (nn x3)) &&& (31 : Int32)) ≠ nI 15 := c3
    clear c3
    by_cases c3 : ((gXs G (nn x3)) &&& (31 : Int32)) = (16 : Int32)
    · have h := h.1 c3
      refine go_tIn (tgt := 563) dL_law_33 (by rw [c3]; decide) (by rw [c3]; decide) (by rw [c3] <;> rfl) (by decide) ?_
      refine go_aload_n dL_law_563 rfl 1 rfl ?_
      refine go_aload_n dL_law_564 rfl 0 rfl ?_
      refine go_iload_n dL_law_565 rfl 3 rfl ?_
      refine go_iconst dL_law_566 (v := (1 : Int32)) (by decide) ?_
      refine go_iadd dL_law_567 ?_
      have hb103 := h.1
      have h := h.2
      refine go_sald dL_law_568 hb103 ?_
      refine go_aload_n dL_law_569 rfl 0 rfl ?_
      refine go_iload_n dL_law_570 rfl 3 rfl ?_
      refine go_iconst dL_law_571 (v := (2 : Int32)) (by decide) ?_
      refine go_iadd dL_law_572 ?_
      have hb104 := h.1
      have h := h.2
      refine go_sald dL_law_573 hb104 ?_
      refine go_vcall (Z := Y_X7_line) (As := [.int (gXs G (nn (x3 + (1 : Int32)))), .int (gXs G (nn (x3 + (2 : Int32))))]) (S := []) dL_law_574 ok_X7_line l_L_81 (by decide) sh_0 (by decide) (Nat.le_of_ble_eq_true rfl) rfl rfl rfl (Nat.le_of_ble_eq_true rfl) h (fun _ I105 _ hq => ?_)
      obtain ⟨rfl, r106, rfl, h⟩ := hq
      show Go G Y_L_law 577 [(0, .ref 1000), (1, .ref 0), (2, .ref 58), (3, .int x3)] [.int r106] SH I105 79 1561 _
      refine go_aload_n dL_law_577 rfl 2 rfl ?_
      refine go_aload_n dL_law_578 rfl 0 rfl ?_
      refine go_iload_n dL_law_579 rfl 3 rfl ?_
      refine go_iconst dL_law_580 (v := (1 : Int32)) (by decide) ?_
      refine go_iadd dL_law_581 ?_
      refine go_sald dL_law_582 hb103 ?_
      refine go_aload_n dL_law_583 rfl 0 rfl ?_
      refine go_iload_n dL_law_584 rfl 3 rfl ?_
      refine go_iconst dL_law_585 (v := (2 : Int32)) (by decide) ?_
      refine go_iadd dL_law_586 ?_
      refine go_sald dL_law_587 hb104 ?_
      refine go_vcall (Z := Y_X8_line) (As := [.int (gXs G (nn (x3 + (1 : Int32)))), .int (gXs G (nn (x3 + (2 : Int32))))]) (S := [.int r106]) dL_law_588 ok_X8_line l_L_84 (by decide) sh_58 (by decide) (Nat.le_of_ble_eq_true rfl) rfl rfl rfl (Nat.le_of_ble_eq_true rfl) h (fun _ I107 _ hq => ?_)
      obtain ⟨rfl, r108, rfl, h⟩ := hq
      show Go G Y_L_law 591 [(0, .ref 1000), (1, .ref 0), (2, .ref 58), (3, .int x3)] [.int r108, .int r106] SH I107 79 1561 _
      refine go_icmp_eq (tgt := 963) dL_law_591 (by decide) (fun c109 => ?_) (fun c109 => ?_)
      · have h := h.1 c109
        refine go_iinc dL_law_963 3 rfl (v := (x3 + 6)) rfl (Nat.le_of_ble_eq_true rfl) (L2 := [(3, .int (x3 + 6)), (0, .ref 1000), (1, .ref 0), (2, .ref 58)]) rfl ?_
        refine go_goto (tgt := 18) dL_law_966 (by decide) ?_
        exact go_loc [(0, .ref 1000), (1, .ref 0), (2, .ref 58), (3, .int (x3 + 6))] [1, 2, 3, 0] rfl h
      · have h := h.2 c109
        refine go_iconst dL_law_594 (v := (0 : Int32)) (by decide) ?_
        exact go_zret dL_law_595 rfl rfl rfl (by decide) ⟨rfl, false, rfl, h⟩
    have h := h.2
    have c3_16 : ((gXs G (nn x3)) &&& (31 : Int32)) ≠ nI 16 := c3
    clear c3
    by_cases c3 : ((gXs G (nn x3)) &&& (31 : Int32)) = (17 : Int32)
    · have h := h.1 c3
      refine go_tIn (tgt := 596) dL_law_33 (by rw [c3]; decide) (by rw [c3]; decide) (by rw [c3] <;> rfl) (by decide) ?_
      refine go_aload_n dL_law_596 rfl 1 rfl ?_
      refine go_aload_n dL_law_597 rfl 0 rfl ?_
      refine go_iload_n dL_law_598 rfl 3 rfl ?_
      refine go_iconst dL_law_599 (v := (1 : Int32)) (by decide) ?_
      refine go_iadd dL_law_600 ?_
      have hb110 := h.1
      have h := h.2
      refine go_sald dL_law_601 hb110 ?_
      refine go_aload_n dL_law_602 rfl 0 rfl ?_
      refine go_iload_n dL_law_603 rfl 3 rfl ?_
      refine go_iconst dL_law_604 (v := (2 : Int32)) (by decide) ?_
      refine go_iadd dL_law_605 ?_
      have hb111 := h.1
      have h := h.2
      refine go_sald dL_law_606 hb111 ?_
      refine go_vcall (Z := Y_X7_seen) (As := [.int (gXs G (nn (x3 + (1 : Int32)))), .int (gXs G (nn (x3 + (2 : Int32))))]) (S := []) dL_law_607 ok_X7_seen l_L_85 (by decide) sh_0 (by decide) (Nat.le_of_ble_eq_true rfl) rfl rfl rfl (Nat.le_of_ble_eq_true rfl) h (fun _ I112 _ hq => ?_)
      obtain ⟨rfl, r113, rfl, h⟩ := hq
      show Go G Y_L_law 610 [(0, .ref 1000), (1, .ref 0), (2, .ref 58), (3, .int x3)] [.int r113] SH I112 79 1561 _
      refine go_aload_n dL_law_610 rfl 2 rfl ?_
      refine go_aload_n dL_law_611 rfl 0 rfl ?_
      refine go_iload_n dL_law_612 rfl 3 rfl ?_
      refine go_iconst dL_law_613 (v := (1 : Int32)) (by decide) ?_
      refine go_iadd dL_law_614 ?_
      refine go_sald dL_law_615 hb110 ?_
      refine go_aload_n dL_law_616 rfl 0 rfl ?_
      refine go_iload_n dL_law_617 rfl 3 rfl ?_
      refine go_iconst dL_law_618 (v := (2 : Int32)) (by decide) ?_
      refine go_iadd dL_law_619 ?_
      refine go_sald dL_law_620 hb111 ?_
      refine go_vcall (Z := Y_X8_seen) (As := [.int (gXs G (nn (x3 + (1 : Int32)))), .int (gXs G (nn (x3 + (2 : Int32))))]) (S := [.int r113]) dL_law_621 ok_X8_seen l_L_88 (by decide) sh_58 (by decide) (Nat.le_of_ble_eq_true rfl) rfl rfl rfl (Nat.le_of_ble_eq_true rfl) h (fun _ I114 _ hq => ?_)
      obtain ⟨rfl, r115, rfl, h⟩ := hq
      show Go G Y_L_law 624 [(0, .ref 1000), (1, .ref 0), (2, .ref 58), (3, .int x3)] [.int r115, .int r113] SH I114 79 1561 _
      refine go_icmp_eq (tgt := 963) dL_law_624 (by decide) (fun c116 => ?_) (fun c116 => ?_)
      · have h := h.1 c116
        refine go_iinc dL_law_963 3 rfl (v := (x3 + 6)) rfl (Nat.le_of_ble_eq_true rfl) (L2 := [(3, .int (x3 + 6)), (0, .ref 1000), (1, .ref 0), (2, .ref 58)]) rfl ?_
        refine go_goto (tgt := 18) dL_law_966 (by decide) ?_
        exact go_loc [(0, .ref 1000), (1, .ref 0), (2, .ref 58), (3, .int (x3 + 6))] [1, 2, 3, 0] rfl h
      · have h := h.2 c116
        refine go_iconst dL_law_627 (v := (0 : Int32)) (by decide) ?_
        exact go_zret dL_law_628 rfl rfl rfl (by decide) ⟨rfl, false, rfl, h⟩
    have h := h.2
    have c3_17 : ((gXs G (nn x3)) &&& (31 : Int32)) ≠ nI 17 := c3
    clear c3
    by_cases c3 : ((gXs G (nn x3)) &&& (31 : Int32)) = (18 : Int32)
    · have h := h.1 c3
      refine go_tIn (tgt := 629) dL_law_33 (by rw [c3]; decide) (by rw [c3]; decide) (by rw [c3] <;> rfl) (by decide) ?_
      refine go_aload_n dL_law_629 rfl 1 rfl ?_
      refine go_vcall (Z := Y_X7_forget) (As := []) (S := []) dL_law_630 ok_X7_forget l_L_89 (by decide) sh_0 (by decide) (Nat.le_of_ble_eq_true rfl) rfl rfl rfl (Nat.le_of_ble_eq_true rfl) h (fun _ I117 _ hq => ?_)
      obtain ⟨rfl, r118, rfl, h⟩ := hq
      show Go G Y_L_law 633 [(0, .ref 1000), (1, .ref 0), (2, .ref 58), (3, .int x3)] [.int r118] SH I117 79 1561 _
      refine go_aload_n dL_law_633 rfl 2 rfl ?_
      refine go_vcall (Z := Y_X8_forget) (As := []) (S := [.int r118]) dL_law_634 ok_X8_forget l_L_92 (by decide) sh_58 (by decide) (Nat.le_of_ble_eq_true rfl) rfl rfl rfl (Nat.le_of_ble_eq_true rfl) h (fun _ I119 _ hq => ?_)
      obtain ⟨rfl, r120, rfl, h⟩ := hq
      show Go G Y_L_law 637 [(0, .ref 1000), (1, .ref 0), (2, .ref 58), (3, .int x3)] [.int r120, .int r118] SH I119 79 1561 _
      refine go_icmp_eq (tgt := 963) dL_law_637 (by decide) (fun c121 => ?_) (fun c121 => ?_)
      · have h := h.1 c121
        refine go_iinc dL_law_963 3 rfl (v := (x3 + 6)) rfl (Nat.le_of_ble_eq_true rfl) (L2 := [(3, .int (x3 + 6)), (0, .ref 1000), (1, .ref 0), (2, .ref 58)]) rfl ?_
        refine go_goto (tgt := 18) dL_law_966 (by decide) ?_
        exact go_loc [(0, .ref 1000), (1, .ref 0), (2, .ref 58), (3, .int (x3 + 6))] [1, 2, 3, 0] rfl h
      · have h := h.2 c121
        refine go_iconst dL_law_640 (v := (0 : Int32)) (by decide) ?_
        exact go_zret dL_law_641 rfl rfl rfl (by decide) ⟨rfl, false, rfl, h⟩
    have h := h.2
    have c3_18 : ((gXs G (nn x3)) &&& (31 : Int32)) ≠ nI 18 := c3
    clear c3
    by_cases c3 : ((gXs G (nn x3)) &&& (31 : Int32)) = (19 : Int32)
    · have h := h.1 c3
      refine go_tIn (tgt := 642) dL_law_33 (by rw [c3]; decide) (by rw [c3]; decide) (by rw [c3] <;> rfl) (by decide) ?_
      refine go_aload_n dL_law_642 rfl 1 rfl ?_
      refine go_vcall (Z := Y_X7_leads) (As := []) (S := []) dL_law_643 ok_X7_leads l_L_93 (by decide) sh_0 (by decide) (Nat.le_of_ble_eq_true rfl) rfl rfl rfl (Nat.le_of_ble_eq_true rfl) h (fun _ I122 _ hq => ?_)
      obtain ⟨rfl, r123, rfl, h⟩ := hq
      show Go G Y_L_law 646 [(0, .ref 1000), (1, .ref 0), (2, .ref 58), (3, .int x3)] [.int r123] SH I122 79 1561 _
      refine go_aload_n dL_law_646 rfl 2 rfl ?_
      refine go_vcall (Z := Y_X8_leads) (As := []) (S := [.int r123]) dL_law_647 ok_X8_leads l_L_96 (by decide) sh_58 (by decide) (Nat.le_of_ble_eq_true rfl) rfl rfl rfl (Nat.le_of_ble_eq_true rfl) h (fun _ I124 _ hq => ?_)
      obtain ⟨rfl, r125, rfl, h⟩ := hq
      show Go G Y_L_law 650 [(0, .ref 1000), (1, .ref 0), (2, .ref 58), (3, .int x3)] [.int r125, .int r123] SH I124 79 1561 _
      refine go_icmp_eq (tgt := 963) dL_law_650 (by decide) (fun c126 => ?_) (fun c126 => ?_)
      · have h := h.1 c126
        refine go_iinc dL_law_963 3 rfl (v := (x3 + 6)) rfl (Nat.le_of_ble_eq_true rfl) (L2 := [(3, .int (x3 + 6)), (0, .ref 1000), (1, .ref 0), (2, .ref 58)]) rfl ?_
        refine go_goto (tgt := 18) dL_law_966 (by decide) ?_
        exact go_loc [(0, .ref 1000), (1, .ref 0), (2, .ref 58), (3, .int (x3 + 6))] [1, 2, 3, 0] rfl h
      · have h := h.2 c126
        refine go_iconst dL_law_653 (v := (0 : Int32)) (by decide) ?_
        exact go_zret dL_law_654 rfl rfl rfl (by decide) ⟨rfl, false, rfl, h⟩
    have h := h.2
    have c3_19 : ((gXs G (nn x3)) &&& (31 : Int32)) ≠ nI 19 := c3
    clear c3
    by_cases c3 : ((gXs G (nn x3)) &&& (31 : Int32)) = (20 : Int32)
    · have h := h.1 c3
      refine go_tIn (tgt := 655) dL_law_33 (by rw [c3]; decide) (by rw [c3]; decide) (by rw [c3] <;> rfl) (by decide) ?_
      refine go_aload_n dL_law_655 rfl 1 rfl ?_
      refine go_aload_n dL_law_656 rfl 0 rfl ?_
      refine go_iload_n dL_law_657 rfl 3 rfl ?_
      refine go_iconst dL_law_658 (v := (1 : Int32)) (by decide) ?_
      refine go_iadd dL_law_659 ?_
      have hb127 := h.1
      have h := h.2
      refine go_sald dL_law_660 hb127 ?_
      refine go_vcall (Z := Y_X7_read) (As := [.int (gXs G (nn (x3 + (1 : Int32))))]) (S := []) dL_law_661 ok_X7_read l_L_97 (by decide) sh_0 (by decide) (Nat.le_of_ble_eq_true rfl) rfl rfl rfl (Nat.le_of_ble_eq_true rfl) h (fun _ I128 _ hq => ?_)
      obtain ⟨rfl, r129, rfl, h⟩ := hq
      show Go G Y_L_law 664 [(0, .ref 1000), (1, .ref 0), (2, .ref 58), (3, .int x3)] [.int r129] SH I128 79 1561 _
      refine go_aload_n dL_law_664 rfl 2 rfl ?_
      refine go_aload_n dL_law_665 rfl 0 rfl ?_
      refine go_iload_n dL_law_666 rfl 3 rfl ?_
      refine go_iconst dL_law_667 (v := (1 : Int32)) (by decide) ?_
      refine go_iadd dL_law_668 ?_
      refine go_sald dL_law_669 hb127 ?_
      refine go_vcall (Z := Y_X8_read) (As := [.int (gXs G (nn (x3 + (1 : Int32))))]) (S := [.int r129]) dL_law_670 ok_X8_read l_L_100 (by decide) sh_58 (by decide) (Nat.le_of_ble_eq_true rfl) rfl rfl rfl (Nat.le_of_ble_eq_true rfl) h (fun _ I130 _ hq => ?_)
      obtain ⟨rfl, r131, rfl, h⟩ := hq
      show Go G Y_L_law 673 [(0, .ref 1000), (1, .ref 0), (2, .ref 58), (3, .int x3)] [.int r131, .int r129] SH I130 79 1561 _
      refine go_icmp_eq (tgt := 963) dL_law_673 (by decide) (fun c132 => ?_) (fun c132 => ?_)
      · have h := h.1 c132
        refine go_iinc dL_law_963 3 rfl (v := (x3 + 6)) rfl (Nat.le_of_ble_eq_true rfl) (L2 := [(3, .int (x3 + 6)), (0, .ref 1000), (1, .ref 0), (2, .ref 58)]) rfl ?_
        refine go_goto (tgt := 18) dL_law_966 (by decide) ?_
        exact go_loc [(0, .ref 1000), (1, .ref 0), (2, .ref 58), (3, .int (x3 + 6))] [1, 2, 3, 0] rfl h
      · have h := h.2 c132
        refine go_iconst dL_law_676 (v := (0 : Int32)) (by decide) ?_
        exact go_zret dL_law_677 rfl rfl rfl (by decide) ⟨rfl, false, rfl, h⟩
    have h := h.2
    have c3_20 : ((gXs G (nn x3)) &&& (31 : Int32)) ≠ nI 20 := c3
    clear c3
    by_cases c3 : ((gXs G (nn x3)) &&& (31 : Int32)) = (21 : Int32)
    · have h := h.1 c3
      refine go_tIn (tgt := 678) dL_law_33 (by rw [c3]; decide) (by rw [c3]; decide) (by rw [c3] <;> rfl) (by decide) ?_
      refine go_aload_n dL_law_678 rfl 1 rfl ?_
      refine go_aload_n dL_law_679 rfl 0 rfl ?_
      refine go_iload_n dL_law_680 rfl 3 rfl ?_
      refine go_iconst dL_law_681 (v := (1 : Int32)) (by decide) ?_
      refine go_iadd dL_law_682 ?_
      have hb133 := h.1
      have h := h.2
      refine go_sald dL_law_683 hb133 ?_
      refine go_aload_n dL_law_684 rfl 0 rfl ?_
      refine go_iload_n dL_law_685 rfl 3 rfl ?_
      refine go_iconst dL_law_686 (v := (2 : Int32)) (by decide) ?_
      refine go_iadd dL_law_687 ?_
      have hb134 := h.1
      have h := h.2
      refine go_sald dL_law_688 hb134 ?_
      refine go_aload_n dL_law_689 rfl 0 rfl ?_
      refine go_iload_n dL_law_690 rfl 3 rfl ?_
      refine go_iconst dL_law_691 (v := (3 : Int32)) (by decide) ?_
      refine go_iadd dL_law_692 ?_
      have hb135 := h.1
      have h := h.2
      refine go_sald dL_law_693 hb135 ?_
      refine go_vcall (Z := Y_X7_sheet) (As := [.int (gXs G (nn (x3 + (1 : Int32)))), .int (gXs G (nn (x3 + (2 : Int32)))), .int (gXs G (nn (x3 + (3 : Int32))))]) (S := []) dL_law_694 ok_X7_sheet l_L_101 (by decide) sh_0 (by decide) (Nat.le_of_ble_eq_true rfl) rfl rfl rfl (Nat.le_of_ble_eq_true rfl) h (fun _ I136 _ hq => ?_)
      obtain ⟨rfl, r137, rfl, h⟩ := hq
      show Go G Y_L_law 697 [(0, .ref 1000), (1, .ref 0), (2, .ref 58), (3, .int x3)] [.int r137] SH I136 79 1561 _
      refine go_aload_n dL_law_697 rfl 2 rfl ?_
      refine go_aload_n dL_law_698 rfl 0 rfl ?_
      refine go_iload_n dL_law_699 rfl 3 rfl ?_
      refine go_iconst dL_law_700 (v := (1 : Int32)) (by decide) ?_
      refine go_iadd dL_law_701 ?_
      refine go_sald dL_law_702 hb133 ?_
      refine go_aload_n dL_law_703 rfl 0 rfl ?_
      refine go_iload_n dL_law_704 rfl 3 rfl ?_
      refine go_iconst dL_law_705 (v := (2 : Int32)) (by decide) ?_
      refine go_iadd dL_law_706 ?_
      refine go_sald dL_law_707 hb134 ?_
      refine go_aload_n dL_law_708 rfl 0 rfl ?_
      refine go_iload_n dL_law_709 rfl 3 rfl ?_
      refine go_iconst dL_law_710 (v := (3 : Int32)) (by decide) ?_
      refine go_iadd dL_law_711 ?_
      refine go_sald dL_law_712 hb135 ?_
      refine go_vcall (Z := Y_X8_sheet) (As := [.int (gXs G (nn (x3 + (1 : Int32)))), .int (gXs G (nn (x3 + (2 : Int32)))), .int (gXs G (nn (x3 + (3 : Int32))))]) (S := [.int r137]) dL_law_713 ok_X8_sheet l_L_105 (by decide) sh_58 (by decide) (Nat.le_of_ble_eq_true rfl) rfl rfl rfl (Nat.le_of_ble_eq_true rfl) h (fun _ I138 _ hq => ?_)
      obtain ⟨rfl, r139, rfl, h⟩ := hq
      show Go G Y_L_law 716 [(0, .ref 1000), (1, .ref 0), (2, .ref 58), (3, .int x3)] [.int r139, .int r137] SH I138 79 1561 _
      refine go_icmp_eq (tgt := 963) dL_law_716 (by decide) (fun c140 => ?_) (fun c140 => ?_)
      · have h := h.1 c140
        refine go_iinc dL_law_963 3 rfl (v := (x3 + 6)) rfl (Nat.le_of_ble_eq_true rfl) (L2 := [(3, .int (x3 + 6)), (0, .ref 1000), (1, .ref 0), (2, .ref 58)]) rfl ?_
        refine go_goto (tgt := 18) dL_law_966 (by decide) ?_
        exact go_loc [(0, .ref 1000), (1, .ref 0), (2, .ref 58), (3, .int (x3 + 6))] [1, 2, 3, 0] rfl h
      · have h := h.2 c140
        refine go_iconst dL_law_719 (v := (0 : Int32)) (by decide) ?_
        exact go_zret dL_law_720 rfl rfl rfl (by decide) ⟨rfl, false, rfl, h⟩
    have h := h.2
    have c3_21 : ((gXs G (nn x3)) &&& (31 : Int32)) ≠ nI 21 := c3
    clear c3
    by_cases c3 : ((gXs G (nn x3)) &&& (31 : Int32)) = (22 : Int32)
    · have h := h.1 c3
      refine go_tIn (tgt := 721) dL_law_33 (by rw [c3]; decide) (by rw [c3]; decide) (by rw [c3] <;> rfl) (by decide) ?_
      refine go_aload_n dL_law_721 rfl 1 rfl ?_
      refine go_aload_n dL_law_722 rfl 0 rfl ?_
      refine go_iload_n dL_law_723 rfl 3 rfl ?_
      refine go_iconst dL_law_724 (v := (1 : Int32)) (by decide) ?_
      refine go_iadd dL_law_725 ?_
      have hb141 := h.1
      have h := h.2
      refine go_sald dL_law_726 hb141 ?_
      refine go_vcall (Z := Y_X7_lose) (As := [.int (gXs G (nn (x3 + (1 : Int32))))]) (S := []) dL_law_727 ok_X7_lose l_L_106 (by decide) sh_0 (by decide) (Nat.le_of_ble_eq_true rfl) rfl rfl rfl (Nat.le_of_ble_eq_true rfl) h (fun _ I142 _ hq => ?_)
      obtain ⟨rfl, r143, rfl, h⟩ := hq
      show Go G Y_L_law 730 [(0, .ref 1000), (1, .ref 0), (2, .ref 58), (3, .int x3)] [.int r143] SH I142 79 1561 _
      refine go_aload_n dL_law_730 rfl 2 rfl ?_
      refine go_aload_n dL_law_731 rfl 0 rfl ?_
      refine go_iload_n dL_law_732 rfl 3 rfl ?_
      refine go_iconst dL_law_733 (v := (1 : Int32)) (by decide) ?_
      refine go_iadd dL_law_734 ?_
      refine go_sald dL_law_735 hb141 ?_
      refine go_vcall (Z := Y_X8_lose) (As := [.int (gXs G (nn (x3 + (1 : Int32))))]) (S := [.int r143]) dL_law_736 ok_X8_lose l_L_109 (by decide) sh_58 (by decide) (Nat.le_of_ble_eq_true rfl) rfl rfl rfl (Nat.le_of_ble_eq_true rfl) h (fun _ I144 _ hq => ?_)
      obtain ⟨rfl, r145, rfl, h⟩ := hq
      show Go G Y_L_law 739 [(0, .ref 1000), (1, .ref 0), (2, .ref 58), (3, .int x3)] [.int r145, .int r143] SH I144 79 1561 _
      refine go_icmp_eq (tgt := 963) dL_law_739 (by decide) (fun c146 => ?_) (fun c146 => ?_)
      · have h := h.1 c146
        refine go_iinc dL_law_963 3 rfl (v := (x3 + 6)) rfl (Nat.le_of_ble_eq_true rfl) (L2 := [(3, .int (x3 + 6)), (0, .ref 1000), (1, .ref 0), (2, .ref 58)]) rfl ?_
        refine go_goto (tgt := 18) dL_law_966 (by decide) ?_
        exact go_loc [(0, .ref 1000), (1, .ref 0), (2, .ref 58), (3, .int (x3 + 6))] [1, 2, 3, 0] rfl h
      · have h := h.2 c146
        refine go_iconst dL_law_742 (v := (0 : Int32)) (by decide) ?_
        exact go_zret dL_law_743 rfl rfl rfl (by decide) ⟨rfl, false, rfl, h⟩
    have h := h.2
    have c3_22 : ((gXs G (nn x3)) &&& (31 : Int32)) ≠ nI 22 := c3
    clear c3
    by_cases c3 : ((gXs G (nn x3)) &&& (31 : Int32)) = (23 : Int32)
    · have h := h.1 c3
      refine go_tIn (tgt := 744) dL_law_33 (by rw [c3]; decide) (by rw [c3]; decide) (by rw [c3] <;> rfl) (by decide) ?_
      refine go_aload_n dL_law_744 rfl 1 rfl ?_
      refine go_aload_n dL_law_745 rfl 0 rfl ?_
      refine go_iload_n dL_law_746 rfl 3 rfl ?_
      refine go_iconst dL_law_747 (v := (1 : Int32)) (by decide) ?_
      refine go_iadd dL_law_748 ?_
      have hb147 := h.1
      have h := h.2
      refine go_sald dL_law_749 hb147 ?_
      refine go_aload_n dL_law_750 rfl 0 rfl ?_
      refine go_iload_n dL_law_751 rfl 3 rfl ?_
      refine go_iconst dL_law_752 (v := (2 : Int32)) (by decide) ?_
      refine go_iadd dL_law_753 ?_
      have hb148 := h.1
      have h := h.2
      refine go_sald dL_law_754 hb148 ?_
      refine go_aload_n dL_law_755 rfl 0 rfl ?_
      refine go_iload_n dL_law_756 rfl 3 rfl ?_
      refine go_iconst dL_law_757 (v := (3 : Int32)) (by decide) ?_
      refine go_iadd dL_law_758 ?_
      have hb149 := h.1
      have h := h.2
      refine go_sald dL_law_759 hb149 ?_
      refine go_aload_n dL_law_760 rfl 0 rfl ?_
      refine go_iload_n dL_law_761 rfl 3 rfl ?_
      refine go_iconst dL_law_762 (v := (4 : Int32)) (by decide) ?_
      refine go_iadd dL_law_763 ?_
      have hb150 := h.1
      have h := h.2
      refine go_sald dL_law_764 hb150 ?_
      refine go_vcall (Z := Y_X7_lay) (As := [.int (gXs G (nn (x3 + (1 : Int32)))), .int (gXs G (nn (x3 + (2 : Int32)))), .int (gXs G (nn (x3 + (3 : Int32)))), .int (gXs G (nn (x3 + (4 : Int32))))]) (S := []) dL_law_765 ok_X7_lay l_L_110 (by decide) sh_0 (by decide) (Nat.le_of_ble_eq_true rfl) rfl rfl rfl (Nat.le_of_ble_eq_true rfl) h (fun _ I151 _ hq => ?_)
      obtain ⟨rfl, r152, rfl, h⟩ := hq
      show Go G Y_L_law 768 [(0, .ref 1000), (1, .ref 0), (2, .ref 58), (3, .int x3)] [.int r152] SH I151 79 1561 _
      refine go_aload_n dL_law_768 rfl 2 rfl ?_
      refine go_aload_n dL_law_769 rfl 0 rfl ?_
      refine go_iload_n dL_law_770 rfl 3 rfl ?_
      refine go_iconst dL_law_771 (v := (1 : Int32)) (by decide) ?_
      refine go_iadd dL_law_772 ?_
      refine go_sald dL_law_773 hb147 ?_
      refine go_aload_n dL_law_774 rfl 0 rfl ?_
      refine go_iload_n dL_law_775 rfl 3 rfl ?_
      refine go_iconst dL_law_776 (v := (2 : Int32)) (by decide) ?_
      refine go_iadd dL_law_777 ?_
      refine go_sald dL_law_778 hb148 ?_
      refine go_aload_n dL_law_779 rfl 0 rfl ?_
      refine go_iload_n dL_law_780 rfl 3 rfl ?_
      refine go_iconst dL_law_781 (v := (3 : Int32)) (by decide) ?_
      refine go_iadd dL_law_782 ?_
      refine go_sald dL_law_783 hb149 ?_
      refine go_aload_n dL_law_784 rfl 0 rfl ?_
      refine go_iload_n dL_law_785 rfl 3 rfl ?_
      refine go_iconst dL_law_786 (v := (4 : Int32)) (by decide) ?_
      refine go_iadd dL_law_787 ?_
      refine go_sald dL_law_788 hb150 ?_
      refine go_vcall (Z := Y_X8_lay) (As := [.int (gXs G (nn (x3 + (1 : Int32)))), .int (gXs G (nn (x3 + (2 : Int32)))), .int (gXs G (nn (x3 + (3 : Int32)))), .int (gXs G (nn (x3 + (4 : Int32))))]) (S := [.int r152]) dL_law_789 ok_X8_lay l_L_114 (by decide) sh_58 (by decide) (Nat.le_of_ble_eq_true rfl) rfl rfl rfl (Nat.le_of_ble_eq_true rfl) h (fun _ I153 _ hq => ?_)
      obtain ⟨rfl, r154, rfl, h⟩ := hq
      show Go G Y_L_law 792 [(0, .ref 1000), (1, .ref 0), (2, .ref 58), (3, .int x3)] [.int r154, .int r152] SH I153 79 1561 _
      refine go_icmp_eq (tgt := 963) dL_law_792 (by decide) (fun c155 => ?_) (fun c155 => ?_)
      · have h := h.1 c155
        refine go_iinc dL_law_963 3 rfl (v := (x3 + 6)) rfl (Nat.le_of_ble_eq_true rfl) (L2 := [(3, .int (x3 + 6)), (0, .ref 1000), (1, .ref 0), (2, .ref 58)]) rfl ?_
        refine go_goto (tgt := 18) dL_law_966 (by decide) ?_
        exact go_loc [(0, .ref 1000), (1, .ref 0), (2, .ref 58), (3, .int (x3 + 6))] [1, 2, 3, 0] rfl h
      · have h := h.2 c155
        refine go_iconst dL_law_795 (v := (0 : Int32)) (by decide) ?_
        exact go_zret dL_law_796 rfl rfl rfl (by decide) ⟨rfl, false, rfl, h⟩
    have h := h.2
    have c3_23 : ((gXs G (nn x3)) &&& (31 : Int32)) ≠ nI 23 := c3
    clear c3
    by_cases c3 : ((gXs G (nn x3)) &&& (31 : Int32)) = (24 : Int32)
    · have h := h.1 c3
      refine go_tIn (tgt := 797) dL_law_33 (by rw [c3]; decide) (by rw [c3]; decide) (by rw [c3] <;> rfl) (by decide) ?_
      refine go_aload_n dL_law_797 rfl 1 rfl ?_
      refine go_aload_n dL_law_798 rfl 0 rfl ?_
      refine go_iload_n dL_law_799 rfl 3 rfl ?_
      refine go_iconst dL_law_800 (v := (1 : Int32)) (by decide) ?_
      refine go_iadd dL_law_801 ?_
      have hb156 := h.1
      have h := h.2
      refine go_sald dL_law_802 hb156 ?_
      refine go_aload_n dL_law_803 rfl 0 rfl ?_
      refine go_iload_n dL_law_804 rfl 3 rfl ?_
      refine go_iconst dL_law_805 (v := (2 : Int32)) (by decide) ?_
      refine go_iadd dL_law_806 ?_
      have hb157 := h.1
      have h := h.2
      refine go_sald dL_law_807 hb157 ?_
      refine go_aload_n dL_law_808 rfl 0 rfl ?_
      refine go_iload_n dL_law_809 rfl 3 rfl ?_
      refine go_iconst dL_law_810 (v := (3 : Int32)) (by decide) ?_
      refine go_iadd dL_law_811 ?_
      have hb158 := h.1
      have h := h.2
      refine go_sald dL_law_812 hb158 ?_
      refine go_vcall (Z := Y_X7_get) (As := [.int (gXs G (nn (x3 + (1 : Int32)))), .int (gXs G (nn (x3 + (2 : Int32)))), .int (gXs G (nn (x3 + (3 : Int32))))]) (S := []) dL_law_813 ok_X7_get l_L_115 (by decide) sh_0 (by decide) (Nat.le_of_ble_eq_true rfl) rfl rfl rfl (Nat.le_of_ble_eq_true rfl) h (fun _ I159 _ hq => ?_)
      obtain ⟨rfl, r160, rfl, h⟩ := hq
      show Go G Y_L_law 816 [(0, .ref 1000), (1, .ref 0), (2, .ref 58), (3, .int x3)] [.int r160] SH I159 79 1561 _
      refine go_aload_n dL_law_816 rfl 2 rfl ?_
      refine go_aload_n dL_law_817 rfl 0 rfl ?_
      refine go_iload_n dL_law_818 rfl 3 rfl ?_
      refine go_iconst dL_law_819 (v := (1 : Int32)) (by decide) ?_
      refine go_iadd dL_law_820 ?_
      refine go_sald dL_law_821 hb156 ?_
      refine go_aload_n dL_law_822 rfl 0 rfl ?_
      refine go_iload_n dL_law_823 rfl 3 rfl ?_
      refine go_iconst dL_law_824 (v := (2 : Int32)) (by decide) ?_
      refine go_iadd dL_law_825 ?_
      refine go_sald dL_law_826 hb157 ?_
      refine go_aload_n dL_law_827 rfl 0 rfl ?_
      refine go_iload_n dL_law_828 rfl 3 rfl ?_
      refine go_iconst dL_law_829 (v := (3 : Int32)) (by decide) ?_
      refine go_iadd dL_law_830 ?_
      refine go_sald dL_law_831 hb158 ?_
      refine go_vcall (Z := Y_X8_get) (As := [.int (gXs G (nn (x3 + (1 : Int32)))), .int (gXs G (nn (x3 + (2 : Int32)))), .int (gXs G (nn (x3 + (3 : Int32))))]) (S := [.int r160]) dL_law_832 ok_X8_get l_L_118 (by decide) sh_58 (by decide) (Nat.le_of_ble_eq_true rfl) rfl rfl rfl (Nat.le_of_ble_eq_true rfl) h (fun _ I161 _ hq => ?_)
      obtain ⟨rfl, r162, rfl, h⟩ := hq
      show Go G Y_L_law 835 [(0, .ref 1000), (1, .ref 0), (2, .ref 58), (3, .int x3)] [.int r162, .int r160] SH I161 79 1561 _
      refine go_icmp_eq (tgt := 963) dL_law_835 (by decide) (fun c163 => ?_) (fun c163 => ?_)
      · have h := h.1 c163
        refine go_iinc dL_law_963 3 rfl (v := (x3 + 6)) rfl (Nat.le_of_ble_eq_true rfl) (L2 := [(3, .int (x3 + 6)), (0, .ref 1000), (1, .ref 0), (2, .ref 58)]) rfl ?_
        refine go_goto (tgt := 18) dL_law_966 (by decide) ?_
        exact go_loc [(0, .ref 1000), (1, .ref 0), (2, .ref 58), (3, .int (x3 + 6))] [1, 2, 3, 0] rfl h
      · have h := h.2 c163
        refine go_iconst dL_law_838 (v := (0 : Int32)) (by decide) ?_
        exact go_zret dL_law_839 rfl rfl rfl (by decide) ⟨rfl, false, rfl, h⟩
    have h := h.2
    have c3_24 : ((gXs G (nn x3)) &&& (31 : Int32)) ≠ nI 24 := c3
    clear c3
    by_cases c3 : ((gXs G (nn x3)) &&& (31 : Int32)) = (25 : Int32)
    · have h := h.1 c3
      refine go_tIn (tgt := 840) dL_law_33 (by rw [c3]; decide) (by rw [c3]; decide) (by rw [c3] <;> rfl) (by decide) ?_
      refine go_aload_n dL_law_840 rfl 1 rfl ?_
      refine go_aload_n dL_law_841 rfl 0 rfl ?_
      refine go_iload_n dL_law_842 rfl 3 rfl ?_
      refine go_iconst dL_law_843 (v := (1 : Int32)) (by decide) ?_
      refine go_iadd dL_law_844 ?_
      have hb164 := h.1
      have h := h.2
      refine go_sald dL_law_845 hb164 ?_
      refine go_aload_n dL_law_846 rfl 0 rfl ?_
      refine go_iload_n dL_law_847 rfl 3 rfl ?_
      refine go_iconst dL_law_848 (v := (2 : Int32)) (by decide) ?_
      refine go_iadd dL_law_849 ?_
      have hb165 := h.1
      have h := h.2
      refine go_sald dL_law_850 hb165 ?_
      refine go_aload_n dL_law_851 rfl 0 rfl ?_
      refine go_iload_n dL_law_852 rfl 3 rfl ?_
      refine go_iconst dL_law_853 (v := (3 : Int32)) (by decide) ?_
      refine go_iadd dL_law_854 ?_
      have hb166 := h.1
      have h := h.2
      refine go_sald dL_law_855 hb166 ?_
      refine go_aload_n dL_law_856 rfl 0 rfl ?_
      refine go_iload_n dL_law_857 rfl 3 rfl ?_
      refine go_iconst dL_law_858 (v := (4 : Int32)) (by decide) ?_
      refine go_iadd dL_law_859 ?_
      have hb167 := h.1
      have h := h.2
      refine go_sald dL_law_860 hb167 ?_
      refine go_aload_n dL_law_861 rfl 0 rfl ?_
      refine go_iload_n dL_law_862 rfl 3 rfl ?_
      refine go_iconst dL_law_863 (v := (5 : Int32)) (by decide) ?_
      refine go_iadd dL_law_864 ?_
      have hb168 := h.1
      have h := h.2
      refine go_sald dL_law_865 hb168 ?_
      refine go_vcall (Z := Y_X7_copy) (As := [.int (gXs G (nn (x3 + (1 : Int32)))), .int (gXs G (nn (x3 + (2 : Int32)))), .int (gXs G (nn (x3 + (3 : Int32)))), .int (gXs G (nn (x3 + (4 : Int32)))), .int (gXs G (nn (x3 + (5 : Int32))))]) (S := []) dL_law_866 ok_X7_copy l_L_119 (by decide) sh_0 (by decide) (Nat.le_of_ble_eq_true rfl) rfl rfl rfl (Nat.le_of_ble_eq_true rfl) h (fun _ I169 _ hq => ?_)
      obtain ⟨rfl, r170, rfl, h⟩ := hq
      show Go G Y_L_law 869 [(0, .ref 1000), (1, .ref 0), (2, .ref 58), (3, .int x3)] [.int r170] SH I169 79 1561 _
      refine go_aload_n dL_law_869 rfl 2 rfl ?_
      refine go_aload_n dL_law_870 rfl 0 rfl ?_
      refine go_iload_n dL_law_871 rfl 3 rfl ?_
      refine go_iconst dL_law_872 (v := (1 : Int32)) (by decide) ?_
      refine go_iadd dL_law_873 ?_
      refine go_sald dL_law_874 hb164 ?_
      refine go_aload_n dL_law_875 rfl 0 rfl ?_
      refine go_iload_n dL_law_876 rfl 3 rfl ?_
      refine go_iconst dL_law_877 (v := (2 : Int32)) (by decide) ?_
      refine go_iadd dL_law_878 ?_
      refine go_sald dL_law_879 hb165 ?_
      refine go_aload_n dL_law_880 rfl 0 rfl ?_
      refine go_iload_n dL_law_881 rfl 3 rfl ?_
      refine go_iconst dL_law_882 (v := (3 : Int32)) (by decide) ?_
      refine go_iadd dL_law_883 ?_
      refine go_sald dL_law_884 hb166 ?_
      refine go_aload_n dL_law_885 rfl 0 rfl ?_
      refine go_iload_n dL_law_886 rfl 3 rfl ?_
      refine go_iconst dL_law_887 (v := (4 : Int32)) (by decide) ?_
      refine go_iadd dL_law_888 ?_
      refine go_sald dL_law_889 hb167 ?_
      refine go_aload_n dL_law_890 rfl 0 rfl ?_
      refine go_iload_n dL_law_891 rfl 3 rfl ?_
      refine go_iconst dL_law_892 (v := (5 : Int32)) (by decide) ?_
      refine go_iadd dL_law_893 ?_
      refine go_sald dL_law_894 hb168 ?_
      refine go_vcall (Z := Y_X8_copy) (As := [.int (gXs G (nn (x3 + (1 : Int32)))), .int (gXs G (nn (x3 + (2 : Int32)))), .int (gXs G (nn (x3 + (3 : Int32)))), .int (gXs G (nn (x3 + (4 : Int32)))), .int (gXs G (nn (x3 + (5 : Int32))))]) (S := [.int r170]) dL_law_895 ok_X8_copy l_L_123 (by decide) sh_58 (by decide) (Nat.le_of_ble_eq_true rfl) rfl rfl rfl (Nat.le_of_ble_eq_true rfl) h (fun _ I171 _ hq => ?_)
      obtain ⟨rfl, r172, rfl, h⟩ := hq
      show Go G Y_L_law 898 [(0, .ref 1000), (1, .ref 0), (2, .ref 58), (3, .int x3)] [.int r172, .int r170] SH I171 79 1561 _
      refine go_icmp_eq (tgt := 963) dL_law_898 (by decide) (fun c173 => ?_) (fun c173 => ?_)
      · have h := h.1 c173
        refine go_iinc dL_law_963 3 rfl (v := (x3 + 6)) rfl (Nat.le_of_ble_eq_true rfl) (L2 := [(3, .int (x3 + 6)), (0, .ref 1000), (1, .ref 0), (2, .ref 58)]) rfl ?_
        refine go_goto (tgt := 18) dL_law_966 (by decide) ?_
        exact go_loc [(0, .ref 1000), (1, .ref 0), (2, .ref 58), (3, .int (x3 + 6))] [1, 2, 3, 0] rfl h
      · have h := h.2 c173
        refine go_iconst dL_law_901 (v := (0 : Int32)) (by decide) ?_
        exact go_zret dL_law_902 rfl rfl rfl (by decide) ⟨rfl, false, rfl, h⟩
    have h := h.2
    have c3_25 : ((gXs G (nn x3)) &&& (31 : Int32)) ≠ nI 25 := c3
    clear c3
    by_cases c3 : ((gXs G (nn x3)) &&& (31 : Int32)) = (26 : Int32)
    · have h := h.1 c3
      refine go_tIn (tgt := 903) dL_law_33 (by rw [c3]; decide) (by rw [c3]; decide) (by rw [c3] <;> rfl) (by decide) ?_
      refine go_aload_n dL_law_903 rfl 1 rfl ?_
      refine go_aload_n dL_law_904 rfl 0 rfl ?_
      refine go_iload_n dL_law_905 rfl 3 rfl ?_
      refine go_iconst dL_law_906 (v := (1 : Int32)) (by decide) ?_
      refine go_iadd dL_law_907 ?_
      have hb174 := h.1
      have h := h.2
      refine go_sald dL_law_908 hb174 ?_
      refine go_vcall (Z := Y_X7_write) (As := [.int (gXs G (nn (x3 + (1 : Int32))))]) (S := []) dL_law_909 ok_X7_write l_L_124 (by decide) sh_0 (by decide) (Nat.le_of_ble_eq_true rfl) rfl rfl rfl (Nat.le_of_ble_eq_true rfl) h (fun _ I175 _ hq => ?_)
      obtain ⟨rfl, r176, rfl, h⟩ := hq
      show Go G Y_L_law 912 [(0, .ref 1000), (1, .ref 0), (2, .ref 58), (3, .int x3)] [.int r176] SH I175 79 1561 _
      refine go_aload_n dL_law_912 rfl 2 rfl ?_
      refine go_aload_n dL_law_913 rfl 0 rfl ?_
      refine go_iload_n dL_law_914 rfl 3 rfl ?_
      refine go_iconst dL_law_915 (v := (1 : Int32)) (by decide) ?_
      refine go_iadd dL_law_916 ?_
      refine go_sald dL_law_917 hb174 ?_
      refine go_vcall (Z := Y_X8_write) (As := [.int (gXs G (nn (x3 + (1 : Int32))))]) (S := [.int r176]) dL_law_918 ok_X8_write l_L_127 (by decide) sh_58 (by decide) (Nat.le_of_ble_eq_true rfl) rfl rfl rfl (Nat.le_of_ble_eq_true rfl) h (fun _ I177 _ hq => ?_)
      obtain ⟨rfl, r178, rfl, h⟩ := hq
      show Go G Y_L_law 921 [(0, .ref 1000), (1, .ref 0), (2, .ref 58), (3, .int x3)] [.int r178, .int r176] SH I177 79 1561 _
      refine go_icmp_eq (tgt := 963) dL_law_921 (by decide) (fun c179 => ?_) (fun c179 => ?_)
      · have h := h.1 c179
        refine go_iinc dL_law_963 3 rfl (v := (x3 + 6)) rfl (Nat.le_of_ble_eq_true rfl) (L2 := [(3, .int (x3 + 6)), (0, .ref 1000), (1, .ref 0), (2, .ref 58)]) rfl ?_
        refine go_goto (tgt := 18) dL_law_966 (by decide) ?_
        exact go_loc [(0, .ref 1000), (1, .ref 0), (2, .ref 58), (3, .int (x3 + 6))] [1, 2, 3, 0] rfl h
      · have h := h.2 c179
        refine go_iconst dL_law_924 (v := (0 : Int32)) (by decide) ?_
        exact go_zret dL_law_925 rfl rfl rfl (by decide) ⟨rfl, false, rfl, h⟩
    have h := h.2
    have c3_26 : ((gXs G (nn x3)) &&& (31 : Int32)) ≠ nI 26 := c3
    clear c3
    by_cases c3 : ((gXs G (nn x3)) &&& (31 : Int32)) = (27 : Int32)
    · have h := h.1 c3
      refine go_tIn (tgt := 926) dL_law_33 (by rw [c3]; decide) (by rw [c3]; decide) (by rw [c3] <;> rfl) (by decide) ?_
      refine go_aload_n dL_law_926 rfl 1 rfl ?_
      refine go_aload_n dL_law_927 rfl 0 rfl ?_
      refine go_iload_n dL_law_928 rfl 3 rfl ?_
      refine go_iconst dL_law_929 (v := (1 : Int32)) (by decide) ?_
      refine go_iadd dL_law_930 ?_
      have hb180 := h.1
      have h := h.2
      refine go_sald dL_law_931 hb180 ?_
      refine go_vcall (Z := Y_X7_count) (As := [.int (gXs G (nn (x3 + (1 : Int32))))]) (S := []) dL_law_932 ok_X7_count l_L_128 (by decide) sh_0 (by decide) (Nat.le_of_ble_eq_true rfl) rfl rfl rfl (Nat.le_of_ble_eq_true rfl) h (fun _ I181 _ hq => ?_)
      obtain ⟨rfl, r182, rfl, h⟩ := hq
      show Go G Y_L_law 935 [(0, .ref 1000), (1, .ref 0), (2, .ref 58), (3, .int x3)] [.int r182] SH I181 79 1561 _
      refine go_aload_n dL_law_935 rfl 2 rfl ?_
      refine go_aload_n dL_law_936 rfl 0 rfl ?_
      refine go_iload_n dL_law_937 rfl 3 rfl ?_
      refine go_iconst dL_law_938 (v := (1 : Int32)) (by decide) ?_
      refine go_iadd dL_law_939 ?_
      refine go_sald dL_law_940 hb180 ?_
      refine go_vcall (Z := Y_X8_count) (As := [.int (gXs G (nn (x3 + (1 : Int32))))]) (S := [.int r182]) dL_law_941 ok_X8_count l_L_131 (by decide) sh_58 (by decide) (Nat.le_of_ble_eq_true rfl) rfl rfl rfl (Nat.le_of_ble_eq_true rfl) h (fun _ I183 _ hq => ?_)
      obtain ⟨rfl, r184, rfl, h⟩ := hq
      show Go G Y_L_law 944 [(0, .ref 1000), (1, .ref 0), (2, .ref 58), (3, .int x3)] [.int r184, .int r182] SH I183 79 1561 _
      refine go_icmp_eq (tgt := 963) dL_law_944 (by decide) (fun c185 => ?_) (fun c185 => ?_)
      · have h := h.1 c185
        refine go_iinc dL_law_963 3 rfl (v := (x3 + 6)) rfl (Nat.le_of_ble_eq_true rfl) (L2 := [(3, .int (x3 + 6)), (0, .ref 1000), (1, .ref 0), (2, .ref 58)]) rfl ?_
        refine go_goto (tgt := 18) dL_law_966 (by decide) ?_
        exact go_loc [(0, .ref 1000), (1, .ref 0), (2, .ref 58), (3, .int (x3 + 6))] [1, 2, 3, 0] rfl h
      · have h := h.2 c185
        refine go_iconst dL_law_947 (v := (0 : Int32)) (by decide) ?_
        exact go_zret dL_law_948 rfl rfl rfl (by decide) ⟨rfl, false, rfl, h⟩
    have h := h.2
    have c3_27 : ((gXs G (nn x3)) &&& (31 : Int32)) ≠ nI 27 := c3
    clear c3
    by_cases c3 : ((gXs G (nn x3)) &&& (31 : Int32)) = (28 : Int32)
    · have h := h.1 c3
      refine go_tIn (tgt := 949) dL_law_33 (by rw [c3]; decide) (by rw [c3]; decide) (by rw [c3] <;> rfl) (by decide) ?_
      refine go_aload_n dL_law_949 rfl 1 rfl ?_
      refine go_vcall (Z := Y_X7_digest) (As := []) (S := []) dL_law_950 ok_X7_digest l_L_132 (by decide) sh_0 (by decide) (Nat.le_of_ble_eq_true rfl) rfl rfl rfl (Nat.le_of_ble_eq_true rfl) h (fun _ I186 _ hq => ?_)
      obtain ⟨rfl, r187, rfl, h⟩ := hq
      show Go G Y_L_law 953 [(0, .ref 1000), (1, .ref 0), (2, .ref 58), (3, .int x3)] [.long r187] SH I186 79 1561 _
      refine go_aload_n dL_law_953 rfl 2 rfl ?_
      refine go_vcall (Z := Y_X8_digest) (As := []) (S := [.long r187]) dL_law_954 ok_X8_digest l_L_136 (by decide) sh_58 (by decide) (Nat.le_of_ble_eq_true rfl) rfl rfl rfl (Nat.le_of_ble_eq_true rfl) h (fun _ I188 _ hq => ?_)
      obtain ⟨rfl, r189, rfl, h⟩ := hq
      show Go G Y_L_law 957 [(0, .ref 1000), (1, .ref 0), (2, .ref 58), (3, .int x3)] [.long r189, .long r187] SH I188 79 1561 _
      refine go_lcmp dL_law_957 ?_
      refine go_if_eq (tgt := 963) dL_law_958 (by decide) (fun c190 => ?_) (fun c190 => ?_)
      · have h := h.1 c190
        refine go_iinc dL_law_963 3 rfl (v := (x3 + 6)) rfl (Nat.le_of_ble_eq_true rfl) (L2 := [(3, .int (x3 + 6)), (0, .ref 1000), (1, .ref 0), (2, .ref 58)]) rfl ?_
        refine go_goto (tgt := 18) dL_law_966 (by decide) ?_
        exact go_loc [(0, .ref 1000), (1, .ref 0), (2, .ref 58), (3, .int (x3 + 6))] [1, 2, 3, 0] rfl h
      · have h := h.2 c190
        refine go_iconst dL_law_961 (v := (0 : Int32)) (by decide) ?_
        exact go_zret dL_law_962 rfl rfl rfl (by decide) ⟨rfl, false, rfl, h⟩
    have h := h.2
    have c3_28 : ((gXs G (nn x3)) &&& (31 : Int32)) ≠ nI 28 := c3
    clear c3
    have hb191 : ∀ j : Nat, j < 29 → ((gXs G (nn x3)) &&& (31 : Int32)) ≠ nI j := by
      intro j hj
      rcases (show j = 0 ∨ j = 1 ∨ j = 2 ∨ j = 3 ∨ j = 4 ∨ j = 5 ∨ j = 6 ∨ j = 7 ∨ j = 8 ∨ j = 9 ∨ j = 10 ∨ j = 11 ∨ j = 12 ∨ j = 13 ∨ j = 14 ∨ j = 15 ∨ j = 16 ∨ j = 17 ∨ j = 18 ∨ j = 19 ∨ j = 20 ∨ j = 21 ∨ j = 22 ∨ j = 23 ∨ j = 24 ∨ j = 25 ∨ j = 26 ∨ j = 27 ∨ j = 28 by omega) with rfl | rfl | rfl | rfl | rfl | rfl | rfl | rfl | rfl | rfl | rfl | rfl | rfl | rfl | rfl | rfl | rfl | rfl | rfl | rfl | rfl | rfl | rfl | rfl | rfl | rfl | rfl | rfl | rfl
      · exact c3_0
      · exact c3_1
      · exact c3_2
      · exact c3_3
      · exact c3_4
      · exact c3_5
      · exact c3_6
      · exact c3_7
      · exact c3_8
      · exact c3_9
      · exact c3_10
      · exact c3_11
      · exact c3_12
      · exact c3_13
      · exact c3_14
      · exact c3_15
      · exact c3_16
      · exact c3_17
      · exact c3_18
      · exact c3_19
      · exact c3_20
      · exact c3_21
      · exact c3_22
      · exact c3_23
      · exact c3_24
      · exact c3_25
      · exact c3_26
      · exact c3_27
      · exact c3_28
    have h := h hb191
    refine go_tOut (tgt := 963) dL_law_33 (sw_out (n := 29) (by decide) hb191) (by decide) ?_
    refine go_iinc dL_law_963 3 rfl (v := (x3 + 6)) rfl (Nat.le_of_ble_eq_true rfl) (L2 := [(3, .int (x3 + 6)), (0, .ref 1000), (1, .ref 0), (2, .ref 58)]) rfl ?_
    refine go_goto (tgt := 18) dL_law_966 (by decide) ?_
    exact go_loc [(0, .ref 1000), (1, .ref 0), (2, .ref 58), (3, .int (x3 + 6))] [1, 2, 3, 0] rfl h
