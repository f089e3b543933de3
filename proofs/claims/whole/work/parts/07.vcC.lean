set_option maxRecDepth 100000 in
set_option maxHeartbeats 4000000 in
theorem v_X7_type {G : CX} {a1 : Int32} {a2 : Int32}  {I : HP} {Q : HP → Int32 → Prop} (h : RZ G Y_X7_isText [.int a1] I (fun I1 r2 => (((bI r2) = 0) → (Q I1 (-2 : Int32))) ∧ ((¬ (bI r2) = 0) → (((a2 < 0) → (Q I1 (-2 : Int32))) ∧ ((¬ a2 < 0) → (((a2 ≤ (255 : Int32)) → (RA G Y_X7_scriptOf [.ref 0, .int a1] I1 (fun I6 r7 => isScr r7 ∧ (RZ G Y_X2_isFull [.ref r7] I6 (fun I8 r9 => (((bI r9) = 0) → (RV G Y_X2_append [.ref r7, .int a2] I8 (fun I11 => RV G Y_X7_tellAnew [.ref 0] I11 (fun I12 => Q I12 (I12 r7 1))))) ∧ ((¬ (bI r9) = 0) → (Q I8 (-4 : Int32)))))))) ∧ ((¬ a2 ≤ (255 : Int32)) → (Q I1 (-2 : Int32))))))))) : RI G Y_X7_type [.ref 0, .int a1, .int a2] I Q := by
  refine ret_of (show plainName RX7 = true by decide) (Nat.le_of_ble_eq_true rfl) ?_
  show Go G Y_X7_type 0 [(0, .ref 0), (1, .int a1), (2, .int a2)] [] SH I 0 0 _
  refine go_iload_n dX7_type_0 rfl 1 rfl ?_
  refine go_scall (Z := Y_X7_isText) (As := [.int a1]) (S := []) dX7_type_1 ok_X7_isText l_X7_67 (by decide) rfl rfl (Nat.le_of_ble_eq_true rfl) h (fun _ I1 _ hq => ?_)
  obtain ⟨rfl, r2, rfl, h⟩ := hq
  show Go G Y_X7_type 4 [(0, .ref 0), (1, .int a1), (2, .int a2)] [.int (bI r2)] SH I1 0 0 _
  refine go_if_eq (tgt := 18) dX7_type_4 (by decide) (fun c3 => ?_) (fun c3 => ?_)
  · have h := h.1 c3
    refine go_bipush dX7_type_18 (v := (-2 : Int32)) (by decide) ?_
    exact go_iret dX7_type_20 rfl rfl (by decide) ⟨rfl, _, rfl, h⟩
  · have h := h.2 c3
    refine go_iload_n dX7_type_7 rfl 2 rfl ?_
    refine go_if_lt (tgt := 18) dX7_type_8 (by decide) (fun c4 => ?_) (fun c4 => ?_)
    · have h := h.1 c4
      refine go_bipush dX7_type_18 (v := (-2 : Int32)) (by decide) ?_
      exact go_iret dX7_type_20 rfl rfl (by decide) ⟨rfl, _, rfl, h⟩
    · have h := h.2 c4
      refine go_iload_n dX7_type_11 rfl 2 rfl ?_
      refine go_sipush dX7_type_12 (v := (255 : Int32)) (by decide) ?_
      refine go_icmp_le (tgt := 21) dX7_type_15 (by decide) (fun c5 => ?_) (fun c5 => ?_)
      · have h := h.1 c5
        refine go_aload_n dX7_type_21 rfl 0 rfl ?_
        refine go_iload_n dX7_type_22 rfl 1 rfl ?_
        refine go_vcall (Z := Y_X7_scriptOf) (As := [.int a1]) (S := []) dX7_type_23 ok_X7_scriptOf l_X7_71 (by decide) sh_0 (by decide) (Nat.le_of_ble_eq_true rfl) rfl rfl rfl (Nat.le_of_ble_eq_true rfl) h (fun _ I6 _ hq => ?_)
        obtain ⟨rfl, r7, rfl, h⟩ := hq
        have hr7 := h.1
        have h := h.2
        show Go G Y_X7_type 26 [(0, .ref 0), (1, .int a1), (2, .int a2)] [.ref r7] SH I6 0 0 _
        refine go_astore_n dX7_type_26 rfl (Nat.le_of_ble_eq_true rfl) (L2 := [(3, .ref r7), (0, .ref 0), (1, .int a1), (2, .int a2)]) rfl ?_
        refine go_aload_n dX7_type_27 rfl 0 rfl ?_
        refine go_vcall (Z := Y_X2_isFull) (As := []) (S := []) dX7_type_28 ok_X2_isFull l_X7_75 (by decide) (scr_sh hr7) (SH_lt (scr_sh hr7)) (Nat.le_of_ble_eq_true rfl) rfl rfl rfl (Nat.le_of_ble_eq_true rfl) h (fun _ I8 _ hq => ?_)
        obtain ⟨rfl, r9, rfl, h⟩ := hq
        show Go G Y_X7_type 31 [(3, .ref r7), (0, .ref 0), (1, .int a1), (2, .int a2)] [.int (bI r9)] SH I8 0 0 _
        refine go_if_eq (tgt := 37) dX7_type_31 (by decide) (fun c10 => ?_) (fun c10 => ?_)
        · have h := h.1 c10
          refine go_aload_n dX7_type_37 rfl 0 rfl ?_
          refine go_iload_n dX7_type_38 rfl 3 rfl ?_
          refine go_vcall (Z := Y_X2_append) (As := [.int a2]) (S := []) dX7_type_39 ok_X2_append l_X7_79 (by decide) (scr_sh hr7) (SH_lt (scr_sh hr7)) (Nat.le_of_ble_eq_true rfl) rfl rfl rfl (Nat.le_of_ble_eq_true rfl) h (fun _ I11 _ hq => ?_)
          obtain ⟨rfl, rfl, h⟩ := hq
          show Go G Y_X7_type 42 [(3, .ref r7), (0, .ref 0), (1, .int a1), (2, .int a2)] [] SH I11 0 0 _
          refine go_aload_n dX7_type_42 rfl 1 rfl ?_
          refine go_vcall (Z := Y_X7_tellAnew) (As := []) (S := []) dX7_type_43 ok_X7_tellAnew l_X7_82 (by decide) sh_0 (by decide) (Nat.le_of_ble_eq_true rfl) rfl rfl rfl (Nat.le_of_ble_eq_true rfl) h (fun _ I12 _ hq => ?_)
          obtain ⟨rfl, rfl, h⟩ := hq
          show Go G Y_X7_type 46 [(3, .ref r7), (0, .ref 0), (1, .int a1), (2, .int a2)] [] SH I12 0 0 _
          refine go_aload_n dX7_type_46 rfl 0 rfl ?_
          refine go_getI dX7_type_47 (scr_sh hr7) (SH_lt (scr_sh hr7)) f_X7_85 ⟨Nat.le_of_ble_eq_true rfl, Nat.le_of_ble_eq_true rfl, rfl⟩ ?_
          exact go_iret dX7_type_50 rfl rfl (by decide) ⟨rfl, _, rfl, h⟩
        · have h := h.2 c10
          refine go_bipush dX7_type_34 (v := (-4 : Int32)) (by decide) ?_
          exact go_iret dX7_type_36 rfl rfl (by decide) ⟨rfl, _, rfl, h⟩
      · have h := h.2 c5
        refine go_bipush dX7_type_18 (v := (-2 : Int32)) (by decide) ?_
        exact go_iret dX7_type_20 rfl rfl (by decide) ⟨rfl, _, rfl, h⟩
set_option maxRecDepth 100000 in
set_option maxHeartbeats 4000000 in
theorem v_X7_wipe {G : CX} {a1 : Int32}  {I : HP} {Q : HP → Int32 → Prop} (h : RZ G Y_X7_isText [.int a1] I (fun I1 r2 => ((¬ (bI r2) = 0) → (RA G Y_X7_scriptOf [.ref 0, .int a1] I1 (fun I4 r5 => isScr r5 ∧ (RV G Y_X2_shorten [.ref r5, .int (0 : Int32)] I4 (fun I6 => RV G Y_X7_tellAnew [.ref 0] I6 (fun I7 => Q I7 (I4 r5 1))))))) ∧ (((bI r2) = 0) → (Q I1 (-2 : Int32))))) : RI G Y_X7_wipe [.ref 0, .int a1] I Q := by
  refine ret_of (show plainName RX7 = true by decide) (Nat.le_of_ble_eq_true rfl) ?_
  show Go G Y_X7_wipe 0 [(0, .ref 0), (1, .int a1)] [] SH I 0 0 _
  refine go_iload_n dX7_wipe_0 rfl 1 rfl ?_
  refine go_scall (Z := Y_X7_isText) (As := [.int a1]) (S := []) dX7_wipe_1 ok_X7_isText l_X7_67 (by decide) rfl rfl (Nat.le_of_ble_eq_true rfl) h (fun _ I1 _ hq => ?_)
  obtain ⟨rfl, r2, rfl, h⟩ := hq
  show Go G Y_X7_wipe 4 [(0, .ref 0), (1, .int a1)] [.int (bI r2)] SH I1 0 0 _
  refine go_if_ne (tgt := 10) dX7_wipe_4 (by decide) (fun c3 => ?_) (fun c3 => ?_)
  · have h := h.1 c3
    refine go_aload_n dX7_wipe_10 rfl 0 rfl ?_
    refine go_iload_n dX7_wipe_11 rfl 1 rfl ?_
    refine go_vcall (Z := Y_X7_scriptOf) (As := [.int a1]) (S := []) dX7_wipe_12 ok_X7_scriptOf l_X7_71 (by decide) sh_0 (by decide) (Nat.le_of_ble_eq_true rfl) rfl rfl rfl (Nat.le_of_ble_eq_true rfl) h (fun _ I4 _ hq => ?_)
    obtain ⟨rfl, r5, rfl, h⟩ := hq
    have hr5 := h.1
    have h := h.2
    show Go G Y_X7_wipe 15 [(0, .ref 0), (1, .int a1)] [.ref r5] SH I4 0 0 _
    refine go_astore_n dX7_wipe_15 rfl (Nat.le_of_ble_eq_true rfl) (L2 := [(2, .ref r5), (0, .ref 0), (1, .int a1)]) rfl ?_
    refine go_aload_n dX7_wipe_16 rfl 0 rfl ?_
    refine go_getI dX7_wipe_17 (scr_sh hr5) (SH_lt (scr_sh hr5)) f_X7_85 ⟨Nat.le_of_ble_eq_true rfl, Nat.le_of_ble_eq_true rfl, rfl⟩ ?_
    refine go_istore_n dX7_wipe_20 rfl (Nat.le_of_ble_eq_true rfl) (L2 := [(3, .int (I4 r5 1)), (2, .ref r5), (0, .ref 0), (1, .int a1)]) rfl ?_
    refine go_aload_n dX7_wipe_21 rfl 1 rfl ?_
    refine go_iconst dX7_wipe_22 (v := (0 : Int32)) (by decide) ?_
    refine go_vcall (Z := Y_X2_shorten) (As := [.int (0 : Int32)]) (S := []) dX7_wipe_23 ok_X2_shorten l_X7_89 (by decide) (scr_sh hr5) (SH_lt (scr_sh hr5)) (Nat.le_of_ble_eq_true rfl) rfl rfl rfl (Nat.le_of_ble_eq_true rfl) h (fun _ I6 _ hq => ?_)
    obtain ⟨rfl, rfl, h⟩ := hq
    show Go G Y_X7_wipe 26 [(3, .int (I4 r5 1)), (2, .ref r5), (0, .ref 0), (1, .int a1)] [] SH I6 0 0 _
    refine go_aload_n dX7_wipe_26 rfl 2 rfl ?_
    refine go_vcall (Z := Y_X7_tellAnew) (As := []) (S := []) dX7_wipe_27 ok_X7_tellAnew l_X7_82 (by decide) sh_0 (by decide) (Nat.le_of_ble_eq_true rfl) rfl rfl rfl (Nat.le_of_ble_eq_true rfl) h (fun _ I7 _ hq => ?_)
    obtain ⟨rfl, rfl, h⟩ := hq
    show Go G Y_X7_wipe 30 [(3, .int (I4 r5 1)), (2, .ref r5), (0, .ref 0), (1, .int a1)] [] SH I7 0 0 _
    refine go_iload_n dX7_wipe_30 rfl 0 rfl ?_
    exact go_iret dX7_wipe_31 rfl rfl (by decide) ⟨rfl, _, rfl, h⟩
  · have h := h.2 c3
    refine go_bipush dX7_wipe_7 (v := (-2 : Int32)) (by decide) ?_
    exact go_iret dX7_wipe_9 rfl rfl (by decide) ⟨rfl, _, rfl, h⟩
set_option maxRecDepth 100000 in
set_option maxHeartbeats 4000000 in
theorem v_X7_undo {G : CX} {a1 : Int32}  {I : HP} {Q : HP → Int32 → Prop} (h : RZ G Y_X7_isText [.int a1] I (fun I1 r2 => ((¬ (bI r2) = 0) → (RA G Y_X7_scriptOf [.ref 0, .int a1] I1 (fun I4 r5 => isScr r5 ∧ (((¬ (I4 r5 3) = 0) → (RV G Y_X2_dropLastVerse [.ref r5] I4 (fun I7 => RV G Y_X7_tellAnew [.ref 0] I7 (fun I8 => Q I8 (I8 r5 3))))) ∧ (((I4 r5 3) = 0) → (Q I4 (-3 : Int32))))))) ∧ (((bI r2) = 0) → (Q I1 (-2 : Int32))))) : RI G Y_X7_undo [.ref 0, .int a1] I Q := by
  refine ret_of (show plainName RX7 = true by decide) (Nat.le_of_ble_eq_true rfl) ?_
  show Go G Y_X7_undo 0 [(0, .ref 0), (1, .int a1)] [] SH I 0 0 _
  refine go_iload_n dX7_undo_0 rfl 1 rfl ?_
  refine go_scall (Z := Y_X7_isText) (As := [.int a1]) (S := []) dX7_undo_1 ok_X7_isText l_X7_67 (by decide) rfl rfl (Nat.le_of_ble_eq_true rfl) h (fun _ I1 _ hq => ?_)
  obtain ⟨rfl, r2, rfl, h⟩ := hq
  show Go G Y_X7_undo 4 [(0, .ref 0), (1, .int a1)] [.int (bI r2)] SH I1 0 0 _
  refine go_if_ne (tgt := 10) dX7_undo_4 (by decide) (fun c3 => ?_) (fun c3 => ?_)
  · have h := h.1 c3
    refine go_aload_n dX7_undo_10 rfl 0 rfl ?_
    refine go_iload_n dX7_undo_11 rfl 1 rfl ?_
    refine go_vcall (Z := Y_X7_scriptOf) (As := [.int a1]) (S := []) dX7_undo_12 ok_X7_scriptOf l_X7_71 (by decide) sh_0 (by decide) (Nat.le_of_ble_eq_true rfl) rfl rfl rfl (Nat.le_of_ble_eq_true rfl) h (fun _ I4 _ hq => ?_)
    obtain ⟨rfl, r5, rfl, h⟩ := hq
    have hr5 := h.1
    have h := h.2
    show Go G Y_X7_undo 15 [(0, .ref 0), (1, .int a1)] [.ref r5] SH I4 0 0 _
    refine go_astore_n dX7_undo_15 rfl (Nat.le_of_ble_eq_true rfl) (L2 := [(2, .ref r5), (0, .ref 0), (1, .int a1)]) rfl ?_
    refine go_aload_n dX7_undo_16 rfl 0 rfl ?_
    refine go_getI dX7_undo_17 (scr_sh hr5) (SH_lt (scr_sh hr5)) f_X7_92 ⟨Nat.le_of_ble_eq_true rfl, Nat.le_of_ble_eq_true rfl, rfl⟩ ?_
    refine go_if_ne (tgt := 26) dX7_undo_20 (by decide) (fun c6 => ?_) (fun c6 => ?_)
    · have h := h.1 c6
      refine go_aload_n dX7_undo_26 rfl 0 rfl ?_
      refine go_vcall (Z := Y_X2_dropLastVerse) (As := []) (S := []) dX7_undo_27 ok_X2_dropLastVerse l_X7_95 (by decide) (scr_sh hr5) (SH_lt (scr_sh hr5)) (Nat.le_of_ble_eq_true rfl) rfl rfl rfl (Nat.le_of_ble_eq_true rfl) h (fun _ I7 _ hq => ?_)
      obtain ⟨rfl, rfl, h⟩ := hq
      show Go G Y_X7_undo 30 [(2, .ref r5), (0, .ref 0), (1, .int a1)] [] SH I7 0 0 _
      refine go_aload_n dX7_undo_30 rfl 1 rfl ?_
      refine go_vcall (Z := Y_X7_tellAnew) (As := []) (S := []) dX7_undo_31 ok_X7_tellAnew l_X7_82 (by decide) sh_0 (by decide) (Nat.le_of_ble_eq_true rfl) rfl rfl rfl (Nat.le_of_ble_eq_true rfl) h (fun _ I8 _ hq => ?_)
      obtain ⟨rfl, rfl, h⟩ := hq
      show Go G Y_X7_undo 34 [(2, .ref r5), (0, .ref 0), (1, .int a1)] [] SH I8 0 0 _
      refine go_aload_n dX7_undo_34 rfl 0 rfl ?_
      refine go_getI dX7_undo_35 (scr_sh hr5) (SH_lt (scr_sh hr5)) f_X7_92 ⟨Nat.le_of_ble_eq_true rfl, Nat.le_of_ble_eq_true rfl, rfl⟩ ?_
      exact go_iret dX7_undo_38 rfl rfl (by decide) ⟨rfl, _, rfl, h⟩
    · have h := h.2 c6
      refine go_bipush dX7_undo_23 (v := (-3 : Int32)) (by decide) ?_
      exact go_iret dX7_undo_25 rfl rfl (by decide) ⟨rfl, _, rfl, h⟩
  · have h := h.2 c3
    refine go_bipush dX7_undo_7 (v := (-2 : Int32)) (by decide) ?_
    exact go_iret dX7_undo_9 rfl rfl (by decide) ⟨rfl, _, rfl, h⟩
set_option maxRecDepth 100000 in
set_option maxHeartbeats 4000000 in
theorem v_X7_fault {G : CX} {a1 : Int32}  {I : HP} {Q : HP → Int32 → Prop} (h : RZ G Y_X7_isText [.int a1] I (fun I1 r2 => (((bI r2) = 0) → (Q I1 (-2 : Int32))) ∧ ((¬ (bI r2) = 0) → (RA G Y_X7_scriptOf [.ref 0, .int a1] I1 (fun I4 r5 => isScr r5 ∧ (Q I4 (I4 r5 2))))))) : RI G Y_X7_fault [.ref 0, .int a1] I Q := by
  refine ret_of (show plainName RX7 = true by decide) (Nat.le_of_ble_eq_true rfl) ?_
  show Go G Y_X7_fault 0 [(0, .ref 0), (1, .int a1)] [] SH I 0 0 _
  refine go_iload_n dX7_fault_0 rfl 1 rfl ?_
  refine go_scall (Z := Y_X7_isText) (As := [.int a1]) (S := []) dX7_fault_1 ok_X7_isText l_X7_67 (by decide) rfl rfl (Nat.le_of_ble_eq_true rfl) h (fun _ I1 _ hq => ?_)
  obtain ⟨rfl, r2, rfl, h⟩ := hq
  show Go G Y_X7_fault 4 [(0, .ref 0), (1, .int a1)] [.int (bI r2)] SH I1 0 0 _
  refine go_if_eq (tgt := 18) dX7_fault_4 (by decide) (fun c3 => ?_) (fun c3 => ?_)
  · have h := h.1 c3
    refine go_bipush dX7_fault_18 (v := (-2 : Int32)) (by decide) ?_
    exact go_iret dX7_fault_20 rfl rfl (by decide) ⟨rfl, _, rfl, h⟩
  · have h := h.2 c3
    refine go_aload_n dX7_fault_7 rfl 0 rfl ?_
    refine go_iload_n dX7_fault_8 rfl 1 rfl ?_
    refine go_vcall (Z := Y_X7_scriptOf) (As := [.int a1]) (S := []) dX7_fault_9 ok_X7_scriptOf l_X7_71 (by decide) sh_0 (by decide) (Nat.le_of_ble_eq_true rfl) rfl rfl rfl (Nat.le_of_ble_eq_true rfl) h (fun _ I4 _ hq => ?_)
    obtain ⟨rfl, r5, rfl, h⟩ := hq
    have hr5 := h.1
    have h := h.2
    show Go G Y_X7_fault 12 [(0, .ref 0), (1, .int a1)] [.ref r5] SH I4 0 0 _
    refine go_getI dX7_fault_12 (scr_sh hr5) (SH_lt (scr_sh hr5)) f_X7_98 ⟨Nat.le_of_ble_eq_true rfl, Nat.le_of_ble_eq_true rfl, rfl⟩ ?_
    refine go_goto (tgt := 20) dX7_fault_15 (by decide) ?_
    exact go_iret dX7_fault_20 rfl rfl (by decide) ⟨rfl, _, rfl, h⟩
set_option maxRecDepth 100000 in
set_option maxHeartbeats 4000000 in
theorem v_X7_set {G : CX} {a1 : Int32} {a2 : Int32}  {I : HP} {Q : HP → Int32 → Prop} (h : ((a1 < 0) → (Q I (-2 : Int32))) ∧ ((¬ a1 < 0) → (((a1 < (6 : Int32)) → ((vp_in a1 6) ∧ (((a2 < (lsF (nn a1))) → (Q I (-2 : Int32))) ∧ ((¬ a2 < (lsF (nn a1))) → (((a2 ≤ (msF (nn a1))) → (RV G Y_X7_tellAnew [.ref 0] (st I 1 (nn a1) a2) (fun I6 => Q I6 (I 1 (nn a1))))) ∧ ((¬ a2 ≤ (msF (nn a1))) → (Q I (-2 : Int32)))))))) ∧ ((¬ a1 < (6 : Int32)) → (Q I (-2 : Int32)))))) : RI G Y_X7_set [.ref 0, .int a1, .int a2] I Q := by
  refine ret_of (show plainName RX7 = true by decide) (Nat.le_of_ble_eq_true rfl) ?_
  show Go G Y_X7_set 0 [(0, .ref 0), (1, .int a1), (2, .int a2)] [] SH I 0 0 _
  refine go_iload_n dX7_set_0 rfl 1 rfl ?_
  refine go_if_lt (tgt := 10) dX7_set_1 (by decide) (fun c1 => ?_) (fun c1 => ?_)
  · have h := h.1 c1
    refine go_bipush dX7_set_10 (v := (-2 : Int32)) (by decide) ?_
    exact go_iret dX7_set_12 rfl rfl (by decide) ⟨rfl, _, rfl, h⟩
  · have h := h.2 c1
    refine go_iload_n dX7_set_4 rfl 1 rfl ?_
    refine go_bipush dX7_set_5 (v := (6 : Int32)) (by decide) ?_
    refine go_icmp_lt (tgt := 13) dX7_set_7 (by decide) (fun c2 => ?_) (fun c2 => ?_)
    · have h := h.1 c2
      refine go_iload_n dX7_set_13 rfl 2 rfl ?_
      refine go_gets1 dX7_set_14 s_X7_101 ?_
      refine go_iload_n dX7_set_17 rfl 1 rfl ?_
      have hb3 := h.1
      have h := h.2
      refine go_tald1 dX7_set_18 hb3 ?_
      refine go_icmp_lt (tgt := 31) dX7_set_19 (by decide) (fun c4 => ?_) (fun c4 => ?_)
      · have h := h.1 c4
        refine go_bipush dX7_set_31 (v := (-2 : Int32)) (by decide) ?_
        exact go_iret dX7_set_33 rfl rfl (by decide) ⟨rfl, _, rfl, h⟩
      · have h := h.2 c4
        refine go_iload_n dX7_set_22 rfl 2 rfl ?_
        refine go_gets2 dX7_set_23 s_X7_104 ?_
        refine go_iload_n dX7_set_26 rfl 1 rfl ?_
        refine go_tald2 dX7_set_27 hb3 ?_
        refine go_icmp_le (tgt := 34) dX7_set_28 (by decide) (fun c5 => ?_) (fun c5 => ?_)
        · have h := h.1 c5
          refine go_aload_n dX7_set_34 rfl 0 rfl ?_
          refine go_getR dX7_set_35 sh_0 (by decide) f_X7_7 ⟨Nat.le_of_ble_eq_true rfl, Nat.le_of_ble_eq_true rfl, rfl⟩ rfl ?_
          refine go_iload_n dX7_set_38 rfl 1 rfl ?_
          refine go_iald dX7_set_39 sh_1 (by decide) hb3 rfl ?_
          refine go_istore_n dX7_set_40 rfl (Nat.le_of_ble_eq_true rfl) (L2 := [(3, .int (I 1 (nn a1))), (0, .ref 0), (1, .int a1), (2, .int a2)]) rfl ?_
          refine go_aload_n dX7_set_41 rfl 1 rfl ?_
          refine go_getR dX7_set_42 sh_0 (by decide) f_X7_7 ⟨Nat.le_of_ble_eq_true rfl, Nat.le_of_ble_eq_true rfl, rfl⟩ rfl ?_
          refine go_iload_n dX7_set_45 rfl 2 rfl ?_
          refine go_iload_n dX7_set_46 rfl 3 rfl ?_
          refine go_iast dX7_set_47 sh_1 (by decide) hb3 (j := (nn a1)) rfl ?_
          refine go_aload_n dX7_set_48 rfl 1 rfl ?_
          refine go_vcall (Z := Y_X7_tellAnew) (As := []) (S := []) dX7_set_49 ok_X7_tellAnew l_X7_82 (by decide) sh_0 (by decide) (Nat.le_of_ble_eq_true rfl) rfl rfl rfl (Nat.le_of_ble_eq_true rfl) h (fun _ I6 _ hq => ?_)
          obtain ⟨rfl, rfl, h⟩ := hq
          show Go G Y_X7_set 52 [(3, .int (I 1 (nn a1))), (0, .ref 0), (1, .int a1), (2, .int a2)] [] SH I6 0 0 _
          refine go_iload_n dX7_set_52 rfl 0 rfl ?_
          exact go_iret dX7_set_53 rfl rfl (by decide) ⟨rfl, _, rfl, h⟩
        · have h := h.2 c5
          refine go_bipush dX7_set_31 (v := (-2 : Int32)) (by decide) ?_
          exact go_iret dX7_set_33 rfl rfl (by decide) ⟨rfl, _, rfl, h⟩
    · have h := h.2 c2
      refine go_bipush dX7_set_10 (v := (-2 : Int32)) (by decide) ?_
      exact go_iret dX7_set_12 rfl rfl (by decide) ⟨rfl, _, rfl, h⟩
set_option maxRecDepth 100000 in
set_option maxHeartbeats 4000000 in
theorem v_X7_verse {G : CX} {a1 : Int32} {a2 : Int32}  {I : HP} {Q : HP → Int32 → Prop} (h : RZ G Y_X7_isVerse [.ref 0, .int a1] I (fun I1 r2 => ((¬ (bI r2) = 0) → (RA G Y_X5_turnAt [.ref 6, .int a1] I1 (fun I4 r5 => isTur r5 ∧ (((a2 = (0 : Int32)) → (RI G Y_X2_figure [.ref 2, .int a1, .int (0 : Int32)] I4 (fun I7 r8 => Q I7 r8))) ∧ ((a2 = (1 : Int32)) → (RI G Y_X2_figure [.ref 2, .int a1, .int (1 : Int32)] I4 (fun I9 r10 => Q I9 r10))) ∧ ((a2 = (2 : Int32)) → (RI G Y_X2_figure [.ref 2, .int a1, .int (2 : Int32)] I4 (fun I11 r12 => Q I11 r12))) ∧ ((a2 = (3 : Int32)) → (Q I4 (I4 r5 0))) ∧ ((a2 = (4 : Int32)) → (Q I4 (I4 r5 1))) ∧ ((a2 = (5 : Int32)) → (Q I4 (I4 r5 3))) ∧ ((∀ j : Nat, j < 6 → a2 ≠ nI j) → (Q I4 (-2 : Int32))))))) ∧ (((bI r2) = 0) → (Q I1 (-2 : Int32))))) : RI G Y_X7_verse [.ref 0, .int a1, .int a2] I Q := by
  refine ret_of (show plainName RX7 = true by decide) (Nat.le_of_ble_eq_true rfl) ?_
  show Go G Y_X7_verse 0 [(0, .ref 0), (1, .int a1), (2, .int a2)] [] SH I 0 0 _
  refine go_aload_n dX7_verse_0 rfl 0 rfl ?_
  refine go_iload_n dX7_verse_1 rfl 1 rfl ?_
  refine go_vcall (Z := Y_X7_isVerse) (As := [.int a1]) (S := []) dX7_verse_2 ok_X7_isVerse l_X7_107 (by decide) sh_0 (by decide) (Nat.le_of_ble_eq_true rfl) rfl rfl rfl (Nat.le_of_ble_eq_true rfl) h (fun _ I1 _ hq => ?_)
  obtain ⟨rfl, r2, rfl, h⟩ := hq
  show Go G Y_X7_verse 5 [(0, .ref 0), (1, .int a1), (2, .int a2)] [.int (bI r2)] SH I1 0 0 _
  refine go_if_ne (tgt := 11) dX7_verse_5 (by decide) (fun c3 => ?_) (fun c3 => ?_)
  · have h := h.1 c3
    refine go_aload_n dX7_verse_11 rfl 0 rfl ?_
    refine go_getR dX7_verse_12 sh_0 (by decide) f_X7_28 ⟨Nat.le_of_ble_eq_true rfl, Nat.le_of_ble_eq_true rfl, rfl⟩ rfl ?_
    refine go_iload_n dX7_verse_15 rfl 1 rfl ?_
    refine go_vcall (Z := Y_X5_turnAt) (As := [.int a1]) (S := []) dX7_verse_16 ok_X5_turnAt l_X7_110 (by decide) (tel_sh (Or.inl rfl)) (by decide) (Nat.le_of_ble_eq_true rfl) rfl rfl rfl (Nat.le_of_ble_eq_true rfl) h (fun _ I4 _ hq => ?_)
    obtain ⟨rfl, r5, rfl, h⟩ := hq
    have hr5 := h.1
    have h := h.2
    show Go G Y_X7_verse 19 [(0, .ref 0), (1, .int a1), (2, .int a2)] [.ref r5] SH I4 0 0 _
    refine go_astore_n dX7_verse_19 rfl (Nat.le_of_ble_eq_true rfl) (L2 := [(3, .ref r5), (0, .ref 0), (1, .int a1), (2, .int a2)]) rfl ?_
    refine go_iload_n dX7_verse_20 rfl 3 rfl ?_
    by_cases c6 : a2 = (0 : Int32)
    · have h := h.1 c6
      refine go_tIn (tgt := 60) dX7_verse_21 (by rw [c6]; decide) (by rw [c6]; decide) (by rw [c6] <;> rfl) (by decide) ?_
      refine go_aload_n dX7_verse_60 rfl 1 rfl ?_
      refine go_getR dX7_verse_61 sh_0 (by decide) f_X7_18 ⟨Nat.le_of_ble_eq_true rfl, Nat.le_of_ble_eq_true rfl, rfl⟩ rfl ?_
      refine go_iload_n dX7_verse_64 rfl 2 rfl ?_
      refine go_iconst dX7_verse_65 (v := (0 : Int32)) (by decide) ?_
      refine go_vcall (Z := Y_X2_figure) (As := [.int a1, .int (0 : Int32)]) (S := []) dX7_verse_66 ok_X2_figure l_X7_114 (by decide) (scr_sh (Or.inl rfl)) (by decide) (Nat.le_of_ble_eq_true rfl) rfl rfl rfl (Nat.le_of_ble_eq_true rfl) h (fun _ I7 _ hq => ?_)
      obtain ⟨rfl, r8, rfl, h⟩ := hq
      show Go G Y_X7_verse 69 [(3, .ref r5), (0, .ref 0), (1, .int a1), (2, .int a2)] [.int r8] SH I7 0 0 _
      exact go_iret dX7_verse_69 rfl rfl (by decide) ⟨rfl, _, rfl, h⟩
    have h := h.2
    have c6_0 : a2 ≠ nI 0 := c6
    clear c6
    by_cases c6 : a2 = (1 : Int32)
    · have h := h.1 c6
      refine go_tIn (tgt := 70) dX7_verse_21 (by rw [c6]; decide) (by rw [c6]; decide) (by rw [c6] <;> rfl) (by decide) ?_
      refine go_aload_n dX7_verse_70 rfl 1 rfl ?_
      refine go_getR dX7_verse_71 sh_0 (by decide) f_X7_18 ⟨Nat.le_of_ble_eq_true rfl, Nat.le_of_ble_eq_true rfl, rfl⟩ rfl ?_
      refine go_iload_n dX7_verse_74 rfl 2 rfl ?_
      refine go_iconst dX7_verse_75 (v := (1 : Int32)) (by decide) ?_
      refine go_vcall (Z := Y_X2_figure) (As := [.int a1, .int (1 : Int32)]) (S := []) dX7_verse_76 ok_X2_figure l_X7_114 (by decide) (scr_sh (Or.inl rfl)) (by decide) (Nat.le_of_ble_eq_true rfl) rfl rfl rfl (Nat.le_of_ble_eq_true rfl) h (fun _ I9 _ hq => ?_)
      obtain ⟨rfl, r10, rfl, h⟩ := hq
      show Go G Y_X7_verse 79 [(3, .ref r5), (0, .ref 0), (1, .int a1), (2, .int a2)] [.int r10] SH I9 0 0 _
      exact go_iret dX7_verse_79 rfl rfl (by decide) ⟨rfl, _, rfl, h⟩
    have h := h.2
    have c6_1 : a2 ≠ nI 1 := c6
    clear c6
    by_cases c6 : a2 = (2 : Int32)
    · have h := h.1 c6
      refine go_tIn (tgt := 80) dX7_verse_21 (by rw [c6]; decide) (by rw [c6]; decide) (by rw [c6] <;> rfl) (by decide) ?_
      refine go_aload_n dX7_verse_80 rfl 1 rfl ?_
      refine go_getR dX7_verse_81 sh_0 (by decide) f_X7_18 ⟨Nat.le_of_ble_eq_true rfl, Nat.le_of_ble_eq_true rfl, rfl⟩ rfl ?_
      refine go_iload_n dX7_verse_84 rfl 2 rfl ?_
      refine go_iconst dX7_verse_85 (v := (2 : Int32)) (by decide) ?_
      refine go_vcall (Z := Y_X2_figure) (As := [.int a1, .int (2 : Int32)]) (S := []) dX7_verse_86 ok_X2_figure l_X7_114 (by decide) (scr_sh (Or.inl rfl)) (by decide) (Nat.le_of_ble_eq_true rfl) rfl rfl rfl (Nat.le_of_ble_eq_true rfl) h (fun _ I11 _ hq => ?_)
      obtain ⟨rfl, r12, rfl, h⟩ := hq
      show Go G Y_X7_verse 89 [(3, .ref r5), (0, .ref 0), (1, .int a1), (2, .int a2)] [.int r12] SH I11 0 0 _
      exact go_iret dX7_verse_89 rfl rfl (by decide) ⟨rfl, _, rfl, h⟩
    have h := h.2
    have c6_2 : a2 ≠ nI 2 := c6
    clear c6
    by_cases c6 : a2 = (3 : Int32)
    · have h := h.1 c6
      refine go_tIn (tgt := 90) dX7_verse_21 (by rw [c6]; decide) (by rw [c6]; decide) (by rw [c6] <;> rfl) (by decide) ?_
      refine go_aload_n dX7_verse_90 rfl 0 rfl ?_
      refine go_getI dX7_verse_91 hr5 (SH_lt hr5) f_X7_118 ⟨Nat.le_of_ble_eq_true rfl, Nat.le_of_ble_eq_true rfl, rfl⟩ ?_
      exact go_iret dX7_verse_94 rfl rfl (by decide) ⟨rfl, _, rfl, h⟩
    have h := h.2
    have c6_3 : a2 ≠ nI 3 := c6
    clear c6
    by_cases c6 : a2 = (4 : Int32)
    · have h := h.1 c6
      refine go_tIn (tgt := 95) dX7_verse_21 (by rw [c6]; decide) (by rw [c6]; decide) (by rw [c6] <;> rfl) (by decide) ?_
      refine go_aload_n dX7_verse_95 rfl 0 rfl ?_
      refine go_getI dX7_verse_96 hr5 (SH_lt hr5) f_X7_123 ⟨Nat.le_of_ble_eq_true rfl, Nat.le_of_ble_eq_true rfl, rfl⟩ ?_
      exact go_iret dX7_verse_99 rfl rfl (by decide) ⟨rfl, _, rfl, h⟩
    have h := h.2
    have c6_4 : a2 ≠ nI 4 := c6
    clear c6
    by_cases c6 : a2 = (5 : Int32)
    · have h := h.1 c6
      refine go_tIn (tgt := 100) dX7_verse_21 (by rw [c6]; decide) (by rw [c6]; decide) (by rw [c6] <;> rfl) (by decide) ?_
      refine go_aload_n dX7_verse_100 rfl 0 rfl ?_
      refine go_getI dX7_verse_101 hr5 (SH_lt hr5) f_X7_126 ⟨Nat.le_of_ble_eq_true rfl, Nat.le_of_ble_eq_true rfl, rfl⟩ ?_
      exact go_iret dX7_verse_104 rfl rfl (by decide) ⟨rfl, _, rfl, h⟩
    have h := h.2
    have c6_5 : a2 ≠ nI 5 := c6
    clear c6
    have hb13 : ∀ j : Nat, j < 6 → a2 ≠ nI j := by
      intro j hj
      rcases (show j = 0 ∨ j = 1 ∨ j = 2 ∨ j = 3 ∨ j = 4 ∨ j = 5 by omega) with rfl | rfl | rfl | rfl | rfl | rfl
      · exact c6_0
      · exact c6_1
      · exact c6_2
      · exact c6_3
      · exact c6_4
      · exact c6_5
    have h := h hb13
    refine go_tOut (tgt := 105) dX7_verse_21 (sw_out (n := 6) (by decide) hb13) (by decide) ?_
    refine go_bipush dX7_verse_105 (v := (-2 : Int32)) (by decide) ?_
    exact go_iret dX7_verse_107 rfl rfl (by decide) ⟨rfl, _, rfl, h⟩
  · have h := h.2 c3
    refine go_bipush dX7_verse_8 (v := (-2 : Int32)) (by decide) ?_
    exact go_iret dX7_verse_10 rfl rfl (by decide) ⟨rfl, _, rfl, h⟩
set_option maxRecDepth 100000 in
set_option maxHeartbeats 4000000 in
theorem v_X7_when {G : CX} {a1 : Int32} {a2 : Int32}  {I : HP} {Q : HP → Int32 → Prop} (h : RZ G Y_X7_isVerse [.ref 0, .int a1] I (fun I1 r2 => ((¬ (bI r2) = 0) → (RA G Y_X5_turnAt [.ref 6, .int a1] I1 (fun I4 r5 => isTur r5 ∧ (((a2 = (0 : Int32)) → (Q I4 (I4 r5 4))) ∧ ((a2 = (1 : Int32)) → (Q I4 (I4 r5 5))) ∧ ((a2 = (2 : Int32)) → (Q I4 (I4 r5 6))) ∧ ((a2 = (3 : Int32)) → (Q I4 (I4 r5 7))) ∧ ((a2 = (4 : Int32)) → (Q I4 (I4 r5 8))) ∧ ((∀ j : Nat, j < 5 → a2 ≠ nI j) → (Q I4 (-2 : Int32))))))) ∧ (((bI r2) = 0) → (Q I1 (-2 : Int32))))) : RI G Y_X7_when [.ref 0, .int a1, .int a2] I Q := by
  refine ret_of (show plainName RX7 = true by decide) (Nat.le_of_ble_eq_true rfl) ?_
  show Go G Y_X7_when 0 [(0, .ref 0), (1, .int a1), (2, .int a2)] [] SH I 0 0 _
  refine go_aload_n dX7_when_0 rfl 0 rfl ?_
  refine go_iload_n dX7_when_1 rfl 1 rfl ?_
  refine go_vcall (Z := Y_X7_isVerse) (As := [.int a1]) (S := []) dX7_when_2 ok_X7_isVerse l_X7_107 (by decide) sh_0 (by decide) (Nat.le_of_ble_eq_true rfl) rfl rfl rfl (Nat.le_of_ble_eq_true rfl) h (fun _ I1 _ hq => ?_)
  obtain ⟨rfl, r2, rfl, h⟩ := hq
  show Go G Y_X7_when 5 [(0, .ref 0), (1, .int a1), (2, .int a2)] [.int (bI r2)] SH I1 0 0 _
  refine go_if_ne (tgt := 11) dX7_when_5 (by decide) (fun c3 => ?_) (fun c3 => ?_)
  · have h := h.1 c3
    refine go_aload_n dX7_when_11 rfl 0 rfl ?_
    refine go_getR dX7_when_12 sh_0 (by decide) f_X7_28 ⟨Nat.le_of_ble_eq_true rfl, Nat.le_of_ble_eq_true rfl, rfl⟩ rfl ?_
    refine go_iload_n dX7_when_15 rfl 1 rfl ?_
    refine go_vcall (Z := Y_X5_turnAt) (As := [.int a1]) (S := []) dX7_when_16 ok_X5_turnAt l_X7_110 (by decide) (tel_sh (Or.inl rfl)) (by decide) (Nat.le_of_ble_eq_true rfl) rfl rfl rfl (Nat.le_of_ble_eq_true rfl) h (fun _ I4 _ hq => ?_)
    obtain ⟨rfl, r5, rfl, h⟩ := hq
    have hr5 := h.1
    have h := h.2
    show Go G Y_X7_when 19 [(0, .ref 0), (1, .int a1), (2, .int a2)] [.ref r5] SH I4 0 0 _
    refine go_astore_n dX7_when_19 rfl (Nat.le_of_ble_eq_true rfl) (L2 := [(3, .ref r5), (0, .ref 0), (1, .int a1), (2, .int a2)]) rfl ?_
    refine go_iload_n dX7_when_20 rfl 3 rfl ?_
    by_cases c6 : a2 = (0 : Int32)
    · have h := h.1 c6
      refine go_tIn (tgt := 56) dX7_when_21 (by rw [c6]; decide) (by rw [c6]; decide) (by rw [c6] <;> rfl) (by decide) ?_
      refine go_aload_n dX7_when_56 rfl 0 rfl ?_
      refine go_getI dX7_when_57 hr5 (SH_lt hr5) f_X7_129 ⟨Nat.le_of_ble_eq_true rfl, Nat.le_of_ble_eq_true rfl, rfl⟩ ?_
      exact go_iret dX7_when_60 rfl rfl (by decide) ⟨rfl, _, rfl, h⟩
    have h := h.2
    have c6_0 : a2 ≠ nI 0 := c6
    clear c6
    by_cases c6 : a2 = (1 : Int32)
    · have h := h.1 c6
      refine go_tIn (tgt := 61) dX7_when_21 (by rw [c6]; decide) (by rw [c6]; decide) (by rw [c6] <;> rfl) (by decide) ?_
      refine go_aload_n dX7_when_61 rfl 0 rfl ?_
      refine go_getI dX7_when_62 hr5 (SH_lt hr5) f_X7_132 ⟨Nat.le_of_ble_eq_true rfl, Nat.le_of_ble_eq_true rfl, rfl⟩ ?_
      exact go_iret dX7_when_65 rfl rfl (by decide) ⟨rfl, _, rfl, h⟩
    have h := h.2
    have c6_1 : a2 ≠ nI 1 := c6
    clear c6
    by_cases c6 : a2 = (2 : Int32)
    · have h := h.1 c6
      refine go_tIn (tgt := 66) dX7_when_21 (by rw [c6]; decide) (by rw [c6]; decide) (by rw [c6] <;> rfl) (by decide) ?_
      refine go_aload_n dX7_when_66 rfl 0 rfl ?_
      refine go_getI dX7_when_67 hr5 (SH_lt hr5) f_X7_135 ⟨Nat.le_of_ble_eq_true rfl, Nat.le_of_ble_eq_true rfl, rfl⟩ ?_
      exact go_iret dX7_when_70 rfl rfl (by decide) ⟨rfl, _, rfl, h⟩
    have h := h.2
    have c6_2 : a2 ≠ nI 2 := c6
    clear c6
    by_cases c6 : a2 = (3 : Int32)
    · have h := h.1 c6
      refine go_tIn (tgt := 71) dX7_when_21 (by rw [c6]; decide) (by rw [c6]; decide) (by rw [c6] <;> rfl) (by decide) ?_
      refine go_aload_n dX7_when_71 rfl 0 rfl ?_
      refine go_getI dX7_when_72 hr5 (SH_lt hr5) f_X7_138 ⟨Nat.le_of_ble_eq_true rfl, Nat.le_of_ble_eq_true rfl, rfl⟩ ?_
      exact go_iret dX7_when_75 rfl rfl (by decide) ⟨rfl, _, rfl, h⟩
    have h := h.2
    have c6_3 : a2 ≠ nI 3 := c6
    clear c6
    by_cases c6 : a2 = (4 : Int32)
    · have h := h.1 c6
      refine go_tIn (tgt := 76) dX7_when_21 (by rw [c6]; decide) (by rw [c6]; decide) (by rw [c6] <;> rfl) (by decide) ?_
      refine go_aload_n dX7_when_76 rfl 0 rfl ?_
      refine go_getI dX7_when_77 hr5 (SH_lt hr5) f_X7_141 ⟨Nat.le_of_ble_eq_true rfl, Nat.le_of_ble_eq_true rfl, rfl⟩ ?_
      exact go_iret dX7_when_80 rfl rfl (by decide) ⟨rfl, _, rfl, h⟩
    have h := h.2
    have c6_4 : a2 ≠ nI 4 := c6
    clear c6
    have hb7 : ∀ j : Nat, j < 5 → a2 ≠ nI j := by
      intro j hj
      rcases (show j = 0 ∨ j = 1 ∨ j = 2 ∨ j = 3 ∨ j = 4 by omega) with rfl | rfl | rfl | rfl | rfl
      · exact c6_0
      · exact c6_1
      · exact c6_2
      · exact c6_3
      · exact c6_4
    have h := h hb7
    refine go_tOut (tgt := 81) dX7_when_21 (sw_out (n := 5) (by decide) hb7) (by decide) ?_
    refine go_bipush dX7_when_81 (v := (-2 : Int32)) (by decide) ?_
    exact go_iret dX7_when_83 rfl rfl (by decide) ⟨rfl, _, rfl, h⟩
  · have h := h.2 c3
    refine go_bipush dX7_when_8 (v := (-2 : Int32)) (by decide) ?_
    exact go_iret dX7_when_10 rfl rfl (by decide) ⟨rfl, _, rfl, h⟩
set_option maxRecDepth 100000 in
set_option maxHeartbeats 4000000 in
theorem v_X7_poem {G : CX} {a1 : Int32}  {I : HP} {Q : HP → Int32 → Prop} (h : ((a1 = (0 : Int32)) → (RI G Y_X5_howManyWritten [.ref 6] I (fun I2 r3 => Q I2 r3))) ∧ ((a1 = (1 : Int32)) → (RI G Y_X5_lastWritten [.ref 6] I (fun I4 r5 => Q I4 r5))) ∧ ((a1 = (2 : Int32)) → (RA G Y_X5_last [.ref 6] I (fun I6 r7 => isTur r7 ∧ (Q I6 (I6 r7 10))))) ∧ ((a1 = (3 : Int32)) → (RA G Y_X5_last [.ref 6] I (fun I8 r9 => isTur r9 ∧ (Q I8 (I8 r9 12))))) ∧ ((∀ j : Nat, j < 4 → a1 ≠ nI j) → (Q I (-2 : Int32)))) : RI G Y_X7_poem [.ref 0, .int a1] I Q := by
  refine ret_of (show plainName RX7 = true by decide) (Nat.le_of_ble_eq_true rfl) ?_
  show Go G Y_X7_poem 0 [(0, .ref 0), (1, .int a1)] [] SH I 0 0 _
  refine go_iload_n dX7_poem_0 rfl 1 rfl ?_
  by_cases c1 : a1 = (0 : Int32)
  · have h := h.1 c1
    refine go_tIn (tgt := 32) dX7_poem_1 (by rw [c1]; decide) (by rw [c1]; decide) (by rw [c1] <;> rfl) (by decide) ?_
    refine go_aload_n dX7_poem_32 rfl 0 rfl ?_
    refine go_getR dX7_poem_33 sh_0 (by decide) f_X7_28 ⟨Nat.le_of_ble_eq_true rfl, Nat.le_of_ble_eq_true rfl, rfl⟩ rfl ?_
    refine go_vcall (Z := Y_X5_howManyWritten) (As := []) (S := []) dX7_poem_36 ok_X5_howManyWritten l_X7_144 (by decide) (tel_sh (Or.inl rfl)) (by decide) (Nat.le_of_ble_eq_true rfl) rfl rfl rfl (Nat.le_of_ble_eq_true rfl) h (fun _ I2 _ hq => ?_)
    obtain ⟨rfl, r3, rfl, h⟩ := hq
    show Go G Y_X7_poem 39 [(0, .ref 0), (1, .int a1)] [.int r3] SH I2 0 0 _
    exact go_iret dX7_poem_39 rfl rfl (by decide) ⟨rfl, _, rfl, h⟩
  have h := h.2
  have c1_0 : a1 ≠ nI 0 := c1
  clear c1
  by_cases c1 : a1 = (1 : Int32)
  · have h := h.1 c1
    refine go_tIn (tgt := 40) dX7_poem_1 (by rw [c1]; decide) (by rw [c1]; decide) (by rw [c1] <;> rfl) (by decide) ?_
    refine go_aload_n dX7_poem_40 rfl 0 rfl ?_
    refine go_getR dX7_poem_41 sh_0 (by decide) f_X7_28 ⟨Nat.le_of_ble_eq_true rfl, Nat.le_of_ble_eq_true rfl, rfl⟩ rfl ?_
    refine go_vcall (Z := Y_X5_lastWritten) (As := []) (S := []) dX7_poem_44 ok_X5_lastWritten l_X7_148 (by decide) (tel_sh (Or.inl rfl)) (by decide) (Nat.le_of_ble_eq_true rfl) rfl rfl rfl (Nat.le_of_ble_eq_true rfl) h (fun _ I4 _ hq => ?_)
    obtain ⟨rfl, r5, rfl, h⟩ := hq
    show Go G Y_X7_poem 47 [(0, .ref 0), (1, .int a1)] [.int r5] SH I4 0 0 _
    exact go_iret dX7_poem_47 rfl rfl (by decide) ⟨rfl, _, rfl, h⟩
  have h := h.2
  have c1_1 : a1 ≠ nI 1 := c1
  clear c1
  by_cases c1 : a1 = (2 : Int32)
  · have h := h.1 c1
    refine go_tIn (tgt := 48) dX7_poem_1 (by rw [c1]; decide) (by rw [c1]; decide) (by rw [c1] <;> rfl) (by decide) ?_
    refine go_aload_n dX7_poem_48 rfl 0 rfl ?_
    refine go_getR dX7_poem_49 sh_0 (by decide) f_X7_28 ⟨Nat.le_of_ble_eq_true rfl, Nat.le_of_ble_eq_true rfl, rfl⟩ rfl ?_
    refine go_vcall (Z := Y_X5_last) (As := []) (S := []) dX7_poem_52 ok_X5_last l_X7_151 (by decide) (tel_sh (Or.inl rfl)) (by decide) (Nat.le_of_ble_eq_true rfl) rfl rfl rfl (Nat.le_of_ble_eq_true rfl) h (fun _ I6 _ hq => ?_)
    obtain ⟨rfl, r7, rfl, h⟩ := hq
    have hr7 := h.1
    have h := h.2
    show Go G Y_X7_poem 55 [(0, .ref 0), (1, .int a1)] [.ref r7] SH I6 0 0 _
    refine go_getI dX7_poem_55 hr7 (SH_lt hr7) f_X7_155 ⟨Nat.le_of_ble_eq_true rfl, Nat.le_of_ble_eq_true rfl, rfl⟩ ?_
    exact go_iret dX7_poem_58 rfl rfl (by decide) ⟨rfl, _, rfl, h⟩
  have h := h.2
  have c1_2 : a1 ≠ nI 2 := c1
  clear c1
  by_cases c1 : a1 = (3 : Int32)
  · have h := h.1 c1
    refine go_tIn (tgt := 59) dX7_poem_1 (by rw [c1]; decide) (by rw [c1]; decide) (by rw [c1] <;> rfl) (by decide) ?_
    refine go_aload_n dX7_poem_59 rfl 0 rfl ?_
    refine go_getR dX7_poem_60 sh_0 (by decide) f_X7_28 ⟨Nat.le_of_ble_eq_true rfl, Nat.le_of_ble_eq_true rfl, rfl⟩ rfl ?_
    refine go_vcall (Z := Y_X5_last) (As := []) (S := []) dX7_poem_63 ok_X5_last l_X7_151 (by decide) (tel_sh (Or.inl rfl)) (by decide) (Nat.le_of_ble_eq_true rfl) rfl rfl rfl (Nat.le_of_ble_eq_true rfl) h (fun _ I8 _ hq => ?_)
    obtain ⟨rfl, r9, rfl, h⟩ := hq
    have hr9 := h.1
    have h := h.2
    show Go G Y_X7_poem 66 [(0, .ref 0), (1, .int a1)] [.ref r9] SH I8 0 0 _
    refine go_getI dX7_poem_66 hr9 (SH_lt hr9) f_X7_158 ⟨Nat.le_of_ble_eq_true rfl, Nat.le_of_ble_eq_true rfl, rfl⟩ ?_
    exact go_iret dX7_poem_69 rfl rfl (by decide) ⟨rfl, _, rfl, h⟩
  have h := h.2
  have c1_3 : a1 ≠ nI 3 := c1
  clear c1
  have hb10 : ∀ j : Nat, j < 4 → a1 ≠ nI j := by
    intro j hj
    rcases (show j = 0 ∨ j = 1 ∨ j = 2 ∨ j = 3 by omega) with rfl | rfl | rfl | rfl
    · exact c1_0
    · exact c1_1
    · exact c1_2
    · exact c1_3
  have h := h hb10
  refine go_tOut (tgt := 70) dX7_poem_1 (sw_out (n := 4) (by decide) hb10) (by decide) ?_
  refine go_bipush dX7_poem_70 (v := (-2 : Int32)) (by decide) ?_
  exact go_iret dX7_poem_72 rfl rfl (by decide) ⟨rfl, _, rfl, h⟩
set_option maxRecDepth 100000 in
set_option maxHeartbeats 4000000 in
theorem v_X7_judged {G : CX}   {I : HP} {Q : HP → Int32 → Prop} (h : GI G Y_X7_judged 2 [(0, .ref 0), (1, .int (0 : Int32))] I Q) : RI G Y_X7_judged [.ref 0] I Q := by
  refine ret_of (show plainName RX7 = true by decide) (Nat.le_of_ble_eq_true rfl) ?_
  show Go G Y_X7_judged 0 [(0, .ref 0)] [] SH I 0 0 _
  refine go_iconst dX7_judged_0 (v := (0 : Int32)) (by decide) ?_
  refine go_istore_n dX7_judged_1 rfl (Nat.le_of_ble_eq_true rfl) (L2 := [(1, .int (0 : Int32)), (0, .ref 0)]) rfl ?_
  exact go_loc [(0, .ref 0), (1, .int (0 : Int32))] [1, 0] rfl h
set_option maxRecDepth 100000 in
set_option maxHeartbeats 4000000 in
theorem v_X7_judged_2 {G : CX} {x1 : Int32}  {I : HP} {Q : HP → Int32 → Prop} (h : (((I 2 3) ≤ x1) → (Q I (-1 : Int32))) ∧ ((¬ (I 2 3) ≤ x1) → (RA G Y_X5_turnAt [.ref 6, .int x1] I (fun I2 r3 => isTur r3 ∧ ((((I2 r3 7) = (-1 : Int32)) → (Q I2 x1)) ∧ ((¬ (I2 r3 7) = (-1 : Int32)) → ((((I2 r3 8) ≤ 0) → (GI G Y_X7_judged 2 [(0, .ref 0), (1, .int (x1 + 1))] I2 Q)) ∧ ((¬ (I2 r3 8) ≤ 0) → (Q I2 x1))))))))) : GI G Y_X7_judged 2 [(0, .ref 0), (1, .int x1)] I Q := by
  show Go G Y_X7_judged 2 [(0, .ref 0), (1, .int x1)] [] SH I 0 0 _
  refine go_iload_n dX7_judged_2 rfl 1 rfl ?_
  refine go_aload_n dX7_judged_3 rfl 0 rfl ?_
  refine go_getR dX7_judged_4 sh_0 (by decide) f_X7_18 ⟨Nat.le_of_ble_eq_true rfl, Nat.le_of_ble_eq_true rfl, rfl⟩ rfl ?_
  refine go_getI dX7_judged_7 (scr_sh (Or.inl rfl)) (by decide) f_X7_92 ⟨Nat.le_of_ble_eq_true rfl, Nat.le_of_ble_eq_true rfl, rfl⟩ ?_
  refine go_icmp_ge (tgt := 45) dX7_judged_10 (by decide) (fun c1 => ?_) (fun c1 => ?_)
  · have h := h.1 c1
    refine go_iconst dX7_judged_45 (v := (-1 : Int32)) (by decide) ?_
    exact go_iret dX7_judged_46 rfl rfl (by decide) ⟨rfl, _, rfl, h⟩
  · have h := h.2 c1
    refine go_aload_n dX7_judged_13 rfl 0 rfl ?_
    refine go_getR dX7_judged_14 sh_0 (by decide) f_X7_28 ⟨Nat.le_of_ble_eq_true rfl, Nat.le_of_ble_eq_true rfl, rfl⟩ rfl ?_
    refine go_iload_n dX7_judged_17 rfl 1 rfl ?_
    refine go_vcall (Z := Y_X5_turnAt) (As := [.int x1]) (S := []) dX7_judged_18 ok_X5_turnAt l_X7_110 (by decide) (tel_sh (Or.inl rfl)) (by decide) (Nat.le_of_ble_eq_true rfl) rfl rfl rfl (Nat.le_of_ble_eq_true rfl) h (fun _ I2 _ hq => ?_)
    obtain ⟨rfl, r3, rfl, h⟩ := hq
    have hr3 := h.1
    have h := h.2
    show Go G Y_X7_judged 21 [(0, .ref 0), (1, .int x1)] [.ref r3] SH I2 0 0 _
    refine go_astore_n dX7_judged_21 rfl (Nat.le_of_ble_eq_true rfl) (L2 := [(2, .ref r3), (0, .ref 0), (1, .int x1)]) rfl ?_
    refine go_aload_n dX7_judged_22 rfl 0 rfl ?_
    refine go_getI dX7_judged_23 hr3 (SH_lt hr3) f_X7_138 ⟨Nat.le_of_ble_eq_true rfl, Nat.le_of_ble_eq_true rfl, rfl⟩ ?_
    refine go_iconst dX7_judged_26 (v := (-1 : Int32)) (by decide) ?_
    refine go_icmp_eq (tgt := 37) dX7_judged_27 (by decide) (fun c4 => ?_) (fun c4 => ?_)
    · have h := h.1 c4
      refine go_iload_n dX7_judged_37 rfl 2 rfl ?_
      exact go_iret dX7_judged_38 rfl rfl (by decide) ⟨rfl, _, rfl, h⟩
    · have h := h.2 c4
      refine go_aload_n dX7_judged_30 rfl 0 rfl ?_
      refine go_getI dX7_judged_31 hr3 (SH_lt hr3) f_X7_141 ⟨Nat.le_of_ble_eq_true rfl, Nat.le_of_ble_eq_true rfl, rfl⟩ ?_
      refine go_if_le (tgt := 39) dX7_judged_34 (by decide) (fun c5 => ?_) (fun c5 => ?_)
      · have h := h.1 c5
        refine go_iinc dX7_judged_39 2 rfl (v := (x1 + 1)) rfl (Nat.le_of_ble_eq_true rfl) (L2 := [(1, .int (x1 + 1)), (2, .ref r3), (0, .ref 0)]) rfl ?_
        refine go_goto (tgt := 2) dX7_judged_42 (by decide) ?_
        exact go_loc [(0, .ref 0), (1, .int (x1 + 1))] [2, 0] rfl h
      · have h := h.2 c5
        refine go_iload_n dX7_judged_37 rfl 2 rfl ?_
        exact go_iret dX7_judged_38 rfl rfl (by decide) ⟨rfl, _, rfl, h⟩
set_option maxRecDepth 100000 in
set_option maxHeartbeats 4000000 in
theorem v_X7_rest {G : CX} {a1 : Int32}  {I : HP} {Q : HP → Int32 → Prop} (h : RZ G Y_X7_isVerse [.ref 0, .int a1] I (fun I1 r2 => ((¬ (bI r2) = 0) → (RA G Y_X5_turnAt [.ref 6, .int a1] I1 (fun I4 r5 => isTur r5 ∧ (((¬ (I4 r5 4) = (-1 : Int32)) → (Q I4 (I4 r5 14))) ∧ (((I4 r5 4) = (-1 : Int32)) → (Q I4 (-3 : Int32))))))) ∧ (((bI r2) = 0) → (Q I1 (-2 : Int32))))) : RI G Y_X7_rest [.ref 0, .int a1] I Q := by
  refine ret_of (show plainName RX7 = true by decide) (Nat.le_of_ble_eq_true rfl) ?_
  show Go G Y_X7_rest 0 [(0, .ref 0), (1, .int a1)] [] SH I 0 0 _
  refine go_aload_n dX7_rest_0 rfl 0 rfl ?_
  refine go_iload_n dX7_rest_1 rfl 1 rfl ?_
  refine go_vcall (Z := Y_X7_isVerse) (As := [.int a1]) (S := []) dX7_rest_2 ok_X7_isVerse l_X7_107 (by decide) sh_0 (by decide) (Nat.le_of_ble_eq_true rfl) rfl rfl rfl (Nat.le_of_ble_eq_true rfl) h (fun _ I1 _ hq => ?_)
  obtain ⟨rfl, r2, rfl, h⟩ := hq
  show Go G Y_X7_rest 5 [(0, .ref 0), (1, .int a1)] [.int (bI r2)] SH I1 0 0 _
  refine go_if_ne (tgt := 11) dX7_rest_5 (by decide) (fun c3 => ?_) (fun c3 => ?_)
  · have h := h.1 c3
    refine go_aload_n dX7_rest_11 rfl 0 rfl ?_
    refine go_getR dX7_rest_12 sh_0 (by decide) f_X7_28 ⟨Nat.le_of_ble_eq_true rfl, Nat.le_of_ble_eq_true rfl, rfl⟩ rfl ?_
    refine go_iload_n dX7_rest_15 rfl 1 rfl ?_
    refine go_vcall (Z := Y_X5_turnAt) (As := [.int a1]) (S := []) dX7_rest_16 ok_X5_turnAt l_X7_110 (by decide) (tel_sh (Or.inl rfl)) (by decide) (Nat.le_of_ble_eq_true rfl) rfl rfl rfl (Nat.le_of_ble_eq_true rfl) h (fun _ I4 _ hq => ?_)
    obtain ⟨rfl, r5, rfl, h⟩ := hq
    have hr5 := h.1
    have h := h.2
    show Go G Y_X7_rest 19 [(0, .ref 0), (1, .int a1)] [.ref r5] SH I4 0 0 _
    refine go_astore_n dX7_rest_19 rfl (Nat.le_of_ble_eq_true rfl) (L2 := [(2, .ref r5), (0, .ref 0), (1, .int a1)]) rfl ?_
    refine go_aload_n dX7_rest_20 rfl 0 rfl ?_
    refine go_getI dX7_rest_21 hr5 (SH_lt hr5) f_X7_129 ⟨Nat.le_of_ble_eq_true rfl, Nat.le_of_ble_eq_true rfl, rfl⟩ ?_
    refine go_iconst dX7_rest_24 (v := (-1 : Int32)) (by decide) ?_
    refine go_icmp_ne (tgt := 33) dX7_rest_25 (by decide) (fun c6 => ?_) (fun c6 => ?_)
    · have h := h.1 c6
      refine go_aload_n dX7_rest_33 rfl 0 rfl ?_
      refine go_getI dX7_rest_34 hr5 (SH_lt hr5) f_X7_161 ⟨Nat.le_of_ble_eq_true rfl, Nat.le_of_ble_eq_true rfl, rfl⟩ ?_
      exact go_iret dX7_rest_37 rfl rfl (by decide) ⟨rfl, _, rfl, h⟩
    · have h := h.2 c6
      refine go_bipush dX7_rest_28 (v := (-3 : Int32)) (by decide) ?_
      refine go_goto (tgt := 37) dX7_rest_30 (by decide) ?_
      exact go_iret dX7_rest_37 rfl rfl (by decide) ⟨rfl, _, rfl, h⟩
  · have h := h.2 c3
    refine go_bipush dX7_rest_8 (v := (-2 : Int32)) (by decide) ?_
    exact go_iret dX7_rest_10 rfl rfl (by decide) ⟨rfl, _, rfl, h⟩
set_option maxRecDepth 100000 in
set_option maxHeartbeats 4000000 in
theorem v_X7_doing {G : CX} {a1 : Int32} {a2 : Int32}  {I : HP} {Q : HP → Int32 → Prop} (h : ((a1 < 0) → (Q I (-2 : Int32))) ∧ ((¬ a1 < 0) → (((a1 ≤ (299 : Int32)) → (((a2 = (0 : Int32)) → (RI G Y_X5_saidIn [.ref 6, .int a1] I (fun I4 r5 => Q I4 r5))) ∧ ((a2 = (1 : Int32)) → (RI G Y_X5_madeIn [.ref 6, .int a1] I (fun I6 r7 => Q I6 r7))) ∧ ((a2 = (2 : Int32)) → (RI G Y_X5_inHandIn [.ref 6, .int a1] I (fun I8 r9 => Q I8 r9))) ∧ ((∀ j : Nat, j < 3 → a2 ≠ nI j) → (Q I (-2 : Int32))))) ∧ ((¬ a1 ≤ (299 : Int32)) → (Q I (-2 : Int32)))))) : RI G Y_X7_doing [.ref 0, .int a1, .int a2] I Q := by
  refine ret_of (show plainName RX7 = true by decide) (Nat.le_of_ble_eq_true rfl) ?_
  show Go G Y_X7_doing 0 [(0, .ref 0), (1, .int a1), (2, .int a2)] [] SH I 0 0 _
  refine go_iload_n dX7_doing_0 rfl 1 rfl ?_
  refine go_if_lt (tgt := 11) dX7_doing_1 (by decide) (fun c1 => ?_) (fun c1 => ?_)
  · have h := h.1 c1
    refine go_bipush dX7_doing_11 (v := (-2 : Int32)) (by decide) ?_
    exact go_iret dX7_doing_13 rfl rfl (by decide) ⟨rfl, _, rfl, h⟩
  · have h := h.2 c1
    refine go_iload_n dX7_doing_4 rfl 1 rfl ?_
    refine go_sipush dX7_doing_5 (v := (299 : Int32)) (by decide) ?_
    refine go_icmp_le (tgt := 14) dX7_doing_8 (by decide) (fun c2 => ?_) (fun c2 => ?_)
    · have h := h.1 c2
      refine go_iload_n dX7_doing_14 rfl 2 rfl ?_
      by_cases c3 : a2 = (0 : Int32)
      · have h := h.1 c3
        refine go_tIn (tgt := 40) dX7_doing_15 (by rw [c3]; decide) (by rw [c3]; decide) (by rw [c3] <;> rfl) (by decide) ?_
        refine go_aload_n dX7_doing_40 rfl 0 rfl ?_
        refine go_getR dX7_doing_41 sh_0 (by decide) f_X7_28 ⟨Nat.le_of_ble_eq_true rfl, Nat.le_of_ble_eq_true rfl, rfl⟩ rfl ?_
        refine go_iload_n dX7_doing_44 rfl 1 rfl ?_
        refine go_vcall (Z := Y_X5_saidIn) (As := [.int a1]) (S := []) dX7_doing_45 ok_X5_saidIn l_X7_164 (by decide) (tel_sh (Or.inl rfl)) (by decide) (Nat.le_of_ble_eq_true rfl) rfl rfl rfl (Nat.le_of_ble_eq_true rfl) h (fun _ I4 _ hq => ?_)
        obtain ⟨rfl, r5, rfl, h⟩ := hq
        show Go G Y_X7_doing 48 [(0, .ref 0), (1, .int a1), (2, .int a2)] [.int r5] SH I4 0 0 _
        exact go_iret dX7_doing_48 rfl rfl (by decide) ⟨rfl, _, rfl, h⟩
      have h := h.2
      have c3_0 : a2 ≠ nI 0 := c3
      clear c3
      by_cases c3 : a2 = (1 : Int32)
      · have h := h.1 c3
        refine go_tIn (tgt := 49) dX7_doing_15 (by rw [c3]; decide) (by rw [c3]; decide) (by rw [c3] <;> rfl) (by decide) ?_
        refine go_aload_n dX7_doing_49 rfl 0 rfl ?_
        refine go_getR dX7_doing_50 sh_0 (by decide) f_X7_28 ⟨Nat.le_of_ble_eq_true rfl, Nat.le_of_ble_eq_true rfl, rfl⟩ rfl ?_
        refine go_iload_n dX7_doing_53 rfl 1 rfl ?_
        refine go_vcall (Z := Y_X5_madeIn) (As := [.int a1]) (S := []) dX7_doing_54 ok_X5_madeIn l_X7_168 (by decide) (tel_sh (Or.inl rfl)) (by decide) (Nat.le_of_ble_eq_true rfl) rfl rfl rfl (Nat.le_of_ble_eq_true rfl) h (fun _ I6 _ hq => ?_)
        obtain ⟨rfl, r7, rfl, h⟩ := hq
        show Go G Y_X7_doing 57 [(0, .ref 0), (1, .int a1), (2, .int a2)] [.int r7] SH I6 0 0 _
        exact go_iret dX7_doing_57 rfl rfl (by decide) ⟨rfl, _, rfl, h⟩
      have h := h.2
      have c3_1 : a2 ≠ nI 1 := c3
      clear c3
      by_cases c3 : a2 = (2 : Int32)
      · have h := h.1 c3
        refine go_tIn (tgt := 58) dX7_doing_15 (by rw [c3]; decide) (by rw [c3]; decide) (by rw [c3] <;> rfl) (by decide) ?_
        refine go_aload_n dX7_doing_58 rfl 0 rfl ?_
        refine go_getR dX7_doing_59 sh_0 (by decide) f_X7_28 ⟨Nat.le_of_ble_eq_true rfl, Nat.le_of_ble_eq_true rfl, rfl⟩ rfl ?_
        refine go_iload_n dX7_doing_62 rfl 1 rfl ?_
        refine go_vcall (Z := Y_X5_inHandIn) (As := [.int a1]) (S := []) dX7_doing_63 ok_X5_inHandIn l_X7_171 (by decide) (tel_sh (Or.inl rfl)) (by decide) (Nat.le_of_ble_eq_true rfl) rfl rfl rfl (Nat.le_of_ble_eq_true rfl) h (fun _ I8 _ hq => ?_)
        obtain ⟨rfl, r9, rfl, h⟩ := hq
        show Go G Y_X7_doing 66 [(0, .ref 0), (1, .int a1), (2, .int a2)] [.int r9] SH I8 0 0 _
        exact go_iret dX7_doing_66 rfl rfl (by decide) ⟨rfl, _, rfl, h⟩
      have h := h.2
      have c3_2 : a2 ≠ nI 2 := c3
      clear c3
      have hb10 : ∀ j : Nat, j < 3 → a2 ≠ nI j := by
        intro j hj
        rcases (show j = 0 ∨ j = 1 ∨ j = 2 by omega) with rfl | rfl | rfl
        · exact c3_0
        · exact c3_1
        · exact c3_2
      have h := h hb10
      refine go_tOut (tgt := 67) dX7_doing_15 (sw_out (n := 3) (by decide) hb10) (by decide) ?_
      refine go_bipush dX7_doing_67 (v := (-2 : Int32)) (by decide) ?_
      exact go_iret dX7_doing_69 rfl rfl (by decide) ⟨rfl, _, rfl, h⟩
    · have h := h.2 c2
      refine go_bipush dX7_doing_11 (v := (-2 : Int32)) (by decide) ?_
      exact go_iret dX7_doing_13 rfl rfl (by decide) ⟨rfl, _, rfl, h⟩
set_option maxRecDepth 100000 in
set_option maxHeartbeats 4000000 in
theorem v_X7_put {G : CX} {a1 : Int32}  {I : HP} {Q : HP → Int32 → Prop} (h : ((a1 < 0) → (Q I (-2 : Int32))) ∧ ((¬ a1 < 0) → (((a1 < (6 : Int32)) → (((¬ (I 0 9) = 0) → ((vp_in a1 6) ∧ (Q I (I 41 (nn a1))))) ∧ (((I 0 9) = 0) → (RV G Y_X1_seek [.ref 40] I (fun I5 => (vp_in a1 6) ∧ (Q (st I5 0 9 (1 : Int32)) ((st I5 0 9 (1 : Int32)) 41 (nn a1)))))))) ∧ ((¬ a1 < (6 : Int32)) → (Q I (-2 : Int32)))))) : RI G Y_X7_put [.ref 0, .int a1] I Q := by
  refine ret_of (show plainName RX7 = true by decide) (Nat.le_of_ble_eq_true rfl) ?_
  show Go G Y_X7_put 0 [(0, .ref 0), (1, .int a1)] [] SH I 0 0 _
  refine go_iload_n dX7_put_0 rfl 1 rfl ?_
  refine go_if_lt (tgt := 10) dX7_put_1 (by decide) (fun c1 => ?_) (fun c1 => ?_)
  · have h := h.1 c1
    refine go_bipush dX7_put_10 (v := (-2 : Int32)) (by decide) ?_
    exact go_iret dX7_put_12 rfl rfl (by decide) ⟨rfl, _, rfl, h⟩
  · have h := h.2 c1
    refine go_iload_n dX7_put_4 rfl 1 rfl ?_
    refine go_bipush dX7_put_5 (v := (6 : Int32)) (by decide) ?_
    refine go_icmp_lt (tgt := 13) dX7_put_7 (by decide) (fun c2 => ?_) (fun c2 => ?_)
    · have h := h.1 c2
      refine go_aload_n dX7_put_13 rfl 0 rfl ?_
      refine go_getI dX7_put_14 sh_0 (by decide) f_X7_174 ⟨Nat.le_of_ble_eq_true rfl, Nat.le_of_ble_eq_true rfl, rfl⟩ ?_
      refine go_if_ne (tgt := 32) dX7_put_17 (by decide) (fun c3 => ?_) (fun c3 => ?_)
      · have h := h.1 c3
        refine go_aload_n dX7_put_32 rfl 0 rfl ?_
        refine go_getR dX7_put_33 sh_0 (by decide) f_X7_40 ⟨Nat.le_of_ble_eq_true rfl, Nat.le_of_ble_eq_true rfl, rfl⟩ rfl ?_
        refine go_getR dX7_put_36 sh_40 (by decide) f_X7_181 ⟨Nat.le_of_ble_eq_true rfl, Nat.le_of_ble_eq_true rfl, rfl⟩ rfl ?_
        refine go_iload_n dX7_put_39 rfl 1 rfl ?_
        have hb4 := h.1
        have h := h.2
        refine go_iald dX7_put_40 sh_41 (by decide) hb4 rfl ?_
        exact go_iret dX7_put_41 rfl rfl (by decide) ⟨rfl, _, rfl, h⟩
      · have h := h.2 c3
        refine go_aload_n dX7_put_20 rfl 0 rfl ?_
        refine go_getR dX7_put_21 sh_0 (by decide) f_X7_40 ⟨Nat.le_of_ble_eq_true rfl, Nat.le_of_ble_eq_true rfl, rfl⟩ rfl ?_
        refine go_vcall (Z := Y_X1_seek) (As := []) (S := []) dX7_put_24 ok_X1_seek l_X7_178 (by decide) sh_40 (by decide) (Nat.le_of_ble_eq_true rfl) rfl rfl rfl (Nat.le_of_ble_eq_true rfl) h (fun _ I5 _ hq => ?_)
        obtain ⟨rfl, rfl, h⟩ := hq
        show Go G Y_X7_put 27 [(0, .ref 0), (1, .int a1)] [] SH I5 0 0 _
        refine go_aload_n dX7_put_27 rfl 0 rfl ?_
        refine go_iconst dX7_put_28 (v := (1 : Int32)) (by decide) ?_
        refine go_putT dX7_put_29 sh_0 (by decide) p_X7_174 ⟨Nat.le_of_ble_eq_true rfl, Nat.le_of_ble_eq_true rfl, rfl⟩ rfl rfl ?_
        refine go_aload_n dX7_put_32 rfl 0 rfl ?_
        refine go_getR dX7_put_33 sh_0 (by decide) f_X7_40 ⟨Nat.le_of_ble_eq_true rfl, Nat.le_of_ble_eq_true rfl, rfl⟩ rfl ?_
        refine go_getR dX7_put_36 sh_40 (by decide) f_X7_181 ⟨Nat.le_of_ble_eq_true rfl, Nat.le_of_ble_eq_true rfl, rfl⟩ rfl ?_
        refine go_iload_n dX7_put_39 rfl 1 rfl ?_
        have hb6 := h.1
        have h := h.2
        refine go_iald dX7_put_40 sh_41 (by decide) hb6 rfl ?_
        exact go_iret dX7_put_41 rfl rfl (by decide) ⟨rfl, _, rfl, h⟩
    · have h := h.2 c2
      refine go_bipush dX7_put_10 (v := (-2 : Int32)) (by decide) ?_
      exact go_iret dX7_put_12 rfl rfl (by decide) ⟨rfl, _, rfl, h⟩
set_option maxRecDepth 100000 in
set_option maxHeartbeats 4000000 in
theorem v_X7_order {G : CX} {a1 : Int32}  {I : HP} {Q : HP → Int32 → Prop} (h : ((a1 < (-2 : Int32)) → (Q I (-2 : Int32))) ∧ ((¬ a1 < (-2 : Int32)) → (((a1 < (7 : Int32)) → (((¬ (I 0 10) = 0) → (((¬ a1 = (-2 : Int32)) → (((¬ a1 = (-1 : Int32)) → ((vp_in a1 7) ∧ (Q I (I 44 (nn a1))))) ∧ ((a1 = (-1 : Int32)) → (Q I (I 42 8))))) ∧ ((a1 = (-2 : Int32)) → (Q I (I 42 7))))) ∧ (((I 0 10) = 0) → (RV G Y_X0_seek [.ref 42] I (fun I7 => ((¬ a1 = (-2 : Int32)) → (((¬ a1 = (-1 : Int32)) → ((vp_in a1 7) ∧ (Q (st I7 0 10 (1 : Int32)) ((st I7 0 10 (1 : Int32)) 44 (nn a1))))) ∧ ((a1 = (-1 : Int32)) → (Q (st I7 0 10 (1 : Int32)) ((st I7 0 10 (1 : Int32)) 42 8))))) ∧ ((a1 = (-2 : Int32)) → (Q (st I7 0 10 (1 : Int32)) ((st I7 0 10 (1 : Int32)) 42 7)))))))) ∧ ((¬ a1 < (7 : Int32)) → (Q I (-2 : Int32)))))) : RI G Y_X7_order [.ref 0, .int a1] I Q := by
  refine ret_of (show plainName RX7 = true by decide) (Nat.le_of_ble_eq_true rfl) ?_
  show Go G Y_X7_order 0 [(0, .ref 0), (1, .int a1)] [] SH I 0 0 _
  refine go_iload_n dX7_order_0 rfl 1 rfl ?_
  refine go_bipush dX7_order_1 (v := (-2 : Int32)) (by decide) ?_
  refine go_icmp_lt (tgt := 12) dX7_order_3 (by decide) (fun c1 => ?_) (fun c1 => ?_)
  · have h := h.1 c1
    refine go_bipush dX7_order_12 (v := (-2 : Int32)) (by decide) ?_
    exact go_iret dX7_order_14 rfl rfl (by decide) ⟨rfl, _, rfl, h⟩
  · have h := h.2 c1
    refine go_iload_n dX7_order_6 rfl 1 rfl ?_
    refine go_bipush dX7_order_7 (v := (7 : Int32)) (by decide) ?_
    refine go_icmp_lt (tgt := 15) dX7_order_9 (by decide) (fun c2 => ?_) (fun c2 => ?_)
    · have h := h.1 c2
      refine go_aload_n dX7_order_15 rfl 0 rfl ?_
      refine go_getI dX7_order_16 sh_0 (by decide) f_X7_184 ⟨Nat.le_of_ble_eq_true rfl, Nat.le_of_ble_eq_true rfl, rfl⟩ ?_
      refine go_if_ne (tgt := 34) dX7_order_19 (by decide) (fun c3 => ?_) (fun c3 => ?_)
      · have h := h.1 c3
        refine go_iload_n dX7_order_34 rfl 1 rfl ?_
        refine go_bipush dX7_order_35 (v := (-2 : Int32)) (by decide) ?_
        refine go_icmp_ne (tgt := 48) dX7_order_37 (by decide) (fun c4 => ?_) (fun c4 => ?_)
        · have h := h.1 c4
          refine go_iload_n dX7_order_48 rfl 1 rfl ?_
          refine go_iconst dX7_order_49 (v := (-1 : Int32)) (by decide) ?_
          refine go_icmp_ne (tgt := 63) dX7_order_50 (by decide) (fun c5 => ?_) (fun c5 => ?_)
          · have h := h.1 c5
            refine go_aload_n dX7_order_63 rfl 0 rfl ?_
            refine go_getR dX7_order_64 sh_0 (by decide) f_X7_49 ⟨Nat.le_of_ble_eq_true rfl, Nat.le_of_ble_eq_true rfl, rfl⟩ rfl ?_
            refine go_getR dX7_order_67 sh_42 (by decide) f_X7_194 ⟨Nat.le_of_ble_eq_true rfl, Nat.le_of_ble_eq_true rfl, rfl⟩ rfl ?_
            refine go_iload_n dX7_order_70 rfl 1 rfl ?_
            have hb6 := h.1
            have h := h.2
            refine go_iald dX7_order_71 sh_44 (by decide) hb6 rfl ?_
            exact go_iret dX7_order_72 rfl rfl (by decide) ⟨rfl, _, rfl, h⟩
          · have h := h.2 c5
            refine go_aload_n dX7_order_53 rfl 0 rfl ?_
            refine go_getR dX7_order_54 sh_0 (by decide) f_X7_49 ⟨Nat.le_of_ble_eq_true rfl, Nat.le_of_ble_eq_true rfl, rfl⟩ rfl ?_
            refine go_getI dX7_order_57 sh_42 (by decide) f_X7_191 ⟨Nat.le_of_ble_eq_true rfl, Nat.le_of_ble_eq_true rfl, rfl⟩ ?_
            refine go_goto (tgt := 72) dX7_order_60 (by decide) ?_
            exact go_iret dX7_order_72 rfl rfl (by decide) ⟨rfl, _, rfl, h⟩
        · have h := h.2 c4
          refine go_aload_n dX7_order_40 rfl 0 rfl ?_
          refine go_getR dX7_order_41 sh_0 (by decide) f_X7_49 ⟨Nat.le_of_ble_eq_true rfl, Nat.le_of_ble_eq_true rfl, rfl⟩ rfl ?_
          refine go_getI dX7_order_44 sh_42 (by decide) f_X7_188 ⟨Nat.le_of_ble_eq_true rfl, Nat.le_of_ble_eq_true rfl, rfl⟩ ?_
          exact go_iret dX7_order_47 rfl rfl (by decide) ⟨rfl, _, rfl, h⟩
      · have h := h.2 c3
        refine go_aload_n dX7_order_22 rfl 0 rfl ?_
        refine go_getR dX7_order_23 sh_0 (by decide) f_X7_49 ⟨Nat.le_of_ble_eq_true rfl, Nat.le_of_ble_eq_true rfl, rfl⟩ rfl ?_
        refine go_vcall (Z := Y_X0_seek) (As := []) (S := []) dX7_order_26 ok_X0_seek l_X7_187 (by decide) sh_42 (by decide) (Nat.le_of_ble_eq_true rfl) rfl rfl rfl (Nat.le_of_ble_eq_true rfl) h (fun _ I7 _ hq => ?_)
        obtain ⟨rfl, rfl, h⟩ := hq
        show Go G Y_X7_order 29 [(0, .ref 0), (1, .int a1)] [] SH I7 0 0 _
        refine go_aload_n dX7_order_29 rfl 0 rfl ?_
        refine go_iconst dX7_order_30 (v := (1 : Int32)) (by decide) ?_
        refine go_putT dX7_order_31 sh_0 (by decide) p_X7_184 ⟨Nat.le_of_ble_eq_true rfl, Nat.le_of_ble_eq_true rfl, rfl⟩ rfl rfl ?_
        refine go_iload_n dX7_order_34 rfl 1 rfl ?_
        refine go_bipush dX7_order_35 (v := (-2 : Int32)) (by decide) ?_
        refine go_icmp_ne (tgt := 48) dX7_order_37 (by decide) (fun c8 => ?_) (fun c8 => ?_)
        · have h := h.1 c8
          refine go_iload_n dX7_order_48 rfl 1 rfl ?_
          refine go_iconst dX7_order_49 (v := (-1 : Int32)) (by decide) ?_
          refine go_icmp_ne (tgt := 63) dX7_order_50 (by decide) (fun c9 => ?_) (fun c9 => ?_)
          · have h := h.1 c9
            refine go_aload_n dX7_order_63 rfl 0 rfl ?_
            refine go_getR dX7_order_64 sh_0 (by decide) f_X7_49 ⟨Nat.le_of_ble_eq_true rfl, Nat.le_of_ble_eq_true rfl, rfl⟩ rfl ?_
            refine go_getR dX7_order_67 sh_42 (by decide) f_X7_194 ⟨Nat.le_of_ble_eq_true rfl, Nat.le_of_ble_eq_true rfl, rfl⟩ rfl ?_
            refine go_iload_n dX7_order_70 rfl 1 rfl ?_
            have hb10 := h.1
            have h := h.2
            refine go_iald dX7_order_71 sh_44 (by decide) hb10 rfl ?_
            exact go_iret dX7_order_72 rfl rfl (by decide) ⟨rfl, _, rfl, h⟩
          · have h := h.2 c9
            refine go_aload_n dX7_order_53 rfl 0 rfl ?_
            refine go_getR dX7_order_54 sh_0 (by decide) f_X7_49 ⟨Nat.le_of_ble_eq_true rfl, Nat.le_of_ble_eq_true rfl, rfl⟩ rfl ?_
            refine go_getI dX7_order_57 sh_42 (by decide) f_X7_191 ⟨Nat.le_of_ble_eq_true rfl, Nat.le_of_ble_eq_true rfl, rfl⟩ ?_
            refine go_goto (tgt := 72) dX7_order_60 (by decide) ?_
            exact go_iret dX7_order_72 rfl rfl (by decide) ⟨rfl, _, rfl, h⟩
        · have h := h.2 c8
          refine go_aload_n dX7_order_40 rfl 0 rfl ?_
          refine go_getR dX7_order_41 sh_0 (by decide) f_X7_49 ⟨Nat.le_of_ble_eq_true rfl, Nat.le_of_ble_eq_true rfl, rfl⟩ rfl ?_
          refine go_getI dX7_order_44 sh_42 (by decide) f_X7_188 ⟨Nat.le_of_ble_eq_true rfl, Nat.le_of_ble_eq_true rfl, rfl⟩ ?_
          exact go_iret dX7_order_47 rfl rfl (by decide) ⟨rfl, _, rfl, h⟩
    · have h := h.2 c2
      refine go_bipush dX7_order_12 (v := (-2 : Int32)) (by decide) ?_
      exact go_iret dX7_order_14 rfl rfl (by decide) ⟨rfl, _, rfl, h⟩
set_option maxRecDepth 100000 in
set_option maxHeartbeats 4000000 in
theorem v_X7_lead {G : CX}   {I : HP} {Q : HP → Int32 → Prop} (h : GI G Y_X7_lead 2 [(0, .ref 0), (1, .int (0 : Int32))] I Q) : RI G Y_X7_lead [.ref 0] I Q := by
  refine ret_of (show plainName RX7 = true by decide) (Nat.le_of_ble_eq_true rfl) ?_
  show Go G Y_X7_lead 0 [(0, .ref 0)] [] SH I 0 0 _
  refine go_iconst dX7_lead_0 (v := (0 : Int32)) (by decide) ?_
  refine go_istore_n dX7_lead_1 rfl (Nat.le_of_ble_eq_true rfl) (L2 := [(1, .int (0 : Int32)), (0, .ref 0)]) rfl ?_
  exact go_loc [(0, .ref 0), (1, .int (0 : Int32))] [1, 0] rfl h
set_option maxRecDepth 100000 in
set_option maxHeartbeats 4000000 in
theorem v_X7_lead_2 {G : CX} {x1 : Int32}  {I : HP} {Q : HP → Int32 → Prop} (h : (((99 : Int32) < x1) → (Q I (-1 : Int32))) ∧ ((¬ (99 : Int32) < x1) → (RV G Y_X5_open [.ref 22, .ref 1] I (fun I2 => RV G Y_X5_changeLead [.ref 22, .int x1] I2 (fun I3 => RV G Y_X5_addAll [.ref 22, .ref 2] I3 (fun I4 => RZ G Y_X5_isWholeWithoutPause [.ref 22] I4 (fun I5 r6 => (((bI r6) = 0) → (GI G Y_X7_lead 2 [(0, .ref 0), (1, .int (x1 + 1))] I5 Q)) ∧ ((¬ (bI r6) = 0) → (Q I5 x1))))))))) : GI G Y_X7_lead 2 [(0, .ref 0), (1, .int x1)] I Q := by
  show Go G Y_X7_lead 2 [(0, .ref 0), (1, .int x1)] [] SH I 0 0 _
  refine go_iload_n dX7_lead_2 rfl 1 rfl ?_
  refine go_bipush dX7_lead_3 (v := (99 : Int32)) (by decide) ?_
  refine go_icmp_gt (tgt := 56) dX7_lead_5 (by decide) (fun c1 => ?_) (fun c1 => ?_)
  · have h := h.1 c1
    refine go_iconst dX7_lead_56 (v := (-1 : Int32)) (by decide) ?_
    exact go_iret dX7_lead_57 rfl rfl (by decide) ⟨rfl, _, rfl, h⟩
  · have h := h.2 c1
    refine go_aload_n dX7_lead_8 rfl 0 rfl ?_
    refine go_getR dX7_lead_9 sh_0 (by decide) f_X7_32 ⟨Nat.le_of_ble_eq_true rfl, Nat.le_of_ble_eq_true rfl, rfl⟩ rfl ?_
    refine go_aload_n dX7_lead_12 rfl 0 rfl ?_
    refine go_getR dX7_lead_13 sh_0 (by decide) f_X7_7 ⟨Nat.le_of_ble_eq_true rfl, Nat.le_of_ble_eq_true rfl, rfl⟩ rfl ?_
    refine go_vcall (Z := Y_X5_open) (As := [.ref 1]) (S := []) dX7_lead_16 ok_X5_open l_X7_195 (by decide) (tel_sh (Or.inr rfl)) (by decide) (Nat.le_of_ble_eq_true rfl) rfl rfl rfl (Nat.le_of_ble_eq_true rfl) h (fun _ I2 _ hq => ?_)
    obtain ⟨rfl, rfl, h⟩ := hq
    show Go G Y_X7_lead 19 [(0, .ref 0), (1, .int x1)] [] SH I2 0 0 _
    refine go_aload_n dX7_lead_19 rfl 0 rfl ?_
    refine go_getR dX7_lead_20 sh_0 (by decide) f_X7_32 ⟨Nat.le_of_ble_eq_true rfl, Nat.le_of_ble_eq_true rfl, rfl⟩ rfl ?_
    refine go_iload_n dX7_lead_23 rfl 1 rfl ?_
    refine go_vcall (Z := Y_X5_changeLead) (As := [.int x1]) (S := []) dX7_lead_24 ok_X5_changeLead l_X7_199 (by decide) (tel_sh (Or.inr rfl)) (by decide) (Nat.le_of_ble_eq_true rfl) rfl rfl rfl (Nat.le_of_ble_eq_true rfl) h (fun _ I3 _ hq => ?_)
    obtain ⟨rfl, rfl, h⟩ := hq
    show Go G Y_X7_lead 27 [(0, .ref 0), (1, .int x1)] [] SH I3 0 0 _
    refine go_aload_n dX7_lead_27 rfl 0 rfl ?_
    refine go_getR dX7_lead_28 sh_0 (by decide) f_X7_32 ⟨Nat.le_of_ble_eq_true rfl, Nat.le_of_ble_eq_true rfl, rfl⟩ rfl ?_
    refine go_aload_n dX7_lead_31 rfl 0 rfl ?_
    refine go_getR dX7_lead_32 sh_0 (by decide) f_X7_18 ⟨Nat.le_of_ble_eq_true rfl, Nat.le_of_ble_eq_true rfl, rfl⟩ rfl ?_
    refine go_vcall (Z := Y_X5_addAll) (As := [.ref 2]) (S := []) dX7_lead_35 ok_X5_addAll l_X7_202 (by decide) (tel_sh (Or.inr rfl)) (by decide) (Nat.le_of_ble_eq_true rfl) rfl rfl rfl (Nat.le_of_ble_eq_true rfl) h (fun _ I4 _ hq => ?_)
    obtain ⟨rfl, rfl, h⟩ := hq
    show Go G Y_X7_lead 38 [(0, .ref 0), (1, .int x1)] [] SH I4 0 0 _
    refine go_aload_n dX7_lead_38 rfl 0 rfl ?_
    refine go_getR dX7_lead_39 sh_0 (by decide) f_X7_32 ⟨Nat.le_of_ble_eq_true rfl, Nat.le_of_ble_eq_true rfl, rfl⟩ rfl ?_
    refine go_vcall (Z := Y_X5_isWholeWithoutPause) (As := []) (S := []) dX7_lead_42 ok_X5_isWholeWithoutPause l_X7_206 (by decide) (tel_sh (Or.inr rfl)) (by decide) (Nat.le_of_ble_eq_true rfl) rfl rfl rfl (Nat.le_of_ble_eq_true rfl) h (fun _ I5 _ hq => ?_)
    obtain ⟨rfl, r6, rfl, h⟩ := hq
    show Go G Y_X7_lead 45 [(0, .ref 0), (1, .int x1)] [.int (bI r6)] SH I5 0 0 _
    refine go_if_eq (tgt := 50) dX7_lead_45 (by decide) (fun c7 => ?_) (fun c7 => ?_)
    · have h := h.1 c7
      refine go_iinc dX7_lead_50 1 rfl (v := (x1 + 1)) rfl (Nat.le_of_ble_eq_true rfl) (L2 := [(1, .int (x1 + 1)), (0, .ref 0)]) rfl ?_
      refine go_goto (tgt := 2) dX7_lead_53 (by decide) ?_
      exact go_loc [(0, .ref 0), (1, .int (x1 + 1))] [1, 0] rfl h
    · have h := h.2 c7
      refine go_iload_n dX7_lead_48 rfl 1 rfl ?_
      exact go_iret dX7_lead_49 rfl rfl (by decide) ⟨rfl, _, rfl, h⟩
set_option maxRecDepth 100000 in
set_option maxHeartbeats 4000000 in
theorem v_X7_odds {G : CX} {a1 : Int32}  {I : HP} {Q : HP → Int64 → Prop} (h : ((a1 < 0) → (Q I (-9223372036854775806 : Int64))) ∧ ((¬ a1 < 0) → (((a1 ≤ (3 : Int32)) → (GJ G Y_X7_odds 24 [(0, .ref 0), (1, .int a1), (2, .long (1 : Int64)), (4, .long (0 : Int64)), (6, .long (1 : Int64)), (8, .int (0 : Int32))] I Q)) ∧ ((¬ a1 ≤ (3 : Int32)) → (Q I (-9223372036854775806 : Int64)))))) : RJ G Y_X7_odds [.ref 0, .int a1] I Q := by
  refine ret_of (show plainName RX7 = true by decide) (Nat.le_of_ble_eq_true rfl) ?_
  show Go G Y_X7_odds 0 [(0, .ref 0), (1, .int a1)] [] SH I 0 0 _
  refine go_iload_n dX7_odds_0 rfl 1 rfl ?_
  refine go_if_lt (tgt := 9) dX7_odds_1 (by decide) (fun c1 => ?_) (fun c1 => ?_)
  · have h := h.1 c1
    refine go_ldc2 dX7_odds_9 k_X7_209 ?_
    exact go_lret dX7_odds_12 rfl rfl (by decide) ⟨rfl, _, rfl, h⟩
  · have h := h.2 c1
    refine go_iload_n dX7_odds_4 rfl 1 rfl ?_
    refine go_iconst dX7_odds_5 (v := (3 : Int32)) (by decide) ?_
    refine go_icmp_le (tgt := 13) dX7_odds_6 (by decide) (fun c2 => ?_) (fun c2 => ?_)
    · have h := h.1 c2
      refine go_lconst dX7_odds_13 (v := (1 : Int64)) (by decide) ?_
      refine go_lstore_n dX7_odds_14 rfl (Nat.le_of_ble_eq_true rfl) (L2 := [(2, .long (1 : Int64)), (0, .ref 0), (1, .int a1)]) rfl ?_
      refine go_lconst dX7_odds_15 (v := (0 : Int64)) (by decide) ?_
      refine go_lstore dX7_odds_16 (Nat.le_of_ble_eq_true rfl) (L2 := [(4, .long (0 : Int64)), (2, .long (1 : Int64)), (0, .ref 0), (1, .int a1)]) rfl ?_
      refine go_lconst dX7_odds_18 (v := (1 : Int64)) (by decide) ?_
      refine go_lstore dX7_odds_19 (Nat.le_of_ble_eq_true rfl) (L2 := [(6, .long (1 : Int64)), (4, .long (0 : Int64)), (2, .long (1 : Int64)), (0, .ref 0), (1, .int a1)]) rfl ?_
      refine go_iconst dX7_odds_21 (v := (0 : Int32)) (by decide) ?_
      refine go_istore dX7_odds_22 (Nat.le_of_ble_eq_true rfl) (L2 := [(8, .int (0 : Int32)), (6, .long (1 : Int64)), (4, .long (0 : Int64)), (2, .long (1 : Int64)), (0, .ref 0), (1, .int a1)]) rfl ?_
      exact go_loc [(0, .ref 0), (1, .int a1), (2, .long (1 : Int64)), (4, .long (0 : Int64)), (6, .long (1 : Int64)), (8, .int (0 : Int32))] [4, 5, 3, 2, 1, 0] rfl h
    · have h := h.2 c2
      refine go_ldc2 dX7_odds_9 k_X7_209 ?_
      exact go_lret dX7_odds_12 rfl rfl (by decide) ⟨rfl, _, rfl, h⟩
set_option maxRecDepth 100000 in
set_option maxHeartbeats 4000000 in
theorem v_X7_odds_24 {G : CX} {x1 : Int32} {x2 : Int64} {x4 : Int64} {x6 : Int64} {x8 : Int32}  {I : HP} {Q : HP → Int64 → Prop} (h : (((I 2 3) ≤ x8) → ((((2 : Int32) ≤ x1) → (GJ G Y_X7_odds 89 [(1, .int x1), (6, .long x6), (8, .long x4), (10, .int (0 : Int32))] I Q)) ∧ ((¬ (2 : Int32) ≤ x1) → (GJ G Y_X7_odds 89 [(1, .int x1), (6, .long x6), (8, .long x2), (10, .int (0 : Int32))] I Q)))) ∧ ((¬ (I 2 3) ≤ x8) → (RI G Y_X7_sixteenths [.ref 0, .int x8] I (fun I3 r4 => ∀ z5 : Int64, z5 = ((x4 * (16 : Int64)) + (x2 * (((16 : Int32) - r4).toInt64))) → GJ G Y_X7_odds 24 [(0, .ref 0), (1, .int x1), (2, .long (x2 * (((16 : Int32) - r4).toInt64))), (4, .long z5), (6, .long (x6 * (16 : Int64))), (8, .int (x8 + 1))] I3 Q)))) : GJ G Y_X7_odds 24 [(0, .ref 0), (1, .int x1), (2, .long x2), (4, .long x4), (6, .long x6), (8, .int x8)] I Q := by
  show Go G Y_X7_odds 24 [(0, .ref 0), (1, .int x1), (2, .long x2), (4, .long x4), (6, .long x6), (8, .int x8)] [] SH I 0 0 _
  refine go_iload dX7_odds_24 5 rfl ?_
  refine go_aload_n dX7_odds_26 rfl 0 rfl ?_
  refine go_getR dX7_odds_27 sh_0 (by decide) f_X7_18 ⟨Nat.le_of_ble_eq_true rfl, Nat.le_of_ble_eq_true rfl, rfl⟩ rfl ?_
  refine go_getI dX7_odds_30 (scr_sh (Or.inl rfl)) (by decide) f_X7_92 ⟨Nat.le_of_ble_eq_true rfl, Nat.le_of_ble_eq_true rfl, rfl⟩ ?_
  refine go_icmp_ge (tgt := 73) dX7_odds_33 (by decide) (fun c1 => ?_) (fun c1 => ?_)
  · have h := h.1 c1
    refine go_iload_n dX7_odds_73 rfl 1 rfl ?_
    refine go_iconst dX7_odds_74 (v := (2 : Int32)) (by decide) ?_
    refine go_icmp_ge (tgt := 82) dX7_odds_75 (by decide) (fun c2 => ?_) (fun c2 => ?_)
    · have h := h.1 c2
      refine go_lload dX7_odds_82 3 rfl ?_
      refine go_lstore dX7_odds_84 (Nat.le_of_ble_eq_true rfl) (L2 := [(8, .long x4), (0, .ref 0), (1, .int x1), (2, .long x2), (4, .long x4), (6, .long x6)]) rfl ?_
      refine go_iconst dX7_odds_86 (v := (0 : Int32)) (by decide) ?_
      refine go_istore dX7_odds_87 (Nat.le_of_ble_eq_true rfl) (L2 := [(10, .int (0 : Int32)), (8, .long x4), (0, .ref 0), (1, .int x1), (2, .long x2), (4, .long x4), (6, .long x6)]) rfl ?_
      exact go_loc [(1, .int x1), (6, .long x6), (8, .long x4), (10, .int (0 : Int32))] [3, 6, 1, 0] rfl h
    · have h := h.2 c2
      refine go_lload_n dX7_odds_78 rfl 2 rfl ?_
      refine go_goto (tgt := 84) dX7_odds_79 (by decide) ?_
      refine go_lstore dX7_odds_84 (Nat.le_of_ble_eq_true rfl) (L2 := [(8, .long x2), (0, .ref 0), (1, .int x1), (2, .long x2), (4, .long x4), (6, .long x6)]) rfl ?_
      refine go_iconst dX7_odds_86 (v := (0 : Int32)) (by decide) ?_
      refine go_istore dX7_odds_87 (Nat.le_of_ble_eq_true rfl) (L2 := [(10, .int (0 : Int32)), (8, .long x2), (0, .ref 0), (1, .int x1), (2, .long x2), (4, .long x4), (6, .long x6)]) rfl ?_
      exact go_loc [(1, .int x1), (6, .long x6), (8, .long x2), (10, .int (0 : Int32))] [3, 6, 1, 0] rfl h
  · have h := h.2 c1
    refine go_lload_n dX7_odds_36 rfl 2 rfl ?_
    refine go_bipush dX7_odds_37 (v := (16 : Int32)) (by decide) ?_
    refine go_aload_n dX7_odds_39 rfl 0 rfl ?_
    refine go_iload dX7_odds_40 5 rfl ?_
    refine go_vcall (Z := Y_X7_sixteenths) (As := [.int x8]) (S := [.int (16 : Int32), .long x2]) dX7_odds_42 ok_X7_sixteenths l_X7_211 (by decide) sh_0 (by decide) (Nat.le_of_ble_eq_true rfl) rfl rfl rfl (Nat.le_of_ble_eq_true rfl) h (fun _ I3 _ hq => ?_)
    obtain ⟨rfl, r4, rfl, h⟩ := hq
    show Go G Y_X7_odds 45 [(0, .ref 0), (1, .int x1), (2, .long x2), (4, .long x4), (6, .long x6), (8, .int x8)] [.int r4, .int (16 : Int32), .long x2] SH I3 0 0 _
    refine go_isub dX7_odds_45 ?_
    refine go_i2l dX7_odds_46 ?_
    refine go_lmul dX7_odds_47 ?_
    refine go_lstore_n dX7_odds_48 rfl (Nat.le_of_ble_eq_true rfl) (L2 := [(2, .long (x2 * (((16 : Int32) - r4).toInt64))), (0, .ref 0), (1, .int x1), (4, .long x4), (6, .long x6), (8, .int x8)]) rfl ?_
    refine go_lload dX7_odds_49 4 rfl ?_
    refine go_ldc2 dX7_odds_51 k_X7_214 ?_
    refine go_lmul dX7_odds_54 ?_
    refine go_lstore dX7_odds_55 (Nat.le_of_ble_eq_true rfl) (L2 := [(6, .long (x6 * (16 : Int64))), (2, .long (x2 * (((16 : Int32) - r4).toInt64))), (0, .ref 0), (1, .int x1), (4, .long x4), (8, .int x8)]) rfl ?_
    refine go_lload dX7_odds_57 4 rfl ?_
    refine go_ldc2 dX7_odds_59 k_X7_214 ?_
    refine go_lmul dX7_odds_62 ?_
    refine go_lload_n dX7_odds_63 rfl 1 rfl ?_
    refine go_ladd dX7_odds_64 ?_
    refine go_topl (fun z5 ez5 => ?_)
    have h := h z5 ez5
    refine go_lstore dX7_odds_65 (Nat.le_of_ble_eq_true rfl) (L2 := [(4, .long z5), (6, .long (x6 * (16 : Int64))), (2, .long (x2 * (((16 : Int32) - r4).toInt64))), (0, .ref 0), (1, .int x1), (8, .int x8)]) rfl ?_
    refine go_iinc dX7_odds_67 5 rfl (v := (x8 + 1)) rfl (Nat.le_of_ble_eq_true rfl) (L2 := [(8, .int (x8 + 1)), (4, .long z5), (6, .long (x6 * (16 : Int64))), (2, .long (x2 * (((16 : Int32) - r4).toInt64))), (0, .ref 0), (1, .int x1)]) rfl ?_
    refine go_goto (tgt := 24) dX7_odds_70 (by decide) ?_
    exact go_loc [(0, .ref 0), (1, .int x1), (2, .long (x2 * (((16 : Int32) - r4).toInt64))), (4, .long z5), (6, .long (x6 * (16 : Int64))), (8, .int (x8 + 1))] [4, 5, 3, 1, 2, 0] rfl h
set_option maxRecDepth 100000 in
set_option maxHeartbeats 4000000 in
theorem v_X7_odds_89 {G : CX} {x1 : Int32} {x6 : Int64} {x8 : Int64} {x10 : Int32}  {I : HP} {Q : HP → Int64 → Prop} (h : (((64 : Int32) ≤ x10) → (((¬ (x1 - x1 / (2 : Int32) * (2 : Int32)) = 0) → (Q I x6)) ∧ (((x1 - x1 / (2 : Int32) * (2 : Int32)) = 0) → (Q I x8)))) ∧ ((¬ (64 : Int32) ≤ x10) → (((¬ (lg_cmp (x8 - x8 / (2 : Int64) * (2 : Int64)) (0 : Int64)) = 0) → (((¬ (x1 - x1 / (2 : Int32) * (2 : Int32)) = 0) → (Q I x6)) ∧ (((x1 - x1 / (2 : Int32) * (2 : Int32)) = 0) → (Q I x8)))) ∧ (((lg_cmp (x8 - x8 / (2 : Int64) * (2 : Int64)) (0 : Int64)) = 0) → (((¬ (lg_cmp (x6 - x6 / (2 : Int64) * (2 : Int64)) (0 : Int64)) = 0) → (((¬ (x1 - x1 / (2 : Int32) * (2 : Int32)) = 0) → (Q I x6)) ∧ (((x1 - x1 / (2 : Int32) * (2 : Int32)) = 0) → (Q I x8)))) ∧ (((lg_cmp (x6 - x6 / (2 : Int64) * (2 : Int64)) (0 : Int64)) = 0) → (GJ G Y_X7_odds 89 [(1, .int x1), (6, .long (x6 / (2 : Int64))), (8, .long (x8 / (2 : Int64))), (10, .int (x10 + 1))] I Q))))))) : GJ G Y_X7_odds 89 [(1, .int x1), (6, .long x6), (8, .long x8), (10, .int x10)] I Q := by
  show Go G Y_X7_odds 89 [(1, .int x1), (6, .long x6), (8, .long x8), (10, .int x10)] [] SH I 0 0 _
  refine go_iload dX7_odds_89 3 rfl ?_
  refine go_bipush dX7_odds_91 (v := (64 : Int32)) (by decide) ?_
  refine go_icmp_ge (tgt := 140) dX7_odds_93 (by decide) (fun c1 => ?_) (fun c1 => ?_)
  · have h := h.1 c1
    refine go_iload_n dX7_odds_140 rfl 0 rfl ?_
    refine go_iconst dX7_odds_141 (v := (2 : Int32)) (by decide) ?_
    refine go_irem dX7_odds_142 (by decide) ?_
    refine go_if_ne (tgt := 151) dX7_odds_143 (by decide) (fun c2 => ?_) (fun c2 => ?_)
    · have h := h.1 c2
      refine go_lload dX7_odds_151 1 rfl ?_
      exact go_lret dX7_odds_153 rfl rfl (by decide) ⟨rfl, _, rfl, h⟩
    · have h := h.2 c2
      refine go_lload dX7_odds_146 2 rfl ?_
      refine go_goto (tgt := 153) dX7_odds_148 (by decide) ?_
      exact go_lret dX7_odds_153 rfl rfl (by decide) ⟨rfl, _, rfl, h⟩
  · have h := h.2 c1
    refine go_lload dX7_odds_96 2 rfl ?_
    refine go_ldc2 dX7_odds_98 k_X7_216 ?_
    refine go_lrem dX7_odds_101 (by decide) ?_
    refine go_lconst dX7_odds_102 (v := (0 : Int64)) (by decide) ?_
    refine go_lcmp dX7_odds_103 ?_
    refine go_if_ne (tgt := 140) dX7_odds_104 (by decide) (fun c3 => ?_) (fun c3 => ?_)
    · have h := h.1 c3
      refine go_iload_n dX7_odds_140 rfl 0 rfl ?_
      refine go_iconst dX7_odds_141 (v := (2 : Int32)) (by decide) ?_
      refine go_irem dX7_odds_142 (by decide) ?_
      refine go_if_ne (tgt := 151) dX7_odds_143 (by decide) (fun c4 => ?_) (fun c4 => ?_)
      · have h := h.1 c4
        refine go_lload dX7_odds_151 1 rfl ?_
        exact go_lret dX7_odds_153 rfl rfl (by decide) ⟨rfl, _, rfl, h⟩
      · have h := h.2 c4
        refine go_lload dX7_odds_146 2 rfl ?_
        refine go_goto (tgt := 153) dX7_odds_148 (by decide) ?_
        exact go_lret dX7_odds_153 rfl rfl (by decide) ⟨rfl, _, rfl, h⟩
    · have h := h.2 c3
      refine go_lload dX7_odds_107 1 rfl ?_
      refine go_ldc2 dX7_odds_109 k_X7_216 ?_
      refine go_lrem dX7_odds_112 (by decide) ?_
      refine go_lconst dX7_odds_113 (v := (0 : Int64)) (by decide) ?_
      refine go_lcmp dX7_odds_114 ?_
      refine go_if_ne (tgt := 140) dX7_odds_115 (by decide) (fun c5 => ?_) (fun c5 => ?_)
      · have h := h.1 c5
        refine go_iload_n dX7_odds_140 rfl 0 rfl ?_
        refine go_iconst dX7_odds_141 (v := (2 : Int32)) (by decide) ?_
        refine go_irem dX7_odds_142 (by decide) ?_
        refine go_if_ne (tgt := 151) dX7_odds_143 (by decide) (fun c6 => ?_) (fun c6 => ?_)
        · have h := h.1 c6
          refine go_lload dX7_odds_151 1 rfl ?_
          exact go_lret dX7_odds_153 rfl rfl (by decide) ⟨rfl, _, rfl, h⟩
        · have h := h.2 c6
          refine go_lload dX7_odds_146 2 rfl ?_
          refine go_goto (tgt := 153) dX7_odds_148 (by decide) ?_
          exact go_lret dX7_odds_153 rfl rfl (by decide) ⟨rfl, _, rfl, h⟩
      · have h := h.2 c5
        refine go_lload dX7_odds_118 2 rfl ?_
        refine go_ldc2 dX7_odds_120 k_X7_216 ?_
        refine go_ldiv dX7_odds_123 (by decide) ?_
        refine go_lstore dX7_odds_124 (Nat.le_of_ble_eq_true rfl) (L2 := [(8, .long (x8 / (2 : Int64))), (1, .int x1), (6, .long x6), (10, .int x10)]) rfl ?_
        refine go_lload dX7_odds_126 2 rfl ?_
        refine go_ldc2 dX7_odds_128 k_X7_216 ?_
        refine go_ldiv dX7_odds_131 (by decide) ?_
        refine go_lstore dX7_odds_132 (Nat.le_of_ble_eq_true rfl) (L2 := [(6, .long (x6 / (2 : Int64))), (8, .long (x8 / (2 : Int64))), (1, .int x1), (10, .int x10)]) rfl ?_
        refine go_iinc dX7_odds_134 3 rfl (v := (x10 + 1)) rfl (Nat.le_of_ble_eq_true rfl) (L2 := [(10, .int (x10 + 1)), (6, .long (x6 / (2 : Int64))), (8, .long (x8 / (2 : Int64))), (1, .int x1)]) rfl ?_
        refine go_goto (tgt := 89) dX7_odds_137 (by decide) ?_
        exact go_loc [(1, .int x1), (6, .long (x6 / (2 : Int64))), (8, .long (x8 / (2 : Int64))), (10, .int (x10 + 1))] [3, 1, 2, 0] rfl h
set_option maxRecDepth 100000 in
set_option maxHeartbeats 4000000 in
theorem v_X7_drawn {G : CX} {a1 : Int32}  {I : HP} {Q : HP → Int32 → Prop} (h : GI G Y_X7_drawn 4 [(0, .ref 0), (2, .int a1), (3, .int (0 : Int32))] I Q) : RI G Y_X7_drawn [.ref 0, .int a1] I Q := by
  refine ret_of (show plainName RX7 = true by decide) (Nat.le_of_ble_eq_true rfl) ?_
  show Go G Y_X7_drawn 0 [(0, .ref 0), (1, .int a1)] [] SH I 0 0 _
  refine go_iload_n dX7_drawn_0 rfl 1 rfl ?_
  refine go_istore_n dX7_drawn_1 rfl (Nat.le_of_ble_eq_true rfl) (L2 := [(2, .int a1), (0, .ref 0), (1, .int a1)]) rfl ?_
  refine go_iconst dX7_drawn_2 (v := (0 : Int32)) (by decide) ?_
  refine go_istore_n dX7_drawn_3 rfl (Nat.le_of_ble_eq_true rfl) (L2 := [(3, .int (0 : Int32)), (2, .int a1), (0, .ref 0), (1, .int a1)]) rfl ?_
  exact go_loc [(0, .ref 0), (2, .int a1), (3, .int (0 : Int32))] [2, 1, 0] rfl h
set_option maxRecDepth 100000 in
set_option maxHeartbeats 4000000 in
theorem v_X7_drawn_4 {G : CX} {x2 : Int32} {x3 : Int32}  {I : HP} {Q : HP → Int32 → Prop} (h : (((I 2 3) ≤ x3) → (Q I (I 2 3))) ∧ ((¬ (I 2 3) ≤ x3) → (RI G Y_X7_sixteenths [.ref 0, .int x3] I (fun I2 r3 => ((r3 ≤ 0) → (GI G Y_X7_drawn 4 [(0, .ref 0), (2, .int x2), (3, .int (x3 + 1))] I2 Q)) ∧ ((¬ r3 ≤ 0) → (∀ z5 : Int32, z5 = (((1103515245 : Int32) * x2) + (12345 : Int32)) → ((r3 ≤ ((ushr z5 (16 : Int32)) - (ushr z5 (16 : Int32)) / (16 : Int32) * (16 : Int32))) → (GI G Y_X7_drawn 4 [(0, .ref 0), (2, .int z5), (3, .int (x3 + 1))] I2 Q)) ∧ ((¬ r3 ≤ ((ushr z5 (16 : Int32)) - (ushr z5 (16 : Int32)) / (16 : Int32) * (16 : Int32))) → (Q I2 x3)))))))) : GI G Y_X7_drawn 4 [(0, .ref 0), (2, .int x2), (3, .int x3)] I Q := by
  show Go G Y_X7_drawn 4 [(0, .ref 0), (2, .int x2), (3, .int x3)] [] SH I 0 0 _
  refine go_iload_n dX7_drawn_4 rfl 2 rfl ?_
  refine go_aload_n dX7_drawn_5 rfl 0 rfl ?_
  refine go_getR dX7_drawn_6 sh_0 (by decide) f_X7_18 ⟨Nat.le_of_ble_eq_true rfl, Nat.le_of_ble_eq_true rfl, rfl⟩ rfl ?_
  refine go_getI dX7_drawn_9 (scr_sh (Or.inl rfl)) (by decide) f_X7_92 ⟨Nat.le_of_ble_eq_true rfl, Nat.le_of_ble_eq_true rfl, rfl⟩ ?_
  refine go_icmp_ge (tgt := 56) dX7_drawn_12 (by decide) (fun c1 => ?_) (fun c1 => ?_)
  · have h := h.1 c1
    refine go_aload_n dX7_drawn_56 rfl 0 rfl ?_
    refine go_getR dX7_drawn_57 sh_0 (by decide) f_X7_18 ⟨Nat.le_of_ble_eq_true rfl, Nat.le_of_ble_eq_true rfl, rfl⟩ rfl ?_
    refine go_getI dX7_drawn_60 (scr_sh (Or.inl rfl)) (by decide) f_X7_92 ⟨Nat.le_of_ble_eq_true rfl, Nat.le_of_ble_eq_true rfl, rfl⟩ ?_
    exact go_iret dX7_drawn_63 rfl rfl (by decide) ⟨rfl, _, rfl, h⟩
  · have h := h.2 c1
    refine go_aload_n dX7_drawn_15 rfl 0 rfl ?_
    refine go_iload_n dX7_drawn_16 rfl 2 rfl ?_
    refine go_vcall (Z := Y_X7_sixteenths) (As := [.int x3]) (S := []) dX7_drawn_17 ok_X7_sixteenths l_X7_211 (by decide) sh_0 (by decide) (Nat.le_of_ble_eq_true rfl) rfl rfl rfl (Nat.le_of_ble_eq_true rfl) h (fun _ I2 _ hq => ?_)
    obtain ⟨rfl, r3, rfl, h⟩ := hq
    show Go G Y_X7_drawn 20 [(0, .ref 0), (2, .int x2), (3, .int x3)] [.int r3] SH I2 0 0 _
    refine go_istore dX7_drawn_20 (Nat.le_of_ble_eq_true rfl) (L2 := [(4, .int r3), (0, .ref 0), (2, .int x2), (3, .int x3)]) rfl ?_
    refine go_iload dX7_drawn_22 0 rfl ?_
    refine go_if_le (tgt := 50) dX7_drawn_24 (by decide) (fun c4 => ?_) (fun c4 => ?_)
    · have h := h.1 c4
      refine go_iinc dX7_drawn_50 3 rfl (v := (x3 + 1)) rfl (Nat.le_of_ble_eq_true rfl) (L2 := [(3, .int (x3 + 1)), (4, .int r3), (0, .ref 0), (2, .int x2)]) rfl ?_
      refine go_goto (tgt := 4) dX7_drawn_53 (by decide) ?_
      exact go_loc [(0, .ref 0), (2, .int x2), (3, .int (x3 + 1))] [2, 3, 0] rfl h
    · have h := h.2 c4
      refine go_ldc dX7_drawn_27 k_X7_218 ?_
      refine go_iload_n dX7_drawn_29 rfl 2 rfl ?_
      refine go_imul dX7_drawn_30 ?_
      refine go_sipush dX7_drawn_31 (v := (12345 : Int32)) (by decide) ?_
      refine go_iadd dX7_drawn_34 ?_
      refine go_top (fun z5 ez5 => ?_)
      have h := h z5 ez5
      refine go_istore_n dX7_drawn_35 rfl (Nat.le_of_ble_eq_true rfl) (L2 := [(2, .int z5), (4, .int r3), (0, .ref 0), (3, .int x3)]) rfl ?_
      refine go_iload_n dX7_drawn_36 rfl 0 rfl ?_
      refine go_bipush dX7_drawn_37 (v := (16 : Int32)) (by decide) ?_
      refine go_iushr dX7_drawn_39 rfl ?_
      refine go_bipush dX7_drawn_40 (v := (16 : Int32)) (by decide) ?_
      refine go_irem dX7_drawn_42 (by decide) ?_
      refine go_iload dX7_drawn_43 1 rfl ?_
      refine go_icmp_ge (tgt := 50) dX7_drawn_45 (by decide) (fun c6 => ?_) (fun c6 => ?_)
      · have h := h.1 c6
        refine go_iinc dX7_drawn_50 3 rfl (v := (x3 + 1)) rfl (Nat.le_of_ble_eq_true rfl) (L2 := [(3, .int (x3 + 1)), (2, .int z5), (4, .int r3), (0, .ref 0)]) rfl ?_
        refine go_goto (tgt := 4) dX7_drawn_53 (by decide) ?_
        exact go_loc [(0, .ref 0), (2, .int z5), (3, .int (x3 + 1))] [3, 1, 0] rfl h
      · have h := h.2 c6
        refine go_iload_n dX7_drawn_48 rfl 3 rfl ?_
        exact go_iret dX7_drawn_49 rfl rfl (by decide) ⟨rfl, _, rfl, h⟩
set_option maxRecDepth 100000 in
set_option maxHeartbeats 4000000 in
theorem v_X7_line {G : CX} {a1 : Int32} {a2 : Int32}  {I : HP} {Q : HP → Int32 → Prop} (h : ((a1 < (-1 : Int32)) → (Q I (-2 : Int32))) ∧ ((¬ a1 < (-1 : Int32)) → ((((10 : Int32) < a1) → (Q I (-2 : Int32))) ∧ ((¬ (10 : Int32) < a1) → (((a2 < 0) → (Q I (-2 : Int32))) ∧ ((¬ a2 < 0) → (((a2 ≤ (1 : Int32)) → (((a1 = (-1 : Int32)) → (RI G Y_X7_bestLine [.ref 0] I (fun I6 r7 => ((¬ a2 = 0) → (RI G Y_X7_errorsBy [.ref 0, .int r7, .int (0 : Int32)] I6 (fun I9 r10 => RI G Y_X7_errorsBy [.ref 0, .int r7, .int (1 : Int32)] I9 (fun I11 r12 => Q I11 (r10 + r12))))) ∧ ((a2 = 0) → (Q I6 r7))))) ∧ ((¬ a1 = (-1 : Int32)) → (RI G Y_X7_errorsBy [.ref 0, .int a1, .int a2] I (fun I13 r14 => Q I13 r14))))) ∧ ((¬ a2 ≤ (1 : Int32)) → (Q I (-2 : Int32)))))))))) : RI G Y_X7_line [.ref 0, .int a1, .int a2] I Q := by
  refine ret_of (show plainName RX7 = true by decide) (Nat.le_of_ble_eq_true rfl) ?_
  show Go G Y_X7_line 0 [(0, .ref 0), (1, .int a1), (2, .int a2)] [] SH I 0 0 _
  refine go_iload_n dX7_line_0 rfl 1 rfl ?_
  refine go_iconst dX7_line_1 (v := (-1 : Int32)) (by decide) ?_
  refine go_icmp_lt (tgt := 20) dX7_line_2 (by decide) (fun c1 => ?_) (fun c1 => ?_)
  · have h := h.1 c1
    refine go_bipush dX7_line_20 (v := (-2 : Int32)) (by decide) ?_
    exact go_iret dX7_line_22 rfl rfl (by decide) ⟨rfl, _, rfl, h⟩
  · have h := h.2 c1
    refine go_iload_n dX7_line_5 rfl 1 rfl ?_
    refine go_bipush dX7_line_6 (v := (10 : Int32)) (by decide) ?_
    refine go_icmp_gt (tgt := 20) dX7_line_8 (by decide) (fun c2 => ?_) (fun c2 => ?_)
    · have h := h.1 c2
      refine go_bipush dX7_line_20 (v := (-2 : Int32)) (by decide) ?_
      exact go_iret dX7_line_22 rfl rfl (by decide) ⟨rfl, _, rfl, h⟩
    · have h := h.2 c2
      refine go_iload_n dX7_line_11 rfl 2 rfl ?_
      refine go_if_lt (tgt := 20) dX7_line_12 (by decide) (fun c3 => ?_) (fun c3 => ?_)
      · have h := h.1 c3
        refine go_bipush dX7_line_20 (v := (-2 : Int32)) (by decide) ?_
        exact go_iret dX7_line_22 rfl rfl (by decide) ⟨rfl, _, rfl, h⟩
      · have h := h.2 c3
        refine go_iload_n dX7_line_15 rfl 2 rfl ?_
        refine go_iconst dX7_line_16 (v := (1 : Int32)) (by decide) ?_
        refine go_icmp_le (tgt := 23) dX7_line_17 (by decide) (fun c4 => ?_) (fun c4 => ?_)
        · have h := h.1 c4
          refine go_iload_n dX7_line_23 rfl 1 rfl ?_
          refine go_iconst dX7_line_24 (v := (-1 : Int32)) (by decide) ?_
          refine go_icmp_eq (tgt := 35) dX7_line_25 (by decide) (fun c5 => ?_) (fun c5 => ?_)
          · have h := h.1 c5
            refine go_aload_n dX7_line_35 rfl 0 rfl ?_
            refine go_vcall (Z := Y_X7_bestLine) (As := []) (S := []) dX7_line_36 ok_X7_bestLine l_X7_222 (by decide) sh_0 (by decide) (Nat.le_of_ble_eq_true rfl) rfl rfl rfl (Nat.le_of_ble_eq_true rfl) h (fun _ I6 _ hq => ?_)
            obtain ⟨rfl, r7, rfl, h⟩ := hq
            show Go G Y_X7_line 39 [(0, .ref 0), (1, .int a1), (2, .int a2)] [.int r7] SH I6 0 0 _
            refine go_istore_n dX7_line_39 rfl (Nat.le_of_ble_eq_true rfl) (L2 := [(3, .int r7), (0, .ref 0), (1, .int a1), (2, .int a2)]) rfl ?_
            refine go_iload_n dX7_line_40 rfl 3 rfl ?_
            refine go_if_ne (tgt := 48) dX7_line_41 (by decide) (fun c8 => ?_) (fun c8 => ?_)
            · have h := h.1 c8
              refine go_aload_n dX7_line_48 rfl 1 rfl ?_
              refine go_iload_n dX7_line_49 rfl 0 rfl ?_
              refine go_iconst dX7_line_50 (v := (0 : Int32)) (by decide) ?_
              refine go_vcall (Z := Y_X7_errorsBy) (As := [.int r7, .int (0 : Int32)]) (S := []) dX7_line_51 ok_X7_errorsBy l_X7_219 (by decide) sh_0 (by decide) (Nat.le_of_ble_eq_true rfl) rfl rfl rfl (Nat.le_of_ble_eq_true rfl) h (fun _ I9 _ hq => ?_)
              obtain ⟨rfl, r10, rfl, h⟩ := hq
              show Go G Y_X7_line 54 [(3, .int r7), (0, .ref 0), (1, .int a1), (2, .int a2)] [.int r10] SH I9 0 0 _
              refine go_aload_n dX7_line_54 rfl 1 rfl ?_
              refine go_iload_n dX7_line_55 rfl 0 rfl ?_
              refine go_iconst dX7_line_56 (v := (1 : Int32)) (by decide) ?_
              refine go_vcall (Z := Y_X7_errorsBy) (As := [.int r7, .int (1 : Int32)]) (S := [.int r10]) dX7_line_57 ok_X7_errorsBy l_X7_219 (by decide) sh_0 (by decide) (Nat.le_of_ble_eq_true rfl) rfl rfl rfl (Nat.le_of_ble_eq_true rfl) h (fun _ I11 _ hq => ?_)
              obtain ⟨rfl, r12, rfl, h⟩ := hq
              show Go G Y_X7_line 60 [(3, .int r7), (0, .ref 0), (1, .int a1), (2, .int a2)] [.int r12, .int r10] SH I11 0 0 _
              refine go_iadd dX7_line_60 ?_
              exact go_iret dX7_line_61 rfl rfl (by decide) ⟨rfl, _, rfl, h⟩
            · have h := h.2 c8
              refine go_iload_n dX7_line_44 rfl 0 rfl ?_
              refine go_goto (tgt := 61) dX7_line_45 (by decide) ?_
              exact go_iret dX7_line_61 rfl rfl (by decide) ⟨rfl, _, rfl, h⟩
          · have h := h.2 c5
            refine go_aload_n dX7_line_28 rfl 0 rfl ?_
            refine go_iload_n dX7_line_29 rfl 1 rfl ?_
            refine go_iload_n dX7_line_30 rfl 2 rfl ?_
            refine go_vcall (Z := Y_X7_errorsBy) (As := [.int a1, .int a2]) (S := []) dX7_line_31 ok_X7_errorsBy l_X7_219 (by decide) sh_0 (by decide) (Nat.le_of_ble_eq_true rfl) rfl rfl rfl (Nat.le_of_ble_eq_true rfl) h (fun _ I13 _ hq => ?_)
            obtain ⟨rfl, r14, rfl, h⟩ := hq
            show Go G Y_X7_line 34 [(0, .ref 0), (1, .int a1), (2, .int a2)] [.int r14] SH I13 0 0 _
            exact go_iret dX7_line_34 rfl rfl (by decide) ⟨rfl, _, rfl, h⟩
        · have h := h.2 c4
          refine go_bipush dX7_line_20 (v := (-2 : Int32)) (by decide) ?_
          exact go_iret dX7_line_22 rfl rfl (by decide) ⟨rfl, _, rfl, h⟩
set_option maxRecDepth 100000 in
set_option maxHeartbeats 4000000 in
theorem v_X7_seen {G : CX} {a1 : Int32} {a2 : Int32}  {I : HP} {Q : HP → Int32 → Prop} (h : RZ G Y_X4_mayBe [.int a1, .int a2] I (fun I1 r2 => ((¬ (bI r2) = 0) → (RZ G Y_X4_isFull [.ref 46] I1 (fun I4 r5 => (((bI r5) = 0) → (RV G Y_X4_add [.ref 46, .int a1, .int a2] I4 (fun I7 => Q I7 (I7 46 2)))) ∧ ((¬ (bI r5) = 0) → (Q I4 (-4 : Int32)))))) ∧ (((bI r2) = 0) → (Q I1 (-2 : Int32))))) : RI G Y_X7_seen [.ref 0, .int a1, .int a2] I Q := by
  refine ret_of (show plainName RX7 = true by decide) (Nat.le_of_ble_eq_true rfl) ?_
  show Go G Y_X7_seen 0 [(0, .ref 0), (1, .int a1), (2, .int a2)] [] SH I 0 0 _
  refine go_iload_n dX7_seen_0 rfl 1 rfl ?_
  refine go_iload_n dX7_seen_1 rfl 2 rfl ?_
  refine go_scall (Z := Y_X4_mayBe) (As := [.int a1, .int a2]) (S := []) dX7_seen_2 ok_X4_mayBe l_X7_225 (by decide) rfl rfl (Nat.le_of_ble_eq_true rfl) h (fun _ I1 _ hq => ?_)
  obtain ⟨rfl, r2, rfl, h⟩ := hq
  show Go G Y_X7_seen 5 [(0, .ref 0), (1, .int a1), (2, .int a2)] [.int (bI r2)] SH I1 0 0 _
  refine go_if_ne (tgt := 11) dX7_seen_5 (by decide) (fun c3 => ?_) (fun c3 => ?_)
  · have h := h.1 c3
    refine go_aload_n dX7_seen_11 rfl 0 rfl ?_
    refine go_getR dX7_seen_12 sh_0 (by decide) f_X7_56 ⟨Nat.le_of_ble_eq_true rfl, Nat.le_of_ble_eq_true rfl, rfl⟩ rfl ?_
    refine go_vcall (Z := Y_X4_isFull) (As := []) (S := []) dX7_seen_15 ok_X4_isFull l_X7_229 (by decide) sh_46 (by decide) (Nat.le_of_ble_eq_true rfl) rfl rfl rfl (Nat.le_of_ble_eq_true rfl) h (fun _ I4 _ hq => ?_)
    obtain ⟨rfl, r5, rfl, h⟩ := hq
    show Go G Y_X7_seen 18 [(0, .ref 0), (1, .int a1), (2, .int a2)] [.int (bI r5)] SH I4 0 0 _
    refine go_if_eq (tgt := 24) dX7_seen_18 (by decide) (fun c6 => ?_) (fun c6 => ?_)
    · have h := h.1 c6
      refine go_aload_n dX7_seen_24 rfl 0 rfl ?_
      refine go_getR dX7_seen_25 sh_0 (by decide) f_X7_56 ⟨Nat.le_of_ble_eq_true rfl, Nat.le_of_ble_eq_true rfl, rfl⟩ rfl ?_
      refine go_iload_n dX7_seen_28 rfl 1 rfl ?_
      refine go_iload_n dX7_seen_29 rfl 2 rfl ?_
      refine go_vcall (Z := Y_X4_add) (As := [.int a1, .int a2]) (S := []) dX7_seen_30 ok_X4_add l_X7_230 (by decide) sh_46 (by decide) (Nat.le_of_ble_eq_true rfl) rfl rfl rfl (Nat.le_of_ble_eq_true rfl) h (fun _ I7 _ hq => ?_)
      obtain ⟨rfl, rfl, h⟩ := hq
      show Go G Y_X7_seen 33 [(0, .ref 0), (1, .int a1), (2, .int a2)] [] SH I7 0 0 _
      refine go_aload_n dX7_seen_33 rfl 0 rfl ?_
      refine go_getR dX7_seen_34 sh_0 (by decide) f_X7_56 ⟨Nat.le_of_ble_eq_true rfl, Nat.le_of_ble_eq_true rfl, rfl⟩ rfl ?_
      refine go_getI dX7_seen_37 sh_46 (by decide) f_X7_234 ⟨Nat.le_of_ble_eq_true rfl, Nat.le_of_ble_eq_true rfl, rfl⟩ ?_
      exact go_iret dX7_seen_40 rfl rfl (by decide) ⟨rfl, _, rfl, h⟩
    · have h := h.2 c6
      refine go_bipush dX7_seen_21 (v := (-4 : Int32)) (by decide) ?_
      exact go_iret dX7_seen_23 rfl rfl (by decide) ⟨rfl, _, rfl, h⟩
  · have h := h.2 c3
    refine go_bipush dX7_seen_8 (v := (-2 : Int32)) (by decide) ?_
    exact go_iret dX7_seen_10 rfl rfl (by decide) ⟨rfl, _, rfl, h⟩
set_option maxRecDepth 100000 in
set_option maxHeartbeats 4000000 in
theorem v_X7_forget {G : CX}   {I : HP} {Q : HP → Int32 → Prop} (h : Q (st I 46 2 (0 : Int32)) (I 46 2)) : RI G Y_X7_forget [.ref 0] I Q := by
  refine ret_of (show plainName RX7 = true by decide) (Nat.le_of_ble_eq_true rfl) ?_
  show Go G Y_X7_forget 0 [(0, .ref 0)] [] SH I 0 0 _
  refine go_aload_n dX7_forget_0 rfl 0 rfl ?_
  refine go_getR dX7_forget_1 sh_0 (by decide) f_X7_56 ⟨Nat.le_of_ble_eq_true rfl, Nat.le_of_ble_eq_true rfl, rfl⟩ rfl ?_
  refine go_getI dX7_forget_4 sh_46 (by decide) f_X7_234 ⟨Nat.le_of_ble_eq_true rfl, Nat.le_of_ble_eq_true rfl, rfl⟩ ?_
  refine go_istore_n dX7_forget_7 rfl (Nat.le_of_ble_eq_true rfl) (L2 := [(1, .int (I 46 2)), (0, .ref 0)]) rfl ?_
  refine go_aload_n dX7_forget_8 rfl 1 rfl ?_
  refine go_getR dX7_forget_9 sh_0 (by decide) f_X7_56 ⟨Nat.le_of_ble_eq_true rfl, Nat.le_of_ble_eq_true rfl, rfl⟩ rfl ?_
  refine go_iconst dX7_forget_12 (v := (0 : Int32)) (by decide) ?_
  refine go_putT dX7_forget_13 sh_46 (by decide) p_X7_234 ⟨Nat.le_of_ble_eq_true rfl, Nat.le_of_ble_eq_true rfl, rfl⟩ rfl rfl ?_
  refine go_iload_n dX7_forget_16 rfl 0 rfl ?_
  exact go_iret dX7_forget_17 rfl rfl (by decide) ⟨rfl, _, rfl, h⟩
set_option maxRecDepth 100000 in
set_option maxHeartbeats 4000000 in
theorem v_X7_leads {G : CX}   {I : HP} {Q : HP → Int32 → Prop} (h : GI G Y_X7_leads 4 [(0, .ref 0), (1, .int (0 : Int32)), (2, .int (0 : Int32))] I Q) : RI G Y_X7_leads [.ref 0] I Q := by
  refine ret_of (show plainName RX7 = true by decide) (Nat.le_of_ble_eq_true rfl) ?_
  show Go G Y_X7_leads 0 [(0, .ref 0)] [] SH I 0 0 _
  refine go_iconst dX7_leads_0 (v := (0 : Int32)) (by decide) ?_
  refine go_istore_n dX7_leads_1 rfl (Nat.le_of_ble_eq_true rfl) (L2 := [(1, .int (0 : Int32)), (0, .ref 0)]) rfl ?_
  refine go_iconst dX7_leads_2 (v := (0 : Int32)) (by decide) ?_
  refine go_istore_n dX7_leads_3 rfl (Nat.le_of_ble_eq_true rfl) (L2 := [(2, .int (0 : Int32)), (1, .int (0 : Int32)), (0, .ref 0)]) rfl ?_
  exact go_loc [(0, .ref 0), (1, .int (0 : Int32)), (2, .int (0 : Int32))] [2, 1, 0] rfl h
set_option maxRecDepth 100000 in
set_option maxHeartbeats 4000000 in
theorem v_X7_leads_4 {G : CX} {x1 : Int32} {x2 : Int32}  {I : HP} {Q : HP → Int32 → Prop} (h : (((30 : Int32) < x2) → (Q I x1)) ∧ ((¬ (30 : Int32) < x2) → (RV G Y_X5_open [.ref 22, .ref 1] I (fun I2 => RV G Y_X5_changeLead [.ref 22, .int x2] I2 (fun I3 => RV G Y_X5_addAll [.ref 22, .ref 2] I3 (fun I4 => RZ G Y_X4_fit [.ref 46, .ref 22] I4 (fun I5 r6 => (((bI r6) = 0) → (GI G Y_X7_leads 4 [(0, .ref 0), (1, .int x1), (2, .int (x2 + 1))] I5 Q)) ∧ ((¬ (bI r6) = 0) → (GI G Y_X7_leads 4 [(0, .ref 0), (1, .int (x1 ||| ((1 : Int32) <<< (x2 &&& 31)))), (2, .int (x2 + 1))] I5 Q))))))))) : GI G Y_X7_leads 4 [(0, .ref 0), (1, .int x1), (2, .int x2)] I Q := by
  show Go G Y_X7_leads 4 [(0, .ref 0), (1, .int x1), (2, .int x2)] [] SH I 0 0 _
  refine go_iload_n dX7_leads_4 rfl 2 rfl ?_
  refine go_bipush dX7_leads_5 (v := (30 : Int32)) (by decide) ?_
  refine go_icmp_gt (tgt := 66) dX7_leads_7 (by decide) (fun c1 => ?_) (fun c1 => ?_)
  · have h := h.1 c1
    refine go_iload_n dX7_leads_66 rfl 1 rfl ?_
    exact go_iret dX7_leads_67 rfl rfl (by decide) ⟨rfl, _, rfl, h⟩
  · have h := h.2 c1
    refine go_aload_n dX7_leads_10 rfl 0 rfl ?_
    refine go_getR dX7_leads_11 sh_0 (by decide) f_X7_32 ⟨Nat.le_of_ble_eq_true rfl, Nat.le_of_ble_eq_true rfl, rfl⟩ rfl ?_
    refine go_aload_n dX7_leads_14 rfl 0 rfl ?_
    refine go_getR dX7_leads_15 sh_0 (by decide) f_X7_7 ⟨Nat.le_of_ble_eq_true rfl, Nat.le_of_ble_eq_true rfl, rfl⟩ rfl ?_
    refine go_vcall (Z := Y_X5_open) (As := [.ref 1]) (S := []) dX7_leads_18 ok_X5_open l_X7_195 (by decide) (tel_sh (Or.inr rfl)) (by decide) (Nat.le_of_ble_eq_true rfl) rfl rfl rfl (Nat.le_of_ble_eq_true rfl) h (fun _ I2 _ hq => ?_)
    obtain ⟨rfl, rfl, h⟩ := hq
    show Go G Y_X7_leads 21 [(0, .ref 0), (1, .int x1), (2, .int x2)] [] SH I2 0 0 _
    refine go_aload_n dX7_leads_21 rfl 0 rfl ?_
    refine go_getR dX7_leads_22 sh_0 (by decide) f_X7_32 ⟨Nat.le_of_ble_eq_true rfl, Nat.le_of_ble_eq_true rfl, rfl⟩ rfl ?_
    refine go_iload_n dX7_leads_25 rfl 2 rfl ?_
    refine go_vcall (Z := Y_X5_changeLead) (As := [.int x2]) (S := []) dX7_leads_26 ok_X5_changeLead l_X7_199 (by decide) (tel_sh (Or.inr rfl)) (by decide) (Nat.le_of_ble_eq_true rfl) rfl rfl rfl (Nat.le_of_ble_eq_true rfl) h (fun _ I3 _ hq => ?_)
    obtain ⟨rfl, rfl, h⟩ := hq
    show Go G Y_X7_leads 29 [(0, .ref 0), (1, .int x1), (2, .int x2)] [] SH I3 0 0 _
    refine go_aload_n dX7_leads_29 rfl 0 rfl ?_
    refine go_getR dX7_leads_30 sh_0 (by decide) f_X7_32 ⟨Nat.le_of_ble_eq_true rfl, Nat.le_of_ble_eq_true rfl, rfl⟩ rfl ?_
    refine go_aload_n dX7_leads_33 rfl 0 rfl ?_
    refine go_getR dX7_leads_34 sh_0 (by decide) f_X7_18 ⟨Nat.le_of_ble_eq_true rfl, Nat.le_of_ble_eq_true rfl, rfl⟩ rfl ?_
    refine go_vcall (Z := Y_X5_addAll) (As := [.ref 2]) (S := []) dX7_leads_37 ok_X5_addAll l_X7_202 (by decide) (tel_sh (Or.inr rfl)) (by decide) (Nat.le_of_ble_eq_true rfl) rfl rfl rfl (Nat.le_of_ble_eq_true rfl) h (fun _ I4 _ hq => ?_)
    obtain ⟨rfl, rfl, h⟩ := hq
    show Go G Y_X7_leads 40 [(0, .ref 0), (1, .int x1), (2, .int x2)] [] SH I4 0 0 _
    refine go_aload_n dX7_leads_40 rfl 0 rfl ?_
    refine go_getR dX7_leads_41 sh_0 (by decide) f_X7_56 ⟨Nat.le_of_ble_eq_true rfl, Nat.le_of_ble_eq_true rfl, rfl⟩ rfl ?_
    refine go_aload_n dX7_leads_44 rfl 0 rfl ?_
    refine go_getR dX7_leads_45 sh_0 (by decide) f_X7_32 ⟨Nat.le_of_ble_eq_true rfl, Nat.le_of_ble_eq_true rfl, rfl⟩ rfl ?_
    refine go_vcall (Z := Y_X4_fit) (As := [.ref 22]) (S := []) dX7_leads_48 ok_X4_fit l_X7_235 (by decide) sh_46 (by decide) (Nat.le_of_ble_eq_true rfl) rfl rfl rfl (Nat.le_of_ble_eq_true rfl) h (fun _ I5 _ hq => ?_)
    obtain ⟨rfl, r6, rfl, h⟩ := hq
    show Go G Y_X7_leads 51 [(0, .ref 0), (1, .int x1), (2, .int x2)] [.int (bI r6)] SH I5 0 0 _
    refine go_if_eq (tgt := 60) dX7_leads_51 (by decide) (fun c7 => ?_) (fun c7 => ?_)
    · have h := h.1 c7
      refine go_iinc dX7_leads_60 2 rfl (v := (x2 + 1)) rfl (Nat.le_of_ble_eq_true rfl) (L2 := [(2, .int (x2 + 1)), (0, .ref 0), (1, .int x1)]) rfl ?_
      refine go_goto (tgt := 4) dX7_leads_63 (by decide) ?_
      exact go_loc [(0, .ref 0), (1, .int x1), (2, .int (x2 + 1))] [1, 2, 0] rfl h
    · have h := h.2 c7
      refine go_iload_n dX7_leads_54 rfl 1 rfl ?_
      refine go_iconst dX7_leads_55 (v := (1 : Int32)) (by decide) ?_
      refine go_iload_n dX7_leads_56 rfl 2 rfl ?_
      refine go_ishl dX7_leads_57 ?_
      refine go_ior dX7_leads_58 ?_
      refine go_istore_n dX7_leads_59 rfl (Nat.le_of_ble_eq_true rfl) (L2 := [(1, .int (x1 ||| ((1 : Int32) <<< (x2 &&& 31)))), (0, .ref 0), (2, .int x2)]) rfl ?_
      refine go_iinc dX7_leads_60 2 rfl (v := (x2 + 1)) rfl (Nat.le_of_ble_eq_true rfl) (L2 := [(2, .int (x2 + 1)), (1, .int (x1 ||| ((1 : Int32) <<< (x2 &&& 31)))), (0, .ref 0)]) rfl ?_
      refine go_goto (tgt := 4) dX7_leads_63 (by decide) ?_
      exact go_loc [(0, .ref 0), (1, .int (x1 ||| ((1 : Int32) <<< (x2 &&& 31)))), (2, .int (x2 + 1))] [2, 1, 0] rfl h
set_option maxRecDepth 100000 in
set_option maxHeartbeats 4000000 in
theorem v_X7_read {G : CX} {a1 : Int32}  {I : HP} {Q : HP → Int32 → Prop} (h : RZ G Y_X7_isSheet [.int a1] I (fun I1 r2 => ((¬ (bI r2) = 0) → ((vp_in a1 4) ∧ ((((I1 (50 + 2 * nn a1) 1) = 0) → (GI G Y_X7_read 35 [(0, .ref 0), (2, .ref (50 + 2 * nn a1)), (3, .int (0 : Int32)), (4, .int (0 : Int32))] I1 Q)) ∧ ((¬ (I1 (50 + 2 * nn a1) 1) = 0) → (RI G Y_X7_found [.ref 0, .int (1 : Int32)] I1 (fun I6 r7 => Q I6 r7)))))) ∧ (((bI r2) = 0) → (Q I1 (-2 : Int32))))) : RI G Y_X7_read [.ref 0, .int a1] I Q := by
  refine ret_of (show plainName RX7 = true by decide) (Nat.le_of_ble_eq_true rfl) ?_
  show Go G Y_X7_read 0 [(0, .ref 0), (1, .int a1)] [] SH I 0 0 _
  refine go_iload_n dX7_read_0 rfl 1 rfl ?_
  refine go_scall (Z := Y_X7_isSheet) (As := [.int a1]) (S := []) dX7_read_1 ok_X7_isSheet l_X7_239 (by decide) rfl rfl (Nat.le_of_ble_eq_true rfl) h (fun _ I1 _ hq => ?_)
  obtain ⟨rfl, r2, rfl, h⟩ := hq
  show Go G Y_X7_read 4 [(0, .ref 0), (1, .int a1)] [.int (bI r2)] SH I1 0 0 _
  refine go_if_ne (tgt := 10) dX7_read_4 (by decide) (fun c3 => ?_) (fun c3 => ?_)
  · have h := h.1 c3
    refine go_aload_n dX7_read_10 rfl 0 rfl ?_
    refine go_getR dX7_read_11 sh_0 (by decide) f_X7_62 ⟨Nat.le_of_ble_eq_true rfl, Nat.le_of_ble_eq_true rfl, rfl⟩ rfl ?_
    refine go_iload_n dX7_read_14 rfl 1 rfl ?_
    have hb4 := h.1
    have h := h.2
    refine go_aald dX7_read_15 sh_49 (Or.inr rfl) (by decide) hb4 rfl (she_at (vp_lt hb4)) ?_
    refine go_astore_n dX7_read_16 rfl (Nat.le_of_ble_eq_true rfl) (L2 := [(2, .ref (50 + 2 * nn a1)), (0, .ref 0), (1, .int a1)]) rfl ?_
    refine go_aload_n dX7_read_17 rfl 0 rfl ?_
    refine go_getI dX7_read_18 (she_sh (she_is (vp_lt hb4))) (SH_lt (she_sh (she_is (vp_lt hb4)))) f_X7_242 ⟨Nat.le_of_ble_eq_true rfl, Nat.le_of_ble_eq_true rfl, rfl⟩ ?_
    refine go_if_eq (tgt := 30) dX7_read_21 (by decide) (fun c5 => ?_) (fun c5 => ?_)
    · have h := h.1 c5
      refine go_iconst dX7_read_30 (v := (0 : Int32)) (by decide) ?_
      refine go_istore_n dX7_read_31 rfl (Nat.le_of_ble_eq_true rfl) (L2 := [(3, .int (0 : Int32)), (2, .ref (50 + 2 * nn a1)), (0, .ref 0), (1, .int a1)]) rfl ?_
      refine go_iconst dX7_read_32 (v := (0 : Int32)) (by decide) ?_
      refine go_istore dX7_read_33 (Nat.le_of_ble_eq_true rfl) (L2 := [(4, .int (0 : Int32)), (3, .int (0 : Int32)), (2, .ref (50 + 2 * nn a1)), (0, .ref 0), (1, .int a1)]) rfl ?_
      exact go_loc [(0, .ref 0), (2, .ref (50 + 2 * nn a1)), (3, .int (0 : Int32)), (4, .int (0 : Int32))] [3, 2, 1, 0] rfl h
    · have h := h.2 c5
      refine go_aload_n dX7_read_24 rfl 1 rfl ?_
      refine go_iconst dX7_read_25 (v := (1 : Int32)) (by decide) ?_
      refine go_vcall (Z := Y_X7_found) (As := [.int (1 : Int32)]) (S := []) dX7_read_26 ok_X7_found l_X7_245 (by decide) sh_0 (by decide) (Nat.le_of_ble_eq_true rfl) rfl rfl rfl (Nat.le_of_ble_eq_true rfl) h (fun _ I6 _ hq => ?_)
      obtain ⟨rfl, r7, rfl, h⟩ := hq
      show Go G Y_X7_read 29 [(2, .ref (50 + 2 * nn a1)), (0, .ref 0), (1, .int a1)] [.int r7] SH I6 0 0 _
      exact go_iret dX7_read_29 rfl rfl (by decide) ⟨rfl, _, rfl, h⟩
  · have h := h.2 c3
    refine go_bipush dX7_read_7 (v := (-2 : Int32)) (by decide) ?_
    exact go_iret dX7_read_9 rfl rfl (by decide) ⟨rfl, _, rfl, h⟩
set_option maxRecDepth 100000 in
set_option maxHeartbeats 4000000 in
theorem v_X7_read_35 {G : CX} {q2 : Nat} {x3 : Int32} {x4 : Int32} (hq2 : isShe q2) {I : HP} {Q : HP → Int32 → Prop} (h : (((I q2 3) ≤ (x4 + (1 : Int32))) → (Q I x3)) ∧ ((¬ (I q2 3) ≤ (x4 + (1 : Int32))) → (RI G Y_X3_item [.ref q2, .int x4] I (fun I2 r3 => RI G Y_X3_item [.ref q2, .int (x4 + (1 : Int32))] I2 (fun I4 r5 => RZ G Y_X4_mayBe [.int r3, .int r5] I4 (fun I6 r7 => (((bI r7) = 0) → (Q I6 x3)) ∧ ((¬ (bI r7) = 0) → (RZ G Y_X4_isFull [.ref 46] I6 (fun I9 r10 => (((bI r10) = 0) → (RV G Y_X4_add [.ref 46, .int r3, .int r5] I9 (fun I12 => GI G Y_X7_read 35 [(0, .ref 0), (2, .ref q2), (3, .int (x3 + 1)), (4, .int (x4 + 2))] I12 Q))) ∧ ((¬ (bI r10) = 0) → (Q I9 x3))))))))))) : GI G Y_X7_read 35 [(0, .ref 0), (2, .ref q2), (3, .int x3), (4, .int x4)] I Q := by
  show Go G Y_X7_read 35 [(0, .ref 0), (2, .ref q2), (3, .int x3), (4, .int x4)] [] SH I 0 0 _
  refine go_iload dX7_read_35 3 rfl ?_
  refine go_iconst dX7_read_37 (v := (1 : Int32)) (by decide) ?_
  refine go_iadd dX7_read_38 ?_
  refine go_aload_n dX7_read_39 rfl 1 rfl ?_
  refine go_getI dX7_read_40 (she_sh hq2) (SH_lt (she_sh hq2)) f_X7_248 ⟨Nat.le_of_ble_eq_true rfl, Nat.le_of_ble_eq_true rfl, rfl⟩ ?_
  refine go_icmp_ge (tgt := 107) dX7_read_43 (by decide) (fun c1 => ?_) (fun c1 => ?_)
  · have h := h.1 c1
    refine go_iload_n dX7_read_107 rfl 2 rfl ?_
    exact go_iret dX7_read_108 rfl rfl (by decide) ⟨rfl, _, rfl, h⟩
  · have h := h.2 c1
    refine go_aload_n dX7_read_46 rfl 1 rfl ?_
    refine go_iload dX7_read_47 3 rfl ?_
    refine go_vcall (Z := Y_X3_item) (As := [.int x4]) (S := []) dX7_read_49 ok_X3_item l_X7_249 (by decide) (she_sh hq2) (SH_lt (she_sh hq2)) (Nat.le_of_ble_eq_true rfl) rfl rfl rfl (Nat.le_of_ble_eq_true rfl) h (fun _ I2 _ hq => ?_)
    obtain ⟨rfl, r3, rfl, h⟩ := hq
    show Go G Y_X7_read 52 [(0, .ref 0), (2, .ref q2), (3, .int x3), (4, .int x4)] [.int r3] SH I2 0 0 _
    refine go_istore dX7_read_52 (Nat.le_of_ble_eq_true rfl) (L2 := [(5, .int r3), (0, .ref 0), (2, .ref q2), (3, .int x3), (4, .int x4)]) rfl ?_
    refine go_aload_n dX7_read_54 rfl 2 rfl ?_
    refine go_iload dX7_read_55 4 rfl ?_
    refine go_iconst dX7_read_57 (v := (1 : Int32)) (by decide) ?_
    refine go_iadd dX7_read_58 ?_
    refine go_vcall (Z := Y_X3_item) (As := [.int (x4 + (1 : Int32))]) (S := []) dX7_read_59 ok_X3_item l_X7_249 (by decide) (she_sh hq2) (SH_lt (she_sh hq2)) (Nat.le_of_ble_eq_true rfl) rfl rfl rfl (Nat.le_of_ble_eq_true rfl) h (fun _ I4 _ hq => ?_)
    obtain ⟨rfl, r5, rfl, h⟩ := hq
    show Go G Y_X7_read 62 [(5, .int r3), (0, .ref 0), (2, .ref q2), (3, .int x3), (4, .int x4)] [.int r5] SH I4 0 0 _
    refine go_istore dX7_read_62 (Nat.le_of_ble_eq_true rfl) (L2 := [(6, .int r5), (5, .int r3), (0, .ref 0), (2, .ref q2), (3, .int x3), (4, .int x4)]) rfl ?_
    refine go_iload dX7_read_64 1 rfl ?_
    refine go_iload dX7_read_66 0 rfl ?_
    refine go_scall (Z := Y_X4_mayBe) (As := [.int r3, .int r5]) (S := []) dX7_read_68 ok_X4_mayBe l_X7_225 (by decide) rfl rfl (Nat.le_of_ble_eq_true rfl) h (fun _ I6 _ hq => ?_)
    obtain ⟨rfl, r7, rfl, h⟩ := hq
    show Go G Y_X7_read 71 [(6, .int r5), (5, .int r3), (0, .ref 0), (2, .ref q2), (3, .int x3), (4, .int x4)] [.int (bI r7)] SH I6 0 0 _
    refine go_if_eq (tgt := 107) dX7_read_71 (by decide) (fun c8 => ?_) (fun c8 => ?_)
    · have h := h.1 c8
      refine go_iload_n dX7_read_107 rfl 4 rfl ?_
      exact go_iret dX7_read_108 rfl rfl (by decide) ⟨rfl, _, rfl, h⟩
    · have h := h.2 c8
      refine go_aload_n dX7_read_74 rfl 2 rfl ?_
      refine go_getR dX7_read_75 sh_0 (by decide) f_X7_56 ⟨Nat.le_of_ble_eq_true rfl, Nat.le_of_ble_eq_true rfl, rfl⟩ rfl ?_
      refine go_vcall (Z := Y_X4_isFull) (As := []) (S := []) dX7_read_78 ok_X4_isFull l_X7_229 (by decide) sh_46 (by decide) (Nat.le_of_ble_eq_true rfl) rfl rfl rfl (Nat.le_of_ble_eq_true rfl) h (fun _ I9 _ hq => ?_)
      obtain ⟨rfl, r10, rfl, h⟩ := hq
      show Go G Y_X7_read 81 [(6, .int r5), (5, .int r3), (0, .ref 0), (2, .ref q2), (3, .int x3), (4, .int x4)] [.int (bI r10)] SH I9 0 0 _
      refine go_if_eq (tgt := 87) dX7_read_81 (by decide) (fun c11 => ?_) (fun c11 => ?_)
      · have h := h.1 c11
        refine go_aload_n dX7_read_87 rfl 2 rfl ?_
        refine go_getR dX7_read_88 sh_0 (by decide) f_X7_56 ⟨Nat.le_of_ble_eq_true rfl, Nat.le_of_ble_eq_true rfl, rfl⟩ rfl ?_
        refine go_iload dX7_read_91 1 rfl ?_
        refine go_iload dX7_read_93 0 rfl ?_
        refine go_vcall (Z := Y_X4_add) (As := [.int r3, .int r5]) (S := []) dX7_read_95 ok_X4_add l_X7_230 (by decide) sh_46 (by decide) (Nat.le_of_ble_eq_true rfl) rfl rfl rfl (Nat.le_of_ble_eq_true rfl) h (fun _ I12 _ hq => ?_)
        obtain ⟨rfl, rfl, h⟩ := hq
        show Go G Y_X7_read 98 [(6, .int r5), (5, .int r3), (0, .ref 0), (2, .ref q2), (3, .int x3), (4, .int x4)] [] SH I12 0 0 _
        refine go_iinc dX7_read_98 4 rfl (v := (x3 + 1)) rfl (Nat.le_of_ble_eq_true rfl) (L2 := [(3, .int (x3 + 1)), (6, .int r5), (5, .int r3), (0, .ref 0), (2, .ref q2), (4, .int x4)]) rfl ?_
        refine go_iinc dX7_read_101 5 rfl (v := (x4 + 2)) rfl (Nat.le_of_ble_eq_true rfl) (L2 := [(4, .int (x4 + 2)), (3, .int (x3 + 1)), (6, .int r5), (5, .int r3), (0, .ref 0), (2, .ref q2)]) rfl ?_
        refine go_goto (tgt := 35) dX7_read_104 (by decide) ?_
        exact go_loc [(0, .ref 0), (2, .ref q2), (3, .int (x3 + 1)), (4, .int (x4 + 2))] [4, 5, 1, 0] rfl h
      · have h := h.2 c11
        refine go_goto (tgt := 107) dX7_read_84 (by decide) ?_
        refine go_iload_n dX7_read_107 rfl 4 rfl ?_
        exact go_iret dX7_read_108 rfl rfl (by decide) ⟨rfl, _, rfl, h⟩
set_option maxRecDepth 100000 in
set_option maxHeartbeats 4000000 in
theorem v_X7_sheet {G : CX} {a1 : Int32} {a2 : Int32} {a3 : Int32}  {I : HP} {Q : HP → Int32 → Prop} (h : RZ G Y_X7_isSheet [.int a1] I (fun I1 r2 => (((bI r2) = 0) → (Q I1 (-2 : Int32))) ∧ ((¬ (bI r2) = 0) → (RZ G Y_X7_isForm [.int a2] I1 (fun I4 r5 => (((bI r5) = 0) → (Q I4 (-2 : Int32))) ∧ ((¬ (bI r5) = 0) → (((a3 ≤ (60 : Int32)) → (((0 ≤ a3) → ((vp_in a1 4) ∧ (RV G Y_X3_renew [.ref (50 + 2 * nn a1), .int a2, .int a3] I4 (fun I10 => Q I10 a3)))) ∧ ((¬ 0 ≤ a3) → (RI G Y_X7_found [.ref 0, .int (5 : Int32)] I4 (fun I11 r12 => Q I11 r12))))) ∧ ((¬ a3 ≤ (60 : Int32)) → (Q I4 (-2 : Int32)))))))))) : RI G Y_X7_sheet [.ref 0, .int a1, .int a2, .int a3] I Q := by
  refine ret_of (show plainName RX7 = true by decide) (Nat.le_of_ble_eq_true rfl) ?_
  show Go G Y_X7_sheet 0 [(0, .ref 0), (1, .int a1), (2, .int a2), (3, .int a3)] [] SH I 0 0 _
  refine go_iload_n dX7_sheet_0 rfl 1 rfl ?_
  refine go_scall (Z := Y_X7_isSheet) (As := [.int a1]) (S := []) dX7_sheet_1 ok_X7_isSheet l_X7_239 (by decide) rfl rfl (Nat.le_of_ble_eq_true rfl) h (fun _ I1 _ hq => ?_)
  obtain ⟨rfl, r2, rfl, h⟩ := hq
  show Go G Y_X7_sheet 4 [(0, .ref 0), (1, .int a1), (2, .int a2), (3, .int a3)] [.int (bI r2)] SH I1 0 0 _
  refine go_if_eq (tgt := 20) dX7_sheet_4 (by decide) (fun c3 => ?_) (fun c3 => ?_)
  · have h := h.1 c3
    refine go_bipush dX7_sheet_20 (v := (-2 : Int32)) (by decide) ?_
    exact go_iret dX7_sheet_22 rfl rfl (by decide) ⟨rfl, _, rfl, h⟩
  · have h := h.2 c3
    refine go_iload_n dX7_sheet_7 rfl 2 rfl ?_
    refine go_scall (Z := Y_X7_isForm) (As := [.int a2]) (S := []) dX7_sheet_8 ok_X7_isForm l_X7_252 (by decide) rfl rfl (Nat.le_of_ble_eq_true rfl) h (fun _ I4 _ hq => ?_)
    obtain ⟨rfl, r5, rfl, h⟩ := hq
    show Go G Y_X7_sheet 11 [(0, .ref 0), (1, .int a1), (2, .int a2), (3, .int a3)] [.int (bI r5)] SH I4 0 0 _
    refine go_if_eq (tgt := 20) dX7_sheet_11 (by decide) (fun c6 => ?_) (fun c6 => ?_)
    · have h := h.1 c6
      refine go_bipush dX7_sheet_20 (v := (-2 : Int32)) (by decide) ?_
      exact go_iret dX7_sheet_22 rfl rfl (by decide) ⟨rfl, _, rfl, h⟩
    · have h := h.2 c6
      refine go_iload_n dX7_sheet_14 rfl 3 rfl ?_
      refine go_bipush dX7_sheet_15 (v := (60 : Int32)) (by decide) ?_
      refine go_icmp_le (tgt := 23) dX7_sheet_17 (by decide) (fun c7 => ?_) (fun c7 => ?_)
      · have h := h.1 c7
        refine go_iload_n dX7_sheet_23 rfl 3 rfl ?_
        refine go_if_ge (tgt := 33) dX7_sheet_24 (by decide) (fun c8 => ?_) (fun c8 => ?_)
        · have h := h.1 c8
          refine go_aload_n dX7_sheet_33 rfl 0 rfl ?_
          refine go_getR dX7_sheet_34 sh_0 (by decide) f_X7_62 ⟨Nat.le_of_ble_eq_true rfl, Nat.le_of_ble_eq_true rfl, rfl⟩ rfl ?_
          refine go_iload_n dX7_sheet_37 rfl 1 rfl ?_
          have hb9 := h.1
          have h := h.2
          refine go_aald dX7_sheet_38 sh_49 (Or.inr rfl) (by decide) hb9 rfl (she_at (vp_lt hb9)) ?_
          refine go_iload_n dX7_sheet_39 rfl 2 rfl ?_
          refine go_iload_n dX7_sheet_40 rfl 3 rfl ?_
          refine go_vcall (Z := Y_X3_renew) (As := [.int a2, .int a3]) (S := []) dX7_sheet_41 ok_X3_renew l_X7_255 (by decide) (she_sh (she_is (vp_lt hb9))) (SH_lt (she_sh (she_is (vp_lt hb9)))) (Nat.le_of_ble_eq_true rfl) rfl rfl rfl (Nat.le_of_ble_eq_true rfl) h (fun _ I10 _ hq => ?_)
          obtain ⟨rfl, rfl, h⟩ := hq
          show Go G Y_X7_sheet 44 [(0, .ref 0), (1, .int a1), (2, .int a2), (3, .int a3)] [] SH I10 0 0 _
          refine go_iload_n dX7_sheet_44 rfl 3 rfl ?_
          exact go_iret dX7_sheet_45 rfl rfl (by decide) ⟨rfl, _, rfl, h⟩
        · have h := h.2 c8
          refine go_aload_n dX7_sheet_27 rfl 0 rfl ?_
          refine go_iconst dX7_sheet_28 (v := (5 : Int32)) (by decide) ?_
          refine go_vcall (Z := Y_X7_found) (As := [.int (5 : Int32)]) (S := []) dX7_sheet_29 ok_X7_found l_X7_245 (by decide) sh_0 (by decide) (Nat.le_of_ble_eq_true rfl) rfl rfl rfl (Nat.le_of_ble_eq_true rfl) h (fun _ I11 _ hq => ?_)
          obtain ⟨rfl, r12, rfl, h⟩ := hq
          show Go G Y_X7_sheet 32 [(0, .ref 0), (1, .int a1), (2, .int a2), (3, .int a3)] [.int r12] SH I11 0 0 _
          exact go_iret dX7_sheet_32 rfl rfl (by decide) ⟨rfl, _, rfl, h⟩
      · have h := h.2 c7
        refine go_bipush dX7_sheet_20 (v := (-2 : Int32)) (by decide) ?_
        exact go_iret dX7_sheet_22 rfl rfl (by decide) ⟨rfl, _, rfl, h⟩
set_option maxRecDepth 100000 in
set_option maxHeartbeats 4000000 in
theorem v_X7_lose {G : CX} {a1 : Int32}  {I : HP} {Q : HP → Int32 → Prop} (h : RZ G Y_X7_isSheet [.int a1] I (fun I1 r2 => ((¬ (bI r2) = 0) → ((vp_in a1 4) ∧ ((((I1 (50 + 2 * nn a1) 1) = 0) → (Q (st I1 (50 + 2 * nn a1) 1 (1 : Int32)) ((st I1 (50 + 2 * nn a1) 1 (1 : Int32)) (50 + 2 * nn a1) 3))) ∧ ((¬ (I1 (50 + 2 * nn a1) 1) = 0) → (RI G Y_X7_found [.ref 0, .int (1 : Int32)] I1 (fun I6 r7 => Q I6 r7)))))) ∧ (((bI r2) = 0) → (Q I1 (-2 : Int32))))) : RI G Y_X7_lose [.ref 0, .int a1] I Q := by
  refine ret_of (show plainName RX7 = true by decide) (Nat.le_of_ble_eq_true rfl) ?_
  show Go G Y_X7_lose 0 [(0, .ref 0), (1, .int a1)] [] SH I 0 0 _
  refine go_iload_n dX7_lose_0 rfl 1 rfl ?_
  refine go_scall (Z := Y_X7_isSheet) (As := [.int a1]) (S := []) dX7_lose_1 ok_X7_isSheet l_X7_239 (by decide) rfl rfl (Nat.le_of_ble_eq_true rfl) h (fun _ I1 _ hq => ?_)
  obtain ⟨rfl, r2, rfl, h⟩ := hq
  show Go G Y_X7_lose 4 [(0, .ref 0), (1, .int a1)] [.int (bI r2)] SH I1 0 0 _
  refine go_if_ne (tgt := 10) dX7_lose_4 (by decide) (fun c3 => ?_) (fun c3 => ?_)
  · have h := h.1 c3
    refine go_aload_n dX7_lose_10 rfl 0 rfl ?_
    refine go_getR dX7_lose_11 sh_0 (by decide) f_X7_62 ⟨Nat.le_of_ble_eq_true rfl, Nat.le_of_ble_eq_true rfl, rfl⟩ rfl ?_
    refine go_iload_n dX7_lose_14 rfl 1 rfl ?_
    have hb4 := h.1
    have h := h.2
    refine go_aald dX7_lose_15 sh_49 (Or.inr rfl) (by decide) hb4 rfl (she_at (vp_lt hb4)) ?_
    refine go_getI dX7_lose_16 (she_sh (she_is (vp_lt hb4))) (SH_lt (she_sh (she_is (vp_lt hb4)))) f_X7_242 ⟨Nat.le_of_ble_eq_true rfl, Nat.le_of_ble_eq_true rfl, rfl⟩ ?_
    refine go_if_eq (tgt := 28) dX7_lose_19 (by decide) (fun c5 => ?_) (fun c5 => ?_)
    · have h := h.1 c5
      refine go_aload_n dX7_lose_28 rfl 0 rfl ?_
      refine go_getR dX7_lose_29 sh_0 (by decide) f_X7_62 ⟨Nat.le_of_ble_eq_true rfl, Nat.le_of_ble_eq_true rfl, rfl⟩ rfl ?_
      refine go_iload_n dX7_lose_32 rfl 1 rfl ?_
      refine go_aald dX7_lose_33 sh_49 (Or.inr rfl) (by decide) hb4 rfl (she_at (vp_lt hb4)) ?_
      refine go_iconst dX7_lose_34 (v := (1 : Int32)) (by decide) ?_
      refine go_putT dX7_lose_35 (she_sh (she_is (vp_lt hb4))) (SH_lt (she_sh (she_is (vp_lt hb4)))) p_X7_242 ⟨Nat.le_of_ble_eq_true rfl, Nat.le_of_ble_eq_true rfl, rfl⟩ rfl rfl ?_
      refine go_aload_n dX7_lose_38 rfl 0 rfl ?_
      refine go_getR dX7_lose_39 sh_0 (by decide) f_X7_62 ⟨Nat.le_of_ble_eq_true rfl, Nat.le_of_ble_eq_true rfl, rfl⟩ rfl ?_
      refine go_iload_n dX7_lose_42 rfl 1 rfl ?_
      refine go_aald dX7_lose_43 sh_49 (Or.inr rfl) (by decide) hb4 rfl (she_at (vp_lt hb4)) ?_
      refine go_getI dX7_lose_44 (she_sh (she_is (vp_lt hb4))) (SH_lt (she_sh (she_is (vp_lt hb4)))) f_X7_248 ⟨Nat.le_of_ble_eq_true rfl, Nat.le_of_ble_eq_true rfl, rfl⟩ ?_
      exact go_iret dX7_lose_47 rfl rfl (by decide) ⟨rfl, _, rfl, h⟩
    · have h := h.2 c5
      refine go_aload_n dX7_lose_22 rfl 0 rfl ?_
      refine go_iconst dX7_lose_23 (v := (1 : Int32)) (by decide) ?_
      refine go_vcall (Z := Y_X7_found) (As := [.int (1 : Int32)]) (S := []) dX7_lose_24 ok_X7_found l_X7_245 (by decide) sh_0 (by decide) (Nat.le_of_ble_eq_true rfl) rfl rfl rfl (Nat.le_of_ble_eq_true rfl) h (fun _ I6 _ hq => ?_)
      obtain ⟨rfl, r7, rfl, h⟩ := hq
      show Go G Y_X7_lose 27 [(0, .ref 0), (1, .int a1)] [.int r7] SH I6 0 0 _
      exact go_iret dX7_lose_27 rfl rfl (by decide) ⟨rfl, _, rfl, h⟩
  · have h := h.2 c3
    refine go_bipush dX7_lose_7 (v := (-2 : Int32)) (by decide) ?_
    exact go_iret dX7_lose_9 rfl rfl (by decide) ⟨rfl, _, rfl, h⟩
set_option maxRecDepth 100000 in
set_option maxHeartbeats 4000000 in
theorem v_X7_lay {G : CX} {a1 : Int32} {a2 : Int32} {a3 : Int32} {a4 : Int32}  {I : HP} {Q : HP → Int32 → Prop} (h : RZ G Y_X7_isSheet [.int a1] I (fun I1 r2 => (((bI r2) = 0) → (Q I1 (-2 : Int32))) ∧ ((¬ (bI r2) = 0) → (RZ G Y_X7_isForm [.int a2] I1 (fun I4 r5 => ((¬ (bI r5) = 0) → ((vp_in a1 4) ∧ (RI G Y_X7_findingAt [.ref (50 + 2 * nn a1), .int a2, .int a3] I4 (fun I8 r9 => ((r9 = 0) → (RV G Y_X3_store [.ref (50 + 2 * nn a1), .int a3, .int a4] I8 (fun I11 => Q I11 (1 : Int32)))) ∧ ((¬ r9 = 0) → (RI G Y_X7_found [.ref 0, .int r9] I8 (fun I12 r13 => Q I12 r13))))))) ∧ (((bI r5) = 0) → (Q I4 (-2 : Int32)))))))) : RI G Y_X7_lay [.ref 0, .int a1, .int a2, .int a3, .int a4] I Q := by
  refine ret_of (show plainName RX7 = true by decide) (Nat.le_of_ble_eq_true rfl) ?_
  show Go G Y_X7_lay 0 [(0, .ref 0), (1, .int a1), (2, .int a2), (3, .int a3), (4, .int a4)] [] SH I 0 0 _
  refine go_iload_n dX7_lay_0 rfl 1 rfl ?_
  refine go_scall (Z := Y_X7_isSheet) (As := [.int a1]) (S := []) dX7_lay_1 ok_X7_isSheet l_X7_239 (by decide) rfl rfl (Nat.le_of_ble_eq_true rfl) h (fun _ I1 _ hq => ?_)
  obtain ⟨rfl, r2, rfl, h⟩ := hq
  show Go G Y_X7_lay 4 [(0, .ref 0), (1, .int a1), (2, .int a2), (3, .int a3), (4, .int a4)] [.int (bI r2)] SH I1 0 0 _
  refine go_if_eq (tgt := 14) dX7_lay_4 (by decide) (fun c3 => ?_) (fun c3 => ?_)
  · have h := h.1 c3
    refine go_bipush dX7_lay_14 (v := (-2 : Int32)) (by decide) ?_
    exact go_iret dX7_lay_16 rfl rfl (by decide) ⟨rfl, _, rfl, h⟩
  · have h := h.2 c3
    refine go_iload_n dX7_lay_7 rfl 2 rfl ?_
    refine go_scall (Z := Y_X7_isForm) (As := [.int a2]) (S := []) dX7_lay_8 ok_X7_isForm l_X7_252 (by decide) rfl rfl (Nat.le_of_ble_eq_true rfl) h (fun _ I4 _ hq => ?_)
    obtain ⟨rfl, r5, rfl, h⟩ := hq
    show Go G Y_X7_lay 11 [(0, .ref 0), (1, .int a1), (2, .int a2), (3, .int a3), (4, .int a4)] [.int (bI r5)] SH I4 0 0 _
    refine go_if_ne (tgt := 17) dX7_lay_11 (by decide) (fun c6 => ?_) (fun c6 => ?_)
    · have h := h.1 c6
      refine go_aload_n dX7_lay_17 rfl 0 rfl ?_
      refine go_getR dX7_lay_18 sh_0 (by decide) f_X7_62 ⟨Nat.le_of_ble_eq_true rfl, Nat.le_of_ble_eq_true rfl, rfl⟩ rfl ?_
      refine go_iload_n dX7_lay_21 rfl 1 rfl ?_
      have hb7 := h.1
      have h := h.2
      refine go_aald dX7_lay_22 sh_49 (Or.inr rfl) (by decide) hb7 rfl (she_at (vp_lt hb7)) ?_
      refine go_iload_n dX7_lay_23 rfl 2 rfl ?_
      refine go_iload_n dX7_lay_24 rfl 3 rfl ?_
      refine go_scall (Z := Y_X7_findingAt) (As := [.ref (50 + 2 * nn a1), .int a2, .int a3]) (S := []) dX7_lay_25 ok_X7_findingAt l_X7_258 (by decide) rfl rfl (Nat.le_of_ble_eq_true rfl) h (fun _ I8 _ hq => ?_)
      obtain ⟨rfl, r9, rfl, h⟩ := hq
      show Go G Y_X7_lay 28 [(0, .ref 0), (1, .int a1), (2, .int a2), (3, .int a3), (4, .int a4)] [.int r9] SH I8 0 0 _
      refine go_istore dX7_lay_28 (Nat.le_of_ble_eq_true rfl) (L2 := [(5, .int r9), (0, .ref 0), (1, .int a1), (2, .int a2), (3, .int a3), (4, .int a4)]) rfl ?_
      refine go_iload dX7_lay_30 0 rfl ?_
      refine go_if_eq (tgt := 42) dX7_lay_32 (by decide) (fun c10 => ?_) (fun c10 => ?_)
      · have h := h.1 c10
        refine go_aload_n dX7_lay_42 rfl 1 rfl ?_
        refine go_getR dX7_lay_43 sh_0 (by decide) f_X7_62 ⟨Nat.le_of_ble_eq_true rfl, Nat.le_of_ble_eq_true rfl, rfl⟩ rfl ?_
        refine go_iload_n dX7_lay_46 rfl 2 rfl ?_
        refine go_aald dX7_lay_47 sh_49 (Or.inr rfl) (by decide) hb7 rfl (she_at (vp_lt hb7)) ?_
        refine go_iload_n dX7_lay_48 rfl 4 rfl ?_
        refine go_iload dX7_lay_49 5 rfl ?_
        refine go_vcall (Z := Y_X3_store) (As := [.int a3, .int a4]) (S := []) dX7_lay_51 ok_X3_store l_X7_262 (by decide) (she_sh (she_is (vp_lt hb7))) (SH_lt (she_sh (she_is (vp_lt hb7)))) (Nat.le_of_ble_eq_true rfl) rfl rfl rfl (Nat.le_of_ble_eq_true rfl) h (fun _ I11 _ hq => ?_)
        obtain ⟨rfl, rfl, h⟩ := hq
        show Go G Y_X7_lay 54 [(5, .int r9), (0, .ref 0), (1, .int a1), (2, .int a2), (3, .int a3), (4, .int a4)] [] SH I11 0 0 _
        refine go_iconst dX7_lay_54 (v := (1 : Int32)) (by decide) ?_
        exact go_iret dX7_lay_55 rfl rfl (by decide) ⟨rfl, _, rfl, h⟩
      · have h := h.2 c10
        refine go_aload_n dX7_lay_35 rfl 1 rfl ?_
        refine go_iload dX7_lay_36 0 rfl ?_
        refine go_vcall (Z := Y_X7_found) (As := [.int r9]) (S := []) dX7_lay_38 ok_X7_found l_X7_245 (by decide) sh_0 (by decide) (Nat.le_of_ble_eq_true rfl) rfl rfl rfl (Nat.le_of_ble_eq_true rfl) h (fun _ I12 _ hq => ?_)
        obtain ⟨rfl, r13, rfl, h⟩ := hq
        show Go G Y_X7_lay 41 [(5, .int r9), (0, .ref 0), (1, .int a1), (2, .int a2), (3, .int a3), (4, .int a4)] [.int r13] SH I12 0 0 _
        exact go_iret dX7_lay_41 rfl rfl (by decide) ⟨rfl, _, rfl, h⟩
    · have h := h.2 c6
      refine go_bipush dX7_lay_14 (v := (-2 : Int32)) (by decide) ?_
      exact go_iret dX7_lay_16 rfl rfl (by decide) ⟨rfl, _, rfl, h⟩
set_option maxRecDepth 100000 in
set_option maxHeartbeats 4000000 in
theorem v_X7_get {G : CX} {a1 : Int32} {a2 : Int32} {a3 : Int32}  {I : HP} {Q : HP → Int32 → Prop} (h : RZ G Y_X7_isSheet [.int a1] I (fun I1 r2 => (((bI r2) = 0) → (Q I1 (-2147483648 : Int32))) ∧ ((¬ (bI r2) = 0) → (RZ G Y_X7_isForm [.int a2] I1 (fun I4 r5 => ((¬ (bI r5) = 0) → ((vp_in a1 4) ∧ (RI G Y_X7_findingAt [.ref (50 + 2 * nn a1), .int a2, .int a3] I4 (fun I8 r9 => ((r9 = 0) → (RI G Y_X3_item [.ref (50 + 2 * nn a1), .int a3] I8 (fun I11 r12 => Q I11 r12))) ∧ ((¬ r9 = 0) → (Q (st I8 0 11 r9) (-2147483648 : Int32))))))) ∧ (((bI r5) = 0) → (Q I4 (-2147483648 : Int32)))))))) : RI G Y_X7_get [.ref 0, .int a1, .int a2, .int a3] I Q := by
  refine ret_of (show plainName RX7 = true by decide) (Nat.le_of_ble_eq_true rfl) ?_
  show Go G Y_X7_get 0 [(0, .ref 0), (1, .int a1), (2, .int a2), (3, .int a3)] [] SH I 0 0 _
  refine go_iload_n dX7_get_0 rfl 1 rfl ?_
  refine go_scall (Z := Y_X7_isSheet) (As := [.int a1]) (S := []) dX7_get_1 ok_X7_isSheet l_X7_239 (by decide) rfl rfl (Nat.le_of_ble_eq_true rfl) h (fun _ I1 _ hq => ?_)
  obtain ⟨rfl, r2, rfl, h⟩ := hq
  show Go G Y_X7_get 4 [(0, .ref 0), (1, .int a1), (2, .int a2), (3, .int a3)] [.int (bI r2)] SH I1 0 0 _
  refine go_if_eq (tgt := 14) dX7_get_4 (by decide) (fun c3 => ?_) (fun c3 => ?_)
  · have h := h.1 c3
    refine go_ldcw dX7_get_14 k_X7_265 ?_
    exact go_iret dX7_get_17 rfl rfl (by decide) ⟨rfl, _, rfl, h⟩
  · have h := h.2 c3
    refine go_iload_n dX7_get_7 rfl 2 rfl ?_
    refine go_scall (Z := Y_X7_isForm) (As := [.int a2]) (S := []) dX7_get_8 ok_X7_isForm l_X7_252 (by decide) rfl rfl (Nat.le_of_ble_eq_true rfl) h (fun _ I4 _ hq => ?_)
    obtain ⟨rfl, r5, rfl, h⟩ := hq
    show Go G Y_X7_get 11 [(0, .ref 0), (1, .int a1), (2, .int a2), (3, .int a3)] [.int (bI r5)] SH I4 0 0 _
    refine go_if_ne (tgt := 18) dX7_get_11 (by decide) (fun c6 => ?_) (fun c6 => ?_)
    · have h := h.1 c6
      refine go_aload_n dX7_get_18 rfl 0 rfl ?_
      refine go_getR dX7_get_19 sh_0 (by decide) f_X7_62 ⟨Nat.le_of_ble_eq_true rfl, Nat.le_of_ble_eq_true rfl, rfl⟩ rfl ?_
      refine go_iload_n dX7_get_22 rfl 1 rfl ?_
      have hb7 := h.1
      have h := h.2
      refine go_aald dX7_get_23 sh_49 (Or.inr rfl) (by decide) hb7 rfl (she_at (vp_lt hb7)) ?_
      refine go_iload_n dX7_get_24 rfl 2 rfl ?_
      refine go_iload_n dX7_get_25 rfl 3 rfl ?_
      refine go_scall (Z := Y_X7_findingAt) (As := [.ref (50 + 2 * nn a1), .int a2, .int a3]) (S := []) dX7_get_26 ok_X7_findingAt l_X7_258 (by decide) rfl rfl (Nat.le_of_ble_eq_true rfl) h (fun _ I8 _ hq => ?_)
      obtain ⟨rfl, r9, rfl, h⟩ := hq
      show Go G Y_X7_get 29 [(0, .ref 0), (1, .int a1), (2, .int a2), (3, .int a3)] [.int r9] SH I8 0 0 _
      refine go_istore dX7_get_29 (Nat.le_of_ble_eq_true rfl) (L2 := [(4, .int r9), (0, .ref 0), (1, .int a1), (2, .int a2), (3, .int a3)]) rfl ?_
      refine go_iload dX7_get_31 0 rfl ?_
      refine go_if_eq (tgt := 46) dX7_get_33 (by decide) (fun c10 => ?_) (fun c10 => ?_)
      · have h := h.1 c10
        refine go_aload_n dX7_get_46 rfl 1 rfl ?_
        refine go_getR dX7_get_47 sh_0 (by decide) f_X7_62 ⟨Nat.le_of_ble_eq_true rfl, Nat.le_of_ble_eq_true rfl, rfl⟩ rfl ?_
        refine go_iload_n dX7_get_50 rfl 2 rfl ?_
        refine go_aald dX7_get_51 sh_49 (Or.inr rfl) (by decide) hb7 rfl (she_at (vp_lt hb7)) ?_
        refine go_iload_n dX7_get_52 rfl 4 rfl ?_
        refine go_vcall (Z := Y_X3_item) (As := [.int a3]) (S := []) dX7_get_53 ok_X3_item l_X7_249 (by decide) (she_sh (she_is (vp_lt hb7))) (SH_lt (she_sh (she_is (vp_lt hb7)))) (Nat.le_of_ble_eq_true rfl) rfl rfl rfl (Nat.le_of_ble_eq_true rfl) h (fun _ I11 _ hq => ?_)
        obtain ⟨rfl, r12, rfl, h⟩ := hq
        show Go G Y_X7_get 56 [(4, .int r9), (0, .ref 0), (1, .int a1), (2, .int a2), (3, .int a3)] [.int r12] SH I11 0 0 _
        exact go_iret dX7_get_56 rfl rfl (by decide) ⟨rfl, _, rfl, h⟩
      · have h := h.2 c10
        refine go_aload_n dX7_get_36 rfl 1 rfl ?_
        refine go_iload dX7_get_37 0 rfl ?_
        refine go_putT dX7_get_39 sh_0 (by decide) p_X7_266 ⟨Nat.le_of_ble_eq_true rfl, Nat.le_of_ble_eq_true rfl, rfl⟩ rfl rfl ?_
        refine go_ldcw dX7_get_42 k_X7_265 ?_
        exact go_iret dX7_get_45 rfl rfl (by decide) ⟨rfl, _, rfl, h⟩
    · have h := h.2 c6
      refine go_ldcw dX7_get_14 k_X7_265 ?_
      exact go_iret dX7_get_17 rfl rfl (by decide) ⟨rfl, _, rfl, h⟩
set_option maxRecDepth 100000 in
set_option maxHeartbeats 4000000 in
theorem v_X7_copy {G : CX} {a1 : Int32} {a2 : Int32} {a3 : Int32} {a4 : Int32} {a5 : Int32}  {I : HP} {Q : HP → Int32 → Prop} (h : RZ G Y_X7_isSheet [.int a1] I (fun I1 r2 => (((bI r2) = 0) → (Q I1 (-2 : Int32))) ∧ ((¬ (bI r2) = 0) → (RZ G Y_X7_isSheet [.int a3] I1 (fun I4 r5 => ((¬ (bI r5) = 0) → ((vp_in a1 4) ∧ ((vp_in a3 4) ∧ (((¬ (I4 (50 + 2 * nn a1) 1) = 0) → (RI G Y_X7_found [.ref 0, .int (1 : Int32)] I4 (fun I10 r11 => Q I10 r11))) ∧ (((I4 (50 + 2 * nn a1) 1) = 0) → ((((I4 (50 + 2 * nn a3) 1) = 0) → ((((I4 (50 + 2 * nn a1) 2) = (I4 (50 + 2 * nn a3) 2)) → (RZ G Y_X3_hasSpan [.ref (50 + 2 * nn a1), .int a2, .int a5] I4 (fun I14 r15 => (((bI r15) = 0) → (RI G Y_X7_found [.ref 0, .int (2 : Int32)] I14 (fun I17 r18 => Q I17 r18))) ∧ ((¬ (bI r15) = 0) → (RZ G Y_X3_hasSpan [.ref (50 + 2 * nn a3), .int a4, .int a5] I14 (fun I19 r20 => ((¬ (bI r20) = 0) → ((¬ a2 < 0 ∧ ¬ a4 < 0 ∧ ¬ a5 < 0 ∧ nn a2 + nn a5 ≤ 60 ∧ nn a4 + nn a5 ≤ 60) ∧ (Q (sr I19 ((50 + 2 * nn a3) + 1) (va_cpy (I19 ((50 + 2 * nn a1) + 1)) (I19 ((50 + 2 * nn a3) + 1)) (nn a2) (nn a4) (nn a5))) (1 : Int32)))) ∧ (((bI r20) = 0) → (RI G Y_X7_found [.ref 0, .int (2 : Int32)] I19 (fun I23 r24 => Q I23 r24))))))))) ∧ ((¬ (I4 (50 + 2 * nn a1) 2) = (I4 (50 + 2 * nn a3) 2)) → (RI G Y_X7_found [.ref 0, .int (4 : Int32)] I4 (fun I25 r26 => Q I25 r26))))) ∧ ((¬ (I4 (50 + 2 * nn a3) 1) = 0) → (RI G Y_X7_found [.ref 0, .int (1 : Int32)] I4 (fun I27 r28 => Q I27 r28))))))))) ∧ (((bI r5) = 0) → (Q I4 (-2 : Int32)))))))) : RI G Y_X7_copy [.ref 0, .int a1, .int a2, .int a3, .int a4, .int a5] I Q := by
  refine ret_of (show plainName RX7 = true by decide) (Nat.le_of_ble_eq_true rfl) ?_
  show Go G Y_X7_copy 0 [(0, .ref 0), (1, .int a1), (2, .int a2), (3, .int a3), (4, .int a4), (5, .int a5)] [] SH I 0 0 _
  refine go_iload_n dX7_copy_0 rfl 1 rfl ?_
  refine go_scall (Z := Y_X7_isSheet) (As := [.int a1]) (S := []) dX7_copy_1 ok_X7_isSheet l_X7_239 (by decide) rfl rfl (Nat.le_of_ble_eq_true rfl) h (fun _ I1 _ hq => ?_)
  obtain ⟨rfl, r2, rfl, h⟩ := hq
  show Go G Y_X7_copy 4 [(0, .ref 0), (1, .int a1), (2, .int a2), (3, .int a3), (4, .int a4), (5, .int a5)] [.int (bI r2)] SH I1 0 0 _
  refine go_if_eq (tgt := 14) dX7_copy_4 (by decide) (fun c3 => ?_) (fun c3 => ?_)
  · have h := h.1 c3
    refine go_bipush dX7_copy_14 (v := (-2 : Int32)) (by decide) ?_
    exact go_iret dX7_copy_16 rfl rfl (by decide) ⟨rfl, _, rfl, h⟩
  · have h := h.2 c3
    refine go_iload_n dX7_copy_7 rfl 3 rfl ?_
    refine go_scall (Z := Y_X7_isSheet) (As := [.int a3]) (S := []) dX7_copy_8 ok_X7_isSheet l_X7_239 (by decide) rfl rfl (Nat.le_of_ble_eq_true rfl) h (fun _ I4 _ hq => ?_)
    obtain ⟨rfl, r5, rfl, h⟩ := hq
    show Go G Y_X7_copy 11 [(0, .ref 0), (1, .int a1), (2, .int a2), (3, .int a3), (4, .int a4), (5, .int a5)] [.int (bI r5)] SH I4 0 0 _
    refine go_if_ne (tgt := 17) dX7_copy_11 (by decide) (fun c6 => ?_) (fun c6 => ?_)
    · have h := h.1 c6
      refine go_aload_n dX7_copy_17 rfl 0 rfl ?_
      refine go_getR dX7_copy_18 sh_0 (by decide) f_X7_62 ⟨Nat.le_of_ble_eq_true rfl, Nat.le_of_ble_eq_true rfl, rfl⟩ rfl ?_
      refine go_iload_n dX7_copy_21 rfl 1 rfl ?_
      have hb7 := h.1
      have h := h.2
      refine go_aald dX7_copy_22 sh_49 (Or.inr rfl) (by decide) hb7 rfl (she_at (vp_lt hb7)) ?_
      refine go_astore dX7_copy_23 (Nat.le_of_ble_eq_true rfl) (L2 := [(6, .ref (50 + 2 * nn a1)), (0, .ref 0), (1, .int a1), (2, .int a2), (3, .int a3), (4, .int a4), (5, .int a5)]) rfl ?_
      refine go_aload_n dX7_copy_25 rfl 1 rfl ?_
      refine go_getR dX7_copy_26 sh_0 (by decide) f_X7_62 ⟨Nat.le_of_ble_eq_true rfl, Nat.le_of_ble_eq_true rfl, rfl⟩ rfl ?_
      refine go_iload_n dX7_copy_29 rfl 4 rfl ?_
      have hb8 := h.1
      have h := h.2
      refine go_aald dX7_copy_30 sh_49 (Or.inr rfl) (by decide) hb8 rfl (she_at (vp_lt hb8)) ?_
      refine go_astore dX7_copy_31 (Nat.le_of_ble_eq_true rfl) (L2 := [(7, .ref (50 + 2 * nn a3)), (6, .ref (50 + 2 * nn a1)), (0, .ref 0), (1, .int a1), (2, .int a2), (3, .int a3), (4, .int a4), (5, .int a5)]) rfl ?_
      refine go_aload dX7_copy_33 1 rfl ?_
      refine go_getI dX7_copy_35 (she_sh (she_is (vp_lt hb7))) (SH_lt (she_sh (she_is (vp_lt hb7)))) f_X7_242 ⟨Nat.le_of_ble_eq_true rfl, Nat.le_of_ble_eq_true rfl, rfl⟩ ?_
      refine go_if_ne (tgt := 49) dX7_copy_38 (by decide) (fun c9 => ?_) (fun c9 => ?_)
      · have h := h.1 c9
        refine go_aload_n dX7_copy_49 rfl 2 rfl ?_
        refine go_iconst dX7_copy_50 (v := (1 : Int32)) (by decide) ?_
        refine go_vcall (Z := Y_X7_found) (As := [.int (1 : Int32)]) (S := []) dX7_copy_51 ok_X7_found l_X7_245 (by decide) sh_0 (by decide) (Nat.le_of_ble_eq_true rfl) rfl rfl rfl (Nat.le_of_ble_eq_true rfl) h (fun _ I10 _ hq => ?_)
        obtain ⟨rfl, r11, rfl, h⟩ := hq
        show Go G Y_X7_copy 54 [(7, .ref (50 + 2 * nn a3)), (6, .ref (50 + 2 * nn a1)), (0, .ref 0), (1, .int a1), (2, .int a2), (3, .int a3), (4, .int a4), (5, .int a5)] [.int r11] SH I10 0 0 _
        exact go_iret dX7_copy_54 rfl rfl (by decide) ⟨rfl, _, rfl, h⟩
      · have h := h.2 c9
        refine go_aload dX7_copy_41 0 rfl ?_
        refine go_getI dX7_copy_43 (she_sh (she_is (vp_lt hb8))) (SH_lt (she_sh (she_is (vp_lt hb8)))) f_X7_242 ⟨Nat.le_of_ble_eq_true rfl, Nat.le_of_ble_eq_true rfl, rfl⟩ ?_
        refine go_if_eq (tgt := 55) dX7_copy_46 (by decide) (fun c12 => ?_) (fun c12 => ?_)
        · have h := h.1 c12
          refine go_aload dX7_copy_55 1 rfl ?_
          refine go_getI dX7_copy_57 (she_sh (she_is (vp_lt hb7))) (SH_lt (she_sh (she_is (vp_lt hb7)))) f_X7_269 ⟨Nat.le_of_ble_eq_true rfl, Nat.le_of_ble_eq_true rfl, rfl⟩ ?_
          refine go_aload dX7_copy_60 0 rfl ?_
          refine go_getI dX7_copy_62 (she_sh (she_is (vp_lt hb8))) (SH_lt (she_sh (she_is (vp_lt hb8)))) f_X7_269 ⟨Nat.le_of_ble_eq_true rfl, Nat.le_of_ble_eq_true rfl, rfl⟩ ?_
          refine go_icmp_eq (tgt := 74) dX7_copy_65 (by decide) (fun c13 => ?_) (fun c13 => ?_)
          · have h := h.1 c13
            refine go_aload dX7_copy_74 1 rfl ?_
            refine go_iload_n dX7_copy_76 rfl 4 rfl ?_
            refine go_iload dX7_copy_77 7 rfl ?_
            refine go_vcall (Z := Y_X3_hasSpan) (As := [.int a2, .int a5]) (S := []) dX7_copy_79 ok_X3_hasSpan l_X7_272 (by decide) (she_sh (she_is (vp_lt hb7))) (SH_lt (she_sh (she_is (vp_lt hb7)))) (Nat.le_of_ble_eq_true rfl) rfl rfl rfl (Nat.le_of_ble_eq_true rfl) h (fun _ I14 _ hq => ?_)
            obtain ⟨rfl, r15, rfl, h⟩ := hq
            show Go G Y_X7_copy 82 [(7, .ref (50 + 2 * nn a3)), (6, .ref (50 + 2 * nn a1)), (0, .ref 0), (1, .int a1), (2, .int a2), (3, .int a3), (4, .int a4), (5, .int a5)] [.int (bI r15)] SH I14 0 0 _
            refine go_if_eq (tgt := 97) dX7_copy_82 (by decide) (fun c16 => ?_) (fun c16 => ?_)
            · have h := h.1 c16
              refine go_aload_n dX7_copy_97 rfl 2 rfl ?_
              refine go_iconst dX7_copy_98 (v := (2 : Int32)) (by decide) ?_
              refine go_vcall (Z := Y_X7_found) (As := [.int (2 : Int32)]) (S := []) dX7_copy_99 ok_X7_found l_X7_245 (by decide) sh_0 (by decide) (Nat.le_of_ble_eq_true rfl) rfl rfl rfl (Nat.le_of_ble_eq_true rfl) h (fun _ I17 _ hq => ?_)
              obtain ⟨rfl, r18, rfl, h⟩ := hq
              show Go G Y_X7_copy 102 [(7, .ref (50 + 2 * nn a3)), (6, .ref (50 + 2 * nn a1)), (0, .ref 0), (1, .int a1), (2, .int a2), (3, .int a3), (4, .int a4), (5, .int a5)] [.int r18] SH I17 0 0 _
              exact go_iret dX7_copy_102 rfl rfl (by decide) ⟨rfl, _, rfl, h⟩
            · have h := h.2 c16
              refine go_aload dX7_copy_85 0 rfl ?_
              refine go_iload dX7_copy_87 6 rfl ?_
              refine go_iload dX7_copy_89 7 rfl ?_
              refine go_vcall (Z := Y_X3_hasSpan) (As := [.int a4, .int a5]) (S := []) dX7_copy_91 ok_X3_hasSpan l_X7_272 (by decide) (she_sh (she_is (vp_lt hb8))) (SH_lt (she_sh (she_is (vp_lt hb8)))) (Nat.le_of_ble_eq_true rfl) rfl rfl rfl (Nat.le_of_ble_eq_true rfl) h (fun _ I19 _ hq => ?_)
              obtain ⟨rfl, r20, rfl, h⟩ := hq
              show Go G Y_X7_copy 94 [(7, .ref (50 + 2 * nn a3)), (6, .ref (50 + 2 * nn a1)), (0, .ref 0), (1, .int a1), (2, .int a2), (3, .int a3), (4, .int a4), (5, .int a5)] [.int (bI r20)] SH I19 0 0 _
              refine go_if_ne (tgt := 103) dX7_copy_94 (by decide) (fun c21 => ?_) (fun c21 => ?_)
              · have h := h.1 c21
                refine go_aload dX7_copy_103 1 rfl ?_
                refine go_getR dX7_copy_105 (she_sh (she_is (vp_lt hb7))) (SH_lt (she_sh (she_is (vp_lt hb7)))) f_X7_275 ⟨Nat.le_of_ble_eq_true rfl, Nat.le_of_ble_eq_true rfl, rfl⟩ rfl ?_
                refine go_iload_n dX7_copy_108 rfl 4 rfl ?_
                refine go_aload dX7_copy_109 0 rfl ?_
                refine go_getR dX7_copy_111 (she_sh (she_is (vp_lt hb8))) (SH_lt (she_sh (she_is (vp_lt hb8)))) f_X7_275 ⟨Nat.le_of_ble_eq_true rfl, Nat.le_of_ble_eq_true rfl, rfl⟩ rfl ?_
                refine go_iload dX7_copy_114 6 rfl ?_
                refine go_iload dX7_copy_116 7 rfl ?_
                have hb22 := h.1
                have h := h.2
                refine go_copy dX7_copy_118 ⟨l_X7_278, bt_cpy⟩ (by decide) (Nat.le_of_ble_eq_true rfl) (she_ar (she_is (vp_lt hb7))) (she_ar (she_is (vp_lt hb8))) ⟨SH_lt (she_ar (she_is (vp_lt hb7))), SH_lt (she_ar (she_is (vp_lt hb8)))⟩ hb22 ?_
                refine go_iconst dX7_copy_121 (v := (1 : Int32)) (by decide) ?_
                exact go_iret dX7_copy_122 rfl rfl (by decide) ⟨rfl, _, rfl, h⟩
              · have h := h.2 c21
                refine go_aload_n dX7_copy_97 rfl 2 rfl ?_
                refine go_iconst dX7_copy_98 (v := (2 : Int32)) (by decide) ?_
                refine go_vcall (Z := Y_X7_found) (As := [.int (2 : Int32)]) (S := []) dX7_copy_99 ok_X7_found l_X7_245 (by decide) sh_0 (by decide) (Nat.le_of_ble_eq_true rfl) rfl rfl rfl (Nat.le_of_ble_eq_true rfl) h (fun _ I23 _ hq => ?_)
                obtain ⟨rfl, r24, rfl, h⟩ := hq
                show Go G Y_X7_copy 102 [(7, .ref (50 + 2 * nn a3)), (6, .ref (50 + 2 * nn a1)), (0, .ref 0), (1, .int a1), (2, .int a2), (3, .int a3), (4, .int a4), (5, .int a5)] [.int r24] SH I23 0 0 _
                exact go_iret dX7_copy_102 rfl rfl (by decide) ⟨rfl, _, rfl, h⟩
          · have h := h.2 c13
            refine go_aload_n dX7_copy_68 rfl 2 rfl ?_
            refine go_iconst dX7_copy_69 (v := (4 : Int32)) (by decide) ?_
            refine go_vcall (Z := Y_X7_found) (As := [.int (4 : Int32)]) (S := []) dX7_copy_70 ok_X7_found l_X7_245 (by decide) sh_0 (by decide) (Nat.le_of_ble_eq_true rfl) rfl rfl rfl (Nat.le_of_ble_eq_true rfl) h (fun _ I25 _ hq => ?_)
            obtain ⟨rfl, r26, rfl, h⟩ := hq
            show Go G Y_X7_copy 73 [(7, .ref (50 + 2 * nn a3)), (6, .ref (50 + 2 * nn a1)), (0, .ref 0), (1, .int a1), (2, .int a2), (3, .int a3), (4, .int a4), (5, .int a5)] [.int r26] SH I25 0 0 _
            exact go_iret dX7_copy_73 rfl rfl (by decide) ⟨rfl, _, rfl, h⟩
        · have h := h.2 c12
          refine go_aload_n dX7_copy_49 rfl 2 rfl ?_
          refine go_iconst dX7_copy_50 (v := (1 : Int32)) (by decide) ?_
          refine go_vcall (Z := Y_X7_found) (As := [.int (1 : Int32)]) (S := []) dX7_copy_51 ok_X7_found l_X7_245 (by decide) sh_0 (by decide) (Nat.le_of_ble_eq_true rfl) rfl rfl rfl (Nat.le_of_ble_eq_true rfl) h (fun _ I27 _ hq => ?_)
          obtain ⟨rfl, r28, rfl, h⟩ := hq
          show Go G Y_X7_copy 54 [(7, .ref (50 + 2 * nn a3)), (6, .ref (50 + 2 * nn a1)), (0, .ref 0), (1, .int a1), (2, .int a2), (3, .int a3), (4, .int a4), (5, .int a5)] [.int r28] SH I27 0 0 _
          exact go_iret dX7_copy_54 rfl rfl (by decide) ⟨rfl, _, rfl, h⟩
    · have h := h.2 c6
      refine go_bipush dX7_copy_14 (v := (-2 : Int32)) (by decide) ?_
      exact go_iret dX7_copy_16 rfl rfl (by decide) ⟨rfl, _, rfl, h⟩
set_option maxRecDepth 100000 in
set_option maxHeartbeats 4000000 in
theorem v_X7_write {G : CX} {a1 : Int32}  {I : HP} {Q : HP → Int32 → Prop} (h : RZ G Y_X7_isSheet [.int a1] I (fun I1 r2 => ((¬ (bI r2) = 0) → ((vp_in a1 4) ∧ ((((I1 (50 + 2 * nn a1) 1) = 0) → (∀ z6 : Int32, z6 = (if (I1 2 3) < (I1 (50 + 2 * nn a1) 3) then (I1 2 3) else (I1 (50 + 2 * nn a1) 3)) → GI G Y_X7_write 48 [(0, .ref 0), (2, .ref (50 + 2 * nn a1)), (3, .int z6), (4, .int (0 : Int32))] I1 Q)) ∧ ((¬ (I1 (50 + 2 * nn a1) 1) = 0) → (RI G Y_X7_found [.ref 0, .int (1 : Int32)] I1 (fun I7 r8 => Q I7 r8)))))) ∧ (((bI r2) = 0) → (Q I1 (-2 : Int32))))) : RI G Y_X7_write [.ref 0, .int a1] I Q := by
  refine ret_of (show plainName RX7 = true by decide) (Nat.le_of_ble_eq_true rfl) ?_
  show Go G Y_X7_write 0 [(0, .ref 0), (1, .int a1)] [] SH I 0 0 _
  refine go_iload_n dX7_write_0 rfl 1 rfl ?_
  refine go_scall (Z := Y_X7_isSheet) (As := [.int a1]) (S := []) dX7_write_1 ok_X7_isSheet l_X7_239 (by decide) rfl rfl (Nat.le_of_ble_eq_true rfl) h (fun _ I1 _ hq => ?_)
  obtain ⟨rfl, r2, rfl, h⟩ := hq
  show Go G Y_X7_write 4 [(0, .ref 0), (1, .int a1)] [.int (bI r2)] SH I1 0 0 _
  refine go_if_ne (tgt := 10) dX7_write_4 (by decide) (fun c3 => ?_) (fun c3 => ?_)
  · have h := h.1 c3
    refine go_aload_n dX7_write_10 rfl 0 rfl ?_
    refine go_getR dX7_write_11 sh_0 (by decide) f_X7_62 ⟨Nat.le_of_ble_eq_true rfl, Nat.le_of_ble_eq_true rfl, rfl⟩ rfl ?_
    refine go_iload_n dX7_write_14 rfl 1 rfl ?_
    have hb4 := h.1
    have h := h.2
    refine go_aald dX7_write_15 sh_49 (Or.inr rfl) (by decide) hb4 rfl (she_at (vp_lt hb4)) ?_
    refine go_astore_n dX7_write_16 rfl (Nat.le_of_ble_eq_true rfl) (L2 := [(2, .ref (50 + 2 * nn a1)), (0, .ref 0), (1, .int a1)]) rfl ?_
    refine go_aload_n dX7_write_17 rfl 0 rfl ?_
    refine go_getI dX7_write_18 (she_sh (she_is (vp_lt hb4))) (SH_lt (she_sh (she_is (vp_lt hb4)))) f_X7_242 ⟨Nat.le_of_ble_eq_true rfl, Nat.le_of_ble_eq_true rfl, rfl⟩ ?_
    refine go_if_eq (tgt := 30) dX7_write_21 (by decide) (fun c5 => ?_) (fun c5 => ?_)
    · have h := h.1 c5
      refine go_aload_n dX7_write_30 rfl 0 rfl ?_
      refine go_getI dX7_write_31 (she_sh (she_is (vp_lt hb4))) (SH_lt (she_sh (she_is (vp_lt hb4)))) f_X7_248 ⟨Nat.le_of_ble_eq_true rfl, Nat.le_of_ble_eq_true rfl, rfl⟩ ?_
      refine go_aload_n dX7_write_34 rfl 1 rfl ?_
      refine go_getR dX7_write_35 sh_0 (by decide) f_X7_18 ⟨Nat.le_of_ble_eq_true rfl, Nat.le_of_ble_eq_true rfl, rfl⟩ rfl ?_
      refine go_getI dX7_write_38 (scr_sh (Or.inl rfl)) (by decide) f_X7_92 ⟨Nat.le_of_ble_eq_true rfl, Nat.le_of_ble_eq_true rfl, rfl⟩ ?_
      refine go_min dX7_write_41 ⟨l_X7_284, bt_min⟩ (by decide) (Nat.le_of_ble_eq_true rfl) ?_
      refine go_top (fun z6 ez6 => ?_)
      have h := h z6 ez6
      refine go_istore_n dX7_write_44 rfl (Nat.le_of_ble_eq_true rfl) (L2 := [(3, .int z6), (2, .ref (50 + 2 * nn a1)), (0, .ref 0), (1, .int a1)]) rfl ?_
      refine go_iconst dX7_write_45 (v := (0 : Int32)) (by decide) ?_
      refine go_istore dX7_write_46 (Nat.le_of_ble_eq_true rfl) (L2 := [(4, .int (0 : Int32)), (3, .int z6), (2, .ref (50 + 2 * nn a1)), (0, .ref 0), (1, .int a1)]) rfl ?_
      exact go_loc [(0, .ref 0), (2, .ref (50 + 2 * nn a1)), (3, .int z6), (4, .int (0 : Int32))] [3, 2, 1, 0] rfl h
    · have h := h.2 c5
      refine go_aload_n dX7_write_24 rfl 1 rfl ?_
      refine go_iconst dX7_write_25 (v := (1 : Int32)) (by decide) ?_
      refine go_vcall (Z := Y_X7_found) (As := [.int (1 : Int32)]) (S := []) dX7_write_26 ok_X7_found l_X7_245 (by decide) sh_0 (by decide) (Nat.le_of_ble_eq_true rfl) rfl rfl rfl (Nat.le_of_ble_eq_true rfl) h (fun _ I7 _ hq => ?_)
      obtain ⟨rfl, r8, rfl, h⟩ := hq
      show Go G Y_X7_write 29 [(2, .ref (50 + 2 * nn a1)), (0, .ref 0), (1, .int a1)] [.int r8] SH I7 0 0 _
      exact go_iret dX7_write_29 rfl rfl (by decide) ⟨rfl, _, rfl, h⟩
  · have h := h.2 c3
    refine go_bipush dX7_write_7 (v := (-2 : Int32)) (by decide) ?_
    exact go_iret dX7_write_9 rfl rfl (by decide) ⟨rfl, _, rfl, h⟩
set_option maxRecDepth 100000 in
set_option maxHeartbeats 4000000 in
theorem v_X7_write_48 {G : CX} {q2 : Nat} {x3 : Int32} {x4 : Int32} (hq2 : isShe q2) {I : HP} {Q : HP → Int32 → Prop} (h : ((x3 ≤ x4) → (Q I x3)) ∧ ((¬ x3 ≤ x4) → (RA G Y_X5_turnAt [.ref 6, .int x4] I (fun I2 r3 => isTur r3 ∧ (RV G Y_X3_store [.ref q2, .int x4, .int (I2 r3 4)] I2 (fun I4 => GI G Y_X7_write 48 [(0, .ref 0), (2, .ref q2), (3, .int x3), (4, .int (x4 + 1))] I4 Q)))))) : GI G Y_X7_write 48 [(0, .ref 0), (2, .ref q2), (3, .int x3), (4, .int x4)] I Q := by
  show Go G Y_X7_write 48 [(0, .ref 0), (2, .ref q2), (3, .int x3), (4, .int x4)] [] SH I 0 0 _
  refine go_iload dX7_write_48 3 rfl ?_
  refine go_iload_n dX7_write_50 rfl 2 rfl ?_
  refine go_icmp_ge (tgt := 78) dX7_write_51 (by decide) (fun c1 => ?_) (fun c1 => ?_)
  · have h := h.1 c1
    refine go_iload_n dX7_write_78 rfl 2 rfl ?_
    exact go_iret dX7_write_79 rfl rfl (by decide) ⟨rfl, _, rfl, h⟩
  · have h := h.2 c1
    refine go_aload_n dX7_write_54 rfl 1 rfl ?_
    refine go_iload dX7_write_55 3 rfl ?_
    refine go_aload_n dX7_write_57 rfl 0 rfl ?_
    refine go_getR dX7_write_58 sh_0 (by decide) f_X7_28 ⟨Nat.le_of_ble_eq_true rfl, Nat.le_of_ble_eq_true rfl, rfl⟩ rfl ?_
    refine go_iload dX7_write_61 3 rfl ?_
    refine go_vcall (Z := Y_X5_turnAt) (As := [.int x4]) (S := [.int x4, .ref q2]) dX7_write_63 ok_X5_turnAt l_X7_110 (by decide) (tel_sh (Or.inl rfl)) (by decide) (Nat.le_of_ble_eq_true rfl) rfl rfl rfl (Nat.le_of_ble_eq_true rfl) h (fun _ I2 _ hq => ?_)
    obtain ⟨rfl, r3, rfl, h⟩ := hq
    have hr3 := h.1
    have h := h.2
    show Go G Y_X7_write 66 [(0, .ref 0), (2, .ref q2), (3, .int x3), (4, .int x4)] [.ref r3, .int x4, .ref q2] SH I2 0 0 _
    refine go_getI dX7_write_66 hr3 (SH_lt hr3) f_X7_129 ⟨Nat.le_of_ble_eq_true rfl, Nat.le_of_ble_eq_true rfl, rfl⟩ ?_
    refine go_vcall (Z := Y_X3_store) (As := [.int x4, .int (I2 r3 4)]) (S := []) dX7_write_69 ok_X3_store l_X7_262 (by decide) (she_sh hq2) (SH_lt (she_sh hq2)) (Nat.le_of_ble_eq_true rfl) rfl rfl rfl (Nat.le_of_ble_eq_true rfl) h (fun _ I4 _ hq => ?_)
    obtain ⟨rfl, rfl, h⟩ := hq
    show Go G Y_X7_write 72 [(0, .ref 0), (2, .ref q2), (3, .int x3), (4, .int x4)] [] SH I4 0 0 _
    refine go_iinc dX7_write_72 3 rfl (v := (x4 + 1)) rfl (Nat.le_of_ble_eq_true rfl) (L2 := [(4, .int (x4 + 1)), (0, .ref 0), (2, .ref q2), (3, .int x3)]) rfl ?_
    refine go_goto (tgt := 48) dX7_write_75 (by decide) ?_
    exact go_loc [(0, .ref 0), (2, .ref q2), (3, .int x3), (4, .int (x4 + 1))] [1, 2, 3, 0] rfl h
set_option maxRecDepth 100000 in
set_option maxHeartbeats 4000000 in
theorem v_X7_count {G : CX} {a1 : Int32}  {I : HP} {Q : HP → Int32 → Prop} (h : ((a1 = (0 : Int32)) → (Q I (I 2 3))) ∧ ((a1 = (1 : Int32)) → (Q I (I 4 3))) ∧ ((a1 = (2 : Int32)) → (Q I (I 2 1))) ∧ ((a1 = (3 : Int32)) → (Q I (I 4 1))) ∧ ((a1 = (4 : Int32)) → (Q I (I 46 2))) ∧ ((a1 = (5 : Int32)) → (RA G Y_X5_last [.ref 6] I (fun I2 r3 => isTur r3 ∧ (Q I2 (I2 r3 9))))) ∧ ((a1 = (6 : Int32)) → (Q I (I 1 0))) ∧ ((a1 = (7 : Int32)) → (RI G Y_J6_bitCount_0f7a4 [.int ((I 1 5) &&& (((1 : Int32) <<< ((I 2 3) &&& 31)) - (1 : Int32)))] I (fun I4 r5 => Q I4 r5))) ∧ ((a1 = (8 : Int32)) → (Q I (I 0 11))) ∧ ((∀ j : Nat, j < 9 → a1 ≠ nI j) → (Q I (-2 : Int32)))) : RI G Y_X7_count [.ref 0, .int a1] I Q := by
  refine ret_of (show plainName RX7 = true by decide) (Nat.le_of_ble_eq_true rfl) ?_
  show Go G Y_X7_count 0 [(0, .ref 0), (1, .int a1)] [] SH I 0 0 _
  refine go_iload_n dX7_count_0 rfl 1 rfl ?_
  by_cases c1 : a1 = (0 : Int32)
  · have h := h.1 c1
    refine go_tIn (tgt := 52) dX7_count_1 (by rw [c1]; decide) (by rw [c1]; decide) (by rw [c1] <;> rfl) (by decide) ?_
    refine go_aload_n dX7_count_52 rfl 0 rfl ?_
    refine go_getR dX7_count_53 sh_0 (by decide) f_X7_18 ⟨Nat.le_of_ble_eq_true rfl, Nat.le_of_ble_eq_true rfl, rfl⟩ rfl ?_
    refine go_getI dX7_count_56 (scr_sh (Or.inl rfl)) (by decide) f_X7_92 ⟨Nat.le_of_ble_eq_true rfl, Nat.le_of_ble_eq_true rfl, rfl⟩ ?_
    exact go_iret dX7_count_59 rfl rfl (by decide) ⟨rfl, _, rfl, h⟩
  have h := h.2
  have c1_0 : a1 ≠ nI 0 := c1
  clear c1
  by_cases c1 : a1 = (1 : Int32)
  · have h := h.1 c1
    refine go_tIn (tgt := 60) dX7_count_1 (by rw [c1]; decide) (by rw [c1]; decide) (by rw [c1] <;> rfl) (by decide) ?_
    refine go_aload_n dX7_count_60 rfl 0 rfl ?_
    refine go_getR dX7_count_61 sh_0 (by decide) f_X7_22 ⟨Nat.le_of_ble_eq_true rfl, Nat.le_of_ble_eq_true rfl, rfl⟩ rfl ?_
    refine go_getI dX7_count_64 (scr_sh (Or.inr rfl)) (by decide) f_X7_92 ⟨Nat.le_of_ble_eq_true rfl, Nat.le_of_ble_eq_true rfl, rfl⟩ ?_
    exact go_iret dX7_count_67 rfl rfl (by decide) ⟨rfl, _, rfl, h⟩
  have h := h.2
  have c1_1 : a1 ≠ nI 1 := c1
  clear c1
  by_cases c1 : a1 = (2 : Int32)
  · have h := h.1 c1
    refine go_tIn (tgt := 68) dX7_count_1 (by rw [c1]; decide) (by rw [c1]; decide) (by rw [c1] <;> rfl) (by decide) ?_
    refine go_aload_n dX7_count_68 rfl 0 rfl ?_
    refine go_getR dX7_count_69 sh_0 (by decide) f_X7_18 ⟨Nat.le_of_ble_eq_true rfl, Nat.le_of_ble_eq_true rfl, rfl⟩ rfl ?_
    refine go_getI dX7_count_72 (scr_sh (Or.inl rfl)) (by decide) f_X7_85 ⟨Nat.le_of_ble_eq_true rfl, Nat.le_of_ble_eq_true rfl, rfl⟩ ?_
    exact go_iret dX7_count_75 rfl rfl (by decide) ⟨rfl, _, rfl, h⟩
  have h := h.2
  have c1_2 : a1 ≠ nI 2 := c1
  clear c1
  by_cases c1 : a1 = (3 : Int32)
  · have h := h.1 c1
    refine go_tIn (tgt := 76) dX7_count_1 (by rw [c1]; decide) (by rw [c1]; decide) (by rw [c1] <;> rfl) (by decide) ?_
    refine go_aload_n dX7_count_76 rfl 0 rfl ?_
    refine go_getR dX7_count_77 sh_0 (by decide) f_X7_22 ⟨Nat.le_of_ble_eq_true rfl, Nat.le_of_ble_eq_true rfl, rfl⟩ rfl ?_
    refine go_getI dX7_count_80 (scr_sh (Or.inr rfl)) (by decide) f_X7_85 ⟨Nat.le_of_ble_eq_true rfl, Nat.le_of_ble_eq_true rfl, rfl⟩ ?_
    exact go_iret dX7_count_83 rfl rfl (by decide) ⟨rfl, _, rfl, h⟩
  have h := h.2
  have c1_3 : a1 ≠ nI 3 := c1
  clear c1
  by_cases c1 : a1 = (4 : Int32)
  · have h := h.1 c1
    refine go_tIn (tgt := 84) dX7_count_1 (by rw [c1]; decide) (by rw [c1]; decide) (by rw [c1] <;> rfl) (by decide) ?_
    refine go_aload_n dX7_count_84 rfl 0 rfl ?_
    refine go_getR dX7_count_85 sh_0 (by decide) f_X7_56 ⟨Nat.le_of_ble_eq_true rfl, Nat.le_of_ble_eq_true rfl, rfl⟩ rfl ?_
    refine go_getI dX7_count_88 sh_46 (by decide) f_X7_234 ⟨Nat.le_of_ble_eq_true rfl, Nat.le_of_ble_eq_true rfl, rfl⟩ ?_
    exact go_iret dX7_count_91 rfl rfl (by decide) ⟨rfl, _, rfl, h⟩
  have h := h.2
  have c1_4 : a1 ≠ nI 4 := c1
  clear c1
  by_cases c1 : a1 = (5 : Int32)
  · have h := h.1 c1
    refine go_tIn (tgt := 92) dX7_count_1 (by rw [c1]; decide) (by rw [c1]; decide) (by rw [c1] <;> rfl) (by decide) ?_
    refine go_aload_n dX7_count_92 rfl 0 rfl ?_
    refine go_getR dX7_count_93 sh_0 (by decide) f_X7_28 ⟨Nat.le_of_ble_eq_true rfl, Nat.le_of_ble_eq_true rfl, rfl⟩ rfl ?_
    refine go_vcall (Z := Y_X5_last) (As := []) (S := []) dX7_count_96 ok_X5_last l_X7_151 (by decide) (tel_sh (Or.inl rfl)) (by decide) (Nat.le_of_ble_eq_true rfl) rfl rfl rfl (Nat.le_of_ble_eq_true rfl) h (fun _ I2 _ hq => ?_)
    obtain ⟨rfl, r3, rfl, h⟩ := hq
    have hr3 := h.1
    have h := h.2
    show Go G Y_X7_count 99 [(0, .ref 0), (1, .int a1)] [.ref r3] SH I2 0 0 _
    refine go_getI dX7_count_99 hr3 (SH_lt hr3) f_X7_289 ⟨Nat.le_of_ble_eq_true rfl, Nat.le_of_ble_eq_true rfl, rfl⟩ ?_
    exact go_iret dX7_count_102 rfl rfl (by decide) ⟨rfl, _, rfl, h⟩
  have h := h.2
  have c1_5 : a1 ≠ nI 5 := c1
  clear c1
  by_cases c1 : a1 = (6 : Int32)
  · have h := h.1 c1
    refine go_tIn (tgt := 103) dX7_count_1 (by rw [c1]; decide) (by rw [c1]; decide) (by rw [c1] <;> rfl) (by decide) ?_
    refine go_aload_n dX7_count_103 rfl 0 rfl ?_
    refine go_getR dX7_count_104 sh_0 (by decide) f_X7_7 ⟨Nat.le_of_ble_eq_true rfl, Nat.le_of_ble_eq_true rfl, rfl⟩ rfl ?_
    refine go_iconst dX7_count_107 (v := (0 : Int32)) (by decide) ?_
    refine go_iald dX7_count_108 sh_1 (by decide) (by unfold vp_in; decide) (j := 0) (by decide) ?_
    exact go_iret dX7_count_109 rfl rfl (by decide) ⟨rfl, _, rfl, h⟩
  have h := h.2
  have c1_6 : a1 ≠ nI 6 := c1
  clear c1
  by_cases c1 : a1 = (7 : Int32)
  · have h := h.1 c1
    refine go_tIn (tgt := 110) dX7_count_1 (by rw [c1]; decide) (by rw [c1]; decide) (by rw [c1] <;> rfl) (by decide) ?_
    refine go_aload_n dX7_count_110 rfl 0 rfl ?_
    refine go_getR dX7_count_111 sh_0 (by decide) f_X7_7 ⟨Nat.le_of_ble_eq_true rfl, Nat.le_of_ble_eq_true rfl, rfl⟩ rfl ?_
    refine go_iconst dX7_count_114 (v := (5 : Int32)) (by decide) ?_
    refine go_iald dX7_count_115 sh_1 (by decide) (by unfold vp_in; decide) (j := 5) (by decide) ?_
    refine go_iconst dX7_count_116 (v := (1 : Int32)) (by decide) ?_
    refine go_aload_n dX7_count_117 rfl 0 rfl ?_
    refine go_getR dX7_count_118 sh_0 (by decide) f_X7_18 ⟨Nat.le_of_ble_eq_true rfl, Nat.le_of_ble_eq_true rfl, rfl⟩ rfl ?_
    refine go_getI dX7_count_121 (scr_sh (Or.inl rfl)) (by decide) f_X7_92 ⟨Nat.le_of_ble_eq_true rfl, Nat.le_of_ble_eq_true rfl, rfl⟩ ?_
    refine go_ishl dX7_count_124 ?_
    refine go_iconst dX7_count_125 (v := (1 : Int32)) (by decide) ?_
    refine go_isub dX7_count_126 ?_
    refine go_iand dX7_count_127 ?_
    refine go_scall (Z := Y_J6_bitCount_0f7a4) (As := [.int ((I 1 5) &&& (((1 : Int32) <<< ((I 2 3) &&& 31)) - (1 : Int32)))]) (S := []) dX7_count_128 ok_J6_bitCount_0f7a4 l_X7_292 (by decide) rfl rfl (Nat.le_of_ble_eq_true rfl) h (fun _ I4 _ hq => ?_)
    obtain ⟨rfl, r5, rfl, h⟩ := hq
    show Go G Y_X7_count 131 [(0, .ref 0), (1, .int a1)] [.int r5] SH I4 0 0 _
    exact go_iret dX7_count_131 rfl rfl (by decide) ⟨rfl, _, rfl, h⟩
  have h := h.2
  have c1_7 : a1 ≠ nI 7 := c1
  clear c1
  by_cases c1 : a1 = (8 : Int32)
  · have h := h.1 c1
    refine go_tIn (tgt := 132) dX7_count_1 (by rw [c1]; decide) (by rw [c1]; decide) (by rw [c1] <;> rfl) (by decide) ?_
    refine go_aload_n dX7_count_132 rfl 0 rfl ?_
    refine go_getI dX7_count_133 sh_0 (by decide) f_X7_266 ⟨Nat.le_of_ble_eq_true rfl, Nat.le_of_ble_eq_true rfl, rfl⟩ ?_
    exact go_iret dX7_count_136 rfl rfl (by decide) ⟨rfl, _, rfl, h⟩
  have h := h.2
  have c1_8 : a1 ≠ nI 8 := c1
  clear c1
  have hb6 : ∀ j : Nat, j < 9 → a1 ≠ nI j := by
    intro j hj
    rcases (show j = 0 ∨ j = 1 ∨ j = 2 ∨ j = 3 ∨ j = 4 ∨ j = 5 ∨ j = 6 ∨ j = 7 ∨ j = 8 by omega) with rfl | rfl | rfl | rfl | rfl | rfl | rfl | rfl | rfl
    · exact c1_0
    · exact c1_1
    · exact c1_2
    · exact c1_3
    · exact c1_4
    · exact c1_5
    · exact c1_6
    · exact c1_7
    · exact c1_8
  have h := h hb6
  refine go_tOut (tgt := 137) dX7_count_1 (sw_out (n := 9) (by decide) hb6) (by decide) ?_
  refine go_bipush dX7_count_137 (v := (-2 : Int32)) (by decide) ?_
  exact go_iret dX7_count_139 rfl rfl (by decide) ⟨rfl, _, rfl, h⟩
set_option maxRecDepth 100000 in
set_option maxHeartbeats 4000000 in
theorem v_X7_digest {G : CX}   {I : HP} {Q : HP → Int64 → Prop} (h : GJ G Y_X7_digest 6 [(0, .ref 0), (1, .long (17 : Int64)), (3, .int (0 : Int32))] I Q) : RJ G Y_X7_digest [.ref 0] I Q := by
  refine ret_of (show plainName RX7 = true by decide) (Nat.le_of_ble_eq_true rfl) ?_
  show Go G Y_X7_digest 0 [(0, .ref 0)] [] SH I 0 0 _
  refine go_ldc2 dX7_digest_0 k_X7_297 ?_
  refine go_lstore_n dX7_digest_3 rfl (Nat.le_of_ble_eq_true rfl) (L2 := [(1, .long (17 : Int64)), (0, .ref 0)]) rfl ?_
  refine go_iconst dX7_digest_4 (v := (0 : Int32)) (by decide) ?_
  refine go_istore_n dX7_digest_5 rfl (Nat.le_of_ble_eq_true rfl) (L2 := [(3, .int (0 : Int32)), (1, .long (17 : Int64)), (0, .ref 0)]) rfl ?_
  exact go_loc [(0, .ref 0), (1, .long (17 : Int64)), (3, .int (0 : Int32))] [2, 1, 0] rfl h
set_option maxRecDepth 100000 in
set_option maxHeartbeats 4000000 in
theorem v_X7_digest_6 {G : CX} {x1 : Int64} {x3 : Int32}  {I : HP} {Q : HP → Int64 → Prop} (h : (((7 : Int32) < x3) → (RI G Y_X7_fault [.ref 0, .int (0 : Int32)] I (fun I2 r3 => RI G Y_X7_fault [.ref 0, .int (1 : Int32)] I2 (fun I4 r5 => ∀ z6 : Int64, z6 = (((31 : Int64) * (((31 : Int64) * x1) + (r3.toInt64))) + (r5.toInt64)) → GJ G Y_X7_digest 59 [(0, .ref 0), (1, .long z6), (3, .int (0 : Int32))] I4 Q)))) ∧ ((¬ (7 : Int32) < x3) → (RI G Y_X7_count [.ref 0, .int x3] I (fun I7 r8 => GJ G Y_X7_digest 6 [(0, .ref 0), (1, .long (((31 : Int64) * x1) + (r8.toInt64))), (3, .int (x3 + 1))] I7 Q)))) : GJ G Y_X7_digest 6 [(0, .ref 0), (1, .long x1), (3, .int x3)] I Q := by
  show Go G Y_X7_digest 6 [(0, .ref 0), (1, .long x1), (3, .int x3)] [] SH I 0 0 _
  refine go_iload_n dX7_digest_6 rfl 2 rfl ?_
  refine go_bipush dX7_digest_7 (v := (7 : Int32)) (by decide) ?_
  refine go_icmp_gt (tgt := 31) dX7_digest_9 (by decide) (fun c1 => ?_) (fun c1 => ?_)
  · have h := h.1 c1
    refine go_ldc2 dX7_digest_31 k_X7_299 ?_
    refine go_lload_n dX7_digest_34 rfl 1 rfl ?_
    refine go_lmul dX7_digest_35 ?_
    refine go_aload_n dX7_digest_36 rfl 0 rfl ?_
    refine go_iconst dX7_digest_37 (v := (0 : Int32)) (by decide) ?_
    refine go_vcall (Z := Y_X7_fault) (As := [.int (0 : Int32)]) (S := [.long ((31 : Int64) * x1)]) dX7_digest_38 ok_X7_fault l_X7_304 (by decide) sh_0 (by decide) (Nat.le_of_ble_eq_true rfl) rfl rfl rfl (Nat.le_of_ble_eq_true rfl) h (fun _ I2 _ hq => ?_)
    obtain ⟨rfl, r3, rfl, h⟩ := hq
    show Go G Y_X7_digest 41 [(0, .ref 0), (1, .long x1), (3, .int x3)] [.int r3, .long ((31 : Int64) * x1)] SH I2 0 0 _
    refine go_i2l dX7_digest_41 ?_
    refine go_ladd dX7_digest_42 ?_
    refine go_lstore_n dX7_digest_43 rfl (Nat.le_of_ble_eq_true rfl) (L2 := [(1, .long (((31 : Int64) * x1) + (r3.toInt64))), (0, .ref 0), (3, .int x3)]) rfl ?_
    refine go_ldc2 dX7_digest_44 k_X7_299 ?_
    refine go_lload_n dX7_digest_47 rfl 0 rfl ?_
    refine go_lmul dX7_digest_48 ?_
    refine go_aload_n dX7_digest_49 rfl 1 rfl ?_
    refine go_iconst dX7_digest_50 (v := (1 : Int32)) (by decide) ?_
    refine go_vcall (Z := Y_X7_fault) (As := [.int (1 : Int32)]) (S := [.long ((31 : Int64) * (((31 : Int64) * x1) + (r3.toInt64)))]) dX7_digest_51 ok_X7_fault l_X7_304 (by decide) sh_0 (by decide) (Nat.le_of_ble_eq_true rfl) rfl rfl rfl (Nat.le_of_ble_eq_true rfl) h (fun _ I4 _ hq => ?_)
    obtain ⟨rfl, r5, rfl, h⟩ := hq
    show Go G Y_X7_digest 54 [(1, .long (((31 : Int64) * x1) + (r3.toInt64))), (0, .ref 0), (3, .int x3)] [.int r5, .long ((31 : Int64) * (((31 : Int64) * x1) + (r3.toInt64)))] SH I4 0 0 _
    refine go_i2l dX7_digest_54 ?_
    refine go_ladd dX7_digest_55 ?_
    refine go_topl (fun z6 ez6 => ?_)
    have h := h z6 ez6
    refine go_lstore_n dX7_digest_56 rfl (Nat.le_of_ble_eq_true rfl) (L2 := [(1, .long z6), (0, .ref 0), (3, .int x3)]) rfl ?_
    refine go_iconst dX7_digest_57 (v := (0 : Int32)) (by decide) ?_
    refine go_istore_n dX7_digest_58 rfl (Nat.le_of_ble_eq_true rfl) (L2 := [(3, .int (0 : Int32)), (1, .long z6), (0, .ref 0)]) rfl ?_
    exact go_loc [(0, .ref 0), (1, .long z6), (3, .int (0 : Int32))] [2, 1, 0] rfl h
  · have h := h.2 c1
    refine go_ldc2 dX7_digest_12 k_X7_299 ?_
    refine go_lload_n dX7_digest_15 rfl 1 rfl ?_
    refine go_lmul dX7_digest_16 ?_
    refine go_aload_n dX7_digest_17 rfl 0 rfl ?_
    refine go_iload_n dX7_digest_18 rfl 2 rfl ?_
    refine go_vcall (Z := Y_X7_count) (As := [.int x3]) (S := [.long ((31 : Int64) * x1)]) dX7_digest_19 ok_X7_count l_X7_301 (by decide) sh_0 (by decide) (Nat.le_of_ble_eq_true rfl) rfl rfl rfl (Nat.le_of_ble_eq_true rfl) h (fun _ I7 _ hq => ?_)
    obtain ⟨rfl, r8, rfl, h⟩ := hq
    show Go G Y_X7_digest 22 [(0, .ref 0), (1, .long x1), (3, .int x3)] [.int r8, .long ((31 : Int64) * x1)] SH I7 0 0 _
    refine go_i2l dX7_digest_22 ?_
    refine go_ladd dX7_digest_23 ?_
    refine go_lstore_n dX7_digest_24 rfl (Nat.le_of_ble_eq_true rfl) (L2 := [(1, .long (((31 : Int64) * x1) + (r8.toInt64))), (0, .ref 0), (3, .int x3)]) rfl ?_
    refine go_iinc dX7_digest_25 2 rfl (v := (x3 + 1)) rfl (Nat.le_of_ble_eq_true rfl) (L2 := [(3, .int (x3 + 1)), (1, .long (((31 : Int64) * x1) + (r8.toInt64))), (0, .ref 0)]) rfl ?_
    refine go_goto (tgt := 6) dX7_digest_28 (by decide) ?_
    exact go_loc [(0, .ref 0), (1, .long (((31 : Int64) * x1) + (r8.toInt64))), (3, .int (x3 + 1))] [2, 1, 0] rfl h
set_option maxRecDepth 100000 in
set_option maxHeartbeats 4000000 in
theorem v_X7_digest_59 {G : CX} {x1 : Int64} {x3 : Int32}  {I : HP} {Q : HP → Int64 → Prop} (h : (((I 2 3) ≤ x3) → (RJ G Y_X7_digestOfBreaths [.ref 0, .long x1] I (fun I2 r3 => GJ G Y_X7_digest 91 [(0, .ref 0), (1, .long r3), (3, .int (0 : Int32))] I2 Q))) ∧ ((¬ (I 2 3) ≤ x3) → (RJ G Y_X7_digestOfVerse [.ref 0, .long x1, .int x3] I (fun I4 r5 => GJ G Y_X7_digest 59 [(0, .ref 0), (1, .long r5), (3, .int (x3 + 1))] I4 Q)))) : GJ G Y_X7_digest 59 [(0, .ref 0), (1, .long x1), (3, .int x3)] I Q := by
  show Go G Y_X7_digest 59 [(0, .ref 0), (1, .long x1), (3, .int x3)] [] SH I 0 0 _
  refine go_iload_n dX7_digest_59 rfl 2 rfl ?_
  refine go_aload_n dX7_digest_60 rfl 0 rfl ?_
  refine go_getR dX7_digest_61 sh_0 (by decide) f_X7_18 ⟨Nat.le_of_ble_eq_true rfl, Nat.le_of_ble_eq_true rfl, rfl⟩ rfl ?_
  refine go_getI dX7_digest_64 (scr_sh (Or.inl rfl)) (by decide) f_X7_92 ⟨Nat.le_of_ble_eq_true rfl, Nat.le_of_ble_eq_true rfl, rfl⟩ ?_
  refine go_icmp_ge (tgt := 83) dX7_digest_67 (by decide) (fun c1 => ?_) (fun c1 => ?_)
  · have h := h.1 c1
    refine go_aload_n dX7_digest_83 rfl 0 rfl ?_
    refine go_lload_n dX7_digest_84 rfl 1 rfl ?_
    refine go_vcall (Z := Y_X7_digestOfBreaths) (As := [.long x1]) (S := []) dX7_digest_85 ok_X7_digestOfBreaths l_X7_311 (by decide) sh_0 (by decide) (Nat.le_of_ble_eq_true rfl) rfl rfl rfl (Nat.le_of_ble_eq_true rfl) h (fun _ I2 _ hq => ?_)
    obtain ⟨rfl, r3, rfl, h⟩ := hq
    show Go G Y_X7_digest 88 [(0, .ref 0), (1, .long x1), (3, .int x3)] [.long r3] SH I2 0 0 _
    refine go_lstore_n dX7_digest_88 rfl (Nat.le_of_ble_eq_true rfl) (L2 := [(1, .long r3), (0, .ref 0), (3, .int x3)]) rfl ?_
    refine go_iconst dX7_digest_89 (v := (0 : Int32)) (by decide) ?_
    refine go_istore_n dX7_digest_90 rfl (Nat.le_of_ble_eq_true rfl) (L2 := [(3, .int (0 : Int32)), (1, .long r3), (0, .ref 0)]) rfl ?_
    exact go_loc [(0, .ref 0), (1, .long r3), (3, .int (0 : Int32))] [2, 1, 0] rfl h
  · have h := h.2 c1
    refine go_aload_n dX7_digest_70 rfl 0 rfl ?_
    refine go_lload_n dX7_digest_71 rfl 1 rfl ?_
    refine go_iload_n dX7_digest_72 rfl 2 rfl ?_
    refine go_vcall (Z := Y_X7_digestOfVerse) (As := [.long x1, .int x3]) (S := []) dX7_digest_73 ok_X7_digestOfVerse l_X7_307 (by decide) sh_0 (by decide) (Nat.le_of_ble_eq_true rfl) rfl rfl rfl (Nat.le_of_ble_eq_true rfl) h (fun _ I4 _ hq => ?_)
    obtain ⟨rfl, r5, rfl, h⟩ := hq
    show Go G Y_X7_digest 76 [(0, .ref 0), (1, .long x1), (3, .int x3)] [.long r5] SH I4 0 0 _
    refine go_lstore_n dX7_digest_76 rfl (Nat.le_of_ble_eq_true rfl) (L2 := [(1, .long r5), (0, .ref 0), (3, .int x3)]) rfl ?_
    refine go_iinc dX7_digest_77 2 rfl (v := (x3 + 1)) rfl (Nat.le_of_ble_eq_true rfl) (L2 := [(3, .int (x3 + 1)), (1, .long r5), (0, .ref 0)]) rfl ?_
    refine go_goto (tgt := 59) dX7_digest_80 (by decide) ?_
    exact go_loc [(0, .ref 0), (1, .long r5), (3, .int (x3 + 1))] [2, 1, 0] rfl h
set_option maxRecDepth 100000 in
set_option maxHeartbeats 4000000 in
theorem v_X7_digest_91 {G : CX} {x1 : Int64} {x3 : Int32}  {I : HP} {Q : HP → Int64 → Prop} (h : (((5 : Int32) < x3) → (GJ G Y_X7_digest 118 [(0, .ref 0), (1, .long x1), (3, .int (-2 : Int32))] I Q)) ∧ ((¬ (5 : Int32) < x3) → (RI G Y_X7_put [.ref 0, .int x3] I (fun I2 r3 => GJ G Y_X7_digest 91 [(0, .ref 0), (1, .long (((31 : Int64) * x1) + (r3.toInt64))), (3, .int (x3 + 1))] I2 Q)))) : GJ G Y_X7_digest 91 [(0, .ref 0), (1, .long x1), (3, .int x3)] I Q := by
  show Go G Y_X7_digest 91 [(0, .ref 0), (1, .long x1), (3, .int x3)] [] SH I 0 0 _
  refine go_iload_n dX7_digest_91 rfl 2 rfl ?_
  refine go_iconst dX7_digest_92 (v := (5 : Int32)) (by decide) ?_
  refine go_icmp_gt (tgt := 115) dX7_digest_93 (by decide) (fun c1 => ?_) (fun c1 => ?_)
  · have h := h.1 c1
    refine go_bipush dX7_digest_115 (v := (-2 : Int32)) (by decide) ?_
    refine go_istore_n dX7_digest_117 rfl (Nat.le_of_ble_eq_true rfl) (L2 := [(3, .int (-2 : Int32)), (0, .ref 0), (1, .long x1)]) rfl ?_
    exact go_loc [(0, .ref 0), (1, .long x1), (3, .int (-2 : Int32))] [1, 2, 0] rfl h
  · have h := h.2 c1
    refine go_ldc2 dX7_digest_96 k_X7_299 ?_
    refine go_lload_n dX7_digest_99 rfl 1 rfl ?_
    refine go_lmul dX7_digest_100 ?_
    refine go_aload_n dX7_digest_101 rfl 0 rfl ?_
    refine go_iload_n dX7_digest_102 rfl 2 rfl ?_
    refine go_vcall (Z := Y_X7_put) (As := [.int x3]) (S := [.long ((31 : Int64) * x1)]) dX7_digest_103 ok_X7_put l_X7_315 (by decide) sh_0 (by decide) (Nat.le_of_ble_eq_true rfl) rfl rfl rfl (Nat.le_of_ble_eq_true rfl) h (fun _ I2 _ hq => ?_)
    obtain ⟨rfl, r3, rfl, h⟩ := hq
    show Go G Y_X7_digest 106 [(0, .ref 0), (1, .long x1), (3, .int x3)] [.int r3, .long ((31 : Int64) * x1)] SH I2 0 0 _
    refine go_i2l dX7_digest_106 ?_
    refine go_ladd dX7_digest_107 ?_
    refine go_lstore_n dX7_digest_108 rfl (Nat.le_of_ble_eq_true rfl) (L2 := [(1, .long (((31 : Int64) * x1) + (r3.toInt64))), (0, .ref 0), (3, .int x3)]) rfl ?_
    refine go_iinc dX7_digest_109 2 rfl (v := (x3 + 1)) rfl (Nat.le_of_ble_eq_true rfl) (L2 := [(3, .int (x3 + 1)), (1, .long (((31 : Int64) * x1) + (r3.toInt64))), (0, .ref 0)]) rfl ?_
    refine go_goto (tgt := 91) dX7_digest_112 (by decide) ?_
    exact go_loc [(0, .ref 0), (1, .long (((31 : Int64) * x1) + (r3.toInt64))), (3, .int (x3 + 1))] [2, 1, 0] rfl h
set_option maxRecDepth 100000 in
set_option maxHeartbeats 4000000 in
theorem v_X7_digest_118 {G : CX} {x1 : Int64} {x3 : Int32}  {I : HP} {Q : HP → Int64 → Prop} (h : (((2 : Int32) < x3) → (RI G Y_X7_lead [.ref 0] I (fun I2 r3 => GJ G Y_X7_digest 156 [(0, .ref 0), (1, .long (((31 : Int64) * x1) + (r3.toInt64))), (3, .int (0 : Int32))] I2 Q))) ∧ ((¬ (2 : Int32) < x3) → (RI G Y_X7_order [.ref 0, .int x3] I (fun I4 r5 => GJ G Y_X7_digest 118 [(0, .ref 0), (1, .long (((31 : Int64) * x1) + (r5.toInt64))), (3, .int (x3 + 1))] I4 Q)))) : GJ G Y_X7_digest 118 [(0, .ref 0), (1, .long x1), (3, .int x3)] I Q := by
  show Go G Y_X7_digest 118 [(0, .ref 0), (1, .long x1), (3, .int x3)] [] SH I 0 0 _
  refine go_iload_n dX7_digest_118 rfl 2 rfl ?_
  refine go_iconst dX7_digest_119 (v := (2 : Int32)) (by decide) ?_
  refine go_icmp_gt (tgt := 142) dX7_digest_120 (by decide) (fun c1 => ?_) (fun c1 => ?_)
  · have h := h.1 c1
    refine go_ldc2 dX7_digest_142 k_X7_299 ?_
    refine go_lload_n dX7_digest_145 rfl 1 rfl ?_
    refine go_lmul dX7_digest_146 ?_
    refine go_aload_n dX7_digest_147 rfl 0 rfl ?_
    refine go_vcall (Z := Y_X7_lead) (As := []) (S := [.long ((31 : Int64) * x1)]) dX7_digest_148 ok_X7_lead l_X7_321 (by decide) sh_0 (by decide) (Nat.le_of_ble_eq_true rfl) rfl rfl rfl (Nat.le_of_ble_eq_true rfl) h (fun _ I2 _ hq => ?_)
    obtain ⟨rfl, r3, rfl, h⟩ := hq
    show Go G Y_X7_digest 151 [(0, .ref 0), (1, .long x1), (3, .int x3)] [.int r3, .long ((31 : Int64) * x1)] SH I2 0 0 _
    refine go_i2l dX7_digest_151 ?_
    refine go_ladd dX7_digest_152 ?_
    refine go_lstore_n dX7_digest_153 rfl (Nat.le_of_ble_eq_true rfl) (L2 := [(1, .long (((31 : Int64) * x1) + (r3.toInt64))), (0, .ref 0), (3, .int x3)]) rfl ?_
    refine go_iconst dX7_digest_154 (v := (0 : Int32)) (by decide) ?_
    refine go_istore_n dX7_digest_155 rfl (Nat.le_of_ble_eq_true rfl) (L2 := [(3, .int (0 : Int32)), (1, .long (((31 : Int64) * x1) + (r3.toInt64))), (0, .ref 0)]) rfl ?_
    exact go_loc [(0, .ref 0), (1, .long (((31 : Int64) * x1) + (r3.toInt64))), (3, .int (0 : Int32))] [2, 1, 0] rfl h
  · have h := h.2 c1
    refine go_ldc2 dX7_digest_123 k_X7_299 ?_
    refine go_lload_n dX7_digest_126 rfl 1 rfl ?_
    refine go_lmul dX7_digest_127 ?_
    refine go_aload_n dX7_digest_128 rfl 0 rfl ?_
    refine go_iload_n dX7_digest_129 rfl 2 rfl ?_
    refine go_vcall (Z := Y_X7_order) (As := [.int x3]) (S := [.long ((31 : Int64) * x1)]) dX7_digest_130 ok_X7_order l_X7_318 (by decide) sh_0 (by decide) (Nat.le_of_ble_eq_true rfl) rfl rfl rfl (Nat.le_of_ble_eq_true rfl) h (fun _ I4 _ hq => ?_)
    obtain ⟨rfl, r5, rfl, h⟩ := hq
    show Go G Y_X7_digest 133 [(0, .ref 0), (1, .long x1), (3, .int x3)] [.int r5, .long ((31 : Int64) * x1)] SH I4 0 0 _
    refine go_i2l dX7_digest_133 ?_
    refine go_ladd dX7_digest_134 ?_
    refine go_lstore_n dX7_digest_135 rfl (Nat.le_of_ble_eq_true rfl) (L2 := [(1, .long (((31 : Int64) * x1) + (r5.toInt64))), (0, .ref 0), (3, .int x3)]) rfl ?_
    refine go_iinc dX7_digest_136 2 rfl (v := (x3 + 1)) rfl (Nat.le_of_ble_eq_true rfl) (L2 := [(3, .int (x3 + 1)), (1, .long (((31 : Int64) * x1) + (r5.toInt64))), (0, .ref 0)]) rfl ?_
    refine go_goto (tgt := 118) dX7_digest_139 (by decide) ?_
    exact go_loc [(0, .ref 0), (1, .long (((31 : Int64) * x1) + (r5.toInt64))), (3, .int (x3 + 1))] [2, 1, 0] rfl h
set_option maxRecDepth 100000 in
set_option maxHeartbeats 4000000 in
theorem v_X7_digest_156 {G : CX} {x1 : Int64} {x3 : Int32}  {I : HP} {Q : HP → Int64 → Prop} (h : (((3 : Int32) < x3) → (RI G Y_X7_drawn [.ref 0, .int (7 : Int32)] I (fun I2 r3 => RI G Y_X7_line [.ref 0, .int (-1 : Int32), .int (0 : Int32)] I2 (fun I4 r5 => ∀ z6 : Int64, z6 = (((31 : Int64) * (((31 : Int64) * x1) + (r3.toInt64))) + (r5.toInt64)) → RI G Y_X7_line [.ref 0, .int (-1 : Int32), .int (1 : Int32)] I4 (fun I7 r8 => RI G Y_X7_line [.ref 0, .int (5 : Int32), .int (0 : Int32)] I7 (fun I9 r10 => ∀ z11 : Int64, z11 = (((31 : Int64) * (((31 : Int64) * z6) + (r8.toInt64))) + (r10.toInt64)) → RI G Y_X7_line [.ref 0, .int (5 : Int32), .int (1 : Int32)] I9 (fun I12 r13 => RI G Y_X7_leads [.ref 0] I12 (fun I14 r15 => Q I14 (((31 : Int64) * (((31 : Int64) * z11) + (r13.toInt64))) + (r15.toInt64)))))))))) ∧ ((¬ (3 : Int32) < x3) → (RJ G Y_X7_odds [.ref 0, .int x3] I (fun I16 r17 => GJ G Y_X7_digest 156 [(0, .ref 0), (1, .long (((31 : Int64) * x1) + r17)), (3, .int (x3 + 1))] I16 Q)))) : GJ G Y_X7_digest 156 [(0, .ref 0), (1, .long x1), (3, .int x3)] I Q := by
  show Go G Y_X7_digest 156 [(0, .ref 0), (1, .long x1), (3, .int x3)] [] SH I 0 0 _
  refine go_iload_n dX7_digest_156 rfl 2 rfl ?_
  refine go_iconst dX7_digest_157 (v := (3 : Int32)) (by decide) ?_
  refine go_icmp_gt (tgt := 179) dX7_digest_158 (by decide) (fun c1 => ?_) (fun c1 => ?_)
  · have h := h.1 c1
    refine go_ldc2 dX7_digest_179 k_X7_299 ?_
    refine go_lload_n dX7_digest_182 rfl 1 rfl ?_
    refine go_lmul dX7_digest_183 ?_
    refine go_aload_n dX7_digest_184 rfl 0 rfl ?_
    refine go_bipush dX7_digest_185 (v := (7 : Int32)) (by decide) ?_
    refine go_vcall (Z := Y_X7_drawn) (As := [.int (7 : Int32)]) (S := [.long ((31 : Int64) * x1)]) dX7_digest_187 ok_X7_drawn l_X7_328 (by decide) sh_0 (by decide) (Nat.le_of_ble_eq_true rfl) rfl rfl rfl (Nat.le_of_ble_eq_true rfl) h (fun _ I2 _ hq => ?_)
    obtain ⟨rfl, r3, rfl, h⟩ := hq
    show Go G Y_X7_digest 190 [(0, .ref 0), (1, .long x1), (3, .int x3)] [.int r3, .long ((31 : Int64) * x1)] SH I2 0 0 _
    refine go_i2l dX7_digest_190 ?_
    refine go_ladd dX7_digest_191 ?_
    refine go_lstore_n dX7_digest_192 rfl (Nat.le_of_ble_eq_true rfl) (L2 := [(1, .long (((31 : Int64) * x1) + (r3.toInt64))), (0, .ref 0), (3, .int x3)]) rfl ?_
    refine go_ldc2 dX7_digest_193 k_X7_299 ?_
    refine go_lload_n dX7_digest_196 rfl 0 rfl ?_
    refine go_lmul dX7_digest_197 ?_
    refine go_aload_n dX7_digest_198 rfl 1 rfl ?_
    refine go_iconst dX7_digest_199 (v := (-1 : Int32)) (by decide) ?_
    refine go_iconst dX7_digest_200 (v := (0 : Int32)) (by decide) ?_
    refine go_vcall (Z := Y_X7_line) (As := [.int (-1 : Int32), .int (0 : Int32)]) (S := [.long ((31 : Int64) * (((31 : Int64) * x1) + (r3.toInt64)))]) dX7_digest_201 ok_X7_line l_X7_331 (by decide) sh_0 (by decide) (Nat.le_of_ble_eq_true rfl) rfl rfl rfl (Nat.le_of_ble_eq_true rfl) h (fun _ I4 _ hq => ?_)
    obtain ⟨rfl, r5, rfl, h⟩ := hq
    show Go G Y_X7_digest 204 [(1, .long (((31 : Int64) * x1) + (r3.toInt64))), (0, .ref 0), (3, .int x3)] [.int r5, .long ((31 : Int64) * (((31 : Int64) * x1) + (r3.toInt64)))] SH I4 0 0 _
    refine go_i2l dX7_digest_204 ?_
    refine go_ladd dX7_digest_205 ?_
    refine go_topl (fun z6 ez6 => ?_)
    have h := h z6 ez6
    refine go_lstore_n dX7_digest_206 rfl (Nat.le_of_ble_eq_true rfl) (L2 := [(1, .long z6), (0, .ref 0), (3, .int x3)]) rfl ?_
    refine go_ldc2 dX7_digest_207 k_X7_299 ?_
    refine go_lload_n dX7_digest_210 rfl 0 rfl ?_
    refine go_lmul dX7_digest_211 ?_
    refine go_aload_n dX7_digest_212 rfl 1 rfl ?_
    refine go_iconst dX7_digest_213 (v := (-1 : Int32)) (by decide) ?_
    refine go_iconst dX7_digest_214 (v := (1 : Int32)) (by decide) ?_
    refine go_vcall (Z := Y_X7_line) (As := [.int (-1 : Int32), .int (1 : Int32)]) (S := [.long ((31 : Int64) * z6)]) dX7_digest_215 ok_X7_line l_X7_331 (by decide) sh_0 (by decide) (Nat.le_of_ble_eq_true rfl) rfl rfl rfl (Nat.le_of_ble_eq_true rfl) h (fun _ I7 _ hq => ?_)
    obtain ⟨rfl, r8, rfl, h⟩ := hq
    show Go G Y_X7_digest 218 [(1, .long z6), (0, .ref 0), (3, .int x3)] [.int r8, .long ((31 : Int64) * z6)] SH I7 0 0 _
    refine go_i2l dX7_digest_218 ?_
    refine go_ladd dX7_digest_219 ?_
    refine go_lstore_n dX7_digest_220 rfl (Nat.le_of_ble_eq_true rfl) (L2 := [(1, .long (((31 : Int64) * z6) + (r8.toInt64))), (0, .ref 0), (3, .int x3)]) rfl ?_
    refine go_ldc2 dX7_digest_221 k_X7_299 ?_
    refine go_lload_n dX7_digest_224 rfl 0 rfl ?_
    refine go_lmul dX7_digest_225 ?_
    refine go_aload_n dX7_digest_226 rfl 1 rfl ?_
    refine go_iconst dX7_digest_227 (v := (5 : Int32)) (by decide) ?_
    refine go_iconst dX7_digest_228 (v := (0 : Int32)) (by decide) ?_
    refine go_vcall (Z := Y_X7_line) (As := [.int (5 : Int32), .int (0 : Int32)]) (S := [.long ((31 : Int64) * (((31 : Int64) * z6) + (r8.toInt64)))]) dX7_digest_229 ok_X7_line l_X7_331 (by decide) sh_0 (by decide) (Nat.le_of_ble_eq_true rfl) rfl rfl rfl (Nat.le_of_ble_eq_true rfl) h (fun _ I9 _ hq => ?_)
    obtain ⟨rfl, r10, rfl, h⟩ := hq
    show Go G Y_X7_digest 232 [(1, .long (((31 : Int64) * z6) + (r8.toInt64))), (0, .ref 0), (3, .int x3)] [.int r10, .long ((31 : Int64) * (((31 : Int64) * z6) + (r8.toInt64)))] SH I9 0 0 _
    refine go_i2l dX7_digest_232 ?_
    refine go_ladd dX7_digest_233 ?_
    refine go_topl (fun z11 ez11 => ?_)
    have h := h z11 ez11
    refine go_lstore_n dX7_digest_234 rfl (Nat.le_of_ble_eq_true rfl) (L2 := [(1, .long z11), (0, .ref 0), (3, .int x3)]) rfl ?_
    refine go_ldc2 dX7_digest_235 k_X7_299 ?_
    refine go_lload_n dX7_digest_238 rfl 0 rfl ?_
    refine go_lmul dX7_digest_239 ?_
    refine go_aload_n dX7_digest_240 rfl 1 rfl ?_
    refine go_iconst dX7_digest_241 (v := (5 : Int32)) (by decide) ?_
    refine go_iconst dX7_digest_242 (v := (1 : Int32)) (by decide) ?_
    refine go_vcall (Z := Y_X7_line) (As := [.int (5 : Int32), .int (1 : Int32)]) (S := [.long ((31 : Int64) * z11)]) dX7_digest_243 ok_X7_line l_X7_331 (by decide) sh_0 (by decide) (Nat.le_of_ble_eq_true rfl) rfl rfl rfl (Nat.le_of_ble_eq_true rfl) h (fun _ I12 _ hq => ?_)
    obtain ⟨rfl, r13, rfl, h⟩ := hq
    show Go G Y_X7_digest 246 [(1, .long z11), (0, .ref 0), (3, .int x3)] [.int r13, .long ((31 : Int64) * z11)] SH I12 0 0 _
    refine go_i2l dX7_digest_246 ?_
    refine go_ladd dX7_digest_247 ?_
    refine go_lstore_n dX7_digest_248 rfl (Nat.le_of_ble_eq_true rfl) (L2 := [(1, .long (((31 : Int64) * z11) + (r13.toInt64))), (0, .ref 0), (3, .int x3)]) rfl ?_
    refine go_ldc2 dX7_digest_249 k_X7_299 ?_
    refine go_lload_n dX7_digest_252 rfl 0 rfl ?_
    refine go_lmul dX7_digest_253 ?_
    refine go_aload_n dX7_digest_254 rfl 1 rfl ?_
    refine go_vcall (Z := Y_X7_leads) (As := []) (S := [.long ((31 : Int64) * (((31 : Int64) * z11) + (r13.toInt64)))]) dX7_digest_255 ok_X7_leads l_X7_334 (by decide) sh_0 (by decide) (Nat.le_of_ble_eq_true rfl) rfl rfl rfl (Nat.le_of_ble_eq_true rfl) h (fun _ I14 _ hq => ?_)
    obtain ⟨rfl, r15, rfl, h⟩ := hq
    show Go G Y_X7_digest 258 [(1, .long (((31 : Int64) * z11) + (r13.toInt64))), (0, .ref 0), (3, .int x3)] [.int r15, .long ((31 : Int64) * (((31 : Int64) * z11) + (r13.toInt64)))] SH I14 0 0 _
    refine go_i2l dX7_digest_258 ?_
    refine go_ladd dX7_digest_259 ?_
    exact go_lret dX7_digest_260 rfl rfl (by decide) ⟨rfl, _, rfl, h⟩
  · have h := h.2 c1
    refine go_ldc2 dX7_digest_161 k_X7_299 ?_
    refine go_lload_n dX7_digest_164 rfl 1 rfl ?_
    refine go_lmul dX7_digest_165 ?_
    refine go_aload_n dX7_digest_166 rfl 0 rfl ?_
    refine go_iload_n dX7_digest_167 rfl 2 rfl ?_
    refine go_vcall (Z := Y_X7_odds) (As := [.int x3]) (S := [.long ((31 : Int64) * x1)]) dX7_digest_168 ok_X7_odds l_X7_324 (by decide) sh_0 (by decide) (Nat.le_of_ble_eq_true rfl) rfl rfl rfl (Nat.le_of_ble_eq_true rfl) h (fun _ I16 _ hq => ?_)
    obtain ⟨rfl, r17, rfl, h⟩ := hq
    show Go G Y_X7_digest 171 [(0, .ref 0), (1, .long x1), (3, .int x3)] [.long r17, .long ((31 : Int64) * x1)] SH I16 0 0 _
    refine go_ladd dX7_digest_171 ?_
    refine go_lstore_n dX7_digest_172 rfl (Nat.le_of_ble_eq_true rfl) (L2 := [(1, .long (((31 : Int64) * x1) + r17)), (0, .ref 0), (3, .int x3)]) rfl ?_
    refine go_iinc dX7_digest_173 2 rfl (v := (x3 + 1)) rfl (Nat.le_of_ble_eq_true rfl) (L2 := [(3, .int (x3 + 1)), (1, .long (((31 : Int64) * x1) + r17)), (0, .ref 0)]) rfl ?_
    refine go_goto (tgt := 156) dX7_digest_176 (by decide) ?_
    exact go_loc [(0, .ref 0), (1, .long (((31 : Int64) * x1) + r17)), (3, .int (x3 + 1))] [2, 1, 0] rfl h
set_option maxRecDepth 100000 in
set_option maxHeartbeats 4000000 in
theorem v_X7_digestOfVerse {G : CX} {a1 : Int64} {a2 : Int32}  {I : HP} {Q : HP → Int64 → Prop} (h : GJ G Y_X7_digestOfVerse 6 [(0, .ref 0), (3, .int a2), (4, .long a1), (6, .int (0 : Int32))] I Q) : RJ G Y_X7_digestOfVerse [.ref 0, .long a1, .int a2] I Q := by
  refine ret_of (show plainName RX7 = true by decide) (Nat.le_of_ble_eq_true rfl) ?_
  show Go G Y_X7_digestOfVerse 0 [(0, .ref 0), (1, .long a1), (3, .int a2)] [] SH I 0 0 _
  refine go_lload_n dX7_digestOfVerse_0 rfl 1 rfl ?_
  refine go_lstore dX7_digestOfVerse_1 (Nat.le_of_ble_eq_true rfl) (L2 := [(4, .long a1), (0, .ref 0), (1, .long a1), (3, .int a2)]) rfl ?_
  refine go_iconst dX7_digestOfVerse_3 (v := (0 : Int32)) (by decide) ?_
  refine go_istore dX7_digestOfVerse_4 (Nat.le_of_ble_eq_true rfl) (L2 := [(6, .int (0 : Int32)), (4, .long a1), (0, .ref 0), (1, .long a1), (3, .int a2)]) rfl ?_
  exact go_loc [(0, .ref 0), (3, .int a2), (4, .long a1), (6, .int (0 : Int32))] [2, 4, 1, 0] rfl h
set_option maxRecDepth 100000 in
set_option maxHeartbeats 4000000 in
theorem v_X7_digestOfVerse_6 {G : CX} {x3 : Int32} {x4 : Int64} {x6 : Int32}  {I : HP} {Q : HP → Int64 → Prop} (h : (((5 : Int32) < x6) → (GJ G Y_X7_digestOfVerse 38 [(0, .ref 0), (3, .int x3), (4, .long x4), (6, .int (0 : Int32))] I Q)) ∧ ((¬ (5 : Int32) < x6) → (RI G Y_X7_verse [.ref 0, .int x3, .int x6] I (fun I2 r3 => GJ G Y_X7_digestOfVerse 6 [(0, .ref 0), (3, .int x3), (4, .long (((31 : Int64) * x4) + (r3.toInt64))), (6, .int (x6 + 1))] I2 Q)))) : GJ G Y_X7_digestOfVerse 6 [(0, .ref 0), (3, .int x3), (4, .long x4), (6, .int x6)] I Q := by
  show Go G Y_X7_digestOfVerse 6 [(0, .ref 0), (3, .int x3), (4, .long x4), (6, .int x6)] [] SH I 0 0 _
  refine go_iload dX7_digestOfVerse_6 3 rfl ?_
  refine go_iconst dX7_digestOfVerse_8 (v := (5 : Int32)) (by decide) ?_
  refine go_icmp_gt (tgt := 35) dX7_digestOfVerse_9 (by decide) (fun c1 => ?_) (fun c1 => ?_)
  · have h := h.1 c1
    refine go_iconst dX7_digestOfVerse_35 (v := (0 : Int32)) (by decide) ?_
    refine go_istore dX7_digestOfVerse_36 (Nat.le_of_ble_eq_true rfl) (L2 := [(6, .int (0 : Int32)), (0, .ref 0), (3, .int x3), (4, .long x4)]) rfl ?_
    exact go_loc [(0, .ref 0), (3, .int x3), (4, .long x4), (6, .int (0 : Int32))] [1, 2, 3, 0] rfl h
  · have h := h.2 c1
    refine go_ldc2 dX7_digestOfVerse_12 k_X7_299 ?_
    refine go_lload dX7_digestOfVerse_15 2 rfl ?_
    refine go_lmul dX7_digestOfVerse_17 ?_
    refine go_aload_n dX7_digestOfVerse_18 rfl 0 rfl ?_
    refine go_iload_n dX7_digestOfVerse_19 rfl 1 rfl ?_
    refine go_iload dX7_digestOfVerse_20 3 rfl ?_
    refine go_vcall (Z := Y_X7_verse) (As := [.int x3, .int x6]) (S := [.long ((31 : Int64) * x4)]) dX7_digestOfVerse_22 ok_X7_verse l_X7_337 (by decide) sh_0 (by decide) (Nat.le_of_ble_eq_true rfl) rfl rfl rfl (Nat.le_of_ble_eq_true rfl) h (fun _ I2 _ hq => ?_)
    obtain ⟨rfl, r3, rfl, h⟩ := hq
    show Go G Y_X7_digestOfVerse 25 [(0, .ref 0), (3, .int x3), (4, .long x4), (6, .int x6)] [.int r3, .long ((31 : Int64) * x4)] SH I2 0 0 _
    refine go_i2l dX7_digestOfVerse_25 ?_
    refine go_ladd dX7_digestOfVerse_26 ?_
    refine go_lstore dX7_digestOfVerse_27 (Nat.le_of_ble_eq_true rfl) (L2 := [(4, .long (((31 : Int64) * x4) + (r3.toInt64))), (0, .ref 0), (3, .int x3), (6, .int x6)]) rfl ?_
    refine go_iinc dX7_digestOfVerse_29 3 rfl (v := (x6 + 1)) rfl (Nat.le_of_ble_eq_true rfl) (L2 := [(6, .int (x6 + 1)), (4, .long (((31 : Int64) * x4) + (r3.toInt64))), (0, .ref 0), (3, .int x3)]) rfl ?_
    refine go_goto (tgt := 6) dX7_digestOfVerse_32 (by decide) ?_
    exact go_loc [(0, .ref 0), (3, .int x3), (4, .long (((31 : Int64) * x4) + (r3.toInt64))), (6, .int (x6 + 1))] [2, 3, 1, 0] rfl h
set_option maxRecDepth 100000 in
set_option maxHeartbeats 4000000 in
theorem v_X7_digestOfVerse_38 {G : CX} {x3 : Int32} {x4 : Int64} {x6 : Int32}  {I : HP} {Q : HP → Int64 → Prop} (h : (((4 : Int32) < x6) → (RI G Y_X7_rest [.ref 0, .int x3] I (fun I2 r3 => Q I2 (((31 : Int64) * x4) + (r3.toInt64))))) ∧ ((¬ (4 : Int32) < x6) → (RI G Y_X7_when [.ref 0, .int x3, .int x6] I (fun I4 r5 => GJ G Y_X7_digestOfVerse 38 [(0, .ref 0), (3, .int x3), (4, .long (((31 : Int64) * x4) + (r5.toInt64))), (6, .int (x6 + 1))] I4 Q)))) : GJ G Y_X7_digestOfVerse 38 [(0, .ref 0), (3, .int x3), (4, .long x4), (6, .int x6)] I Q := by
  show Go G Y_X7_digestOfVerse 38 [(0, .ref 0), (3, .int x3), (4, .long x4), (6, .int x6)] [] SH I 0 0 _
  refine go_iload dX7_digestOfVerse_38 3 rfl ?_
  refine go_iconst dX7_digestOfVerse_40 (v := (4 : Int32)) (by decide) ?_
  refine go_icmp_gt (tgt := 67) dX7_digestOfVerse_41 (by decide) (fun c1 => ?_) (fun c1 => ?_)
  · have h := h.1 c1
    refine go_ldc2 dX7_digestOfVerse_67 k_X7_299 ?_
    refine go_lload dX7_digestOfVerse_70 2 rfl ?_
    refine go_lmul dX7_digestOfVerse_72 ?_
    refine go_aload_n dX7_digestOfVerse_73 rfl 0 rfl ?_
    refine go_iload_n dX7_digestOfVerse_74 rfl 1 rfl ?_
    refine go_vcall (Z := Y_X7_rest) (As := [.int x3]) (S := [.long ((31 : Int64) * x4)]) dX7_digestOfVerse_75 ok_X7_rest l_X7_343 (by decide) sh_0 (by decide) (Nat.le_of_ble_eq_true rfl) rfl rfl rfl (Nat.le_of_ble_eq_true rfl) h (fun _ I2 _ hq => ?_)
    obtain ⟨rfl, r3, rfl, h⟩ := hq
    show Go G Y_X7_digestOfVerse 78 [(0, .ref 0), (3, .int x3), (4, .long x4), (6, .int x6)] [.int r3, .long ((31 : Int64) * x4)] SH I2 0 0 _
    refine go_i2l dX7_digestOfVerse_78 ?_
    refine go_ladd dX7_digestOfVerse_79 ?_
    exact go_lret dX7_digestOfVerse_80 rfl rfl (by decide) ⟨rfl, _, rfl, h⟩
  · have h := h.2 c1
    refine go_ldc2 dX7_digestOfVerse_44 k_X7_299 ?_
    refine go_lload dX7_digestOfVerse_47 2 rfl ?_
    refine go_lmul dX7_digestOfVerse_49 ?_
    refine go_aload_n dX7_digestOfVerse_50 rfl 0 rfl ?_
    refine go_iload_n dX7_digestOfVerse_51 rfl 1 rfl ?_
    refine go_iload dX7_digestOfVerse_52 3 rfl ?_
    refine go_vcall (Z := Y_X7_when) (As := [.int x3, .int x6]) (S := [.long ((31 : Int64) * x4)]) dX7_digestOfVerse_54 ok_X7_when l_X7_340 (by decide) sh_0 (by decide) (Nat.le_of_ble_eq_true rfl) rfl rfl rfl (Nat.le_of_ble_eq_true rfl) h (fun _ I4 _ hq => ?_)
    obtain ⟨rfl, r5, rfl, h⟩ := hq
    show Go G Y_X7_digestOfVerse 57 [(0, .ref 0), (3, .int x3), (4, .long x4), (6, .int x6)] [.int r5, .long ((31 : Int64) * x4)] SH I4 0 0 _
    refine go_i2l dX7_digestOfVerse_57 ?_
    refine go_ladd dX7_digestOfVerse_58 ?_
    refine go_lstore dX7_digestOfVerse_59 (Nat.le_of_ble_eq_true rfl) (L2 := [(4, .long (((31 : Int64) * x4) + (r5.toInt64))), (0, .ref 0), (3, .int x3), (6, .int x6)]) rfl ?_
    refine go_iinc dX7_digestOfVerse_61 3 rfl (v := (x6 + 1)) rfl (Nat.le_of_ble_eq_true rfl) (L2 := [(6, .int (x6 + 1)), (4, .long (((31 : Int64) * x4) + (r5.toInt64))), (0, .ref 0), (3, .int x3)]) rfl ?_
    refine go_goto (tgt := 38) dX7_digestOfVerse_64 (by decide) ?_
    exact go_loc [(0, .ref 0), (3, .int x3), (4, .long (((31 : Int64) * x4) + (r5.toInt64))), (6, .int (x6 + 1))] [2, 3, 1, 0] rfl h
set_option maxRecDepth 100000 in
set_option maxHeartbeats 4000000 in
theorem v_X7_digestOfBreaths {G : CX} {a1 : Int64}  {I : HP} {Q : HP → Int64 → Prop} (h : GJ G Y_X7_digestOfBreaths 5 [(0, .ref 0), (3, .long a1), (5, .int (0 : Int32))] I Q) : RJ G Y_X7_digestOfBreaths [.ref 0, .long a1] I Q := by
  refine ret_of (show plainName RX7 = true by decide) (Nat.le_of_ble_eq_true rfl) ?_
  show Go G Y_X7_digestOfBreaths 0 [(0, .ref 0), (1, .long a1)] [] SH I 0 0 _
  refine go_lload_n dX7_digestOfBreaths_0 rfl 1 rfl ?_
  refine go_lstore_n dX7_digestOfBreaths_1 rfl (Nat.le_of_ble_eq_true rfl) (L2 := [(3, .long a1), (0, .ref 0), (1, .long a1)]) rfl ?_
  refine go_iconst dX7_digestOfBreaths_2 (v := (0 : Int32)) (by decide) ?_
  refine go_istore dX7_digestOfBreaths_3 (Nat.le_of_ble_eq_true rfl) (L2 := [(5, .int (0 : Int32)), (3, .long a1), (0, .ref 0), (1, .long a1)]) rfl ?_
  exact go_loc [(0, .ref 0), (3, .long a1), (5, .int (0 : Int32))] [2, 1, 0] rfl h
set_option maxRecDepth 100000 in
set_option maxHeartbeats 4000000 in
theorem v_X7_digestOfBreaths_5 {G : CX} {x3 : Int64} {x5 : Int32}  {I : HP} {Q : HP → Int64 → Prop} (h : (((3 : Int32) < x5) → (RI G Y_X7_judged [.ref 0] I (fun I2 r3 => GJ G Y_X7_digestOfBreaths 46 [(0, .ref 0), (3, .long (((31 : Int64) * x3) + (r3.toInt64))), (5, .int (0 : Int32))] I2 Q))) ∧ ((¬ (3 : Int32) < x5) → (RI G Y_X7_poem [.ref 0, .int x5] I (fun I4 r5 => GJ G Y_X7_digestOfBreaths 5 [(0, .ref 0), (3, .long (((31 : Int64) * x3) + (r5.toInt64))), (5, .int (x5 + 1))] I4 Q)))) : GJ G Y_X7_digestOfBreaths 5 [(0, .ref 0), (3, .long x3), (5, .int x5)] I Q := by
  show Go G Y_X7_digestOfBreaths 5 [(0, .ref 0), (3, .long x3), (5, .int x5)] [] SH I 0 0 _
  refine go_iload dX7_digestOfBreaths_5 2 rfl ?_
  refine go_iconst dX7_digestOfBreaths_7 (v := (3 : Int32)) (by decide) ?_
  refine go_icmp_gt (tgt := 31) dX7_digestOfBreaths_8 (by decide) (fun c1 => ?_) (fun c1 => ?_)
  · have h := h.1 c1
    refine go_ldc2 dX7_digestOfBreaths_31 k_X7_299 ?_
    refine go_lload_n dX7_digestOfBreaths_34 rfl 1 rfl ?_
    refine go_lmul dX7_digestOfBreaths_35 ?_
    refine go_aload_n dX7_digestOfBreaths_36 rfl 0 rfl ?_
    refine go_vcall (Z := Y_X7_judged) (As := []) (S := [.long ((31 : Int64) * x3)]) dX7_digestOfBreaths_37 ok_X7_judged l_X7_349 (by decide) sh_0 (by decide) (Nat.le_of_ble_eq_true rfl) rfl rfl rfl (Nat.le_of_ble_eq_true rfl) h (fun _ I2 _ hq => ?_)
    obtain ⟨rfl, r3, rfl, h⟩ := hq
    show Go G Y_X7_digestOfBreaths 40 [(0, .ref 0), (3, .long x3), (5, .int x5)] [.int r3, .long ((31 : Int64) * x3)] SH I2 0 0 _
    refine go_i2l dX7_digestOfBreaths_40 ?_
    refine go_ladd dX7_digestOfBreaths_41 ?_
    refine go_lstore_n dX7_digestOfBreaths_42 rfl (Nat.le_of_ble_eq_true rfl) (L2 := [(3, .long (((31 : Int64) * x3) + (r3.toInt64))), (0, .ref 0), (5, .int x5)]) rfl ?_
    refine go_iconst dX7_digestOfBreaths_43 (v := (0 : Int32)) (by decide) ?_
    refine go_istore dX7_digestOfBreaths_44 (Nat.le_of_ble_eq_true rfl) (L2 := [(5, .int (0 : Int32)), (3, .long (((31 : Int64) * x3) + (r3.toInt64))), (0, .ref 0)]) rfl ?_
    exact go_loc [(0, .ref 0), (3, .long (((31 : Int64) * x3) + (r3.toInt64))), (5, .int (0 : Int32))] [2, 1, 0] rfl h
  · have h := h.2 c1
    refine go_ldc2 dX7_digestOfBreaths_11 k_X7_299 ?_
    refine go_lload_n dX7_digestOfBreaths_14 rfl 1 rfl ?_
    refine go_lmul dX7_digestOfBreaths_15 ?_
    refine go_aload_n dX7_digestOfBreaths_16 rfl 0 rfl ?_
    refine go_iload dX7_digestOfBreaths_17 2 rfl ?_
    refine go_vcall (Z := Y_X7_poem) (As := [.int x5]) (S := [.long ((31 : Int64) * x3)]) dX7_digestOfBreaths_19 ok_X7_poem l_X7_346 (by decide) sh_0 (by decide) (Nat.le_of_ble_eq_true rfl) rfl rfl rfl (Nat.le_of_ble_eq_true rfl) h (fun _ I4 _ hq => ?_)
    obtain ⟨rfl, r5, rfl, h⟩ := hq
    show Go G Y_X7_digestOfBreaths 22 [(0, .ref 0), (3, .long x3), (5, .int x5)] [.int r5, .long ((31 : Int64) * x3)] SH I4 0 0 _
    refine go_i2l dX7_digestOfBreaths_22 ?_
    refine go_ladd dX7_digestOfBreaths_23 ?_
    refine go_lstore_n dX7_digestOfBreaths_24 rfl (Nat.le_of_ble_eq_true rfl) (L2 := [(3, .long (((31 : Int64) * x3) + (r5.toInt64))), (0, .ref 0), (5, .int x5)]) rfl ?_
    refine go_iinc dX7_digestOfBreaths_25 2 rfl (v := (x5 + 1)) rfl (Nat.le_of_ble_eq_true rfl) (L2 := [(5, .int (x5 + 1)), (3, .long (((31 : Int64) * x3) + (r5.toInt64))), (0, .ref 0)]) rfl ?_
    refine go_goto (tgt := 5) dX7_digestOfBreaths_28 (by decide) ?_
    exact go_loc [(0, .ref 0), (3, .long (((31 : Int64) * x3) + (r5.toInt64))), (5, .int (x5 + 1))] [2, 1, 0] rfl h
set_option maxRecDepth 100000 in
set_option maxHeartbeats 4000000 in
theorem v_X7_digestOfBreaths_46 {G : CX} {x3 : Int64} {x5 : Int32}  {I : HP} {Q : HP → Int64 → Prop} (h : (((9 : Int32) < x5) → (Q I x3)) ∧ ((¬ (9 : Int32) < x5) → (GJ G Y_X7_digestOfBreaths 56 [(0, .ref 0), (3, .long x3), (5, .int x5), (6, .int (0 : Int32))] I Q))) : GJ G Y_X7_digestOfBreaths 46 [(0, .ref 0), (3, .long x3), (5, .int x5)] I Q := by
  show Go G Y_X7_digestOfBreaths 46 [(0, .ref 0), (3, .long x3), (5, .int x5)] [] SH I 0 0 _
  refine go_iload dX7_digestOfBreaths_46 2 rfl ?_
  refine go_bipush dX7_digestOfBreaths_48 (v := (9 : Int32)) (by decide) ?_
  refine go_icmp_gt (tgt := 90) dX7_digestOfBreaths_50 (by decide) (fun c1 => ?_) (fun c1 => ?_)
  · have h := h.1 c1
    refine go_lload_n dX7_digestOfBreaths_90 rfl 1 rfl ?_
    exact go_lret dX7_digestOfBreaths_91 rfl rfl (by decide) ⟨rfl, _, rfl, h⟩
  · have h := h.2 c1
    refine go_iconst dX7_digestOfBreaths_53 (v := (0 : Int32)) (by decide) ?_
    refine go_istore dX7_digestOfBreaths_54 (Nat.le_of_ble_eq_true rfl) (L2 := [(6, .int (0 : Int32)), (0, .ref 0), (3, .long x3), (5, .int x5)]) rfl ?_
    exact go_loc [(0, .ref 0), (3, .long x3), (5, .int x5), (6, .int (0 : Int32))] [1, 2, 3, 0] rfl h
set_option maxRecDepth 100000 in
set_option maxHeartbeats 4000000 in
theorem v_X7_digestOfBreaths_56 {G : CX} {x3 : Int64} {x5 : Int32} {x6 : Int32}  {I : HP} {Q : HP → Int64 → Prop} (h : (((2 : Int32) < x6) → (GJ G Y_X7_digestOfBreaths 46 [(0, .ref 0), (3, .long x3), (5, .int (x5 + 1))] I Q)) ∧ ((¬ (2 : Int32) < x6) → (RI G Y_X7_doing [.ref 0, .int x5, .int x6] I (fun I2 r3 => GJ G Y_X7_digestOfBreaths 56 [(0, .ref 0), (3, .long (((31 : Int64) * x3) + (r3.toInt64))), (5, .int x5), (6, .int (x6 + 1))] I2 Q)))) : GJ G Y_X7_digestOfBreaths 56 [(0, .ref 0), (3, .long x3), (5, .int x5), (6, .int x6)] I Q := by
  show Go G Y_X7_digestOfBreaths 56 [(0, .ref 0), (3, .long x3), (5, .int x5), (6, .int x6)] [] SH I 0 0 _
  refine go_iload dX7_digestOfBreaths_56 3 rfl ?_
  refine go_iconst dX7_digestOfBreaths_58 (v := (2 : Int32)) (by decide) ?_
  refine go_icmp_gt (tgt := 84) dX7_digestOfBreaths_59 (by decide) (fun c1 => ?_) (fun c1 => ?_)
  · have h := h.1 c1
    refine go_iinc dX7_digestOfBreaths_84 2 rfl (v := (x5 + 1)) rfl (Nat.le_of_ble_eq_true rfl) (L2 := [(5, .int (x5 + 1)), (0, .ref 0), (3, .long x3), (6, .int x6)]) rfl ?_
    refine go_goto (tgt := 46) dX7_digestOfBreaths_87 (by decide) ?_
    exact go_loc [(0, .ref 0), (3, .long x3), (5, .int (x5 + 1))] [1, 2, 0] rfl h
  · have h := h.2 c1
    refine go_ldc2 dX7_digestOfBreaths_62 k_X7_299 ?_
    refine go_lload_n dX7_digestOfBreaths_65 rfl 1 rfl ?_
    refine go_lmul dX7_digestOfBreaths_66 ?_
    refine go_aload_n dX7_digestOfBreaths_67 rfl 0 rfl ?_
    refine go_iload dX7_digestOfBreaths_68 2 rfl ?_
    refine go_iload dX7_digestOfBreaths_70 3 rfl ?_
    refine go_vcall (Z := Y_X7_doing) (As := [.int x5, .int x6]) (S := [.long ((31 : Int64) * x3)]) dX7_digestOfBreaths_72 ok_X7_doing l_X7_352 (by decide) sh_0 (by decide) (Nat.le_of_ble_eq_true rfl) rfl rfl rfl (Nat.le_of_ble_eq_true rfl) h (fun _ I2 _ hq => ?_)
    obtain ⟨rfl, r3, rfl, h⟩ := hq
    show Go G Y_X7_digestOfBreaths 75 [(0, .ref 0), (3, .long x3), (5, .int x5), (6, .int x6)] [.int r3, .long ((31 : Int64) * x3)] SH I2 0 0 _
    refine go_i2l dX7_digestOfBreaths_75 ?_
    refine go_ladd dX7_digestOfBreaths_76 ?_
    refine go_lstore_n dX7_digestOfBreaths_77 rfl (Nat.le_of_ble_eq_true rfl) (L2 := [(3, .long (((31 : Int64) * x3) + (r3.toInt64))), (0, .ref 0), (5, .int x5), (6, .int x6)]) rfl ?_
    refine go_iinc dX7_digestOfBreaths_78 3 rfl (v := (x6 + 1)) rfl (Nat.le_of_ble_eq_true rfl) (L2 := [(6, .int (x6 + 1)), (3, .long (((31 : Int64) * x3) + (r3.toInt64))), (0, .ref 0), (5, .int x5)]) rfl ?_
    refine go_goto (tgt := 56) dX7_digestOfBreaths_81 (by decide) ?_
    exact go_loc [(0, .ref 0), (3, .long (((31 : Int64) * x3) + (r3.toInt64))), (5, .int x5), (6, .int (x6 + 1))] [2, 1, 3, 0] rfl h
set_option maxRecDepth 100000 in
set_option maxHeartbeats 4000000 in
theorem v_X7_isText {G : CX} {a1 : Int32}  {I : HP} {Q : HP → Bool → Prop} (h : ((a1 = 0) → (Q I true)) ∧ ((¬ a1 = 0) → (((¬ a1 = (1 : Int32)) → (Q I false)) ∧ ((a1 = (1 : Int32)) → (Q I true))))) : RZ G Y_X7_isText [.int a1] I Q := by
  refine ret_of (show plainName RX7 = true by decide) (Nat.le_of_ble_eq_true rfl) ?_
  show Go G Y_X7_isText 0 [(0, .int a1)] [] SH I 0 0 _
  refine go_iload_n dX7_isText_0 rfl 0 rfl ?_
  refine go_if_eq (tgt := 9) dX7_isText_1 (by decide) (fun c1 => ?_) (fun c1 => ?_)
  · have h := h.1 c1
    refine go_iconst dX7_isText_9 (v := (1 : Int32)) (by decide) ?_
    refine go_goto (tgt := 14) dX7_isText_10 (by decide) ?_
    exact go_zret dX7_isText_14 rfl rfl rfl (by decide) ⟨rfl, true, rfl, h⟩
  · have h := h.2 c1
    refine go_iload_n dX7_isText_4 rfl 0 rfl ?_
    refine go_iconst dX7_isText_5 (v := (1 : Int32)) (by decide) ?_
    refine go_icmp_ne (tgt := 13) dX7_isText_6 (by decide) (fun c2 => ?_) (fun c2 => ?_)
    · have h := h.1 c2
      refine go_iconst dX7_isText_13 (v := (0 : Int32)) (by decide) ?_
      exact go_zret dX7_isText_14 rfl rfl rfl (by decide) ⟨rfl, false, rfl, h⟩
    · have h := h.2 c2
      refine go_iconst dX7_isText_9 (v := (1 : Int32)) (by decide) ?_
      refine go_goto (tgt := 14) dX7_isText_10 (by decide) ?_
      exact go_zret dX7_isText_14 rfl rfl rfl (by decide) ⟨rfl, true, rfl, h⟩
set_option maxRecDepth 100000 in
set_option maxHeartbeats 4000000 in
theorem v_X7_scriptOf {G : CX} {a1 : Int32}  {I : HP} {Q : HP → Nat → Prop} (h : ((¬ a1 = 0) → (Q I 4)) ∧ ((a1 = 0) → (Q I 2))) : RA G Y_X7_scriptOf [.ref 0, .int a1] I Q := by
  refine ret_of (show plainName RX7 = true by decide) (Nat.le_of_ble_eq_true rfl) ?_
  show Go G Y_X7_scriptOf 0 [(0, .ref 0), (1, .int a1)] [] SH I 0 0 _
  refine go_iload_n dX7_scriptOf_0 rfl 1 rfl ?_
  refine go_if_ne (tgt := 11) dX7_scriptOf_1 (by decide) (fun c1 => ?_) (fun c1 => ?_)
  · have h := h.1 c1
    refine go_aload_n dX7_scriptOf_11 rfl 0 rfl ?_
    refine go_getR dX7_scriptOf_12 sh_0 (by decide) f_X7_22 ⟨Nat.le_of_ble_eq_true rfl, Nat.le_of_ble_eq_true rfl, rfl⟩ rfl ?_
    exact go_aret dX7_scriptOf_15 rfl rfl (by decide) ⟨rfl, _, rfl, h⟩
  · have h := h.2 c1
    refine go_aload_n dX7_scriptOf_4 rfl 0 rfl ?_
    refine go_getR dX7_scriptOf_5 sh_0 (by decide) f_X7_18 ⟨Nat.le_of_ble_eq_true rfl, Nat.le_of_ble_eq_true rfl, rfl⟩ rfl ?_
    refine go_goto (tgt := 15) dX7_scriptOf_8 (by decide) ?_
    exact go_aret dX7_scriptOf_15 rfl rfl (by decide) ⟨rfl, _, rfl, h⟩
set_option maxRecDepth 100000 in
set_option maxHeartbeats 4000000 in
theorem v_X7_isVerse {G : CX} {a1 : Int32}  {I : HP} {Q : HP → Bool → Prop} (h : ((a1 < 0) → (Q I false)) ∧ ((¬ a1 < 0) → ((((I 2 3) ≤ a1) → (Q I false)) ∧ ((¬ (I 2 3) ≤ a1) → (Q I true))))) : RZ G Y_X7_isVerse [.ref 0, .int a1] I Q := by
  refine ret_of (show plainName RX7 = true by decide) (Nat.le_of_ble_eq_true rfl) ?_
  show Go G Y_X7_isVerse 0 [(0, .ref 0), (1, .int a1)] [] SH I 0 0 _
  refine go_iload_n dX7_isVerse_0 rfl 1 rfl ?_
  refine go_if_lt (tgt := 19) dX7_isVerse_1 (by decide) (fun c1 => ?_) (fun c1 => ?_)
  · have h := h.1 c1
    refine go_iconst dX7_isVerse_19 (v := (0 : Int32)) (by decide) ?_
    exact go_zret dX7_isVerse_20 rfl rfl rfl (by decide) ⟨rfl, false, rfl, h⟩
  · have h := h.2 c1
    refine go_iload_n dX7_isVerse_4 rfl 1 rfl ?_
    refine go_aload_n dX7_isVerse_5 rfl 0 rfl ?_
    refine go_getR dX7_isVerse_6 sh_0 (by decide) f_X7_18 ⟨Nat.le_of_ble_eq_true rfl, Nat.le_of_ble_eq_true rfl, rfl⟩ rfl ?_
    refine go_getI dX7_isVerse_9 (scr_sh (Or.inl rfl)) (by decide) f_X7_92 ⟨Nat.le_of_ble_eq_true rfl, Nat.le_of_ble_eq_true rfl, rfl⟩ ?_
    refine go_icmp_ge (tgt := 19) dX7_isVerse_12 (by decide) (fun c2 => ?_) (fun c2 => ?_)
    · have h := h.1 c2
      refine go_iconst dX7_isVerse_19 (v := (0 : Int32)) (by decide) ?_
      exact go_zret dX7_isVerse_20 rfl rfl rfl (by decide) ⟨rfl, false, rfl, h⟩
    · have h := h.2 c2
      refine go_iconst dX7_isVerse_15 (v := (1 : Int32)) (by decide) ?_
      refine go_goto (tgt := 20) dX7_isVerse_16 (by decide) ?_
      exact go_zret dX7_isVerse_20 rfl rfl rfl (by decide) ⟨rfl, true, rfl, h⟩
set_option maxRecDepth 100000 in
set_option maxHeartbeats 4000000 in
theorem v_X7_isSheet {G : CX} {a1 : Int32}  {I : HP} {Q : HP → Bool → Prop} (h : ((a1 < 0) → (Q I false)) ∧ ((¬ a1 < 0) → ((((4 : Int32) ≤ a1) → (Q I false)) ∧ ((¬ (4 : Int32) ≤ a1) → (Q I true))))) : RZ G Y_X7_isSheet [.int a1] I Q := by
  refine ret_of (show plainName RX7 = true by decide) (Nat.le_of_ble_eq_true rfl) ?_
  show Go G Y_X7_isSheet 0 [(0, .int a1)] [] SH I 0 0 _
  refine go_iload_n dX7_isSheet_0 rfl 0 rfl ?_
  refine go_if_lt (tgt := 13) dX7_isSheet_1 (by decide) (fun c1 => ?_) (fun c1 => ?_)
  · have h := h.1 c1
    refine go_iconst dX7_isSheet_13 (v := (0 : Int32)) (by decide) ?_
    exact go_zret dX7_isSheet_14 rfl rfl rfl (by decide) ⟨rfl, false, rfl, h⟩
  · have h := h.2 c1
    refine go_iload_n dX7_isSheet_4 rfl 0 rfl ?_
    refine go_iconst dX7_isSheet_5 (v := (4 : Int32)) (by decide) ?_
    refine go_icmp_ge (tgt := 13) dX7_isSheet_6 (by decide) (fun c2 => ?_) (fun c2 => ?_)
    · have h := h.1 c2
      refine go_iconst dX7_isSheet_13 (v := (0 : Int32)) (by decide) ?_
      exact go_zret dX7_isSheet_14 rfl rfl rfl (by decide) ⟨rfl, false, rfl, h⟩
    · have h := h.2 c2
      refine go_iconst dX7_isSheet_9 (v := (1 : Int32)) (by decide) ?_
      refine go_goto (tgt := 14) dX7_isSheet_10 (by decide) ?_
      exact go_zret dX7_isSheet_14 rfl rfl rfl (by decide) ⟨rfl, true, rfl, h⟩
set_option maxRecDepth 100000 in
set_option maxHeartbeats 4000000 in
theorem v_X7_isForm {G : CX} {a1 : Int32}  {I : HP} {Q : HP → Bool → Prop} (h : ((a1 < 0) → (Q I false)) ∧ ((¬ a1 < 0) → ((((3 : Int32) ≤ a1) → (Q I false)) ∧ ((¬ (3 : Int32) ≤ a1) → (Q I true))))) : RZ G Y_X7_isForm [.int a1] I Q := by
  refine ret_of (show plainName RX7 = true by decide) (Nat.le_of_ble_eq_true rfl) ?_
  show Go G Y_X7_isForm 0 [(0, .int a1)] [] SH I 0 0 _
  refine go_iload_n dX7_isForm_0 rfl 0 rfl ?_
  refine go_if_lt (tgt := 13) dX7_isForm_1 (by decide) (fun c1 => ?_) (fun c1 => ?_)
  · have h := h.1 c1
    refine go_iconst dX7_isForm_13 (v := (0 : Int32)) (by decide) ?_
    exact go_zret dX7_isForm_14 rfl rfl rfl (by decide) ⟨rfl, false, rfl, h⟩
  · have h := h.2 c1
    refine go_iload_n dX7_isForm_4 rfl 0 rfl ?_
    refine go_iconst dX7_isForm_5 (v := (3 : Int32)) (by decide) ?_
    refine go_icmp_ge (tgt := 13) dX7_isForm_6 (by decide) (fun c2 => ?_) (fun c2 => ?_)
    · have h := h.1 c2
      refine go_iconst dX7_isForm_13 (v := (0 : Int32)) (by decide) ?_
      exact go_zret dX7_isForm_14 rfl rfl rfl (by decide) ⟨rfl, false, rfl, h⟩
    · have h := h.2 c2
      refine go_iconst dX7_isForm_9 (v := (1 : Int32)) (by decide) ?_
      refine go_goto (tgt := 14) dX7_isForm_10 (by decide) ?_
      exact go_zret dX7_isForm_14 rfl rfl rfl (by decide) ⟨rfl, true, rfl, h⟩
set_option maxRecDepth 100000 in
set_option maxHeartbeats 4000000 in
theorem v_X7_tellAnew {G : CX}   {I : HP} {Q : HP → Prop} (h : RV G Y_X5_open [.ref 6, .ref 1] I (fun I1 => RV G Y_X5_addAll [.ref 6, .ref 2] I1 (fun I2 => Q (st (st I2 0 9 (0 : Int32)) 0 10 (0 : Int32))))) : RV G Y_X7_tellAnew [.ref 0] I Q := by
  refine ret_of (show plainName RX7 = true by decide) (Nat.le_of_ble_eq_true rfl) ?_
  show Go G Y_X7_tellAnew 0 [(0, .ref 0)] [] SH I 0 0 _
  refine go_aload_n dX7_tellAnew_0 rfl 0 rfl ?_
  refine go_getR dX7_tellAnew_1 sh_0 (by decide) f_X7_28 ⟨Nat.le_of_ble_eq_true rfl, Nat.le_of_ble_eq_true rfl, rfl⟩ rfl ?_
  refine go_aload_n dX7_tellAnew_4 rfl 0 rfl ?_
  refine go_getR dX7_tellAnew_5 sh_0 (by decide) f_X7_7 ⟨Nat.le_of_ble_eq_true rfl, Nat.le_of_ble_eq_true rfl, rfl⟩ rfl ?_
  refine go_vcall (Z := Y_X5_open) (As := [.ref 1]) (S := []) dX7_tellAnew_8 ok_X5_open l_X7_195 (by decide) (tel_sh (Or.inl rfl)) (by decide) (Nat.le_of_ble_eq_true rfl) rfl rfl rfl (Nat.le_of_ble_eq_true rfl) h (fun _ I1 _ hq => ?_)
  obtain ⟨rfl, rfl, h⟩ := hq
  show Go G Y_X7_tellAnew 11 [(0, .ref 0)] [] SH I1 0 0 _
  refine go_aload_n dX7_tellAnew_11 rfl 0 rfl ?_
  refine go_getR dX7_tellAnew_12 sh_0 (by decide) f_X7_28 ⟨Nat.le_of_ble_eq_true rfl, Nat.le_of_ble_eq_true rfl, rfl⟩ rfl ?_
  refine go_aload_n dX7_tellAnew_15 rfl 0 rfl ?_
  refine go_getR dX7_tellAnew_16 sh_0 (by decide) f_X7_18 ⟨Nat.le_of_ble_eq_true rfl, Nat.le_of_ble_eq_true rfl, rfl⟩ rfl ?_
  refine go_vcall (Z := Y_X5_addAll) (As := [.ref 2]) (S := []) dX7_tellAnew_19 ok_X5_addAll l_X7_202 (by decide) (tel_sh (Or.inl rfl)) (by decide) (Nat.le_of_ble_eq_true rfl) rfl rfl rfl (Nat.le_of_ble_eq_true rfl) h (fun _ I2 _ hq => ?_)
  obtain ⟨rfl, rfl, h⟩ := hq
  show Go G Y_X7_tellAnew 22 [(0, .ref 0)] [] SH I2 0 0 _
  refine go_aload_n dX7_tellAnew_22 rfl 0 rfl ?_
  refine go_iconst dX7_tellAnew_23 (v := (0 : Int32)) (by decide) ?_
  refine go_putT dX7_tellAnew_24 sh_0 (by decide) p_X7_174 ⟨Nat.le_of_ble_eq_true rfl, Nat.le_of_ble_eq_true rfl, rfl⟩ rfl rfl ?_
  refine go_aload_n dX7_tellAnew_27 rfl 0 rfl ?_
  refine go_iconst dX7_tellAnew_28 (v := (0 : Int32)) (by decide) ?_
  refine go_putT dX7_tellAnew_29 sh_0 (by decide) p_X7_184 ⟨Nat.le_of_ble_eq_true rfl, Nat.le_of_ble_eq_true rfl, rfl⟩ rfl rfl ?_
  exact go_vret dX7_tellAnew_32 rfl rfl (by decide) ⟨rfl, rfl, h⟩
set_option maxRecDepth 100000 in
set_option maxHeartbeats 4000000 in
theorem v_X7_sixteenths {G : CX} {a1 : Int32}  {I : HP} {Q : HP → Int32 → Prop} (h : RA G Y_X5_turnAt [.ref 6, .int a1] I (fun I1 r2 => isTur r2 ∧ (Q I1 (if (0 : Int32) < ((I1 r2 3) - (5 : Int32)) then ((I1 r2 3) - (5 : Int32)) else (0 : Int32))))) : RI G Y_X7_sixteenths [.ref 0, .int a1] I Q := by
  refine ret_of (show plainName RX7 = true by decide) (Nat.le_of_ble_eq_true rfl) ?_
  show Go G Y_X7_sixteenths 0 [(0, .ref 0), (1, .int a1)] [] SH I 0 0 _
  refine go_iconst dX7_sixteenths_0 (v := (0 : Int32)) (by decide) ?_
  refine go_aload_n dX7_sixteenths_1 rfl 0 rfl ?_
  refine go_getR dX7_sixteenths_2 sh_0 (by decide) f_X7_28 ⟨Nat.le_of_ble_eq_true rfl, Nat.le_of_ble_eq_true rfl, rfl⟩ rfl ?_
  refine go_iload_n dX7_sixteenths_5 rfl 1 rfl ?_
  refine go_vcall (Z := Y_X5_turnAt) (As := [.int a1]) (S := [.int (0 : Int32)]) dX7_sixteenths_6 ok_X5_turnAt l_X7_110 (by decide) (tel_sh (Or.inl rfl)) (by decide) (Nat.le_of_ble_eq_true rfl) rfl rfl rfl (Nat.le_of_ble_eq_true rfl) h (fun _ I1 _ hq => ?_)
  obtain ⟨rfl, r2, rfl, h⟩ := hq
  have hr2 := h.1
  have h := h.2
  show Go G Y_X7_sixteenths 9 [(0, .ref 0), (1, .int a1)] [.ref r2, .int (0 : Int32)] SH I1 0 0 _
  refine go_getI dX7_sixteenths_9 hr2 (SH_lt hr2) f_X7_126 ⟨Nat.le_of_ble_eq_true rfl, Nat.le_of_ble_eq_true rfl, rfl⟩ ?_
  refine go_iconst dX7_sixteenths_12 (v := (5 : Int32)) (by decide) ?_
  refine go_isub dX7_sixteenths_13 ?_
  refine go_max dX7_sixteenths_14 ⟨l_X7_355, bt_max⟩ (by decide) (Nat.le_of_ble_eq_true rfl) ?_
  exact go_iret dX7_sixteenths_17 rfl rfl (by decide) ⟨rfl, _, rfl, h⟩
set_option maxRecDepth 100000 in
set_option maxHeartbeats 4000000 in
theorem v_X7_errorsBy {G : CX} {a1 : Int32} {a2 : Int32}  {I : HP} {Q : HP → Int32 → Prop} (h : GI G Y_X7_errorsBy 5 [(0, .ref 0), (1, .int a1), (2, .int a2), (3, .int (0 : Int32)), (4, .int (0 : Int32))] I Q) : RI G Y_X7_errorsBy [.ref 0, .int a1, .int a2] I Q := by
  refine ret_of (show plainName RX7 = true by decide) (Nat.le_of_ble_eq_true rfl) ?_
  show Go G Y_X7_errorsBy 0 [(0, .ref 0), (1, .int a1), (2, .int a2)] [] SH I 0 0 _
  refine go_iconst dX7_errorsBy_0 (v := (0 : Int32)) (by decide) ?_
  refine go_istore_n dX7_errorsBy_1 rfl (Nat.le_of_ble_eq_true rfl) (L2 := [(3, .int (0 : Int32)), (0, .ref 0), (1, .int a1), (2, .int a2)]) rfl ?_
  refine go_iconst dX7_errorsBy_2 (v := (0 : Int32)) (by decide) ?_
  refine go_istore dX7_errorsBy_3 (Nat.le_of_ble_eq_true rfl) (L2 := [(4, .int (0 : Int32)), (3, .int (0 : Int32)), (0, .ref 0), (1, .int a1), (2, .int a2)]) rfl ?_
  exact go_loc [(0, .ref 0), (1, .int a1), (2, .int a2), (3, .int (0 : Int32)), (4, .int (0 : Int32))] [2, 3, 4, 1, 0] rfl h
set_option maxRecDepth 100000 in
set_option maxHeartbeats 4000000 in
theorem v_X7_errorsBy_5 {G : CX} {x1 : Int32} {x2 : Int32} {x3 : Int32} {x4 : Int32}  {I : HP} {Q : HP → Int32 → Prop} (h : (((I 2 3) ≤ x4) → (Q I x3)) ∧ ((¬ (I 2 3) ≤ x4) → (RI G Y_X2_figure [.ref 2, .int x4, .int (2 : Int32)] I (fun I2 r3 => ((r3 < x1) → (((¬ (((I2 1 5) >>> (x4 &&& 31)) &&& (1 : Int32)) = (1 : Int32)) → (GI G Y_X7_errorsBy 5 [(0, .ref 0), (1, .int x1), (2, .int x2), (3, .int x3), (4, .int (x4 + 1))] I2 Q)) ∧ (((((I2 1 5) >>> (x4 &&& 31)) &&& (1 : Int32)) = (1 : Int32)) → (((¬ x2 = 0) → (GI G Y_X7_errorsBy 5 [(0, .ref 0), (1, .int x1), (2, .int x2), (3, .int (x3 + 1)), (4, .int (x4 + 1))] I2 Q)) ∧ ((x2 = 0) → (GI G Y_X7_errorsBy 5 [(0, .ref 0), (1, .int x1), (2, .int x2), (3, .int x3), (4, .int (x4 + 1))] I2 Q)))))) ∧ ((¬ r3 < x1) → (((¬ (((I2 1 5) >>> (x4 &&& 31)) &&& (1 : Int32)) = (1 : Int32)) → (((¬ x2 = 0) → (GI G Y_X7_errorsBy 5 [(0, .ref 0), (1, .int x1), (2, .int x2), (3, .int x3), (4, .int (x4 + 1))] I2 Q)) ∧ ((x2 = 0) → (GI G Y_X7_errorsBy 5 [(0, .ref 0), (1, .int x1), (2, .int x2), (3, .int (x3 + 1)), (4, .int (x4 + 1))] I2 Q)))) ∧ (((((I2 1 5) >>> (x4 &&& 31)) &&& (1 : Int32)) = (1 : Int32)) → (GI G Y_X7_errorsBy 5 [(0, .ref 0), (1, .int x1), (2, .int x2), (3, .int x3), (4, .int (x4 + 1))] I2 Q)))))))) : GI G Y_X7_errorsBy 5 [(0, .ref 0), (1, .int x1), (2, .int x2), (3, .int x3), (4, .int x4)] I Q := by
  show Go G Y_X7_errorsBy 5 [(0, .ref 0), (1, .int x1), (2, .int x2), (3, .int x3), (4, .int x4)] [] SH I 0 0 _
  refine go_iload dX7_errorsBy_5 4 rfl ?_
  refine go_aload_n dX7_errorsBy_7 rfl 0 rfl ?_
  refine go_getR dX7_errorsBy_8 sh_0 (by decide) f_X7_18 ⟨Nat.le_of_ble_eq_true rfl, Nat.le_of_ble_eq_true rfl, rfl⟩ rfl ?_
  refine go_getI dX7_errorsBy_11 (scr_sh (Or.inl rfl)) (by decide) f_X7_92 ⟨Nat.le_of_ble_eq_true rfl, Nat.le_of_ble_eq_true rfl, rfl⟩ ?_
  refine go_icmp_ge (tgt := 90) dX7_errorsBy_14 (by decide) (fun c1 => ?_) (fun c1 => ?_)
  · have h := h.1 c1
    refine go_iload_n dX7_errorsBy_90 rfl 3 rfl ?_
    exact go_iret dX7_errorsBy_91 rfl rfl (by decide) ⟨rfl, _, rfl, h⟩
  · have h := h.2 c1
    refine go_aload_n dX7_errorsBy_17 rfl 0 rfl ?_
    refine go_getR dX7_errorsBy_18 sh_0 (by decide) f_X7_18 ⟨Nat.le_of_ble_eq_true rfl, Nat.le_of_ble_eq_true rfl, rfl⟩ rfl ?_
    refine go_iload dX7_errorsBy_21 4 rfl ?_
    refine go_iconst dX7_errorsBy_23 (v := (2 : Int32)) (by decide) ?_
    refine go_vcall (Z := Y_X2_figure) (As := [.int x4, .int (2 : Int32)]) (S := []) dX7_errorsBy_24 ok_X2_figure l_X7_114 (by decide) (scr_sh (Or.inl rfl)) (by decide) (Nat.le_of_ble_eq_true rfl) rfl rfl rfl (Nat.le_of_ble_eq_true rfl) h (fun _ I2 _ hq => ?_)
    obtain ⟨rfl, r3, rfl, h⟩ := hq
    show Go G Y_X7_errorsBy 27 [(0, .ref 0), (1, .int x1), (2, .int x2), (3, .int x3), (4, .int x4)] [.int r3] SH I2 0 0 _
    refine go_iload_n dX7_errorsBy_27 rfl 1 rfl ?_
    refine go_icmp_lt (tgt := 35) dX7_errorsBy_28 (by decide) (fun c4 => ?_) (fun c4 => ?_)
    · have h := h.1 c4
      refine go_iconst dX7_errorsBy_35 (v := (0 : Int32)) (by decide) ?_
      refine go_istore dX7_errorsBy_36 (Nat.le_of_ble_eq_true rfl) (L2 := [(5, .int (0 : Int32)), (0, .ref 0), (1, .int x1), (2, .int x2), (3, .int x3), (4, .int x4)]) rfl ?_
      refine go_aload_n dX7_errorsBy_38 rfl 1 rfl ?_
      refine go_getR dX7_errorsBy_39 sh_0 (by decide) f_X7_7 ⟨Nat.le_of_ble_eq_true rfl, Nat.le_of_ble_eq_true rfl, rfl⟩ rfl ?_
      refine go_iconst dX7_errorsBy_42 (v := (5 : Int32)) (by decide) ?_
      refine go_iald dX7_errorsBy_43 sh_1 (by decide) (by unfold vp_in; decide) (j := 5) (by decide) ?_
      refine go_iload dX7_errorsBy_44 5 rfl ?_
      refine go_ishr dX7_errorsBy_46 ?_
      refine go_iconst dX7_errorsBy_47 (v := (1 : Int32)) (by decide) ?_
      refine go_iand dX7_errorsBy_48 ?_
      refine go_iconst dX7_errorsBy_49 (v := (1 : Int32)) (by decide) ?_
      refine go_icmp_ne (tgt := 57) dX7_errorsBy_50 (by decide) (fun c5 => ?_) (fun c5 => ?_)
      · have h := h.1 c5
        refine go_iconst dX7_errorsBy_57 (v := (0 : Int32)) (by decide) ?_
        refine go_istore dX7_errorsBy_58 (Nat.le_of_ble_eq_true rfl) (L2 := [(6, .int (0 : Int32)), (5, .int (0 : Int32)), (0, .ref 0), (1, .int x1), (2, .int x2), (3, .int x3), (4, .int x4)]) rfl ?_
        refine go_iload dX7_errorsBy_60 1 rfl ?_
        refine go_iload dX7_errorsBy_62 0 rfl ?_
        refine go_icmp_eq (tgt := 84) dX7_errorsBy_64 (by decide) (fun _ => ?_) (fun c => absurd (by decide) c)
        refine go_iinc dX7_errorsBy_84 6 rfl (v := (x4 + 1)) rfl (Nat.le_of_ble_eq_true rfl) (L2 := [(4, .int (x4 + 1)), (6, .int (0 : Int32)), (5, .int (0 : Int32)), (0, .ref 0), (1, .int x1), (2, .int x2), (3, .int x3)]) rfl ?_
        refine go_goto (tgt := 5) dX7_errorsBy_87 (by decide) ?_
        exact go_loc [(0, .ref 0), (1, .int x1), (2, .int x2), (3, .int x3), (4, .int (x4 + 1))] [3, 4, 5, 6, 0] rfl h
      · have h := h.2 c5
        refine go_iconst dX7_errorsBy_53 (v := (1 : Int32)) (by decide) ?_
        refine go_goto (tgt := 58) dX7_errorsBy_54 (by decide) ?_
        refine go_istore dX7_errorsBy_58 (Nat.le_of_ble_eq_true rfl) (L2 := [(6, .int (1 : Int32)), (5, .int (0 : Int32)), (0, .ref 0), (1, .int x1), (2, .int x2), (3, .int x3), (4, .int x4)]) rfl ?_
        refine go_iload dX7_errorsBy_60 1 rfl ?_
        refine go_iload dX7_errorsBy_62 0 rfl ?_
        refine go_icmp_eq (tgt := 84) dX7_errorsBy_64 (by decide) (fun c => absurd c (by decide)) (fun _ => ?_)
        refine go_iload dX7_errorsBy_67 1 rfl ?_
        refine go_iload_n dX7_errorsBy_69 rfl 4 rfl ?_
        refine go_if_ne (tgt := 77) dX7_errorsBy_70 (by decide) (fun c6 => ?_) (fun c6 => ?_)
        · have h := h.1 c6
          refine go_iconst dX7_errorsBy_77 (v := (0 : Int32)) (by decide) ?_
          refine go_icmp_ne (tgt := 84) dX7_errorsBy_78 (by decide) (fun c => absurd (by decide) c) (fun _ => ?_)
          refine go_iinc dX7_errorsBy_81 5 rfl (v := (x3 + 1)) rfl (Nat.le_of_ble_eq_true rfl) (L2 := [(3, .int (x3 + 1)), (6, .int (1 : Int32)), (5, .int (0 : Int32)), (0, .ref 0), (1, .int x1), (2, .int x2), (4, .int x4)]) rfl ?_
          refine go_iinc dX7_errorsBy_84 6 rfl (v := (x4 + 1)) rfl (Nat.le_of_ble_eq_true rfl) (L2 := [(4, .int (x4 + 1)), (3, .int (x3 + 1)), (6, .int (1 : Int32)), (5, .int (0 : Int32)), (0, .ref 0), (1, .int x1), (2, .int x2)]) rfl ?_
          refine go_goto (tgt := 5) dX7_errorsBy_87 (by decide) ?_
          exact go_loc [(0, .ref 0), (1, .int x1), (2, .int x2), (3, .int (x3 + 1)), (4, .int (x4 + 1))] [4, 5, 6, 1, 0] rfl h
        · have h := h.2 c6
          refine go_iconst dX7_errorsBy_73 (v := (1 : Int32)) (by decide) ?_
          refine go_goto (tgt := 78) dX7_errorsBy_74 (by decide) ?_
          refine go_icmp_ne (tgt := 84) dX7_errorsBy_78 (by decide) (fun _ => ?_) (fun c => absurd c (by decide))
          refine go_iinc dX7_errorsBy_84 6 rfl (v := (x4 + 1)) rfl (Nat.le_of_ble_eq_true rfl) (L2 := [(4, .int (x4 + 1)), (6, .int (1 : Int32)), (5, .int (0 : Int32)), (0, .ref 0), (1, .int x1), (2, .int x2), (3, .int x3)]) rfl ?_
          refine go_goto (tgt := 5) dX7_errorsBy_87 (by decide) ?_
          exact go_loc [(0, .ref 0), (1, .int x1), (2, .int x2), (3, .int x3), (4, .int (x4 + 1))] [3, 4, 5, 6, 0] rfl h
    · have h := h.2 c4
      refine go_iconst dX7_errorsBy_31 (v := (1 : Int32)) (by decide) ?_
      refine go_goto (tgt := 36) dX7_errorsBy_32 (by decide) ?_
      refine go_istore dX7_errorsBy_36 (Nat.le_of_ble_eq_true rfl) (L2 := [(5, .int (1 : Int32)), (0, .ref 0), (1, .int x1), (2, .int x2), (3, .int x3), (4, .int x4)]) rfl ?_
      refine go_aload_n dX7_errorsBy_38 rfl 1 rfl ?_
      refine go_getR dX7_errorsBy_39 sh_0 (by decide) f_X7_7 ⟨Nat.le_of_ble_eq_true rfl, Nat.le_of_ble_eq_true rfl, rfl⟩ rfl ?_
      refine go_iconst dX7_errorsBy_42 (v := (5 : Int32)) (by decide) ?_
      refine go_iald dX7_errorsBy_43 sh_1 (by decide) (by unfold vp_in; decide) (j := 5) (by decide) ?_
      refine go_iload dX7_errorsBy_44 5 rfl ?_
      refine go_ishr dX7_errorsBy_46 ?_
      refine go_iconst dX7_errorsBy_47 (v := (1 : Int32)) (by decide) ?_
      refine go_iand dX7_errorsBy_48 ?_
      refine go_iconst dX7_errorsBy_49 (v := (1 : Int32)) (by decide) ?_
      refine go_icmp_ne (tgt := 57) dX7_errorsBy_50 (by decide) (fun c7 => ?_) (fun c7 => ?_)
      · have h := h.1 c7
        refine go_iconst dX7_errorsBy_57 (v := (0 : Int32)) (by decide) ?_
        refine go_istore dX7_errorsBy_58 (Nat.le_of_ble_eq_true rfl) (L2 := [(6, .int (0 : Int32)), (5, .int (1 : Int32)), (0, .ref 0), (1, .int x1), (2, .int x2), (3, .int x3), (4, .int x4)]) rfl ?_
        refine go_iload dX7_errorsBy_60 1 rfl ?_
        refine go_iload dX7_errorsBy_62 0 rfl ?_
        refine go_icmp_eq (tgt := 84) dX7_errorsBy_64 (by decide) (fun c => absurd c (by decide)) (fun _ => ?_)
        refine go_iload dX7_errorsBy_67 1 rfl ?_
        refine go_iload_n dX7_errorsBy_69 rfl 4 rfl ?_
        refine go_if_ne (tgt := 77) dX7_errorsBy_70 (by decide) (fun c8 => ?_) (fun c8 => ?_)
        · have h := h.1 c8
          refine go_iconst dX7_errorsBy_77 (v := (0 : Int32)) (by decide) ?_
          refine go_icmp_ne (tgt := 84) dX7_errorsBy_78 (by decide) (fun _ => ?_) (fun c => absurd c (by decide))
          refine go_iinc dX7_errorsBy_84 6 rfl (v := (x4 + 1)) rfl (Nat.le_of_ble_eq_true rfl) (L2 := [(4, .int (x4 + 1)), (6, .int (0 : Int32)), (5, .int (1 : Int32)), (0, .ref 0), (1, .int x1), (2, .int x2), (3, .int x3)]) rfl ?_
          refine go_goto (tgt := 5) dX7_errorsBy_87 (by decide) ?_
          exact go_loc [(0, .ref 0), (1, .int x1), (2, .int x2), (3, .int x3), (4, .int (x4 + 1))] [3, 4, 5, 6, 0] rfl h
        · have h := h.2 c8
          refine go_iconst dX7_errorsBy_73 (v := (1 : Int32)) (by decide) ?_
          refine go_goto (tgt := 78) dX7_errorsBy_74 (by decide) ?_
          refine go_icmp_ne (tgt := 84) dX7_errorsBy_78 (by decide) (fun c => absurd (by decide) c) (fun _ => ?_)
          refine go_iinc dX7_errorsBy_81 5 rfl (v := (x3 + 1)) rfl (Nat.le_of_ble_eq_true rfl) (L2 := [(3, .int (x3 + 1)), (6, .int (0 : Int32)), (5, .int (1 : Int32)), (0, .ref 0), (1, .int x1), (2, .int x2), (4, .int x4)]) rfl ?_
          refine go_iinc dX7_errorsBy_84 6 rfl (v := (x4 + 1)) rfl (Nat.le_of_ble_eq_true rfl) (L2 := [(4, .int (x4 + 1)), (3, .int (x3 + 1)), (6, .int (0 : Int32)), (5, .int (1 : Int32)), (0, .ref 0), (1, .int x1), (2, .int x2)]) rfl ?_
          refine go_goto (tgt := 5) dX7_errorsBy_87 (by decide) ?_
          exact go_loc [(0, .ref 0), (1, .int x1), (2, .int x2), (3, .int (x3 + 1)), (4, .int (x4 + 1))] [4, 5, 6, 1, 0] rfl h
      · have h := h.2 c7
        refine go_iconst dX7_errorsBy_53 (v := (1 : Int32)) (by decide) ?_
        refine go_goto (tgt := 58) dX7_errorsBy_54 (by decide) ?_
        refine go_istore dX7_errorsBy_58 (Nat.le_of_ble_eq_true rfl) (L2 := [(6, .int (1 : Int32)), (5, .int (1 : Int32)), (0, .ref 0), (1, .int x1), (2, .int x2), (3, .int x3), (4, .int x4)]) rfl ?_
        refine go_iload dX7_errorsBy_60 1 rfl ?_
        refine go_iload dX7_errorsBy_62 0 rfl ?_
        refine go_icmp_eq (tgt := 84) dX7_errorsBy_64 (by decide) (fun _ => ?_) (fun c => absurd (by decide) c)
        refine go_iinc dX7_errorsBy_84 6 rfl (v := (x4 + 1)) rfl (Nat.le_of_ble_eq_true rfl) (L2 := [(4, .int (x4 + 1)), (6, .int (1 : Int32)), (5, .int (1 : Int32)), (0, .ref 0), (1, .int x1), (2, .int x2), (3, .int x3)]) rfl ?_
        refine go_goto (tgt := 5) dX7_errorsBy_87 (by decide) ?_
        exact go_loc [(0, .ref 0), (1, .int x1), (2, .int x2), (3, .int x3), (4, .int (x4 + 1))] [3, 4, 5, 6, 0] rfl h
set_option maxRecDepth 100000 in
set_option maxHeartbeats 4000000 in
theorem v_X7_bestLine {G : CX}   {I : HP} {Q : HP → Int32 → Prop} (h : GI G Y_X7_bestLine 7 [(0, .ref 0), (1, .int (0 : Int32)), (2, .int (13 : Int32)), (3, .int (0 : Int32))] I Q) : RI G Y_X7_bestLine [.ref 0] I Q := by
  refine ret_of (show plainName RX7 = true by decide) (Nat.le_of_ble_eq_true rfl) ?_
  show Go G Y_X7_bestLine 0 [(0, .ref 0)] [] SH I 0 0 _
  refine go_iconst dX7_bestLine_0 (v := (0 : Int32)) (by decide) ?_
  refine go_istore_n dX7_bestLine_1 rfl (Nat.le_of_ble_eq_true rfl) (L2 := [(1, .int (0 : Int32)), (0, .ref 0)]) rfl ?_
  refine go_bipush dX7_bestLine_2 (v := (13 : Int32)) (by decide) ?_
  refine go_istore_n dX7_bestLine_4 rfl (Nat.le_of_ble_eq_true rfl) (L2 := [(2, .int (13 : Int32)), (1, .int (0 : Int32)), (0, .ref 0)]) rfl ?_
  refine go_iconst dX7_bestLine_5 (v := (0 : Int32)) (by decide) ?_
  refine go_istore_n dX7_bestLine_6 rfl (Nat.le_of_ble_eq_true rfl) (L2 := [(3, .int (0 : Int32)), (2, .int (13 : Int32)), (1, .int (0 : Int32)), (0, .ref 0)]) rfl ?_
  exact go_loc [(0, .ref 0), (1, .int (0 : Int32)), (2, .int (13 : Int32)), (3, .int (0 : Int32))] [3, 2, 1, 0] rfl h
set_option maxRecDepth 100000 in
set_option maxHeartbeats 4000000 in
theorem v_X7_bestLine_7 {G : CX} {x1 : Int32} {x2 : Int32} {x3 : Int32}  {I : HP} {Q : HP → Int32 → Prop} (h : (((10 : Int32) < x3) → (Q I x1)) ∧ ((¬ (10 : Int32) < x3) → (RI G Y_X7_errorsBy [.ref 0, .int x3, .int (0 : Int32)] I (fun I2 r3 => RI G Y_X7_errorsBy [.ref 0, .int x3, .int (1 : Int32)] I2 (fun I4 r5 => ((x2 ≤ (r3 + r5)) → (GI G Y_X7_bestLine 7 [(0, .ref 0), (1, .int x1), (2, .int x2), (3, .int (x3 + 1))] I4 Q)) ∧ ((¬ x2 ≤ (r3 + r5)) → (GI G Y_X7_bestLine 7 [(0, .ref 0), (1, .int x3), (2, .int (r3 + r5)), (3, .int (x3 + 1))] I4 Q))))))) : GI G Y_X7_bestLine 7 [(0, .ref 0), (1, .int x1), (2, .int x2), (3, .int x3)] I Q := by
  show Go G Y_X7_bestLine 7 [(0, .ref 0), (1, .int x1), (2, .int x2), (3, .int x3)] [] SH I 0 0 _
  refine go_iload_n dX7_bestLine_7 rfl 3 rfl ?_
  refine go_bipush dX7_bestLine_8 (v := (10 : Int32)) (by decide) ?_
  refine go_icmp_gt (tgt := 45) dX7_bestLine_10 (by decide) (fun c1 => ?_) (fun c1 => ?_)
  · have h := h.1 c1
    refine go_iload_n dX7_bestLine_45 rfl 1 rfl ?_
    exact go_iret dX7_bestLine_46 rfl rfl (by decide) ⟨rfl, _, rfl, h⟩
  · have h := h.2 c1
    refine go_aload_n dX7_bestLine_13 rfl 0 rfl ?_
    refine go_iload_n dX7_bestLine_14 rfl 3 rfl ?_
    refine go_iconst dX7_bestLine_15 (v := (0 : Int32)) (by decide) ?_
    refine go_vcall (Z := Y_X7_errorsBy) (As := [.int x3, .int (0 : Int32)]) (S := []) dX7_bestLine_16 ok_X7_errorsBy l_X7_219 (by decide) sh_0 (by decide) (Nat.le_of_ble_eq_true rfl) rfl rfl rfl (Nat.le_of_ble_eq_true rfl) h (fun _ I2 _ hq => ?_)
    obtain ⟨rfl, r3, rfl, h⟩ := hq
    show Go G Y_X7_bestLine 19 [(0, .ref 0), (1, .int x1), (2, .int x2), (3, .int x3)] [.int r3] SH I2 0 0 _
    refine go_aload_n dX7_bestLine_19 rfl 0 rfl ?_
    refine go_iload_n dX7_bestLine_20 rfl 3 rfl ?_
    refine go_iconst dX7_bestLine_21 (v := (1 : Int32)) (by decide) ?_
    refine go_vcall (Z := Y_X7_errorsBy) (As := [.int x3, .int (1 : Int32)]) (S := [.int r3]) dX7_bestLine_22 ok_X7_errorsBy l_X7_219 (by decide) sh_0 (by decide) (Nat.le_of_ble_eq_true rfl) rfl rfl rfl (Nat.le_of_ble_eq_true rfl) h (fun _ I4 _ hq => ?_)
    obtain ⟨rfl, r5, rfl, h⟩ := hq
    show Go G Y_X7_bestLine 25 [(0, .ref 0), (1, .int x1), (2, .int x2), (3, .int x3)] [.int r5, .int r3] SH I4 0 0 _
    refine go_iadd dX7_bestLine_25 ?_
    refine go_istore dX7_bestLine_26 (Nat.le_of_ble_eq_true rfl) (L2 := [(4, .int (r3 + r5)), (0, .ref 0), (1, .int x1), (2, .int x2), (3, .int x3)]) rfl ?_
    refine go_iload dX7_bestLine_28 0 rfl ?_
    refine go_iload_n dX7_bestLine_30 rfl 3 rfl ?_
    refine go_icmp_ge (tgt := 39) dX7_bestLine_31 (by decide) (fun c6 => ?_) (fun c6 => ?_)
    · have h := h.1 c6
      refine go_iinc dX7_bestLine_39 4 rfl (v := (x3 + 1)) rfl (Nat.le_of_ble_eq_true rfl) (L2 := [(3, .int (x3 + 1)), (4, .int (r3 + r5)), (0, .ref 0), (1, .int x1), (2, .int x2)]) rfl ?_
      refine go_goto (tgt := 7) dX7_bestLine_42 (by decide) ?_
      exact go_loc [(0, .ref 0), (1, .int x1), (2, .int x2), (3, .int (x3 + 1))] [2, 3, 4, 0] rfl h
    · have h := h.2 c6
      refine go_iload_n dX7_bestLine_34 rfl 4 rfl ?_
      refine go_istore_n dX7_bestLine_35 rfl (Nat.le_of_ble_eq_true rfl) (L2 := [(1, .int x3), (4, .int (r3 + r5)), (0, .ref 0), (2, .int x2), (3, .int x3)]) rfl ?_
      refine go_iload dX7_bestLine_36 1 rfl ?_
      refine go_istore_n dX7_bestLine_38 rfl (Nat.le_of_ble_eq_true rfl) (L2 := [(2, .int (r3 + r5)), (1, .int x3), (4, .int (r3 + r5)), (0, .ref 0), (3, .int x3)]) rfl ?_
      refine go_iinc dX7_bestLine_39 4 rfl (v := (x3 + 1)) rfl (Nat.le_of_ble_eq_true rfl) (L2 := [(3, .int (x3 + 1)), (2, .int (r3 + r5)), (1, .int x3), (4, .int (r3 + r5)), (0, .ref 0)]) rfl ?_
      refine go_goto (tgt := 7) dX7_bestLine_42 (by decide) ?_
      exact go_loc [(0, .ref 0), (1, .int x3), (2, .int (r3 + r5)), (3, .int (x3 + 1))] [4, 2, 1, 0] rfl h
set_option maxRecDepth 100000 in
set_option maxHeartbeats 4000000 in
theorem v_X7_found {G : CX} {a1 : Int32}  {I : HP} {Q : HP → Int32 → Prop} (h : Q (st I 0 11 a1) ((-10 : Int32) - a1)) : RI G Y_X7_found [.ref 0, .int a1] I Q := by
  refine ret_of (show plainName RX7 = true by decide) (Nat.le_of_ble_eq_true rfl) ?_
  show Go G Y_X7_found 0 [(0, .ref 0), (1, .int a1)] [] SH I 0 0 _
  refine go_aload_n dX7_found_0 rfl 0 rfl ?_
  refine go_iload_n dX7_found_1 rfl 1 rfl ?_
  refine go_putT dX7_found_2 sh_0 (by decide) p_X7_266 ⟨Nat.le_of_ble_eq_true rfl, Nat.le_of_ble_eq_true rfl, rfl⟩ rfl rfl ?_
  refine go_bipush dX7_found_5 (v := (-10 : Int32)) (by decide) ?_
  refine go_iload_n dX7_found_7 rfl 1 rfl ?_
  refine go_isub dX7_found_8 ?_
  exact go_iret dX7_found_9 rfl rfl (by decide) ⟨rfl, _, rfl, h⟩
set_option maxRecDepth 100000 in
set_option maxHeartbeats 4000000 in
theorem v_X7_findingAt {G : CX} {b1 : Nat} {a2 : Int32} {a3 : Int32} (hb1 : isShe b1) {I : HP} {Q : HP → Int32 → Prop} (h : (((I b1 1) = 0) → ((((I b1 2) = a2) → (RZ G Y_X3_hasItem [.ref b1, .int a3] I (fun I3 r4 => (((bI r4) = 0) → (Q I3 (2 : Int32))) ∧ ((¬ (bI r4) = 0) → (Q I3 (0 : Int32)))))) ∧ ((¬ (I b1 2) = a2) → (Q I (3 : Int32))))) ∧ ((¬ (I b1 1) = 0) → (Q I (1 : Int32)))) : RI G Y_X7_findingAt [.ref b1, .int a2, .int a3] I Q := by
  refine ret_of (show plainName RX7 = true by decide) (Nat.le_of_ble_eq_true rfl) ?_
  show Go G Y_X7_findingAt 0 [(0, .ref b1), (1, .int a2), (2, .int a3)] [] SH I 0 0 _
  refine go_aload_n dX7_findingAt_0 rfl 0 rfl ?_
  refine go_getI dX7_findingAt_1 (she_sh hb1) (SH_lt (she_sh hb1)) f_X7_242 ⟨Nat.le_of_ble_eq_true rfl, Nat.le_of_ble_eq_true rfl, rfl⟩ ?_
  refine go_if_eq (tgt := 9) dX7_findingAt_4 (by decide) (fun c1 => ?_) (fun c1 => ?_)
  · have h := h.1 c1
    refine go_aload_n dX7_findingAt_9 rfl 0 rfl ?_
    refine go_getI dX7_findingAt_10 (she_sh hb1) (SH_lt (she_sh hb1)) f_X7_269 ⟨Nat.le_of_ble_eq_true rfl, Nat.le_of_ble_eq_true rfl, rfl⟩ ?_
    refine go_iload_n dX7_findingAt_13 rfl 1 rfl ?_
    refine go_icmp_eq (tgt := 19) dX7_findingAt_14 (by decide) (fun c2 => ?_) (fun c2 => ?_)
    · have h := h.1 c2
      refine go_aload_n dX7_findingAt_19 rfl 0 rfl ?_
      refine go_iload_n dX7_findingAt_20 rfl 2 rfl ?_
      refine go_vcall (Z := Y_X3_hasItem) (As := [.int a3]) (S := []) dX7_findingAt_21 ok_X3_hasItem l_X7_358 (by decide) (she_sh hb1) (SH_lt (she_sh hb1)) (Nat.le_of_ble_eq_true rfl) rfl rfl rfl (Nat.le_of_ble_eq_true rfl) h (fun _ I3 _ hq => ?_)
      obtain ⟨rfl, r4, rfl, h⟩ := hq
      show Go G Y_X7_findingAt 24 [(0, .ref b1), (1, .int a2), (2, .int a3)] [.int (bI r4)] SH I3 0 0 _
      refine go_if_eq (tgt := 31) dX7_findingAt_24 (by decide) (fun c5 => ?_) (fun c5 => ?_)
      · have h := h.1 c5
        refine go_iconst dX7_findingAt_31 (v := (2 : Int32)) (by decide) ?_
        exact go_iret dX7_findingAt_32 rfl rfl (by decide) ⟨rfl, _, rfl, h⟩
      · have h := h.2 c5
        refine go_iconst dX7_findingAt_27 (v := (0 : Int32)) (by decide) ?_
        refine go_goto (tgt := 32) dX7_findingAt_28 (by decide) ?_
        exact go_iret dX7_findingAt_32 rfl rfl (by decide) ⟨rfl, _, rfl, h⟩
    · have h := h.2 c2
      refine go_iconst dX7_findingAt_17 (v := (3 : Int32)) (by decide) ?_
      exact go_iret dX7_findingAt_18 rfl rfl (by decide) ⟨rfl, _, rfl, h⟩
  · have h := h.2 c1
    refine go_iconst dX7_findingAt_7 (v := (1 : Int32)) (by decide) ?_
    exact go_iret dX7_findingAt_8 rfl rfl (by decide) ⟨rfl, _, rfl, h⟩
