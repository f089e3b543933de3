set_option maxRecDepth 100000 in
set_option maxHeartbeats 4000000 in
theorem v_X5_open {G : CX} {T : Nat} (hT : isTel T) {I : HP} {Q : HP → Prop} (h : GV G Y_X5_open 2 [(0, .ref T), (1, .ref 1), (2, .int (0 : Int32))] I Q) : RV G Y_X5_open [.ref T, .ref 1] I Q := by
  refine ret_of (show plainName RX5 = true by decide) (Nat.le_of_ble_eq_true rfl) ?_
  show Go G Y_X5_open 0 [(0, .ref T), (1, .ref 1)] [] SH I 0 0 _
  refine go_iconst dX5_open_0 (v := (0 : Int32)) (by decide) ?_
  refine go_istore_n dX5_open_1 rfl (Nat.le_of_ble_eq_true rfl) (L2 := [(2, .int (0 : Int32)), (0, .ref T), (1, .ref 1)]) rfl ?_
  exact go_loc [(0, .ref T), (1, .ref 1), (2, .int (0 : Int32))] [1, 2, 0] rfl h
set_option maxRecDepth 100000 in
set_option maxHeartbeats 4000000 in
theorem v_X5_open_2 {G : CX} {T : Nat} {x2 : Int32} (hT : isTel T) {I : HP} {Q : HP → Prop} (h : (((5 : Int32) ≤ x2) → (RV G Y_X6_beStart [.ref (T + 2), .int ((st I T 3 (0 : Int32)) (T + 1) 0)] (st I T 3 (0 : Int32)) (fun I2 => Q I2))) ∧ ((¬ (5 : Int32) ≤ x2) → ((((6 : Int32) ≤ x2) → (RV G Y_X6_beStart [.ref (T + 2), .int ((st I T 3 (0 : Int32)) (T + 1) 0)] (st I T 3 (0 : Int32)) (fun I4 => Q I4))) ∧ ((¬ (6 : Int32) ≤ x2) → ((vp_in x2 6) ∧ ((vp_in x2 5) ∧ (GV G Y_X5_open 2 [(0, .ref T), (1, .ref 1), (2, .int (x2 + 1))] (st I (T + 1) (nn x2) (I 1 (nn x2))) Q))))))) : GV G Y_X5_open 2 [(0, .ref T), (1, .ref 1), (2, .int x2)] I Q := by
  show Go G Y_X5_open 2 [(0, .ref T), (1, .ref 1), (2, .int x2)] [] SH I 0 0 _
  refine go_iload_n dX5_open_2 rfl 2 rfl ?_
  refine go_iconst dX5_open_3 (v := (5 : Int32)) (by decide) ?_
  refine go_icmp_ge (tgt := 28) dX5_open_4 (by decide) (fun c1 => ?_) (fun c1 => ?_)
  · have h := h.1 c1
    refine go_aload_n dX5_open_28 rfl 0 rfl ?_
    refine go_iconst dX5_open_29 (v := (0 : Int32)) (by decide) ?_
    refine go_putT dX5_open_30 (tel_sh hT) (SH_lt (tel_sh hT)) p_X5_26 ⟨Nat.le_of_ble_eq_true rfl, Nat.le_of_ble_eq_true rfl, rfl⟩ rfl rfl ?_
    refine go_aload_n dX5_open_33 rfl 0 rfl ?_
    refine go_getR dX5_open_34 (tel_sh hT) (SH_lt (tel_sh hT)) f_X5_18 ⟨Nat.le_of_ble_eq_true rfl, Nat.le_of_ble_eq_true rfl, rfl⟩ rfl ?_
    refine go_aload_n dX5_open_37 rfl 0 rfl ?_
    refine go_getR dX5_open_38 (tel_sh hT) (SH_lt (tel_sh hT)) f_X5_9 ⟨Nat.le_of_ble_eq_true rfl, Nat.le_of_ble_eq_true rfl, rfl⟩ rfl ?_
    refine go_iconst dX5_open_41 (v := (0 : Int32)) (by decide) ?_
    refine go_iald dX5_open_42 (tel_ru hT) (SH_lt (tel_ru hT)) (by unfold vp_in; decide) (j := 0) (by decide) ?_
    refine go_vcall (Z := Y_X6_beStart) (As := [.int ((st I T 3 (0 : Int32)) (T + 1) 0)]) (S := []) dX5_open_43 ok_X6_beStart l_X5_30 (by decide) (tel_st hT) (SH_lt (tel_st hT)) (Nat.le_of_ble_eq_true rfl) rfl rfl rfl (Nat.le_of_ble_eq_true rfl) h (fun _ I2 _ hq => ?_)
    obtain ⟨rfl, rfl, h⟩ := hq
    show Go G Y_X5_open 46 [(0, .ref T), (1, .ref 1), (2, .int x2)] [] SH I2 0 0 _
    exact go_vret dX5_open_46 rfl rfl (by decide) ⟨rfl, rfl, h⟩
  · have h := h.2 c1
    refine go_iload_n dX5_open_7 rfl 2 rfl ?_
    refine go_aload_n dX5_open_8 rfl 1 rfl ?_
    refine go_alen dX5_open_9 sh_1 (Or.inl rfl) (by decide) (v := (6 : Int32)) (by decide) ?_
    refine go_icmp_ge (tgt := 28) dX5_open_10 (by decide) (fun c3 => ?_) (fun c3 => ?_)
    · have h := h.1 c3
      refine go_aload_n dX5_open_28 rfl 0 rfl ?_
      refine go_iconst dX5_open_29 (v := (0 : Int32)) (by decide) ?_
      refine go_putT dX5_open_30 (tel_sh hT) (SH_lt (tel_sh hT)) p_X5_26 ⟨Nat.le_of_ble_eq_true rfl, Nat.le_of_ble_eq_true rfl, rfl⟩ rfl rfl ?_
      refine go_aload_n dX5_open_33 rfl 0 rfl ?_
      refine go_getR dX5_open_34 (tel_sh hT) (SH_lt (tel_sh hT)) f_X5_18 ⟨Nat.le_of_ble_eq_true rfl, Nat.le_of_ble_eq_true rfl, rfl⟩ rfl ?_
      refine go_aload_n dX5_open_37 rfl 0 rfl ?_
      refine go_getR dX5_open_38 (tel_sh hT) (SH_lt (tel_sh hT)) f_X5_9 ⟨Nat.le_of_ble_eq_true rfl, Nat.le_of_ble_eq_true rfl, rfl⟩ rfl ?_
      refine go_iconst dX5_open_41 (v := (0 : Int32)) (by decide) ?_
      refine go_iald dX5_open_42 (tel_ru hT) (SH_lt (tel_ru hT)) (by unfold vp_in; decide) (j := 0) (by decide) ?_
      refine go_vcall (Z := Y_X6_beStart) (As := [.int ((st I T 3 (0 : Int32)) (T + 1) 0)]) (S := []) dX5_open_43 ok_X6_beStart l_X5_30 (by decide) (tel_st hT) (SH_lt (tel_st hT)) (Nat.le_of_ble_eq_true rfl) rfl rfl rfl (Nat.le_of_ble_eq_true rfl) h (fun _ I4 _ hq => ?_)
      obtain ⟨rfl, rfl, h⟩ := hq
      show Go G Y_X5_open 46 [(0, .ref T), (1, .ref 1), (2, .int x2)] [] SH I4 0 0 _
      exact go_vret dX5_open_46 rfl rfl (by decide) ⟨rfl, rfl, h⟩
    · have h := h.2 c3
      refine go_aload_n dX5_open_13 rfl 0 rfl ?_
      refine go_getR dX5_open_14 (tel_sh hT) (SH_lt (tel_sh hT)) f_X5_9 ⟨Nat.le_of_ble_eq_true rfl, Nat.le_of_ble_eq_true rfl, rfl⟩ rfl ?_
      refine go_iload_n dX5_open_17 rfl 2 rfl ?_
      refine go_aload_n dX5_open_18 rfl 1 rfl ?_
      refine go_iload_n dX5_open_19 rfl 2 rfl ?_
      have hb5 := h.1
      have h := h.2
      refine go_iald dX5_open_20 sh_1 (by decide) hb5 rfl ?_
      have hb6 := h.1
      have h := h.2
      refine go_iast dX5_open_21 (tel_ru hT) (SH_lt (tel_ru hT)) hb6 (j := (nn x2)) rfl ?_
      refine go_iinc dX5_open_22 2 rfl (v := (x2 + 1)) rfl (Nat.le_of_ble_eq_true rfl) (L2 := [(2, .int (x2 + 1)), (0, .ref T), (1, .ref 1)]) rfl ?_
      refine go_goto (tgt := 2) dX5_open_25 (by decide) ?_
      exact go_loc [(0, .ref T), (1, .ref 1), (2, .int (x2 + 1))] [1, 2, 0] rfl h
set_option maxRecDepth 100000 in
set_option maxHeartbeats 4000000 in
theorem v_X5_changeLead {G : CX} {T : Nat} {a1 : Int32} (hT : isTel T) {I : HP} {Q : HP → Prop} (h : RV G Y_X6_beStart [.ref (T + 2), .int a1] (st I (T + 1) 0 a1) (fun I1 => Q I1)) : RV G Y_X5_changeLead [.ref T, .int a1] I Q := by
  refine ret_of (show plainName RX5 = true by decide) (Nat.le_of_ble_eq_true rfl) ?_
  show Go G Y_X5_changeLead 0 [(0, .ref T), (1, .int a1)] [] SH I 0 0 _
  refine go_aload_n dX5_changeLead_0 rfl 0 rfl ?_
  refine go_getR dX5_changeLead_1 (tel_sh hT) (SH_lt (tel_sh hT)) f_X5_9 ⟨Nat.le_of_ble_eq_true rfl, Nat.le_of_ble_eq_true rfl, rfl⟩ rfl ?_
  refine go_iconst dX5_changeLead_4 (v := (0 : Int32)) (by decide) ?_
  refine go_iload_n dX5_changeLead_5 rfl 1 rfl ?_
  refine go_iast dX5_changeLead_6 (tel_ru hT) (SH_lt (tel_ru hT)) (by unfold vp_in; decide) (j := 0) (by decide) ?_
  refine go_aload_n dX5_changeLead_7 rfl 0 rfl ?_
  refine go_getR dX5_changeLead_8 (tel_sh hT) (SH_lt (tel_sh hT)) f_X5_18 ⟨Nat.le_of_ble_eq_true rfl, Nat.le_of_ble_eq_true rfl, rfl⟩ rfl ?_
  refine go_iload_n dX5_changeLead_11 rfl 1 rfl ?_
  refine go_vcall (Z := Y_X6_beStart) (As := [.int a1]) (S := []) dX5_changeLead_12 ok_X6_beStart l_X5_30 (by decide) (tel_st hT) (SH_lt (tel_st hT)) (Nat.le_of_ble_eq_true rfl) rfl rfl rfl (Nat.le_of_ble_eq_true rfl) h (fun _ I1 _ hq => ?_)
  obtain ⟨rfl, rfl, h⟩ := hq
  show Go G Y_X5_changeLead 15 [(0, .ref T), (1, .int a1)] [] SH I1 0 0 _
  exact go_vret dX5_changeLead_15 rfl rfl (by decide) ⟨rfl, rfl, h⟩
set_option maxRecDepth 100000 in
set_option maxHeartbeats 4000000 in
theorem v_X5_letHimPause {G : CX} {T : Nat} (hT : isTel T) {I : HP} {Q : HP → Prop} (h : Q (st (st I (T + 1) 4 (0 : Int32)) (T + 1) 3 (nI (teN T)))) : RV G Y_X5_letHimPause [.ref T] I Q := by
  refine ret_of (show plainName RX5 = true by decide) (Nat.le_of_ble_eq_true rfl) ?_
  show Go G Y_X5_letHimPause 0 [(0, .ref T)] [] SH I 0 0 _
  refine go_aload_n dX5_letHimPause_0 rfl 0 rfl ?_
  refine go_getR dX5_letHimPause_1 (tel_sh hT) (SH_lt (tel_sh hT)) f_X5_9 ⟨Nat.le_of_ble_eq_true rfl, Nat.le_of_ble_eq_true rfl, rfl⟩ rfl ?_
  refine go_iconst dX5_letHimPause_4 (v := (4 : Int32)) (by decide) ?_
  refine go_iconst dX5_letHimPause_5 (v := (0 : Int32)) (by decide) ?_
  refine go_iast dX5_letHimPause_6 (tel_ru hT) (SH_lt (tel_ru hT)) (by unfold vp_in; decide) (j := 4) (by decide) ?_
  refine go_aload_n dX5_letHimPause_7 rfl 0 rfl ?_
  refine go_getR dX5_letHimPause_8 (tel_sh hT) (SH_lt (tel_sh hT)) f_X5_9 ⟨Nat.le_of_ble_eq_true rfl, Nat.le_of_ble_eq_true rfl, rfl⟩ rfl ?_
  refine go_iconst dX5_letHimPause_11 (v := (3 : Int32)) (by decide) ?_
  refine go_aload_n dX5_letHimPause_12 rfl 0 rfl ?_
  refine go_getR dX5_letHimPause_13 (tel_sh hT) (SH_lt (tel_sh hT)) f_X5_22 ⟨Nat.le_of_ble_eq_true rfl, Nat.le_of_ble_eq_true rfl, rfl⟩ rfl ?_
  refine go_alen dX5_letHimPause_16 (tel_ar hT) (Or.inr (Or.inr (Or.inl rfl))) (SH_lt (tel_ar hT)) (v := (nI (teN T))) rfl ?_
  refine go_iast dX5_letHimPause_17 (tel_ru hT) (SH_lt (tel_ru hT)) (by unfold vp_in; decide) (j := 3) (by decide) ?_
  exact go_vret dX5_letHimPause_18 rfl rfl (by decide) ⟨rfl, rfl, h⟩
set_option maxRecDepth 100000 in
set_option maxHeartbeats 4000000 in
theorem v_X5_addAll {G : CX} {T : Nat} {b1 : Nat} (hT : isTel T) (hb1 : isScr b1) {I : HP} {Q : HP → Prop} (h : GV G Y_X5_addAll 2 [(0, .ref T), (1, .ref b1), (2, .int (0 : Int32))] I Q) : RV G Y_X5_addAll [.ref T, .ref b1] I Q := by
  refine ret_of (show plainName RX5 = true by decide) (Nat.le_of_ble_eq_true rfl) ?_
  show Go G Y_X5_addAll 0 [(0, .ref T), (1, .ref b1)] [] SH I 0 0 _
  refine go_iconst dX5_addAll_0 (v := (0 : Int32)) (by decide) ?_
  refine go_istore_n dX5_addAll_1 rfl (Nat.le_of_ble_eq_true rfl) (L2 := [(2, .int (0 : Int32)), (0, .ref T), (1, .ref b1)]) rfl ?_
  exact go_loc [(0, .ref T), (1, .ref b1), (2, .int (0 : Int32))] [1, 2, 0] rfl h
set_option maxRecDepth 100000 in
set_option maxHeartbeats 4000000 in
theorem v_X5_addAll_2 {G : CX} {T : Nat} {b1 : Nat} {x2 : Int32} (hT : isTel T) (hb1 : isScr b1) {I : HP} {Q : HP → Prop} (h : (((I b1 3) ≤ x2) → (Q I)) ∧ ((¬ (I b1 3) ≤ x2) → (RV G Y_X5_add [.ref T, .ref b1, .int x2] I (fun I2 => GV G Y_X5_addAll 2 [(0, .ref T), (1, .ref b1), (2, .int (x2 + 1))] I2 Q)))) : GV G Y_X5_addAll 2 [(0, .ref T), (1, .ref b1), (2, .int x2)] I Q := by
  show Go G Y_X5_addAll 2 [(0, .ref T), (1, .ref b1), (2, .int x2)] [] SH I 0 0 _
  refine go_iload_n dX5_addAll_2 rfl 2 rfl ?_
  refine go_aload_n dX5_addAll_3 rfl 1 rfl ?_
  refine go_getI dX5_addAll_4 (scr_sh hb1) (SH_lt (scr_sh hb1)) f_X5_34 ⟨Nat.le_of_ble_eq_true rfl, Nat.le_of_ble_eq_true rfl, rfl⟩ ?_
  refine go_icmp_ge (tgt := 22) dX5_addAll_7 (by decide) (fun c1 => ?_) (fun c1 => ?_)
  · have h := h.1 c1
    exact go_vret dX5_addAll_22 rfl rfl (by decide) ⟨rfl, rfl, h⟩
  · have h := h.2 c1
    refine go_aload_n dX5_addAll_10 rfl 0 rfl ?_
    refine go_aload_n dX5_addAll_11 rfl 1 rfl ?_
    refine go_iload_n dX5_addAll_12 rfl 2 rfl ?_
    refine go_vcall (Z := Y_X5_add) (As := [.ref b1, .int x2]) (S := []) dX5_addAll_13 ok_X5_add l_X5_37 (by decide) (tel_sh hT) (SH_lt (tel_sh hT)) (Nat.le_of_ble_eq_true rfl) rfl rfl rfl (Nat.le_of_ble_eq_true rfl) h (fun _ I2 _ hq => ?_)
    obtain ⟨rfl, rfl, h⟩ := hq
    show Go G Y_X5_addAll 16 [(0, .ref T), (1, .ref b1), (2, .int x2)] [] SH I2 0 0 _
    refine go_iinc dX5_addAll_16 2 rfl (v := (x2 + 1)) rfl (Nat.le_of_ble_eq_true rfl) (L2 := [(2, .int (x2 + 1)), (0, .ref T), (1, .ref b1)]) rfl ?_
    refine go_goto (tgt := 2) dX5_addAll_19 (by decide) ?_
    exact go_loc [(0, .ref T), (1, .ref b1), (2, .int (x2 + 1))] [1, 2, 0] rfl h
set_option maxRecDepth 100000 in
set_option maxHeartbeats 4000000 in
theorem v_X5_add {G : CX} {T : Nat} {b1 : Nat} {a2 : Int32} (hT : isTel T) (hb1 : isScr b1) {I : HP} {Q : HP → Prop} (h : (((I T 3) < (nI (teN T))) → ((vp_in (I T 3) (teN T)) ∧ (RI G Y_X2_kindOf [.ref b1, .int a2] I (fun I3 r4 => RI G Y_X2_figure [.ref b1, .int a2, .int (1 : Int32)] (st I3 (T + 4 + nn (I T 3)) 0 r4) (fun I5 r6 => RI G Y_X5_howManyOf [.ref T, .int ((st I5 (T + 4 + nn (I T 3)) 2 r6) (T + 4 + nn (I T 3)) 0)] (st I5 (T + 4 + nn (I T 3)) 2 r6) (fun I7 r8 => ((¬ (I7 (T + 4 + nn (I T 3)) 0) = (1 : Int32)) → (GV G Y_X5_add 72 [(0, .ref T), (1, .ref b1), (2, .int a2), (3, .ref (T + 4 + nn (I T 3))), (4, .int r8), (5, .int (0 : Int32))] I7 Q)) ∧ (((I7 (T + 4 + nn (I T 3)) 0) = (1 : Int32)) → (((r8 ≤ 0) → (GV G Y_X5_add 72 [(0, .ref T), (1, .ref b1), (2, .int a2), (3, .ref (T + 4 + nn (I T 3))), (4, .int r8), (5, .int (0 : Int32))] I7 Q)) ∧ ((¬ r8 ≤ 0) → (GV G Y_X5_add 72 [(0, .ref T), (1, .ref b1), (2, .int a2), (3, .ref (T + 4 + nn (I T 3))), (4, .int r8), (5, .int (1 : Int32))] I7 Q)))))))))) ∧ ((¬ (I T 3) < (nI (teN T))) → (Q I))) : RV G Y_X5_add [.ref T, .ref b1, .int a2] I Q := by
  refine ret_of (show plainName RX5 = true by decide) (Nat.le_of_ble_eq_true rfl) ?_
  show Go G Y_X5_add 0 [(0, .ref T), (1, .ref b1), (2, .int a2)] [] SH I 0 0 _
  refine go_aload_n dX5_add_0 rfl 0 rfl ?_
  refine go_getI dX5_add_1 (tel_sh hT) (SH_lt (tel_sh hT)) f_X5_26 ⟨Nat.le_of_ble_eq_true rfl, Nat.le_of_ble_eq_true rfl, rfl⟩ ?_
  refine go_aload_n dX5_add_4 rfl 0 rfl ?_
  refine go_getR dX5_add_5 (tel_sh hT) (SH_lt (tel_sh hT)) f_X5_22 ⟨Nat.le_of_ble_eq_true rfl, Nat.le_of_ble_eq_true rfl, rfl⟩ rfl ?_
  refine go_alen dX5_add_8 (tel_ar hT) (Or.inr (Or.inr (Or.inl rfl))) (SH_lt (tel_ar hT)) (v := (nI (teN T))) rfl ?_
  refine go_icmp_lt (tgt := 13) dX5_add_9 (by decide) (fun c1 => ?_) (fun c1 => ?_)
  · have h := h.1 c1
    refine go_aload_n dX5_add_13 rfl 0 rfl ?_
    refine go_getR dX5_add_14 (tel_sh hT) (SH_lt (tel_sh hT)) f_X5_22 ⟨Nat.le_of_ble_eq_true rfl, Nat.le_of_ble_eq_true rfl, rfl⟩ rfl ?_
    refine go_aload_n dX5_add_17 rfl 0 rfl ?_
    refine go_getI dX5_add_18 (tel_sh hT) (SH_lt (tel_sh hT)) f_X5_26 ⟨Nat.le_of_ble_eq_true rfl, Nat.le_of_ble_eq_true rfl, rfl⟩ ?_
    have hb2 := h.1
    have h := h.2
    refine go_aald dX5_add_21 (tel_ar hT) (Or.inl rfl) (SH_lt (tel_ar hT)) hb2 rfl (tel_at (vp_lt hb2)) ?_
    refine go_astore_n dX5_add_22 rfl (Nat.le_of_ble_eq_true rfl) (L2 := [(3, .ref (T + 4 + nn (I T 3))), (0, .ref T), (1, .ref b1), (2, .int a2)]) rfl ?_
    refine go_aload_n dX5_add_23 rfl 0 rfl ?_
    refine go_aload_n dX5_add_24 rfl 2 rfl ?_
    refine go_iload_n dX5_add_25 rfl 3 rfl ?_
    refine go_vcall (Z := Y_X2_kindOf) (As := [.int a2]) (S := [.ref (T + 4 + nn (I T 3))]) dX5_add_26 ok_X2_kindOf l_X5_41 (by decide) (scr_sh hb1) (SH_lt (scr_sh hb1)) (Nat.le_of_ble_eq_true rfl) rfl rfl rfl (Nat.le_of_ble_eq_true rfl) h (fun _ I3 _ hq => ?_)
    obtain ⟨rfl, r4, rfl, h⟩ := hq
    show Go G Y_X5_add 29 [(3, .ref (T + 4 + nn (I T 3))), (0, .ref T), (1, .ref b1), (2, .int a2)] [.int r4, .ref (T + 4 + nn (I T 3))] SH I3 0 0 _
    refine go_putT dX5_add_29 (tel_tu hT (vp_lt hb2)) (SH_lt (tel_tu hT (vp_lt hb2))) p_X5_45 ⟨Nat.le_of_ble_eq_true rfl, Nat.le_of_ble_eq_true rfl, rfl⟩ rfl rfl ?_
    refine go_aload_n dX5_add_32 rfl 0 rfl ?_
    refine go_aload_n dX5_add_33 rfl 2 rfl ?_
    refine go_iload_n dX5_add_34 rfl 3 rfl ?_
    refine go_iconst dX5_add_35 (v := (1 : Int32)) (by decide) ?_
    refine go_vcall (Z := Y_X2_figure) (As := [.int a2, .int (1 : Int32)]) (S := [.ref (T + 4 + nn (I T 3))]) dX5_add_36 ok_X2_figure l_X5_48 (by decide) (scr_sh hb1) (SH_lt (scr_sh hb1)) (Nat.le_of_ble_eq_true rfl) rfl rfl rfl (Nat.le_of_ble_eq_true rfl) h (fun _ I5 _ hq => ?_)
    obtain ⟨rfl, r6, rfl, h⟩ := hq
    show Go G Y_X5_add 39 [(3, .ref (T + 4 + nn (I T 3))), (0, .ref T), (1, .ref b1), (2, .int a2)] [.int r6, .ref (T + 4 + nn (I T 3))] SH I5 0 0 _
    refine go_putT dX5_add_39 (tel_tu hT (vp_lt hb2)) (SH_lt (tel_tu hT (vp_lt hb2))) p_X5_52 ⟨Nat.le_of_ble_eq_true rfl, Nat.le_of_ble_eq_true rfl, rfl⟩ rfl rfl ?_
    refine go_aload_n dX5_add_42 rfl 1 rfl ?_
    refine go_aload_n dX5_add_43 rfl 0 rfl ?_
    refine go_getI dX5_add_44 (tel_tu hT (vp_lt hb2)) (SH_lt (tel_tu hT (vp_lt hb2))) f_X5_45 ⟨Nat.le_of_ble_eq_true rfl, Nat.le_of_ble_eq_true rfl, rfl⟩ ?_
    refine go_vcall (Z := Y_X5_howManyOf) (As := [.int ((st I5 (T + 4 + nn (I T 3)) 2 r6) (T + 4 + nn (I T 3)) 0)]) (S := []) dX5_add_47 ok_X5_howManyOf l_X5_55 (by decide) (tel_sh hT) (SH_lt (tel_sh hT)) (Nat.le_of_ble_eq_true rfl) rfl rfl rfl (Nat.le_of_ble_eq_true rfl) h (fun _ I7 _ hq => ?_)
    obtain ⟨rfl, r8, rfl, h⟩ := hq
    show Go G Y_X5_add 50 [(3, .ref (T + 4 + nn (I T 3))), (0, .ref T), (1, .ref b1), (2, .int a2)] [.int r8] SH I7 0 0 _
    refine go_istore dX5_add_50 (Nat.le_of_ble_eq_true rfl) (L2 := [(4, .int r8), (3, .ref (T + 4 + nn (I T 3))), (0, .ref T), (1, .ref b1), (2, .int a2)]) rfl ?_
    refine go_aload_n dX5_add_52 rfl 1 rfl ?_
    refine go_getI dX5_add_53 (tel_tu hT (vp_lt hb2)) (SH_lt (tel_tu hT (vp_lt hb2))) f_X5_45 ⟨Nat.le_of_ble_eq_true rfl, Nat.le_of_ble_eq_true rfl, rfl⟩ ?_
    refine go_iconst dX5_add_56 (v := (1 : Int32)) (by decide) ?_
    refine go_icmp_ne (tgt := 69) dX5_add_57 (by decide) (fun c9 => ?_) (fun c9 => ?_)
    · have h := h.1 c9
      refine go_iconst dX5_add_69 (v := (0 : Int32)) (by decide) ?_
      refine go_istore dX5_add_70 (Nat.le_of_ble_eq_true rfl) (L2 := [(5, .int (0 : Int32)), (4, .int r8), (3, .ref (T + 4 + nn (I T 3))), (0, .ref T), (1, .ref b1), (2, .int a2)]) rfl ?_
      exact go_loc [(0, .ref T), (1, .ref b1), (2, .int a2), (3, .ref (T + 4 + nn (I T 3))), (4, .int r8), (5, .int (0 : Int32))] [3, 4, 5, 2, 1, 0] rfl h
    · have h := h.2 c9
      refine go_iload dX5_add_60 0 rfl ?_
      refine go_if_le (tgt := 69) dX5_add_62 (by decide) (fun c10 => ?_) (fun c10 => ?_)
      · have h := h.1 c10
        refine go_iconst dX5_add_69 (v := (0 : Int32)) (by decide) ?_
        refine go_istore dX5_add_70 (Nat.le_of_ble_eq_true rfl) (L2 := [(5, .int (0 : Int32)), (4, .int r8), (3, .ref (T + 4 + nn (I T 3))), (0, .ref T), (1, .ref b1), (2, .int a2)]) rfl ?_
        exact go_loc [(0, .ref T), (1, .ref b1), (2, .int a2), (3, .ref (T + 4 + nn (I T 3))), (4, .int r8), (5, .int (0 : Int32))] [3, 4, 5, 2, 1, 0] rfl h
      · have h := h.2 c10
        refine go_iconst dX5_add_65 (v := (1 : Int32)) (by decide) ?_
        refine go_goto (tgt := 70) dX5_add_66 (by decide) ?_
        refine go_istore dX5_add_70 (Nat.le_of_ble_eq_true rfl) (L2 := [(5, .int (1 : Int32)), (4, .int r8), (3, .ref (T + 4 + nn (I T 3))), (0, .ref T), (1, .ref b1), (2, .int a2)]) rfl ?_
        exact go_loc [(0, .ref T), (1, .ref b1), (2, .int a2), (3, .ref (T + 4 + nn (I T 3))), (4, .int r8), (5, .int (1 : Int32))] [3, 4, 5, 2, 1, 0] rfl h
  · have h := h.2 c1
    exact go_vret dX5_add_12 rfl rfl (by decide) ⟨rfl, rfl, h⟩
set_option maxRecDepth 100000 in
set_option maxHeartbeats 4000000 in
theorem v_X5_add_72 {G : CX} {T : Nat} {b1 : Nat} {x2 : Int32} {q3 : Nat} {x4 : Int32} {x5 : Int32} (hT : isTel T) (hb1 : isScr b1) (hq3 : isTur q3) {I : HP} {Q : HP → Prop} (h : ((x5 = 0) → (RI G Y_X2_figure [.ref b1, .int x2, .int (0 : Int32)] I (fun I2 r3 => GV G Y_X5_add 91 [(0, .ref T), (1, .ref b1), (2, .int x2), (3, .ref q3), (4, .int x4), (5, .int x5)] (st I2 q3 1 r3) Q))) ∧ ((¬ x5 = 0) → (GV G Y_X5_add 91 [(0, .ref T), (1, .ref b1), (2, .int x2), (3, .ref q3), (4, .int x4), (5, .int x5)] (st I q3 1 (0 : Int32)) Q))) : GV G Y_X5_add 72 [(0, .ref T), (1, .ref b1), (2, .int x2), (3, .ref q3), (4, .int x4), (5, .int x5)] I Q := by
  show Go G Y_X5_add 72 [(0, .ref T), (1, .ref b1), (2, .int x2), (3, .ref q3), (4, .int x4), (5, .int x5)] [] SH I 0 0 _
  refine go_aload_n dX5_add_72 rfl 3 rfl ?_
  refine go_iload dX5_add_73 5 rfl ?_
  refine go_if_eq (tgt := 82) dX5_add_75 (by decide) (fun c1 => ?_) (fun c1 => ?_)
  · have h := h.1 c1
    refine go_aload_n dX5_add_82 rfl 1 rfl ?_
    refine go_iload_n dX5_add_83 rfl 2 rfl ?_
    refine go_iconst dX5_add_84 (v := (0 : Int32)) (by decide) ?_
    refine go_vcall (Z := Y_X2_figure) (As := [.int x2, .int (0 : Int32)]) (S := [.ref q3]) dX5_add_85 ok_X2_figure l_X5_48 (by decide) (scr_sh hb1) (SH_lt (scr_sh hb1)) (Nat.le_of_ble_eq_true rfl) rfl rfl rfl (Nat.le_of_ble_eq_true rfl) h (fun _ I2 _ hq => ?_)
    obtain ⟨rfl, r3, rfl, h⟩ := hq
    show Go G Y_X5_add 88 [(0, .ref T), (1, .ref b1), (2, .int x2), (3, .ref q3), (4, .int x4), (5, .int x5)] [.int r3, .ref q3] SH I2 0 0 _
    refine go_putT dX5_add_88 hq3 (SH_lt hq3) p_X5_58 ⟨Nat.le_of_ble_eq_true rfl, Nat.le_of_ble_eq_true rfl, rfl⟩ rfl rfl ?_
    exact go_loc [(0, .ref T), (1, .ref b1), (2, .int x2), (3, .ref q3), (4, .int x4), (5, .int x5)] [0, 1, 2, 3, 4, 5] rfl h
  · have h := h.2 c1
    refine go_iconst dX5_add_78 (v := (0 : Int32)) (by decide) ?_
    refine go_goto (tgt := 88) dX5_add_79 (by decide) ?_
    refine go_putT dX5_add_88 hq3 (SH_lt hq3) p_X5_58 ⟨Nat.le_of_ble_eq_true rfl, Nat.le_of_ble_eq_true rfl, rfl⟩ rfl rfl ?_
    exact go_loc [(0, .ref T), (1, .ref b1), (2, .int x2), (3, .ref q3), (4, .int x4), (5, .int x5)] [0, 1, 2, 3, 4, 5] rfl h
set_option maxRecDepth 100000 in
set_option maxHeartbeats 4000000 in
theorem v_X5_add_91 {G : CX} {T : Nat} {b1 : Nat} {x2 : Int32} {q3 : Nat} {x4 : Int32} {x5 : Int32} (hT : isTel T) (hb1 : isScr b1) (hq3 : isTur q3) {I : HP} {Q : HP → Prop} (h : ((x5 = 0) → (RI G Y_X2_figure [.ref b1, .int x2, .int (2 : Int32)] I (fun I2 r3 => GV G Y_X5_add 117 [(0, .ref T), (3, .ref q3)] (st I2 q3 3 (if (0 : Int32) < (r3 - x4) then (r3 - x4) else (0 : Int32))) Q))) ∧ ((¬ x5 = 0) → (GV G Y_X5_add 117 [(0, .ref T), (3, .ref q3)] (st I q3 3 (0 : Int32)) Q))) : GV G Y_X5_add 91 [(0, .ref T), (1, .ref b1), (2, .int x2), (3, .ref q3), (4, .int x4), (5, .int x5)] I Q := by
  show Go G Y_X5_add 91 [(0, .ref T), (1, .ref b1), (2, .int x2), (3, .ref q3), (4, .int x4), (5, .int x5)] [] SH I 0 0 _
  refine go_aload_n dX5_add_91 rfl 3 rfl ?_
  refine go_iload dX5_add_92 5 rfl ?_
  refine go_if_eq (tgt := 101) dX5_add_94 (by decide) (fun c1 => ?_) (fun c1 => ?_)
  · have h := h.1 c1
    refine go_iconst dX5_add_101 (v := (0 : Int32)) (by decide) ?_
    refine go_aload_n dX5_add_102 rfl 1 rfl ?_
    refine go_iload_n dX5_add_103 rfl 2 rfl ?_
    refine go_iconst dX5_add_104 (v := (2 : Int32)) (by decide) ?_
    refine go_vcall (Z := Y_X2_figure) (As := [.int x2, .int (2 : Int32)]) (S := [.int (0 : Int32), .ref q3]) dX5_add_105 ok_X2_figure l_X5_48 (by decide) (scr_sh hb1) (SH_lt (scr_sh hb1)) (Nat.le_of_ble_eq_true rfl) rfl rfl rfl (Nat.le_of_ble_eq_true rfl) h (fun _ I2 _ hq => ?_)
    obtain ⟨rfl, r3, rfl, h⟩ := hq
    show Go G Y_X5_add 108 [(0, .ref T), (1, .ref b1), (2, .int x2), (3, .ref q3), (4, .int x4), (5, .int x5)] [.int r3, .int (0 : Int32), .ref q3] SH I2 0 0 _
    refine go_iload dX5_add_108 4 rfl ?_
    refine go_isub dX5_add_110 ?_
    refine go_max dX5_add_111 ⟨l_X5_61, bt_max⟩ (by decide) (Nat.le_of_ble_eq_true rfl) ?_
    refine go_putT dX5_add_114 hq3 (SH_lt hq3) p_X5_66 ⟨Nat.le_of_ble_eq_true rfl, Nat.le_of_ble_eq_true rfl, rfl⟩ rfl rfl ?_
    exact go_loc [(0, .ref T), (3, .ref q3)] [0, 3] rfl h
  · have h := h.2 c1
    refine go_iconst dX5_add_97 (v := (0 : Int32)) (by decide) ?_
    refine go_goto (tgt := 114) dX5_add_98 (by decide) ?_
    refine go_putT dX5_add_114 hq3 (SH_lt hq3) p_X5_66 ⟨Nat.le_of_ble_eq_true rfl, Nat.le_of_ble_eq_true rfl, rfl⟩ rfl rfl ?_
    exact go_loc [(0, .ref T), (3, .ref q3)] [0, 3] rfl h
set_option maxRecDepth 100000 in
set_option maxHeartbeats 4000000 in
theorem v_X5_add_117 {G : CX} {T : Nat} {q3 : Nat} (hT : isTel T) (hq3 : isTur q3) {I : HP} {Q : HP → Prop} (h : RA G Y_X5_last [.ref T] I (fun I1 r2 => isTur r2 ∧ (RV G Y_X6_follow [.ref q3, .ref r2] I1 (fun I3 => ((((st I3 T 3 ((I3 T 3) + (1 : Int32))) q3 13) < ((st I3 T 3 ((I3 T 3) + (1 : Int32))) q3 9)) → (GV G Y_X5_add 157 [(0, .ref T), (3, .ref q3), (6, .ref r2), (7, .int (0 : Int32))] (st I3 T 3 ((I3 T 3) + (1 : Int32))) Q)) ∧ ((¬ ((st I3 T 3 ((I3 T 3) + (1 : Int32))) q3 13) < ((st I3 T 3 ((I3 T 3) + (1 : Int32))) q3 9)) → (GV G Y_X5_add 157 [(0, .ref T), (3, .ref q3), (6, .ref r2), (7, .int (1 : Int32))] (st I3 T 3 ((I3 T 3) + (1 : Int32))) Q)))))) : GV G Y_X5_add 117 [(0, .ref T), (3, .ref q3)] I Q := by
  show Go G Y_X5_add 117 [(0, .ref T), (3, .ref q3)] [] SH I 0 0 _
  refine go_aload_n dX5_add_117 rfl 0 rfl ?_
  refine go_vcall (Z := Y_X5_last) (As := []) (S := []) dX5_add_118 ok_X5_last l_X5_69 (by decide) (tel_sh hT) (SH_lt (tel_sh hT)) (Nat.le_of_ble_eq_true rfl) rfl rfl rfl (Nat.le_of_ble_eq_true rfl) h (fun _ I1 _ hq => ?_)
  obtain ⟨rfl, r2, rfl, h⟩ := hq
  have hr2 := h.1
  have h := h.2
  show Go G Y_X5_add 121 [(0, .ref T), (3, .ref q3)] [.ref r2] SH I1 0 0 _
  refine go_astore dX5_add_121 (Nat.le_of_ble_eq_true rfl) (L2 := [(6, .ref r2), (0, .ref T), (3, .ref q3)]) rfl ?_
  refine go_aload_n dX5_add_123 rfl 2 rfl ?_
  refine go_aload dX5_add_124 0 rfl ?_
  refine go_vcall (Z := Y_X6_follow) (As := [.ref r2]) (S := []) dX5_add_126 ok_X6_follow l_X5_73 (by decide) hq3 (SH_lt hq3) (Nat.le_of_ble_eq_true rfl) rfl rfl rfl (Nat.le_of_ble_eq_true rfl) h (fun _ I3 _ hq => ?_)
  obtain ⟨rfl, rfl, h⟩ := hq
  show Go G Y_X5_add 129 [(6, .ref r2), (0, .ref T), (3, .ref q3)] [] SH I3 0 0 _
  refine go_aload_n dX5_add_129 rfl 1 rfl ?_
  refine go_dup dX5_add_130 rfl ?_
  refine go_getI dX5_add_131 (tel_sh hT) (SH_lt (tel_sh hT)) f_X5_26 ⟨Nat.le_of_ble_eq_true rfl, Nat.le_of_ble_eq_true rfl, rfl⟩ ?_
  refine go_iconst dX5_add_134 (v := (1 : Int32)) (by decide) ?_
  refine go_iadd dX5_add_135 ?_
  refine go_putT dX5_add_136 (tel_sh hT) (SH_lt (tel_sh hT)) p_X5_26 ⟨Nat.le_of_ble_eq_true rfl, Nat.le_of_ble_eq_true rfl, rfl⟩ rfl rfl ?_
  refine go_aload_n dX5_add_139 rfl 2 rfl ?_
  refine go_getI dX5_add_140 hq3 (SH_lt hq3) f_X5_77 ⟨Nat.le_of_ble_eq_true rfl, Nat.le_of_ble_eq_true rfl, rfl⟩ ?_
  refine go_aload_n dX5_add_143 rfl 2 rfl ?_
  refine go_getI dX5_add_144 hq3 (SH_lt hq3) f_X5_80 ⟨Nat.le_of_ble_eq_true rfl, Nat.le_of_ble_eq_true rfl, rfl⟩ ?_
  refine go_icmp_gt (tgt := 154) dX5_add_147 (by decide) (fun c4 => ?_) (fun c4 => ?_)
  · have h := h.1 c4
    refine go_iconst dX5_add_154 (v := (0 : Int32)) (by decide) ?_
    refine go_istore dX5_add_155 (Nat.le_of_ble_eq_true rfl) (L2 := [(7, .int (0 : Int32)), (6, .ref r2), (0, .ref T), (3, .ref q3)]) rfl ?_
    exact go_loc [(0, .ref T), (3, .ref q3), (6, .ref r2), (7, .int (0 : Int32))] [2, 3, 1, 0] rfl h
  · have h := h.2 c4
    refine go_iconst dX5_add_150 (v := (1 : Int32)) (by decide) ?_
    refine go_goto (tgt := 155) dX5_add_151 (by decide) ?_
    refine go_istore dX5_add_155 (Nat.le_of_ble_eq_true rfl) (L2 := [(7, .int (1 : Int32)), (6, .ref r2), (0, .ref T), (3, .ref q3)]) rfl ?_
    exact go_loc [(0, .ref T), (3, .ref q3), (6, .ref r2), (7, .int (1 : Int32))] [2, 3, 1, 0] rfl h
set_option maxRecDepth 100000 in
set_option maxHeartbeats 4000000 in
theorem v_X5_add_157 {G : CX} {T : Nat} {q3 : Nat} {q6 : Nat} {x7 : Int32} (hT : isTel T) (hq3 : isTur q3) (hq6 : isTur q6) {I : HP} {Q : HP → Prop} (h : (((I q6 7) = (-1 : Int32)) → (Q I)) ∧ ((¬ (I q6 7) = (-1 : Int32)) → (((¬ x7 = 0) → (RV G Y_X6_beSaid [.ref q3, .int (I q6 7)] I (fun I3 => RV G Y_X6_beWritten [.ref q3, .int (I3 (T + 1) 1), .int (I3 (T + 1) 2), .int (I3 (T + 1) 3)] I3 (fun I4 => Q I4)))) ∧ ((x7 = 0) → (((¬ (I (T + 1) 4) = 0) → (Q I)) ∧ (((I (T + 1) 4) = 0) → (RV G Y_X6_beSaid [.ref q3, .int (I q6 7)] I (fun I6 => RV G Y_X6_beWritten [.ref q3, .int (I6 (T + 1) 1), .int (I6 (T + 1) 2), .int (I6 (T + 1) 3)] I6 (fun I7 => Q I7))))))))) : GV G Y_X5_add 157 [(0, .ref T), (3, .ref q3), (6, .ref q6), (7, .int x7)] I Q := by
  show Go G Y_X5_add 157 [(0, .ref T), (3, .ref q3), (6, .ref q6), (7, .int x7)] [] SH I 0 0 _
  refine go_aload dX5_add_157 2 rfl ?_
  refine go_getI dX5_add_159 hq6 (SH_lt hq6) f_X5_83 ⟨Nat.le_of_ble_eq_true rfl, Nat.le_of_ble_eq_true rfl, rfl⟩ ?_
  refine go_iconst dX5_add_162 (v := (-1 : Int32)) (by decide) ?_
  refine go_icmp_eq (tgt := 211) dX5_add_163 (by decide) (fun c1 => ?_) (fun c1 => ?_)
  · have h := h.1 c1
    exact go_vret dX5_add_211 rfl rfl (by decide) ⟨rfl, rfl, h⟩
  · have h := h.2 c1
    refine go_iload dX5_add_166 3 rfl ?_
    refine go_if_ne (tgt := 180) dX5_add_168 (by decide) (fun c2 => ?_) (fun c2 => ?_)
    · have h := h.1 c2
      refine go_aload_n dX5_add_180 rfl 1 rfl ?_
      refine go_aload dX5_add_181 2 rfl ?_
      refine go_getI dX5_add_183 hq6 (SH_lt hq6) f_X5_83 ⟨Nat.le_of_ble_eq_true rfl, Nat.le_of_ble_eq_true rfl, rfl⟩ ?_
      refine go_vcall (Z := Y_X6_beSaid) (As := [.int (I q6 7)]) (S := []) dX5_add_186 ok_X6_beSaid l_X5_86 (by decide) hq3 (SH_lt hq3) (Nat.le_of_ble_eq_true rfl) rfl rfl rfl (Nat.le_of_ble_eq_true rfl) h (fun _ I3 _ hq => ?_)
      obtain ⟨rfl, rfl, h⟩ := hq
      show Go G Y_X5_add 189 [(0, .ref T), (3, .ref q3), (6, .ref q6), (7, .int x7)] [] SH I3 0 0 _
      refine go_aload_n dX5_add_189 rfl 1 rfl ?_
      refine go_aload_n dX5_add_190 rfl 0 rfl ?_
      refine go_getR dX5_add_191 (tel_sh hT) (SH_lt (tel_sh hT)) f_X5_9 ⟨Nat.le_of_ble_eq_true rfl, Nat.le_of_ble_eq_true rfl, rfl⟩ rfl ?_
      refine go_iconst dX5_add_194 (v := (1 : Int32)) (by decide) ?_
      refine go_iald dX5_add_195 (tel_ru hT) (SH_lt (tel_ru hT)) (by unfold vp_in; decide) (j := 1) (by decide) ?_
      refine go_aload_n dX5_add_196 rfl 0 rfl ?_
      refine go_getR dX5_add_197 (tel_sh hT) (SH_lt (tel_sh hT)) f_X5_9 ⟨Nat.le_of_ble_eq_true rfl, Nat.le_of_ble_eq_true rfl, rfl⟩ rfl ?_
      refine go_iconst dX5_add_200 (v := (2 : Int32)) (by decide) ?_
      refine go_iald dX5_add_201 (tel_ru hT) (SH_lt (tel_ru hT)) (by unfold vp_in; decide) (j := 2) (by decide) ?_
      refine go_aload_n dX5_add_202 rfl 0 rfl ?_
      refine go_getR dX5_add_203 (tel_sh hT) (SH_lt (tel_sh hT)) f_X5_9 ⟨Nat.le_of_ble_eq_true rfl, Nat.le_of_ble_eq_true rfl, rfl⟩ rfl ?_
      refine go_iconst dX5_add_206 (v := (3 : Int32)) (by decide) ?_
      refine go_iald dX5_add_207 (tel_ru hT) (SH_lt (tel_ru hT)) (by unfold vp_in; decide) (j := 3) (by decide) ?_
      refine go_vcall (Z := Y_X6_beWritten) (As := [.int (I3 (T + 1) 1), .int (I3 (T + 1) 2), .int (I3 (T + 1) 3)]) (S := []) dX5_add_208 ok_X6_beWritten l_X5_89 (by decide) hq3 (SH_lt hq3) (Nat.le_of_ble_eq_true rfl) rfl rfl rfl (Nat.le_of_ble_eq_true rfl) h (fun _ I4 _ hq => ?_)
      obtain ⟨rfl, rfl, h⟩ := hq
      show Go G Y_X5_add 211 [(0, .ref T), (3, .ref q3), (6, .ref q6), (7, .int x7)] [] SH I4 0 0 _
      exact go_vret dX5_add_211 rfl rfl (by decide) ⟨rfl, rfl, h⟩
    · have h := h.2 c2
      refine go_aload_n dX5_add_171 rfl 0 rfl ?_
      refine go_getR dX5_add_172 (tel_sh hT) (SH_lt (tel_sh hT)) f_X5_9 ⟨Nat.le_of_ble_eq_true rfl, Nat.le_of_ble_eq_true rfl, rfl⟩ rfl ?_
      refine go_iconst dX5_add_175 (v := (4 : Int32)) (by decide) ?_
      refine go_iald dX5_add_176 (tel_ru hT) (SH_lt (tel_ru hT)) (by unfold vp_in; decide) (j := 4) (by decide) ?_
      refine go_if_ne (tgt := 211) dX5_add_177 (by decide) (fun c5 => ?_) (fun c5 => ?_)
      · have h := h.1 c5
        exact go_vret dX5_add_211 rfl rfl (by decide) ⟨rfl, rfl, h⟩
      · have h := h.2 c5
        refine go_aload_n dX5_add_180 rfl 1 rfl ?_
        refine go_aload dX5_add_181 2 rfl ?_
        refine go_getI dX5_add_183 hq6 (SH_lt hq6) f_X5_83 ⟨Nat.le_of_ble_eq_true rfl, Nat.le_of_ble_eq_true rfl, rfl⟩ ?_
        refine go_vcall (Z := Y_X6_beSaid) (As := [.int (I q6 7)]) (S := []) dX5_add_186 ok_X6_beSaid l_X5_86 (by decide) hq3 (SH_lt hq3) (Nat.le_of_ble_eq_true rfl) rfl rfl rfl (Nat.le_of_ble_eq_true rfl) h (fun _ I6 _ hq => ?_)
        obtain ⟨rfl, rfl, h⟩ := hq
        show Go G Y_X5_add 189 [(0, .ref T), (3, .ref q3), (6, .ref q6), (7, .int x7)] [] SH I6 0 0 _
        refine go_aload_n dX5_add_189 rfl 1 rfl ?_
        refine go_aload_n dX5_add_190 rfl 0 rfl ?_
        refine go_getR dX5_add_191 (tel_sh hT) (SH_lt (tel_sh hT)) f_X5_9 ⟨Nat.le_of_ble_eq_true rfl, Nat.le_of_ble_eq_true rfl, rfl⟩ rfl ?_
        refine go_iconst dX5_add_194 (v := (1 : Int32)) (by decide) ?_
        refine go_iald dX5_add_195 (tel_ru hT) (SH_lt (tel_ru hT)) (by unfold vp_in; decide) (j := 1) (by decide) ?_
        refine go_aload_n dX5_add_196 rfl 0 rfl ?_
        refine go_getR dX5_add_197 (tel_sh hT) (SH_lt (tel_sh hT)) f_X5_9 ⟨Nat.le_of_ble_eq_true rfl, Nat.le_of_ble_eq_true rfl, rfl⟩ rfl ?_
        refine go_iconst dX5_add_200 (v := (2 : Int32)) (by decide) ?_
        refine go_iald dX5_add_201 (tel_ru hT) (SH_lt (tel_ru hT)) (by unfold vp_in; decide) (j := 2) (by decide) ?_
        refine go_aload_n dX5_add_202 rfl 0 rfl ?_
        refine go_getR dX5_add_203 (tel_sh hT) (SH_lt (tel_sh hT)) f_X5_9 ⟨Nat.le_of_ble_eq_true rfl, Nat.le_of_ble_eq_true rfl, rfl⟩ rfl ?_
        refine go_iconst dX5_add_206 (v := (3 : Int32)) (by decide) ?_
        refine go_iald dX5_add_207 (tel_ru hT) (SH_lt (tel_ru hT)) (by unfold vp_in; decide) (j := 3) (by decide) ?_
        refine go_vcall (Z := Y_X6_beWritten) (As := [.int (I6 (T + 1) 1), .int (I6 (T + 1) 2), .int (I6 (T + 1) 3)]) (S := []) dX5_add_208 ok_X6_beWritten l_X5_89 (by decide) hq3 (SH_lt hq3) (Nat.le_of_ble_eq_true rfl) rfl rfl rfl (Nat.le_of_ble_eq_true rfl) h (fun _ I7 _ hq => ?_)
        obtain ⟨rfl, rfl, h⟩ := hq
        show Go G Y_X5_add 211 [(0, .ref T), (3, .ref q3), (6, .ref q6), (7, .int x7)] [] SH I7 0 0 _
        exact go_vret dX5_add_211 rfl rfl (by decide) ⟨rfl, rfl, h⟩
set_option maxRecDepth 100000 in
set_option maxHeartbeats 4000000 in
theorem v_X5_dropLast {G : CX} {T : Nat} (hT : isTel T) {I : HP} {Q : HP → Prop} (h : (((I T 3) ≤ 0) → (Q I)) ∧ ((¬ (I T 3) ≤ 0) → (Q (st I T 3 ((I T 3) - (1 : Int32)))))) : RV G Y_X5_dropLast [.ref T] I Q := by
  refine ret_of (show plainName RX5 = true by decide) (Nat.le_of_ble_eq_true rfl) ?_
  show Go G Y_X5_dropLast 0 [(0, .ref T)] [] SH I 0 0 _
  refine go_aload_n dX5_dropLast_0 rfl 0 rfl ?_
  refine go_getI dX5_dropLast_1 (tel_sh hT) (SH_lt (tel_sh hT)) f_X5_26 ⟨Nat.le_of_ble_eq_true rfl, Nat.le_of_ble_eq_true rfl, rfl⟩ ?_
  refine go_if_le (tgt := 17) dX5_dropLast_4 (by decide) (fun c1 => ?_) (fun c1 => ?_)
  · have h := h.1 c1
    exact go_vret dX5_dropLast_17 rfl rfl (by decide) ⟨rfl, rfl, h⟩
  · have h := h.2 c1
    refine go_aload_n dX5_dropLast_7 rfl 0 rfl ?_
    refine go_dup dX5_dropLast_8 rfl ?_
    refine go_getI dX5_dropLast_9 (tel_sh hT) (SH_lt (tel_sh hT)) f_X5_26 ⟨Nat.le_of_ble_eq_true rfl, Nat.le_of_ble_eq_true rfl, rfl⟩ ?_
    refine go_iconst dX5_dropLast_12 (v := (1 : Int32)) (by decide) ?_
    refine go_isub dX5_dropLast_13 ?_
    refine go_putT dX5_dropLast_14 (tel_sh hT) (SH_lt (tel_sh hT)) p_X5_26 ⟨Nat.le_of_ble_eq_true rfl, Nat.le_of_ble_eq_true rfl, rfl⟩ rfl rfl ?_
    exact go_vret dX5_dropLast_17 rfl rfl (by decide) ⟨rfl, rfl, h⟩
set_option maxRecDepth 100000 in
set_option maxHeartbeats 4000000 in
theorem v_X5_howManyOf {G : CX} {T : Nat} {a1 : Int32} (hT : isTel T) {I : HP} {Q : HP → Int32 → Prop} (h : GI G Y_X5_howManyOf 4 [(0, .ref T), (1, .int a1), (2, .int (0 : Int32)), (3, .int (0 : Int32))] I Q) : RI G Y_X5_howManyOf [.ref T, .int a1] I Q := by
  refine ret_of (show plainName RX5 = true by decide) (Nat.le_of_ble_eq_true rfl) ?_
  show Go G Y_X5_howManyOf 0 [(0, .ref T), (1, .int a1)] [] SH I 0 0 _
  refine go_iconst dX5_howManyOf_0 (v := (0 : Int32)) (by decide) ?_
  refine go_istore_n dX5_howManyOf_1 rfl (Nat.le_of_ble_eq_true rfl) (L2 := [(2, .int (0 : Int32)), (0, .ref T), (1, .int a1)]) rfl ?_
  refine go_iconst dX5_howManyOf_2 (v := (0 : Int32)) (by decide) ?_
  refine go_istore_n dX5_howManyOf_3 rfl (Nat.le_of_ble_eq_true rfl) (L2 := [(3, .int (0 : Int32)), (2, .int (0 : Int32)), (0, .ref T), (1, .int a1)]) rfl ?_
  exact go_loc [(0, .ref T), (1, .int a1), (2, .int (0 : Int32)), (3, .int (0 : Int32))] [2, 3, 1, 0] rfl h
set_option maxRecDepth 100000 in
set_option maxHeartbeats 4000000 in
theorem v_X5_howManyOf_4 {G : CX} {T : Nat} {x1 : Int32} {x2 : Int32} {x3 : Int32} (hT : isTel T) {I : HP} {Q : HP → Int32 → Prop} (h : (((I T 3) ≤ x3) → (Q I x2)) ∧ ((¬ (I T 3) ≤ x3) → ((vp_in x3 (teN T)) ∧ (((¬ (I (T + 4 + nn x3) 0) = x1) → (GI G Y_X5_howManyOf 4 [(0, .ref T), (1, .int x1), (2, .int x2), (3, .int (x3 + 1))] I Q)) ∧ (((I (T + 4 + nn x3) 0) = x1) → (GI G Y_X5_howManyOf 4 [(0, .ref T), (1, .int x1), (2, .int (x2 + 1)), (3, .int (x3 + 1))] I Q)))))) : GI G Y_X5_howManyOf 4 [(0, .ref T), (1, .int x1), (2, .int x2), (3, .int x3)] I Q := by
  show Go G Y_X5_howManyOf 4 [(0, .ref T), (1, .int x1), (2, .int x2), (3, .int x3)] [] SH I 0 0 _
  refine go_iload_n dX5_howManyOf_4 rfl 3 rfl ?_
  refine go_aload_n dX5_howManyOf_5 rfl 0 rfl ?_
  refine go_getI dX5_howManyOf_6 (tel_sh hT) (SH_lt (tel_sh hT)) f_X5_26 ⟨Nat.le_of_ble_eq_true rfl, Nat.le_of_ble_eq_true rfl, rfl⟩ ?_
  refine go_icmp_ge (tgt := 34) dX5_howManyOf_9 (by decide) (fun c1 => ?_) (fun c1 => ?_)
  · have h := h.1 c1
    refine go_iload_n dX5_howManyOf_34 rfl 2 rfl ?_
    exact go_iret dX5_howManyOf_35 rfl rfl (by decide) ⟨rfl, _, rfl, h⟩
  · have h := h.2 c1
    refine go_aload_n dX5_howManyOf_12 rfl 0 rfl ?_
    refine go_getR dX5_howManyOf_13 (tel_sh hT) (SH_lt (tel_sh hT)) f_X5_22 ⟨Nat.le_of_ble_eq_true rfl, Nat.le_of_ble_eq_true rfl, rfl⟩ rfl ?_
    refine go_iload_n dX5_howManyOf_16 rfl 3 rfl ?_
    have hb2 := h.1
    have h := h.2
    refine go_aald dX5_howManyOf_17 (tel_ar hT) (Or.inl rfl) (SH_lt (tel_ar hT)) hb2 rfl (tel_at (vp_lt hb2)) ?_
    refine go_getI dX5_howManyOf_18 (tel_tu hT (vp_lt hb2)) (SH_lt (tel_tu hT (vp_lt hb2))) f_X5_45 ⟨Nat.le_of_ble_eq_true rfl, Nat.le_of_ble_eq_true rfl, rfl⟩ ?_
    refine go_iload_n dX5_howManyOf_21 rfl 1 rfl ?_
    refine go_icmp_ne (tgt := 28) dX5_howManyOf_22 (by decide) (fun c3 => ?_) (fun c3 => ?_)
    · have h := h.1 c3
      refine go_iinc dX5_howManyOf_28 3 rfl (v := (x3 + 1)) rfl (Nat.le_of_ble_eq_true rfl) (L2 := [(3, .int (x3 + 1)), (0, .ref T), (1, .int x1), (2, .int x2)]) rfl ?_
      refine go_goto (tgt := 4) dX5_howManyOf_31 (by decide) ?_
      exact go_loc [(0, .ref T), (1, .int x1), (2, .int x2), (3, .int (x3 + 1))] [1, 2, 3, 0] rfl h
    · have h := h.2 c3
      refine go_iinc dX5_howManyOf_25 2 rfl (v := (x2 + 1)) rfl (Nat.le_of_ble_eq_true rfl) (L2 := [(2, .int (x2 + 1)), (0, .ref T), (1, .int x1), (3, .int x3)]) rfl ?_
      refine go_iinc dX5_howManyOf_28 3 rfl (v := (x3 + 1)) rfl (Nat.le_of_ble_eq_true rfl) (L2 := [(3, .int (x3 + 1)), (2, .int (x2 + 1)), (0, .ref T), (1, .int x1)]) rfl ?_
      refine go_goto (tgt := 4) dX5_howManyOf_31 (by decide) ?_
      exact go_loc [(0, .ref T), (1, .int x1), (2, .int (x2 + 1)), (3, .int (x3 + 1))] [2, 3, 1, 0] rfl h
set_option maxRecDepth 100000 in
set_option maxHeartbeats 4000000 in
theorem v_X5_turnAt {G : CX} {T : Nat} {a1 : Int32} (hT : isTel T) {I : HP} {Q : HP → Nat → Prop} (h : ((a1 < 0) → (Q I (T + 2))) ∧ ((¬ a1 < 0) → ((((I T 3) ≤ a1) → (Q I (T + 2))) ∧ ((¬ (I T 3) ≤ a1) → ((vp_in a1 (teN T)) ∧ (Q I (T + 4 + nn a1))))))) : RA G Y_X5_turnAt [.ref T, .int a1] I Q := by
  refine ret_of (show plainName RX5 = true by decide) (Nat.le_of_ble_eq_true rfl) ?_
  show Go G Y_X5_turnAt 0 [(0, .ref T), (1, .int a1)] [] SH I 0 0 _
  refine go_iload_n dX5_turnAt_0 rfl 1 rfl ?_
  refine go_if_lt (tgt := 21) dX5_turnAt_1 (by decide) (fun c1 => ?_) (fun c1 => ?_)
  · have h := h.1 c1
    refine go_aload_n dX5_turnAt_21 rfl 0 rfl ?_
    refine go_getR dX5_turnAt_22 (tel_sh hT) (SH_lt (tel_sh hT)) f_X5_18 ⟨Nat.le_of_ble_eq_true rfl, Nat.le_of_ble_eq_true rfl, rfl⟩ rfl ?_
    exact go_aret dX5_turnAt_25 rfl rfl (by decide) ⟨rfl, _, rfl, h⟩
  · have h := h.2 c1
    refine go_iload_n dX5_turnAt_4 rfl 1 rfl ?_
    refine go_aload_n dX5_turnAt_5 rfl 0 rfl ?_
    refine go_getI dX5_turnAt_6 (tel_sh hT) (SH_lt (tel_sh hT)) f_X5_26 ⟨Nat.le_of_ble_eq_true rfl, Nat.le_of_ble_eq_true rfl, rfl⟩ ?_
    refine go_icmp_ge (tgt := 21) dX5_turnAt_9 (by decide) (fun c2 => ?_) (fun c2 => ?_)
    · have h := h.1 c2
      refine go_aload_n dX5_turnAt_21 rfl 0 rfl ?_
      refine go_getR dX5_turnAt_22 (tel_sh hT) (SH_lt (tel_sh hT)) f_X5_18 ⟨Nat.le_of_ble_eq_true rfl, Nat.le_of_ble_eq_true rfl, rfl⟩ rfl ?_
      exact go_aret dX5_turnAt_25 rfl rfl (by decide) ⟨rfl, _, rfl, h⟩
    · have h := h.2 c2
      refine go_aload_n dX5_turnAt_12 rfl 0 rfl ?_
      refine go_getR dX5_turnAt_13 (tel_sh hT) (SH_lt (tel_sh hT)) f_X5_22 ⟨Nat.le_of_ble_eq_true rfl, Nat.le_of_ble_eq_true rfl, rfl⟩ rfl ?_
      refine go_iload_n dX5_turnAt_16 rfl 1 rfl ?_
      have hb3 := h.1
      have h := h.2
      refine go_aald dX5_turnAt_17 (tel_ar hT) (Or.inl rfl) (SH_lt (tel_ar hT)) hb3 rfl (tel_at (vp_lt hb3)) ?_
      refine go_goto (tgt := 25) dX5_turnAt_18 (by decide) ?_
      exact go_aret dX5_turnAt_25 rfl rfl (by decide) ⟨rfl, _, rfl, h⟩
set_option maxRecDepth 100000 in
set_option maxHeartbeats 4000000 in
theorem v_X5_last {G : CX} {T : Nat} (hT : isTel T) {I : HP} {Q : HP → Nat → Prop} (h : RA G Y_X5_turnAt [.ref T, .int ((I T 3) - (1 : Int32))] I (fun I1 r2 => isTur r2 ∧ (Q I1 r2))) : RA G Y_X5_last [.ref T] I Q := by
  refine ret_of (show plainName RX5 = true by decide) (Nat.le_of_ble_eq_true rfl) ?_
  show Go G Y_X5_last 0 [(0, .ref T)] [] SH I 0 0 _
  refine go_aload_n dX5_last_0 rfl 0 rfl ?_
  refine go_aload_n dX5_last_1 rfl 0 rfl ?_
  refine go_getI dX5_last_2 (tel_sh hT) (SH_lt (tel_sh hT)) f_X5_26 ⟨Nat.le_of_ble_eq_true rfl, Nat.le_of_ble_eq_true rfl, rfl⟩ ?_
  refine go_iconst dX5_last_5 (v := (1 : Int32)) (by decide) ?_
  refine go_isub dX5_last_6 ?_
  refine go_vcall (Z := Y_X5_turnAt) (As := [.int ((I T 3) - (1 : Int32))]) (S := []) dX5_last_7 ok_X5_turnAt l_X5_93 (by decide) (tel_sh hT) (SH_lt (tel_sh hT)) (Nat.le_of_ble_eq_true rfl) rfl rfl rfl (Nat.le_of_ble_eq_true rfl) h (fun _ I1 _ hq => ?_)
  obtain ⟨rfl, r2, rfl, h⟩ := hq
  have hr2 := h.1
  have h := h.2
  show Go G Y_X5_last 10 [(0, .ref T)] [.ref r2] SH I1 0 0 _
  exact go_aret dX5_last_10 rfl rfl (by decide) ⟨rfl, _, rfl, h⟩
set_option maxRecDepth 100000 in
set_option maxHeartbeats 4000000 in
theorem v_X5_isWholeWithoutPause {G : CX} {T : Nat} (hT : isTel T) {I : HP} {Q : HP → Bool → Prop} (h : RA G Y_X5_last [.ref T] I (fun I1 r2 => isTur r2 ∧ ((((I1 r2 7) = (-1 : Int32)) → (Q I1 false)) ∧ ((¬ (I1 r2 7) = (-1 : Int32)) → (RA G Y_X5_last [.ref T] I1 (fun I4 r5 => isTur r5 ∧ (((¬ (I4 r5 10) = 0) → (Q I4 false)) ∧ (((I4 r5 10) = 0) → (Q I4 true))))))))) : RZ G Y_X5_isWholeWithoutPause [.ref T] I Q := by
  refine ret_of (show plainName RX5 = true by decide) (Nat.le_of_ble_eq_true rfl) ?_
  show Go G Y_X5_isWholeWithoutPause 0 [(0, .ref T)] [] SH I 0 0 _
  refine go_aload_n dX5_isWholeWithoutPause_0 rfl 0 rfl ?_
  refine go_vcall (Z := Y_X5_last) (As := []) (S := []) dX5_isWholeWithoutPause_1 ok_X5_last l_X5_69 (by decide) (tel_sh hT) (SH_lt (tel_sh hT)) (Nat.le_of_ble_eq_true rfl) rfl rfl rfl (Nat.le_of_ble_eq_true rfl) h (fun _ I1 _ hq => ?_)
  obtain ⟨rfl, r2, rfl, h⟩ := hq
  have hr2 := h.1
  have h := h.2
  show Go G Y_X5_isWholeWithoutPause 4 [(0, .ref T)] [.ref r2] SH I1 0 0 _
  refine go_getI dX5_isWholeWithoutPause_4 hr2 (SH_lt hr2) f_X5_83 ⟨Nat.le_of_ble_eq_true rfl, Nat.le_of_ble_eq_true rfl, rfl⟩ ?_
  refine go_iconst dX5_isWholeWithoutPause_7 (v := (-1 : Int32)) (by decide) ?_
  refine go_icmp_eq (tgt := 25) dX5_isWholeWithoutPause_8 (by decide) (fun c3 => ?_) (fun c3 => ?_)
  · have h := h.1 c3
    refine go_iconst dX5_isWholeWithoutPause_25 (v := (0 : Int32)) (by decide) ?_
    exact go_zret dX5_isWholeWithoutPause_26 rfl rfl rfl (by decide) ⟨rfl, false, rfl, h⟩
  · have h := h.2 c3
    refine go_aload_n dX5_isWholeWithoutPause_11 rfl 0 rfl ?_
    refine go_vcall (Z := Y_X5_last) (As := []) (S := []) dX5_isWholeWithoutPause_12 ok_X5_last l_X5_69 (by decide) (tel_sh hT) (SH_lt (tel_sh hT)) (Nat.le_of_ble_eq_true rfl) rfl rfl rfl (Nat.le_of_ble_eq_true rfl) h (fun _ I4 _ hq => ?_)
    obtain ⟨rfl, r5, rfl, h⟩ := hq
    have hr5 := h.1
    have h := h.2
    show Go G Y_X5_isWholeWithoutPause 15 [(0, .ref T)] [.ref r5] SH I4 0 0 _
    refine go_getI dX5_isWholeWithoutPause_15 hr5 (SH_lt hr5) f_X5_97 ⟨Nat.le_of_ble_eq_true rfl, Nat.le_of_ble_eq_true rfl, rfl⟩ ?_
    refine go_if_ne (tgt := 25) dX5_isWholeWithoutPause_18 (by decide) (fun c6 => ?_) (fun c6 => ?_)
    · have h := h.1 c6
      refine go_iconst dX5_isWholeWithoutPause_25 (v := (0 : Int32)) (by decide) ?_
      exact go_zret dX5_isWholeWithoutPause_26 rfl rfl rfl (by decide) ⟨rfl, false, rfl, h⟩
    · have h := h.2 c6
      refine go_iconst dX5_isWholeWithoutPause_21 (v := (1 : Int32)) (by decide) ?_
      refine go_goto (tgt := 26) dX5_isWholeWithoutPause_22 (by decide) ?_
      exact go_zret dX5_isWholeWithoutPause_26 rfl rfl rfl (by decide) ⟨rfl, true, rfl, h⟩
set_option maxRecDepth 100000 in
set_option maxHeartbeats 4000000 in
theorem v_X5_howManyWritten {G : CX} {T : Nat} (hT : isTel T) {I : HP} {Q : HP → Int32 → Prop} (h : GI G Y_X5_howManyWritten 2 [(0, .ref T), (1, .int (0 : Int32))] I Q) : RI G Y_X5_howManyWritten [.ref T] I Q := by
  refine ret_of (show plainName RX5 = true by decide) (Nat.le_of_ble_eq_true rfl) ?_
  show Go G Y_X5_howManyWritten 0 [(0, .ref T)] [] SH I 0 0 _
  refine go_iconst dX5_howManyWritten_0 (v := (0 : Int32)) (by decide) ?_
  refine go_istore_n dX5_howManyWritten_1 rfl (Nat.le_of_ble_eq_true rfl) (L2 := [(1, .int (0 : Int32)), (0, .ref T)]) rfl ?_
  exact go_loc [(0, .ref T), (1, .int (0 : Int32))] [1, 0] rfl h
set_option maxRecDepth 100000 in
set_option maxHeartbeats 4000000 in
theorem v_X5_howManyWritten_2 {G : CX} {T : Nat} {x1 : Int32} (hT : isTel T) {I : HP} {Q : HP → Int32 → Prop} (h : (((I T 3) ≤ x1) → (Q I x1)) ∧ ((¬ (I T 3) ≤ x1) → ((vp_in x1 (teN T)) ∧ ((((I (T + 4 + nn x1) 7) = (-1 : Int32)) → (Q I x1)) ∧ ((¬ (I (T + 4 + nn x1) 7) = (-1 : Int32)) → (GI G Y_X5_howManyWritten 2 [(0, .ref T), (1, .int (x1 + 1))] I Q)))))) : GI G Y_X5_howManyWritten 2 [(0, .ref T), (1, .int x1)] I Q := by
  show Go G Y_X5_howManyWritten 2 [(0, .ref T), (1, .int x1)] [] SH I 0 0 _
  refine go_iload_n dX5_howManyWritten_2 rfl 1 rfl ?_
  refine go_aload_n dX5_howManyWritten_3 rfl 0 rfl ?_
  refine go_getI dX5_howManyWritten_4 (tel_sh hT) (SH_lt (tel_sh hT)) f_X5_26 ⟨Nat.le_of_ble_eq_true rfl, Nat.le_of_ble_eq_true rfl, rfl⟩ ?_
  refine go_icmp_ge (tgt := 29) dX5_howManyWritten_7 (by decide) (fun c1 => ?_) (fun c1 => ?_)
  · have h := h.1 c1
    refine go_iload_n dX5_howManyWritten_29 rfl 1 rfl ?_
    exact go_iret dX5_howManyWritten_30 rfl rfl (by decide) ⟨rfl, _, rfl, h⟩
  · have h := h.2 c1
    refine go_aload_n dX5_howManyWritten_10 rfl 0 rfl ?_
    refine go_getR dX5_howManyWritten_11 (tel_sh hT) (SH_lt (tel_sh hT)) f_X5_22 ⟨Nat.le_of_ble_eq_true rfl, Nat.le_of_ble_eq_true rfl, rfl⟩ rfl ?_
    refine go_iload_n dX5_howManyWritten_14 rfl 1 rfl ?_
    have hb2 := h.1
    have h := h.2
    refine go_aald dX5_howManyWritten_15 (tel_ar hT) (Or.inl rfl) (SH_lt (tel_ar hT)) hb2 rfl (tel_at (vp_lt hb2)) ?_
    refine go_getI dX5_howManyWritten_16 (tel_tu hT (vp_lt hb2)) (SH_lt (tel_tu hT (vp_lt hb2))) f_X5_83 ⟨Nat.le_of_ble_eq_true rfl, Nat.le_of_ble_eq_true rfl, rfl⟩ ?_
    refine go_iconst dX5_howManyWritten_19 (v := (-1 : Int32)) (by decide) ?_
    refine go_icmp_eq (tgt := 29) dX5_howManyWritten_20 (by decide) (fun c3 => ?_) (fun c3 => ?_)
    · have h := h.1 c3
      refine go_iload_n dX5_howManyWritten_29 rfl 1 rfl ?_
      exact go_iret dX5_howManyWritten_30 rfl rfl (by decide) ⟨rfl, _, rfl, h⟩
    · have h := h.2 c3
      refine go_iinc dX5_howManyWritten_23 1 rfl (v := (x1 + 1)) rfl (Nat.le_of_ble_eq_true rfl) (L2 := [(1, .int (x1 + 1)), (0, .ref T)]) rfl ?_
      refine go_goto (tgt := 2) dX5_howManyWritten_26 (by decide) ?_
      exact go_loc [(0, .ref T), (1, .int (x1 + 1))] [1, 0] rfl h
set_option maxRecDepth 100000 in
set_option maxHeartbeats 4000000 in
theorem v_X5_lastWritten {G : CX} {T : Nat} (hT : isTel T) {I : HP} {Q : HP → Int32 → Prop} (h : RI G Y_X5_howManyWritten [.ref T] I (fun I1 r2 => RA G Y_X5_turnAt [.ref T, .int (r2 - (1 : Int32))] I1 (fun I3 r4 => isTur r4 ∧ (Q I3 (I3 r4 7))))) : RI G Y_X5_lastWritten [.ref T] I Q := by
  refine ret_of (show plainName RX5 = true by decide) (Nat.le_of_ble_eq_true rfl) ?_
  show Go G Y_X5_lastWritten 0 [(0, .ref T)] [] SH I 0 0 _
  refine go_aload_n dX5_lastWritten_0 rfl 0 rfl ?_
  refine go_aload_n dX5_lastWritten_1 rfl 0 rfl ?_
  refine go_vcall (Z := Y_X5_howManyWritten) (As := []) (S := [.ref T]) dX5_lastWritten_2 ok_X5_howManyWritten l_X5_100 (by decide) (tel_sh hT) (SH_lt (tel_sh hT)) (Nat.le_of_ble_eq_true rfl) rfl rfl rfl (Nat.le_of_ble_eq_true rfl) h (fun _ I1 _ hq => ?_)
  obtain ⟨rfl, r2, rfl, h⟩ := hq
  show Go G Y_X5_lastWritten 5 [(0, .ref T)] [.int r2, .ref T] SH I1 0 0 _
  refine go_iconst dX5_lastWritten_5 (v := (1 : Int32)) (by decide) ?_
  refine go_isub dX5_lastWritten_6 ?_
  refine go_vcall (Z := Y_X5_turnAt) (As := [.int (r2 - (1 : Int32))]) (S := []) dX5_lastWritten_7 ok_X5_turnAt l_X5_93 (by decide) (tel_sh hT) (SH_lt (tel_sh hT)) (Nat.le_of_ble_eq_true rfl) rfl rfl rfl (Nat.le_of_ble_eq_true rfl) h (fun _ I3 _ hq => ?_)
  obtain ⟨rfl, r4, rfl, h⟩ := hq
  have hr4 := h.1
  have h := h.2
  show Go G Y_X5_lastWritten 10 [(0, .ref T)] [.ref r4] SH I3 0 0 _
  refine go_getI dX5_lastWritten_10 hr4 (SH_lt hr4) f_X5_83 ⟨Nat.le_of_ble_eq_true rfl, Nat.le_of_ble_eq_true rfl, rfl⟩ ?_
  exact go_iret dX5_lastWritten_13 rfl rfl (by decide) ⟨rfl, _, rfl, h⟩
set_option maxRecDepth 100000 in
set_option maxHeartbeats 4000000 in
theorem v_X5_saidIn {G : CX} {T : Nat} {a1 : Int32} (hT : isTel T) {I : HP} {Q : HP → Int32 → Prop} (h : GI G Y_X5_saidIn 2 [(0, .ref T), (1, .int a1), (2, .int (0 : Int32))] I Q) : RI G Y_X5_saidIn [.ref T, .int a1] I Q := by
  refine ret_of (show plainName RX5 = true by decide) (Nat.le_of_ble_eq_true rfl) ?_
  show Go G Y_X5_saidIn 0 [(0, .ref T), (1, .int a1)] [] SH I 0 0 _
  refine go_iconst dX5_saidIn_0 (v := (0 : Int32)) (by decide) ?_
  refine go_istore_n dX5_saidIn_1 rfl (Nat.le_of_ble_eq_true rfl) (L2 := [(2, .int (0 : Int32)), (0, .ref T), (1, .int a1)]) rfl ?_
  exact go_loc [(0, .ref T), (1, .int a1), (2, .int (0 : Int32))] [1, 2, 0] rfl h
set_option maxRecDepth 100000 in
set_option maxHeartbeats 4000000 in
theorem v_X5_saidIn_2 {G : CX} {T : Nat} {x1 : Int32} {x2 : Int32} (hT : isTel T) {I : HP} {Q : HP → Int32 → Prop} (h : (((I T 3) ≤ x2) → (Q I (-1 : Int32))) ∧ ((¬ (I T 3) ≤ x2) → ((vp_in x2 (teN T)) ∧ (RZ G Y_X5_isSaidIn [.ref (T + 4 + nn x2), .int x1] I (fun I3 r4 => (((bI r4) = 0) → (GI G Y_X5_saidIn 2 [(0, .ref T), (1, .int x1), (2, .int (x2 + 1))] I3 Q)) ∧ ((¬ (bI r4) = 0) → (Q I3 x2))))))) : GI G Y_X5_saidIn 2 [(0, .ref T), (1, .int x1), (2, .int x2)] I Q := by
  show Go G Y_X5_saidIn 2 [(0, .ref T), (1, .int x1), (2, .int x2)] [] SH I 0 0 _
  refine go_iload_n dX5_saidIn_2 rfl 2 rfl ?_
  refine go_aload_n dX5_saidIn_3 rfl 0 rfl ?_
  refine go_getI dX5_saidIn_4 (tel_sh hT) (SH_lt (tel_sh hT)) f_X5_26 ⟨Nat.le_of_ble_eq_true rfl, Nat.le_of_ble_eq_true rfl, rfl⟩ ?_
  refine go_icmp_ge (tgt := 31) dX5_saidIn_7 (by decide) (fun c1 => ?_) (fun c1 => ?_)
  · have h := h.1 c1
    refine go_iconst dX5_saidIn_31 (v := (-1 : Int32)) (by decide) ?_
    exact go_iret dX5_saidIn_32 rfl rfl (by decide) ⟨rfl, _, rfl, h⟩
  · have h := h.2 c1
    refine go_aload_n dX5_saidIn_10 rfl 0 rfl ?_
    refine go_getR dX5_saidIn_11 (tel_sh hT) (SH_lt (tel_sh hT)) f_X5_22 ⟨Nat.le_of_ble_eq_true rfl, Nat.le_of_ble_eq_true rfl, rfl⟩ rfl ?_
    refine go_iload_n dX5_saidIn_14 rfl 2 rfl ?_
    have hb2 := h.1
    have h := h.2
    refine go_aald dX5_saidIn_15 (tel_ar hT) (Or.inl rfl) (SH_lt (tel_ar hT)) hb2 rfl (tel_at (vp_lt hb2)) ?_
    refine go_iload_n dX5_saidIn_16 rfl 1 rfl ?_
    refine go_scall (Z := Y_X5_isSaidIn) (As := [.ref (T + 4 + nn x2), .int x1]) (S := []) dX5_saidIn_17 ok_X5_isSaidIn l_X5_104 (by decide) rfl rfl (Nat.le_of_ble_eq_true rfl) h (fun _ I3 _ hq => ?_)
    obtain ⟨rfl, r4, rfl, h⟩ := hq
    show Go G Y_X5_saidIn 20 [(0, .ref T), (1, .int x1), (2, .int x2)] [.int (bI r4)] SH I3 0 0 _
    refine go_if_eq (tgt := 25) dX5_saidIn_20 (by decide) (fun c5 => ?_) (fun c5 => ?_)
    · have h := h.1 c5
      refine go_iinc dX5_saidIn_25 2 rfl (v := (x2 + 1)) rfl (Nat.le_of_ble_eq_true rfl) (L2 := [(2, .int (x2 + 1)), (0, .ref T), (1, .int x1)]) rfl ?_
      refine go_goto (tgt := 2) dX5_saidIn_28 (by decide) ?_
      exact go_loc [(0, .ref T), (1, .int x1), (2, .int (x2 + 1))] [1, 2, 0] rfl h
    · have h := h.2 c5
      refine go_iload_n dX5_saidIn_23 rfl 2 rfl ?_
      exact go_iret dX5_saidIn_24 rfl rfl (by decide) ⟨rfl, _, rfl, h⟩
set_option maxRecDepth 100000 in
set_option maxHeartbeats 4000000 in
theorem v_X5_isSaidIn {G : CX} {b1 : Nat} {a2 : Int32} (hb1 : isTur b1) {I : HP} {Q : HP → Bool → Prop} (h : (((I b1 4) = (-1 : Int32)) → (Q I false)) ∧ ((¬ (I b1 4) = (-1 : Int32)) → (((a2 < (I b1 4)) → (Q I false)) ∧ ((¬ a2 < (I b1 4)) → ((((I b1 5) ≤ a2) → (Q I false)) ∧ ((¬ (I b1 5) ≤ a2) → (Q I true))))))) : RZ G Y_X5_isSaidIn [.ref b1, .int a2] I Q := by
  refine ret_of (show plainName RX5 = true by decide) (Nat.le_of_ble_eq_true rfl) ?_
  show Go G Y_X5_isSaidIn 0 [(0, .ref b1), (1, .int a2)] [] SH I 0 0 _
  refine go_aload_n dX5_isSaidIn_0 rfl 0 rfl ?_
  refine go_getI dX5_isSaidIn_1 hb1 (SH_lt hb1) f_X5_108 ⟨Nat.le_of_ble_eq_true rfl, Nat.le_of_ble_eq_true rfl, rfl⟩ ?_
  refine go_iconst dX5_isSaidIn_4 (v := (-1 : Int32)) (by decide) ?_
  refine go_icmp_eq (tgt := 28) dX5_isSaidIn_5 (by decide) (fun c1 => ?_) (fun c1 => ?_)
  · have h := h.1 c1
    refine go_iconst dX5_isSaidIn_28 (v := (0 : Int32)) (by decide) ?_
    exact go_zret dX5_isSaidIn_29 rfl rfl rfl (by decide) ⟨rfl, false, rfl, h⟩
  · have h := h.2 c1
    refine go_aload_n dX5_isSaidIn_8 rfl 0 rfl ?_
    refine go_getI dX5_isSaidIn_9 hb1 (SH_lt hb1) f_X5_108 ⟨Nat.le_of_ble_eq_true rfl, Nat.le_of_ble_eq_true rfl, rfl⟩ ?_
    refine go_iload_n dX5_isSaidIn_12 rfl 1 rfl ?_
    refine go_icmp_gt (tgt := 28) dX5_isSaidIn_13 (by decide) (fun c2 => ?_) (fun c2 => ?_)
    · have h := h.1 c2
      refine go_iconst dX5_isSaidIn_28 (v := (0 : Int32)) (by decide) ?_
      exact go_zret dX5_isSaidIn_29 rfl rfl rfl (by decide) ⟨rfl, false, rfl, h⟩
    · have h := h.2 c2
      refine go_iload_n dX5_isSaidIn_16 rfl 1 rfl ?_
      refine go_aload_n dX5_isSaidIn_17 rfl 0 rfl ?_
      refine go_getI dX5_isSaidIn_18 hb1 (SH_lt hb1) f_X5_111 ⟨Nat.le_of_ble_eq_true rfl, Nat.le_of_ble_eq_true rfl, rfl⟩ ?_
      refine go_icmp_ge (tgt := 28) dX5_isSaidIn_21 (by decide) (fun c3 => ?_) (fun c3 => ?_)
      · have h := h.1 c3
        refine go_iconst dX5_isSaidIn_28 (v := (0 : Int32)) (by decide) ?_
        exact go_zret dX5_isSaidIn_29 rfl rfl rfl (by decide) ⟨rfl, false, rfl, h⟩
      · have h := h.2 c3
        refine go_iconst dX5_isSaidIn_24 (v := (1 : Int32)) (by decide) ?_
        refine go_goto (tgt := 29) dX5_isSaidIn_25 (by decide) ?_
        exact go_zret dX5_isSaidIn_29 rfl rfl rfl (by decide) ⟨rfl, true, rfl, h⟩
set_option maxRecDepth 100000 in
set_option maxHeartbeats 4000000 in
theorem v_X5_madeIn {G : CX} {T : Nat} {a1 : Int32} (hT : isTel T) {I : HP} {Q : HP → Int32 → Prop} (h : GI G Y_X5_madeIn 11 [(0, .ref T), (1, .int a1), (2, .int ((I (T + 1) 0) + a1)), (3, .int (0 : Int32))] I Q) : RI G Y_X5_madeIn [.ref T, .int a1] I Q := by
  refine ret_of (show plainName RX5 = true by decide) (Nat.le_of_ble_eq_true rfl) ?_
  show Go G Y_X5_madeIn 0 [(0, .ref T), (1, .int a1)] [] SH I 0 0 _
  refine go_aload_n dX5_madeIn_0 rfl 0 rfl ?_
  refine go_getR dX5_madeIn_1 (tel_sh hT) (SH_lt (tel_sh hT)) f_X5_9 ⟨Nat.le_of_ble_eq_true rfl, Nat.le_of_ble_eq_true rfl, rfl⟩ rfl ?_
  refine go_iconst dX5_madeIn_4 (v := (0 : Int32)) (by decide) ?_
  refine go_iald dX5_madeIn_5 (tel_ru hT) (SH_lt (tel_ru hT)) (by unfold vp_in; decide) (j := 0) (by decide) ?_
  refine go_iload_n dX5_madeIn_6 rfl 1 rfl ?_
  refine go_iadd dX5_madeIn_7 ?_
  refine go_istore_n dX5_madeIn_8 rfl (Nat.le_of_ble_eq_true rfl) (L2 := [(2, .int ((I (T + 1) 0) + a1)), (0, .ref T), (1, .int a1)]) rfl ?_
  refine go_iconst dX5_madeIn_9 (v := (0 : Int32)) (by decide) ?_
  refine go_istore_n dX5_madeIn_10 rfl (Nat.le_of_ble_eq_true rfl) (L2 := [(3, .int (0 : Int32)), (2, .int ((I (T + 1) 0) + a1)), (0, .ref T), (1, .int a1)]) rfl ?_
  exact go_loc [(0, .ref T), (1, .int a1), (2, .int ((I (T + 1) 0) + a1)), (3, .int (0 : Int32))] [2, 3, 1, 0] rfl h
set_option maxRecDepth 100000 in
set_option maxHeartbeats 4000000 in
theorem v_X5_madeIn_11 {G : CX} {T : Nat} {x1 : Int32} {x2 : Int32} {x3 : Int32} (hT : isTel T) {I : HP} {Q : HP → Int32 → Prop} (h : (((I T 3) ≤ x3) → (GI G Y_X5_madeIn 84 [(0, .ref T), (2, .int x2), (3, .int (0 : Int32))] I Q)) ∧ ((¬ (I T 3) ≤ x3) → ((vp_in x3 (teN T)) ∧ ((((I (T + 4 + nn x3) 0) = (2 : Int32)) → (GI G Y_X5_madeIn 11 [(0, .ref T), (1, .int x1), (2, .int x2), (3, .int (x3 + 1))] I Q)) ∧ ((¬ (I (T + 4 + nn x3) 0) = (2 : Int32)) → (((¬ (I (T + 4 + nn x3) 4) = (-1 : Int32)) → (RZ G Y_X5_isSaidIn [.ref (T + 4 + nn x3), .int x1] I (fun I5 r6 => (((bI r6) = 0) → (((x1 < (I5 (T + 4 + nn x3) 5)) → (GI G Y_X5_madeIn 11 [(0, .ref T), (1, .int x1), (2, .int x2), (3, .int (x3 + 1))] I5 Q)) ∧ ((¬ x1 < (I5 (T + 4 + nn x3) 5)) → (GI G Y_X5_madeIn 11 [(0, .ref T), (1, .int x1), (2, .int (x2 - (I5 (T + 4 + nn x3) 2))), (3, .int (x3 + 1))] I5 Q)))) ∧ ((¬ (bI r6) = 0) → (Q I5 (-1 : Int32)))))) ∧ (((I (T + 4 + nn x3) 4) = (-1 : Int32)) → (GI G Y_X5_madeIn 11 [(0, .ref T), (1, .int x1), (2, .int x2), (3, .int (x3 + 1))] I Q)))))))) : GI G Y_X5_madeIn 11 [(0, .ref T), (1, .int x1), (2, .int x2), (3, .int x3)] I Q := by
  show Go G Y_X5_madeIn 11 [(0, .ref T), (1, .int x1), (2, .int x2), (3, .int x3)] [] SH I 0 0 _
  refine go_iload_n dX5_madeIn_11 rfl 3 rfl ?_
  refine go_aload_n dX5_madeIn_12 rfl 0 rfl ?_
  refine go_getI dX5_madeIn_13 (tel_sh hT) (SH_lt (tel_sh hT)) f_X5_26 ⟨Nat.le_of_ble_eq_true rfl, Nat.le_of_ble_eq_true rfl, rfl⟩ ?_
  refine go_icmp_ge (tgt := 82) dX5_madeIn_16 (by decide) (fun c1 => ?_) (fun c1 => ?_)
  · have h := h.1 c1
    refine go_iconst dX5_madeIn_82 (v := (0 : Int32)) (by decide) ?_
    refine go_istore_n dX5_madeIn_83 rfl (Nat.le_of_ble_eq_true rfl) (L2 := [(3, .int (0 : Int32)), (0, .ref T), (1, .int x1), (2, .int x2)]) rfl ?_
    exact go_loc [(0, .ref T), (2, .int x2), (3, .int (0 : Int32))] [1, 3, 0] rfl h
  · have h := h.2 c1
    refine go_aload_n dX5_madeIn_19 rfl 0 rfl ?_
    refine go_getR dX5_madeIn_20 (tel_sh hT) (SH_lt (tel_sh hT)) f_X5_22 ⟨Nat.le_of_ble_eq_true rfl, Nat.le_of_ble_eq_true rfl, rfl⟩ rfl ?_
    refine go_iload_n dX5_madeIn_23 rfl 3 rfl ?_
    have hb2 := h.1
    have h := h.2
    refine go_aald dX5_madeIn_24 (tel_ar hT) (Or.inl rfl) (SH_lt (tel_ar hT)) hb2 rfl (tel_at (vp_lt hb2)) ?_
    refine go_astore dX5_madeIn_25 (Nat.le_of_ble_eq_true rfl) (L2 := [(4, .ref (T + 4 + nn x3)), (0, .ref T), (1, .int x1), (2, .int x2), (3, .int x3)]) rfl ?_
    refine go_aload dX5_madeIn_27 0 rfl ?_
    refine go_getI dX5_madeIn_29 (tel_tu hT (vp_lt hb2)) (SH_lt (tel_tu hT (vp_lt hb2))) f_X5_45 ⟨Nat.le_of_ble_eq_true rfl, Nat.le_of_ble_eq_true rfl, rfl⟩ ?_
    refine go_iconst dX5_madeIn_32 (v := (2 : Int32)) (by decide) ?_
    refine go_icmp_eq (tgt := 76) dX5_madeIn_33 (by decide) (fun c3 => ?_) (fun c3 => ?_)
    · have h := h.1 c3
      refine go_iinc dX5_madeIn_76 4 rfl (v := (x3 + 1)) rfl (Nat.le_of_ble_eq_true rfl) (L2 := [(3, .int (x3 + 1)), (4, .ref (T + 4 + nn x3)), (0, .ref T), (1, .int x1), (2, .int x2)]) rfl ?_
      refine go_goto (tgt := 11) dX5_madeIn_79 (by decide) ?_
      exact go_loc [(0, .ref T), (1, .int x1), (2, .int x2), (3, .int (x3 + 1))] [2, 3, 4, 0] rfl h
    · have h := h.2 c3
      refine go_aload dX5_madeIn_36 0 rfl ?_
      refine go_getI dX5_madeIn_38 (tel_tu hT (vp_lt hb2)) (SH_lt (tel_tu hT (vp_lt hb2))) f_X5_108 ⟨Nat.le_of_ble_eq_true rfl, Nat.le_of_ble_eq_true rfl, rfl⟩ ?_
      refine go_iconst dX5_madeIn_41 (v := (-1 : Int32)) (by decide) ?_
      refine go_icmp_ne (tgt := 48) dX5_madeIn_42 (by decide) (fun c4 => ?_) (fun c4 => ?_)
      · have h := h.1 c4
        refine go_aload dX5_madeIn_48 0 rfl ?_
        refine go_iload_n dX5_madeIn_50 rfl 2 rfl ?_
        refine go_scall (Z := Y_X5_isSaidIn) (As := [.ref (T + 4 + nn x3), .int x1]) (S := []) dX5_madeIn_51 ok_X5_isSaidIn l_X5_104 (by decide) rfl rfl (Nat.le_of_ble_eq_true rfl) h (fun _ I5 _ hq => ?_)
        obtain ⟨rfl, r6, rfl, h⟩ := hq
        show Go G Y_X5_madeIn 54 [(4, .ref (T + 4 + nn x3)), (0, .ref T), (1, .int x1), (2, .int x2), (3, .int x3)] [.int (bI r6)] SH I5 0 0 _
        refine go_if_eq (tgt := 59) dX5_madeIn_54 (by decide) (fun c7 => ?_) (fun c7 => ?_)
        · have h := h.1 c7
          refine go_aload dX5_madeIn_59 0 rfl ?_
          refine go_getI dX5_madeIn_61 (tel_tu hT (vp_lt hb2)) (SH_lt (tel_tu hT (vp_lt hb2))) f_X5_111 ⟨Nat.le_of_ble_eq_true rfl, Nat.le_of_ble_eq_true rfl, rfl⟩ ?_
          refine go_iload_n dX5_madeIn_64 rfl 2 rfl ?_
          refine go_icmp_gt (tgt := 76) dX5_madeIn_65 (by decide) (fun c8 => ?_) (fun c8 => ?_)
          · have h := h.1 c8
            refine go_iinc dX5_madeIn_76 4 rfl (v := (x3 + 1)) rfl (Nat.le_of_ble_eq_true rfl) (L2 := [(3, .int (x3 + 1)), (4, .ref (T + 4 + nn x3)), (0, .ref T), (1, .int x1), (2, .int x2)]) rfl ?_
            refine go_goto (tgt := 11) dX5_madeIn_79 (by decide) ?_
            exact go_loc [(0, .ref T), (1, .int x1), (2, .int x2), (3, .int (x3 + 1))] [2, 3, 4, 0] rfl h
          · have h := h.2 c8
            refine go_iload_n dX5_madeIn_68 rfl 3 rfl ?_
            refine go_aload dX5_madeIn_69 0 rfl ?_
            refine go_getI dX5_madeIn_71 (tel_tu hT (vp_lt hb2)) (SH_lt (tel_tu hT (vp_lt hb2))) f_X5_52 ⟨Nat.le_of_ble_eq_true rfl, Nat.le_of_ble_eq_true rfl, rfl⟩ ?_
            refine go_isub dX5_madeIn_74 ?_
            refine go_istore_n dX5_madeIn_75 rfl (Nat.le_of_ble_eq_true rfl) (L2 := [(2, .int (x2 - (I5 (T + 4 + nn x3) 2))), (4, .ref (T + 4 + nn x3)), (0, .ref T), (1, .int x1), (3, .int x3)]) rfl ?_
            refine go_iinc dX5_madeIn_76 4 rfl (v := (x3 + 1)) rfl (Nat.le_of_ble_eq_true rfl) (L2 := [(3, .int (x3 + 1)), (2, .int (x2 - (I5 (T + 4 + nn x3) 2))), (4, .ref (T + 4 + nn x3)), (0, .ref T), (1, .int x1)]) rfl ?_
            refine go_goto (tgt := 11) dX5_madeIn_79 (by decide) ?_
            exact go_loc [(0, .ref T), (1, .int x1), (2, .int (x2 - (I5 (T + 4 + nn x3) 2))), (3, .int (x3 + 1))] [3, 4, 1, 0] rfl h
        · have h := h.2 c7
          refine go_iconst dX5_madeIn_57 (v := (-1 : Int32)) (by decide) ?_
          exact go_iret dX5_madeIn_58 rfl rfl (by decide) ⟨rfl, _, rfl, h⟩
      · have h := h.2 c4
        refine go_goto (tgt := 76) dX5_madeIn_45 (by decide) ?_
        refine go_iinc dX5_madeIn_76 4 rfl (v := (x3 + 1)) rfl (Nat.le_of_ble_eq_true rfl) (L2 := [(3, .int (x3 + 1)), (4, .ref (T + 4 + nn x3)), (0, .ref T), (1, .int x1), (2, .int x2)]) rfl ?_
        refine go_goto (tgt := 11) dX5_madeIn_79 (by decide) ?_
        exact go_loc [(0, .ref T), (1, .int x1), (2, .int x2), (3, .int (x3 + 1))] [2, 3, 4, 0] rfl h
set_option maxRecDepth 100000 in
set_option maxHeartbeats 4000000 in
theorem v_X5_madeIn_84 {G : CX} {T : Nat} {x2 : Int32} {x3 : Int32} (hT : isTel T) {I : HP} {Q : HP → Int32 → Prop} (h : (((I T 3) ≤ x3) → (Q I (-1 : Int32))) ∧ ((¬ (I T 3) ≤ x3) → ((vp_in x3 (teN T)) ∧ ((((I (T + 4 + nn x3) 9) ≤ x2) → (GI G Y_X5_madeIn 84 [(0, .ref T), (2, .int x2), (3, .int (x3 + 1))] I Q)) ∧ ((¬ (I (T + 4 + nn x3) 9) ≤ x2) → (Q I x3)))))) : GI G Y_X5_madeIn 84 [(0, .ref T), (2, .int x2), (3, .int x3)] I Q := by
  show Go G Y_X5_madeIn 84 [(0, .ref T), (2, .int x2), (3, .int x3)] [] SH I 0 0 _
  refine go_iload_n dX5_madeIn_84 rfl 2 rfl ?_
  refine go_aload_n dX5_madeIn_85 rfl 0 rfl ?_
  refine go_getI dX5_madeIn_86 (tel_sh hT) (SH_lt (tel_sh hT)) f_X5_26 ⟨Nat.le_of_ble_eq_true rfl, Nat.le_of_ble_eq_true rfl, rfl⟩ ?_
  refine go_icmp_ge (tgt := 113) dX5_madeIn_89 (by decide) (fun c1 => ?_) (fun c1 => ?_)
  · have h := h.1 c1
    refine go_iconst dX5_madeIn_113 (v := (-1 : Int32)) (by decide) ?_
    exact go_iret dX5_madeIn_114 rfl rfl (by decide) ⟨rfl, _, rfl, h⟩
  · have h := h.2 c1
    refine go_iload_n dX5_madeIn_92 rfl 1 rfl ?_
    refine go_aload_n dX5_madeIn_93 rfl 0 rfl ?_
    refine go_getR dX5_madeIn_94 (tel_sh hT) (SH_lt (tel_sh hT)) f_X5_22 ⟨Nat.le_of_ble_eq_true rfl, Nat.le_of_ble_eq_true rfl, rfl⟩ rfl ?_
    refine go_iload_n dX5_madeIn_97 rfl 2 rfl ?_
    have hb2 := h.1
    have h := h.2
    refine go_aald dX5_madeIn_98 (tel_ar hT) (Or.inl rfl) (SH_lt (tel_ar hT)) hb2 rfl (tel_at (vp_lt hb2)) ?_
    refine go_getI dX5_madeIn_99 (tel_tu hT (vp_lt hb2)) (SH_lt (tel_tu hT (vp_lt hb2))) f_X5_77 ⟨Nat.le_of_ble_eq_true rfl, Nat.le_of_ble_eq_true rfl, rfl⟩ ?_
    refine go_icmp_ge (tgt := 107) dX5_madeIn_102 (by decide) (fun c3 => ?_) (fun c3 => ?_)
    · have h := h.1 c3
      refine go_iinc dX5_madeIn_107 2 rfl (v := (x3 + 1)) rfl (Nat.le_of_ble_eq_true rfl) (L2 := [(3, .int (x3 + 1)), (0, .ref T), (2, .int x2)]) rfl ?_
      refine go_goto (tgt := 84) dX5_madeIn_110 (by decide) ?_
      exact go_loc [(0, .ref T), (2, .int x2), (3, .int (x3 + 1))] [1, 2, 0] rfl h
    · have h := h.2 c3
      refine go_iload_n dX5_madeIn_105 rfl 2 rfl ?_
      exact go_iret dX5_madeIn_106 rfl rfl (by decide) ⟨rfl, _, rfl, h⟩
set_option maxRecDepth 100000 in
set_option maxHeartbeats 4000000 in
theorem v_X5_inHandIn {G : CX} {T : Nat} {a1 : Int32} (hT : isTel T) {I : HP} {Q : HP → Int32 → Prop} (h : GI G Y_X5_inHandIn 2 [(0, .ref T), (1, .int a1), (2, .int (0 : Int32))] I Q) : RI G Y_X5_inHandIn [.ref T, .int a1] I Q := by
  refine ret_of (show plainName RX5 = true by decide) (Nat.le_of_ble_eq_true rfl) ?_
  show Go G Y_X5_inHandIn 0 [(0, .ref T), (1, .int a1)] [] SH I 0 0 _
  refine go_iconst dX5_inHandIn_0 (v := (0 : Int32)) (by decide) ?_
  refine go_istore_n dX5_inHandIn_1 rfl (Nat.le_of_ble_eq_true rfl) (L2 := [(2, .int (0 : Int32)), (0, .ref T), (1, .int a1)]) rfl ?_
  exact go_loc [(0, .ref T), (1, .int a1), (2, .int (0 : Int32))] [1, 2, 0] rfl h
set_option maxRecDepth 100000 in
set_option maxHeartbeats 4000000 in
theorem v_X5_inHandIn_2 {G : CX} {T : Nat} {x1 : Int32} {x2 : Int32} (hT : isTel T) {I : HP} {Q : HP → Int32 → Prop} (h : (((I T 3) ≤ x2) → (Q I (-1 : Int32))) ∧ ((¬ (I T 3) ≤ x2) → ((vp_in x2 (teN T)) ∧ (((¬ (I (T + 4 + nn x2) 7) = (-1 : Int32)) → ((((I (T + 4 + nn x2) 5) = (-1 : Int32)) → (GI G Y_X5_inHandIn 2 [(0, .ref T), (1, .int x1), (2, .int (x2 + 1))] I Q)) ∧ ((¬ (I (T + 4 + nn x2) 5) = (-1 : Int32)) → (((x1 < (I (T + 4 + nn x2) 5)) → (GI G Y_X5_inHandIn 2 [(0, .ref T), (1, .int x1), (2, .int (x2 + 1))] I Q)) ∧ ((¬ x1 < (I (T + 4 + nn x2) 5)) → ((((I (T + 4 + nn x2) 7) ≤ x1) → (GI G Y_X5_inHandIn 2 [(0, .ref T), (1, .int x1), (2, .int (x2 + 1))] I Q)) ∧ ((¬ (I (T + 4 + nn x2) 7) ≤ x1) → (Q I x2)))))))) ∧ (((I (T + 4 + nn x2) 7) = (-1 : Int32)) → ((((I (T + 4 + nn x2) 5) = (-1 : Int32)) → (GI G Y_X5_inHandIn 2 [(0, .ref T), (1, .int x1), (2, .int (x2 + 1))] I Q)) ∧ ((¬ (I (T + 4 + nn x2) 5) = (-1 : Int32)) → (((x1 < (I (T + 4 + nn x2) 5)) → (GI G Y_X5_inHandIn 2 [(0, .ref T), (1, .int x1), (2, .int (x2 + 1))] I Q)) ∧ ((¬ x1 < (I (T + 4 + nn x2) 5)) → ((((I (T + 4 + nn x2) 6) ≤ x1) → (GI G Y_X5_inHandIn 2 [(0, .ref T), (1, .int x1), (2, .int (x2 + 1))] I Q)) ∧ ((¬ (I (T + 4 + nn x2) 6) ≤ x1) → (Q I x2)))))))))))) : GI G Y_X5_inHandIn 2 [(0, .ref T), (1, .int x1), (2, .int x2)] I Q := by
  show Go G Y_X5_inHandIn 2 [(0, .ref T), (1, .int x1), (2, .int x2)] [] SH I 0 0 _
  refine go_iload_n dX5_inHandIn_2 rfl 2 rfl ?_
  refine go_aload_n dX5_inHandIn_3 rfl 0 rfl ?_
  refine go_getI dX5_inHandIn_4 (tel_sh hT) (SH_lt (tel_sh hT)) f_X5_26 ⟨Nat.le_of_ble_eq_true rfl, Nat.le_of_ble_eq_true rfl, rfl⟩ ?_
  refine go_icmp_ge (tgt := 68) dX5_inHandIn_7 (by decide) (fun c1 => ?_) (fun c1 => ?_)
  · have h := h.1 c1
    refine go_iconst dX5_inHandIn_68 (v := (-1 : Int32)) (by decide) ?_
    exact go_iret dX5_inHandIn_69 rfl rfl (by decide) ⟨rfl, _, rfl, h⟩
  · have h := h.2 c1
    refine go_aload_n dX5_inHandIn_10 rfl 0 rfl ?_
    refine go_getR dX5_inHandIn_11 (tel_sh hT) (SH_lt (tel_sh hT)) f_X5_22 ⟨Nat.le_of_ble_eq_true rfl, Nat.le_of_ble_eq_true rfl, rfl⟩ rfl ?_
    refine go_iload_n dX5_inHandIn_14 rfl 2 rfl ?_
    have hb2 := h.1
    have h := h.2
    refine go_aald dX5_inHandIn_15 (tel_ar hT) (Or.inl rfl) (SH_lt (tel_ar hT)) hb2 rfl (tel_at (vp_lt hb2)) ?_
    refine go_astore_n dX5_inHandIn_16 rfl (Nat.le_of_ble_eq_true rfl) (L2 := [(3, .ref (T + 4 + nn x2)), (0, .ref T), (1, .int x1), (2, .int x2)]) rfl ?_
    refine go_aload_n dX5_inHandIn_17 rfl 0 rfl ?_
    refine go_getI dX5_inHandIn_18 (tel_tu hT (vp_lt hb2)) (SH_lt (tel_tu hT (vp_lt hb2))) f_X5_83 ⟨Nat.le_of_ble_eq_true rfl, Nat.le_of_ble_eq_true rfl, rfl⟩ ?_
    refine go_iconst dX5_inHandIn_21 (v := (-1 : Int32)) (by decide) ?_
    refine go_icmp_ne (tgt := 32) dX5_inHandIn_22 (by decide) (fun c3 => ?_) (fun c3 => ?_)
    · have h := h.1 c3
      refine go_aload_n dX5_inHandIn_32 rfl 0 rfl ?_
      refine go_getI dX5_inHandIn_33 (tel_tu hT (vp_lt hb2)) (SH_lt (tel_tu hT (vp_lt hb2))) f_X5_83 ⟨Nat.le_of_ble_eq_true rfl, Nat.le_of_ble_eq_true rfl, rfl⟩ ?_
      refine go_istore dX5_inHandIn_36 (Nat.le_of_ble_eq_true rfl) (L2 := [(4, .int (I (T + 4 + nn x2) 7)), (3, .ref (T + 4 + nn x2)), (0, .ref T), (1, .int x1), (2, .int x2)]) rfl ?_
      refine go_aload_n dX5_inHandIn_38 rfl 1 rfl ?_
      refine go_getI dX5_inHandIn_39 (tel_tu hT (vp_lt hb2)) (SH_lt (tel_tu hT (vp_lt hb2))) f_X5_111 ⟨Nat.le_of_ble_eq_true rfl, Nat.le_of_ble_eq_true rfl, rfl⟩ ?_
      refine go_iconst dX5_inHandIn_42 (v := (-1 : Int32)) (by decide) ?_
      refine go_icmp_eq (tgt := 62) dX5_inHandIn_43 (by decide) (fun c4 => ?_) (fun c4 => ?_)
      · have h := h.1 c4
        refine go_iinc dX5_inHandIn_62 4 rfl (v := (x2 + 1)) rfl (Nat.le_of_ble_eq_true rfl) (L2 := [(2, .int (x2 + 1)), (4, .int (I (T + 4 + nn x2) 7)), (3, .ref (T + 4 + nn x2)), (0, .ref T), (1, .int x1)]) rfl ?_
        refine go_goto (tgt := 2) dX5_inHandIn_65 (by decide) ?_
        exact go_loc [(0, .ref T), (1, .int x1), (2, .int (x2 + 1))] [3, 4, 0] rfl h
      · have h := h.2 c4
        refine go_aload_n dX5_inHandIn_46 rfl 1 rfl ?_
        refine go_getI dX5_inHandIn_47 (tel_tu hT (vp_lt hb2)) (SH_lt (tel_tu hT (vp_lt hb2))) f_X5_111 ⟨Nat.le_of_ble_eq_true rfl, Nat.le_of_ble_eq_true rfl, rfl⟩ ?_
        refine go_iload_n dX5_inHandIn_50 rfl 3 rfl ?_
        refine go_icmp_gt (tgt := 62) dX5_inHandIn_51 (by decide) (fun c5 => ?_) (fun c5 => ?_)
        · have h := h.1 c5
          refine go_iinc dX5_inHandIn_62 4 rfl (v := (x2 + 1)) rfl (Nat.le_of_ble_eq_true rfl) (L2 := [(2, .int (x2 + 1)), (4, .int (I (T + 4 + nn x2) 7)), (3, .ref (T + 4 + nn x2)), (0, .ref T), (1, .int x1)]) rfl ?_
          refine go_goto (tgt := 2) dX5_inHandIn_65 (by decide) ?_
          exact go_loc [(0, .ref T), (1, .int x1), (2, .int (x2 + 1))] [3, 4, 0] rfl h
        · have h := h.2 c5
          refine go_iload_n dX5_inHandIn_54 rfl 3 rfl ?_
          refine go_iload dX5_inHandIn_55 0 rfl ?_
          refine go_icmp_ge (tgt := 62) dX5_inHandIn_57 (by decide) (fun c6 => ?_) (fun c6 => ?_)
          · have h := h.1 c6
            refine go_iinc dX5_inHandIn_62 4 rfl (v := (x2 + 1)) rfl (Nat.le_of_ble_eq_true rfl) (L2 := [(2, .int (x2 + 1)), (4, .int (I (T + 4 + nn x2) 7)), (3, .ref (T + 4 + nn x2)), (0, .ref T), (1, .int x1)]) rfl ?_
            refine go_goto (tgt := 2) dX5_inHandIn_65 (by decide) ?_
            exact go_loc [(0, .ref T), (1, .int x1), (2, .int (x2 + 1))] [3, 4, 0] rfl h
          · have h := h.2 c6
            refine go_iload_n dX5_inHandIn_60 rfl 4 rfl ?_
            exact go_iret dX5_inHandIn_61 rfl rfl (by decide) ⟨rfl, _, rfl, h⟩
    · have h := h.2 c3
      refine go_aload_n dX5_inHandIn_25 rfl 0 rfl ?_
      refine go_getI dX5_inHandIn_26 (tel_tu hT (vp_lt hb2)) (SH_lt (tel_tu hT (vp_lt hb2))) f_X5_114 ⟨Nat.le_of_ble_eq_true rfl, Nat.le_of_ble_eq_true rfl, rfl⟩ ?_
      refine go_goto (tgt := 36) dX5_inHandIn_29 (by decide) ?_
      refine go_istore dX5_inHandIn_36 (Nat.le_of_ble_eq_true rfl) (L2 := [(4, .int (I (T + 4 + nn x2) 6)), (3, .ref (T + 4 + nn x2)), (0, .ref T), (1, .int x1), (2, .int x2)]) rfl ?_
      refine go_aload_n dX5_inHandIn_38 rfl 1 rfl ?_
      refine go_getI dX5_inHandIn_39 (tel_tu hT (vp_lt hb2)) (SH_lt (tel_tu hT (vp_lt hb2))) f_X5_111 ⟨Nat.le_of_ble_eq_true rfl, Nat.le_of_ble_eq_true rfl, rfl⟩ ?_
      refine go_iconst dX5_inHandIn_42 (v := (-1 : Int32)) (by decide) ?_
      refine go_icmp_eq (tgt := 62) dX5_inHandIn_43 (by decide) (fun c7 => ?_) (fun c7 => ?_)
      · have h := h.1 c7
        refine go_iinc dX5_inHandIn_62 4 rfl (v := (x2 + 1)) rfl (Nat.le_of_ble_eq_true rfl) (L2 := [(2, .int (x2 + 1)), (4, .int (I (T + 4 + nn x2) 6)), (3, .ref (T + 4 + nn x2)), (0, .ref T), (1, .int x1)]) rfl ?_
        refine go_goto (tgt := 2) dX5_inHandIn_65 (by decide) ?_
        exact go_loc [(0, .ref T), (1, .int x1), (2, .int (x2 + 1))] [3, 4, 0] rfl h
      · have h := h.2 c7
        refine go_aload_n dX5_inHandIn_46 rfl 1 rfl ?_
        refine go_getI dX5_inHandIn_47 (tel_tu hT (vp_lt hb2)) (SH_lt (tel_tu hT (vp_lt hb2))) f_X5_111 ⟨Nat.le_of_ble_eq_true rfl, Nat.le_of_ble_eq_true rfl, rfl⟩ ?_
        refine go_iload_n dX5_inHandIn_50 rfl 3 rfl ?_
        refine go_icmp_gt (tgt := 62) dX5_inHandIn_51 (by decide) (fun c8 => ?_) (fun c8 => ?_)
        · have h := h.1 c8
          refine go_iinc dX5_inHandIn_62 4 rfl (v := (x2 + 1)) rfl (Nat.le_of_ble_eq_true rfl) (L2 := [(2, .int (x2 + 1)), (4, .int (I (T + 4 + nn x2) 6)), (3, .ref (T + 4 + nn x2)), (0, .ref T), (1, .int x1)]) rfl ?_
          refine go_goto (tgt := 2) dX5_inHandIn_65 (by decide) ?_
          exact go_loc [(0, .ref T), (1, .int x1), (2, .int (x2 + 1))] [3, 4, 0] rfl h
        · have h := h.2 c8
          refine go_iload_n dX5_inHandIn_54 rfl 3 rfl ?_
          refine go_iload dX5_inHandIn_55 0 rfl ?_
          refine go_icmp_ge (tgt := 62) dX5_inHandIn_57 (by decide) (fun c9 => ?_) (fun c9 => ?_)
          · have h := h.1 c9
            refine go_iinc dX5_inHandIn_62 4 rfl (v := (x2 + 1)) rfl (Nat.le_of_ble_eq_true rfl) (L2 := [(2, .int (x2 + 1)), (4, .int (I (T + 4 + nn x2) 6)), (3, .ref (T + 4 + nn x2)), (0, .ref T), (1, .int x1)]) rfl ?_
            refine go_goto (tgt := 2) dX5_inHandIn_65 (by decide) ?_
            exact go_loc [(0, .ref T), (1, .int x1), (2, .int (x2 + 1))] [3, 4, 0] rfl h
          · have h := h.2 c9
            refine go_iload_n dX5_inHandIn_60 rfl 4 rfl ?_
            exact go_iret dX5_inHandIn_61 rfl rfl (by decide) ⟨rfl, _, rfl, h⟩
set_option maxRecDepth 100000 in
set_option maxHeartbeats 4000000 in
theorem v_X1_seek {G : CX}   {I : HP} {Q : HP → Prop} (h : GV G Y_X1_seek 2 [(0, .ref 40), (1, .int (0 : Int32))] I Q) : RV G Y_X1_seek [.ref 40] I Q := by
  refine ret_of (show plainName RX1 = true by decide) (Nat.le_of_ble_eq_true rfl) ?_
  show Go G Y_X1_seek 0 [(0, .ref 40)] [] SH I 0 0 _
  refine go_iconst dX1_seek_0 (v := (0 : Int32)) (by decide) ?_
  refine go_istore_n dX1_seek_1 rfl (Nat.le_of_ble_eq_true rfl) (L2 := [(1, .int (0 : Int32)), (0, .ref 40)]) rfl ?_
  exact go_loc [(0, .ref 40), (1, .int (0 : Int32))] [1, 0] rfl h
set_option maxRecDepth 100000 in
set_option maxHeartbeats 4000000 in
theorem v_X1_seek_2 {G : CX} {x1 : Int32}  {I : HP} {Q : HP → Prop} (h : (((6 : Int32) ≤ x1) → (RV G Y_X1_attempt [.ref 40, .int (0 : Int32), .int (-1 : Int32), .int (-1 : Int32), .int (-1 : Int32), .int (-1 : Int32)] I (fun I2 => ((¬ (I2 41 0) = (-1 : Int32)) → (Q I2)) ∧ (((I2 41 0) = (-1 : Int32)) → (RV G Y_X1_seekOne [.ref 40] I2 (fun I4 => ((¬ (I4 41 0) = (-1 : Int32)) → (Q I4)) ∧ (((I4 41 0) = (-1 : Int32)) → (RV G Y_X1_seekTwo [.ref 40] I4 (fun I6 => Q I6))))))))) ∧ ((¬ (6 : Int32) ≤ x1) → ((vp_in x1 6) ∧ (GV G Y_X1_seek 2 [(0, .ref 40), (1, .int (x1 + 1))] (st I 41 (nn x1) (-1 : Int32)) Q)))) : GV G Y_X1_seek 2 [(0, .ref 40), (1, .int x1)] I Q := by
  show Go G Y_X1_seek 2 [(0, .ref 40), (1, .int x1)] [] SH I 0 0 _
  refine go_iload_n dX1_seek_2 rfl 1 rfl ?_
  refine go_bipush dX1_seek_3 (v := (6 : Int32)) (by decide) ?_
  refine go_icmp_ge (tgt := 21) dX1_seek_5 (by decide) (fun c1 => ?_) (fun c1 => ?_)
  · have h := h.1 c1
    refine go_aload_n dX1_seek_21 rfl 0 rfl ?_
    refine go_iconst dX1_seek_22 (v := (0 : Int32)) (by decide) ?_
    refine go_iconst dX1_seek_23 (v := (-1 : Int32)) (by decide) ?_
    refine go_iconst dX1_seek_24 (v := (-1 : Int32)) (by decide) ?_
    refine go_iconst dX1_seek_25 (v := (-1 : Int32)) (by decide) ?_
    refine go_iconst dX1_seek_26 (v := (-1 : Int32)) (by decide) ?_
    refine go_vcall (Z := Y_X1_attempt) (As := [.int (0 : Int32), .int (-1 : Int32), .int (-1 : Int32), .int (-1 : Int32), .int (-1 : Int32)]) (S := []) dX1_seek_27 ok_X1_attempt l_X1_29 (by decide) sh_40 (by decide) (Nat.le_of_ble_eq_true rfl) rfl rfl rfl (Nat.le_of_ble_eq_true rfl) h (fun _ I2 _ hq => ?_)
    obtain ⟨rfl, rfl, h⟩ := hq
    show Go G Y_X1_seek 30 [(0, .ref 40), (1, .int x1)] [] SH I2 0 0 _
    refine go_aload_n dX1_seek_30 rfl 0 rfl ?_
    refine go_getR dX1_seek_31 sh_40 (by decide) f_X1_11 ⟨Nat.le_of_ble_eq_true rfl, Nat.le_of_ble_eq_true rfl, rfl⟩ rfl ?_
    refine go_iconst dX1_seek_34 (v := (0 : Int32)) (by decide) ?_
    refine go_iald dX1_seek_35 sh_41 (by decide) (by unfold vp_in; decide) (j := 0) (by decide) ?_
    refine go_iconst dX1_seek_36 (v := (-1 : Int32)) (by decide) ?_
    refine go_icmp_ne (tgt := 44) dX1_seek_37 (by decide) (fun c3 => ?_) (fun c3 => ?_)
    · have h := h.1 c3
      refine go_aload_n dX1_seek_44 rfl 0 rfl ?_
      refine go_getR dX1_seek_45 sh_40 (by decide) f_X1_11 ⟨Nat.le_of_ble_eq_true rfl, Nat.le_of_ble_eq_true rfl, rfl⟩ rfl ?_
      refine go_iconst dX1_seek_48 (v := (0 : Int32)) (by decide) ?_
      refine go_iald dX1_seek_49 sh_41 (by decide) (by unfold vp_in; decide) (j := 0) (by decide) ?_
      refine go_iconst dX1_seek_50 (v := (-1 : Int32)) (by decide) ?_
      refine go_icmp_ne (tgt := 58) dX1_seek_51 (by decide) (fun _ => ?_) (fun c => absurd c c3)
      exact go_vret dX1_seek_58 rfl rfl (by decide) ⟨rfl, rfl, h⟩
    · have h := h.2 c3
      refine go_aload_n dX1_seek_40 rfl 0 rfl ?_
      refine go_vcall (Z := Y_X1_seekOne) (As := []) (S := []) dX1_seek_41 ok_X1_seekOne l_X1_33 (by decide) sh_40 (by decide) (Nat.le_of_ble_eq_true rfl) rfl rfl rfl (Nat.le_of_ble_eq_true rfl) h (fun _ I4 _ hq => ?_)
      obtain ⟨rfl, rfl, h⟩ := hq
      show Go G Y_X1_seek 44 [(0, .ref 40), (1, .int x1)] [] SH I4 0 0 _
      refine go_aload_n dX1_seek_44 rfl 0 rfl ?_
      refine go_getR dX1_seek_45 sh_40 (by decide) f_X1_11 ⟨Nat.le_of_ble_eq_true rfl, Nat.le_of_ble_eq_true rfl, rfl⟩ rfl ?_
      refine go_iconst dX1_seek_48 (v := (0 : Int32)) (by decide) ?_
      refine go_iald dX1_seek_49 sh_41 (by decide) (by unfold vp_in; decide) (j := 0) (by decide) ?_
      refine go_iconst dX1_seek_50 (v := (-1 : Int32)) (by decide) ?_
      refine go_icmp_ne (tgt := 58) dX1_seek_51 (by decide) (fun c5 => ?_) (fun c5 => ?_)
      · have h := h.1 c5
        exact go_vret dX1_seek_58 rfl rfl (by decide) ⟨rfl, rfl, h⟩
      · have h := h.2 c5
        refine go_aload_n dX1_seek_54 rfl 0 rfl ?_
        refine go_vcall (Z := Y_X1_seekTwo) (As := []) (S := []) dX1_seek_55 ok_X1_seekTwo l_X1_36 (by decide) sh_40 (by decide) (Nat.le_of_ble_eq_true rfl) rfl rfl rfl (Nat.le_of_ble_eq_true rfl) h (fun _ I6 _ hq => ?_)
        obtain ⟨rfl, rfl, h⟩ := hq
        show Go G Y_X1_seek 58 [(0, .ref 40), (1, .int x1)] [] SH I6 0 0 _
        exact go_vret dX1_seek_58 rfl rfl (by decide) ⟨rfl, rfl, h⟩
  · have h := h.2 c1
    refine go_aload_n dX1_seek_8 rfl 0 rfl ?_
    refine go_getR dX1_seek_9 sh_40 (by decide) f_X1_11 ⟨Nat.le_of_ble_eq_true rfl, Nat.le_of_ble_eq_true rfl, rfl⟩ rfl ?_
    refine go_iload_n dX1_seek_12 rfl 1 rfl ?_
    refine go_iconst dX1_seek_13 (v := (-1 : Int32)) (by decide) ?_
    have hb7 := h.1
    have h := h.2
    refine go_iast dX1_seek_14 sh_41 (by decide) hb7 (j := (nn x1)) rfl ?_
    refine go_iinc dX1_seek_15 1 rfl (v := (x1 + 1)) rfl (Nat.le_of_ble_eq_true rfl) (L2 := [(1, .int (x1 + 1)), (0, .ref 40)]) rfl ?_
    refine go_goto (tgt := 2) dX1_seek_18 (by decide) ?_
    exact go_loc [(0, .ref 40), (1, .int (x1 + 1))] [1, 0] rfl h
set_option maxRecDepth 100000 in
set_option maxHeartbeats 4000000 in
theorem v_X1_seekOne {G : CX}   {I : HP} {Q : HP → Prop} (h : GV G Y_X1_seekOne 2 [(0, .ref 40), (1, .int (0 : Int32))] I Q) : RV G Y_X1_seekOne [.ref 40] I Q := by
  refine ret_of (show plainName RX1 = true by decide) (Nat.le_of_ble_eq_true rfl) ?_
  show Go G Y_X1_seekOne 0 [(0, .ref 40)] [] SH I 0 0 _
  refine go_iconst dX1_seekOne_0 (v := (0 : Int32)) (by decide) ?_
  refine go_istore_n dX1_seekOne_1 rfl (Nat.le_of_ble_eq_true rfl) (L2 := [(1, .int (0 : Int32)), (0, .ref 40)]) rfl ?_
  exact go_loc [(0, .ref 40), (1, .int (0 : Int32))] [1, 0] rfl h
set_option maxRecDepth 100000 in
set_option maxHeartbeats 4000000 in
theorem v_X1_seekOne_2 {G : CX} {x1 : Int32}  {I : HP} {Q : HP → Prop} (h : (((I 2 3) < x1) → (Q I)) ∧ ((¬ (I 2 3) < x1) → (GV G Y_X1_seekOne 15 [(0, .ref 40), (1, .int x1), (2, .int (0 : Int32))] I Q))) : GV G Y_X1_seekOne 2 [(0, .ref 40), (1, .int x1)] I Q := by
  show Go G Y_X1_seekOne 2 [(0, .ref 40), (1, .int x1)] [] SH I 0 0 _
  refine go_iload_n dX1_seekOne_2 rfl 1 rfl ?_
  refine go_aload_n dX1_seekOne_3 rfl 0 rfl ?_
  refine go_getR dX1_seekOne_4 sh_40 (by decide) f_X1_19 ⟨Nat.le_of_ble_eq_true rfl, Nat.le_of_ble_eq_true rfl, rfl⟩ rfl ?_
  refine go_getI dX1_seekOne_7 (scr_sh (Or.inl rfl)) (by decide) f_X1_39 ⟨Nat.le_of_ble_eq_true rfl, Nat.le_of_ble_eq_true rfl, rfl⟩ ?_
  refine go_icmp_gt (tgt := 47) dX1_seekOne_10 (by decide) (fun c1 => ?_) (fun c1 => ?_)
  · have h := h.1 c1
    exact go_vret dX1_seekOne_47 rfl rfl (by decide) ⟨rfl, rfl, h⟩
  · have h := h.2 c1
    refine go_iconst dX1_seekOne_13 (v := (0 : Int32)) (by decide) ?_
    refine go_istore_n dX1_seekOne_14 rfl (Nat.le_of_ble_eq_true rfl) (L2 := [(2, .int (0 : Int32)), (0, .ref 40), (1, .int x1)]) rfl ?_
    exact go_loc [(0, .ref 40), (1, .int x1), (2, .int (0 : Int32))] [1, 2, 0] rfl h
set_option maxRecDepth 100000 in
set_option maxHeartbeats 4000000 in
theorem v_X1_seekOne_15 {G : CX} {x1 : Int32} {x2 : Int32}  {I : HP} {Q : HP → Prop} (h : (((I 4 3) ≤ x2) → (GV G Y_X1_seekOne 2 [(0, .ref 40), (1, .int (x1 + 1))] I Q)) ∧ ((¬ (I 4 3) ≤ x2) → (RV G Y_X1_attempt [.ref 40, .int (1 : Int32), .int x1, .int x2, .int (-1 : Int32), .int (-1 : Int32)] I (fun I2 => GV G Y_X1_seekOne 15 [(0, .ref 40), (1, .int x1), (2, .int (x2 + 1))] I2 Q)))) : GV G Y_X1_seekOne 15 [(0, .ref 40), (1, .int x1), (2, .int x2)] I Q := by
  show Go G Y_X1_seekOne 15 [(0, .ref 40), (1, .int x1), (2, .int x2)] [] SH I 0 0 _
  refine go_iload_n dX1_seekOne_15 rfl 2 rfl ?_
  refine go_aload_n dX1_seekOne_16 rfl 0 rfl ?_
  refine go_getR dX1_seekOne_17 sh_40 (by decide) f_X1_23 ⟨Nat.le_of_ble_eq_true rfl, Nat.le_of_ble_eq_true rfl, rfl⟩ rfl ?_
  refine go_getI dX1_seekOne_20 (scr_sh (Or.inr rfl)) (by decide) f_X1_39 ⟨Nat.le_of_ble_eq_true rfl, Nat.le_of_ble_eq_true rfl, rfl⟩ ?_
  refine go_icmp_ge (tgt := 41) dX1_seekOne_23 (by decide) (fun c1 => ?_) (fun c1 => ?_)
  · have h := h.1 c1
    refine go_iinc dX1_seekOne_41 1 rfl (v := (x1 + 1)) rfl (Nat.le_of_ble_eq_true rfl) (L2 := [(1, .int (x1 + 1)), (0, .ref 40), (2, .int x2)]) rfl ?_
    refine go_goto (tgt := 2) dX1_seekOne_44 (by decide) ?_
    exact go_loc [(0, .ref 40), (1, .int (x1 + 1))] [1, 0] rfl h
  · have h := h.2 c1
    refine go_aload_n dX1_seekOne_26 rfl 0 rfl ?_
    refine go_iconst dX1_seekOne_27 (v := (1 : Int32)) (by decide) ?_
    refine go_iload_n dX1_seekOne_28 rfl 1 rfl ?_
    refine go_iload_n dX1_seekOne_29 rfl 2 rfl ?_
    refine go_iconst dX1_seekOne_30 (v := (-1 : Int32)) (by decide) ?_
    refine go_iconst dX1_seekOne_31 (v := (-1 : Int32)) (by decide) ?_
    refine go_vcall (Z := Y_X1_attempt) (As := [.int (1 : Int32), .int x1, .int x2, .int (-1 : Int32), .int (-1 : Int32)]) (S := []) dX1_seekOne_32 ok_X1_attempt l_X1_29 (by decide) sh_40 (by decide) (Nat.le_of_ble_eq_true rfl) rfl rfl rfl (Nat.le_of_ble_eq_true rfl) h (fun _ I2 _ hq => ?_)
    obtain ⟨rfl, rfl, h⟩ := hq
    show Go G Y_X1_seekOne 35 [(0, .ref 40), (1, .int x1), (2, .int x2)] [] SH I2 0 0 _
    refine go_iinc dX1_seekOne_35 2 rfl (v := (x2 + 1)) rfl (Nat.le_of_ble_eq_true rfl) (L2 := [(2, .int (x2 + 1)), (0, .ref 40), (1, .int x1)]) rfl ?_
    refine go_goto (tgt := 15) dX1_seekOne_38 (by decide) ?_
    exact go_loc [(0, .ref 40), (1, .int x1), (2, .int (x2 + 1))] [1, 2, 0] rfl h
set_option maxRecDepth 100000 in
set_option maxHeartbeats 4000000 in
theorem v_X1_seekTwo {G : CX}   {I : HP} {Q : HP → Prop} (h : GV G Y_X1_seekTwo 18 [(0, .ref 40), (1, .int ((I 4 3) * (I 4 3))), (2, .int (0 : Int32))] I Q) : RV G Y_X1_seekTwo [.ref 40] I Q := by
  refine ret_of (show plainName RX1 = true by decide) (Nat.le_of_ble_eq_true rfl) ?_
  show Go G Y_X1_seekTwo 0 [(0, .ref 40)] [] SH I 0 0 _
  refine go_aload_n dX1_seekTwo_0 rfl 0 rfl ?_
  refine go_getR dX1_seekTwo_1 sh_40 (by decide) f_X1_23 ⟨Nat.le_of_ble_eq_true rfl, Nat.le_of_ble_eq_true rfl, rfl⟩ rfl ?_
  refine go_getI dX1_seekTwo_4 (scr_sh (Or.inr rfl)) (by decide) f_X1_39 ⟨Nat.le_of_ble_eq_true rfl, Nat.le_of_ble_eq_true rfl, rfl⟩ ?_
  refine go_aload_n dX1_seekTwo_7 rfl 0 rfl ?_
  refine go_getR dX1_seekTwo_8 sh_40 (by decide) f_X1_23 ⟨Nat.le_of_ble_eq_true rfl, Nat.le_of_ble_eq_true rfl, rfl⟩ rfl ?_
  refine go_getI dX1_seekTwo_11 (scr_sh (Or.inr rfl)) (by decide) f_X1_39 ⟨Nat.le_of_ble_eq_true rfl, Nat.le_of_ble_eq_true rfl, rfl⟩ ?_
  refine go_imul dX1_seekTwo_14 ?_
  refine go_istore_n dX1_seekTwo_15 rfl (Nat.le_of_ble_eq_true rfl) (L2 := [(1, .int ((I 4 3) * (I 4 3))), (0, .ref 40)]) rfl ?_
  refine go_iconst dX1_seekTwo_16 (v := (0 : Int32)) (by decide) ?_
  refine go_istore_n dX1_seekTwo_17 rfl (Nat.le_of_ble_eq_true rfl) (L2 := [(2, .int (0 : Int32)), (1, .int ((I 4 3) * (I 4 3))), (0, .ref 40)]) rfl ?_
  exact go_loc [(0, .ref 40), (1, .int ((I 4 3) * (I 4 3))), (2, .int (0 : Int32))] [2, 1, 0] rfl h
set_option maxRecDepth 100000 in
set_option maxHeartbeats 4000000 in
theorem v_X1_seekTwo_18 {G : CX} {x1 : Int32} {x2 : Int32}  {I : HP} {Q : HP → Prop} (h : (((I 2 3) < x2) → (Q I)) ∧ ((¬ (I 2 3) < x2) → (GV G Y_X1_seekTwo 31 [(0, .ref 40), (1, .int x1), (2, .int x2), (3, .int x2)] I Q))) : GV G Y_X1_seekTwo 18 [(0, .ref 40), (1, .int x1), (2, .int x2)] I Q := by
  show Go G Y_X1_seekTwo 18 [(0, .ref 40), (1, .int x1), (2, .int x2)] [] SH I 0 0 _
  refine go_iload_n dX1_seekTwo_18 rfl 2 rfl ?_
  refine go_aload_n dX1_seekTwo_19 rfl 0 rfl ?_
  refine go_getR dX1_seekTwo_20 sh_40 (by decide) f_X1_19 ⟨Nat.le_of_ble_eq_true rfl, Nat.le_of_ble_eq_true rfl, rfl⟩ rfl ?_
  refine go_getI dX1_seekTwo_23 (scr_sh (Or.inl rfl)) (by decide) f_X1_39 ⟨Nat.le_of_ble_eq_true rfl, Nat.le_of_ble_eq_true rfl, rfl⟩ ?_
  refine go_icmp_gt (tgt := 106) dX1_seekTwo_26 (by decide) (fun c1 => ?_) (fun c1 => ?_)
  · have h := h.1 c1
    exact go_vret dX1_seekTwo_106 rfl rfl (by decide) ⟨rfl, rfl, h⟩
  · have h := h.2 c1
    refine go_iload_n dX1_seekTwo_29 rfl 2 rfl ?_
    refine go_istore_n dX1_seekTwo_30 rfl (Nat.le_of_ble_eq_true rfl) (L2 := [(3, .int x2), (0, .ref 40), (1, .int x1), (2, .int x2)]) rfl ?_
    exact go_loc [(0, .ref 40), (1, .int x1), (2, .int x2), (3, .int x2)] [1, 2, 3, 0] rfl h
set_option maxRecDepth 100000 in
set_option maxHeartbeats 4000000 in
theorem v_X1_seekTwo_31 {G : CX} {x1 : Int32} {x2 : Int32} {x3 : Int32}  {I : HP} {Q : HP → Prop} (h : (((I 2 3) < x3) → (GV G Y_X1_seekTwo 18 [(0, .ref 40), (1, .int x1), (2, .int (x2 + 1))] I Q)) ∧ ((¬ (I 2 3) < x3) → (GV G Y_X1_seekTwo 45 [(0, .ref 40), (1, .int x1), (2, .int x2), (3, .int x3), (4, .int (0 : Int32))] I Q))) : GV G Y_X1_seekTwo 31 [(0, .ref 40), (1, .int x1), (2, .int x2), (3, .int x3)] I Q := by
  show Go G Y_X1_seekTwo 31 [(0, .ref 40), (1, .int x1), (2, .int x2), (3, .int x3)] [] SH I 0 0 _
  refine go_iload_n dX1_seekTwo_31 rfl 3 rfl ?_
  refine go_aload_n dX1_seekTwo_32 rfl 0 rfl ?_
  refine go_getR dX1_seekTwo_33 sh_40 (by decide) f_X1_19 ⟨Nat.le_of_ble_eq_true rfl, Nat.le_of_ble_eq_true rfl, rfl⟩ rfl ?_
  refine go_getI dX1_seekTwo_36 (scr_sh (Or.inl rfl)) (by decide) f_X1_39 ⟨Nat.le_of_ble_eq_true rfl, Nat.le_of_ble_eq_true rfl, rfl⟩ ?_
  refine go_icmp_gt (tgt := 100) dX1_seekTwo_39 (by decide) (fun c1 => ?_) (fun c1 => ?_)
  · have h := h.1 c1
    refine go_iinc dX1_seekTwo_100 2 rfl (v := (x2 + 1)) rfl (Nat.le_of_ble_eq_true rfl) (L2 := [(2, .int (x2 + 1)), (0, .ref 40), (1, .int x1), (3, .int x3)]) rfl ?_
    refine go_goto (tgt := 18) dX1_seekTwo_103 (by decide) ?_
    exact go_loc [(0, .ref 40), (1, .int x1), (2, .int (x2 + 1))] [1, 2, 0] rfl h
  · have h := h.2 c1
    refine go_iconst dX1_seekTwo_42 (v := (0 : Int32)) (by decide) ?_
    refine go_istore dX1_seekTwo_43 (Nat.le_of_ble_eq_true rfl) (L2 := [(4, .int (0 : Int32)), (0, .ref 40), (1, .int x1), (2, .int x2), (3, .int x3)]) rfl ?_
    exact go_loc [(0, .ref 40), (1, .int x1), (2, .int x2), (3, .int x3), (4, .int (0 : Int32))] [1, 2, 3, 4, 0] rfl h
set_option maxRecDepth 100000 in
set_option maxHeartbeats 4000000 in
theorem v_X1_seekTwo_45 {G : CX} {x1 : Int32} {x2 : Int32} {x3 : Int32} {x4 : Int32}  {I : HP} {Q : HP → Prop} (h : ((x1 ≤ x4) → (GV G Y_X1_seekTwo 31 [(0, .ref 40), (1, .int x1), (2, .int x2), (3, .int (x3 + 1))] I Q)) ∧ ((¬ x1 ≤ x4) → ((((I 4 3) ≤ 0) → (GV G Y_X1_seekTwo 31 [(0, .ref 40), (1, .int x1), (2, .int x2), (3, .int (x3 + 1))] I Q)) ∧ ((¬ (I 4 3) ≤ 0) → ((¬ (I 4 3) = 0) ∧ ((¬ (I 4 3) = 0) ∧ (RV G Y_X1_attempt [.ref 40, .int (2 : Int32), .int x2, .int (x4 / (I 4 3)), .int x3, .int (x4 - x4 / (I 4 3) * (I 4 3))] I (fun I5 => GV G Y_X1_seekTwo 45 [(0, .ref 40), (1, .int x1), (2, .int x2), (3, .int x3), (4, .int (x4 + 1))] I5 Q)))))))) : GV G Y_X1_seekTwo 45 [(0, .ref 40), (1, .int x1), (2, .int x2), (3, .int x3), (4, .int x4)] I Q := by
  show Go G Y_X1_seekTwo 45 [(0, .ref 40), (1, .int x1), (2, .int x2), (3, .int x3), (4, .int x4)] [] SH I 0 0 _
  refine go_iload dX1_seekTwo_45 4 rfl ?_
  refine go_iload_n dX1_seekTwo_47 rfl 1 rfl ?_
  refine go_icmp_ge (tgt := 94) dX1_seekTwo_48 (by decide) (fun c1 => ?_) (fun c1 => ?_)
  · have h := h.1 c1
    refine go_iinc dX1_seekTwo_94 3 rfl (v := (x3 + 1)) rfl (Nat.le_of_ble_eq_true rfl) (L2 := [(3, .int (x3 + 1)), (0, .ref 40), (1, .int x1), (2, .int x2), (4, .int x4)]) rfl ?_
    refine go_goto (tgt := 31) dX1_seekTwo_97 (by decide) ?_
    exact go_loc [(0, .ref 40), (1, .int x1), (2, .int x2), (3, .int (x3 + 1))] [1, 2, 3, 0] rfl h
  · have h := h.2 c1
    refine go_aload_n dX1_seekTwo_51 rfl 0 rfl ?_
    refine go_getR dX1_seekTwo_52 sh_40 (by decide) f_X1_23 ⟨Nat.le_of_ble_eq_true rfl, Nat.le_of_ble_eq_true rfl, rfl⟩ rfl ?_
    refine go_getI dX1_seekTwo_55 (scr_sh (Or.inr rfl)) (by decide) f_X1_39 ⟨Nat.le_of_ble_eq_true rfl, Nat.le_of_ble_eq_true rfl, rfl⟩ ?_
    refine go_if_le (tgt := 94) dX1_seekTwo_58 (by decide) (fun c2 => ?_) (fun c2 => ?_)
    · have h := h.1 c2
      refine go_iinc dX1_seekTwo_94 3 rfl (v := (x3 + 1)) rfl (Nat.le_of_ble_eq_true rfl) (L2 := [(3, .int (x3 + 1)), (0, .ref 40), (1, .int x1), (2, .int x2), (4, .int x4)]) rfl ?_
      refine go_goto (tgt := 31) dX1_seekTwo_97 (by decide) ?_
      exact go_loc [(0, .ref 40), (1, .int x1), (2, .int x2), (3, .int (x3 + 1))] [1, 2, 3, 0] rfl h
    · have h := h.2 c2
      refine go_aload_n dX1_seekTwo_61 rfl 0 rfl ?_
      refine go_iconst dX1_seekTwo_62 (v := (2 : Int32)) (by decide) ?_
      refine go_iload_n dX1_seekTwo_63 rfl 2 rfl ?_
      refine go_iload dX1_seekTwo_64 4 rfl ?_
      refine go_aload_n dX1_seekTwo_66 rfl 0 rfl ?_
      refine go_getR dX1_seekTwo_67 sh_40 (by decide) f_X1_23 ⟨Nat.le_of_ble_eq_true rfl, Nat.le_of_ble_eq_true rfl, rfl⟩ rfl ?_
      refine go_getI dX1_seekTwo_70 (scr_sh (Or.inr rfl)) (by decide) f_X1_39 ⟨Nat.le_of_ble_eq_true rfl, Nat.le_of_ble_eq_true rfl, rfl⟩ ?_
      have hb3 := h.1
      have h := h.2
      refine go_idiv dX1_seekTwo_73 hb3 ?_
      refine go_iload_n dX1_seekTwo_74 rfl 3 rfl ?_
      refine go_iload dX1_seekTwo_75 4 rfl ?_
      refine go_aload_n dX1_seekTwo_77 rfl 0 rfl ?_
      refine go_getR dX1_seekTwo_78 sh_40 (by decide) f_X1_23 ⟨Nat.le_of_ble_eq_true rfl, Nat.le_of_ble_eq_true rfl, rfl⟩ rfl ?_
      refine go_getI dX1_seekTwo_81 (scr_sh (Or.inr rfl)) (by decide) f_X1_39 ⟨Nat.le_of_ble_eq_true rfl, Nat.le_of_ble_eq_true rfl, rfl⟩ ?_
      have hb4 := h.1
      have h := h.2
      refine go_irem dX1_seekTwo_84 hb4 ?_
      refine go_vcall (Z := Y_X1_attempt) (As := [.int (2 : Int32), .int x2, .int (x4 / (I 4 3)), .int x3, .int (x4 - x4 / (I 4 3) * (I 4 3))]) (S := []) dX1_seekTwo_85 ok_X1_attempt l_X1_29 (by decide) sh_40 (by decide) (Nat.le_of_ble_eq_true rfl) rfl rfl rfl (Nat.le_of_ble_eq_true rfl) h (fun _ I5 _ hq => ?_)
      obtain ⟨rfl, rfl, h⟩ := hq
      show Go G Y_X1_seekTwo 88 [(0, .ref 40), (1, .int x1), (2, .int x2), (3, .int x3), (4, .int x4)] [] SH I5 0 0 _
      refine go_iinc dX1_seekTwo_88 4 rfl (v := (x4 + 1)) rfl (Nat.le_of_ble_eq_true rfl) (L2 := [(4, .int (x4 + 1)), (0, .ref 40), (1, .int x1), (2, .int x2), (3, .int x3)]) rfl ?_
      refine go_goto (tgt := 45) dX1_seekTwo_91 (by decide) ?_
      exact go_loc [(0, .ref 40), (1, .int x1), (2, .int x2), (3, .int x3), (4, .int (x4 + 1))] [1, 2, 3, 4, 0] rfl h
set_option maxRecDepth 100000 in
set_option maxHeartbeats 4000000 in
theorem v_X1_attempt {G : CX} {a1 : Int32} {a2 : Int32} {a3 : Int32} {a4 : Int32} {a5 : Int32}  {I : HP} {Q : HP → Prop} (h : RV G Y_X5_open [.ref 22, .ref 1] I (fun I1 => GV G Y_X1_attempt 14 [(0, .ref 40), (1, .int a1), (2, .int a2), (3, .int a3), (4, .int a4), (5, .int a5), (6, .int (0 : Int32))] I1 Q)) : RV G Y_X1_attempt [.ref 40, .int a1, .int a2, .int a3, .int a4, .int a5] I Q := by
  refine ret_of (show plainName RX1 = true by decide) (Nat.le_of_ble_eq_true rfl) ?_
  show Go G Y_X1_attempt 0 [(0, .ref 40), (1, .int a1), (2, .int a2), (3, .int a3), (4, .int a4), (5, .int a5)] [] SH I 0 0 _
  refine go_aload_n dX1_attempt_0 rfl 0 rfl ?_
  refine go_getR dX1_attempt_1 sh_40 (by decide) f_X1_15 ⟨Nat.le_of_ble_eq_true rfl, Nat.le_of_ble_eq_true rfl, rfl⟩ rfl ?_
  refine go_aload_n dX1_attempt_4 rfl 0 rfl ?_
  refine go_getR dX1_attempt_5 sh_40 (by decide) f_X1_26 ⟨Nat.le_of_ble_eq_true rfl, Nat.le_of_ble_eq_true rfl, rfl⟩ rfl ?_
  refine go_vcall (Z := Y_X5_open) (As := [.ref 1]) (S := []) dX1_attempt_8 ok_X5_open l_X1_45 (by decide) (tel_sh (Or.inr rfl)) (by decide) (Nat.le_of_ble_eq_true rfl) rfl rfl rfl (Nat.le_of_ble_eq_true rfl) h (fun _ I1 _ hq => ?_)
  obtain ⟨rfl, rfl, h⟩ := hq
  show Go G Y_X1_attempt 11 [(0, .ref 40), (1, .int a1), (2, .int a2), (3, .int a3), (4, .int a4), (5, .int a5)] [] SH I1 0 0 _
  refine go_iconst dX1_attempt_11 (v := (0 : Int32)) (by decide) ?_
  refine go_istore dX1_attempt_12 (Nat.le_of_ble_eq_true rfl) (L2 := [(6, .int (0 : Int32)), (0, .ref 40), (1, .int a1), (2, .int a2), (3, .int a3), (4, .int a4), (5, .int a5)]) rfl ?_
  exact go_loc [(0, .ref 40), (1, .int a1), (2, .int a2), (3, .int a3), (4, .int a4), (5, .int a5), (6, .int (0 : Int32))] [1, 2, 3, 4, 5, 6, 0] rfl h
set_option maxRecDepth 100000 in
set_option maxHeartbeats 4000000 in
theorem v_X1_attempt_14 {G : CX} {x1 : Int32} {x2 : Int32} {x3 : Int32} {x4 : Int32} {x5 : Int32} {x6 : Int32}  {I : HP} {Q : HP → Prop} (h : (((I 2 3) < x6) → (RA G Y_X5_last [.ref 22] I (fun I2 r3 => isTur r3 ∧ (RZ G Y_X5_isWholeWithoutPause [.ref 22] I2 (fun I4 r5 => (((bI r5) = 0) → (Q I4)) ∧ ((¬ (bI r5) = 0) → ((((I4 41 0) = (-1 : Int32)) → (Q (st (st (st (st (st (st I4 41 0 x1) 41 1 (I2 r3 7)) 41 2 x2) 41 3 x3) 41 4 x4) 41 5 x5))) ∧ ((¬ (I4 41 0) = (-1 : Int32)) → ((((I4 41 1) ≤ (I2 r3 7)) → (Q I4)) ∧ ((¬ (I4 41 1) ≤ (I2 r3 7)) → (Q (st (st (st (st (st (st I4 41 0 x1) 41 1 (I2 r3 7)) 41 2 x2) 41 3 x3) 41 4 x4) 41 5 x5)))))))))))) ∧ ((¬ (I 2 3) < x6) → (RZ G Y_X5_isWholeWithoutPause [.ref 22] I (fun I9 r10 => (((bI r10) = 0) → (RA G Y_X5_last [.ref 22] I9 (fun I12 r13 => isTur r13 ∧ (RZ G Y_X5_isWholeWithoutPause [.ref 22] I12 (fun I14 r15 => (((bI r15) = 0) → (Q I14)) ∧ ((¬ (bI r15) = 0) → ((((I14 41 0) = (-1 : Int32)) → (Q (st (st (st (st (st (st I14 41 0 x1) 41 1 (I12 r13 7)) 41 2 x2) 41 3 x3) 41 4 x4) 41 5 x5))) ∧ ((¬ (I14 41 0) = (-1 : Int32)) → ((((I14 41 1) ≤ (I12 r13 7)) → (Q I14)) ∧ ((¬ (I14 41 1) ≤ (I12 r13 7)) → (Q (st (st (st (st (st (st I14 41 0 x1) 41 1 (I12 r13 7)) 41 2 x2) 41 3 x3) 41 4 x4) 41 5 x5)))))))))))) ∧ ((¬ (bI r10) = 0) → (((¬ x6 = x2) → (((¬ x6 = x4) → ((((I9 2 3) ≤ x6) → (GV G Y_X1_attempt 14 [(0, .ref 40), (1, .int x1), (2, .int x2), (3, .int x3), (4, .int x4), (5, .int x5), (6, .int (x6 + 1))] I9 Q)) ∧ ((¬ (I9 2 3) ≤ x6) → (RV G Y_X5_add [.ref 22, .ref 2, .int x6] I9 (fun I22 => GV G Y_X1_attempt 14 [(0, .ref 40), (1, .int x1), (2, .int x2), (3, .int x3), (4, .int x4), (5, .int x5), (6, .int (x6 + 1))] I22 Q))))) ∧ ((x6 = x4) → (RV G Y_X5_add [.ref 22, .ref 4, .int x5] I9 (fun I23 => (((I23 2 3) ≤ x6) → (GV G Y_X1_attempt 14 [(0, .ref 40), (1, .int x1), (2, .int x2), (3, .int x3), (4, .int x4), (5, .int x5), (6, .int (x6 + 1))] I23 Q)) ∧ ((¬ (I23 2 3) ≤ x6) → (RV G Y_X5_add [.ref 22, .ref 2, .int x6] I23 (fun I25 => GV G Y_X1_attempt 14 [(0, .ref 40), (1, .int x1), (2, .int x2), (3, .int x3), (4, .int x4), (5, .int x5), (6, .int (x6 + 1))] I25 Q)))))))) ∧ ((x6 = x2) → (RV G Y_X5_add [.ref 22, .ref 4, .int x3] I9 (fun I26 => ((¬ x6 = x4) → ((((I26 2 3) ≤ x6) → (GV G Y_X1_attempt 14 [(0, .ref 40), (1, .int x1), (2, .int x2), (3, .int x3), (4, .int x4), (5, .int x5), (6, .int (x6 + 1))] I26 Q)) ∧ ((¬ (I26 2 3) ≤ x6) → (RV G Y_X5_add [.ref 22, .ref 2, .int x6] I26 (fun I29 => GV G Y_X1_attempt 14 [(0, .ref 40), (1, .int x1), (2, .int x2), (3, .int x3), (4, .int x4), (5, .int x5), (6, .int (x6 + 1))] I29 Q))))) ∧ ((x6 = x4) → (RV G Y_X5_add [.ref 22, .ref 4, .int x5] I26 (fun I30 => (((I30 2 3) ≤ x6) → (GV G Y_X1_attempt 14 [(0, .ref 40), (1, .int x1), (2, .int x2), (3, .int x3), (4, .int x4), (5, .int x5), (6, .int (x6 + 1))] I30 Q)) ∧ ((¬ (I30 2 3) ≤ x6) → (RV G Y_X5_add [.ref 22, .ref 2, .int x6] I30 (fun I32 => GV G Y_X1_attempt 14 [(0, .ref 40), (1, .int x1), (2, .int x2), (3, .int x3), (4, .int x4), (5, .int x5), (6, .int (x6 + 1))] I32 Q))))))))))))))) : GV G Y_X1_attempt 14 [(0, .ref 40), (1, .int x1), (2, .int x2), (3, .int x3), (4, .int x4), (5, .int x5), (6, .int x6)] I Q := by
  show Go G Y_X1_attempt 14 [(0, .ref 40), (1, .int x1), (2, .int x2), (3, .int x3), (4, .int x4), (5, .int x5), (6, .int x6)] [] SH I 0 0 _
  refine go_iload dX1_attempt_14 6 rfl ?_
  refine go_aload_n dX1_attempt_16 rfl 0 rfl ?_
  refine go_getR dX1_attempt_17 sh_40 (by decide) f_X1_19 ⟨Nat.le_of_ble_eq_true rfl, Nat.le_of_ble_eq_true rfl, rfl⟩ rfl ?_
  refine go_getI dX1_attempt_20 (scr_sh (Or.inl rfl)) (by decide) f_X1_39 ⟨Nat.le_of_ble_eq_true rfl, Nat.le_of_ble_eq_true rfl, rfl⟩ ?_
  refine go_icmp_gt (tgt := 105) dX1_attempt_23 (by decide) (fun c1 => ?_) (fun c1 => ?_)
  · have h := h.1 c1
    refine go_aload_n dX1_attempt_105 rfl 0 rfl ?_
    refine go_getR dX1_attempt_106 sh_40 (by decide) f_X1_15 ⟨Nat.le_of_ble_eq_true rfl, Nat.le_of_ble_eq_true rfl, rfl⟩ rfl ?_
    refine go_vcall (Z := Y_X5_last) (As := []) (S := []) dX1_attempt_109 ok_X5_last l_X1_59 (by decide) (tel_sh (Or.inr rfl)) (by decide) (Nat.le_of_ble_eq_true rfl) rfl rfl rfl (Nat.le_of_ble_eq_true rfl) h (fun _ I2 _ hq => ?_)
    obtain ⟨rfl, r3, rfl, h⟩ := hq
    have hr3 := h.1
    have h := h.2
    show Go G Y_X1_attempt 112 [(0, .ref 40), (1, .int x1), (2, .int x2), (3, .int x3), (4, .int x4), (5, .int x5), (6, .int x6)] [.ref r3] SH I2 0 0 _
    refine go_getI dX1_attempt_112 hr3 (SH_lt hr3) f_X1_63 ⟨Nat.le_of_ble_eq_true rfl, Nat.le_of_ble_eq_true rfl, rfl⟩ ?_
    refine go_istore dX1_attempt_115 (Nat.le_of_ble_eq_true rfl) (L2 := [(6, .int (I2 r3 7)), (0, .ref 40), (1, .int x1), (2, .int x2), (3, .int x3), (4, .int x4), (5, .int x5)]) rfl ?_
    refine go_aload_n dX1_attempt_117 rfl 1 rfl ?_
    refine go_getR dX1_attempt_118 sh_40 (by decide) f_X1_15 ⟨Nat.le_of_ble_eq_true rfl, Nat.le_of_ble_eq_true rfl, rfl⟩ rfl ?_
    refine go_vcall (Z := Y_X5_isWholeWithoutPause) (As := []) (S := []) dX1_attempt_121 ok_X5_isWholeWithoutPause l_X1_51 (by decide) (tel_sh (Or.inr rfl)) (by decide) (Nat.le_of_ble_eq_true rfl) rfl rfl rfl (Nat.le_of_ble_eq_true rfl) h (fun _ I4 _ hq => ?_)
    obtain ⟨rfl, r5, rfl, h⟩ := hq
    show Go G Y_X1_attempt 124 [(6, .int (I2 r3 7)), (0, .ref 40), (1, .int x1), (2, .int x2), (3, .int x3), (4, .int x4), (5, .int x5)] [.int (bI r5)] SH I4 0 0 _
    refine go_if_eq (tgt := 193) dX1_attempt_124 (by decide) (fun c6 => ?_) (fun c6 => ?_)
    · have h := h.1 c6
      exact go_vret dX1_attempt_193 rfl rfl (by decide) ⟨rfl, rfl, h⟩
    · have h := h.2 c6
      refine go_aload_n dX1_attempt_127 rfl 1 rfl ?_
      refine go_getR dX1_attempt_128 sh_40 (by decide) f_X1_11 ⟨Nat.le_of_ble_eq_true rfl, Nat.le_of_ble_eq_true rfl, rfl⟩ rfl ?_
      refine go_iconst dX1_attempt_131 (v := (0 : Int32)) (by decide) ?_
      refine go_iald dX1_attempt_132 sh_41 (by decide) (by unfold vp_in; decide) (j := 0) (by decide) ?_
      refine go_iconst dX1_attempt_133 (v := (-1 : Int32)) (by decide) ?_
      refine go_icmp_eq (tgt := 148) dX1_attempt_134 (by decide) (fun c7 => ?_) (fun c7 => ?_)
      · have h := h.1 c7
        refine go_aload_n dX1_attempt_148 rfl 1 rfl ?_
        refine go_getR dX1_attempt_149 sh_40 (by decide) f_X1_11 ⟨Nat.le_of_ble_eq_true rfl, Nat.le_of_ble_eq_true rfl, rfl⟩ rfl ?_
        refine go_iconst dX1_attempt_152 (v := (0 : Int32)) (by decide) ?_
        refine go_iload_n dX1_attempt_153 rfl 2 rfl ?_
        refine go_iast dX1_attempt_154 sh_41 (by decide) (by unfold vp_in; decide) (j := 0) (by decide) ?_
        refine go_aload_n dX1_attempt_155 rfl 1 rfl ?_
        refine go_getR dX1_attempt_156 sh_40 (by decide) f_X1_11 ⟨Nat.le_of_ble_eq_true rfl, Nat.le_of_ble_eq_true rfl, rfl⟩ rfl ?_
        refine go_iconst dX1_attempt_159 (v := (1 : Int32)) (by decide) ?_
        refine go_iload dX1_attempt_160 0 rfl ?_
        refine go_iast dX1_attempt_162 sh_41 (by decide) (by unfold vp_in; decide) (j := 1) (by decide) ?_
        refine go_aload_n dX1_attempt_163 rfl 1 rfl ?_
        refine go_getR dX1_attempt_164 sh_40 (by decide) f_X1_11 ⟨Nat.le_of_ble_eq_true rfl, Nat.le_of_ble_eq_true rfl, rfl⟩ rfl ?_
        refine go_iconst dX1_attempt_167 (v := (2 : Int32)) (by decide) ?_
        refine go_iload_n dX1_attempt_168 rfl 3 rfl ?_
        refine go_iast dX1_attempt_169 sh_41 (by decide) (by unfold vp_in; decide) (j := 2) (by decide) ?_
        refine go_aload_n dX1_attempt_170 rfl 1 rfl ?_
        refine go_getR dX1_attempt_171 sh_40 (by decide) f_X1_11 ⟨Nat.le_of_ble_eq_true rfl, Nat.le_of_ble_eq_true rfl, rfl⟩ rfl ?_
        refine go_iconst dX1_attempt_174 (v := (3 : Int32)) (by decide) ?_
        refine go_iload_n dX1_attempt_175 rfl 4 rfl ?_
        refine go_iast dX1_attempt_176 sh_41 (by decide) (by unfold vp_in; decide) (j := 3) (by decide) ?_
        refine go_aload_n dX1_attempt_177 rfl 1 rfl ?_
        refine go_getR dX1_attempt_178 sh_40 (by decide) f_X1_11 ⟨Nat.le_of_ble_eq_true rfl, Nat.le_of_ble_eq_true rfl, rfl⟩ rfl ?_
        refine go_iconst dX1_attempt_181 (v := (4 : Int32)) (by decide) ?_
        refine go_iload dX1_attempt_182 5 rfl ?_
        refine go_iast dX1_attempt_184 sh_41 (by decide) (by unfold vp_in; decide) (j := 4) (by decide) ?_
        refine go_aload_n dX1_attempt_185 rfl 1 rfl ?_
        refine go_getR dX1_attempt_186 sh_40 (by decide) f_X1_11 ⟨Nat.le_of_ble_eq_true rfl, Nat.le_of_ble_eq_true rfl, rfl⟩ rfl ?_
        refine go_iconst dX1_attempt_189 (v := (5 : Int32)) (by decide) ?_
        refine go_iload dX1_attempt_190 6 rfl ?_
        refine go_iast dX1_attempt_192 sh_41 (by decide) (by unfold vp_in; decide) (j := 5) (by decide) ?_
        exact go_vret dX1_attempt_193 rfl rfl (by decide) ⟨rfl, rfl, h⟩
      · have h := h.2 c7
        refine go_iload dX1_attempt_137 0 rfl ?_
        refine go_aload_n dX1_attempt_139 rfl 1 rfl ?_
        refine go_getR dX1_attempt_140 sh_40 (by decide) f_X1_11 ⟨Nat.le_of_ble_eq_true rfl, Nat.le_of_ble_eq_true rfl, rfl⟩ rfl ?_
        refine go_iconst dX1_attempt_143 (v := (1 : Int32)) (by decide) ?_
        refine go_iald dX1_attempt_144 sh_41 (by decide) (by unfold vp_in; decide) (j := 1) (by decide) ?_
        refine go_icmp_ge (tgt := 193) dX1_attempt_145 (by decide) (fun c8 => ?_) (fun c8 => ?_)
        · have h := h.1 c8
          exact go_vret dX1_attempt_193 rfl rfl (by decide) ⟨rfl, rfl, h⟩
        · have h := h.2 c8
          refine go_aload_n dX1_attempt_148 rfl 1 rfl ?_
          refine go_getR dX1_attempt_149 sh_40 (by decide) f_X1_11 ⟨Nat.le_of_ble_eq_true rfl, Nat.le_of_ble_eq_true rfl, rfl⟩ rfl ?_
          refine go_iconst dX1_attempt_152 (v := (0 : Int32)) (by decide) ?_
          refine go_iload_n dX1_attempt_153 rfl 2 rfl ?_
          refine go_iast dX1_attempt_154 sh_41 (by decide) (by unfold vp_in; decide) (j := 0) (by decide) ?_
          refine go_aload_n dX1_attempt_155 rfl 1 rfl ?_
          refine go_getR dX1_attempt_156 sh_40 (by decide) f_X1_11 ⟨Nat.le_of_ble_eq_true rfl, Nat.le_of_ble_eq_true rfl, rfl⟩ rfl ?_
          refine go_iconst dX1_attempt_159 (v := (1 : Int32)) (by decide) ?_
          refine go_iload dX1_attempt_160 0 rfl ?_
          refine go_iast dX1_attempt_162 sh_41 (by decide) (by unfold vp_in; decide) (j := 1) (by decide) ?_
          refine go_aload_n dX1_attempt_163 rfl 1 rfl ?_
          refine go_getR dX1_attempt_164 sh_40 (by decide) f_X1_11 ⟨Nat.le_of_ble_eq_true rfl, Nat.le_of_ble_eq_true rfl, rfl⟩ rfl ?_
          refine go_iconst dX1_attempt_167 (v := (2 : Int32)) (by decide) ?_
          refine go_iload_n dX1_attempt_168 rfl 3 rfl ?_
          refine go_iast dX1_attempt_169 sh_41 (by decide) (by unfold vp_in; decide) (j := 2) (by decide) ?_
          refine go_aload_n dX1_attempt_170 rfl 1 rfl ?_
          refine go_getR dX1_attempt_171 sh_40 (by decide) f_X1_11 ⟨Nat.le_of_ble_eq_true rfl, Nat.le_of_ble_eq_true rfl, rfl⟩ rfl ?_
          refine go_iconst dX1_attempt_174 (v := (3 : Int32)) (by decide) ?_
          refine go_iload_n dX1_attempt_175 rfl 4 rfl ?_
          refine go_iast dX1_attempt_176 sh_41 (by decide) (by unfold vp_in; decide) (j := 3) (by decide) ?_
          refine go_aload_n dX1_attempt_177 rfl 1 rfl ?_
          refine go_getR dX1_attempt_178 sh_40 (by decide) f_X1_11 ⟨Nat.le_of_ble_eq_true rfl, Nat.le_of_ble_eq_true rfl, rfl⟩ rfl ?_
          refine go_iconst dX1_attempt_181 (v := (4 : Int32)) (by decide) ?_
          refine go_iload dX1_attempt_182 5 rfl ?_
          refine go_iast dX1_attempt_184 sh_41 (by decide) (by unfold vp_in; decide) (j := 4) (by decide) ?_
          refine go_aload_n dX1_attempt_185 rfl 1 rfl ?_
          refine go_getR dX1_attempt_186 sh_40 (by decide) f_X1_11 ⟨Nat.le_of_ble_eq_true rfl, Nat.le_of_ble_eq_true rfl, rfl⟩ rfl ?_
          refine go_iconst dX1_attempt_189 (v := (5 : Int32)) (by decide) ?_
          refine go_iload dX1_attempt_190 6 rfl ?_
          refine go_iast dX1_attempt_192 sh_41 (by decide) (by unfold vp_in; decide) (j := 5) (by decide) ?_
          exact go_vret dX1_attempt_193 rfl rfl (by decide) ⟨rfl, rfl, h⟩
  · have h := h.2 c1
    refine go_aload_n dX1_attempt_26 rfl 0 rfl ?_
    refine go_getR dX1_attempt_27 sh_40 (by decide) f_X1_15 ⟨Nat.le_of_ble_eq_true rfl, Nat.le_of_ble_eq_true rfl, rfl⟩ rfl ?_
    refine go_vcall (Z := Y_X5_isWholeWithoutPause) (As := []) (S := []) dX1_attempt_30 ok_X5_isWholeWithoutPause l_X1_51 (by decide) (tel_sh (Or.inr rfl)) (by decide) (Nat.le_of_ble_eq_true rfl) rfl rfl rfl (Nat.le_of_ble_eq_true rfl) h (fun _ I9 _ hq => ?_)
    obtain ⟨rfl, r10, rfl, h⟩ := hq
    show Go G Y_X1_attempt 33 [(0, .ref 40), (1, .int x1), (2, .int x2), (3, .int x3), (4, .int x4), (5, .int x5), (6, .int x6)] [.int (bI r10)] SH I9 0 0 _
    refine go_if_eq (tgt := 105) dX1_attempt_33 (by decide) (fun c11 => ?_) (fun c11 => ?_)
    · have h := h.1 c11
      refine go_aload_n dX1_attempt_105 rfl 0 rfl ?_
      refine go_getR dX1_attempt_106 sh_40 (by decide) f_X1_15 ⟨Nat.le_of_ble_eq_true rfl, Nat.le_of_ble_eq_true rfl, rfl⟩ rfl ?_
      refine go_vcall (Z := Y_X5_last) (As := []) (S := []) dX1_attempt_109 ok_X5_last l_X1_59 (by decide) (tel_sh (Or.inr rfl)) (by decide) (Nat.le_of_ble_eq_true rfl) rfl rfl rfl (Nat.le_of_ble_eq_true rfl) h (fun _ I12 _ hq => ?_)
      obtain ⟨rfl, r13, rfl, h⟩ := hq
      have hr13 := h.1
      have h := h.2
      show Go G Y_X1_attempt 112 [(0, .ref 40), (1, .int x1), (2, .int x2), (3, .int x3), (4, .int x4), (5, .int x5), (6, .int x6)] [.ref r13] SH I12 0 0 _
      refine go_getI dX1_attempt_112 hr13 (SH_lt hr13) f_X1_63 ⟨Nat.le_of_ble_eq_true rfl, Nat.le_of_ble_eq_true rfl, rfl⟩ ?_
      refine go_istore dX1_attempt_115 (Nat.le_of_ble_eq_true rfl) (L2 := [(6, .int (I12 r13 7)), (0, .ref 40), (1, .int x1), (2, .int x2), (3, .int x3), (4, .int x4), (5, .int x5)]) rfl ?_
      refine go_aload_n dX1_attempt_117 rfl 1 rfl ?_
      refine go_getR dX1_attempt_118 sh_40 (by decide) f_X1_15 ⟨Nat.le_of_ble_eq_true rfl, Nat.le_of_ble_eq_true rfl, rfl⟩ rfl ?_
      refine go_vcall (Z := Y_X5_isWholeWithoutPause) (As := []) (S := []) dX1_attempt_121 ok_X5_isWholeWithoutPause l_X1_51 (by decide) (tel_sh (Or.inr rfl)) (by decide) (Nat.le_of_ble_eq_true rfl) rfl rfl rfl (Nat.le_of_ble_eq_true rfl) h (fun _ I14 _ hq => ?_)
      obtain ⟨rfl, r15, rfl, h⟩ := hq
      show Go G Y_X1_attempt 124 [(6, .int (I12 r13 7)), (0, .ref 40), (1, .int x1), (2, .int x2), (3, .int x3), (4, .int x4), (5, .int x5)] [.int (bI r15)] SH I14 0 0 _
      refine go_if_eq (tgt := 193) dX1_attempt_124 (by decide) (fun c16 => ?_) (fun c16 => ?_)
      · have h := h.1 c16
        exact go_vret dX1_attempt_193 rfl rfl (by decide) ⟨rfl, rfl, h⟩
      · have h := h.2 c16
        refine go_aload_n dX1_attempt_127 rfl 1 rfl ?_
        refine go_getR dX1_attempt_128 sh_40 (by decide) f_X1_11 ⟨Nat.le_of_ble_eq_true rfl, Nat.le_of_ble_eq_true rfl, rfl⟩ rfl ?_
        refine go_iconst dX1_attempt_131 (v := (0 : Int32)) (by decide) ?_
        refine go_iald dX1_attempt_132 sh_41 (by decide) (by unfold vp_in; decide) (j := 0) (by decide) ?_
        refine go_iconst dX1_attempt_133 (v := (-1 : Int32)) (by decide) ?_
        refine go_icmp_eq (tgt := 148) dX1_attempt_134 (by decide) (fun c17 => ?_) (fun c17 => ?_)
        · have h := h.1 c17
          refine go_aload_n dX1_attempt_148 rfl 1 rfl ?_
          refine go_getR dX1_attempt_149 sh_40 (by decide) f_X1_11 ⟨Nat.le_of_ble_eq_true rfl, Nat.le_of_ble_eq_true rfl, rfl⟩ rfl ?_
          refine go_iconst dX1_attempt_152 (v := (0 : Int32)) (by decide) ?_
          refine go_iload_n dX1_attempt_153 rfl 2 rfl ?_
          refine go_iast dX1_attempt_154 sh_41 (by decide) (by unfold vp_in; decide) (j := 0) (by decide) ?_
          refine go_aload_n dX1_attempt_155 rfl 1 rfl ?_
          refine go_getR dX1_attempt_156 sh_40 (by decide) f_X1_11 ⟨Nat.le_of_ble_eq_true rfl, Nat.le_of_ble_eq_true rfl, rfl⟩ rfl ?_
          refine go_iconst dX1_attempt_159 (v := (1 : Int32)) (by decide) ?_
          refine go_iload dX1_attempt_160 0 rfl ?_
          refine go_iast dX1_attempt_162 sh_41 (by decide) (by unfold vp_in; decide) (j := 1) (by decide) ?_
          refine go_aload_n dX1_attempt_163 rfl 1 rfl ?_
          refine go_getR dX1_attempt_164 sh_40 (by decide) f_X1_11 ⟨Nat.le_of_ble_eq_true rfl, Nat.le_of_ble_eq_true rfl, rfl⟩ rfl ?_
          refine go_iconst dX1_attempt_167 (v := (2 : Int32)) (by decide) ?_
          refine go_iload_n dX1_attempt_168 rfl 3 rfl ?_
          refine go_iast dX1_attempt_169 sh_41 (by decide) (by unfold vp_in; decide) (j := 2) (by decide) ?_
          refine go_aload_n dX1_attempt_170 rfl 1 rfl ?_
          refine go_getR dX1_attempt_171 sh_40 (by decide) f_X1_11 ⟨Nat.le_of_ble_eq_true rfl, Nat.le_of_ble_eq_true rfl, rfl⟩ rfl ?_
          refine go_iconst dX1_attempt_174 (v := (3 : Int32)) (by decide) ?_
          refine go_iload_n dX1_attempt_175 rfl 4 rfl ?_
          refine go_iast dX1_attempt_176 sh_41 (by decide) (by unfold vp_in; decide) (j := 3) (by decide) ?_
          refine go_aload_n dX1_attempt_177 rfl 1 rfl ?_
          refine go_getR dX1_attempt_178 sh_40 (by decide) f_X1_11 ⟨Nat.le_of_ble_eq_true rfl, Nat.le_of_ble_eq_true rfl, rfl⟩ rfl ?_
          refine go_iconst dX1_attempt_181 (v := (4 : Int32)) (by decide) ?_
          refine go_iload dX1_attempt_182 5 rfl ?_
          refine go_iast dX1_attempt_184 sh_41 (by decide) (by unfold vp_in; decide) (j := 4) (by decide) ?_
          refine go_aload_n dX1_attempt_185 rfl 1 rfl ?_
          refine go_getR dX1_attempt_186 sh_40 (by decide) f_X1_11 ⟨Nat.le_of_ble_eq_true rfl, Nat.le_of_ble_eq_true rfl, rfl⟩ rfl ?_
          refine go_iconst dX1_attempt_189 (v := (5 : Int32)) (by decide) ?_
          refine go_iload dX1_attempt_190 6 rfl ?_
          refine go_iast dX1_attempt_192 sh_41 (by decide) (by unfold vp_in; decide) (j := 5) (by decide) ?_
          exact go_vret dX1_attempt_193 rfl rfl (by decide) ⟨rfl, rfl, h⟩
        · have h := h.2 c17
          refine go_iload dX1_attempt_137 0 rfl ?_
          refine go_aload_n dX1_attempt_139 rfl 1 rfl ?_
          refine go_getR dX1_attempt_140 sh_40 (by decide) f_X1_11 ⟨Nat.le_of_ble_eq_true rfl, Nat.le_of_ble_eq_true rfl, rfl⟩ rfl ?_
          refine go_iconst dX1_attempt_143 (v := (1 : Int32)) (by decide) ?_
          refine go_iald dX1_attempt_144 sh_41 (by decide) (by unfold vp_in; decide) (j := 1) (by decide) ?_
          refine go_icmp_ge (tgt := 193) dX1_attempt_145 (by decide) (fun c18 => ?_) (fun c18 => ?_)
          · have h := h.1 c18
            exact go_vret dX1_attempt_193 rfl rfl (by decide) ⟨rfl, rfl, h⟩
          · have h := h.2 c18
            refine go_aload_n dX1_attempt_148 rfl 1 rfl ?_
            refine go_getR dX1_attempt_149 sh_40 (by decide) f_X1_11 ⟨Nat.le_of_ble_eq_true rfl, Nat.le_of_ble_eq_true rfl, rfl⟩ rfl ?_
            refine go_iconst dX1_attempt_152 (v := (0 : Int32)) (by decide) ?_
            refine go_iload_n dX1_attempt_153 rfl 2 rfl ?_
            refine go_iast dX1_attempt_154 sh_41 (by decide) (by unfold vp_in; decide) (j := 0) (by decide) ?_
            refine go_aload_n dX1_attempt_155 rfl 1 rfl ?_
            refine go_getR dX1_attempt_156 sh_40 (by decide) f_X1_11 ⟨Nat.le_of_ble_eq_true rfl, Nat.le_of_ble_eq_true rfl, rfl⟩ rfl ?_
            refine go_iconst dX1_attempt_159 (v := (1 : Int32)) (by decide) ?_
            refine go_iload dX1_attempt_160 0 rfl ?_
            refine go_iast dX1_attempt_162 sh_41 (by decide) (by unfold vp_in; decide) (j := 1) (by decide) ?_
            refine go_aload_n dX1_attempt_163 rfl 1 rfl ?_
            refine go_getR dX1_attempt_164 sh_40 (by decide) f_X1_11 ⟨Nat.le_of_ble_eq_true rfl, Nat.le_of_ble_eq_true rfl, rfl⟩ rfl ?_
            refine go_iconst dX1_attempt_167 (v := (2 : Int32)) (by decide) ?_
            refine go_iload_n dX1_attempt_168 rfl 3 rfl ?_
            refine go_iast dX1_attempt_169 sh_41 (by decide) (by unfold vp_in; decide) (j := 2) (by decide) ?_
            refine go_aload_n dX1_attempt_170 rfl 1 rfl ?_
            refine go_getR dX1_attempt_171 sh_40 (by decide) f_X1_11 ⟨Nat.le_of_ble_eq_true rfl, Nat.le_of_ble_eq_true rfl, rfl⟩ rfl ?_
            refine go_iconst dX1_attempt_174 (v := (3 : Int32)) (by decide) ?_
            refine go_iload_n dX1_attempt_175 rfl 4 rfl ?_
            refine go_iast dX1_attempt_176 sh_41 (by decide) (by unfold vp_in; decide) (j := 3) (by decide) ?_
            refine go_aload_n dX1_attempt_177 rfl 1 rfl ?_
            refine go_getR dX1_attempt_178 sh_40 (by decide) f_X1_11 ⟨Nat.le_of_ble_eq_true rfl, Nat.le_of_ble_eq_true rfl, rfl⟩ rfl ?_
            refine go_iconst dX1_attempt_181 (v := (4 : Int32)) (by decide) ?_
            refine go_iload dX1_attempt_182 5 rfl ?_
            refine go_iast dX1_attempt_184 sh_41 (by decide) (by unfold vp_in; decide) (j := 4) (by decide) ?_
            refine go_aload_n dX1_attempt_185 rfl 1 rfl ?_
            refine go_getR dX1_attempt_186 sh_40 (by decide) f_X1_11 ⟨Nat.le_of_ble_eq_true rfl, Nat.le_of_ble_eq_true rfl, rfl⟩ rfl ?_
            refine go_iconst dX1_attempt_189 (v := (5 : Int32)) (by decide) ?_
            refine go_iload dX1_attempt_190 6 rfl ?_
            refine go_iast dX1_attempt_192 sh_41 (by decide) (by unfold vp_in; decide) (j := 5) (by decide) ?_
            exact go_vret dX1_attempt_193 rfl rfl (by decide) ⟨rfl, rfl, h⟩
    · have h := h.2 c11
      refine go_iload dX1_attempt_36 6 rfl ?_
      refine go_iload_n dX1_attempt_38 rfl 2 rfl ?_
      refine go_icmp_ne (tgt := 54) dX1_attempt_39 (by decide) (fun c19 => ?_) (fun c19 => ?_)
      · have h := h.1 c19
        refine go_iload dX1_attempt_54 6 rfl ?_
        refine go_iload dX1_attempt_56 4 rfl ?_
        refine go_icmp_ne (tgt := 74) dX1_attempt_58 (by decide) (fun c20 => ?_) (fun c20 => ?_)
        · have h := h.1 c20
          refine go_iload dX1_attempt_74 6 rfl ?_
          refine go_aload_n dX1_attempt_76 rfl 0 rfl ?_
          refine go_getR dX1_attempt_77 sh_40 (by decide) f_X1_19 ⟨Nat.le_of_ble_eq_true rfl, Nat.le_of_ble_eq_true rfl, rfl⟩ rfl ?_
          refine go_getI dX1_attempt_80 (scr_sh (Or.inl rfl)) (by decide) f_X1_39 ⟨Nat.le_of_ble_eq_true rfl, Nat.le_of_ble_eq_true rfl, rfl⟩ ?_
          refine go_icmp_ge (tgt := 99) dX1_attempt_83 (by decide) (fun c21 => ?_) (fun c21 => ?_)
          · have h := h.1 c21
            refine go_iinc dX1_attempt_99 6 rfl (v := (x6 + 1)) rfl (Nat.le_of_ble_eq_true rfl) (L2 := [(6, .int (x6 + 1)), (0, .ref 40), (1, .int x1), (2, .int x2), (3, .int x3), (4, .int x4), (5, .int x5)]) rfl ?_
            refine go_goto (tgt := 14) dX1_attempt_102 (by decide) ?_
            exact go_loc [(0, .ref 40), (1, .int x1), (2, .int x2), (3, .int x3), (4, .int x4), (5, .int x5), (6, .int (x6 + 1))] [1, 2, 3, 4, 5, 6, 0] rfl h
          · have h := h.2 c21
            refine go_aload_n dX1_attempt_86 rfl 0 rfl ?_
            refine go_getR dX1_attempt_87 sh_40 (by decide) f_X1_15 ⟨Nat.le_of_ble_eq_true rfl, Nat.le_of_ble_eq_true rfl, rfl⟩ rfl ?_
            refine go_aload_n dX1_attempt_90 rfl 0 rfl ?_
            refine go_getR dX1_attempt_91 sh_40 (by decide) f_X1_19 ⟨Nat.le_of_ble_eq_true rfl, Nat.le_of_ble_eq_true rfl, rfl⟩ rfl ?_
            refine go_iload dX1_attempt_94 6 rfl ?_
            refine go_vcall (Z := Y_X5_add) (As := [.ref 2, .int x6]) (S := []) dX1_attempt_96 ok_X5_add l_X1_55 (by decide) (tel_sh (Or.inr rfl)) (by decide) (Nat.le_of_ble_eq_true rfl) rfl rfl rfl (Nat.le_of_ble_eq_true rfl) h (fun _ I22 _ hq => ?_)
            obtain ⟨rfl, rfl, h⟩ := hq
            show Go G Y_X1_attempt 99 [(0, .ref 40), (1, .int x1), (2, .int x2), (3, .int x3), (4, .int x4), (5, .int x5), (6, .int x6)] [] SH I22 0 0 _
            refine go_iinc dX1_attempt_99 6 rfl (v := (x6 + 1)) rfl (Nat.le_of_ble_eq_true rfl) (L2 := [(6, .int (x6 + 1)), (0, .ref 40), (1, .int x1), (2, .int x2), (3, .int x3), (4, .int x4), (5, .int x5)]) rfl ?_
            refine go_goto (tgt := 14) dX1_attempt_102 (by decide) ?_
            exact go_loc [(0, .ref 40), (1, .int x1), (2, .int x2), (3, .int x3), (4, .int x4), (5, .int x5), (6, .int (x6 + 1))] [1, 2, 3, 4, 5, 6, 0] rfl h
        · have h := h.2 c20
          refine go_aload_n dX1_attempt_61 rfl 0 rfl ?_
          refine go_getR dX1_attempt_62 sh_40 (by decide) f_X1_15 ⟨Nat.le_of_ble_eq_true rfl, Nat.le_of_ble_eq_true rfl, rfl⟩ rfl ?_
          refine go_aload_n dX1_attempt_65 rfl 0 rfl ?_
          refine go_getR dX1_attempt_66 sh_40 (by decide) f_X1_23 ⟨Nat.le_of_ble_eq_true rfl, Nat.le_of_ble_eq_true rfl, rfl⟩ rfl ?_
          refine go_iload dX1_attempt_69 5 rfl ?_
          refine go_vcall (Z := Y_X5_add) (As := [.ref 4, .int x5]) (S := []) dX1_attempt_71 ok_X5_add l_X1_55 (by decide) (tel_sh (Or.inr rfl)) (by decide) (Nat.le_of_ble_eq_true rfl) rfl rfl rfl (Nat.le_of_ble_eq_true rfl) h (fun _ I23 _ hq => ?_)
          obtain ⟨rfl, rfl, h⟩ := hq
          show Go G Y_X1_attempt 74 [(0, .ref 40), (1, .int x1), (2, .int x2), (3, .int x3), (4, .int x4), (5, .int x5), (6, .int x6)] [] SH I23 0 0 _
          refine go_iload dX1_attempt_74 6 rfl ?_
          refine go_aload_n dX1_attempt_76 rfl 0 rfl ?_
          refine go_getR dX1_attempt_77 sh_40 (by decide) f_X1_19 ⟨Nat.le_of_ble_eq_true rfl, Nat.le_of_ble_eq_true rfl, rfl⟩ rfl ?_
          refine go_getI dX1_attempt_80 (scr_sh (Or.inl rfl)) (by decide) f_X1_39 ⟨Nat.le_of_ble_eq_true rfl, Nat.le_of_ble_eq_true rfl, rfl⟩ ?_
          refine go_icmp_ge (tgt := 99) dX1_attempt_83 (by decide) (fun c24 => ?_) (fun c24 => ?_)
          · have h := h.1 c24
            refine go_iinc dX1_attempt_99 6 rfl (v := (x6 + 1)) rfl (Nat.le_of_ble_eq_true rfl) (L2 := [(6, .int (x6 + 1)), (0, .ref 40), (1, .int x1), (2, .int x2), (3, .int x3), (4, .int x4), (5, .int x5)]) rfl ?_
            refine go_goto (tgt := 14) dX1_attempt_102 (by decide) ?_
            exact go_loc [(0, .ref 40), (1, .int x1), (2, .int x2), (3, .int x3), (4, .int x4), (5, .int x5), (6, .int (x6 + 1))] [1, 2, 3, 4, 5, 6, 0] rfl h
          · have h := h.2 c24
            refine go_aload_n dX1_attempt_86 rfl 0 rfl ?_
            refine go_getR dX1_attempt_87 sh_40 (by decide) f_X1_15 ⟨Nat.le_of_ble_eq_true rfl, Nat.le_of_ble_eq_true rfl, rfl⟩ rfl ?_
            refine go_aload_n dX1_attempt_90 rfl 0 rfl ?_
            refine go_getR dX1_attempt_91 sh_40 (by decide) f_X1_19 ⟨Nat.le_of_ble_eq_true rfl, Nat.le_of_ble_eq_true rfl, rfl⟩ rfl ?_
            refine go_iload dX1_attempt_94 6 rfl ?_
            refine go_vcall (Z := Y_X5_add) (As := [.ref 2, .int x6]) (S := []) dX1_attempt_96 ok_X5_add l_X1_55 (by decide) (tel_sh (Or.inr rfl)) (by decide) (Nat.le_of_ble_eq_true rfl) rfl rfl rfl (Nat.le_of_ble_eq_true rfl) h (fun _ I25 _ hq => ?_)
            obtain ⟨rfl, rfl, h⟩ := hq
            show Go G Y_X1_attempt 99 [(0, .ref 40), (1, .int x1), (2, .int x2), (3, .int x3), (4, .int x4), (5, .int x5), (6, .int x6)] [] SH I25 0 0 _
            refine go_iinc dX1_attempt_99 6 rfl (v := (x6 + 1)) rfl (Nat.le_of_ble_eq_true rfl) (L2 := [(6, .int (x6 + 1)), (0, .ref 40), (1, .int x1), (2, .int x2), (3, .int x3), (4, .int x4), (5, .int x5)]) rfl ?_
            refine go_goto (tgt := 14) dX1_attempt_102 (by decide) ?_
            exact go_loc [(0, .ref 40), (1, .int x1), (2, .int x2), (3, .int x3), (4, .int x4), (5, .int x5), (6, .int (x6 + 1))] [1, 2, 3, 4, 5, 6, 0] rfl h
      · have h := h.2 c19
        refine go_aload_n dX1_attempt_42 rfl 0 rfl ?_
        refine go_getR dX1_attempt_43 sh_40 (by decide) f_X1_15 ⟨Nat.le_of_ble_eq_true rfl, Nat.le_of_ble_eq_true rfl, rfl⟩ rfl ?_
        refine go_aload_n dX1_attempt_46 rfl 0 rfl ?_
        refine go_getR dX1_attempt_47 sh_40 (by decide) f_X1_23 ⟨Nat.le_of_ble_eq_true rfl, Nat.le_of_ble_eq_true rfl, rfl⟩ rfl ?_
        refine go_iload_n dX1_attempt_50 rfl 3 rfl ?_
        refine go_vcall (Z := Y_X5_add) (As := [.ref 4, .int x3]) (S := []) dX1_attempt_51 ok_X5_add l_X1_55 (by decide) (tel_sh (Or.inr rfl)) (by decide) (Nat.le_of_ble_eq_true rfl) rfl rfl rfl (Nat.le_of_ble_eq_true rfl) h (fun _ I26 _ hq => ?_)
        obtain ⟨rfl, rfl, h⟩ := hq
        show Go G Y_X1_attempt 54 [(0, .ref 40), (1, .int x1), (2, .int x2), (3, .int x3), (4, .int x4), (5, .int x5), (6, .int x6)] [] SH I26 0 0 _
        refine go_iload dX1_attempt_54 6 rfl ?_
        refine go_iload dX1_attempt_56 4 rfl ?_
        refine go_icmp_ne (tgt := 74) dX1_attempt_58 (by decide) (fun c27 => ?_) (fun c27 => ?_)
        · have h := h.1 c27
          refine go_iload dX1_attempt_74 6 rfl ?_
          refine go_aload_n dX1_attempt_76 rfl 0 rfl ?_
          refine go_getR dX1_attempt_77 sh_40 (by decide) f_X1_19 ⟨Nat.le_of_ble_eq_true rfl, Nat.le_of_ble_eq_true rfl, rfl⟩ rfl ?_
          refine go_getI dX1_attempt_80 (scr_sh (Or.inl rfl)) (by decide) f_X1_39 ⟨Nat.le_of_ble_eq_true rfl, Nat.le_of_ble_eq_true rfl, rfl⟩ ?_
          refine go_icmp_ge (tgt := 99) dX1_attempt_83 (by decide) (fun c28 => ?_) (fun c28 => ?_)
          · have h := h.1 c28
            refine go_iinc dX1_attempt_99 6 rfl (v := (x6 + 1)) rfl (Nat.le_of_ble_eq_true rfl) (L2 := [(6, .int (x6 + 1)), (0, .ref 40), (1, .int x1), (2, .int x2), (3, .int x3), (4, .int x4), (5, .int x5)]) rfl ?_
            refine go_goto (tgt := 14) dX1_attempt_102 (by decide) ?_
            exact go_loc [(0, .ref 40), (1, .int x1), (2, .int x2), (3, .int x3), (4, .int x4), (5, .int x5), (6, .int (x6 + 1))] [1, 2, 3, 4, 5, 6, 0] rfl h
          · have h := h.2 c28
            refine go_aload_n dX1_attempt_86 rfl 0 rfl ?_
            refine go_getR dX1_attempt_87 sh_40 (by decide) f_X1_15 ⟨Nat.le_of_ble_eq_true rfl, Nat.le_of_ble_eq_true rfl, rfl⟩ rfl ?_
            refine go_aload_n dX1_attempt_90 rfl 0 rfl ?_
            refine go_getR dX1_attempt_91 sh_40 (by decide) f_X1_19 ⟨Nat.le_of_ble_eq_true rfl, Nat.le_of_ble_eq_true rfl, rfl⟩ rfl ?_
            refine go_iload dX1_attempt_94 6 rfl ?_
            refine go_vcall (Z := Y_X5_add) (As := [.ref 2, .int x6]) (S := []) dX1_attempt_96 ok_X5_add l_X1_55 (by decide) (tel_sh (Or.inr rfl)) (by decide) (Nat.le_of_ble_eq_true rfl) rfl rfl rfl (Nat.le_of_ble_eq_true rfl) h (fun _ I29 _ hq => ?_)
            obtain ⟨rfl, rfl, h⟩ := hq
            show Go G Y_X1_attempt 99 [(0, .ref 40), (1, .int x1), (2, .int x2), (3, .int x3), (4, .int x4), (5, .int x5), (6, .int x6)] [] SH I29 0 0 _
            refine go_iinc dX1_attempt_99 6 rfl (v := (x6 + 1)) rfl (Nat.le_of_ble_eq_true rfl) (L2 := [(6, .int (x6 + 1)), (0, .ref 40), (1, .int x1), (2, .int x2), (3, .int x3), (4, .int x4), (5, .int x5)]) rfl ?_
            refine go_goto (tgt := 14) dX1_attempt_102 (by decide) ?_
            exact go_loc [(0, .ref 40), (1, .int x1), (2, .int x2), (3, .int x3), (4, .int x4), (5, .int x5), (6, .int (x6 + 1))] [1, 2, 3, 4, 5, 6, 0] rfl h
        · have h := h.2 c27
          refine go_aload_n dX1_attempt_61 rfl 0 rfl ?_
          refine go_getR dX1_attempt_62 sh_40 (by decide) f_X1_15 ⟨Nat.le_of_ble_eq_true rfl, Nat.le_of_ble_eq_true rfl, rfl⟩ rfl ?_
          refine go_aload_n dX1_attempt_65 rfl 0 rfl ?_
          refine go_getR dX1_attempt_66 sh_40 (by decide) f_X1_23 ⟨Nat.le_of_ble_eq_true rfl, Nat.le_of_ble_eq_true rfl, rfl⟩ rfl ?_
          refine go_iload dX1_attempt_69 5 rfl ?_
          refine go_vcall (Z := Y_X5_add) (As := [.ref 4, .int x5]) (S := []) dX1_attempt_71 ok_X5_add l_X1_55 (by decide) (tel_sh (Or.inr rfl)) (by decide) (Nat.le_of_ble_eq_true rfl) rfl rfl rfl (Nat.le_of_ble_eq_true rfl) h (fun _ I30 _ hq => ?_)
          obtain ⟨rfl, rfl, h⟩ := hq
          show Go G Y_X1_attempt 74 [(0, .ref 40), (1, .int x1), (2, .int x2), (3, .int x3), (4, .int x4), (5, .int x5), (6, .int x6)] [] SH I30 0 0 _
          refine go_iload dX1_attempt_74 6 rfl ?_
          refine go_aload_n dX1_attempt_76 rfl 0 rfl ?_
          refine go_getR dX1_attempt_77 sh_40 (by decide) f_X1_19 ⟨Nat.le_of_ble_eq_true rfl, Nat.le_of_ble_eq_true rfl, rfl⟩ rfl ?_
          refine go_getI dX1_attempt_80 (scr_sh (Or.inl rfl)) (by decide) f_X1_39 ⟨Nat.le_of_ble_eq_true rfl, Nat.le_of_ble_eq_true rfl, rfl⟩ ?_
          refine go_icmp_ge (tgt := 99) dX1_attempt_83 (by decide) (fun c31 => ?_) (fun c31 => ?_)
          · have h := h.1 c31
            refine go_iinc dX1_attempt_99 6 rfl (v := (x6 + 1)) rfl (Nat.le_of_ble_eq_true rfl) (L2 := [(6, .int (x6 + 1)), (0, .ref 40), (1, .int x1), (2, .int x2), (3, .int x3), (4, .int x4), (5, .int x5)]) rfl ?_
            refine go_goto (tgt := 14) dX1_attempt_102 (by decide) ?_
            exact go_loc [(0, .ref 40), (1, .int x1), (2, .int x2), (3, .int x3), (4, .int x4), (5, .int x5), (6, .int (x6 + 1))] [1, 2, 3, 4, 5, 6, 0] rfl h
          · have h := h.2 c31
            refine go_aload_n dX1_attempt_86 rfl 0 rfl ?_
            refine go_getR dX1_attempt_87 sh_40 (by decide) f_X1_15 ⟨Nat.le_of_ble_eq_true rfl, Nat.le_of_ble_eq_true rfl, rfl⟩ rfl ?_
            refine go_aload_n dX1_attempt_90 rfl 0 rfl ?_
            refine go_getR dX1_attempt_91 sh_40 (by decide) f_X1_19 ⟨Nat.le_of_ble_eq_true rfl, Nat.le_of_ble_eq_true rfl, rfl⟩ rfl ?_
            refine go_iload dX1_attempt_94 6 rfl ?_
            refine go_vcall (Z := Y_X5_add) (As := [.ref 2, .int x6]) (S := []) dX1_attempt_96 ok_X5_add l_X1_55 (by decide) (tel_sh (Or.inr rfl)) (by decide) (Nat.le_of_ble_eq_true rfl) rfl rfl rfl (Nat.le_of_ble_eq_true rfl) h (fun _ I32 _ hq => ?_)
            obtain ⟨rfl, rfl, h⟩ := hq
            show Go G Y_X1_attempt 99 [(0, .ref 40), (1, .int x1), (2, .int x2), (3, .int x3), (4, .int x4), (5, .int x5), (6, .int x6)] [] SH I32 0 0 _
            refine go_iinc dX1_attempt_99 6 rfl (v := (x6 + 1)) rfl (Nat.le_of_ble_eq_true rfl) (L2 := [(6, .int (x6 + 1)), (0, .ref 40), (1, .int x1), (2, .int x2), (3, .int x3), (4, .int x4), (5, .int x5)]) rfl ?_
            refine go_goto (tgt := 14) dX1_attempt_102 (by decide) ?_
            exact go_loc [(0, .ref 40), (1, .int x1), (2, .int x2), (3, .int x3), (4, .int x4), (5, .int x5), (6, .int (x6 + 1))] [1, 2, 3, 4, 5, 6, 0] rfl h
set_option maxRecDepth 100000 in
set_option maxHeartbeats 4000000 in
theorem v_X0_seek {G : CX}   {I : HP} {Q : HP → Prop} (h : ∀ I1 : HP, I1 = (st (st (st I 42 6 (if (I 2 3) < (7 : Int32) then (I 2 3) else (7 : Int32))) 42 7 (1000000 : Int32)) 42 8 (1000000 : Int32)) → GV G Y_X0_seek 30 [(0, .ref 42), (1, .int (0 : Int32))] I1 Q) : RV G Y_X0_seek [.ref 42] I Q := by
  refine ret_of (show plainName RX0 = true by decide) (Nat.le_of_ble_eq_true rfl) ?_
  show Go G Y_X0_seek 0 [(0, .ref 42)] [] SH I 0 0 _
  refine go_aload_n dX0_seek_0 rfl 0 rfl ?_
  refine go_bipush dX0_seek_1 (v := (7 : Int32)) (by decide) ?_
  refine go_aload_n dX0_seek_3 rfl 0 rfl ?_
  refine go_getR dX0_seek_4 sh_42 (by decide) f_X0_26 ⟨Nat.le_of_ble_eq_true rfl, Nat.le_of_ble_eq_true rfl, rfl⟩ rfl ?_
  refine go_getI dX0_seek_7 (scr_sh (Or.inl rfl)) (by decide) f_X0_33 ⟨Nat.le_of_ble_eq_true rfl, Nat.le_of_ble_eq_true rfl, rfl⟩ ?_
  refine go_min dX0_seek_10 ⟨l_X0_39, bt_min⟩ (by decide) (Nat.le_of_ble_eq_true rfl) ?_
  refine go_putT dX0_seek_13 sh_42 (by decide) p_X0_45 ⟨Nat.le_of_ble_eq_true rfl, Nat.le_of_ble_eq_true rfl, rfl⟩ rfl rfl ?_
  refine go_aload_n dX0_seek_16 rfl 0 rfl ?_
  refine go_ldc dX0_seek_17 k_X0_46 ?_
  refine go_putT dX0_seek_19 sh_42 (by decide) p_X0_47 ⟨Nat.le_of_ble_eq_true rfl, Nat.le_of_ble_eq_true rfl, rfl⟩ rfl rfl ?_
  refine go_aload_n dX0_seek_22 rfl 0 rfl ?_
  refine go_ldc dX0_seek_23 k_X0_46 ?_
  refine go_putT dX0_seek_25 sh_42 (by decide) p_X0_50 ⟨Nat.le_of_ble_eq_true rfl, Nat.le_of_ble_eq_true rfl, rfl⟩ rfl rfl ?_
  refine go_nm (fun I1 eI1 => ?_)
  have h := h I1 eI1
  refine go_iconst dX0_seek_28 (v := (0 : Int32)) (by decide) ?_
  refine go_istore_n dX0_seek_29 rfl (Nat.le_of_ble_eq_true rfl) (L2 := [(1, .int (0 : Int32)), (0, .ref 42)]) rfl ?_
  exact go_loc [(0, .ref 42), (1, .int (0 : Int32))] [1, 0] rfl h
set_option maxRecDepth 100000 in
set_option maxHeartbeats 4000000 in
theorem v_X0_seek_30 {G : CX} {x1 : Int32}  {I : HP} {Q : HP → Prop} (h : (((7 : Int32) ≤ x1) → (RV G Y_X5_open [.ref 22, .ref 1] I (fun I2 => RV G Y_X5_letHimPause [.ref 22] I2 (fun I3 => RV G (Y_X0_placeFrom 8) [.ref 42, .int (0 : Int32)] I3 (fun I4 => Q I4))))) ∧ ((¬ (7 : Int32) ≤ x1) → ((vp_in x1 7) ∧ (GV G Y_X0_seek 30 [(0, .ref 42), (1, .int (x1 + 1))] (st (st I 44 (nn x1) (-1 : Int32)) 45 (nn x1) (0 : Int32)) Q)))) : GV G Y_X0_seek 30 [(0, .ref 42), (1, .int x1)] I Q := by
  show Go G Y_X0_seek 30 [(0, .ref 42), (1, .int x1)] [] SH I 0 0 _
  refine go_iload_n dX0_seek_30 rfl 1 rfl ?_
  refine go_bipush dX0_seek_31 (v := (7 : Int32)) (by decide) ?_
  refine go_icmp_ge (tgt := 56) dX0_seek_33 (by decide) (fun c1 => ?_) (fun c1 => ?_)
  · have h := h.1 c1
    refine go_aload_n dX0_seek_56 rfl 0 rfl ?_
    refine go_getR dX0_seek_57 sh_42 (by decide) f_X0_22 ⟨Nat.le_of_ble_eq_true rfl, Nat.le_of_ble_eq_true rfl, rfl⟩ rfl ?_
    refine go_aload_n dX0_seek_60 rfl 0 rfl ?_
    refine go_getR dX0_seek_61 sh_42 (by decide) f_X0_30 ⟨Nat.le_of_ble_eq_true rfl, Nat.le_of_ble_eq_true rfl, rfl⟩ rfl ?_
    refine go_vcall (Z := Y_X5_open) (As := [.ref 1]) (S := []) dX0_seek_64 ok_X5_open l_X0_53 (by decide) (tel_sh (Or.inr rfl)) (by decide) (Nat.le_of_ble_eq_true rfl) rfl rfl rfl (Nat.le_of_ble_eq_true rfl) h (fun _ I2 _ hq => ?_)
    obtain ⟨rfl, rfl, h⟩ := hq
    show Go G Y_X0_seek 67 [(0, .ref 42), (1, .int x1)] [] SH I2 0 0 _
    refine go_aload_n dX0_seek_67 rfl 0 rfl ?_
    refine go_getR dX0_seek_68 sh_42 (by decide) f_X0_22 ⟨Nat.le_of_ble_eq_true rfl, Nat.le_of_ble_eq_true rfl, rfl⟩ rfl ?_
    refine go_vcall (Z := Y_X5_letHimPause) (As := []) (S := []) dX0_seek_71 ok_X5_letHimPause l_X0_59 (by decide) (tel_sh (Or.inr rfl)) (by decide) (Nat.le_of_ble_eq_true rfl) rfl rfl rfl (Nat.le_of_ble_eq_true rfl) h (fun _ I3 _ hq => ?_)
    obtain ⟨rfl, rfl, h⟩ := hq
    show Go G Y_X0_seek 74 [(0, .ref 42), (1, .int x1)] [] SH I3 0 0 _
    refine go_aload_n dX0_seek_74 rfl 0 rfl ?_
    refine go_iconst dX0_seek_75 (v := (0 : Int32)) (by decide) ?_
    refine go_scall (Z := (Y_X0_placeFrom 8)) (As := [.ref 42, .int (0 : Int32)]) (S := []) dX0_seek_76 (ok_X0_placeFrom 8) l_X0_62 (by decide) rfl rfl (Nat.le_of_ble_eq_true rfl) h (fun _ I4 _ hq => ?_)
    obtain ⟨rfl, rfl, h⟩ := hq
    show Go G Y_X0_seek 79 [(0, .ref 42), (1, .int x1)] [] SH I4 0 0 _
    exact go_vret dX0_seek_79 rfl rfl (by decide) ⟨rfl, rfl, h⟩
  · have h := h.2 c1
    refine go_aload_n dX0_seek_36 rfl 0 rfl ?_
    refine go_getR dX0_seek_37 sh_42 (by decide) f_X0_15 ⟨Nat.le_of_ble_eq_true rfl, Nat.le_of_ble_eq_true rfl, rfl⟩ rfl ?_
    refine go_iload_n dX0_seek_40 rfl 1 rfl ?_
    refine go_iconst dX0_seek_41 (v := (-1 : Int32)) (by decide) ?_
    have hb5 := h.1
    have h := h.2
    refine go_iast dX0_seek_42 sh_44 (by decide) hb5 (j := (nn x1)) rfl ?_
    refine go_aload_n dX0_seek_43 rfl 0 rfl ?_
    refine go_getR dX0_seek_44 sh_42 (by decide) f_X0_18 ⟨Nat.le_of_ble_eq_true rfl, Nat.le_of_ble_eq_true rfl, rfl⟩ rfl ?_
    refine go_iload_n dX0_seek_47 rfl 1 rfl ?_
    refine go_iconst dX0_seek_48 (v := (0 : Int32)) (by decide) ?_
    refine go_zast dX0_seek_49 sh_45 (by decide) hb5 rfl (j := (nn x1)) rfl ?_
    refine go_iinc dX0_seek_50 1 rfl (v := (x1 + 1)) rfl (Nat.le_of_ble_eq_true rfl) (L2 := [(1, .int (x1 + 1)), (0, .ref 42)]) rfl ?_
    refine go_goto (tgt := 30) dX0_seek_53 (by decide) ?_
    exact go_loc [(0, .ref 42), (1, .int (x1 + 1))] [1, 0] rfl h
set_option maxRecDepth 100000 in
set_option maxHeartbeats 4000000 in
theorem v_X0_placeFrom {G : CX} {d : Nat} {a2 : Int32}  {I : HP} {Q : HP → Prop} (h : (((I 42 6) ≤ a2) → (RV G Y_X0_keep [.ref 42] I (fun I2 => Q I2))) ∧ ((¬ (I 42 6) ≤ a2) → (((a2 < (7 : Int32)) → (GV G (Y_X0_placeFrom (d + 1)) 21 [(0, .ref 42), (1, .int a2), (2, .int (0 : Int32))] I Q)) ∧ ((¬ a2 < (7 : Int32)) → (RV G Y_X0_keep [.ref 42] I (fun I4 => Q I4)))))) : RV G (Y_X0_placeFrom (d + 1)) [.ref 42, .int a2] I Q := by
  refine ret_of (show plainName RX0 = true by decide) (Nat.le_of_ble_eq_true rfl) ?_
  show Go G (Y_X0_placeFrom (d + 1)) 0 [(0, .ref 42), (1, .int a2)] [] SH I 0 0 _
  refine go_iload_n dX0_placeFrom_0 rfl 1 rfl ?_
  refine go_aload_n dX0_placeFrom_1 rfl 0 rfl ?_
  refine go_getI dX0_placeFrom_2 sh_42 (by decide) f_X0_45 ⟨Nat.le_of_ble_eq_true rfl, Nat.le_of_ble_eq_true rfl, rfl⟩ ?_
  refine go_icmp_ge (tgt := 14) dX0_placeFrom_5 (by decide) (fun c1 => ?_) (fun c1 => ?_)
  · have h := h.1 c1
    refine go_aload_n dX0_placeFrom_14 rfl 0 rfl ?_
    refine go_vcall (Z := Y_X0_keep) (As := []) (S := []) dX0_placeFrom_15 ok_X0_keep l_X0_66 ⟨by show _ ≤ _ + (_ + 1); exact Nat.le_trans (by decide) (Nat.le_add_right _ _), Nat.zero_le _, Nat.zero_le _⟩ sh_42 (by decide) (Nat.le_of_ble_eq_true rfl) rfl rfl rfl (Nat.le_of_ble_eq_true rfl) h (fun _ I2 _ hq => ?_)
    obtain ⟨rfl, rfl, h⟩ := hq
    show Go G (Y_X0_placeFrom (d + 1)) 18 [(0, .ref 42), (1, .int a2)] [] SH I2 0 0 _
    exact go_vret dX0_placeFrom_18 rfl rfl (Nat.zero_le _) ⟨rfl, rfl, h⟩
  · have h := h.2 c1
    refine go_iload_n dX0_placeFrom_8 rfl 1 rfl ?_
    refine go_bipush dX0_placeFrom_9 (v := (7 : Int32)) (by decide) ?_
    refine go_icmp_lt (tgt := 19) dX0_placeFrom_11 (by decide) (fun c3 => ?_) (fun c3 => ?_)
    · have h := h.1 c3
      refine go_iconst dX0_placeFrom_19 (v := (0 : Int32)) (by decide) ?_
      refine go_istore_n dX0_placeFrom_20 rfl (Nat.le_of_ble_eq_true rfl) (L2 := [(2, .int (0 : Int32)), (0, .ref 42), (1, .int a2)]) rfl ?_
      exact go_loc [(0, .ref 42), (1, .int a2), (2, .int (0 : Int32))] [1, 2, 0] rfl h
    · have h := h.2 c3
      refine go_aload_n dX0_placeFrom_14 rfl 0 rfl ?_
      refine go_vcall (Z := Y_X0_keep) (As := []) (S := []) dX0_placeFrom_15 ok_X0_keep l_X0_66 ⟨by show _ ≤ _ + (_ + 1); exact Nat.le_trans (by decide) (Nat.le_add_right _ _), Nat.zero_le _, Nat.zero_le _⟩ sh_42 (by decide) (Nat.le_of_ble_eq_true rfl) rfl rfl rfl (Nat.le_of_ble_eq_true rfl) h (fun _ I4 _ hq => ?_)
      obtain ⟨rfl, rfl, h⟩ := hq
      show Go G (Y_X0_placeFrom (d + 1)) 18 [(0, .ref 42), (1, .int a2)] [] SH I4 0 0 _
      exact go_vret dX0_placeFrom_18 rfl rfl (Nat.zero_le _) ⟨rfl, rfl, h⟩
set_option maxRecDepth 100000 in
set_option maxHeartbeats 4000000 in
theorem v_X0_placeFrom_21 {G : CX} {d : Nat} {x1 : Int32} {x2 : Int32}  {I : HP} {Q : HP → Prop} (h : (((I 42 6) ≤ x2) → (Q I)) ∧ ((¬ (I 42 6) ≤ x2) → ((((7 : Int32) ≤ x2) → (Q I)) ∧ ((¬ (7 : Int32) ≤ x2) → ((vp_in x2 7) ∧ ((((I 45 (nn x2)) = 0) → ((vp_in x1 7) ∧ (RV G Y_X5_add [.ref 22, .ref 2, .int x2] (st (st I 45 (nn x2) (1 : Int32)) 43 (nn x1) x2) (fun I6 => RZ G Y_X0_mayBeBest [.ref 42] I6 (fun I7 r8 => (((bI r8) = 0) → (RV G Y_X5_dropLast [.ref 22] I7 (fun I10 => GV G (Y_X0_placeFrom (d + 1)) 21 [(0, .ref 42), (1, .int x1), (2, .int (x2 + 1))] (st I10 45 (nn x2) (0 : Int32)) Q))) ∧ ((¬ (bI r8) = 0) → (RV G (Y_X0_placeFrom d) [.ref 42, .int (x1 + (1 : Int32))] I7 (fun I11 => RV G Y_X5_dropLast [.ref 22] I11 (fun I12 => GV G (Y_X0_placeFrom (d + 1)) 21 [(0, .ref 42), (1, .int x1), (2, .int (x2 + 1))] (st I12 45 (nn x2) (0 : Int32)) Q))))))))) ∧ ((¬ (I 45 (nn x2)) = 0) → (GV G (Y_X0_placeFrom (d + 1)) 21 [(0, .ref 42), (1, .int x1), (2, .int (x2 + 1))] I Q)))))))) : GV G (Y_X0_placeFrom (d + 1)) 21 [(0, .ref 42), (1, .int x1), (2, .int x2)] I Q := by
  show Go G (Y_X0_placeFrom (d + 1)) 21 [(0, .ref 42), (1, .int x1), (2, .int x2)] [] SH I 0 0 _
  refine go_iload_n dX0_placeFrom_21 rfl 2 rfl ?_
  refine go_aload_n dX0_placeFrom_22 rfl 0 rfl ?_
  refine go_getI dX0_placeFrom_23 sh_42 (by decide) f_X0_45 ⟨Nat.le_of_ble_eq_true rfl, Nat.le_of_ble_eq_true rfl, rfl⟩ ?_
  refine go_icmp_ge (tgt := 107) dX0_placeFrom_26 (by decide) (fun c1 => ?_) (fun c1 => ?_)
  · have h := h.1 c1
    exact go_vret dX0_placeFrom_107 rfl rfl (Nat.zero_le _) ⟨rfl, rfl, h⟩
  · have h := h.2 c1
    refine go_iload_n dX0_placeFrom_29 rfl 2 rfl ?_
    refine go_bipush dX0_placeFrom_30 (v := (7 : Int32)) (by decide) ?_
    refine go_icmp_ge (tgt := 107) dX0_placeFrom_32 (by decide) (fun c2 => ?_) (fun c2 => ?_)
    · have h := h.1 c2
      exact go_vret dX0_placeFrom_107 rfl rfl (Nat.zero_le _) ⟨rfl, rfl, h⟩
    · have h := h.2 c2
      refine go_aload_n dX0_placeFrom_35 rfl 0 rfl ?_
      refine go_getR dX0_placeFrom_36 sh_42 (by decide) f_X0_18 ⟨Nat.le_of_ble_eq_true rfl, Nat.le_of_ble_eq_true rfl, rfl⟩ rfl ?_
      refine go_iload_n dX0_placeFrom_39 rfl 2 rfl ?_
      have hb3 := h.1
      have h := h.2
      refine go_zald dX0_placeFrom_40 sh_45 (by decide) hb3 rfl ?_
      refine go_if_eq (tgt := 47) dX0_placeFrom_41 (by decide) (fun c4 => ?_) (fun c4 => ?_)
      · have h := h.1 c4
        refine go_aload_n dX0_placeFrom_47 rfl 0 rfl ?_
        refine go_getR dX0_placeFrom_48 sh_42 (by decide) f_X0_18 ⟨Nat.le_of_ble_eq_true rfl, Nat.le_of_ble_eq_true rfl, rfl⟩ rfl ?_
        refine go_iload_n dX0_placeFrom_51 rfl 2 rfl ?_
        refine go_iconst dX0_placeFrom_52 (v := (1 : Int32)) (by decide) ?_
        refine go_zast dX0_placeFrom_53 sh_45 (by decide) hb3 rfl (j := (nn x2)) rfl ?_
        refine go_aload_n dX0_placeFrom_54 rfl 0 rfl ?_
        refine go_getR dX0_placeFrom_55 sh_42 (by decide) f_X0_11 ⟨Nat.le_of_ble_eq_true rfl, Nat.le_of_ble_eq_true rfl, rfl⟩ rfl ?_
        refine go_iload_n dX0_placeFrom_58 rfl 1 rfl ?_
        refine go_iload_n dX0_placeFrom_59 rfl 2 rfl ?_
        have hb5 := h.1
        have h := h.2
        refine go_iast dX0_placeFrom_60 sh_43 (by decide) hb5 (j := (nn x1)) rfl ?_
        refine go_aload_n dX0_placeFrom_61 rfl 0 rfl ?_
        refine go_getR dX0_placeFrom_62 sh_42 (by decide) f_X0_22 ⟨Nat.le_of_ble_eq_true rfl, Nat.le_of_ble_eq_true rfl, rfl⟩ rfl ?_
        refine go_aload_n dX0_placeFrom_65 rfl 0 rfl ?_
        refine go_getR dX0_placeFrom_66 sh_42 (by decide) f_X0_26 ⟨Nat.le_of_ble_eq_true rfl, Nat.le_of_ble_eq_true rfl, rfl⟩ rfl ?_
        refine go_iload_n dX0_placeFrom_69 rfl 2 rfl ?_
        refine go_vcall (Z := Y_X5_add) (As := [.ref 2, .int x2]) (S := []) dX0_placeFrom_70 ok_X5_add l_X0_69 ⟨by show _ ≤ _ + (_ + 1); exact Nat.le_trans (by decide) (Nat.le_add_right _ _), Nat.zero_le _, Nat.zero_le _⟩ (tel_sh (Or.inr rfl)) (by decide) (Nat.le_of_ble_eq_true rfl) rfl rfl rfl (Nat.le_of_ble_eq_true rfl) h (fun _ I6 _ hq => ?_)
        obtain ⟨rfl, rfl, h⟩ := hq
        show Go G (Y_X0_placeFrom (d + 1)) 73 [(0, .ref 42), (1, .int x1), (2, .int x2)] [] SH I6 0 0 _
        refine go_aload_n dX0_placeFrom_73 rfl 0 rfl ?_
        refine go_vcall (Z := Y_X0_mayBeBest) (As := []) (S := []) dX0_placeFrom_74 ok_X0_mayBeBest l_X0_73 ⟨by show _ ≤ _ + (_ + 1); exact Nat.le_trans (by decide) (Nat.le_add_right _ _), Nat.zero_le _, Nat.zero_le _⟩ sh_42 (by decide) (Nat.le_of_ble_eq_true rfl) rfl rfl rfl (Nat.le_of_ble_eq_true rfl) h (fun _ I7 _ hq => ?_)
        obtain ⟨rfl, r8, rfl, h⟩ := hq
        show Go G (Y_X0_placeFrom (d + 1)) 77 [(0, .ref 42), (1, .int x1), (2, .int x2)] [.int (bI r8)] SH I7 0 0 _
        refine go_if_eq (tgt := 87) dX0_placeFrom_77 (by decide) (fun c9 => ?_) (fun c9 => ?_)
        · have h := h.1 c9
          refine go_aload_n dX0_placeFrom_87 rfl 0 rfl ?_
          refine go_getR dX0_placeFrom_88 sh_42 (by decide) f_X0_22 ⟨Nat.le_of_ble_eq_true rfl, Nat.le_of_ble_eq_true rfl, rfl⟩ rfl ?_
          refine go_vcall (Z := Y_X5_dropLast) (As := []) (S := []) dX0_placeFrom_91 ok_X5_dropLast l_X0_77 ⟨by show _ ≤ _ + (_ + 1); exact Nat.le_trans (by decide) (Nat.le_add_right _ _), Nat.zero_le _, Nat.zero_le _⟩ (tel_sh (Or.inr rfl)) (by decide) (Nat.le_of_ble_eq_true rfl) rfl rfl rfl (Nat.le_of_ble_eq_true rfl) h (fun _ I10 _ hq => ?_)
          obtain ⟨rfl, rfl, h⟩ := hq
          show Go G (Y_X0_placeFrom (d + 1)) 94 [(0, .ref 42), (1, .int x1), (2, .int x2)] [] SH I10 0 0 _
          refine go_aload_n dX0_placeFrom_94 rfl 0 rfl ?_
          refine go_getR dX0_placeFrom_95 sh_42 (by decide) f_X0_18 ⟨Nat.le_of_ble_eq_true rfl, Nat.le_of_ble_eq_true rfl, rfl⟩ rfl ?_
          refine go_iload_n dX0_placeFrom_98 rfl 2 rfl ?_
          refine go_iconst dX0_placeFrom_99 (v := (0 : Int32)) (by decide) ?_
          refine go_zast dX0_placeFrom_100 sh_45 (by decide) hb3 rfl (j := (nn x2)) rfl ?_
          refine go_iinc dX0_placeFrom_101 2 rfl (v := (x2 + 1)) rfl (Nat.le_of_ble_eq_true rfl) (L2 := [(2, .int (x2 + 1)), (0, .ref 42), (1, .int x1)]) rfl ?_
          refine go_goto (tgt := 21) dX0_placeFrom_104 (by decide) ?_
          exact go_loc [(0, .ref 42), (1, .int x1), (2, .int (x2 + 1))] [1, 2, 0] rfl h
        · have h := h.2 c9
          refine go_aload_n dX0_placeFrom_80 rfl 0 rfl ?_
          refine go_iload_n dX0_placeFrom_81 rfl 1 rfl ?_
          refine go_iconst dX0_placeFrom_82 (v := (1 : Int32)) (by decide) ?_
          refine go_iadd dX0_placeFrom_83 ?_
          refine go_scall (Z := (Y_X0_placeFrom d)) (As := [.ref 42, .int (x1 + (1 : Int32))]) (S := []) dX0_placeFrom_84 (ok_X0_placeFrom d) l_X0_62 ⟨by show _ + _ + 1 ≤ _ + (_ + 1); omega, Nat.zero_le _, Nat.zero_le _⟩ rfl rfl (Nat.le_of_ble_eq_true rfl) h (fun _ I11 _ hq => ?_)
          obtain ⟨rfl, rfl, h⟩ := hq
          show Go G (Y_X0_placeFrom (d + 1)) 87 [(0, .ref 42), (1, .int x1), (2, .int x2)] [] SH I11 0 0 _
          refine go_aload_n dX0_placeFrom_87 rfl 0 rfl ?_
          refine go_getR dX0_placeFrom_88 sh_42 (by decide) f_X0_22 ⟨Nat.le_of_ble_eq_true rfl, Nat.le_of_ble_eq_true rfl, rfl⟩ rfl ?_
          refine go_vcall (Z := Y_X5_dropLast) (As := []) (S := []) dX0_placeFrom_91 ok_X5_dropLast l_X0_77 ⟨by show _ ≤ _ + (_ + 1); exact Nat.le_trans (by decide) (Nat.le_add_right _ _), Nat.zero_le _, Nat.zero_le _⟩ (tel_sh (Or.inr rfl)) (by decide) (Nat.le_of_ble_eq_true rfl) rfl rfl rfl (Nat.le_of_ble_eq_true rfl) h (fun _ I12 _ hq => ?_)
          obtain ⟨rfl, rfl, h⟩ := hq
          show Go G (Y_X0_placeFrom (d + 1)) 94 [(0, .ref 42), (1, .int x1), (2, .int x2)] [] SH I12 0 0 _
          refine go_aload_n dX0_placeFrom_94 rfl 0 rfl ?_
          refine go_getR dX0_placeFrom_95 sh_42 (by decide) f_X0_18 ⟨Nat.le_of_ble_eq_true rfl, Nat.le_of_ble_eq_true rfl, rfl⟩ rfl ?_
          refine go_iload_n dX0_placeFrom_98 rfl 2 rfl ?_
          refine go_iconst dX0_placeFrom_99 (v := (0 : Int32)) (by decide) ?_
          refine go_zast dX0_placeFrom_100 sh_45 (by decide) hb3 rfl (j := (nn x2)) rfl ?_
          refine go_iinc dX0_placeFrom_101 2 rfl (v := (x2 + 1)) rfl (Nat.le_of_ble_eq_true rfl) (L2 := [(2, .int (x2 + 1)), (0, .ref 42), (1, .int x1)]) rfl ?_
          refine go_goto (tgt := 21) dX0_placeFrom_104 (by decide) ?_
          exact go_loc [(0, .ref 42), (1, .int x1), (2, .int (x2 + 1))] [1, 2, 0] rfl h
      · have h := h.2 c4
        refine go_goto (tgt := 101) dX0_placeFrom_44 (by decide) ?_
        refine go_iinc dX0_placeFrom_101 2 rfl (v := (x2 + 1)) rfl (Nat.le_of_ble_eq_true rfl) (L2 := [(2, .int (x2 + 1)), (0, .ref 42), (1, .int x1)]) rfl ?_
        refine go_goto (tgt := 21) dX0_placeFrom_104 (by decide) ?_
        exact go_loc [(0, .ref 42), (1, .int x1), (2, .int (x2 + 1))] [1, 2, 0] rfl h
set_option maxRecDepth 100000 in
set_option maxHeartbeats 4000000 in
theorem v_X0_mayBeBest {G : CX}   {I : HP} {Q : HP → Bool → Prop} (h : RA G Y_X5_last [.ref 22] I (fun I1 r2 => isTur r2 ∧ ((((I1 r2 10) < (I1 42 7)) → (Q I1 true)) ∧ ((¬ (I1 r2 10) < (I1 42 7)) → (((¬ (I1 r2 10) = (I1 42 7)) → (Q I1 false)) ∧ (((I1 r2 10) = (I1 42 7)) → ((((I1 42 8) ≤ (I1 r2 7)) → (Q I1 false)) ∧ ((¬ (I1 42 8) ≤ (I1 r2 7)) → (Q I1 true))))))))) : RZ G Y_X0_mayBeBest [.ref 42] I Q := by
  refine ret_of (show plainName RX0 = true by decide) (Nat.le_of_ble_eq_true rfl) ?_
  show Go G Y_X0_mayBeBest 0 [(0, .ref 42)] [] SH I 0 0 _
  refine go_aload_n dX0_mayBeBest_0 rfl 0 rfl ?_
  refine go_getR dX0_mayBeBest_1 sh_42 (by decide) f_X0_22 ⟨Nat.le_of_ble_eq_true rfl, Nat.le_of_ble_eq_true rfl, rfl⟩ rfl ?_
  refine go_vcall (Z := Y_X5_last) (As := []) (S := []) dX0_mayBeBest_4 ok_X5_last l_X0_80 (by decide) (tel_sh (Or.inr rfl)) (by decide) (Nat.le_of_ble_eq_true rfl) rfl rfl rfl (Nat.le_of_ble_eq_true rfl) h (fun _ I1 _ hq => ?_)
  obtain ⟨rfl, r2, rfl, h⟩ := hq
  have hr2 := h.1
  have h := h.2
  show Go G Y_X0_mayBeBest 7 [(0, .ref 42)] [.ref r2] SH I1 0 0 _
  refine go_astore_n dX0_mayBeBest_7 rfl (Nat.le_of_ble_eq_true rfl) (L2 := [(1, .ref r2), (0, .ref 42)]) rfl ?_
  refine go_aload_n dX0_mayBeBest_8 rfl 0 rfl ?_
  refine go_getI dX0_mayBeBest_9 hr2 (SH_lt hr2) f_X0_84 ⟨Nat.le_of_ble_eq_true rfl, Nat.le_of_ble_eq_true rfl, rfl⟩ ?_
  refine go_aload_n dX0_mayBeBest_12 rfl 1 rfl ?_
  refine go_getI dX0_mayBeBest_13 sh_42 (by decide) f_X0_47 ⟨Nat.le_of_ble_eq_true rfl, Nat.le_of_ble_eq_true rfl, rfl⟩ ?_
  refine go_icmp_lt (tgt := 41) dX0_mayBeBest_16 (by decide) (fun c3 => ?_) (fun c3 => ?_)
  · have h := h.1 c3
    refine go_iconst dX0_mayBeBest_41 (v := (1 : Int32)) (by decide) ?_
    refine go_goto (tgt := 46) dX0_mayBeBest_42 (by decide) ?_
    exact go_zret dX0_mayBeBest_46 rfl rfl rfl (by decide) ⟨rfl, true, rfl, h⟩
  · have h := h.2 c3
    refine go_aload_n dX0_mayBeBest_19 rfl 0 rfl ?_
    refine go_getI dX0_mayBeBest_20 hr2 (SH_lt hr2) f_X0_84 ⟨Nat.le_of_ble_eq_true rfl, Nat.le_of_ble_eq_true rfl, rfl⟩ ?_
    refine go_aload_n dX0_mayBeBest_23 rfl 1 rfl ?_
    refine go_getI dX0_mayBeBest_24 sh_42 (by decide) f_X0_47 ⟨Nat.le_of_ble_eq_true rfl, Nat.le_of_ble_eq_true rfl, rfl⟩ ?_
    refine go_icmp_ne (tgt := 45) dX0_mayBeBest_27 (by decide) (fun c4 => ?_) (fun c4 => ?_)
    · have h := h.1 c4
      refine go_iconst dX0_mayBeBest_45 (v := (0 : Int32)) (by decide) ?_
      exact go_zret dX0_mayBeBest_46 rfl rfl rfl (by decide) ⟨rfl, false, rfl, h⟩
    · have h := h.2 c4
      refine go_aload_n dX0_mayBeBest_30 rfl 0 rfl ?_
      refine go_getI dX0_mayBeBest_31 hr2 (SH_lt hr2) f_X0_89 ⟨Nat.le_of_ble_eq_true rfl, Nat.le_of_ble_eq_true rfl, rfl⟩ ?_
      refine go_aload_n dX0_mayBeBest_34 rfl 1 rfl ?_
      refine go_getI dX0_mayBeBest_35 sh_42 (by decide) f_X0_50 ⟨Nat.le_of_ble_eq_true rfl, Nat.le_of_ble_eq_true rfl, rfl⟩ ?_
      refine go_icmp_ge (tgt := 45) dX0_mayBeBest_38 (by decide) (fun c5 => ?_) (fun c5 => ?_)
      · have h := h.1 c5
        refine go_iconst dX0_mayBeBest_45 (v := (0 : Int32)) (by decide) ?_
        exact go_zret dX0_mayBeBest_46 rfl rfl rfl (by decide) ⟨rfl, false, rfl, h⟩
      · have h := h.2 c5
        refine go_iconst dX0_mayBeBest_41 (v := (1 : Int32)) (by decide) ?_
        refine go_goto (tgt := 46) dX0_mayBeBest_42 (by decide) ?_
        exact go_zret dX0_mayBeBest_46 rfl rfl rfl (by decide) ⟨rfl, true, rfl, h⟩
set_option maxRecDepth 100000 in
set_option maxHeartbeats 4000000 in
theorem v_X0_keep {G : CX}   {I : HP} {Q : HP → Prop} (h : RA G Y_X5_last [.ref 22] I (fun I1 r2 => isTur r2 ∧ (RA G Y_X5_last [.ref 22] (st I1 42 7 (I1 r2 10)) (fun I3 r4 => isTur r4 ∧ (GV G Y_X0_keep 30 [(0, .ref 42), (1, .int (0 : Int32))] (st I3 42 8 (I3 r4 7)) Q))))) : RV G Y_X0_keep [.ref 42] I Q := by
  refine ret_of (show plainName RX0 = true by decide) (Nat.le_of_ble_eq_true rfl) ?_
  show Go G Y_X0_keep 0 [(0, .ref 42)] [] SH I 0 0 _
  refine go_aload_n dX0_keep_0 rfl 0 rfl ?_
  refine go_aload_n dX0_keep_1 rfl 0 rfl ?_
  refine go_getR dX0_keep_2 sh_42 (by decide) f_X0_22 ⟨Nat.le_of_ble_eq_true rfl, Nat.le_of_ble_eq_true rfl, rfl⟩ rfl ?_
  refine go_vcall (Z := Y_X5_last) (As := []) (S := [.ref 42]) dX0_keep_5 ok_X5_last l_X0_80 (by decide) (tel_sh (Or.inr rfl)) (by decide) (Nat.le_of_ble_eq_true rfl) rfl rfl rfl (Nat.le_of_ble_eq_true rfl) h (fun _ I1 _ hq => ?_)
  obtain ⟨rfl, r2, rfl, h⟩ := hq
  have hr2 := h.1
  have h := h.2
  show Go G Y_X0_keep 8 [(0, .ref 42)] [.ref r2, .ref 42] SH I1 0 0 _
  refine go_getI dX0_keep_8 hr2 (SH_lt hr2) f_X0_84 ⟨Nat.le_of_ble_eq_true rfl, Nat.le_of_ble_eq_true rfl, rfl⟩ ?_
  refine go_putT dX0_keep_11 sh_42 (by decide) p_X0_47 ⟨Nat.le_of_ble_eq_true rfl, Nat.le_of_ble_eq_true rfl, rfl⟩ rfl rfl ?_
  refine go_aload_n dX0_keep_14 rfl 0 rfl ?_
  refine go_aload_n dX0_keep_15 rfl 0 rfl ?_
  refine go_getR dX0_keep_16 sh_42 (by decide) f_X0_22 ⟨Nat.le_of_ble_eq_true rfl, Nat.le_of_ble_eq_true rfl, rfl⟩ rfl ?_
  refine go_vcall (Z := Y_X5_last) (As := []) (S := [.ref 42]) dX0_keep_19 ok_X5_last l_X0_80 (by decide) (tel_sh (Or.inr rfl)) (by decide) (Nat.le_of_ble_eq_true rfl) rfl rfl rfl (Nat.le_of_ble_eq_true rfl) h (fun _ I3 _ hq => ?_)
  obtain ⟨rfl, r4, rfl, h⟩ := hq
  have hr4 := h.1
  have h := h.2
  show Go G Y_X0_keep 22 [(0, .ref 42)] [.ref r4, .ref 42] SH I3 0 0 _
  refine go_getI dX0_keep_22 hr4 (SH_lt hr4) f_X0_89 ⟨Nat.le_of_ble_eq_true rfl, Nat.le_of_ble_eq_true rfl, rfl⟩ ?_
  refine go_putT dX0_keep_25 sh_42 (by decide) p_X0_50 ⟨Nat.le_of_ble_eq_true rfl, Nat.le_of_ble_eq_true rfl, rfl⟩ rfl rfl ?_
  refine go_iconst dX0_keep_28 (v := (0 : Int32)) (by decide) ?_
  refine go_istore_n dX0_keep_29 rfl (Nat.le_of_ble_eq_true rfl) (L2 := [(1, .int (0 : Int32)), (0, .ref 42)]) rfl ?_
  exact go_loc [(0, .ref 42), (1, .int (0 : Int32))] [1, 0] rfl h
set_option maxRecDepth 100000 in
set_option maxHeartbeats 4000000 in
theorem v_X0_keep_30 {G : CX} {x1 : Int32}  {I : HP} {Q : HP → Prop} (h : (((I 42 6) ≤ x1) → (Q I)) ∧ ((¬ (I 42 6) ≤ x1) → ((((7 : Int32) ≤ x1) → (Q I)) ∧ ((¬ (7 : Int32) ≤ x1) → ((vp_in x1 7) ∧ (GV G Y_X0_keep 30 [(0, .ref 42), (1, .int (x1 + 1))] (st I 44 (nn x1) (I 43 (nn x1))) Q)))))) : GV G Y_X0_keep 30 [(0, .ref 42), (1, .int x1)] I Q := by
  show Go G Y_X0_keep 30 [(0, .ref 42), (1, .int x1)] [] SH I 0 0 _
  refine go_iload_n dX0_keep_30 rfl 1 rfl ?_
  refine go_aload_n dX0_keep_31 rfl 0 rfl ?_
  refine go_getI dX0_keep_32 sh_42 (by decide) f_X0_45 ⟨Nat.le_of_ble_eq_true rfl, Nat.le_of_ble_eq_true rfl, rfl⟩ ?_
  refine go_icmp_ge (tgt := 62) dX0_keep_35 (by decide) (fun c1 => ?_) (fun c1 => ?_)
  · have h := h.1 c1
    exact go_vret dX0_keep_62 rfl rfl (by decide) ⟨rfl, rfl, h⟩
  · have h := h.2 c1
    refine go_iload_n dX0_keep_38 rfl 1 rfl ?_
    refine go_bipush dX0_keep_39 (v := (7 : Int32)) (by decide) ?_
    refine go_icmp_ge (tgt := 62) dX0_keep_41 (by decide) (fun c2 => ?_) (fun c2 => ?_)
    · have h := h.1 c2
      exact go_vret dX0_keep_62 rfl rfl (by decide) ⟨rfl, rfl, h⟩
    · have h := h.2 c2
      refine go_aload_n dX0_keep_44 rfl 0 rfl ?_
      refine go_getR dX0_keep_45 sh_42 (by decide) f_X0_15 ⟨Nat.le_of_ble_eq_true rfl, Nat.le_of_ble_eq_true rfl, rfl⟩ rfl ?_
      refine go_iload_n dX0_keep_48 rfl 1 rfl ?_
      refine go_aload_n dX0_keep_49 rfl 0 rfl ?_
      refine go_getR dX0_keep_50 sh_42 (by decide) f_X0_11 ⟨Nat.le_of_ble_eq_true rfl, Nat.le_of_ble_eq_true rfl, rfl⟩ rfl ?_
      refine go_iload_n dX0_keep_53 rfl 1 rfl ?_
      have hb3 := h.1
      have h := h.2
      refine go_iald dX0_keep_54 sh_43 (by decide) hb3 rfl ?_
      refine go_iast dX0_keep_55 sh_44 (by decide) hb3 (j := (nn x1)) rfl ?_
      refine go_iinc dX0_keep_56 1 rfl (v := (x1 + 1)) rfl (Nat.le_of_ble_eq_true rfl) (L2 := [(1, .int (x1 + 1)), (0, .ref 42)]) rfl ?_
      refine go_goto (tgt := 30) dX0_keep_59 (by decide) ?_
      exact go_loc [(0, .ref 42), (1, .int (x1 + 1))] [1, 0] rfl h
set_option maxRecDepth 100000 in
set_option maxHeartbeats 4000000 in
theorem v_J6_bitCount_0f7a4 {G : CX} {a1 : Int32}  {I : HP} {Q : HP → Int32 → Prop} (h : ∀ z1 : Int32, z1 = (a1 - ((ushr a1 (1 : Int32)) &&& (1431655765 : Int32))) → ∀ z2 : Int32, z2 = ((z1 &&& (858993459 : Int32)) + ((ushr z1 (2 : Int32)) &&& (858993459 : Int32))) → ∀ z3 : Int32, z3 = ((z2 + (ushr z2 (4 : Int32))) &&& (252645135 : Int32)) → ∀ z4 : Int32, z4 = ((z3 + (ushr z3 (8 : Int32))) + (ushr (z3 + (ushr z3 (8 : Int32))) (16 : Int32))) → Q I (z4 &&& (63 : Int32))) : RI G Y_J6_bitCount_0f7a4 [.int a1] I Q := by
  refine ret_of (show plainName RJ6 = true by decide) (Nat.le_of_ble_eq_true rfl) ?_
  show Go G Y_J6_bitCount_0f7a4 0 [(0, .int a1)] [] SH I 0 0 _
  refine go_iload_n dJ6_bitCount_0f7a4_0 rfl 0 rfl ?_
  refine go_iload_n dJ6_bitCount_0f7a4_1 rfl 0 rfl ?_
  refine go_iconst dJ6_bitCount_0f7a4_2 (v := (1 : Int32)) (by decide) ?_
  refine go_iushr dJ6_bitCount_0f7a4_3 rfl ?_
  refine go_ldcw dJ6_bitCount_0f7a4_4 k_J6_265 ?_
  refine go_iand dJ6_bitCount_0f7a4_7 ?_
  refine go_isub dJ6_bitCount_0f7a4_8 ?_
  refine go_top (fun z1 ez1 => ?_)
  have h := h z1 ez1
  refine go_istore_n dJ6_bitCount_0f7a4_9 rfl (Nat.le_of_ble_eq_true rfl) (L2 := [(0, .int z1)]) rfl ?_
  refine go_iload_n dJ6_bitCount_0f7a4_10 rfl 0 rfl ?_
  refine go_ldcw dJ6_bitCount_0f7a4_11 k_J6_266 ?_
  refine go_iand dJ6_bitCount_0f7a4_14 ?_
  refine go_iload_n dJ6_bitCount_0f7a4_15 rfl 0 rfl ?_
  refine go_iconst dJ6_bitCount_0f7a4_16 (v := (2 : Int32)) (by decide) ?_
  refine go_iushr dJ6_bitCount_0f7a4_17 rfl ?_
  refine go_ldcw dJ6_bitCount_0f7a4_18 k_J6_266 ?_
  refine go_iand dJ6_bitCount_0f7a4_21 ?_
  refine go_iadd dJ6_bitCount_0f7a4_22 ?_
  refine go_top (fun z2 ez2 => ?_)
  have h := h z2 ez2
  refine go_istore_n dJ6_bitCount_0f7a4_23 rfl (Nat.le_of_ble_eq_true rfl) (L2 := [(0, .int z2)]) rfl ?_
  refine go_iload_n dJ6_bitCount_0f7a4_24 rfl 0 rfl ?_
  refine go_iload_n dJ6_bitCount_0f7a4_25 rfl 0 rfl ?_
  refine go_iconst dJ6_bitCount_0f7a4_26 (v := (4 : Int32)) (by decide) ?_
  refine go_iushr dJ6_bitCount_0f7a4_27 rfl ?_
  refine go_iadd dJ6_bitCount_0f7a4_28 ?_
  refine go_ldcw dJ6_bitCount_0f7a4_29 k_J6_267 ?_
  refine go_iand dJ6_bitCount_0f7a4_32 ?_
  refine go_top (fun z3 ez3 => ?_)
  have h := h z3 ez3
  refine go_istore_n dJ6_bitCount_0f7a4_33 rfl (Nat.le_of_ble_eq_true rfl) (L2 := [(0, .int z3)]) rfl ?_
  refine go_iload_n dJ6_bitCount_0f7a4_34 rfl 0 rfl ?_
  refine go_iload_n dJ6_bitCount_0f7a4_35 rfl 0 rfl ?_
  refine go_bipush dJ6_bitCount_0f7a4_36 (v := (8 : Int32)) (by decide) ?_
  refine go_iushr dJ6_bitCount_0f7a4_38 rfl ?_
  refine go_iadd dJ6_bitCount_0f7a4_39 ?_
  refine go_istore_n dJ6_bitCount_0f7a4_40 rfl (Nat.le_of_ble_eq_true rfl) (L2 := [(0, .int (z3 + (ushr z3 (8 : Int32))))]) rfl ?_
  refine go_iload_n dJ6_bitCount_0f7a4_41 rfl 0 rfl ?_
  refine go_iload_n dJ6_bitCount_0f7a4_42 rfl 0 rfl ?_
  refine go_bipush dJ6_bitCount_0f7a4_43 (v := (16 : Int32)) (by decide) ?_
  refine go_iushr dJ6_bitCount_0f7a4_45 rfl ?_
  refine go_iadd dJ6_bitCount_0f7a4_46 ?_
  refine go_top (fun z4 ez4 => ?_)
  have h := h z4 ez4
  refine go_istore_n dJ6_bitCount_0f7a4_47 rfl (Nat.le_of_ble_eq_true rfl) (L2 := [(0, .int z4)]) rfl ?_
  refine go_iload_n dJ6_bitCount_0f7a4_48 rfl 0 rfl ?_
  refine go_bipush dJ6_bitCount_0f7a4_49 (v := (63 : Int32)) (by decide) ?_
  refine go_iand dJ6_bitCount_0f7a4_51 ?_
  exact go_iret dJ6_bitCount_0f7a4_52 rfl rfl (by decide) ⟨rfl, _, rfl, h⟩
