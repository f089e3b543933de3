abbrev ushr (x y : Int32) : Int32 := (x.toUInt32 >>> (y.toUInt32 &&& Int32.toUInt32 31)).toInt32
set_option maxRecDepth 100000 in
set_option maxHeartbeats 4000000 in
theorem v_X2_isFull {G : CX} {T : Nat} (hT : isScr T) {I : HP} {Q : HP → Bool → Prop} (h : (((I T 1) < (nI (scN T))) → (Q I false)) ∧ ((¬ (I T 1) < (nI (scN T))) → (Q I true))) : RZ G Y_X2_isFull [.ref T] I Q := by
  refine ret_of (show plainName RX2 = true by decide) (Nat.le_of_ble_eq_true rfl) ?_
  show Go G Y_X2_isFull 0 [(0, .ref T)] [] SH I 0 0 _
  refine go_aload_n dX2_isFull_0 rfl 0 rfl ?_
  refine go_getI dX2_isFull_1 (scr_sh hT) (SH_lt (scr_sh hT)) f_X2_19 ⟨Nat.le_of_ble_eq_true rfl, Nat.le_of_ble_eq_true rfl, rfl⟩ ?_
  refine go_aload_n dX2_isFull_4 rfl 0 rfl ?_
  refine go_getR dX2_isFull_5 (scr_sh hT) (SH_lt (scr_sh hT)) f_X2_15 ⟨Nat.le_of_ble_eq_true rfl, Nat.le_of_ble_eq_true rfl, rfl⟩ rfl ?_
  refine go_alen dX2_isFull_8 (scr_ar hT) (Or.inl rfl) (SH_lt (scr_ar hT)) (v := (nI (scN T))) rfl ?_
  refine go_icmp_lt (tgt := 16) dX2_isFull_9 (by decide) (fun c1 => ?_) (fun c1 => ?_)
  · have h := h.1 c1
    refine go_iconst dX2_isFull_16 (v := (0 : Int32)) (by decide) ?_
    exact go_zret dX2_isFull_17 rfl rfl rfl (by decide) ⟨rfl, false, rfl, h⟩
  · have h := h.2 c1
    refine go_iconst dX2_isFull_12 (v := (1 : Int32)) (by decide) ?_
    refine go_goto (tgt := 17) dX2_isFull_13 (by decide) ?_
    exact go_zret dX2_isFull_17 rfl rfl rfl (by decide) ⟨rfl, true, rfl, h⟩
set_option maxRecDepth 100000 in
set_option maxHeartbeats 4000000 in
theorem v_X2_append {G : CX} {T : Nat} {a1 : Int32} (hT : isScr T) {I : HP} {Q : HP → Prop} (h : RZ G Y_X2_isFull [.ref T] I (fun I1 r2 => ((¬ (bI r2) = 0) → (Q I1)) ∧ (((bI r2) = 0) → ((vp_in (I1 T 1) (scN T)) ∧ (RV G Y_X2_settle [.ref T] (st (st I1 (T + 1) (nn (I1 T 1)) a1) T 1 (((st I1 (T + 1) (nn (I1 T 1)) a1) T 1) + (1 : Int32))) (fun I5 => Q I5)))))) : RV G Y_X2_append [.ref T, .int a1] I Q := by
  refine ret_of (show plainName RX2 = true by decide) (Nat.le_of_ble_eq_true rfl) ?_
  show Go G Y_X2_append 0 [(0, .ref T), (1, .int a1)] [] SH I 0 0 _
  refine go_aload_n dX2_append_0 rfl 0 rfl ?_
  refine go_vcall (Z := Y_X2_isFull) (As := []) (S := []) dX2_append_1 ok_X2_isFull l_X2_22 (by decide) (scr_sh hT) (SH_lt (scr_sh hT)) (Nat.le_of_ble_eq_true rfl) rfl rfl rfl (Nat.le_of_ble_eq_true rfl) h (fun _ I1 _ hq => ?_)
  obtain ⟨rfl, r2, rfl, h⟩ := hq
  show Go G Y_X2_append 4 [(0, .ref T), (1, .int a1)] [.int (bI r2)] SH I1 0 0 _
  refine go_if_ne (tgt := 31) dX2_append_4 (by decide) (fun c3 => ?_) (fun c3 => ?_)
  · have h := h.1 c3
    exact go_vret dX2_append_31 rfl rfl (by decide) ⟨rfl, rfl, h⟩
  · have h := h.2 c3
    refine go_aload_n dX2_append_7 rfl 0 rfl ?_
    refine go_getR dX2_append_8 (scr_sh hT) (SH_lt (scr_sh hT)) f_X2_15 ⟨Nat.le_of_ble_eq_true rfl, Nat.le_of_ble_eq_true rfl, rfl⟩ rfl ?_
    refine go_aload_n dX2_append_11 rfl 0 rfl ?_
    refine go_getI dX2_append_12 (scr_sh hT) (SH_lt (scr_sh hT)) f_X2_19 ⟨Nat.le_of_ble_eq_true rfl, Nat.le_of_ble_eq_true rfl, rfl⟩ ?_
    refine go_iload_n dX2_append_15 rfl 1 rfl ?_
    have hb4 := h.1
    have h := h.2
    refine go_iast dX2_append_16 (scr_ar hT) (SH_lt (scr_ar hT)) hb4 (j := (nn (I1 T 1))) rfl ?_
    refine go_aload_n dX2_append_17 rfl 0 rfl ?_
    refine go_dup dX2_append_18 rfl ?_
    refine go_getI dX2_append_19 (scr_sh hT) (SH_lt (scr_sh hT)) f_X2_19 ⟨Nat.le_of_ble_eq_true rfl, Nat.le_of_ble_eq_true rfl, rfl⟩ ?_
    refine go_iconst dX2_append_22 (v := (1 : Int32)) (by decide) ?_
    refine go_iadd dX2_append_23 ?_
    refine go_putT dX2_append_24 (scr_sh hT) (SH_lt (scr_sh hT)) p_X2_19 ⟨Nat.le_of_ble_eq_true rfl, Nat.le_of_ble_eq_true rfl, rfl⟩ rfl rfl ?_
    refine go_aload_n dX2_append_27 rfl 0 rfl ?_
    refine go_vcall (Z := Y_X2_settle) (As := []) (S := []) dX2_append_28 ok_X2_settle l_X2_26 (by decide) (scr_sh hT) (SH_lt (scr_sh hT)) (Nat.le_of_ble_eq_true rfl) rfl rfl rfl (Nat.le_of_ble_eq_true rfl) h (fun _ I5 _ hq => ?_)
    obtain ⟨rfl, rfl, h⟩ := hq
    show Go G Y_X2_append 31 [(0, .ref T), (1, .int a1)] [] SH I5 0 0 _
    exact go_vret dX2_append_31 rfl rfl (by decide) ⟨rfl, rfl, h⟩
set_option maxRecDepth 100000 in
set_option maxHeartbeats 4000000 in
theorem v_X2_shorten {G : CX} {T : Nat} {a1 : Int32} (hT : isScr T) {I : HP} {Q : HP → Prop} (h : ((a1 < 0) → (Q I)) ∧ ((¬ a1 < 0) → ((((I T 1) < a1) → (Q I)) ∧ ((¬ (I T 1) < a1) → (RV G Y_X2_settle [.ref T] (st I T 1 a1) (fun I3 => Q I3)))))) : RV G Y_X2_shorten [.ref T, .int a1] I Q := by
  refine ret_of (show plainName RX2 = true by decide) (Nat.le_of_ble_eq_true rfl) ?_
  show Go G Y_X2_shorten 0 [(0, .ref T), (1, .int a1)] [] SH I 0 0 _
  refine go_iload_n dX2_shorten_0 rfl 1 rfl ?_
  refine go_if_lt (tgt := 21) dX2_shorten_1 (by decide) (fun c1 => ?_) (fun c1 => ?_)
  · have h := h.1 c1
    exact go_vret dX2_shorten_21 rfl rfl (by decide) ⟨rfl, rfl, h⟩
  · have h := h.2 c1
    refine go_iload_n dX2_shorten_4 rfl 1 rfl ?_
    refine go_aload_n dX2_shorten_5 rfl 0 rfl ?_
    refine go_getI dX2_shorten_6 (scr_sh hT) (SH_lt (scr_sh hT)) f_X2_19 ⟨Nat.le_of_ble_eq_true rfl, Nat.le_of_ble_eq_true rfl, rfl⟩ ?_
    refine go_icmp_gt (tgt := 21) dX2_shorten_9 (by decide) (fun c2 => ?_) (fun c2 => ?_)
    · have h := h.1 c2
      exact go_vret dX2_shorten_21 rfl rfl (by decide) ⟨rfl, rfl, h⟩
    · have h := h.2 c2
      refine go_aload_n dX2_shorten_12 rfl 0 rfl ?_
      refine go_iload_n dX2_shorten_13 rfl 1 rfl ?_
      refine go_putT dX2_shorten_14 (scr_sh hT) (SH_lt (scr_sh hT)) p_X2_19 ⟨Nat.le_of_ble_eq_true rfl, Nat.le_of_ble_eq_true rfl, rfl⟩ rfl rfl ?_
      refine go_aload_n dX2_shorten_17 rfl 0 rfl ?_
      refine go_vcall (Z := Y_X2_settle) (As := []) (S := []) dX2_shorten_18 ok_X2_settle l_X2_26 (by decide) (scr_sh hT) (SH_lt (scr_sh hT)) (Nat.le_of_ble_eq_true rfl) rfl rfl rfl (Nat.le_of_ble_eq_true rfl) h (fun _ I3 _ hq => ?_)
      obtain ⟨rfl, rfl, h⟩ := hq
      show Go G Y_X2_shorten 21 [(0, .ref T), (1, .int a1)] [] SH I3 0 0 _
      exact go_vret dX2_shorten_21 rfl rfl (by decide) ⟨rfl, rfl, h⟩
set_option maxRecDepth 100000 in
set_option maxHeartbeats 4000000 in
theorem v_X2_dropLastVerse {G : CX} {T : Nat} (hT : isScr T) {I : HP} {Q : HP → Prop} (h : (((I T 3) ≤ (1 : Int32)) → (RV G Y_X2_shorten [.ref T, .int (0 : Int32)] I (fun I2 => Q I2))) ∧ ((¬ (I T 3) ≤ (1 : Int32)) → (RV G Y_X2_shorten [.ref T, .int (((5 : Int32) * ((I T 3) - (1 : Int32))) - (1 : Int32))] I (fun I3 => Q I3)))) : RV G Y_X2_dropLastVerse [.ref T] I Q := by
  refine ret_of (show plainName RX2 = true by decide) (Nat.le_of_ble_eq_true rfl) ?_
  show Go G Y_X2_dropLastVerse 0 [(0, .ref T)] [] SH I 0 0 _
  refine go_aload_n dX2_dropLastVerse_0 rfl 0 rfl ?_
  refine go_aload_n dX2_dropLastVerse_1 rfl 0 rfl ?_
  refine go_getI dX2_dropLastVerse_2 (scr_sh hT) (SH_lt (scr_sh hT)) f_X2_29 ⟨Nat.le_of_ble_eq_true rfl, Nat.le_of_ble_eq_true rfl, rfl⟩ ?_
  refine go_iconst dX2_dropLastVerse_5 (v := (1 : Int32)) (by decide) ?_
  refine go_icmp_le (tgt := 22) dX2_dropLastVerse_6 (by decide) (fun c1 => ?_) (fun c1 => ?_)
  · have h := h.1 c1
    refine go_iconst dX2_dropLastVerse_22 (v := (0 : Int32)) (by decide) ?_
    refine go_vcall (Z := Y_X2_shorten) (As := [.int (0 : Int32)]) (S := []) dX2_dropLastVerse_23 ok_X2_shorten l_X2_32 (by decide) (scr_sh hT) (SH_lt (scr_sh hT)) (Nat.le_of_ble_eq_true rfl) rfl rfl rfl (Nat.le_of_ble_eq_true rfl) h (fun _ I2 _ hq => ?_)
    obtain ⟨rfl, rfl, h⟩ := hq
    show Go G Y_X2_dropLastVerse 26 [(0, .ref T)] [] SH I2 0 0 _
    exact go_vret dX2_dropLastVerse_26 rfl rfl (by decide) ⟨rfl, rfl, h⟩
  · have h := h.2 c1
    refine go_iconst dX2_dropLastVerse_9 (v := (5 : Int32)) (by decide) ?_
    refine go_aload_n dX2_dropLastVerse_10 rfl 0 rfl ?_
    refine go_getI dX2_dropLastVerse_11 (scr_sh hT) (SH_lt (scr_sh hT)) f_X2_29 ⟨Nat.le_of_ble_eq_true rfl, Nat.le_of_ble_eq_true rfl, rfl⟩ ?_
    refine go_iconst dX2_dropLastVerse_14 (v := (1 : Int32)) (by decide) ?_
    refine go_isub dX2_dropLastVerse_15 ?_
    refine go_imul dX2_dropLastVerse_16 ?_
    refine go_iconst dX2_dropLastVerse_17 (v := (1 : Int32)) (by decide) ?_
    refine go_isub dX2_dropLastVerse_18 ?_
    refine go_goto (tgt := 23) dX2_dropLastVerse_19 (by decide) ?_
    refine go_vcall (Z := Y_X2_shorten) (As := [.int (((5 : Int32) * ((I T 3) - (1 : Int32))) - (1 : Int32))]) (S := []) dX2_dropLastVerse_23 ok_X2_shorten l_X2_32 (by decide) (scr_sh hT) (SH_lt (scr_sh hT)) (Nat.le_of_ble_eq_true rfl) rfl rfl rfl (Nat.le_of_ble_eq_true rfl) h (fun _ I3 _ hq => ?_)
    obtain ⟨rfl, rfl, h⟩ := hq
    show Go G Y_X2_dropLastVerse 26 [(0, .ref T)] [] SH I3 0 0 _
    exact go_vret dX2_dropLastVerse_26 rfl rfl (by decide) ⟨rfl, rfl, h⟩
set_option maxRecDepth 100000 in
set_option maxHeartbeats 4000000 in
theorem v_X2_settle {G : CX} {T : Nat} (hT : isScr T) {I : HP} {Q : HP → Prop} (h : RI G Y_X2_firstFlaw [.ref T] I (fun I1 r2 => ((¬ ((st I1 T 2 r2) T 2) = (-1 : Int32)) → (Q (st (st I1 T 2 r2) T 3 (0 : Int32)))) ∧ ((((st I1 T 2 r2) T 2) = (-1 : Int32)) → (Q (st (st I1 T 2 r2) T 3 ((((st I1 T 2 r2) T 1) + (1 : Int32)) / (5 : Int32))))))) : RV G Y_X2_settle [.ref T] I Q := by
  refine ret_of (show plainName RX2 = true by decide) (Nat.le_of_ble_eq_true rfl) ?_
  show Go G Y_X2_settle 0 [(0, .ref T)] [] SH I 0 0 _
  refine go_aload_n dX2_settle_0 rfl 0 rfl ?_
  refine go_aload_n dX2_settle_1 rfl 0 rfl ?_
  refine go_vcall (Z := Y_X2_firstFlaw) (As := []) (S := [.ref T]) dX2_settle_2 ok_X2_firstFlaw l_X2_36 (by decide) (scr_sh hT) (SH_lt (scr_sh hT)) (Nat.le_of_ble_eq_true rfl) rfl rfl rfl (Nat.le_of_ble_eq_true rfl) h (fun _ I1 _ hq => ?_)
  obtain ⟨rfl, r2, rfl, h⟩ := hq
  show Go G Y_X2_settle 5 [(0, .ref T)] [.int r2, .ref T] SH I1 0 0 _
  refine go_putT dX2_settle_5 (scr_sh hT) (SH_lt (scr_sh hT)) p_X2_9 ⟨Nat.le_of_ble_eq_true rfl, Nat.le_of_ble_eq_true rfl, rfl⟩ rfl rfl ?_
  refine go_aload_n dX2_settle_8 rfl 0 rfl ?_
  refine go_aload_n dX2_settle_9 rfl 0 rfl ?_
  refine go_getI dX2_settle_10 (scr_sh hT) (SH_lt (scr_sh hT)) f_X2_9 ⟨Nat.le_of_ble_eq_true rfl, Nat.le_of_ble_eq_true rfl, rfl⟩ ?_
  refine go_iconst dX2_settle_13 (v := (-1 : Int32)) (by decide) ?_
  refine go_icmp_ne (tgt := 28) dX2_settle_14 (by decide) (fun c3 => ?_) (fun c3 => ?_)
  · have h := h.1 c3
    refine go_iconst dX2_settle_28 (v := (0 : Int32)) (by decide) ?_
    refine go_putT dX2_settle_29 (scr_sh hT) (SH_lt (scr_sh hT)) p_X2_29 ⟨Nat.le_of_ble_eq_true rfl, Nat.le_of_ble_eq_true rfl, rfl⟩ rfl rfl ?_
    exact go_vret dX2_settle_32 rfl rfl (by decide) ⟨rfl, rfl, h⟩
  · have h := h.2 c3
    refine go_aload_n dX2_settle_17 rfl 0 rfl ?_
    refine go_getI dX2_settle_18 (scr_sh hT) (SH_lt (scr_sh hT)) f_X2_19 ⟨Nat.le_of_ble_eq_true rfl, Nat.le_of_ble_eq_true rfl, rfl⟩ ?_
    refine go_iconst dX2_settle_21 (v := (1 : Int32)) (by decide) ?_
    refine go_iadd dX2_settle_22 ?_
    refine go_iconst dX2_settle_23 (v := (5 : Int32)) (by decide) ?_
    refine go_idiv dX2_settle_24 (by decide) ?_
    refine go_goto (tgt := 29) dX2_settle_25 (by decide) ?_
    refine go_putT dX2_settle_29 (scr_sh hT) (SH_lt (scr_sh hT)) p_X2_29 ⟨Nat.le_of_ble_eq_true rfl, Nat.le_of_ble_eq_true rfl, rfl⟩ rfl rfl ?_
    exact go_vret dX2_settle_32 rfl rfl (by decide) ⟨rfl, rfl, h⟩
set_option maxRecDepth 100000 in
set_option maxHeartbeats 4000000 in
theorem v_X2_firstFlaw {G : CX} {T : Nat} (hT : isScr T) {I : HP} {Q : HP → Int32 → Prop} (h : GI G Y_X2_firstFlaw 2 [(0, .ref T), (1, .int (0 : Int32))] I Q) : RI G Y_X2_firstFlaw [.ref T] I Q := by
  refine ret_of (show plainName RX2 = true by decide) (Nat.le_of_ble_eq_true rfl) ?_
  show Go G Y_X2_firstFlaw 0 [(0, .ref T)] [] SH I 0 0 _
  refine go_iconst dX2_firstFlaw_0 (v := (0 : Int32)) (by decide) ?_
  refine go_istore_n dX2_firstFlaw_1 rfl (Nat.le_of_ble_eq_true rfl) (L2 := [(1, .int (0 : Int32)), (0, .ref T)]) rfl ?_
  exact go_loc [(0, .ref T), (1, .int (0 : Int32))] [1, 0] rfl h
set_option maxRecDepth 100000 in
set_option maxHeartbeats 4000000 in
theorem v_X2_firstFlaw_2 {G : CX} {T : Nat} {x1 : Int32} (hT : isScr T) {I : HP} {Q : HP → Int32 → Prop} (h : (((I T 1) ≤ x1) → ((((I T 1) = 0) → (Q I (-1 : Int32))) ∧ ((¬ (I T 1) = 0) → (((¬ ((I T 1) - (I T 1) / (5 : Int32) * (5 : Int32)) = (4 : Int32)) → (Q I (I T 1))) ∧ ((((I T 1) - (I T 1) / (5 : Int32) * (5 : Int32)) = (4 : Int32)) → (Q I (-1 : Int32))))))) ∧ ((¬ (I T 1) ≤ x1) → ((vp_in x1 (scN T)) ∧ (RZ G Y_X2_fits [.int (I (T + 1) (nn x1)), .int (x1 - x1 / (5 : Int32) * (5 : Int32))] I (fun I5 r6 => ((¬ (bI r6) = 0) → (GI G Y_X2_firstFlaw 2 [(0, .ref T), (1, .int (x1 + 1))] I5 Q)) ∧ (((bI r6) = 0) → (Q I5 x1))))))) : GI G Y_X2_firstFlaw 2 [(0, .ref T), (1, .int x1)] I Q := by
  show Go G Y_X2_firstFlaw 2 [(0, .ref T), (1, .int x1)] [] SH I 0 0 _
  refine go_iload_n dX2_firstFlaw_2 rfl 1 rfl ?_
  refine go_aload_n dX2_firstFlaw_3 rfl 0 rfl ?_
  refine go_getI dX2_firstFlaw_4 (scr_sh hT) (SH_lt (scr_sh hT)) f_X2_19 ⟨Nat.le_of_ble_eq_true rfl, Nat.le_of_ble_eq_true rfl, rfl⟩ ?_
  refine go_icmp_ge (tgt := 33) dX2_firstFlaw_7 (by decide) (fun c1 => ?_) (fun c1 => ?_)
  · have h := h.1 c1
    refine go_aload_n dX2_firstFlaw_33 rfl 0 rfl ?_
    refine go_getI dX2_firstFlaw_34 (scr_sh hT) (SH_lt (scr_sh hT)) f_X2_19 ⟨Nat.le_of_ble_eq_true rfl, Nat.le_of_ble_eq_true rfl, rfl⟩ ?_
    refine go_if_eq (tgt := 50) dX2_firstFlaw_37 (by decide) (fun c2 => ?_) (fun c2 => ?_)
    · have h := h.1 c2
      refine go_iconst dX2_firstFlaw_50 (v := (-1 : Int32)) (by decide) ?_
      refine go_goto (tgt := 58) dX2_firstFlaw_51 (by decide) ?_
      exact go_iret dX2_firstFlaw_58 rfl rfl (by decide) ⟨rfl, _, rfl, h⟩
    · have h := h.2 c2
      refine go_aload_n dX2_firstFlaw_40 rfl 0 rfl ?_
      refine go_getI dX2_firstFlaw_41 (scr_sh hT) (SH_lt (scr_sh hT)) f_X2_19 ⟨Nat.le_of_ble_eq_true rfl, Nat.le_of_ble_eq_true rfl, rfl⟩ ?_
      refine go_iconst dX2_firstFlaw_44 (v := (5 : Int32)) (by decide) ?_
      refine go_irem dX2_firstFlaw_45 (by decide) ?_
      refine go_iconst dX2_firstFlaw_46 (v := (4 : Int32)) (by decide) ?_
      refine go_icmp_ne (tgt := 54) dX2_firstFlaw_47 (by decide) (fun c3 => ?_) (fun c3 => ?_)
      · have h := h.1 c3
        refine go_aload_n dX2_firstFlaw_54 rfl 0 rfl ?_
        refine go_getI dX2_firstFlaw_55 (scr_sh hT) (SH_lt (scr_sh hT)) f_X2_19 ⟨Nat.le_of_ble_eq_true rfl, Nat.le_of_ble_eq_true rfl, rfl⟩ ?_
        exact go_iret dX2_firstFlaw_58 rfl rfl (by decide) ⟨rfl, _, rfl, h⟩
      · have h := h.2 c3
        refine go_iconst dX2_firstFlaw_50 (v := (-1 : Int32)) (by decide) ?_
        refine go_goto (tgt := 58) dX2_firstFlaw_51 (by decide) ?_
        exact go_iret dX2_firstFlaw_58 rfl rfl (by decide) ⟨rfl, _, rfl, h⟩
  · have h := h.2 c1
    refine go_aload_n dX2_firstFlaw_10 rfl 0 rfl ?_
    refine go_getR dX2_firstFlaw_11 (scr_sh hT) (SH_lt (scr_sh hT)) f_X2_15 ⟨Nat.le_of_ble_eq_true rfl, Nat.le_of_ble_eq_true rfl, rfl⟩ rfl ?_
    refine go_iload_n dX2_firstFlaw_14 rfl 1 rfl ?_
    have hb4 := h.1
    have h := h.2
    refine go_iald dX2_firstFlaw_15 (scr_ar hT) (SH_lt (scr_ar hT)) hb4 rfl ?_
    refine go_iload_n dX2_firstFlaw_16 rfl 1 rfl ?_
    refine go_iconst dX2_firstFlaw_17 (v := (5 : Int32)) (by decide) ?_
    refine go_irem dX2_firstFlaw_18 (by decide) ?_
    refine go_scall (Z := Y_X2_fits) (As := [.int (I (T + 1) (nn x1)), .int (x1 - x1 / (5 : Int32) * (5 : Int32))]) (S := []) dX2_firstFlaw_19 ok_X2_fits l_X2_40 (by decide) rfl rfl (Nat.le_of_ble_eq_true rfl) h (fun _ I5 _ hq => ?_)
    obtain ⟨rfl, r6, rfl, h⟩ := hq
    show Go G Y_X2_firstFlaw 22 [(0, .ref T), (1, .int x1)] [.int (bI r6)] SH I5 0 0 _
    refine go_if_ne (tgt := 27) dX2_firstFlaw_22 (by decide) (fun c7 => ?_) (fun c7 => ?_)
    · have h := h.1 c7
      refine go_iinc dX2_firstFlaw_27 1 rfl (v := (x1 + 1)) rfl (Nat.le_of_ble_eq_true rfl) (L2 := [(1, .int (x1 + 1)), (0, .ref T)]) rfl ?_
      refine go_goto (tgt := 2) dX2_firstFlaw_30 (by decide) ?_
      exact go_loc [(0, .ref T), (1, .int (x1 + 1))] [1, 0] rfl h
    · have h := h.2 c7
      refine go_iload_n dX2_firstFlaw_25 rfl 1 rfl ?_
      exact go_iret dX2_firstFlaw_26 rfl rfl (by decide) ⟨rfl, _, rfl, h⟩
set_option maxRecDepth 100000 in
set_option maxHeartbeats 4000000 in
theorem v_X2_fits {G : CX} {a1 : Int32} {a2 : Int32}  {I : HP} {Q : HP → Bool → Prop} (h : ((a2 = (0 : Int32)) → (RI G Y_X2_kindBy [.int a1] I (fun I2 r3 => ((r3 = (-1 : Int32)) → (Q I2 false)) ∧ ((¬ r3 = (-1 : Int32)) → (Q I2 true))))) ∧ ((a2 = (1 : Int32)) → (((a1 < (48 : Int32)) → (Q I false)) ∧ ((¬ a1 < (48 : Int32)) → ((((57 : Int32) < a1) → (Q I false)) ∧ ((¬ (57 : Int32) < a1) → (Q I true)))))) ∧ ((a2 = (2 : Int32)) → (((a1 < (49 : Int32)) → (Q I false)) ∧ ((¬ a1 < (49 : Int32)) → ((((57 : Int32) < a1) → (Q I false)) ∧ ((¬ (57 : Int32) < a1) → (Q I true)))))) ∧ ((a2 = (3 : Int32)) → (((a1 < (48 : Int32)) → (Q I false)) ∧ ((¬ a1 < (48 : Int32)) → ((((57 : Int32) < a1) → (Q I false)) ∧ ((¬ (57 : Int32) < a1) → (Q I true)))))) ∧ ((a2 = (4 : Int32)) → (((¬ a1 = (59 : Int32)) → (Q I false)) ∧ ((a1 = (59 : Int32)) → (Q I true)))) ∧ ((∀ j : Nat, j < 5 → a2 ≠ nI j) → (((a1 < (48 : Int32)) → (Q I false)) ∧ ((¬ a1 < (48 : Int32)) → ((((57 : Int32) < a1) → (Q I false)) ∧ ((¬ (57 : Int32) < a1) → (Q I true))))))) : RZ G Y_X2_fits [.int a1, .int a2] I Q := by
  refine ret_of (show plainName RX2 = true by decide) (Nat.le_of_ble_eq_true rfl) ?_
  show Go G Y_X2_fits 0 [(0, .int a1), (1, .int a2)] [] SH I 0 0 _
  refine go_iload_n dX2_fits_0 rfl 1 rfl ?_
  by_cases c1 : a2 = (0 : Int32)
  · have h := h.1 c1
    refine go_tIn (tgt := 36) dX2_fits_1 (by rw [c1]; decide) (by rw [c1]; decide) (by rw [c1] <;> rfl) (by decide) ?_
    refine go_iload_n dX2_fits_36 rfl 0 rfl ?_
    refine go_scall (Z := Y_X2_kindBy) (As := [.int a1]) (S := []) dX2_fits_37 ok_X2_kindBy l_X2_44 (by decide) rfl rfl (Nat.le_of_ble_eq_true rfl) h (fun _ I2 _ hq => ?_)
    obtain ⟨rfl, r3, rfl, h⟩ := hq
    show Go G Y_X2_fits 40 [(0, .int a1), (1, .int a2)] [.int r3] SH I2 0 0 _
    refine go_iconst dX2_fits_40 (v := (-1 : Int32)) (by decide) ?_
    refine go_icmp_eq (tgt := 48) dX2_fits_41 (by decide) (fun c4 => ?_) (fun c4 => ?_)
    · have h := h.1 c4
      refine go_iconst dX2_fits_48 (v := (0 : Int32)) (by decide) ?_
      exact go_zret dX2_fits_49 rfl rfl rfl (by decide) ⟨rfl, false, rfl, h⟩
    · have h := h.2 c4
      refine go_iconst dX2_fits_44 (v := (1 : Int32)) (by decide) ?_
      refine go_goto (tgt := 49) dX2_fits_45 (by decide) ?_
      exact go_zret dX2_fits_49 rfl rfl rfl (by decide) ⟨rfl, true, rfl, h⟩
  have h := h.2
  have c1_0 : a2 ≠ nI 0 := c1
  clear c1
  by_cases c1 : a2 = (1 : Int32)
  · have h := h.1 c1
    refine go_tIn (tgt := 80) dX2_fits_1 (by rw [c1]; decide) (by rw [c1]; decide) (by rw [c1] <;> rfl) (by decide) ?_
    refine go_iload_n dX2_fits_80 rfl 0 rfl ?_
    refine go_bipush dX2_fits_81 (v := (48 : Int32)) (by decide) ?_
    refine go_icmp_lt (tgt := 96) dX2_fits_83 (by decide) (fun c5 => ?_) (fun c5 => ?_)
    · have h := h.1 c5
      refine go_iconst dX2_fits_96 (v := (0 : Int32)) (by decide) ?_
      exact go_zret dX2_fits_97 rfl rfl rfl (by decide) ⟨rfl, false, rfl, h⟩
    · have h := h.2 c5
      refine go_iload_n dX2_fits_86 rfl 0 rfl ?_
      refine go_bipush dX2_fits_87 (v := (57 : Int32)) (by decide) ?_
      refine go_icmp_gt (tgt := 96) dX2_fits_89 (by decide) (fun c6 => ?_) (fun c6 => ?_)
      · have h := h.1 c6
        refine go_iconst dX2_fits_96 (v := (0 : Int32)) (by decide) ?_
        exact go_zret dX2_fits_97 rfl rfl rfl (by decide) ⟨rfl, false, rfl, h⟩
      · have h := h.2 c6
        refine go_iconst dX2_fits_92 (v := (1 : Int32)) (by decide) ?_
        refine go_goto (tgt := 97) dX2_fits_93 (by decide) ?_
        exact go_zret dX2_fits_97 rfl rfl rfl (by decide) ⟨rfl, true, rfl, h⟩
  have h := h.2
  have c1_1 : a2 ≠ nI 1 := c1
  clear c1
  by_cases c1 : a2 = (2 : Int32)
  · have h := h.1 c1
    refine go_tIn (tgt := 50) dX2_fits_1 (by rw [c1]; decide) (by rw [c1]; decide) (by rw [c1] <;> rfl) (by decide) ?_
    refine go_iload_n dX2_fits_50 rfl 0 rfl ?_
    refine go_bipush dX2_fits_51 (v := (49 : Int32)) (by decide) ?_
    refine go_icmp_lt (tgt := 66) dX2_fits_53 (by decide) (fun c7 => ?_) (fun c7 => ?_)
    · have h := h.1 c7
      refine go_iconst dX2_fits_66 (v := (0 : Int32)) (by decide) ?_
      exact go_zret dX2_fits_67 rfl rfl rfl (by decide) ⟨rfl, false, rfl, h⟩
    · have h := h.2 c7
      refine go_iload_n dX2_fits_56 rfl 0 rfl ?_
      refine go_bipush dX2_fits_57 (v := (57 : Int32)) (by decide) ?_
      refine go_icmp_gt (tgt := 66) dX2_fits_59 (by decide) (fun c8 => ?_) (fun c8 => ?_)
      · have h := h.1 c8
        refine go_iconst dX2_fits_66 (v := (0 : Int32)) (by decide) ?_
        exact go_zret dX2_fits_67 rfl rfl rfl (by decide) ⟨rfl, false, rfl, h⟩
      · have h := h.2 c8
        refine go_iconst dX2_fits_62 (v := (1 : Int32)) (by decide) ?_
        refine go_goto (tgt := 67) dX2_fits_63 (by decide) ?_
        exact go_zret dX2_fits_67 rfl rfl rfl (by decide) ⟨rfl, true, rfl, h⟩
  have h := h.2
  have c1_2 : a2 ≠ nI 2 := c1
  clear c1
  by_cases c1 : a2 = (3 : Int32)
  · have h := h.1 c1
    refine go_tIn (tgt := 80) dX2_fits_1 (by rw [c1]; decide) (by rw [c1]; decide) (by rw [c1] <;> rfl) (by decide) ?_
    refine go_iload_n dX2_fits_80 rfl 0 rfl ?_
    refine go_bipush dX2_fits_81 (v := (48 : Int32)) (by decide) ?_
    refine go_icmp_lt (tgt := 96) dX2_fits_83 (by decide) (fun c9 => ?_) (fun c9 => ?_)
    · have h := h.1 c9
      refine go_iconst dX2_fits_96 (v := (0 : Int32)) (by decide) ?_
      exact go_zret dX2_fits_97 rfl rfl rfl (by decide) ⟨rfl, false, rfl, h⟩
    · have h := h.2 c9
      refine go_iload_n dX2_fits_86 rfl 0 rfl ?_
      refine go_bipush dX2_fits_87 (v := (57 : Int32)) (by decide) ?_
      refine go_icmp_gt (tgt := 96) dX2_fits_89 (by decide) (fun c10 => ?_) (fun c10 => ?_)
      · have h := h.1 c10
        refine go_iconst dX2_fits_96 (v := (0 : Int32)) (by decide) ?_
        exact go_zret dX2_fits_97 rfl rfl rfl (by decide) ⟨rfl, false, rfl, h⟩
      · have h := h.2 c10
        refine go_iconst dX2_fits_92 (v := (1 : Int32)) (by decide) ?_
        refine go_goto (tgt := 97) dX2_fits_93 (by decide) ?_
        exact go_zret dX2_fits_97 rfl rfl rfl (by decide) ⟨rfl, true, rfl, h⟩
  have h := h.2
  have c1_3 : a2 ≠ nI 3 := c1
  clear c1
  by_cases c1 : a2 = (4 : Int32)
  · have h := h.1 c1
    refine go_tIn (tgt := 68) dX2_fits_1 (by rw [c1]; decide) (by rw [c1]; decide) (by rw [c1] <;> rfl) (by decide) ?_
    refine go_iload_n dX2_fits_68 rfl 0 rfl ?_
    refine go_bipush dX2_fits_69 (v := (59 : Int32)) (by decide) ?_
    refine go_icmp_ne (tgt := 78) dX2_fits_71 (by decide) (fun c11 => ?_) (fun c11 => ?_)
    · have h := h.1 c11
      refine go_iconst dX2_fits_78 (v := (0 : Int32)) (by decide) ?_
      exact go_zret dX2_fits_79 rfl rfl rfl (by decide) ⟨rfl, false, rfl, h⟩
    · have h := h.2 c11
      refine go_iconst dX2_fits_74 (v := (1 : Int32)) (by decide) ?_
      refine go_goto (tgt := 79) dX2_fits_75 (by decide) ?_
      exact go_zret dX2_fits_79 rfl rfl rfl (by decide) ⟨rfl, true, rfl, h⟩
  have h := h.2
  have c1_4 : a2 ≠ nI 4 := c1
  clear c1
  have hb12 : ∀ j : Nat, j < 5 → a2 ≠ nI j := by
    intro j hj
    rcases (show j = 0 ∨ j = 1 ∨ j = 2 ∨ j = 3 ∨ j = 4 by omega) with rfl | rfl | rfl | rfl | rfl
    · exact c1_0
    · exact c1_1
    · exact c1_2
    · exact c1_3
    · exact c1_4
  have h := h hb12
  refine go_tOut (tgt := 80) dX2_fits_1 (sw_out (n := 5) (by decide) hb12) (by decide) ?_
  refine go_iload_n dX2_fits_80 rfl 0 rfl ?_
  refine go_bipush dX2_fits_81 (v := (48 : Int32)) (by decide) ?_
  refine go_icmp_lt (tgt := 96) dX2_fits_83 (by decide) (fun c13 => ?_) (fun c13 => ?_)
  · have h := h.1 c13
    refine go_iconst dX2_fits_96 (v := (0 : Int32)) (by decide) ?_
    exact go_zret dX2_fits_97 rfl rfl rfl (by decide) ⟨rfl, false, rfl, h⟩
  · have h := h.2 c13
    refine go_iload_n dX2_fits_86 rfl 0 rfl ?_
    refine go_bipush dX2_fits_87 (v := (57 : Int32)) (by decide) ?_
    refine go_icmp_gt (tgt := 96) dX2_fits_89 (by decide) (fun c14 => ?_) (fun c14 => ?_)
    · have h := h.1 c14
      refine go_iconst dX2_fits_96 (v := (0 : Int32)) (by decide) ?_
      exact go_zret dX2_fits_97 rfl rfl rfl (by decide) ⟨rfl, false, rfl, h⟩
    · have h := h.2 c14
      refine go_iconst dX2_fits_92 (v := (1 : Int32)) (by decide) ?_
      refine go_goto (tgt := 97) dX2_fits_93 (by decide) ?_
      exact go_zret dX2_fits_97 rfl rfl rfl (by decide) ⟨rfl, true, rfl, h⟩
set_option maxRecDepth 100000 in
set_option maxHeartbeats 4000000 in
theorem v_X2_kindBy {G : CX} {a1 : Int32}  {I : HP} {Q : HP → Int32 → Prop} (h : ((a1 = (99 : Int32)) → (Q I (1 : Int32))) ∧ ((a1 = (108 : Int32)) → (Q I (2 : Int32))) ∧ ((a1 = (112 : Int32)) → (Q I (0 : Int32))) ∧ ((a1 = (114 : Int32)) → (Q I (3 : Int32))) ∧ ((¬ a1 = (99 : Int32)) → (¬ a1 = (108 : Int32)) → (¬ a1 = (112 : Int32)) → (¬ a1 = (114 : Int32)) → (Q I (-1 : Int32)))) : RI G Y_X2_kindBy [.int a1] I Q := by
  refine ret_of (show plainName RX2 = true by decide) (Nat.le_of_ble_eq_true rfl) ?_
  show Go G Y_X2_kindBy 0 [(0, .int a1)] [] SH I 0 0 _
  refine go_iload_n dX2_kindBy_0 rfl 0 rfl ?_
  by_cases c1_0 : a1 = (99 : Int32)
  · have h := h.1 c1_0
    refine go_look (tgt := 46) dX2_kindBy_1 (by decide) (by rw [c1_0] <;> rfl) (by decide) ?_
    refine go_iconst dX2_kindBy_46 (v := (1 : Int32)) (by decide) ?_
    exact go_iret dX2_kindBy_47 rfl rfl (by decide) ⟨rfl, _, rfl, h⟩
  have h := h.2
  by_cases c1_1 : a1 = (108 : Int32)
  · have h := h.1 c1_1
    refine go_look (tgt := 48) dX2_kindBy_1 (by decide) (by rw [c1_1] <;> rfl) (by decide) ?_
    refine go_iconst dX2_kindBy_48 (v := (2 : Int32)) (by decide) ?_
    exact go_iret dX2_kindBy_49 rfl rfl (by decide) ⟨rfl, _, rfl, h⟩
  have h := h.2
  by_cases c1_2 : a1 = (112 : Int32)
  · have h := h.1 c1_2
    refine go_look (tgt := 44) dX2_kindBy_1 (by decide) (by rw [c1_2] <;> rfl) (by decide) ?_
    refine go_iconst dX2_kindBy_44 (v := (0 : Int32)) (by decide) ?_
    exact go_iret dX2_kindBy_45 rfl rfl (by decide) ⟨rfl, _, rfl, h⟩
  have h := h.2
  by_cases c1_3 : a1 = (114 : Int32)
  · have h := h.1 c1_3
    refine go_look (tgt := 50) dX2_kindBy_1 (by decide) (by rw [c1_3] <;> rfl) (by decide) ?_
    refine go_iconst dX2_kindBy_50 (v := (3 : Int32)) (by decide) ?_
    exact go_iret dX2_kindBy_51 rfl rfl (by decide) ⟨rfl, _, rfl, h⟩
  have h := h.2
  have h := h c1_0 c1_1 c1_2 c1_3
  refine go_look (tgt := 52) (off := 51) dX2_kindBy_1 (by decide) (by show Op.lookupswitch.offset [(99, 45), (108, 47), (112, 43), (114, 49)] 51 _ = _; rw [lv_osw (a := 99) c1_0 (by decide)]; rw [lv_osw (a := 108) c1_1 (by decide)]; rw [lv_osw (a := 112) c1_2 (by decide)]; rw [lv_osw (a := 114) c1_3 (by decide)] <;> rfl) (by decide) ?_
  refine go_iconst dX2_kindBy_52 (v := (-1 : Int32)) (by decide) ?_
  exact go_iret dX2_kindBy_53 rfl rfl (by decide) ⟨rfl, _, rfl, h⟩
set_option maxRecDepth 100000 in
set_option maxHeartbeats 4000000 in
theorem v_X2_kindOf {G : CX} {T : Nat} {a1 : Int32} (hT : isScr T) {I : HP} {Q : HP → Int32 → Prop} (h : ((a1 < 0) → (Q I (-1 : Int32))) ∧ ((¬ a1 < 0) → ((((I T 3) ≤ a1) → (Q I (-1 : Int32))) ∧ ((¬ (I T 3) ≤ a1) → ((vp_in ((5 : Int32) * a1) (scN T)) ∧ (RI G Y_X2_kindBy [.int (I (T + 1) (nn ((5 : Int32) * a1)))] I (fun I4 r5 => Q I4 r5))))))) : RI G Y_X2_kindOf [.ref T, .int a1] I Q := by
  refine ret_of (show plainName RX2 = true by decide) (Nat.le_of_ble_eq_true rfl) ?_
  show Go G Y_X2_kindOf 0 [(0, .ref T), (1, .int a1)] [] SH I 0 0 _
  refine go_iload_n dX2_kindOf_0 rfl 1 rfl ?_
  refine go_if_lt (tgt := 26) dX2_kindOf_1 (by decide) (fun c1 => ?_) (fun c1 => ?_)
  · have h := h.1 c1
    refine go_iconst dX2_kindOf_26 (v := (-1 : Int32)) (by decide) ?_
    exact go_iret dX2_kindOf_27 rfl rfl (by decide) ⟨rfl, _, rfl, h⟩
  · have h := h.2 c1
    refine go_iload_n dX2_kindOf_4 rfl 1 rfl ?_
    refine go_aload_n dX2_kindOf_5 rfl 0 rfl ?_
    refine go_getI dX2_kindOf_6 (scr_sh hT) (SH_lt (scr_sh hT)) f_X2_29 ⟨Nat.le_of_ble_eq_true rfl, Nat.le_of_ble_eq_true rfl, rfl⟩ ?_
    refine go_icmp_ge (tgt := 26) dX2_kindOf_9 (by decide) (fun c2 => ?_) (fun c2 => ?_)
    · have h := h.1 c2
      refine go_iconst dX2_kindOf_26 (v := (-1 : Int32)) (by decide) ?_
      exact go_iret dX2_kindOf_27 rfl rfl (by decide) ⟨rfl, _, rfl, h⟩
    · have h := h.2 c2
      refine go_aload_n dX2_kindOf_12 rfl 0 rfl ?_
      refine go_getR dX2_kindOf_13 (scr_sh hT) (SH_lt (scr_sh hT)) f_X2_15 ⟨Nat.le_of_ble_eq_true rfl, Nat.le_of_ble_eq_true rfl, rfl⟩ rfl ?_
      refine go_iconst dX2_kindOf_16 (v := (5 : Int32)) (by decide) ?_
      refine go_iload_n dX2_kindOf_17 rfl 1 rfl ?_
      refine go_imul dX2_kindOf_18 ?_
      have hb3 := h.1
      have h := h.2
      refine go_iald dX2_kindOf_19 (scr_ar hT) (SH_lt (scr_ar hT)) hb3 rfl ?_
      refine go_scall (Z := Y_X2_kindBy) (As := [.int (I (T + 1) (nn ((5 : Int32) * a1)))]) (S := []) dX2_kindOf_20 ok_X2_kindBy l_X2_44 (by decide) rfl rfl (Nat.le_of_ble_eq_true rfl) h (fun _ I4 _ hq => ?_)
      obtain ⟨rfl, r5, rfl, h⟩ := hq
      show Go G Y_X2_kindOf 23 [(0, .ref T), (1, .int a1)] [.int r5] SH I4 0 0 _
      refine go_goto (tgt := 27) dX2_kindOf_23 (by decide) ?_
      exact go_iret dX2_kindOf_27 rfl rfl (by decide) ⟨rfl, _, rfl, h⟩
set_option maxRecDepth 100000 in
set_option maxHeartbeats 4000000 in
theorem v_X2_figure {G : CX} {T : Nat} {a1 : Int32} {a2 : Int32} (hT : isScr T) {I : HP} {Q : HP → Int32 → Prop} (h : ((a1 < 0) → (Q I (0 : Int32))) ∧ ((¬ a1 < 0) → ((((I T 3) ≤ a1) → (Q I (0 : Int32))) ∧ ((¬ (I T 3) ≤ a1) → (((a2 < 0) → (Q I (0 : Int32))) ∧ ((¬ a2 < 0) → (((a2 ≤ (2 : Int32)) → ((vp_in ((((5 : Int32) * a1) + (1 : Int32)) + a2) (scN T)) ∧ (Q I ((I (T + 1) (nn ((((5 : Int32) * a1) + (1 : Int32)) + a2))) - (48 : Int32))))) ∧ ((¬ a2 ≤ (2 : Int32)) → (Q I (0 : Int32)))))))))) : RI G Y_X2_figure [.ref T, .int a1, .int a2] I Q := by
  refine ret_of (show plainName RX2 = true by decide) (Nat.le_of_ble_eq_true rfl) ?_
  show Go G Y_X2_figure 0 [(0, .ref T), (1, .int a1), (2, .int a2)] [] SH I 0 0 _
  refine go_iload_n dX2_figure_0 rfl 1 rfl ?_
  refine go_if_lt (tgt := 21) dX2_figure_1 (by decide) (fun c1 => ?_) (fun c1 => ?_)
  · have h := h.1 c1
    refine go_iconst dX2_figure_21 (v := (0 : Int32)) (by decide) ?_
    exact go_iret dX2_figure_22 rfl rfl (by decide) ⟨rfl, _, rfl, h⟩
  · have h := h.2 c1
    refine go_iload_n dX2_figure_4 rfl 1 rfl ?_
    refine go_aload_n dX2_figure_5 rfl 0 rfl ?_
    refine go_getI dX2_figure_6 (scr_sh hT) (SH_lt (scr_sh hT)) f_X2_29 ⟨Nat.le_of_ble_eq_true rfl, Nat.le_of_ble_eq_true rfl, rfl⟩ ?_
    refine go_icmp_ge (tgt := 21) dX2_figure_9 (by decide) (fun c2 => ?_) (fun c2 => ?_)
    · have h := h.1 c2
      refine go_iconst dX2_figure_21 (v := (0 : Int32)) (by decide) ?_
      exact go_iret dX2_figure_22 rfl rfl (by decide) ⟨rfl, _, rfl, h⟩
    · have h := h.2 c2
      refine go_iload_n dX2_figure_12 rfl 2 rfl ?_
      refine go_if_lt (tgt := 21) dX2_figure_13 (by decide) (fun c3 => ?_) (fun c3 => ?_)
      · have h := h.1 c3
        refine go_iconst dX2_figure_21 (v := (0 : Int32)) (by decide) ?_
        exact go_iret dX2_figure_22 rfl rfl (by decide) ⟨rfl, _, rfl, h⟩
      · have h := h.2 c3
        refine go_iload_n dX2_figure_16 rfl 2 rfl ?_
        refine go_iconst dX2_figure_17 (v := (2 : Int32)) (by decide) ?_
        refine go_icmp_le (tgt := 23) dX2_figure_18 (by decide) (fun c4 => ?_) (fun c4 => ?_)
        · have h := h.1 c4
          refine go_aload_n dX2_figure_23 rfl 0 rfl ?_
          refine go_getR dX2_figure_24 (scr_sh hT) (SH_lt (scr_sh hT)) f_X2_15 ⟨Nat.le_of_ble_eq_true rfl, Nat.le_of_ble_eq_true rfl, rfl⟩ rfl ?_
          refine go_iconst dX2_figure_27 (v := (5 : Int32)) (by decide) ?_
          refine go_iload_n dX2_figure_28 rfl 1 rfl ?_
          refine go_imul dX2_figure_29 ?_
          refine go_iconst dX2_figure_30 (v := (1 : Int32)) (by decide) ?_
          refine go_iadd dX2_figure_31 ?_
          refine go_iload_n dX2_figure_32 rfl 2 rfl ?_
          refine go_iadd dX2_figure_33 ?_
          have hb5 := h.1
          have h := h.2
          refine go_iald dX2_figure_34 (scr_ar hT) (SH_lt (scr_ar hT)) hb5 rfl ?_
          refine go_bipush dX2_figure_35 (v := (48 : Int32)) (by decide) ?_
          refine go_isub dX2_figure_37 ?_
          exact go_iret dX2_figure_38 rfl rfl (by decide) ⟨rfl, _, rfl, h⟩
        · have h := h.2 c4
          refine go_iconst dX2_figure_21 (v := (0 : Int32)) (by decide) ?_
          exact go_iret dX2_figure_22 rfl rfl (by decide) ⟨rfl, _, rfl, h⟩
set_option maxRecDepth 100000 in
set_option maxHeartbeats 4000000 in
theorem v_X3_renew {G : CX} {T : Nat} {a1 : Int32} {a2 : Int32} (hT : isShe T) {I : HP} {Q : HP → Prop} (h : GV G Y_X3_renew 17 [(0, .ref T), (3, .int (0 : Int32))] (st (st (st I T 1 (0 : Int32)) T 2 a1) T 3 a2) Q) : RV G Y_X3_renew [.ref T, .int a1, .int a2] I Q := by
  refine ret_of (show plainName RX3 = true by decide) (Nat.le_of_ble_eq_true rfl) ?_
  show Go G Y_X3_renew 0 [(0, .ref T), (1, .int a1), (2, .int a2)] [] SH I 0 0 _
  refine go_aload_n dX3_renew_0 rfl 0 rfl ?_
  refine go_iconst dX3_renew_1 (v := (0 : Int32)) (by decide) ?_
  refine go_putT dX3_renew_2 (she_sh hT) (SH_lt (she_sh hT)) p_X3_15 ⟨Nat.le_of_ble_eq_true rfl, Nat.le_of_ble_eq_true rfl, rfl⟩ rfl rfl ?_
  refine go_aload_n dX3_renew_5 rfl 0 rfl ?_
  refine go_iload_n dX3_renew_6 rfl 1 rfl ?_
  refine go_putT dX3_renew_7 (she_sh hT) (SH_lt (she_sh hT)) p_X3_19 ⟨Nat.le_of_ble_eq_true rfl, Nat.le_of_ble_eq_true rfl, rfl⟩ rfl rfl ?_
  refine go_aload_n dX3_renew_10 rfl 0 rfl ?_
  refine go_iload_n dX3_renew_11 rfl 2 rfl ?_
  refine go_putT dX3_renew_12 (she_sh hT) (SH_lt (she_sh hT)) p_X3_23 ⟨Nat.le_of_ble_eq_true rfl, Nat.le_of_ble_eq_true rfl, rfl⟩ rfl rfl ?_
  refine go_iconst dX3_renew_15 (v := (0 : Int32)) (by decide) ?_
  refine go_istore_n dX3_renew_16 rfl (Nat.le_of_ble_eq_true rfl) (L2 := [(3, .int (0 : Int32)), (0, .ref T), (1, .int a1), (2, .int a2)]) rfl ?_
  exact go_loc [(0, .ref T), (3, .int (0 : Int32))] [1, 0] rfl h
set_option maxRecDepth 100000 in
set_option maxHeartbeats 4000000 in
theorem v_X3_renew_17 {G : CX} {T : Nat} {x3 : Int32} (hT : isShe T) {I : HP} {Q : HP → Prop} (h : (((60 : Int32) ≤ x3) → (Q I)) ∧ ((¬ (60 : Int32) ≤ x3) → ((vp_in x3 60) ∧ (GV G Y_X3_renew 17 [(0, .ref T), (3, .int (x3 + 1))] (st I (T + 1) (nn x3) (0 : Int32)) Q)))) : GV G Y_X3_renew 17 [(0, .ref T), (3, .int x3)] I Q := by
  show Go G Y_X3_renew 17 [(0, .ref T), (3, .int x3)] [] SH I 0 0 _
  refine go_iload_n dX3_renew_17 rfl 1 rfl ?_
  refine go_bipush dX3_renew_18 (v := (60 : Int32)) (by decide) ?_
  refine go_icmp_ge (tgt := 36) dX3_renew_20 (by decide) (fun c1 => ?_) (fun c1 => ?_)
  · have h := h.1 c1
    exact go_vret dX3_renew_36 rfl rfl (by decide) ⟨rfl, rfl, h⟩
  · have h := h.2 c1
    refine go_aload_n dX3_renew_23 rfl 0 rfl ?_
    refine go_getR dX3_renew_24 (she_sh hT) (SH_lt (she_sh hT)) f_X3_9 ⟨Nat.le_of_ble_eq_true rfl, Nat.le_of_ble_eq_true rfl, rfl⟩ rfl ?_
    refine go_iload_n dX3_renew_27 rfl 1 rfl ?_
    refine go_iconst dX3_renew_28 (v := (0 : Int32)) (by decide) ?_
    have hb2 := h.1
    have h := h.2
    refine go_iast dX3_renew_29 (she_ar hT) (SH_lt (she_ar hT)) hb2 (j := (nn x3)) rfl ?_
    refine go_iinc dX3_renew_30 1 rfl (v := (x3 + 1)) rfl (Nat.le_of_ble_eq_true rfl) (L2 := [(3, .int (x3 + 1)), (0, .ref T)]) rfl ?_
    refine go_goto (tgt := 17) dX3_renew_33 (by decide) ?_
    exact go_loc [(0, .ref T), (3, .int (x3 + 1))] [1, 0] rfl h
set_option maxRecDepth 100000 in
set_option maxHeartbeats 4000000 in
theorem v_X3_hasItem {G : CX} {T : Nat} {a1 : Int32} (hT : isShe T) {I : HP} {Q : HP → Bool → Prop} (h : ((a1 < 0) → (Q I false)) ∧ ((¬ a1 < 0) → ((((I T 3) ≤ a1) → (Q I false)) ∧ ((¬ (I T 3) ≤ a1) → ((((60 : Int32) ≤ a1) → (Q I false)) ∧ ((¬ (60 : Int32) ≤ a1) → (Q I true))))))) : RZ G Y_X3_hasItem [.ref T, .int a1] I Q := by
  refine ret_of (show plainName RX3 = true by decide) (Nat.le_of_ble_eq_true rfl) ?_
  show Go G Y_X3_hasItem 0 [(0, .ref T), (1, .int a1)] [] SH I 0 0 _
  refine go_iload_n dX3_hasItem_0 rfl 1 rfl ?_
  refine go_if_lt (tgt := 22) dX3_hasItem_1 (by decide) (fun c1 => ?_) (fun c1 => ?_)
  · have h := h.1 c1
    refine go_iconst dX3_hasItem_22 (v := (0 : Int32)) (by decide) ?_
    exact go_zret dX3_hasItem_23 rfl rfl rfl (by decide) ⟨rfl, false, rfl, h⟩
  · have h := h.2 c1
    refine go_iload_n dX3_hasItem_4 rfl 1 rfl ?_
    refine go_aload_n dX3_hasItem_5 rfl 0 rfl ?_
    refine go_getI dX3_hasItem_6 (she_sh hT) (SH_lt (she_sh hT)) f_X3_23 ⟨Nat.le_of_ble_eq_true rfl, Nat.le_of_ble_eq_true rfl, rfl⟩ ?_
    refine go_icmp_ge (tgt := 22) dX3_hasItem_9 (by decide) (fun c2 => ?_) (fun c2 => ?_)
    · have h := h.1 c2
      refine go_iconst dX3_hasItem_22 (v := (0 : Int32)) (by decide) ?_
      exact go_zret dX3_hasItem_23 rfl rfl rfl (by decide) ⟨rfl, false, rfl, h⟩
    · have h := h.2 c2
      refine go_iload_n dX3_hasItem_12 rfl 1 rfl ?_
      refine go_bipush dX3_hasItem_13 (v := (60 : Int32)) (by decide) ?_
      refine go_icmp_ge (tgt := 22) dX3_hasItem_15 (by decide) (fun c3 => ?_) (fun c3 => ?_)
      · have h := h.1 c3
        refine go_iconst dX3_hasItem_22 (v := (0 : Int32)) (by decide) ?_
        exact go_zret dX3_hasItem_23 rfl rfl rfl (by decide) ⟨rfl, false, rfl, h⟩
      · have h := h.2 c3
        refine go_iconst dX3_hasItem_18 (v := (1 : Int32)) (by decide) ?_
        refine go_goto (tgt := 23) dX3_hasItem_19 (by decide) ?_
        exact go_zret dX3_hasItem_23 rfl rfl rfl (by decide) ⟨rfl, true, rfl, h⟩
set_option maxRecDepth 100000 in
set_option maxHeartbeats 4000000 in
theorem v_X3_hasSpan {G : CX} {T : Nat} {a1 : Int32} {a2 : Int32} (hT : isShe T) {I : HP} {Q : HP → Bool → Prop} (h : ((a1 < 0) → (Q I false)) ∧ ((¬ a1 < 0) → (((a2 < 0) → (Q I false)) ∧ ((¬ a2 < 0) → ((((I T 3) < a1) → (Q I false)) ∧ ((¬ (I T 3) < a1) → (((((I T 3) - a1) < a2) → (Q I false)) ∧ ((¬ ((I T 3) - a1) < a2) → (Q I true))))))))) : RZ G Y_X3_hasSpan [.ref T, .int a1, .int a2] I Q := by
  refine ret_of (show plainName RX3 = true by decide) (Nat.le_of_ble_eq_true rfl) ?_
  show Go G Y_X3_hasSpan 0 [(0, .ref T), (1, .int a1), (2, .int a2)] [] SH I 0 0 _
  refine go_iload_n dX3_hasSpan_0 rfl 1 rfl ?_
  refine go_if_lt (tgt := 30) dX3_hasSpan_1 (by decide) (fun c1 => ?_) (fun c1 => ?_)
  · have h := h.1 c1
    refine go_iconst dX3_hasSpan_30 (v := (0 : Int32)) (by decide) ?_
    exact go_zret dX3_hasSpan_31 rfl rfl rfl (by decide) ⟨rfl, false, rfl, h⟩
  · have h := h.2 c1
    refine go_iload_n dX3_hasSpan_4 rfl 2 rfl ?_
    refine go_if_lt (tgt := 30) dX3_hasSpan_5 (by decide) (fun c2 => ?_) (fun c2 => ?_)
    · have h := h.1 c2
      refine go_iconst dX3_hasSpan_30 (v := (0 : Int32)) (by decide) ?_
      exact go_zret dX3_hasSpan_31 rfl rfl rfl (by decide) ⟨rfl, false, rfl, h⟩
    · have h := h.2 c2
      refine go_iload_n dX3_hasSpan_8 rfl 1 rfl ?_
      refine go_aload_n dX3_hasSpan_9 rfl 0 rfl ?_
      refine go_getI dX3_hasSpan_10 (she_sh hT) (SH_lt (she_sh hT)) f_X3_23 ⟨Nat.le_of_ble_eq_true rfl, Nat.le_of_ble_eq_true rfl, rfl⟩ ?_
      refine go_icmp_gt (tgt := 30) dX3_hasSpan_13 (by decide) (fun c3 => ?_) (fun c3 => ?_)
      · have h := h.1 c3
        refine go_iconst dX3_hasSpan_30 (v := (0 : Int32)) (by decide) ?_
        exact go_zret dX3_hasSpan_31 rfl rfl rfl (by decide) ⟨rfl, false, rfl, h⟩
      · have h := h.2 c3
        refine go_iload_n dX3_hasSpan_16 rfl 2 rfl ?_
        refine go_aload_n dX3_hasSpan_17 rfl 0 rfl ?_
        refine go_getI dX3_hasSpan_18 (she_sh hT) (SH_lt (she_sh hT)) f_X3_23 ⟨Nat.le_of_ble_eq_true rfl, Nat.le_of_ble_eq_true rfl, rfl⟩ ?_
        refine go_iload_n dX3_hasSpan_21 rfl 1 rfl ?_
        refine go_isub dX3_hasSpan_22 ?_
        refine go_icmp_gt (tgt := 30) dX3_hasSpan_23 (by decide) (fun c4 => ?_) (fun c4 => ?_)
        · have h := h.1 c4
          refine go_iconst dX3_hasSpan_30 (v := (0 : Int32)) (by decide) ?_
          exact go_zret dX3_hasSpan_31 rfl rfl rfl (by decide) ⟨rfl, false, rfl, h⟩
        · have h := h.2 c4
          refine go_iconst dX3_hasSpan_26 (v := (1 : Int32)) (by decide) ?_
          refine go_goto (tgt := 31) dX3_hasSpan_27 (by decide) ?_
          exact go_zret dX3_hasSpan_31 rfl rfl rfl (by decide) ⟨rfl, true, rfl, h⟩
set_option maxRecDepth 100000 in
set_option maxHeartbeats 4000000 in
theorem v_X3_item {G : CX} {T : Nat} {a1 : Int32} (hT : isShe T) {I : HP} {Q : HP → Int32 → Prop} (h : RZ G Y_X3_hasItem [.ref T, .int a1] I (fun I1 r2 => (((bI r2) = 0) → (Q I1 (0 : Int32))) ∧ ((¬ (bI r2) = 0) → ((vp_in a1 60) ∧ (Q I1 (I1 (T + 1) (nn a1))))))) : RI G Y_X3_item [.ref T, .int a1] I Q := by
  refine ret_of (show plainName RX3 = true by decide) (Nat.le_of_ble_eq_true rfl) ?_
  show Go G Y_X3_item 0 [(0, .ref T), (1, .int a1)] [] SH I 0 0 _
  refine go_aload_n dX3_item_0 rfl 0 rfl ?_
  refine go_iload_n dX3_item_1 rfl 1 rfl ?_
  refine go_vcall (Z := Y_X3_hasItem) (As := [.int a1]) (S := []) dX3_item_2 ok_X3_hasItem l_X3_26 (by decide) (she_sh hT) (SH_lt (she_sh hT)) (Nat.le_of_ble_eq_true rfl) rfl rfl rfl (Nat.le_of_ble_eq_true rfl) h (fun _ I1 _ hq => ?_)
  obtain ⟨rfl, r2, rfl, h⟩ := hq
  show Go G Y_X3_item 5 [(0, .ref T), (1, .int a1)] [.int (bI r2)] SH I1 0 0 _
  refine go_if_eq (tgt := 17) dX3_item_5 (by decide) (fun c3 => ?_) (fun c3 => ?_)
  · have h := h.1 c3
    refine go_iconst dX3_item_17 (v := (0 : Int32)) (by decide) ?_
    exact go_iret dX3_item_18 rfl rfl (by decide) ⟨rfl, _, rfl, h⟩
  · have h := h.2 c3
    refine go_aload_n dX3_item_8 rfl 0 rfl ?_
    refine go_getR dX3_item_9 (she_sh hT) (SH_lt (she_sh hT)) f_X3_9 ⟨Nat.le_of_ble_eq_true rfl, Nat.le_of_ble_eq_true rfl, rfl⟩ rfl ?_
    refine go_iload_n dX3_item_12 rfl 1 rfl ?_
    have hb4 := h.1
    have h := h.2
    refine go_iald dX3_item_13 (she_ar hT) (SH_lt (she_ar hT)) hb4 rfl ?_
    refine go_goto (tgt := 18) dX3_item_14 (by decide) ?_
    exact go_iret dX3_item_18 rfl rfl (by decide) ⟨rfl, _, rfl, h⟩
set_option maxRecDepth 100000 in
set_option maxHeartbeats 4000000 in
theorem v_X3_store {G : CX} {T : Nat} {a1 : Int32} {a2 : Int32} (hT : isShe T) {I : HP} {Q : HP → Prop} (h : RZ G Y_X3_hasItem [.ref T, .int a1] I (fun I1 r2 => (((bI r2) = 0) → (Q I1)) ∧ ((¬ (bI r2) = 0) → (((¬ (I1 T 2) = 0) → (((¬ (I1 T 2) = (1 : Int32)) → ((vp_in a1 60) ∧ (Q (st I1 (T + 1) (nn a1) a2)))) ∧ (((I1 T 2) = (1 : Int32)) → ((vp_in a1 60) ∧ (Q (st I1 (T + 1) (nn a1) (a2.toInt16.toInt32))))))) ∧ (((I1 T 2) = 0) → ((vp_in a1 60) ∧ (Q (st I1 (T + 1) (nn a1) (a2.toInt8.toInt32))))))))) : RV G Y_X3_store [.ref T, .int a1, .int a2] I Q := by
  refine ret_of (show plainName RX3 = true by decide) (Nat.le_of_ble_eq_true rfl) ?_
  show Go G Y_X3_store 0 [(0, .ref T), (1, .int a1), (2, .int a2)] [] SH I 0 0 _
  refine go_aload_n dX3_store_0 rfl 0 rfl ?_
  refine go_iload_n dX3_store_1 rfl 1 rfl ?_
  refine go_vcall (Z := Y_X3_hasItem) (As := [.int a1]) (S := []) dX3_store_2 ok_X3_hasItem l_X3_26 (by decide) (she_sh hT) (SH_lt (she_sh hT)) (Nat.le_of_ble_eq_true rfl) rfl rfl rfl (Nat.le_of_ble_eq_true rfl) h (fun _ I1 _ hq => ?_)
  obtain ⟨rfl, r2, rfl, h⟩ := hq
  show Go G Y_X3_store 5 [(0, .ref T), (1, .int a1), (2, .int a2)] [.int (bI r2)] SH I1 0 0 _
  refine go_if_eq (tgt := 40) dX3_store_5 (by decide) (fun c3 => ?_) (fun c3 => ?_)
  · have h := h.1 c3
    exact go_vret dX3_store_40 rfl rfl (by decide) ⟨rfl, rfl, h⟩
  · have h := h.2 c3
    refine go_aload_n dX3_store_8 rfl 0 rfl ?_
    refine go_getR dX3_store_9 (she_sh hT) (SH_lt (she_sh hT)) f_X3_9 ⟨Nat.le_of_ble_eq_true rfl, Nat.le_of_ble_eq_true rfl, rfl⟩ rfl ?_
    refine go_iload_n dX3_store_12 rfl 1 rfl ?_
    refine go_aload_n dX3_store_13 rfl 0 rfl ?_
    refine go_getI dX3_store_14 (she_sh hT) (SH_lt (she_sh hT)) f_X3_19 ⟨Nat.le_of_ble_eq_true rfl, Nat.le_of_ble_eq_true rfl, rfl⟩ ?_
    refine go_if_ne (tgt := 25) dX3_store_17 (by decide) (fun c4 => ?_) (fun c4 => ?_)
    · have h := h.1 c4
      refine go_aload_n dX3_store_25 rfl 0 rfl ?_
      refine go_getI dX3_store_26 (she_sh hT) (SH_lt (she_sh hT)) f_X3_19 ⟨Nat.le_of_ble_eq_true rfl, Nat.le_of_ble_eq_true rfl, rfl⟩ ?_
      refine go_iconst dX3_store_29 (v := (1 : Int32)) (by decide) ?_
      refine go_icmp_ne (tgt := 38) dX3_store_30 (by decide) (fun c5 => ?_) (fun c5 => ?_)
      · have h := h.1 c5
        refine go_iload_n dX3_store_38 rfl 2 rfl ?_
        have hb6 := h.1
        have h := h.2
        refine go_iast dX3_store_39 (she_ar hT) (SH_lt (she_ar hT)) hb6 (j := (nn a1)) rfl ?_
        exact go_vret dX3_store_40 rfl rfl (by decide) ⟨rfl, rfl, h⟩
      · have h := h.2 c5
        refine go_iload_n dX3_store_33 rfl 2 rfl ?_
        refine go_i2s dX3_store_34 ?_
        refine go_goto (tgt := 39) dX3_store_35 (by decide) ?_
        have hb7 := h.1
        have h := h.2
        refine go_iast dX3_store_39 (she_ar hT) (SH_lt (she_ar hT)) hb7 (j := (nn a1)) rfl ?_
        exact go_vret dX3_store_40 rfl rfl (by decide) ⟨rfl, rfl, h⟩
    · have h := h.2 c4
      refine go_iload_n dX3_store_20 rfl 2 rfl ?_
      refine go_i2b dX3_store_21 ?_
      refine go_goto (tgt := 39) dX3_store_22 (by decide) ?_
      have hb8 := h.1
      have h := h.2
      refine go_iast dX3_store_39 (she_ar hT) (SH_lt (she_ar hT)) hb8 (j := (nn a1)) rfl ?_
      exact go_vret dX3_store_40 rfl rfl (by decide) ⟨rfl, rfl, h⟩
set_option maxRecDepth 100000 in
set_option maxHeartbeats 4000000 in
theorem v_X4_mayBe {G : CX} {a1 : Int32} {a2 : Int32}  {I : HP} {Q : HP → Bool → Prop} (h : ((a1 < 0) → (Q I false)) ∧ ((¬ a1 < 0) → ((((299 : Int32) < a1) → (Q I false)) ∧ ((¬ (299 : Int32) < a1) → (((a2 < (-1 : Int32)) → (Q I false)) ∧ ((¬ a2 < (-1 : Int32)) → ((((12 : Int32) ≤ a2) → (Q I false)) ∧ ((¬ (12 : Int32) ≤ a2) → (Q I true))))))))) : RZ G Y_X4_mayBe [.int a1, .int a2] I Q := by
  refine ret_of (show plainName RX4 = true by decide) (Nat.le_of_ble_eq_true rfl) ?_
  show Go G Y_X4_mayBe 0 [(0, .int a1), (1, .int a2)] [] SH I 0 0 _
  refine go_iload_n dX4_mayBe_0 rfl 0 rfl ?_
  refine go_if_lt (tgt := 26) dX4_mayBe_1 (by decide) (fun c1 => ?_) (fun c1 => ?_)
  · have h := h.1 c1
    refine go_iconst dX4_mayBe_26 (v := (0 : Int32)) (by decide) ?_
    exact go_zret dX4_mayBe_27 rfl rfl rfl (by decide) ⟨rfl, false, rfl, h⟩
  · have h := h.2 c1
    refine go_iload_n dX4_mayBe_4 rfl 0 rfl ?_
    refine go_sipush dX4_mayBe_5 (v := (299 : Int32)) (by decide) ?_
    refine go_icmp_gt (tgt := 26) dX4_mayBe_8 (by decide) (fun c2 => ?_) (fun c2 => ?_)
    · have h := h.1 c2
      refine go_iconst dX4_mayBe_26 (v := (0 : Int32)) (by decide) ?_
      exact go_zret dX4_mayBe_27 rfl rfl rfl (by decide) ⟨rfl, false, rfl, h⟩
    · have h := h.2 c2
      refine go_iload_n dX4_mayBe_11 rfl 1 rfl ?_
      refine go_iconst dX4_mayBe_12 (v := (-1 : Int32)) (by decide) ?_
      refine go_icmp_lt (tgt := 26) dX4_mayBe_13 (by decide) (fun c3 => ?_) (fun c3 => ?_)
      · have h := h.1 c3
        refine go_iconst dX4_mayBe_26 (v := (0 : Int32)) (by decide) ?_
        exact go_zret dX4_mayBe_27 rfl rfl rfl (by decide) ⟨rfl, false, rfl, h⟩
      · have h := h.2 c3
        refine go_iload_n dX4_mayBe_16 rfl 1 rfl ?_
        refine go_bipush dX4_mayBe_17 (v := (12 : Int32)) (by decide) ?_
        refine go_icmp_ge (tgt := 26) dX4_mayBe_19 (by decide) (fun c4 => ?_) (fun c4 => ?_)
        · have h := h.1 c4
          refine go_iconst dX4_mayBe_26 (v := (0 : Int32)) (by decide) ?_
          exact go_zret dX4_mayBe_27 rfl rfl rfl (by decide) ⟨rfl, false, rfl, h⟩
        · have h := h.2 c4
          refine go_iconst dX4_mayBe_22 (v := (1 : Int32)) (by decide) ?_
          refine go_goto (tgt := 27) dX4_mayBe_23 (by decide) ?_
          exact go_zret dX4_mayBe_27 rfl rfl rfl (by decide) ⟨rfl, true, rfl, h⟩
set_option maxRecDepth 100000 in
set_option maxHeartbeats 4000000 in
theorem v_X4_isFull {G : CX}   {I : HP} {Q : HP → Bool → Prop} (h : (((I 46 2) < (8 : Int32)) → (Q I false)) ∧ ((¬ (I 46 2) < (8 : Int32)) → (Q I true))) : RZ G Y_X4_isFull [.ref 46] I Q := by
  refine ret_of (show plainName RX4 = true by decide) (Nat.le_of_ble_eq_true rfl) ?_
  show Go G Y_X4_isFull 0 [(0, .ref 46)] [] SH I 0 0 _
  refine go_aload_n dX4_isFull_0 rfl 0 rfl ?_
  refine go_getI dX4_isFull_1 sh_46 (by decide) f_X4_18 ⟨Nat.le_of_ble_eq_true rfl, Nat.le_of_ble_eq_true rfl, rfl⟩ ?_
  refine go_bipush dX4_isFull_4 (v := (8 : Int32)) (by decide) ?_
  refine go_icmp_lt (tgt := 13) dX4_isFull_6 (by decide) (fun c1 => ?_) (fun c1 => ?_)
  · have h := h.1 c1
    refine go_iconst dX4_isFull_13 (v := (0 : Int32)) (by decide) ?_
    exact go_zret dX4_isFull_14 rfl rfl rfl (by decide) ⟨rfl, false, rfl, h⟩
  · have h := h.2 c1
    refine go_iconst dX4_isFull_9 (v := (1 : Int32)) (by decide) ?_
    refine go_goto (tgt := 14) dX4_isFull_10 (by decide) ?_
    exact go_zret dX4_isFull_14 rfl rfl rfl (by decide) ⟨rfl, true, rfl, h⟩
set_option maxRecDepth 100000 in
set_option maxHeartbeats 4000000 in
theorem v_X4_add {G : CX} {a1 : Int32} {a2 : Int32}  {I : HP} {Q : HP → Prop} (h : RZ G Y_X4_isFull [.ref 46] I (fun I1 r2 => ((¬ (bI r2) = 0) → (Q I1)) ∧ (((bI r2) = 0) → ((vp_in (I1 46 2) 8) ∧ ((vp_in ((st I1 47 (nn (I1 46 2)) a1) 46 2) 8) ∧ (∀ I6 : HP, I6 = (st (st (st I1 47 (nn (I1 46 2)) a1) 48 (nn ((st I1 47 (nn (I1 46 2)) a1) 46 2)) a2) 46 2 (((st (st I1 47 (nn (I1 46 2)) a1) 48 (nn ((st I1 47 (nn (I1 46 2)) a1) 46 2)) a2) 46 2) + (1 : Int32))) → Q I6)))))) : RV G Y_X4_add [.ref 46, .int a1, .int a2] I Q := by
  refine ret_of (show plainName RX4 = true by decide) (Nat.le_of_ble_eq_true rfl) ?_
  show Go G Y_X4_add 0 [(0, .ref 46), (1, .int a1), (2, .int a2)] [] SH I 0 0 _
  refine go_aload_n dX4_add_0 rfl 0 rfl ?_
  refine go_vcall (Z := Y_X4_isFull) (As := []) (S := []) dX4_add_1 ok_X4_isFull l_X4_22 (by decide) sh_46 (by decide) (Nat.le_of_ble_eq_true rfl) rfl rfl rfl (Nat.le_of_ble_eq_true rfl) h (fun _ I1 _ hq => ?_)
  obtain ⟨rfl, r2, rfl, h⟩ := hq
  show Go G Y_X4_add 4 [(0, .ref 46), (1, .int a1), (2, .int a2)] [.int (bI r2)] SH I1 0 0 _
  refine go_if_ne (tgt := 37) dX4_add_4 (by decide) (fun c3 => ?_) (fun c3 => ?_)
  · have h := h.1 c3
    exact go_vret dX4_add_37 rfl rfl (by decide) ⟨rfl, rfl, h⟩
  · have h := h.2 c3
    refine go_aload_n dX4_add_7 rfl 0 rfl ?_
    refine go_getR dX4_add_8 sh_46 (by decide) f_X4_11 ⟨Nat.le_of_ble_eq_true rfl, Nat.le_of_ble_eq_true rfl, rfl⟩ rfl ?_
    refine go_aload_n dX4_add_11 rfl 0 rfl ?_
    refine go_getI dX4_add_12 sh_46 (by decide) f_X4_18 ⟨Nat.le_of_ble_eq_true rfl, Nat.le_of_ble_eq_true rfl, rfl⟩ ?_
    refine go_iload_n dX4_add_15 rfl 1 rfl ?_
    have hb4 := h.1
    have h := h.2
    refine go_iast dX4_add_16 sh_47 (by decide) hb4 (j := (nn (I1 46 2))) rfl ?_
    refine go_aload_n dX4_add_17 rfl 0 rfl ?_
    refine go_getR dX4_add_18 sh_46 (by decide) f_X4_15 ⟨Nat.le_of_ble_eq_true rfl, Nat.le_of_ble_eq_true rfl, rfl⟩ rfl ?_
    refine go_aload_n dX4_add_21 rfl 0 rfl ?_
    refine go_getI dX4_add_22 sh_46 (by decide) f_X4_18 ⟨Nat.le_of_ble_eq_true rfl, Nat.le_of_ble_eq_true rfl, rfl⟩ ?_
    refine go_iload_n dX4_add_25 rfl 2 rfl ?_
    have hb5 := h.1
    have h := h.2
    refine go_iast dX4_add_26 sh_48 (by decide) hb5 (j := (nn ((st I1 47 (nn (I1 46 2)) a1) 46 2))) rfl ?_
    refine go_aload_n dX4_add_27 rfl 0 rfl ?_
    refine go_dup dX4_add_28 rfl ?_
    refine go_getI dX4_add_29 sh_46 (by decide) f_X4_18 ⟨Nat.le_of_ble_eq_true rfl, Nat.le_of_ble_eq_true rfl, rfl⟩ ?_
    refine go_iconst dX4_add_32 (v := (1 : Int32)) (by decide) ?_
    refine go_iadd dX4_add_33 ?_
    refine go_putT dX4_add_34 sh_46 (by decide) p_X4_18 ⟨Nat.le_of_ble_eq_true rfl, Nat.le_of_ble_eq_true rfl, rfl⟩ rfl rfl ?_
    refine go_nm (fun I6 eI6 => ?_)
    have h := h I6 eI6
    exact go_vret dX4_add_37 rfl rfl (by decide) ⟨rfl, rfl, h⟩
set_option maxRecDepth 100000 in
set_option maxHeartbeats 4000000 in
theorem v_X4_fit {G : CX} {b1 : Nat} (hb1 : isTel b1) {I : HP} {Q : HP → Bool → Prop} (h : GZ G Y_X4_fit 2 [(0, .ref 46), (1, .ref b1), (2, .int (0 : Int32))] I Q) : RZ G Y_X4_fit [.ref 46, .ref b1] I Q := by
  refine ret_of (show plainName RX4 = true by decide) (Nat.le_of_ble_eq_true rfl) ?_
  show Go G Y_X4_fit 0 [(0, .ref 46), (1, .ref b1)] [] SH I 0 0 _
  refine go_iconst dX4_fit_0 (v := (0 : Int32)) (by decide) ?_
  refine go_istore_n dX4_fit_1 rfl (Nat.le_of_ble_eq_true rfl) (L2 := [(2, .int (0 : Int32)), (0, .ref 46), (1, .ref b1)]) rfl ?_
  exact go_loc [(0, .ref 46), (1, .ref b1), (2, .int (0 : Int32))] [1, 2, 0] rfl h
set_option maxRecDepth 100000 in
set_option maxHeartbeats 4000000 in
theorem v_X4_fit_2 {G : CX} {b1 : Nat} {x2 : Int32} (hb1 : isTel b1) {I : HP} {Q : HP → Bool → Prop} (h : (((I 46 2) ≤ x2) → (Q I true)) ∧ ((¬ (I 46 2) ≤ x2) → ((((8 : Int32) ≤ x2) → (Q I true)) ∧ ((¬ (8 : Int32) ≤ x2) → ((vp_in x2 8) ∧ (RI G Y_X5_madeIn [.ref b1, .int (I 47 (nn x2))] I (fun I4 r5 => ((r5 = (I4 48 (nn x2))) → (GZ G Y_X4_fit 2 [(0, .ref 46), (1, .ref b1), (2, .int (x2 + 1))] I4 Q)) ∧ ((¬ r5 = (I4 48 (nn x2))) → (Q I4 false))))))))) : GZ G Y_X4_fit 2 [(0, .ref 46), (1, .ref b1), (2, .int x2)] I Q := by
  show Go G Y_X4_fit 2 [(0, .ref 46), (1, .ref b1), (2, .int x2)] [] SH I 0 0 _
  refine go_iload_n dX4_fit_2 rfl 2 rfl ?_
  refine go_aload_n dX4_fit_3 rfl 0 rfl ?_
  refine go_getI dX4_fit_4 sh_46 (by decide) f_X4_18 ⟨Nat.le_of_ble_eq_true rfl, Nat.le_of_ble_eq_true rfl, rfl⟩ ?_
  refine go_icmp_ge (tgt := 43) dX4_fit_7 (by decide) (fun c1 => ?_) (fun c1 => ?_)
  · have h := h.1 c1
    refine go_iconst dX4_fit_43 (v := (1 : Int32)) (by decide) ?_
    exact go_zret dX4_fit_44 rfl rfl rfl (by decide) ⟨rfl, true, rfl, h⟩
  · have h := h.2 c1
    refine go_iload_n dX4_fit_10 rfl 2 rfl ?_
    refine go_bipush dX4_fit_11 (v := (8 : Int32)) (by decide) ?_
    refine go_icmp_ge (tgt := 43) dX4_fit_13 (by decide) (fun c2 => ?_) (fun c2 => ?_)
    · have h := h.1 c2
      refine go_iconst dX4_fit_43 (v := (1 : Int32)) (by decide) ?_
      exact go_zret dX4_fit_44 rfl rfl rfl (by decide) ⟨rfl, true, rfl, h⟩
    · have h := h.2 c2
      refine go_aload_n dX4_fit_16 rfl 1 rfl ?_
      refine go_aload_n dX4_fit_17 rfl 0 rfl ?_
      refine go_getR dX4_fit_18 sh_46 (by decide) f_X4_11 ⟨Nat.le_of_ble_eq_true rfl, Nat.le_of_ble_eq_true rfl, rfl⟩ rfl ?_
      refine go_iload_n dX4_fit_21 rfl 2 rfl ?_
      have hb3 := h.1
      have h := h.2
      refine go_iald dX4_fit_22 sh_47 (by decide) hb3 rfl ?_
      refine go_vcall (Z := Y_X5_madeIn) (As := [.int (I 47 (nn x2))]) (S := []) dX4_fit_23 ok_X5_madeIn l_X4_26 (by decide) (tel_sh hb1) (SH_lt (tel_sh hb1)) (Nat.le_of_ble_eq_true rfl) rfl rfl rfl (Nat.le_of_ble_eq_true rfl) h (fun _ I4 _ hq => ?_)
      obtain ⟨rfl, r5, rfl, h⟩ := hq
      show Go G Y_X4_fit 26 [(0, .ref 46), (1, .ref b1), (2, .int x2)] [.int r5] SH I4 0 0 _
      refine go_aload_n dX4_fit_26 rfl 0 rfl ?_
      refine go_getR dX4_fit_27 sh_46 (by decide) f_X4_15 ⟨Nat.le_of_ble_eq_true rfl, Nat.le_of_ble_eq_true rfl, rfl⟩ rfl ?_
      refine go_iload_n dX4_fit_30 rfl 2 rfl ?_
      refine go_iald dX4_fit_31 sh_48 (by decide) hb3 rfl ?_
      refine go_icmp_eq (tgt := 37) dX4_fit_32 (by decide) (fun c6 => ?_) (fun c6 => ?_)
      · have h := h.1 c6
        refine go_iinc dX4_fit_37 2 rfl (v := (x2 + 1)) rfl (Nat.le_of_ble_eq_true rfl) (L2 := [(2, .int (x2 + 1)), (0, .ref 46), (1, .ref b1)]) rfl ?_
        refine go_goto (tgt := 2) dX4_fit_40 (by decide) ?_
        exact go_loc [(0, .ref 46), (1, .ref b1), (2, .int (x2 + 1))] [1, 2, 0] rfl h
      · have h := h.2 c6
        refine go_iconst dX4_fit_35 (v := (0 : Int32)) (by decide) ?_
        exact go_zret dX4_fit_36 rfl rfl rfl (by decide) ⟨rfl, false, rfl, h⟩
set_option maxRecDepth 100000 in
set_option maxHeartbeats 4000000 in
theorem v_X6_beStart {G : CX} {T : Nat} {a1 : Int32} (hT : isTur T) {I : HP} {Q : HP → Prop} (h : RV G Y_X6_comeToNothing [.ref T] I (fun I1 => Q (st (st I1 T 7 (0 : Int32)) T 13 a1))) : RV G Y_X6_beStart [.ref T, .int a1] I Q := by
  refine ret_of (show plainName RX6 = true by decide) (Nat.le_of_ble_eq_true rfl) ?_
  show Go G Y_X6_beStart 0 [(0, .ref T), (1, .int a1)] [] SH I 0 0 _
  refine go_aload_n dX6_beStart_0 rfl 0 rfl ?_
  refine go_vcall (Z := Y_X6_comeToNothing) (As := []) (S := []) dX6_beStart_1 ok_X6_comeToNothing l_X6_9 (by decide) hT (SH_lt hT) (Nat.le_of_ble_eq_true rfl) rfl rfl rfl (Nat.le_of_ble_eq_true rfl) h (fun _ I1 _ hq => ?_)
  obtain ⟨rfl, rfl, h⟩ := hq
  show Go G Y_X6_beStart 4 [(0, .ref T), (1, .int a1)] [] SH I1 0 0 _
  refine go_aload_n dX6_beStart_4 rfl 0 rfl ?_
  refine go_iconst dX6_beStart_5 (v := (0 : Int32)) (by decide) ?_
  refine go_putT dX6_beStart_6 hT (SH_lt hT) p_X6_14 ⟨Nat.le_of_ble_eq_true rfl, Nat.le_of_ble_eq_true rfl, rfl⟩ rfl rfl ?_
  refine go_aload_n dX6_beStart_9 rfl 0 rfl ?_
  refine go_iload_n dX6_beStart_10 rfl 1 rfl ?_
  refine go_putT dX6_beStart_11 hT (SH_lt hT) p_X6_18 ⟨Nat.le_of_ble_eq_true rfl, Nat.le_of_ble_eq_true rfl, rfl⟩ rfl rfl ?_
  exact go_vret dX6_beStart_14 rfl rfl (by decide) ⟨rfl, rfl, h⟩
set_option maxRecDepth 100000 in
set_option maxHeartbeats 4000000 in
theorem v_X6_follow {G : CX} {T : Nat} {b1 : Nat} (hT : isTur T) (hb1 : isTur b1) {I : HP} {Q : HP → Prop} (h : RV G Y_X6_comeToNothing [.ref T] I (fun I1 => ∀ I2 : HP, I2 = (st (st (st I1 T 9 ((I1 b1 9) + (I1 T 1))) T 13 ((st I1 T 9 ((I1 b1 9) + (I1 T 1))) b1 13)) T 10 ((st (st I1 T 9 ((I1 b1 9) + (I1 T 1))) T 13 ((st I1 T 9 ((I1 b1 9) + (I1 T 1))) b1 13)) b1 10)) → Q (st (st I2 T 11 (I2 b1 11)) T 12 ((st I2 T 11 (I2 b1 11)) b1 12)))) : RV G Y_X6_follow [.ref T, .ref b1] I Q := by
  refine ret_of (show plainName RX6 = true by decide) (Nat.le_of_ble_eq_true rfl) ?_
  show Go G Y_X6_follow 0 [(0, .ref T), (1, .ref b1)] [] SH I 0 0 _
  refine go_aload_n dX6_follow_0 rfl 0 rfl ?_
  refine go_vcall (Z := Y_X6_comeToNothing) (As := []) (S := []) dX6_follow_1 ok_X6_comeToNothing l_X6_9 (by decide) hT (SH_lt hT) (Nat.le_of_ble_eq_true rfl) rfl rfl rfl (Nat.le_of_ble_eq_true rfl) h (fun _ I1 _ hq => ?_)
  obtain ⟨rfl, rfl, h⟩ := hq
  show Go G Y_X6_follow 4 [(0, .ref T), (1, .ref b1)] [] SH I1 0 0 _
  refine go_aload_n dX6_follow_4 rfl 0 rfl ?_
  refine go_aload_n dX6_follow_5 rfl 1 rfl ?_
  refine go_getI dX6_follow_6 hb1 (SH_lt hb1) f_X6_21 ⟨Nat.le_of_ble_eq_true rfl, Nat.le_of_ble_eq_true rfl, rfl⟩ ?_
  refine go_aload_n dX6_follow_9 rfl 0 rfl ?_
  refine go_getI dX6_follow_10 hT (SH_lt hT) f_X6_24 ⟨Nat.le_of_ble_eq_true rfl, Nat.le_of_ble_eq_true rfl, rfl⟩ ?_
  refine go_iadd dX6_follow_13 ?_
  refine go_putT dX6_follow_14 hT (SH_lt hT) p_X6_21 ⟨Nat.le_of_ble_eq_true rfl, Nat.le_of_ble_eq_true rfl, rfl⟩ rfl rfl ?_
  refine go_aload_n dX6_follow_17 rfl 0 rfl ?_
  refine go_aload_n dX6_follow_18 rfl 1 rfl ?_
  refine go_getI dX6_follow_19 hb1 (SH_lt hb1) f_X6_18 ⟨Nat.le_of_ble_eq_true rfl, Nat.le_of_ble_eq_true rfl, rfl⟩ ?_
  refine go_putT dX6_follow_22 hT (SH_lt hT) p_X6_18 ⟨Nat.le_of_ble_eq_true rfl, Nat.le_of_ble_eq_true rfl, rfl⟩ rfl rfl ?_
  refine go_aload_n dX6_follow_25 rfl 0 rfl ?_
  refine go_aload_n dX6_follow_26 rfl 1 rfl ?_
  refine go_getI dX6_follow_27 hb1 (SH_lt hb1) f_X6_27 ⟨Nat.le_of_ble_eq_true rfl, Nat.le_of_ble_eq_true rfl, rfl⟩ ?_
  refine go_putT dX6_follow_30 hT (SH_lt hT) p_X6_27 ⟨Nat.le_of_ble_eq_true rfl, Nat.le_of_ble_eq_true rfl, rfl⟩ rfl rfl ?_
  refine go_nm (fun I2 eI2 => ?_)
  have h := h I2 eI2
  refine go_aload_n dX6_follow_33 rfl 0 rfl ?_
  refine go_aload_n dX6_follow_34 rfl 1 rfl ?_
  refine go_getI dX6_follow_35 hb1 (SH_lt hb1) f_X6_30 ⟨Nat.le_of_ble_eq_true rfl, Nat.le_of_ble_eq_true rfl, rfl⟩ ?_
  refine go_putT dX6_follow_38 hT (SH_lt hT) p_X6_30 ⟨Nat.le_of_ble_eq_true rfl, Nat.le_of_ble_eq_true rfl, rfl⟩ rfl rfl ?_
  refine go_aload_n dX6_follow_41 rfl 0 rfl ?_
  refine go_aload_n dX6_follow_42 rfl 1 rfl ?_
  refine go_getI dX6_follow_43 hb1 (SH_lt hb1) f_X6_33 ⟨Nat.le_of_ble_eq_true rfl, Nat.le_of_ble_eq_true rfl, rfl⟩ ?_
  refine go_putT dX6_follow_46 hT (SH_lt hT) p_X6_33 ⟨Nat.le_of_ble_eq_true rfl, Nat.le_of_ble_eq_true rfl, rfl⟩ rfl rfl ?_
  exact go_vret dX6_follow_49 rfl rfl (by decide) ⟨rfl, rfl, h⟩
set_option maxRecDepth 100000 in
set_option maxHeartbeats 4000000 in
theorem v_X6_comeToNothing {G : CX} {T : Nat} (hT : isTur T) {I : HP} {Q : HP → Prop} (h : ∀ I1 : HP, I1 = (st (st (st (st (st I T 4 (-1 : Int32)) T 5 (-1 : Int32)) T 6 (-1 : Int32)) T 7 (-1 : Int32)) T 8 (-1 : Int32)) → Q I1) : RV G Y_X6_comeToNothing [.ref T] I Q := by
  refine ret_of (show plainName RX6 = true by decide) (Nat.le_of_ble_eq_true rfl) ?_
  show Go G Y_X6_comeToNothing 0 [(0, .ref T)] [] SH I 0 0 _
  refine go_aload_n dX6_comeToNothing_0 rfl 0 rfl ?_
  refine go_iconst dX6_comeToNothing_1 (v := (-1 : Int32)) (by decide) ?_
  refine go_putT dX6_comeToNothing_2 hT (SH_lt hT) p_X6_36 ⟨Nat.le_of_ble_eq_true rfl, Nat.le_of_ble_eq_true rfl, rfl⟩ rfl rfl ?_
  refine go_aload_n dX6_comeToNothing_5 rfl 0 rfl ?_
  refine go_iconst dX6_comeToNothing_6 (v := (-1 : Int32)) (by decide) ?_
  refine go_putT dX6_comeToNothing_7 hT (SH_lt hT) p_X6_39 ⟨Nat.le_of_ble_eq_true rfl, Nat.le_of_ble_eq_true rfl, rfl⟩ rfl rfl ?_
  refine go_aload_n dX6_comeToNothing_10 rfl 0 rfl ?_
  refine go_iconst dX6_comeToNothing_11 (v := (-1 : Int32)) (by decide) ?_
  refine go_putT dX6_comeToNothing_12 hT (SH_lt hT) p_X6_42 ⟨Nat.le_of_ble_eq_true rfl, Nat.le_of_ble_eq_true rfl, rfl⟩ rfl rfl ?_
  refine go_aload_n dX6_comeToNothing_15 rfl 0 rfl ?_
  refine go_iconst dX6_comeToNothing_16 (v := (-1 : Int32)) (by decide) ?_
  refine go_putT dX6_comeToNothing_17 hT (SH_lt hT) p_X6_14 ⟨Nat.le_of_ble_eq_true rfl, Nat.le_of_ble_eq_true rfl, rfl⟩ rfl rfl ?_
  refine go_aload_n dX6_comeToNothing_20 rfl 0 rfl ?_
  refine go_iconst dX6_comeToNothing_21 (v := (-1 : Int32)) (by decide) ?_
  refine go_putT dX6_comeToNothing_22 hT (SH_lt hT) p_X6_45 ⟨Nat.le_of_ble_eq_true rfl, Nat.le_of_ble_eq_true rfl, rfl⟩ rfl rfl ?_
  refine go_nm (fun I1 eI1 => ?_)
  have h := h I1 eI1
  exact go_vret dX6_comeToNothing_25 rfl rfl (by decide) ⟨rfl, rfl, h⟩
set_option maxRecDepth 100000 in
set_option maxHeartbeats 4000000 in
theorem v_X6_beSaid {G : CX} {T : Nat} {a1 : Int32} (hT : isTur T) {I : HP} {Q : HP → Prop} (h : ∀ I1 : HP, I1 = (st (st I T 8 (if (0 : Int32) < ((I T 9) - (I T 13)) then ((I T 9) - (I T 13)) else (0 : Int32))) T 10 (((st I T 8 (if (0 : Int32) < ((I T 9) - (I T 13)) then ((I T 9) - (I T 13)) else (0 : Int32))) T 10) + ((st I T 8 (if (0 : Int32) < ((I T 9) - (I T 13)) then ((I T 9) - (I T 13)) else (0 : Int32))) T 8))) → ∀ I2 : HP, I2 = (st (st (st I1 T 4 (a1 + (I1 T 8))) T 13 (((st I1 T 4 (a1 + (I1 T 8))) T 13) + ((st I1 T 4 (a1 + (I1 T 8))) T 8))) T 14 (((st (st I1 T 4 (a1 + (I1 T 8))) T 13 (((st I1 T 4 (a1 + (I1 T 8))) T 13) + ((st I1 T 4 (a1 + (I1 T 8))) T 8))) T 13) - ((st (st I1 T 4 (a1 + (I1 T 8))) T 13 (((st I1 T 4 (a1 + (I1 T 8))) T 13) + ((st I1 T 4 (a1 + (I1 T 8))) T 8))) T 9))) → ((¬ ((st I2 T 5 ((I2 T 4) + (I2 T 2))) T 0) = (2 : Int32)) → (∀ I4 : HP, I4 = (st (st I2 T 5 ((I2 T 4) + (I2 T 2))) T 6 (((st I2 T 5 ((I2 T 4) + (I2 T 2))) T 5) + ((st I2 T 5 ((I2 T 4) + (I2 T 2))) T 3))) → Q (st I4 T 13 ((I4 T 13) + (I4 T 3))))) ∧ ((((st I2 T 5 ((I2 T 4) + (I2 T 2))) T 0) = (2 : Int32)) → (∀ I5 : HP, I5 = (st (st I2 T 5 ((I2 T 4) + (I2 T 2))) T 13 (((st I2 T 5 ((I2 T 4) + (I2 T 2))) T 13) + ((st I2 T 5 ((I2 T 4) + (I2 T 2))) T 2))) → ∀ I6 : HP, I6 = (st (st I5 T 6 ((I5 T 5) + (I5 T 3))) T 13 (((st I5 T 6 ((I5 T 5) + (I5 T 3))) T 13) + ((st I5 T 6 ((I5 T 5) + (I5 T 3))) T 3))) → Q I6))) : RV G Y_X6_beSaid [.ref T, .int a1] I Q := by
  refine ret_of (show plainName RX6 = true by decide) (Nat.le_of_ble_eq_true rfl) ?_
  show Go G Y_X6_beSaid 0 [(0, .ref T), (1, .int a1)] [] SH I 0 0 _
  refine go_aload_n dX6_beSaid_0 rfl 0 rfl ?_
  refine go_iconst dX6_beSaid_1 (v := (0 : Int32)) (by decide) ?_
  refine go_aload_n dX6_beSaid_2 rfl 0 rfl ?_
  refine go_getI dX6_beSaid_3 hT (SH_lt hT) f_X6_21 ⟨Nat.le_of_ble_eq_true rfl, Nat.le_of_ble_eq_true rfl, rfl⟩ ?_
  refine go_aload_n dX6_beSaid_6 rfl 0 rfl ?_
  refine go_getI dX6_beSaid_7 hT (SH_lt hT) f_X6_18 ⟨Nat.le_of_ble_eq_true rfl, Nat.le_of_ble_eq_true rfl, rfl⟩ ?_
  refine go_isub dX6_beSaid_10 ?_
  refine go_max dX6_beSaid_11 ⟨l_X6_48, bt_max⟩ (by decide) (Nat.le_of_ble_eq_true rfl) ?_
  refine go_putT dX6_beSaid_14 hT (SH_lt hT) p_X6_45 ⟨Nat.le_of_ble_eq_true rfl, Nat.le_of_ble_eq_true rfl, rfl⟩ rfl rfl ?_
  refine go_aload_n dX6_beSaid_17 rfl 0 rfl ?_
  refine go_dup dX6_beSaid_18 rfl ?_
  refine go_getI dX6_beSaid_19 hT (SH_lt hT) f_X6_27 ⟨Nat.le_of_ble_eq_true rfl, Nat.le_of_ble_eq_true rfl, rfl⟩ ?_
  refine go_aload_n dX6_beSaid_22 rfl 0 rfl ?_
  refine go_getI dX6_beSaid_23 hT (SH_lt hT) f_X6_45 ⟨Nat.le_of_ble_eq_true rfl, Nat.le_of_ble_eq_true rfl, rfl⟩ ?_
  refine go_iadd dX6_beSaid_26 ?_
  refine go_putT dX6_beSaid_27 hT (SH_lt hT) p_X6_27 ⟨Nat.le_of_ble_eq_true rfl, Nat.le_of_ble_eq_true rfl, rfl⟩ rfl rfl ?_
  refine go_nm (fun I1 eI1 => ?_)
  have h := h I1 eI1
  refine go_aload_n dX6_beSaid_30 rfl 0 rfl ?_
  refine go_iload_n dX6_beSaid_31 rfl 1 rfl ?_
  refine go_aload_n dX6_beSaid_32 rfl 0 rfl ?_
  refine go_getI dX6_beSaid_33 hT (SH_lt hT) f_X6_45 ⟨Nat.le_of_ble_eq_true rfl, Nat.le_of_ble_eq_true rfl, rfl⟩ ?_
  refine go_iadd dX6_beSaid_36 ?_
  refine go_putT dX6_beSaid_37 hT (SH_lt hT) p_X6_36 ⟨Nat.le_of_ble_eq_true rfl, Nat.le_of_ble_eq_true rfl, rfl⟩ rfl rfl ?_
  refine go_aload_n dX6_beSaid_40 rfl 0 rfl ?_
  refine go_dup dX6_beSaid_41 rfl ?_
  refine go_getI dX6_beSaid_42 hT (SH_lt hT) f_X6_18 ⟨Nat.le_of_ble_eq_true rfl, Nat.le_of_ble_eq_true rfl, rfl⟩ ?_
  refine go_aload_n dX6_beSaid_45 rfl 0 rfl ?_
  refine go_getI dX6_beSaid_46 hT (SH_lt hT) f_X6_45 ⟨Nat.le_of_ble_eq_true rfl, Nat.le_of_ble_eq_true rfl, rfl⟩ ?_
  refine go_iadd dX6_beSaid_49 ?_
  refine go_putT dX6_beSaid_50 hT (SH_lt hT) p_X6_18 ⟨Nat.le_of_ble_eq_true rfl, Nat.le_of_ble_eq_true rfl, rfl⟩ rfl rfl ?_
  refine go_aload_n dX6_beSaid_53 rfl 0 rfl ?_
  refine go_aload_n dX6_beSaid_54 rfl 0 rfl ?_
  refine go_getI dX6_beSaid_55 hT (SH_lt hT) f_X6_18 ⟨Nat.le_of_ble_eq_true rfl, Nat.le_of_ble_eq_true rfl, rfl⟩ ?_
  refine go_aload_n dX6_beSaid_58 rfl 0 rfl ?_
  refine go_getI dX6_beSaid_59 hT (SH_lt hT) f_X6_21 ⟨Nat.le_of_ble_eq_true rfl, Nat.le_of_ble_eq_true rfl, rfl⟩ ?_
  refine go_isub dX6_beSaid_62 ?_
  refine go_putT dX6_beSaid_63 hT (SH_lt hT) p_X6_54 ⟨Nat.le_of_ble_eq_true rfl, Nat.le_of_ble_eq_true rfl, rfl⟩ rfl rfl ?_
  refine go_nm (fun I2 eI2 => ?_)
  have h := h I2 eI2
  refine go_aload_n dX6_beSaid_66 rfl 0 rfl ?_
  refine go_aload_n dX6_beSaid_67 rfl 0 rfl ?_
  refine go_getI dX6_beSaid_68 hT (SH_lt hT) f_X6_36 ⟨Nat.le_of_ble_eq_true rfl, Nat.le_of_ble_eq_true rfl, rfl⟩ ?_
  refine go_aload_n dX6_beSaid_71 rfl 0 rfl ?_
  refine go_getI dX6_beSaid_72 hT (SH_lt hT) f_X6_57 ⟨Nat.le_of_ble_eq_true rfl, Nat.le_of_ble_eq_true rfl, rfl⟩ ?_
  refine go_iadd dX6_beSaid_75 ?_
  refine go_putT dX6_beSaid_76 hT (SH_lt hT) p_X6_39 ⟨Nat.le_of_ble_eq_true rfl, Nat.le_of_ble_eq_true rfl, rfl⟩ rfl rfl ?_
  refine go_aload_n dX6_beSaid_79 rfl 0 rfl ?_
  refine go_getI dX6_beSaid_80 hT (SH_lt hT) f_X6_60 ⟨Nat.le_of_ble_eq_true rfl, Nat.le_of_ble_eq_true rfl, rfl⟩ ?_
  refine go_iconst dX6_beSaid_83 (v := (2 : Int32)) (by decide) ?_
  refine go_icmp_ne (tgt := 100) dX6_beSaid_84 (by decide) (fun c3 => ?_) (fun c3 => ?_)
  · have h := h.1 c3
    refine go_aload_n dX6_beSaid_100 rfl 0 rfl ?_
    refine go_aload_n dX6_beSaid_101 rfl 0 rfl ?_
    refine go_getI dX6_beSaid_102 hT (SH_lt hT) f_X6_39 ⟨Nat.le_of_ble_eq_true rfl, Nat.le_of_ble_eq_true rfl, rfl⟩ ?_
    refine go_aload_n dX6_beSaid_105 rfl 0 rfl ?_
    refine go_getI dX6_beSaid_106 hT (SH_lt hT) f_X6_63 ⟨Nat.le_of_ble_eq_true rfl, Nat.le_of_ble_eq_true rfl, rfl⟩ ?_
    refine go_iadd dX6_beSaid_109 ?_
    refine go_putT dX6_beSaid_110 hT (SH_lt hT) p_X6_42 ⟨Nat.le_of_ble_eq_true rfl, Nat.le_of_ble_eq_true rfl, rfl⟩ rfl rfl ?_
    refine go_nm (fun I4 eI4 => ?_)
    have h := h I4 eI4
    refine go_aload_n dX6_beSaid_113 rfl 0 rfl ?_
    refine go_dup dX6_beSaid_114 rfl ?_
    refine go_getI dX6_beSaid_115 hT (SH_lt hT) f_X6_18 ⟨Nat.le_of_ble_eq_true rfl, Nat.le_of_ble_eq_true rfl, rfl⟩ ?_
    refine go_aload_n dX6_beSaid_118 rfl 0 rfl ?_
    refine go_getI dX6_beSaid_119 hT (SH_lt hT) f_X6_63 ⟨Nat.le_of_ble_eq_true rfl, Nat.le_of_ble_eq_true rfl, rfl⟩ ?_
    refine go_iadd dX6_beSaid_122 ?_
    refine go_putT dX6_beSaid_123 hT (SH_lt hT) p_X6_18 ⟨Nat.le_of_ble_eq_true rfl, Nat.le_of_ble_eq_true rfl, rfl⟩ rfl rfl ?_
    exact go_vret dX6_beSaid_126 rfl rfl (by decide) ⟨rfl, rfl, h⟩
  · have h := h.2 c3
    refine go_aload_n dX6_beSaid_87 rfl 0 rfl ?_
    refine go_dup dX6_beSaid_88 rfl ?_
    refine go_getI dX6_beSaid_89 hT (SH_lt hT) f_X6_18 ⟨Nat.le_of_ble_eq_true rfl, Nat.le_of_ble_eq_true rfl, rfl⟩ ?_
    refine go_aload_n dX6_beSaid_92 rfl 0 rfl ?_
    refine go_getI dX6_beSaid_93 hT (SH_lt hT) f_X6_57 ⟨Nat.le_of_ble_eq_true rfl, Nat.le_of_ble_eq_true rfl, rfl⟩ ?_
    refine go_iadd dX6_beSaid_96 ?_
    refine go_putT dX6_beSaid_97 hT (SH_lt hT) p_X6_18 ⟨Nat.le_of_ble_eq_true rfl, Nat.le_of_ble_eq_true rfl, rfl⟩ rfl rfl ?_
    refine go_nm (fun I5 eI5 => ?_)
    have h := h I5 eI5
    refine go_aload_n dX6_beSaid_100 rfl 0 rfl ?_
    refine go_aload_n dX6_beSaid_101 rfl 0 rfl ?_
    refine go_getI dX6_beSaid_102 hT (SH_lt hT) f_X6_39 ⟨Nat.le_of_ble_eq_true rfl, Nat.le_of_ble_eq_true rfl, rfl⟩ ?_
    refine go_aload_n dX6_beSaid_105 rfl 0 rfl ?_
    refine go_getI dX6_beSaid_106 hT (SH_lt hT) f_X6_63 ⟨Nat.le_of_ble_eq_true rfl, Nat.le_of_ble_eq_true rfl, rfl⟩ ?_
    refine go_iadd dX6_beSaid_109 ?_
    refine go_putT dX6_beSaid_110 hT (SH_lt hT) p_X6_42 ⟨Nat.le_of_ble_eq_true rfl, Nat.le_of_ble_eq_true rfl, rfl⟩ rfl rfl ?_
    refine go_aload_n dX6_beSaid_113 rfl 0 rfl ?_
    refine go_dup dX6_beSaid_114 rfl ?_
    refine go_getI dX6_beSaid_115 hT (SH_lt hT) f_X6_18 ⟨Nat.le_of_ble_eq_true rfl, Nat.le_of_ble_eq_true rfl, rfl⟩ ?_
    refine go_aload_n dX6_beSaid_118 rfl 0 rfl ?_
    refine go_getI dX6_beSaid_119 hT (SH_lt hT) f_X6_63 ⟨Nat.le_of_ble_eq_true rfl, Nat.le_of_ble_eq_true rfl, rfl⟩ ?_
    refine go_iadd dX6_beSaid_122 ?_
    refine go_putT dX6_beSaid_123 hT (SH_lt hT) p_X6_18 ⟨Nat.le_of_ble_eq_true rfl, Nat.le_of_ble_eq_true rfl, rfl⟩ rfl rfl ?_
    refine go_nm (fun I6 eI6 => ?_)
    have h := h I6 eI6
    exact go_vret dX6_beSaid_126 rfl rfl (by decide) ⟨rfl, rfl, h⟩
set_option maxRecDepth 100000 in
set_option maxHeartbeats 4000000 in
theorem v_X6_beWritten {G : CX} {T : Nat} {a1 : Int32} {a2 : Int32} {a3 : Int32} (hT : isTur T) {I : HP} {Q : HP → Prop} (h : ((¬ (I T 0) = (3 : Int32)) → ((((I T 11) ≤ 0) → (∀ I3 : HP, I3 = (st (st (st I T 11 ((I T 11) + (I T 2))) T 7 ((((st I T 11 ((I T 11) + (I T 2))) T 6) + (0 : Int32)) + (I T 2))) T 13 (((st (st I T 11 ((I T 11) + (I T 2))) T 7 ((((st I T 11 ((I T 11) + (I T 2))) T 6) + (0 : Int32)) + (I T 2))) T 13) + ((0 : Int32) + (I T 2)))) → Q I3)) ∧ ((¬ (I T 11) ≤ 0) → (((((I T 11) + (I T 2)) ≤ a1) → (∀ I5 : HP, I5 = (st (st (st I T 11 ((I T 11) + (I T 2))) T 7 ((((st I T 11 ((I T 11) + (I T 2))) T 6) + (0 : Int32)) + (I T 2))) T 13 (((st (st I T 11 ((I T 11) + (I T 2))) T 7 ((((st I T 11 ((I T 11) + (I T 2))) T 6) + (0 : Int32)) + (I T 2))) T 13) + ((0 : Int32) + (I T 2)))) → Q I5)) ∧ ((¬ ((I T 11) + (I T 2)) ≤ a1) → ((((I T 12) < a3) → (∀ I7 : HP, I7 = (st (st (st I T 12 ((I T 12) + (1 : Int32))) T 11 (0 : Int32)) T 11 (((st (st I T 12 ((I T 12) + (1 : Int32))) T 11 (0 : Int32)) T 11) + (I T 2))) → ∀ I8 : HP, I8 = (st (st I7 T 7 (((I7 T 6) + a2) + (I T 2))) T 13 (((st I7 T 7 (((I7 T 6) + a2) + (I T 2))) T 13) + (a2 + (I T 2)))) → Q I8)) ∧ ((¬ (I T 12) < a3) → (Q I)))))))) ∧ (((I T 0) = (3 : Int32)) → ((((I T 11) ≤ 0) → (∀ I10 : HP, I10 = (st (st I T 11 ((I T 11) + ((I T 2) + (2 : Int32)))) T 7 ((((st I T 11 ((I T 11) + ((I T 2) + (2 : Int32)))) T 6) + (0 : Int32)) + ((I T 2) + (2 : Int32)))) → Q (st I10 T 13 ((I10 T 13) + ((0 : Int32) + ((I T 2) + (2 : Int32))))))) ∧ ((¬ (I T 11) ≤ 0) → (((((I T 11) + ((I T 2) + (2 : Int32))) ≤ a1) → (∀ I12 : HP, I12 = (st (st I T 11 ((I T 11) + ((I T 2) + (2 : Int32)))) T 7 ((((st I T 11 ((I T 11) + ((I T 2) + (2 : Int32)))) T 6) + (0 : Int32)) + ((I T 2) + (2 : Int32)))) → Q (st I12 T 13 ((I12 T 13) + ((0 : Int32) + ((I T 2) + (2 : Int32))))))) ∧ ((¬ ((I T 11) + ((I T 2) + (2 : Int32))) ≤ a1) → ((((I T 12) < a3) → (∀ I14 : HP, I14 = (st (st (st I T 12 ((I T 12) + (1 : Int32))) T 11 (0 : Int32)) T 11 (((st (st I T 12 ((I T 12) + (1 : Int32))) T 11 (0 : Int32)) T 11) + ((I T 2) + (2 : Int32)))) → ∀ I15 : HP, I15 = (st (st I14 T 7 (((I14 T 6) + a2) + ((I T 2) + (2 : Int32)))) T 13 (((st I14 T 7 (((I14 T 6) + a2) + ((I T 2) + (2 : Int32)))) T 13) + (a2 + ((I T 2) + (2 : Int32))))) → Q I15)) ∧ ((¬ (I T 12) < a3) → (Q I))))))))) : RV G Y_X6_beWritten [.ref T, .int a1, .int a2, .int a3] I Q := by
  refine ret_of (show plainName RX6 = true by decide) (Nat.le_of_ble_eq_true rfl) ?_
  show Go G Y_X6_beWritten 0 [(0, .ref T), (1, .int a1), (2, .int a2), (3, .int a3)] [] SH I 0 0 _
  refine go_aload_n dX6_beWritten_0 rfl 0 rfl ?_
  refine go_getI dX6_beWritten_1 hT (SH_lt hT) f_X6_60 ⟨Nat.le_of_ble_eq_true rfl, Nat.le_of_ble_eq_true rfl, rfl⟩ ?_
  refine go_iconst dX6_beWritten_4 (v := (3 : Int32)) (by decide) ?_
  refine go_icmp_ne (tgt := 17) dX6_beWritten_5 (by decide) (fun c1 => ?_) (fun c1 => ?_)
  · have h := h.1 c1
    refine go_aload_n dX6_beWritten_17 rfl 0 rfl ?_
    refine go_getI dX6_beWritten_18 hT (SH_lt hT) f_X6_57 ⟨Nat.le_of_ble_eq_true rfl, Nat.le_of_ble_eq_true rfl, rfl⟩ ?_
    refine go_istore dX6_beWritten_21 (Nat.le_of_ble_eq_true rfl) (L2 := [(4, .int (I T 2)), (0, .ref T), (1, .int a1), (2, .int a2), (3, .int a3)]) rfl ?_
    refine go_iconst dX6_beWritten_23 (v := (0 : Int32)) (by decide) ?_
    refine go_istore dX6_beWritten_24 (Nat.le_of_ble_eq_true rfl) (L2 := [(5, .int (0 : Int32)), (4, .int (I T 2)), (0, .ref T), (1, .int a1), (2, .int a2), (3, .int a3)]) rfl ?_
    refine go_aload_n dX6_beWritten_26 rfl 2 rfl ?_
    refine go_getI dX6_beWritten_27 hT (SH_lt hT) f_X6_30 ⟨Nat.le_of_ble_eq_true rfl, Nat.le_of_ble_eq_true rfl, rfl⟩ ?_
    refine go_if_le (tgt := 71) dX6_beWritten_30 (by decide) (fun c2 => ?_) (fun c2 => ?_)
    · have h := h.1 c2
      refine go_aload_n dX6_beWritten_71 rfl 2 rfl ?_
      refine go_dup dX6_beWritten_72 rfl ?_
      refine go_getI dX6_beWritten_73 hT (SH_lt hT) f_X6_30 ⟨Nat.le_of_ble_eq_true rfl, Nat.le_of_ble_eq_true rfl, rfl⟩ ?_
      refine go_iload dX6_beWritten_76 1 rfl ?_
      refine go_iadd dX6_beWritten_78 ?_
      refine go_putT dX6_beWritten_79 hT (SH_lt hT) p_X6_30 ⟨Nat.le_of_ble_eq_true rfl, Nat.le_of_ble_eq_true rfl, rfl⟩ rfl rfl ?_
      refine go_aload_n dX6_beWritten_82 rfl 2 rfl ?_
      refine go_aload_n dX6_beWritten_83 rfl 2 rfl ?_
      refine go_getI dX6_beWritten_84 hT (SH_lt hT) f_X6_42 ⟨Nat.le_of_ble_eq_true rfl, Nat.le_of_ble_eq_true rfl, rfl⟩ ?_
      refine go_iload dX6_beWritten_87 0 rfl ?_
      refine go_iadd dX6_beWritten_89 ?_
      refine go_iload dX6_beWritten_90 1 rfl ?_
      refine go_iadd dX6_beWritten_92 ?_
      refine go_putT dX6_beWritten_93 hT (SH_lt hT) p_X6_14 ⟨Nat.le_of_ble_eq_true rfl, Nat.le_of_ble_eq_true rfl, rfl⟩ rfl rfl ?_
      refine go_aload_n dX6_beWritten_96 rfl 2 rfl ?_
      refine go_dup dX6_beWritten_97 rfl ?_
      refine go_getI dX6_beWritten_98 hT (SH_lt hT) f_X6_18 ⟨Nat.le_of_ble_eq_true rfl, Nat.le_of_ble_eq_true rfl, rfl⟩ ?_
      refine go_iload dX6_beWritten_101 0 rfl ?_
      refine go_iload dX6_beWritten_103 1 rfl ?_
      refine go_iadd dX6_beWritten_105 ?_
      refine go_iadd dX6_beWritten_106 ?_
      refine go_putT dX6_beWritten_107 hT (SH_lt hT) p_X6_18 ⟨Nat.le_of_ble_eq_true rfl, Nat.le_of_ble_eq_true rfl, rfl⟩ rfl rfl ?_
      refine go_nm (fun I3 eI3 => ?_)
      have h := h I3 eI3
      exact go_vret dX6_beWritten_110 rfl rfl (by decide) ⟨rfl, rfl, h⟩
    · have h := h.2 c2
      refine go_aload_n dX6_beWritten_33 rfl 2 rfl ?_
      refine go_getI dX6_beWritten_34 hT (SH_lt hT) f_X6_30 ⟨Nat.le_of_ble_eq_true rfl, Nat.le_of_ble_eq_true rfl, rfl⟩ ?_
      refine go_iload dX6_beWritten_37 1 rfl ?_
      refine go_iadd dX6_beWritten_39 ?_
      refine go_iload_n dX6_beWritten_40 rfl 3 rfl ?_
      refine go_icmp_le (tgt := 71) dX6_beWritten_41 (by decide) (fun c4 => ?_) (fun c4 => ?_)
      · have h := h.1 c4
        refine go_aload_n dX6_beWritten_71 rfl 2 rfl ?_
        refine go_dup dX6_beWritten_72 rfl ?_
        refine go_getI dX6_beWritten_73 hT (SH_lt hT) f_X6_30 ⟨Nat.le_of_ble_eq_true rfl, Nat.le_of_ble_eq_true rfl, rfl⟩ ?_
        refine go_iload dX6_beWritten_76 1 rfl ?_
        refine go_iadd dX6_beWritten_78 ?_
        refine go_putT dX6_beWritten_79 hT (SH_lt hT) p_X6_30 ⟨Nat.le_of_ble_eq_true rfl, Nat.le_of_ble_eq_true rfl, rfl⟩ rfl rfl ?_
        refine go_aload_n dX6_beWritten_82 rfl 2 rfl ?_
        refine go_aload_n dX6_beWritten_83 rfl 2 rfl ?_
        refine go_getI dX6_beWritten_84 hT (SH_lt hT) f_X6_42 ⟨Nat.le_of_ble_eq_true rfl, Nat.le_of_ble_eq_true rfl, rfl⟩ ?_
        refine go_iload dX6_beWritten_87 0 rfl ?_
        refine go_iadd dX6_beWritten_89 ?_
        refine go_iload dX6_beWritten_90 1 rfl ?_
        refine go_iadd dX6_beWritten_92 ?_
        refine go_putT dX6_beWritten_93 hT (SH_lt hT) p_X6_14 ⟨Nat.le_of_ble_eq_true rfl, Nat.le_of_ble_eq_true rfl, rfl⟩ rfl rfl ?_
        refine go_aload_n dX6_beWritten_96 rfl 2 rfl ?_
        refine go_dup dX6_beWritten_97 rfl ?_
        refine go_getI dX6_beWritten_98 hT (SH_lt hT) f_X6_18 ⟨Nat.le_of_ble_eq_true rfl, Nat.le_of_ble_eq_true rfl, rfl⟩ ?_
        refine go_iload dX6_beWritten_101 0 rfl ?_
        refine go_iload dX6_beWritten_103 1 rfl ?_
        refine go_iadd dX6_beWritten_105 ?_
        refine go_iadd dX6_beWritten_106 ?_
        refine go_putT dX6_beWritten_107 hT (SH_lt hT) p_X6_18 ⟨Nat.le_of_ble_eq_true rfl, Nat.le_of_ble_eq_true rfl, rfl⟩ rfl rfl ?_
        refine go_nm (fun I5 eI5 => ?_)
        have h := h I5 eI5
        exact go_vret dX6_beWritten_110 rfl rfl (by decide) ⟨rfl, rfl, h⟩
      · have h := h.2 c4
        refine go_aload_n dX6_beWritten_44 rfl 2 rfl ?_
        refine go_getI dX6_beWritten_45 hT (SH_lt hT) f_X6_33 ⟨Nat.le_of_ble_eq_true rfl, Nat.le_of_ble_eq_true rfl, rfl⟩ ?_
        refine go_iload_n dX6_beWritten_48 rfl 5 rfl ?_
        refine go_icmp_lt (tgt := 53) dX6_beWritten_49 (by decide) (fun c6 => ?_) (fun c6 => ?_)
        · have h := h.1 c6
          refine go_aload_n dX6_beWritten_53 rfl 2 rfl ?_
          refine go_dup dX6_beWritten_54 rfl ?_
          refine go_getI dX6_beWritten_55 hT (SH_lt hT) f_X6_33 ⟨Nat.le_of_ble_eq_true rfl, Nat.le_of_ble_eq_true rfl, rfl⟩ ?_
          refine go_iconst dX6_beWritten_58 (v := (1 : Int32)) (by decide) ?_
          refine go_iadd dX6_beWritten_59 ?_
          refine go_putT dX6_beWritten_60 hT (SH_lt hT) p_X6_33 ⟨Nat.le_of_ble_eq_true rfl, Nat.le_of_ble_eq_true rfl, rfl⟩ rfl rfl ?_
          refine go_aload_n dX6_beWritten_63 rfl 2 rfl ?_
          refine go_iconst dX6_beWritten_64 (v := (0 : Int32)) (by decide) ?_
          refine go_putT dX6_beWritten_65 hT (SH_lt hT) p_X6_30 ⟨Nat.le_of_ble_eq_true rfl, Nat.le_of_ble_eq_true rfl, rfl⟩ rfl rfl ?_
          refine go_iload_n dX6_beWritten_68 rfl 4 rfl ?_
          refine go_istore dX6_beWritten_69 (Nat.le_of_ble_eq_true rfl) (L2 := [(5, .int a2), (4, .int (I T 2)), (0, .ref T), (1, .int a1), (2, .int a2), (3, .int a3)]) rfl ?_
          refine go_aload_n dX6_beWritten_71 rfl 2 rfl ?_
          refine go_dup dX6_beWritten_72 rfl ?_
          refine go_getI dX6_beWritten_73 hT (SH_lt hT) f_X6_30 ⟨Nat.le_of_ble_eq_true rfl, Nat.le_of_ble_eq_true rfl, rfl⟩ ?_
          refine go_iload dX6_beWritten_76 1 rfl ?_
          refine go_iadd dX6_beWritten_78 ?_
          refine go_putT dX6_beWritten_79 hT (SH_lt hT) p_X6_30 ⟨Nat.le_of_ble_eq_true rfl, Nat.le_of_ble_eq_true rfl, rfl⟩ rfl rfl ?_
          refine go_nm (fun I7 eI7 => ?_)
          have h := h I7 eI7
          refine go_aload_n dX6_beWritten_82 rfl 2 rfl ?_
          refine go_aload_n dX6_beWritten_83 rfl 2 rfl ?_
          refine go_getI dX6_beWritten_84 hT (SH_lt hT) f_X6_42 ⟨Nat.le_of_ble_eq_true rfl, Nat.le_of_ble_eq_true rfl, rfl⟩ ?_
          refine go_iload dX6_beWritten_87 0 rfl ?_
          refine go_iadd dX6_beWritten_89 ?_
          refine go_iload dX6_beWritten_90 1 rfl ?_
          refine go_iadd dX6_beWritten_92 ?_
          refine go_putT dX6_beWritten_93 hT (SH_lt hT) p_X6_14 ⟨Nat.le_of_ble_eq_true rfl, Nat.le_of_ble_eq_true rfl, rfl⟩ rfl rfl ?_
          refine go_aload_n dX6_beWritten_96 rfl 2 rfl ?_
          refine go_dup dX6_beWritten_97 rfl ?_
          refine go_getI dX6_beWritten_98 hT (SH_lt hT) f_X6_18 ⟨Nat.le_of_ble_eq_true rfl, Nat.le_of_ble_eq_true rfl, rfl⟩ ?_
          refine go_iload dX6_beWritten_101 0 rfl ?_
          refine go_iload dX6_beWritten_103 1 rfl ?_
          refine go_iadd dX6_beWritten_105 ?_
          refine go_iadd dX6_beWritten_106 ?_
          refine go_putT dX6_beWritten_107 hT (SH_lt hT) p_X6_18 ⟨Nat.le_of_ble_eq_true rfl, Nat.le_of_ble_eq_true rfl, rfl⟩ rfl rfl ?_
          refine go_nm (fun I8 eI8 => ?_)
          have h := h I8 eI8
          exact go_vret dX6_beWritten_110 rfl rfl (by decide) ⟨rfl, rfl, h⟩
        · have h := h.2 c6
          exact go_vret dX6_beWritten_52 rfl rfl (by decide) ⟨rfl, rfl, h⟩
  · have h := h.2 c1
    refine go_aload_n dX6_beWritten_8 rfl 0 rfl ?_
    refine go_getI dX6_beWritten_9 hT (SH_lt hT) f_X6_57 ⟨Nat.le_of_ble_eq_true rfl, Nat.le_of_ble_eq_true rfl, rfl⟩ ?_
    refine go_iconst dX6_beWritten_12 (v := (2 : Int32)) (by decide) ?_
    refine go_iadd dX6_beWritten_13 ?_
    refine go_goto (tgt := 21) dX6_beWritten_14 (by decide) ?_
    refine go_istore dX6_beWritten_21 (Nat.le_of_ble_eq_true rfl) (L2 := [(4, .int ((I T 2) + (2 : Int32))), (0, .ref T), (1, .int a1), (2, .int a2), (3, .int a3)]) rfl ?_
    refine go_iconst dX6_beWritten_23 (v := (0 : Int32)) (by decide) ?_
    refine go_istore dX6_beWritten_24 (Nat.le_of_ble_eq_true rfl) (L2 := [(5, .int (0 : Int32)), (4, .int ((I T 2) + (2 : Int32))), (0, .ref T), (1, .int a1), (2, .int a2), (3, .int a3)]) rfl ?_
    refine go_aload_n dX6_beWritten_26 rfl 2 rfl ?_
    refine go_getI dX6_beWritten_27 hT (SH_lt hT) f_X6_30 ⟨Nat.le_of_ble_eq_true rfl, Nat.le_of_ble_eq_true rfl, rfl⟩ ?_
    refine go_if_le (tgt := 71) dX6_beWritten_30 (by decide) (fun c9 => ?_) (fun c9 => ?_)
    · have h := h.1 c9
      refine go_aload_n dX6_beWritten_71 rfl 2 rfl ?_
      refine go_dup dX6_beWritten_72 rfl ?_
      refine go_getI dX6_beWritten_73 hT (SH_lt hT) f_X6_30 ⟨Nat.le_of_ble_eq_true rfl, Nat.le_of_ble_eq_true rfl, rfl⟩ ?_
      refine go_iload dX6_beWritten_76 1 rfl ?_
      refine go_iadd dX6_beWritten_78 ?_
      refine go_putT dX6_beWritten_79 hT (SH_lt hT) p_X6_30 ⟨Nat.le_of_ble_eq_true rfl, Nat.le_of_ble_eq_true rfl, rfl⟩ rfl rfl ?_
      refine go_aload_n dX6_beWritten_82 rfl 2 rfl ?_
      refine go_aload_n dX6_beWritten_83 rfl 2 rfl ?_
      refine go_getI dX6_beWritten_84 hT (SH_lt hT) f_X6_42 ⟨Nat.le_of_ble_eq_true rfl, Nat.le_of_ble_eq_true rfl, rfl⟩ ?_
      refine go_iload dX6_beWritten_87 0 rfl ?_
      refine go_iadd dX6_beWritten_89 ?_
      refine go_iload dX6_beWritten_90 1 rfl ?_
      refine go_iadd dX6_beWritten_92 ?_
      refine go_putT dX6_beWritten_93 hT (SH_lt hT) p_X6_14 ⟨Nat.le_of_ble_eq_true rfl, Nat.le_of_ble_eq_true rfl, rfl⟩ rfl rfl ?_
      refine go_nm (fun I10 eI10 => ?_)
      have h := h I10 eI10
      refine go_aload_n dX6_beWritten_96 rfl 2 rfl ?_
      refine go_dup dX6_beWritten_97 rfl ?_
      refine go_getI dX6_beWritten_98 hT (SH_lt hT) f_X6_18 ⟨Nat.le_of_ble_eq_true rfl, Nat.le_of_ble_eq_true rfl, rfl⟩ ?_
      refine go_iload dX6_beWritten_101 0 rfl ?_
      refine go_iload dX6_beWritten_103 1 rfl ?_
      refine go_iadd dX6_beWritten_105 ?_
      refine go_iadd dX6_beWritten_106 ?_
      refine go_putT dX6_beWritten_107 hT (SH_lt hT) p_X6_18 ⟨Nat.le_of_ble_eq_true rfl, Nat.le_of_ble_eq_true rfl, rfl⟩ rfl rfl ?_
      exact go_vret dX6_beWritten_110 rfl rfl (by decide) ⟨rfl, rfl, h⟩
    · have h := h.2 c9
      refine go_aload_n dX6_beWritten_33 rfl 2 rfl ?_
      refine go_getI dX6_beWritten_34 hT (SH_lt hT) f_X6_30 ⟨Nat.le_of_ble_eq_true rfl, Nat.le_of_ble_eq_true rfl, rfl⟩ ?_
      refine go_iload dX6_beWritten_37 1 rfl ?_
      refine go_iadd dX6_beWritten_39 ?_
      refine go_iload_n dX6_beWritten_40 rfl 3 rfl ?_
      refine go_icmp_le (tgt := 71) dX6_beWritten_41 (by decide) (fun c11 => ?_) (fun c11 => ?_)
      · have h := h.1 c11
        refine go_aload_n dX6_beWritten_71 rfl 2 rfl ?_
        refine go_dup dX6_beWritten_72 rfl ?_
        refine go_getI dX6_beWritten_73 hT (SH_lt hT) f_X6_30 ⟨Nat.le_of_ble_eq_true rfl, Nat.le_of_ble_eq_true rfl, rfl⟩ ?_
        refine go_iload dX6_beWritten_76 1 rfl ?_
        refine go_iadd dX6_beWritten_78 ?_
        refine go_putT dX6_beWritten_79 hT (SH_lt hT) p_X6_30 ⟨Nat.le_of_ble_eq_true rfl, Nat.le_of_ble_eq_true rfl, rfl⟩ rfl rfl ?_
        refine go_aload_n dX6_beWritten_82 rfl 2 rfl ?_
        refine go_aload_n dX6_beWritten_83 rfl 2 rfl ?_
        refine go_getI dX6_beWritten_84 hT (SH_lt hT) f_X6_42 ⟨Nat.le_of_ble_eq_true rfl, Nat.le_of_ble_eq_true rfl, rfl⟩ ?_
        refine go_iload dX6_beWritten_87 0 rfl ?_
        refine go_iadd dX6_beWritten_89 ?_
        refine go_iload dX6_beWritten_90 1 rfl ?_
        refine go_iadd dX6_beWritten_92 ?_
        refine go_putT dX6_beWritten_93 hT (SH_lt hT) p_X6_14 ⟨Nat.le_of_ble_eq_true rfl, Nat.le_of_ble_eq_true rfl, rfl⟩ rfl rfl ?_
        refine go_nm (fun I12 eI12 => ?_)
        have h := h I12 eI12
        refine go_aload_n dX6_beWritten_96 rfl 2 rfl ?_
        refine go_dup dX6_beWritten_97 rfl ?_
        refine go_getI dX6_beWritten_98 hT (SH_lt hT) f_X6_18 ⟨Nat.le_of_ble_eq_true rfl, Nat.le_of_ble_eq_true rfl, rfl⟩ ?_
        refine go_iload dX6_beWritten_101 0 rfl ?_
        refine go_iload dX6_beWritten_103 1 rfl ?_
        refine go_iadd dX6_beWritten_105 ?_
        refine go_iadd dX6_beWritten_106 ?_
        refine go_putT dX6_beWritten_107 hT (SH_lt hT) p_X6_18 ⟨Nat.le_of_ble_eq_true rfl, Nat.le_of_ble_eq_true rfl, rfl⟩ rfl rfl ?_
        exact go_vret dX6_beWritten_110 rfl rfl (by decide) ⟨rfl, rfl, h⟩
      · have h := h.2 c11
        refine go_aload_n dX6_beWritten_44 rfl 2 rfl ?_
        refine go_getI dX6_beWritten_45 hT (SH_lt hT) f_X6_33 ⟨Nat.le_of_ble_eq_true rfl, Nat.le_of_ble_eq_true rfl, rfl⟩ ?_
        refine go_iload_n dX6_beWritten_48 rfl 5 rfl ?_
        refine go_icmp_lt (tgt := 53) dX6_beWritten_49 (by decide) (fun c13 => ?_) (fun c13 => ?_)
        · have h := h.1 c13
          refine go_aload_n dX6_beWritten_53 rfl 2 rfl ?_
          refine go_dup dX6_beWritten_54 rfl ?_
          refine go_getI dX6_beWritten_55 hT (SH_lt hT) f_X6_33 ⟨Nat.le_of_ble_eq_true rfl, Nat.le_of_ble_eq_true rfl, rfl⟩ ?_
          refine go_iconst dX6_beWritten_58 (v := (1 : Int32)) (by decide) ?_
          refine go_iadd dX6_beWritten_59 ?_
          refine go_putT dX6_beWritten_60 hT (SH_lt hT) p_X6_33 ⟨Nat.le_of_ble_eq_true rfl, Nat.le_of_ble_eq_true rfl, rfl⟩ rfl rfl ?_
          refine go_aload_n dX6_beWritten_63 rfl 2 rfl ?_
          refine go_iconst dX6_beWritten_64 (v := (0 : Int32)) (by decide) ?_
          refine go_putT dX6_beWritten_65 hT (SH_lt hT) p_X6_30 ⟨Nat.le_of_ble_eq_true rfl, Nat.le_of_ble_eq_true rfl, rfl⟩ rfl rfl ?_
          refine go_iload_n dX6_beWritten_68 rfl 4 rfl ?_
          refine go_istore dX6_beWritten_69 (Nat.le_of_ble_eq_true rfl) (L2 := [(5, .int a2), (4, .int ((I T 2) + (2 : Int32))), (0, .ref T), (1, .int a1), (2, .int a2), (3, .int a3)]) rfl ?_
          refine go_aload_n dX6_beWritten_71 rfl 2 rfl ?_
          refine go_dup dX6_beWritten_72 rfl ?_
          refine go_getI dX6_beWritten_73 hT (SH_lt hT) f_X6_30 ⟨Nat.le_of_ble_eq_true rfl, Nat.le_of_ble_eq_true rfl, rfl⟩ ?_
          refine go_iload dX6_beWritten_76 1 rfl ?_
          refine go_iadd dX6_beWritten_78 ?_
          refine go_putT dX6_beWritten_79 hT (SH_lt hT) p_X6_30 ⟨Nat.le_of_ble_eq_true rfl, Nat.le_of_ble_eq_true rfl, rfl⟩ rfl rfl ?_
          refine go_nm (fun I14 eI14 => ?_)
          have h := h I14 eI14
          refine go_aload_n dX6_beWritten_82 rfl 2 rfl ?_
          refine go_aload_n dX6_beWritten_83 rfl 2 rfl ?_
          refine go_getI dX6_beWritten_84 hT (SH_lt hT) f_X6_42 ⟨Nat.le_of_ble_eq_true rfl, Nat.le_of_ble_eq_true rfl, rfl⟩ ?_
          refine go_iload dX6_beWritten_87 0 rfl ?_
          refine go_iadd dX6_beWritten_89 ?_
          refine go_iload dX6_beWritten_90 1 rfl ?_
          refine go_iadd dX6_beWritten_92 ?_
          refine go_putT dX6_beWritten_93 hT (SH_lt hT) p_X6_14 ⟨Nat.le_of_ble_eq_true rfl, Nat.le_of_ble_eq_true rfl, rfl⟩ rfl rfl ?_
          refine go_aload_n dX6_beWritten_96 rfl 2 rfl ?_
          refine go_dup dX6_beWritten_97 rfl ?_
          refine go_getI dX6_beWritten_98 hT (SH_lt hT) f_X6_18 ⟨Nat.le_of_ble_eq_true rfl, Nat.le_of_ble_eq_true rfl, rfl⟩ ?_
          refine go_iload dX6_beWritten_101 0 rfl ?_
          refine go_iload dX6_beWritten_103 1 rfl ?_
          refine go_iadd dX6_beWritten_105 ?_
          refine go_iadd dX6_beWritten_106 ?_
          refine go_putT dX6_beWritten_107 hT (SH_lt hT) p_X6_18 ⟨Nat.le_of_ble_eq_true rfl, Nat.le_of_ble_eq_true rfl, rfl⟩ rfl rfl ?_
          refine go_nm (fun I15 eI15 => ?_)
          have h := h I15 eI15
          exact go_vret dX6_beWritten_110 rfl rfl (by decide) ⟨rfl, rfl, h⟩
        · have h := h.2 c13
          exact go_vret dX6_beWritten_52 rfl rfl (by decide) ⟨rfl, rfl, h⟩
