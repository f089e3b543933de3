/-! ===== the law's loop ===== -/
set_option maxHeartbeats 4000000 in
theorem law_loop {G : CX} (hL : gL G ≤ 384) : ∀ m i : Nat, i ≤ 100 → gL G ≤ 6 * i + 6 * m → ∀ I σ, INV I σ → GL G Y_L_law 18 [(0, .ref 1000), (1, .ref 0), (2, .ref 58), (3, .int (iN ((6 * i : Nat) : Int)))] I (fun _ b => b = true) := by
  intro m
  induction m with
  | zero =>
    intro i hi hm I σ _
    refine v_L_law_18 ⟨fun _ => rfl, fun w => absurd ?_ w⟩
    rw [nI_iN, l6, iN_sub, iN_lt (by omega) (by omega)]
    omega
  | succ m ih =>
    intro i hi hm I σ hI
    refine v_L_law_18 ?_
    have ec : (nI (gL G) - (6 : Int32) < iN ((6 * i : Nat) : Int)) ↔ (gL G : Int) - 6 < ((6 * i : Nat) : Int) := by
      rw [nI_iN, l6, iN_sub, iN_lt (by omega) (by omega)]
    rw [ec]
    refine ⟨fun _ => rfl, fun c => ?_⟩
    have v0 : vp_in (iN ((6 * i : Nat) : Int)) (gL G) := (vp_iN (by omega)).mpr ⟨by omega, by omega⟩
    have v1 : vp_in (iN ((6 * i : Nat) : Int) + (1 : Int32)) (gL G) := by rw [l1, iN_add]; exact (vp_iN (by omega)).mpr ⟨by omega, by omega⟩
    have v2 : vp_in (iN ((6 * i : Nat) : Int) + (2 : Int32)) (gL G) := by rw [l2, iN_add]; exact (vp_iN (by omega)).mpr ⟨by omega, by omega⟩
    have v3 : vp_in (iN ((6 * i : Nat) : Int) + (3 : Int32)) (gL G) := by rw [l3, iN_add]; exact (vp_iN (by omega)).mpr ⟨by omega, by omega⟩
    have v4 : vp_in (iN ((6 * i : Nat) : Int) + (4 : Int32)) (gL G) := by rw [l4, iN_add]; exact (vp_iN (by omega)).mpr ⟨by omega, by omega⟩
    have v5 : vp_in (iN ((6 * i : Nat) : Int) + (5 : Int32)) (gL G) := by rw [l5, iN_add]; exact (vp_iN (by omega)).mpr ⟨by omega, by omega⟩
    have e6 : iN ((6 * i : Nat) : Int) + (6 : Int32) = iN ((6 * (i + 1) : Nat) : Int) := by
      rw [l6, iN_add]
      congr 1
    have k6 : ∀ I2 σ2, INV I2 σ2 → GL G Y_L_law 18 [(0, .ref 1000), (1, .ref 0), (2, .ref 58), (3, .int (iN ((6 * i : Nat) : Int) + 6))] I2 (fun _ b => b = true) := fun I2 σ2 h2 => by
      rw [e6]
      exact ih (i + 1) (by omega) (by omega) I2 σ2 h2
    obtain ⟨h0, hX, hM⟩ := hI
    refine ⟨v0, ?_⟩
    exact ⟨fun _ => ⟨v1, v2, lawI (Q := fun _ b => b = true) (fun _ h => X_type h0 hX h) (fun _ _ hM1 h => M_type h0 hM1 h) hM (ok_type h0 _ _) (fun I2 h2 => k6 I2 _ h2)⟩,
        fun _ => ⟨v1, lawI (Q := fun _ b => b = true) (fun _ h => X_wipe h0 hX h) (fun _ _ hM1 h => M_wipe h0 hM1 h) hM (ok_wipe h0 _) (fun I2 h2 => k6 I2 _ h2)⟩,
        fun _ => ⟨v1, lawI (Q := fun _ b => b = true) (fun _ h => X_undo h0 hX h) (fun _ _ hM1 h => M_undo h0 hM1 h) hM (ok_undo h0 _) (fun I2 h2 => k6 I2 _ h2)⟩,
        fun _ => ⟨v1, lawI (Q := fun _ b => b = true) (fun _ h => X_fault h0 hX h) (fun _ _ hM1 h => M_fault h0 hM1 h) hM (h0) (fun I2 h2 => k6 I2 _ h2)⟩,
        fun _ => ⟨v1, v2, lawI (Q := fun _ b => b = true) (fun _ h => X_set h0 hX h) (fun _ _ hM1 h => M_set h0 hM1 h) hM (ok_set h0 _ _) (fun I2 h2 => k6 I2 _ h2)⟩,
        fun _ => ⟨v1, v2, lawI (Q := fun _ b => b = true) (fun _ h => X_verse h0 hX h) (fun _ _ hM1 h => M_verse h0 hM1 h) hM (h0) (fun I2 h2 => k6 I2 _ h2)⟩,
        fun _ => ⟨v1, v2, lawI (Q := fun _ b => b = true) (fun _ h => X_when h0 hX h) (fun _ _ hM1 h => M_when h0 hM1 h) hM (h0) (fun I2 h2 => k6 I2 _ h2)⟩,
        fun _ => ⟨v1, lawI (Q := fun _ b => b = true) (fun _ h => X_poem h0 hX h) (fun _ _ hM1 h => M_poem h0 hM1 h) hM (h0) (fun I2 h2 => k6 I2 _ h2)⟩,
        fun _ => lawI (Q := fun _ b => b = true) (fun _ h => X_judged h0 hX h) (fun _ _ hM1 h => M_judged h0 hM1 h) hM (h0) (fun I2 h2 => k6 I2 _ h2),
        fun _ => ⟨v1, lawI (Q := fun _ b => b = true) (fun _ h => X_rest h0 hX h) (fun _ _ hM1 h => M_rest h0 hM1 h) hM (h0) (fun I2 h2 => k6 I2 _ h2)⟩,
        fun _ => ⟨v1, v2, lawI (Q := fun _ b => b = true) (fun _ h => X_doing h0 hX h) (fun _ _ hM1 h => M_doing h0 hM1 h) hM (h0) (fun I2 h2 => k6 I2 _ h2)⟩,
        fun _ => ⟨v1, lawI (Q := fun _ b => b = true) (fun _ h => X_put h0 hX h) (fun _ _ hM1 h => M_put h0 hM1 h) hM (h0) (fun I2 h2 => k6 I2 _ h2)⟩,
        fun _ => ⟨v1, lawI (Q := fun _ b => b = true) (fun _ h => X_order h0 hX h) (fun _ _ hM1 h => M_order h0 hM1 h) hM (h0) (fun I2 h2 => k6 I2 _ h2)⟩,
        fun _ => lawI (Q := fun _ b => b = true) (fun _ h => X_lead h0 hX h) (fun _ _ hM1 h => M_lead h0 hM1 h) hM (h0) (fun I2 h2 => k6 I2 _ h2),
        fun _ => ⟨v1, lawJ (Q := fun _ b => b = true) (fun _ h => X_odds h0 hX h) (fun _ _ hM1 h => M_odds h0 hM1 h) hM (h0) (fun I2 h2 => k6 I2 _ h2)⟩,
        fun _ => ⟨v1, lawI (Q := fun _ b => b = true) (fun _ h => X_drawn h0 hX h) (fun _ _ hM1 h => M_drawn h0 hM1 h) hM (h0) (fun I2 h2 => k6 I2 _ h2)⟩,
        fun _ => ⟨v1, v2, lawI (Q := fun _ b => b = true) (fun _ h => X_line h0 hX h) (fun _ _ hM1 h => M_line h0 hM1 h) hM (h0) (fun I2 h2 => k6 I2 _ h2)⟩,
        fun _ => ⟨v1, v2, lawI (Q := fun _ b => b = true) (fun _ h => X_seen h0 hX h) (fun _ _ hM1 h => M_seen h0 hM1 h) hM (ok_seen h0 _ _) (fun I2 h2 => k6 I2 _ h2)⟩,
        fun _ => lawI (Q := fun _ b => b = true) (fun _ h => X_forget h0 hX h) (fun _ _ hM1 h => M_forget h0 hM1 h) hM (ok_forget h0) (fun I2 h2 => k6 I2 _ h2),
        fun _ => lawI (Q := fun _ b => b = true) (fun _ h => X_leads h0 hX h) (fun _ _ hM1 h => M_leads h0 hM1 h) hM (h0) (fun I2 h2 => k6 I2 _ h2),
        fun _ => ⟨v1, lawI (Q := fun _ b => b = true) (fun _ h => X_read h0 hX h) (fun _ _ hM1 h => M_read h0 hM1 h) hM (ok_read h0 _) (fun I2 h2 => k6 I2 _ h2)⟩,
        fun _ => ⟨v1, v2, v3, lawI (Q := fun _ b => b = true) (fun _ h => X_sheet h0 hX h) (fun _ _ hM1 h => M_sheet h0 hM1 h) hM (ok_sheet h0 _ _ _) (fun I2 h2 => k6 I2 _ h2)⟩,
        fun _ => ⟨v1, lawI (Q := fun _ b => b = true) (fun _ h => X_lose h0 hX h) (fun _ _ hM1 h => M_lose h0 hM1 h) hM (ok_lose h0 _) (fun I2 h2 => k6 I2 _ h2)⟩,
        fun _ => ⟨v1, v2, v3, v4, lawI (Q := fun _ b => b = true) (fun _ h => X_lay h0 hX h) (fun _ _ hM1 h => M_lay h0 hM1 h) hM (ok_lay h0 _ _ _ _) (fun I2 h2 => k6 I2 _ h2)⟩,
        fun _ => ⟨v1, v2, v3, lawI (Q := fun _ b => b = true) (fun _ h => X_get h0 hX h) (fun _ _ hM1 h => M_get h0 hM1 h) hM (ok_get h0 _ _ _) (fun I2 h2 => k6 I2 _ h2)⟩,
        fun _ => ⟨v1, v2, v3, v4, v5, lawI (Q := fun _ b => b = true) (fun _ h => X_copy h0 hX h) (fun _ _ hM1 h => M_copy h0 hM1 h) hM (ok_copy h0 _ _ _ _ _) (fun I2 h2 => k6 I2 _ h2)⟩,
        fun _ => ⟨v1, lawI (Q := fun _ b => b = true) (fun _ h => X_write h0 hX h) (fun _ _ hM1 h => M_write h0 hM1 h) hM (ok_write h0 _) (fun I2 h2 => k6 I2 _ h2)⟩,
        fun _ => ⟨v1, lawI (Q := fun _ b => b = true) (fun _ h => X_count h0 hX h) (fun _ _ hM1 h => M_count h0 hM1 (fun I2 f2 hM2 _ => h I2 (lo_sc f2) hM2)) hM (h0) (fun I2 h2 => k6 I2 _ h2)⟩,
        fun _ => lawJ (Q := fun _ b => b = true) (fun _ h => X_digest h0 hX h) (fun _ _ hM1 h => M_digest h0 hM1 h) hM (h0) (fun I2 h2 => k6 I2 _ h2),
        fun _ => k6 I σ ⟨h0, hX, hM⟩⟩
theorem law_loop0 {G : CX} (hL : gL G ≤ 384) : GL G Y_L_law 18 [(0, .ref 1000), (1, .ref 0), (2, .ref 58), (3, .int (0 : Int32))] IN0 (fun _ b => b = true) := law_loop hL 64 0 (by decide) (by omega) IN0 σ0 inv_0
