/-! ===== every state that comes is well; the first one; the law's loop ===== -/
section OkN
variable {σ : SG}
theorem ok_type (h0 : okS0 σ) (a b : Int32) : okS0 (nx_type σ a b) := by
  unfold nx_type
  split
  · rename_i c
    have c2 : sN σ (tn a) ≠ tcap (tn a) := by
      intro e
      simp [e] at c
    refine okS0_t h0 (fun u hu => ?_)
    have := h0.1 u hu
    show (if u = tn a then sN σ u + 1 else sN σ u) ≤ tcap u
    split
    · rename_i e; rw [← e] at c2; omega
    · exact this
  · exact h0
theorem ok_wipe (h0 : okS0 σ) (a : Int32) : okS0 (nx_wipe σ a) := by
  unfold nx_wipe
  split
  · refine okS0_t h0 (fun u hu => ?_)
    have := h0.1 u hu
    show (if u = tn a then 0 else sN σ u) ≤ tcap u
    split <;> omega
  · exact h0
theorem ok_undo (h0 : okS0 σ) (a : Int32) : okS0 (nx_undo σ a) := by
  unfold nx_undo
  split
  · refine okS0_t h0 (fun u hu => ?_)
    have := h0.1 u hu
    have hb := szT_bd (sF σ u) (sN σ u)
    have ez : zT σ u = szT (sF σ u) (sN σ u) := rfl
    show (if u = tn a then (if zT σ u = 1 then 0 else 5 * (zT σ u - 1) - 1) else sN σ u) ≤ tcap u
    split
    · split <;> omega
    · exact this
  · exact h0
theorem ok_set (h0 : okS0 σ) (a b : Int32) : okS0 (nx_set σ a b) := by
  unfold nx_set
  split
  · rename_i c
    unfold okSet at c
    rw [Bool.and_eq_true, decide_eq_true_iff] at c
    have c1 : 0 ≤ a.toInt ∧ a.toInt ≤ 5 := of_decide_eq_true c.1
    exact okS0_r h0 (by unfold tn; omega) c.2
  · exact h0
theorem ok_seen (h0 : okS0 σ) (a b : Int32) : okS0 (nx_seen σ a b) := by
  unfold nx_seen
  split
  · rename_i c
    rw [Bool.and_eq_true, decide_eq_true_iff] at c
    exact okS0_add h0 c.1 c.2
  · exact h0
theorem ok_forget (h0 : okS0 σ) : okS0 (nx_forget σ) := by
  obtain ⟨h1, h2, h3, h4, h5, h6, h7, h8⟩ := h0
  exact ⟨h1, h2, h3, Nat.zero_le _, fun k hk => absurd hk (Nat.not_lt_zero _), h6, h7, h8⟩
theorem ok_sh {fm : Nat → Int} {sz : Nat → Nat} {it : Nat → Nat → Int32} {la : Int} (h0 : okS0 σ) (h1 : ∀ s, s < 4 → -1 ≤ fm s ∧ fm s ≤ 2) (h2 : ∀ s, s < 4 → fm s ≠ -1 → sz s ≤ 60) (h3 : 0 ≤ la ∧ la ≤ 5) : okS0 (upSh σ fm sz it la) := by
  obtain ⟨g1, g2, g3, g4, g5, g6, g7, g8⟩ := h0
  exact ⟨g1, g2, g3, g4, g5, h1, h2, h3⟩
theorem ok_la {la : Int} (h0 : okS0 σ) (h3 : 0 ≤ la ∧ la ≤ 5) : okS0 (upLa σ la) := ok_sh h0 h0.2.2.2.2.2.1 h0.2.2.2.2.2.2.1 h3
theorem ok_la0 (h0 : okS0 σ) : 0 ≤ sLa σ ∧ sLa σ ≤ 5 := h0.2.2.2.2.2.2.2
theorem ok_sheet (h0 : okS0 σ) (a b c : Int32) : okS0 (nx_sheet σ a b c) := by
  unfold nx_sheet
  split
  · rename_i q
    rw [Bool.and_eq_true, Bool.and_eq_true, decide_eq_true_iff] at q
    have q2 : 0 ≤ b.toInt ∧ b.toInt ≤ 2 := of_decide_eq_true q.1.2
    split
    · exact ok_la h0 (by omega)
    · refine ok_sh h0 (fun s hs => ?_) (fun s hs hf => ?_) (ok_la0 h0)
      · have := h0.2.2.2.2.2.1 s hs
        split <;> omega
      · split
        · omega
        · rename_i e
          rw [if_neg e] at hf
          exact h0.2.2.2.2.2.2.1 s hs hf
  · exact h0
theorem ok_lose (h0 : okS0 σ) (a : Int32) : okS0 (nx_lose σ a) := by
  unfold nx_lose
  split
  · split
    · exact ok_la h0 (by omega)
    · refine ok_sh h0 (fun s hs => ?_) (fun s hs hf => ?_) (ok_la0 h0)
      · have := h0.2.2.2.2.2.1 s hs
        split <;> omega
      · by_cases e : s = tn a
        · rw [if_pos e] at hf; exact absurd rfl hf
        · rw [if_neg e] at hf
          exact h0.2.2.2.2.2.2.1 s hs hf
  · exact h0
theorem ok_lay (h0 : okS0 σ) (a b c v : Int32) : okS0 (nx_lay σ a b c v) := by
  unfold nx_lay
  split
  · split
    · exact ok_sh h0 h0.2.2.2.2.2.1 h0.2.2.2.2.2.2.1 (ok_la0 h0)
    · have := lk_bd (σ := σ) (tn a) b c
      exact ok_la h0 (by omega)
  · exact h0
theorem ok_get (h0 : okS0 σ) (a b c : Int32) : okS0 (nx_get σ a b c) := by
  unfold nx_get
  split
  · split
    · exact h0
    · have := lk_bd (σ := σ) (tn a) b c
      exact ok_la h0 (by omega)
  · exact h0
theorem lkC_bd (s t : Nat) (i j n : Int) : 0 ≤ lkC σ s t i j n ∧ lkC σ s t i j n ≤ 4 := by
  unfold lkC
  repeat' split
  all_goals omega
theorem ok_copy (h0 : okS0 σ) (a b c d e : Int32) : okS0 (nx_copy σ a b c d e) := by
  unfold nx_copy
  split
  · split
    · exact ok_sh h0 h0.2.2.2.2.2.1 h0.2.2.2.2.2.2.1 (ok_la0 h0)
    · have := lkC_bd (σ := σ) (tn a) (tn c) b.toInt d.toInt e.toInt
      exact ok_la h0 (by omega)
  · exact h0
theorem ok_write (h0 : okS0 σ) (a : Int32) : okS0 (nx_write σ a) := by
  unfold nx_write
  split
  · split
    · exact ok_la h0 (by omega)
    · exact ok_sh h0 h0.2.2.2.2.2.1 h0.2.2.2.2.2.2.1 (ok_la0 h0)
  · exact h0
theorem ok_rd (s : Nat) : ∀ m n τ, okS0 τ → okS0 (rd s m n τ).2
  | 0, _, _, h => h
  | m + 1, n, τ, h => by
    unfold rd
    split
    · rename_i c
      exact ok_rd s m (n + 1) _ (okS0_add h c.2.1 c.2.2)
    · exact h
theorem ok_read (h0 : okS0 σ) (a : Int32) : okS0 (nx_read σ a) := by
  unfold nx_read
  split
  · split
    · exact ok_la h0 (by omega)
    · exact ok_rd _ _ _ _ h0
  · exact h0
end OkN
/-! the first state -/
def σ0 : SG := (fun _ _ => 0, fun _ => 0, fun r => if r = 1 then 99 else if r = 3 then 9 else 0, 0, fun _ => 0, fun _ => 0, fun _ => -1, fun _ => 0, fun _ _ => 0, 0)
theorem ok_0 : okS0 σ0 := by
  refine ⟨fun t _ => Nat.zero_le _, ⟨by decide, by decide, by decide, by decide, by decide⟩, by decide, Nat.zero_le _, fun k hk => absurd hk (Nat.not_lt_zero _), fun s _ => (by decide : -1 ≤ (-1 : Int) ∧ (-1 : Int) ≤ 2), fun s _ hf => absurd rfl hf, by decide⟩
theorem in0 (a b : Nat) : IN0 a b = (if a = 67 ∧ b = 3 then (9 : Int32) else if a = 67 ∧ b = 1 then 99 else if a = 59 ∧ b = 3 then -1 else if a = 59 ∧ b = 2 then -1 else if a = 59 ∧ b = 1 then -1 else if a = 59 ∧ b = 0 then -1 else if a = 56 ∧ b = 1 then 1 else if a = 54 ∧ b = 1 then 1 else if a = 52 ∧ b = 1 then 1 else if a = 50 ∧ b = 1 then 1 else if a = 4 ∧ b = 2 then -1 else if a = 2 ∧ b = 2 then -1 else if a = 1 ∧ b = 5 then 0 else if a = 1 ∧ b = 4 then 0 else if a = 1 ∧ b = 3 then 9 else if a = 1 ∧ b = 2 then 0 else if a = 1 ∧ b = 1 then 99 else if a = 1 ∧ b = 0 then 0 else 0) := rfl
theorem in0_z {a : Nat} (h : a ≠ 67 ∧ a ≠ 59 ∧ a ≠ 56 ∧ a ≠ 54 ∧ a ≠ 52 ∧ a ≠ 50 ∧ a ≠ 4 ∧ a ≠ 2 ∧ a ≠ 1) (b : Nat) : IN0 a b = iN 0 := by
  obtain ⟨h1, h2, h3, h4, h5, h6, h7, h8, h9⟩ := h
  rw [in0]
  simp only [h1, h2, h3, h4, h5, h6, h7, h8, h9, false_and, if_false]
  rfl
theorem inv_0 : INV IN0 σ0 := by
  have hz0 : z0 σ0 = 0 := rfl
  refine ⟨ok_0, ⟨⟨Nat.zero_le _, rfl, fun i hi => absurd hi (Nat.not_lt_zero _), rfl, rfl⟩, ⟨Nat.zero_le _, rfl, fun i hi => absurd hi (Nat.not_lt_zero _), rfl, rfl⟩, fun r hr => ?_, ⟨Nat.zero_le _, rfl, fun r hr => ?_, fun j hj => ?_, fun p hp => absurd hp (Nat.not_lt_zero _)⟩, fun j _ _ _ => in0_z (by decide) j, fun c => absurd rfl c, fun c => absurd rfl c, ⟨rfl, fun k hk => absurd hk (Nat.not_lt_zero _)⟩, fun s hs => ⟨?_, fun c => absurd rfl c⟩, rfl⟩, ⟨⟨by decide, by decide, rfl, fun i hi => absurd hi (Nat.not_lt_zero _)⟩, ⟨by decide, by decide, rfl, fun i hi => absurd hi (Nat.not_lt_zero _)⟩, fun r hr => ?_, rfl, fun k hk => absurd hk (Nat.not_lt_zero _), fun s hs => ?_, fun s hs c => absurd rfl c, rfl⟩⟩
  · rcases (show r = 0 ∨ r = 1 ∨ r = 2 ∨ r = 3 ∨ r = 4 ∨ r = 5 by omega) with rfl | rfl | rfl | rfl | rfl | rfl <;> rfl
  · rw [show r = 0 by omega]; rfl
  · rw [in0_z (by decide) j]
    show iN 0 = iN (stT 0 j)
    unfold stT
    by_cases e7 : j = 7
    · rw [if_pos e7]
    · by_cases e13 : j = 13
      · rw [if_neg e7, if_pos e13]
      · rw [if_neg e7, if_neg e13, if_neg (by omega)]
  · rcases (show s = 0 ∨ s = 1 ∨ s = 2 ∨ s = 3 by omega) with rfl | rfl | rfl | rfl <;> rfl
  · rcases (show r = 0 ∨ r = 1 ∨ r = 2 ∨ r = 3 ∨ r = 4 ∨ r = 5 by omega) with rfl | rfl | rfl | rfl | rfl | rfl <;> rfl
  · rcases (show s = 0 ∨ s = 1 ∨ s = 2 ∨ s = 3 by omega) with rfl | rfl | rfl | rfl <;> rfl
/-! a call of both -/
section LawStep
variable {G : CX} {I : HP} {σ σ' : SG}
theorem RM_hi {I' : HP} (h : RM I σ) (e : ∀ a, 58 ≤ a → I' a = I a) : RM I' σ := RM_fr h (fun a ha => e a (by omega)) (by rw [e 58 (by decide)]) (by rw [e 58 (by decide)])
theorem lawI {YX YM : YY} {AX AM : List Value} {r : Int32} {Q : HP → Bool → Prop} {K : HP → Prop} (hX : ∀ Q' : HP → Int32 → Prop, XP I σ' Q' r → RI G YX AX I Q') (hM : ∀ (I1 : HP) (Q' : HP → Int32 → Prop), RM I1 σ → MP I1 σ' Q' r → RI G YM AM I1 Q') (hRM : RM I σ) (ok : okS0 σ') (k : ∀ I2, INV I2 σ' → K I2) : RI G YX AX I (fun I6 r7 => RI G YM AM I6 (fun I8 r9 => ((r7 = r9) → K I8) ∧ ((¬ r7 = r9) → Q I8 false))) :=
  hX _ (fun I1 f1 hX1 => hM I1 _ (RM_hi hRM f1) (fun I2 f2 hM2 => ⟨fun _ => k I2 ⟨ok, RX_fr hX1 f2, hM2⟩, fun c => absurd rfl c⟩))
theorem lawJ {YX YM : YY} {AX AM : List Value} {r : Int64} {Q : HP → Bool → Prop} {K : HP → Prop} (hX : ∀ Q' : HP → Int64 → Prop, (∀ I', (∀ a, 58 ≤ a → I' a = I a) → RX I' σ' → Q' I' r) → RJ G YX AX I Q') (hM : ∀ (I1 : HP) (Q' : HP → Int64 → Prop), RM I1 σ → (∀ I', (∀ a, a < 58 → I' a = I1 a) → RM I' σ' → Q' I' r) → RJ G YM AM I1 Q') (hRM : RM I σ) (ok : okS0 σ') (k : ∀ I2, INV I2 σ' → K I2) : RJ G YX AX I (fun I6 r7 => RJ G YM AM I6 (fun I8 r9 => (((lg_cmp r7 r9) = 0) → K I8) ∧ ((¬ (lg_cmp r7 r9) = 0) → Q I8 false))) :=
  hX _ (fun I1 f1 hX1 => hM I1 _ (RM_hi hRM f1) (fun I2 f2 hM2 => ⟨fun _ => k I2 ⟨ok, RX_fr hX1 f2, hM2⟩, fun c => absurd (by rw [lg_cmp_eq]) c⟩))
end LawStep
