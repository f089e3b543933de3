/-! ===== calls of the class: texts, settings ===== -/
/-- the class's state but what is told and found -/
def RXp (I : HP) (σ : SG) : Prop := isS I 2 (sF σ 0) (sN σ 0) ∧ isS I 4 (sF σ 1) (sN σ 1) ∧ (∀ r, r < 6 → I 1 r = iN (sR σ r)) ∧ stZ I 6 ∧ (∀ j, j < 15 → (j < 4 ∨ 9 ≤ j) → j ≠ 13 → I 24 j = iN 0) ∧ (I 46 2 = iN (sK σ) ∧ ∀ k, k < sK σ → I 47 k = iN (sB σ k) ∧ I 48 k = iN (sV σ k)) ∧
  (∀ s, s < 4 → I (50 + 2 * s) 1 = (if sFm σ s = -1 then 1 else 0) ∧ (sFm σ s ≠ -1 → I (50 + 2 * s) 2 = iN (sFm σ s) ∧ I (50 + 2 * s) 3 = iN (sSz σ s) ∧ ∀ i, i < sSz σ s → I (51 + 2 * s) i = sIt σ s i)) ∧ I 0 11 = iN (sLa σ)
section XText
variable {G : CX} {I : HP} {σ : SG}
theorem isTw_Z {T n : Nat} {R : Nat → Int} {vs : Nat → Nat → Int} (h : isTw I T R vs n) : stZ I T := by
  intro j hj h1 h2
  rw [h.2.2.2.1 j (by omega)]
  show iN (stT (R 0) j) = iN 0
  unfold stT
  rw [if_neg (by omega), if_neg h2, if_neg (by omega)]
theorem s_tellAnew {Q : HP → Prop} (h0 : okS0 σ) (hX : RXp I σ) (h : ∀ I', (∀ a, 58 ≤ a → I' a = I a) → (∀ a, 1 ≤ a → a ≤ 5 → I' a = I a) → RX I' σ → Q I') : RV G Y_X7_tellAnew [.ref 0] I Q := by
  obtain ⟨h1, h2, h3, h4, h5, h6, h7, h8⟩ := hX
  have hz := z0_le h0
  have hT : isTel 6 := Or.inl rfl
  have hN : teN 6 = 12 := rfl
  refine v_X7_tellAnew (s_open (R := sR σ) (vs := vsT (sF σ 0)) hT (fun r hr => h3 r (by omega)) h4 (fun I1 f1 L1 => ?_))
  refine s_addAll hT (Or.inl rfl) L1 h0.2.1 (isS_fr h1 (f1 2 (by omega)) (f1 3 (by omega))) (show szT (sF σ 0) (sN σ 0) ≤ teN 6 from by rw [hN]; exact hz) (fun v _ => rfl) (fun I2 f2 L2 => ?_)
  have fr : ∀ a, a < 6 ∨ 22 ≤ a → I2 a = I a := fun a ha => (f2 a (by omega)).trans (f1 a (by omega))
  have ne : ∀ a, a ≠ 0 → (st (st I2 0 9 (0 : Int32)) 0 10 (0 : Int32)) a = I2 a := fun a ha => by rw [st_ne1 ha, st_ne1 ha]
  have fr' : ∀ a, a ≠ 0 → a < 6 ∨ 22 ≤ a → (st (st I2 0 9 (0 : Int32)) 0 10 (0 : Int32)) a = I a := fun a ha hb => by rw [ne a ha, fr a hb]
  refine h _ (fun a ha => fr' a (by omega) (by omega)) (fun a ha hb => fr' a (by omega) (by omega)) ⟨isS_fr h1 (fr' 2 (by decide) (by decide)) (fr' 3 (by decide) (by decide)), isS_fr h2 (fr' 4 (by decide) (by decide)) (fr' 5 (by decide) (by decide)), ?_, ?_, ?_, ?_, ?_, ?_, ?_, ?_⟩
  · rw [fr' 1 (by decide) (by decide)]; exact h3
  · obtain ⟨q1, q2, q3, q4, q5⟩ := isTl_w L2
    exact ⟨q1, by rw [ne 6 (by decide)]; exact q2, fun r hr => by rw [ne 7 (by decide)]; exact q3 r hr, fun j hj => by rw [ne 8 (by decide)]; exact q4 j hj, fun p hp => tM_fr (q5 p hp) (ne _ (by omega))⟩
  · rw [fr' 24 (by decide) (by decide)]; exact h5
  · intro c
    rw [st_ne2 (by decide), st_self] at c
    exact absurd rfl c
  · intro c
    rw [st_self] at c
    exact absurd rfl c
  · rw [fr' 46 (by decide) (by decide), fr' 47 (by decide) (by decide), fr' 48 (by decide) (by decide)]; exact h6
  · intro s hs
    rw [fr' (50 + 2 * s) (by omega) (by omega), fr' (51 + 2 * s) (by omega) (by omega)]; exact h7 s hs
  · rw [st_ne2 (by decide), st_ne2 (by decide), fr 0 (by omega)]; exact h8
/-- a call of the class ends -/
def XP (I : HP) (σ' : SG) (Q : HP → Int32 → Prop) (r : Int32) : Prop := ∀ I', (∀ a, 58 ≤ a → I' a = I a) → RX I' σ' → Q I' r
theorem RX_p (h : RX I σ) : RXp I σ := by
  obtain ⟨h1, h2, h3, h4, h5, h6, h7, h8, h9, h10⟩ := h
  exact ⟨h1, h2, h3, isTw_Z h4, h5, h8, h9, h10⟩
theorem s_isText {Q : HP → Bool → Prop} {a : Int32} (h : Q I (okA a 1)) : RZ G Y_X7_isText [.int a] I Q := by
  refine v_X7_isText ?_
  rcases okA_cases a 1 with c | ⟨t, ht, ea, htn, hok⟩
  · rw [c] at h
    have e : a.toInt ≠ 0 ∧ a.toInt ≠ 1 := by
      have : ¬ (0 ≤ a.toInt ∧ a.toInt ≤ 1) := by simpa [okA] using c
      omega
    exact ⟨fun w => absurd (by rw [w]; rfl) e.1, fun _ => ⟨fun _ => h, fun w => absurd (by rw [w]; rfl) e.2⟩⟩
  · rw [hok] at h
    rw [ea, l0, l1, iN_eq (by omega) (by omega), iN_eq (by omega) (by omega)]
    exact ⟨fun _ => h, fun c => ⟨fun c2 => absurd c2 (by omega), fun _ => h⟩⟩
theorem s_scriptOf {Q : HP → Nat → Prop} {t : Nat} (ht : t ≤ 1) (h : Q I (2 + 2 * t)) : RA G Y_X7_scriptOf [.ref 0, .int (iN t)] I Q := by
  refine v_X7_scriptOf ?_
  rw [l0, iN_eq (by omega) (by omega)]
  refine ⟨fun c => ?_, fun c => ?_⟩
  · rw [show t = 1 by omega] at h; exact h
  · rw [show t = 0 by omega] at h; exact h
theorem X_fault {Q : HP → Int32 → Prop} {a : Int32} (h0 : okS0 σ) (hX : RX I σ) (h : XP I σ Q (an_fault σ a)) : RI G Y_X7_fault [.ref 0, .int a] I Q := by
  refine v_X7_fault (s_isText ?_)
  rw [bI_0]
  unfold an_fault at h
  rcases okA_cases a 1 with c | ⟨t, ht, ea, htn, hok⟩
  · rw [c] at h
    exact ⟨fun _ => h I (fun _ _ => rfl) hX, fun q => absurd c q⟩
  · rw [hok, htn] at h
    refine ⟨fun q => absurd (hok.symm.trans q) (by decide), fun _ => ?_⟩
    subst ea
    have hh := h I (fun _ _ => rfl) hX
    rcases (show t = 0 ∨ t = 1 by omega) with rfl | rfl
    · refine s_scriptOf (by omega) ⟨Or.inl rfl, ?_⟩
      rw [show I (2 + 2 * 0) 2 = iN (flw (sF σ 0) (sN σ 0)) from hX.1.2.2.2.1]; exact hh
    · refine s_scriptOf (by omega) ⟨Or.inr rfl, ?_⟩
      rw [show I (2 + 2 * 1) 2 = iN (flw (sF σ 1) (sN σ 1)) from hX.2.1.2.2.2.1]; exact hh
end XText
