/-! ===== calls of the class: set ===== -/
section XSet
variable {G : CX} {I : HP} {σ : SG}
theorem lsF_i : ∀ t : Fin 6, lsF t.1 = iN (lsI t.1) ∧ msF t.1 = iN (msI t.1) := by decide
theorem okS0_r {t : Nat} {v : Int} (h0 : okS0 σ) (ht : t ≤ 5) (hv : lsI t ≤ v ∧ v ≤ msI t) : okS0 (sF σ, sN σ, fun r => if r = t then v else sR σ r, σ.2.2.2) := by
  obtain ⟨h1, ⟨r0, r1, r2, r3, r4⟩, h3, h4⟩ := h0
  unfold lsI msI at hv
  refine ⟨h1, ⟨?_, ?_, ?_, ?_, ?_⟩, ?_, h4⟩
  · show 0 ≤ (if 0 = t then v else sR σ 0) ∧ (if 0 = t then v else sR σ 0) ≤ 99
    split
    · rename_i e; subst e; simpa using hv
    · exact r0
  · show 1 ≤ (if 1 = t then v else sR σ 1) ∧ (if 1 = t then v else sR σ 1) ≤ 99
    split
    · rename_i e; subst e; simpa using hv
    · exact r1
  · show 0 ≤ (if 2 = t then v else sR σ 2) ∧ (if 2 = t then v else sR σ 2) ≤ 9
    split
    · rename_i e; subst e; simpa using hv
    · exact r2
  · show 0 ≤ (if 3 = t then v else sR σ 3) ∧ (if 3 = t then v else sR σ 3) ≤ 99
    split
    · rename_i e; subst e
      have : 0 ≤ v ∧ v ≤ 9 := by simpa using hv
      omega
    · exact r3
  · show 0 ≤ (if 4 = t then v else sR σ 4) ∧ (if 4 = t then v else sR σ 4) ≤ 1
    split
    · rename_i e; subst e; simpa using hv
    · exact r4
  · show 0 ≤ (if 5 = t then v else sR σ 5) ∧ (if 5 = t then v else sR σ 5) ≤ 4095
    split
    · rename_i e; subst e; simpa using hv
    · exact h3
theorem X_set {Q : HP → Int32 → Prop} {a b : Int32} (h0 : okS0 σ) (hX : RX I σ) (h : XP I (nx_set σ a b) Q (an_set σ a b)) : RI G Y_X7_set [.ref 0, .int a, .int b] I Q := by
  refine v_X7_set ?_
  unfold an_set nx_set okSet at h
  obtain ⟨za, hza, ea, eza⟩ := i32 a
  obtain ⟨z, hz, eb, ez⟩ := i32 b
  rw [ez] at h
  have bad : (okA a 5 && decide (lsI (tn a) ≤ z ∧ z ≤ msI (tn a))) = false → Q I (-2 : Int32) := by
    intro c
    rw [c] at h
    exact h I (fun _ _ => rfl) hX
  have c5 : okA a 5 = decide (0 ≤ za ∧ za ≤ 5) := by unfold okA; rw [eza]
  rw [show (a < 0) = (iN za < iN 0) by rw [ea]; rfl, show (a < 6) = (iN za < iN 6) by rw [ea]; rfl, iN_lt (by omega) (by omega), iN_lt (by omega) (by omega)]
  refine ⟨fun c => bad (by rw [c5, decide_eq_false (by omega)]; rfl), fun c => ⟨fun c2 => ?_, fun c2 => bad (by rw [c5, decide_eq_false (by omega)]; rfl)⟩⟩
  obtain ⟨t, et⟩ : ∃ t : Nat, za = t := ⟨za.toNat, by omega⟩
  have htn : tn a = t := by unfold tn; omega
  have ok5 : okA a 5 = true := by rw [c5]; exact decide_eq_true (by omega)
  obtain ⟨g1, g2⟩ := lsF_i ⟨t, by omega⟩
  have g1 : lsF t = iN (lsI t) := g1
  have g2 : msF t = iN (msI t) := g2
  have hls : 0 ≤ lsI t ∧ lsI t ≤ 1 := by unfold lsI; split <;> omega
  have hms : 1 ≤ msI t ∧ msI t ≤ 4095 := by unfold msI; split; omega; split; omega; split <;> omega
  have na : nn a = t := htn
  refine ⟨by rw [ea, et]; exact (vp_iN (by omega)).mpr ⟨by omega, by omega⟩, ?_⟩
  rw [na, g1, g2, hX.2.2.1 t (by omega)]
  rw [htn, ok5] at h bad
  rw [show (b < iN (lsI t)) = (iN z < iN (lsI t)) by rw [eb], show (b ≤ iN (msI t)) = (iN z ≤ iN (msI t)) by rw [eb], iN_lt (by omega) (by omega), iN_le (by omega) (by omega)]
  refine ⟨fun c3 => bad (by rw [decide_eq_false (by omega)]; rfl), fun c3 => ⟨fun c4 => ?_, fun c4 => bad (by rw [decide_eq_false (by omega)]; rfl)⟩⟩
  have hv : lsI t ≤ z ∧ z ≤ msI t := by omega
  rw [decide_eq_true hv] at h
  simp only [Bool.and_self, if_true] at h
  have far : ∀ a, a ≠ 1 → (st I 1 t b) a = I a := fun a ha => st_ne1 ha
  obtain ⟨h1, h2, h3, h4, h5, h6, h7, h8⟩ := RX_p hX
  refine s_tellAnew (σ := (sF σ, sN σ, fun r => if r = t then z else sR σ r, σ.2.2.2)) (okS0_r h0 (by omega) hv) ⟨isS_fr h1 (far 2 (by decide)) (far 3 (by decide)), isS_fr h2 (far 4 (by decide)) (far 5 (by decide)), fun r hr => ?_, ?_, ?_, ?_, ?_, ?_⟩ (fun I2 f2 g2 hX2 => ?_)
  · show st I 1 t b 1 r = iN (if r = t then z else sR σ r)
    by_cases e : r = t
    · subst e; rw [st_self, if_pos rfl]; exact eb
    · rw [st_ne2 e, if_neg e]; exact h3 r hr
  · unfold stZ; rw [far (6 + 2) (by decide)]; exact h4
  · rw [far 24 (by decide)]; exact h5
  · rw [far 46 (by decide), far 47 (by decide), far 48 (by decide)]; exact h6
  · intro s hs
    rw [far (50 + 2 * s) (by omega), far (51 + 2 * s) (by omega)]; exact h7 s hs
  · rw [far 0 (by decide)]; exact h8
  · exact h I2 (fun a ha => (f2 a ha).trans (far a (by omega))) hX2
end XSet
