/-! ===== calls of the class: type, wipe, undo, set ===== -/
/-- a whole text without its last verse is whole -/
theorem ff_ok {f : Nat → Int32} {n : Nat} (h2 : n = 0 ∨ n % 5 = 4) : ∀ k i, i + k = n → (∀ j, i ≤ j → j < n → fitB (f j) (j % 5) = true) → ff f n k i = -1
  | 0, i, h, e => by
    unfold ff
    rw [if_pos h2]
  | k + 1, i, h, e => by
    unfold ff
    rw [if_pos (e i (Nat.le_refl _) (by omega))]
    exact ff_ok h2 k (i + 1) (by omega) (fun j h1 h2 => e j (by omega) h2)
theorem sz_cut {f : Nat → Int32} {n : Nat} (h : szT f n ≠ 0) : szT f (if szT f n = 1 then 0 else 5 * (szT f n - 1) - 1) = szT f n - 1 := by
  obtain ⟨e1, e2, e3⟩ := sz_fit (f := f) (n := n) (v := 0) (by omega)
  have ez : szT f n = (n + 1) / 5 := by unfold szT; rw [if_pos e1]
  have hm := (ff_fit f n n 0 (by omega) e1).2
  generalize hz : szT f n = z at h ez ⊢
  generalize hM : (if z = 1 then 0 else 5 * (z - 1) - 1) = m
  have hm2 : m ≤ n ∧ (m = 0 ∨ m % 5 = 4) ∧ (m + 1) / 5 = z - 1 := by
    rw [← hM]
    split <;> omega
  have e : flw f m = -1 := ff_ok hm2.2.1 m 0 (by omega) (fun j _ hj => e3 j (by omega))
  unfold szT
  rw [if_pos e]
  exact hm2.2.2
section XType
variable {G : CX} {I : HP} {σ : SG}
theorem okS0_t {f : Nat → Nat → Int32} {n : Nat → Nat} (h0 : okS0 σ) (h : ∀ t, t < 2 → n t ≤ tcap t) : okS0 (f, n, σ.2.2) := ⟨h, h0.2⟩
theorem RX_s (hX : RX I σ) {t : Nat} (ht : t ≤ 1) : isS I (2 + 2 * t) (sF σ t) (sN σ t) := by
  rcases (show t = 0 ∨ t = 1 by omega) with rfl | rfl
  · exact hX.1
  · exact hX.2.1
theorem RXp_t {I' : HP} {f : Nat → Nat → Int32} {n : Nat → Nat} {t : Nat} (hX : RX I σ) (ht : t ≤ 1) (fr : frx [2 + 2 * t, 2 + 2 * t + 1] I I') (hs : isS I' (2 + 2 * t) (f t) (n t)) (ho : ∀ u, u ≤ 1 → u ≠ t → f u = sF σ u ∧ n u = sN σ u) : RXp I' (f, n, σ.2.2) := by
  have all : ∀ u, u ≤ 1 → isS I' (2 + 2 * u) (f u) (n u) := by
    intro u hu
    by_cases e : u = t
    · rw [e]; exact hs
    · obtain ⟨e1, e2⟩ := ho u hu e
      rw [e1, e2]
      exact isS_fr (RX_s hX hu) (fr _ (by simp; omega)) (fr _ (by simp; omega))
  have far : ∀ a, a < 2 ∨ 6 ≤ a → I' a = I a := fun a ha => fr a (by simp; omega)
  obtain ⟨-, -, h3, h4, h5, h6, h7, h8⟩ := RX_p hX
  refine ⟨all 0 (by decide), all 1 (by decide), ?_, ?_, ?_, ?_, ?_, ?_⟩
  · rw [far 1 (by decide)]; exact h3
  · unfold stZ; rw [far (6 + 2) (by decide)]; exact h4
  · rw [far 24 (by decide)]; exact h5
  · rw [far 46 (by decide), far 47 (by decide), far 48 (by decide)]; exact h6
  · intro s hs
    rw [far (50 + 2 * s) (by omega), far (51 + 2 * s) (by omega)]; exact h7 s hs
  · rw [far 0 (by decide)]; exact h8
theorem scN_t {t : Nat} (ht : t ≤ 1) : scN (2 + 2 * t) = tcap t := by
  rcases (show t = 0 ∨ t = 1 by omega) with rfl | rfl <;> rfl
theorem scr_t {t : Nat} (ht : t ≤ 1) : isScr (2 + 2 * t) := by
  rcases (show t = 0 ∨ t = 1 by omega) with rfl | rfl
  · exact Or.inl rfl
  · exact Or.inr rfl
theorem X_wipe {Q : HP → Int32 → Prop} {a : Int32} (h0 : okS0 σ) (hX : RX I σ) (h : XP I (nx_wipe σ a) Q (an_wipe σ a)) : RI G Y_X7_wipe [.ref 0, .int a] I Q := by
  refine v_X7_wipe (s_isText ?_)
  rw [bI_0]
  unfold an_wipe nx_wipe at h
  rcases okA_cases a 1 with c | ⟨t, ht, ea, htn, hok⟩
  · rw [c] at h
    exact ⟨fun q => absurd c q, fun _ => h I (fun _ _ => rfl) hX⟩
  · rw [hok, htn] at h
    refine ⟨fun _ => ?_, fun q => absurd (hok.symm.trans q) (by decide)⟩
    subst ea
    have ht1 : t ≤ 1 := by omega
    have hS := RX_s hX ht1
    refine s_scriptOf ht1 ⟨scr_t ht1, s_shorten (m := 0) (scr_t ht1) hS (Nat.zero_le _) (fun I1 f1 S1 => ?_)⟩
    rw [hS.2.1]
    refine s_tellAnew (σ := (sF σ, fun u => if u = t then 0 else sN σ u, σ.2.2)) (okS0_t h0 (fun u hu => ?_)) (RXp_t hX ht1 (frx_mo f1 (by simp)) (by simp only [if_true]; exact S1) (fun u hu e => ⟨rfl, if_neg e⟩)) (fun I2 f2 _ hX2 => ?_)
    · have := h0.1 u hu
      show (if u = t then 0 else sN σ u) ≤ tcap u
      split <;> omega
    · refine h I2 (fun a ha => (f2 a ha).trans (f1 a (by simp; omega))) hX2
theorem X_undo {Q : HP → Int32 → Prop} {a : Int32} (h0 : okS0 σ) (hX : RX I σ) (h : XP I (nx_undo σ a) Q (an_undo σ a)) : RI G Y_X7_undo [.ref 0, .int a] I Q := by
  refine v_X7_undo (s_isText ?_)
  rw [bI_0]
  unfold an_undo nx_undo at h
  rcases okA_cases a 1 with c | ⟨t, ht, ea, htn, hok⟩
  · rw [c] at h
    exact ⟨fun q => absurd c q, fun _ => h I (fun _ _ => rfl) hX⟩
  · rw [hok, htn] at h
    refine ⟨fun _ => ?_, fun q => absurd (hok.symm.trans q) (by decide)⟩
    subst ea
    have ht1 : t ≤ 1 := by omega
    have hS := RX_s hX ht1
    have hb := szT_bd (sF σ t) (sN σ t)
    have hcap := h0.1 t (by omega)
    have hc59 : tcap t ≤ 59 := by unfold tcap; split <;> omega
    have ez : zT σ t = szT (sF σ t) (sN σ t) := rfl
    refine s_scriptOf ht1 ⟨scr_t ht1, ?_⟩
    rw [hS.2.2.2.2, l0, iN_eq (by omega) (by omega)]
    refine ⟨fun c => ?_, fun c => ?_⟩
    · have hz : zT σ t ≠ 0 := by omega
      simp only [Bool.true_and, decide_eq_true hz, if_true, if_neg hz] at h
      refine s_dropLast2 (scr_t ht1) hS (by omega) (fun I1 f1 S1 => ?_)
      refine s_tellAnew (σ := (sF σ, fun u => if u = t then (if zT σ u = 1 then 0 else 5 * (zT σ u - 1) - 1) else sN σ u, σ.2.2)) (okS0_t h0 (fun u hu => ?_)) (RXp_t hX ht1 (frx_mo f1 (by simp)) (by simp only [if_true]; exact S1) (fun u hu e => ⟨rfl, if_neg e⟩)) (fun I2 f2 g2 hX2 => ?_)
      · have := h0.1 u hu
        show (if u = t then (if zT σ u = 1 then 0 else 5 * (zT σ u - 1) - 1) else sN σ u) ≤ tcap u
        split
        · rename_i e
          subst e
          split <;> omega
        · exact this
      · have e3 : I2 (2 + 2 * t) 3 = iN (zT σ t - 1 : Nat) := by
          have q := (RX_s hX2 ht1).2.2.2.2
          rw [q]
          show iN (szT (sF σ t) (if t = t then (if zT σ t = 1 then 0 else 5 * (zT σ t - 1) - 1) else sN σ t) : Nat) = _
          have cut := sz_cut (f := sF σ t) (n := sN σ t) (by omega)
          rw [← ez] at cut
          rw [if_pos rfl, cut]
        rw [e3]
        exact h I2 (fun a ha => (f2 a ha).trans (f1 a (by simp; omega))) hX2
    · have hz : zT σ t = 0 := by omega
      have h' : XP I σ Q (iN (-3)) := by simpa [hz] using h
      exact h' I (fun _ _ => rfl) hX
theorem X_type {Q : HP → Int32 → Prop} {a b : Int32} (h0 : okS0 σ) (hX : RX I σ) (h : XP I (nx_type σ a b) Q (an_type σ a b)) : RI G Y_X7_type [.ref 0, .int a, .int b] I Q := by
  refine v_X7_type (s_isText ?_)
  rw [bI_0]
  unfold an_type nx_type at h
  rcases okA_cases a 1 with c | ⟨t, ht, ea, htn, hok⟩
  · rw [c] at h
    exact ⟨fun _ => h I (fun _ _ => rfl) hX, fun q => absurd c q⟩
  · rw [hok, htn] at h
    refine ⟨fun q => absurd (hok.symm.trans q) (by decide), fun _ => ?_⟩
    subst ea
    have ht1 : t ≤ 1 := by omega
    have hS := RX_s hX ht1
    have hcap := h0.1 t (by omega)
    have hc59 : tcap t ≤ 59 := by unfold tcap; split <;> omega
    obtain ⟨z, hz, eb, ezb⟩ := i32 b
    have bad : okA b 255 = false → Q I (-2 : Int32) := by
      intro c
      have h' : XP I σ Q (iN (-2)) := by simpa [c] using h
      exact h' I (fun _ _ => rfl) hX
    have c255 : okA b 255 = decide (0 ≤ z ∧ z ≤ 255) := by unfold okA; rw [ezb]
    rw [show (b < 0) = (iN z < iN 0) by rw [eb]; rfl, show (b ≤ 255) = (iN z ≤ iN 255) by rw [eb]; rfl, iN_lt (by omega) (by omega), iN_le (by omega) (by omega)]
    refine ⟨fun c1 => bad (by rw [c255]; exact decide_eq_false (by omega)), fun c1 => ⟨fun c2 => ?_, fun c2 => bad (by rw [c255]; exact decide_eq_false (by omega))⟩⟩
    have cb : okA b 255 = true := by rw [c255]; exact decide_eq_true (by omega)
    refine s_scriptOf ht1 ⟨scr_t ht1, s_isFull2 (scr_t ht1) hS.1 hS.2.1 ?_⟩
    rw [scN_t ht1, bI_0]
    by_cases cf : sN σ t = tcap t
    · rw [decide_eq_true cf]
      have h' : XP I σ Q (iN (-4)) := by simpa [cf, cb] using h
      exact ⟨fun w => absurd w (by decide), fun _ => h' I (fun _ _ => rfl) hX⟩
    · rw [decide_eq_false cf]
      rw [cb, if_neg cf] at h
      simp only [Bool.true_and, ne_eq, cf, not_false_eq_true, decide_true, if_true] at h
      refine ⟨fun _ => ?_, fun w => absurd rfl w⟩
      refine s_append (scr_t ht1) hS (by rw [scN_t ht1]; omega) (fun I1 f1 S1 => ?_)
      refine s_tellAnew (σ := (fun u => if u = t then upd (sF σ u) (sN σ u) b else sF σ u, fun u => if u = t then sN σ u + 1 else sN σ u, σ.2.2)) (okS0_t h0 (fun u hu => ?_)) (RXp_t hX ht1 f1 (by simp only [if_true]; exact S1) (fun u hu e => ⟨if_neg e, if_neg e⟩)) (fun I2 f2 g2 hX2 => ?_)
      · have := h0.1 u hu
        show (if u = t then sN σ u + 1 else sN σ u) ≤ tcap u
        split
        · rename_i e; subst e; omega
        · exact this
      · have e1 : I2 (2 + 2 * t) 1 = iN (sN σ t + 1 : Nat) := by
          have q := (RX_s hX2 ht1).2.1
          rw [q]
          show iN ((if t = t then sN σ t + 1 else sN σ t : Nat) : Int) = _
          rw [if_pos rfl]
        rw [e1]
        exact h I2 (fun a ha => (f2 a ha).trans (f1 a (by simp; omega))) hX2
end XType
