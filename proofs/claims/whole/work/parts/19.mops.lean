/-! ===== calls of the reference: texts, settings, verses, breaths ===== -/
theorem rng (a : Int32) (hi : Int) : (¬ (0 ≤ a.toInt ∧ a.toInt ≤ hi)) ∨ ∃ t : Nat, (t : Int) ≤ hi ∧ a = iN t ∧ a.toInt = t := by
  by_cases h : 0 ≤ a.toInt ∧ a.toInt ≤ hi
  · refine Or.inr ⟨a.toInt.toNat, by omega, ?_, by omega⟩
    rw [show ((a.toInt.toNat : Nat) : Int) = a.toInt by omega]
    exact iN_of a
  · exact Or.inl h
def tn (a : Int32) : Nat := a.toInt.toNat
def okA (a : Int32) (hi : Int) : Bool := decide (0 ≤ a.toInt ∧ a.toInt ≤ hi)
def an_type (σ : SG) (a b : Int32) : Int32 := if okA a 1 && okA b 255 then (if sN σ (tn a) = tcap (tn a) then iN (-4) else iN (sN σ (tn a) + 1 : Nat)) else iN (-2)
def nx_type (σ : SG) (a b : Int32) : SG := if okA a 1 && okA b 255 && decide (sN σ (tn a) ≠ tcap (tn a)) then (fun t => if t = tn a then upd (sF σ t) (sN σ t) b else sF σ t, fun t => if t = tn a then sN σ t + 1 else sN σ t, σ.2.2) else σ
def an_wipe (σ : SG) (a : Int32) : Int32 := if okA a 1 then iN (sN σ (tn a)) else iN (-2)
def nx_wipe (σ : SG) (a : Int32) : SG := if okA a 1 then (sF σ, fun t => if t = tn a then 0 else sN σ t, σ.2.2) else σ
def zT (σ : SG) (t : Nat) : Nat := szT (sF σ t) (sN σ t)
def an_undo (σ : SG) (a : Int32) : Int32 := if okA a 1 then (if zT σ (tn a) = 0 then iN (-3) else iN (zT σ (tn a) - 1 : Nat)) else iN (-2)
def nx_undo (σ : SG) (a : Int32) : SG := if okA a 1 && decide (zT σ (tn a) ≠ 0) then (sF σ, fun t => if t = tn a then (if zT σ t = 1 then 0 else 5 * (zT σ t - 1) - 1) else sN σ t, σ.2.2) else σ
def an_fault (σ : SG) (a : Int32) : Int32 := if okA a 1 then iN (flw (sF σ (tn a)) (sN σ (tn a))) else iN (-2)
def lsI (w : Nat) : Int := if w = 1 then 1 else 0
def msI (w : Nat) : Int := if w < 2 then 99 else if w < 4 then 9 else if w = 4 then 1 else 4095
def okSet (a b : Int32) : Bool := okA a 5 && decide (lsI (tn a) ≤ b.toInt ∧ b.toInt ≤ msI (tn a))
def an_set (σ : SG) (a b : Int32) : Int32 := if okSet a b then iN (sR σ (tn a)) else iN (-2)
def nx_set (σ : SG) (a b : Int32) : SG := if okSet a b then (sF σ, sN σ, fun r => if r = tn a then b.toInt else sR σ r, σ.2.2.2) else σ
def tσ (σ : SG) : Nat → (Nat → Int) := tl (sR σ) (vsT (sF σ 0))
def isV (σ : SG) (a : Int32) : Bool := decide (0 ≤ a.toInt ∧ a.toInt < z0 σ)
def an_verse (σ : SG) (a b : Int32) : Int32 := if isV σ a && okA b 5 then iN (if tn b = 3 then kd (sF σ 0) (tn a) else if tn b < 3 then fg (sF σ 0) (tn a) (tn b) else if tn b = 4 then tσ σ (tn a + 1) 1 else tσ σ (tn a + 1) 3) else iN (-2)
def an_when (σ : SG) (a b : Int32) : Int32 := if isV σ a && okA b 4 then iN (tσ σ (tn a + 1) (4 + tn b)) else iN (-2)
def an_poem (σ : SG) (a : Int32) : Int32 := if okA a 3 then iN (if tn a = 0 then (wrN (sR σ) (vsT (sF σ 0)) (z0 σ) : Int) else if tn a = 1 then lng (sR σ) (vsT (sF σ 0)) (z0 σ) else if tn a = 2 then tσ σ (z0 σ) 10 else tσ σ (z0 σ) 12) else iN (-2)
def an_judged (σ : SG) : Int32 := iN (fnd (jdB (sR σ) (vsT (sF σ 0))) (z0 σ) 0)
def an_rest (σ : SG) (a : Int32) : Int32 := if isV σ a then iN (if tσ σ (tn a + 1) 4 = -1 then -3 else tσ σ (tn a + 1) 14) else iN (-2)
def an_doing (σ : SG) (a b : Int32) : Int32 := if okA a 299 && okA b 2 then iN (if tn b = 0 then fnd (sdB (sR σ) (vsT (sF σ 0)) a.toInt) (z0 σ) 0 else if tn b = 1 then mdI (sR σ) (vsT (sF σ 0)) (z0 σ) a.toInt else fnd (hdB (sR σ) (vsT (sF σ 0)) a.toInt) (z0 σ) 0) else iN (-2)
section MOps
variable {G : CX} {I : HP} {σ : SG}
/-- a call of the reference ends: its cells, the class's are as they were -/
def MP (I : HP) (σ' : SG) (Q : HP → Int32 → Prop) (r : Int32) : Prop := ∀ I', (∀ a, a < 58 → I' a = I a) → RM I' σ' → Q I' r
theorem isM_n {t n m : Nat} {f : Nat → Int32} (h : isM I t f n) (hm : m ≤ n) (v : Int32) (hv : v = iN m) : isM (st I 64 t v) t f m := by
  obtain ⟨h1, h2, h3, h4⟩ := h
  exact ⟨h1, by split at h2 <;> (split <;> omega), by rw [st_self, hv], fun i hi => by rw [st_ne1 (by decide)]; exact h4 i (by omega)⟩
theorem isM_o {t u n : Nat} {f : Nat → Int32} {v : Int32} (h : isM I t f n) (hu : u ≠ t) : isM (st I 64 u v) t f n := by
  obtain ⟨h1, h2, h3, h4⟩ := h
  exact ⟨h1, h2, by rw [st_ne2 (Ne.symm hu)]; exact h3, fun i hi => by rw [st_ne1 (by decide)]; exact h4 i hi⟩
/-- the texts of a state, two of them -/
theorem RM_t (h : RM I σ) {t : Nat} (ht : t ≤ 1) : isM I t (sF σ t) (sN σ t) := by
  rcases (show t = 0 ∨ t = 1 by omega) with rfl | rfl
  · exact h.1
  · exact h.2.1
theorem RM_of {I' : HP} {f : Nat → Nat → Int32} {n : Nat → Nat} (h : RM I σ) (h2 : ∀ t, t ≤ 1 → isM I' t (f t) (n t)) (e : ∀ a, a = 59 ∨ a = 60 ∨ a = 61 ∨ a = 67 ∨ a = 78 ∨ a = 58 → I' a = I a) : RM I' (f, n, σ.2.2) := by
  obtain ⟨-, -, h3, h4, h5, h6, h7, h8⟩ := h
  refine ⟨h2 0 (by decide), h2 1 (by decide), ?_, ?_, ?_, ?_, ?_, ?_⟩
  · rw [e 67 (by simp)]; exact h3
  · rw [e 58 (by simp)]; exact h4
  · rw [e 78 (by simp)]; exact h5
  · rw [e 59 (by simp)]; exact h6
  · rw [e 60 (by simp), e 61 (by simp)]; exact h7
  · rw [e 58 (by simp)]; exact h8
theorem M_wipe {Q : HP → Int32 → Prop} {a : Int32} (h0 : okS0 σ) (hM : RM I σ) (h : MP I (nx_wipe σ a) Q (an_wipe σ a)) : RI G Y_X8_wipe [.ref 58, .int a] I Q := by
  refine v_X8_wipe (s_isTwo ?_)
  rw [bI_0]
  unfold an_wipe nx_wipe okA at h
  rcases rng a 1 with c | ⟨t, ht, ea, et⟩
  · rw [decide_eq_false c] at h ⊢
    exact ⟨fun q => absurd rfl q, fun _ => h I (fun _ _ => rfl) hM⟩
  · have htn : tn a = t := by unfold tn; omega
    rw [decide_eq_true (show 0 ≤ a.toInt ∧ a.toInt ≤ 1 by omega)] at h ⊢
    rw [htn] at h
    subst ea
    refine ⟨fun _ => ⟨vp_2 (by omega), ?_⟩, fun q => absurd q (by decide)⟩
    have hMt := RM_t hM (show t ≤ 1 by omega)
    rw [nn_2 (by omega), hMt.2.2.1]
    refine h _ (fun a ha => st_ne1 (by omega)) (RM_of hM (fun u hu => ?_) (fun a ha => st_ne1 (by omega)))
    by_cases e : u = t
    · subst e
      simp only [if_true]
      exact isM_n hMt (Nat.zero_le _) _ rfl
    · simp only [if_neg e]
      exact isM_o (RM_t hM hu) (Ne.symm e)
theorem M_fault {Q : HP → Int32 → Prop} {a : Int32} (h0 : okS0 σ) (hM : RM I σ) (h : MP I σ Q (an_fault σ a)) : RI G Y_X8_fault [.ref 58, .int a] I Q := by
  refine v_X8_fault (s_isTwo ?_)
  rw [bI_0]
  unfold an_fault okA at h
  rcases rng a 1 with c | ⟨t, ht, ea, et⟩
  · rw [decide_eq_false c] at h ⊢
    exact ⟨fun _ => h I (fun _ _ => rfl) hM, fun q => absurd rfl q⟩
  · have htn : tn a = t := by unfold tn; omega
    rw [decide_eq_true (show 0 ≤ a.toInt ∧ a.toInt ≤ 1 by omega)] at h ⊢
    rw [htn] at h
    subst ea
    refine ⟨fun q => absurd q (by decide), fun _ => s_readsText (RM_t hM (by omega)) (fun I1 f1 _ _ _ _ => ?_)⟩
    have f1' : frm scC scS I I1 := frm_mo f1 (by decide) (by decide)
    exact h I1 (lo_sc f1') (RM_sc hM f1')
theorem M_undo {Q : HP → Int32 → Prop} {a : Int32} (h0 : okS0 σ) (hM : RM I σ) (h : MP I (nx_undo σ a) Q (an_undo σ a)) : RI G Y_X8_undo [.ref 58, .int a] I Q := by
  refine v_X8_undo (s_isTwo ?_)
  rw [bI_0]
  unfold an_undo nx_undo okA at h
  rcases rng a 1 with c | ⟨t, ht, ea, et⟩
  · rw [decide_eq_false c] at h ⊢
    exact ⟨fun q => absurd rfl q, fun _ => h I (fun _ _ => rfl) hM⟩
  · have htn : tn a = t := by unfold tn; omega
    rw [decide_eq_true (show 0 ≤ a.toInt ∧ a.toInt ≤ 1 by omega)] at h ⊢
    rw [htn] at h
    subst ea
    refine ⟨fun _ => s_readsText (RM_t hM (by omega)) (fun I1 f1 a1 _ _ _ => ⟨vp_2 (by omega), ?_⟩), fun q => absurd q (by decide)⟩
    have f1' : frm scC scS I I1 := frm_mo f1 (by decide) (by decide)
    have hM1 := RM_sc hM f1'
    have hMt := RM_t hM1 (show t ≤ 1 by omega)
    have hb := szT_bd (sF σ t) (sN σ t)
    have hcap : sN σ t ≤ 59 := by have := hMt.2.1; split at this <;> omega
    have ez : zT σ t = szT (sF σ t) (sN σ t) := rfl
    rw [ez] at h
    have a65 : I1 65 t = iN (szT (sF σ t) (sN σ t)) := a1
    rw [nn_2 (by omega), a65, l0, l1, iN_eq (by omega) (by omega), iN_eq (by omega) (by omega)]
    have fin : ∀ m : Nat, m = (if szT (sF σ t) (sN σ t) = 1 then 0 else 5 * (szT (sF σ t) (sN σ t) - 1) - 1) → szT (sF σ t) (sN σ t) ≠ 0 → m ≤ sN σ t → ∀ v : Int32, v = iN m → Q (st I1 64 t v) ((st I1 64 t v) 65 t - iN 1) := by
      intro m hm hz hmn v hv
      rw [st_ne1 (by decide), a65, iN_sub]
      rw [if_neg hz] at h
      simp only [Bool.true_and, decide_eq_true hz, if_true] at h
      have hh := h (st I1 64 t v) (fun a ha => by rw [st_ne1 (by omega)]; exact lo_sc f1' a ha) (RM_of hM1 (fun u hu => ?_) (fun a ha => st_ne1 (by omega)))
      · rw [show ((szT (sF σ t) (sN σ t) - 1 : Nat) : Int) = (szT (sF σ t) (sN σ t) : Int) - 1 by omega] at hh
        exact hh
      · by_cases e : u = t
        · subst e
          simp only [if_true]
          have := isM_n hMt hmn v hv
          rw [hm] at this
          exact this
        · simp only [if_neg e]
          exact isM_o (RM_t hM1 hu) (Ne.symm e)
    have hwell : szT (sF σ t) (sN σ t) ≠ 0 → sN σ t = 5 * szT (sF σ t) (sN σ t) - 1 := by
      intro hz
      have hz2 : szT (sF σ t) (sN σ t) = (sN σ t + 1) / 5 ∧ flw (sF σ t) (sN σ t) = -1 := by
        unfold szT at hz ⊢
        split at hz
        · rename_i e; rw [if_pos e]; exact ⟨rfl, e⟩
        · exact absurd rfl hz
      have := (ff_fit (sF σ t) (sN σ t) (sN σ t) 0 (by omega) hz2.2).2
      omega
    refine ⟨fun c => ⟨fun c2 => ?_, fun c2 => ?_⟩, fun c => ?_⟩
    · have hw := hwell (by omega)
      refine fin _ rfl (by omega) (by rw [if_neg (by omega)]; omega) _ ?_
      rw [hMt.2.2.1, l5, iN_sub, if_neg (by omega)]
      congr 1
      omega
    · have hw := hwell (by omega)
      refine fin _ rfl (by omega) (by rw [if_pos (by omega)]; omega) _ ?_
      rw [hMt.2.2.1, l4, iN_sub, if_pos (by omega)]
      congr 1
      omega
    · have hz : szT (sF σ t) (sN σ t) = 0 := by omega
      have h' : MP I σ Q (iN (-3)) := by simpa [hz] using h
      exact h' I1 (lo_sc f1') hM1
theorem M_type {Q : HP → Int32 → Prop} {a b : Int32} (h0 : okS0 σ) (hM : RM I σ) (h : MP I (nx_type σ a b) Q (an_type σ a b)) : RI G Y_X8_type [.ref 58, .int a, .int b] I Q := by
  refine v_X8_type (s_isTwo ?_)
  rw [bI_0]
  unfold an_type nx_type okA at h
  rcases rng a 1 with c | ⟨t, ht, ea, et⟩
  · rw [decide_eq_false c] at h ⊢
    exact ⟨fun _ => h I (fun _ _ => rfl) hM, fun q => absurd rfl q⟩
  · have htn : tn a = t := by unfold tn; omega
    rw [decide_eq_true (show 0 ≤ a.toInt ∧ a.toInt ≤ 1 by omega)] at h ⊢
    rw [htn] at h
    subst ea
    refine ⟨fun q => absurd q (by decide), fun _ => s_in3 0 255 (by decide) (by decide) ?_⟩
    rw [bI_0]
    have hMt := RM_t hM (show t ≤ 1 by omega)
    have hcap : sN σ t ≤ 59 ∧ (t = 1 → sN σ t ≤ 19) := by have := hMt.2.1; split at this <;> omega
    have fin : okA b 255 = true → sN σ t ≠ tcap t → ((vp_in (((60 : Int32) * iN t) + (I 64 (nn (iN t)))) 120) ∧ (∀ I11 : HP, I11 = (st (st I 63 (nn (((60 : Int32) * iN t) + (I 64 (nn (iN t))))) b) 64 (nn (iN t)) (((st I 63 (nn (((60 : Int32) * iN t) + (I 64 (nn (iN t))))) b) 64 (nn (iN t))) + (1 : Int32))) → Q I11 (I11 64 (nn (iN t))))) := by
      intro hb hc
      have hb' : decide (0 ≤ b.toInt ∧ b.toInt ≤ 255) = true := hb
      rw [hb', if_neg hc] at h
      simp only [Bool.true_and, decide_eq_true hc, if_true] at h
      have hc' : (t = 0 → sN σ t < 59) ∧ (t = 1 → sN σ t < 19) := by unfold tcap at hc; split at hc <;> omega
      rw [nn_2 (by omega), hMt.2.2.1, l60, iN_mul, iN_add]
      refine ⟨(vp_iN (by omega)).mpr ⟨by omega, by omega⟩, fun I11 e11 => ?_⟩
      rw [show nn (iN (60 * (t : Int) + sN σ t)) = 60 * t + sN σ t by rw [nn, nn_iN (by omega) (by omega)]; omega, st_ne1 (by decide), hMt.2.2.1, l1, iN_add] at e11
      have e64 : I11 64 t = iN (sN σ t + 1 : Nat) := by rw [e11, st_self]; rfl
      rw [e64]
      refine h I11 (fun a ha => by rw [e11, st_ne1 (by omega), st_ne1 (by omega)]) (RM_of hM (fun u hu => ?_) (fun a ha => by rw [e11, st_ne1 (by omega), st_ne1 (by omega)]))
      by_cases e : u = t
      · subst e
        simp only [if_true]
        refine ⟨by omega, by split <;> omega, e64, fun i hi => ?_⟩
        rw [e11, st_ne1 (by decide)]
        by_cases ei : i = sN σ u
        · subst ei; rw [st_self]; simp [upd]
        · rw [st_ne2 (by omega), hMt.2.2.2 i (by omega)]; simp [upd, ei]
      · simp only [if_neg e]
        obtain ⟨q1, q2, q3, q4⟩ := RM_t hM hu
        refine ⟨q1, q2, by rw [e11, st_ne2 e, st_ne1 (by decide)]; exact q3, fun i hi => ?_⟩
        have hu2 : sN σ u ≤ 59 := by split at q2 <;> omega
        rw [e11, st_ne1 (by decide), st_ne2 (by omega)]; exact q4 i hi
    have full : okA b 255 = true → sN σ t = tcap t → Q I (-4 : Int32) := by
      intro hb hc
      have hb' : decide (0 ≤ b.toInt ∧ b.toInt ≤ 255) = true := hb
      have h' : MP I σ Q (iN (-4)) := by simpa [hc, hb'] using h
      exact h' I (fun _ _ => rfl) hM
    refine ⟨fun hb => ⟨vp_2 (by omega), ?_⟩, fun hb => ?_⟩
    · have hb' : okA b 255 = true := decide_eq_true (by simpa using hb)
      have fin := fin hb'
      have full := full hb'
      rw [show I 64 (nn (iN (t : Int))) = iN (sN σ t) by rw [nn_2 (by omega)]; exact hMt.2.2.1] at fin ⊢
      rw [l0, l19, l59, iN_eq (by omega) (by omega), iN_eq (by omega) (by omega), iN_eq (by omega) (by omega)]
      refine ⟨fun c => ⟨fun c2 => fin (by unfold tcap; rw [if_neg (by omega)]; omega), fun c2 => full (by unfold tcap; rw [if_neg (by omega)]; omega)⟩, fun c => ⟨fun c2 => fin (by unfold tcap; rw [if_pos (by omega)]; omega), fun c2 => full (by unfold tcap; rw [if_pos (by omega)]; omega)⟩⟩
    · rw [hb] at h
      exact h I (fun _ _ => rfl) hM
theorem RM_R {R' : Nat → Int} {v : Int32} {t : Nat} (h : RM I σ) (ht : ∀ r, r < 6 → R' r = if r = t then v.toInt else sR σ r) : RM (st I 67 t v) (sF σ, sN σ, R', σ.2.2.2) := by
  obtain ⟨h1, h2, h3, h4, h5, h6, h7, h8⟩ := h
  refine ⟨isM_fr h1 (st_ne1 (by decide)) (st_ne1 (by decide)), isM_fr h2 (st_ne1 (by decide)) (st_ne1 (by decide)), fun r hr => ?_, ?_, ?_, ?_, ?_, ?_⟩
  · show st I 67 t v 67 r = iN (R' r)
    rw [ht r hr]
    by_cases e : r = t
    · subst e; rw [st_self, if_pos rfl]; exact iN_of v
    · rw [st_ne2 e, if_neg e]; exact h3 r hr
  · rw [st_ne1 (by decide)]; exact h4
  · rw [st_ne1 (by decide)]; exact h5
  · rw [st_ne1 (by decide)]; exact h6
  · rw [st_ne1 (by decide), st_ne1 (by decide)]; exact h7
  · rw [st_ne1 (by decide)]; exact h8
theorem s_most {Q : HP → Int32 → Prop} {t : Nat} (ht : t ≤ 5) (h : Q I (iN (msI t))) : RI G Y_X8_most [.int (iN t)] I Q := by
  refine v_X8_most ?_
  rw [l2, l4, iN_le (by omega) (by omega), iN_le (by omega) (by omega), iN_eq (by omega) (by omega)]
  unfold msI at h
  refine ⟨fun c => ⟨fun c2 => ⟨fun c3 => ?_, fun c3 => ?_⟩, fun c2 => ?_⟩, fun c => ?_⟩
  · rw [if_neg (by omega), if_neg (by omega), if_neg (by omega)] at h; exact h
  · rw [if_neg (by omega), if_neg (by omega), if_pos (by omega)] at h; exact h
  · rw [if_neg (by omega), if_pos (by omega)] at h; exact h
  · rw [if_pos (by omega)] at h; exact h
theorem M_set {Q : HP → Int32 → Prop} {a b : Int32} (h0 : okS0 σ) (hM : RM I σ) (h : MP I (nx_set σ a b) Q (an_set σ a b)) : RI G Y_X8_set [.ref 58, .int a, .int b] I Q := by
  refine v_X8_set (s_in3 0 5 (by decide) (by decide) ?_)
  rw [bI_0]
  unfold an_set nx_set okSet okA at h
  rcases rng a 5 with c | ⟨t, ht, ea, et⟩
  · rw [decide_eq_false c] at h ⊢
    exact ⟨fun _ => h I (fun _ _ => rfl) hM, fun q => absurd rfl q⟩
  · have htn : tn a = t := by unfold tn; omega
    rw [decide_eq_true (show 0 ≤ a.toInt ∧ a.toInt ≤ 5 by omega)] at h ⊢
    rw [htn] at h
    simp only [Bool.true_and] at h
    subst ea
    have hms : 1 ≤ msI t ∧ msI t ≤ 4095 := by unfold msI; split; omega; split; omega; split <;> omega
    refine ⟨fun q => absurd q (by decide), fun _ => ?_⟩
    have fin : ∀ lo : Int, lo = lsI t → ((¬ decide (lo ≤ b.toInt ∧ b.toInt ≤ msI t) = false → ((vp_in (iN t) 6) ∧ (Q (st I 67 (nn (iN t)) b) (I 67 (nn (iN t)))))) ∧ (decide (lo ≤ b.toInt ∧ b.toInt ≤ msI t) = false → (Q I (-2 : Int32)))) := by
      intro lo hlo
      rw [hlo]
      refine ⟨fun c => ⟨(vp_iN (by omega)).mpr ⟨by omega, by omega⟩, ?_⟩, fun c => ?_⟩
      · have c' : decide (lsI t ≤ b.toInt ∧ b.toInt ≤ msI t) = true := by simpa using c
        rw [c'] at h
        simp only [if_true] at h
        rw [show nn (iN (t : Int)) = t from nn_nat (by omega), hM.2.2.1 t (by omega)]
        exact h _ (fun a ha => st_ne1 (by omega)) (RM_R hM (fun r hr => rfl))
      · rw [c] at h
        exact h I (fun _ _ => rfl) hM
    have e64 : (iN (msI t)).toInt64.toInt = msI t := by rw [Int32.toInt_toInt64, iN_toInt (by omega) (by omega)]
    rw [l1, iN_eq (by omega) (by omega)]
    refine ⟨fun c => s_most (by omega) (s_in3 0 (msI t) (by decide) e64 ?_), fun c => s_most (by omega) (s_in3 1 (msI t) (by decide) e64 ?_)⟩
    · rw [bI_0]; exact fin 0 (by unfold lsI; rw [if_neg (by omega)])
    · rw [bI_0]; exact fin 1 (by unfold lsI; rw [if_pos (by omega)])
theorem s_isVerse8 {Q : HP → Bool → Prop} {a : Int32} (h0 : okS0 σ) (h65 : I 65 0 = iN (z0 σ)) (h : Q I (isV σ a)) : RZ G Y_X8_isVerse [.ref 58, .int a] I Q := by
  have hz := z0_le h0
  refine v_X8_isVerse ?_
  rw [h65, l1, iN_sub]
  refine s_in3 0 ((z0 σ : Int) - 1) (by decide) (by rw [Int32.toInt_toInt64, iN_toInt (by omega) (by omega)]) ?_
  unfold isV at h
  rw [show decide (0 ≤ a.toInt ∧ a.toInt ≤ (z0 σ : Int) - 1) = decide (0 ≤ a.toInt ∧ a.toInt < (z0 σ : Int)) from decide_eq_decide.mpr (by omega)]
  exact h
theorem isV_cases (a : Int32) : isV σ a = false ∨ ∃ v : Nat, v < z0 σ ∧ a = iN v ∧ tn a = v ∧ isV σ a = true := by
  rcases rng a ((z0 σ : Int) - 1) with c | ⟨t, ht, ea, et⟩
  · exact Or.inl (decide_eq_false (by omega))
  · exact Or.inr ⟨t, by omega, ea, by unfold tn; omega, decide_eq_true (by omega)⟩
theorem okA_cases (a : Int32) (hi : Int) : okA a hi = false ∨ ∃ v : Nat, (v : Int) ≤ hi ∧ a = iN v ∧ tn a = v ∧ okA a hi = true := by
  rcases rng a hi with c | ⟨t, ht, ea, et⟩
  · exact Or.inl (decide_eq_false c)
  · exact Or.inr ⟨t, ht, ea, by unfold tn; omega, decide_eq_true (by omega)⟩
theorem M_poemOf {Q : HP → Int32 → Prop} {k : Nat} (hF : mF I σ) (hk : k ≤ 3) (h : Q I (iN (if k = 0 then (wrN (sR σ) (vsT (sF σ 0)) (z0 σ) : Int) else if k = 1 then lng (sR σ) (vsT (sF σ 0)) (z0 σ) else if k = 2 then tσ σ (z0 σ) 10 else tσ σ (z0 σ) 12))) : RI G Y_X8_poemOf [.ref 58, .int (iN k)] I Q := by
  obtain ⟨-, -, -, -, -, -, -, h20, h21, h22, h23⟩ := hF
  refine v_X8_poemOf ?_
  rw [l0, l1, l2, iN_eq (by omega) (by omega), iN_eq (by omega) (by omega), iN_eq (by omega) (by omega), h20, h21, h22, h23]
  refine ⟨fun c => ⟨fun c1 => ⟨fun c2 => ?_, fun c2 => ?_⟩, fun c1 => ?_⟩, fun c => ?_⟩
  · rw [if_neg (by omega), if_neg (by omega), if_neg (by omega)] at h; exact h
  · rw [if_neg (by omega), if_neg (by omega), if_pos (by omega)] at h; exact h
  · rw [if_neg (by omega), if_pos (by omega)] at h; exact h
  · rw [if_pos (by omega)] at h; exact h
theorem M_poem {Q : HP → Int32 → Prop} {a : Int32} (h0 : okS0 σ) (hM : RM I σ) (h : MP I σ Q (an_poem σ a)) : RI G Y_X8_poem [.ref 58, .int a] I Q := by
  refine v_X8_poem (s_find h0 hM (fun I1 f1 hM1 hF => s_in3 0 3 (by decide) (by decide) ?_))
  rw [bI_0]
  unfold an_poem at h
  rcases okA_cases a 3 with c | ⟨t, ht, ea, htn, hok⟩
  · rw [c] at h
    exact ⟨fun _ => h I1 (lo_sc f1) hM1, fun q => absurd c q⟩
  · rw [hok, htn] at h
    refine ⟨fun q => absurd (hok.symm.trans q) (by decide), fun _ => ?_⟩
    subst ea
    exact M_poemOf hF (by omega) (h I1 (lo_sc f1) hM1)
theorem M_judgedNow {Q : HP → Int32 → Prop} (h0 : okS0 σ) (hF : mF I σ) (h : Q I (an_judged σ)) : RI G Y_X8_judgedNow [.ref 58] I Q := by
  obtain ⟨-, -, -, -, hr, hs⟩ := hF
  have hn := hr.2.1
  refine v_X8_judgedNow ?_
  have loop : ∀ m p : Nat, p + m = z0 σ → Q I (iN (fnd (jdB (sR σ) (vsT (sF σ 0))) m p)) → GI G Y_X8_judgedNow 2 [(0, .ref 58), (1, .int (iN p))] I Q := by
    intro m
    induction m with
    | zero =>
      intro p hp hq
      exact v_X8_judgedNow_2 ⟨fun _ => hq, fun q => absurd (by rw [hr.1, iN_le (by omega) (by omega)]; omega) q⟩
    | succ m ih =>
      intro p hp hq
      refine v_X8_judgedNow_2 ⟨fun q => absurd q (by rw [hr.1, iN_le (by omega) (by omega)]; omega), fun _ => ⟨(vp_iN (by omega)).mpr ⟨by omega, by omega⟩, ?_⟩⟩
      have b7 := tl_bd h0.2.1 (okVT _ _) hn (show p < z0 σ by omega) 7 (by decide) (by decide)
      have b8 := tl_bd h0.2.1 (okVT _ _) hn (show p < z0 σ by omega) 8 (by decide) (by decide)
      have e74 : I 74 p = iN (tl (sR σ) (vsT (sF σ 0)) (p + 1) 7) := hs.2.1 p (by omega) 7 (by decide) (by decide)
      have e75 : I 75 p = iN (tl (sR σ) (vsT (sF σ 0)) (p + 1) 8) := hs.2.1 p (by omega) 8 (by decide) (by decide)
      rw [show nn (iN (p : Int)) = p from nn_nat (by omega), e74, e75, show (-1 : Int32) = iN (-1) from rfl, l0, l1, iN_add, iN_eq (by omega) (by omega), iN_eq (by omega) (by omega)]
      rw [fnd_s] at hq
      refine ⟨fun c => ?_, fun c => ⟨fun c2 => ?_, fun c2 => ?_⟩⟩
      · rw [if_pos (show jdB (sR σ) (vsT (sF σ 0)) p = true from decide_eq_true (Or.inl c))] at hq; exact hq
      · rw [if_neg (by simp [jdB, c, c2])] at hq
        exact ih (p + 1) (by omega) hq
      · rw [if_pos (show jdB (sR σ) (vsT (sF σ 0)) p = true from decide_eq_true (Or.inr c2))] at hq; exact hq
  exact loop (z0 σ) 0 (by omega) h
theorem M_judged {Q : HP → Int32 → Prop} (h0 : okS0 σ) (hM : RM I σ) (h : MP I σ Q (an_judged σ)) : RI G Y_X8_judged [.ref 58] I Q :=
  v_X8_judged (s_find h0 hM (fun I1 f1 hM1 hF => M_judgedNow h0 hF (h I1 (lo_sc f1) hM1)))
theorem M_rest {Q : HP → Int32 → Prop} {a : Int32} (h0 : okS0 σ) (hM : RM I σ) (h : MP I σ Q (an_rest σ a)) : RI G Y_X8_rest [.ref 58, .int a] I Q := by
  refine v_X8_rest (s_find h0 hM (fun I1 f1 hM1 hF => s_isVerse8 h0 hF.1 ?_))
  rw [bI_0]
  unfold an_rest at h
  rcases isV_cases (σ := σ) a with c | ⟨t, ht, ea, htn, hok⟩
  · rw [c] at h ⊢
    exact ⟨fun _ => h I1 (lo_sc f1) hM1, fun q => absurd rfl q⟩
  · rw [hok, htn] at h
    refine ⟨fun q => absurd (hok.symm.trans q) (by decide), fun _ => ?_⟩
    subst ea
    exact s_restOf hF.2.2.2.2.1 hF.2.2.2.2.2 h0.2.1 (okVT _ _) (hM1.2.2.1 0 (by decide)) ht (h I1 (lo_sc f1) hM1)
theorem M_whenOf {Q : HP → Int32 → Prop} {v k : Nat} (hF : mF I σ) (hv : v < z0 σ) (hk : k ≤ 4) (h : Q I (iN (tσ σ (v + 1) (4 + k)))) : RI G Y_X8_whenOf [.ref 58, .int (iN v), .int (iN k)] I Q := by
  obtain ⟨-, -, -, -, hr, hs⟩ := hF
  have hn := hr.2.1
  have vpi : vp_in (iN (v : Int)) 14 := (vp_iN (by omega)).mpr ⟨by omega, by omega⟩
  have e := fun j (h4 : 4 ≤ j) (h8 : j ≤ 8) => hs.2.1 v hv j h4 h8
  refine v_X8_whenOf ?_
  rw [show nn (iN (v : Int)) = v from nn_nat (by omega), l0, l1, l2, l3, iN_eq (by omega) (by omega), iN_eq (by omega) (by omega), iN_eq (by omega) (by omega), iN_eq (by omega) (by omega)]
  refine ⟨fun c0 => ⟨fun c1 => ⟨fun c2 => ⟨fun c3 => ⟨vpi, ?_⟩, fun c3 => ⟨vpi, ?_⟩⟩, fun c2 => ⟨vpi, ?_⟩⟩, fun c1 => ⟨vpi, ?_⟩⟩, fun c0 => ⟨vpi, ?_⟩⟩
  · rw [show I 75 v = _ from e 8 (by decide) (by decide)]; rw [show k = 4 by omega] at h; exact h
  · rw [show I 74 v = _ from e 7 (by decide) (by decide)]; rw [show k = 3 by omega] at h; exact h
  · rw [show I 73 v = _ from e 6 (by decide) (by decide)]; rw [show k = 2 by omega] at h; exact h
  · rw [show I 72 v = _ from e 5 (by decide) (by decide)]; rw [show k = 1 by omega] at h; exact h
  · rw [show I 71 v = _ from e 4 (by decide) (by decide)]; rw [show k = 0 by omega] at h; exact h
theorem M_when {Q : HP → Int32 → Prop} {a b : Int32} (h0 : okS0 σ) (hM : RM I σ) (h : MP I σ Q (an_when σ a b)) : RI G Y_X8_when [.ref 58, .int a, .int b] I Q := by
  refine v_X8_when (s_find h0 hM (fun I1 f1 hM1 hF => s_isVerse8 h0 hF.1 ?_))
  rw [bI_0]
  unfold an_when at h
  rcases isV_cases (σ := σ) a with c | ⟨t, ht, ea, htn, hok⟩
  · rw [c] at h ⊢
    exact ⟨fun _ => h I1 (lo_sc f1) hM1, fun q => absurd rfl q⟩
  · rw [hok, htn] at h
    refine ⟨fun q => absurd (hok.symm.trans q) (by decide), fun _ => s_in3 0 4 (by decide) (by decide) ?_⟩
    rw [bI_0]
    rcases okA_cases b 4 with c | ⟨k, hk, eb, hbn, hbk⟩
    · rw [c] at h
      exact ⟨fun _ => h I1 (lo_sc f1) hM1, fun q => absurd c q⟩
    · rw [hbk, hbn] at h
      refine ⟨fun q => absurd (hbk.symm.trans q) (by decide), fun _ => ?_⟩
      subst ea; subst eb
      exact M_whenOf hF ht (by omega) (h I1 (lo_sc f1) hM1)
theorem M_verseOf {Q : HP → Int32 → Prop} {v k : Nat} (h0 : okS0 σ) (hF : mF I σ) (hv : v < z0 σ) (hk : k ≤ 5) (h : Q I (iN (if k = 3 then kd (sF σ 0) v else if k < 3 then fg (sF σ 0) v k else if k = 4 then tσ σ (v + 1) 1 else tσ σ (v + 1) 3))) : RI G Y_X8_verseOf [.ref 58, .int (iN v), .int (iN k)] I Q := by
  obtain ⟨-, -, ht, -, hr, hs⟩ := hF
  have hn := hr.2.1
  have hz := z0_le h0
  have vpi : vp_in (iN (v : Int)) 14 := (vp_iN (by omega)).mpr ⟨by omega, by omega⟩
  obtain ⟨t1, t2⟩ := ht v hv
  have e : tp 0 v = 4 * v := by unfold tp; omega
  rw [e] at t1 t2
  refine v_X8_verseOf ?_
  rw [show nn (iN (v : Int)) = v from nn_nat (by omega), l4, iN_mul, iN_add, iN_le (by omega) (by omega), iN_eq (by omega) (by omega)]
  refine ⟨fun c => ⟨fun c2 => ⟨vpi, ?_⟩, fun c2 => ⟨vpi, ?_⟩⟩, fun c => ⟨(vp_iN (by omega)).mpr ⟨by omega, by omega⟩, ?_⟩⟩
  · rw [if_neg (by omega), if_neg (by omega), if_neg (by omega)] at h
    rw [(hs.1 v hv).2]; exact h
  · rw [if_neg (by omega), if_neg (by omega), if_pos (by omega)] at h
    rw [(hs.1 v hv).1]; exact h
  · rw [show nn (iN (4 * (v : Int) + k)) = 4 * v + k by rw [nn, nn_iN (by omega) (by omega)]; omega]
    by_cases c3 : k = 3
    · subst c3
      rw [if_pos rfl] at h
      rw [t2]; exact h
    · rw [if_neg c3, if_pos (by omega)] at h
      rw [t1 k (by omega)]; exact h
theorem M_verse {Q : HP → Int32 → Prop} {a b : Int32} (h0 : okS0 σ) (hM : RM I σ) (h : MP I σ Q (an_verse σ a b)) : RI G Y_X8_verse [.ref 58, .int a, .int b] I Q := by
  refine v_X8_verse (s_find h0 hM (fun I1 f1 hM1 hF => s_isVerse8 h0 hF.1 ?_))
  rw [bI_0]
  unfold an_verse at h
  rcases isV_cases (σ := σ) a with c | ⟨t, ht, ea, htn, hok⟩
  · rw [c] at h ⊢
    exact ⟨fun _ => h I1 (lo_sc f1) hM1, fun q => absurd rfl q⟩
  · rw [hok, htn] at h
    refine ⟨fun q => absurd (hok.symm.trans q) (by decide), fun _ => s_in3 0 5 (by decide) (by decide) ?_⟩
    rw [bI_0]
    rcases okA_cases b 5 with c | ⟨k, hk, eb, hbn, hbk⟩
    · rw [c] at h
      exact ⟨fun _ => h I1 (lo_sc f1) hM1, fun q => absurd c q⟩
    · rw [hbk, hbn] at h
      refine ⟨fun q => absurd (hbk.symm.trans q) (by decide), fun _ => ?_⟩
      subst ea; subst eb
      exact M_verseOf h0 hF ht (by omega) (h I1 (lo_sc f1) hM1)
theorem M_saysIn {Q : HP → Int32 → Prop} {b : Nat} (h0 : okS0 σ) (hF : mF I σ) (hb : b ≤ 299) (h : Q I (iN (fnd (sdB (sR σ) (vsT (sF σ 0)) b) (z0 σ) 0))) : RI G Y_X8_saysIn [.ref 58, .int (iN b)] I Q := by
  obtain ⟨-, -, -, -, hr, hs⟩ := hF
  have hn := hr.2.1
  refine v_X8_saysIn ?_
  have loop : ∀ m p : Nat, p + m = z0 σ → Q I (iN (fnd (sdB (sR σ) (vsT (sF σ 0)) b) m p)) → GI G Y_X8_saysIn 2 [(0, .ref 58), (1, .int (iN b)), (2, .int (iN p))] I Q := by
    intro m
    induction m with
    | zero =>
      intro p hp hq
      exact v_X8_saysIn_2 ⟨fun _ => hq, fun q => absurd (by rw [hr.1, iN_le (by omega) (by omega)]; omega) q⟩
    | succ m ih =>
      intro p hp hq
      have b4 := tl_bd h0.2.1 (okVT _ _) hn (show p < z0 σ by omega) 4 (by decide) (by decide)
      have b5 := tl_bd h0.2.1 (okVT _ _) hn (show p < z0 σ by omega) 5 (by decide) (by decide)
      have e71 : I 71 p = iN (tl (sR σ) (vsT (sF σ 0)) (p + 1) 4) := hs.2.1 p (by omega) 4 (by decide) (by decide)
      have e72 : I 72 p = iN (tl (sR σ) (vsT (sF σ 0)) (p + 1) 5) := hs.2.1 p (by omega) 5 (by decide) (by decide)
      refine v_X8_saysIn_2 ⟨fun q => absurd q (by rw [hr.1, iN_le (by omega) (by omega)]; omega), fun _ => ⟨(vp_iN (by omega)).mpr ⟨by omega, by omega⟩, ?_⟩⟩
      rw [show nn (iN (p : Int)) = p from nn_nat (by omega), e71, e72, show (-1 : Int32) = iN (-1) from rfl, l1, iN_add, iN_eq (by omega) (by omega), iN_lt (by omega) (by omega), iN_le (by omega) (by omega)]
      rw [fnd_s] at hq
      have no : sdB (sR σ) (vsT (sF σ 0)) b p = false → GI G Y_X8_saysIn 2 [(0, .ref 58), (1, .int (iN b)), (2, .int (iN ((p : Int) + 1)))] I Q := by
        intro c
        rw [if_neg (by rw [c]; decide)] at hq
        exact ih (p + 1) (by omega) hq
      refine ⟨fun c => no (decide_eq_false (by omega)), fun c => ⟨fun c2 => no (decide_eq_false (by omega)), fun c2 => ⟨fun c3 => no (decide_eq_false (by omega)), fun c3 => ?_⟩⟩⟩
      rw [if_pos (show sdB (sR σ) (vsT (sF σ 0)) b p = true from decide_eq_true (by omega))] at hq
      exact hq
  exact loop (z0 σ) 0 (by omega) h
theorem M_hasIn {Q : HP → Int32 → Prop} {b : Nat} (h0 : okS0 σ) (hF : mF I σ) (hb : b ≤ 299) (h : Q I (iN (fnd (hdB (sR σ) (vsT (sF σ 0)) b) (z0 σ) 0))) : RI G Y_X8_hasIn [.ref 58, .int (iN b)] I Q := by
  obtain ⟨-, -, -, -, hr, hs⟩ := hF
  have hn := hr.2.1
  refine v_X8_hasIn ?_
  have loop : ∀ m p : Nat, p + m = z0 σ → Q I (iN (fnd (hdB (sR σ) (vsT (sF σ 0)) b) m p)) → GI G Y_X8_hasIn 2 [(0, .ref 58), (1, .int (iN b)), (2, .int (iN p))] I Q := by
    intro m
    induction m with
    | zero =>
      intro p hp hq
      exact v_X8_hasIn_2 ⟨fun _ => hq, fun q => absurd (by rw [hr.1, iN_le (by omega) (by omega)]; omega) q⟩
    | succ m ih =>
      intro p hp hq
      have b4 := tl_bd h0.2.1 (okVT _ _) hn (show p < z0 σ by omega) 4 (by decide) (by decide)
      have b5 := tl_bd h0.2.1 (okVT _ _) hn (show p < z0 σ by omega) 5 (by decide) (by decide)
      have b6 := tl_bd h0.2.1 (okVT _ _) hn (show p < z0 σ by omega) 6 (by decide) (by decide)
      have b7 := tl_bd h0.2.1 (okVT _ _) hn (show p < z0 σ by omega) 7 (by decide) (by decide)
      have e71 : I 71 p = iN (tl (sR σ) (vsT (sF σ 0)) (p + 1) 4) := hs.2.1 p (by omega) 4 (by decide) (by decide)
      have e72 : I 72 p = iN (tl (sR σ) (vsT (sF σ 0)) (p + 1) 5) := hs.2.1 p (by omega) 5 (by decide) (by decide)
      have e73 : I 73 p = iN (tl (sR σ) (vsT (sF σ 0)) (p + 1) 6) := hs.2.1 p (by omega) 6 (by decide) (by decide)
      have e74 : I 74 p = iN (tl (sR σ) (vsT (sF σ 0)) (p + 1) 7) := hs.2.1 p (by omega) 7 (by decide) (by decide)
      refine v_X8_hasIn_2 ⟨fun q => absurd q (by rw [hr.1, iN_le (by omega) (by omega)]; omega), fun _ => ⟨(vp_iN (by omega)).mpr ⟨by omega, by omega⟩, ?_⟩⟩
      rw [show nn (iN (p : Int)) = p from nn_nat (by omega), e71, e72, e73, e74, show (-1 : Int32) = iN (-1) from rfl, l1, iN_add, iN_eq (by omega) (by omega), iN_eq (by omega) (by omega), iN_lt (by omega) (by omega), iN_le (by omega) (by omega), iN_le (by omega) (by omega)]
      rw [fnd_s] at hq
      have no : hdB (sR σ) (vsT (sF σ 0)) b p = false → GI G Y_X8_hasIn 2 [(0, .ref 58), (1, .int (iN b)), (2, .int (iN ((p : Int) + 1)))] I Q := by
        intro c
        rw [if_neg (by rw [c]; decide)] at hq
        exact ih (p + 1) (by omega) hq
      have yes : hdB (sR σ) (vsT (sF σ 0)) b p = true → Q I (iN p) := by
        intro c
        rw [if_pos c] at hq
        exact hq
      refine ⟨fun c => ?_, fun c => ?_⟩
      · have eh : hdB (sR σ) (vsT (sF σ 0)) b p = decide (tl (sR σ) (vsT (sF σ 0)) (p + 1) 4 ≠ -1 ∧ tl (sR σ) (vsT (sF σ 0)) (p + 1) 5 ≤ (b : Int) ∧ (b : Int) < tl (sR σ) (vsT (sF σ 0)) (p + 1) 7) := by unfold hdB; rw [if_neg c]
        rw [eh] at no yes
        exact ⟨fun c1 => no (decide_eq_false (by omega)), fun c1 => ⟨fun c2 => no (decide_eq_false (by omega)), fun c2 => ⟨fun c3 => no (decide_eq_false (by omega)), fun c3 => yes (decide_eq_true (by omega))⟩⟩⟩
      · have eh : hdB (sR σ) (vsT (sF σ 0)) b p = decide (tl (sR σ) (vsT (sF σ 0)) (p + 1) 4 ≠ -1 ∧ tl (sR σ) (vsT (sF σ 0)) (p + 1) 5 ≤ (b : Int) ∧ (b : Int) < tl (sR σ) (vsT (sF σ 0)) (p + 1) 6) := by unfold hdB; rw [if_pos c]
        rw [eh] at no yes
        exact ⟨fun c1 => no (decide_eq_false (by omega)), fun c1 => ⟨fun c2 => no (decide_eq_false (by omega)), fun c2 => ⟨fun c3 => no (decide_eq_false (by omega)), fun c3 => yes (decide_eq_true (by omega))⟩⟩⟩
  exact loop (z0 σ) 0 (by omega) h
theorem M_doingOf {Q : HP → Int32 → Prop} {b k : Nat} (h0 : okS0 σ) (hM : RM I σ) (hF : mF I σ) (hb : b ≤ 299) (hk : k ≤ 2) (h : Q I (iN (if k = 0 then fnd (sdB (sR σ) (vsT (sF σ 0)) b) (z0 σ) 0 else if k = 1 then mdI (sR σ) (vsT (sF σ 0)) (z0 σ) b else fnd (hdB (sR σ) (vsT (sF σ 0)) b) (z0 σ) 0))) : RI G Y_X8_doingOf [.ref 58, .int (iN b), .int (iN k)] I Q := by
  refine v_X8_doingOf ?_
  rw [l0, l1, iN_eq (by omega) (by omega), iN_eq (by omega) (by omega), hM.2.2.1 0 (by decide)]
  refine ⟨fun c => ⟨fun c2 => M_hasIn h0 hF hb ?_, fun c2 => s_makesIn hF.2.2.2.2.1 hF.2.2.2.2.2 h0.2.1 (okVT _ _) (by omega) ?_⟩, fun c => M_saysIn h0 hF hb ?_⟩
  · rw [if_neg (by omega), if_neg (by omega)] at h; exact h
  · rw [if_neg (by omega), if_pos (by omega)] at h; exact h
  · rw [if_pos (by omega)] at h; exact h
theorem M_doing {Q : HP → Int32 → Prop} {a b : Int32} (h0 : okS0 σ) (hM : RM I σ) (h : MP I σ Q (an_doing σ a b)) : RI G Y_X8_doing [.ref 58, .int a, .int b] I Q := by
  refine v_X8_doing (s_find h0 hM (fun I1 f1 hM1 hF => s_in3 0 299 (by decide) (by decide) ?_))
  rw [bI_0]
  unfold an_doing at h
  rcases okA_cases a 299 with c | ⟨t, ht, ea, htn, hok⟩
  · rw [c] at h
    exact ⟨fun _ => h I1 (lo_sc f1) hM1, fun q => absurd c q⟩
  · have hat : a.toInt = t := by
      have : tn a = t := htn
      have h2 : 0 ≤ a.toInt ∧ a.toInt ≤ 299 := by simpa [okA] using hok
      unfold tn at this; omega
    rw [hok, hat] at h
    refine ⟨fun q => absurd (hok.symm.trans q) (by decide), fun _ => s_in3 0 2 (by decide) (by decide) ?_⟩
    rw [bI_0]
    rcases okA_cases b 2 with c | ⟨k, hk, eb, hbn, hbk⟩
    · rw [c] at h
      exact ⟨fun _ => h I1 (lo_sc f1) hM1, fun q => absurd c q⟩
    · rw [hbk, hbn] at h
      refine ⟨fun q => absurd (hbk.symm.trans q) (by decide), fun _ => ?_⟩
      subst ea; subst eb
      exact M_doingOf h0 hM1 hF (by omega) (by omega) (h I1 (lo_sc f1) hM1)
end MOps
