/-! ===== the class tells a poem: open, all verses, what comes of it ===== -/
/-- only the cells of a telling have changed -/
def frT (T : Nat) (I I' : HP) : Prop := ∀ a, a < T ∨ T + 4 + teN T ≤ a → I' a = I a
theorem frT_rf {T : Nat} {I : HP} : frT T I I := fun _ _ => rfl
theorem frT_tr {T : Nat} {I I1 I2 : HP} (h1 : frT T I I1) (h2 : frT T I1 I2) : frT T I I2 := fun a ha => (h2 a ha).trans (h1 a ha)
/-- a telling's start has nothing in the slots that never change -/
def stZ (I : HP) (T : Nat) : Prop := ∀ j, j < 15 → (j < 4 ∨ 9 ≤ j) → j ≠ 13 → I (T + 2) j = iN 0
section XTell
variable {G : CX} {I : HP}
theorem isTl_Z {T n : Nat} {R : Nat → Int} {vs : Nat → Nat → Int} (h : isTl I T R vs n) : stZ I T := by
  intro j hj h1 h2
  rw [h.2.2.2.1 j hj]
  show iN (stT (R 0) j) = iN 0
  unfold stT
  rw [if_neg (by omega), if_neg h2, if_neg (by omega)]
theorem s_open {Q : HP → Prop} {T : Nat} {R : Nat → Int} {vs : Nat → Nat → Int} (hT : isTel T) (hR : ∀ r, r < 5 → I 1 r = iN (R r)) (hZ : stZ I T) (h : ∀ I', frT T I I' → isTl I' T R vs 0 → Q I') : RV G Y_X5_open [.ref T, .ref 1] I Q := by
  have hN := teN_le T
  have hT6 : 6 ≤ T := by rcases hT with rfl | rfl <;> decide
  have hTp : 1 ≤ teN T := by rcases hT with rfl | rfl <;> decide
  refine v_X5_open hT ?_
  have loop : ∀ m r : Nat, r + m = 5 → ∀ I1, (∀ a, a ≠ T + 1 → I1 a = I a) → (∀ q, q < r → I1 (T + 1) q = iN (R q)) → GV G Y_X5_open 2 [(0, .ref T), (1, .ref 1), (2, .int (iN r))] I1 Q := by
    intro m
    induction m with
    | zero =>
      intro r hr I1 e0 e1
      refine v_X5_open_2 hT ⟨fun _ => ?_, fun w => absurd (by rw [l5, iN_le (by omega) (by omega)]; omega) w⟩
      rw [st_ne1 (by omega), e1 0 (by omega)]
      refine s_beStart (tel_st hT) (fun j hj h1 h2 => ?_) (fun I2 f2 s2 => ?_)
      · rw [st_ne1 (by omega), e0 _ (by omega)]; exact hZ j hj h1 h2
      · refine h I2 (fun a ha => ?_) ⟨Nat.zero_le _, ?_, fun q hq => ?_, s2, fun p hp => absurd hp (Nat.not_lt_zero _)⟩
        · rw [f2 a (by simp; omega), st_ne1 (by omega), e0 a (by omega)]
        · rw [f2 T (by simp), st_self]; rfl
        · rw [f2 (T + 1) (by simp), st_ne1 (by omega)]; exact e1 q (by omega)
    | succ m ih =>
      intro r hr I1 e0 e1
      refine v_X5_open_2 hT ⟨fun w => absurd w (by rw [l5, iN_le (by omega) (by omega)]; omega), fun _ => ⟨fun w => absurd w (by rw [l6, iN_le (by omega) (by omega)]; omega), fun _ => ⟨(vp_iN (by omega)).mpr ⟨by omega, by omega⟩, (vp_iN (by omega)).mpr ⟨by omega, by omega⟩, ?_⟩⟩⟩
      rw [show nn (iN (r : Int)) = r from nn_nat (by omega), show iN (r : Int) + (1 : Int32) = iN ((r + 1 : Nat) : Int) from iN_add r 1, e0 1 (by omega), hR r (by omega)]
      refine ih (r + 1) (by omega) _ (fun a ha => by rw [st_ne1 ha]; exact e0 a ha) (fun q hq => ?_)
      by_cases e : q = r
      · subst e; rw [st_self]
      · rw [st_ne2 e]; exact e1 q (by omega)
  exact loop 5 0 (by omega) I (fun _ _ => rfl) (fun q hq => absurd hq (Nat.not_lt_zero _))
theorem s_changeLead {Q : HP → Prop} {T : Nat} {R : Nat → Int} {vs : Nat → Nat → Int} {l : Int} (hT : isTel T) (hL : isTl I T R vs 0) (h : ∀ I', frT T I I' → isTl I' T (rL R l) vs 0 → Q I') : RV G Y_X5_changeLead [.ref T, .int (iN l)] I Q := by
  have hTp : 1 ≤ teN T := by rcases hT with rfl | rfl <;> decide
  obtain ⟨h1, h2, h3, h4, -⟩ := id hL
  have hZ := isTl_Z hL
  refine v_X5_changeLead hT (s_beStart (tel_st hT) (fun j hj q1 q2 => by rw [st_ne1 (by omega)]; exact hZ j hj q1 q2) (fun I2 f2 s2 => ?_))
  refine h I2 (fun a ha => ?_) ⟨Nat.zero_le _, ?_, fun q hq => ?_, s2, fun p hp => absurd hp (Nat.not_lt_zero _)⟩
  · rw [f2 a (by simp; omega), st_ne1 (by omega)]
  · rw [f2 T (by simp), st_ne1 (by omega)]; exact h2
  · rw [f2 (T + 1) (by simp)]
    cases q with
    | zero => rw [st_self]; rfl
    | succ q => rw [st_ne2 (by omega)]; exact h3 (q + 1) hq
theorem s_addAll {Q : HP → Prop} {T b m : Nat} {R : Nat → Int} {vs : Nat → Nat → Int} {f : Nat → Int32} (hT : isTel T) (hb : isScr b) (hL : isTl I T R vs 0) (hR : okR R) (hS : isS I b f m) (hz : szT f m ≤ teN T) (hvs : ∀ v, v < szT f m → vs v = vd f v) (h : ∀ I', frT T I I' → isTl I' T R vs (szT f m) → Q I') : RV G Y_X5_addAll [.ref T, .ref b] I Q := by
  have hN := teN_le T
  have hbT := scr_tel hb hT
  have hok : okVs vs (szT f m) := fun p hp => by rw [hvs p hp]; exact vd_ok hp
  refine v_X5_addAll hT hb ?_
  have loop : ∀ q v : Nat, v + q = szT f m → ∀ I1, frT T I I1 → isTl I1 T R vs v → GV G Y_X5_addAll 2 [(0, .ref T), (1, .ref b), (2, .int (iN v))] I1 Q := by
    intro q
    induction q with
    | zero =>
      intro v hv I1 f1 L1
      have e3 : I1 b 3 = iN (szT f m) := by rw [f1 b (by omega)]; exact hS.2.2.2.2
      refine v_X5_addAll_2 hT hb ⟨fun _ => h I1 f1 (by rw [← show v = szT f m by omega]; exact L1), fun w => absurd (by rw [e3, iN_le (by omega) (by omega)]; omega) w⟩
    | succ q ih =>
      intro v hv I1 f1 L1
      have e3 : I1 b 3 = iN (szT f m) := by rw [f1 b (by omega)]; exact hS.2.2.2.2
      have S1 : isS I1 b f m := isS_fr hS (f1 b (by omega)) (f1 (b + 1) (by omega))
      refine v_X5_addAll_2 hT hb ⟨fun w => absurd w (by rw [e3, iN_le (by omega) (by omega)]; omega), fun _ => ?_⟩
      refine s_add hT hb L1 (by omega) hR (fun p hp => hok p (by omega)) S1 (by omega) (fun j _ => by rw [hvs v (by omega)]) (fun I2 f2 L2 => ?_)
      rw [show iN (v : Int) + (1 : Int32) = iN ((v + 1 : Nat) : Int) from iN_add v 1]
      exact ih (v + 1) (by omega) I2 (frT_tr f1 (fun a ha => f2 a (by simp; omega))) L2
  exact loop (szT f m) 0 (by omega) I frT_rf hL
theorem s_isWhole {Q : HP → Bool → Prop} {T n : Nat} {R : Nat → Int} {vs : Nat → Nat → Int} (hT : isTel T) (hL : isTl I T R vs n) (hR : okR R) (hv : okVs vs n) (h : Q I (whB R vs n)) : RZ G Y_X5_isWholeWithoutPause [.ref T] I Q := by
  have hN := teN_le T
  have hn := hL.1
  have ha := isTl_at hL (Nat.le_refl n)
  obtain ⟨b9, b10, b11, b12, b13, b7⟩ := bd_tl hR hv n (Nat.le_refl _) (by omega)
  unfold whB at h
  refine v_X5_isWholeWithoutPause hT (s_last hT hL ⟨tc_tur hT hn, ?_⟩)
  rw [ha.1 7 (by decide), show (-1 : Int32) = iN (-1) from rfl, iN_eq (by omega) (by omega)]
  refine ⟨fun c => ?_, fun c => s_last hT hL ⟨tc_tur hT hn, ?_⟩⟩
  · rw [decide_eq_false (fun q => q.1 c)] at h; exact h
  · rw [ha.1 10 (by decide), l0, iN_eq (by omega) (by omega)]
    refine ⟨fun c2 => ?_, fun c2 => ?_⟩
    · rw [decide_eq_false (fun q => c2 q.2)] at h; exact h
    · rw [decide_eq_true ⟨c, c2⟩] at h; exact h
end XTell
