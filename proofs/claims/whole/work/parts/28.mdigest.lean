/-! ===== calls of the reference: digest ===== -/
def hx (h : Int64) (r : Int32) : Int64 := (31 : Int64) * h + r.toInt64
def hxs (g : Nat → Int32) : Nat → Nat → Int64 → Int64 := fo (fun h k => hx h (g k))
theorem hxs_s (g : Nat → Int32) (m k : Nat) (h : Int64) : hxs g (m + 1) k h = hxs g m (k + 1) ((31 : Int64) * h + (g k).toInt64) := rfl
/-- a verse's part of the digest -/
def dgV (σ : SG) (h : Int64) (v : Nat) : Int64 := hx (hxs (fun k => an_when σ (iN v) (iN k)) 5 0 (hxs (fun k => an_verse σ (iN v) (iN k)) 6 0 h)) (an_rest σ (iN v))
def dgBr (σ : SG) (h : Int64) (b : Nat) : Int64 := hxs (fun k => an_doing σ (iN b) (iN k)) 3 0 h
def dgBs (σ : SG) (h : Int64) : Int64 := fo (dgBr σ) 10 0 (hx (hxs (fun k => an_poem σ (iN k)) 4 0 h) (an_judged σ))
def dgF (σ : SG) (h : Int64) : Int64 := hxs (fun t => an_fault σ (iN t)) 2 0 h
def dgO (σ : SG) (h : Int64) : Int64 := fo (fun h k => (31 : Int64) * h + od σ k) 4 0 h
def dgE (σ : SG) (h : Int64) : Int64 := hx (hxs (fun k => an_line σ (iN 5) (iN k)) 2 0 (hxs (fun k => an_line σ (iN (-1)) (iN k)) 2 0 (hx (dgO σ h) (an_drawn σ 7)))) (an_leads σ)
def dgM (σ : SG) (h : Int64) : Int64 := hx (hxs (fun k => an_order σ (iN ((k : Int) - 2))) 5 0 (hxs (fun k => an_put σ (iN k)) 6 0 h)) (an_lead σ)
def an_digest (σ : SG) : Int64 := dgE σ (dgM σ (dgBs σ (fo (dgV σ) (z0 σ) 0 (dgF σ (hxs (fun k => an_count σ (iN k)) 8 0 17)))))
theorem okA_n {k : Nat} {hi : Int} (h : (k : Int) ≤ hi) (h2 : k < 1000) : okA (iN k) hi = true ∧ tn (iN k) = k := by
  have e : (iN (k : Int)).toInt = k := iN_toInt (by omega) (by omega)
  exact ⟨decide_eq_true (by omega), by unfold tn; omega⟩
theorem isV_n {σ : SG} {v : Nat} (h : v < z0 σ) (h2 : v < 1000) : isV σ (iN v) = true := by
  have e : (iN (v : Int)).toInt = v := iN_toInt (by omega) (by omega)
  exact decide_eq_true (by omega)
section MDig
variable {G : CX} {I : HP} {σ : SG}
theorem mF2_rt {I' : HP} {t : Nat} (h0 : okS0 σ) (ht : t ≤ 1) (h : mF2 I σ) (f : frm [66, 65] [7] I I') (e1 : I' 65 t = iN (szT (sF σ t) (sN σ t))) (e2 : ∀ j, j ≠ t → I' 65 j = I 65 j) (e3 : tOK I' t (sF σ t) (sN σ t)) (e4 : ∀ j, j < tp t 0 ∨ tp t 0 + 48 ≤ j → I' 66 j = I 66 j) : mF2 I' σ := by
  have hz := z0_le h0
  have hz1 := z1_le h0
  obtain ⟨⟨h1, h2, h3, h4, h5, h6⟩, h7⟩ := h
  have ez0 : z0 σ = szT (sF σ 0) (sN σ 0) := rfl
  have ez1 : z1 σ = szT (sF σ 1) (sN σ 1) := rfl
  have e68 : I' 68 = I 68 := f.1 68 (by decide) (by decide)
  have t0 : tOK I' 0 (sF σ 0) (sN σ 0) := by
    rcases (show t = 0 ∨ t = 1 by omega) with rfl | rfl
    · exact e3
    · intro v hv
      obtain ⟨a, b⟩ := h3 v hv
      exact ⟨fun k hk => by rw [e4 _ (Or.inl (by unfold tp; omega))]; exact a k hk, by rw [e4 _ (Or.inl (by unfold tp; omega))]; exact b⟩
  have t1 : tOK I' 1 (sF σ 1) (sN σ 1) := by
    rcases (show t = 0 ∨ t = 1 by omega) with rfl | rfl
    · intro v hv
      obtain ⟨a, b⟩ := h4 v hv
      exact ⟨fun k hk => by rw [e4 _ (Or.inr (by unfold tp; omega))]; exact a k hk, by rw [e4 _ (Or.inr (by unfold tp; omega))]; exact b⟩
    · exact e3
  have n0 : I' 65 0 = iN (z0 σ) := by
    rcases (show t = 0 ∨ t = 1 by omega) with rfl | rfl
    · exact e1
    · rw [e2 0 (by decide)]; exact h1
  have n1 : I' 65 1 = iN (z1 σ) := by
    rcases (show t = 0 ∨ t = 1 by omega) with rfl | rfl
    · rw [e2 1 (by decide)]; exact h2
    · exact e1
  refine ⟨⟨n0, n1, t0, t1, ⟨by rw [f.2 11 (by decide)]; exact h5.1, h5.2.1, fun i hi => ⟨i, by omega, by rw [e68]; exact h7 i hi, tv_0 t0 (by omega)⟩⟩, ?_⟩, fun i hi => by rw [e68]; exact h7 i hi⟩
  obtain ⟨s1, s2, s3, s4, s5, s6⟩ := h6
  refine ⟨fun i hi => ?_, fun i hi j j1 j2 => ?_, by rw [f.2 20 (by decide)]; exact s3, by rw [f.2 21 (by decide)]; exact s4, by rw [f.2 22 (by decide)]; exact s5, by rw [f.2 23 (by decide)]; exact s6⟩
  · rw [f.1 69 (by decide) (by decide), f.1 70 (by decide) (by decide)]; exact s1 i hi
  · rw [f.1 (67 + j) (by omega) (by simp; omega)]; exact s2 i hi j j1 j2
theorem M_digest {Q : HP → Int64 → Prop} (h0 : okS0 σ) (hM : RM I σ) (h : ∀ I', (∀ a, a < 58 → I' a = I a) → RM I' σ → Q I' (an_digest σ)) : RJ G Y_X8_digest [.ref 58] I Q := by
  have hz := z0_le h0
  have up : ∀ k : Nat, iN (k : Int) + (1 : Int32) = iN ((k + 1 : Nat) : Int) := fun k => iN_add k 1
  have Rm : ∀ I1, frm scC scS I I1 → RM I1 σ := fun I1 f1 => RM_sc hM f1
  have fin : ∀ I1, frm scC scS I I1 → Q I1 (an_digest σ) := fun I1 f1 => h I1 (lo_sc f1) (Rm I1 f1)
  -- leads, line
  have d378 : ∀ m k : Nat, k + m = 2 → ∀ I1 x, frm scC scS I I1 → mF I1 σ → hx (hxs (fun k => an_line σ (iN 5) (iN k)) m k x) (an_leads σ) = an_digest σ → GJ G Y_X8_digest 378 [(0, .ref 58), (1, .long x), (3, .int (iN k))] I1 Q := by
    intro m
    induction m with
    | zero =>
      intro k hk I1 x f1 F1 e
      refine v_X8_digest_378 ⟨fun _ => M_leadsNow h0 (Rm I1 f1) (mF_G F1) (fun I2 f2 => ?_), fun w => absurd (by rw [l2, iN_le (by omega) (by omega)]; omega) w⟩
      have := fin I2 (frm_tr f1 (sa_sc f2))
      rw [← e] at this
      exact this
    | succ m ih =>
      intro k hk I1 x f1 F1 e
      refine v_X8_digest_378 ⟨fun w => absurd w (by rw [l2, iN_le (by omega) (by omega)]; omega), fun _ => ?_⟩
      rw [l5]
      refine M_lineOf h0 ⟨F1.1, F1.2.2.1, (Rm I1 f1).2.2.1 5 (by decide)⟩ (by omega) (by omega) ?_
      rw [up]
      refine ih (k + 1) (by omega) I1 _ f1 F1 ?_
      rw [← e, hxs_s]
      have ea : an_line σ (iN 5) (iN k) = iN (lnI σ 5 k) := by
        obtain ⟨o1, o2⟩ := okA_n (k := k) (hi := 1) (by omega) (by omega)
        unfold an_line
        rw [o1, o2]
        rfl
      rw [ea]
  have d351 : ∀ m k : Nat, k + m = 2 → ∀ I1 x, frm scC scS I I1 → mF I1 σ → hx (hxs (fun k => an_line σ (iN 5) (iN k)) 2 0 (hxs (fun k => an_line σ (iN (-1)) (iN k)) m k x)) (an_leads σ) = an_digest σ → GJ G Y_X8_digest 351 [(0, .ref 58), (1, .long x), (3, .int (iN k))] I1 Q := by
    intro m
    induction m with
    | zero =>
      intro k hk I1 x f1 F1 e
      exact v_X8_digest_351 ⟨fun _ => d378 2 0 (by omega) I1 x f1 F1 e, fun w => absurd (by rw [l2, iN_le (by omega) (by omega)]; omega) w⟩
    | succ m ih =>
      intro k hk I1 x f1 F1 e
      refine v_X8_digest_351 ⟨fun w => absurd w (by rw [l2, iN_le (by omega) (by omega)]; omega), fun _ => ?_⟩
      rw [show (-1 : Int32) = iN (-1) from rfl]
      refine M_lineOf h0 ⟨F1.1, F1.2.2.1, (Rm I1 f1).2.2.1 5 (by decide)⟩ (by omega) (by omega) ?_
      rw [up]
      have ea : an_line σ (iN (-1)) (iN k) = iN (lnI σ (-1) k) := by
        obtain ⟨o1, o2⟩ := okA_n (k := k) (hi := 1) (by omega) (by omega)
        unfold an_line
        rw [o1, o2]
        rfl
      rw [hxs_s (fun k => an_line σ (iN (-1)) (iN k)) m k x, ea] at e
      exact ih (k + 1) (by omega) I1 _ f1 F1 e
  have d312 : ∀ m k : Nat, k + m = 4 → ∀ I1 x, frm scC scS I I1 → mF I1 σ → hx (hxs (fun k => an_line σ (iN 5) (iN k)) 2 0 (hxs (fun k => an_line σ (iN (-1)) (iN k)) 2 0 (hx (fo (fun h k => (31 : Int64) * h + od σ k) m k x) (an_drawn σ 7)))) (an_leads σ) = an_digest σ → GJ G Y_X8_digest 312 [(0, .ref 58), (1, .long x), (3, .int (iN k))] I1 Q := by
    intro m
    induction m with
    | zero =>
      intro k hk I1 x f1 F1 e
      exact v_X8_digest_312 ⟨fun _ => M_drawnOf h0 F1 (d351 2 0 (by omega) I1 _ f1 F1 e), fun w => absurd (by rw [l4, iN_le (by omega) (by omega)]; omega) w⟩
    | succ m ih =>
      intro k hk I1 x f1 F1 e
      refine v_X8_digest_312 ⟨fun w => absurd w (by rw [l4, iN_le (by omega) (by omega)]; omega), fun _ => M_oddsOf h0 F1 (by omega) ?_⟩
      rw [up]
      exact ih (k + 1) (by omega) I1 _ f1 F1 e
  have d270 : ∀ m k : Nat, k + m = 5 → ∀ I1 x, frm scC scS I I1 → mG I1 σ → hO I1 (mn7 (z0 σ)) (ordB (sR σ) (sF σ 0) (z0 σ)) → dgE σ (hx (hxs (fun k => an_order σ (iN ((k : Int) - 2))) m k x) (an_lead σ)) = an_digest σ → GJ G Y_X8_digest 270 [(0, .ref 58), (1, .long x), (3, .int (iN ((k : Int) - 2)))] I1 Q := by
    intro m
    induction m with
    | zero =>
      intro k hk I1 x f1 G1 o1 e
      refine v_X8_digest_270 ⟨fun _ => M_leadNow h0 (Rm I1 f1) G1 (fun I2 f2 => s_find h0 (Rm I2 (frm_tr f1 (sa_sc f2))) (fun I3 f3 hM3 F3 => ?_)), fun w => absurd (by rw [l3, iN_le (by omega) (by omega)]; omega) w⟩
      exact d312 4 0 (by omega) I3 _ (frm_tr f1 (frm_tr (sa_sc f2) f3)) F3 e
    | succ m ih =>
      intro k hk I1 x f1 G1 o1 e
      refine v_X8_digest_270 ⟨fun w => absurd w (by rw [l3, iN_le (by omega) (by omega)]; omega), fun _ => M_tellsOrder h0 (by omega) G1.1 o1 (ordB_ne h0) ?_⟩
      rw [l1, iN_add, show ((k : Int) - 2 + 1) = ((k + 1 : Nat) : Int) - 2 by omega]
      refine ih (k + 1) (by omega) I1 _ f1 G1 o1 ?_
      rw [← e, hxs_s]
      have ea : an_order σ (iN ((k : Int) - 2)) = iN (ordA (sR σ) (sF σ 0) (z0 σ) ((k : Int) - 2)) := by
        unfold an_order
        rw [iN_toInt (by omega) (by omega), if_pos (by omega)]
      rw [ea]
  have d237 : ∀ m k : Nat, k + m = 6 → ∀ I1 x, frm scC scS I I1 → mG I1 σ → hB I1 (putB (sR σ) (sF σ 0) (z0 σ) (sF σ 1) (z1 σ)) → dgE σ (hx (hxs (fun k => an_order σ (iN ((k : Int) - 2))) 5 0 (hxs (fun k => an_put σ (iN k)) m k x)) (an_lead σ)) = an_digest σ → GJ G Y_X8_digest 237 [(0, .ref 58), (1, .long x), (3, .int (iN k))] I1 Q := by
    intro m
    induction m with
    | zero =>
      intro k hk I1 x f1 G1 b1 e
      refine v_X8_digest_237 ⟨fun _ => s_findOrder h0 (Rm I1 f1) G1 (fun I2 f2 o2 => ?_), fun w => absurd (by rw [l6, iN_le (by omega) (by omega)]; omega) w⟩
      exact d270 5 0 (by omega) I2 x (frm_tr f1 (sa_sc f2)) (mG_sa G1 f2) o2 e
    | succ m ih =>
      intro k hk I1 x f1 G1 b1 e
      refine v_X8_digest_237 ⟨fun w => absurd w (by rw [l6, iN_le (by omega) (by omega)]; omega), fun _ => ⟨(vp_iN (by omega)).mpr ⟨by omega, by omega⟩, fun z4 e4 => ?_⟩⟩
      rw [show nn (iN (k : Int)) = k from nn_nat (by omega), b1 k (by omega)] at e4
      rw [up]
      have ea : an_put σ (iN k) = iN (putB (sR σ) (sF σ 0) (z0 σ) (sF σ 1) (z1 σ) k) := by
        obtain ⟨o1, o2⟩ := okA_n (k := k) (hi := 5) (by omega) (by omega)
        unfold an_put
        rw [o1, o2]
        rfl
      rw [hxs_s (fun k => an_put σ (iN k)) m k x, ea, ← e4] at e
      exact ih (k + 1) (by omega) I1 _ f1 G1 b1 e
  -- breaths
  have brs : ∀ n : Nat, n ≤ 10 → ∀ y, y + n = 10 → (∀ I1 x, frm scC scS I I1 → mF I1 σ → dgE σ (dgM σ (fo (dgBr σ) n y x)) = an_digest σ → GJ G Y_X8_digest 189 [(0, .ref 58), (1, .long x), (3, .int (iN y))] I1 Q) := by
    intro n
    induction n with
    | zero =>
      intro _ y hy I1 x f1 F1 e
      refine v_X8_digest_189 ⟨fun _ => s_findPut h0 (Rm I1 f1) (mF_G F1) (fun I2 f2 b2 => ?_), fun w => absurd (by rw [l10, iN_le (by omega) (by omega)]; omega) w⟩
      exact d237 6 0 (by omega) I2 x (frm_tr f1 (sa_sc f2)) (mG_sa (mF_G F1) f2) b2 e
    | succ n ihn =>
      intro hn y hy I1 x f1 F1 e
      refine v_X8_digest_189 ⟨fun w => absurd w (by rw [l10, iN_le (by omega) (by omega)]; omega), fun _ => ?_⟩
      have inner : ∀ m k : Nat, k + m = 3 → ∀ x, dgE σ (dgM σ (fo (dgBr σ) n (y + 1) (hxs (fun k => an_doing σ (iN y) (iN k)) m k x))) = an_digest σ → GJ G Y_X8_digest 198 [(0, .ref 58), (1, .long x), (3, .int (iN y)), (4, .int (iN k))] I1 Q := by
        intro m
        induction m with
        | zero =>
          intro k hk x e
          refine v_X8_digest_198 ⟨fun _ => ?_, fun w => absurd (by rw [l3, iN_le (by omega) (by omega)]; omega) w⟩
          rw [up]
          exact ihn (by omega) (y + 1) (by omega) I1 x f1 F1 e
        | succ m ih =>
          intro k hk x e
          refine v_X8_digest_198 ⟨fun w => absurd w (by rw [l3, iN_le (by omega) (by omega)]; omega), fun _ => M_doingOf h0 (Rm I1 f1) F1 (by omega) (by omega) ?_⟩
          rw [up]
          have ea : an_doing σ (iN y) (iN k) = iN (if k = 0 then fnd (sdB (sR σ) (vsT (sF σ 0)) y) (z0 σ) 0 else if k = 1 then mdI (sR σ) (vsT (sF σ 0)) (z0 σ) y else fnd (hdB (sR σ) (vsT (sF σ 0)) y) (z0 σ) 0) := by
            obtain ⟨o1, o2⟩ := okA_n (k := k) (hi := 2) (by omega) (by omega)
            obtain ⟨o3, o4⟩ := okA_n (k := y) (hi := 299) (by omega) (by omega)
            unfold an_doing
            rw [o1, o2, o3, iN_toInt (by omega) (by omega)]
            rfl
          rw [hxs_s (fun k => an_doing σ (iN y) (iN k)) m k x, ea] at e
          exact ih (k + 1) (by omega) _ e
      exact inner 3 0 (by omega) x e
  have d151 : ∀ m k : Nat, k + m = 4 → ∀ I1 x, frm scC scS I I1 → mF I1 σ → dgE σ (dgM σ (fo (dgBr σ) 10 0 (hx (hxs (fun k => an_poem σ (iN k)) m k x) (an_judged σ)))) = an_digest σ → GJ G Y_X8_digest 151 [(0, .ref 58), (1, .long x), (3, .int (iN k))] I1 Q := by
    intro m
    induction m with
    | zero =>
      intro k hk I1 x f1 F1 e
      exact v_X8_digest_151 ⟨fun _ => M_judgedNow h0 F1 (brs 10 (by omega) 0 (by omega) I1 _ f1 F1 e), fun w => absurd (by rw [l4, iN_le (by omega) (by omega)]; omega) w⟩
    | succ m ih =>
      intro k hk I1 x f1 F1 e
      refine v_X8_digest_151 ⟨fun w => absurd w (by rw [l4, iN_le (by omega) (by omega)]; omega), fun _ => M_poemOf F1 (by omega) ?_⟩
      rw [up]
      have ea : an_poem σ (iN k) = iN (if k = 0 then (wrN (sR σ) (vsT (sF σ 0)) (z0 σ) : Int) else if k = 1 then lng (sR σ) (vsT (sF σ 0)) (z0 σ) else if k = 2 then tσ σ (z0 σ) 10 else tσ σ (z0 σ) 12) := by
        obtain ⟨o1, o2⟩ := okA_n (k := k) (hi := 3) (by omega) (by omega)
        unfold an_poem
        rw [o1, o2]
        rfl
      rw [hxs_s (fun k => an_poem σ (iN k)) m k x, ea] at e
      exact ih (k + 1) (by omega) I1 _ f1 F1 e
  -- verses
  have d59 : ∀ n v : Nat, v + n = z0 σ → ∀ I1 x, frm scC scS I I1 → mF I1 σ → dgE σ (dgM σ (dgBs σ (fo (dgV σ) n v x))) = an_digest σ → GJ G Y_X8_digest 59 [(0, .ref 58), (1, .long x), (3, .int (iN v))] I1 Q := by
    intro n
    induction n with
    | zero =>
      intro v hv I1 x f1 F1 e
      exact v_X8_digest_59 ⟨fun _ => d151 4 0 (by omega) I1 x f1 F1 e, fun w => absurd (by rw [F1.1, iN_le (by omega) (by omega)]; omega) w⟩
    | succ n ihn =>
      intro v hv I1 x f1 F1 e
      have hvz : v < z0 σ := by omega
      have ov := isV_n hvz (by omega)
      have ot : tn (iN (v : Int)) = v := (okA_n (k := v) (hi := 999) (by omega) (by omega)).2
      have whens : ∀ m k : Nat, k + m = 5 → ∀ x, dgE σ (dgM σ (dgBs σ (fo (dgV σ) n (v + 1) (hx (hxs (fun k => an_when σ (iN v) (iN k)) m k x) (an_rest σ (iN v)))))) = an_digest σ → GJ G Y_X8_digest 103 [(0, .ref 58), (1, .long x), (3, .int (iN v)), (4, .int (iN k))] I1 Q := by
        intro m
        induction m with
        | zero =>
          intro k hk x e
          refine v_X8_digest_103 ⟨fun _ => s_restOf F1.2.2.2.2.1 F1.2.2.2.2.2 h0.2.1 (okVT _ _) ((Rm I1 f1).2.2.1 0 (by decide)) hvz ?_, fun w => absurd (by rw [l5, iN_le (by omega) (by omega)]; omega) w⟩
          rw [up]
          have ea : an_rest σ (iN v) = iN (if tl (sR σ) (vsT (sF σ 0)) (v + 1) 4 = -1 then -3 else tl (sR σ) (vsT (sF σ 0)) (v + 1) 14) := by
            unfold an_rest
            rw [ov, ot]
            rfl
          rw [ea] at e
          exact ihn (v + 1) (by omega) I1 _ f1 F1 e
        | succ m ih =>
          intro k hk x e
          refine v_X8_digest_103 ⟨fun w => absurd w (by rw [l5, iN_le (by omega) (by omega)]; omega), fun _ => M_whenOf F1 hvz (by omega) ?_⟩
          rw [up]
          have ea : an_when σ (iN v) (iN k) = iN (tσ σ (v + 1) (4 + k)) := by
            obtain ⟨o1, o2⟩ := okA_n (k := k) (hi := 4) (by omega) (by omega)
            unfold an_when
            rw [ov, ot, o1, o2]
            rfl
          rw [hxs_s (fun k => an_when σ (iN v) (iN k)) m k x, ea] at e
          exact ih (k + 1) (by omega) _ e
      have verses : ∀ m k : Nat, k + m = 6 → ∀ x, dgE σ (dgM σ (dgBs σ (fo (dgV σ) n (v + 1) (hx (hxs (fun k => an_when σ (iN v) (iN k)) 5 0 (hxs (fun k => an_verse σ (iN v) (iN k)) m k x)) (an_rest σ (iN v)))))) = an_digest σ → GJ G Y_X8_digest 72 [(0, .ref 58), (1, .long x), (3, .int (iN v)), (4, .int (iN k))] I1 Q := by
        intro m
        induction m with
        | zero =>
          intro k hk x e
          exact v_X8_digest_72 ⟨fun _ => whens 5 0 (by omega) x e, fun w => absurd (by rw [l6, iN_le (by omega) (by omega)]; omega) w⟩
        | succ m ih =>
          intro k hk x e
          refine v_X8_digest_72 ⟨fun w => absurd w (by rw [l6, iN_le (by omega) (by omega)]; omega), fun _ => M_verseOf h0 F1 hvz (by omega) ?_⟩
          rw [up]
          have ea : an_verse σ (iN v) (iN k) = iN (if k = 3 then kd (sF σ 0) v else if k < 3 then fg (sF σ 0) v k else if k = 4 then tσ σ (v + 1) 1 else tσ σ (v + 1) 3) := by
            obtain ⟨o1, o2⟩ := okA_n (k := k) (hi := 5) (by omega) (by omega)
            unfold an_verse
            rw [ov, ot, o1, o2]
            rfl
          rw [hxs_s (fun k => an_verse σ (iN v) (iN k)) m k x, ea] at e
          exact ih (k + 1) (by omega) _ e
      exact v_X8_digest_59 ⟨fun w => absurd w (by rw [F1.1, iN_le (by omega) (by omega)]; omega), fun _ => verses 6 0 (by omega) x e⟩
  have d33 : ∀ m t : Nat, t + m = 2 → ∀ I1 x, frm scC scS I I1 → mF2 I1 σ → dgE σ (dgM σ (dgBs σ (fo (dgV σ) (z0 σ) 0 (hxs (fun t => an_fault σ (iN t)) m t x)))) = an_digest σ → GJ G Y_X8_digest 33 [(0, .ref 58), (1, .long x), (3, .int (iN t))] I1 Q := by
    intro m
    induction m with
    | zero =>
      intro t ht I1 x f1 F1 e
      exact v_X8_digest_33 ⟨fun _ => d59 (z0 σ) 0 (by omega) I1 x f1 F1.1 e, fun w => absurd (by rw [l2, iN_le (by omega) (by omega)]; omega) w⟩
    | succ m ih =>
      intro t ht I1 x f1 F1 e
      refine v_X8_digest_33 ⟨fun w => absurd w (by rw [l2, iN_le (by omega) (by omega)]; omega), fun _ => s_readsText (RM_t (Rm I1 f1) (by omega)) (fun I2 f2 a1 a2 a3 a4 => ?_)⟩
      rw [up]
      have ea : an_fault σ (iN t) = iN (flw (sF σ t) (sN σ t)) := by
        obtain ⟨o1, o2⟩ := okA_n (k := t) (hi := 1) (by omega) (by omega)
        unfold an_fault
        rw [o1, o2]
        rfl
      rw [hxs_s (fun t => an_fault σ (iN t)) m t x, ea] at e
      exact ih (t + 1) (by omega) I2 _ (frm_tr f1 (frm_mo f2 (by decide) (by decide))) (mF2_rt h0 (by omega) F1 f2 a1 a2 a3 a4) e
  have d6 : ∀ m k : Nat, k + m = 8 → ∀ I1 x, frm scC scS I I1 → (0 < k → mF2 I1 σ) → dgE σ (dgM σ (dgBs σ (fo (dgV σ) (z0 σ) 0 (dgF σ (hxs (fun k => an_count σ (iN k)) m k x))))) = an_digest σ → GJ G Y_X8_digest 6 [(0, .ref 58), (1, .long x), (3, .int (iN k))] I1 Q := by
    intro m
    induction m with
    | zero =>
      intro k hk I1 x f1 F1 e
      exact v_X8_digest_6 ⟨fun _ => d33 2 0 (by omega) I1 x f1 (F1 (by omega)) e, fun w => absurd (by rw [l8, iN_le (by omega) (by omega)]; omega) w⟩
    | succ m ih =>
      intro k hk I1 x f1 F1 e
      refine v_X8_digest_6 ⟨fun w => absurd w (by rw [l8, iN_le (by omega) (by omega)]; omega), fun _ => M_count h0 (Rm I1 f1) (fun I2 f2 hM2 F2 => ?_)⟩
      rw [up]
      rw [hxs_s (fun k => an_count σ (iN k)) m k x] at e
      exact ih (k + 1) (by omega) I2 _ (frm_tr f1 f2) (fun _ => F2) e
  exact v_X8_digest (d6 8 0 (by omega) I 17 frm_rf (fun c => absurd c (by decide)) rfl)
end MDig
