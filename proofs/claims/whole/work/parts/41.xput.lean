/-! ===== the class seeks the hard ones to put: one attempt ===== -/
theorem tl_10 (R : Nat → Int) (vs : Nat → Nat → Int) (p : Nat) : tl R vs p 10 ≤ tl R vs (p + 1) 10 := by
  show tl R vs p 10 ≤ (if bgT R (tl R vs p) (tl R vs p 9 + mkC (vs p 0) (vs p 1) (cntK vs (vs p 0) p)) = true then tl R vs p 10 + pzT (tl R vs p 9 + mkC (vs p 0) (vs p 1) (cntK vs (vs p 0) p)) (tl R vs p 13) else tl R vs p 10)
  have := (pzT_bd (tl R vs p 9 + mkC (vs p 0) (vs p 1) (cntK vs (vs p 0) p)) (tl R vs p 13)).1
  split <;> omega
theorem tl_10m (R : Nat → Int) (vs : Nat → Nat → Int) (p : Nat) : ∀ m, tl R vs p 10 ≤ tl R vs (p + m) 10
  | 0 => Int.le_refl _
  | m + 1 => Int.le_trans (tl_10m R vs p m) (tl_10 R vs (p + m))
/-- what is not whole stays so -/
theorem wh_mono {R : Nat → Int} {vs : Nat → Nat → Int} {n p : Nat} (hR : okR R) (hv : okVs vs n) (hp : p ≤ n) (hn : n ≤ 14) (h : whB R vs p = false) : whB R vs n = false := by
  have b10 := (bd_tl hR hv p hp (by omega)).2.1
  have m10 := tl_10m R vs p (n - p)
  rw [show p + (n - p) = n by omega] at m10
  unfold whB at h ⊢
  rw [decide_eq_false_iff_not] at h ⊢
  intro c
  refine h ⟨fun q => c.1 ?_, by omega⟩
  have := (tl_dead q (n - p)).1
  rw [show p + (n - p) = n by omega] at this
  exact this
section XPut
variable {G : CX} {I : HP} {σ : SG}
/-- the cells of the searches are free while nothing is found -/
theorem RX_fr2 {I' : HP} (hX : RX I σ) (e : ∀ a, a < 22 ∨ 40 ≤ a → a ≠ 41 → a < 42 ∨ 46 ≤ a → a < 58 → I' a = I a) (h41 : I 0 9 ≠ 0 → I' 41 = I 41) (h42 : I 0 10 ≠ 0 → I' 42 = I 42 ∧ I' 44 = I 44) (hZ : stZ I' 22) : RX I' σ := by
  obtain ⟨h1, h2, h3, h4, h5, h6, h7, h8, h9, h10⟩ := hX
  have e := fun a (ha : a < 22 ∨ (46 ≤ a ∧ a < 58)) => e a (by omega) (by omega) (by omega) (by omega)
  refine ⟨isS_fr h1 (e 2 (by decide)) (e 3 (by decide)), isS_fr h2 (e 4 (by decide)) (e 5 (by decide)), ?_, ?_, hZ, ?_, ?_, ?_, ?_, ?_⟩
  · rw [e 1 (by decide)]; exact h3
  · obtain ⟨q1, q2, q3, q4, q5⟩ := h4
    refine ⟨q1, by rw [e 6 (by decide)]; exact q2, fun r hr => by rw [e 7 (by decide)]; exact q3 r hr, fun j hj => by rw [e 8 (by decide)]; exact q4 j hj, fun p hp => tM_fr (q5 p hp) (e _ ?_)⟩
    have : teN 6 = 12 := rfl
    omega
  · rw [e 0 (by decide)]
    intro c
    rw [h41 c]; exact h6 c
  · rw [e 0 (by decide)]
    intro c
    rw [(h42 c).1, (h42 c).2]; exact h7 c
  · rw [e 46 (by decide), e 47 (by decide), e 48 (by decide)]; exact h8
  · intro s hs
    rw [e (50 + 2 * s) (by omega), e (51 + 2 * s) (by omega)]; exact h9 s hs
  · rw [e 0 (by decide)]; exact h10
/-- a verse of a text is told behind the trial's -/
theorem s_tadd {Q : HP → Prop} {I0 : HP} {R : Nat → Int} {vs : Nat → Nat → Int} {n t v : Nat} (h0 : okS0 σ) (hX : RX I0 σ) (hf : ∀ a, a < 22 ∨ 40 ≤ a → a ≠ 41 → a < 42 ∨ 46 ≤ a → a < 58 → I a = I0 a) (hL : isTl I 22 R vs n) (hn : n < 14) (hR : okR R) (hvs : okVs vs n) (ht : t ≤ 1) (hv : v < szT (sF σ t) (sN σ t)) (hvn : vs n = vd (sF σ t) v)
    (h : ∀ I', (∀ a, a < 22 ∨ 40 ≤ a → I' a = I a) → isTl I' 22 R vs (n + 1) → Q I') : RV G Y_X5_add [.ref 22, .ref (2 + 2 * t), .int (iN v)] I Q := by
  have hS := RX_s hX ht
  refine s_add (Or.inr rfl) (scr_t ht) hL (by rw [te22]; exact hn) hR hvs (isS_fr hS (hf _ (by omega) (by omega) (by omega) (by omega)) (hf _ (by omega) (by omega) (by omega) (by omega))) hv (fun j _ => by rw [hvn]) (fun I2 f2 L2 => h I2 (fun a ha => f2 a (by simp; omega)) L2)
set_option maxHeartbeats 2000000 in
theorem s_attempt {Q : HP → Prop} {best : Nat → Int} {k p a q b : Int} (h0 : okS0 σ) (hX : RX I σ) (h9 : I 0 9 = 0) (hp : okP σ p a) (hq : okP σ q b) (hb : bOK best) (hB : ∀ j, j < 6 → I 41 j = iN (best j))
    (h : ∀ I', (∀ a, a < 22 ∨ 40 ≤ a → a ≠ 41 → I' a = I a) → RX I' σ → (∀ j, j < 6 → I' 41 j = iN (att (sR σ) (sF σ 0) (z0 σ) (sF σ 1) best k p a q b j)) → Q I') : RV G Y_X1_attempt [.ref 40, .int (iN k), .int (iN p), .int (iN a), .int (iN q), .int (iN b)] I Q := by
  have hz := z0_le h0
  have hz1 := z1_le h0
  have hT : isTel 22 := Or.inr rfl
  have hR := h0.2.1
  have hvs := rowP_vs h0 hp hq
  have hlen := rowP_le (p := p) (a := a) (q := q) (b := b) h0
  have hpa := okP_a h0 hp
  have hqa := okP_a h0 hq
  have hatt : ∀ j, att (sR σ) (sF σ 0) (z0 σ) (sF σ 1) best k p a q b j = (if tl (sR σ) (vsL (rowP (sF σ 0) (z0 σ) (sF σ 1) p a q b (z0 σ + 1))) (rowP (sF σ 0) (z0 σ) (sF σ 1) p a q b (z0 σ + 1)).length 7 ≠ -1 ∧ tl (sR σ) (vsL (rowP (sF σ 0) (z0 σ) (sF σ 1) p a q b (z0 σ + 1))) (rowP (sF σ 0) (z0 σ) (sF σ 1) p a q b (z0 σ + 1)).length 10 = 0 ∧ (best 0 = -1 ∨ tl (sR σ) (vsL (rowP (sF σ 0) (z0 σ) (sF σ 1) p a q b (z0 σ + 1))) (rowP (sF σ 0) (z0 σ) (sF σ 1) p a q b (z0 σ + 1)).length 7 < best 1) then cand k (tl (sR σ) (vsL (rowP (sF σ 0) (z0 σ) (sF σ 1) p a q b (z0 σ + 1))) (rowP (sF σ 0) (z0 σ) (sF σ 1) p a q b (z0 σ + 1)).length 7) p a q b else best) j := fun _ => rfl
  -- what is at a place of the whole row
  have pre : ∀ v, v ≤ z0 σ + 1 → ∃ T, rowP (sF σ 0) (z0 σ) (sF σ 1) p a q b (z0 σ + 1) = rowP (sF σ 0) (z0 σ) (sF σ 1) p a q b v ++ T := by
    intro v hv
    obtain ⟨m, em⟩ : ∃ m, z0 σ + 1 = v + m := ⟨z0 σ + 1 - v, by omega⟩
    rw [em]
    clear em hv
    induction m with
    | zero => exact ⟨[], (List.append_nil _).symm⟩
    | succ m ih =>
      obtain ⟨T, eT⟩ := ih
      exact ⟨T ++ rowAt (sF σ 0) (z0 σ) (sF σ 1) p a q b (v + m), by
        show rowP (sF σ 0) (z0 σ) (sF σ 1) p a q b (v + m) ++ rowAt (sF σ 0) (z0 σ) (sF σ 1) p a q b (v + m) = _
        rw [eT, List.append_assoc]⟩
  have at_ : ∀ v, v ≤ z0 σ → ∀ i, i < (rowAt (sF σ 0) (z0 σ) (sF σ 1) p a q b v).length → vsL (rowP (sF σ 0) (z0 σ) (sF σ 1) p a q b (z0 σ + 1)) ((rowP (sF σ 0) (z0 σ) (sF σ 1) p a q b v).length + i) = (rowAt (sF σ 0) (z0 σ) (sF σ 1) p a q b v).getD i (fun _ => 0) := by
    intro v hv i hi
    obtain ⟨T, eT⟩ := pre (v + 1) (by omega)
    have eS : rowP (sF σ 0) (z0 σ) (sF σ 1) p a q b (v + 1) = rowP (sF σ 0) (z0 σ) (sF σ 1) p a q b v ++ rowAt (sF σ 0) (z0 σ) (sF σ 1) p a q b v := rfl
    rw [eT, eS, List.append_assoc]
    unfold vsL
    rw [List.getD_eq_getElem?_getD, List.getElem?_append_right (by omega), Nat.add_sub_cancel_left, List.getElem?_append_left hi, ← List.getD_eq_getElem?_getD]
  have lens : ∀ v, v ≤ z0 σ → (rowP (sF σ 0) (z0 σ) (sF σ 1) p a q b (v + 1)).length = (rowP (sF σ 0) (z0 σ) (sF σ 1) p a q b v).length + (rowAt (sF σ 0) (z0 σ) (sF σ 1) p a q b v).length ∧ (rowP (sF σ 0) (z0 σ) (sF σ 1) p a q b (v + 1)).length ≤ (rowP (sF σ 0) (z0 σ) (sF σ 1) p a q b (z0 σ + 1)).length := by
    intro v hv
    obtain ⟨T, eT⟩ := pre (v + 1) (by omega)
    refine ⟨?_, by rw [eT, List.length_append]; omega⟩
    show (rowP (sF σ 0) (z0 σ) (sF σ 1) p a q b v ++ rowAt (sF σ 0) (z0 σ) (sF σ 1) p a q b v).length = _
    rw [List.length_append]
  generalize eL : rowP (sF σ 0) (z0 σ) (sF σ 1) p a q b (z0 σ + 1) = L at hatt hvs hlen at_ lens
  have b0 := hb 0
  have b1 := hb 1
  -- the end
  have fin : ∀ I1 n, (∀ a, a < 22 ∨ 40 ≤ a → I1 a = I a) → isTl I1 22 (sR σ) (vsL L) n → n ≤ L.length → (whB (sR σ) (vsL L) n = true → n = L.length) → RA G Y_X5_last [.ref 22] I1 (fun I2 r3 => isTur r3 ∧ (RZ G Y_X5_isWholeWithoutPause [.ref 22] I2 (fun I4 r5 => (((bI r5) = 0) → (Q I4)) ∧ ((¬ (bI r5) = 0) → ((((I4 41 0) = (-1 : Int32)) → (Q (st (st (st (st (st (st I4 41 0 (iN k)) 41 1 (I2 r3 7)) 41 2 (iN p)) 41 3 (iN a)) 41 4 (iN q)) 41 5 (iN b)))) ∧ ((¬ (I4 41 0) = (-1 : Int32)) → ((((I4 41 1) ≤ (I2 r3 7)) → (Q I4)) ∧ ((¬ (I4 41 1) ≤ (I2 r3 7)) → (Q (st (st (st (st (st (st I4 41 0 (iN k)) 41 1 (I2 r3 7)) 41 2 (iN p)) 41 3 (iN a)) 41 4 (iN q)) 41 5 (iN b))))))))))) := by
    intro I1 n f1 L1 hn hw
    have hvn : okVs (vsL L) n := fun i hi => hvs i (by omega)
    have bt := bd_tl hR hvn n (Nat.le_refl _) (by omega)
    have b7 := bt.2.2.2.2.2
    have keep : (∀ j, j < 6 → I1 41 j = iN (att (sR σ) (sF σ 0) (z0 σ) (sF σ 1) best k p a q b j)) → Q I1 := fun e => h I1 (fun a ha _ => f1 a ha) (RX_tr hX (fun a _ ha => f1 a ha) (isTl_Z L1)) e
    have new : n = L.length → (∀ j, att (sR σ) (sF σ 0) (z0 σ) (sF σ 1) best k p a q b j = cand k (tl (sR σ) (vsL L) n 7) p a q b j) → Q (st (st (st (st (st (st I1 41 0 (iN k)) 41 1 (iN (tl (sR σ) (vsL L) n 7))) 41 2 (iN p)) 41 3 (iN a)) 41 4 (iN q)) 41 5 (iN b)) := by
      intro en e
      generalize eI : (st (st (st (st (st (st I1 41 0 (iN k)) 41 1 (iN (tl (sR σ) (vsL L) n 7))) 41 2 (iN p)) 41 3 (iN a)) 41 4 (iN q)) 41 5 (iN b)) = I5
      have f5 : ∀ a, a ≠ 41 → I5 a = I1 a := fun a ha => by rw [← eI, st_ne1 ha, st_ne1 ha, st_ne1 ha, st_ne1 ha, st_ne1 ha, st_ne1 ha]
      have f5' : ∀ a, a < 22 ∨ 40 ≤ a → a ≠ 41 → I5 a = I a := fun a ha hb => (f5 a hb).trans (f1 a ha)
      refine h I5 f5' (RX_fr2 hX (fun a h1 h2 h3 h4 => f5' a h1 h2) (fun c => absurd h9 c) (fun _ => ⟨f5' 42 (by decide) (by decide), f5' 44 (by decide) (by decide)⟩) (by unfold stZ; rw [f5 _ (by decide)]; exact isTl_Z L1)) (fun j hj => ?_)
      rw [e, ← eI]
      rcases (show j = 0 ∨ j = 1 ∨ j = 2 ∨ j = 3 ∨ j = 4 ∨ j = 5 by omega) with rfl | rfl | rfl | rfl | rfl | rfl
      · rw [st_ne2 (by decide), st_ne2 (by decide), st_ne2 (by decide), st_ne2 (by decide), st_ne2 (by decide), st_self]; rfl
      · rw [st_ne2 (by decide), st_ne2 (by decide), st_ne2 (by decide), st_ne2 (by decide), st_self]; rfl
      · rw [st_ne2 (by decide), st_ne2 (by decide), st_ne2 (by decide), st_self]; rfl
      · rw [st_ne2 (by decide), st_ne2 (by decide), st_self]; rfl
      · rw [st_ne2 (by decide), st_self]; rfl
      · rw [st_self]; rfl
    have e41 : ∀ j, j < 6 → I1 41 j = iN (best j) := fun j hj => by rw [f1 41 (by decide)]; exact hB j hj
    refine s_last hT L1 ⟨tc_tur hT L1.1, s_isWhole hT L1 hR hvn ?_⟩
    rw [bI_0, (isTl_at L1 (Nat.le_refl _)).1 7 (by decide), e41 0 (by decide), e41 1 (by decide), show (-1 : Int32) = iN (-1) from rfl, iN_eq (by omega) (by omega), iN_le (by omega) (by omega)]
    refine ⟨fun c => keep (fun j hj => ?_), fun c => ?_⟩
    · have wL := wh_mono hR hvs hn hlen c
      rw [e41 j hj, hatt, if_neg]
      intro w
      unfold whB at wL
      rw [decide_eq_false_iff_not] at wL
      exact wL ⟨w.1, w.2.1⟩
    · have c : whB (sR σ) (vsL L) n = true := (Bool.not_eq_false _).mp c
      have en := hw c
      have cw : tl (sR σ) (vsL L) n 7 ≠ -1 ∧ tl (sR σ) (vsL L) n 10 = 0 := by
        unfold whB at c
        exact of_decide_eq_true c
      refine ⟨fun c2 => new en (fun j => ?_), fun c2 => ⟨fun c3 => keep (fun j hj => ?_), fun c3 => new en (fun j => ?_)⟩⟩
      · rw [hatt, ← en, if_pos ⟨cw.1, cw.2, Or.inl c2⟩]
      · rw [e41 j hj, hatt, ← en, if_neg]
        intro w
        omega
      · rw [hatt, ← en, if_pos ⟨cw.1, cw.2, Or.inr (by omega)⟩]
  refine v_X1_attempt (s_open (R := sR σ) (vs := vsL L) hT (fun r hr => hX.2.2.1 r (by omega)) hX.2.2.2.2.1 (fun I1 f1 L1 => ?_))
  have loop : ∀ m v : Nat, v + m = z0 σ + 1 → ∀ I1, (∀ a, a < 22 ∨ 40 ≤ a → I1 a = I a) → isTl I1 22 (sR σ) (vsL L) (rowP (sF σ 0) (z0 σ) (sF σ 1) p a q b v).length → GV G Y_X1_attempt 14 [(0, .ref 40), (1, .int (iN k)), (2, .int (iN p)), (3, .int (iN a)), (4, .int (iN q)), (5, .int (iN b)), (6, .int (iN v))] I1 Q := by
    intro m
    induction m with
    | zero =>
      intro v hv I1 f1 L1
      have e23 : I1 2 3 = iN (z0 σ) := by rw [f1 2 (by decide)]; exact hX.1.2.2.2.2
      have ev : v = z0 σ + 1 := by omega
      refine v_X1_attempt_14 ⟨fun _ => ?_, fun w => absurd (by rw [e23, iN_lt (by omega) (by omega)]; omega) w⟩
      rw [ev, eL] at L1
      exact fin I1 _ f1 L1 (Nat.le_refl _) (fun _ => rfl)
    | succ m ih =>
      intro v hv I1 f1 L1
      have hvz : v ≤ z0 σ := by omega
      have g23 : ∀ J : HP, (∀ a, a < 22 ∨ 40 ≤ a → J a = I a) → J 2 3 = iN (z0 σ) := fun J f => by rw [f 2 (by decide)]; exact hX.1.2.2.2.2
      have e23 := g23 I1 f1
      obtain ⟨ln1, ln2⟩ := lens v hvz
      have hat := at_ v hvz
      have nx := ih (v + 1) (by omega)
      rw [ln1] at nx
      have hlv : (rowP (sF σ 0) (z0 σ) (sF σ 1) p a q b v).length ≤ L.length := by omega
      generalize (rowP (sF σ 0) (z0 σ) (sF σ 1) p a q b v).length = n at L1 ln1 hat nx hlv
      have hvn : ∀ i, i ≤ L.length → okVs (vsL L) i := fun i hi j hj => hvs j (by omega)
      refine v_X1_attempt_14 ⟨fun w => absurd w (by rw [e23, iN_lt (by omega) (by omega)]; omega), fun _ => s_isWhole hT L1 hR (hvn n hlv) ?_⟩
      rw [bI_0]
      refine ⟨fun c => fin I1 n f1 L1 hlv (fun w => absurd (c.symm.trans w) (by decide)), fun _ => ?_⟩
      rw [iN_eq (by omega) (by omega), iN_eq (by omega) (by omega), show iN (v : Int) + (1 : Int32) = iN ((v + 1 : Nat) : Int) from iN_add v 1]
      -- hard ones, the verse
      have hard : ∀ (x : Int), 0 ≤ x → x.toNat < szT (sF σ 1) (sN σ 1) → ∀ J i (Q2 : HP → Prop), (∀ a, a < 22 ∨ 40 ≤ a → J a = I a) → isTl J 22 (sR σ) (vsL L) i → i < L.length → vsL L i = vd (sF σ 1) x.toNat → (∀ J2, (∀ a, a < 22 ∨ 40 ≤ a → J2 a = I a) → isTl J2 22 (sR σ) (vsL L) (i + 1) → Q2 J2) → RV G Y_X5_add [.ref 22, .ref 4, .int (iN x)] J Q2 := by
        intro x hx0 hx J i Q2 fJ LJ hi ei hk
        rw [show x = ((x.toNat : Nat) : Int) by omega]
        exact s_tadd (t := 1) h0 hX (fun a h1 _ _ _ => fJ a h1) LJ (by omega) hR (hvn i (by omega)) (by decide) hx ei (fun J2 f2 L2 => hk J2 (fun a ha => (f2 a ha).trans (fJ a ha)) L2)
      have vers : v < z0 σ → ∀ J i (Q2 : HP → Prop), (∀ a, a < 22 ∨ 40 ≤ a → J a = I a) → isTl J 22 (sR σ) (vsL L) i → i < L.length → vsL L i = vd (sF σ 0) v → (∀ J2, (∀ a, a < 22 ∨ 40 ≤ a → J2 a = I a) → isTl J2 22 (sR σ) (vsL L) (i + 1) → Q2 J2) → RV G Y_X5_add [.ref 22, .ref 2, .int (iN v)] J Q2 := by
        intro hv0 J i Q2 fJ LJ hi ei hk
        exact s_tadd (t := 0) h0 hX (fun a h1 _ _ _ => fJ a h1) LJ (by omega) hR (hvn i (by omega)) (by decide) hv0 ei (fun J2 f2 L2 => hk J2 (fun a ha => (f2 a ha).trans (fJ a ha)) L2)
      refine ⟨fun cp => ⟨fun cq => ?_, fun cq => ?_⟩, fun cp => ?_⟩
      · rw [e23, iN_le (by omega) (by omega)]
        refine ⟨fun cz => ?_, fun cz => ?_⟩
        · have er : rowAt (sF σ 0) (z0 σ) (sF σ 1) p a q b v = [] := by unfold rowAt; rw [if_neg cp, if_neg cq, if_neg (by omega)]; rfl
          rw [er] at nx
          exact nx I1 f1 L1
        · have er : rowAt (sF σ 0) (z0 σ) (sF σ 1) p a q b v = [vd (sF σ 0) v] := by unfold rowAt; rw [if_neg cp, if_neg cq, if_pos (by omega)]; rfl
          rw [er] at nx hat ln1
          simp only [List.length_cons, List.length_nil] at ln1
          exact vers (by omega) I1 n _ f1 L1 (by omega) (hat 0 (by simp)) (fun J2 f2 L2 => nx J2 f2 L2)
      · have cq0 : b.toNat < szT (sF σ 1) (sN σ 1) ∧ 0 ≤ b := ⟨hqa.2.2 (by omega) (by omega), by unfold okP at hq; omega⟩
        by_cases cz : v < z0 σ
        · have er : rowAt (sF σ 0) (z0 σ) (sF σ 1) p a q b v = [vd (sF σ 1) b.toNat, vd (sF σ 0) v] := by unfold rowAt; rw [if_neg cp, if_pos cq, if_pos cz]; rfl
          rw [er] at nx hat ln1
          simp only [List.length_cons, List.length_nil] at ln1
          refine hard b cq0.2 cq0.1 I1 n _ f1 L1 (by omega) (hat 0 (by simp)) (fun J2 f2 L2 => ?_)
          rw [g23 J2 f2, iN_le (by omega) (by omega)]
          exact ⟨fun w => absurd w (by omega), fun _ => vers cz J2 (n + 1) _ f2 L2 (by omega) (hat 1 (by simp)) (fun J3 f3 L3 => nx J3 f3 L3)⟩
        · have er : rowAt (sF σ 0) (z0 σ) (sF σ 1) p a q b v = [vd (sF σ 1) b.toNat] := by unfold rowAt; rw [if_neg cp, if_pos cq, if_neg cz]; rfl
          rw [er] at nx hat ln1
          simp only [List.length_cons, List.length_nil] at ln1
          refine hard b cq0.2 cq0.1 I1 n _ f1 L1 (by omega) (hat 0 (by simp)) (fun J2 f2 L2 => ?_)
          rw [g23 J2 f2, iN_le (by omega) (by omega)]
          exact ⟨fun _ => nx J2 f2 L2, fun w => absurd (by omega) w⟩
      · have cp0 : a.toNat < szT (sF σ 1) (sN σ 1) ∧ 0 ≤ a := ⟨hpa.2.2 (by omega) (by omega), by unfold okP at hp; omega⟩
        by_cases cq : (v : Int) = q
        · have cq0 : b.toNat < szT (sF σ 1) (sN σ 1) ∧ 0 ≤ b := ⟨hqa.2.2 (by omega) (by omega), by unfold okP at hq; omega⟩
          by_cases cz : v < z0 σ
          · have er : rowAt (sF σ 0) (z0 σ) (sF σ 1) p a q b v = [vd (sF σ 1) a.toNat, vd (sF σ 1) b.toNat, vd (sF σ 0) v] := by unfold rowAt; rw [if_pos cp, if_pos cq, if_pos cz]; rfl
            rw [er] at nx hat ln1
            simp only [List.length_cons, List.length_nil] at ln1
            refine hard a cp0.2 cp0.1 I1 n _ f1 L1 (by omega) (hat 0 (by simp)) (fun J2 f2 L2 => ⟨fun w => absurd cq w, fun _ => ?_⟩)
            refine hard b cq0.2 cq0.1 J2 (n + 1) _ f2 L2 (by omega) (hat 1 (by simp)) (fun J3 f3 L3 => ?_)
            rw [g23 J3 f3, iN_le (by omega) (by omega)]
            exact ⟨fun w => absurd w (by omega), fun _ => vers cz J3 (n + 1 + 1) _ f3 L3 (by omega) (hat 2 (by simp)) (fun J4 f4 L4 => nx J4 f4 L4)⟩
          · have er : rowAt (sF σ 0) (z0 σ) (sF σ 1) p a q b v = [vd (sF σ 1) a.toNat, vd (sF σ 1) b.toNat] := by unfold rowAt; rw [if_pos cp, if_pos cq, if_neg cz]; rfl
            rw [er] at nx hat ln1
            simp only [List.length_cons, List.length_nil] at ln1
            refine hard a cp0.2 cp0.1 I1 n _ f1 L1 (by omega) (hat 0 (by simp)) (fun J2 f2 L2 => ⟨fun w => absurd cq w, fun _ => ?_⟩)
            refine hard b cq0.2 cq0.1 J2 (n + 1) _ f2 L2 (by omega) (hat 1 (by simp)) (fun J3 f3 L3 => ?_)
            rw [g23 J3 f3, iN_le (by omega) (by omega)]
            exact ⟨fun _ => nx J3 f3 L3, fun w => absurd (by omega) w⟩
        · by_cases cz : v < z0 σ
          · have er : rowAt (sF σ 0) (z0 σ) (sF σ 1) p a q b v = [vd (sF σ 1) a.toNat, vd (sF σ 0) v] := by unfold rowAt; rw [if_pos cp, if_neg cq, if_pos cz]; rfl
            rw [er] at nx hat ln1
            simp only [List.length_cons, List.length_nil] at ln1
            refine hard a cp0.2 cp0.1 I1 n _ f1 L1 (by omega) (hat 0 (by simp)) (fun J2 f2 L2 => ⟨fun _ => ?_, fun w => absurd w cq⟩)
            rw [g23 J2 f2, iN_le (by omega) (by omega)]
            exact ⟨fun w => absurd w (by omega), fun _ => vers cz J2 (n + 1) _ f2 L2 (by omega) (hat 1 (by simp)) (fun J3 f3 L3 => nx J3 f3 L3)⟩
          · have er : rowAt (sF σ 0) (z0 σ) (sF σ 1) p a q b v = [vd (sF σ 1) a.toNat] := by unfold rowAt; rw [if_pos cp, if_neg cq, if_neg cz]; rfl
            rw [er] at nx hat ln1
            simp only [List.length_cons, List.length_nil] at ln1
            refine hard a cp0.2 cp0.1 I1 n _ f1 L1 (by omega) (hat 0 (by simp)) (fun J2 f2 L2 => ⟨fun _ => ?_, fun w => absurd w cq⟩)
            rw [g23 J2 f2, iN_le (by omega) (by omega)]
            exact ⟨fun _ => nx J2 f2 L2, fun w => absurd (by omega) w⟩
  exact loop (z0 σ + 1) 0 (by omega) I1 (fr22 f1) L1
end XPut
