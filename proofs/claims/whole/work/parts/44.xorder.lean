/-! ===== the class seeks the best row ===== -/
section XOrd
variable {G : CX} {I : HP} {σ : SG}
/-- the best so far, as the class keeps it -/
def oR (σ : SG) (I1 : HP) (s : Int × Int × List Nat) : Prop := I1 42 7 = iN (if s.1 = -1 then 1000000 else s.1) ∧ I1 42 8 = iN (if s.1 = -1 then 1000000 else s.2.1) ∧ (∀ k, k < 7 → I1 44 k = iN (if s.1 = -1 then -1 else if k < mn7 (z0 σ) then ((s.2.2.getD k 0 : Nat) : Int) else -1)) ∧ soB s
/-- while it is sought: a beginning is told -/
def PO (σ : SG) (I I1 : HP) (pre : List Nat) (s : Int × Int × List Nat) : Prop := (∀ a, a < 22 ∨ 40 ≤ a → a < 42 ∨ 46 ≤ a → I1 a = I a) ∧ I1 42 6 = iN (mn7 (z0 σ)) ∧ isTl I1 22 (rO4 (sR σ)) (rowV (sF σ 0) pre) pre.length ∧ (∀ i, i < pre.length → I1 43 i = iN (pre.getD i 0 : Nat)) ∧ (∀ v, v < 7 → I1 45 v = if v ∈ pre then 1 else 0) ∧ oR σ I1 s
theorem mn7_bd (z : Nat) : mn7 z ≤ 7 ∧ mn7 z ≤ z := by unfold mn7; split <;> omega
theorem oR_fr {I1 I2 : HP} {s : Int × Int × List Nat} (h : oR σ I1 s) (e7 : I2 42 7 = I1 42 7) (e8 : I2 42 8 = I1 42 8) (e44 : I2 44 = I1 44) : oR σ I2 s := by
  obtain ⟨a, b, c, d⟩ := h
  exact ⟨by rw [e7]; exact a, by rw [e8]; exact b, by rw [e44]; exact c, d⟩
theorem oTl {I1 : HP} {pre : List Nat} (h0 : okS0 σ) (hL : isTl I1 22 (rO4 (sR σ)) (rowV (sF σ 0) pre) pre.length) (hp : ∀ v, v ∈ pre → v < z0 σ) : I1 (tc 22 pre.length) 10 = iN (oP σ pre) ∧ I1 (tc 22 pre.length) 7 = iN (oW σ pre) := by
  have hn : pre.length ≤ 14 := by have := hL.1; rw [te22] at this; exact this
  have hv : okVs (rowV (sF σ 0) pre) pre.length := rowV_ok (n := sN σ 0) hp
  have e := tl_49 h0.2.1 hv hn pre.length (Nat.le_refl _)
  have ha := isTl_at hL (Nat.le_refl _)
  refine ⟨?_, ?_⟩
  · rw [ha.1 10 (by decide), e]; rfl
  · rw [ha.1 7 (by decide), e]; rfl
theorem s_mayBest {Q : HP → Bool → Prop} {I1 : HP} {pre : List Nat} {s : Int × Int × List Nat} (h0 : okS0 σ) (hP : PO σ I I1 pre s) (hp : ∀ v, v ∈ pre → v < z0 σ) (h1 : BT σ s pre → Q I1 true) (h2 : ¬ BT σ s pre → Q I1 false) : RZ G Y_X0_mayBeBest [.ref 42] I1 Q := by
  obtain ⟨f1, n1, L1, r1, t1, o7, o8, o44, ob⟩ := hP
  have hT : isTel 22 := Or.inr rfl
  have hn : pre.length ≤ 14 := by have := L1.1; rw [te22] at this; exact this
  obtain ⟨e10, e7⟩ := oTl h0 L1 hp
  obtain ⟨bP, bW⟩ := oPW_bd h0 hp hn
  obtain ⟨b1, b2⟩ := ob
  refine v_X0_mayBeBest (s_last hT L1 ⟨tc_tur hT L1.1, ?_⟩)
  rw [e10, e7, o7, o8]
  unfold BT at h1 h2
  by_cases c : s.1 = -1
  · rw [if_pos c, if_pos c, iN_lt (by omega) (by omega)]
    exact ⟨fun _ => h1 (Or.inl c), fun w => absurd (by omega) w⟩
  · rw [if_neg c, if_neg c, iN_lt (by omega) (by omega), iN_eq (by omega) (by omega), iN_le (by omega) (by omega)]
    exact ⟨fun w => h1 (by omega), fun w => ⟨fun w2 => h2 (by omega), fun w2 => ⟨fun w3 => h2 (by omega), fun w3 => h1 (by omega)⟩⟩⟩
theorem s_keep {Q : HP → Prop} {I1 : HP} {pre : List Nat} {s : Int × Int × List Nat} (h0 : okS0 σ) (hP : PO σ I I1 pre s) (hp : ∀ v, v ∈ pre → v < z0 σ) (hl : pre.length = mn7 (z0 σ)) (h : ∀ I2, PO σ I I2 pre (oP σ pre, oW σ pre, pre) → Q I2) : RV G Y_X0_keep [.ref 42] I1 Q := by
  obtain ⟨f1, n1, L1, r1, t1, o7, o8, o44, ob⟩ := hP
  have hT : isTel 22 := Or.inr rfl
  have hm := mn7_bd (z0 σ)
  have hn : pre.length ≤ 14 := by omega
  obtain ⟨e10, e7⟩ := oTl h0 L1 hp
  obtain ⟨bP, bW⟩ := oPW_bd h0 hp hn
  have trf : ∀ J : HP, (∀ a, 22 ≤ a → a < 40 → J a = I1 a) → isTl J 22 (rO4 (sR σ)) (rowV (sF σ 0) pre) pre.length := by
    intro J e
    obtain ⟨q1, q2, q3, q4, q5⟩ := L1
    have q1' : pre.length ≤ 14 := q1
    exact ⟨q1, by rw [e 22 (by omega) (by omega)]; exact q2, fun r hr => by rw [e 23 (by omega) (by omega)]; exact q3 r hr, fun j hj => by rw [e 24 (by omega) (by omega)]; exact q4 j hj, fun p hp => tM_fr (q5 p hp) (e _ (by omega) (by omega))⟩
  have htc : 22 ≤ tc 22 pre.length ∧ tc 22 pre.length < 40 := by unfold tc; split <;> omega
  refine v_X0_keep (s_last hT L1 ⟨tc_tur hT L1.1, ?_⟩)
  rw [e10]
  have L2 := trf (st I1 42 7 (iN (oP σ pre))) (fun a _ h2 => st_ne1 (by omega))
  refine s_last hT L2 ⟨tc_tur hT L2.1, ?_⟩
  rw [st_ne1 (show tc 22 pre.length ≠ 42 by omega), e7]
  have loop : ∀ m i : Nat, i + m = mn7 (z0 σ) → ∀ J : HP, (∀ a, a ≠ 44 → a ≠ 42 → J a = I1 a) → J 42 6 = I1 42 6 → J 42 7 = iN (oP σ pre) → J 42 8 = iN (oW σ pre) → (∀ k, k < i → J 44 k = iN (pre.getD k 0 : Nat)) → (∀ k, i ≤ k → J 44 k = I1 44 k) → GV G Y_X0_keep 30 [(0, .ref 42), (1, .int (iN i))] J Q := by
    intro m
    induction m with
    | zero =>
      intro i hi J e1 e6 g7 g8 lo hi2
      refine v_X0_keep_30 ⟨fun _ => h J ⟨fun a h1 h2 => (e1 a (by omega) (by omega)).trans (f1 a h1 h2), by rw [e6]; exact n1, trf J (fun a h1 h2 => e1 a (by omega) (by omega)), by rw [e1 43 (by decide) (by decide)]; exact r1, by rw [e1 45 (by decide) (by decide)]; exact t1, ?_, ?_, fun k hk => ?_, ?_⟩, fun w => absurd (by rw [e6, n1, iN_le (by omega) (by omega)]; omega) w⟩
      · show J 42 7 = iN (if oP σ pre = -1 then 1000000 else oP σ pre)
        rw [if_neg (by omega)]; exact g7
      · show J 42 8 = iN (if oP σ pre = -1 then 1000000 else oW σ pre)
        rw [if_neg (by omega)]; exact g8
      · show J 44 k = iN (if oP σ pre = -1 then -1 else if k < mn7 (z0 σ) then ((pre.getD k 0 : Nat) : Int) else -1)
        rw [if_neg (by omega)]
        by_cases c : k < mn7 (z0 σ)
        · rw [if_pos c]; exact lo k (by omega)
        · rw [if_neg c, hi2 k (by omega), o44 k hk]
          by_cases c2 : s.1 = -1
          · rw [if_pos c2]
          · rw [if_neg c2, if_neg c]
      · show (-1 ≤ oP σ pre ∧ oP σ pre ≤ 10000) ∧ (-1 ≤ oW σ pre ∧ oW σ pre ≤ 10000)
        omega
    | succ m ih =>
      intro i hi J e1 e6 g7 g8 lo hi2
      refine v_X0_keep_30 ⟨fun w => absurd w (by rw [e6, n1, iN_le (by omega) (by omega)]; omega), fun _ => ⟨fun w => absurd w (by rw [l7, iN_le (by omega) (by omega)]; omega), fun _ => ⟨(vp_iN (by omega)).mpr ⟨by omega, by omega⟩, ?_⟩⟩⟩
      rw [show nn (iN (i : Int)) = i from nn_nat (by omega), show iN (i : Int) + (1 : Int32) = iN ((i + 1 : Nat) : Int) from iN_add i 1]
      refine ih (i + 1) (by omega) _ (fun a h1 h2 => by rw [st_ne1 h1]; exact e1 a h1 h2) (by rw [st_ne1 (by decide)]; exact e6) (by rw [st_ne1 (by decide)]; exact g7) (by rw [st_ne1 (by decide)]; exact g8) (fun k hk => ?_) (fun k hk => by rw [st_ne2 (by omega)]; exact hi2 k (by omega))
      by_cases e : k = i
      · subst e; rw [st_self, e1 43 (by decide) (by decide)]; exact r1 k (by omega)
      · rw [st_ne2 e]; exact lo k (by omega)
  refine loop (mn7 (z0 σ)) 0 (by omega) _ (fun a h1 h2 => by rw [st_ne1 h2, st_ne1 h2]) (by rw [st_ne2 (by decide), st_ne2 (by decide)]) (by rw [st_ne2 (by decide), st_self]) (by rw [st_self]) (fun k hk => absurd hk (Nat.not_lt_zero _)) (fun k _ => by rw [st_ne1 (by decide), st_ne1 (by decide)])
set_option maxHeartbeats 1000000 in
theorem s_place {Q : HP → Prop} (h0 : okS0 σ) (hX : RX I σ) : ∀ (k d : Nat) (pre : List Nat) (s : Int × Int × List Nat) (I1 : HP) (Q : HP → Prop), pre.length + k = mn7 (z0 σ) → k ≤ d → (∀ v, v ∈ pre → v < mn7 (z0 σ)) → PO σ I I1 pre s → BT σ s pre → (∀ I2, PO σ I I2 pre (DD σ k (avL (mn7 (z0 σ)) pre) pre s) → Q I2) → RV G (Y_X0_placeFrom (d + 1)) [.ref 42, .int (iN pre.length)] I1 Q := by
  have hm := mn7_bd (z0 σ)
  intro k
  induction k with
  | zero =>
    intro d pre s I1 Q hlen _ hp hP hB h
    have hpz : ∀ v, v ∈ pre → v < z0 σ := fun v hv => by have := hp v hv; omega
    refine v_X0_placeFrom ⟨fun _ => s_keep h0 hP hpz (by omega) (fun I2 P2 => h I2 ?_), fun w => absurd (by rw [hP.2.1, iN_le (by omega) (by omega)]; omega) w⟩
    rw [DD_0, ordU_y hB]; exact P2
  | succ k ihk =>
    intro d pre s I1 Q hlen hd hp hP hB h
    obtain ⟨d, rfl⟩ : ∃ d', d = d' + 1 := ⟨d - 1, by omega⟩
    have hpz : ∀ v, v ∈ pre → v < z0 σ := fun v hv => by have := hp v hv; omega
    refine v_X0_placeFrom ⟨fun w => absurd w (by rw [hP.2.1, iN_le (by omega) (by omega)]; omega), fun _ => ⟨fun _ => ?_, fun w => absurd (by rw [l7, iN_lt (by omega) (by omega)]; omega) w⟩⟩
    have loop : ∀ m i : Nat, i + m = mn7 (z0 σ) → ∀ I1 s, PO σ I I1 pre s → (∀ I2, PO σ I I2 pre (((List.range' i m).filter (fun v => decide (v ∉ pre))).foldl (fun s v => DD σ k ((avL (mn7 (z0 σ)) pre).erase v) (pre ++ [v]) s) s) → Q I2) → GV G (Y_X0_placeFrom (d + 1 + 1)) 21 [(0, .ref 42), (1, .int (iN pre.length)), (2, .int (iN i))] I1 Q := by
      intro m
      induction m with
      | zero =>
        intro i hi I1 s hP h
        exact v_X0_placeFrom_21 ⟨fun _ => h I1 hP, fun w => absurd (by rw [hP.2.1, iN_le (by omega) (by omega)]; omega) w⟩
      | succ m ih =>
        intro i hi I1 s hP h
        obtain ⟨f1, n1, L1, r1, t1, o1⟩ := id hP
        rw [List.range'_succ] at h
        refine v_X0_placeFrom_21 ⟨fun w => absurd w (by rw [n1, iN_le (by omega) (by omega)]; omega), fun _ => ⟨fun w => absurd w (by rw [l7, iN_le (by omega) (by omega)]; omega), fun _ => ⟨(vp_iN (by omega)).mpr ⟨by omega, by omega⟩, ?_⟩⟩⟩
        rw [show nn (iN (i : Int)) = i from nn_nat (by omega), show nn (iN (pre.length : Int)) = pre.length from nn_nat (by omega), t1 i (by omega), show iN (i : Int) + (1 : Int32) = iN ((i + 1 : Nat) : Int) from iN_add i 1, show iN (pre.length : Int) + (1 : Int32) = iN ((pre.length + 1 : Nat) : Int) from iN_add _ 1]
        by_cases ci : i ∈ pre
        · rw [if_pos ci]
          rw [List.filter_cons_of_neg (by simp [ci])] at h
          exact ⟨fun w => absurd w (by decide), fun _ => ih (i + 1) (by omega) I1 s hP h⟩
        · rw [if_neg ci]
          rw [List.filter_cons_of_pos (by simp [ci]), List.foldl_cons] at h
          refine ⟨fun _ => ⟨(vp_iN (by omega)).mpr ⟨by omega, by omega⟩, ?_⟩, fun w => absurd rfl w⟩
          generalize eJ : st (st I1 45 i (1 : Int32)) 43 pre.length (iN (i : Int)) = J
          have fJ : ∀ a, a ≠ 43 → a ≠ 45 → J a = I1 a := fun a h1 h2 => by rw [← eJ, st_ne1 h1, st_ne1 h2]
          have g43 : ∀ j, j < pre.length → J 43 j = I1 43 j := fun j hj => by rw [← eJ, st_ne2 (by omega), st_ne1 (by decide)]
          have g43' : J 43 pre.length = iN i := by rw [← eJ, st_self]
          have g45 : ∀ v, v ≠ i → J 45 v = I1 45 v := fun v hv => by rw [← eJ, st_ne1 (by decide), st_ne2 hv]
          have g45' : J 45 i = 1 := by rw [← eJ, st_ne1 (by decide), st_self]
          have hp2 : ∀ v, v ∈ pre ++ [i] → v < mn7 (z0 σ) := fun v hv => by
            rcases List.mem_append.mp hv with q | q
            · exact hp v q
            · rw [List.mem_singleton.mp q]; omega
          have hp2z : ∀ v, v ∈ pre ++ [i] → v < z0 σ := fun v hv => by have := hp2 v hv; omega
          have hvs2 : okVs (rowV (sF σ 0) (pre ++ [i])) (pre ++ [i]).length := rowV_ok (n := sN σ 0) hp2z
          have el : (pre ++ [i]).length = pre.length + 1 := by simp
          have LJ : isTl J 22 (rO4 (sR σ)) (rowV (sF σ 0) (pre ++ [i])) pre.length := by
            refine isTl_congr ?_ (fun j hj => (rowV_pre hj).symm)
            obtain ⟨q1, q2, q3, q4, q5⟩ := L1
            exact ⟨q1, by rw [fJ 22 (by decide) (by decide)]; exact q2, fun r hr => by rw [fJ 23 (by decide) (by decide)]; exact q3 r hr, fun j hj => by rw [fJ 24 (by decide) (by decide)]; exact q4 j hj, fun p hp => tM_fr (q5 p hp) (fJ _ (by omega) (by omega))⟩
          have lastV : rowV (sF σ 0) (pre ++ [i]) pre.length = vd (sF σ 0) i := by
            rw [rowV_at (by omega), List.getD_eq_getElem?_getD, List.getElem?_append_right (Nat.le_refl _), Nat.sub_self]
            rfl
          refine s_tadd (t := 0) (I0 := I) h0 hX (fun a h1 h2 h3 h4 => (fJ a (by omega) (by omega)).trans (f1 a h1 h3)) LJ (by omega) (okR_4 h0.2.1) (fun j hj => hvs2 j (by omega)) (by decide) (show i < z0 σ by omega) lastV (fun I6 f6 L6 => ?_)
          rw [← el] at L6
          have P6 : PO σ I I6 (pre ++ [i]) s := by
            refine ⟨fun a h1 h2 => (f6 a h1).trans ((fJ a (by omega) (by omega)).trans (f1 a h1 h2)), by rw [f6 42 (by decide), fJ 42 (by decide) (by decide)]; exact n1, L6, fun j hj => ?_, fun v hv => ?_, oR_fr o1 (by rw [f6 42 (by decide), fJ 42 (by decide) (by decide)]) (by rw [f6 42 (by decide), fJ 42 (by decide) (by decide)]) (by rw [f6 44 (by decide), fJ 44 (by decide) (by decide)])⟩
            · rw [f6 43 (by decide), List.getD_eq_getElem?_getD]
              by_cases c : j < pre.length
              · rw [g43 j c, r1 j c, List.getElem?_append_left c, ← List.getD_eq_getElem?_getD]
              · rw [show j = pre.length by omega, g43', List.getElem?_append_right (Nat.le_refl _), Nat.sub_self]
                rfl
            · rw [f6 45 (by decide)]
              by_cases c : v = i
              · subst c
                rw [g45', if_pos (by simp)]
              · rw [g45 v c, t1 v hv]
                by_cases c2 : v ∈ pre
                · rw [if_pos c2, if_pos (by simp [c2])]
                · rw [if_neg c2, if_neg (by simp [c2, c])]
          -- the verse is taken back
          have back : ∀ I7 s', PO σ I I7 (pre ++ [i]) s' → s' = DD σ k ((avL (mn7 (z0 σ)) pre).erase i) (pre ++ [i]) s → RV G Y_X5_dropLast [.ref 22] I7 (fun I10 => GV G (Y_X0_placeFrom (d + 1 + 1)) 21 [(0, .ref 42), (1, .int (iN pre.length)), (2, .int (iN ((i + 1 : Nat) : Int)))] (st I10 45 i (0 : Int32)) Q) := by
            intro I7 s' P7 es
            obtain ⟨f7, n7, L7, r7, t7, o7⟩ := P7
            have e3 : I7 22 3 = iN ((pre.length + 1 : Nat) : Int) := by rw [← el]; exact L7.2.1
            refine v_X5_dropLast (Or.inr rfl) ?_
            rw [e3, l0, l1, iN_le (by omega) (by omega), iN_sub]
            refine ⟨fun w => absurd w (by omega), fun _ => ?_⟩
            rw [show (((pre.length + 1 : Nat) : Int) - 1) = (pre.length : Int) by omega]
            generalize eK : st (st I7 22 3 (iN (pre.length : Int))) 45 i (iN 0) = K
            have fK : ∀ a, a ≠ 22 → a ≠ 45 → K a = I7 a := fun a h1 h2 => by rw [← eK, st_ne1 h2, st_ne1 h1]
            refine ih (i + 1) (by omega) K s' ⟨fun a h1 h2 => (fK a (by omega) (by omega)).trans (f7 a h1 h2), by rw [fK 42 (by decide) (by decide)]; exact n7, ?_, fun j hj => ?_, fun v hv => ?_, oR_fr o7 (by rw [fK 42 (by decide) (by decide)]) (by rw [fK 42 (by decide) (by decide)]) (by rw [fK 44 (by decide) (by decide)])⟩ (fun I2 P2 => h I2 (by rw [← es]; exact P2))
            · refine isTl_congr (vs := rowV (sF σ 0) (pre ++ [i])) ?_ (fun j hj => rowV_pre hj)
              obtain ⟨q1, q2, q3, q4, q5⟩ := L7
              refine ⟨by rw [te22]; omega, by rw [← eK, st_ne1 (by decide), st_self], fun r hr => by rw [fK 23 (by decide) (by decide)]; exact q3 r hr, fun j hj => by rw [fK 24 (by decide) (by decide)]; exact q4 j hj, fun p hp => tM_fr (q5 p (by omega)) (fK _ (by omega) (by omega))⟩
            · rw [fK 43 (by decide) (by decide), r7 j (by omega), List.getD_eq_getElem?_getD, List.getElem?_append_left hj, ← List.getD_eq_getElem?_getD]
            · by_cases c : v = i
              · subst c
                rw [← eK, st_self, if_neg ci]; rfl
              · rw [← eK, st_ne2 c, st_ne1 (by decide), t7 v hv]
                by_cases c2 : v ∈ pre
                · rw [if_pos c2, if_pos (by simp [c2])]
                · rw [if_neg c2, if_neg (by simp [c2, c])]
          refine s_mayBest h0 P6 hp2z (fun hb => ⟨fun w => absurd w (by decide), fun _ => ?_⟩) (fun hb => ⟨fun _ => ?_, fun w => absurd rfl w⟩)
          · rw [← el]
            refine ihk d (pre ++ [i]) s I6 _ (by omega) (by omega) hp2 P6 hb (fun I2 P2 => ?_)
            exact back I2 _ P2 (by rw [avL_e])
          · refine back I6 s P6 (DD_n h0 hp2z (fun v hv => ?_) (by omega) hb).symm
            have := avL_m (List.mem_of_mem_erase hv)
            omega
    refine loop (mn7 (z0 σ)) 0 (by omega) I1 s hP (fun I2 P2 => h I2 ?_)
    rw [DD_s]
    rw [← List.range_eq_range'] at P2
    exact P2
theorem s_seekO {Q : HP → Prop} (h0 : okS0 σ) (hX : RX I σ) (h10 : I 0 10 = 0) (h : ∀ I2, (∀ a, a < 22 ∨ 40 ≤ a → a < 42 ∨ 46 ≤ a → I2 a = I a) → RX I2 σ → oR σ I2 (ordB (sR σ) (sF σ 0) (z0 σ)) → Q I2) : RV G Y_X0_seek [.ref 42] I Q := by
  have hm := mn7_bd (z0 σ)
  have hz := z0_le h0
  have hT : isTel 22 := Or.inr rfl
  refine v_X0_seek (fun I1 e1 => ?_)
  have e23 : I 2 3 = iN (z0 σ) := hX.1.2.2.2.2
  have esz : (if (I 2 3) < (7 : Int32) then (I 2 3) else (7 : Int32)) = iN (mn7 (z0 σ)) := by
    rw [e23, l7]
    unfold mn7
    by_cases c : z0 σ < 7
    · rw [if_pos (by rw [iN_lt (by omega) (by omega)]; omega), if_pos c]
    · rw [if_neg (by rw [iN_lt (by omega) (by omega)]; omega), if_neg c]; rfl
  rw [esz] at e1
  have f1 : ∀ a, a ≠ 42 → I1 a = I a := fun a ha => by rw [e1, st_ne1 ha, st_ne1 ha, st_ne1 ha]
  have g6 : I1 42 6 = iN (mn7 (z0 σ)) := by rw [e1, st_ne2 (by decide), st_ne2 (by decide), st_self]
  have g7 : I1 42 7 = iN 1000000 := by rw [e1, st_ne2 (by decide), st_self]; rfl
  have g8 : I1 42 8 = iN 1000000 := by rw [e1, st_self]; rfl
  have loop : ∀ m i : Nat, i + m = 7 → ∀ J : HP, (∀ a, a ≠ 44 → a ≠ 45 → J a = I1 a) → (∀ k, k < i → J 44 k = iN (-1) ∧ J 45 k = 0) → GV G Y_X0_seek 30 [(0, .ref 42), (1, .int (iN i))] J Q := by
    intro m
    induction m with
    | zero =>
      intro i hi J eJ gJ
      refine v_X0_seek_30 ⟨fun _ => ?_, fun w => absurd (by rw [l7, iN_le (by omega) (by omega)]; omega) w⟩
      have fJ : ∀ a, a < 42 ∨ 46 ≤ a → J a = I a := fun a ha => (eJ a (by omega) (by omega)).trans (f1 a (by omega))
      refine s_open (R := sR σ) (vs := rowV (sF σ 0) []) hT (fun r hr => by rw [fJ 1 (by decide)]; exact hX.2.2.1 r (by omega)) (by unfold stZ; rw [fJ (22 + 2) (by decide)]; exact hX.2.2.2.2.1) (fun I2 f2 L2 => ?_)
      refine v_X5_letHimPause hT ?_
      generalize eK : st (st I2 (22 + 1) 4 (0 : Int32)) (22 + 1) 3 (nI (teN 22)) = K
      have fK : ∀ a, a ≠ 23 → K a = I2 a := fun a ha => by rw [← eK, st_ne1 ha, st_ne1 ha]
      have f2' := fr22 f2
      have LK : isTl K 22 (rO4 (sR σ)) (rowV (sF σ 0) []) 0 := by
        obtain ⟨q1, q2, q3, q4, q5⟩ := L2
        refine ⟨q1, by rw [fK 22 (by decide)]; exact q2, fun r hr => ?_, fun j hj => by rw [fK 24 (by decide)]; exact q4 j hj, fun p hp => absurd hp (Nat.not_lt_zero _)⟩
        rw [← eK]
        rcases (show r = 0 ∨ r = 1 ∨ r = 2 ∨ r = 3 ∨ r = 4 by omega) with rfl | rfl | rfl | rfl | rfl
        · rw [st_ne2 (by decide), st_ne2 (by decide)]; exact q3 0 (by decide)
        · rw [st_ne2 (by decide), st_ne2 (by decide)]; exact q3 1 (by decide)
        · rw [st_ne2 (by decide), st_ne2 (by decide)]; exact q3 2 (by decide)
        · rw [st_self, te22]; rfl
        · rw [st_ne2 (by decide), st_self]; rfl
      have fKI : ∀ a, a < 22 ∨ 40 ≤ a → K a = J a := fun a ha => (fK a (by omega)).trans (f2' a ha)
      have PK : PO σ I K [] (-1, 0, []) := by
        refine ⟨fun a h1 h2 => (fKI a h1).trans (fJ a h2), by rw [fKI 42 (by decide), eJ 42 (by decide) (by decide)]; exact g6, LK, fun j hj => absurd hj (Nat.not_lt_zero _), fun v hv => ?_, ?_, ?_, fun k hk => ?_, ?_⟩
        · rw [fKI 45 (by decide), (gJ v (by omega)).2]; rfl
        · rw [fKI 42 (by decide), eJ 42 (by decide) (by decide)]; exact g7
        · rw [fKI 42 (by decide), eJ 42 (by decide) (by decide)]; exact g8
        · rw [fKI 44 (by decide), (gJ k (by omega)).1]; rfl
        · show (-1 ≤ (-1 : Int) ∧ (-1 : Int) ≤ 10000) ∧ (-1 ≤ (0 : Int) ∧ (0 : Int) ≤ 10000)
          omega
      refine s_place (Q := Q) h0 hX (mn7 (z0 σ)) 7 [] (-1, 0, []) K Q (by simp) hm.1 (fun v hv => absurd hv (by simp)) PK (Or.inl rfl) (fun I4 P4 => ?_)
      obtain ⟨a1, a2, a3, a4, a5, a6⟩ := P4
      rw [avL_0] at a6
      refine h I4 a1 (RX_fr2 hX (fun a h1 _ h3 _ => a1 a h1 h3) (fun _ => a1 41 (by decide) (by decide)) (fun c => absurd h10 c) (isTl_Z a3)) a6
    | succ m ih =>
      intro i hi J eJ gJ
      refine v_X0_seek_30 ⟨fun w => absurd w (by rw [l7, iN_le (by omega) (by omega)]; omega), fun _ => ⟨(vp_iN (by omega)).mpr ⟨by omega, by omega⟩, ?_⟩⟩
      rw [show nn (iN (i : Int)) = i from nn_nat (by omega), show iN (i : Int) + (1 : Int32) = iN ((i + 1 : Nat) : Int) from iN_add i 1]
      refine ih (i + 1) (by omega) _ (fun a h1 h2 => by rw [st_ne1 h2, st_ne1 h1]; exact eJ a h1 h2) (fun k hk => ?_)
      rw [st_ne1 (show 44 ≠ 45 by decide)]
      by_cases e : k = i
      · subst e; rw [st_self, st_self]; exact ⟨rfl, rfl⟩
      · rw [st_ne2 e, st_ne2 e, st_ne1 (show 45 ≠ 44 by decide)]; exact gJ k (by omega)
  exact loop 7 0 (by omega) I1 (fun _ _ _ => rfl) (fun k hk => absurd hk (Nat.not_lt_zero _))
theorem RX_10 (hX : RX I σ) (hB : I 42 7 = iN (ordB (sR σ) (sF σ 0) (z0 σ)).1 ∧ I 42 8 = iN (ordB (sR σ) (sF σ 0) (z0 σ)).2.1 ∧ ∀ k : Nat, k < 7 → I 44 k = iN (ordA (sR σ) (sF σ 0) (z0 σ) k)) : RX (st I 0 10 (1 : Int32)) σ := by
  have ne : ∀ a, a ≠ 0 → (st I 0 10 (1 : Int32)) a = I a := fun a ha => st_ne1 ha
  obtain ⟨h1, h2, h3, h4, h5, h6, h7, h8, h9, h10⟩ := hX
  refine ⟨isS_fr h1 (ne 2 (by decide)) (ne 3 (by decide)), isS_fr h2 (ne 4 (by decide)) (ne 5 (by decide)), ?_, ?_, ?_, ?_, ?_, ?_, ?_, ?_⟩
  · rw [ne 1 (by decide)]; exact h3
  · obtain ⟨q1, q2, q3, q4, q5⟩ := h4
    exact ⟨q1, by rw [ne 6 (by decide)]; exact q2, fun r hr => by rw [ne 7 (by decide)]; exact q3 r hr, fun j hj => by rw [ne 8 (by decide)]; exact q4 j hj, fun p hp => tM_fr (q5 p hp) (ne _ (by omega))⟩
  · rw [ne 24 (by decide)]; exact h5
  · rw [st_ne2 (by decide), ne 41 (by decide)]; exact h6
  · rw [ne 42 (by decide), ne 44 (by decide)]; exact fun _ => hB
  · rw [ne 46 (by decide), ne 47 (by decide), ne 48 (by decide)]; exact h8
  · intro s hs
    rw [ne (50 + 2 * s) (by omega), ne (51 + 2 * s) (by omega)]; exact h9 s hs
  · rw [st_ne2 (by decide)]; exact h10
theorem X_order {Q : HP → Int32 → Prop} {a : Int32} (h0 : okS0 σ) (hX : RX I σ) (h : XP I σ Q (an_order σ a)) : RI G Y_X7_order [.ref 0, .int a] I Q := by
  unfold an_order at h
  have hz := z0_le h0
  have hm := mn7_bd (z0 σ)
  obtain ⟨z, hzb, ea, ez⟩ := i32 a
  rw [ez] at h
  refine v_X7_order ?_
  rw [show (-2 : Int32) = iN (-2) from rfl, show (-1 : Int32) = iN (-1) from rfl, show (a < iN (-2)) = (iN z < iN (-2)) by rw [ea], show (a < 7) = (iN z < iN 7) by rw [ea]; rfl, show (a = iN (-2)) = (iN z = iN (-2)) by rw [ea], show (a = iN (-1)) = (iN z = iN (-1)) by rw [ea], iN_lt (by omega) (by omega), iN_lt (by omega) (by omega), iN_eq (by omega) (by omega), iN_eq (by omega) (by omega)]
  refine ⟨fun c => ?_, fun c => ⟨fun c2 => ?_, fun c2 => ?_⟩⟩
  · rw [if_neg (by omega)] at h; exact h I (fun _ _ => rfl) hX
  · rw [if_pos (by omega)] at h
    have tell : ∀ J : HP, (∀ a, 58 ≤ a → J a = I a) → RX J σ → J 42 7 = iN (ordB (sR σ) (sF σ 0) (z0 σ)).1 ∧ J 42 8 = iN (ordB (sR σ) (sF σ 0) (z0 σ)).2.1 ∧ (∀ k : Nat, k < 7 → J 44 k = iN (ordA (sR σ) (sF σ 0) (z0 σ) k)) → ((¬ z = -2) → (((¬ z = -1) → ((vp_in a 7) ∧ (Q J (J 44 (nn a))))) ∧ ((z = -1) → (Q J (J 42 8))))) ∧ ((z = -2) → (Q J (J 42 7))) := by
      intro J fJ hXJ hB
      have hq := h J fJ hXJ
      refine ⟨fun d => ⟨fun d2 => ?_, fun d2 => ?_⟩, fun d => ?_⟩
      · obtain ⟨t, et⟩ : ∃ t : Nat, z = t := ⟨z.toNat, by omega⟩
        have htn : nn a = t := by show a.toInt.toNat = t; omega
        refine ⟨by rw [ea]; exact (vp_iN (by omega)).mpr ⟨by omega, by omega⟩, ?_⟩
        rw [htn, hB.2.2 t (by omega), ← et]; exact hq
      · rw [hB.2.1]
        unfold ordA at hq
        rw [if_neg d, if_pos d2] at hq; exact hq
      · rw [hB.1]
        unfold ordA at hq
        rw [if_pos d] at hq; exact hq
    refine ⟨fun c3 => tell I (fun _ _ => rfl) hX (hX.2.2.2.2.2.2.1 c3), fun c3 => s_seekO h0 hX c3 (fun I2 f2 hX2 o2 => ?_)⟩
    have hne := ordB_ne h0
    have hB : I2 42 7 = iN (ordB (sR σ) (sF σ 0) (z0 σ)).1 ∧ I2 42 8 = iN (ordB (sR σ) (sF σ 0) (z0 σ)).2.1 ∧ ∀ k : Nat, k < 7 → I2 44 k = iN (ordA (sR σ) (sF σ 0) (z0 σ) k) := by
      obtain ⟨a1, a2, a3, -⟩ := o2
      rw [if_neg hne] at a1 a2
      refine ⟨a1, a2, fun k hk => ?_⟩
      rw [a3 k hk, if_neg hne]
      unfold ordA
      rw [if_neg (show ¬ (k : Int) = -2 by omega), if_neg (show ¬ (k : Int) = -1 by omega)]
      have hmk : k < mn7 (z0 σ) ↔ (k : Int) < z0 σ := by unfold mn7; split <;> omega
      by_cases c : k < mn7 (z0 σ)
      · rw [if_pos c, if_pos (hmk.mp c)]; rfl
      · rw [if_neg c, if_neg (fun q => c (hmk.mpr q))]
    have := tell (st I2 0 10 (1 : Int32)) (fun a ha => by rw [st_ne1 (by omega)]; exact f2 a (by omega) (by omega)) (RX_10 hX2 hB) (by rw [st_ne1 (by decide), st_ne1 (by decide)]; exact hB)
    exact this
  · rw [if_neg (by omega)] at h; exact h I (fun _ _ => rfl) hX
end XOrd
