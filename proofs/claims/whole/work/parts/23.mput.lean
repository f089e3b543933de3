/-! ===== calls of the reference: put ===== -/
theorem rowP_len (f0 : Nat → Int32) (z0 : Nat) (f1 : Nat → Int32) (p a q b : Int) : ∀ m, (rowP f0 z0 f1 p a q b m).length = (if m < z0 then m else z0) + (if 0 ≤ p ∧ p < m then 1 else 0) + (if 0 ≤ q ∧ q < m then 1 else 0)
  | 0 => by
    show 0 = _
    rw [if_neg (show ¬ (0 ≤ p ∧ p < ((0 : Nat) : Int)) by omega), if_neg (show ¬ (0 ≤ q ∧ q < ((0 : Nat) : Int)) by omega)]
    split <;> omega
  | m + 1 => by
    have ih := rowP_len f0 z0 f1 p a q b m
    show (rowP f0 z0 f1 p a q b m ++ rowAt f0 z0 f1 p a q b m).length = _
    rw [List.length_append, ih]
    unfold rowAt
    rw [List.length_append, List.length_append]
    have e1 : ∀ (c : Prop) [Decidable c] (x : Nat → Int), (if c then [x] else []).length = if c then 1 else 0 := by
      intro c _ x
      split <;> rfl
    rw [e1, e1, e1]
    repeat' split
    all_goals omega
theorem rowP_ok {f0 : Nat → Int32} {n0 : Nat} {f1 : Nat → Int32} {n1 : Nat} {p a q b : Int} (ha : p ≠ -1 → 0 ≤ p → a.toNat < szT f1 n1) (hb : q ≠ -1 → 0 ≤ q → b.toNat < szT f1 n1) : ∀ m x, x ∈ rowP f0 (szT f0 n0) f1 p a q b m → okV1 x
  | 0, x, hx => absurd hx (by simp [rowP])
  | m + 1, x, hx => by
    have hx : x ∈ rowP f0 (szT f0 n0) f1 p a q b m ++ rowAt f0 (szT f0 n0) f1 p a q b m := hx
    rcases List.mem_append.mp hx with c | c
    · exact rowP_ok ha hb m x c
    · unfold rowAt at c
      rcases List.mem_append.mp c with c | c
      · split at c
        · rename_i e
          rw [List.mem_singleton.mp c]
          exact vd_ok (ha (by omega) (by omega))
        · exact absurd c (by simp)
      · rcases List.mem_append.mp c with c | c
        · split at c
          · rename_i e
            rw [List.mem_singleton.mp c]
            exact vd_ok (hb (by omega) (by omega))
          · exact absurd c (by simp)
        · split at c
          · rename_i e
            rw [List.mem_singleton.mp c]
            exact vd_ok e
          · exact absurd c (by simp)
theorem vsL_ok {L : List (Nat → Int)} (h : ∀ x, x ∈ L → okV1 x) : okVs (vsL L) L.length := fun p hp => by
  unfold vsL
  rw [List.getD_eq_getElem?_getD, List.getElem?_eq_getElem hp]
  exact h _ (List.getElem_mem hp)
theorem vsL_l {L : List (Nat → Int)} {x : Nat → Int} {i : Nat} (h : i < L.length) : vsL (L ++ [x]) i = vsL L i := by
  unfold vsL
  rw [List.getD_eq_getElem?_getD, List.getElem?_append_left h, ← List.getD_eq_getElem?_getD]
theorem vsL_e {L : List (Nat → Int)} {x : Nat → Int} : vsL (L ++ [x]) L.length = x := by
  unfold vsL
  simp [List.getD_eq_getElem?_getD]
/-- what the reference was told of a verse -/
def tv (I : HP) (r : Nat) (v : Nat → Int) : Prop := I 66 (4 * r) = iN (v 1) ∧ I 66 (4 * r + 1) = iN (v 2) ∧ I 66 (4 * r + 2) = iN (v 3) ∧ I 66 (4 * r + 3) = iN (v 0)
theorem tv_0 {I : HP} {f : Nat → Int32} {n v : Nat} (ht : tOK I 0 f n) (hv : v < szT f n) : tv I v (vd f v) := by
  obtain ⟨t1, t2⟩ := ht v hv
  have e : tp 0 v = 4 * v := by unfold tp; omega
  rw [e] at t1 t2
  exact ⟨t1 0 (by decide), t1 1 (by decide), t1 2 (by decide), t2⟩
theorem tv_1 {I : HP} {f : Nat → Int32} {n v : Nat} (ht : tOK I 1 f n) (hv : v < szT f n) : tv I (12 + v) (vd f v) := by
  obtain ⟨t1, t2⟩ := ht v hv
  have e : tp 1 v = 4 * (12 + v) := by unfold tp; omega
  rw [e] at t1 t2
  exact ⟨t1 0 (by decide), t1 1 (by decide), t1 2 (by decide), t2⟩
section MPut
variable {G : CX} {I : HP} {σ : SG}
theorem row_app {L : List (Nat → Int)} {v : Nat → Int} {x : Int32} {r : Nat} (hr : rowOK I (vsL L) L.length) (hl : L.length < 14) (hx : x = iN r) (hr16 : r < 16) (t : tv I r v) :
    vp_in (I 58 11) 14 ∧ ∀ I2, I2 = (st (st I 68 (nn (I 58 11)) x) 58 11 (((st I 68 (nn (I 58 11)) x) 58 11) + 1)) → rowOK I2 (vsL (L ++ [v])) (L ++ [v]).length ∧ frm [68] [11] I I2 := by
  obtain ⟨h1, h2, h3⟩ := hr
  rw [h1]
  refine ⟨(vp_iN (by omega)).mpr ⟨by omega, by omega⟩, fun I2 e2 => ?_⟩
  rw [st_ne1 (by decide), h1, show nn (iN ((L.length : Nat) : Int)) = L.length from nn_nat (by omega), l1, iN_add] at e2
  have elen : (L ++ [v]).length = L.length + 1 := by simp
  rw [e2, elen]
  refine ⟨⟨by rw [st_self]; rfl, by omega, fun i hi => ?_⟩, frm_s8 (frm_st frm_rf (by decide) (by decide)) (by decide)⟩
  rw [st_ne1 (show (68 : Nat) ≠ 58 by decide), st_ne1 (show (66 : Nat) ≠ 58 by decide), st_ne1 (show (66 : Nat) ≠ 68 by decide)]
  by_cases e : i = L.length
  · subst e
    rw [vsL_e, st_self]
    exact ⟨r, hr16, hx, t⟩
  · rw [vsL_l (by omega), st_ne2 e]
    exact h3 i (by omega)
/-- a place and a hard one, or none -/
def okP (σ : SG) (p a : Int) : Prop := (p = -1 ∧ a = -1) ∨ ((0 ≤ p ∧ p ≤ z0 σ) ∧ (0 ≤ a ∧ a < z1 σ))
theorem s_lays {Q : HP → Prop} {p a q b : Int} (h0 : okS0 σ) (hG : mG I σ) (hp : okP σ p a) (hq : okP σ q b)
    (h : ∀ I', frm [68] [11] I I' → rowOK I' (vsL (rowP (sF σ 0) (z0 σ) (sF σ 1) p a q b (z0 σ + 1))) (rowP (sF σ 0) (z0 σ) (sF σ 1) p a q b (z0 σ + 1)).length → Q I') :
    RV G Y_X8_lays [.ref 58, .int (iN p), .int (iN a), .int (iN q), .int (iN b)] I Q := by
  have hz := z0_le h0
  have hz1 := z1_le h0
  obtain ⟨g1, g2, g3, g4⟩ := hG
  unfold okP at hp hq
  refine v_X8_lays ?_
  have loop : ∀ m i : Nat, i + m = z0 σ + 1 → ∀ I1, frm [68] [11] I I1 → rowOK I1 (vsL (rowP (sF σ 0) (z0 σ) (sF σ 1) p a q b i)) (rowP (sF σ 0) (z0 σ) (sF σ 1) p a q b i).length → GV G Y_X8_lays 8 [(0, .ref 58), (1, .int (iN p)), (2, .int (iN a)), (3, .int (iN q)), (4, .int (iN b)), (5, .int (iN i))] I1 Q := by
    intro m
    induction m with
    | zero =>
      intro i hi I1 f1 r1
      refine v_X8_lays_8 ⟨fun _ => h I1 f1 (by rw [show z0 σ + 1 = i by omega]; exact r1), fun w => absurd (by rw [f1.1 65 (by decide) (by decide), g1, iN_lt (by omega) (by omega)]; omega) w⟩
    | succ m ih =>
      intro i hi I1 f1 r1
      have hlen := rowP_len (sF σ 0) (z0 σ) (sF σ 1) p a q b i
      have nxt := ih (i + 1) (by omega)
      have e65 : ∀ I2, frm [68] [11] I I2 → I2 65 0 = iN (z0 σ) := fun I2 f2 => by rw [f2.1 65 (by decide) (by decide)]; exact g1
      have e66 : ∀ I2, frm [68] [11] I I2 → I2 66 = I 66 := fun I2 f2 => f2.1 66 (by decide) (by decide)
      have tvf : ∀ I2 r v, frm [68] [11] I I2 → tv I r v → tv I2 r v := fun I2 r v f2 t => by unfold tv; rw [e66 I2 f2]; exact t
      -- the last of the three
      have fin : ∀ I2 L, frm [68] [11] I I2 → rowOK I2 (vsL L) L.length → L.length ≤ i + 2 → L ++ (if i < z0 σ then [vd (sF σ 0) i] else []) = rowP (sF σ 0) (z0 σ) (sF σ 1) p a q b (i + 1) →
          (((I2 65 0) ≤ iN i) → (GV G Y_X8_lays 8 [(0, .ref 58), (1, .int (iN p)), (2, .int (iN a)), (3, .int (iN q)), (4, .int (iN b)), (5, .int (iN i + 1))] I2 Q)) ∧ ((¬ (I2 65 0) ≤ iN i) → ((vp_in (I2 58 11) 14) ∧ (GV G Y_X8_lays 8 [(0, .ref 58), (1, .int (iN p)), (2, .int (iN a)), (3, .int (iN q)), (4, .int (iN b)), (5, .int (iN i + 1))] (st (st I2 68 (nn (I2 58 11)) (iN i)) 58 11 (((st I2 68 (nn (I2 58 11)) (iN i)) 58 11) + 1)) Q))) := by
        intro I2 L f2 r2 hL eL
        rw [e65 I2 f2, iN_le (by omega) (by omega), show iN (i : Int) + (1 : Int32) = iN ((i + 1 : Nat) : Int) from iN_add i 1]
        refine ⟨fun c => ?_, fun c => ?_⟩
        · rw [if_neg (by omega), List.append_nil] at eL
          refine nxt I2 f2 ?_
          rw [← eL]; exact r2
        · rw [if_pos (by omega)] at eL
          obtain ⟨v1, v2⟩ := row_app (v := vd (sF σ 0) i) (r := i) r2 (by omega) rfl (by omega) (tvf I2 _ _ f2 (tv_0 g3 (show i < szT (sF σ 0) (sN σ 0) by unfold z0 at c; omega)))
          refine ⟨v1, ?_⟩
          obtain ⟨w1, w2⟩ := v2 _ rfl
          rw [eL] at w1
          exact nxt _ (frm_tr f2 w2) w1
      have rp : rowP (sF σ 0) (z0 σ) (sF σ 1) p a q b (i + 1) = rowP (sF σ 0) (z0 σ) (sF σ 1) p a q b i ++ ((if (i : Int) = p then [vd (sF σ 1) a.toNat] else []) ++ ((if (i : Int) = q then [vd (sF σ 1) b.toNat] else []) ++ (if i < z0 σ then [vd (sF σ 0) i] else []))) := rfl
      have hl0 : (rowP (sF σ 0) (z0 σ) (sF σ 1) p a q b i).length + (if (i : Int) = p then 1 else 0) + (if (i : Int) = q then 1 else 0) ≤ i + 2 ∧ i + 2 ≤ 14 := by
        refine ⟨?_, by omega⟩
        rw [hlen]
        repeat' split
        all_goals omega
      refine v_X8_lays_8 ⟨fun w => absurd w (by rw [e65 I1 f1, iN_lt (by omega) (by omega)]; omega), fun _ => ?_⟩
      rw [iN_eq (by omega) (by omega), iN_eq (by omega) (by omega)]
      refine ⟨fun cp => ⟨fun cq => fin I1 _ f1 r1 (by omega) (by rw [rp, if_neg cp, if_neg cq]; rfl), fun cq => ?_⟩, fun cp => ?_⟩
      · rw [if_neg cp, if_pos cq] at hl0
        obtain ⟨v1, v2⟩ := row_app (v := vd (sF σ 1) b.toNat) (r := 12 + b.toNat) (x := (12 : Int32) + iN b) r1 (by omega) (by rw [l12, iN_add]; congr 1; omega) (by omega) (tvf I1 _ _ f1 (tv_1 g4 (show b.toNat < szT (sF σ 1) (sN σ 1) by unfold z1 at hq; omega)))
        refine ⟨v1, fun I7 e7 => ?_⟩
        obtain ⟨w1, w2⟩ := v2 I7 e7
        refine fin I7 _ (frm_tr f1 w2) w1 (by simp; omega) ?_
        rw [rp, if_neg cp, if_pos cq, List.nil_append, List.append_assoc]
      · rw [if_pos cp] at hl0
        obtain ⟨v1, v2⟩ := row_app (v := vd (sF σ 1) a.toNat) (r := 12 + a.toNat) (x := (12 : Int32) + iN a) r1 (by split at hl0 <;> omega) (by rw [l12, iN_add]; congr 1; omega) (by omega) (tvf I1 _ _ f1 (tv_1 g4 (show a.toNat < szT (sF σ 1) (sN σ 1) by unfold z1 at hp; omega)))
        refine ⟨v1, fun I11 e11 => ?_⟩
        obtain ⟨w1, w2⟩ := v2 I11 e11
        have f11 := frm_tr f1 w2
        refine ⟨fun cq => ?_, fun cq => ?_⟩
        · rw [if_neg cq] at hl0
          refine fin I11 _ f11 w1 (by simp; omega) ?_
          rw [rp, if_pos cp, if_neg cq, List.nil_append, List.append_assoc]
        · rw [if_pos cq] at hl0
          obtain ⟨v1', v2'⟩ := row_app (v := vd (sF σ 1) b.toNat) (r := 12 + b.toNat) (x := (12 : Int32) + iN b) w1 (by simp; omega) (by rw [l12, iN_add]; congr 1; omega) (by omega) (tvf I11 _ _ f11 (tv_1 g4 (show b.toNat < szT (sF σ 1) (sN σ 1) by unfold z1 at hq; omega)))
          refine ⟨v1', fun I16 e16 => ?_⟩
          obtain ⟨w3, w4⟩ := v2' I16 e16
          refine fin I16 _ (frm_tr f11 w4) w3 (by simp; omega) ?_
          rw [rp, if_pos cp, if_pos cq, List.append_assoc, List.append_assoc]
  refine loop (z0 σ + 1) 0 (by omega) _ (frm_s8 frm_rf (by decide)) ⟨by rw [st_self]; rfl, by show 0 ≤ 14; omega, fun i hi => absurd hi (Nat.not_lt_zero _)⟩
def bOK (best : Nat → Int) : Prop := ∀ k, -1 ≤ best k ∧ best k ≤ 100000
def hB (I : HP) (best : Nat → Int) : Prop := ∀ k, k < 6 → I 76 k = iN (best k)
theorem okP_a {p a : Int} (h0 : okS0 σ) (h : okP σ p a) : (-1 ≤ p ∧ p ≤ 12) ∧ (-1 ≤ a ∧ a ≤ 3) ∧ (p ≠ -1 → 0 ≤ p → a.toNat < szT (sF σ 1) (sN σ 1)) := by
  have hz := z0_le h0
  have hz1 := z1_le h0
  have : z1 σ = szT (sF σ 1) (sN σ 1) := rfl
  unfold okP at h
  omega
theorem rowP_le {p a q b : Int} (h0 : okS0 σ) : (rowP (sF σ 0) (z0 σ) (sF σ 1) p a q b (z0 σ + 1)).length ≤ 14 := by
  have hz := z0_le h0
  rw [rowP_len]
  repeat' split
  all_goals omega
theorem rowP_vs {p a q b : Int} (h0 : okS0 σ) (hp : okP σ p a) (hq : okP σ q b) : okVs (vsL (rowP (sF σ 0) (z0 σ) (sF σ 1) p a q b (z0 σ + 1))) (rowP (sF σ 0) (z0 σ) (sF σ 1) p a q b (z0 σ + 1)).length :=
  vsL_ok (rowP_ok (n0 := sN σ 0) (n1 := sN σ 1) (okP_a h0 hp).2.2 (okP_a h0 hq).2.2 _)
theorem att_ok {best : Nat → Int} {k p a q b : Int} (h0 : okS0 σ) (hp : okP σ p a) (hq : okP σ q b) (hk : 0 ≤ k ∧ k ≤ 2) (hb : bOK best) : bOK (att (sR σ) (sF σ 0) (z0 σ) (sF σ 1) best k p a q b) := by
  intro j
  have b1 := okP_a h0 hp
  have b2 := okP_a h0 hq
  have bt := bd_tl h0.2.1 (rowP_vs h0 hp hq) _ (Nat.le_refl _) (rowP_le h0)
  have hl := rowP_le (p := p) (a := a) (q := q) (b := b) h0
  have b7 := bt.2.2.2.2.2
  unfold att
  split
  · unfold cand
    split <;> omega
  · exact hb j
theorem att_0 {R : Nat → Int} {f0 f1 : Nat → Int32} {z : Nat} {best : Nat → Int} {k p a q b : Int} : att R f0 z f1 best k p a q b 0 = best 0 ∨ att R f0 z f1 best k p a q b 0 = k := by
  unfold att
  split
  · exact Or.inr rfl
  · exact Or.inl rfl
theorem s_looks {Q : HP → Prop} {best : Nat → Int} {k p a q b : Int} (h0 : okS0 σ) (hM : RM I σ) (hG : mG I σ) (hp : okP σ p a) (hq : okP σ q b) (hb : bOK best) (hI : hB I best)
    (h : ∀ I', frm saC saS I I' → hB I' (att (sR σ) (sF σ 0) (z0 σ) (sF σ 1) best k p a q b) → Q I') : RV G Y_X8_looks [.ref 58, .int (iN k), .int (iN p), .int (iN a), .int (iN q), .int (iN b)] I Q := by
  refine v_X8_looks (s_lays h0 hG hp hq (fun I1 f1 r1 => ?_))
  have f1' : frm saC saS I I1 := frm_mo f1 (by decide) (by decide)
  have hM1 := RM_sc hM (sa_sc f1')
  rw [hM1.2.2.1 0 (by decide), hM1.2.2.1 4 (by decide), hM1.2.2.1 3 (by decide)]
  refine s_says r1 (rowP_vs h0 hp hq) h0.2.1 (hM1.2.2.1 1 (by decide)) (hM1.2.2.1 2 (by decide)) (fun I2 f2 s2 => ?_)
  have f2' : frm saC saS I I2 := frm_tr f1' (frm_mo f2 (by decide) (by decide))
  have r2 := row_says r1 f2
  have hl := rowP_le (p := p) (a := a) (q := q) (b := b) h0
  have bt := bd_tl h0.2.1 (rowP_vs h0 hp hq) _ (Nat.le_refl _) hl
  have hw := wrN_le (sR σ) (vsL (rowP (sF σ 0) (z0 σ) (sF σ 1) p a q b (z0 σ + 1))) (rowP (sF σ 0) (z0 σ) (sF σ 1) p a q b (z0 σ + 1)).length
  have hwi := wrN_iff (R := sR σ) (vs := vsL (rowP (sF σ 0) (z0 σ) (sF σ 1) p a q b (z0 σ + 1))) (n := (rowP (sF σ 0) (z0 σ) (sF σ 1) p a q b (z0 σ + 1)).length)
  have e76 : I2 76 = I 76 := by rw [f2.1 76 (by decide) (by decide), f1.1 76 (by decide) (by decide)]
  have hI2 : hB I2 best := fun j hj => by rw [e76]; exact hI j hj
  have hb0 := hb 0
  have hb1 := hb 1
  unfold att at h
  obtain ⟨-, -, s20, s21, s22, -⟩ := s2
  have b10 := bt.2.1
  have b7 := bt.2.2.2.2.2
  rw [s21, s22, r2.1, hI2 0 (by decide), hI2 1 (by decide), l0, iN_eq (by omega) (by omega), iN_eq (by omega) (by omega), show (-1 : Int32) = iN (-1) from rfl, iN_eq (by omega) (by omega)]
  have stay : ¬ (tl (sR σ) (vsL (rowP (sF σ 0) (z0 σ) (sF σ 1) p a q b (z0 σ + 1))) (rowP (sF σ 0) (z0 σ) (sF σ 1) p a q b (z0 σ + 1)).length 7 ≠ -1 ∧ tl (sR σ) (vsL (rowP (sF σ 0) (z0 σ) (sF σ 1) p a q b (z0 σ + 1))) (rowP (sF σ 0) (z0 σ) (sF σ 1) p a q b (z0 σ + 1)).length 10 = 0 ∧ (best 0 = -1 ∨ tl (sR σ) (vsL (rowP (sF σ 0) (z0 σ) (sF σ 1) p a q b (z0 σ + 1))) (rowP (sF σ 0) (z0 σ) (sF σ 1) p a q b (z0 σ + 1)).length 7 < best 1)) → Q I2 := by
    intro c
    rw [if_neg c] at h
    exact h I2 f2' hI2
  have take : (tl (sR σ) (vsL (rowP (sF σ 0) (z0 σ) (sF σ 1) p a q b (z0 σ + 1))) (rowP (sF σ 0) (z0 σ) (sF σ 1) p a q b (z0 σ + 1)).length 7 ≠ -1 ∧ tl (sR σ) (vsL (rowP (sF σ 0) (z0 σ) (sF σ 1) p a q b (z0 σ + 1))) (rowP (sF σ 0) (z0 σ) (sF σ 1) p a q b (z0 σ + 1)).length 10 = 0 ∧ (best 0 = -1 ∨ tl (sR σ) (vsL (rowP (sF σ 0) (z0 σ) (sF σ 1) p a q b (z0 σ + 1))) (rowP (sF σ 0) (z0 σ) (sF σ 1) p a q b (z0 σ + 1)).length 7 < best 1)) → Q (st (st (st (st (st (st I2 76 0 (iN k)) 76 1 ((st I2 76 0 (iN k)) 58 20)) 76 2 (iN p)) 76 3 (iN a)) 76 4 (iN q)) 76 5 (iN b)) := by
    intro c
    rw [if_pos c] at h
    have e20 : I2 58 20 = iN (tl (sR σ) (vsL (rowP (sF σ 0) (z0 σ) (sF σ 1) p a q b (z0 σ + 1))) (rowP (sF σ 0) (z0 σ) (sF σ 1) p a q b (z0 σ + 1)).length 7) := by rw [s20]; unfold lng; rw [hwi.mpr c.1]
    rw [st_ne1 (show (58 : Nat) ≠ 76 by decide), e20]
    refine h _ (frm_st (frm_st (frm_st (frm_st (frm_st (frm_st f2' (by decide) (by decide)) (by decide) (by decide)) (by decide) (by decide)) (by decide) (by decide)) (by decide) (by decide)) (by decide) (by decide)) (fun j hj => ?_)
    rcases (show j = 0 ∨ j = 1 ∨ j = 2 ∨ j = 3 ∨ j = 4 ∨ j = 5 by omega) with rfl | rfl | rfl | rfl | rfl | rfl <;> simp [st, cand]
  refine ⟨fun c1 => stay (by omega), fun c1 => ⟨fun c2 => stay (fun c => c2 (by rw [hwi.mpr c.1])), fun c2 => ?_⟩⟩
  have c2' := hwi.mp (by omega)
  have e20 : I2 58 20 = iN (tl (sR σ) (vsL (rowP (sF σ 0) (z0 σ) (sF σ 1) p a q b (z0 σ + 1))) (rowP (sF σ 0) (z0 σ) (sF σ 1) p a q b (z0 σ + 1)).length 7) := by rw [s20]; unfold lng; rw [hwi.mpr c2']
  refine ⟨fun c3 => take ⟨c2', c1, Or.inl c3⟩, fun c3 => ?_⟩
  rw [e20, iN_le (by omega) (by omega)]
  exact ⟨fun c4 => stay (by omega), fun c4 => take ⟨c2', c1, Or.inr (by omega)⟩⟩
end MPut
