/-! ===== calls of the reference: order ===== -/
theorem pmS_mem : ∀ (k : Nat) (av r : List Nat), r ∈ pmS k av → (∀ x, x ∈ r → x ∈ av) ∧ r.length = k
  | 0, av, r, h => by
    have h : r ∈ [[]] := h
    rw [List.mem_singleton.mp h]
    exact ⟨fun x hx => absurd hx (by simp), rfl⟩
  | k + 1, av, r, h => by
    have h : r ∈ av.flatMap (fun v => (pmS k (av.erase v)).map (fun r => v :: r)) := h
    obtain ⟨v, hv, h2⟩ := List.mem_flatMap.mp h
    obtain ⟨r2, hr2, e⟩ := List.mem_map.mp h2
    obtain ⟨i1, i2⟩ := pmS_mem k _ _ hr2
    rw [← e]
    refine ⟨fun x hx => ?_, by rw [List.length_cons, i2]⟩
    rcases List.mem_cons.mp hx with rfl | hx
    · exact hv
    · exact List.mem_of_mem_erase (i1 x hx)
theorem rowU_mem {n c : Nat} (hn : n ≤ 7) (hc : c < fcU n) : ∀ x, x ∈ rowU n c → x < n := by
  have h : rowU n c ∈ pmS n (List.range n) := by
    rw [← rows_n hn]
    exact List.mem_map.mpr ⟨c, List.mem_range.mpr hc, rfl⟩
  exact fun x hx => List.mem_range.mp ((pmS_mem _ _ _ h).1 x hx)
theorem wU_lt {n c j : Nat} (hn : n ≤ 7) (hc : c < fcU n) (hj : j < n) : wU n c n j < n := rowU_mem hn hc _ (List.mem_map.mpr ⟨j, List.mem_range.mpr hj, rfl⟩)
theorem wU_bd {n c : Nat} (hn : n ≤ 7) {j : Nat} (hj : j < n) : ∀ m, wU n c m j ≤ 7 + m
  | 0 => by
    show dgU n c j ≤ 7
    have : rsU c (n - j) % (n - j) < n - j := Nat.mod_lt _ (by omega)
    unfold dgU
    omega
  | m + 1 => by
    have := wU_bd (c := c) hn hj m
    show (if n - (m + 1) < j then bump (dgU n c (n - (m + 1))) (wU n c m j) else wU n c m j) ≤ _
    unfold bump
    split
    · split <;> omega
    · omega
theorem wU_lo {n c k : Nat} : ∀ m, m ≤ n → k ≤ n - m → wU n c m k = dgU n c k
  | 0, _, _ => rfl
  | m + 1, h1, h2 => by
    show (if n - (m + 1) < k then bump (dgU n c (n - (m + 1))) (wU n c m k) else wU n c m k) = _
    rw [if_neg (by omega)]
    exact wU_lo m (by omega) (by omega)
theorem rsU_le (c : Nat) : ∀ j, rsU c j ≤ c
  | 0 => Nat.le_refl _
  | j + 1 => by
    have := rsU_le c j
    show (if j = 0 then c else rsU c j / j) ≤ c
    split
    · omega
    · have := Nat.div_le_self (rsU c j) j
      omega
theorem fcU_le {n : Nat} (h : n ≤ 7) : 1 ≤ fcU n ∧ fcU n ≤ 5040 := by
  rcases (show n = 0 ∨ n = 1 ∨ n = 2 ∨ n = 3 ∨ n = 4 ∨ n = 5 ∨ n = 6 ∨ n = 7 by omega) with rfl | rfl | rfl | rfl | rfl | rfl | rfl | rfl <;> decide
theorem fo_foldl {β : Type} (g : β → Nat → β) : ∀ k i s, fo g k i s = (List.range' i k).foldl g s
  | 0, _, _ => rfl
  | k + 1, i, s => by
    rw [fo_s, fo_foldl g k, List.range'_succ]
    rfl
/-- with PENS enough and no LAW every verse is written -/
theorem full9 {R : Nat → Int} {vs : Nat → Nat → Int} {n : Nat} (hR : okR (rO9 R)) (hv : okVs vs n) : ∀ p, p ≤ n → p ≤ 14 → 0 ≤ tl (rO9 R) vs p 7
  | 0, _, _ => Int.le_refl _
  | p + 1, h1, h2 => by
    have ih := full9 hR hv p (by omega) (by omega)
    have bt := bd_tl hR hv p (by omega) (by omega)
    have b12 := bt.2.2.2.1
    have hb : bgT (rO9 R) (tl (rO9 R) vs p) (tl (rO9 R) vs p 9 + mkC (vs p 0) (vs p 1) (cntK vs (vs p 0) p)) = true := decide_eq_true ⟨by omega, Or.inr rfl⟩
    have ho : okT (rO9 R) (tl (rO9 R) vs p) (wrT (vs p 0) (vs p 2)) = true := decide_eq_true (Or.inr (by show _ < (99 : Int); omega))
    have e : tl (rO9 R) vs (p + 1) 7 = tN2 (rO9 R) (tl (rO9 R) vs p) (vs p 0) (mkC (vs p 0) (vs p 1) (cntK vs (vs p 0) p)) (vs p 2) (knC (vs p 0) (vs p 3) (cntK vs (vs p 0) p)) (wrT (vs p 0) (vs p 2)) (tl (rO9 R) vs p 9 + mkC (vs p 0) (vs p 1) (cntK vs (vs p 0) p)) true (cgT (rO9 R) (tl (rO9 R) vs p) (wrT (vs p 0) (vs p 2))) true 7 := by
      rw [tl_s]
      unfold tN
      rw [hb, ho]
    rw [e]
    show 0 ≤ tl (rO9 R) vs p 7 + pzT _ _ + vs p 2 + knC _ _ _ + (if cgT (rO9 R) (tl (rO9 R) vs p) (wrT (vs p 0) (vs p 2)) = true then rO9 R 2 else 0) + wrT (vs p 0) (vs p 2)
    have hp := pzT_bd (tl (rO9 R) vs p 9 + mkC (vs p 0) (vs p 1) (cntK vs (vs p 0) p)) (tl (rO9 R) vs p 13)
    have hk := knC_bd (k := vs p 0) (hv p (by omega)).2.2.2 (show (0 : Int) ≤ (cntK vs (vs p 0) p : Nat) by omega)
    have hw := wrT_bd (k := vs p 0) (hv p (by omega)).2.2.1
    have hs := (hv p (by omega)).2.2.1
    have h22 := hR.2.2.1
    split <;> omega
def an_order (σ : SG) (a : Int32) : Int32 := if -2 ≤ a.toInt ∧ a.toInt ≤ 6 then iN (ordA (sR σ) (sF σ 0) (z0 σ) a.toInt) else iN (-2)
def soB (s : Int × Int × List Nat) : Prop := (-1 ≤ s.1 ∧ s.1 ≤ 10000) ∧ (-1 ≤ s.2.1 ∧ s.2.1 ≤ 10000)
theorem okR_9 {R : Nat → Int} (h : okR R) : okR (rO9 R) := ⟨h.1, h.2.1, h.2.2.1, ⟨by show (0 : Int) ≤ 99; omega, by show (99 : Int) ≤ 99; omega⟩, ⟨by show (0 : Int) ≤ 0; omega, by show (0 : Int) ≤ 1; omega⟩⟩
theorem rowV_ok {f : Nat → Int32} {n : Nat} {r : List Nat} (h : ∀ x, x ∈ r → x < szT f n) : okVs (rowV f r) r.length := by
  have := vsL_ok (L := r.map (vd f)) (fun x hx => by
    obtain ⟨v, hv, e⟩ := List.mem_map.mp hx
    rw [← e]
    exact vd_ok (h v hv))
  rw [List.length_map] at this
  exact this
theorem rowV_at {f : Nat → Int32} {r : List Nat} {i : Nat} (h : i < r.length) : rowV f r i = vd f (r.getD i 0) := by
  unfold rowV vsL
  rw [List.getD_eq_getElem?_getD, List.getD_eq_getElem?_getD, List.getElem?_map, List.getElem?_eq_getElem h]
  rfl
theorem ordU_bd {R : Nat → Int} {f : Nat → Int32} {n : Nat} {s : Int × Int × List Nat} {r : List Nat} (hR : okR R) (h : ∀ x, x ∈ r → x < szT f n) (hl : r.length ≤ 14) (hs : soB s) : soB (ordU R f s r) := by
  have bt := bd_tl (okR_9 hR) (rowV_ok h) r.length (Nat.le_refl _) hl
  have b1 := bt.2.1
  have b2 := bt.2.2.2.2.2
  unfold ordU
  split
  · show (-1 ≤ tl (rO9 R) (rowV f r) r.length 10 ∧ tl (rO9 R) (rowV f r) r.length 10 ≤ 10000) ∧ (-1 ≤ tl (rO9 R) (rowV f r) r.length 7 ∧ tl (rO9 R) (rowV f r) r.length 7 ≤ 10000)
    omega
  · exact hs
section MOrd
variable {G : CX} {I : HP} {σ : SG}
theorem s_unfolds {Q : HP → Prop} {n c : Nat} (hn : n ≤ 7) (hc : c < fcU n) (h : ∀ I', frm [68] [] I I' → (∀ j, j < n → I' 68 j = iN (wU n c n j)) → Q I') : RV G Y_X8_unfolds [.ref 58, .int (iN n), .int (iN c)] I Q := by
  have hfc := fcU_le hn
  have inner : ∀ m, m < n → (∀ I2, frm [68] [] I I2 → (∀ j, j < n → I2 68 j = iN (wU n c (m + 1) j)) → GV G Y_X8_unfolds 43 [(0, .ref 58), (1, .int (iN n)), (4, .int (iN ((n : Int) - 1 - m) + (-1)))] I2 Q) → ∀ q j, j + q = n → n - (m + 1) < j → ∀ I1, frm [68] [] I I1 → (∀ i, i < n → I1 68 i = iN (if i < j then wU n c (m + 1) i else wU n c m i)) → GV G Y_X8_unfolds 54 [(0, .ref 58), (1, .int (iN n)), (4, .int (iN ((n : Int) - 1 - m))), (5, .int (iN j))] I1 Q := by
    intro m hm k q
    induction q with
    | zero =>
      intro j hj hk I1 f1 e1
      refine v_X8_unfolds_54 ⟨fun _ => k I1 f1 (fun i hi => by rw [e1 i hi, if_pos (by omega)]), fun w => absurd (by rw [iN_le (by omega) (by omega)]; omega) w⟩
    | succ q ih =>
      intro j hj hk I1 f1 e1
      refine v_X8_unfolds_54 ⟨fun w => absurd w (by rw [iN_le (by omega) (by omega)]; omega), fun _ => ⟨(vp_iN (by omega)).mpr ⟨by omega, by omega⟩, (vp_iN (by omega)).mpr ⟨by omega, by omega⟩, ?_⟩⟩
      have ek : ((n : Int) - 1 - m) = ((n - (m + 1) : Nat) : Int) := by omega
      have b1 := wU_bd (c := c) hn (show j < n by omega) m
      have b2 := wU_bd (c := c) hn (show n - (m + 1) < n by omega) 0
      have el : wU n c (m + 1) (n - (m + 1)) = dgU n c (n - (m + 1)) := wU_lo (m + 1) (by omega) (Nat.le_refl _)
      have b2 : dgU n c (n - (m + 1)) ≤ 7 := b2
      have ej : I1 68 j = iN (wU n c m j) := by rw [e1 j (by omega), if_neg (by omega)]
      have eK : I1 68 (n - (m + 1)) = iN (dgU n c (n - (m + 1))) := by rw [e1 _ (by omega), if_pos hk, el]
      rw [show nn (iN (j : Int)) = j from nn_nat (by omega), ek, show nn (iN ((n - (m + 1) : Nat) : Int)) = n - (m + 1) from nn_nat (by omega), ej, eK, iN_lt (by omega) (by omega), show iN (j : Int) + (1 : Int32) = iN ((j + 1 : Nat) : Int) from iN_add j 1, ← ek]
      have new : wU n c (m + 1) j = bump (dgU n c (n - (m + 1))) (wU n c m j) := by
        show (if n - (m + 1) < j then bump (dgU n c (n - (m + 1))) (wU n c m j) else wU n c m j) = _
        rw [if_pos hk]
      have go : ∀ v : Int32, v = iN (wU n c (m + 1) j) → GV G Y_X8_unfolds 54 [(0, .ref 58), (1, .int (iN n)), (4, .int (iN ((n : Int) - 1 - m))), (5, .int (iN ((j + 1 : Nat) : Int)))] (st I1 68 j v) Q := by
        intro v hv
        refine ih (j + 1) (by omega) (by omega) _ (frm_st f1 (by decide) (by decide)) (fun i hi => ?_)
        by_cases e : i = j
        · subst e; rw [st_self, if_pos (by omega), hv]
        · rw [st_ne2 e, e1 i hi]
          by_cases e2 : i < j
          · rw [if_pos e2, if_pos (by omega)]
          · rw [if_neg e2, if_neg (by omega)]
      refine ⟨fun c1 => go _ ?_, fun c1 => go _ ?_⟩
      · rw [new, l0, iN_add]; unfold bump; rw [if_pos (by omega)]; congr 1
      · rw [new, l1, iN_add]; unfold bump; rw [if_neg (by omega)]; congr 1
  have outer : ∀ q m : Nat, m + q = n → ∀ I1, frm [68] [] I I1 → (∀ j, j < n → I1 68 j = iN (wU n c m j)) → GV G Y_X8_unfolds 43 [(0, .ref 58), (1, .int (iN n)), (4, .int (iN ((n : Int) - 1 - m)))] I1 Q := by
    intro q
    induction q with
    | zero =>
      intro m hm I1 f1 e1
      refine v_X8_unfolds_43 ⟨fun _ => h I1 f1 (by rw [show m = n by omega] at e1; exact e1), fun w => absurd (by rw [l0, iN_lt (by omega) (by omega)]; omega) w⟩
    | succ q ih =>
      intro m hm I1 f1 e1
      refine v_X8_unfolds_43 ⟨fun w => absurd w (by rw [l0, iN_lt (by omega) (by omega)]; omega), fun _ => ?_⟩
      rw [l1, iN_add, show ((n : Int) - 1 - m + 1) = ((n - m : Nat) : Int) by omega]
      refine inner m (by omega) (fun I2 f2 e2 => ?_) m (n - m) (by omega) (by omega) I1 f1 (fun i hi => ?_)
      · rw [show (-1 : Int32) = iN (-1) from rfl, iN_add, show ((n : Int) - 1 - m + -1) = (n : Int) - 1 - ((m + 1 : Nat) : Int) by omega]
        exact ih (m + 1) (by omega) I2 f2 e2
      · rw [e1 i hi]
        by_cases e : i < n - m
        · rw [if_pos e, wU_lo m (by omega) (by omega), wU_lo (m + 1) (by omega) (by omega)]
        · rw [if_neg e]
  have first : ∀ q m : Nat, m + q = n → ∀ I1, frm [68] [] I I1 → (∀ j, j < n → n - m ≤ j → I1 68 j = iN (dgU n c j)) → GV G Y_X8_unfolds 7 [(0, .ref 58), (1, .int (iN n)), (3, .int (iN (rsU c (m + 1)))), (4, .int (iN ((n : Int) - 1 - m)))] I1 Q := by
    intro q
    induction q with
    | zero =>
      intro m hm I1 f1 e1
      refine v_X8_unfolds_7 ⟨fun _ => ?_, fun w => absurd (by rw [l0, iN_lt (by omega) (by omega)]; omega) w⟩
      rw [l1, iN_sub]
      have := outer n 0 (by omega) I1 f1 (fun j hj => e1 j hj (by omega))
      rw [show ((n : Int) - 1 - ((0 : Nat) : Int)) = (n : Int) - 1 by omega] at this
      exact this
    | succ q ih =>
      intro m hm I1 f1 e1
      have hle := rsU_le c (m + 1)
      have ne0 : ¬ iN ((m + 1 : Nat) : Int) = 0 := by rw [l0, iN_eq (by omega) (by omega)]; omega
      refine v_X8_unfolds_7 ⟨fun w => absurd w (by rw [l0, iN_lt (by omega) (by omega)]; omega), fun _ => ?_⟩
      rw [iN_sub, show ((n : Int) - ((n : Int) - 1 - m)) = ((m + 1 : Nat) : Int) by omega, iN_rem _ (m + 1) (by omega) (by omega) (by omega), iN_div _ (m + 1) (by omega) (by omega) (by omega)]
      refine ⟨ne0, (vp_iN (by omega)).mpr ⟨by omega, by omega⟩, ne0, ?_⟩
      rw [show (-1 : Int32) = iN (-1) from rfl, iN_add, show ((n : Int) - 1 - m + -1) = (n : Int) - 1 - ((m + 1 : Nat) : Int) by omega, show nn (iN ((n : Int) - 1 - m)) = n - (m + 1) by rw [nn, nn_iN (by omega) (by omega)]; omega]
      refine ih (m + 1) (by omega) _ (frm_st f1 (by decide) (by decide)) (fun j hj h2 => ?_)
      by_cases e : j = n - (m + 1)
      · subst e
        rw [st_self]
        unfold dgU
        rw [show n - (n - (m + 1)) = m + 1 by omega]
      · rw [st_ne2 e]; exact e1 j hj (by omega)
  refine v_X8_unfolds ?_
  have := first n 0 (by omega) I frm_rf (fun j hj h2 => absurd hj (by omega))
  rw [l1, iN_sub]
  rw [show ((n : Int) - 1 - ((0 : Nat) : Int)) = (n : Int) - 1 by omega] at this
  exact this
/-- the best so far, in the reference -/
def hO (I : HP) (n : Nat) (s : Int × Int × List Nat) : Prop := I 58 26 = iN s.1 ∧ I 58 27 = iN s.2.1 ∧ (s.1 ≠ -1 → ∀ k, k < n → I 77 k = iN (s.2.2.getD k 0 : Nat))
theorem rowU_len (n c : Nat) : (rowU n c).length = n := by unfold rowU; rw [List.length_map, List.length_range]
theorem rowU_at {n c j : Nat} (hj : j < n) : (rowU n c).getD j 0 = wU n c n j := by
  unfold rowU
  rw [List.getD_eq_getElem?_getD, List.getElem?_map, List.getElem?_range hj]
  rfl
theorem s_findOrder {Q : HP → Prop} (h0 : okS0 σ) (hM : RM I σ) (hG : mG I σ) (h : ∀ I', frm saC saS I I' → hO I' (mn7 (z0 σ)) (ordB (sR σ) (sF σ 0) (z0 σ)) → Q I') : RV G Y_X8_findOrder [.ref 58] I Q := by
  have hz := z0_le h0
  have hn : mn7 (z0 σ) ≤ 7 ∧ mn7 (z0 σ) ≤ z0 σ := by unfold mn7; split <;> omega
  have eo : ordB (sR σ) (sF σ 0) (z0 σ) = fo (fun s c => ordU (sR σ) (sF σ 0) s (rowU (mn7 (z0 σ)) c)) (fcU (mn7 (z0 σ))) 0 (-1, 0, []) := by
    rw [fo_foldl, ← List.range_eq_range']
    unfold ordB
    rw [← rows_n hn.1, List.foldl_map]
  rw [eo] at h
  refine v_X8_findOrder ?_
  generalize hN : mn7 (z0 σ) = n at h hn
  have hfc := fcU_le hn.1
  have loop : ∀ m c : Nat, c + m = fcU n → ∀ I1 s, frm saC saS I I1 → hO I1 n s → soB s → (∀ I', frm saC saS I I' → hO I' n (fo (fun s c => ordU (sR σ) (sF σ 0) s (rowU n c)) m c s) → Q I') → GV G Y_X8_findOrder 43 [(0, .ref 58), (1, .int (iN n)), (2, .int (iN (fcU n))), (3, .int (iN c))] I1 Q := by
    intro m
    induction m with
    | zero =>
      intro c hc I1 s f1 o1 b1 k
      exact v_X8_findOrder_43 ⟨fun _ => k I1 f1 o1, fun w => absurd (by rw [iN_le (by omega) (by omega)]; omega) w⟩
    | succ m ih =>
      intro c hc I1 s f1 o1 b1 k
      rw [fo_s] at k
      refine v_X8_findOrder_43 ⟨fun w => absurd w (by rw [iN_le (by omega) (by omega)]; omega), fun _ => ?_⟩
      refine s_unfolds hn.1 (by omega) (fun I2 f2 e2 => ?_)
      have f2' : frm saC saS I I2 := frm_tr f1 (frm_mo f2 (by decide) (by decide))
      have f3' : frm saC saS I (st I2 58 11 (iN n)) := frm_s8 f2' (by decide)
      have hM3 := RM_sc hM (sa_sc f3')
      have hG3 := mG_sa hG f3'
      have hmem : ∀ x, x ∈ rowU n c → x < szT (sF σ 0) (sN σ 0) := fun x hx => by
        have := rowU_mem hn.1 (by omega) x hx
        have e : z0 σ = szT (sF σ 0) (sN σ 0) := rfl
        omega
      have hv : okVs (rowV (sF σ 0) (rowU n c)) n := by have := rowV_ok hmem; rw [rowU_len] at this; exact this
      have r3 : rowOK (st I2 58 11 (iN n)) (rowV (sF σ 0) (rowU n c)) n := by
        refine ⟨st_self _ _ _ _, by omega, fun i hi => ?_⟩
        have hlt := wU_lt hn.1 (show c < fcU n by omega) hi
        refine ⟨wU n c n i, by omega, by rw [st_ne1 (by decide)]; exact e2 i hi, ?_⟩
        rw [rowV_at (by rw [rowU_len]; exact hi), rowU_at hi]
        exact tv_0 hG3.2.2.1 (show wU n c n i < szT (sF σ 0) (sN σ 0) by have e : z0 σ = szT (sF σ 0) (sN σ 0) := rfl; omega)
      rw [hM3.2.2.1 0 (by decide)]
      refine s_says (R := rO9 (sR σ)) r3 hv (okR_9 h0.2.1) (hM3.2.2.1 1 (by decide)) (hM3.2.2.1 2 (by decide)) (fun I4 f4 s4 => ?_)
      have f4' : frm saC saS I I4 := frm_tr f3' (frm_mo f4 (by decide) (by decide))
      have bt := bd_tl (okR_9 h0.2.1) hv n (Nat.le_refl _) (by omega)
      have b10 := bt.2.1
      have b7 := bt.2.2.2.2.2
      have hfull := full9 (okR_9 h0.2.1) hv n (Nat.le_refl _) (by omega)
      obtain ⟨-, -, s20, s21, -, -⟩ := s4
      have e20 : I4 58 20 = iN (tl (rO9 (sR σ)) (rowV (sF σ 0) (rowU n c)) n 7) := by rw [s20]; unfold lng; rw [wrN_full (by omega)]
      have e26 : I4 58 26 = iN s.1 := by rw [f4.2 26 (by decide), st_ne2 (by decide), f2.2 26 (by decide)]; exact o1.1
      have e27 : I4 58 27 = iN s.2.1 := by rw [f4.2 27 (by decide), st_ne2 (by decide), f2.2 27 (by decide)]; exact o1.2.1
      have e77 : I4 77 = I1 77 := by rw [f4.1 77 (by decide) (by decide), st_ne1 (by decide), f2.1 77 (by decide) (by decide)]
      have e68 : I4 68 = I2 68 := by rw [f4.1 68 (by decide) (by decide), st_ne1 (by decide)]
      have nb : soB (ordU (sR σ) (sF σ 0) s (rowU n c)) := ordU_bd h0.2.1 hmem (by rw [rowU_len]; omega) b1
      obtain ⟨b1a, b1b⟩ := id b1
      have copy : ∀ q j : Nat, j + q = n → ∀ I5, frm saC saS I I5 → I5 58 26 = iN (tl (rO9 (sR σ)) (rowV (sF σ 0) (rowU n c)) n 10) → I5 58 27 = iN (tl (rO9 (sR σ)) (rowV (sF σ 0) (rowU n c)) n 7) → I5 68 = I2 68 → (∀ i, i < j → I5 77 i = iN (wU n c n i)) → (ordU (sR σ) (sF σ 0) s (rowU n c) = (tl (rO9 (sR σ)) (rowV (sF σ 0) (rowU n c)) n 10, tl (rO9 (sR σ)) (rowV (sF σ 0) (rowU n c)) n 7, rowU n c)) → GV G Y_X8_findOrder 144 [(0, .ref 58), (1, .int (iN n)), (2, .int (iN (fcU n))), (3, .int (iN c)), (5, .int (iN j))] I5 Q := by
        intro q
        induction q with
        | zero =>
          intro j hj I5 f5 a1 a2 a3 a4 eU
          refine v_X8_findOrder_144 ⟨fun _ => ?_, fun w => absurd (by rw [iN_le (by omega) (by omega)]; omega) w⟩
          rw [show iN (c : Int) + (1 : Int32) = iN ((c + 1 : Nat) : Int) from iN_add c 1]
          refine ih (c + 1) (by omega) I5 _ f5 ?_ nb k
          rw [eU]
          exact ⟨a1, a2, fun _ i hi => by rw [a4 i (by omega)]; show _ = iN ((rowU n c).getD i 0 : Nat); rw [rowU_at hi]⟩
        | succ q ihq =>
          intro j hj I5 f5 a1 a2 a3 a4 eU
          refine v_X8_findOrder_144 ⟨fun w => absurd w (by rw [iN_le (by omega) (by omega)]; omega), fun _ => ⟨(vp_iN (by omega)).mpr ⟨by omega, by omega⟩, (vp_iN (by omega)).mpr ⟨by omega, by omega⟩, ?_⟩⟩
          rw [show nn (iN (j : Int)) = j from nn_nat (by omega), show iN (j : Int) + (1 : Int32) = iN ((j + 1 : Nat) : Int) from iN_add j 1, a3, e2 j (by omega)]
          refine ihq (j + 1) (by omega) _ (frm_st f5 (by decide) (by decide)) (by rw [st_ne1 (by decide)]; exact a1) (by rw [st_ne1 (by decide)]; exact a2) (by rw [st_ne1 (by decide)]; exact a3) (fun i hi => ?_) eU
          by_cases e : i = j
          · subst e; rw [st_self]
          · rw [st_ne2 e]; exact a4 i (by omega)
      have eT : ∀ (P : Prop), (s.1 = -1 ∨ tl (rO9 (sR σ)) (rowV (sF σ 0) (rowU n c)) n 10 < s.1 ∨ (tl (rO9 (sR σ)) (rowV (sF σ 0) (rowU n c)) n 10 = s.1 ∧ tl (rO9 (sR σ)) (rowV (sF σ 0) (rowU n c)) n 7 < s.2.1)) → GV G Y_X8_findOrder 144 [(0, .ref 58), (1, .int (iN n)), (2, .int (iN (fcU n))), (3, .int (iN c)), (5, .int (0 : Int32))] (st (st I4 58 26 (iN (tl (rO9 (sR σ)) (rowV (sF σ 0) (rowU n c)) n 10))) 58 27 ((st I4 58 26 (iN (tl (rO9 (sR σ)) (rowV (sF σ 0) (rowU n c)) n 10))) 58 20)) Q := by
        intro _ cc
        refine copy n 0 (by omega) _ (frm_s8 (frm_s8 f4' (by decide)) (by decide)) (by rw [st_ne2 (by decide), st_self]) (by rw [st_self, st_ne2 (by decide)]; exact e20) (by rw [st_ne1 (by decide), st_ne1 (by decide)]; exact e68) (fun i hi => absurd hi (Nat.not_lt_zero _)) ?_
        unfold ordU
        rw [rowU_len, if_pos cc]
      have eF : ¬ (s.1 = -1 ∨ tl (rO9 (sR σ)) (rowV (sF σ 0) (rowU n c)) n 10 < s.1 ∨ (tl (rO9 (sR σ)) (rowV (sF σ 0) (rowU n c)) n 10 = s.1 ∧ tl (rO9 (sR σ)) (rowV (sF σ 0) (rowU n c)) n 7 < s.2.1)) → GV G Y_X8_findOrder 43 [(0, .ref 58), (1, .int (iN n)), (2, .int (iN (fcU n))), (3, .int (iN c + 1))] I4 Q := by
        intro cc
        rw [show iN (c : Int) + (1 : Int32) = iN ((c + 1 : Nat) : Int) from iN_add c 1]
        refine ih (c + 1) (by omega) I4 _ f4' ?_ nb k
        unfold ordU
        rw [rowU_len, if_neg cc]
        exact ⟨e26, e27, fun hne i hi => by rw [e77]; exact o1.2.2 hne i hi⟩
      have eT := eT True
      rw [s21, e26, e27, e20, show (-1 : Int32) = iN (-1) from rfl, iN_lt (by omega) (by omega), iN_eq (by omega) (by omega), iN_eq (by omega) (by omega), iN_le (by omega) (by omega)]
      refine ⟨fun c1 => ⟨fun _ => eT (by omega), fun _ => eT (by omega)⟩, fun c1 => ⟨fun c2 => ⟨fun _ => eT (by omega), fun _ => eF (by omega)⟩, fun c2 => ⟨fun c3 => ⟨fun _ => eT (by omega), fun _ => eF (by omega)⟩, fun c3 => ⟨fun _ => eT (by omega), fun _ => eT (by omega)⟩⟩⟩⟩
  have fact : ∀ m k : Nat, 2 ≤ k → (k + m = n + 1 ∨ (m = 0 ∧ n + 1 ≤ 2 ∧ k = 2)) → GV G Y_X8_findOrder 16 [(0, .ref 58), (1, .int (iN n)), (2, .int (iN (fcU (k - 1)))), (3, .int (iN k))] I Q := by
    intro m
    induction m with
    | zero =>
      intro k h2 hk
      have ef : fcU (k - 1) = fcU n := by
        rcases hk with e | ⟨-, e1, e2⟩
        · rw [show k - 1 = n by omega]
        · rcases (show n = 0 ∨ n = 1 by omega) with e | e <;> subst e <;> subst e2 <;> rfl
      refine v_X8_findOrder_16 ⟨fun _ => ?_, fun w => absurd (by rw [iN_lt (by omega) (by omega)]; omega) w⟩
      rw [ef]
      refine loop (fcU n) 0 (by omega) _ (-1, 0, []) (frm_s8 (frm_s8 frm_rf (by decide)) (by decide)) ⟨by rw [st_ne2 (by decide), st_self]; rfl, by rw [st_self]; rfl, fun c => absurd rfl c⟩ ⟨⟨Int.le_refl _, (by decide : (-1 : Int) ≤ 10000)⟩, ⟨(by decide : (-1 : Int) ≤ 0), (by decide : (0 : Int) ≤ 10000)⟩⟩ h
    | succ m ih =>
      intro k h2 hk
      have hk : k + (m + 1) = n + 1 := by omega
      have b := fcU_le (n := k - 1) (by omega)
      refine v_X8_findOrder_16 ⟨fun w => absurd w (by rw [iN_lt (by omega) (by omega)]; omega), fun _ => ?_⟩
      rw [iN_mul, show iN (k : Int) + (1 : Int32) = iN ((k + 1 : Nat) : Int) from iN_add k 1]
      have := ih (k + 1) (by omega) (Or.inl (by omega))
      rw [show k + 1 - 1 = k - 1 + 1 by omega, show fcU (k - 1 + 1) = (k - 1 + 1) * fcU (k - 1) from rfl, show k - 1 + 1 = k by omega] at this
      rw [show ((fcU (k - 1) : Nat) : Int) * (k : Int) = ((k * fcU (k - 1) : Nat) : Int) by rw [Int.natCast_mul, Int.mul_comm]]
      exact this
  have start : GV G Y_X8_findOrder 16 [(0, .ref 58), (1, .int (iN n)), (2, .int (1 : Int32)), (3, .int (2 : Int32))] I Q := by
    by_cases c : n + 1 ≤ 2
    · exact fact 0 2 (by omega) (Or.inr ⟨rfl, c, rfl⟩)
    · exact fact (n - 1) 2 (by omega) (Or.inl (by omega))
  refine v_X8_lesser ?_
  rw [hG.1, l7, iN_le (by omega) (by omega)]
  unfold mn7 at hN
  refine ⟨fun c => ?_, fun c => ?_⟩
  · rw [if_neg (by omega)] at hN; subst hN; exact start
  · rw [if_pos (by omega)] at hN; subst hN; exact start
theorem M_tellsOrder {Q : HP → Int32 → Prop} {i : Int} (h0 : okS0 σ) (hi : -2 ≤ i ∧ i ≤ 6) (h65 : I 65 0 = iN (z0 σ)) (hO1 : hO I (mn7 (z0 σ)) (ordB (sR σ) (sF σ 0) (z0 σ))) (hne : (ordB (sR σ) (sF σ 0) (z0 σ)).1 ≠ -1) (h : Q I (iN (ordA (sR σ) (sF σ 0) (z0 σ) i))) : RI G Y_X8_tellsOrder [.ref 58, .int (iN i)] I Q := by
  have hz := z0_le h0
  refine v_X8_tellsOrder ?_
  rw [h65, show (-1 : Int32) = iN (-1) from rfl, show (-2 : Int32) = iN (-2) from rfl, iN_eq (by omega) (by omega), iN_eq (by omega) (by omega), iN_le (by omega) (by omega)]
  unfold ordA at h
  refine ⟨fun c1 => ⟨fun c2 => ⟨fun c3 => ?_, fun c3 => ⟨(vp_iN (by omega)).mpr ⟨by omega, by omega⟩, ?_⟩⟩, fun c2 => ?_⟩, fun c1 => ?_⟩
  · rw [if_neg c1, if_neg c2, if_neg (by omega)] at h; exact h
  · rw [if_neg c1, if_neg c2, if_pos (by omega)] at h
    rw [show nn (iN i) = i.toNat by rw [nn, nn_iN (by omega) (by omega)], hO1.2.2 hne i.toNat (by unfold mn7; split <;> omega)]
    exact h
  · rw [if_neg c1, if_pos c2] at h; rw [hO1.2.1]; exact h
  · rw [if_pos c1] at h; rw [hO1.1]; exact h
theorem ordU_ne {R : Nat → Int} {f : Nat → Int32} {n : Nat} {r : List Nat} (hR : okR R) (h : ∀ x, x ∈ r → x < szT f n) (hl : r.length ≤ 14) (s : Int × Int × List Nat) : (ordU R f s r).1 ≠ -1 := by
  have bt := bd_tl (okR_9 hR) (rowV_ok h) r.length (Nat.le_refl _) hl
  have b1 := bt.2.1
  unfold ordU
  split
  · show tl (rO9 R) (rowV f r) r.length 10 ≠ -1; omega
  · rename_i c; exact fun e => c (Or.inl e)
theorem ordB_ne (h0 : okS0 σ) : (ordB (sR σ) (sF σ 0) (z0 σ)).1 ≠ -1 := by
  have hn : mn7 (z0 σ) ≤ 7 ∧ mn7 (z0 σ) ≤ z0 σ := by unfold mn7; split <;> omega
  have hfc := fcU_le hn.1
  have step : ∀ (l : List (List Nat)) s, (∀ r, r ∈ l → r ∈ pmS (mn7 (z0 σ)) (List.range (mn7 (z0 σ)))) → (s : Int × Int × List Nat).1 ≠ -1 → (l.foldl (ordU (sR σ) (sF σ 0)) s).1 ≠ -1 := by
    intro l
    induction l with
    | nil => intro s _ hs; exact hs
    | cons r l ih =>
      intro s hr hs
      refine ih _ (fun x hx => hr x (List.mem_cons_of_mem _ hx)) (ordU_ne (n := sN σ 0) h0.2.1 (fun x hx => ?_) ?_ s)
      · have := List.mem_range.mp ((pmS_mem _ _ _ (hr r (List.mem_cons_self ..))).1 x hx)
        have e : z0 σ = szT (sF σ 0) (sN σ 0) := rfl
        omega
      · rw [(pmS_mem _ _ _ (hr r (List.mem_cons_self ..))).2]; omega
  unfold ordB
  cases el : pmS (mn7 (z0 σ)) (List.range (mn7 (z0 σ))) with
  | nil =>
    have e := rows_n hn.1
    rw [el] at e
    have e2 := congrArg List.length e
    rw [List.length_map, List.length_range] at e2
    have e3 : fcU (mn7 (z0 σ)) = 0 := e2
    omega
  | cons r l =>
    have hm : ∀ x, x ∈ r :: l → x ∈ pmS (mn7 (z0 σ)) (List.range (mn7 (z0 σ))) := fun x hx => by rw [el]; exact hx
    refine step l _ (fun x hx => hm x (List.mem_cons_of_mem _ hx)) (ordU_ne (n := sN σ 0) h0.2.1 (fun x hx => ?_) ?_ _)
    · have := List.mem_range.mp ((pmS_mem _ _ _ (hm r (List.mem_cons_self ..))).1 x hx)
      have e : z0 σ = szT (sF σ 0) (sN σ 0) := rfl
      omega
    · rw [(pmS_mem _ _ _ (hm r (List.mem_cons_self ..))).2]; omega
theorem M_order {Q : HP → Int32 → Prop} {a : Int32} (h0 : okS0 σ) (hM : RM I σ) (h : MP I σ Q (an_order σ a)) : RI G Y_X8_order [.ref 58, .int a] I Q := by
  refine v_X8_order (s_in3 (-2) 6 (by decide) (by decide) ?_)
  rw [bI_0]
  unfold an_order at h
  by_cases c : -2 ≤ a.toInt ∧ a.toInt ≤ 6
  · rw [if_pos c] at h
    rw [decide_eq_true c]
    refine ⟨fun _ => s_find h0 hM (fun I1 f1 hM1 hF => s_findOrder h0 hM1 (mF_G hF) (fun I2 f2 o2 => ?_)), fun q => absurd q (by decide)⟩
    rw [iN_of a]
    exact M_tellsOrder h0 c (mG_sa (mF_G hF) f2).1 o2 (ordB_ne h0) (h I2 (lo_sc (frm_tr f1 (sa_sc f2))) (RM_sc hM1 (sa_sc f2)))
  · rw [if_neg c] at h
    rw [decide_eq_false c]
    exact ⟨fun q => absurd rfl q, fun _ => h I (fun _ _ => rfl) hM⟩
end MOrd
