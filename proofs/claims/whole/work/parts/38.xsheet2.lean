/-! ===== calls of the class: sheet, copy, write, read ===== -/
section XSheet2
variable {G : CX} {I : HP} {σ : SG}
theorem s_renew {Q : HP → Prop} {s : Nat} {b c : Int32} (hs : s < 4) (h : ∀ I', (∀ a, a ≠ 50 + 2 * s → a ≠ 51 + 2 * s → I' a = I a) → I' (50 + 2 * s) 1 = 0 → I' (50 + 2 * s) 2 = b → I' (50 + 2 * s) 3 = c → (∀ i, i < 60 → I' (51 + 2 * s) i = 0) → Q I') : RV G Y_X3_renew [.ref (50 + 2 * s), .int b, .int c] I Q := by
  refine v_X3_renew (she_s hs) ?_
  generalize e0 : (st (st (st I (50 + 2 * s) 1 (0 : Int32)) (50 + 2 * s) 2 b) (50 + 2 * s) 3 c) = I0
  have f0 : ∀ a, a ≠ 50 + 2 * s → I0 a = I a := fun a ha => by rw [← e0, st_ne1 ha, st_ne1 ha, st_ne1 ha]
  have g1 : I0 (50 + 2 * s) 1 = 0 := by rw [← e0, st_ne2 (by decide), st_ne2 (by decide), st_self]
  have g2 : I0 (50 + 2 * s) 2 = b := by rw [← e0, st_ne2 (by decide), st_self]
  have g3 : I0 (50 + 2 * s) 3 = c := by rw [← e0, st_self]
  have loop : ∀ m i : Nat, i + m = 60 → ∀ I1, (∀ a, a ≠ 51 + 2 * s → I1 a = I0 a) → (∀ q, q < i → I1 (51 + 2 * s) q = 0) → GV G Y_X3_renew 17 [(0, .ref (50 + 2 * s)), (3, .int (iN i))] I1 Q := by
    intro m
    induction m with
    | zero =>
      intro i hi I1 e1 hq
      refine v_X3_renew_17 (she_s hs) ⟨fun _ => ?_, fun c => absurd (by rw [l60, iN_le (by omega) (by omega)]; omega) c⟩
      refine h I1 (fun a h1 h2 => (e1 a h2).trans (f0 a h1)) ?_ ?_ ?_ (fun q hq2 => hq q (by omega))
      · rw [e1 _ (by omega)]; exact g1
      · rw [e1 _ (by omega)]; exact g2
      · rw [e1 _ (by omega)]; exact g3
    | succ m ih =>
      intro i hi I1 e1 hq
      refine v_X3_renew_17 (she_s hs) ⟨fun c => absurd c (by rw [l60, iN_le (by omega) (by omega)]; omega), fun _ => ⟨(vp_iN (by omega)).mpr ⟨by omega, by omega⟩, ?_⟩⟩
      rw [show nn (iN (i : Int)) = i from nn_nat (by omega), show 50 + 2 * s + 1 = 51 + 2 * s by omega, show iN (i : Int) + (1 : Int32) = iN ((i + 1 : Nat) : Int) from iN_add i 1]
      refine ih (i + 1) (by omega) _ (fun a ha => by rw [st_ne1 ha]; exact e1 a ha) (fun q hq2 => ?_)
      by_cases e : q = i
      · subst e; rw [st_self]
      · rw [st_ne2 e]; exact hq q (by omega)
  exact loop 60 0 (by omega) I0 (fun _ _ => rfl) (fun q hq => absurd hq (Nat.not_lt_zero _))
theorem X_sheet {Q : HP → Int32 → Prop} {a b c : Int32} (h0 : okS0 σ) (hX : RX I σ) (h : XP I (nx_sheet σ a b c) Q (an_sheet σ a b c)) : RI G Y_X7_sheet [.ref 0, .int a, .int b, .int c] I Q := by
  refine v_X7_sheet (s_isSheet7 ?_)
  rw [bI_0]
  unfold an_sheet nx_sheet at h
  rcases okA_cases a 3 with q | ⟨s, hs, ea, hsn, hok⟩
  · rw [q] at h
    exact ⟨fun _ => h I (fun _ _ => rfl) hX, fun w => absurd q w⟩
  · rw [hok, hsn] at h
    refine ⟨fun q => absurd (hok.symm.trans q) (by decide), fun _ => s_isForm7 ?_⟩
    rw [bI_0]
    subst ea
    have hs4 : s < 4 := by omega
    rcases okA_cases b 2 with q | ⟨f, hf, eb, -, hokb⟩
    · rw [q] at h
      exact ⟨fun _ => h I (fun _ _ => rfl) hX, fun w => absurd q w⟩
    · rw [hokb] at h
      refine ⟨fun q => absurd (hokb.symm.trans q) (by decide), fun _ => ?_⟩
      obtain ⟨z, hz, ec, ez⟩ := i32 c
      have ebi : b.toInt = f := by rw [eb]; exact iN_toInt (by omega) (by omega)
      rw [ez, ebi] at h
      rw [show (c ≤ 60) = (iN z ≤ iN 60) by rw [ec]; rfl, show (0 ≤ c) = (iN 0 ≤ iN z) by rw [ec]; rfl, iN_le (by omega) (by omega), iN_le (by omega) (by omega)]
      refine ⟨fun c1 => ⟨fun c2 => ⟨(vp_iN (by omega)).mpr ⟨by omega, by omega⟩, ?_⟩, fun c2 => ?_⟩, fun c1 => ?_⟩
      · simp only [Bool.and_self, Bool.true_and, decide_eq_true c1, if_true, if_neg (show ¬ z < 0 by omega)] at h
        rw [show nn (iN (s : Int)) = s from nn_nat (by omega)]
        refine s_renew hs4 (fun I1 f1 g1 g2 g3 g4 => ?_)
        refine h I1 (fun a ha => f1 a (by omega) (by omega)) (RX_sh hX (fun a h1 h2 => f1 a (by omega) (by omega)) (fun j _ => by rw [f1 0 (by omega) (by omega)]) (fun u hu => ?_) (by rw [f1 0 (by omega) (by omega)]; exact hX.2.2.2.2.2.2.2.2.2))
        by_cases e : u = s
        · subst e
          simp only [if_true]
          refine ⟨by rw [g1, if_neg (by omega)], fun _ => ⟨by rw [g2, eb], ?_, fun i hi => g4 i (by omega)⟩⟩
          rw [g3, ec]
          congr 1
          omega
        · simp only [if_neg e]
          rw [f1 (50 + 2 * u) (by omega) (by omega), f1 (51 + 2 * u) (by omega) (by omega)]
          exact RX_sht hX hu
      · simp only [Bool.and_self, Bool.true_and, decide_eq_true c1, if_true, if_pos (show z < 0 by omega)] at h
        exact s_found (k := 5) hX h
      · simp only [Bool.and_self, Bool.true_and, decide_eq_false c1] at h
        exact h I (fun _ _ => rfl) hX
theorem s_hasSpan {Q : HP → Bool → Prop} {s : Nat} {i n : Int32} (h0 : okS0 σ) (hX : RX I σ) (hs : s < 4) (hf : sFm σ s ≠ -1) (h : Q I (decide (0 ≤ i.toInt ∧ 0 ≤ n.toInt ∧ i.toInt + n.toInt ≤ sSz σ s))) : RZ G Y_X3_hasSpan [.ref (50 + 2 * s), .int i, .int n] I Q := by
  refine v_X3_hasSpan (she_s hs) ?_
  have h60 := sz_60 h0 hs hf
  obtain ⟨x, hx, ei, ex⟩ := i32 i
  obtain ⟨y, hy, en, ey⟩ := i32 n
  rw [ex, ey] at h
  rw [((RX_sht hX hs).2 hf).2.1, ei, en, iN_sub, l0, iN_lt (by omega) (by omega), iN_lt (by omega) (by omega), iN_lt (by omega) (by omega)]
  refine ⟨fun c => ?_, fun c => ⟨fun c2 => ?_, fun c2 => ⟨fun c3 => ?_, fun c3 => ?_⟩⟩⟩
  · rw [decide_eq_false (by omega)] at h; exact h
  · rw [decide_eq_false (by omega)] at h; exact h
  · rw [decide_eq_false (by omega)] at h; exact h
  · rw [iN_lt (by omega) (by omega)]
    refine ⟨fun c4 => ?_, fun c4 => ?_⟩
    · rw [decide_eq_false (by omega)] at h; exact h
    · rw [decide_eq_true (by omega)] at h; exact h
theorem sr_self (I : HP) (k : Nat) (f : Nat → Int32) : sr I k f k = f := by simp [sr]
theorem sr_ne {I : HP} {k a : Nat} {f : Nat → Int32} (h : a ≠ k) : sr I k f a = I a := by simp [sr, h]
theorem X_copy {Q : HP → Int32 → Prop} {a b c d e : Int32} (h0 : okS0 σ) (hX : RX I σ) (h : XP I (nx_copy σ a b c d e) Q (an_copy σ a b c d e)) : RI G Y_X7_copy [.ref 0, .int a, .int b, .int c, .int d, .int e] I Q := by
  refine v_X7_copy (s_isSheet7 ?_)
  rw [bI_0]
  unfold an_copy nx_copy at h
  rcases okA_cases a 3 with q | ⟨s, hs, ea, hsn, hok⟩
  · rw [q] at h
    exact ⟨fun _ => h I (fun _ _ => rfl) hX, fun w => absurd q w⟩
  · rw [hok, hsn] at h
    refine ⟨fun q => absurd (hok.symm.trans q) (by decide), fun _ => s_isSheet7 ?_⟩
    rw [bI_0]
    subst ea
    have hs4 : s < 4 := by omega
    rcases okA_cases c 3 with q | ⟨t, ht, ec, htn, hokc⟩
    · rw [q] at h
      exact ⟨fun w => absurd q w, fun _ => h I (fun _ _ => rfl) hX⟩
    · rw [hokc, htn] at h
      refine ⟨fun _ => ⟨?_, ?_, ?_⟩, fun q => absurd (hokc.symm.trans q) (by decide)⟩
      · exact (vp_iN (by omega)).mpr ⟨by omega, by omega⟩
      · rw [ec]; exact (vp_iN (by omega)).mpr ⟨by omega, by omega⟩
      subst ec
      have ht4 : t < 4 := by omega
      have fs := fm_bd h0 hs4
      have ft := fm_bd h0 ht4
      simp only [Bool.and_self, if_true] at h
      have fnd : ∀ k : Int, lkC σ s t b.toInt d.toInt e.toInt = k → k ≠ 0 → RI G Y_X7_found [.ref 0, .int (iN k)] I (fun I10 r11 => Q I10 r11) := by
        intro k hk hk0
        rw [hk, if_neg hk0, if_neg hk0] at h
        exact s_found hX h
      rw [show nn (iN (s : Int)) = s from nn_nat (by omega), show nn (iN (t : Int)) = t from nn_nat (by omega), lost_iff hX hs4, lost_iff hX ht4]
      refine ⟨fun c1 => fnd 1 (by unfold lkC; rw [if_pos (Or.inl (by omega))]) (by decide), fun c1 => ⟨fun c2 => ?_, fun c2 => fnd 1 (by unfold lkC; rw [if_pos (Or.inr (by omega))]) (by decide)⟩⟩
      have hne : ¬ (sFm σ s = -1 ∨ sFm σ t = -1) := by omega
      have s60 := sz_60 h0 hs4 c1
      have t60 := sz_60 h0 ht4 c2
      rw [((RX_sht hX hs4).2 c1).1, ((RX_sht hX ht4).2 c2).1, iN_eq (by omega) (by omega)]
      refine ⟨fun c3 => ?_, fun c3 => fnd 4 (by unfold lkC; rw [if_neg hne, if_pos c3]) (by decide)⟩
      have el : lkC σ s t b.toInt d.toInt e.toInt = if okSp σ s t b.toInt d.toInt e.toInt then 0 else 2 := by unfold lkC; rw [if_neg hne, if_neg (by omega)]
      have eo : okSp σ s t b.toInt d.toInt e.toInt = decide (0 ≤ b.toInt ∧ 0 ≤ d.toInt ∧ 0 ≤ e.toInt ∧ b.toInt + e.toInt ≤ sSz σ s ∧ d.toInt + e.toInt ≤ sSz σ t) := rfl
      refine s_hasSpan h0 hX hs4 c1 ?_
      rw [bI_0, decide_eq_false_iff_not]
      refine ⟨fun w => fnd 2 (by rw [el, eo, decide_eq_false (by omega)]; rfl) (by decide), fun w => s_hasSpan h0 hX ht4 c2 ?_⟩
      rw [bI_0, decide_eq_false_iff_not]
      refine ⟨fun w2 => ?_, fun w2 => fnd 2 (by rw [el, eo, decide_eq_false (by omega)]; rfl) (by decide)⟩
      have w : 0 ≤ b.toInt ∧ 0 ≤ e.toInt ∧ b.toInt + e.toInt ≤ sSz σ s := Classical.not_not.mp w
      have w2 : 0 ≤ d.toInt ∧ 0 ≤ e.toInt ∧ d.toInt + e.toInt ≤ sSz σ t := Classical.not_not.mp w2
      have e0 : lkC σ s t b.toInt d.toInt e.toInt = 0 := by rw [el, eo, decide_eq_true (by omega)]; rfl
      rw [e0] at h
      simp only [if_true] at h
      have nb : nn b = tn b := rfl
      have nd : nn d = tn d := rfl
      have ne : nn e = tn e := rfl
      have vb : (tn b : Int) = b.toInt := by unfold tn; omega
      have vd' : (tn d : Int) = d.toInt := by unfold tn; omega
      have ve : (tn e : Int) = e.toInt := by unfold tn; omega
      have z0' : (0 : Int32).toInt = 0 := by decide
      refine ⟨⟨by rw [t_lt, z0']; omega, by rw [t_lt, z0']; omega, by rw [t_lt, z0']; omega, by rw [nb, ne]; omega, by rw [nd, ne]; omega⟩, ?_⟩
      rw [nb, nd, ne, show 50 + 2 * t + 1 = 51 + 2 * t by omega, show 50 + 2 * s + 1 = 51 + 2 * s by omega]
      refine h _ (fun a ha => sr_ne (by omega)) (RX_it hX ht4 (fun a ha => sr_ne ha) (fun u hu => ?_) (fun k hk _ => ?_))
      · funext k
        unfold cpI
        rw [if_neg (fun q => hu q.1)]
      · rw [sr_self]
        unfold va_cpy cpI
        by_cases ck : tn d ≤ k ∧ k < tn d + tn e
        · rw [if_pos ck, if_pos ⟨rfl, ck⟩, show k - tn d + tn b = tn b + (k - tn d) by omega]
          exact ((RX_sht hX hs4).2 c1).2.2 _ (by omega)
        · rw [if_neg ck, if_neg (fun q => ck q.2)]
          exact ((RX_sht hX ht4).2 c2).2.2 k hk
theorem okS0_it {it : Nat → Nat → Int32} (h0 : okS0 σ) : okS0 (upSh σ (sFm σ) (sSz σ) it (sLa σ)) := h0
theorem X_write {Q : HP → Int32 → Prop} {a : Int32} (h0 : okS0 σ) (hX : RX I σ) (h : XP I (nx_write σ a) Q (an_write σ a)) : RI G Y_X7_write [.ref 0, .int a] I Q := by
  refine v_X7_write (s_isSheet7 ?_)
  rw [bI_0]
  unfold an_write nx_write at h
  rcases okA_cases a 3 with q | ⟨s, hs, ea, hsn, hok⟩
  · rw [q] at h
    exact ⟨fun w => absurd q w, fun _ => h I (fun _ _ => rfl) hX⟩
  · rw [hok, hsn] at h
    refine ⟨fun _ => ?_, fun q => absurd (hok.symm.trans q) (by decide)⟩
    subst ea
    have hs4 : s < 4 := by omega
    have hz := z0_le h0
    refine ⟨(vp_iN (by omega)).mpr ⟨by omega, by omega⟩, ?_⟩
    rw [show nn (iN (s : Int)) = s from nn_nat (by omega), lost_iff hX hs4]
    refine ⟨fun c z6 e6 => ?_, fun c => ?_⟩
    · simp only [if_true, if_neg c] at h
      have s60 := sz_60 h0 hs4 c
      rw [show I 2 3 = iN (z0 σ) from hX.1.2.2.2.2, ((RX_sht hX hs4).2 c).2.1] at e6
      have e7 : z6 = iN (mnW σ s) := by
        rw [e6]
        unfold mnW
        by_cases c2 : z0 σ < sSz σ s
        · rw [if_pos (by rw [iN_lt (by omega) (by omega)]; omega), if_neg (by omega)]
        · rw [if_neg (by rw [iN_lt (by omega) (by omega)]; omega)]
          by_cases c3 : sSz σ s < z0 σ
          · rw [if_pos c3]
          · rw [if_neg c3, show sSz σ s = z0 σ by omega]
      rw [e7]
      have hm : mnW σ s ≤ z0 σ ∧ mnW σ s ≤ sSz σ s := by unfold mnW; split <;> omega
      have loop : ∀ m v : Nat, v + m = mnW σ s → ∀ I1, (∀ a, 58 ≤ a → I1 a = I a) → RX I1 (upSh σ (sFm σ) (sSz σ) (wrI σ s v) (sLa σ)) → GI G Y_X7_write 48 [(0, .ref 0), (2, .ref (50 + 2 * s)), (3, .int (iN (mnW σ s))), (4, .int (iN v))] I1 Q := by
        intro m
        induction m with
        | zero =>
          intro v hv I1 e1 hX1
          refine v_X7_write_48 (she_s hs4) ⟨fun _ => ?_, fun w => absurd (by rw [iN_le (by omega) (by omega)]; omega) w⟩
          refine h I1 e1 ?_
          rw [show v = mnW σ s by omega] at hX1; exact hX1
        | succ m ih =>
          intro v hv I1 e1 hX1
          have hvz : v < z0 (upSh σ (sFm σ) (sSz σ) (wrI σ s v) (sLa σ)) := show v < z0 σ by omega
          refine v_X7_write_48 (she_s hs4) ⟨fun w => absurd w (by rw [iN_le (by omega) (by omega)]; omega), fun _ => s_turn6 (okS0_it h0) hX1 hvz ⟨tur6 (okS0_it h0) hvz, ?_⟩⟩
          rw [(told6 (okS0_it h0) hX1 hvz).1 4 (by decide)]
          refine s_store (okS0_it h0) hX1 hs4 c (show v < sSz σ s by omega) ?_
          rw [show iN (v : Int) + (1 : Int32) = iN ((v + 1 : Nat) : Int) from iN_add v 1]
          refine ih (v + 1) (by omega) _ (fun a ha => by rw [st_ne1 (by omega)]; exact e1 a ha) ?_
          refine RX_it (σ := upSh σ (sFm σ) (sSz σ) (wrI σ s v) (sLa σ)) hX1 hs4 (fun a ha => st_ne1 ha) (fun u hu => ?_) (fun k hk _ => ?_)
          · funext k
            show wrI σ s (v + 1) u k = wrI σ s v u k
            unfold wrI
            rw [if_neg (fun q => hu q.1), if_neg (fun q => hu q.1)]
          · by_cases ek : k = v
            · subst ek
              rw [st_self]
              show cutI (sFm σ s) (iN (tσ σ (k + 1) 4)) = wrI σ s (k + 1) s k
              unfold wrI
              rw [if_pos ⟨rfl, by omega⟩]
            · rw [st_ne2 ek, ((RX_sht hX1 hs4).2 c).2.2 k hk]
              show wrI σ s v s k = wrI σ s (v + 1) s k
              unfold wrI
              by_cases ck : k < v
              · rw [if_pos ⟨rfl, ck⟩, if_pos ⟨rfl, by omega⟩]
              · rw [if_neg (fun q => ck q.2), if_neg (fun q => absurd q.2 (by omega))]
      refine loop (mnW σ s) 0 (by omega) I (fun _ _ => rfl) ?_
      have e0 : wrI σ s 0 = sIt σ := by
        funext u k
        unfold wrI
        rw [if_neg (fun q => absurd q.2 (Nat.not_lt_zero _))]
      rw [e0]; exact hX
    · have c : sFm σ s = -1 := by omega
      simp only [if_true, if_pos c] at h
      exact s_found (k := 1) hX h
theorem X_read {Q : HP → Int32 → Prop} {a : Int32} (h0 : okS0 σ) (hX : RX I σ) (h : XP I (nx_read σ a) Q (an_read σ a)) : RI G Y_X7_read [.ref 0, .int a] I Q := by
  refine v_X7_read (s_isSheet7 ?_)
  rw [bI_0]
  unfold an_read nx_read at h
  rcases okA_cases a 3 with q | ⟨s, hs, ea, hsn, hok⟩
  · rw [q] at h
    exact ⟨fun w => absurd q w, fun _ => h I (fun _ _ => rfl) hX⟩
  · rw [hok, hsn] at h
    refine ⟨fun _ => ?_, fun q => absurd (hok.symm.trans q) (by decide)⟩
    subst ea
    have hs4 : s < 4 := by omega
    refine ⟨(vp_iN (by omega)).mpr ⟨by omega, by omega⟩, ?_⟩
    rw [show nn (iN (s : Int)) = s from nn_nat (by omega), lost_iff hX hs4]
    refine ⟨fun c => ?_, fun c => ?_⟩
    · simp only [if_true, if_neg c] at h
      have s60 := sz_60 h0 hs4 c
      have loop : ∀ m n : Nat, n + m = 31 → ∀ τ I1, okS0 τ → RX I1 τ → sFm τ s ≠ -1 → sSz τ s = sSz σ s → (∀ a, 58 ≤ a → I1 a = I a) → XP I (rd s m n τ).2 Q (iN (rd s m n τ).1) → GI G Y_X7_read 35 [(0, .ref 0), (2, .ref (50 + 2 * s)), (3, .int (iN n)), (4, .int (iN (2 * n : Nat)))] I1 Q := by
        intro m
        induction m with
        | zero =>
          intro n hn τ I1 ok1 hX1 hf1 hs1 e1 hq
          refine v_X7_read_35 (she_s hs4) ?_
          rw [((RX_sht hX1 hs4).2 hf1).2.1, l1, iN_add, iN_le (by omega) (by omega)]
          exact ⟨fun _ => hq I1 e1 hX1, fun w => absurd (by omega) w⟩
        | succ m ih =>
          intro n hn τ I1 ok1 hX1 hf1 hs1 e1 hq
          have stop : ¬ (2 * n + 2 ≤ sSz τ s ∧ okSn (sIt τ s (2 * n)) (sIt τ s (2 * n + 1)) = true ∧ sK τ ≠ 8) → Q I1 (iN n) := by
            intro w
            have hq := hq
            unfold rd at hq
            rw [if_neg w] at hq
            exact hq I1 e1 hX1
          refine v_X7_read_35 (she_s hs4) ?_
          rw [((RX_sht hX1 hs4).2 hf1).2.1, show iN ((2 * n : Nat) : Int) + (1 : Int32) = iN ((2 * n + 1 : Nat) : Int) from iN_add _ 1, iN_le (by omega) (by omega)]
          refine ⟨fun w => stop (by omega), fun w => s_item ok1 hX1 hs4 hf1 (by omega) (s_item ok1 hX1 hs4 hf1 (by omega) (s_mayBe ?_))⟩
          rw [bI_0]
          refine ⟨fun w2 => stop (fun q => by rw [w2] at q; exact absurd q.2.1 (by decide)), fun w2 => s_isFull4 ok1 hX1 ?_⟩
          rw [bI_0, decide_eq_false_iff_not]
          refine ⟨fun w3 => ?_, fun w3 => stop (fun q => w3 q.2.2)⟩
          have w2 : okSn (sIt τ s (2 * n)) (sIt τ s (2 * n + 1)) = true := (Bool.not_eq_false _).mp w2
          refine s_add4 ok1 hX1 w3 (fun I2 f2 hX2 => ?_)
          unfold rd at hq
          rw [if_pos ⟨by omega, w2, w3⟩] at hq
          rw [show iN (n : Int) + (1 : Int32) = iN ((n + 1 : Nat) : Int) from iN_add n 1, show iN ((2 * n : Nat) : Int) + (2 : Int32) = iN ((2 * (n + 1) : Nat) : Int) from iN_add _ 2]
          exact ih (n + 1) (by omega) _ I2 (okS0_add ok1 w2 w3) hX2 hf1 hs1 (fun a ha => (f2 a (by omega)).trans (e1 a ha)) hq
      exact loop 31 0 (by omega) σ I h0 hX c rfl (fun _ _ => rfl) h
    · have c : sFm σ s = -1 := by omega
      simp only [if_true, if_pos c] at h
      exact s_found (k := 1) hX h
end XSheet2
