/-! ===== calls of the reference: SHEETS made, copied, written, read; counts ===== -/
theorem i32 (x : Int32) : ∃ z : Int, (-2147483648 ≤ z ∧ z < 2147483648) ∧ x = iN z ∧ x.toInt = z := ⟨x.toInt, by have := x.le_toInt; have := x.toInt_lt; omega, iN_of x, rfl⟩
def okSp (σ : SG) (s t : Nat) (i j n : Int) : Bool := decide (0 ≤ i ∧ 0 ≤ j ∧ 0 ≤ n ∧ i + n ≤ sSz σ s ∧ j + n ≤ sSz σ t)
def lkC (σ : SG) (s t : Nat) (i j n : Int) : Int := if sFm σ s = -1 ∨ sFm σ t = -1 then 1 else if sFm σ s ≠ sFm σ t then 4 else if okSp σ s t i j n then 0 else 2
def cpI (σ : SG) (s t i j n : Nat) : Nat → Nat → Int32 := fun u k => if u = t ∧ j ≤ k ∧ k < j + n then sIt σ s (k - j + i) else sIt σ u k
def an_copy (σ : SG) (a b c d e : Int32) : Int32 := if okA a 3 && okA c 3 then (if lkC σ (tn a) (tn c) b.toInt d.toInt e.toInt = 0 then iN 1 else iN (-10 - lkC σ (tn a) (tn c) b.toInt d.toInt e.toInt)) else iN (-2)
def nx_copy (σ : SG) (a b c d e : Int32) : SG := if okA a 3 && okA c 3 then (if lkC σ (tn a) (tn c) b.toInt d.toInt e.toInt = 0 then upSh σ (sFm σ) (sSz σ) (cpI σ (tn a) (tn c) (tn b) (tn d) (tn e)) (sLa σ) else upLa σ (lkC σ (tn a) (tn c) b.toInt d.toInt e.toInt)) else σ
def mnW (σ : SG) (s : Nat) : Nat := if sSz σ s < z0 σ then sSz σ s else z0 σ
def an_write (σ : SG) (a : Int32) : Int32 := if okA a 3 then (if sFm σ (tn a) = -1 then iN (-11) else iN (mnW σ (tn a))) else iN (-2)
def wrI (σ : SG) (s n : Nat) : Nat → Nat → Int32 := fun u k => if u = s ∧ k < n then cutI (sFm σ s) (iN (tσ σ (k + 1) 4)) else sIt σ u k
def nx_write (σ : SG) (a : Int32) : SG := if okA a 3 then (if sFm σ (tn a) = -1 then upLa σ 1 else upSh σ (sFm σ) (sSz σ) (wrI σ (tn a) (mnW σ (tn a))) (sLa σ)) else σ
def rd (s : Nat) : Nat → Nat → SG → Nat × SG
  | 0, n, τ => (n, τ)
  | f + 1, n, τ => if 2 * n + 2 ≤ sSz τ s ∧ okSn (sIt τ s (2 * n)) (sIt τ s (2 * n + 1)) = true ∧ sK τ ≠ 8 then rd s f (n + 1) (addSn τ (sIt τ s (2 * n)) (sIt τ s (2 * n + 1))) else (n, τ)
def an_read (σ : SG) (a : Int32) : Int32 := if okA a 3 then (if sFm σ (tn a) = -1 then iN (-11) else iN (rd (tn a) 31 0 σ).1) else iN (-2)
def nx_read (σ : SG) (a : Int32) : SG := if okA a 3 then (if sFm σ (tn a) = -1 then upLa σ 1 else (rd (tn a) 31 0 σ).2) else σ
def bits (F : Nat) : Nat → Nat
  | 0 => 0
  | v + 1 => bits F v + F / 2 ^ v % 2
def cnt (σ : SG) (k : Nat) : Int := if k = 0 then z0 σ else if k = 1 then z1 σ else if k = 2 then sN σ 0 else if k = 3 then sN σ 1 else if k = 4 then sK σ else if k = 5 then tσ σ (z0 σ) 9 else if k = 6 then sR σ 0 else if k = 7 then bits (sR σ 5).toNat (z0 σ) else sLa σ
def an_count (σ : SG) (a : Int32) : Int32 := if okA a 8 then iN (cnt σ (tn a)) else iN (-2)
theorem and1 {a : Nat} (h : a < 2 ^ 31) : iN a &&& 1 = iN ((a % 2 : Nat) : Int) := by
  rw [← nI_iN, ← nI_iN]
  apply Int32.toBitVec_inj.mp
  apply BitVec.eq_of_toNat_eq
  have e1 : ∀ n, n < 2 ^ 31 → (nI n).toBitVec.toNat = n := fun n hn => by
    show (Int32.ofNat n).toBitVec.toNat = n
    simp
    omega
  rw [Int32.toBitVec_and, BitVec.toNat_and, e1 a h, e1 (a % 2) (by omega)]
  exact Nat.and_one_is_mod a
theorem shr12 : ∀ v : Fin 12, (((iN (v.1 : Int)) &&& 31).toBitVec.smod 32).toNat = v.1 := by decide
theorem bit12 {F v : Nat} (hF : F < 4096) (hv : v < 12) : (iN F >>> (iN v &&& 31)) &&& 1 = iN ((F / 2 ^ v % 2 : Nat) : Int) := by
  have e : iN F >>> (iN v &&& 31) = iN ((F / 2 ^ v : Nat) : Int) := by
    rw [iN_of (iN F >>> (iN v &&& 31)), Jvm.Kit.i32_shr _ _ (shr12 ⟨v, hv⟩), iN_toInt (by omega) (by omega)]
    congr 1
  have hle : F / 2 ^ v ≤ F := Nat.div_le_self _ _
  rw [e, and1 (by omega)]
theorem okS0_add {σ : SG} {a b : Int32} (h0 : okS0 σ) (hs : okSn a b = true) (hk : sK σ ≠ 8) : okS0 (addSn σ a b) := by
  obtain ⟨h1, h2, h3, h4, h5, h6, h7, h8⟩ := h0
  have hs' : (0 ≤ a.toInt ∧ a.toInt ≤ 299) ∧ (-1 ≤ b.toInt ∧ b.toInt ≤ 11) := by simpa [okSn, okA] using hs
  refine ⟨h1, h2, h3, ?_, fun k hk2 => ?_, h6, h7, h8⟩
  · show sK σ + 1 ≤ 8; omega
  · have hk2 : k < sK σ + 1 := hk2
    show (0 ≤ (if k = sK σ then a.toInt else sB σ k) ∧ (if k = sK σ then a.toInt else sB σ k) ≤ 299) ∧ (-1 ≤ (if k = sK σ then b.toInt else sV σ k) ∧ (if k = sK σ then b.toInt else sV σ k) ≤ 11)
    by_cases e : k = sK σ
    · rw [if_pos e, if_pos e]; exact hs'
    · rw [if_neg e, if_neg e]; exact h5 k (by omega)
section MSh2
variable {G : CX} {I : HP} {σ : SG}
theorem M_sheet {Q : HP → Int32 → Prop} {a b c : Int32} (h0 : okS0 σ) (hM : RM I σ) (h : MP I (nx_sheet σ a b c) Q (an_sheet σ a b c)) : RI G Y_X8_sheet [.ref 58, .int a, .int b, .int c] I Q := by
  refine v_X8_sheet (s_isSheet8 ?_)
  rw [bI_0]
  unfold an_sheet nx_sheet at h
  rcases okA_cases a 3 with q | ⟨t, ht, ea, htn, hok⟩
  · rw [q] at h
    exact ⟨fun _ => h I (fun _ _ => rfl) hM, fun w => absurd q w⟩
  · rw [hok, htn] at h
    refine ⟨fun q => absurd (hok.symm.trans q) (by decide), fun _ => s_in3 0 2 (by decide) (by decide) ?_⟩
    rw [bI_0]
    rcases okA_cases b 2 with q | ⟨k, hk, eb, hbn, hbk⟩
    · rw [q] at h
      exact ⟨fun _ => h I (fun _ _ => rfl) hM, fun w => absurd q w⟩
    · rw [hbk] at h
      refine ⟨fun w => absurd (hbk.symm.trans w) (by decide), fun _ => ?_⟩
      obtain ⟨z, hz, ec, ez⟩ := i32 c
      rw [ez] at h
      have ebk : b.toInt = k := by rw [eb, iN_toInt (by omega) (by omega)]
      rw [ebk] at h
      subst ea; subst eb; subst ec
      rw [l60, l0, iN_le (by omega) (by omega), iN_le (by omega) (by omega)]
      refine ⟨fun c1 => ⟨fun c2 => ⟨(vp_iN (by omega)).mpr ⟨by omega, by omega⟩, ?_⟩, fun c2 => ?_⟩, fun c1 => ?_⟩
      · simp only [decide_eq_true c1, Bool.and_self, if_true, if_neg (show ¬ z < 0 by omega)] at h
        rw [show nn (iN (t : Int)) = t from nn_nat (by omega)]
        obtain ⟨n, en⟩ : ∃ n : Nat, z = n := ⟨z.toNat, by omega⟩
        subst en
        rw [show ((n : Int)).toNat = n by omega] at h
        obtain ⟨-, -, -, -, -, h6, h7, h8⟩ := id hM
        have loop : ∀ m i : Nat, i + m = n → ∀ I1, (∀ a, a ≠ 59 → a ≠ 60 → a ≠ 61 → I1 a = I a) → (∀ s, I1 59 s = if s = t then iN k else I 59 s) → (∀ s, I1 60 s = if s = t then iN n else I 60 s) → (∀ q, I1 61 q = if 60 * t ≤ q ∧ q < 60 * t + i then iN 0 else I 61 q) → GI G Y_X8_sheet 55 [(0, .ref 58), (1, .int (iN t)), (3, .int (iN n)), (4, .int (iN i))] I1 Q := by
          intro m
          induction m with
          | zero =>
            intro i hi I1 e0 e1 e2 e3
            refine v_X8_sheet_55 ⟨fun _ => h I1 (fun a ha => e0 a (by omega) (by omega) (by omega)) (RM_sh hM (fun a ha => e0 a (by omega) (by omega) (by omega)) (by rw [e0 58 (by decide) (by decide) (by decide)]) (fun s hs => ?_) (fun s hs hf => ?_) (by rw [e0 58 (by decide) (by decide) (by decide)]; exact h8)), fun w => absurd (by rw [iN_le (by omega) (by omega)]; omega) w⟩
            · rw [e1]
              by_cases e : s = t
              · rw [if_pos e, if_pos e]
              · rw [if_neg e, if_neg e]; exact h6 s hs
            · rw [e2]
              by_cases e : s = t
              · subst e
                rw [if_pos rfl, if_pos rfl]
                refine ⟨rfl, fun j hj => ?_⟩
                rw [if_pos rfl, e3, if_pos (by omega)]; rfl
              · rw [if_neg e] at hf
                rw [if_neg e, if_neg e]
                have hsz := h0.2.2.2.2.2.2.1 s hs hf
                refine ⟨(h7 s hs hf).1, fun j hj => ?_⟩
                rw [if_neg e, e3, if_neg (by omega)]; exact (h7 s hs hf).2 j hj
          | succ m ih =>
            intro i hi I1 e0 e1 e2 e3
            refine v_X8_sheet_55 ⟨fun w => absurd w (by rw [iN_le (by omega) (by omega)]; omega), fun _ => ?_⟩
            rw [l60, iN_mul, iN_add]
            refine ⟨(vp_iN (by omega)).mpr ⟨by omega, by omega⟩, ?_⟩
            rw [show nn (iN (60 * (t : Int) + i)) = 60 * t + i by rw [nn, nn_iN (by omega) (by omega)]; omega, l1, iN_add]
            refine ih (i + 1) (by omega) _ (fun a h1 h2 h3 => by rw [st_ne1 h3]; exact e0 a h1 h2 h3) (fun s => by rw [st_ne1 (by decide)]; exact e1 s) (fun s => by rw [st_ne1 (by decide)]; exact e2 s) (fun q => ?_)
            by_cases e : q = 60 * t + i
            · subst e; rw [st_self, if_pos (by omega)]; rfl
            · rw [st_ne2 e, e3]
              by_cases e' : 60 * t ≤ q ∧ q < 60 * t + i
              · rw [if_pos e', if_pos (by omega)]
              · rw [if_neg e', if_neg (by omega)]
        refine loop n 0 (by omega) _ (fun a h1 h2 h3 => by rw [st_ne1 h2, st_ne1 h1]) (fun s => ?_) (fun s => ?_) (fun q => ?_)
        · rw [st_ne1 (by decide)]
          by_cases e : s = t
          · subst e; rw [st_self, if_pos rfl]
          · rw [st_ne2 e, if_neg e]
        · by_cases e : s = t
          · subst e; rw [st_self, if_pos rfl]
          · rw [st_ne2 e, if_neg e, st_ne1 (by decide)]
        · rw [st_ne1 (by decide), st_ne1 (by decide), if_neg (by omega)]
      · have h' : MP I (upLa σ 5) Q (iN (-15)) := by simpa [c1, show z < 0 by omega] using h
        exact s_met (k := 5) hM h'
      · rw [decide_eq_false c1] at h
        exact h I (fun _ _ => rfl) hM
theorem M_copy {Q : HP → Int32 → Prop} {a b c d e : Int32} (h0 : okS0 σ) (hM : RM I σ) (h : MP I (nx_copy σ a b c d e) Q (an_copy σ a b c d e)) : RI G Y_X8_copy [.ref 58, .int a, .int b, .int c, .int d, .int e] I Q := by
  refine v_X8_copy (s_isSheet8 ?_)
  rw [bI_0]
  unfold an_copy nx_copy at h
  rcases okA_cases a 3 with q | ⟨s, hs, ea, hsn, hok⟩
  · rw [q] at h
    exact ⟨fun _ => h I (fun _ _ => rfl) hM, fun w => absurd q w⟩
  · rw [hok, hsn] at h
    refine ⟨fun q => absurd (hok.symm.trans q) (by decide), fun _ => s_isSheet8 ?_⟩
    rw [bI_0]
    rcases okA_cases c 3 with q | ⟨t, ht, ec, htn, hct⟩
    · rw [q] at h
      exact ⟨fun w => absurd q w, fun _ => h I (fun _ _ => rfl) hM⟩
    · rw [hct, htn] at h
      refine ⟨fun _ => ?_, fun w => absurd (hct.symm.trans w) (by decide)⟩
      obtain ⟨i, hi, ei, ei2⟩ := i32 b
      obtain ⟨j, hj, ej, ej2⟩ := i32 d
      obtain ⟨n, hn, en, en2⟩ := i32 e
      have tb : tn b = i.toNat := by unfold tn; rw [ei2]
      have td : tn d = j.toNat := by unfold tn; rw [ej2]
      have te : tn e = n.toNat := by unfold tn; rw [en2]
      rw [ei2, ej2, en2, tb, td, te] at h
      clear tb td te
      subst ea; subst ec; subst ei; subst ej; subst en
      have hbs := fm_bd h0 (show s < 4 by omega)
      have hbt := fm_bd h0 (show t < 4 by omega)
      obtain ⟨-, -, -, -, -, h6, h7, h8⟩ := id hM
      have met : ∀ k : Int, k ≠ 0 → lkC σ s t i j n = k → MP I (upLa σ k) Q (iN (-10 - k)) := fun k hk ek => by
        rw [ek, if_neg hk] at h
        simp only [Bool.and_self, if_true, if_neg hk] at h
        exact h
      refine ⟨(vp_iN (by omega)).mpr ⟨by omega, by omega⟩, ?_⟩
      rw [show nn (iN (s : Int)) = s from nn_nat (by omega), show nn (iN (t : Int)) = t from nn_nat (by omega), h6 s (by omega), h6 t (by omega), l0, iN_lt (by omega) (by omega)]
      refine ⟨fun c1 => s_met (k := 1) hM (met 1 (by decide) (by unfold lkC; rw [if_pos (Or.inl (by omega))])), fun c1 => ⟨(vp_iN (by omega)).mpr ⟨by omega, by omega⟩, ?_⟩⟩
      rw [iN_le (by omega) (by omega), iN_eq (by omega) (by omega)]
      refine ⟨fun c2 => ?_, fun c2 => s_met (k := 1) hM (met 1 (by decide) (by unfold lkC; rw [if_pos (Or.inr (by omega))]))⟩
      have hfs : sFm σ s ≠ -1 := by omega
      have hft : sFm σ t ≠ -1 := by omega
      have hnl : ¬ (sFm σ s = -1 ∨ sFm σ t = -1) := by omega
      refine ⟨fun c3 => ?_, fun c3 => s_met (k := 4) hM (met 4 (by decide) (by unfold lkC; rw [if_neg hnl, if_pos c3]))⟩
      have hss := h0.2.2.2.2.2.2.1 s (by omega) hfs
      have hst := h0.2.2.2.2.2.2.1 t (by omega) hft
      have met2 : ¬ (0 ≤ i ∧ 0 ≤ j ∧ 0 ≤ n ∧ i + n ≤ sSz σ s ∧ j + n ≤ sSz σ t) → RI G Y_X8_met [.ref 58, .int (2 : Int32)] I (fun I15 r16 => Q I15 r16) := fun hno => s_met (k := 2) hM (met 2 (by decide) (by unfold lkC okSp; rw [if_neg hnl, if_neg (by omega), decide_eq_false hno]; rfl))
      rw [iN_lt (by omega) (by omega), iN_lt (by omega) (by omega), iN_lt (by omega) (by omega), (h7 s (by omega) hfs).1, (h7 t (by omega) hft).1]
      refine ⟨fun c4 => met2 (by omega), fun c4 => ⟨fun c5 => met2 (by omega), fun c5 => ⟨fun c6 => met2 (by omega), fun c6 => ?_⟩⟩⟩
      rw [← l0, lg_cmp_gt, lg_cmp_le, Int64.lt_iff_toInt_lt, Int64.le_iff_toInt_le, lg_i2l_add, lg_i2l_add, Int32.toInt_toInt64, Int32.toInt_toInt64, iN_toInt (by omega) (by omega), iN_toInt (by omega) (by omega), iN_toInt (by omega) (by omega), iN_toInt (by omega) (by omega), iN_toInt (by omega) (by omega)]
      refine ⟨fun c7 => met2 (by omega), fun c7 => ⟨fun c8 => ?_, fun c8 => met2 (by omega)⟩⟩
      have hsp : 0 ≤ i ∧ 0 ≤ j ∧ 0 ≤ n ∧ i + n ≤ sSz σ s ∧ j + n ≤ sSz σ t := by omega
      have e0 : lkC σ s t i j n = 0 := by unfold lkC okSp; rw [if_neg hnl, if_neg (by omega), decide_eq_true hsp]; rfl
      rw [e0] at h
      simp only [Bool.and_self, if_true] at h
      obtain ⟨i', ei⟩ : ∃ i' : Nat, i = i' := ⟨i.toNat, by omega⟩
      obtain ⟨j', ej⟩ : ∃ j' : Nat, j = j' := ⟨j.toNat, by omega⟩
      obtain ⟨n', en⟩ : ∃ n' : Nat, n = n' := ⟨n.toNat, by omega⟩
      subst ei; subst ej; subst en
      simp only [Int.toNat_natCast] at h
      have loop2 : ∀ m q : Nat, q + m = n' → ∀ I1, (∀ a, a ≠ 61 → a ≠ 62 → I1 a = I a) → (∀ w, w < n' → I1 62 w = I 61 (60 * s + i' + w)) → (∀ w, I1 61 w = if 60 * t + j' ≤ w ∧ w < 60 * t + j' + q then I1 62 (w - (60 * t + j')) else I 61 w) → GI G Y_X8_copy 157 [(0, .ref 58), (3, .int (iN t)), (4, .int (iN j')), (5, .int (iN n')), (6, .int (iN q))] I1 Q := by
        intro m
        induction m with
        | zero =>
          intro q hq I1 e0 e1 e2
          refine v_X8_copy_157 ⟨fun _ => h I1 (fun a ha => e0 a (by omega) (by omega)) (RM_sh hM (fun a ha => e0 a (by omega) (by omega)) (by rw [e0 58 (by decide) (by decide)]) (fun u hu => by rw [e0 59 (by decide) (by decide)]; exact h6 u hu) (fun u hu hf => ?_) (by rw [e0 58 (by decide) (by decide)]; exact h8)), fun w => absurd (by rw [iN_le (by omega) (by omega)]; omega) w⟩
          refine ⟨by rw [e0 60 (by decide) (by decide)]; exact (h7 u hu hf).1, fun k hk => ?_⟩
          have hsz := h0.2.2.2.2.2.2.1 u hu hf
          rw [e2]
          unfold cpI
          by_cases c9 : u = t ∧ j' ≤ k ∧ k < j' + n'
          · rw [if_pos c9, if_pos (by omega), e1 _ (by omega), show 60 * s + i' + (60 * u + k - (60 * t + j')) = 60 * s + (k - j' + i') by omega]
            exact (h7 s (by omega) hfs).2 _ (by omega)
          · rw [if_neg c9, if_neg (by omega)]
            exact (h7 u hu hf).2 k hk
        | succ m ih =>
          intro q hq I1 e0 e1 e2
          refine v_X8_copy_157 ⟨fun w => absurd w (by rw [iN_le (by omega) (by omega)]; omega), fun _ => ⟨(vp_iN (by omega)).mpr ⟨by omega, by omega⟩, ?_⟩⟩
          rw [l60, iN_mul, iN_add, iN_add]
          refine ⟨(vp_iN (by omega)).mpr ⟨by omega, by omega⟩, ?_⟩
          rw [show nn (iN (60 * (t : Int) + j' + q)) = 60 * t + j' + q by rw [nn, nn_iN (by omega) (by omega)]; omega, show nn (iN (q : Int)) = q from nn_nat (by omega), l1, iN_add]
          refine ih (q + 1) (by omega) _ (fun a h1 h2 => by rw [st_ne1 h1]; exact e0 a h1 h2) (fun w hw => by rw [st_ne1 (by decide)]; exact e1 w hw) (fun w => ?_)
          rw [st_ne1 (show 62 ≠ 61 by decide)]
          by_cases e : w = 60 * t + j' + q
          · subst e; rw [st_self, if_pos (by omega)]; congr 1; omega
          · rw [st_ne2 e, e2]
            by_cases e' : 60 * t + j' ≤ w ∧ w < 60 * t + j' + q
            · rw [if_pos e', if_pos (by omega)]
            · rw [if_neg e', if_neg (by omega)]
      have loop1 : ∀ m q : Nat, q + m = n' → ∀ I1, (∀ a, a ≠ 62 → I1 a = I a) → (∀ w, w < q → I1 62 w = I 61 (60 * s + i' + w)) → GI G Y_X8_copy 120 [(0, .ref 58), (1, .int (iN s)), (2, .int (iN i')), (3, .int (iN t)), (4, .int (iN j')), (5, .int (iN n')), (6, .int (iN q))] I1 Q := by
        intro m
        induction m with
        | zero =>
          intro q hq I1 e0 e1
          refine v_X8_copy_120 ⟨fun _ => loop2 n' 0 (by omega) I1 (fun a _ h2 => e0 a h2) (fun w hw => e1 w (by omega)) (fun w => by rw [if_neg (by omega), e0 61 (by decide)]), fun w => absurd (by rw [iN_le (by omega) (by omega)]; omega) w⟩
        | succ m ih =>
          intro q hq I1 e0 e1
          refine v_X8_copy_120 ⟨fun w => absurd w (by rw [iN_le (by omega) (by omega)]; omega), fun _ => ?_⟩
          rw [l60, iN_mul, iN_add, iN_add]
          refine ⟨(vp_iN (by omega)).mpr ⟨by omega, by omega⟩, (vp_iN (by omega)).mpr ⟨by omega, by omega⟩, ?_⟩
          rw [show nn (iN (60 * (s : Int) + i' + q)) = 60 * s + i' + q by rw [nn, nn_iN (by omega) (by omega)]; omega, show nn (iN (q : Int)) = q from nn_nat (by omega), l1, iN_add]
          refine ih (q + 1) (by omega) _ (fun a h1 => by rw [st_ne1 h1]; exact e0 a h1) (fun w hw => ?_)
          by_cases e : w = q
          · subst e; rw [st_self, e0 61 (by decide)]
          · rw [st_ne2 e]; exact e1 w (by omega)
      exact loop1 n' 0 (by omega) I (fun _ _ => rfl) (fun w hw => absurd hw (Nat.not_lt_zero _))
theorem M_write {Q : HP → Int32 → Prop} {a : Int32} (h0 : okS0 σ) (hM : RM I σ) (h : MP I (nx_write σ a) Q (an_write σ a)) : RI G Y_X8_write [.ref 58, .int a] I Q := by
  refine v_X8_write (s_isSheet8 ?_)
  rw [bI_0]
  unfold an_write nx_write at h
  rcases okA_cases a 3 with q | ⟨s, hs, ea, hsn, hok⟩
  · rw [q] at h
    exact ⟨fun w => absurd q w, fun _ => h I (fun _ _ => rfl) hM⟩
  · rw [hok, hsn] at h
    refine ⟨fun _ => ?_, fun q => absurd (hok.symm.trans q) (by decide)⟩
    subst ea
    have hbs := fm_bd h0 (show s < 4 by omega)
    have hz := z0_le h0
    refine ⟨(vp_iN (by omega)).mpr ⟨by omega, by omega⟩, ?_⟩
    rw [show nn (iN (s : Int)) = s from nn_nat (by omega), hM.2.2.2.2.2.1 s (by omega), l0, iN_le (by omega) (by omega)]
    refine ⟨fun c1 => s_find h0 hM (fun I1 f1 hM1 hF => ?_), fun c1 => ?_⟩
    · have hf : sFm σ s ≠ -1 := by omega
      simp only [if_true, if_neg hf] at h
      have hss := h0.2.2.2.2.2.2.1 s (by omega) hf
      have hr := hF.2.2.2.2.1
      have hS := hF.2.2.2.2.2
      have hM1' := hM1
      obtain ⟨-, -, -, -, -, h6, h7, h8⟩ := hM1'
      have hm : mnW σ s ≤ 60 ∧ mnW σ s ≤ z0 σ ∧ mnW σ s ≤ sSz σ s := by unfold mnW; split <;> omega
      have loop : ∀ m q : Nat, q + m = mnW σ s → ∀ I2, (∀ a, a ≠ 61 → I2 a = I1 a) → (∀ w, I2 61 w = if 60 * s ≤ w ∧ w < 60 * s + q then cutI (sFm σ s) (iN (tσ σ (w - 60 * s + 1) 4)) else I1 61 w) → GI G Y_X8_write 45 [(0, .ref 58), (1, .int (iN s)), (2, .int (iN (mnW σ s))), (3, .int (iN q))] I2 Q := by
        intro m
        induction m with
        | zero =>
          intro q hq I2 e0 e1
          refine v_X8_write_45 ⟨fun _ => h I2 (fun a ha => by rw [e0 a (by omega)]; exact lo_sc f1 a ha) (RM_sh hM1 (fun a ha => e0 a (by omega)) (by rw [e0 58 (by decide)]) (fun u hu => by rw [e0 59 (by decide)]; exact h6 u hu) (fun u hu hf2 => ?_) (by rw [e0 58 (by decide)]; exact h8)), fun w => absurd (by rw [iN_le (by omega) (by omega)]; omega) w⟩
          refine ⟨by rw [e0 60 (by decide)]; exact (h7 u hu hf2).1, fun k hk => ?_⟩
          have hsz := h0.2.2.2.2.2.2.1 u hu hf2
          rw [e1]
          unfold wrI
          by_cases c9 : u = s ∧ k < mnW σ s
          · rw [if_pos c9, if_pos (by omega), show 60 * u + k - 60 * s + 1 = k + 1 by omega]
          · rw [if_neg c9, if_neg (by omega)]
            exact (h7 u hu hf2).2 k hk
        | succ m ih =>
          intro q hq I2 e0 e1
          refine v_X8_write_45 ⟨fun w => absurd w (by rw [iN_le (by omega) (by omega)]; omega), fun _ => ⟨(vp_iN (by omega)).mpr ⟨by omega, by omega⟩, (vp_iN (by omega)).mpr ⟨by omega, by omega⟩, ?_⟩⟩
          rw [show nn (iN (s : Int)) = s from nn_nat (by omega), show nn (iN (q : Int)) = q from nn_nat (by omega), e0 59 (by decide), e0 71 (by decide), h6 s (by omega), show I1 71 q = iN (tl (sR σ) (vsT (sF σ 0)) (q + 1) 4) from hS.2.1 q (by omega) 4 (by decide) (by decide)]
          refine s_cut (by omega) ?_
          rw [l60, iN_mul, iN_add]
          refine ⟨(vp_iN (by omega)).mpr ⟨by omega, by omega⟩, ?_⟩
          rw [show nn (iN (60 * (s : Int) + q)) = 60 * s + q by rw [nn, nn_iN (by omega) (by omega)]; omega, l1, iN_add]
          refine ih (q + 1) (by omega) _ (fun a h1 => by rw [st_ne1 h1]; exact e0 a h1) (fun w => ?_)
          by_cases e : w = 60 * s + q
          · subst e; rw [st_self, if_pos (by omega), show 60 * s + q - 60 * s + 1 = q + 1 by omega]; rfl
          · rw [st_ne2 e, e1]
            by_cases e' : 60 * s ≤ w ∧ w < 60 * s + q
            · rw [if_pos e', if_pos (by omega)]
            · rw [if_neg e', if_neg (by omega)]
      have go : GI G Y_X8_write 45 [(0, .ref 58), (1, .int (iN s)), (2, .int (iN (mnW σ s))), (3, .int (iN (0 : Nat)))] I1 Q := loop (mnW σ s) 0 (by omega) I1 (fun _ _ => rfl) (fun w => by rw [if_neg (by omega)])
      rw [(h7 s (by omega) hf).1, hr.1]
      refine v_X8_lesser ?_
      rw [iN_le (by omega) (by omega)]
      unfold mnW at go
      refine ⟨fun c2 => ?_, fun c2 => ?_⟩
      · rw [if_neg (by omega)] at go; exact go
      · rw [if_pos (by omega)] at go; exact go
    · have he : sFm σ s = -1 := by omega
      have h' : MP I (upLa σ 1) Q (iN (-11)) := by simpa [he] using h
      exact s_met (k := 1) hM h'
theorem M_read {Q : HP → Int32 → Prop} {a : Int32} (h0 : okS0 σ) (hM : RM I σ) (h : MP I (nx_read σ a) Q (an_read σ a)) : RI G Y_X8_read [.ref 58, .int a] I Q := by
  refine v_X8_read (s_isSheet8 ?_)
  rw [bI_0]
  unfold an_read nx_read at h
  rcases okA_cases a 3 with q | ⟨s, hs, ea, hsn, hok⟩
  · rw [q] at h
    exact ⟨fun w => absurd q w, fun _ => h I (fun _ _ => rfl) hM⟩
  · rw [hok, hsn] at h
    refine ⟨fun _ => ?_, fun q => absurd (hok.symm.trans q) (by decide)⟩
    subst ea
    have hbs := fm_bd h0 (show s < 4 by omega)
    refine ⟨(vp_iN (by omega)).mpr ⟨by omega, by omega⟩, ?_⟩
    rw [show nn (iN (s : Int)) = s from nn_nat (by omega), hM.2.2.2.2.2.1 s (by omega), l0, iN_le (by omega) (by omega)]
    refine ⟨fun c1 => ?_, fun c1 => ?_⟩
    · have hf : sFm σ s ≠ -1 := by omega
      simp only [if_true, if_neg hf] at h
      have hss := h0.2.2.2.2.2.2.1 s (by omega) hf
      have loop : ∀ m n : Nat, n + m = 31 → ∀ τ I1, okS0 τ → RM I1 τ → sFm τ s ≠ -1 → sSz τ s = sSz σ s → (∀ a, a < 58 → I1 a = I a) → MP I (rd s m n τ).2 Q (iN (rd s m n τ).1) → GI G Y_X8_read 29 [(0, .ref 58), (1, .int (iN s)), (2, .int (iN n)), (3, .int (iN 1))] I1 Q := by
        intro m
        induction m with
        | zero =>
          intro n hn τ I1 ok1 hM1 hf1 hs1 e0 hq
          have hh := hM1.2.2.2.2.2.2.1 s (by omega) hf1
          refine v_X8_read_29 ⟨fun w => absurd w (by decide), fun _ => ⟨(vp_iN (by omega)).mpr ⟨by omega, by omega⟩, ?_⟩⟩
          rw [show nn (iN (s : Int)) = s from nn_nat (by omega), hh.1, l2, iN_mul, iN_add, iN_lt (by omega) (by omega)]
          exact ⟨fun _ => hq I1 e0 hM1, fun w => absurd (by omega) w⟩
        | succ m ih =>
          intro n hn τ I1 ok1 hM1 hf1 hs1 e0 hq
          have hh := hM1.2.2.2.2.2.2.1 s (by omega) hf1
          refine v_X8_read_29 ⟨fun w => absurd w (by decide), fun _ => ⟨(vp_iN (by omega)).mpr ⟨by omega, by omega⟩, ?_⟩⟩
          rw [show nn (iN (s : Int)) = s from nn_nat (by omega), hh.1, l2, l1, l60, iN_mul, iN_mul, iN_add, iN_add, iN_add, iN_lt (by omega) (by omega)]
          have stop : ¬ (2 * n + 2 ≤ sSz τ s ∧ okSn (sIt τ s (2 * n)) (sIt τ s (2 * n + 1)) = true ∧ sK τ ≠ 8) → ∀ I2, (∀ a, a < 58 → I2 a = I a) → RM I2 τ → Q I2 (iN n) := by
            intro c I2 e2 hM2
            have hq := hq
            unfold rd at hq
            rw [if_neg c] at hq
            exact hq I2 e2 hM2
          refine ⟨fun c2 => stop (by omega) I1 e0 hM1, fun c2 => ⟨(vp_iN (by omega)).mpr ⟨by omega, by omega⟩, (vp_iN (by omega)).mpr ⟨by omega, by omega⟩, ?_⟩⟩
          rw [show nn (iN (60 * (s : Int) + 2 * n)) = 60 * s + 2 * n by rw [nn, nn_iN (by omega) (by omega)]; omega, show nn (iN (60 * (s : Int) + 2 * n + 1)) = 60 * s + (2 * n + 1) by rw [nn, nn_iN (by omega) (by omega)]; omega, hh.2 (2 * n) (by omega), hh.2 (2 * n + 1) (by omega)]
          have hk8 := ok1.2.2.2.1
          refine M_seen ok1 hM1 (fun I2 e2 hM2 => ?_)
          unfold an_seen
          unfold nx_seen at hM2
          have e2' : ∀ a, a < 58 → I2 a = I a := fun a ha => (e2 a ha).trans (e0 a ha)
          have halt : ¬ (2 * n + 2 ≤ sSz τ s ∧ okSn (sIt τ s (2 * n)) (sIt τ s (2 * n + 1)) = true ∧ sK τ ≠ 8) → RM I2 τ → GI G Y_X8_read 29 [(0, .ref 58), (1, .int (iN s)), (2, .int (iN n + (0 : Int32))), (3, .int (0 : Int32))] I2 Q := by
            intro c hMt
            refine v_X8_read_29 ⟨fun _ => ?_, fun w => absurd rfl w⟩
            rw [l0, iN_add, Int.add_zero]
            exact stop c I2 e2' hMt
          cases cs : okSn (sIt τ s (2 * n)) (sIt τ s (2 * n + 1)) with
          | false =>
            rw [cs] at hM2 halt
            rw [if_neg (by decide)]
            exact ⟨fun _ => halt (by simp) hM2, fun w => absurd (by decide) w⟩
          | true =>
            rw [cs] at hM2 halt
            by_cases ck : sK τ = 8
            · rw [if_pos rfl, if_pos ck]
              simp only [ck, ne_eq, not_true_eq_false, decide_false, Bool.and_false] at hM2
              exact ⟨fun _ => halt (fun w => w.2.2 ck) hM2, fun w => absurd (by decide) w⟩
            · rw [if_pos rfl, if_neg ck, l0, iN_lt (by omega) (by omega)]
              simp only [ne_eq, ck, not_false_eq_true, decide_true, Bool.and_self, if_true] at hM2
              refine ⟨fun w => absurd w (by omega), fun _ => ?_⟩
              unfold rd at hq
              rw [if_pos ⟨by omega, cs, ck⟩] at hq
              rw [iN_add]
              exact ih (n + 1) (by omega) _ I2 (okS0_add ok1 cs ck) hM2 hf1 hs1 e2' hq
      exact loop 31 0 (by omega) σ I h0 hM hf rfl (fun _ _ => rfl) h
    · have he : sFm σ s = -1 := by omega
      have h' : MP I (upLa σ 1) Q (iN (-11)) := by simpa [he] using h
      exact s_met (k := 1) hM h'
/-- find, and the row as it stands -/
def mF2 (I : HP) (σ : SG) : Prop := mF I σ ∧ ∀ i, i < z0 σ → I 68 i = iN i
theorem s_find2 {Q : HP → Prop} (h0 : okS0 σ) (hM : RM I σ) (h : ∀ I', frm scC scS I I' → RM I' σ → mF2 I' σ → Q I') : RV G Y_X8_find [.ref 58] I Q := by
  have hz := z0_le h0
  refine v_X8_find (s_readsText (t := 0) hM.1 (fun I1 f1 a1 b1 c1 d1 => ?_))
  have f1' : frm scC scS I I1 := frm_mo f1 (by decide) (by decide)
  have hM1 := RM_sc hM f1'
  refine s_readsText (t := 1) hM1.2.1 (fun I2 f2 a2 b2 c2 d2 => ?_)
  have f2' : frm scC scS I I2 := frm_tr f1' (frm_mo f2 (by decide) (by decide))
  have t0 : tOK I2 0 (sF σ 0) (sN σ 0) := by
    intro v hv
    have hvz : v < 12 := by have : z0 σ = szT (sF σ 0) (sN σ 0) := rfl; omega
    obtain ⟨t1, t2⟩ := c1 v hv
    refine ⟨fun k hk => ?_, ?_⟩
    · rw [d2 _ (Or.inl (by unfold tp; omega))]; exact t1 k hk
    · rw [d2 _ (Or.inl (by unfold tp; omega))]; exact t2
  have e65 : I2 65 0 = iN (z0 σ) := by rw [b2 0 (by decide)]; exact a1
  refine s_plain h0 e65 t0 (fun I3 f3 r3 w3 => ?_)
  have f3' : frm scC scS I I3 := frm_tr f2' (frm_mo f3 (by decide) (by decide))
  have hM3 := RM_sc hM f3'
  rw [hM3.2.2.1 0 (by decide), hM3.2.2.1 4 (by decide), hM3.2.2.1 3 (by decide)]
  refine s_says r3 (okVT _ _) h0.2.1 (hM3.2.2.1 1 (by decide)) (hM3.2.2.1 2 (by decide)) (fun I4 f4 s4 => ?_)
  have f4' : frm scC scS I I4 := frm_tr f3' (frm_mo f4 (by decide) (by decide))
  have g65 : I4 65 = I2 65 := by rw [f4.1 65 (by decide) (by decide), f3.1 65 (by decide) (by decide)]
  have g66 : I4 66 = I2 66 := by rw [f4.1 66 (by decide) (by decide), f3.1 66 (by decide) (by decide)]
  refine h I4 f4' (RM_sc hM f4') ⟨⟨by rw [g65]; exact e65, by rw [g65]; exact a2, fun v hv => by rw [g66]; exact t0 v hv, fun v hv => by rw [g66]; exact c2 v hv, rowOK_fr r3 (f4.2 11 (by decide)) (f4.1 68 (by decide) (by decide)) (f4.1 66 (by decide) (by decide)), s4⟩, fun i hi => by rw [f4.1 68 (by decide) (by decide)]; exact w3 i hi⟩
theorem needed_s (R : Nat → Int) (vs : Nat → Nat → Int) (p : Nat) : tl R vs (p + 1) 9 = tl R vs p 9 + tl R vs (p + 1) 1 := by
  rfl
theorem M_count {Q : HP → Int32 → Prop} {a : Int32} (h0 : okS0 σ) (hM : RM I σ) (h : ∀ I', frm scC scS I I' → RM I' σ → mF2 I' σ → Q I' (an_count σ a)) : RI G Y_X8_count [.ref 58, .int a] I Q := by
  refine v_X8_count (s_find2 h0 hM (fun I1 f1 hM1 hF2 => ?_))
  have hh := h I1 f1 hM1 hF2
  have hF := hF2.1
  unfold an_count at hh
  have hz := z0_le h0
  have hr := hF.2.2.2.2.1
  have hS := hF.2.2.2.2.2
  have one : ∀ k : Nat, k ≤ 8 → a = iN k → Q I1 (iN (cnt σ k)) := by
    intro k hk ea
    have e2 : a.toInt = k := by rw [ea, iN_toInt (by omega) (by omega)]
    have e1 : okA a 8 = true := decide_eq_true (by omega)
    have e3 : tn a = k := by unfold tn; omega
    rw [e1, e3] at hh
    exact hh
  refine ⟨fun e => ?_, fun e => ?_, fun e => ?_, fun e => ?_, fun e => ?_, fun e => ?_, fun e => ?_, fun e => ?_, fun e => ?_, fun e => ?_⟩
  · subst e
    refine ⟨vp_in_iff.mpr (by decide), ?_⟩
    rw [show nn (0 : Int32) = 0 from rfl, hF.1]
    exact one 0 (by decide) rfl
  · subst e
    refine ⟨vp_in_iff.mpr (by decide), ?_⟩
    rw [show nn (1 : Int32) = 1 from rfl, hF.2.1]
    exact one 1 (by decide) rfl
  · subst e
    refine ⟨vp_in_iff.mpr (by decide), ?_⟩
    rw [show nn ((2 : Int32) - 2) = 0 from rfl, hM1.1.2.2.1]
    exact one 2 (by decide) rfl
  · subst e
    refine ⟨vp_in_iff.mpr (by decide), ?_⟩
    rw [show nn ((3 : Int32) - 2) = 1 from rfl, hM1.2.1.2.2.1]
    exact one 3 (by decide) rfl
  · rw [hM1.2.2.2.1]
    exact one 4 (by decide) e
  · have loop : ∀ m i : Nat, i + m = z0 σ → GI G Y_X8_count 79 [(0, .ref 58), (2, .int (iN (tσ σ i 9))), (3, .int (iN i))] I1 Q := by
      intro m
      induction m with
      | zero =>
        intro i hi
        refine v_X8_count_79 ⟨fun _ => ?_, fun w => absurd (by rw [hr.1, iN_le (by omega) (by omega)]; omega) w⟩
        rw [show i = z0 σ by omega]
        exact one 5 (by decide) e
      | succ m ih =>
        intro i hi
        refine v_X8_count_79 ⟨fun w => absurd w (by rw [hr.1, iN_le (by omega) (by omega)]; omega), fun _ => ⟨(vp_iN (by omega)).mpr ⟨by omega, by omega⟩, ?_⟩⟩
        rw [show nn (iN (i : Int)) = i from nn_nat (by omega), (hS.1 i (by omega)).1, l1, iN_add, iN_add]
        have := ih (i + 1) (by omega)
        unfold tσ at this ⊢
        rw [needed_s] at this
        exact this
    exact loop (z0 σ) 0 (by omega)
  · rw [hM1.2.2.1 0 (by decide)]
    exact one 6 (by decide) e
  · have hF5 := h0.2.2.1
    obtain ⟨F, eF⟩ : ∃ F : Nat, sR σ 5 = F := ⟨(sR σ 5).toNat, by omega⟩
    have loop : ∀ m i : Nat, i + m = z0 σ → GI G Y_X8_count 113 [(0, .ref 58), (2, .int (iN (bits F i))), (3, .int (iN i))] I1 Q := by
      intro m
      induction m with
      | zero =>
        intro i hi
        refine v_X8_count_113 ⟨fun _ => ?_, fun w => absurd (by rw [hF.1, iN_le (by omega) (by omega)]; omega) w⟩
        have o := one 7 (by decide) e
        rw [show cnt σ 7 = bits (sR σ 5).toNat (z0 σ) from rfl, eF, Int.toNat_natCast] at o
        rw [show i = z0 σ by omega]
        exact o
      | succ m ih =>
        intro i hi
        refine v_X8_count_113 ⟨fun w => absurd w (by rw [hF.1, iN_le (by omega) (by omega)]; omega), fun _ z2 e2 => ?_⟩
        rw [hM1.2.2.1 5 (by decide), eF, bit12 (by omega) (by omega), iN_add] at e2
        rw [e2, l1, iN_add]
        exact ih (i + 1) (by omega)
    exact loop (z0 σ) 0 (by omega)
  · rw [hM1.2.2.2.2.2.2.2]
    exact one 8 (by decide) e
  · have no : okA a 8 = false := by
      rcases okA_cases a 8 with q | ⟨k, hk, ea, -, -⟩
      · exact q
      · exact absurd (by rw [nI_iN]; exact ea) (e k (by omega))
    rw [no] at hh
    exact hh
end MSh2
