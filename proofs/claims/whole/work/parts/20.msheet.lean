/-! ===== calls of the reference: SEEN, SHEETS ===== -/
def upSh (σ : SG) (fm : Nat → Int) (sz : Nat → Nat) (it : Nat → Nat → Int32) (la : Int) : SG := (σ.1, σ.2.1, σ.2.2.1, σ.2.2.2.1, σ.2.2.2.2.1, σ.2.2.2.2.2.1, fm, sz, it, la)
def upSe (σ : SG) (k : Nat) (sb sv : Nat → Int) : SG := (σ.1, σ.2.1, σ.2.2.1, k, sb, sv, σ.2.2.2.2.2.2)
def upLa (σ : SG) (k : Int) : SG := upSh σ (sFm σ) (sSz σ) (sIt σ) k
def okSn (a b : Int32) : Bool := okA a 299 && decide (-1 ≤ b.toInt ∧ b.toInt ≤ 11)
def an_seen (σ : SG) (a b : Int32) : Int32 := if okSn a b then (if sK σ = 8 then iN (-4) else iN (sK σ + 1 : Nat)) else iN (-2)
def addSn (σ : SG) (a b : Int32) : SG := upSe σ (sK σ + 1) (fun k => if k = sK σ then a.toInt else sB σ k) (fun k => if k = sK σ then b.toInt else sV σ k)
def nx_seen (σ : SG) (a b : Int32) : SG := if okSn a b && decide (sK σ ≠ 8) then addSn σ a b else σ
def an_forget (σ : SG) : Int32 := iN (sK σ)
def nx_forget (σ : SG) : SG := upSe σ 0 (sB σ) (sV σ)
def an_sheet (σ : SG) (a b c : Int32) : Int32 := if okA a 3 && okA b 2 && decide (c.toInt ≤ 60) then (if c.toInt < 0 then iN (-15) else c) else iN (-2)
def nx_sheet (σ : SG) (a b c : Int32) : SG := if okA a 3 && okA b 2 && decide (c.toInt ≤ 60) then (if c.toInt < 0 then upLa σ 5 else upSh σ (fun s => if s = tn a then b.toInt else sFm σ s) (fun s => if s = tn a then c.toInt.toNat else sSz σ s) (fun s => if s = tn a then (fun _ => 0) else sIt σ s) (sLa σ)) else σ
def an_lose (σ : SG) (a : Int32) : Int32 := if okA a 3 then (if sFm σ (tn a) = -1 then iN (-11) else iN (sSz σ (tn a))) else iN (-2)
def nx_lose (σ : SG) (a : Int32) : SG := if okA a 3 then (if sFm σ (tn a) = -1 then upLa σ 1 else upSh σ (fun s => if s = tn a then -1 else sFm σ s) (sSz σ) (sIt σ) (sLa σ)) else σ
/-- the FINDING at an item -/
def lk (σ : SG) (s : Nat) (b c : Int32) : Int := if sFm σ s = -1 then 1 else if sFm σ s ≠ b.toInt then 3 else if 0 ≤ c.toInt ∧ c.toInt < sSz σ s then 0 else 2
def cutI (form : Int) (v : Int32) : Int32 := if form = 0 then v.toInt8.toInt32 else if form = 1 then v.toInt16.toInt32 else v
def an_lay (σ : SG) (a b c v : Int32) : Int32 := if okA a 3 && okA b 2 then (if lk σ (tn a) b c = 0 then iN 1 else iN (-10 - lk σ (tn a) b c)) else iN (-2)
def setIt (σ : SG) (s i : Nat) (v : Int32) : SG := upSh σ (sFm σ) (sSz σ) (fun u => if u = s then upd (sIt σ u) i v else sIt σ u) (sLa σ)
def nx_lay (σ : SG) (a b c v : Int32) : SG := if okA a 3 && okA b 2 then (if lk σ (tn a) b c = 0 then setIt σ (tn a) (tn c) (cutI b.toInt v) else upLa σ (lk σ (tn a) b c)) else σ
def an_get (σ : SG) (a b c : Int32) : Int32 := if okA a 3 && okA b 2 then (if lk σ (tn a) b c = 0 then sIt σ (tn a) (tn c) else iN (-2147483648)) else iN (-2147483648)
def nx_get (σ : SG) (a b c : Int32) : SG := if okA a 3 && okA b 2 then (if lk σ (tn a) b c = 0 then σ else upLa σ (lk σ (tn a) b c)) else σ
section MSh
variable {G : CX} {I : HP} {σ : SG}
theorem RM_sh {I' : HP} {fm : Nat → Int} {sz : Nat → Nat} {it : Nat → Nat → Int32} {la : Int} (h : RM I σ) (e : ∀ a, a = 63 ∨ a = 64 ∨ a = 67 ∨ a = 78 → I' a = I a) (e28 : I' 58 28 = I 58 28) (h6 : ∀ s, s < 4 → I' 59 s = iN (fm s)) (h7 : ∀ s, s < 4 → fm s ≠ -1 → I' 60 s = iN (sz s) ∧ ∀ i, i < sz s → I' 61 (60 * s + i) = it s i) (h8 : I' 58 4 = iN la) : RM I' (upSh σ fm sz it la) := by
  obtain ⟨h1, h2, h3, h4, h5, -, -, -⟩ := h
  refine ⟨isM_fr h1 (e 64 (by simp)) (e 63 (by simp)), isM_fr h2 (e 64 (by simp)) (e 63 (by simp)), ?_, ?_, ?_, h6, h7, h8⟩
  · rw [e 67 (by simp)]; exact h3
  · rw [e28]; exact h4
  · rw [e 78 (by simp)]; exact h5
theorem s_met {Q : HP → Int32 → Prop} {k : Int} (hM : RM I σ) (h : MP I (upLa σ k) Q (iN (-10 - k))) : RI G Y_X8_met [.ref 58, .int (iN k)] I Q := by
  refine v_X8_met ?_
  rw [show (-10 : Int32) = iN (-10) from rfl, iN_sub]
  obtain ⟨-, -, -, -, -, h6, h7, -⟩ := id hM
  refine h _ (fun a ha => st_ne1 (by omega)) (RM_sh hM (fun a ha => st_ne1 (by omega)) (st_ne2 (by decide)) (fun s hs => ?_) (fun s hs hf => ?_) (st_self _ _ _ _))
  · rw [st_ne1 (by decide)]; exact h6 s hs
  · rw [st_ne1 (by decide), st_ne1 (by decide)]; exact h7 s hs hf
theorem M_seen {Q : HP → Int32 → Prop} {a b : Int32} (h0 : okS0 σ) (hM : RM I σ) (h : MP I (nx_seen σ a b) Q (an_seen σ a b)) : RI G Y_X8_seen [.ref 58, .int a, .int b] I Q := by
  refine v_X8_seen (s_in3 0 299 (by decide) (by decide) ?_)
  rw [bI_0]
  unfold an_seen nx_seen okSn okA at h
  have hk8 := h0.2.2.2.1
  cases ca : decide (0 ≤ a.toInt ∧ a.toInt ≤ 299) with
  | false =>
    rw [ca] at h
    exact ⟨fun _ => h I (fun _ _ => rfl) hM, fun q => absurd rfl q⟩
  | true =>
    rw [ca] at h
    refine ⟨fun q => absurd q (by decide), fun _ => s_in3 (-1) 11 (by decide) (by decide) ?_⟩
    rw [bI_0]
    cases cb : decide (-1 ≤ b.toInt ∧ b.toInt ≤ 11) with
    | false =>
      rw [cb] at h
      exact ⟨fun q => absurd rfl q, fun _ => h I (fun _ _ => rfl) hM⟩
    | true =>
      rw [cb] at h
      refine ⟨fun _ => ?_, fun q => absurd q (by decide)⟩
      obtain ⟨h1, h2, h3, h4, h5, h6, h7, h8⟩ := id hM
      rw [h4, l8, iN_eq (by omega) (by omega)]
      refine ⟨fun c => ?_, fun c => ?_⟩
      · have hne : sK σ ≠ 8 := by omega
        have h' : MP I (addSn σ a b) Q (iN (sK σ + 1 : Nat)) := by simpa [hne] using h
        rw [l2, iN_mul]
        refine ⟨(vp_iN (by omega)).mpr ⟨by omega, by omega⟩, ?_⟩
        rw [show nn (iN (2 * (sK σ : Int))) = 2 * sK σ by rw [nn, nn_iN (by omega) (by omega)]; omega, st_ne1 (by decide), h4, l1, iN_mul, iN_add]
        refine ⟨(vp_iN (by omega)).mpr ⟨by omega, by omega⟩, fun I10 e10 => ?_⟩
        rw [show nn (iN (2 * (sK σ : Int) + 1)) = 2 * sK σ + 1 by rw [nn, nn_iN (by omega) (by omega)]; omega] at e10
        have e28 : I10 58 28 = iN (sK σ) := by rw [e10, st_ne1 (by decide), st_ne1 (by decide)]; exact h4
        rw [st_self, e28, iN_add]
        refine h' _ (fun a ha => by rw [st_ne1 (by omega), e10, st_ne1 (by omega), st_ne1 (by omega)]) ⟨?_, ?_, ?_, ?_, ?_, ?_, ?_, ?_⟩
        · exact isM_fr h1 (by rw [st_ne1 (by decide), e10, st_ne1 (by decide), st_ne1 (by decide)]) (by rw [st_ne1 (by decide), e10, st_ne1 (by decide), st_ne1 (by decide)])
        · exact isM_fr h2 (by rw [st_ne1 (by decide), e10, st_ne1 (by decide), st_ne1 (by decide)]) (by rw [st_ne1 (by decide), e10, st_ne1 (by decide), st_ne1 (by decide)])
        · intro r hr; rw [st_ne1 (by decide), e10, st_ne1 (by decide), st_ne1 (by decide)]; exact h3 r hr
        · rw [st_self]; rfl
        · intro k hk
          have hk : k < sK σ + 1 := hk
          show st I10 58 28 _ 78 (2 * k) = iN (if k = sK σ then a.toInt else sB σ k) ∧ st I10 58 28 _ 78 (2 * k + 1) = iN (if k = sK σ then b.toInt else sV σ k)
          rw [st_ne1 (by decide), e10]
          by_cases ek : k = sK σ
          · subst ek
            rw [if_pos rfl, if_pos rfl, st_self, st_ne2 (by omega), st_self]
            exact ⟨iN_of a, iN_of b⟩
          · rw [if_neg ek, if_neg ek, st_ne2 (by omega), st_ne2 (by omega), st_ne2 (by omega), st_ne2 (by omega)]
            exact h5 k (by omega)
        · intro s hs; rw [st_ne1 (by decide), e10, st_ne1 (by decide), st_ne1 (by decide)]; exact h6 s hs
        · intro s hs hf; rw [st_ne1 (by decide), e10, st_ne1 (by decide), st_ne1 (by decide), st_ne1 (by decide), st_ne1 (by decide), st_ne1 (by decide)]; exact h7 s hs hf
        · rw [st_ne2 (by decide), e10, st_ne1 (by decide), st_ne1 (by decide)]; exact h8
      · have he : sK σ = 8 := by omega
        have h' : MP I σ Q (iN (-4)) := by simpa [he] using h
        exact h' I (fun _ _ => rfl) hM
theorem M_forget {Q : HP → Int32 → Prop} (h0 : okS0 σ) (hM : RM I σ) (h : MP I (nx_forget σ) Q (an_forget σ)) : RI G Y_X8_forget [.ref 58] I Q := by
  obtain ⟨h1, h2, h3, h4, h5, h6, h7, h8⟩ := id hM
  refine v_X8_forget ?_
  rw [h4]
  refine h _ (fun a ha => st_ne1 (by omega)) ⟨isM_fr h1 (st_ne1 (by decide)) (st_ne1 (by decide)), isM_fr h2 (st_ne1 (by decide)) (st_ne1 (by decide)), ?_, st_self _ _ _ _, fun k hk => absurd hk (Nat.not_lt_zero _), ?_, ?_, ?_⟩
  · intro r hr; rw [st_ne1 (by decide)]; exact h3 r hr
  · intro s hs; rw [st_ne1 (by decide)]; exact h6 s hs
  · intro s hs hf; rw [st_ne1 (by decide), st_ne1 (by decide)]; exact h7 s hs hf
  · rw [st_ne2 (by decide)]; exact h8
theorem fm_bd (h0 : okS0 σ) {s : Nat} (hs : s < 4) : -1 ≤ sFm σ s ∧ sFm σ s ≤ 2 := h0.2.2.2.2.2.1 s hs
theorem M_lose {Q : HP → Int32 → Prop} {a : Int32} (h0 : okS0 σ) (hM : RM I σ) (h : MP I (nx_lose σ a) Q (an_lose σ a)) : RI G Y_X8_lose [.ref 58, .int a] I Q := by
  refine v_X8_lose (s_isSheet8 ?_)
  rw [bI_0]
  unfold an_lose nx_lose at h
  rcases okA_cases a 3 with c | ⟨t, ht, ea, htn, hok⟩
  · rw [c] at h
    exact ⟨fun q => absurd c q, fun _ => h I (fun _ _ => rfl) hM⟩
  · rw [hok, htn] at h
    refine ⟨fun _ => ?_, fun q => absurd (hok.symm.trans q) (by decide)⟩
    subst ea
    obtain ⟨-, -, -, -, -, h6, h7, h8⟩ := id hM
    have hb := fm_bd h0 (show t < 4 by omega)
    refine ⟨(vp_iN (by omega)).mpr ⟨by omega, by omega⟩, ?_⟩
    rw [show nn (iN (t : Int)) = t from nn_nat (by omega), h6 t (by omega), l0, iN_le (by omega) (by omega)]
    refine ⟨fun c => ?_, fun c => ?_⟩
    · have hne : sFm σ t ≠ -1 := by omega
      rw [if_neg hne] at h
      rw [st_ne1 (by decide), (h7 t (by omega) hne).1]
      simp only [if_true, if_neg hne] at h
      refine h _ (fun a ha => st_ne1 (by omega)) (RM_sh hM (fun a ha => st_ne1 (by omega)) (by rw [st_ne1 (by decide)]) (fun s hs => ?_) (fun s hs hf => ?_) (by rw [st_ne1 (by decide)]; exact h8))
      · by_cases e : s = t
        · subst e; rw [st_self, if_pos rfl]; rfl
        · rw [st_ne2 e, if_neg e]; exact h6 s hs
      · by_cases e : s = t
        · subst e; rw [if_pos rfl] at hf; exact absurd rfl hf
        · rw [if_neg e] at hf
          rw [st_ne1 (by decide), st_ne1 (by decide)]; exact h7 s hs hf
    · have he : sFm σ t = -1 := by omega
      have h' : MP I (upLa σ 1) Q (iN (-11)) := by simpa [he] using h
      exact s_met (k := 1) hM h'
theorem s_lacks {Q : HP → Int32 → Prop} {t : Nat} {b c : Int32} (h0 : okS0 σ) (hM : RM I σ) (ht : t < 4) (h1 : lk σ t b c = 0 → Q I (iN 0)) (h2 : lk σ t b c ≠ 0 → MP I (upLa σ (lk σ t b c)) Q (iN (-10 - lk σ t b c))) : RI G Y_X8_lacks [.ref 58, .int (iN t), .int b, .int c] I Q := by
  obtain ⟨-, -, -, -, -, h6, h7, h8⟩ := id hM
  have hb := fm_bd h0 ht
  have hsz := h0.2.2.2.2.2.2.1 t ht
  refine v_X8_lacks ⟨(vp_iN (by omega)).mpr ⟨by omega, by omega⟩, ?_⟩
  rw [show nn (iN (t : Int)) = t from nn_nat (by omega), h6 t ht, l0, iN_le (by omega) (by omega)]
  have met : ∀ k : Int, k ≠ 0 → lk σ t b c = k → MP I (upLa σ k) Q (iN (-10 - k)) := fun k hk e => by rw [e] at h2; exact h2 hk
  refine ⟨fun c1 => ⟨fun c2 => ?_, fun c2 => ?_⟩, fun c1 => ?_⟩
  · have hne : sFm σ t ≠ -1 := by omega
    have eb : b.toInt = sFm σ t := by rw [← c2, iN_toInt (by omega) (by omega)]
    have hsz := hsz hne
    rw [(h7 t ht hne).1, l1, iN_sub]
    refine s_in3 0 ((sSz σ t : Int) - 1) (by decide) (by rw [Int32.toInt_toInt64, iN_toInt (by omega) (by omega)]) ?_
    rw [← l0, bI_0]
    refine ⟨fun q => ?_, fun q => ?_⟩
    · have q' : ¬ (0 ≤ c.toInt ∧ c.toInt ≤ (sSz σ t : Int) - 1) := by simpa using q
      exact s_met (k := 2) hM (met 2 (by decide) (by unfold lk; rw [if_neg hne, if_neg (by omega), if_neg (by omega)]))
    · have q' : 0 ≤ c.toInt ∧ c.toInt ≤ (sSz σ t : Int) - 1 := by simpa using q
      exact h1 (by unfold lk; rw [if_neg hne, if_neg (by omega), if_pos (by omega)])
  · have hne : sFm σ t ≠ -1 := by omega
    have eb : sFm σ t ≠ b.toInt := by
      intro e
      apply c2
      rw [e]; exact (iN_of b).symm
    exact s_met (k := 3) hM (met 3 (by decide) (by unfold lk; rw [if_neg hne, if_pos eb]))
  · exact s_met (k := 1) hM (met 1 (by decide) (by unfold lk; rw [if_pos (by omega)]))
theorem s_cut {Q : HP → Int32 → Prop} {k : Int} {v : Int32} (hk : 0 ≤ k ∧ k ≤ 2) (h : Q I (cutI k v)) : RI G Y_X8_cut [.int (iN k), .int v] I Q := by
  refine v_X8_cut ?_
  rw [l0, l1, iN_eq (by omega) (by omega), iN_eq (by omega) (by omega)]
  unfold cutI at h
  refine ⟨fun c => ⟨fun c2 => ?_, fun c2 => ?_⟩, fun c => ?_⟩
  · rw [if_neg c, if_neg c2] at h; exact h
  · rw [if_neg c, if_pos c2] at h; exact h
  · rw [if_pos c] at h; exact h
/-- an item is laid -/
theorem RM_it {t i : Nat} {v : Int32} (h0 : okS0 σ) (hM : RM I σ) (ht : t < 4) (hi : i < 60) : RM (st I 61 (60 * t + i) v) (setIt σ t i v) := by
  obtain ⟨-, -, -, -, -, h6, h7, h8⟩ := id hM
  refine RM_sh hM (fun a ha => st_ne1 (by omega)) (by rw [st_ne1 (by decide)]) (fun s hs => by rw [st_ne1 (by decide)]; exact h6 s hs) (fun s hs hf => ?_) (by rw [st_ne1 (by decide)]; exact h8)
  obtain ⟨g1, g2⟩ := h7 s hs hf
  have hsz := h0.2.2.2.2.2.2.1 s hs hf
  refine ⟨by rw [st_ne1 (by decide)]; exact g1, fun j hj => ?_⟩
  by_cases e : s = t
  · subst e
    rw [if_pos rfl]
    by_cases ej : j = i
    · subst ej; rw [st_self]; simp [upd]
    · rw [st_ne2 (by omega), g2 j hj]; simp [upd, ej]
  · rw [if_neg e, st_ne2 (by omega)]; exact g2 j hj
theorem lk_0 {s : Nat} {b c : Int32} (h : lk σ s b c = 0) : sFm σ s ≠ -1 ∧ sFm σ s = b.toInt ∧ 0 ≤ c.toInt ∧ c.toInt < sSz σ s := by
  unfold lk at h
  split at h
  · omega
  · split at h
    · omega
    · split at h
      · rename_i h1 h2 h3
        exact ⟨h1, by omega, h3.1, h3.2⟩
      · omega
theorem lk_bd (s : Nat) (b c : Int32) : 0 ≤ lk σ s b c ∧ lk σ s b c ≤ 3 := by
  unfold lk
  split
  · omega
  · split
    · omega
    · split <;> omega
theorem M_lay {Q : HP → Int32 → Prop} {a b c v : Int32} (h0 : okS0 σ) (hM : RM I σ) (h : MP I (nx_lay σ a b c v) Q (an_lay σ a b c v)) : RI G Y_X8_lay [.ref 58, .int a, .int b, .int c, .int v] I Q := by
  refine v_X8_lay (s_isSheet8 ?_)
  rw [bI_0]
  unfold an_lay nx_lay at h
  rcases okA_cases a 3 with q | ⟨t, ht, ea, htn, hok⟩
  · rw [q] at h
    exact ⟨fun _ => h I (fun _ _ => rfl) hM, fun w => absurd q w⟩
  · rw [hok, htn] at h
    refine ⟨fun q => absurd (hok.symm.trans q) (by decide), fun _ => s_in3 0 2 (by decide) (by decide) ?_⟩
    rw [bI_0]
    rcases okA_cases b 2 with q | ⟨k, hk, eb, hbn, hbk⟩
    · rw [q] at h
      exact ⟨fun w => absurd q w, fun _ => h I (fun _ _ => rfl) hM⟩
    · rw [hbk] at h
      refine ⟨fun _ => ?_, fun w => absurd (hbk.symm.trans w) (by decide)⟩
      subst ea
      have hlb := lk_bd (σ := σ) t b c
      refine s_lacks h0 hM (by omega) (fun hl => ?_) (fun hl => ?_)
      · rw [if_pos hl] at h
        simp only [Bool.and_self, if_true, if_pos hl] at h
        obtain ⟨l1', l2', l3', l4'⟩ := lk_0 hl
        have hsz := h0.2.2.2.2.2.2.1 t (by omega) l1'
        refine ⟨fun _ => ?_, fun w => absurd rfl w⟩
        have ebk : b.toInt = k := by rw [eb, iN_toInt (by omega) (by omega)]
        rw [ebk] at h
        rw [eb]
        refine s_cut (by omega) ?_
        rw [l60, iN_mul, iN_of c, iN_add]
        refine ⟨(vp_iN (by omega)).mpr ⟨by omega, by omega⟩, ?_⟩
        rw [show nn (iN (60 * (t : Int) + c.toInt)) = 60 * t + tn c by rw [nn, nn_iN (by omega) (by omega)]; unfold tn; omega]
        exact h _ (fun a ha => st_ne1 (by omega)) (RM_it h0 hM (by omega) (by unfold tn; omega))
      · rw [if_neg hl] at h
        simp only [Bool.and_self, if_true, if_neg hl] at h
        intro I7 h7 hM7
        rw [l0, iN_eq (by omega) (by omega)]
        exact ⟨fun w => absurd w (by omega), fun _ => h I7 h7 hM7⟩
theorem M_get {Q : HP → Int32 → Prop} {a b c : Int32} (h0 : okS0 σ) (hM : RM I σ) (h : MP I (nx_get σ a b c) Q (an_get σ a b c)) : RI G Y_X8_get [.ref 58, .int a, .int b, .int c] I Q := by
  refine v_X8_get (s_isSheet8 ?_)
  rw [bI_0]
  unfold an_get nx_get at h
  rcases okA_cases a 3 with q | ⟨t, ht, ea, htn, hok⟩
  · rw [q] at h
    exact ⟨fun _ => h I (fun _ _ => rfl) hM, fun w => absurd q w⟩
  · rw [hok, htn] at h
    refine ⟨fun q => absurd (hok.symm.trans q) (by decide), fun _ => s_in3 0 2 (by decide) (by decide) ?_⟩
    rw [bI_0]
    rcases okA_cases b 2 with q | ⟨k, hk, eb, hbn, hbk⟩
    · rw [q] at h
      exact ⟨fun _ => h I (fun _ _ => rfl) hM, fun w => absurd q w⟩
    · rw [hbk] at h
      refine ⟨fun w => absurd (hbk.symm.trans w) (by decide), fun _ => ?_⟩
      subst ea
      have hlb := lk_bd (σ := σ) t b c
      refine s_lacks h0 hM (by omega) (fun hl => ?_) (fun hl => ?_)
      · rw [if_pos hl] at h
        simp only [Bool.and_self, if_true, if_pos hl] at h
        obtain ⟨l1', l2', l3', l4'⟩ := lk_0 hl
        have hsz := h0.2.2.2.2.2.2.1 t (by omega) l1'
        refine ⟨fun _ => ?_, fun w => absurd rfl w⟩
        rw [l60, iN_mul, iN_of c, iN_add]
        refine ⟨(vp_iN (by omega)).mpr ⟨by omega, by omega⟩, ?_⟩
        rw [show nn (iN (60 * (t : Int) + c.toInt)) = 60 * t + tn c by rw [nn, nn_iN (by omega) (by omega)]; unfold tn; omega, (hM.2.2.2.2.2.2.1 t (by omega) l1').2 (tn c) (by unfold tn; omega)]
        exact h I (fun _ _ => rfl) hM
      · rw [if_neg hl] at h
        simp only [Bool.and_self, if_true, if_neg hl] at h
        intro I7 h7 hM7
        rw [l0, iN_eq (by omega) (by omega)]
        exact ⟨fun w => absurd w (by omega), fun _ => h I7 h7 hM7⟩
end MSh
