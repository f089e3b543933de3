/-! ===== the class tells a poem ===== -/
def tM (I : HP) (c : Nat) (a : Nat → Int) : Prop := (∀ j, j < 14 → I c j = iN (a j)) ∧ (a 4 ≠ -1 → I c 14 = iN (a 14))
theorem tM_fr {I I' : HP} {c : Nat} {a : Nat → Int} (h : tM I c a) (e : I' c = I c) : tM I' c a := by
  unfold tM
  rw [e]
  exact h
section Add
variable {G : CX} {I : HP}
theorem s_nothing {Q : HP → Prop} {c : Nat} (hc : isTur c) (h : ∀ I', frx [c] I I' → (∀ j, I' c j = if 4 ≤ j ∧ j ≤ 8 then iN (-1) else I c j) → Q I') : RV G Y_X6_comeToNothing [.ref c] I Q := by
  refine v_X6_comeToNothing hc (fun I1 e => ?_)
  subst e
  refine h _ (frx_st (frx_st (frx_st (frx_st (frx_st frx_rf (by simp)) (by simp)) (by simp)) (by simp)) (by simp)) (fun j => ?_)
  simp only [st_at, true_and]
  by_cases h8 : j = 8
  · subst h8; rfl
  · by_cases h7 : j = 7
    · subst h7; rfl
    · by_cases h6 : j = 6
      · subst h6; rfl
      · by_cases h5 : j = 5
        · subst h5; rfl
        · by_cases h4 : j = 4
          · subst h4; rfl
          · rw [if_neg h8, if_neg h7, if_neg h6, if_neg h5, if_neg h4, if_neg (by omega)]
theorem s_beStart {Q : HP → Prop} {c : Nat} {ld : Int} (hc : isTur c) (h0 : ∀ j, j < 15 → (j < 4 ∨ 9 ≤ j) → j ≠ 13 → I c j = iN 0) (h : ∀ I', frx [c] I I' → (∀ j, j < 15 → I' c j = iN (stT ld j)) → Q I') : RV G Y_X6_beStart [.ref c, .int (iN ld)] I Q := by
  refine v_X6_beStart hc (s_nothing hc (fun I1 hfr hI1 => ?_))
  refine h _ (frx_tr hfr (frx_st (frx_st frx_rf (by simp)) (by simp))) (fun j hj => ?_)
  simp only [st_at, true_and, hI1]
  by_cases e13 : j = 13
  · subst e13; rfl
  · by_cases e7 : j = 7
    · subst e7; rfl
    · rw [if_neg e13, if_neg e7]
      by_cases e : 4 ≤ j ∧ j ≤ 8
      · rw [if_pos e]
        unfold stT
        rw [if_neg e7, if_neg e13, if_pos (by omega)]
      · rw [if_neg e, h0 j hj (by omega) e13]
        unfold stT
        rw [if_neg e7, if_neg e13, if_neg (by omega)]
theorem s_follow {Q : HP → Prop} {c b : Nat} (hc : isTur c) (hb : isTur b) (hne : b ≠ c) (h : ∀ I', frx [c] I I' → (∀ j, j < 4 → I' c j = I c j) → (∀ j, 4 ≤ j → j ≤ 8 → I' c j = iN (-1)) → I' c 9 = I b 9 + I c 1 → I' c 13 = I b 13 → I' c 10 = I b 10 → I' c 11 = I b 11 → I' c 12 = I b 12 → Q I') : RV G Y_X6_follow [.ref c, .ref b] I Q := by
  refine v_X6_follow hc hb (s_nothing hc (fun I1 hfr hI1 I2 e2 => ?_))
  have hb1 : I1 b = I b := hfr b (by simpa using hne)
  subst e2
  refine h _ (frx_tr hfr (frx_st (frx_st (frx_st (frx_st (frx_st frx_rf (by simp)) (by simp)) (by simp)) (by simp)) (by simp))) (fun j hj => ?_) (fun j h1 h2 => ?_) ?_ ?_ ?_ ?_ ?_
  · simp only [st_at, true_and, hne, false_and, if_false, hb1, hI1]
    rw [if_neg (by omega), if_neg (by omega), if_neg (by omega), if_neg (by omega), if_neg (by omega), if_neg (by omega)]
  · simp only [st_at, true_and, hne, false_and, if_false, hb1, hI1]
    rw [if_neg (by omega), if_neg (by omega), if_neg (by omega), if_neg (by omega), if_neg (by omega), if_pos (by omega)]
  · simp [st_at, hne, hb1, hI1]
  · simp [st_at, hne, hb1]
  · simp [st_at, hne, hb1]
  · simp [st_at, hne, hb1]
  · simp [st_at, hne, hb1]
theorem iN_max {x : Int} (h : -2147483648 ≤ x ∧ x < 2147483648) : (if iN 0 < iN x then iN x else iN 0) = iN (if 0 < x then x else 0) := by
  by_cases c : 0 < x
  · rw [if_pos ((iN_lt (by omega) h).mpr c), if_pos c]
  · rw [if_neg (fun q => c ((iN_lt (by omega) h).mp q)), if_neg c]
set_option maxHeartbeats 1000000 in
theorem s_beSaid {Q : HP → Prop} {c : Nat} {k s kn nd ap co fr : Int} (hc : isTur c) (h0 : I c 0 = iN k) (h2 : I c 2 = iN s) (h3 : I c 3 = iN kn) (h9 : I c 9 = iN nd) (h10 : I c 10 = iN ap) (h13 : I c 13 = iN co) (hk : 0 ≤ k ∧ k ≤ 3) (hb : 0 ≤ nd ∧ nd ≤ 100000 ∧ 0 ≤ co ∧ co ≤ 100000)
    (h : ∀ I', frx [c] I I' → (∀ j, j < 4 ∨ j = 7 ∨ j = 9 ∨ j = 11 ∨ j = 12 → I' c j = I c j) → I' c 4 = iN (fr + pzT nd co) → I' c 5 = iN (fr + pzT nd co + s) → I' c 6 = iN (fr + pzT nd co + s + kn) → I' c 8 = iN (pzT nd co) → I' c 10 = iN (ap + pzT nd co) → I' c 13 = iN (co + pzT nd co + (if k = 2 then s else 0) + kn) → I' c 14 = iN (co + pzT nd co - nd) → Q I') : RV G Y_X6_beSaid [.ref c, .int (iN fr)] I Q := by
  refine v_X6_beSaid hc (fun I1 e1 I2 e2 => ?_)
  rw [h9, h13, iN_sub, l0, iN_max (by omega)] at e1
  have hpz : pzT nd co = (if 0 < nd - co then nd - co else 0) := rfl
  rw [← hpz] at e1
  generalize pzT nd co = pz at e1 h
  have f1 : frx [c] I I1 := by rw [e1]; exact frx_st (frx_st frx_rf (by simp)) (by simp)
  have g1 : ∀ j, I1 c j = if j = 10 then iN (ap + pz) else if j = 8 then iN pz else I c j := by
    intro j
    rw [e1]
    simp only [st_at, true_and]
    simp [h10, iN_add]
  clear e1
  have f2 : frx [c] I I2 := by rw [e2]; exact frx_st (frx_st (frx_st f1 (by simp)) (by simp)) (by simp)
  have g2 : ∀ j, I2 c j = if j = 14 then iN (co + pz - nd) else if j = 13 then iN (co + pz) else if j = 4 then iN (fr + pz) else if j = 10 then iN (ap + pz) else if j = 8 then iN pz else I c j := by
    intro j
    rw [e2]
    simp only [st_at, true_and]
    simp [g1, iN_add, iN_sub, h13, h9]
  clear e2 g1 f1
  have g3 : ∀ j, (st I2 c 5 ((I2 c 4) + (I2 c 2))) c j = if j = 5 then iN (fr + pz + s) else I2 c j := by
    intro j
    simp only [st_at, true_and]
    simp [g2, h2, iN_add]
  rw [l2]
  have ek : (st I2 c 5 ((I2 c 4) + (I2 c 2))) c 0 = iN k := by rw [g3]; simp [g2, h0]
  rw [ek, iN_eq (by omega) (by omega)]
  refine ⟨fun cc I4 e4 => ?_, fun cc I5 e5 I6 e6 => ?_⟩
  · have g4 : ∀ j, I4 c j = if j = 6 then iN (fr + pz + s + kn) else if j = 5 then iN (fr + pz + s) else I2 c j := by
      intro j
      rw [e4]
      simp only [st_at, true_and]
      simp [g2, h2, h3, iN_add]
    have f4 : frx [c] I I4 := by rw [e4]; exact frx_st (frx_st f2 (by simp)) (by simp)
    refine h _ (frx_st f4 (by simp)) (fun j hj => ?_) ?_ ?_ ?_ ?_ ?_ ?_ ?_
    · rw [st_ne2 (by omega), g4, if_neg (by omega), if_neg (by omega), g2, if_neg (by omega), if_neg (by omega), if_neg (by omega), if_neg (by omega), if_neg (by omega)]
    · rw [st_ne2 (by decide), g4]; simp [g2]
    · rw [st_ne2 (by decide), g4]; simp
    · rw [st_ne2 (by decide), g4]; simp
    · rw [st_ne2 (by decide), g4]; simp [g2]
    · rw [st_ne2 (by decide), g4]; simp [g2]
    · rw [st_self, g4, g4]; simp [g2, h3, iN_add, cc]
    · rw [st_ne2 (by decide), g4]; simp [g2]
  · have g5 : ∀ j, I5 c j = if j = 13 then iN (co + pz + s) else if j = 5 then iN (fr + pz + s) else I2 c j := by
      intro j
      rw [e5]
      simp only [st_at, true_and]
      simp [g2, h2, iN_add]
    have f5 : frx [c] I I5 := by rw [e5]; exact frx_st (frx_st f2 (by simp)) (by simp)
    have g6 : ∀ j, I6 c j = if j = 13 then iN (co + pz + s + kn) else if j = 6 then iN (fr + pz + s + kn) else if j = 5 then iN (fr + pz + s) else I2 c j := by
      intro j
      rw [e6]
      simp only [st_at, true_and]
      simp [g5, g2, h3, iN_add]
      split
      · rfl
      · split
        · rfl
        · rfl
    have f6 : frx [c] I I6 := by rw [e6]; exact frx_st (frx_st f5 (by simp)) (by simp)
    refine h _ f6 (fun j hj => ?_) ?_ ?_ ?_ ?_ ?_ ?_ ?_
    · rw [g6, if_neg (by omega), if_neg (by omega), if_neg (by omega), g2, if_neg (by omega), if_neg (by omega), if_neg (by omega), if_neg (by omega), if_neg (by omega)]
    · rw [g6]; simp [g2]
    · rw [g6]; simp
    · rw [g6]; simp
    · rw [g6]; simp [g2]
    · rw [g6]; simp [g2]
    · rw [g6]; simp [cc]
    · rw [g6]; simp [g2]
def cg0 (wear pu w : Int) : Bool := decide (0 < pu ∧ wear < pu + w)
def ok0 (wear pens pu pt w : Int) : Bool := decide (cg0 wear pu w = false ∨ pt < pens)
set_option maxHeartbeats 2000000 in
theorem s_beWritten {Q : HP → Prop} {c : Nat} {k s un co pu pt wear chg pens : Int} (hc : isTur c) (h0 : I c 0 = iN k) (h2 : I c 2 = iN s) (h6 : I c 6 = iN un) (h11 : I c 11 = iN pu) (h12 : I c 12 = iN pt) (h13 : I c 13 = iN co) (hk : 0 ≤ k ∧ k ≤ 3) (hb : 0 ≤ s ∧ s ≤ 1000 ∧ 0 ≤ pu ∧ pu ≤ 1000 ∧ 0 ≤ pt ∧ pt ≤ 1000 ∧ 0 ≤ wear ∧ wear ≤ 1000 ∧ 0 ≤ pens ∧ pens ≤ 1000)
    (h : ∀ I', frx [c] I I' → (∀ j, j ≠ 7 → j ≠ 11 → j ≠ 12 → j ≠ 13 → I' c j = I c j) → (I' c 7 = if ok0 wear pens pu pt (wrT k s) = true then iN (un + (if cg0 wear pu (wrT k s) = true then chg else 0) + wrT k s) else I c 7) → (I' c 11 = if ok0 wear pens pu pt (wrT k s) = true then iN (if cg0 wear pu (wrT k s) = true then wrT k s else pu + wrT k s) else I c 11) → (I' c 12 = if ok0 wear pens pu pt (wrT k s) = true then iN (if cg0 wear pu (wrT k s) = true then pt + 1 else pt) else I c 12) → (I' c 13 = if ok0 wear pens pu pt (wrT k s) = true then iN (co + ((if cg0 wear pu (wrT k s) = true then chg else 0) + wrT k s)) else I c 13) → Q I') : RV G Y_X6_beWritten [.ref c, .int (iN wear), .int (iN chg), .int (iN pens)] I Q := by
  refine v_X6_beWritten hc ?_
  have hcase : ∀ w : Int, w = wrT k s → ∀ I', frx [c] I I' → (∀ j, j ≠ 7 → j ≠ 11 → j ≠ 12 → j ≠ 13 → I' c j = I c j) → ((cg0 wear pu w = false ∧ I' c 7 = iN (un + w) ∧ I' c 11 = iN (pu + w) ∧ I' c 12 = iN pt ∧ I' c 13 = iN (co + w)) ∨ (cg0 wear pu w = true ∧ pt < pens ∧ I' c 7 = iN (un + chg + w) ∧ I' c 11 = iN w ∧ I' c 12 = iN (pt + 1) ∧ I' c 13 = iN (co + (chg + w))) ∨ (cg0 wear pu w = true ∧ ¬ pt < pens ∧ I' c = I c)) → Q I' := by
    intro w hw I' hfr ho hh
    subst hw
    refine h I' hfr ho ?_ ?_ ?_ ?_ <;> rcases hh with ⟨a1, a2, a3, a4, a5⟩ | ⟨a1, a0, a2, a3, a4, a5⟩ | ⟨a1, a0, a2⟩ <;> simp [ok0, a1, *]
  rw [h0, h2, h11, h12, l3, l2, l1, l0]
  simp only [iN_add]
  rw [iN_eq (by omega) (by omega), iN_le (by omega) (by omega), iN_le (by omega) (by omega), iN_le (by omega) (by omega), iN_lt (by omega) (by omega)]
  have ncg : ∀ w : Int, (pu ≤ 0 ∨ pu + w ≤ wear) → cg0 wear pu w = false := fun w hw => decide_eq_false (by omega)
  have ycg : ∀ w : Int, ¬ pu ≤ 0 → ¬ pu + w ≤ wear → cg0 wear pu w = true := fun w h1 h2 => decide_eq_true (by omega)
  refine ⟨fun ck => ?_, fun ck => ?_⟩
  · have hw : s = wrT k s := by unfold wrT; rw [if_neg ck]
    refine ⟨fun c1 I3 e3 => ?_, fun c1 => ⟨fun c2 I3 e3 => ?_, fun c2 => ⟨fun c3 I7 e7 I8 e8 => ?_, fun c3 => ?_⟩⟩⟩
    · refine hcase s hw I3 (by rw [e3]; exact frx_st (frx_st (frx_st frx_rf (by simp)) (by simp)) (by simp)) (fun j j7 j11 j12 j13 => by rw [e3]; simp [st_at, j7, j11, j13]) (Or.inl ⟨ncg s (Or.inl c1), ?_, ?_, ?_, ?_⟩) <;> (rw [e3]; simp [st_at, h6, h12, h13, iN_add])
    · refine hcase s hw I3 (by rw [e3]; exact frx_st (frx_st (frx_st frx_rf (by simp)) (by simp)) (by simp)) (fun j j7 j11 j12 j13 => by rw [e3]; simp [st_at, j7, j11, j13]) (Or.inl ⟨ncg s (Or.inr c2), ?_, ?_, ?_, ?_⟩) <;> (rw [e3]; simp [st_at, h6, h12, h13, iN_add])
    · have f7 : frx [c] I I7 := by rw [e7]; exact frx_st (frx_st (frx_st frx_rf (by simp)) (by simp)) (by simp)
      have g7 : ∀ j, I7 c j = if j = 11 then iN s else if j = 12 then iN (pt + 1) else I c j := by
        intro j
        rw [e7]
        simp only [st_at, true_and]
        simp [iN_add]
        split
        · rfl
        · split <;> rfl
      refine hcase s hw I8 (by rw [e8]; exact frx_st (frx_st f7 (by simp)) (by simp)) (fun j j7 j11 j12 j13 => by rw [e8]; simp [st_at, j7, j13, g7, j11, j12]) (Or.inr (Or.inl ⟨ycg s c1 c2, c3, ?_, ?_, ?_, ?_⟩)) <;> (rw [e8]; simp [st_at, g7, h6, h13, iN_add])
    · exact hcase s hw I frx_rf (fun _ _ _ _ _ => rfl) (Or.inr (Or.inr ⟨ycg s c1 c2, c3, rfl⟩))
  · have hw : s + 2 = wrT k s := by unfold wrT; rw [if_pos ck]
    refine ⟨fun c1 I3 e3 => ?_, fun c1 => ⟨fun c2 I3 e3 => ?_, fun c2 => ⟨fun c3 I7 e7 I8 e8 => ?_, fun c3 => ?_⟩⟩⟩
    · refine hcase (s + 2) hw _ (by rw [e3]; exact frx_st (frx_st (frx_st frx_rf (by simp)) (by simp)) (by simp)) (fun j j7 j11 j12 j13 => by rw [e3]; simp [st_at, j7, j11, j13]) (Or.inl ⟨ncg _ (Or.inl c1), ?_, ?_, ?_, ?_⟩) <;> (rw [e3]; simp [st_at, h6, h12, h13, iN_add])
    · refine hcase (s + 2) hw _ (by rw [e3]; exact frx_st (frx_st (frx_st frx_rf (by simp)) (by simp)) (by simp)) (fun j j7 j11 j12 j13 => by rw [e3]; simp [st_at, j7, j11, j13]) (Or.inl ⟨ncg _ (Or.inr c2), ?_, ?_, ?_, ?_⟩) <;> (rw [e3]; simp [st_at, h6, h12, h13, iN_add])
    · have f7 : frx [c] I I7 := by rw [e7]; exact frx_st (frx_st (frx_st frx_rf (by simp)) (by simp)) (by simp)
      have g7 : ∀ j, I7 c j = if j = 11 then iN (s + 2) else if j = 12 then iN (pt + 1) else I c j := by
        intro j
        rw [e7]
        simp only [st_at, true_and]
        simp [iN_add]
        split
        · rfl
        · split <;> rfl
      refine hcase (s + 2) hw I8 (by rw [e8]; exact frx_st (frx_st f7 (by simp)) (by simp)) (fun j j7 j11 j12 j13 => by rw [e8]; simp [st_at, j7, j13, g7, j11, j12]) (Or.inr (Or.inl ⟨ycg _ c1 c2, c3, ?_, ?_, ?_, ?_⟩)) <;> (rw [e8]; simp [st_at, g7, h6, h13, iN_add])
    · exact hcase (s + 2) hw I frx_rf (fun _ _ _ _ _ => rfl) (Or.inr (Or.inr ⟨ycg _ c1 c2, c3, rfl⟩))
/-- a Telling has told n verses of vs by the rules R -/
def isTl (I : HP) (T : Nat) (R : Nat → Int) (vs : Nat → Nat → Int) (n : Nat) : Prop := n ≤ teN T ∧ I T 3 = iN n ∧ (∀ r, r < 5 → I (T + 1) r = iN (R r)) ∧ (∀ j, j < 15 → I (T + 2) j = iN (tl R vs 0 j)) ∧ ∀ p, p < n → tM I (T + 4 + p) (tl R vs (p + 1))
theorem cntK_s (vs : Nat → Nat → Int) (k : Int) (p : Nat) : cntK vs k (p + 1) = cntK vs k p + (if vs p 0 = k then 1 else 0) := rfl
theorem teN_le (T : Nat) : teN T ≤ 14 := by unfold teN; split <;> decide
theorem s_howMany {Q : HP → Int32 → Prop} {T n : Nat} {R : Nat → Int} {vs : Nat → Nat → Int} {k : Int} (hT : isTel T) (hL : isTl I T R vs n) (hv : okVs vs n) (hk : 0 ≤ k ∧ k ≤ 3) (h : Q I (iN (cntK vs k n))) : RI G Y_X5_howManyOf [.ref T, .int (iN k)] I Q := by
  have hN := teN_le T
  obtain ⟨hn, h3, -, -, ht⟩ := hL
  refine v_X5_howManyOf hT ?_
  have loop : ∀ m p : Nat, p + m = n → GI G Y_X5_howManyOf 4 [(0, .ref T), (1, .int (iN k)), (2, .int (iN (cntK vs k p))), (3, .int (iN p))] I Q := by
    intro m
    induction m with
    | zero =>
      intro p hp
      refine v_X5_howManyOf_4 hT ⟨fun _ => ?_, fun c => absurd (by rw [h3, iN_le (by omega) (by omega)]; omega) c⟩
      rw [show p = n by omega]; exact h
    | succ m ih =>
      intro p hp
      have hc := cntK_le vs k p
      refine v_X5_howManyOf_4 hT ⟨fun c => absurd c (by rw [h3, iN_le (by omega) (by omega)]; omega), fun _ => ⟨(vp_iN (by omega)).mpr ⟨by omega, by omega⟩, ?_⟩⟩
      have ek : tl R vs (p + 1) 0 = vs p 0 := rfl
      have hvp := (hv p (by omega)).1
      rw [show nn (iN (p : Int)) = p from nn_nat (by omega), (ht p (by omega)).1 0 (by decide), ek, iN_eq (by omega) (by omega), l1, iN_add, iN_add]
      have := ih (p + 1) (by omega)
      refine ⟨fun c => ?_, fun c => ?_⟩
      · rw [cntK_s, if_neg c, Nat.add_zero] at this; exact this
      · rw [cntK_s, if_pos c] at this; exact this
  exact loop n 0 (by omega)
/-- the cell of the verse behind which p verses are told (the start for none) -/
def tc (T p : Nat) : Nat := if p = 0 then T + 2 else T + 3 + p
theorem tc_tur {T p : Nat} (hT : isTel T) (hp : p ≤ teN T) : isTur (tc T p) := by
  unfold tc
  split
  · exact tel_st hT
  · rw [show T + 3 + p = T + 4 + (p - 1) by omega]
    exact tel_tu hT (by omega)
theorem isTl_at {T n p : Nat} {R : Nat → Int} {vs : Nat → Nat → Int} (hL : isTl I T R vs n) (hp : p ≤ n) : tM I (tc T p) (tl R vs p) := by
  unfold tc
  split
  · rename_i e
    subst e
    exact ⟨fun j hj => hL.2.2.2.1 j (by omega), fun _ => hL.2.2.2.1 14 (by omega)⟩
  · have := hL.2.2.2.2 (p - 1) (by omega)
    rw [show T + 4 + (p - 1) = T + 3 + p by omega, show p - 1 + 1 = p by omega] at this
    exact this
theorem s_turnAt {Q : HP → Nat → Prop} {T n : Nat} {R : Nat → Int} {vs : Nat → Nat → Int} {z : Int} (hT : isTel T) (hL : isTl I T R vs n) (hz : -1 ≤ z ∧ z < n) (h : Q I (tc T (z + 1).toNat)) : RA G Y_X5_turnAt [.ref T, .int (iN z)] I Q := by
  have hN := teN_le T
  obtain ⟨hn, h3, -⟩ := hL
  refine v_X5_turnAt hT ?_
  rw [h3, l0, iN_lt (by omega) (by omega), iN_le (by omega) (by omega)]
  refine ⟨fun c => ?_, fun c => ⟨fun c2 => absurd c2 (by omega), fun _ => ⟨(vp_iN (by omega)).mpr ⟨by omega, by omega⟩, ?_⟩⟩⟩
  · rw [show (z + 1).toNat = 0 by omega] at h
    exact h
  · rw [show nn (iN z) = z.toNat by rw [nn, nn_iN (by omega) (by omega)]]
    rw [show tc T (z + 1).toNat = T + 4 + z.toNat by unfold tc; rw [if_neg (by omega)]; omega] at h
    exact h
theorem s_last {Q : HP → Nat → Prop} {T n : Nat} {R : Nat → Int} {vs : Nat → Nat → Int} (hT : isTel T) (hL : isTl I T R vs n) (h : Q I (tc T n)) : RA G Y_X5_last [.ref T] I Q := by
  have hN := teN_le T
  have hn := hL.1
  refine v_X5_last hT ?_
  rw [hL.2.1, l1, iN_sub]
  refine s_turnAt hT hL (by omega) ?_
  rw [show ((n : Int) - 1 + 1).toNat = n by omega]
  exact ⟨tc_tur hT hn, h⟩
/-- the verse v of the text f, as a row of four numbers -/
def vd (f : Nat → Int32) (v : Nat) : Nat → Int := fun j => match j with
  | 0 => kd f v
  | 1 => fg f v 0
  | 2 => fg f v 1
  | _ => fg f v 2
theorem vd_ok {f : Nat → Int32} {n v : Nat} (h : v < szT f n) : okV1 (vd f v) := by
  have h0 := fg_bd h 0 (by decide)
  have h1 := fg_bd h 1 (by decide)
  have h2 := fg_bd h 2 (by decide)
  exact ⟨kd_bd h, ⟨h0.1, h0.2.1⟩, ⟨h1.2.2 rfl, h1.2.1⟩, ⟨h2.1, h2.2.1⟩⟩
theorem isS_fr {I' : HP} {T n : Nat} {f : Nat → Int32} (h : isS I T f n) (h1 : I' T = I T) (h2 : I' (T + 1) = I (T + 1)) : isS I' T f n := by
  unfold isS
  rw [h1, h2]
  exact h
theorem scr_tel {b T : Nat} (hb : isScr b) (hT : isTel T) : b + 1 < T := by
  rcases hb with rfl | rfl <;> rcases hT with rfl | rfl <;> decide
theorem tl_s (R : Nat → Int) (vs : Nat → Nat → Int) (p : Nat) : tl R vs (p + 1) = tN R (tl R vs p) (vs p 0) (vs p 1) (vs p 2) (vs p 3) (cntK vs (vs p 0) p) := rfl
set_option maxHeartbeats 4000000 in
theorem s_add {Q : HP → Prop} {T n b m v : Nat} {R : Nat → Int} {vs : Nat → Nat → Int} {f : Nat → Int32} (hT : isTel T) (hb : isScr b) (hL : isTl I T R vs n) (hnT : n < teN T) (hR : okR R) (hvs : okVs vs n) (hS : isS I b f m) (hv : v < szT f m) (hvn : ∀ j, j < 4 → vs n j = vd f v j)
    (h : ∀ I', frx [T, T + 4 + n] I I' → isTl I' T R vs (n + 1) → Q I') : RV G Y_X5_add [.ref T, .ref b, .int (iN v)] I Q := by
  have hN := teN_le T
  have hbT := scr_tel hb hT
  obtain ⟨-, h3, hru, hst, htt⟩ := id hL
  have hc : isTur (T + 4 + n) := tel_tu hT hnT
  have okv := vd_ok hv
  have hcnt := cntK_le vs (vs n 0) n
  have e0 : vs n 0 = kd f v := hvn 0 (by decide)
  have e1 : vs n 1 = fg f v 0 := hvn 1 (by decide)
  have e2 : vs n 2 = fg f v 1 := hvn 2 (by decide)
  have e3 : vs n 3 = fg f v 2 := hvn 3 (by decide)
  obtain ⟨k0, m0, s0, q0⟩ := okv
  have k0 : 0 ≤ vs n 0 ∧ vs n 0 ≤ 3 := by rw [e0]; exact k0
  have m0 : 0 ≤ vs n 1 ∧ vs n 1 ≤ 9 := by rw [e1]; exact m0
  have s0 : 1 ≤ vs n 2 ∧ vs n 2 ≤ 9 := by rw [e2]; exact s0
  have q0 : 0 ≤ vs n 3 ∧ vs n 3 ≤ 9 := by rw [e3]; exact q0
  have hbd := bd_tl hR hvs n (Nat.le_refl _) (by omega)
  obtain ⟨b9, b10, b11, b12, b13, b7⟩ := hbd
  have ha := isTl_at hL (Nat.le_refl n)
  have hct : tc T n ≠ T + 4 + n := by unfold tc; split <;> omega
  have htT : tc T n ≠ T := by unfold tc; split <;> omega
  -- from pc 117 on
  have p117 : ∀ I7, frx [T + 4 + n] I I7 → I7 (T + 4 + n) 0 = iN (vs n 0) → I7 (T + 4 + n) 2 = iN (vs n 2) → I7 (T + 4 + n) 1 = iN (mkC (vs n 0) (vs n 1) (cntK vs (vs n 0) n)) → I7 (T + 4 + n) 3 = iN (knC (vs n 0) (vs n 3) (cntK vs (vs n 0) n)) → GV G Y_X5_add 117 [(0, .ref T), (3, .ref (T + 4 + n))] I7 Q := by
    intro I7 f7 g0 g2 g1 g3
    have hm := mkC_bd (k := vs n 0) (al := (cntK vs (vs n 0) n : Int)) m0
    have hkn := knC_bd (k := vs n 0) (al := (cntK vs (vs n 0) n : Int)) q0 (by omega)
    have hw := wrT_bd (k := vs n 0) s0
    have hL7 : isTl I7 T R vs n := by
      refine ⟨hL.1, by rw [f7 T (by simp <;> omega)]; exact h3, fun r hr => by rw [f7 (T + 1) (by simp <;> omega)]; exact hru r hr, fun j hj => by rw [f7 (T + 2) (by simp <;> omega)]; exact hst j hj, fun p hp => tM_fr (htt p hp) (f7 _ (by simp <;> omega))⟩
    refine v_X5_add_117 hT hc (s_last hT hL7 ⟨tc_tur hT hL.1, ?_⟩)
    have ha7 : ∀ j, j < 14 → I7 (tc T n) j = iN (tl R vs n j) := fun j hj => by rw [f7 _ (by simpa using hct)]; exact ha.1 j hj
    refine s_follow hc (tc_tur hT hL.1) hct (fun I3 f3 u0 u4 u9 u13 u10 u11 u12 => ?_)
    rw [ha7 9 (by decide), g1, iN_add] at u9
    rw [ha7 13 (by decide)] at u13
    rw [ha7 10 (by decide)] at u10
    rw [ha7 11 (by decide)] at u11
    rw [ha7 12 (by decide)] at u12
    have u00 := u0 0 (by decide)
    have u01 := u0 1 (by decide)
    have u02 := u0 2 (by decide)
    have u03 := u0 3 (by decide)
    rw [g0] at u00
    rw [g1] at u01
    rw [g2] at u02
    rw [g3] at u03
    have f3' : frx [T + 4 + n] I I3 := frx_tr f7 f3
    have e33 : I3 T 3 = iN n := by rw [f3' T (by simp <;> omega)]; exact h3
    rw [e33, l1, iN_add]
    have cT : T + 4 + n ≠ T := by omega
    rw [st_ne1 cT, u13, u9, iN_lt (by omega) (by omega)]
    -- the heap behind size++
    generalize hI5 : st I3 T 3 (iN ((n : Int) + 1)) = I5
    have f5 : frx [T, T + 4 + n] I I5 := by rw [← hI5]; exact frx_st (frx_mo f3' (by simp <;> omega)) (by simp <;> omega)
    have c5 : I5 (T + 4 + n) = I3 (T + 4 + n) := by rw [← hI5]; exact st_ne1 cT
    have s5 : I5 T 3 = iN ((n + 1 : Nat) : Int) := by rw [← hI5, st_self]; rfl
    have a5 : ∀ j, j < 14 → I5 (tc T n) j = iN (tl R vs n j) := fun j hj => by
      rw [← hI5, st_ne1 htT, f3 _ (by simpa using hct)]; exact ha7 j hj
    have ru5 : ∀ I', frx [T, T + 4 + n] I I' → ∀ r, r < 5 → I' (T + 1) r = iN (R r) := fun I' hf r hr => by rw [hf (T + 1) (by simp <;> omega)]; exact hru r hr
    have fin : ∀ I', frx [T, T + 4 + n] I I' → I' T 3 = iN ((n + 1 : Nat) : Int) → tM I' (T + 4 + n) (tl R vs (n + 1)) → Q I' := by
      intro I' hf h3' hm'
      refine h I' hf ⟨by omega, h3', ru5 I' hf, fun j hj => by rw [hf (T + 2) (by simp <;> omega)]; exact hst j hj, fun p hp => ?_⟩
      by_cases c : p = n
      · subst c; exact hm'
      · exact tM_fr (htt p (by omega)) (hf _ (by simp <;> omega))
    -- what counts at pc 157
    have p157 : ∀ x7 : Int32, (x7 = 0 ↔ tl R vs n 13 < tl R vs n 9 + mkC (vs n 0) (vs n 1) (cntK vs (vs n 0) n)) → GV G Y_X5_add 157 [(0, .ref T), (3, .ref (T + 4 + n)), (6, .ref (tc T n)), (7, .int x7)] I5 Q := by
      intro x7 hx7
      refine v_X5_add_157 hT hc (tc_tur hT hL.1) ?_
      rw [a5 7 (by decide), show (-1 : Int32) = iN (-1) from rfl, iN_eq (by omega) (by omega), hx7, ru5 I5 f5 4 (by decide), l0, iN_eq (by have := hR.2.2.2.2; omega) (by omega)]
      have eT : tl R vs (n + 1) = tN2 R (tl R vs n) (vs n 0) (mkC (vs n 0) (vs n 1) (cntK vs (vs n 0) n)) (vs n 2) (knC (vs n 0) (vs n 3) (cntK vs (vs n 0) n)) (wrT (vs n 0) (vs n 2)) (tl R vs n 9 + mkC (vs n 0) (vs n 1) (cntK vs (vs n 0) n)) (bgT R (tl R vs n) (tl R vs n 9 + mkC (vs n 0) (vs n 1) (cntK vs (vs n 0) n))) (cgT R (tl R vs n) (wrT (vs n 0) (vs n 2))) (okT R (tl R vs n) (wrT (vs n 0) (vs n 2))) := rfl
      generalize hmk : mkC (vs n 0) (vs n 1) (cntK vs (vs n 0) n) = mk at *
      generalize hkn' : knC (vs n 0) (vs n 3) (cntK vs (vs n 0) n) = kn at *
      -- not said
      have nosay : bgT R (tl R vs n) (tl R vs n 9 + mk) = false → Q I5 := by
        intro hbg
        refine fin I5 f5 s5 ?_
        rw [eT, hbg]
        refine ⟨fun j hj => ?_, fun c => absurd rfl c⟩
        rw [c5]
        match j, hj with
        | 0, _ => exact u00
        | 1, _ => exact u01
        | 2, _ => exact u02
        | 3, _ => exact u03
        | 4, _ => exact u4 4 (by decide) (by decide)
        | 5, _ => exact u4 5 (by decide) (by decide)
        | 6, _ => exact u4 6 (by decide) (by decide)
        | 7, _ => exact u4 7 (by decide) (by decide)
        | 8, _ => exact u4 8 (by decide) (by decide)
        | 9, _ => exact u9
        | 10, _ => exact u10
        | 11, _ => exact u11
        | 12, _ => exact u12
        | 13, _ => exact u13
        | j + 14, hj => omega
      have say : bgT R (tl R vs n) (tl R vs n 9 + mk) = true → RV G Y_X6_beSaid [.ref (T + 4 + n), .int (iN (tl R vs n 7))] I5 (fun I6 => RV G Y_X6_beWritten [.ref (T + 4 + n), .int (I6 (T + 1) 1), .int (I6 (T + 1) 2), .int (I6 (T + 1) 3)] I6 (fun I7 => Q I7)) := by
        intro hbg
        refine s_beSaid (k := vs n 0) (s := vs n 2) (kn := kn) (nd := tl R vs n 9 + mk) (ap := tl R vs n 10) (co := tl R vs n 13) hc (by rw [c5]; exact u00) (by rw [c5]; exact u02) (by rw [c5]; exact u03) (by rw [c5]; exact u9) (by rw [c5]; exact u10) (by rw [c5]; exact u13) k0 (by omega) (fun I6 f6 w0 w4 w5 w6 w8 w10 w13 w14 => ?_)
        have f6' : frx [T, T + 4 + n] I I6 := frx_tr f5 (frx_mo f6 (by simp <;> omega))
        rw [ru5 I6 f6' 1 (by decide), ru5 I6 f6' 2 (by decide), ru5 I6 f6' 3 (by decide)]
        obtain ⟨-, r1, r2, r3, -⟩ := hR
        have z0 : I6 (T + 4 + n) 0 = iN (vs n 0) := by rw [w0 0 (by decide), c5]; exact u00
        have z1 : I6 (T + 4 + n) 1 = iN mk := by rw [w0 1 (by decide), c5]; exact u01
        have z2 : I6 (T + 4 + n) 2 = iN (vs n 2) := by rw [w0 2 (by decide), c5]; exact u02
        have z3 : I6 (T + 4 + n) 3 = iN kn := by rw [w0 3 (by decide), c5]; exact u03
        have z7 : I6 (T + 4 + n) 7 = iN (-1) := by rw [w0 7 (by decide), c5]; exact u4 7 (by decide) (by decide)
        have z9 : I6 (T + 4 + n) 9 = iN (tl R vs n 9 + mk) := by rw [w0 9 (by decide), c5]; exact u9
        have z11 : I6 (T + 4 + n) 11 = iN (tl R vs n 11) := by rw [w0 11 (by decide), c5]; exact u11
        have z12 : I6 (T + 4 + n) 12 = iN (tl R vs n 12) := by rw [w0 12 (by decide), c5]; exact u12
        refine s_beWritten hc z0 z2 w6 z11 z12 w13 k0 (by omega) (fun I8 f8 y y7 y11 y12 y13 => ?_)
        have f8' : frx [T, T + 4 + n] I I8 := frx_tr f6' (frx_mo f8 (by simp <;> omega))
        refine fin I8 f8' ?_ ?_
        · rw [f8 T (by simp <;> omega), f6 T (by simp <;> omega)]; exact s5
        · have ec : cg0 (R 1) (tl R vs n 11) (wrT (vs n 0) (vs n 2)) = cgT R (tl R vs n) (wrT (vs n 0) (vs n 2)) := rfl
          have eo : ok0 (R 1) (R 3) (tl R vs n 11) (tl R vs n 12) (wrT (vs n 0) (vs n 2)) = okT R (tl R vs n) (wrT (vs n 0) (vs n 2)) := rfl
          rw [ec, eo] at y7 y11 y12 y13
          rw [eT, hbg]
          generalize cgT R (tl R vs n) (wrT (vs n 0) (vs n 2)) = cg at *
          generalize okT R (tl R vs n) (wrT (vs n 0) (vs n 2)) = ok at *
          refine ⟨fun j hj => ?_, fun _ => ?_⟩
          · match j, hj with
            | 0, _ => rw [y 0 (by decide) (by decide) (by decide) (by decide)]; exact z0
            | 1, _ => rw [y 1 (by decide) (by decide) (by decide) (by decide)]; exact z1
            | 2, _ => rw [y 2 (by decide) (by decide) (by decide) (by decide)]; exact z2
            | 3, _ => rw [y 3 (by decide) (by decide) (by decide) (by decide)]; exact z3
            | 4, _ => rw [y 4 (by decide) (by decide) (by decide) (by decide)]; exact w4
            | 5, _ => rw [y 5 (by decide) (by decide) (by decide) (by decide)]; exact w5
            | 6, _ => rw [y 6 (by decide) (by decide) (by decide) (by decide)]; exact w6
            | 7, _ => rw [y7, z7]; cases cg <;> cases ok <;> rfl
            | 8, _ => rw [y 8 (by decide) (by decide) (by decide) (by decide)]; exact w8
            | 9, _ => rw [y 9 (by decide) (by decide) (by decide) (by decide)]; exact z9
            | 10, _ => rw [y 10 (by decide) (by decide) (by decide) (by decide)]; exact w10
            | 11, _ => rw [y11, z11]; cases cg <;> cases ok <;> rfl
            | 12, _ => rw [y12, z12]; cases cg <;> cases ok <;> rfl
            | 13, _ => rw [y13, w13]; cases cg <;> cases ok <;> simp [tN2]
            | j + 14, hj => omega
          · rw [y 14 (by decide) (by decide) (by decide) (by decide)]; exact w14
      refine ⟨fun c => nosay (decide_eq_false (by omega)), fun c => ⟨fun c2 => say (decide_eq_true ⟨c, by omega⟩), fun c2 => ⟨fun c4 => nosay (decide_eq_false (by omega)), fun c4 => say (decide_eq_true ⟨c, Or.inr c4⟩)⟩⟩⟩
    refine ⟨fun c => p157 _ ⟨fun _ => c, fun _ => rfl⟩, fun c => p157 _ ⟨fun q => absurd q (by decide), fun q => absurd q c⟩⟩
  -- from the start
  refine v_X5_add hT hb ?_
  rw [h3, nI_iN, iN_lt (by omega) (by omega)]
  refine ⟨fun _ => ⟨(vp_iN (by omega)).mpr ⟨by omega, by omega⟩, ?_⟩, fun c => absurd (by omega) c⟩
  rw [show nn (iN (n : Int)) = n from nn_nat (by omega)]
  refine s_kindOf2 hb hS hv ?_
  have cb : T + 4 + n ≠ b := by omega
  have cb1 : T + 4 + n ≠ b + 1 := by omega
  have hS1 : isS (st I (T + 4 + n) 0 (iN (kd f v))) b f m := isS_fr hS (st_ne1 (Ne.symm cb)) (st_ne1 (Ne.symm cb1))
  refine s_figure (w := 1) hb hS1 hv (by decide) ?_
  have hI2 : ∀ I2, I2 = (st (st I (T + 4 + n) 0 (iN (kd f v))) (T + 4 + n) 2 (iN (fg f v 1))) → RI G Y_X5_howManyOf [.ref T, .int (I2 (T + 4 + n) 0)] I2 (fun I7 r8 => ((¬ (I7 (T + 4 + n) 0) = (1 : Int32)) → (GV G Y_X5_add 72 [(0, .ref T), (1, .ref b), (2, .int (iN v)), (3, .ref (T + 4 + n)), (4, .int r8), (5, .int (0 : Int32))] I7 Q)) ∧ (((I7 (T + 4 + n) 0) = (1 : Int32)) → (((r8 ≤ 0) → (GV G Y_X5_add 72 [(0, .ref T), (1, .ref b), (2, .int (iN v)), (3, .ref (T + 4 + n)), (4, .int r8), (5, .int (0 : Int32))] I7 Q)) ∧ ((¬ r8 ≤ 0) → (GV G Y_X5_add 72 [(0, .ref T), (1, .ref b), (2, .int (iN v)), (3, .ref (T + 4 + n)), (4, .int r8), (5, .int (1 : Int32))] I7 Q))))) := by
    intro I2 eI2
    have f2 : frx [T + 4 + n] I I2 := by rw [eI2]; exact frx_st (frx_st frx_rf (by simp <;> omega)) (by simp <;> omega)
    have g0 : I2 (T + 4 + n) 0 = iN (vs n 0) := by rw [eI2, st_ne2 (by decide), st_self, e0]
    have g2 : I2 (T + 4 + n) 2 = iN (vs n 2) := by rw [eI2, st_self, e2]
    have hL2 : isTl I2 T R vs n := by
      refine ⟨hL.1, by rw [f2 T (by simp <;> omega)]; exact h3, fun r hr => by rw [f2 (T + 1) (by simp <;> omega)]; exact hru r hr, fun j hj => by rw [f2 (T + 2) (by simp <;> omega)]; exact hst j hj, fun p hp => tM_fr (htt p hp) (f2 _ (by simp <;> omega))⟩
    have hS2 : ∀ I', frx [T + 4 + n] I I' → isS I' b f m := fun I' hf => isS_fr hS (hf b (by simp <;> omega)) (hf (b + 1) (by simp <;> omega))
    rw [g0]
    refine s_howMany hT hL2 hvs k0 ?_
    rw [g0, l1, l0, iN_eq (by omega) (by omega), iN_le (by omega) (by omega)]
    -- again or not
    have no : ¬ (vs n 0 = 1 ∧ (0 : Int) < cntK vs (vs n 0) n) → GV G Y_X5_add 72 [(0, .ref T), (1, .ref b), (2, .int (iN v)), (3, .ref (T + 4 + n)), (4, .int (iN (cntK vs (vs n 0) n))), (5, .int (iN 0))] I2 Q := by
      intro hno
      refine v_X5_add_72 hT hb hc ⟨fun _ => ?_, fun c => absurd rfl c⟩
      refine s_figure (w := 0) hb (hS2 I2 f2) hv (by decide) ?_
      refine v_X5_add_91 hT hb hc ⟨fun _ => ?_, fun c => absurd rfl c⟩
      have f3 : frx [T + 4 + n] I (st I2 (T + 4 + n) 1 (iN (fg f v 0))) := frx_st f2 (by simp <;> omega)
      refine s_figure (w := 2) hb (hS2 _ f3) hv (by decide) ?_
      rw [iN_sub, l0, iN_max (by rw [← e3]; omega)]
      refine p117 _ (frx_st f3 (by simp <;> omega)) ?_ ?_ ?_ ?_
      · rw [st_ne2 (by decide), st_ne2 (by decide)]; exact g0
      · rw [st_ne2 (by decide), st_ne2 (by decide)]; exact g2
      · rw [st_ne2 (by decide), st_self]; unfold mkC; rw [if_neg hno, e1]
      · rw [st_self]; unfold knC; rw [if_neg hno, e3]
    have yes : (vs n 0 = 1 ∧ (0 : Int) < cntK vs (vs n 0) n) → GV G Y_X5_add 72 [(0, .ref T), (1, .ref b), (2, .int (iN v)), (3, .ref (T + 4 + n)), (4, .int (iN (cntK vs (vs n 0) n))), (5, .int (iN 1))] I2 Q := by
      intro hyes
      refine v_X5_add_72 hT hb hc ⟨fun c => absurd c (by decide), fun _ => ?_⟩
      refine v_X5_add_91 hT hb hc ⟨fun c => absurd c (by decide), fun _ => ?_⟩
      refine p117 _ (frx_st (frx_st f2 (by simp <;> omega)) (by simp <;> omega)) ?_ ?_ ?_ ?_
      · rw [st_ne2 (by decide), st_ne2 (by decide)]; exact g0
      · rw [st_ne2 (by decide), st_ne2 (by decide)]; exact g2
      · rw [st_ne2 (by decide), st_self]; unfold mkC; rw [if_pos hyes]; rfl
      · rw [st_self]; unfold knC; rw [if_pos hyes]; rfl
    refine ⟨fun c => no (by omega), fun c => ⟨fun c2 => no (by omega), fun c2 => yes (by omega)⟩⟩
  exact hI2 _ rfl
end Add
