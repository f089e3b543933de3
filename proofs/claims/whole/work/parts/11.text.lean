/-! ===== texts ===== -/
section Leaf
variable {G : CX} {I : HP}
theorem s_in {Q : HP → Bool → Prop} {a1 a2 a3 : Int64} (h : Q I (decide (a2.toInt ≤ a1.toInt ∧ a1.toInt ≤ a3.toInt))) : RZ G Y_X8_in [.long a1, .long a2, .long a3] I Q := by
  have e1 : (lg_cmp a1 a2 < 0) ↔ a1.toInt < a2.toInt := by
    unfold lg_cmp
    simp only [gt_iff_lt, Int64.lt_iff_toInt_lt, ← Int64.toInt_inj]
    split
    · constructor
      · intro h; exact absurd h (by decide)
      · intro h; omega
    · split
      · constructor
        · intro h; exact absurd h (by decide)
        · intro h; omega
      · constructor
        · intro h; omega
        · intro h; decide
  have e2 : (0 < lg_cmp a1 a3) ↔ a3.toInt < a1.toInt := by
    unfold lg_cmp
    simp only [gt_iff_lt, Int64.lt_iff_toInt_lt, ← Int64.toInt_inj]
    split
    · constructor
      · intro h; assumption
      · intro h; decide
    · split
      · constructor
        · intro h; exact absurd h (by decide)
        · intro h; omega
      · constructor
        · intro h; exact absurd h (by decide)
        · intro h; omega
  apply v_X8_in
  rw [e1, e2]
  refine ⟨fun c => ?_, fun c => ⟨fun d => ?_, fun d => ?_⟩⟩
  · have : decide (a2.toInt ≤ a1.toInt ∧ a1.toInt ≤ a3.toInt) = false := decide_eq_false (by omega)
    rw [this] at h; exact h
  · have : decide (a2.toInt ≤ a1.toInt ∧ a1.toInt ≤ a3.toInt) = false := decide_eq_false (by omega)
    rw [this] at h; exact h
  · have : decide (a2.toInt ≤ a1.toInt ∧ a1.toInt ≤ a3.toInt) = true := decide_eq_true (by omega)
    rw [this] at h; exact h
/-- in(x, lo, hi) of an int and two constants -/
theorem s_in3 {Q : HP → Bool → Prop} {x : Int32} {a b : Int64} (lo hi : Int) (ha : a.toInt = lo) (hb : b.toInt = hi) (h : Q I (decide (lo ≤ x.toInt ∧ x.toInt ≤ hi))) : RZ G Y_X8_in [.long x.toInt64, .long a, .long b] I Q := by
  apply s_in
  rw [ha, hb, Int32.toInt_toInt64]
  exact h
theorem s_isTwo {Q : HP → Bool → Prop} {x : Int32} (h : Q I (decide (0 ≤ x.toInt ∧ x.toInt ≤ 1))) : RZ G Y_X8_isTwo [.int x] I Q := v_X8_isTwo (s_in3 0 1 (by decide) (by decide) h)
theorem s_isSheet8 {Q : HP → Bool → Prop} {x : Int32} (h : Q I (decide (0 ≤ x.toInt ∧ x.toInt ≤ 3))) : RZ G Y_X8_isSheet [.int x] I Q := v_X8_isSheet (s_in3 0 3 (by decide) (by decide) h)
def kBy (b : Int32) : Int := if b = 112 then 0 else if b = 99 then 1 else if b = 108 then 2 else if b = 114 then 3 else -1
theorem s_kindBy {Q : HP → Int32 → Prop} {b : Int32} (h : Q I (iN (kBy b))) : RI G Y_X2_kindBy [.int b] I Q := by
  apply v_X2_kindBy
  unfold kBy at h
  refine ⟨fun c => ?_, fun c => ?_, fun c => ?_, fun c => ?_, fun c1 c2 c3 c4 => ?_⟩
  · subst c; exact h
  · subst c; exact h
  · subst c; exact h
  · subst c; exact h
  · rw [if_neg c3, if_neg c1, if_neg c2, if_neg c4] at h; exact h
theorem s_kindOf8 {Q : HP → Int32 → Prop} {b : Int32} (h : Q I (iN (kBy b))) : RI G Y_X8_kindOf [.int b] I Q := by
  apply v_X8_kindOf
  unfold kBy at h
  refine ⟨fun c => ⟨fun c2 => ⟨fun c3 => ⟨fun c4 => ?_, fun c4 => ?_⟩, fun c3 => ?_⟩, fun c2 => ?_⟩, fun c => ?_⟩
  · rw [if_neg c, if_neg c2, if_neg c3, if_neg c4] at h; exact h
  · rw [if_neg c, if_neg c2, if_neg c3, if_pos c4] at h; exact h
  · rw [if_neg c, if_neg c2, if_pos c3] at h; exact h
  · rw [if_neg c, if_pos c2] at h; exact h
  · rw [if_pos c] at h; exact h
theorem kBy_ge (b : Int32) : -1 ≤ kBy b ∧ kBy b ≤ 3 := by
  unfold kBy
  split
  · decide
  · split
    · decide
    · split
      · decide
      · split <;> decide
/-- does a byte fit at a place of a verse -/
def fitB (b : Int32) (pl : Nat) : Bool := if pl = 0 then decide (kBy b ≠ -1) else if pl = 2 then decide (49 ≤ b.toInt ∧ b.toInt ≤ 57) else if pl = 4 then decide (b = 59) else decide (48 ≤ b.toInt ∧ b.toInt ≤ 57)
theorem t_lt {a b : Int32} : a < b ↔ a.toInt < b.toInt := Int32.lt_iff_toInt_lt
theorem t_le {a b : Int32} : a ≤ b ↔ a.toInt ≤ b.toInt := Int32.le_iff_toInt_le
theorem s_fits {Q : HP → Bool → Prop} {b : Int32} {pl : Nat} (hp : pl < 5) (h : Q I (fitB b pl)) : RZ G Y_X2_fits [.int b, .int (iN pl)] I Q := by
  apply v_X2_fits
  have hne : ∀ k : Nat, k < 5 → (iN (pl : Int) = iN (k : Int) ↔ pl = k) := fun k hk => by rw [iN_eq (by omega) (by omega)]; omega
  have dig : ∀ lo : Int, (lo = 48 ∨ lo = 49) → fitB b pl = decide (lo ≤ b.toInt ∧ b.toInt ≤ 57) → ((b.toInt < lo → Q I false) ∧ (¬ b.toInt < lo → ((57 < b.toInt → Q I false) ∧ (¬ 57 < b.toInt → Q I true)))) := by
    intro lo _ e
    rw [e] at h
    refine ⟨fun c => ?_, fun c => ⟨fun d => ?_, fun d => ?_⟩⟩
    · rw [decide_eq_false (by omega)] at h; exact h
    · rw [decide_eq_false (by omega)] at h; exact h
    · rw [decide_eq_true (by omega)] at h; exact h
  have e48 : (48 : Int32).toInt = 48 := by decide
  have e49 : (49 : Int32).toInt = 49 := by decide
  have e57 : (57 : Int32).toInt = 57 := by decide
  simp only [t_lt, e48, e49, e57]
  refine ⟨fun c => ?_, fun c => ?_, fun c => ?_, fun c => ?_, fun c => ?_, fun c => ?_⟩
  · have c0 : pl = 0 := (hne 0 (by decide)).mp c
    subst c0
    refine s_kindBy ?_
    have hk := kBy_ge b
    have e : (iN (kBy b) = (-1 : Int32)) ↔ kBy b = -1 := by
      rw [show (-1 : Int32) = iN (-1) from rfl, iN_eq (by omega) (by omega)]
    refine ⟨fun d => ?_, fun d => ?_⟩
    · rw [e] at d
      simp only [fitB, if_true, d] at h; exact h
    · rw [e] at d
      have : fitB b 0 = true := by simp [fitB, d]
      rw [this] at h; exact h
  · have c0 : pl = 1 := (hne 1 (by decide)).mp c
    subst c0
    exact dig 48 (Or.inl rfl) rfl
  · have c0 : pl = 2 := (hne 2 (by decide)).mp c
    subst c0
    exact dig 49 (Or.inr rfl) rfl
  · have c0 : pl = 3 := (hne 3 (by decide)).mp c
    subst c0
    exact dig 48 (Or.inl rfl) rfl
  · have c0 : pl = 4 := (hne 4 (by decide)).mp c
    subst c0
    refine ⟨fun d => ?_, fun d => ?_⟩
    · have : fitB b 4 = false := by simp [fitB, d]
      rw [this] at h; exact h
    · have : fitB b 4 = true := by simp [fitB, d]
      rw [this] at h; exact h
  · exact absurd rfl (nI_iN pl ▸ c pl hp)
end Leaf
/-- the first byte that doesn't fit, from i on (k bytes are left); else whether the text is ended -/
def ff (f : Nat → Int32) (n : Nat) : Nat → Nat → Int
  | 0, _ => if n = 0 ∨ n % 5 = 4 then -1 else n
  | k + 1, i => if fitB (f i) (i % 5) = true then ff f n k (i + 1) else i
def flw (f : Nat → Int32) (n : Nat) : Int := ff f n n 0
def szT (f : Nat → Int32) (n : Nat) : Nat := if flw f n = -1 then (n + 1) / 5 else 0
theorem ff_bd (f : Nat → Int32) (n : Nat) : ∀ k i, i + k = n → -1 ≤ ff f n k i ∧ ff f n k i ≤ n
  | 0, i, h => by unfold ff; split <;> omega
  | k + 1, i, h => by
    unfold ff
    split
    · exact ff_bd f n k (i + 1) (by omega)
    · omega
theorem flw_bd (f : Nat → Int32) (n : Nat) : -1 ≤ flw f n ∧ flw f n ≤ n := ff_bd f n n 0 (by omega)
theorem szT_bd (f : Nat → Int32) (n : Nat) : 5 * szT f n ≤ n + 1 := by
  unfold szT
  split <;> omega
section Scr
variable {G : CX} {I : HP}
theorem scN_le (T : Nat) : scN T ≤ 59 := by unfold scN; split <;> decide
theorem s_firstFlaw {Q : HP → Int32 → Prop} {T n : Nat} (hT : isScr T) {f : Nat → Int32} (hn : n ≤ scN T) (h1 : I T 1 = iN n) (hf : ∀ i, i < n → I (T + 1) i = f i) (h : Q I (iN (flw f n))) : RI G Y_X2_firstFlaw [.ref T] I Q := by
  refine v_X2_firstFlaw hT ?_
  have hN := scN_le T
  have loop : ∀ k i : Nat, i + k = n → Q I (iN (ff f n k i)) → GI G Y_X2_firstFlaw 2 [(0, .ref T), (1, .int (iN i))] I Q := by
    intro k
    induction k with
    | zero =>
      intro i hi hq
      refine v_X2_firstFlaw_2 hT ?_
      rw [h1, l0, l4, l5]
      simp only [iN_rem n 5 (by omega) (by decide) (by decide), show iN 5 = iN ((5 : Nat) : Int) from rfl]
      rw [iN_le (by omega) (by omega), iN_eq (by omega) (by omega), iN_eq (by omega) (by omega)]
      unfold ff at hq
      refine ⟨fun _ => ⟨fun c => ?_, fun c => ⟨fun d => ?_, fun d => ?_⟩⟩, fun c => absurd (by omega) c⟩
      · rw [if_pos (Or.inl (by omega))] at hq; exact hq
      · rw [if_neg (by omega)] at hq; exact hq
      · rw [if_pos (Or.inr (by omega))] at hq; exact hq
    | succ k ih =>
      intro i hi hq
      refine v_X2_firstFlaw_2 hT ?_
      rw [h1]
      refine ⟨fun c => absurd c (by rw [iN_le (by omega) (by omega)]; omega), fun _ => ⟨(vp_iN (by omega)).mpr ⟨by omega, by omega⟩, ?_⟩⟩
      rw [l5]
      simp only [iN_rem i 5 (by omega) (by decide) (by decide), show iN 5 = iN ((5 : Nat) : Int) from rfl]
      refine s_fits (Nat.mod_lt _ (by decide)) ?_
      rw [show nn (iN (i : Int)) = i from nn_nat (by omega), hf i (by omega)]
      unfold ff at hq
      rw [bI_0]
      refine ⟨fun c => ?_, fun c => ?_⟩
      · rw [if_pos (by simpa using c)] at hq
        have := ih (i + 1) (by omega) hq
        rw [l1, iN_add]
        exact this
      · rw [if_neg (by simp [c])] at hq
        exact hq
  have := loop n 0 (by omega) h
  exact this
/-- a Script holds the text f of n bytes -/
def isS (I : HP) (T : Nat) (f : Nat → Int32) (n : Nat) : Prop := n ≤ scN T ∧ I T 1 = iN n ∧ (∀ i, i < n → I (T + 1) i = f i) ∧ I T 2 = iN (flw f n) ∧ I T 3 = iN (szT f n)
theorem s_settle {Q : HP → Prop} {T n : Nat} (hT : isScr T) {f : Nat → Int32} (hn : n ≤ scN T) (h1 : I T 1 = iN n) (hf : ∀ i, i < n → I (T + 1) i = f i) (h : ∀ I', frx [T] I I' → isS I' T f n → Q I') : RV G Y_X2_settle [.ref T] I Q := by
  have hN := scN_le T
  have hb := flw_bd f n
  refine v_X2_settle hT (s_firstFlaw hT hn h1 hf ?_)
  have hTT : T + 1 ≠ T := by omega
  have key : ∀ z : Int32, z = iN (szT f n) → Q (st (st I T 2 (iN (flw f n))) T 3 z) := by
    intro z hz
    refine h _ (frx_st (frx_st frx_rf (by simp)) (by simp)) ⟨hn, ?_, fun i hi => ?_, ?_, ?_⟩
    · rw [st_ne2 (by decide), st_ne2 (by decide)]; exact h1
    · rw [st_ne1 hTT, st_ne1 hTT]; exact hf i hi
    · rw [st_ne2 (by decide), st_self]
    · rw [st_self, hz]
  rw [st_self, show (-1 : Int32) = iN (-1) from rfl, iN_eq (by omega) (by omega)]
  refine ⟨fun c => key _ ?_, fun c => key _ ?_⟩
  · rw [l0]; simp [szT, c]
  · rw [st_ne2 (by decide), h1, l1, l5, iN_add]
    have := iN_div (n + 1) 5 (by omega) (by decide) (by decide)
    simp only [szT, if_pos c]
    exact_mod_cast this
theorem s_isFull2 {Q : HP → Bool → Prop} {T n : Nat} (hT : isScr T) (hn : n ≤ scN T) (h1 : I T 1 = iN n) (h : Q I (decide (n = scN T))) : RZ G Y_X2_isFull [.ref T] I Q := by
  have hN := scN_le T
  refine v_X2_isFull hT ?_
  rw [h1, nI_iN, iN_lt (by omega) (by omega)]
  refine ⟨fun c => ?_, fun c => ?_⟩
  · rw [decide_eq_false (by omega)] at h; exact h
  · rw [decide_eq_true (by omega)] at h; exact h
theorem s_append {Q : HP → Prop} {T n : Nat} (hT : isScr T) {f : Nat → Int32} {b : Int32} (hS : isS I T f n) (hl : n < scN T) (h : ∀ I', frx [T, T + 1] I I' → isS I' T (upd f n b) (n + 1) → Q I') : RV G Y_X2_append [.ref T, .int b] I Q := by
  obtain ⟨hn, h1, hf, -, -⟩ := hS
  have hN := scN_le T
  have hTT : T + 1 ≠ T := by omega
  refine v_X2_append hT (s_isFull2 hT hn h1 ?_)
  rw [decide_eq_false (by omega), bI_0]
  refine ⟨fun c => absurd rfl c, fun _ => ?_⟩
  rw [h1]
  refine ⟨(vp_iN (by omega)).mpr ⟨by omega, by omega⟩, ?_⟩
  rw [show nn (iN (n : Int)) = n from nn_nat (by omega), st_ne1 (Ne.symm hTT), h1, l1, iN_add]
  refine s_settle (f := upd f n b) (n := n + 1) hT (by omega) ?_ (fun i hi => ?_) (fun I' hfr hS' => h I' (frx_tr (frx_st (frx_st frx_rf (by simp)) (by simp)) (frx_mo hfr (by simp))) hS')
  · rw [st_self]; rfl
  · rw [st_ne1 hTT]
    by_cases e : i = n
    · subst e; rw [st_self]; simp [upd]
    · rw [st_ne2 e, hf i (by omega)]; simp [upd, e]
theorem s_shorten {Q : HP → Prop} {T n m : Nat} (hT : isScr T) {f : Nat → Int32} (hS : isS I T f n) (hm : m ≤ n) (h : ∀ I', frx [T] I I' → isS I' T f m → Q I') : RV G Y_X2_shorten [.ref T, .int (iN m)] I Q := by
  obtain ⟨hn, h1, hf, -, -⟩ := hS
  have hN := scN_le T
  have hTT : T + 1 ≠ T := by omega
  refine v_X2_shorten hT ?_
  rw [h1, l0, iN_lt (by omega) (by omega), iN_lt (by omega) (by omega)]
  refine ⟨fun c => absurd c (by omega), fun _ => ⟨fun c => absurd c (by omega), fun _ => ?_⟩⟩
  refine s_settle (f := f) (n := m) hT (by omega) (by rw [st_self]) (fun i hi => by rw [st_ne1 hTT]; exact hf i (by omega)) (fun I' hfr hS' => h I' (frx_tr (frx_st frx_rf (by simp)) hfr) hS')
theorem s_dropLast2 {Q : HP → Prop} {T n : Nat} (hT : isScr T) {f : Nat → Int32} (hS : isS I T f n) (hz : 0 < szT f n) (h : ∀ I', frx [T] I I' → isS I' T f (if szT f n = 1 then 0 else 5 * (szT f n - 1) - 1) → Q I') : RV G Y_X2_dropLastVerse [.ref T] I Q := by
  have hN := scN_le T
  have hb := szT_bd f n
  have hn := hS.1
  refine v_X2_dropLastVerse hT ?_
  rw [hS.2.2.2.2, l1, l0, l5, iN_le (by omega) (by omega)]
  refine ⟨fun c => ?_, fun c => ?_⟩
  · have e : szT f n = 1 := by omega
    refine s_shorten (m := 0) hT hS (Nat.zero_le _) ?_
    intro I' h1 h2
    refine h I' h1 ?_
    rw [if_pos e]; exact h2
  · have e : ¬ szT f n = 1 := by omega
    rw [iN_sub, iN_mul, iN_sub, show (5 * ((szT f n : Int) - 1) - 1) = ((5 * (szT f n - 1) - 1 : Nat) : Int) by omega]
    refine s_shorten hT hS (by omega) ?_
    intro I' h1 h2
    refine h I' h1 ?_
    rw [if_neg e]; exact h2
end Scr
/-! what a well text says -/
def fg (f : Nat → Int32) (v w : Nat) : Int := (f (5 * v + 1 + w)).toInt - 48
def kd (f : Nat → Int32) (v : Nat) : Int := kBy (f (5 * v))
theorem ff_fit (f : Nat → Int32) (n : Nat) : ∀ k i, i + k = n → ff f n k i = -1 → (∀ j, i ≤ j → j < n → fitB (f j) (j % 5) = true) ∧ (n = 0 ∨ n % 5 = 4)
  | 0, i, h, e => by
    unfold ff at e
    refine ⟨fun j h1 h2 => by omega, ?_⟩
    split at e
    · assumption
    · omega
  | k + 1, i, h, e => by
    unfold ff at e
    split at e
    · rename_i hc
      obtain ⟨h1, h2⟩ := ff_fit f n k (i + 1) (by omega) e
      refine ⟨fun j a b => ?_, h2⟩
      by_cases q : j = i
      · subst q; exact hc
      · exact h1 j (by omega) b
    · omega
theorem sz_fit {f : Nat → Int32} {n v : Nat} (h : v < szT f n) : flw f n = -1 ∧ 5 * v + 4 ≤ n ∧ ∀ j, j < n → fitB (f j) (j % 5) = true := by
  unfold szT at h
  split at h
  · rename_i e
    obtain ⟨h1, h2⟩ := ff_fit f n n 0 (by omega) e
    exact ⟨e, by omega, fun j hj => h1 j (Nat.zero_le _) hj⟩
  · omega
theorem fg_bd {f : Nat → Int32} {n v : Nat} (h : v < szT f n) (w : Nat) (hw : w < 3) : 0 ≤ fg f v w ∧ fg f v w ≤ 9 ∧ (w = 1 → 1 ≤ fg f v w) := by
  obtain ⟨-, h2, h3⟩ := sz_fit h
  have := h3 (5 * v + 1 + w) (by omega)
  rcases (show w = 0 ∨ w = 1 ∨ w = 2 by omega) with rfl | rfl | rfl
  · rw [show (5 * v + 1 + 0) % 5 = 1 by omega] at this
    simp [fitB] at this
    unfold fg
    simp only [Nat.add_zero]
    omega
  · rw [show (5 * v + 1 + 1) % 5 = 2 by omega] at this
    simp [fitB] at this
    unfold fg; omega
  · rw [show (5 * v + 1 + 2) % 5 = 3 by omega] at this
    simp [fitB] at this
    unfold fg; omega
theorem kd_bd {f : Nat → Int32} {n v : Nat} (h : v < szT f n) : 0 ≤ kd f v ∧ kd f v ≤ 3 := by
  obtain ⟨-, h2, h3⟩ := sz_fit h
  have := h3 (5 * v) (by omega)
  rw [show (5 * v) % 5 = 0 by omega] at this
  simp [fitB] at this
  have := kBy_ge (f (5 * v))
  unfold kd; omega
section Scr2
variable {G : CX} {I : HP}
theorem s_kindOf2 {Q : HP → Int32 → Prop} {T n v : Nat} (hT : isScr T) {f : Nat → Int32} (hS : isS I T f n) (hv : v < szT f n) (h : Q I (iN (kd f v))) : RI G Y_X2_kindOf [.ref T, .int (iN v)] I Q := by
  obtain ⟨hn, h1, hf, -, h3⟩ := hS
  have hN := scN_le T
  have hb := szT_bd f n
  refine v_X2_kindOf hT ?_
  rw [h3, l0, l5, iN_mul, iN_lt (by omega) (by omega), iN_le (by omega) (by omega)]
  refine ⟨fun c => absurd c (by omega), fun _ => ⟨fun c => absurd c (by omega), fun _ => ⟨(vp_iN (by omega)).mpr ⟨by omega, by omega⟩, ?_⟩⟩⟩
  rw [show nn (iN (5 * (v : Int))) = 5 * v by rw [nn, nn_iN (by omega) (by omega)]; omega, hf _ (by omega)]
  exact s_kindBy h
theorem s_figure {Q : HP → Int32 → Prop} {T n v w : Nat} (hT : isScr T) {f : Nat → Int32} (hS : isS I T f n) (hv : v < szT f n) (hw : w < 3) (h : Q I (iN (fg f v w))) : RI G Y_X2_figure [.ref T, .int (iN v), .int (iN w)] I Q := by
  obtain ⟨hn, h1, hf, -, h3⟩ := hS
  have hN := scN_le T
  have hb := szT_bd f n
  refine v_X2_figure hT ?_
  rw [h3, l0, l1, l2, l5, iN_mul, iN_add, iN_add, iN_lt (by omega) (by omega), iN_lt (by omega) (by omega), iN_le (by omega) (by omega), iN_le (by omega) (by omega)]
  refine ⟨fun c => absurd c (by omega), fun _ => ⟨fun c => absurd c (by omega), fun _ => ⟨fun c => absurd c (by omega), fun _ => ⟨fun _ => ⟨(vp_iN (by omega)).mpr ⟨by omega, by omega⟩, ?_⟩, fun c => absurd (by omega) c⟩⟩⟩⟩
  rw [show nn (iN (5 * (v : Int) + 1 + w)) = 5 * v + 1 + w by rw [nn, nn_iN (by omega) (by omega)]; omega, hf _ (by omega), iN_of (f (5 * v + 1 + w)), l48, iN_sub]
  exact h
end Scr2
