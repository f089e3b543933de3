/-! ===== breaths ===== -/
/-- the first place from i on (k places) of which P is true; else -1 -/
def fnd (P : Nat → Bool) : Nat → Nat → Int
  | 0, _ => -1
  | k + 1, i => if P i = true then i else fnd P k (i + 1)
theorem fnd_s (P : Nat → Bool) (k i : Nat) : fnd P (k + 1) i = if P i = true then (i : Int) else fnd P k (i + 1) := rfl
theorem fnd_bd (P : Nat → Bool) : ∀ k i, -1 ≤ fnd P k i ∧ fnd P k i < i + k
  | 0, i => by unfold fnd; omega
  | k + 1, i => by
    have := fnd_bd P k (i + 1)
    rw [fnd_s]
    split <;> omega
theorem fnd_congr {P P' : Nat → Bool} : ∀ k i, (∀ j, i ≤ j → j < i + k → P j = P' j) → fnd P k i = fnd P' k i
  | 0, _, _ => rfl
  | k + 1, i, h => by
    rw [fnd_s, fnd_s, h i (Nat.le_refl _) (by omega), fnd_congr k (i + 1) (fun j a b => h j (by omega) (by omega))]
/-- verse p is said in breath b -/
def sdB (R : Nat → Int) (vs : Nat → Nat → Int) (b : Int) (p : Nat) : Bool := decide (tl R vs (p + 1) 4 ≠ -1 ∧ tl R vs (p + 1) 4 ≤ b ∧ b < tl R vs (p + 1) 5)
/-- the god has verse p in hand in breath b -/
def hdB (R : Nat → Int) (vs : Nat → Nat → Int) (b : Int) (p : Nat) : Bool := decide (tl R vs (p + 1) 4 ≠ -1 ∧ tl R vs (p + 1) 5 ≤ b ∧ b < (if tl R vs (p + 1) 7 = -1 then tl R vs (p + 1) 6 else tl R vs (p + 1) 7))
def jdB (R : Nat → Int) (vs : Nat → Nat → Int) (p : Nat) : Bool := decide (tl R vs (p + 1) 8 ≠ 0 ∨ tl R vs (p + 1) 7 = -1)
/-- he says one of the first n, no list, in breath b -/
def bsy (R : Nat → Int) (vs : Nat → Nat → Int) (b : Int) : Nat → Bool
  | 0 => false
  | p + 1 => bsy R vs b p || (sdB R vs b p && decide (vs p 0 ≠ 2))
/-- how many breaths ahead of b he says one of the first n, no list -/
def cl1 (R : Nat → Int) (vs : Nat → Nat → Int) (b : Int) (p : Nat) : Int := if tl R vs (p + 1) 4 ≠ -1 ∧ vs p 0 ≠ 2 then (if b ≤ tl R vs (p + 1) 4 then 0 else if tl R vs (p + 1) 5 ≤ b then vs p 2 else b - tl R vs (p + 1) 4) else 0
def sS (R : Nat → Int) (vs : Nat → Nat → Int) (b : Int) : Nat → Int
  | 0 => 0
  | p + 1 => sS R vs b p + cl1 R vs b p
/-- the slots of a verse that begins -/
theorem tl_bg {R : Nat → Int} {vs : Nat → Nat → Int} {p : Nat} (h : tl R vs (p + 1) 4 ≠ -1) : tl R vs p 7 ≠ -1 ∧ tl R vs (p + 1) 4 = tl R vs p 7 + pzT (tl R vs (p + 1) 9) (tl R vs p 13) ∧ tl R vs (p + 1) 5 = tl R vs (p + 1) 4 + vs p 2 ∧ tl R vs (p + 1) 6 = tl R vs (p + 1) 5 + tl R vs (p + 1) 3 ∧ tl R vs (p + 1) 8 = pzT (tl R vs (p + 1) 9) (tl R vs p 13) ∧ tl R vs (p + 1) 14 = tl R vs p 13 + pzT (tl R vs (p + 1) 9) (tl R vs p 13) - tl R vs (p + 1) 9 := by
  have eT : tl R vs (p + 1) = tN2 R (tl R vs p) (vs p 0) (mkC (vs p 0) (vs p 1) (cntK vs (vs p 0) p)) (vs p 2) (knC (vs p 0) (vs p 3) (cntK vs (vs p 0) p)) (wrT (vs p 0) (vs p 2)) (tl R vs p 9 + mkC (vs p 0) (vs p 1) (cntK vs (vs p 0) p)) (bgT R (tl R vs p) (tl R vs p 9 + mkC (vs p 0) (vs p 1) (cntK vs (vs p 0) p))) (cgT R (tl R vs p) (wrT (vs p 0) (vs p 2))) (okT R (tl R vs p) (wrT (vs p 0) (vs p 2))) := rfl
  cases hb : bgT R (tl R vs p) (tl R vs p 9 + mkC (vs p 0) (vs p 1) (cntK vs (vs p 0) p)) with
  | false => rw [eT, hb] at h; exact absurd rfl h
  | true =>
    have h7 : tl R vs p 7 ≠ -1 := by
      simp only [bgT, decide_eq_true_eq] at hb
      exact hb.1
    rw [hb] at eT
    refine ⟨h7, ?_, ?_, ?_, ?_, ?_⟩ <;> rw [eT] <;> rfl
theorem tl_nb {R : Nat → Int} {vs : Nat → Nat → Int} {p : Nat} (h0 : 0 ≤ tl R vs p 13) (h7 : -1 ≤ tl R vs p 7) (h : tl R vs (p + 1) 4 = -1) : tl R vs (p + 1) 5 = -1 ∧ tl R vs (p + 1) 6 = -1 ∧ tl R vs (p + 1) 7 = -1 ∧ tl R vs (p + 1) 8 = -1 := by
  have eT : tl R vs (p + 1) = tN2 R (tl R vs p) (vs p 0) (mkC (vs p 0) (vs p 1) (cntK vs (vs p 0) p)) (vs p 2) (knC (vs p 0) (vs p 3) (cntK vs (vs p 0) p)) (wrT (vs p 0) (vs p 2)) (tl R vs p 9 + mkC (vs p 0) (vs p 1) (cntK vs (vs p 0) p)) (bgT R (tl R vs p) (tl R vs p 9 + mkC (vs p 0) (vs p 1) (cntK vs (vs p 0) p))) (cgT R (tl R vs p) (wrT (vs p 0) (vs p 2))) (okT R (tl R vs p) (wrT (vs p 0) (vs p 2))) := rfl
  cases hb : bgT R (tl R vs p) (tl R vs p 9 + mkC (vs p 0) (vs p 1) (cntK vs (vs p 0) p)) with
  | false => rw [hb] at eT; rw [eT]; exact ⟨rfl, rfl, rfl, rfl⟩
  | true =>
    exfalso
    rw [eT, hb] at h
    have hpz := (pzT_bd (tl R vs p 9 + mkC (vs p 0) (vs p 1) (cntK vs (vs p 0) p)) (tl R vs p 13)).1
    simp only [bgT, decide_eq_true_eq] at hb
    have h4 : tl R vs p 7 + pzT (tl R vs p 9 + mkC (vs p 0) (vs p 1) (cntK vs (vs p 0) p)) (tl R vs p 13) = -1 := h
    omega
/-- a verse that is written -/
theorem tl_wr {R : Nat → Int} {vs : Nat → Nat → Int} {p : Nat} (h : tl R vs (p + 1) 7 ≠ -1) : tl R vs (p + 1) 4 ≠ -1 ∨ tl R vs p 7 + pzT (tl R vs (p + 1) 9) (tl R vs p 13) = -1 := by
  have eT : tl R vs (p + 1) = tN2 R (tl R vs p) (vs p 0) (mkC (vs p 0) (vs p 1) (cntK vs (vs p 0) p)) (vs p 2) (knC (vs p 0) (vs p 3) (cntK vs (vs p 0) p)) (wrT (vs p 0) (vs p 2)) (tl R vs p 9 + mkC (vs p 0) (vs p 1) (cntK vs (vs p 0) p)) (bgT R (tl R vs p) (tl R vs p 9 + mkC (vs p 0) (vs p 1) (cntK vs (vs p 0) p))) (cgT R (tl R vs p) (wrT (vs p 0) (vs p 2))) (okT R (tl R vs p) (wrT (vs p 0) (vs p 2))) := rfl
  cases hb : bgT R (tl R vs p) (tl R vs p 9 + mkC (vs p 0) (vs p 1) (cntK vs (vs p 0) p)) with
  | false => rw [eT, hb] at h; exact absurd rfl h
  | true =>
    rw [hb] at eT
    rw [eT]
    by_cases c : tl R vs p 7 + pzT (tl R vs p 9 + mkC (vs p 0) (vs p 1) (cntK vs (vs p 0) p)) (tl R vs p 13) = -1
    · exact Or.inr c
    · exact Or.inl c
section Time
variable {R : Nat → Int} {vs : Nat → Nat → Int} {n : Nat}
theorem kn_bd (hv : okVs vs n) {p : Nat} (hp : p < n) : 0 ≤ tl R vs (p + 1) 3 ∧ tl R vs (p + 1) 3 ≤ 9 := knC_bd (k := vs p 0) (hv p hp).2.2.2 (by omega)
/-- what a written verse leaves behind -/
theorem wr_le (hR : okR R) (hv : okVs vs n) {p : Nat} (hp : p < n) (hn : n ≤ 14) (h : tl R vs (p + 1) 7 ≠ -1) : tl R vs (p + 1) 4 ≠ -1 ∧ tl R vs (p + 1) 5 ≤ tl R vs (p + 1) 7 ∧ tl R vs (p + 1) 6 ≤ tl R vs (p + 1) 7 ∧ tl R vs (p + 1) 13 - tl R vs (p + 1) 7 = tl R vs p 13 - tl R vs p 7 - (if vs p 0 = 2 then 0 else vs p 2) := by
  have hb := bd_tl hR hv p (by omega) (by omega)
  have hpz := pzT_bd (tl R vs (p + 1) 9) (tl R vs p 13)
  have h4 : tl R vs (p + 1) 4 ≠ -1 := by
    rcases tl_wr h with h1 | h1
    · exact h1
    · intro c
      exact h (tl_nb hb.2.2.2.2.1.1 hb.2.2.2.2.2.1 c).2.2.1
  obtain ⟨g7, g4, g5, g6, g8, g14⟩ := tl_bg h4
  obtain ⟨k0, m0, s0, q0⟩ := hv p hp
  have hk := kn_bd (R := R) hv hp
  have hw := wrT_bd (k := vs p 0) s0
  obtain ⟨-, -, r2, -, -⟩ := hR
  have eT : tl R vs (p + 1) = tN2 R (tl R vs p) (vs p 0) (mkC (vs p 0) (vs p 1) (cntK vs (vs p 0) p)) (vs p 2) (knC (vs p 0) (vs p 3) (cntK vs (vs p 0) p)) (wrT (vs p 0) (vs p 2)) (tl R vs p 9 + mkC (vs p 0) (vs p 1) (cntK vs (vs p 0) p)) (bgT R (tl R vs p) (tl R vs p 9 + mkC (vs p 0) (vs p 1) (cntK vs (vs p 0) p))) (cgT R (tl R vs p) (wrT (vs p 0) (vs p 2))) (okT R (tl R vs p) (wrT (vs p 0) (vs p 2))) := rfl
  have e3 : tl R vs (p + 1) 3 = knC (vs p 0) (vs p 3) (cntK vs (vs p 0) p) := rfl
  have e9 : tl R vs (p + 1) 9 = tl R vs p 9 + mkC (vs p 0) (vs p 1) (cntK vs (vs p 0) p) := rfl
  refine ⟨h4, ?_⟩
  cases hb1 : bgT R (tl R vs p) (tl R vs p 9 + mkC (vs p 0) (vs p 1) (cntK vs (vs p 0) p)) with
  | false => rw [eT, hb1] at h; exact absurd rfl h
  | true =>
    cases ho : okT R (tl R vs p) (wrT (vs p 0) (vs p 2)) with
    | false => rw [eT, hb1, ho] at h; exact absurd rfl h
    | true =>
      have x7 : tl R vs (p + 1) 7 = tl R vs p 7 + pzT (tl R vs (p + 1) 9) (tl R vs p 13) + vs p 2 + tl R vs (p + 1) 3 + (if cgT R (tl R vs p) (wrT (vs p 0) (vs p 2)) = true then R 2 else 0) + wrT (vs p 0) (vs p 2) := by rw [e9, e3, eT, hb1, ho]; rfl
      have x13 : tl R vs (p + 1) 13 = tl R vs p 13 + pzT (tl R vs (p + 1) 9) (tl R vs p 13) + (if vs p 0 = 2 then vs p 2 else 0) + tl R vs (p + 1) 3 + ((if cgT R (tl R vs p) (wrT (vs p 0) (vs p 2)) = true then R 2 else 0) + wrT (vs p 0) (vs p 2)) := by rw [e9, e3, eT, hb1, ho]; rfl
      obtain ⟨ch, ech⟩ : ∃ ch, ch = (if cgT R (tl R vs p) (wrT (vs p 0) (vs p 2)) = true then R 2 else 0) := ⟨_, rfl⟩
      have hch : 0 ≤ ch := by rw [ech]; split <;> omega
      rw [← ech] at x7 x13
      by_cases c : vs p 0 = 2
      · rw [if_pos c] at x13 ⊢; omega
      · rw [if_neg c] at x13 ⊢; omega
/-- SAY of the first p verses that are no lists -/
def nS (vs : Nat → Nat → Int) : Nat → Int
  | 0 => 0
  | p + 1 => nS vs p + (if vs p 0 = 2 then 0 else vs p 2)
theorem ord (hR : okR R) (hv : okVs vs n) (hn : n ≤ 14) : ∀ q, q ≤ n → tl R vs q 7 ≠ -1 → (∀ p, p < q → tl R vs (p + 1) 4 ≠ -1 ∧ tl R vs (p + 1) 5 ≤ tl R vs q 7) ∧ tl R vs q 13 = R 0 + tl R vs q 7 - nS vs q ∧ 0 ≤ tl R vs q 7
  | 0, _, _ => ⟨fun p hp => by omega, by show R 0 = R 0 + 0 - 0; omega, by show (0 : Int) ≤ 0; omega⟩
  | q + 1, hq, h7 => by
    obtain ⟨w1, w2, w3, w4⟩ := wr_le hR hv (by omega) hn h7
    have g7 := (tl_bg w1).1
    obtain ⟨i1, i2, i3⟩ := ord hR hv hn q (by omega) g7
    have g := tl_bg w1
    have hpz := pzT_bd (tl R vs (q + 1) 9) (tl R vs q 13)
    have s0 := (hv q (by omega)).2.2.1
    refine ⟨fun p hp => ?_, ?_, by omega⟩
    · by_cases c : p = q
      · subst c; exact ⟨w1, w2⟩
      · have := i1 p (by omega)
        exact ⟨this.1, by omega⟩
    · unfold nS
      split at w4 <;> rename_i c
      · rw [if_pos c]; omega
      · rw [if_neg c]; omega
/-- a verse begins behind all that are ahead of it -/
theorem bg_ord (hR : okR R) (hv : okVs vs n) (hn : n ≤ 14) {q : Nat} (hq : q < n) (h : tl R vs (q + 1) 4 ≠ -1) : 0 ≤ tl R vs (q + 1) 4 ∧ (∀ p, p < q → tl R vs (p + 1) 4 ≠ -1 ∧ tl R vs (p + 1) 5 ≤ tl R vs (q + 1) 4) ∧ tl R vs (q + 1) 14 = R 0 + tl R vs (q + 1) 4 - nS vs q - tl R vs (q + 1) 9 := by
  obtain ⟨g7, g4, g5, g6, g8, g14⟩ := tl_bg h
  obtain ⟨i1, i2, i3⟩ := ord hR hv hn q (by omega) g7
  have hpz := pzT_bd (tl R vs (q + 1) 9) (tl R vs q 13)
  refine ⟨by omega, fun p hp => ?_, by omega⟩
  have := i1 p hp
  exact ⟨this.1, by omega⟩
theorem sS_0 (hR : okR R) (hv : okVs vs n) (hn : n ≤ 14) : ∀ p, p ≤ n → sS R vs 0 p = 0
  | 0, _ => rfl
  | p + 1, hp => by
    unfold sS cl1
    rw [sS_0 hR hv hn p (by omega)]
    split
    · rename_i c
      have := (bg_ord hR hv hn (by omega) c.1).1
      rw [if_pos (by omega)]
      rfl
    · rfl
theorem sS_step (hR : okR R) (hv : okVs vs n) (hn : n ≤ 14) (b : Int) (hb : 0 ≤ b) : ∀ p, p ≤ n → sS R vs (b + 1) p = sS R vs b p + (if bsy R vs b p = true then 1 else 0)
  | 0, _ => rfl
  | p + 1, hp => by
    have ih := sS_step hR hv hn b hb p (by omega)
    unfold sS bsy
    rw [ih]
    by_cases c : tl R vs (p + 1) 4 ≠ -1 ∧ vs p 0 ≠ 2
    · obtain ⟨o1, o2, o3⟩ := bg_ord hR hv hn (by omega) c.1
      obtain ⟨g7, g4, g5, g6, g8, g14⟩ := tl_bg c.1
      have s0 := (hv p (by omega)).2.2.1
      unfold cl1
      rw [if_pos c, if_pos c]
      by_cases d : tl R vs (p + 1) 4 ≤ b ∧ b < tl R vs (p + 1) 5
      · have e1 : sdB R vs b p = true := decide_eq_true ⟨c.1, d.1, d.2⟩
        have e2 : ∀ q, q ≤ p → bsy R vs b q = false := by
          intro q
          induction q with
          | zero => intro _; rfl
          | succ q ihq =>
            intro hqp
            unfold bsy
            rw [ihq (by omega)]
            have := o2 q (by omega)
            have e3 : sdB R vs b q = false := decide_eq_false (by omega)
            rw [e3]; rfl
        rw [e2 p (Nat.le_refl _), e1]
        simp only [Bool.false_or, Bool.true_and, decide_eq_true_eq, if_pos c.2]
        simp
        repeat' split
        all_goals omega
      · have e1 : sdB R vs b p = false := decide_eq_false (by omega)
        rw [e1]
        simp
        repeat' split
        all_goals omega
    · unfold cl1
      rw [if_neg c, if_neg c]
      have e1 : (sdB R vs b p && decide (vs p 0 ≠ 2)) = false := by
        by_cases d : vs p 0 = 2
        · simp [d]
        · have : tl R vs (p + 1) 4 = -1 := by
            by_cases q : tl R vs (p + 1) 4 = -1
            · exact q
            · exact absurd ⟨q, d⟩ c
          have : sdB R vs b p = false := decide_eq_false (by omega)
          rw [this]; rfl
      rw [e1]
      simp
/-- ahead of a verse's beginning all that are said ahead of it are said, and none behind -/
theorem sS_at (hR : okR R) (hv : okVs vs n) (hn : n ≤ 14) {q : Nat} (hq : q < n) (h : tl R vs (q + 1) 4 ≠ -1) : sS R vs (tl R vs (q + 1) 4) n = nS vs q := by
  obtain ⟨o1, o2, o3⟩ := bg_ord hR hv hn hq h
  have lo : ∀ p, p ≤ q → sS R vs (tl R vs (q + 1) 4) p = nS vs p := by
    intro p
    induction p with
    | zero => intro _; rfl
    | succ p ih =>
      intro hp
      unfold sS nS
      rw [ih (by omega)]
      have := o2 p (by omega)
      obtain ⟨g7, g4, g5, g6, g8, g14⟩ := tl_bg this.1
      have s0 := (hv p (by omega)).2.2.1
      unfold cl1
      by_cases c : vs p 0 = 2
      · rw [if_neg (by simp [c]), if_pos c]
      · rw [if_pos ⟨this.1, c⟩, if_neg c, if_neg (by omega), if_pos this.2]
  have hi : ∀ m, q + m ≤ n → sS R vs (tl R vs (q + 1) 4) (q + m) = nS vs q := by
    intro m
    induction m with
    | zero => intro _; exact lo q (Nat.le_refl _)
    | succ m ih =>
      intro hm
      show sS R vs (tl R vs (q + 1) 4) (q + m) + cl1 R vs (tl R vs (q + 1) 4) (q + m) = nS vs q
      rw [ih (by omega)]
      unfold cl1
      split
      · rename_i c
        have : tl R vs (q + 1) 4 ≤ tl R vs (q + m + 1) 4 := by
          by_cases e : m = 0
          · subst e; exact Int.le_refl _
          · have := (bg_ord hR hv hn (show q + m < n by omega) c.1).2.1 q (by omega)
            obtain ⟨g7, g4, g5, g6, g8, g14⟩ := tl_bg h
            have s0 := (hv q hq).2.2.1
            omega
        rw [if_pos this]
        omega
      · omega
  have := hi (n - q) (by omega)
  rw [show q + (n - q) = n by omega] at this
  exact this
/-- which verse he makes in breath b -/
def mdI (R : Nat → Int) (vs : Nat → Nat → Int) (n : Nat) (b : Int) : Int := if bsy R vs b n = true then -1 else fnd (fun p => decide (R 0 + b - sS R vs b n < tl R vs (p + 1) 9)) n 0
theorem sS_bd (hR : okR R) (hv : okVs vs n) (hn : n ≤ 14) (b : Int) (hb : 0 ≤ b) : ∀ p, p ≤ n → 0 ≤ sS R vs b p ∧ sS R vs b p ≤ 9 * p
  | 0, _ => by unfold sS; omega
  | p + 1, hp => by
    have ih := sS_bd hR hv hn b hb p (by omega)
    have s0 := (hv p (by omega)).2.2.1
    unfold sS cl1
    split
    · rename_i c
      obtain ⟨g7, g4, g5, g6, g8, g14⟩ := tl_bg c.1
      repeat' split
      all_goals omega
    · omega
end Time
