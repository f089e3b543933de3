/-! ===== what PUT and ORDER are; the state of both ===== -/
def vsL (l : List (Nat → Int)) : Nat → Nat → Int := fun i => l.getD i (fun _ => 0)
def vsT (f : Nat → Int32) : Nat → Nat → Int := fun v => vd f v
def rowAt (f0 : Nat → Int32) (z0 : Nat) (f1 : Nat → Int32) (p a q b : Int) (v : Nat) : List (Nat → Int) := (if (v : Int) = p then [vd f1 a.toNat] else []) ++ ((if (v : Int) = q then [vd f1 b.toNat] else []) ++ (if v < z0 then [vd f0 v] else []))
/-- the verses up to place m (m of them are looked at), with the hard ones put in -/
def rowP (f0 : Nat → Int32) (z0 : Nat) (f1 : Nat → Int32) (p a q b : Int) : Nat → List (Nat → Int)
  | 0 => []
  | v + 1 => rowP f0 z0 f1 p a q b v ++ rowAt f0 z0 f1 p a q b v
def cand (k t p a q b : Int) : Nat → Int := fun j => match j with
  | 0 => k
  | 1 => t
  | 2 => p
  | 3 => a
  | 4 => q
  | _ => b
def att (R : Nat → Int) (f0 : Nat → Int32) (z0 : Nat) (f1 : Nat → Int32) (best : Nat → Int) (k p a q b : Int) : Nat → Int :=
  if tl R (vsL (rowP f0 z0 f1 p a q b (z0 + 1))) (rowP f0 z0 f1 p a q b (z0 + 1)).length 7 ≠ -1 ∧ tl R (vsL (rowP f0 z0 f1 p a q b (z0 + 1))) (rowP f0 z0 f1 p a q b (z0 + 1)).length 10 = 0 ∧ (best 0 = -1 ∨ tl R (vsL (rowP f0 z0 f1 p a q b (z0 + 1))) (rowP f0 z0 f1 p a q b (z0 + 1)).length 7 < best 1) then cand k (tl R (vsL (rowP f0 z0 f1 p a q b (z0 + 1))) (rowP f0 z0 f1 p a q b (z0 + 1)).length 7) p a q b else best
def fo {β : Type} (g : β → Nat → β) : Nat → Nat → β → β
  | 0, _, s => s
  | k + 1, i, s => fo g k (i + 1) (g s i)
theorem fo_s {β : Type} (g : β → Nat → β) (k i : Nat) (s : β) : fo g (k + 1) i s = fo g k (i + 1) (g s i) := rfl
def putOne (R : Nat → Int) (f0 : Nat → Int32) (z0 : Nat) (f1 : Nat → Int32) (z1 : Nat) (best : Nat → Int) : Nat → Int := fo (fun s p => fo (fun s h => att R f0 z0 f1 s 1 p h (-1) (-1)) z1 0 s) (z0 + 1) 0 best
def putTwo (R : Nat → Int) (f0 : Nat → Int32) (z0 : Nat) (f1 : Nat → Int32) (z1 : Nat) (best : Nat → Int) : Nat → Int := fo (fun s p => fo (fun s q => fo (fun s c => att R f0 z0 f1 s 2 p ((c / z1 : Nat) : Int) q ((c % z1 : Nat) : Int)) (z1 * z1) 0 s) (z0 + 1 - p) p s) (z0 + 1) 0 best
def put0 (R : Nat → Int) (f0 : Nat → Int32) (z0 : Nat) (f1 : Nat → Int32) : Nat → Int := att R f0 z0 f1 (fun _ => -1) 0 (-1) (-1) (-1) (-1)
def put1 (R : Nat → Int) (f0 : Nat → Int32) (z0 : Nat) (f1 : Nat → Int32) (z1 : Nat) : Nat → Int := if put0 R f0 z0 f1 0 = -1 then putOne R f0 z0 f1 z1 (put0 R f0 z0 f1) else put0 R f0 z0 f1
def putB (R : Nat → Int) (f0 : Nat → Int32) (z0 : Nat) (f1 : Nat → Int32) (z1 : Nat) : Nat → Int := if put1 R f0 z0 f1 z1 0 = -1 then putTwo R f0 z0 f1 z1 (put1 R f0 z0 f1 z1) else put1 R f0 z0 f1 z1
/-- all rows of the places in av, the least first -/
def pmS : Nat → List Nat → List (List Nat)
  | 0, _ => [[]]
  | k + 1, av => av.flatMap (fun v => (pmS k (av.erase v)).map (fun r => v :: r))
def rO9 (R : Nat → Int) : Nat → Int := fun j => if j = 4 then 0 else if j = 3 then 99 else R j
def rowV (f0 : Nat → Int32) (r : List Nat) : Nat → Nat → Int := vsL (r.map (vd f0))
/-- a row held against the best so far -/
def ordU (R : Nat → Int) (f0 : Nat → Int32) (s : Int × Int × List Nat) (r : List Nat) : Int × Int × List Nat :=
  if s.1 = -1 ∨ tl (rO9 R) (rowV f0 r) r.length 10 < s.1 ∨ (tl (rO9 R) (rowV f0 r) r.length 10 = s.1 ∧ tl (rO9 R) (rowV f0 r) r.length 7 < s.2.1) then (tl (rO9 R) (rowV f0 r) r.length 10, tl (rO9 R) (rowV f0 r) r.length 7, r) else s
def mn7 (z : Nat) : Nat := if z < 7 then z else 7
def ordB (R : Nat → Int) (f0 : Nat → Int32) (z0 : Nat) : Int × Int × List Nat := (pmS (mn7 z0) (List.range (mn7 z0))).foldl (ordU R f0) (-1, 0, [])
def ordA (R : Nat → Int) (f0 : Nat → Int32) (z0 : Nat) (i : Int) : Int := if i = -2 then (ordB R f0 z0).1 else if i = -1 then (ordB R f0 z0).2.1 else if i < z0 then ((ordB R f0 z0).2.2.getD i.toNat 0 : Nat) else -1
/-! the state: texts, their lengths, settings, SEEN (how many, breaths, verses), SHEETS (form, -1 LOST; size; items), the latest FINDING -/
abbrev SG : Type := (Nat → Nat → Int32) × (Nat → Nat) × (Nat → Int) × Nat × (Nat → Int) × (Nat → Int) × (Nat → Int) × (Nat → Nat) × (Nat → Nat → Int32) × Int
def sF (σ : SG) : Nat → Nat → Int32 := σ.1
def sN (σ : SG) : Nat → Nat := σ.2.1
def sR (σ : SG) : Nat → Int := σ.2.2.1
def sK (σ : SG) : Nat := σ.2.2.2.1
def sB (σ : SG) : Nat → Int := σ.2.2.2.2.1
def sV (σ : SG) : Nat → Int := σ.2.2.2.2.2.1
def sFm (σ : SG) : Nat → Int := σ.2.2.2.2.2.2.1
def sSz (σ : SG) : Nat → Nat := σ.2.2.2.2.2.2.2.1
def sIt (σ : SG) : Nat → Nat → Int32 := σ.2.2.2.2.2.2.2.2.1
def sLa (σ : SG) : Int := σ.2.2.2.2.2.2.2.2.2
def z0 (σ : SG) : Nat := szT (sF σ 0) (sN σ 0)
def z1 (σ : SG) : Nat := szT (sF σ 1) (sN σ 1)
def tcap (t : Nat) : Nat := if t = 0 then 59 else 19
/-- what every state keeps -/
def okS0 (σ : SG) : Prop := (∀ t, t < 2 → sN σ t ≤ tcap t) ∧ okR (sR σ) ∧ (0 ≤ sR σ 5 ∧ sR σ 5 ≤ 4095) ∧ sK σ ≤ 8 ∧ (∀ k, k < sK σ → (0 ≤ sB σ k ∧ sB σ k ≤ 299) ∧ (-1 ≤ sV σ k ∧ sV σ k ≤ 11)) ∧ (∀ s, s < 4 → -1 ≤ sFm σ s ∧ sFm σ s ≤ 2) ∧ (∀ s, s < 4 → sFm σ s ≠ -1 → sSz σ s ≤ 60) ∧ (0 ≤ sLa σ ∧ sLa σ ≤ 5)
/-- the reference holds the state -/
def RM (I : HP) (σ : SG) : Prop := isM I 0 (sF σ 0) (sN σ 0) ∧ isM I 1 (sF σ 1) (sN σ 1) ∧ (∀ r, r < 6 → I 67 r = iN (sR σ r)) ∧ I 58 28 = iN (sK σ) ∧ (∀ k, k < sK σ → I 78 (2 * k) = iN (sB σ k) ∧ I 78 (2 * k + 1) = iN (sV σ k)) ∧ (∀ s, s < 4 → I 59 s = iN (sFm σ s)) ∧ (∀ s, s < 4 → sFm σ s ≠ -1 → I 60 s = iN (sSz σ s) ∧ ∀ i, i < sSz σ s → I 61 (60 * s + i) = sIt σ s i) ∧ I 58 4 = iN (sLa σ)
/-- the class holds the state -/
def RX (I : HP) (σ : SG) : Prop := isS I 2 (sF σ 0) (sN σ 0) ∧ isS I 4 (sF σ 1) (sN σ 1) ∧ (∀ r, r < 6 → I 1 r = iN (sR σ r)) ∧ isTw I 6 (sR σ) (vsT (sF σ 0)) (z0 σ) ∧ (∀ j, j < 15 → (j < 4 ∨ 9 ≤ j) → j ≠ 13 → I 24 j = iN 0) ∧
  (I 0 9 ≠ 0 → ∀ k, k < 6 → I 41 k = iN (putB (sR σ) (sF σ 0) (z0 σ) (sF σ 1) (z1 σ) k)) ∧
  (I 0 10 ≠ 0 → I 42 7 = iN (ordB (sR σ) (sF σ 0) (z0 σ)).1 ∧ I 42 8 = iN (ordB (sR σ) (sF σ 0) (z0 σ)).2.1 ∧ ∀ k, k < 7 → I 44 k = iN (ordA (sR σ) (sF σ 0) (z0 σ) k)) ∧
  (I 46 2 = iN (sK σ) ∧ ∀ k, k < sK σ → I 47 k = iN (sB σ k) ∧ I 48 k = iN (sV σ k)) ∧
  (∀ s, s < 4 → I (50 + 2 * s) 1 = (if sFm σ s = -1 then 1 else 0) ∧ (sFm σ s ≠ -1 → I (50 + 2 * s) 2 = iN (sFm σ s) ∧ I (50 + 2 * s) 3 = iN (sSz σ s) ∧ ∀ i, i < sSz σ s → I (51 + 2 * s) i = sIt σ s i)) ∧ I 0 11 = iN (sLa σ)
/-- both hold it, and it is well -/
def INV (I : HP) (σ : SG) : Prop := okS0 σ ∧ RX I σ ∧ RM I σ
theorem RX_fr {I I' : HP} {σ : SG} (h : RX I σ) (e : ∀ a, a < 58 → I' a = I a) : RX I' σ := by
  obtain ⟨h1, h2, h3, h4, h5, h6, h7, h8, h9, h10⟩ := h
  refine ⟨isS_fr h1 (e 2 (by decide)) (e 3 (by decide)), isS_fr h2 (e 4 (by decide)) (e 5 (by decide)), ?_, ?_, ?_, ?_, ?_, ?_, ?_, ?_⟩
  · rw [e 1 (by decide)]; exact h3
  · obtain ⟨q1, q2, q3, q4, q5⟩ := h4
    refine ⟨q1, by rw [e 6 (by decide)]; exact q2, fun r hr => by rw [e 7 (by decide)]; exact q3 r hr, fun j hj => by rw [e 8 (by decide)]; exact q4 j hj, fun p hp => tM_fr (q5 p hp) (e _ ?_)⟩
    have : teN 6 = 12 := rfl
    omega
  · rw [e 24 (by decide)]; exact h5
  · rw [e 0 (by decide), e 41 (by decide)]; exact h6
  · rw [e 0 (by decide), e 42 (by decide), e 44 (by decide)]; exact h7
  · rw [e 46 (by decide), e 47 (by decide), e 48 (by decide)]; exact h8
  · intro s hs
    rw [e (50 + 2 * s) (by omega), e (51 + 2 * s) (by omega)]; exact h9 s hs
  · rw [e 0 (by decide)]; exact h10
/-- the reference's own cells that are the state -/
theorem RM_fr {I I' : HP} {σ : SG} (h : RM I σ) (e : ∀ a, a = 59 ∨ a = 60 ∨ a = 61 ∨ a = 63 ∨ a = 64 ∨ a = 67 ∨ a = 78 → I' a = I a) (e4 : I' 58 4 = I 58 4) (e28 : I' 58 28 = I 58 28) : RM I' σ := by
  obtain ⟨h1, h2, h3, h4, h5, h6, h7, h8⟩ := h
  refine ⟨isM_fr h1 (e 64 (by simp)) (e 63 (by simp)), isM_fr h2 (e 64 (by simp)) (e 63 (by simp)), ?_, ?_, ?_, ?_, ?_, ?_⟩
  · rw [e 67 (by simp)]; exact h3
  · rw [e28]; exact h4
  · rw [e 78 (by simp)]; exact h5
  · rw [e 59 (by simp)]; exact h6
  · rw [e 60 (by simp), e 61 (by simp)]; exact h7
  · rw [e4]; exact h8
/-- scratch of the reference -/
abbrev scC : List Nat := [62, 65, 66, 68, 69, 70, 71, 72, 73, 74, 75, 76, 77]
abbrev scS : List Nat := [7, 11, 20, 21, 22, 23, 26, 27]
theorem RM_sc {I I' : HP} {σ : SG} (h : RM I σ) (hf : frm scC scS I I') : RM I' σ := by
  refine RM_fr h (fun a ha => hf.1 a (by omega) ?_) (hf.2 4 (by decide)) (hf.2 28 (by decide))
  rcases ha with rfl | rfl | rfl | rfl | rfl | rfl | rfl <;> decide
theorem lo_sc {I I' : HP} (hf : frm scC scS I I') : ∀ a, a < 58 → I' a = I a := fun a ha => hf.1 a (by omega) (by simp; omega)
section Find
variable {G : CX} {I : HP} {σ : SG}
theorem z0_le (h : okS0 σ) : z0 σ ≤ 12 := by
  have := szT_bd (sF σ 0) (sN σ 0)
  have h2 := h.1 0 (by decide)
  simp only [tcap, if_true] at h2
  unfold z0
  omega
theorem z1_le (h : okS0 σ) : z1 σ ≤ 4 := by
  have := szT_bd (sF σ 1) (sN σ 1)
  have h2 := h.1 1 (by decide)
  simp only [tcap] at h2
  unfold z1
  simp at h2
  omega
theorem okVT (f : Nat → Int32) (n : Nat) : okVs (vsT f) (szT f n) := fun _ hp => vd_ok hp
/-- the row 0, 1, 2 .. -/
theorem s_plain {Q : HP → Prop} (h0 : okS0 σ) (h65 : I 65 0 = iN (z0 σ)) (ht : tOK I 0 (sF σ 0) (sN σ 0)) (h : ∀ I', frm [68] [11] I I' → rowOK I' (vsT (sF σ 0)) (z0 σ) → (∀ i, i < z0 σ → I' 68 i = iN i) → Q I') : RV G Y_X8_plain [.ref 58] I Q := by
  have hz := z0_le h0
  refine v_X8_plain ?_
  have loop : ∀ m i : Nat, i + m = z0 σ → ∀ I1, frm [68] [11] I I1 → I1 58 11 = iN (z0 σ) → (∀ q, q < i → I1 68 q = iN q) → GV G Y_X8_plain 12 [(0, .ref 58), (1, .int (iN i))] I1 Q := by
    intro m
    induction m with
    | zero =>
      intro i hi I1 hf h11 hq
      have hq' : ∀ i, i < z0 σ → I1 68 i = iN i := fun q hq2 => hq q (by omega)
      refine v_X8_plain_12 ⟨fun _ => h I1 hf ⟨h11, by omega, fun q hq2 => ⟨q, by omega, hq' q hq2, ?_⟩⟩ hq', fun c => absurd (by rw [h11, iN_le (by omega) (by omega)]; omega) c⟩
      have h66 : I1 66 = I 66 := hf.1 66 (by decide) (by decide)
      obtain ⟨t1, t2⟩ := ht q hq2
      rw [h66]
      have e : tp 0 q = 4 * q := by unfold tp; omega
      rw [e] at t1 t2
      exact ⟨t1 0 (by decide), t1 1 (by decide), t1 2 (by decide), t2⟩
    | succ m ih =>
      intro i hi I1 hf h11 hq
      refine v_X8_plain_12 ⟨fun c => absurd c (by rw [h11, iN_le (by omega) (by omega)]; omega), fun _ => ⟨(vp_iN (by omega)).mpr ⟨by omega, by omega⟩, ?_⟩⟩
      rw [show nn (iN (i : Int)) = i from nn_nat (by omega), l1, iN_add]
      refine ih (i + 1) (by omega) _ (frm_st hf (by decide) (by decide)) (by rw [st_ne1 (by decide)]; exact h11) (fun q hq2 => ?_)
      by_cases e : q = i
      · subst e; rw [st_self]
      · rw [st_ne2 e]; exact hq q (by omega)
  exact loop (z0 σ) 0 (by omega) _ (frm_s8 frm_rf (by decide)) (by rw [st_self]; exact h65) (fun q hq => by omega)
/-- what find() leaves -/
def mF (I : HP) (σ : SG) : Prop := I 65 0 = iN (z0 σ) ∧ I 65 1 = iN (z1 σ) ∧ tOK I 0 (sF σ 0) (sN σ 0) ∧ tOK I 1 (sF σ 1) (sN σ 1) ∧ rowOK I (vsT (sF σ 0)) (z0 σ) ∧ sOK I (sR σ) (vsT (sF σ 0)) (z0 σ)
theorem s_find {Q : HP → Prop} (h0 : okS0 σ) (hM : RM I σ) (h : ∀ I', frm scC scS I I' → RM I' σ → mF I' σ → Q I') : RV G Y_X8_find [.ref 58] I Q := by
  have hz := z0_le h0
  refine v_X8_find (s_readsText (t := 0) hM.1 (fun I1 f1 a1 b1 c1 d1 => ?_))
  have f1' : frm scC scS I I1 := frm_mo f1 (by decide) (by decide)
  have hM1 := RM_sc hM f1'
  refine s_readsText (t := 1) hM1.2.1 (fun I2 f2 a2 b2 c2 d2 => ?_)
  have f2' : frm scC scS I I2 := frm_tr f1' (frm_mo f2 (by decide) (by decide))
  have t0 : tOK I2 0 (sF σ 0) (sN σ 0) := by
    intro v hv
    have hvz : v < 12 := by have : z0 σ = szT (sF σ 0) (sN σ 0) := rfl; omega
    obtain ⟨t1, t2⟩ := c1 v hv
    refine ⟨fun k hk => ?_, ?_⟩
    · rw [d2 _ (Or.inl (by unfold tp; omega))]; exact t1 k hk
    · rw [d2 _ (Or.inl (by unfold tp; omega))]; exact t2
  have e65 : I2 65 0 = iN (z0 σ) := by rw [b2 0 (by decide)]; exact a1
  refine s_plain h0 e65 t0 (fun I3 f3 r3 _ => ?_)
  have f3' : frm scC scS I I3 := frm_tr f2' (frm_mo f3 (by decide) (by decide))
  have hM3 := RM_sc hM f3'
  rw [hM3.2.2.1 0 (by decide), hM3.2.2.1 4 (by decide), hM3.2.2.1 3 (by decide)]
  refine s_says r3 (okVT _ _) h0.2.1 (hM3.2.2.1 1 (by decide)) (hM3.2.2.1 2 (by decide)) (fun I4 f4 s4 => ?_)
  have f4' : frm scC scS I I4 := frm_tr f3' (frm_mo f4 (by decide) (by decide))
  have g65 : I4 65 = I2 65 := by rw [f4.1 65 (by decide) (by decide), f3.1 65 (by decide) (by decide)]
  have g66 : I4 66 = I2 66 := by rw [f4.1 66 (by decide) (by decide), f3.1 66 (by decide) (by decide)]
  refine h I4 f4' (RM_sc hM f4') ⟨by rw [g65]; exact e65, by rw [g65]; exact a2, fun v hv => by rw [g66]; exact t0 v hv, fun v hv => by rw [g66]; exact c2 v hv, rowOK_fr r3 (f4.2 11 (by decide)) (f4.1 68 (by decide) (by decide)) (f4.1 66 (by decide) (by decide)), s4⟩
end Find
