/-! ===== calls of the class: lead, leads, seen, forget ===== -/
section XLead
variable {G : CX} {I : HP} {σ : SG}
/-- the trial poem's cells are free -/
theorem RX_tr {I' : HP} (hX : RX I σ) (e : ∀ a, a < 58 → a < 22 ∨ 40 ≤ a → I' a = I a) (hZ : stZ I' 22) : RX I' σ := by
  obtain ⟨h1, h2, h3, h4, h5, h6, h7, h8, h9, h10⟩ := hX
  have e := fun a (ha : a < 22 ∨ (40 ≤ a ∧ a < 58)) => e a (by omega) (by omega)
  refine ⟨isS_fr h1 (e 2 (by decide)) (e 3 (by decide)), isS_fr h2 (e 4 (by decide)) (e 5 (by decide)), ?_, ?_, hZ, ?_, ?_, ?_, ?_, ?_⟩
  · rw [e 1 (by decide)]; exact h3
  · obtain ⟨q1, q2, q3, q4, q5⟩ := h4
    refine ⟨q1, by rw [e 6 (by decide)]; exact q2, fun r hr => by rw [e 7 (by decide)]; exact q3 r hr, fun j hj => by rw [e 8 (by decide)]; exact q4 j hj, fun p hp => tM_fr (q5 p hp) (e _ ?_)⟩
    have : teN 6 = 12 := rfl
    omega
  · rw [e 0 (by decide), e 41 (by decide)]; exact h6
  · rw [e 0 (by decide), e 42 (by decide), e 44 (by decide)]; exact h7
  · rw [e 46 (by decide), e 47 (by decide), e 48 (by decide)]; exact h8
  · intro s hs
    rw [e (50 + 2 * s) (by omega), e (51 + 2 * s) (by omega)]; exact h9 s hs
  · rw [e 0 (by decide)]; exact h10
theorem te22 : teN 22 = 14 := rfl
theorem fr22 {I' : HP} (f : frT 22 I I') : ∀ a, a < 22 ∨ 40 ≤ a → I' a = I a := fun a ha => f a (by rw [te22]; omega)
/-- the trial poem told with another LEAD -/
theorem s_trial {Q : HP → Prop} {l : Int} (h0 : okS0 σ) (hl : 0 ≤ l ∧ l ≤ 99) (hX : RX I σ) (h : ∀ I', (∀ a, a < 22 ∨ 40 ≤ a → I' a = I a) → RX I' σ → isTl I' 22 (rL (sR σ) l) (vsT (sF σ 0)) (z0 σ) → Q I') : RV G Y_X5_open [.ref 22, .ref 1] I (fun I2 => RV G Y_X5_changeLead [.ref 22, .int (iN l)] I2 (fun I3 => RV G Y_X5_addAll [.ref 22, .ref 2] I3 (fun I4 => Q I4))) := by
  have hz := z0_le h0
  have hT : isTel 22 := Or.inr rfl
  refine s_open (R := sR σ) (vs := vsT (sF σ 0)) hT (fun r hr => hX.2.2.1 r (by omega)) hX.2.2.2.2.1 (fun I1 f1 L1 => ?_)
  refine s_changeLead hT L1 (fun I2 f2 L2 => ?_)
  have f12 := frT_tr f1 f2
  refine s_addAll hT (Or.inl rfl) L2 (okR_L h0.2.1 hl) (isS_fr hX.1 (fr22 f12 2 (by decide)) (fr22 f12 3 (by decide))) (show szT (sF σ 0) (sN σ 0) ≤ teN 22 from by rw [te22]; have : z0 σ = szT (sF σ 0) (sN σ 0) := rfl; omega) (fun v _ => rfl) (fun I3 f3 L3 => ?_)
  have f := fr22 (frT_tr f12 f3)
  exact h I3 f (RX_tr hX (fun a _ ha => f a ha) (isTl_Z L3)) L3
theorem X_lead {Q : HP → Int32 → Prop} (h0 : okS0 σ) (hX : RX I σ) (h : XP I σ Q (an_lead σ)) : RI G Y_X7_lead [.ref 0] I Q := by
  have hT : isTel 22 := Or.inr rfl
  have hv : okVs (vsT (sF σ 0)) (z0 σ) := okVT _ _
  refine v_X7_lead ?_
  have loop : ∀ m l : Nat, l + m = 100 → ∀ I1, (∀ a, 58 ≤ a → I1 a = I a) → RX I1 σ → XP I σ Q (iN (fnd (fun l => whB (rL (sR σ) l) (vsT (sF σ 0)) (z0 σ)) m l)) → GI G Y_X7_lead 2 [(0, .ref 0), (1, .int (iN l))] I1 Q := by
    intro m
    induction m with
    | zero =>
      intro l hl I1 e1 hX1 hq
      exact v_X7_lead_2 ⟨fun _ => hq I1 e1 hX1, fun c => absurd (by rw [l99, iN_lt (by omega) (by omega)]; omega) c⟩
    | succ m ih =>
      intro l hl I1 e1 hX1 hq
      refine v_X7_lead_2 ⟨fun c => absurd c (by rw [l99, iN_lt (by omega) (by omega)]; omega), fun _ => s_trial h0 (by omega) hX1 (fun I2 f2 hX2 L2 => s_isWhole hT L2 (okR_L h0.2.1 (by omega)) hv ?_)⟩
      have e2 : ∀ a, 58 ≤ a → I2 a = I a := fun a ha => (f2 a (by omega)).trans (e1 a ha)
      rw [bI_0, show iN (l : Int) + (1 : Int32) = iN ((l + 1 : Nat) : Int) from iN_add l 1]
      rw [fnd_s] at hq
      refine ⟨fun c => ?_, fun c => ?_⟩
      · rw [if_neg (by rw [c]; decide)] at hq
        exact ih (l + 1) (by omega) I2 e2 hX2 hq
      · rw [if_pos (by simpa using c)] at hq
        exact hq I2 e2 hX2
  exact loop 100 0 (by omega) I (fun _ _ => rfl) hX h
theorem mdI_bd {R : Nat → Int} {vs : Nat → Nat → Int} {n : Nat} {b : Int} : -1 ≤ mdI R vs n b ∧ mdI R vs n b ≤ n := by
  unfold mdI
  split
  · omega
  · have := fnd_bd (fun p => decide (R 0 + b - sS R vs b n < tl R vs (p + 1) 9)) n 0
    omega
theorem fitS_no {l k : Nat} (h : fitS σ l k = false) : ∀ m, fitS σ l (k + m) = false
  | 0 => h
  | m + 1 => by
    show (fitS σ l (k + m) && decide (mdI (rL (sR σ) l) (vsT (sF σ 0)) (z0 σ) (sB σ (k + m)) = sV σ (k + m))) = false
    rw [fitS_no h m, Bool.false_and]
theorem s_fit {Q : HP → Bool → Prop} {l : Nat} (h0 : okS0 σ) (hX : RX I σ) (hl : l ≤ 30) (L : isTl I 22 (rL (sR σ) l) (vsT (sF σ 0)) (z0 σ)) (h : Q I (fitS σ l (sK σ))) : RZ G Y_X4_fit [.ref 46, .ref 22] I Q := by
  have hT : isTel 22 := Or.inr rfl
  have hv : okVs (vsT (sF σ 0)) (z0 σ) := okVT _ _
  have hz := z0_le h0
  have hk8 := h0.2.2.2.1
  obtain ⟨s2, sk⟩ := hX.2.2.2.2.2.2.2.1
  refine v_X4_fit hT ?_
  have loop : ∀ m k : Nat, k + m = sK σ → fitS σ l k = true → GZ G Y_X4_fit 2 [(0, .ref 46), (1, .ref 22), (2, .int (iN k))] I Q := by
    intro m
    induction m with
    | zero =>
      intro k hk hf
      refine v_X4_fit_2 hT ⟨fun _ => ?_, fun c => absurd (by rw [s2, iN_le (by omega) (by omega)]; omega) c⟩
      rw [← show k = sK σ by omega, hf] at h; exact h
    | succ m ih =>
      intro k hk hf
      obtain ⟨b1, b2⟩ := h0.2.2.2.2.1 k (by omega)
      obtain ⟨c1, c2⟩ := sk k (by omega)
      have md := mdI_bd (R := rL (sR σ) l) (vs := vsT (sF σ 0)) (n := z0 σ) (b := sB σ k)
      refine v_X4_fit_2 hT ⟨fun c => absurd c (by rw [s2, iN_le (by omega) (by omega)]; omega), fun _ => ⟨fun c => absurd c (by rw [l8, iN_le (by omega) (by omega)]; omega), fun _ => ⟨(vp_iN (by omega)).mpr ⟨by omega, by omega⟩, ?_⟩⟩⟩
      rw [show nn (iN (k : Int)) = k from nn_nat (by omega), c1]
      refine s_madeIn hT (isTl_w L) (okR_L h0.2.1 (by omega)) hv (by omega) ?_
      rw [c2, iN_eq (by omega) (by omega), show iN (k : Int) + (1 : Int32) = iN ((k + 1 : Nat) : Int) from iN_add k 1]
      have eS : fitS σ l (k + 1) = (fitS σ l k && decide (mdI (rL (sR σ) l) (vsT (sF σ 0)) (z0 σ) (sB σ k) = sV σ k)) := rfl
      refine ⟨fun c => ih (k + 1) (by omega) (by rw [eS, hf, decide_eq_true c]; rfl), fun c => ?_⟩
      have := fitS_no (σ := σ) (l := l) (k := k + 1) (by rw [eS, decide_eq_false c, Bool.and_false]) m
      rw [show k + 1 + m = sK σ by omega] at this
      rw [this] at h; exact h
  exact loop (sK σ) 0 (by omega) rfl
theorem X_leads {Q : HP → Int32 → Prop} (h0 : okS0 σ) (hX : RX I σ) (h : XP I σ Q (an_leads σ)) : RI G Y_X7_leads [.ref 0] I Q := by
  refine v_X7_leads ?_
  have loop : ∀ m l : Nat, l + m = 31 → ∀ I1 x, (∀ a, 58 ≤ a → I1 a = I a) → RX I1 σ → XP I σ Q (fo (ldS σ) m l x) → GI G Y_X7_leads 4 [(0, .ref 0), (1, .int x), (2, .int (iN l))] I1 Q := by
    intro m
    induction m with
    | zero =>
      intro l hl I1 x e1 hX1 hq
      exact v_X7_leads_4 ⟨fun _ => hq I1 e1 hX1, fun c => absurd (by rw [l30, iN_lt (by omega) (by omega)]; omega) c⟩
    | succ m ih =>
      intro l hl I1 x e1 hX1 hq
      refine v_X7_leads_4 ⟨fun c => absurd c (by rw [l30, iN_lt (by omega) (by omega)]; omega), fun _ => s_trial h0 (by omega) hX1 (fun I2 f2 hX2 L2 => s_fit h0 hX2 (by omega) L2 ?_)⟩
      have e2 : ∀ a, 58 ≤ a → I2 a = I a := fun a ha => (f2 a (by omega)).trans (e1 a ha)
      rw [bI_0, show iN (l : Int) + (1 : Int32) = iN ((l + 1 : Nat) : Int) from iN_add l 1]
      rw [fo_s] at hq
      unfold ldS at hq
      refine ⟨fun c => ?_, fun c => ?_⟩
      · rw [c] at hq
        exact ih (l + 1) (by omega) I2 _ e2 hX2 hq
      · rw [show fitS σ l (sK σ) = true by simpa using c] at hq
        exact ih (l + 1) (by omega) I2 _ e2 hX2 hq
  exact loop 31 0 (by omega) I 0 (fun _ _ => rfl) hX h
/-! SEEN -/
theorem s_mayBe {Q : HP → Bool → Prop} {a b : Int32} (h : Q I (okSn a b)) : RZ G Y_X4_mayBe [.int a, .int b] I Q := by
  refine v_X4_mayBe ?_
  obtain ⟨x, hx, ea, ex⟩ := i32 a
  obtain ⟨y, hy, eb, ey⟩ := i32 b
  have e : okSn a b = (decide (0 ≤ x ∧ x ≤ 299) && decide (-1 ≤ y ∧ y ≤ 11)) := by unfold okSn okA; rw [ex, ey]
  rw [e] at h
  rw [ea, eb, l0, l299, l12, show (-1 : Int32) = iN (-1) from rfl, iN_lt (by omega) (by omega), iN_lt (by omega) (by omega), iN_lt (by omega) (by omega), iN_le (by omega) (by omega)]
  refine ⟨fun c => ?_, fun c => ⟨fun c2 => ?_, fun c2 => ⟨fun c3 => ?_, fun c3 => ⟨fun c4 => ?_, fun c4 => ?_⟩⟩⟩⟩
  · rw [decide_eq_false (show ¬ (0 ≤ x ∧ x ≤ 299) by omega)] at h; exact h
  · rw [decide_eq_false (show ¬ (0 ≤ x ∧ x ≤ 299) by omega)] at h; exact h
  · rw [decide_eq_false (show ¬ (-1 ≤ y ∧ y ≤ 11) by omega), Bool.and_false] at h; exact h
  · rw [decide_eq_false (show ¬ (-1 ≤ y ∧ y ≤ 11) by omega), Bool.and_false] at h; exact h
  · rw [decide_eq_true (show 0 ≤ x ∧ x ≤ 299 by omega), decide_eq_true (show -1 ≤ y ∧ y ≤ 11 by omega)] at h; exact h
theorem s_isFull4 {Q : HP → Bool → Prop} (h0 : okS0 σ) (hX : RX I σ) (h : Q I (decide (sK σ = 8))) : RZ G Y_X4_isFull [.ref 46] I Q := by
  have hk8 := h0.2.2.2.1
  refine v_X4_isFull ?_
  rw [hX.2.2.2.2.2.2.2.1.1, l8, iN_lt (by omega) (by omega)]
  refine ⟨fun c => ?_, fun c => ?_⟩
  · rw [decide_eq_false (by omega)] at h; exact h
  · rw [decide_eq_true (by omega)] at h; exact h
/-- SEEN alone has changed -/
theorem RX_se {I' : HP} {k : Nat} {sb sv : Nat → Int} (hX : RX I σ) (e : ∀ a, a < 46 ∨ 49 ≤ a → I' a = I a) (h : I' 46 2 = iN k ∧ ∀ j, j < k → I' 47 j = iN (sb j) ∧ I' 48 j = iN (sv j)) : RX I' (upSe σ k sb sv) := by
  obtain ⟨h1, h2, h3, h4, h5, h6, h7, h8, h9, h10⟩ := hX
  refine ⟨isS_fr h1 (e 2 (by decide)) (e 3 (by decide)), isS_fr h2 (e 4 (by decide)) (e 5 (by decide)), ?_, ?_, ?_, ?_, ?_, h, ?_, ?_⟩
  · rw [e 1 (by decide)]; exact h3
  · obtain ⟨q1, q2, q3, q4, q5⟩ := h4
    refine ⟨q1, by rw [e 6 (by decide)]; exact q2, fun r hr => by rw [e 7 (by decide)]; exact q3 r hr, fun j hj => by rw [e 8 (by decide)]; exact q4 j hj, fun p hp => tM_fr (q5 p hp) (e _ ?_)⟩
    have : teN 6 = 12 := rfl
    have hp : p < z0 σ := hp
    omega
  · rw [e 24 (by decide)]; exact h5
  · rw [e 0 (by decide), e 41 (by decide)]; exact h6
  · rw [e 0 (by decide), e 42 (by decide), e 44 (by decide)]; exact h7
  · intro s hs
    rw [e (50 + 2 * s) (by omega), e (51 + 2 * s) (by omega)]; exact h9 s hs
  · rw [e 0 (by decide)]; exact h10
theorem s_add4 {Q : HP → Prop} {a b : Int32} (h0 : okS0 σ) (hX : RX I σ) (hk : sK σ ≠ 8) (h : ∀ I', (∀ a, a < 46 ∨ 49 ≤ a → I' a = I a) → RX I' (addSn σ a b) → Q I') : RV G Y_X4_add [.ref 46, .int a, .int b] I Q := by
  have hk8 := h0.2.2.2.1
  obtain ⟨s2, sk⟩ := hX.2.2.2.2.2.2.2.1
  refine v_X4_add (s_isFull4 h0 hX ?_)
  rw [bI_0]
  refine ⟨fun c => absurd (decide_eq_false hk) c, fun _ => ?_⟩
  rw [s2]
  refine ⟨(vp_iN (by omega)).mpr ⟨by omega, by omega⟩, ?_⟩
  rw [show nn (iN (sK σ : Int)) = sK σ from nn_nat (by omega), st_ne1 (show 46 ≠ 47 by decide), s2]
  refine ⟨(vp_iN (by omega)).mpr ⟨by omega, by omega⟩, fun I6 e6 => ?_⟩
  rw [show nn (iN (sK σ : Int)) = sK σ from nn_nat (by omega), st_ne1 (show 46 ≠ 48 by decide), st_ne1 (show 46 ≠ 47 by decide), s2, l1, iN_add] at e6
  have f6 : ∀ a, a < 46 ∨ 49 ≤ a → I6 a = I a := fun c hc => by rw [e6, st_ne1 (by omega), st_ne1 (by omega), st_ne1 (by omega)]
  refine h I6 f6 (RX_se hX f6 ⟨by rw [e6, st_self]; rfl, fun j hj => ?_⟩)
  show I6 47 j = iN (if j = sK σ then a.toInt else sB σ j) ∧ I6 48 j = iN (if j = sK σ then b.toInt else sV σ j)
  rw [e6, st_ne1 (show 47 ≠ 46 by decide), st_ne1 (show 47 ≠ 48 by decide), st_ne1 (show 48 ≠ 46 by decide)]
  by_cases e : j = sK σ
  · rw [if_pos e, if_pos e, e, st_self, st_self]
    exact ⟨iN_of a, iN_of b⟩
  · rw [if_neg e, if_neg e, st_ne2 e, st_ne2 e, st_ne1 (show 48 ≠ 47 by decide)]
    exact sk j (by omega)
theorem X_seen {Q : HP → Int32 → Prop} {a b : Int32} (h0 : okS0 σ) (hX : RX I σ) (h : XP I (nx_seen σ a b) Q (an_seen σ a b)) : RI G Y_X7_seen [.ref 0, .int a, .int b] I Q := by
  refine v_X7_seen (s_mayBe ?_)
  rw [bI_0]
  unfold an_seen nx_seen at h
  cases c : okSn a b with
  | false =>
    rw [c] at h
    exact ⟨fun q => absurd rfl q, fun _ => h I (fun _ _ => rfl) hX⟩
  | true =>
    rw [c] at h
    refine ⟨fun _ => s_isFull4 h0 hX ?_, fun q => absurd q (by decide)⟩
    rw [bI_0]
    by_cases hk : sK σ = 8
    · have h' : XP I σ Q (iN (-4)) := by simpa [hk] using h
      exact ⟨fun w => absurd (decide_eq_true hk) (by rw [w]; decide), fun _ => h' I (fun _ _ => rfl) hX⟩
    · have h' : XP I (addSn σ a b) Q (iN (sK σ + 1 : Nat)) := by simpa [hk] using h
      refine ⟨fun _ => s_add4 h0 hX hk (fun I2 f2 hX2 => ?_), fun w => absurd (decide_eq_false hk) w⟩
      rw [show I2 46 2 = iN ((sK σ + 1 : Nat) : Int) from hX2.2.2.2.2.2.2.2.1.1]
      exact h' I2 (fun a ha => f2 a (by omega)) hX2
theorem X_forget {Q : HP → Int32 → Prop} (h0 : okS0 σ) (hX : RX I σ) (h : XP I (nx_forget σ) Q (an_forget σ)) : RI G Y_X7_forget [.ref 0] I Q := by
  refine v_X7_forget ?_
  rw [hX.2.2.2.2.2.2.2.1.1]
  exact h _ (fun a ha => st_ne1 (by omega)) (RX_se hX (fun a ha => st_ne1 (by omega)) ⟨by rw [st_self]; rfl, fun j hj => absurd hj (Nat.not_lt_zero _)⟩)
end XLead
