/-! ===== calls of the class: digest ===== -/
section XDig
variable {G : CX} {I : HP} {σ : SG}
theorem up1 (k : Nat) : iN (k : Int) + (1 : Int32) = iN ((k + 1 : Nat) : Int) := iN_add k 1
theorem X_dgV {Q : HP → Int64 → Prop} {x : Int64} {v : Nat} (h0 : okS0 σ) (hX : RX I σ) (h : ∀ I', (∀ a, 58 ≤ a → I' a = I a) → RX I' σ → Q I' (dgV σ x v)) : RJ G Y_X7_digestOfVerse [.ref 0, .long x, .int (iN v)] I Q := by
  have d38 : ∀ m k : Nat, k + m = 5 → ∀ I1 y, (∀ a, 58 ≤ a → I1 a = I a) → RX I1 σ → hx (hxs (fun k => an_when σ (iN v) (iN k)) m k y) (an_rest σ (iN v)) = dgV σ x v → GJ G Y_X7_digestOfVerse 38 [(0, .ref 0), (3, .int (iN v)), (4, .long y), (6, .int (iN k))] I1 Q := by
    intro m
    induction m with
    | zero =>
      intro k hk I1 y f1 hX1 e
      refine v_X7_digestOfVerse_38 ⟨fun _ => X_rest h0 hX1 (fun I2 f2 hX2 => ?_), fun w => absurd (by rw [l4, iN_lt (by omega) (by omega)]; omega) w⟩
      have q := h I2 (fun a ha => (f2 a ha).trans (f1 a ha)) hX2
      rw [← e] at q; exact q
    | succ m ih =>
      intro k hk I1 y f1 hX1 e
      refine v_X7_digestOfVerse_38 ⟨fun w => absurd w (by rw [l4, iN_lt (by omega) (by omega)]; omega), fun _ => X_when h0 hX1 (fun I2 f2 hX2 => ?_)⟩
      rw [up1]
      exact ih (k + 1) (by omega) I2 _ (fun a ha => (f2 a ha).trans (f1 a ha)) hX2 e
  have d6 : ∀ m k : Nat, k + m = 6 → ∀ I1 y, (∀ a, 58 ≤ a → I1 a = I a) → RX I1 σ → hx (hxs (fun k => an_when σ (iN v) (iN k)) 5 0 (hxs (fun k => an_verse σ (iN v) (iN k)) m k y)) (an_rest σ (iN v)) = dgV σ x v → GJ G Y_X7_digestOfVerse 6 [(0, .ref 0), (3, .int (iN v)), (4, .long y), (6, .int (iN k))] I1 Q := by
    intro m
    induction m with
    | zero =>
      intro k hk I1 y f1 hX1 e
      exact v_X7_digestOfVerse_6 ⟨fun _ => d38 5 0 (by omega) I1 y f1 hX1 e, fun w => absurd (by rw [l5, iN_lt (by omega) (by omega)]; omega) w⟩
    | succ m ih =>
      intro k hk I1 y f1 hX1 e
      refine v_X7_digestOfVerse_6 ⟨fun w => absurd w (by rw [l5, iN_lt (by omega) (by omega)]; omega), fun _ => X_verse h0 hX1 (fun I2 f2 hX2 => ?_)⟩
      rw [up1]
      exact ih (k + 1) (by omega) I2 _ (fun a ha => (f2 a ha).trans (f1 a ha)) hX2 e
  exact v_X7_digestOfVerse (d6 6 0 (by omega) I x (fun _ _ => rfl) hX rfl)
theorem X_dgBs {Q : HP → Int64 → Prop} {x : Int64} (h0 : okS0 σ) (hX : RX I σ) (h : ∀ I', (∀ a, 58 ≤ a → I' a = I a) → RX I' σ → Q I' (dgBs σ x)) : RJ G Y_X7_digestOfBreaths [.ref 0, .long x] I Q := by
  have inner : ∀ b : Nat, ∀ m k : Nat, k + m = 3 → ∀ I1 y, (∀ a, 58 ≤ a → I1 a = I a) → RX I1 σ → (∀ I2, (∀ a, 58 ≤ a → I2 a = I a) → RX I2 σ → GJ G Y_X7_digestOfBreaths 46 [(0, .ref 0), (3, .long (hxs (fun k => an_doing σ (iN b) (iN k)) m k y)), (5, .int (iN b + 1))] I2 Q) → GJ G Y_X7_digestOfBreaths 56 [(0, .ref 0), (3, .long y), (5, .int (iN b)), (6, .int (iN k))] I1 Q := by
    intro b m
    induction m with
    | zero =>
      intro k hk I1 y f1 hX1 e
      exact v_X7_digestOfBreaths_56 ⟨fun _ => e I1 f1 hX1, fun w => absurd (by rw [l2, iN_lt (by omega) (by omega)]; omega) w⟩
    | succ m ih =>
      intro k hk I1 y f1 hX1 e
      refine v_X7_digestOfBreaths_56 ⟨fun w => absurd w (by rw [l2, iN_lt (by omega) (by omega)]; omega), fun _ => X_doing h0 hX1 (fun I2 f2 hX2 => ?_)⟩
      rw [up1]
      exact ih (k + 1) (by omega) I2 _ (fun a ha => (f2 a ha).trans (f1 a ha)) hX2 e
  have outer : ∀ m b : Nat, b + m = 10 → ∀ I1 y, (∀ a, 58 ≤ a → I1 a = I a) → RX I1 σ → fo (dgBr σ) m b y = dgBs σ x → GJ G Y_X7_digestOfBreaths 46 [(0, .ref 0), (3, .long y), (5, .int (iN b))] I1 Q := by
    intro m
    induction m with
    | zero =>
      intro b hb I1 y f1 hX1 e
      refine v_X7_digestOfBreaths_46 ⟨fun _ => ?_, fun w => absurd (by rw [l9, iN_lt (by omega) (by omega)]; omega) w⟩
      have q := h I1 f1 hX1
      rw [← e] at q; exact q
    | succ m ih =>
      intro b hb I1 y f1 hX1 e
      refine v_X7_digestOfBreaths_46 ⟨fun w => absurd w (by rw [l9, iN_lt (by omega) (by omega)]; omega), fun _ => inner b 3 0 (by omega) I1 y f1 hX1 (fun I2 f2 hX2 => ?_)⟩
      rw [up1]
      exact ih (b + 1) (by omega) I2 _ f2 hX2 e
  have d5 : ∀ m k : Nat, k + m = 4 → ∀ I1 y, (∀ a, 58 ≤ a → I1 a = I a) → RX I1 σ → fo (dgBr σ) 10 0 (hx (hxs (fun k => an_poem σ (iN k)) m k y) (an_judged σ)) = dgBs σ x → GJ G Y_X7_digestOfBreaths 5 [(0, .ref 0), (3, .long y), (5, .int (iN k))] I1 Q := by
    intro m
    induction m with
    | zero =>
      intro k hk I1 y f1 hX1 e
      refine v_X7_digestOfBreaths_5 ⟨fun _ => X_judged h0 hX1 (fun I2 f2 hX2 => ?_), fun w => absurd (by rw [l3, iN_lt (by omega) (by omega)]; omega) w⟩
      exact outer 10 0 (by omega) I2 _ (fun a ha => (f2 a ha).trans (f1 a ha)) hX2 e
    | succ m ih =>
      intro k hk I1 y f1 hX1 e
      refine v_X7_digestOfBreaths_5 ⟨fun w => absurd w (by rw [l3, iN_lt (by omega) (by omega)]; omega), fun _ => X_poem h0 hX1 (fun I2 f2 hX2 => ?_)⟩
      rw [up1]
      exact ih (k + 1) (by omega) I2 _ (fun a ha => (f2 a ha).trans (f1 a ha)) hX2 e
  exact v_X7_digestOfBreaths (d5 4 0 (by omega) I x (fun _ _ => rfl) hX rfl)
theorem X_digest {Q : HP → Int64 → Prop} (h0 : okS0 σ) (hX : RX I σ) (h : ∀ I', (∀ a, 58 ≤ a → I' a = I a) → RX I' σ → Q I' (an_digest σ)) : RJ G Y_X7_digest [.ref 0] I Q := by
  have hz := z0_le h0
  have tr : ∀ {I1 I2 : HP}, (∀ a, 58 ≤ a → I1 a = I a) → (∀ a, 58 ≤ a → I2 a = I1 a) → ∀ a, 58 ≤ a → I2 a = I a := fun f1 f2 a ha => (f2 a ha).trans (f1 a ha)
  -- odds, drawn, line, leads
  have d156 : ∀ m k : Nat, k + m = 4 → ∀ I1 y, (∀ a, 58 ≤ a → I1 a = I a) → RX I1 σ → hx (hxs (fun k => an_line σ (iN 5) (iN k)) 2 0 (hxs (fun k => an_line σ (iN (-1)) (iN k)) 2 0 (hx (fo (fun h k => (31 : Int64) * h + od σ k) m k y) (an_drawn σ 7)))) (an_leads σ) = an_digest σ → GJ G Y_X7_digest 156 [(0, .ref 0), (1, .long y), (3, .int (iN k))] I1 Q := by
    intro m
    induction m with
    | zero =>
      intro k hk I1 y f1 hX1 e
      refine v_X7_digest_156 ⟨fun _ => ?_, fun w => absurd (by rw [l3, iN_lt (by omega) (by omega)]; omega) w⟩
      refine X_drawn h0 hX1 (fun I2 f2 hX2 => ?_)
      refine X_line (a := iN (-1)) (b := iN (0 : Nat)) h0 hX2 (fun I3 f3 hX3 => ?_)
      intro z6 e6
      refine X_line (a := iN (-1)) (b := iN (1 : Nat)) h0 hX3 (fun I4 f4 hX4 => ?_)
      refine X_line (a := iN 5) (b := iN (0 : Nat)) h0 hX4 (fun I5 f5 hX5 => ?_)
      intro z11 e11
      refine X_line (a := iN 5) (b := iN (1 : Nat)) h0 hX5 (fun I6 f6 hX6 => ?_)
      refine X_leads h0 hX6 (fun I7 f7 hX7 => ?_)
      have q := h I7 (tr (tr (tr (tr (tr (tr f1 f2) f3) f4) f5) f6) f7) hX7
      rw [← e] at q
      rw [e11, e6]
      exact q
    | succ m ih =>
      intro k hk I1 y f1 hX1 e
      refine v_X7_digest_156 ⟨fun w => absurd w (by rw [l3, iN_lt (by omega) (by omega)]; omega), fun _ => X_odds h0 hX1 (fun I2 f2 hX2 => ?_)⟩
      rw [up1]
      obtain ⟨o1, o2⟩ := okA_n (k := k) (hi := 3) (by omega) (by omega)
      have eo : an_odds σ (iN k) = od σ k := by unfold an_odds; rw [o1, o2]; rfl
      rw [eo]
      exact ih (k + 1) (by omega) I2 _ (tr f1 f2) hX2 e
  have d118 : ∀ m k : Nat, k + m = 5 → ∀ I1 y, (∀ a, 58 ≤ a → I1 a = I a) → RX I1 σ → dgE σ (hx (hxs (fun k => an_order σ (iN ((k : Int) - 2))) m k y) (an_lead σ)) = an_digest σ → GJ G Y_X7_digest 118 [(0, .ref 0), (1, .long y), (3, .int (iN ((k : Int) - 2)))] I1 Q := by
    intro m
    induction m with
    | zero =>
      intro k hk I1 y f1 hX1 e
      refine v_X7_digest_118 ⟨fun _ => X_lead h0 hX1 (fun I2 f2 hX2 => ?_), fun w => absurd (by rw [l2, iN_lt (by omega) (by omega)]; omega) w⟩
      exact d156 4 0 (by omega) I2 _ (tr f1 f2) hX2 e
    | succ m ih =>
      intro k hk I1 y f1 hX1 e
      refine v_X7_digest_118 ⟨fun w => absurd w (by rw [l2, iN_lt (by omega) (by omega)]; omega), fun _ => X_order h0 hX1 (fun I2 f2 hX2 => ?_)⟩
      rw [show iN ((k : Int) - 2) + (1 : Int32) = iN (((k + 1 : Nat) : Int) - 2) by rw [l1, iN_add]; congr 1; omega]
      exact ih (k + 1) (by omega) I2 _ (tr f1 f2) hX2 e
  have d91 : ∀ m k : Nat, k + m = 6 → ∀ I1 y, (∀ a, 58 ≤ a → I1 a = I a) → RX I1 σ → dgE σ (hx (hxs (fun k => an_order σ (iN ((k : Int) - 2))) 5 0 (hxs (fun k => an_put σ (iN k)) m k y)) (an_lead σ)) = an_digest σ → GJ G Y_X7_digest 91 [(0, .ref 0), (1, .long y), (3, .int (iN k))] I1 Q := by
    intro m
    induction m with
    | zero =>
      intro k hk I1 y f1 hX1 e
      exact v_X7_digest_91 ⟨fun _ => d118 5 0 (by omega) I1 y f1 hX1 e, fun w => absurd (by rw [l5, iN_lt (by omega) (by omega)]; omega) w⟩
    | succ m ih =>
      intro k hk I1 y f1 hX1 e
      refine v_X7_digest_91 ⟨fun w => absurd w (by rw [l5, iN_lt (by omega) (by omega)]; omega), fun _ => X_put h0 hX1 (fun I2 f2 hX2 => ?_)⟩
      rw [up1]
      exact ih (k + 1) (by omega) I2 _ (tr f1 f2) hX2 e
  have d59 : ∀ m k : Nat, k + m = z0 σ → ∀ I1 y, (∀ a, 58 ≤ a → I1 a = I a) → RX I1 σ → dgE σ (dgM σ (dgBs σ (fo (dgV σ) m k y))) = an_digest σ → GJ G Y_X7_digest 59 [(0, .ref 0), (1, .long y), (3, .int (iN k))] I1 Q := by
    intro m
    induction m with
    | zero =>
      intro k hk I1 y f1 hX1 e
      have e23 : I1 2 3 = iN (z0 σ) := hX1.1.2.2.2.2
      refine v_X7_digest_59 ⟨fun _ => X_dgBs h0 hX1 (fun I2 f2 hX2 => ?_), fun w => absurd (by rw [e23, iN_le (by omega) (by omega)]; omega) w⟩
      exact d91 6 0 (by omega) I2 _ (tr f1 f2) hX2 e
    | succ m ih =>
      intro k hk I1 y f1 hX1 e
      have e23 : I1 2 3 = iN (z0 σ) := hX1.1.2.2.2.2
      refine v_X7_digest_59 ⟨fun w => absurd w (by rw [e23, iN_le (by omega) (by omega)]; omega), fun _ => X_dgV h0 hX1 (fun I2 f2 hX2 => ?_)⟩
      rw [up1]
      exact ih (k + 1) (by omega) I2 _ (tr f1 f2) hX2 e
  have d6 : ∀ m k : Nat, k + m = 8 → ∀ I1 y, (∀ a, 58 ≤ a → I1 a = I a) → RX I1 σ → dgE σ (dgM σ (dgBs σ (fo (dgV σ) (z0 σ) 0 (dgF σ (hxs (fun k => an_count σ (iN k)) m k y))))) = an_digest σ → GJ G Y_X7_digest 6 [(0, .ref 0), (1, .long y), (3, .int (iN k))] I1 Q := by
    intro m
    induction m with
    | zero =>
      intro k hk I1 y f1 hX1 e
      refine v_X7_digest_6 ⟨fun _ => ?_, fun w => absurd (by rw [l7, iN_lt (by omega) (by omega)]; omega) w⟩
      refine X_fault (a := iN (0 : Nat)) h0 hX1 (fun I2 f2 hX2 => ?_)
      refine X_fault (a := iN (1 : Nat)) h0 hX2 (fun I3 f3 hX3 => ?_)
      intro z6 e6
      rw [e6]
      exact d59 (z0 σ) 0 (by omega) I3 _ (tr (tr f1 f2) f3) hX3 e
    | succ m ih =>
      intro k hk I1 y f1 hX1 e
      refine v_X7_digest_6 ⟨fun w => absurd w (by rw [l7, iN_lt (by omega) (by omega)]; omega), fun _ => X_count h0 hX1 (fun I2 f2 hX2 => ?_)⟩
      rw [up1]
      exact ih (k + 1) (by omega) I2 _ (tr f1 f2) hX2 e
  exact v_X7_digest (d6 8 0 (by omega) I 17 (fun _ _ => rfl) hX rfl)
end XDig
