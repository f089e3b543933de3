/-! ===== calls of the class: count ===== -/
def bc1 (a : Int32) : Int32 := a - ((ushr a (1 : Int32)) &&& (1431655765 : Int32))
def bc2 (a : Int32) : Int32 := (a &&& (858993459 : Int32)) + ((ushr a (2 : Int32)) &&& (858993459 : Int32))
def bc3 (a : Int32) : Int32 := (a + (ushr a (4 : Int32))) &&& (252645135 : Int32)
def bc4 (a : Int32) : Int32 := (a + (ushr a (8 : Int32))) + (ushr (a + (ushr a (8 : Int32))) (16 : Int32))
def bcA (a : Int32) : Int32 := bc4 (bc3 (bc2 (bc1 a))) &&& (63 : Int32)
set_option maxRecDepth 100000 in
theorem bc_all : ∀ y : Fin 4096, bcA (iN (y.1 : Int)) = iN (bits y.1 12 : Nat) := by decide +kernel
theorem msk : ∀ z : Fin 13, ((1 : Int32) <<< (iN (z.1 : Int) &&& 31)) - 1 = iN ((2 ^ z.1 - 1 : Nat) : Int) := by decide
theorem and_msk {F z : Nat} (hF : F < 2 ^ 31) (hz : z ≤ 12) : iN (F : Int) &&& iN ((2 ^ z - 1 : Nat) : Int) = iN ((F % 2 ^ z : Nat) : Int) := by
  rw [← nI_iN, ← nI_iN, ← nI_iN]
  apply Int32.toBitVec_inj.mp
  apply BitVec.eq_of_toNat_eq
  have e1 : ∀ n, n < 2 ^ 31 → (nI n).toBitVec.toNat = n := fun n hn => by
    show (Int32.ofNat n).toBitVec.toNat = n
    simp
    omega
  have p1 : 2 ^ z ≤ 2 ^ 12 := Nat.pow_le_pow_right (by decide) hz
  have p2 : F % 2 ^ z ≤ F := Nat.mod_le _ _
  rw [Int32.toBitVec_and, BitVec.toNat_and, e1 F hF, e1 (2 ^ z - 1) (by omega), e1 (F % 2 ^ z) (by omega)]
  exact Nat.and_two_pow_sub_one_eq_mod F z
theorem bit_mod {F z v : Nat} : F % 2 ^ z / 2 ^ v % 2 = if v < z then F / 2 ^ v % 2 else 0 := by
  have e := Nat.testBit_mod_two_pow F z v
  rw [Nat.testBit_eq_decide_div_mod_eq, Nat.testBit_eq_decide_div_mod_eq] at e
  have m1 := Nat.mod_lt (F % 2 ^ z / 2 ^ v) (show 0 < 2 by decide)
  have m2 := Nat.mod_lt (F / 2 ^ v) (show 0 < 2 by decide)
  by_cases c : v < z
  · rw [if_pos c]
    rw [decide_eq_true c, Bool.true_and, decide_eq_decide] at e
    omega
  · rw [if_neg c]
    rw [decide_eq_false c, Bool.false_and, decide_eq_false_iff_not] at e
    omega
theorem bits_lo {F z : Nat} : ∀ v, v ≤ z → bits (F % 2 ^ z) v = bits F v
  | 0, _ => rfl
  | v + 1, h => by
    show bits (F % 2 ^ z) v + F % 2 ^ z / 2 ^ v % 2 = bits F v + F / 2 ^ v % 2
    rw [bits_lo v (by omega), bit_mod, if_pos (by omega)]
theorem bits_hi {F z : Nat} : ∀ m, bits (F % 2 ^ z) (z + m) = bits F z
  | 0 => bits_lo z (Nat.le_refl _)
  | m + 1 => by
    show bits (F % 2 ^ z) (z + m) + F % 2 ^ z / 2 ^ (z + m) % 2 = bits F z
    rw [bits_hi m, bit_mod, if_neg (by omega), Nat.add_zero]
section XCount
variable {G : CX} {I : HP} {σ : SG}
theorem s_bitCount {Q : HP → Int32 → Prop} {a : Int32} (h : Q I (bcA a)) : RI G Y_J6_bitCount_0f7a4 [.int a] I Q := by
  refine v_J6_bitCount_0f7a4 (fun z1 e1 z2 e2 z3 e3 z4 e4 => ?_)
  rw [e4, e3, e2, e1]
  exact h
theorem X_count {Q : HP → Int32 → Prop} {a : Int32} (h0 : okS0 σ) (hX : RX I σ) (h : XP I σ Q (an_count σ a)) : RI G Y_X7_count [.ref 0, .int a] I Q := by
  have hh := h I (fun _ _ => rfl) hX
  have hz := z0_le h0
  have hL := hX.2.2.2.1
  have hT : isTel 6 := Or.inl rfl
  have hF5 := h0.2.2.1
  unfold an_count at hh
  have one : ∀ k : Nat, k ≤ 8 → a = iN k → Q I (iN (cnt σ k)) := by
    intro k hk ea
    obtain ⟨o1, o2⟩ := is_in (hi := 8) ea (by omega) (by omega)
    rw [o1, o2] at hh; exact hh
  refine v_X7_count ⟨fun e => ?_, fun e => ?_, fun e => ?_, fun e => ?_, fun e => ?_, fun e => ?_, fun e => ?_, fun e => ?_, fun e => ?_, fun e => ?_⟩
  · rw [hX.1.2.2.2.2]; exact one 0 (by decide) e
  · rw [hX.2.1.2.2.2.2]; exact one 1 (by decide) e
  · rw [hX.1.2.1]; exact one 2 (by decide) e
  · rw [hX.2.1.2.1]; exact one 3 (by decide) e
  · rw [hX.2.2.2.2.2.2.2.1.1]; exact one 4 (by decide) e
  · refine s_lastw hT hL ⟨tc_tur hT hL.1, ?_⟩
    rw [isTw_at hL (Nat.le_refl _) 9 (by decide)]; exact one 5 (by decide) e
  · rw [hX.2.2.1 0 (by decide)]; exact one 6 (by decide) e
  · refine s_bitCount ?_
    obtain ⟨F, eF⟩ : ∃ F : Nat, sR σ 5 = F := ⟨(sR σ 5).toNat, by omega⟩
    have o7 : Q I (iN (bits (sR σ 5).toNat (z0 σ) : Nat)) := one 7 (by decide) e
    rw [eF, Int.toNat_natCast] at o7
    have hm : F % 2 ^ z0 σ ≤ F := Nat.mod_le _ _
    have hb := bc_all ⟨F % 2 ^ z0 σ, by omega⟩
    have hbt := bits_hi (F := F) (z := z0 σ) (12 - z0 σ)
    rw [show z0 σ + (12 - z0 σ) = 12 by omega] at hbt
    rw [show I 2 3 = iN (z0 σ) from hX.1.2.2.2.2, hX.2.2.1 5 (by decide), eF, msk ⟨z0 σ, by omega⟩, and_msk (by omega) hz, hb]
    show Q I (iN (bits (F % 2 ^ z0 σ) 12 : Nat))
    rw [hbt]; exact o7
  · rw [hX.2.2.2.2.2.2.2.2.2]; exact one 8 (by decide) e
  · rw [show okA a 8 = false from not_in (n := 8) (by decide) e] at hh; exact hh
end XCount
