/-! ===== numbers: Int32 of an integer ===== -/
def iN (a : Int) : Int32 := Int32.ofInt a
def okI32 (a : Int) : Prop := -2147483648 ≤ a ∧ a < 2147483648
theorem iN_toInt {a : Int} (h1 : -2147483648 ≤ a) (h2 : a < 2147483648) : (iN a).toInt = a := Int32.toInt_ofInt_of_le (by simpa using h1) (by simpa using h2)
theorem iN_add (a b : Int) : iN a + iN b = iN (a + b) := (Int32.ofInt_add a b).symm
theorem iN_sub (a b : Int) : iN a - iN b = iN (a - b) := (Int32.ofInt_sub a b).symm
theorem iN_mul (a b : Int) : iN a * iN b = iN (a * b) := (Int32.ofInt_mul a b).symm
theorem iN_neg (a : Int) : -iN a = iN (-a) := (Int32.ofInt_neg a).symm
theorem iN_of (x : Int32) : x = iN x.toInt := (Int32.ofInt_toInt x).symm
theorem iN_lt {a b : Int} (h1 : -2147483648 ≤ a ∧ a < 2147483648) (h2 : -2147483648 ≤ b ∧ b < 2147483648) : iN a < iN b ↔ a < b := by
  rw [Int32.lt_iff_toInt_lt, iN_toInt h1.1 h1.2, iN_toInt h2.1 h2.2]
theorem iN_le {a b : Int} (h1 : -2147483648 ≤ a ∧ a < 2147483648) (h2 : -2147483648 ≤ b ∧ b < 2147483648) : iN a ≤ iN b ↔ a ≤ b := by
  rw [Int32.le_iff_toInt_le, iN_toInt h1.1 h1.2, iN_toInt h2.1 h2.2]
theorem iN_eq {a b : Int} (h1 : -2147483648 ≤ a ∧ a < 2147483648) (h2 : -2147483648 ≤ b ∧ b < 2147483648) : iN a = iN b ↔ a = b := by
  rw [← Int32.toInt_inj, iN_toInt h1.1 h1.2, iN_toInt h2.1 h2.2]
theorem nn_iN {a : Int} (h1 : 0 ≤ a) (h2 : a < 2147483648) : (iN a).toNatClampNeg = a.toNat := by
  show (iN a).toInt.toNat = a.toNat
  rw [iN_toInt (by omega) h2]
theorem vp_iN {a : Int} {n : Nat} (h1 : -2147483648 ≤ a ∧ a < 2147483648) : vp_in (iN a) n ↔ 0 ≤ a ∧ a < n := by
  rw [vp_in_iff, iN_toInt h1.1 h1.2]
theorem nI_iN (n : Nat) : nI n = iN (n : Int) := by
  show Int32.ofNat n = Int32.ofInt n
  first
    | rfl
    | exact (Int32.ofInt_natCast n).symm
    | exact (Int32.ofInt_eq_ofNat (n := n)).symm
    | (apply Int32.toBitVec_inj.mp; simp)
theorem l0 : (0 : Int32) = iN 0 := rfl
theorem l1 : (1 : Int32) = iN 1 := rfl
theorem l2 : (2 : Int32) = iN 2 := rfl
theorem l3 : (3 : Int32) = iN 3 := rfl
theorem l4 : (4 : Int32) = iN 4 := rfl
theorem l5 : (5 : Int32) = iN 5 := rfl
theorem l6 : (6 : Int32) = iN 6 := rfl
theorem l7 : (7 : Int32) = iN 7 := rfl
theorem l8 : (8 : Int32) = iN 8 := rfl
theorem l9 : (9 : Int32) = iN 9 := rfl
theorem l10 : (10 : Int32) = iN 10 := rfl
theorem l11 : (11 : Int32) = iN 11 := rfl
theorem l12 : (12 : Int32) = iN 12 := rfl
theorem l13 : (13 : Int32) = iN 13 := rfl
theorem l14 : (14 : Int32) = iN 14 := rfl
theorem l15 : (15 : Int32) = iN 15 := rfl
theorem l16 : (16 : Int32) = iN 16 := rfl
theorem l19 : (19 : Int32) = iN 19 := rfl
theorem l30 : (30 : Int32) = iN 30 := rfl
theorem l31 : (31 : Int32) = iN 31 := rfl
theorem l48 : (48 : Int32) = iN 48 := rfl
theorem l49 : (49 : Int32) = iN 49 := rfl
theorem l57 : (57 : Int32) = iN 57 := rfl
theorem l59 : (59 : Int32) = iN 59 := rfl
theorem l60 : (60 : Int32) = iN 60 := rfl
theorem l99 : (99 : Int32) = iN 99 := rfl
theorem l100 : (100 : Int32) = iN 100 := rfl
theorem l108 : (108 : Int32) = iN 108 := rfl
theorem l112 : (112 : Int32) = iN 112 := rfl
theorem l114 : (114 : Int32) = iN 114 := rfl
theorem l255 : (255 : Int32) = iN 255 := rfl
theorem l299 : (299 : Int32) = iN 299 := rfl
theorem l4095 : (4095 : Int32) = iN 4095 := rfl
theorem lMio : (1000000 : Int32) = iN 1000000 := rfl
theorem bI_0 (b : Bool) : bI b = 0 ↔ b = false := by cases b <;> decide
theorem st_at (I : HP) (k j : Nat) (v : Int32) (a b : Nat) : st I k j v a b = if a = k ∧ b = j then v else I a b := rfl
theorem st_self (I : HP) (k j : Nat) (v : Int32) : st I k j v k j = v := by simp [st]
theorem st_ne1 {I : HP} {k j a : Nat} {v : Int32} (h : a ≠ k) : st I k j v a = I a := st_off h
theorem st_ne2 {I : HP} {k j a b : Nat} {v : Int32} (h : b ≠ j) : st I k j v a b = I a b := by simp [st, h]
theorem iN_rem (a d : Nat) (ha : a < 2 ^ 31) (h0 : 0 < d) (hd : d < 2 ^ 31) : iN a - iN a / iN d * iN d = iN ((a % d : Nat) : Int) := by
  rw [← nI_iN, ← nI_iN, ← nI_iN]
  exact pk_rem ha h0 hd
theorem iN_div (a d : Nat) (ha : a < 2 ^ 31) (h0 : 0 < d) (hd : d < 2 ^ 31) : iN a / iN d = iN ((a / d : Nat) : Int) := by
  rw [← nI_iN, ← nI_iN, ← nI_iN]
  exact pk_div ha h0 hd
theorem nn_nat {n : Nat} (h : n < 2147483648) : (iN (n : Int)).toNatClampNeg = n := by
  rw [nn_iN (by omega) (by omega)]
  omega
/-! frames -/
def frm (C S : List Nat) (I I' : HP) : Prop := (∀ a, a ≠ 58 → a ∉ C → I' a = I a) ∧ ∀ j, j ∉ S → I' 58 j = I 58 j
theorem frm_rf {C S : List Nat} {I : HP} : frm C S I I := ⟨fun _ _ _ => rfl, fun _ _ => rfl⟩
theorem frm_tr {C S : List Nat} {I I1 I2 : HP} (h1 : frm C S I I1) (h2 : frm C S I1 I2) : frm C S I I2 :=
  ⟨fun a ha hc => (h2.1 a ha hc).trans (h1.1 a ha hc), fun j hj => (h2.2 j hj).trans (h1.2 j hj)⟩
theorem frm_mo {C S C2 S2 : List Nat} {I I1 : HP} (h : frm C S I I1) (hC : ∀ a ∈ C, a ∈ C2) (hS : ∀ a ∈ S, a ∈ S2) : frm C2 S2 I I1 :=
  ⟨fun a ha hc => h.1 a ha (fun q => hc (hC a q)), fun j hj => h.2 j (fun q => hj (hS j q))⟩
theorem frm_st {C S : List Nat} {I I1 : HP} {k j : Nat} {v : Int32} (h : frm C S I I1) (hk : k ≠ 58) (hC : k ∈ C) : frm C S I (st I1 k j v) :=
  ⟨fun a ha hc => by rw [st_ne1 (fun e => hc (by rw [e]; exact hC))]; exact h.1 a ha hc, fun i hi => by rw [st_ne1 (Ne.symm hk)]; exact h.2 i hi⟩
theorem frm_s8 {C S : List Nat} {I I1 : HP} {j : Nat} {v : Int32} (h : frm C S I I1) (hS : j ∈ S) : frm C S I (st I1 58 j v) :=
  ⟨fun a ha hc => by rw [st_ne1 ha]; exact h.1 a ha hc, fun i hi => by rw [st_ne2 (fun e => hi (by rw [e]; exact hS))]; exact h.2 i hi⟩
def frx (C : List Nat) (I I' : HP) : Prop := ∀ a, a ∉ C → I' a = I a
theorem frx_rf {C : List Nat} {I : HP} : frx C I I := fun _ _ => rfl
theorem frx_tr {C : List Nat} {I I1 I2 : HP} (h1 : frx C I I1) (h2 : frx C I1 I2) : frx C I I2 := fun a ha => (h2 a ha).trans (h1 a ha)
theorem frx_mo {C C2 : List Nat} {I I1 : HP} (h : frx C I I1) (hC : ∀ a ∈ C, a ∈ C2) : frx C2 I I1 := fun a ha => h a (fun q => ha (hC a q))
theorem frx_st {C : List Nat} {I I1 : HP} {k j : Nat} {v : Int32} (h : frx C I I1) (hC : k ∈ C) : frx C I (st I1 k j v) := fun a ha => by
  rw [st_ne1 (fun e => ha (by rw [e]; exact hC))]; exact h a ha
