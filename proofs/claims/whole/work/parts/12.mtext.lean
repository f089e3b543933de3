/-! ===== the reference's texts ===== -/
/-- the reference holds the text f of n bytes as its text t -/
def isM (I : HP) (t : Nat) (f : Nat → Int32) (n : Nat) : Prop := t < 2 ∧ n ≤ (if t = 0 then 59 else 19) ∧ I 64 t = iN n ∧ ∀ i, i < n → I 63 (60 * t + i) = f i
theorem isM_fr {I I' : HP} {t n : Nat} {f : Nat → Int32} (h : isM I t f n) (h1 : I' 64 = I 64) (h2 : I' 63 = I 63) : isM I' t f n := by
  unfold isM
  rw [h1, h2]
  exact h
section MT
variable {G : CX} {I : HP}
theorem nn_2 {t : Nat} (h : t < 2) : nn (iN (t : Int)) = t := nn_nat (by omega)
theorem vp_2 {t : Nat} (h : t < 2) : vp_in (iN (t : Int)) 2 := (vp_iN (by omega)).mpr ⟨by omega, by omega⟩
theorem s_here {Q : HP → Int32 → Prop} {t n p : Nat} {f : Nat → Int32} (hM : isM I t f n) (hp : p ≤ n) (ha : I 58 7 = iN p) (h : Q I (if p < n then f p else -1)) : RI G Y_X8_here [.ref 58, .int (iN t)] I Q := by
  obtain ⟨ht, hn, h64, hf⟩ := hM
  have hn' : n ≤ 59 := by split at hn <;> omega
  refine v_X8_here ⟨vp_2 ht, ?_⟩
  rw [nn_2 ht, h64, ha, l60, iN_mul, iN_add, iN_le (by omega) (by omega)]
  refine ⟨fun c => ?_, fun c => ⟨(vp_iN (by omega)).mpr ⟨by omega, by omega⟩, ?_⟩⟩
  · rw [if_neg (by omega)] at h; exact h
  · rw [if_pos (by omega)] at h
    rw [show nn (iN (60 * (t : Int) + p)) = 60 * t + p by rw [nn, nn_iN (by omega) (by omega)]; omega, hf p (by omega)]
    exact h
/-- where the reference keeps verse v of text t -/
def tp (t v : Nat) : Nat := 4 * (12 * t + v)
theorem digit {f : Nat → Int32} {v k : Nat} (hk : k < 3) : fitB (f (5 * v + 1 + k)) ((5 * v + 1 + k) % 5) = decide ((if k = 1 then 1 else 0) ≤ fg f v k ∧ fg f v k ≤ 9) := by
  unfold fg
  rcases (show k = 0 ∨ k = 1 ∨ k = 2 by omega) with rfl | rfl | rfl
  · rw [show (5 * v + 1 + 0) % 5 = 1 by omega]
    refine (show fitB (f (5 * v + 1 + 0)) 1 = decide (48 ≤ (f (5 * v + 1 + 0)).toInt ∧ (f (5 * v + 1 + 0)).toInt ≤ 57) from rfl).trans (decide_eq_decide.mpr ?_)
    rw [if_neg (by decide)]
    omega
  · rw [show (5 * v + 1 + 1) % 5 = 2 by omega]
    refine (show fitB (f (5 * v + 1 + 1)) 2 = decide (49 ≤ (f (5 * v + 1 + 1)).toInt ∧ (f (5 * v + 1 + 1)).toInt ≤ 57) from rfl).trans (decide_eq_decide.mpr ?_)
    rw [if_pos rfl]
    omega
  · rw [show (5 * v + 1 + 2) % 5 = 3 by omega]
    refine (show fitB (f (5 * v + 1 + 2)) 3 = decide (48 ≤ (f (5 * v + 1 + 2)).toInt ∧ (f (5 * v + 1 + 2)).toInt ≤ 57) from rfl).trans (decide_eq_decide.mpr ?_)
    rw [if_neg (by decide)]
    omega
set_option maxHeartbeats 1000000 in
theorem s_readsVerse {Q : HP → Bool → Prop} {t n v : Nat} {f : Nat → Int32} (hM : isM I t f n) (hv : 5 * v ≤ n) (ha : I 58 7 = iN (5 * v : Nat)) (hm : I 65 t = iN v)
    (hT : 5 * v + 4 ≤ n → (∀ j, 5 * v ≤ j → j < 5 * v + 4 → fitB (f j) (j % 5) = true) → ∀ I', frm [66, 65] [7] I I' → I' 58 7 = iN (5 * v + 4 : Nat) → I' 65 t = iN (v + 1 : Nat) → (∀ j, j ≠ t → I' 65 j = I 65 j) → (∀ k, k < 3 → I' 66 (tp t v + k) = iN (fg f v k)) → I' 66 (tp t v + 3) = iN (kd f v) → (∀ j, j < tp t v ∨ tp t v + 4 ≤ j → I' 66 j = I 66 j) → Q I' true)
    (hF : ∀ q, 5 * v ≤ q → q < 5 * v + 4 → q ≤ n → (∀ j, 5 * v ≤ j → j < q → fitB (f j) (j % 5) = true) → (q < n → fitB (f q) (q % 5) = false) → ∀ I', frm [66, 65] [7] I I' → I' 58 7 = iN q → (∀ j, j ≠ t → I' 65 j = I 65 j) → (∀ j, j < tp t v ∨ tp t v + 4 ≤ j → I' 66 j = I 66 j) → Q I' false) : RZ G Y_X8_readsVerse [.ref 58, .int (iN t)] I Q := by
  have ht := hM.1
  have hn' : n ≤ 59 ∧ (t = 1 → n ≤ 19) := by
    have := hM.2.1
    split at this <;> omega
  have hk := kBy_ge (f (5 * v))
  refine v_X8_readsVerse (s_here hM hv ha (s_kindOf8 ?_))
  have hkd : kBy (if 5 * v < n then f (5 * v) else -1) ≠ -1 → 5 * v < n ∧ kBy (if 5 * v < n then f (5 * v) else -1) = kd f v ∧ fitB (f (5 * v)) ((5 * v) % 5) = true := by
    intro hne
    by_cases c : 5 * v < n
    · rw [if_pos c] at hne ⊢
      refine ⟨c, rfl, ?_⟩
      rw [show (5 * v) % 5 = 0 by omega]
      simp [fitB, hne]
    · rw [if_neg c] at hne
      exact absurd (by decide) hne
  have hbk := kBy_ge (if 5 * v < n then f (5 * v) else -1)
  have bad : kBy (if 5 * v < n then f (5 * v) else -1) = -1 → Q I false := by
    intro e
    refine hF (5 * v) (by omega) (by omega) hv (fun j h1 h2 => by omega) (fun c => ?_) I frm_rf ha (fun _ _ => rfl) (fun _ _ => rfl)
    rw [if_pos c] at e
    rw [show (5 * v) % 5 = 0 by omega]
    simp [fitB, e]
  have htp : tp t v + 4 ≤ 64 := by unfold tp; omega
  -- the three figures
  have loop : ∀ m k : Nat, k + m = 3 → (5 * v < n ∧ fitB (f (5 * v)) ((5 * v) % 5) = true) → (∀ j, j < k → 5 * v + 1 + j < n ∧ fitB (f (5 * v + 1 + j)) ((5 * v + 1 + j) % 5) = true) → ∀ I1, frm [66] [7] I I1 → I1 58 7 = iN (5 * v + 1 + k : Nat) → (∀ j, j < k → I1 66 (tp t v + j) = iN (fg f v j)) → (∀ j, j < tp t v ∨ tp t v + 4 ≤ j → I1 66 j = I 66 j) → GZ G Y_X8_readsVerse 62 [(0, .ref 58), (1, .int (iN t)), (2, .int (iN (kd f v))), (3, .int (iN (tp t v))), (4, .int (iN k))] I1 Q := by
    intro m
    induction m with
    | zero =>
      intro k hk3 h0 hd I1 hfr h7 htold hoth
      have e3 : k = 3 := by omega
      subst e3
      refine v_X8_readsVerse_62 ⟨fun _ => ?_, fun c => absurd (by rw [l3, iN_le (by omega) (by omega)]; omega) c⟩
      rw [l3, iN_add]
      refine ⟨(vp_iN (by omega)).mpr ⟨by omega, by omega⟩, vp_2 ht, ?_⟩
      rw [nn_2 ht, show nn (iN ((tp t v : Int) + 3)) = tp t v + 3 by rw [nn, nn_iN (by omega) (by omega)]; omega]
      intro I4 e4
      have h65 : I1 65 = I 65 := hfr.1 65 (by decide) (by decide)
      subst e4
      have hlast := hd 2 (by decide)
      refine hT (by omega) (fun j h1 h2 => ?_) _ (frm_st (frm_st (frm_mo hfr (by decide) (by decide)) (by decide) (by decide)) (by decide) (by decide)) ?_ ?_ (fun j hj => ?_) (fun k hk => ?_) ?_ (fun j hj => ?_)
      · by_cases c : j = 5 * v
        · subst c; exact h0.2
        · have := (hd (j - (5 * v + 1)) (by omega)).2
          rw [show 5 * v + 1 + (j - (5 * v + 1)) = j by omega] at this
          exact this
      · rw [st_ne1 (by decide), st_ne1 (by decide), h7]
      · rw [st_self, st_ne1 (by decide), h65, hm, l1, iN_add]; rfl
      · rw [st_ne2 hj, st_ne1 (by decide), h65]
      · rw [st_ne1 (by decide), st_ne2 (by omega)]; exact htold k hk
      · rw [st_ne1 (by decide), st_self]
      · rw [st_ne1 (by decide), st_ne2 (by omega)]; exact hoth j hj
    | succ m ih =>
      intro k hk3 h0 hd I1 hfr h7 htold hoth
      refine v_X8_readsVerse_62 ⟨fun c => absurd c (by rw [l3, iN_le (by omega) (by omega)]; omega), fun _ => ?_⟩
      have hM1 : isM I1 t f n := isM_fr hM (hfr.1 64 (by decide) (by decide)) (hfr.1 63 (by decide) (by decide))
      have hp : 5 * v + 1 + k ≤ n := by
        by_cases c : k = 0
        · omega
        · have := (hd (k - 1) (by omega)).1; omega
      refine s_here (p := 5 * v + 1 + k) hM1 hp h7 ?_
      have hval : ∀ lo : Int, (lo = if k = 1 then 1 else 0) → (decide (lo ≤ ((if 5 * v + 1 + k < n then f (5 * v + 1 + k) else -1) - (48 : Int32)).toInt ∧ ((if 5 * v + 1 + k < n then f (5 * v + 1 + k) else -1) - (48 : Int32)).toInt ≤ 9) = true ↔ (5 * v + 1 + k < n ∧ fitB (f (5 * v + 1 + k)) ((5 * v + 1 + k) % 5) = true)) ∧ (5 * v + 1 + k < n → fitB (f (5 * v + 1 + k)) ((5 * v + 1 + k) % 5) = true → ((if 5 * v + 1 + k < n then f (5 * v + 1 + k) else -1) - (48 : Int32)) = iN (fg f v k)) := by
        intro lo hlo
        have esub : ∀ b : Int32, b - 48 = iN (b.toInt - 48) := fun b => by
          rw [l48]
          conv => lhs; rw [iN_of b]
          rw [iN_sub]
        refine ⟨?_, fun c _ => by rw [if_pos c, esub]; rfl⟩
        by_cases c : 5 * v + 1 + k < n
        · rw [if_pos c, esub, digit (by omega), ← hlo]
          have hr : -2147483648 ≤ (f (5 * v + 1 + k)).toInt ∧ (f (5 * v + 1 + k)).toInt < 2147483648 := ⟨by simpa using Int32.le_toInt (f (5 * v + 1 + k)), by simpa using Int32.toInt_lt (f (5 * v + 1 + k))⟩
          by_cases c2 : (f (5 * v + 1 + k)).toInt < -2147483600
          · have h1 : ¬ (lo ≤ fg f v k ∧ fg f v k ≤ 9) := by unfold fg; split at hlo <;> omega
            have h2 : ¬ (lo ≤ (iN ((f (5 * v + 1 + k)).toInt - 48)).toInt ∧ (iN ((f (5 * v + 1 + k)).toInt - 48)).toInt ≤ 9) := by
              have e : iN ((f (5 * v + 1 + k)).toInt - 48) = iN ((f (5 * v + 1 + k)).toInt - 48 + 4294967296) := by
                rw [← iN_add]
                have : iN 4294967296 = 0 := by decide
                rw [this, Int32.add_zero]
              rw [e, iN_toInt (by omega) (by omega)]
              omega
            simp only [decide_eq_true_eq]
            constructor
            · intro h; exact absurd h h2
            · intro h; exact absurd (by simpa using h.2) h1
          · rw [iN_toInt (by omega) (by omega)]
            unfold fg
            simp [c]
        · rw [if_neg c]
          simp only [c, false_and, iff_false, decide_eq_true_eq]
          have : ((-1 : Int32) - 48).toInt = -49 := by decide
          rw [this]
          split at hlo <;> omega
      have fin : ∀ (lo : Int), (lo = if k = 1 then 1 else 0) → ∀ r : Bool, r = decide (lo ≤ ((if 5 * v + 1 + k < n then f (5 * v + 1 + k) else -1) - (48 : Int32)).toInt ∧ ((if 5 * v + 1 + k < n then f (5 * v + 1 + k) else -1) - (48 : Int32)).toInt ≤ 9) → ((¬ (bI r) = 0) → ((vp_in ((iN (tp t v)) + (iN k)) 64) ∧ (∀ I12 : HP, I12 = (st (st I1 66 (nn ((iN (tp t v)) + (iN k))) ((if 5 * v + 1 + k < n then f (5 * v + 1 + k) else -1) - (48 : Int32))) 58 7 (((st I1 66 (nn ((iN (tp t v)) + (iN k))) ((if 5 * v + 1 + k < n then f (5 * v + 1 + k) else -1) - (48 : Int32))) 58 7) + (1 : Int32))) → GZ G Y_X8_readsVerse 62 [(0, .ref 58), (1, .int (iN t)), (2, .int (iN (kd f v))), (3, .int (iN (tp t v))), (4, .int ((iN k) + 1))] I12 Q))) ∧ (((bI r) = 0) → (Q I1 false)) := by
        intro lo hlo r hr
        obtain ⟨hiff, hfv⟩ := hval lo hlo
        rw [bI_0, iN_add]
        refine ⟨fun c => ⟨(vp_iN (by omega)).mpr ⟨by omega, by omega⟩, ?_⟩, fun c => ?_⟩
        · have ok := hiff.mp (by rw [← hr]; simpa using c)
          rw [show nn (iN ((tp t v : Int) + k)) = tp t v + k by rw [nn, nn_iN (by omega) (by omega)]; omega, hfv ok.1 ok.2]
          intro I12 e12
          subst e12
          have := ih (k + 1) (by omega) h0 (fun j hj => ?_) _ (frm_s8 (frm_st hfr (by decide) (by decide)) (by decide) : frm [66] [7] I (st (st I1 66 (tp t v + k) (iN (fg f v k))) 58 7 ((st I1 66 (tp t v + k) (iN (fg f v k))) 58 7 + 1))) ?_ (fun j hj => ?_) (fun j hj => ?_)
          · rw [l1, iN_add]
            exact this
          · by_cases c2 : j = k
            · subst c2; exact ok
            · exact hd j (by omega)
          · rw [st_self, st_ne1 (by decide), h7, l1, iN_add]; rfl
          · rw [st_ne1 (by decide)]
            by_cases c2 : j = k
            · subst c2; rw [st_self]
            · rw [st_ne2 (by omega)]; exact htold j (by omega)
          · rw [st_ne1 (by decide), st_ne2 (by omega)]; exact hoth j hj
        · have nok := mt hiff.mpr (by rw [← hr, c]; decide)
          refine hF (5 * v + 1 + k) (by omega) (by omega) hp (fun j h1 h2 => ?_) (fun c2 => ?_) I1 (frm_mo hfr (by decide) (by decide)) h7 (fun j _ => by rw [hfr.1 65 (by decide) (by decide)]) hoth
          · by_cases c2 : j = 5 * v
            · subst c2; exact h0.2
            · have := (hd (j - (5 * v + 1)) (by omega)).2
              rw [show 5 * v + 1 + (j - (5 * v + 1)) = j by omega] at this
              exact this
          · cases hb : fitB (f (5 * v + 1 + k)) ((5 * v + 1 + k) % 5) with
            | true => exact absurd ⟨c2, hb⟩ nok
            | false => rfl
      refine ⟨fun c => s_in3 0 9 (by decide) (by decide) (fin 0 ?_ _ rfl), fun c => s_in3 1 9 (by decide) (by decide) (fin 1 ?_ _ rfl)⟩
      · rw [if_neg]
        intro e; subst e; exact c rfl
      · rw [if_pos]
        rw [l1, iN_eq (by omega) (by omega)] at c
        omega
  have go : kBy (if 5 * v < n then f (5 * v) else -1) ≠ -1 → ∀ z : Int32, z = (4 : Int32) * ((12 : Int32) * iN t + I 65 t) → GZ G Y_X8_readsVerse 62 [(0, .ref 58), (1, .int (iN t)), (2, .int (iN (kBy (if 5 * v < n then f (5 * v) else -1)))), (3, .int z), (4, .int (0 : Int32))] (st I 58 7 ((I 58 7) + (1 : Int32))) Q := by
    intro hne z hz
    obtain ⟨a1, a2, a3⟩ := hkd hne
    rw [hm, l12, l4, iN_mul, iN_add, iN_mul] at hz
    rw [a2, show z = iN (tp t v) by rw [hz]; unfold tp; congr 1]
    refine loop 3 0 rfl ⟨a1, a3⟩ (fun j hj => by omega) _ (frm_s8 frm_rf (by decide)) ?_ (fun j hj => by omega) (fun j _ => by rw [st_ne1 (by decide)])
    rw [st_self, ha, l1, iN_add]; rfl
  refine ⟨vp_2 ht, ?_⟩
  generalize kBy (if 5 * v < n then f (5 * v) else -1) = K at bad go hbk hkd ⊢
  rw [nn_2 ht, hm, l0, l4, l12, show (-1 : Int32) = iN (-1) from rfl, iN_eq (by omega) (by omega), iN_eq (by omega) (by omega), iN_eq (by omega) (by omega), iN_eq (by omega) (by omega)]
  rw [hm] at go
  refine ⟨fun c => ⟨fun c2 => absurd c2 (by omega), fun _ => ⟨fun c2 => go c2, bad⟩⟩, fun c => ⟨fun c2 => absurd c2 (by omega), fun _ => ⟨fun c2 => go c2, bad⟩⟩⟩
theorem ff_go {f : Nat → Int32} {n : Nat} : ∀ m i, i + m ≤ n → (∀ j, i ≤ j → j < i + m → fitB (f j) (j % 5) = true) → ff f n (n - i) i = ff f n (n - (i + m)) (i + m)
  | 0, i, _, _ => rfl
  | m + 1, i, h, hf => by
    have e1 : n - i = (n - (i + 1)) + 1 := by omega
    rw [e1, show ff f n (n - (i + 1) + 1) i = (if fitB (f i) (i % 5) = true then ff f n (n - (i + 1)) (i + 1) else i) from rfl]
    rw [if_pos (hf i (Nat.le_refl _) (by omega)), ff_go m (i + 1) (by omega) (fun j a b => hf j (by omega) (by omega)), show i + 1 + m = i + (m + 1) by omega]
theorem ff_end {f : Nat → Int32} {n q : Nat} (hq : q ≤ n) (h1 : q < n → fitB (f q) (q % 5) = false) (h2 : q = n → ¬ (n = 0 ∨ n % 5 = 4)) : ff f n (n - q) q = q := by
  by_cases c : q = n
  · subst c
    rw [Nat.sub_self]
    unfold ff
    rw [if_neg (h2 rfl)]
  · have e1 : n - q = (n - (q + 1)) + 1 := by omega
    rw [e1]
    unfold ff
    rw [if_neg (by rw [h1 (by omega)]; decide)]
/-- the verses of a text, as the reference tells them -/
def tOK (I : HP) (t : Nat) (f : Nat → Int32) (n : Nat) : Prop := ∀ v, v < szT f n → (∀ k, k < 3 → I 66 (tp t v + k) = iN (fg f v k)) ∧ I 66 (tp t v + 3) = iN (kd f v)
set_option maxHeartbeats 1000000 in
theorem s_readsText {Q : HP → Int32 → Prop} {t n : Nat} {f : Nat → Int32} (hM : isM I t f n)
    (h : ∀ I', frm [66, 65] [7] I I' → I' 65 t = iN (szT f n) → (∀ j, j ≠ t → I' 65 j = I 65 j) → tOK I' t f n → (∀ j, j < tp t 0 ∨ tp t 0 + 48 ≤ j → I' 66 j = I 66 j) → Q I' (iN (flw f n))) : RI G Y_X8_readsText [.ref 58, .int (iN t)] I Q := by
  have ht := hM.1
  have hn' : n ≤ 59 ∧ (t = 1 → n ≤ 19) := by
    have := hM.2.1
    split at this <;> omega
  have hbd := flw_bd f n
  have loop : ∀ m v : Nat, 5 * v + m = n → (∀ j, j < 5 * v → fitB (f j) (j % 5) = true) → ff f n (n - 5 * v) (5 * v) = flw f n → 0 < n → ∀ I1, frm [66, 65] [7] I I1 → I1 58 7 = iN (5 * v : Nat) → I1 65 t = iN v → (∀ j, j ≠ t → I1 65 j = I 65 j) → (∀ u, u < v → (∀ k, k < 3 → I1 66 (tp t u + k) = iN (fg f u k)) ∧ I1 66 (tp t u + 3) = iN (kd f u)) → (∀ j, j < tp t 0 ∨ tp t 0 + 48 ≤ j → I1 66 j = I 66 j) → GI G Y_X8_readsText 27 [(0, .ref 58), (1, .int (iN t)), (2, .int (1 : Int32))] I1 Q := by
    intro m
    induction m using Nat.strongRecOn with
    | ind m ih =>
      intro v hm hfit hff hpos I1 hfr h7 h65 h65o htold hoth
      refine v_X8_readsText_27 ⟨fun c => absurd c (by decide), fun _ => ?_⟩
      have hM1 : isM I1 t f n := isM_fr hM (hfr.1 64 (by decide) (by decide)) (hfr.1 63 (by decide) (by decide))
      have hvb : v < 12 ∧ (t = 1 → v < 4) := by omega
      refine s_readsVerse hM1 (by omega) h7 h65 ?_ ?_
      · -- the verse is well
        intro h4 hf4 I2 hfr2 h27 h265 h265o h2t h2k h2o
        have hfr' := frm_tr hfr hfr2
        have hM2 : isM I2 t f n := isM_fr hM (hfr'.1 64 (by decide) (by decide)) (hfr'.1 63 (by decide) (by decide))
        rw [bI_0]
        refine ⟨fun c => absurd c (by decide), fun _ => ⟨vp_2 ht, ?_⟩⟩
        rw [nn_2 ht, hM2.2.2.1, h27, iN_le (by omega) (by omega)]
        have htold2 : ∀ u, u < v + 1 → (∀ k, k < 3 → I2 66 (tp t u + k) = iN (fg f u k)) ∧ I2 66 (tp t u + 3) = iN (kd f u) := by
          intro u hu
          by_cases c : u = v
          · subst c; exact ⟨h2t, h2k⟩
          · have := htold u (by omega)
            refine ⟨fun k hk => ?_, ?_⟩
            · rw [h2o _ (by unfold tp; omega)]; exact this.1 k hk
            · rw [h2o _ (by unfold tp; omega)]; exact this.2
        have hoth2 : ∀ j, j < tp t 0 ∨ tp t 0 + 48 ≤ j → I2 66 j = I 66 j := by
          intro j hj
          rw [h2o j (by unfold tp at hj ⊢; omega)]
          exact hoth j hj
        have h265o2 : ∀ j, j ≠ t → I2 65 j = I 65 j := fun j hj => by rw [h265o j hj]; exact h65o j hj
        have hff4 : ff f n (n - (5 * v + 4)) (5 * v + 4) = flw f n := by
          rw [← hff]; exact (ff_go 4 (5 * v) (by omega) hf4).symm
        refine ⟨fun c => ?_, fun c => ?_⟩
        · have e : n = 5 * v + 4 := by omega
          have hfl : flw f n = -1 := by
            rw [← hff4, e, Nat.sub_self]
            unfold ff
            rw [if_pos (Or.inr (by omega))]
          refine v_X8_readsText_27 ⟨fun _ => ?_, fun c => absurd rfl c⟩
          have hsz : szT f n = v + 1 := by unfold szT; rw [if_pos hfl]; omega
          have := h _ (frm_s8 hfr' (by decide) : frm [66, 65] [7] I (st I2 58 7 (iN ((5 * v + 4 : Nat) : Int) + 0))) (by rw [st_ne1 (by decide), h265, hsz]) (fun j hj => by rw [st_ne1 (by decide)]; exact h265o2 j hj) (fun u hu => by rw [st_ne1 (by decide)]; exact htold2 u (by omega)) (fun j hj => by rw [st_ne1 (by decide)]; exact hoth2 j hj)
          rw [hfl] at this
          exact this
        · refine s_here (p := 5 * v + 4) hM2 (by omega) h27 ?_
          rw [if_pos (by omega)]
          have hp4 : (5 * v + 4) % 5 = 4 := by omega
          refine ⟨fun c2 => ?_, fun c2 => ?_⟩
          · have hf5 : ∀ j, 5 * v + 4 ≤ j → j < 5 * v + 4 + 1 → fitB (f j) (j % 5) = true := by
              intro j h1 h2
              have : j = 5 * v + 4 := by omega
              subst this
              rw [hp4]
              simp [fitB, c2]
            refine ih (n - 5 * (v + 1)) (by omega) (v + 1) (by omega) (fun j hj => ?_) ?_ hpos _ (frm_s8 hfr' (by decide)) ?_ ?_ (fun j hj => ?_) (fun u hu => ?_) (fun j hj => ?_)
            · by_cases q : j < 5 * v
              · exact hfit j q
              · by_cases q2 : j < 5 * v + 4
                · exact hf4 j (by omega) q2
                · exact hf5 j (by omega) (by omega)
            · rw [← hff4, ff_go 1 (5 * v + 4) (by omega) hf5]; rfl
            · rw [st_self, h27, l1, iN_add]; congr 1
            · rw [st_ne1 (by decide)]; exact h265
            · rw [st_ne1 (by decide)]; exact h265o2 j hj
            · rw [st_ne1 (by decide)]; exact htold2 u hu
            · rw [st_ne1 (by decide)]; exact hoth2 j hj
          · have hfl : flw f n = (5 * v + 4 : Nat) := by
              rw [← hff4]
              exact ff_end (by omega) (fun _ => by rw [hp4]; simp [fitB, c2]) (fun e => by omega)
            have hsz : szT f n = 0 := by unfold szT; rw [if_neg (by omega)]
            have := h (st I2 65 t (0 : Int32)) (frm_st hfr' (by decide) (by decide)) (by rw [st_self, hsz]; rfl) (fun j hj => by rw [st_ne2 hj]; exact h265o2 j hj) (fun u hu => by omega) (fun j hj => by rw [st_ne1 (by decide)]; exact hoth2 j hj)
            rw [hfl] at this
            rw [st_ne1 (by decide), h27]
            exact this
      · -- it is not
        intro q hq1 hq2 hqn hqf hqb I2 hfr2 h27 h265o h2o
        have hfr' := frm_tr hfr hfr2
        rw [bI_0]
        refine ⟨fun _ => ⟨vp_2 ht, ?_⟩, fun c => absurd rfl c⟩
        rw [nn_2 ht, st_ne1 (by decide), h27]
        have hfl : flw f n = q := by
          rw [← hff]
          have := ff_go (f := f) (n := n) (q - 5 * v) (5 * v) (by omega) (fun j a b => hqf j a (by omega))
          rw [this, show 5 * v + (q - 5 * v) = q by omega]
          exact ff_end hqn hqb (fun e => by omega)
        have hsz : szT f n = 0 := by unfold szT; rw [if_neg (by omega)]
        have := h (st I2 65 t (0 : Int32)) (frm_st hfr' (by decide) (by decide)) (by rw [st_self, hsz]; rfl) (fun j hj => by rw [st_ne2 hj, h265o j hj]; exact h65o j hj) (fun u hu => by omega) (fun j hj => by rw [st_ne1 (by decide), h2o j (by unfold tp at hj ⊢; omega)]; exact hoth j hj)
        rw [hfl] at this
        exact this
  refine v_X8_readsText ⟨vp_2 ht, ?_⟩
  rw [nn_2 ht, st_ne1 (by decide), st_ne1 (by decide), hM.2.2.1, l0, iN_le (by omega) (by omega)]
  have hfr0 : frm [66, 65] [7] I (st (st I 58 7 (iN 0)) 65 t (iN 0)) := frm_st (frm_s8 frm_rf (by decide)) (by decide) (by decide)
  refine ⟨fun c => ?_, fun c => ?_⟩
  · have e : n = 0 := by omega
    refine v_X8_readsText_27 ⟨fun _ => ?_, fun c => absurd rfl c⟩
    have hfl : flw f n = -1 := by rw [e]; rfl
    have hsz : szT f n = 0 := by unfold szT; rw [if_pos hfl, e]
    have := h _ hfr0 (by rw [st_self, hsz]; rfl) (fun j hj => by rw [st_ne2 hj, st_ne1 (by decide)]) (fun u hu => by omega) (fun j hj => by rw [st_ne1 (by decide), st_ne1 (by decide)])
    rw [hfl] at this
    exact this
  · exact loop n 0 (by omega) (fun j hj => by omega) rfl (by omega) _ hfr0 (by rw [st_ne1 (by decide), st_self]; rfl) (by rw [st_self]; rfl) (fun j hj => by rw [st_ne2 hj, st_ne1 (by decide)]) (fun u hu => by omega) (fun j hj => by rw [st_ne1 (by decide), st_ne1 (by decide)])
end MT
