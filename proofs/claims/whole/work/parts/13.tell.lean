/-! ===== a poem told verse by verse: the mathematical value ===== -/
def stT (lead : Int) : Nat → Int := fun j => if j = 7 then 0 else if j = 13 then lead else if j = 4 ∨ j = 5 ∨ j = 6 ∨ j = 8 then -1 else 0
def mkC (k m al : Int) : Int := if k = 1 ∧ 0 < al then 0 else m
def knC (k q al : Int) : Int := if k = 1 ∧ 0 < al then 0 else if 0 < q - al then q - al else 0
def pzT (nd co : Int) : Int := if 0 < nd - co then nd - co else 0
def wrT (k s : Int) : Int := if k = 3 then s + 2 else s
/-- a verse begins; a pen must be changed; the verse is written -/
def bgT (R a : Nat → Int) (nd : Int) : Bool := decide (a 7 ≠ -1 ∧ (nd ≤ a 13 ∨ R 4 = 0))
def cgT (R a : Nat → Int) (w : Int) : Bool := decide (0 < a 11 ∧ R 1 < a 11 + w)
def okT (R a : Nat → Int) (w : Int) : Bool := decide (cgT R a w = false ∨ a 12 < R 3)
/-- a verse behind a verse: k kind, mk, kn what counts, s SAY; w breaths of writing, nd MAKE up to it -/
def tN2 (R a : Nat → Int) (k mk s kn w nd : Int) (b c o : Bool) : Nat → Int := fun j =>
  match j with
  | 0 => k
  | 1 => mk
  | 2 => s
  | 3 => kn
  | 4 => if b then a 7 + pzT nd (a 13) else -1
  | 5 => if b then a 7 + pzT nd (a 13) + s else -1
  | 6 => if b then a 7 + pzT nd (a 13) + s + kn else -1
  | 7 => if b && o then a 7 + pzT nd (a 13) + s + kn + (if c then R 2 else 0) + w else -1
  | 8 => if b then pzT nd (a 13) else -1
  | 9 => nd
  | 10 => if b then a 10 + pzT nd (a 13) else a 10
  | 11 => if b && o then (if c then w else a 11 + w) else a 11
  | 12 => if b && o && c then a 12 + 1 else a 12
  | 13 => if b then a 13 + pzT nd (a 13) + (if k = 2 then s else 0) + kn + (if o then (if c then R 2 else 0) + w else 0) else a 13
  | 14 => if b then a 13 + pzT nd (a 13) - nd else 0
  | _ => 0
def tN (R a : Nat → Int) (k m s q al : Int) : Nat → Int := tN2 R a k (mkC k m al) s (knC k q al) (wrT k s) (a 9 + mkC k m al) (bgT R a (a 9 + mkC k m al)) (cgT R a (wrT k s)) (okT R a (wrT k s))
/-- how many of the first p verses are of a kind -/
def cntK (vs : Nat → Nat → Int) (k : Int) : Nat → Nat
  | 0 => 0
  | p + 1 => cntK vs k p + (if vs p 0 = k then 1 else 0)
def tl (R : Nat → Int) (vs : Nat → Nat → Int) : Nat → (Nat → Int)
  | 0 => stT (R 0)
  | p + 1 => tN R (tl R vs p) (vs p 0) (vs p 1) (vs p 2) (vs p 3) (cntK vs (vs p 0) p)
/-- rules and verses as they can be -/
def okR (R : Nat → Int) : Prop := (0 ≤ R 0 ∧ R 0 ≤ 99) ∧ (1 ≤ R 1 ∧ R 1 ≤ 99) ∧ (0 ≤ R 2 ∧ R 2 ≤ 9) ∧ (0 ≤ R 3 ∧ R 3 ≤ 99) ∧ (0 ≤ R 4 ∧ R 4 ≤ 1)
def okV1 (v : Nat → Int) : Prop := (0 ≤ v 0 ∧ v 0 ≤ 3) ∧ (0 ≤ v 1 ∧ v 1 ≤ 9) ∧ (1 ≤ v 2 ∧ v 2 ≤ 9) ∧ (0 ≤ v 3 ∧ v 3 ≤ 9)
def okVs (vs : Nat → Nat → Int) (n : Nat) : Prop := ∀ p, p < n → okV1 (vs p)
def bdT (a : Nat → Int) (p : Nat) : Prop := (0 ≤ a 9 ∧ a 9 ≤ 9 * p) ∧ (0 ≤ a 10 ∧ a 10 ≤ 200 * p) ∧ (0 ≤ a 11 ∧ a 11 ≤ 200) ∧ (0 ≤ a 12 ∧ a 12 ≤ p) ∧ (0 ≤ a 13 ∧ a 13 ≤ 99 + 200 * p) ∧ (-1 ≤ a 7 ∧ a 7 ≤ 200 * p)
theorem cntK_le (vs : Nat → Nat → Int) (k : Int) : ∀ p, cntK vs k p ≤ p
  | 0 => Nat.le_refl _
  | p + 1 => by
    have := cntK_le vs k p
    unfold cntK
    split <;> omega
theorem mkC_bd {k m al : Int} (h : 0 ≤ m ∧ m ≤ 9) : 0 ≤ mkC k m al ∧ mkC k m al ≤ 9 := by unfold mkC; split <;> omega
theorem knC_bd {k q al : Int} (h : 0 ≤ q ∧ q ≤ 9) (ha : 0 ≤ al) : 0 ≤ knC k q al ∧ knC k q al ≤ 9 := by
  unfold knC
  split
  · omega
  · split <;> omega
theorem wrT_bd {k s : Int} (h : 1 ≤ s ∧ s ≤ 9) : 1 ≤ wrT k s ∧ wrT k s ≤ 11 := by unfold wrT; split <;> omega
theorem pzT_bd (nd co : Int) : 0 ≤ pzT nd co ∧ (pzT nd co = nd - co ∨ (pzT nd co = 0 ∧ nd ≤ co)) := by unfold pzT; split <;> omega
theorem bd_N {R a v : Nat → Int} {p : Nat} {al : Int} (hR : okR R) (hv : okV1 v) (ha : bdT a p) (hp : p < 14) (hal : 0 ≤ al) : bdT (tN R a (v 0) (v 1) (v 2) (v 3) al) (p + 1) := by
  obtain ⟨r0, r1, r2, r3, r4⟩ := hR
  obtain ⟨v0, v1, v2, v3⟩ := hv
  obtain ⟨a9, a10, a11, a12, a13, a7⟩ := ha
  have hm := mkC_bd (k := v 0) (al := al) v1
  have hk := knC_bd (k := v 0) v3 hal
  have hw := wrT_bd (k := v 0) v2
  unfold tN
  generalize mkC (v 0) (v 1) al = mk at hm ⊢
  generalize knC (v 0) (v 3) al = kn at hk ⊢
  have hcg : ∀ w : Int, w = wrT (v 0) (v 2) → (cgT R a w = false → a 11 + w ≤ 99 ∨ a 11 ≤ 0) := by
    intro w hw' h
    simp only [cgT, decide_eq_false_iff_not] at h
    omega
  have hcg := hcg _ rfl
  generalize wrT (v 0) (v 2) = w at hw hcg ⊢
  have hpz := pzT_bd (a 9 + mk) (a 13)
  generalize hB : bgT R a (a 9 + mk) = b
  generalize cgT R a w = c at hcg ⊢
  generalize okT R a w = o
  unfold bdT tN2
  generalize pzT (a 9 + mk) (a 13) = pz at hpz ⊢
  have hb7 : b = true → a 7 ≠ -1 := by
    intro e
    rw [e] at hB
    simp only [bgT, decide_eq_true_eq] at hB
    exact hB.1
  have e2 : (0 : Int) ≤ (if v 0 = 2 then v 2 else 0) ∧ (if v 0 = 2 then v 2 else 0) ≤ 9 := by split <;> omega
  generalize (if v 0 = 2 then v 2 else (0 : Int)) = s2 at e2 ⊢
  cases b <;> cases c <;> cases o <;> simp at hcg hb7 ⊢ <;> omega
theorem bd_tl {R : Nat → Int} {vs : Nat → Nat → Int} {n : Nat} (hR : okR R) (hv : okVs vs n) : ∀ p, p ≤ n → p ≤ 14 → bdT (tl R vs p) p
  | 0, _, _ => by
    obtain ⟨r0, -⟩ := hR
    unfold bdT tl stT
    simp
    omega
  | p + 1, h1, h2 => bd_N hR (hv p (by omega)) (bd_tl hR hv p (by omega) (by omega)) (by omega) (by omega)
