/-! ===== rows sought depth first: pure ===== -/
theorem cntK_congr {vs vs' : Nat → Nat → Int} {k : Int} : ∀ p, (∀ i, i < p → vs i = vs' i) → cntK vs k p = cntK vs' k p
  | 0, _ => rfl
  | p + 1, h => by rw [cntK_s, cntK_s, cntK_congr p (fun i hi => h i (by omega)), h p (by omega)]
theorem tl_congr {R : Nat → Int} {vs vs' : Nat → Nat → Int} : ∀ p, (∀ i, i < p → vs i = vs' i) → tl R vs p = tl R vs' p
  | 0, _ => rfl
  | p + 1, h => by
    rw [tl_s, tl_s, tl_congr p (fun i hi => h i (by omega)), h p (by omega), cntK_congr p (fun i hi => h i (by omega))]
theorem isTl_congr {I : HP} {T n : Nat} {R : Nat → Int} {vs vs' : Nat → Nat → Int} (h : isTl I T R vs n) (e : ∀ i, i < n → vs i = vs' i) : isTl I T R vs' n := by
  obtain ⟨h1, h2, h3, h4, h5⟩ := h
  refine ⟨h1, h2, h3, h4, fun p hp => ?_⟩
  rw [← tl_congr (R := R) (p + 1) (fun i hi => e i (by omega))]
  exact h5 p hp
/-- the class's rules of ORDER -/
def rO4 (R : Nat → Int) : Nat → Int := fun j => if j = 4 then 0 else if j = 3 then 14 else R j
theorem okR_4 {R : Nat → Int} (h : okR R) : okR (rO4 R) := ⟨h.1, h.2.1, h.2.2.1, ⟨by show (0 : Int) ≤ 14; omega, by show (14 : Int) ≤ 99; omega⟩, ⟨by show (0 : Int) ≤ 0; omega, by show (0 : Int) ≤ 1; omega⟩⟩
theorem tl_49 {R : Nat → Int} {vs : Nat → Nat → Int} {n : Nat} (hR : okR R) (hv : okVs vs n) (hn : n ≤ 14) : ∀ p, p ≤ n → tl (rO4 R) vs p = tl (rO9 R) vs p
  | 0, _ => rfl
  | p + 1, hp => by
    have ih := tl_49 hR hv hn p (by omega)
    have b12 := (bd_tl (okR_9 hR) hv p (by omega) (by omega)).2.2.2.1
    rw [tl_s, tl_s, ih]
    unfold tN
    have e1 : ∀ nd, bgT (rO4 R) (tl (rO9 R) vs p) nd = bgT (rO9 R) (tl (rO9 R) vs p) nd := fun _ => rfl
    have e2 : ∀ w, cgT (rO4 R) (tl (rO9 R) vs p) w = cgT (rO9 R) (tl (rO9 R) vs p) w := fun _ => rfl
    have e3 : ∀ w, okT (rO4 R) (tl (rO9 R) vs p) w = okT (rO9 R) (tl (rO9 R) vs p) w := fun w => by
      have t1 : okT (rO4 R) (tl (rO9 R) vs p) w = true := decide_eq_true (Or.inr (by show _ < (14 : Int); omega))
      have t2 : okT (rO9 R) (tl (rO9 R) vs p) w = true := decide_eq_true (Or.inr (by show _ < (99 : Int); omega))
      rw [t1, t2]
    rw [e1, e2, e3]
    unfold tN2
    rw [show rO4 R 2 = rO9 R 2 from rfl]
theorem w9_mono {R : Nat → Int} {vs : Nat → Nat → Int} {n : Nat} (hR : okR R) (hv : okVs vs n) (hn : n ≤ 14) {p : Nat} (hp : p < n) : tl (rO9 R) vs p 7 ≤ tl (rO9 R) vs (p + 1) 7 := by
  have h7 := full9 (okR_9 hR) hv (p + 1) (by omega) (by omega)
  obtain ⟨w1, w2, w3, -⟩ := wr_le (okR_9 hR) hv hp hn (by omega)
  obtain ⟨g7, g4, g5, g6, -⟩ := tl_bg w1
  have pz := (pzT_bd (tl (rO9 R) vs (p + 1) 9) (tl (rO9 R) vs p 13)).1
  have hk := kn_bd (R := rO9 R) hv hp
  have s0 := (hv p hp).2.2.1
  omega
theorem w9_m {R : Nat → Int} {vs : Nat → Nat → Int} {n : Nat} (hR : okR R) (hv : okVs vs n) (hn : n ≤ 14) (p : Nat) : ∀ m, p + m ≤ n → tl (rO9 R) vs p 7 ≤ tl (rO9 R) vs (p + m) 7
  | 0, _ => Int.le_refl _
  | m + 1, h => Int.le_trans (w9_m hR hv hn p m (by omega)) (w9_mono hR hv hn (show p + m < n by omega))
theorem rowV_pre {f : Nat → Int32} {x r : List Nat} {i : Nat} (h : i < x.length) : rowV f (x ++ r) i = rowV f x i := by
  rw [rowV_at h, rowV_at (by rw [List.length_append]; omega), List.getD_eq_getElem?_getD, List.getElem?_append_left h, ← List.getD_eq_getElem?_getD]
/-- a row's pauses and breaths -/
def oP (σ : SG) (x : List Nat) : Int := tl (rO9 (sR σ)) (rowV (sF σ 0) x) x.length 10
def oW (σ : SG) (x : List Nat) : Int := tl (rO9 (sR σ)) (rowV (sF σ 0) x) x.length 7
theorem oPW {σ : SG} (h0 : okS0 σ) {x r : List Nat} (hx : ∀ v, v ∈ x ++ r → v < z0 σ) (hl : (x ++ r).length ≤ 14) : oP σ x ≤ oP σ (x ++ r) ∧ oW σ x ≤ oW σ (x ++ r) := by
  have hv : okVs (rowV (sF σ 0) (x ++ r)) (x ++ r).length := rowV_ok (n := sN σ 0) hx
  have e : tl (rO9 (sR σ)) (rowV (sF σ 0) x) x.length = tl (rO9 (sR σ)) (rowV (sF σ 0) (x ++ r)) x.length := (tl_congr _ (fun i hi => rowV_pre hi)).symm
  unfold oP oW
  rw [e]
  have el : (x ++ r).length = x.length + r.length := List.length_append
  rw [el] at hv hl
  rw [el]
  exact ⟨tl_10m _ _ _ _, w9_m h0.2.1 hv hl x.length r.length (Nat.le_refl _)⟩
theorem oPW_bd {σ : SG} (h0 : okS0 σ) {x : List Nat} (hx : ∀ v, v ∈ x → v < z0 σ) (hl : x.length ≤ 14) : (0 ≤ oP σ x ∧ oP σ x ≤ 10000) ∧ (0 ≤ oW σ x ∧ oW σ x ≤ 10000) := by
  have hv : okVs (rowV (sF σ 0) x) x.length := rowV_ok (n := sN σ 0) hx
  have bt := bd_tl (okR_9 h0.2.1) hv x.length (Nat.le_refl _) hl
  have b1 := bt.2.1
  have b2 := bt.2.2.2.2.2
  have b3 := full9 (okR_9 h0.2.1) hv x.length (Nat.le_refl _) hl
  unfold oP oW
  omega
/-- a row is better than the best so far -/
def BT (σ : SG) (s : Int × Int × List Nat) (x : List Nat) : Prop := s.1 = -1 ∨ oP σ x < s.1 ∨ (oP σ x = s.1 ∧ oW σ x < s.2.1)
theorem ordU_y {σ : SG} {s : Int × Int × List Nat} {x : List Nat} (h : BT σ s x) : ordU (sR σ) (sF σ 0) s x = (oP σ x, oW σ x, x) := if_pos h
theorem ordU_n {σ : SG} {s : Int × Int × List Nat} {x : List Nat} (h : ¬ BT σ s x) : ordU (sR σ) (sF σ 0) s x = s := if_neg h
theorem BT_n {σ : SG} (h0 : okS0 σ) {s : Int × Int × List Nat} {x r : List Nat} (hx : ∀ v, v ∈ x ++ r → v < z0 σ) (hl : (x ++ r).length ≤ 14) (h : ¬ BT σ s x) : ¬ BT σ s (x ++ r) := by
  obtain ⟨a, b⟩ := oPW h0 hx hl
  unfold BT at h ⊢
  omega
/-- all rows behind a beginning -/
def DD (σ : SG) (k : Nat) (av pre : List Nat) (s : Int × Int × List Nat) : Int × Int × List Nat := (pmS k av).foldl (fun s r => ordU (sR σ) (sF σ 0) s (pre ++ r)) s
theorem foldl_id {α β : Type} {f : α → β → α} {s : α} : ∀ l : List β, (∀ r, r ∈ l → f s r = s) → l.foldl f s = s
  | [], _ => rfl
  | r :: l, h => by
    rw [List.foldl_cons, h r (List.mem_cons_self ..)]
    exact foldl_id l (fun r hr => h r (List.mem_cons_of_mem _ hr))
theorem foldl_fm {α β γ : Type} {f : α → γ → α} {g : β → List γ} : ∀ (l : List β) (s : α), (l.flatMap g).foldl f s = l.foldl (fun s v => (g v).foldl f s) s
  | [], _ => rfl
  | v :: l, s => by
    rw [List.flatMap_cons, List.foldl_append, List.foldl_cons]
    exact foldl_fm l _
theorem DD_s {σ : SG} {k : Nat} {av pre : List Nat} {s : Int × Int × List Nat} : DD σ (k + 1) av pre s = av.foldl (fun s v => DD σ k (av.erase v) (pre ++ [v]) s) s := by
  unfold DD
  show (av.flatMap (fun v => (pmS k (av.erase v)).map (fun r => v :: r))).foldl _ s = _
  rw [foldl_fm]
  congr 1
  funext s v
  rw [List.foldl_map]
  congr 1
  funext s r
  rw [List.append_assoc]
  rfl
theorem DD_0 {σ : SG} {av pre : List Nat} {s : Int × Int × List Nat} : DD σ 0 av pre s = ordU (sR σ) (sF σ 0) s pre := by
  show ordU (sR σ) (sF σ 0) s (pre ++ []) = _
  rw [List.append_nil]
theorem DD_n {σ : SG} (h0 : okS0 σ) {k : Nat} {av pre : List Nat} {s : Int × Int × List Nat} (hp : ∀ v, v ∈ pre → v < z0 σ) (ha : ∀ v, v ∈ av → v < z0 σ) (hl : pre.length + k ≤ 14) (h : ¬ BT σ s pre) : DD σ k av pre s = s := by
  refine foldl_id _ (fun r hr => ordU_n (BT_n h0 (fun v hv => ?_) ?_ h))
  · rcases List.mem_append.mp hv with q | q
    · exact hp v q
    · exact ha v ((pmS_mem _ _ _ hr).1 v q)
  · rw [List.length_append, (pmS_mem _ _ _ hr).2]; exact hl
/-- what is not taken -/
def avL (n : Nat) (pre : List Nat) : List Nat := (List.range n).filter (fun v => decide (v ∉ pre))
theorem avL_e (n : Nat) (pre : List Nat) (v : Nat) : (avL n pre).erase v = avL n (pre ++ [v]) := by
  unfold avL
  rw [List.Nodup.erase_eq_filter (List.Pairwise.filter _ List.nodup_range), List.filter_filter]
  refine List.filter_congr (fun x _ => ?_)
  by_cases c1 : x ∈ pre <;> by_cases c2 : x = v <;> simp [c1, c2]
theorem avL_m {n : Nat} {pre : List Nat} {v : Nat} (h : v ∈ avL n pre) : v < n := List.mem_range.mp (List.mem_filter.mp h).1
theorem avL_0 (n : Nat) : avL n [] = List.range n := by
  unfold avL
  rw [List.filter_eq_self]
  intro a _
  simp
