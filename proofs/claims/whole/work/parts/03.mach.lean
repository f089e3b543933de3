/-! ===== the abstract machine: numbers of cells in place of addresses, a function for all ints of the heap ===== -/
abbrev CX : Type := va_G × (Nat → ClassId) × Nat × (Nat → Nat) × Nat × (Nat → Int32)
def gB (G : CX) : Nat := G.2.2.1
def gRo (G : CX) : Nat → Nat := G.2.2.2.1
def gL (G : CX) : Nat := G.2.2.2.2.1
def gXs (G : CX) : Nat → Int32 := G.2.2.2.2.2
def ad (G : CX) (r : Nat) : Nat := if r < 1000 then gB G + r else gRo G r
def av (G : CX) : Value → Value
  | .ref r => .ref (ad G r)
  | v => v
def gA (G : CX) : Nat → Prop := fun q => gB G ≤ q
abbrev Sh : Type := List (Nat × Nat × List (Option Nat))
abbrev HP : Type := Nat → Nat → Int32
def st (I : HP) (k j : Nat) (v : Int32) : HP := fun a b => if a = k ∧ b = j then v else I a b
theorem st_row (I : HP) (k j : Nat) (v : Int32) : (st I k j v) k = upd (I k) j v := by
  funext b
  simp only [st, upd, true_and]
theorem st_off {I : HP} {k j a : Nat} {v : Int32} (h : a ≠ k) : (st I k j v) a = I a := by
  funext b
  simp [st, h]
/-- which slots of a class hold references -/
def rK (c j : Nat) : Bool := match c with
  | 0 => j < 6
  | 1 => true
  | 2 => j == 0
  | 3 => j == 0
  | 4 => j < 2
  | 5 => j < 3
  | 6 => false
  | 7 => j < 9
  | _ => !(j == 4 || j == 7 || j == 11 || j == 20 || j == 21 || j == 22 || j == 23 || j == 26 || j == 27 || j == 28)
def fV (G : CX) (k : Nat) (c : Nat × Nat × List (Option Nat)) (I : HP) (j : Nat) : Value := if rK c.1 j = true then va_rf ((c.2.2.getD j none).map (ad G)) else .int (I k j)
def cE (G : CX) (k : Nat) (c : Nat × Nat × List (Option Nat)) (I : HP) : va_E :=
  if c.1 < 9 then .inr (c.1, (List.range c.2.1).map (fV G k c I))
  else if c.1 < 11 then .inl (G.2.1 c.1, c.2.1, .inl (I k))
  else .inl (G.2.1 c.1, c.2.1, .inr (.inr (.inr (.inr (fun j => (c.2.2.getD j none).map (ad G))))))
def wO (G : CX) (sh : Sh) (I : HP) : va_W := sh.mapIdx (fun k c => (gB G + k, cE G k c I))
theorem wO_at {G : CX} {sh : Sh} {I : HP} {k : Nat} {c : Nat × Nat × List (Option Nat)} (h : sh[k]? = some c) : (wO G sh I)[k]? = some (gB G + k, cE G k c I) := by
  simp [wO, List.getElem?_mapIdx, h]
theorem wO_inv {G : CX} {sh : Sh} {I : HP} {k : Nat} {q : Nat × va_E} (h : (wO G sh I)[k]? = some q) : ∃ c, sh[k]? = some c ∧ q = (gB G + k, cE G k c I) := by
  simp only [wO, List.getElem?_mapIdx] at h
  cases hs : sh[k]? with
  | none => rw [hs] at h; cases h
  | some c => rw [hs] at h; exact ⟨c, rfl, (Option.some.inj h).symm⟩
theorem wO_D {G : CX} {sh : Sh} {I : HP} : va_D (gA G) (wO G sh I) := by
  refine ⟨fun i j p q hi hj h => ?_, fun k q hk => ?_⟩
  · obtain ⟨c, -, rfl⟩ := wO_inv hi
    obtain ⟨d, -, rfl⟩ := wO_inv hj
    have h : gB G + i = gB G + j := h
    omega
  · obtain ⟨c, -, rfl⟩ := wO_inv hk
    exact Nat.le_add_right _ _
theorem cE_off {G : CX} {k : Nat} {c : Nat × Nat × List (Option Nat)} {I I' : HP} (h : I' k = I k) : cE G k c I' = cE G k c I := by
  have hf : fV G k c I' = fV G k c I := by
    funext j
    unfold fV
    rw [h]
  unfold cE
  rw [hf, h]
theorem wO_set {G : CX} {sh : Sh} {I I' : HP} {k : Nat} {c : Nat × Nat × List (Option Nat)} {e : va_E} (hk : sh[k]? = some c) (he : e = cE G k c I') (ho : ∀ a, a ≠ k → I' a = I a) : (wO G sh I).set k (gB G + k, e) = wO G sh I' := by
  apply List.ext_getElem?
  intro i
  by_cases h : i = k
  · subst h
    have hlt : i < (wO G sh I).length := by simp [wO, (List.getElem?_eq_some_iff.mp hk).1]
    rw [List.getElem?_set_self hlt, wO_at hk, he]
  · rw [List.getElem?_set_ne (Ne.symm h)]
    simp only [wO, List.getElem?_mapIdx]
    cases sh[i]? with
    | none => rfl
    | some d => simp only [Option.map_some, cE_off (ho i h)]
theorem cE_obj {G : CX} {k : Nat} {c : Nat × Nat × List (Option Nat)} {I : HP} (h : c.1 < 9) : cE G k c I = .inr (c.1, (List.range c.2.1).map (fV G k c I)) := by
  unfold cE
  rw [if_pos h]
theorem cE_int {G : CX} {k n : Nat} {r : List (Option Nat)} {I : HP} : cE G k (9, n, r) I = .inl (G.2.1 9, n, .inl (I k)) := rfl
theorem cE_bool {G : CX} {k n : Nat} {r : List (Option Nat)} {I : HP} : cE G k (10, n, r) I = .inl (G.2.1 10, n, .inl (I k)) := rfl
theorem fV_get {G : CX} {k j n : Nat} {c : Nat × Nat × List (Option Nat)} {I : HP} (h : j < n) : ((List.range n).map (fV G k c I))[j]? = some (fV G k c I j) := by
  simp [h]
theorem fV_set {G : CX} {k j : Nat} {c : Nat × Nat × List (Option Nat)} {I : HP} {v : Int32} (hr : rK c.1 j = false) : ((List.range c.2.1).map (fV G k c I)).set j (.int v) = (List.range c.2.1).map (fV G k c (st I k j v)) := by
  apply List.ext_getElem?
  intro i
  by_cases h : i = j
  · subst h
    by_cases hn : i < c.2.1
    · rw [List.getElem?_set_self (by simpa using hn), fV_get hn]
      simp [fV, hr, st]
    · rw [List.getElem?_eq_none (by simpa using Nat.not_lt.mp hn), List.getElem?_eq_none (by simpa using Nat.not_lt.mp hn)]
  · rw [List.getElem?_set_ne (Ne.symm h)]
    by_cases hn : i < c.2.1
    · rw [fV_get hn, fV_get hn]
      simp [fV, st, h]
    · rw [List.getElem?_eq_none (by simpa using Nat.not_lt.mp hn), List.getElem?_eq_none (by simpa using Nat.not_lt.mp hn)]
def tyO (G : CX) : List (ClassId × FieldType) := [(G.2.1 9, .int), (G.2.1 10, .boolean), (G.2.1 11, .object "MayNotPause$Turn"), (G.2.1 12, .object "MayNotPause$Sheet")]
def lsF (j : Nat) : Int32 := [(0 : Int32), 1, 0, 0, 0, 0].getD j 0
def msF (j : Nat) : Int32 := [(99 : Int32), 99, 9, 9, 1, 4095].getD j 0
/-- what nobody writes: the script, the two tables; and the words that don't ride with the others -/
def rO (G : CX) (U : State) (H : Heap) : Prop := (va_X (gRo G 1000) (gL G) (gXs G) U H ∧ gRo G 1000 < gB G) ∧ va_T .int (gRo G 1001) 6 (fun j => .int (lsF j)) (gA G) U H ∧ va_T .int (gRo G 1002) 6 (fun j => .int (msF j)) (gA G) U H ∧ va_Z "MayNotPause" "LEAST_SETTING" "[I" (.ref (gRo G 1001)) (gA G) U H ∧ va_Z "MayNotPause" "MOST_SETTING" "[I" (.ref (gRo G 1002)) (gA G) U H ∧ (va_Nw (.methodLinkNest RX5 17 yX6_init RX7) U ∧ va_Nw (.methodLinkNest RX7 55 yX4_init RX7) U ∧ va_Nw (.methodLinkNest RX7 66 yX3_init RX7) U) ∧ va_AO "MayNotPause$Turn" U ∧ va_AO "MayNotPause$Sheet" U
theorem rO_kept {G : CX} {U : State} {H H1 : Heap} (h : rO G U H) (hq : ∀ q : Nat, q < H.size → ¬ gA G q → H1[q]? = H[q]?) (hs : gB G ≤ H.size) : rO G U H1 := by
  obtain ⟨⟨a1, a2⟩, b1, c1, d1, d2, d3⟩ := h
  have k : ∀ q : Nat, q < gB G → H1[q]? = H[q]? := fun q h => hq q (Nat.lt_of_lt_of_le h hs) (Nat.not_le.mpr h)
  exact ⟨⟨a1.kept (k _ a2), a2⟩, b1.kept hq, c1.kept hq, d1.kept hq, d2.kept hq, d3⟩
theorem rO_warm {G : CX} {s U : State} {H : Heap} (hW : s.WarmedH U.vm) (h : rO G s H) : rO G U H := by
  obtain ⟨⟨a1, a2⟩, b1, c1, d1, d2, ⟨e1, e2, e3⟩, f1, f2⟩ := h
  exact ⟨⟨a1.moved hW.alike, a2⟩, b1.moved hW.alike, c1.moved hW.alike, d1.moved hW.alike, d2.moved hW.alike, ⟨e1.warmM hW, e2.warmM hW, e3.warmM hW⟩, f1.moved hW.alike, f2.moved hW.alike⟩
theorem rO_same {G : CX} {u U : State} {H : Heap} (h : u.vm = U.vm) (hO : rO G u H) : rO G U H := by
  obtain ⟨⟨a1, a2⟩, b1, c1, d1, d2, ⟨e1, e2, e3⟩, f1, f2⟩ := hO
  have hA : u.vm.Alike U.vm := by rw [h]; exact Vm.Alike.refl _
  exact ⟨⟨a1.moved hA, a2⟩, b1.moved hA, c1.moved hA, d1.moved hA, d2.moved hA, ⟨e1.same rfl h, e2.same rfl h, e3.same rfl h⟩, f1.moved hA, f2.moved hA⟩
/-- the words that every method takes along -/
def wG : List Cond := lw_tbl.filter goodWord
theorem wG_good {big : List Cond} (h : ∀ w ∈ wG, w ∈ big) : GoodIn big wG := fun w hw => ⟨h w hw, good_of_word (List.mem_filter.mp hw).2⟩
theorem wG_in {w : Cond} (h : w ∈ lw_tbl) (hg : goodWord w = true) : w ∈ wG := List.mem_filter.mpr ⟨h, hg⟩
/-- a method: name, code, locals, answer; height, cells, slots -/
abbrev YY : Type := MethodName × ByteArray × Nat × Option FieldType × Nat × Nat × Nat
def yH (Y : YY) : Nat := Y.2.2.2.2.1
def yC (Y : YY) : Nat := Y.2.2.2.2.2.1
def yS (Y : YY) : Nat := Y.2.2.2.2.2.2
def yW (Y : YY) : List Cond := .code Y.1 Y.2.1 Y.2.2.1 Y.2.2.2.1 :: wG
def yR (Y : YY) : Room := { frames := yH Y, cells := yC Y, slots := yS Y, locals := 60 * yH Y }
def rW (G : CX) (sh : Sh) (I : HP) (U : State) : Prop := va_P G.1 vwCl (wO G sh I) U.heap ∧ U.heap.size = gB G + sh.length ∧ va_K G.1 vwCl (tyO G) U ∧ rO G U U.heap
def QC (G : CX) (k : Nat) (Q : Sh → HP → Option Value → Prop) : Array Value → State → Outcome → State → Prop := fun _ s0 o t => ∃ (sh : Sh) (I : HP) (v : Option Value), o = .returned (v.map (av G)) ∧ Q sh I v ∧ va_P G.1 vwCl (wO G sh I) t.heap ∧ s0.heap.size + k = gB G + sh.length ∧ va_F (gA G) s0 t
def Ret (G : CX) (Y : YY) (As : List Value) (sh : Sh) (I : HP) (Q : Sh → HP → Option Value → Prop) : Prop :=
  ∀ l : Launch, Met l Y.1 (yW Y) (yR Y) (va_Pc (As.map (av G)) (rW G sh I)) (QC G (yC Y) Q) (yC Y) (yS Y) (gA G)
def CT (G : CX) (Y : YY) (p : Program) (R : Room) (s : State) (m : MethodId) (args : Array Value) (meth : Method) (c : Code) : Prop :=
  CallFix p m c Y.2.1 Y.2.2.1 s args wG Y.1.cls ∧ (meth.sig.returnType = Y.2.2.2.1 ∧ meth.locks = false ∧ (Y.1.name = "<init>" → meth.name = "<init>")) ∧ (yH Y ≤ R.frames ∧ 60 * yH Y ≤ R.locals ∧ yC Y ≤ R.cells ∧ yS Y ≤ R.slots) ∧ va_K G.1 vwCl (tyO G) s ∧ rO G s s.heap ∧ gB G ≤ s.heap.size
def lM (G : CX) (L : List (Nat × Value)) : List (Nat × Value) := L.map (fun q => (q.1, av G q.2))
def Go (G : CX) (Y : YY) (pc : Nat) (L : List (Nat × Value)) (S : List Value) (sh : Sh) (I : HP) (k n : Nat) (Q : Sh → HP → Option Value → Prop) : Prop :=
  ∀ (p : Program) (l : Launch) (e : Env) (R : Room) (s : State) (m : MethodId) (args : Array Value) (below : List Frame) (meth : Method) (c : Code) (H : Heap) (locs : List Loc) (ls : Array Slot),
    CT G Y p R s m args meth c → va_P G.1 vwCl (wO G sh I) H → s.heap.size + k = gB G + sh.length → va_S (gA G) s.heap H locs → lv_has ls Y.2.2.1 (lM G L) →
    W p l e R s m args below meth c H locs k n (MQ below (QC G (yC Y) Q) args s (yC Y) (yS Y) (gA G)) (F0 m pc ls (S.map (av G)))
theorem av_cat (G : CX) (v : Value) : (av G v).category = v.category := by cases v <;> rfl
theorem lM_at {G : CX} {L : List (Nat × Value)} {ls : Array Slot} {nL : Nat} (h : lv_has ls nL (lM G L)) (q : Nat) {i : Nat} {v : Value} (hq : L[q]? = some (i, v)) : ls[i]? = some (.val (av G v)) :=
  lv_at h q (i := i) (v := av G v) (by simp [lM, hq])
/-- a local is stored -/
def ls1 (i : Nat) (v : Value) (L : List (Nat × Value)) : List (Nat × Value) := (i, v) :: L.filter (fun q => !(q.1 == i) && !(q.1 + 1 == i && q.2.category == 2))
def ls2 (i : Nat) (v : Value) (L : List (Nat × Value)) : List (Nat × Value) := (i, v) :: L.filter (fun q => !(q.1 == i) && (!(q.1 == i + 1) && !(q.1 + 1 == i && q.2.category == 2)))
theorem lM_1 (G : CX) (i : Nat) (v : Value) (L : List (Nat × Value)) : (i, av G v) :: (lM G L).filter (fun q => !(q.1 == i) && !(q.1 + 1 == i && q.2.category == 2)) = lM G (ls1 i v L) := by
  simp only [lM, ls1, List.filter_map, List.map_cons]
  congr 2
  apply List.filter_congr
  intro x _
  simp only [Function.comp, av_cat]
theorem lM_2 (G : CX) (i : Nat) (v : Value) (L : List (Nat × Value)) : (i, av G v) :: (lM G L).filter (fun q => !(q.1 == i) && (!(q.1 == i + 1) && !(q.1 + 1 == i && q.2.category == 2))) = lM G (ls2 i v L) := by
  simp only [lM, ls2, List.filter_map, List.map_cons]
  congr 2
  apply List.filter_congr
  intro x _
  simp only [Function.comp, av_cat]
section Rows
variable {G : CX} {Y : YY} {pc : Nat} {L : List (Nat × Value)} {S : List Value} {sh : Sh} {I : HP} {k n : Nat} {Q : Sh → HP → Option Value → Prop}

theorem go_iconst {a : Int} {v : Int32} (hd : decode Y.2.1 pc = .ok (.iconst a, 1)) (hv : Int32.ofInt a = v) (kk : Go G Y (pc + 1) L (.int v :: S) sh I k n Q) : Go G Y pc L S sh I k n Q := by
  intro p l e R s m args below meth c H locs ls C hP hz hS hl
  exact lv_iconst C.1.1 C.1.2.1 hd hv (kk p l e R s m args below meth c H locs ls C hP hz hS hl)
theorem go_bipush {a : Int} {v : Int32} (hd : decode Y.2.1 pc = .ok (.bipush a, 2)) (hv : (Int8.ofInt a).toInt32 = v) (kk : Go G Y (pc + 2) L (.int v :: S) sh I k n Q) : Go G Y pc L S sh I k n Q := by
  intro p l e R s m args below meth c H locs ls C hP hz hS hl
  exact lv_bipush C.1.1 C.1.2.1 hd hv (kk p l e R s m args below meth c H locs ls C hP hz hS hl)
theorem go_sipush {a : Int} {v : Int32} (hd : decode Y.2.1 pc = .ok (.sipush a, 3)) (hv : (Int16.ofInt a).toInt32 = v) (kk : Go G Y (pc + 3) L (.int v :: S) sh I k n Q) : Go G Y pc L S sh I k n Q := by
  intro p l e R s m args below meth c H locs ls C hP hz hS hl
  exact lv_sipush C.1.1 C.1.2.1 hd hv (kk p l e R s m args below meth c H locs ls C hP hz hS hl)
theorem go_lconst {a : Fin 2} {v : Int64} (hd : decode Y.2.1 pc = .ok (.lconst a, 1)) (hv : Int64.ofNat (a : Nat) = v) (kk : Go G Y (pc + 1) L (.long v :: S) sh I k n Q) : Go G Y pc L S sh I k n Q := by
  intro p l e R s m args below meth c H locs ls C hP hz hS hl
  exact lv_lconst C.1.1 C.1.2.1 hd hv (kk p l e R s m args below meth c H locs ls C hP hz hS hl)
theorem go_ldc {i : Nat} {v : Int32} (hd : decode Y.2.1 pc = .ok (.ldc i, 2)) (hw : Cond.constant Y.1.cls i v ∈ wG) (kk : Go G Y (pc + 2) L (.int v :: S) sh I k n Q) : Go G Y pc L S sh I k n Q := by
  intro p l e R s m args below meth c H locs ls C hP hz hS hl
  exact lv_ldc C.1.1 C.1.2.1 C.1.2.2.2.1 (C.1.2.2.2.2 _ hw) hd (kk p l e R s m args below meth c H locs ls C hP hz hS hl)
theorem go_ldcw {i : Nat} {v : Int32} (hd : decode Y.2.1 pc = .ok (.ldc_w i, 3)) (hw : Cond.constant Y.1.cls i v ∈ wG) (kk : Go G Y (pc + 3) L (.int v :: S) sh I k n Q) : Go G Y pc L S sh I k n Q := by
  intro p l e R s m args below meth c H locs ls C hP hz hS hl
  exact lv_ldcw C.1.1 C.1.2.1 C.1.2.2.2.1 (C.1.2.2.2.2 _ hw) hd (kk p l e R s m args below meth c H locs ls C hP hz hS hl)
theorem go_ldc2 {i : Nat} {v : Int64} (hd : decode Y.2.1 pc = .ok (.ldc2_w i, 3)) (hw : Cond.constantLong Y.1.cls i v ∈ wG) (kk : Go G Y (pc + 3) L (.long v :: S) sh I k n Q) : Go G Y pc L S sh I k n Q := by
  intro p l e R s m args below meth c H locs ls C hP hz hS hl
  exact lv_ldc2 C.1.1 C.1.2.1 C.1.2.2.2.1 (C.1.2.2.2.2 _ hw) hd (kk p l e R s m args below meth c H locs ls C hP hz hS hl)
theorem go_iload_n {a : Fin 4} {i : Nat} {x : Int32} (hd : decode Y.2.1 pc = .ok (.iload_n a, 1)) (hi : (a : Nat) = i) (q : Nat) (hq : L[q]? = some (i, .int x)) (kk : Go G Y (pc + 1) L (.int x :: S) sh I k n Q) : Go G Y pc L S sh I k n Q := by
  intro p l e R s m args below meth c H locs ls C hP hz hS hl
  exact lv_iload_n C.1.1 C.1.2.1 hd hi (lM_at hl q hq) (kk p l e R s m args below meth c H locs ls C hP hz hS hl)
theorem go_iload {i : Nat} {x : Int32} (hd : decode Y.2.1 pc = .ok (.iload i, 2)) (q : Nat) (hq : L[q]? = some (i, .int x)) (kk : Go G Y (pc + 2) L (.int x :: S) sh I k n Q) : Go G Y pc L S sh I k n Q := by
  intro p l e R s m args below meth c H locs ls C hP hz hS hl
  exact lv_iload C.1.1 C.1.2.1 hd (lM_at hl q hq) (kk p l e R s m args below meth c H locs ls C hP hz hS hl)
theorem go_istore_n {a : Fin 4} {i : Nat} {x : Int32} {L2 : List (Nat × Value)} (hd : decode Y.2.1 pc = .ok (.istore_n a, 1)) (hi : (a : Nat) = i) (hn : i < Y.2.2.1) (hL : ls1 i (.int x) L = L2) (kk : Go G Y (pc + 1) L2 S sh I k n Q) : Go G Y pc L (.int x :: S) sh I k n Q := by
  intro p l e R s m args below meth c H locs ls C hP hz hS hl
  subst hL
  exact lv_istore_n C.1.1 C.1.2.1 hd hi hl hn (lM_1 G i (.int x) L) (fun ls hl => kk p l e R s m args below meth c H locs ls C hP hz hS hl)
theorem go_istore {i : Nat} {x : Int32} {L2 : List (Nat × Value)} (hd : decode Y.2.1 pc = .ok (.istore i, 2)) (hn : i < Y.2.2.1) (hL : ls1 i (.int x) L = L2) (kk : Go G Y (pc + 2) L2 S sh I k n Q) : Go G Y pc L (.int x :: S) sh I k n Q := by
  intro p l e R s m args below meth c H locs ls C hP hz hS hl
  subst hL
  exact lv_istore C.1.1 C.1.2.1 hd hl hn (lM_1 G i (.int x) L) (fun ls hl => kk p l e R s m args below meth c H locs ls C hP hz hS hl)
theorem go_lload_n {a : Fin 4} {i : Nat} {x : Int64} (hd : decode Y.2.1 pc = .ok (.lload_n a, 1)) (hi : (a : Nat) = i) (q : Nat) (hq : L[q]? = some (i, .long x)) (kk : Go G Y (pc + 1) L (.long x :: S) sh I k n Q) : Go G Y pc L S sh I k n Q := by
  intro p l e R s m args below meth c H locs ls C hP hz hS hl
  exact lv_lload_n C.1.1 C.1.2.1 hd hi (lM_at hl q hq) (kk p l e R s m args below meth c H locs ls C hP hz hS hl)
theorem go_lload {i : Nat} {x : Int64} (hd : decode Y.2.1 pc = .ok (.lload i, 2)) (q : Nat) (hq : L[q]? = some (i, .long x)) (kk : Go G Y (pc + 2) L (.long x :: S) sh I k n Q) : Go G Y pc L S sh I k n Q := by
  intro p l e R s m args below meth c H locs ls C hP hz hS hl
  exact lv_lload C.1.1 C.1.2.1 hd (lM_at hl q hq) (kk p l e R s m args below meth c H locs ls C hP hz hS hl)
theorem go_lstore_n {a : Fin 4} {i : Nat} {x : Int64} {L2 : List (Nat × Value)} (hd : decode Y.2.1 pc = .ok (.lstore_n a, 1)) (hi : (a : Nat) = i) (hn : i + 1 < Y.2.2.1) (hL : ls2 i (.long x) L = L2) (kk : Go G Y (pc + 1) L2 S sh I k n Q) : Go G Y pc L (.long x :: S) sh I k n Q := by
  intro p l e R s m args below meth c H locs ls C hP hz hS hl
  subst hL
  exact lv_lstore_n C.1.1 C.1.2.1 hd hi hl hn (lM_2 G i (.long x) L) (fun ls hl => kk p l e R s m args below meth c H locs ls C hP hz hS hl)
theorem go_lstore {i : Nat} {x : Int64} {L2 : List (Nat × Value)} (hd : decode Y.2.1 pc = .ok (.lstore i, 2)) (hn : i + 1 < Y.2.2.1) (hL : ls2 i (.long x) L = L2) (kk : Go G Y (pc + 2) L2 S sh I k n Q) : Go G Y pc L (.long x :: S) sh I k n Q := by
  intro p l e R s m args below meth c H locs ls C hP hz hS hl
  subst hL
  exact lv_lstore C.1.1 C.1.2.1 hd hl hn (lM_2 G i (.long x) L) (fun ls hl => kk p l e R s m args below meth c H locs ls C hP hz hS hl)
theorem go_aload_n {a : Fin 4} {i : Nat} {x : Nat} (hd : decode Y.2.1 pc = .ok (.aload_n a, 1)) (hi : (a : Nat) = i) (q : Nat) (hq : L[q]? = some (i, .ref x)) (kk : Go G Y (pc + 1) L (.ref x :: S) sh I k n Q) : Go G Y pc L S sh I k n Q := by
  intro p l e R s m args below meth c H locs ls C hP hz hS hl
  exact lv_aload_n C.1.1 C.1.2.1 hd hi (lM_at hl q hq) (kk p l e R s m args below meth c H locs ls C hP hz hS hl)
theorem go_aload {i : Nat} {x : Nat} (hd : decode Y.2.1 pc = .ok (.aload i, 2)) (q : Nat) (hq : L[q]? = some (i, .ref x)) (kk : Go G Y (pc + 2) L (.ref x :: S) sh I k n Q) : Go G Y pc L S sh I k n Q := by
  intro p l e R s m args below meth c H locs ls C hP hz hS hl
  exact lv_aload C.1.1 C.1.2.1 hd (lM_at hl q hq) (kk p l e R s m args below meth c H locs ls C hP hz hS hl)
theorem go_astore_n {a : Fin 4} {i : Nat} {x : Nat} {L2 : List (Nat × Value)} (hd : decode Y.2.1 pc = .ok (.astore_n a, 1)) (hi : (a : Nat) = i) (hn : i < Y.2.2.1) (hL : ls1 i (.ref x) L = L2) (kk : Go G Y (pc + 1) L2 S sh I k n Q) : Go G Y pc L (.ref x :: S) sh I k n Q := by
  intro p l e R s m args below meth c H locs ls C hP hz hS hl
  subst hL
  exact lv_astore_n C.1.1 C.1.2.1 hd hi hl hn (lM_1 G i (.ref x) L) (fun ls hl => kk p l e R s m args below meth c H locs ls C hP hz hS hl)
theorem go_astore {i : Nat} {x : Nat} {L2 : List (Nat × Value)} (hd : decode Y.2.1 pc = .ok (.astore i, 2)) (hn : i < Y.2.2.1) (hL : ls1 i (.ref x) L = L2) (kk : Go G Y (pc + 2) L2 S sh I k n Q) : Go G Y pc L (.ref x :: S) sh I k n Q := by
  intro p l e R s m args below meth c H locs ls C hP hz hS hl
  subst hL
  exact lv_astore C.1.1 C.1.2.1 hd hl hn (lM_1 G i (.ref x) L) (fun ls hl => kk p l e R s m args below meth c H locs ls C hP hz hS hl)
theorem go_iinc {i : Nat} {a : Int} {x v : Int32} {L2 : List (Nat × Value)} (hd : decode Y.2.1 pc = .ok (.iinc i a, 3)) (q : Nat) (hq : L[q]? = some (i, .int x)) (hv : x + Int32.ofInt a = v) (hn : i < Y.2.2.1) (hL : ls1 i (.int v) L = L2) (kk : Go G Y (pc + 3) L2 S sh I k n Q) : Go G Y pc L S sh I k n Q := by
  intro p l e R s m args below meth c H locs ls C hP hz hS hl
  subst hL
  exact lv_iinc C.1.1 C.1.2.1 hd hl (k := q) (by simp only [lM, List.getElem?_map, hq]; rfl) hv hn (lM_1 G i (.int v) L) (fun ls hl => kk p l e R s m args below meth c H locs ls C hP hz hS hl)
theorem go_iadd {x y : Int32} (hd : decode Y.2.1 pc = .ok (.iadd, 1)) (kk : Go G Y (pc + 1) L (.int (x + y) :: S) sh I k n Q) : Go G Y pc L (.int y :: .int x :: S) sh I k n Q := by
  intro p l e R s m args below meth c H locs ls C hP hz hS hl
  exact lv_iadd C.1.1 C.1.2.1 hd (kk p l e R s m args below meth c H locs ls C hP hz hS hl)
theorem go_isub {x y : Int32} (hd : decode Y.2.1 pc = .ok (.isub, 1)) (kk : Go G Y (pc + 1) L (.int (x - y) :: S) sh I k n Q) : Go G Y pc L (.int y :: .int x :: S) sh I k n Q := by
  intro p l e R s m args below meth c H locs ls C hP hz hS hl
  exact lv_isub C.1.1 C.1.2.1 hd (kk p l e R s m args below meth c H locs ls C hP hz hS hl)
theorem go_imul {x y : Int32} (hd : decode Y.2.1 pc = .ok (.imul, 1)) (kk : Go G Y (pc + 1) L (.int (x * y) :: S) sh I k n Q) : Go G Y pc L (.int y :: .int x :: S) sh I k n Q := by
  intro p l e R s m args below meth c H locs ls C hP hz hS hl
  exact lv_imul C.1.1 C.1.2.1 hd (kk p l e R s m args below meth c H locs ls C hP hz hS hl)
theorem go_iand {x y : Int32} (hd : decode Y.2.1 pc = .ok (.iand, 1)) (kk : Go G Y (pc + 1) L (.int (x &&& y) :: S) sh I k n Q) : Go G Y pc L (.int y :: .int x :: S) sh I k n Q := by
  intro p l e R s m args below meth c H locs ls C hP hz hS hl
  exact lv_iand C.1.1 C.1.2.1 hd (kk p l e R s m args below meth c H locs ls C hP hz hS hl)
theorem go_ior {x y : Int32} (hd : decode Y.2.1 pc = .ok (.ior, 1)) (kk : Go G Y (pc + 1) L (.int (x ||| y) :: S) sh I k n Q) : Go G Y pc L (.int y :: .int x :: S) sh I k n Q := by
  intro p l e R s m args below meth c H locs ls C hP hz hS hl
  exact lv_ior C.1.1 C.1.2.1 hd (kk p l e R s m args below meth c H locs ls C hP hz hS hl)
theorem go_ishl {x y : Int32} (hd : decode Y.2.1 pc = .ok (.ishl, 1)) (kk : Go G Y (pc + 1) L (.int (x <<< (y &&& 31)) :: S) sh I k n Q) : Go G Y pc L (.int y :: .int x :: S) sh I k n Q := by
  intro p l e R s m args below meth c H locs ls C hP hz hS hl
  exact lv_ishl C.1.1 C.1.2.1 hd (kk p l e R s m args below meth c H locs ls C hP hz hS hl)
theorem go_ishr {x y : Int32} (hd : decode Y.2.1 pc = .ok (.ishr, 1)) (kk : Go G Y (pc + 1) L (.int (x >>> (y &&& 31)) :: S) sh I k n Q) : Go G Y pc L (.int y :: .int x :: S) sh I k n Q := by
  intro p l e R s m args below meth c H locs ls C hP hz hS hl
  exact lv_ishr C.1.1 C.1.2.1 hd (kk p l e R s m args below meth c H locs ls C hP hz hS hl)
theorem go_idiv {x y : Int32} (hd : decode Y.2.1 pc = .ok (.idiv, 1)) (hne : ¬ y = 0) (kk : Go G Y (pc + 1) L (.int (x / y) :: S) sh I k n Q) : Go G Y pc L (.int y :: .int x :: S) sh I k n Q := by
  intro p l e R s m args below meth c H locs ls C hP hz hS hl
  exact lv_idiv C.1.1 C.1.2.1 hd hne (kk p l e R s m args below meth c H locs ls C hP hz hS hl)
theorem go_irem {x y : Int32} (hd : decode Y.2.1 pc = .ok (.irem, 1)) (hne : ¬ y = 0) (kk : Go G Y (pc + 1) L (.int (x - x / y * y) :: S) sh I k n Q) : Go G Y pc L (.int y :: .int x :: S) sh I k n Q := by
  intro p l e R s m args below meth c H locs ls C hP hz hS hl
  exact lv_irem C.1.1 C.1.2.1 hd hne (kk p l e R s m args below meth c H locs ls C hP hz hS hl)
theorem go_iushr {x y v : Int32} (hd : decode Y.2.1 pc = .ok (.iushr, 1)) (hv : (x.toUInt32 >>> (y.toUInt32 &&& Int32.toUInt32 31)).toInt32 = v) (kk : Go G Y (pc + 1) L (.int v :: S) sh I k n Q) : Go G Y pc L (.int y :: .int x :: S) sh I k n Q := by
  intro p l e R s m args below meth c H locs ls C hP hz hS hl
  exact lv_iushr C.1.1 C.1.2.1 hd hv (kk p l e R s m args below meth c H locs ls C hP hz hS hl)
theorem go_ladd {x y : Int64} (hd : decode Y.2.1 pc = .ok (.ladd, 1)) (kk : Go G Y (pc + 1) L (.long (x + y) :: S) sh I k n Q) : Go G Y pc L (.long y :: .long x :: S) sh I k n Q := by
  intro p l e R s m args below meth c H locs ls C hP hz hS hl
  exact lv_ladd C.1.1 C.1.2.1 hd (kk p l e R s m args below meth c H locs ls C hP hz hS hl)
theorem go_lsub {x y : Int64} (hd : decode Y.2.1 pc = .ok (.lsub, 1)) (kk : Go G Y (pc + 1) L (.long (x - y) :: S) sh I k n Q) : Go G Y pc L (.long y :: .long x :: S) sh I k n Q := by
  intro p l e R s m args below meth c H locs ls C hP hz hS hl
  exact lv_lsub C.1.1 C.1.2.1 hd (kk p l e R s m args below meth c H locs ls C hP hz hS hl)
theorem go_lmul {x y : Int64} (hd : decode Y.2.1 pc = .ok (.lmul, 1)) (kk : Go G Y (pc + 1) L (.long (x * y) :: S) sh I k n Q) : Go G Y pc L (.long y :: .long x :: S) sh I k n Q := by
  intro p l e R s m args below meth c H locs ls C hP hz hS hl
  exact lv_lmul C.1.1 C.1.2.1 hd (kk p l e R s m args below meth c H locs ls C hP hz hS hl)
theorem go_ldiv {x y : Int64} (hd : decode Y.2.1 pc = .ok (.ldiv, 1)) (hne : ¬ y = 0) (kk : Go G Y (pc + 1) L (.long (x / y) :: S) sh I k n Q) : Go G Y pc L (.long y :: .long x :: S) sh I k n Q := by
  intro p l e R s m args below meth c H locs ls C hP hz hS hl
  exact lv_ldiv C.1.1 C.1.2.1 hd hne (kk p l e R s m args below meth c H locs ls C hP hz hS hl)
theorem go_lrem {x y : Int64} (hd : decode Y.2.1 pc = .ok (.lrem, 1)) (hne : ¬ y = 0) (kk : Go G Y (pc + 1) L (.long (x - x / y * y) :: S) sh I k n Q) : Go G Y pc L (.long y :: .long x :: S) sh I k n Q := by
  intro p l e R s m args below meth c H locs ls C hP hz hS hl
  exact lv_lrem C.1.1 C.1.2.1 hd hne (kk p l e R s m args below meth c H locs ls C hP hz hS hl)
theorem go_lcmp {x y : Int64} (hd : decode Y.2.1 pc = .ok (.lcmp, 1)) (kk : Go G Y (pc + 1) L (.int (lg_cmp x y) :: S) sh I k n Q) : Go G Y pc L (.long y :: .long x :: S) sh I k n Q := by
  intro p l e R s m args below meth c H locs ls C hP hz hS hl
  exact W.lcmp C.1.1 C.1.2.1 hd (kk p l e R s m args below meth c H locs ls C hP hz hS hl)
theorem go_i2l {x : Int32} (hd : decode Y.2.1 pc = .ok (.i2l, 1)) (kk : Go G Y (pc + 1) L (.long x.toInt64 :: S) sh I k n Q) : Go G Y pc L (.int x :: S) sh I k n Q := by
  intro p l e R s m args below meth c H locs ls C hP hz hS hl
  exact lv_i2l C.1.1 C.1.2.1 hd rfl (kk p l e R s m args below meth c H locs ls C hP hz hS hl)
theorem go_i2b {x : Int32} (hd : decode Y.2.1 pc = .ok (.i2b, 1)) (kk : Go G Y (pc + 1) L (.int x.toInt8.toInt32 :: S) sh I k n Q) : Go G Y pc L (.int x :: S) sh I k n Q := by
  intro p l e R s m args below meth c H locs ls C hP hz hS hl
  exact lv_i2b C.1.1 C.1.2.1 hd rfl (kk p l e R s m args below meth c H locs ls C hP hz hS hl)
theorem go_i2s {x : Int32} (hd : decode Y.2.1 pc = .ok (.i2s, 1)) (kk : Go G Y (pc + 1) L (.int x.toInt16.toInt32 :: S) sh I k n Q) : Go G Y pc L (.int x :: S) sh I k n Q := by
  intro p l e R s m args below meth c H locs ls C hP hz hS hl
  exact lv_i2s C.1.1 C.1.2.1 hd rfl (kk p l e R s m args below meth c H locs ls C hP hz hS hl)
theorem go_dup {v : Value} (hd : decode Y.2.1 pc = .ok (.dup, 1)) (hc : v.category = 1) (kk : Go G Y (pc + 1) L (v :: v :: S) sh I k n Q) : Go G Y pc L (v :: S) sh I k n Q := by
  intro p l e R s m args below meth c H locs ls C hP hz hS hl
  exact lv_dup C.1.1 C.1.2.1 hd ((av_cat G v).trans hc) (kk p l e R s m args below meth c H locs ls C hP hz hS hl)
theorem go_pop {v : Value} (hd : decode Y.2.1 pc = .ok (.pop, 1)) (hc : v.category = 1) (kk : Go G Y (pc + 1) L S sh I k n Q) : Go G Y pc L (v :: S) sh I k n Q := by
  intro p l e R s m args below meth c H locs ls C hP hz hS hl
  exact lv_pop C.1.1 C.1.2.1 hd ((av_cat G v).trans hc) (kk p l e R s m args below meth c H locs ls C hP hz hS hl)
theorem go_dup2 {v u : Value} (hd : decode Y.2.1 pc = .ok (.dup2, 1)) (hc : v.category = 1) (hu : u.category = 1) (kk : Go G Y (pc + 1) L (v :: u :: v :: u :: S) sh I k n Q) : Go G Y pc L (v :: u :: S) sh I k n Q := by
  intro p l e R s m args below meth c H locs ls C hP hz hS hl
  exact lv_dup2_11 C.1.1 C.1.2.1 hd ((av_cat G v).trans hc) ((av_cat G u).trans hu) (kk p l e R s m args below meth c H locs ls C hP hz hS hl)
theorem go_if_eq {x : Int32} {off : Int} {tgt : Nat} (hd : decode Y.2.1 pc = .ok (.ifCond .eq off, 3)) (ht : (pc : Int) + off = (tgt : Int)) (kt : x = 0 → Go G Y tgt L S sh I k n Q) (kf : ¬ x = 0 → Go G Y (pc + 3) L S sh I k n Q) : Go G Y pc L (.int x :: S) sh I k n Q := by
  intro p l e R s m args below meth c H locs ls C hP hz hS hl
  exact lv_if_eq C.1.1 C.1.2.1 hd ht (fun h => kt h p l e R s m args below meth c H locs ls C hP hz hS hl) (fun h => kf h p l e R s m args below meth c H locs ls C hP hz hS hl)
theorem go_icmp_eq {x y : Int32} {off : Int} {tgt : Nat} (hd : decode Y.2.1 pc = .ok (.if_icmp .eq off, 3)) (ht : (pc : Int) + off = (tgt : Int)) (kt : x = y → Go G Y tgt L S sh I k n Q) (kf : ¬ x = y → Go G Y (pc + 3) L S sh I k n Q) : Go G Y pc L (.int y :: .int x :: S) sh I k n Q := by
  intro p l e R s m args below meth c H locs ls C hP hz hS hl
  exact lv_icmp_eq C.1.1 C.1.2.1 hd ht (fun h => kt h p l e R s m args below meth c H locs ls C hP hz hS hl) (fun h => kf h p l e R s m args below meth c H locs ls C hP hz hS hl)
theorem go_if_ne {x : Int32} {off : Int} {tgt : Nat} (hd : decode Y.2.1 pc = .ok (.ifCond .ne off, 3)) (ht : (pc : Int) + off = (tgt : Int)) (kt : ¬ x = 0 → Go G Y tgt L S sh I k n Q) (kf : x = 0 → Go G Y (pc + 3) L S sh I k n Q) : Go G Y pc L (.int x :: S) sh I k n Q := by
  intro p l e R s m args below meth c H locs ls C hP hz hS hl
  exact lv_if_ne C.1.1 C.1.2.1 hd ht (fun h => kt h p l e R s m args below meth c H locs ls C hP hz hS hl) (fun h => kf h p l e R s m args below meth c H locs ls C hP hz hS hl)
theorem go_icmp_ne {x y : Int32} {off : Int} {tgt : Nat} (hd : decode Y.2.1 pc = .ok (.if_icmp .ne off, 3)) (ht : (pc : Int) + off = (tgt : Int)) (kt : ¬ x = y → Go G Y tgt L S sh I k n Q) (kf : x = y → Go G Y (pc + 3) L S sh I k n Q) : Go G Y pc L (.int y :: .int x :: S) sh I k n Q := by
  intro p l e R s m args below meth c H locs ls C hP hz hS hl
  exact lv_icmp_ne C.1.1 C.1.2.1 hd ht (fun h => kt h p l e R s m args below meth c H locs ls C hP hz hS hl) (fun h => kf h p l e R s m args below meth c H locs ls C hP hz hS hl)
theorem go_if_lt {x : Int32} {off : Int} {tgt : Nat} (hd : decode Y.2.1 pc = .ok (.ifCond .lt off, 3)) (ht : (pc : Int) + off = (tgt : Int)) (kt : x < 0 → Go G Y tgt L S sh I k n Q) (kf : ¬ x < 0 → Go G Y (pc + 3) L S sh I k n Q) : Go G Y pc L (.int x :: S) sh I k n Q := by
  intro p l e R s m args below meth c H locs ls C hP hz hS hl
  exact lv_if_lt C.1.1 C.1.2.1 hd ht (fun h => kt h p l e R s m args below meth c H locs ls C hP hz hS hl) (fun h => kf h p l e R s m args below meth c H locs ls C hP hz hS hl)
theorem go_icmp_lt {x y : Int32} {off : Int} {tgt : Nat} (hd : decode Y.2.1 pc = .ok (.if_icmp .lt off, 3)) (ht : (pc : Int) + off = (tgt : Int)) (kt : x < y → Go G Y tgt L S sh I k n Q) (kf : ¬ x < y → Go G Y (pc + 3) L S sh I k n Q) : Go G Y pc L (.int y :: .int x :: S) sh I k n Q := by
  intro p l e R s m args below meth c H locs ls C hP hz hS hl
  exact lv_icmp_lt C.1.1 C.1.2.1 hd ht (fun h => kt h p l e R s m args below meth c H locs ls C hP hz hS hl) (fun h => kf h p l e R s m args below meth c H locs ls C hP hz hS hl)
theorem go_if_ge {x : Int32} {off : Int} {tgt : Nat} (hd : decode Y.2.1 pc = .ok (.ifCond .ge off, 3)) (ht : (pc : Int) + off = (tgt : Int)) (kt : 0 ≤ x → Go G Y tgt L S sh I k n Q) (kf : ¬ 0 ≤ x → Go G Y (pc + 3) L S sh I k n Q) : Go G Y pc L (.int x :: S) sh I k n Q := by
  intro p l e R s m args below meth c H locs ls C hP hz hS hl
  exact lv_if_ge C.1.1 C.1.2.1 hd ht (fun h => kt h p l e R s m args below meth c H locs ls C hP hz hS hl) (fun h => kf h p l e R s m args below meth c H locs ls C hP hz hS hl)
theorem go_icmp_ge {x y : Int32} {off : Int} {tgt : Nat} (hd : decode Y.2.1 pc = .ok (.if_icmp .ge off, 3)) (ht : (pc : Int) + off = (tgt : Int)) (kt : y ≤ x → Go G Y tgt L S sh I k n Q) (kf : ¬ y ≤ x → Go G Y (pc + 3) L S sh I k n Q) : Go G Y pc L (.int y :: .int x :: S) sh I k n Q := by
  intro p l e R s m args below meth c H locs ls C hP hz hS hl
  exact lv_icmp_ge C.1.1 C.1.2.1 hd ht (fun h => kt h p l e R s m args below meth c H locs ls C hP hz hS hl) (fun h => kf h p l e R s m args below meth c H locs ls C hP hz hS hl)
theorem go_if_gt {x : Int32} {off : Int} {tgt : Nat} (hd : decode Y.2.1 pc = .ok (.ifCond .gt off, 3)) (ht : (pc : Int) + off = (tgt : Int)) (kt : 0 < x → Go G Y tgt L S sh I k n Q) (kf : ¬ 0 < x → Go G Y (pc + 3) L S sh I k n Q) : Go G Y pc L (.int x :: S) sh I k n Q := by
  intro p l e R s m args below meth c H locs ls C hP hz hS hl
  exact lv_if_gt C.1.1 C.1.2.1 hd ht (fun h => kt h p l e R s m args below meth c H locs ls C hP hz hS hl) (fun h => kf h p l e R s m args below meth c H locs ls C hP hz hS hl)
theorem go_icmp_gt {x y : Int32} {off : Int} {tgt : Nat} (hd : decode Y.2.1 pc = .ok (.if_icmp .gt off, 3)) (ht : (pc : Int) + off = (tgt : Int)) (kt : y < x → Go G Y tgt L S sh I k n Q) (kf : ¬ y < x → Go G Y (pc + 3) L S sh I k n Q) : Go G Y pc L (.int y :: .int x :: S) sh I k n Q := by
  intro p l e R s m args below meth c H locs ls C hP hz hS hl
  exact lv_icmp_gt C.1.1 C.1.2.1 hd ht (fun h => kt h p l e R s m args below meth c H locs ls C hP hz hS hl) (fun h => kf h p l e R s m args below meth c H locs ls C hP hz hS hl)
theorem go_if_le {x : Int32} {off : Int} {tgt : Nat} (hd : decode Y.2.1 pc = .ok (.ifCond .le off, 3)) (ht : (pc : Int) + off = (tgt : Int)) (kt : x ≤ 0 → Go G Y tgt L S sh I k n Q) (kf : ¬ x ≤ 0 → Go G Y (pc + 3) L S sh I k n Q) : Go G Y pc L (.int x :: S) sh I k n Q := by
  intro p l e R s m args below meth c H locs ls C hP hz hS hl
  exact lv_if_le C.1.1 C.1.2.1 hd ht (fun h => kt h p l e R s m args below meth c H locs ls C hP hz hS hl) (fun h => kf h p l e R s m args below meth c H locs ls C hP hz hS hl)
theorem go_icmp_le {x y : Int32} {off : Int} {tgt : Nat} (hd : decode Y.2.1 pc = .ok (.if_icmp .le off, 3)) (ht : (pc : Int) + off = (tgt : Int)) (kt : x ≤ y → Go G Y tgt L S sh I k n Q) (kf : ¬ x ≤ y → Go G Y (pc + 3) L S sh I k n Q) : Go G Y pc L (.int y :: .int x :: S) sh I k n Q := by
  intro p l e R s m args below meth c H locs ls C hP hz hS hl
  exact lv_icmp_le C.1.1 C.1.2.1 hd ht (fun h => kt h p l e R s m args below meth c H locs ls C hP hz hS hl) (fun h => kf h p l e R s m args below meth c H locs ls C hP hz hS hl)
theorem go_goto {off : Int} {tgt : Nat} (hd : decode Y.2.1 pc = .ok (.goto off, 3)) (ht : (pc : Int) + off = (tgt : Int)) (kk : Go G Y tgt L S sh I k n Q) : Go G Y pc L S sh I k n Q := by
  intro p l e R s m args below meth c H locs ls C hP hz hS hl
  exact lv_goto C.1.1 C.1.2.1 hd ht (kk p l e R s m args below meth c H locs ls C hP hz hS hl)
theorem go_tOut {dflt lo hi : Int} {offs : Array Int} {len : Nat} {x : Int32} {tgt : Nat} (hd : decode Y.2.1 pc = .ok (.tableswitch dflt lo hi offs, len)) (h : x.toInt < lo ∨ hi < x.toInt) (ht : (pc : Int) + dflt = (tgt : Int)) (kk : Go G Y tgt L S sh I k n Q) : Go G Y pc L (.int x :: S) sh I k n Q := by
  intro p l e R s m args below meth c H locs ls C hP hz hS hl
  exact lv_tableOut C.1.1 C.1.2.1 hd h ht (kk p l e R s m args below meth c H locs ls C hP hz hS hl)
theorem go_tIn {dflt lo hi : Int} {offs : Array Int} {len : Nat} {x : Int32} {off : Int} {tgt : Nat} (hd : decode Y.2.1 pc = .ok (.tableswitch dflt lo hi offs, len)) (h1 : ¬ x.toInt < lo) (h2 : ¬ hi < x.toInt) (ho : offs[(x.toInt - lo).toNat]? = some off) (ht : (pc : Int) + off = (tgt : Int)) (kk : Go G Y tgt L S sh I k n Q) : Go G Y pc L (.int x :: S) sh I k n Q := by
  intro p l e R s m args below meth c H locs ls C hP hz hS hl
  exact lv_tableIn C.1.1 C.1.2.1 hd h1 h2 ho ht (kk p l e R s m args below meth c H locs ls C hP hz hS hl)
theorem go_look {dflt : Int} {ps : Array (Int × Int)} {len : Nat} {x : Int32} {off : Int} {tgt : Nat} (hd : decode Y.2.1 pc = .ok (.lookupswitch dflt ps, len)) (hp : (ps.toList.zip (ps.toList.drop 1)).all (fun (a, next) => a.1 < next.1) = true) (ho : Op.lookupswitch.offset ps.toList dflt x.toInt = off) (ht : (pc : Int) + off = (tgt : Int)) (kk : Go G Y tgt L S sh I k n Q) : Go G Y pc L (.int x :: S) sh I k n Q := by
  intro p l e R s m args below meth c H locs ls C hP hz hS hl
  exact lv_lookup C.1.1 C.1.2.1 hd hp ho ht (kk p l e R s m args below meth c H locs ls C hP hz hS hl)
end Rows
