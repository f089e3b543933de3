/-! ===== rows of fields, arrays, calls, answers ===== -/
def FL (own : String) (idx ci j : Nat) : Prop := ∃ (C : String) (T : u_T) (N : Nat), vwCl[ci]? = some (C, T, N) ∧ (∀ w ∈ u_ws C T N, w ∈ wG) ∧ j < N ∧ Cond.fieldLink own idx (T j).1 (T j).2.1 (T j).2.2.1 ∈ wG
def FP (own : String) (idx ci j : Nat) (ty : FieldType) (fin : Bool) : Prop := ∃ (C : String) (T : u_T) (N : Nat) (ty0 : Nat → FieldType), vwCl[ci]? = some (C, T, N) ∧ (∀ w ∈ u_ws C T N, w ∈ wG) ∧ j < N ∧ Cond.fieldLink own idx (T j).1 (T j).2.1 (T j).2.2.1 ∈ wG ∧ (∀ k, k < N → parseFieldDescriptor (T k).2.2.1 = some (ty0 k)) ∧ (∀ a, a < N → ∀ b, b < N → a ≠ b → (T a).2.1 ≠ (T b).2.1) ∧ (T j).2.2.2 = fin ∧ (fin = true → (T j).1 = own) ∧ parseFieldDescriptor (T j).2.2.1 = some ty
def okM (Z : YY) (np : Nat) : Prop := Cond.code Z.1 Z.2.1 Z.2.2.1 Z.2.2.2.1 ∈ wG ∧ Cond.initialized Z.1.cls ∈ wG ∧ (Z.1.cls ≠ "java/lang/invoke/MethodHandle" ∧ Z.1.cls ≠ "java/lang/invoke/VarHandle" ∧ (parseMethodDescriptor Z.1.desc).map (fun d => d.parameters.length) = some np) ∧ Z.2.2.1 ≤ 41
def okV (Z : YY) (np : Nat) : Prop := okM Z np ∧ Cond.instanceMethod Z.1 ∈ wG ∧ Cond.selects Z.1.cls Z.1 Z.1 ∈ wG
def okS (Z : YY) (np : Nat) : Prop := okM Z np ∧ Cond.static Z.1 ∈ wG
def okI (Z : YY) (np : Nat) : Prop := okM Z np ∧ Cond.instanceMethod Z.1 ∈ wG ∧ Z.1.name = "<init>" ∧ Z.2.2.2.1 = none
theorem yW_good (Z : YY) (h : Cond.code Z.1 Z.2.1 Z.2.2.1 Z.2.2.2.1 ∈ wG) : GoodIn wG (yW Z) := fun w hw => by
  rcases List.mem_cons.mp hw with e | e
  · subst e
    exact ⟨h, good_of_word (List.mem_filter.mp h).2⟩
  · exact ⟨e, good_of_word (List.mem_filter.mp e).2⟩
theorem cat_sum (G : CX) (S : List Value) : ((S.map (av G)).map (fun v => v.category)).sum = (S.map (fun v => v.category)).sum := by
  rw [List.map_map]
  congr 1
  apply List.map_congr_left
  intro v _
  exact av_cat G v
theorem lM_args (G : CX) : ∀ (As : List Value) (i : Nat), lM G (lv_args i As) = lv_args i (As.map (av G))
  | [], _ => rfl
  | v :: vs, i => by
    have ih := lM_args G vs (if v.category = 2 then i + 2 else i + 1)
    simp only [lM, lv_args, List.map_cons, av_cat] at ih ⊢
    rw [ih]
theorem lg_sl_len (G : CX) (As : List Value) : (lg_sl (As.map (av G))).length = (lg_sl As).length := by
  induction As with
  | nil => rfl
  | cons v vs ih =>
    simp only [lg_sl, List.map_cons, List.flatMap_cons, List.length_append, av_cat] at ih ⊢
    rw [ih]
    split <;> rfl
theorem rO_at {G : CX} {Y : YY} {p : Program} {R : Room} {s : State} {m : MethodId} {args : Array Value} {meth : Method} {c : Code} {H : Heap} {locs : List Loc} (C : CT G Y p R s m args meth c) (hS : va_S (gA G) s.heap H locs) : rO G s H :=
  rO_kept C.2.2.2.2.1 (fun q h1 h2 => hS.2.1 q h1 h2) C.2.2.2.2.2
theorem rW_blind {G : CX} {sh : Sh} {I : HP} {As : List Value} : FrameBlind (va_Pc As (rW G sh I)) := by
  intro a U g mk h
  obtain ⟨h1, h2, h3, h4, h5⟩ := h
  exact ⟨h1, h2, h3, va_K.moved (u := U) (U := U.calling g mk a) (Vm.Alike.refl U.vm) h4, rO_same rfl h5⟩
set_option maxHeartbeats 1000000 in
/-- a method's contract out of its walk -/
theorem ret_of {G : CX} {Y : YY} {As : List Value} {sh : Sh} {I : HP} {Q : Sh → HP → Option Value → Prop} (hpl : plainName Y.1.cls = true) (hn : (lg_sl As).length ≤ Y.2.2.1) (h : Go G Y 0 (lv_args 0 As) [] sh I 0 0 Q) : Ret G Y As sh I Q := by
  intro l
  refine Met.ofW (cc := Y.2.1) (maxL := Y.2.2.1) (ret := Y.2.2.2.1) hpl rfl ?_
  intro p e s m args below meth c s₁ B hml hv
  obtain ⟨rfl, hP, hz, hK, hO⟩ := hv
  have hl := lv_entry (As.map (av G)) (n := Y.2.2.1) (by rw [lg_sl_len]; exact hn)
  rw [lg_entry_eq]
  rw [← lM_args] at hl
  exact h p l e _ s m _ below meth c s.heap [] _ ⟨⟨B.exec, B.bytes, hml, findClass_of_methodNamed B.named, fun w hw => atoms_spec (ws := yW Y) B.pre w (List.mem_cons_of_mem _ hw)⟩, ⟨B.returns, B.notSynchronized, fun h => (name_of_methodNamed B.named B.method).1.trans h⟩, ⟨Nat.le_refl _, Nat.le_refl _, Nat.le_refl _, Nat.le_refl _⟩, hK, hO, by rw [hz]; exact Nat.le_add_right _ _⟩ hP hz va_S.rf hl
section Rows
variable {G : CX} {Y : YY} {pc : Nat} {L : List (Nat × Value)} {S : List Value} {sh : Sh} {I : HP} {k n : Nat} {Q : Sh → HP → Option Value → Prop}
theorem ad_lt {r : Nat} (h : r < 1000) : ad G r = gB G + r := if_pos h
theorem go_getI {r j idx : Nat} {c : Nat × Nat × List (Option Nat)} (hd : decode Y.2.1 pc = .ok (.getfield idx, 3)) (hsh : sh[r]? = some c) (hr : r < 1000) (hF : FL Y.1.cls idx c.1 j) (h9 : c.1 < 9 ∧ j < c.2.1 ∧ rK c.1 j = false) (kk : Go G Y (pc + 3) L (.int (I r j) :: S) sh I k n Q) : Go G Y pc L (.ref r :: S) sh I k n Q := by
  intro p l e R s m args below meth c H locs ls C hP hz hS hl
  obtain ⟨C', T, N, hc, hin, hj, hlk⟩ := hF
  have hw := wO_at (G := G) (I := I) hsh
  rw [cE_obj h9.1] at hw
  show W p l e R s m args below meth _ H locs k n _ (F0 m pc ls (.ref (ad G r) :: S.map (av G)))
  rw [ad_lt hr]
  exact va_get C.1.1 C.1.2.1 (Ts := wG) C.1.2.2.2.2 hin C.1.2.2.2.1 C.2.2.2.1 hP r hw hc j hj (C.1.2.2.2.2 _ hlk) (fun x hx => hx) (v := .int (I r j)) (by rw [fV_get h9.2.1]; simp [fV, h9.2.2]) hd (kk p l e R s m args below meth _ H locs ls C hP hz hS hl)
theorem go_getR {r j idx x : Nat} {c : Nat × Nat × List (Option Nat)} (hd : decode Y.2.1 pc = .ok (.getfield idx, 3)) (hsh : sh[r]? = some c) (hr : r < 1000) (hF : FL Y.1.cls idx c.1 j) (h9 : c.1 < 9 ∧ j < c.2.1 ∧ rK c.1 j = true) (hx : c.2.2.getD j none = some x) (kk : Go G Y (pc + 3) L (.ref x :: S) sh I k n Q) : Go G Y pc L (.ref r :: S) sh I k n Q := by
  intro p l e R s m args below meth c H locs ls C hP hz hS hl
  obtain ⟨C', T, N, hc, hin, hj, hlk⟩ := hF
  have hw := wO_at (G := G) (I := I) hsh
  rw [cE_obj h9.1] at hw
  show W p l e R s m args below meth _ H locs k n _ (F0 m pc ls (.ref (ad G r) :: S.map (av G)))
  rw [ad_lt hr]
  exact va_get C.1.1 C.1.2.1 (Ts := wG) C.1.2.2.2.2 hin C.1.2.2.2.1 C.2.2.2.1 hP r hw hc j hj (C.1.2.2.2.2 _ hlk) (fun x hx => hx) (v := .ref (ad G x)) (by rw [fV_get h9.2.1]; simp only [fV, h9.2.2, if_true, hx]; rfl) hd (kk p l e R s m args below meth _ H locs ls C hP hz hS hl)
theorem go_putT {r j idx : Nat} {v : Int32} {ty : FieldType} {c : Nat × Nat × List (Option Nat)} (hd : decode Y.2.1 pc = .ok (.putfield idx, 3)) (hsh : sh[r]? = some c) (hr : r < 1000) (hF : FP Y.1.cls idx c.1 j ty false) (h9 : c.1 < 9 ∧ j < c.2.1 ∧ rK c.1 j = false) (hn : narrow ty (.int v) = .int v) (hf : fits ty (.int v) = true) (kk : Go G Y (pc + 3) L S sh (st I r j v) k n Q) : Go G Y pc L (.int v :: .ref r :: S) sh I k n Q := by
  intro p l e R s m args below meth c0 H locs ls C hP hz hS hl
  obtain ⟨C', T, N, ty0, hc, hin, hj, hlk, hty, hnm, hfin, -, hpd⟩ := hF
  have hw := wO_at (G := G) (I := I) hsh
  rw [cE_obj h9.1] at hw
  show W p l e R s m args below meth _ H locs k n _ (F0 m pc ls (.int v :: .ref (ad G r) :: S.map (av G)))
  rw [ad_lt hr]
  refine va_put C.1.1 C.1.2.1 (Ts := wG) C.1.2.2.2.2 hin ty0 hty hnm C.1.2.2.2.1 C.2.2.2.1 hP wO_D hS r hw hc j hj (C.1.2.2.2.2 _ hlk) (fun x hx => hx) hfin hpd hn hf (by simpa using h9.2.1) hd (fun H1 locs1 hP1 _ hS1 => ?_)
  have e1 : (wO G sh I).set r (gB G + r, .inr (c.1, ((List.range c.2.1).map (fV G r c I)).set j (.int v))) = wO G sh (st I r j v) := wO_set hsh (by rw [cE_obj h9.1, fV_set h9.2.2]) (fun a ha => st_off ha)
  rw [e1] at hP1
  exact kk p l e R s m args below meth _ H1 locs1 ls C hP1 hz hS1 hl
theorem W_sz {p : Program} {l : Launch} {e : Env} {R : Room} {s : State} {m : MethodId} {args : Array Value} {below : List Frame} {meth : Method} {c : Code} {H : Heap} {locs : List Loc} {cells slots : Nat} {Qw : State → Prop} {g : JFrame} (h : H.size ≤ s.heap.size + cells → W p l e R s m args below meth c H locs cells slots Qw g) : W p l e R s m args below meth c H locs cells slots Qw g := by
  intro T hT X
  exact h (by rw [← hT]; exact X.same.2.2.1) T hT X
theorem wO_sz {H H0 : Heap} {locs : List Loc} (hP : va_P G.1 vwCl (wO G sh I) H) (hS : va_S (gA G) H0 H locs) (hk : H0.size + k = gB G + sh.length) (hB : gB G ≤ H0.size) (hle : H.size ≤ H0.size + k) : H.size = gB G + sh.length := by
  by_cases h0 : sh.length = 0
  · have := hS.1
    omega
  · obtain ⟨c, hc⟩ : ∃ c, sh[sh.length - 1]? = some c := ⟨sh[sh.length - 1], List.getElem?_eq_getElem (by omega)⟩
    have := (hP _ _ (wO_at (G := G) (I := I) hc)).lt
    have h2 : gB G + (sh.length - 1) < H.size := this
    omega
/-! arrays of ints -/
theorem go_iald {r len j : Nat} {i : Int32} {rf : List (Option Nat)} (hd : decode Y.2.1 pc = .ok (.iaload, 1)) (hsh : sh[r]? = some (9, len, rf)) (hr : r < 1000) (hin : vp_in i len) (hj : i.toNatClampNeg = j) (kk : Go G Y (pc + 1) L (.int (I r j) :: S) sh I k n Q) : Go G Y pc L (.int i :: .ref r :: S) sh I k n Q := by
  intro p l e R s m args below meth c H locs ls C hP hz hS hl
  subst hj
  have hw := wO_at (G := G) (I := I) hsh
  rw [cE_int] at hw
  show W p l e R s m args below meth _ H locs k n _ (F0 m pc ls (.int i :: .ref (ad G r) :: S.map (av G)))
  rw [ad_lt hr]
  exact va_iald C.1.1 C.1.2.1 C.2.2.2.1 hP r 0 hw rfl hin hd (kk p l e R s m args below meth _ H locs ls C hP hz hS hl)
theorem go_iast {r len j : Nat} {i x : Int32} {rf : List (Option Nat)} (hd : decode Y.2.1 pc = .ok (.iastore, 1)) (hsh : sh[r]? = some (9, len, rf)) (hr : r < 1000) (hin : vp_in i len) (hj : i.toNatClampNeg = j) (kk : Go G Y (pc + 1) L S sh (st I r j x) k n Q) : Go G Y pc L (.int x :: .int i :: .ref r :: S) sh I k n Q := by
  intro p l e R s m args below meth c H locs ls C hP hz hS hl
  subst hj
  have hw := wO_at (G := G) (I := I) hsh
  rw [cE_int] at hw
  show W p l e R s m args below meth _ H locs k n _ (F0 m pc ls (.int x :: .int i :: .ref (ad G r) :: S.map (av G)))
  rw [ad_lt hr]
  refine va_iast C.1.1 C.1.2.1 C.2.2.2.1 hP wO_D hS r 0 hw rfl hin hd (fun H1 locs1 hP1 _ hS1 => ?_)
  have e1 : (wO G sh I).set r (gB G + r, .inl (G.2.1 9, len, .inl (upd (I r) i.toNatClampNeg x))) = wO G sh (st I r i.toNatClampNeg x) := wO_set hsh (by rw [cE_int, st_row]) (fun a ha => st_off ha)
  rw [e1] at hP1
  exact kk p l e R s m args below meth _ H1 locs1 ls C hP1 hz hS1 hl
/-! arrays of booleans -/
theorem go_zald {r len j : Nat} {i : Int32} {rf : List (Option Nat)} (hd : decode Y.2.1 pc = .ok (.baload, 1)) (hsh : sh[r]? = some (10, len, rf)) (hr : r < 1000) (hin : vp_in i len) (hj : i.toNatClampNeg = j) (kk : Go G Y (pc + 1) L (.int (I r j) :: S) sh I k n Q) : Go G Y pc L (.int i :: .ref r :: S) sh I k n Q := by
  intro p l e R s m args below meth c H locs ls C hP hz hS hl
  subst hj
  have hw := wO_at (G := G) (I := I) hsh
  rw [cE_bool] at hw
  show W p l e R s m args below meth _ H locs k n _ (F0 m pc ls (.int i :: .ref (ad G r) :: S.map (av G)))
  rw [ad_lt hr]
  exact va_zald C.1.1 C.1.2.1 C.2.2.2.1 hP r 1 hw rfl hin hd (kk p l e R s m args below meth _ H locs ls C hP hz hS hl)
theorem go_zast {r len j : Nat} {i x : Int32} {rf : List (Option Nat)} (hd : decode Y.2.1 pc = .ok (.bastore, 1)) (hsh : sh[r]? = some (10, len, rf)) (hr : r < 1000) (hin : vp_in i len) (hx : vp_nar .boolean x = x) (hj : i.toNatClampNeg = j) (kk : Go G Y (pc + 1) L S sh (st I r j x) k n Q) : Go G Y pc L (.int x :: .int i :: .ref r :: S) sh I k n Q := by
  intro p l e R s m args below meth c H locs ls C hP hz hS hl
  subst hj
  have hw := wO_at (G := G) (I := I) hsh
  rw [cE_bool] at hw
  show W p l e R s m args below meth _ H locs k n _ (F0 m pc ls (.int x :: .int i :: .ref (ad G r) :: S.map (av G)))
  rw [ad_lt hr]
  refine va_zast C.1.1 C.1.2.1 C.2.2.2.1 hP wO_D hS r 1 hw rfl hin hd (fun H1 locs1 hP1 _ hS1 => ?_)
  have e1 : (wO G sh I).set r (gB G + r, .inl (G.2.1 10, len, .inl (upd (I r) i.toNatClampNeg (vp_nar .boolean x)))) = wO G sh (st I r i.toNatClampNeg x) := wO_set hsh (by rw [cE_bool, st_row, hx]) (fun a ha => st_off ha)
  rw [e1] at hP1
  exact kk p l e R s m args below meth _ H1 locs1 ls C hP1 hz hS1 hl
/-! arrays of references, lengths -/
theorem go_aald {r len x t j : Nat} {i : Int32} {rf : List (Option Nat)} (hd : decode Y.2.1 pc = .ok (.aaload, 1)) (hsh : sh[r]? = some (t, len, rf)) (ht : t = 11 ∨ t = 12) (hr : r < 1000) (hin : vp_in i len) (hj : i.toNatClampNeg = j) (hx : rf.getD j none = some x) (kk : Go G Y (pc + 1) L (.ref x :: S) sh I k n Q) : Go G Y pc L (.int i :: .ref r :: S) sh I k n Q := by
  intro p l e R s m args below meth c H locs ls C hP hz hS hl
  subst hj
  have hw := wO_at (G := G) (I := I) hsh
  show W p l e R s m args below meth _ H locs k n _ (F0 m pc ls (.int i :: .ref (ad G r) :: S.map (av G)))
  rw [ad_lt hr]
  have kk' := kk p l e R s m args below meth _ H locs ls C hP hz hS hl
  have e : va_rf ((rf.getD i.toNatClampNeg none).map (ad G)) = .ref (ad G x) := by rw [hx]; rfl
  rcases ht with rfl | rfl
  · refine va_aldq C.1.1 C.1.2.1 C.2.2.2.1 hP r 2 hw rfl hin hd ?_
    rw [e]
    exact kk'
  · refine va_aldq C.1.1 C.1.2.1 C.2.2.2.1 hP r 3 hw rfl hin hd ?_
    rw [e]
    exact kk'
theorem go_alen {r len t : Nat} {v : Int32} {rf : List (Option Nat)} (hd : decode Y.2.1 pc = .ok (.arraylength, 1)) (hsh : sh[r]? = some (t, len, rf)) (ht : t = 9 ∨ t = 10 ∨ t = 11 ∨ t = 12) (hr : r < 1000) (hv : Int32.ofNat len = v) (kk : Go G Y (pc + 1) L (.int v :: S) sh I k n Q) : Go G Y pc L (.ref r :: S) sh I k n Q := by
  intro p l e R s m args below meth c H locs ls C hP hz hS hl
  have hw := wO_at (G := G) (I := I) hsh
  show W p l e R s m args below meth _ H locs k n _ (F0 m pc ls (.ref (ad G r) :: S.map (av G)))
  rw [ad_lt hr]
  have kk' := kk p l e R s m args below meth _ H locs ls C hP hz hS hl
  rcases ht with rfl | rfl | rfl | rfl
  · exact va_alen C.1.1 C.1.2.1 C.2.2.2.1 hP r 0 hw rfl hv hd kk'
  · exact va_alen C.1.1 C.1.2.1 C.2.2.2.1 hP r 1 hw rfl hv hd kk'
  · exact va_alen C.1.1 C.1.2.1 C.2.2.2.1 hP r 2 hw rfl hv hd kk'
  · exact va_alen C.1.1 C.1.2.1 C.2.2.2.1 hP r 3 hw rfl hv hd kk'
/-! the script, the tables -/
theorem go_sald {i : Int32} (hd : decode Y.2.1 pc = .ok (.iaload, 1)) (hin : vp_in i (gL G)) (kk : Go G Y (pc + 1) L (.int (gXs G i.toNatClampNeg) :: S) sh I k n Q) : Go G Y pc L (.int i :: .ref 1000 :: S) sh I k n Q := by
  intro p l e R s m args below meth c H locs ls C hP hz hS hl
  obtain ⟨hX, hb⟩ := C.2.2.2.2.1.1
  exact va_sld C.1.1 C.1.2.1 hX (Nat.lt_of_lt_of_le hb C.2.2.2.2.2) (Nat.not_le.mpr hb) hS hin hd (kk p l e R s m args below meth _ H locs ls C hP hz hS hl)
theorem go_slen {v : Int32} (hd : decode Y.2.1 pc = .ok (.arraylength, 1)) (hv : Int32.ofNat (gL G) = v) (kk : Go G Y (pc + 1) L (.int v :: S) sh I k n Q) : Go G Y pc L (.ref 1000 :: S) sh I k n Q := by
  intro p l e R s m args below meth c H locs ls C hP hz hS hl
  subst hv
  obtain ⟨hX, hb⟩ := C.2.2.2.2.1.1
  exact va_slen C.1.1 C.1.2.1 hX (Nat.lt_of_lt_of_le hb C.2.2.2.2.2) (Nat.not_le.mpr hb) hS hd (kk p l e R s m args below meth _ H locs ls C hP hz hS hl)
theorem go_tald1 {i : Int32} (hd : decode Y.2.1 pc = .ok (.iaload, 1)) (hin : vp_in i 6) (kk : Go G Y (pc + 1) L (.int (lsF i.toNatClampNeg) :: S) sh I k n Q) : Go G Y pc L (.int i :: .ref 1001 :: S) sh I k n Q := by
  intro p l e R s m args below meth c H locs ls C hP hz hS hl
  obtain ⟨cell, h1, h2, h3, h4, -, h6, h7⟩ := C.2.2.2.2.1.2.1
  have hlt : i.toNatClampNeg < 6 := Nat.not_le.mp fun q => hin (Or.inr q)
  refine W.iald (v := .int (lsF i.toNatClampNeg)) C.1.1 C.1.2.1 (a := gRo G 1001) (cell := cell) ?_ h2 h3 (fun q => ?_) (h6 _ hlt) rfl rfl hd (kk p l e R s m args below meth _ H locs ls C hP hz hS hl)
  · rw [hS.2.1 _ (Array.getElem?_eq_some_iff.mp h1).1 h7]
    exact h1
  · rcases q with q | q
    · exact hin (Or.inl q)
    · exact absurd (Nat.lt_of_lt_of_le hlt (Nat.le_trans h4 q)) (Nat.lt_irrefl _)
theorem go_tald2 {i : Int32} (hd : decode Y.2.1 pc = .ok (.iaload, 1)) (hin : vp_in i 6) (kk : Go G Y (pc + 1) L (.int (msF i.toNatClampNeg) :: S) sh I k n Q) : Go G Y pc L (.int i :: .ref 1002 :: S) sh I k n Q := by
  intro p l e R s m args below meth c H locs ls C hP hz hS hl
  obtain ⟨cell, h1, h2, h3, h4, -, h6, h7⟩ := C.2.2.2.2.1.2.2.1
  have hlt : i.toNatClampNeg < 6 := Nat.not_le.mp fun q => hin (Or.inr q)
  refine W.iald (v := .int (msF i.toNatClampNeg)) C.1.1 C.1.2.1 (a := gRo G 1002) (cell := cell) ?_ h2 h3 (fun q => ?_) (h6 _ hlt) rfl rfl hd (kk p l e R s m args below meth _ H locs ls C hP hz hS hl)
  · rw [hS.2.1 _ (Array.getElem?_eq_some_iff.mp h1).1 h7]
    exact h1
  · rcases q with q | q
    · exact hin (Or.inl q)
    · exact absurd (Nat.lt_of_lt_of_le hlt (Nat.le_trans h4 q)) (Nat.lt_irrefl _)
theorem go_gets1 {idx : Nat} (hd : decode Y.2.1 pc = .ok (.getstatic idx, 3)) (hw : Cond.fieldLink Y.1.cls idx "MayNotPause" "LEAST_SETTING" "[I" ∈ wG) (kk : Go G Y (pc + 3) L (.ref 1001 :: S) sh I k n Q) : Go G Y pc L S sh I k n Q := by
  intro p l e R s m args below meth c H locs ls C hP hz hS hl
  exact va_gets C.1.1 C.1.2.1 C.2.2.2.2.1.2.2.2.1 hS C.1.2.2.2.1 (C.1.2.2.2.2 _ hw) (fun x hx => hx) hd (kk p l e R s m args below meth _ H locs ls C hP hz hS hl)
theorem go_gets2 {idx : Nat} (hd : decode Y.2.1 pc = .ok (.getstatic idx, 3)) (hw : Cond.fieldLink Y.1.cls idx "MayNotPause" "MOST_SETTING" "[I" ∈ wG) (kk : Go G Y (pc + 3) L (.ref 1002 :: S) sh I k n Q) : Go G Y pc L S sh I k n Q := by
  intro p l e R s m args below meth c H locs ls C hP hz hS hl
  exact va_gets C.1.1 C.1.2.1 C.2.2.2.2.1.2.2.2.2.1 hS C.1.2.2.2.1 (C.1.2.2.2.2 _ hw) (fun x hx => hx) hd (kk p l e R s m args below meth _ H locs ls C hP hz hS hl)
/-! answers -/
theorem go_iret {v : Int32} (hd : decode Y.2.1 pc = .ok (.ireturn, 1)) (hr : Y.2.2.2.1 = some .int) (hk : k = yC Y) (hn : n ≤ yS Y) (h : Q sh I (some (.int v))) : Go G Y pc L [.int v] sh I k n Q := by
  intro p l e R s m args below meth c H locs ls C hP hz hS hl
  subst hk
  refine W.widen (k := yC Y) (n := yS Y) (Nat.le_refl _) hn ?_
  exact W.iret C.1.1 C.1.2.1 (C.2.1.1.trans hr) (fun t ht _ => ⟨sh, I, some (.int v), rfl, h, by rw [ht]; exact hP, hz, hS.F ht⟩) hS.2.2 hd C.2.1.2.1
theorem go_zret {v : Int32} (hd : decode Y.2.1 pc = .ok (.ireturn, 1)) (hr : Y.2.2.2.1 = some .boolean) (hb : narrow .boolean (.int v) = .int v) (hk : k = yC Y) (hn : n ≤ yS Y) (h : Q sh I (some (.int v))) : Go G Y pc L [.int v] sh I k n Q := by
  intro p l e R s m args below meth c H locs ls C hP hz hS hl
  subst hk
  refine W.widen (k := yC Y) (n := yS Y) (Nat.le_refl _) hn ?_
  exact W.zret C.1.1 C.1.2.1 (C.2.1.1.trans hr) hb (fun t ht _ => ⟨sh, I, some (.int v), rfl, h, by rw [ht]; exact hP, hz, hS.F ht⟩) hS.2.2 hd C.2.1.2.1
theorem go_lret {v : Int64} (hd : decode Y.2.1 pc = .ok (.lreturn, 1)) (hr : Y.2.2.2.1 = some .long) (hk : k = yC Y) (hn : n ≤ yS Y) (h : Q sh I (some (.long v))) : Go G Y pc L [.long v] sh I k n Q := by
  intro p l e R s m args below meth c H locs ls C hP hz hS hl
  subst hk
  refine W.widen (k := yC Y) (n := yS Y) (Nat.le_refl _) hn ?_
  exact W.lret C.1.1 C.1.2.1 (C.2.1.1.trans hr) (fun t ht _ => ⟨sh, I, some (.long v), rfl, h, by rw [ht]; exact hP, hz, hS.F ht⟩) hS.2.2 hd C.2.1.2.1
theorem go_aret {v : Nat} {C0 : String} (hd : decode Y.2.1 pc = .ok (.areturn, 1)) (hr : Y.2.2.2.1 = some (.object C0)) (hk : k = yC Y) (hn : n ≤ yS Y) (h : Q sh I (some (.ref v))) : Go G Y pc L [.ref v] sh I k n Q := by
  intro p l e R s m args below meth c H locs ls C hP hz hS hl
  subst hk
  refine W.widen (k := yC Y) (n := yS Y) (Nat.le_refl _) hn ?_
  exact W.aret C.1.1 C.1.2.1 (C.2.1.1.trans hr) (Or.inl ⟨_, rfl⟩) (Or.inr ⟨_, rfl⟩) (fun t ht _ => ⟨sh, I, some (.ref v), rfl, h, by rw [ht]; exact hP, hz, hS.F ht⟩) hS.2.2 hd C.2.1.2.1
theorem go_vret (hd : decode Y.2.1 pc = .ok (.return_, 1)) (hr : Y.2.2.2.1 = none) (hk : k = yC Y) (hn : n ≤ yS Y) (h : Q sh I none) : Go G Y pc L [] sh I k n Q := by
  intro p l e R s m args below meth c H locs ls C hP hz hS hl
  subst hk
  refine W.widen (k := yC Y) (n := yS Y) (Nat.le_refl _) hn ?_
  exact W.vret C.1.1 C.1.2.1 (C.2.1.1.trans hr) (fun t ht _ => ⟨sh, I, none, rfl, h, by rw [ht]; exact hP, hz, hS.F ht⟩) hS.2.2 hd C.2.1.2.1
/-! calls -/
theorem go_run {Z : YY} {St : List Value} {Qc : Sh → HP → Option Value → Prop} (hrun : ∀ (p : Program) (l : Launch) (e : Env) (R : Room) (s : State) (m : MethodId) (args : Array Value) (below : List Frame) (meth : Method) (c : Code) (H : Heap) (locs : List Loc) (ls : Array Slot),
    CT G Y p R s m args meth c → va_P G.1 vwCl (wO G sh I) H → H.size = gB G + sh.length → va_S (gA G) s.heap H locs → lv_has ls Y.2.2.1 (lM G L) →
    ∃ a, va_Run p l e R s m args below meth c H locs k n (yC Z) (yS Z) (F0 m pc ls (St.map (av G))) (S.map (av G)) (QC G (yC Z) Qc a) (gA G))
    (hK : ∀ sh' I' v, Qc sh' I' v → Go G Y (pc + 3) L (v.toList ++ S) sh' I' (k + yC Z) (n + yS Z) Q) : Go G Y pc L St sh I k n Q := by
  intro p l e R s m args below meth c H locs ls C hP hz hS hl
  refine W_sz (fun hle => ?_)
  have hsz := wO_sz hP hS hz C.2.2.2.2.2 hle
  obtain ⟨a, hrun⟩ := hrun p l e R s m args below meth c H locs ls C hP hsz hS hl
  intro T hT X
  obtain ⟨v, s0, t, T', L1, h0, X', hL1, e1, e2, ⟨sh', I', v', hv, hq, hP', hz', hF⟩, hst⟩ := hrun T hT X
  have hv' : v = v'.map (av G) := by injection hv
  subst hv'
  have hF' : H.size ≤ t.heap.size ∧ ∀ q : Nat, q < H.size → ¬ gA G q → t.heap[q]? = H[q]? := by
    have := hF
    unfold va_F at this
    rw [h0] at this
    exact this
  rw [h0] at hz'
  have hS' : va_S (gA G) s.heap T'.heap (locs ++ L1) := by
    refine ⟨Nat.le_trans hS.1 (by rw [e1]; exact hF'.1), fun q h1 h2 => ?_, fun q hq' => ?_⟩
    · rw [e1, hF'.2 q (Nat.lt_of_lt_of_le h1 hS.1) h2]
      exact hS.2.1 q h1 h2
    · rcases List.mem_append.mp hq' with h | h
      · exact hS.2.2 q h
      · exact hL1 q h
  obtain ⟨t2, a1, b1⟩ := hK sh' I' v' hq p l e R s m args below meth c T'.heap (locs ++ L1) ls C (by rw [e1]; exact hP') (by omega) hS' hl T' rfl X'
  refine ⟨t2, hst t2 ?_, b1⟩
  have e3 : (v'.map (av G)).toList ++ S.map (av G) = (v'.toList ++ S).map (av G) := by cases v' <;> rfl
  rw [e3]
  exact a1
theorem pre_of {p : Program} {R : Room} {s : State} {m : MethodId} {args : Array Value} {meth : Method} {c : Code} {H : Heap} {locs : List Loc} {As : List Value} (C : CT G Y p R s m args meth c) (hP : va_P G.1 vwCl (wO G sh I) H) (hsz : H.size = gB G + sh.length) (hS : va_S (gA G) s.heap H locs) : ∀ U : State, U.heap = H → s.WarmedH U.vm → va_Pc As (rW G sh I) As.toArray U := by
  intro U hU hW
  refine ⟨rfl, by rw [hU]; exact hP, by rw [hU]; exact hsz, va_K.moved hW.alike C.2.2.2.1, ?_⟩
  rw [hU]
  exact rO_warm hW (rO_at C hS)
theorem callB_Z {p : Program} {R : Room} {s : State} {m : MethodId} {args : Array Value} {meth : Method} {c : Code} {Z : YY} {np idx : Nat} (C : CT G Y p R s m args meth c) (hZ : okM Z np) (hlk : Cond.methodLink Y.1.cls idx Z.1 ∈ wG) (hh : yH Z + 1 ≤ yH Y) : CallB R s args Y.1.cls idx Z.1 Z.2.1 Z.2.2.1 Z.2.2.2.1 (yW Z) (yR Z) (yC Z) (yS Z) np := by
  obtain ⟨h1, h2, h3, h4⟩ := hZ
  obtain ⟨⟨-, -, -, -, hts⟩, -, ⟨r1, r2, r3, r4⟩, -⟩ := C
  refine callB_of np hts (yW_good Z h1) rfl rfl rfl (hts _ h2) (hts _ hlk) h3 ⟨?_, ?_⟩
  · show yH Z + 1 ≤ R.frames
    omega
  · show 8 + (Z.2.2.1 + 11) + 60 * yH Z ≤ R.locals
    omega
theorem go_vcall {Z : YY} {np idx r : Nat} {As St : List Value} {c : Nat × Nat × List (Option Nat)} {T : u_T} {N : Nat} {Qc : Sh → HP → Option Value → Prop} (hd : decode Y.2.1 pc = .ok (.invokevirtual idx, 3)) (hZ : okV Z np) (hlk : Cond.methodLink Y.1.cls idx Z.1 ∈ wG) (hh : yH Z + 1 ≤ yH Y ∧ k + yC Z ≤ yC Y ∧ n + yS Z ≤ yS Y) (hsh : sh[r]? = some c) (hr : r < 1000) (h9 : c.1 < 9) (hc : vwCl[c.1]? = some (Z.1.cls, T, N)) (hn : As.length = np) (hs : St = As.reverse ++ .ref r :: S) (hcat : (S.map (fun v => v.category)).sum ≤ 8) (hR : Ret G Z (.ref r :: As) sh I Qc)
    (hK : ∀ sh' I' v, Qc sh' I' v → Go G Y (pc + 3) L (v.toList ++ S) sh' I' (k + yC Z) (n + yS Z) Q) : Go G Y pc L St sh I k n Q := by
  refine go_run (Z := Z) (Qc := Qc) (S := S) ?_ hK
  intro p l e R s m args below meth c0 H locs ls C hP hsz hS hl
  subst hs
  have hw := wO_at (G := G) (I := I) hsh
  rw [cE_obj h9] at hw
  refine ⟨_, va_runV (As := As.map (av G)) (b := ad G r) C.1 (hR l) ⟨callB_Z C hZ.1 hlk hh.1, C.1.2.2.2.2 _ hZ.2.1, C.1.2.2.2.2 _ hZ.2.2⟩ ⟨rW_blind, ?_, pre_of (As := av G (.ref r) :: As.map (av G)) C hP hsz hS⟩ rfl (by simpa using hn) hl.1 ?_ (lv_room (by rw [cat_sum]; exact hcat)) hd ⟨Nat.le_trans hh.2.1 C.2.2.1.2.2.1, Nat.le_trans hh.2.2 C.2.2.1.2.2.2⟩⟩
  · rw [ad_lt hr]
    exact va_recv C.2.2.2.1 hP hc hw
  · simp [List.map_append, List.map_reverse, av]
theorem go_scall {Z : YY} {np idx : Nat} {As St : List Value} {Qc : Sh → HP → Option Value → Prop} (hd : decode Y.2.1 pc = .ok (.invokestatic idx, 3)) (hZ : okS Z np) (hlk : Cond.methodLink Y.1.cls idx Z.1 ∈ wG) (hh : yH Z + 1 ≤ yH Y ∧ k + yC Z ≤ yC Y ∧ n + yS Z ≤ yS Y) (hn : As.length = np) (hs : St = As.reverse ++ S) (hcat : (S.map (fun v => v.category)).sum ≤ 8) (hR : Ret G Z As sh I Qc)
    (hK : ∀ sh' I' v, Qc sh' I' v → Go G Y (pc + 3) L (v.toList ++ S) sh' I' (k + yC Z) (n + yS Z) Q) : Go G Y pc L St sh I k n Q := by
  refine go_run (Z := Z) (Qc := Qc) (S := S) ?_ hK
  intro p l e R s m args below meth c0 H locs ls C hP hsz hS hl
  subst hs
  exact ⟨_, va_runS (As := As.map (av G)) C.1 (hR l) ⟨callB_Z C hZ.1 hlk hh.1, C.1.2.2.2.2 _ hZ.2⟩ ⟨rW_blind, pre_of (As := As.map (av G)) C hP hsz hS⟩ rfl (by simpa using hn) hl.1 (by simp [List.map_append, List.map_reverse]) (lv_room (by rw [cat_sum]; exact hcat)) hd ⟨Nat.le_trans hh.2.1 C.2.2.1.2.2.1, Nat.le_trans hh.2.2 C.2.2.1.2.2.2⟩⟩
theorem go_icall {Z : YY} {np idx r : Nat} {As St : List Value} {Qc : Sh → HP → Option Value → Prop} (hd : decode Y.2.1 pc = .ok (.invokespecial idx, 3)) (hZ : okI Z np) (hlk : Cond.methodLink Y.1.cls idx Z.1 ∈ wG) (hh : yH Z + 1 ≤ yH Y ∧ k + yC Z ≤ yC Y ∧ n + yS Z ≤ yS Y) (hn : As.length = np) (hs : St = As.reverse ++ .ref r :: S) (hcat : (S.map (fun v => v.category)).sum ≤ 8) (hR : Ret G Z (.ref r :: As) sh I Qc)
    (hK : ∀ sh' I' v, Qc sh' I' v → Go G Y (pc + 3) L (v.toList ++ S) sh' I' (k + yC Z) (n + yS Z) Q) : Go G Y pc L St sh I k n Q := by
  refine go_run (Z := Z) (Qc := Qc) (S := S) ?_ hK
  intro p l e R s m args below meth c0 H locs ls C hP hsz hS hl
  subst hs
  obtain ⟨hZ1, hZ2, hZ3, hZ4⟩ := hZ
  have hB := callB_Z C hZ1 hlk hh.1
  rw [hZ4] at hB
  exact ⟨_, va_runI (As := As.map (av G)) (b := ad G r) C.1 (hR l) ⟨hB, hZ3, C.1.2.2.2.2 _ hZ2⟩ ⟨rW_blind, pre_of (As := av G (.ref r) :: As.map (av G)) C hP hsz hS⟩ rfl (by simpa using hn) hl.1 (by simp [List.map_append, List.map_reverse, av]) (lv_room (by rw [cat_sum]; exact hcat)) hd ⟨Nat.le_trans hh.2.1 C.2.2.1.2.2.1, Nat.le_trans hh.2.2 C.2.2.1.2.2.2⟩⟩
theorem go_nm (kk : ∀ I1 : HP, I1 = I → Go G Y pc L S sh I1 k n Q) : Go G Y pc L S sh I k n Q := kk I rfl
theorem go_top {x : Int32} (kk : ∀ x1 : Int32, x1 = x → Go G Y pc L (.int x1 :: S) sh I k n Q) : Go G Y pc L (.int x :: S) sh I k n Q := kk x rfl
theorem go_topl {x : Int64} (kk : ∀ x1 : Int64, x1 = x → Go G Y pc L (.long x1 :: S) sh I k n Q) : Go G Y pc L (.long x :: S) sh I k n Q := kk x rfl
end Rows
