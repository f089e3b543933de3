/-! ===== Math, arraycopy; what constructors do: new cells, final fields, arrays of references ===== -/
def sr (I : HP) (k : Nat) (f : Nat → Int32) : HP := fun a => if a = k then f else I a
def nw (I : HP) (k : Nat) : HP := fun a b => if a = k then 0 else I a b
section Rows
variable {G : CX} {Y : YY} {pc : Nat} {L : List (Nat × Value)} {S : List Value} {sh : Sh} {I : HP} {k n : Nat} {Q : Sh → HP → Option Value → Prop}
theorem go_max {x y : Int32} {idx : Nat} (hd : decode Y.2.1 pc = .ok (.invokestatic idx, 3)) (hw : Cond.methodLink Y.1.cls idx Lib.Math.max.name ∈ wG ∧ Cond.static Lib.Math.max.name ∈ wG ∧ Cond.initialized "java/lang/Math" ∈ wG ∧ Cond.code Lib.Math.max.name Lib.Math.max.code 2 (some .int) ∈ wG) (hh : 1 ≤ yH Y ∧ k ≤ yC Y ∧ n ≤ yS Y) (hcat : (S.map (fun v => v.category)).sum ≤ 8) (kk : Go G Y (pc + 3) L (.int (if x < y then y else x) :: S) sh I k n Q) : Go G Y pc L (.int y :: .int x :: S) sh I k n Q := by
  intro p l e R s m args below meth c H locs ls C hP hz hS hl
  obtain ⟨r1, r2, r3, r4⟩ := C.2.2.1
  exact va_mmax C.1.1 C.1.2.1 (C.1.2.2.1.trans hl.1.symm) C.1.2.2.2.1 (C.1.2.2.2.2 _ hw.1) (C.1.2.2.2.2 _ hw.2.1) (C.1.2.2.2.2 _ hw.2.2.1) (C.1.2.2.2.2 _ hw.2.2.2) (Nat.le_trans hh.1 r1) (by rw [cat_sum]; omega) (Nat.le_trans hh.2.1 r3) (Nat.le_trans hh.2.2 r4) hd (kk p l e R s m args below meth c H locs ls C hP hz hS hl)
theorem go_min {x y : Int32} {idx : Nat} (hd : decode Y.2.1 pc = .ok (.invokestatic idx, 3)) (hw : Cond.methodLink Y.1.cls idx Lib.Math.min.name ∈ wG ∧ Cond.static Lib.Math.min.name ∈ wG ∧ Cond.initialized "java/lang/Math" ∈ wG ∧ Cond.code Lib.Math.min.name Lib.Math.min.code 2 (some .int) ∈ wG) (hh : 1 ≤ yH Y ∧ k ≤ yC Y ∧ n ≤ yS Y) (hcat : (S.map (fun v => v.category)).sum ≤ 8) (kk : Go G Y (pc + 3) L (.int (if y < x then y else x) :: S) sh I k n Q) : Go G Y pc L (.int y :: .int x :: S) sh I k n Q := by
  intro p l e R s m args below meth c H locs ls C hP hz hS hl
  obtain ⟨r1, r2, r3, r4⟩ := C.2.2.1
  exact va_mmin C.1.1 C.1.2.1 (C.1.2.2.1.trans hl.1.symm) C.1.2.2.2.1 (C.1.2.2.2.2 _ hw.1) (C.1.2.2.2.2 _ hw.2.1) (C.1.2.2.2.2 _ hw.2.2.1) (C.1.2.2.2.2 _ hw.2.2.2) (Nat.le_trans hh.1 r1) (by rw [cat_sum]; omega) (Nat.le_trans hh.2.1 r3) (Nat.le_trans hh.2.2 r4) hd (kk p l e R s m args below meth c H locs ls C hP hz hS hl)
theorem go_copy {r0 r1 n0 n1 idx : Nat} {sp dp a : Int32} {f0 f1 : List (Option Nat)} (hd : decode Y.2.1 pc = .ok (.invokestatic idx, 3)) (hw : Cond.methodLink Y.1.cls idx arraycopyName ∈ wG ∧ Cond.native arraycopyName ∈ wG ∧ Cond.static arraycopyName ∈ wG ∧ Cond.initialized "java/lang/System" ∈ wG) (hh : 1 ≤ yH Y) (hcat : (S.map (fun v => v.category)).sum ≤ 8) (h0 : sh[r0]? = some (9, n0, f0)) (h1 : sh[r1]? = some (9, n1, f1)) (hr : r0 < 1000 ∧ r1 < 1000) (hb : ¬ sp < 0 ∧ ¬ dp < 0 ∧ ¬ a < 0 ∧ sp.toNatClampNeg + a.toNatClampNeg ≤ n0 ∧ dp.toNatClampNeg + a.toNatClampNeg ≤ n1) (kk : Go G Y (pc + 3) L S sh (sr I r1 (va_cpy (I r0) (I r1) sp.toNatClampNeg dp.toNatClampNeg a.toNatClampNeg)) k n Q) : Go G Y pc L (.int a :: .int dp :: .ref r1 :: .int sp :: .ref r0 :: S) sh I k n Q := by
  intro p l e R s m args below meth c H locs ls C hP hz hS hl
  obtain ⟨q1, q2, q3, q4⟩ := C.2.2.1
  have w0 := wO_at (G := G) (I := I) h0
  have w1 := wO_at (G := G) (I := I) h1
  rw [cE_int] at w0 w1
  show W p l e R s m args below meth _ H locs k n _ (F0 m pc ls (.int a :: .int dp :: .ref (ad G r1) :: .int sp :: .ref (ad G r0) :: S.map (av G)))
  rw [ad_lt hr.1, ad_lt hr.2]
  refine va_copyi C.1.1 C.1.2.1 (C.1.2.2.1.trans hl.1.symm) C.1.2.2.2.1 (C.1.2.2.2.2 _ hw.1) (C.1.2.2.2.2 _ hw.2.1) (C.1.2.2.2.2 _ hw.2.2.1) (C.1.2.2.2.2 _ hw.2.2.2) C.2.2.2.1 hP wO_D hS r0 r1 0 0 w0 w1 rfl rfl rfl hb.1 hb.2.1 hb.2.2.1 hb.2.2.2.1 hb.2.2.2.2 (fun _ _ => rfl) (Nat.le_trans hh q1) ?_ hd (fun H1 locs1 hP1 _ hS1 => ?_)
  · rw [cat_sum]
    have : nativeFrameWords "java/lang/System" "arraycopy" 5 + 11 ≤ 40 := by decide +kernel
    omega
  · have e1 : (wO G sh I).set r1 (gB G + r1, .inl (G.2.1 9, n1, .inl (va_cpy (I r0) (I r1) sp.toNatClampNeg dp.toNatClampNeg a.toNatClampNeg))) = wO G sh (sr I r1 (va_cpy (I r0) (I r1) sp.toNatClampNeg dp.toNatClampNeg a.toNatClampNeg)) := wO_set h1 (by rw [cE_int]; simp [sr]) (fun a ha => by simp [sr, ha])
    rw [e1] at hP1
    exact kk p l e R s m args below meth _ H1 locs1 ls C hP1 hz hS1 hl
theorem go_oinit {idx r : Nat} (hd : decode Y.2.1 pc = .ok (.invokespecial idx, 3)) (hw : Cond.methodLink Y.1.cls idx Lib.objectInit ∈ wG ∧ Cond.instanceMethod Lib.objectInit ∈ wG ∧ Cond.code Lib.objectInit ⟨#[0xb1]⟩ 1 none ∈ wG) (hh : 1 ≤ yH Y) (hcat : (S.map (fun v => v.category)).sum ≤ 8) (kk : Go G Y (pc + 3) L S sh I k n Q) : Go G Y pc L (.ref r :: S) sh I k n Q := by
  intro p l e R s m args below meth c H locs ls C hP hz hS hl
  obtain ⟨q1, q2, q3, q4⟩ := C.2.2.1
  refine W.objInit C.1.1 C.1.2.1 C.1.2.2.2.1 (C.1.2.2.2.2 _ hw.1) (C.1.2.2.2.2 _ hw.2.1) (C.1.2.2.2.2 _ hw.2.2) rfl (hl.1.trans C.1.2.2.1.symm) rfl hd (Nat.le_trans hh q1) ?_ (kk p l e R s m args below meth c H locs ls C hP hz hS hl)
  show 2 * 0 + _ + 12 ≤ R.locals
  rw [cat_sum]
  omega
theorem go_iNcall {Z : YY} {np idx r : Nat} {host : String} {As St : List Value} {Qc : Sh → HP → Option Value → Prop} (hd : decode Y.2.1 pc = .ok (.invokespecial idx, 3)) (hZ : okI Z np) (hlk : ∀ (s : State) (H : Heap), rO G s H → va_Nw (.methodLinkNest Y.1.cls idx Z.1 host) s) (hh : yH Z + 1 ≤ yH Y ∧ k + yC Z ≤ yC Y ∧ n + yS Z ≤ yS Y) (hn : As.length = np) (hs : St = As.reverse ++ .ref r :: S) (hcat : (S.map (fun v => v.category)).sum ≤ 8) (hR : Ret G Z (.ref r :: As) sh I Qc)
    (hK : ∀ sh' I' v, Qc sh' I' v → Go G Y (pc + 3) L (v.toList ++ S) sh' I' (k + yC Z) (n + yS Z) Q) : Go G Y pc L St sh I k n Q := by
  refine go_run (Z := Z) (Qc := Qc) (S := S) ?_ hK
  intro p l e R s m args below meth c0 H locs ls C hP hsz hS hl
  subst hs
  obtain ⟨⟨h1, h2, h3, h4⟩, hZ2, hZ3, hZ4⟩ := hZ
  obtain ⟨q1, q2, q3, q4⟩ := C.2.2.1
  have hB : va_CN R s args Y.1.cls idx Z.1 host Z.2.1 Z.2.2.1 Z.2.2.2.1 (yW Z) (yR Z) (yC Z) (yS Z) np := va_cnB np C.1.2.2.2.2 (yW_good Z h1) rfl rfl rfl (hlk s _ C.2.2.2.2.1) (C.1.2.2.2.2 _ h2) h3 ⟨by show yH Z + 1 ≤ R.frames; omega, by show 8 + (Z.2.2.1 + 11) + 60 * yH Z ≤ R.locals; omega⟩
  rw [hZ4] at hB
  exact ⟨_, va_runIN (As := As.map (av G)) (b := ad G r) C.1 (hR l) ⟨hB, hZ3, C.1.2.2.2.2 _ hZ2⟩ ⟨rW_blind, pre_of (As := av G (.ref r) :: As.map (av G)) C hP hsz hS⟩ rfl (by simpa using hn) hl.1 (by simp [List.map_append, List.map_reverse, av]) (lv_room (by rw [cat_sum]; exact hcat)) hd ⟨Nat.le_trans hh.2.1 C.2.2.1.2.2.1, Nat.le_trans hh.2.2 C.2.2.1.2.2.2⟩⟩
theorem wO_len : (wO G sh I).length = sh.length := by simp [wO]
theorem wO_push {c : Nat × Nat × List (Option Nat)} : wO G (sh ++ [c]) (nw I sh.length) = wO G sh I ++ [(gB G + sh.length, cE G sh.length c (nw I sh.length))] := by
  apply List.ext_getElem?
  intro i
  rcases Nat.lt_trichotomy i sh.length with h | h | h
  · obtain ⟨d, hd⟩ : ∃ d, sh[i]? = some d := ⟨sh[i], List.getElem?_eq_getElem h⟩
    rw [List.getElem?_append_left (by rw [wO_len]; exact h), wO_at hd, wO_at (by rw [List.getElem?_append_left h]; exact hd), cE_off]
    funext b
    simp [nw, Nat.ne_of_lt h]
  · subst h
    rw [wO_at (c := c) (by simp), List.getElem?_append_right (by rw [wO_len]; exact Nat.le_refl _), wO_len]
    simp
  · rw [List.getElem?_eq_none (by rw [wO_len]; simp; omega), List.getElem?_eq_none (by simp [wO_len]; omega)]
theorem wO_grow {c : Nat × Nat × List (Option Nat)} {H H1 : Heap} (hP : va_P G.1 vwCl (wO G sh I) H) (hk : ∀ q, q < H.size → H1[q]? = H[q]?) (hc : va_at G.1 vwCl (gB G + sh.length, cE G sh.length c (nw I sh.length)) H1) : va_P G.1 vwCl (wO G (sh ++ [c]) (nw I sh.length)) H1 := by
  rw [wO_push]
  refine va_P.app (hP.kept (fun j q hj => hk q.1 ((hP j q hj).lt))) (fun j q hj => ?_)
  have hz : j < 1 := (List.getElem?_eq_some_iff.mp hj).1
  rw [show j = 0 by omega] at hj
  cases hj
  exact hc
theorem S_grow {H0 H H1 : Heap} {locs : List Loc} {A : Nat → Prop} (hS : va_S A H0 H locs) (hz : H1.size = H.size + 1) (hk : ∀ q, q < H.size → H1[q]? = H[q]?) : va_S A H0 H1 locs :=
  ⟨Nat.le_trans hS.1 (by omega), fun q h1 h2 => (hk q (Nat.lt_of_lt_of_le h1 hS.1)).trans (hS.2.1 q h1 h2), hS.2.2⟩
theorem go_new {idx ci N : Nat} {C0 : String} {T : u_T} (ty : Nat → FieldType) (hd : decode Y.2.1 pc = .ok (.new idx, 3)) (hc : vwCl[ci]? = some (C0, T, N)) (h9 : ci < 9) (hin : ∀ w ∈ u_ws C0 T N, w ∈ wG) (hw : Cond.classLink Y.1.cls idx C0 ∈ wG ∧ Cond.instantiable C0 N ∈ wG ∧ Cond.initialized C0 ∈ wG) (hty : ∀ j, j < N → parseFieldDescriptor (T j).2.2.1 = some (ty j)) (hdf : ∀ j, j < N → defaultValue (ty j) = if rK ci j = true then .null else .int 0) (hh : k + 1 ≤ yC Y ∧ n + N ≤ yS Y) (hlt : sh.length < 1000) (kk : Go G Y (pc + 3) L (.ref sh.length :: S) (sh ++ [(ci, N, List.replicate N none)]) (nw I sh.length) (k + 1) (n + N) Q) : Go G Y pc L S sh I k n Q := by
  intro p l e R s m args below meth c H locs ls C hP hz hS hl
  obtain ⟨q1, q2, q3, q4⟩ := C.2.2.1
  refine W_sz (fun hle => ?_)
  have hsz := wO_sz hP hS hz C.2.2.2.2.2 hle
  have hKn := C.2.2.2.1.1 ci _ hc
  refine W.newcK C.1.1 C.1.2.1 C.1.2.2.2.1 (C.1.2.2.2.2 _ hw.1) (C.1.2.2.2.2 _ hw.2.1) (C.1.2.2.2.2 _ hw.2.2) rfl hd (Nat.le_trans hh.1 q3) (Nat.le_trans hh.2 q4) hKn.2.1 hsz (fun H1 kC hkC e1 z1 o1 => ?_)
  have o1' : ∀ q, q < H.size → H1[q]? = H[q]? := fun q hq => o1 q (by rw [← hsz]; exact hq)
  have hP1 : va_P G.1 vwCl (wO G (sh ++ [(ci, N, List.replicate N none)]) (nw I sh.length)) H1 := by
    refine wO_grow hP o1' ?_
    rw [cE_obj h9]
    refine ⟨_, hc, (u_born ty C.1.2.2.2.2 hin hKn hkC e1 hty).to (fun j hj => ?_)⟩
    rw [hdf j hj]
    simp only [vp_V, List.getD_eq_getElem?_getD, fV_get hj, Option.getD_some, fV]
    by_cases hr : rK ci j = true
    · simp only [hr, if_true]
      simp [List.getElem?_replicate, hj, va_rf]
    · simp [hr, nw]
  have := kk p l e R s m args below meth c H1 locs ls C hP1 (by simp; omega) (S_grow hS (by rw [z1, hsz]) o1') hl
  simp only [List.map_cons, av, ad_lt hlt] at this
  exact this
theorem go_newI {len : Nat} {a : Int32} (hd : decode Y.2.1 pc = .ok (.newarray .int, 2)) (hw : Cond.arrayClass .int ∈ wG) (ha : ¬ a < 0 ∧ a.toNatClampNeg = len ∧ len ≤ 1000) (hh : k + 1 ≤ yC Y ∧ n + len ≤ yS Y) (hlt : sh.length < 1000) (kk : Go G Y (pc + 2) L (.ref sh.length :: S) (sh ++ [(9, len, [])]) (nw I sh.length) (k + 1) (n + len) Q) : Go G Y pc L (.int a :: S) sh I k n Q := by
  intro p l e R s m args below meth c H locs ls C hP hz hS hl
  obtain ⟨q1, q2, q3, q4⟩ := C.2.2.1
  refine W_sz (fun hle => ?_)
  have hsz := wO_sz hP hS hz C.2.2.2.2.2 hle
  refine va_newaK (atype := .int) C.1.1 C.1.2.1 (C.1.2.2.2.2 _ hw) rfl hd rfl ha.1 ha.2.1 (by show len * 4 ≤ _; omega) (Nat.le_trans hh.1 q3) (Nat.le_trans hh.2 q4) hsz (fun H1 cA e1 z1 o1 hAr hNm => ?_)
  have o1' : ∀ q, q < H.size → H1[q]? = H[q]? := fun q hq => o1 q (by rw [← hsz]; exact hq)
  have hcA : G.2.1 9 = cA := Option.some.inj ((show s.vm.findClass ("[" ++ FieldType.int.toString) = some (G.2.1 9) from (C.2.2.2.1.2 0 _ rfl).2).symm.trans hNm)
  have hP1 : va_P G.1 vwCl (wO G (sh ++ [(9, len, [])]) (nw I sh.length)) H1 := by
    refine wO_grow hP o1' ?_
    rw [cE_int, hcA]
    show H1[_]? = some (vp_cell _ _)
    rw [vp_cell_i]
    refine e1.trans ?_
    congr 2
    funext j
    simp [nw]
    rfl
  have := kk p l e R s m args below meth c H1 locs ls C hP1 (by simp; omega) (S_grow hS (by rw [z1, hsz]) o1') hl
  simp only [List.map_cons, av, ad_lt hlt] at this
  exact this
theorem go_newZ {len : Nat} {a : Int32} (hd : decode Y.2.1 pc = .ok (.newarray .boolean, 2)) (hw : Cond.arrayClass .boolean ∈ wG) (ha : ¬ a < 0 ∧ a.toNatClampNeg = len ∧ len ≤ 1000) (hh : k + 1 ≤ yC Y ∧ n + len ≤ yS Y) (hlt : sh.length < 1000) (kk : Go G Y (pc + 2) L (.ref sh.length :: S) (sh ++ [(10, len, [])]) (nw I sh.length) (k + 1) (n + len) Q) : Go G Y pc L (.int a :: S) sh I k n Q := by
  intro p l e R s m args below meth c H locs ls C hP hz hS hl
  obtain ⟨q1, q2, q3, q4⟩ := C.2.2.1
  refine W_sz (fun hle => ?_)
  have hsz := wO_sz hP hS hz C.2.2.2.2.2 hle
  refine va_newaK (atype := .boolean) C.1.1 C.1.2.1 (C.1.2.2.2.2 _ hw) rfl hd rfl ha.1 ha.2.1 (by show len * 1 ≤ _; omega) (Nat.le_trans hh.1 q3) (Nat.le_trans hh.2 q4) hsz (fun H1 cA e1 z1 o1 hAr hNm => ?_)
  have o1' : ∀ q, q < H.size → H1[q]? = H[q]? := fun q hq => o1 q (by rw [← hsz]; exact hq)
  have hcA : G.2.1 10 = cA := Option.some.inj ((show s.vm.findClass ("[" ++ FieldType.boolean.toString) = some (G.2.1 10) from (C.2.2.2.1.2 1 _ rfl).2).symm.trans hNm)
  have hP1 : va_P G.1 vwCl (wO G (sh ++ [(10, len, [])]) (nw I sh.length)) H1 := by
    refine wO_grow hP o1' ?_
    rw [cE_bool, hcA]
    show H1[_]? = some (vp_cell _ _)
    rw [vp_cell_i]
    refine e1.trans ?_
    congr 2
    funext j
    simp [nw]
    rfl
  have := kk p l e R s m args below meth c H1 locs ls C hP1 (by simp; omega) (S_grow hS (by rw [z1, hsz]) o1') hl
  simp only [List.map_cons, av, ad_lt hlt] at this
  exact this
theorem wO_sh {r : Nat} {c c2 : Nat × Nat × List (Option Nat)} (hr : sh[r]? = some c) : (wO G sh I).set r (gB G + r, cE G r c2 I) = wO G (sh.set r c2) I := by
  apply List.ext_getElem?
  intro i
  have hlt := (List.getElem?_eq_some_iff.mp hr).1
  by_cases h : i = r
  · subst h
    rw [List.getElem?_set_self (by rw [wO_len]; exact hlt), wO_at (c := c2) (by simp [hlt])]
  · rw [List.getElem?_set_ne (Ne.symm h)]
    simp only [wO, List.getElem?_mapIdx, List.getElem?_set_ne (Ne.symm h)]
theorem go_newq {idx len t : Nat} {a : Int32} {C0 : String} (hd : decode Y.2.1 pc = .ok (.anewarray idx, 3)) (hw : Cond.classLink Y.1.cls idx C0 ∈ wG) (ht : (t = 11 ∧ C0 = "MayNotPause$Turn") ∨ (t = 12 ∧ C0 = "MayNotPause$Sheet")) (ha : ¬ a < 0 ∧ a.toNatClampNeg = len ∧ len ≤ 1000) (hh : k + 1 ≤ yC Y ∧ n + len ≤ yS Y) (hlt : sh.length < 1000) (kk : Go G Y (pc + 3) L (.ref sh.length :: S) (sh ++ [(t, len, List.replicate len none)]) (nw I sh.length) (k + 1) (n + len) Q) : Go G Y pc L (.int a :: S) sh I k n Q := by
  intro p l e R s m args below meth c H locs ls C hP hz hS hl
  obtain ⟨q1, q2, q3, q4⟩ := C.2.2.1
  refine W_sz (fun hle => ?_)
  have hsz := wO_sz hP hS hz C.2.2.2.2.2 hle
  have hO := C.2.2.2.2.1.2.2.2.2.2.2
  have hover : va_AO C0 s := by rcases ht with ⟨-, rfl⟩ | ⟨-, rfl⟩; exact hO.1; exact hO.2
  obtain ⟨ha1, rfl, ha3⟩ := ha
  refine W.anew C.1.1 C.1.2.1 C.1.2.2.2.1 (C.1.2.2.2.2 _ hw) (va_AO.use hover) rfl hd rfl ha1 (by omega) (Nat.le_trans hh.1 q3) (Nat.le_trans hh.2 q4) (fun cA kA comp f1 f2 f3 f4 => ?_)
  generalize hH1 : H.push ({ cls := cA, slots := Array.replicate a.toNatClampNeg .null, vm := .none } : Cell) = H1
  have z1 : H1.size = H.size + 1 := by rw [← hH1, Array.size_push]
  have e1 : H1[H.size]? = some (arrV cA a.toNatClampNeg (fun _ => .null)) := by rw [← hH1, Array.getElem?_push_size, ← arrV_new]
  have o1' : ∀ q : Nat, q < H.size → H1[q]? = H[q]? := fun q hq => by rw [← hH1, Array.getElem?_push, if_neg (Nat.ne_of_lt hq)]
  have hP1 : va_P G.1 vwCl (wO G (sh ++ [(t, a.toNatClampNeg, List.replicate a.toNatClampNeg none)]) (nw I sh.length)) H1 := by
    refine wO_grow hP o1' ?_
    have hcA : G.2.1 t = cA := by
      rcases ht with ⟨rfl, rfl⟩ | ⟨rfl, rfl⟩
      · obtain ⟨_, _, -, -, -, h⟩ := (show va_RA s (G.2.1 11) (.object "MayNotPause$Turn") from (C.2.2.2.1.2 2 _ rfl).2)
        exact Option.some.inj (h.symm.trans f1)
      · obtain ⟨_, _, -, -, -, h⟩ := (show va_RA s (G.2.1 12) (.object "MayNotPause$Sheet") from (C.2.2.2.1.2 3 _ rfl).2)
        exact Option.some.inj (h.symm.trans f1)
    have hcell : cE G sh.length (t, a.toNatClampNeg, List.replicate a.toNatClampNeg none) (nw I sh.length) = .inl (cA, a.toNatClampNeg, .inr (.inr (.inr (.inr (fun _ => none))))) := by
      have h11 : ¬ t < 9 ∧ ¬ t < 11 := by rcases ht with ⟨rfl, -⟩ | ⟨rfl, -⟩ <;> decide
      unfold cE
      rw [if_neg h11.1, if_neg h11.2, hcA]
      congr 7
      funext j
      simp [List.getD_eq_getElem?_getD, List.getElem?_replicate]
      split <;> rfl
    rw [hcell]
    show H1[_]? = some (vp_cell _ _)
    rw [vp_cell_q, ← hsz]
    exact e1
  have := kk p l e R s m args below meth c H1 locs ls C hP1 (by simp; omega) (S_grow hS z1 o1') hl
  simp only [List.map_cons, av, ad_lt hlt] at this
  rw [hsz]
  exact this
theorem fV_setR {r j x : Nat} {c : Nat × Nat × List (Option Nat)} (hr : rK c.1 j = true) (hj : j < c.2.2.length) : ((List.range c.2.1).map (fV G r c I)).set j (.ref (ad G x)) = (List.range c.2.1).map (fV G r (c.1, c.2.1, c.2.2.set j (some x)) I) := by
  apply List.ext_getElem?
  intro i
  by_cases h : i = j
  · subst h
    by_cases hn : i < c.2.1
    · rw [List.getElem?_set_self (by simpa using hn), fV_get hn]
      simp [fV, hr, List.getD_eq_getElem?_getD, hj, va_rf]
    · rw [List.getElem?_eq_none (by simpa using Nat.not_lt.mp hn), List.getElem?_eq_none (by simpa using Nat.not_lt.mp hn)]
  · rw [List.getElem?_set_ne (Ne.symm h)]
    by_cases hn : i < c.2.1
    · rw [fV_get hn, fV_get hn]
      simp only [fV, List.getD_eq_getElem?_getD, List.getElem?_set_ne (Ne.symm h)]
    · rw [List.getElem?_eq_none (by simpa using Nat.not_lt.mp hn), List.getElem?_eq_none (by simpa using Nat.not_lt.mp hn)]
theorem go_putR {r j idx x : Nat} {ty : FieldType} {c : Nat × Nat × List (Option Nat)} (hd : decode Y.2.1 pc = .ok (.putfield idx, 3)) (hsh : sh[r]? = some c) (hr : r < 1000) (hF : FP Y.1.cls idx c.1 j ty true) (h9 : c.1 < 9 ∧ j < c.2.1 ∧ rK c.1 j = true ∧ j < c.2.2.length) (hY : Y.1.name = "<init>") (hn : ∀ a, narrow ty (.ref a) = .ref a ∧ fits ty (.ref a) = true) (kk : Go G Y (pc + 3) L S (sh.set r (c.1, c.2.1, c.2.2.set j (some x))) I k n Q) : Go G Y pc L (.ref x :: .ref r :: S) sh I k n Q := by
  intro p l e R s m args below meth c0 H locs ls C hP hz hS hl
  obtain ⟨C', T, N, ty0, hc, hin, hj, hlk, hty, hnm, hfin, hde, hpd⟩ := hF
  have hw := wO_at (G := G) (I := I) hsh
  rw [cE_obj h9.1] at hw
  show W p l e R s m args below meth _ H locs k n _ (F0 m pc ls (.ref (ad G x) :: .ref (ad G r) :: S.map (av G)))
  rw [ad_lt hr]
  refine va_putF C.1.1 C.1.2.1 (Ts := wG) C.1.2.2.2.2 hin ty0 hty hnm C.1.2.2.2.1 C.2.2.2.1 hP wO_D hS r hw hc j hj (C.1.2.2.2.2 _ hlk) (fun x hx => hx) hfin (C.2.1.2.2 hY) (hde rfl) hpd (hn _).1 (hn _).2 (by simpa using h9.2.1) hd (fun H1 locs1 hP1 _ hS1 => ?_)
  have e1 : (wO G sh I).set r (gB G + r, .inr (c.1, ((List.range c.2.1).map (fV G r c I)).set j (.ref (ad G x)))) = wO G (sh.set r (c.1, c.2.1, c.2.2.set j (some x))) I := by
    rw [fV_setR h9.2.2.1 h9.2.2.2, ← wO_sh hsh, cE_obj (c := (c.1, c.2.1, c.2.2.set j (some x))) h9.1]
  rw [e1] at hP1
  exact kk p l e R s m args below meth _ H1 locs1 ls C hP1 (by rw [List.length_set]; exact hz) hS1 hl
theorem go_aast {r len x t ci : Nat} {i : Int32} {rf : List (Option Nat)} {cx : Nat × Nat × List (Option Nat)} (hd : decode Y.2.1 pc = .ok (.aastore, 1)) (hsh : sh[r]? = some (t, len, rf)) (ht : (t = 11 ∧ ci = 6) ∨ (t = 12 ∧ ci = 3)) (hr : r < 1000 ∧ x < 1000) (hx : sh[x]? = some cx) (hcx : cx.1 = ci) (hin : vp_in i len) (hl2 : i.toNatClampNeg < rf.length) (kk : Go G Y (pc + 1) L S (sh.set r (t, len, rf.set i.toNatClampNeg (some x))) I k n Q) : Go G Y pc L (.ref x :: .int i :: .ref r :: S) sh I k n Q := by
  intro p l e R s m args below meth c0 H locs ls C hP hz hS hl
  have hw := wO_at (G := G) (I := I) hsh
  have hwx := wO_at (G := G) (I := I) hx
  have h11 : ¬ t < 9 ∧ ¬ t < 11 ∧ cx.1 < 9 := by rcases ht with ⟨rfl, rfl⟩ | ⟨rfl, rfl⟩ <;> (rw [hcx]; decide)
  have hcell : ∀ f : List (Option Nat), cE G r (t, len, f) I = .inl (G.2.1 t, len, .inr (.inr (.inr (.inr (fun j => (f.getD j none).map (ad G)))))) := by
    intro f
    unfold cE
    rw [if_neg h11.1, if_neg h11.2.1]
  rw [hcell] at hw
  rw [cE_obj h11.2.2] at hwx
  show W p l e R s m args below meth _ H locs k n _ (F0 m pc ls (.ref (ad G x) :: .int i :: .ref (ad G r) :: S.map (av G)))
  rw [ad_lt hr.1, ad_lt hr.2]
  have hup : va_up (fun j => (rf.getD j none).map (ad G)) i.toNatClampNeg (some (gB G + x)) = fun j => ((rf.set i.toNatClampNeg (some x)).getD j none).map (ad G) := by
    funext j
    unfold va_up
    by_cases h : j = i.toNatClampNeg
    · subst h
      simp [List.getD_eq_getElem?_getD, hl2, ad_lt hr.2]
    · simp [List.getD_eq_getElem?_getD, h, List.getElem?_set_ne (Ne.symm h)]
  have fin : ∀ (H1 : Heap) (locs1 : List Loc), va_P G.1 vwCl ((wO G sh I).set r (gB G + r, .inl (G.2.1 t, len, .inr (.inr (.inr (.inr (va_up (fun j => (rf.getD j none).map (ad G)) i.toNatClampNeg (some (gB G + x))))))))) H1 → va_S (gA G) s.heap H1 locs1 → W p l e R s m args below meth c0 H1 locs1 k n (MQ below (QC G (yC Y) Q) args s (yC Y) (yS Y) (gA G)) (F0 m (pc + 1) ls (S.map (av G))) := by
    intro H1 locs1 hP1 hS1
    rw [hup, ← hcell, wO_sh hsh] at hP1
    exact kk p l e R s m args below meth _ H1 locs1 ls C hP1 (by rw [List.length_set]; exact hz) hS1 hl
  rcases ht with ⟨rfl, rfl⟩ | ⟨rfl, rfl⟩
  · exact va_astq C.1.1 C.1.2.1 C.2.2.2.1 hP wO_D hS r 2 x 6 (r := (RX6, TX6, 15)) hw rfl (by rw [← hcx]; exact hwx) rfl hin hd (fun H1 locs1 hP1 _ hS1 => fin H1 locs1 hP1 hS1)
  · exact va_astq C.1.1 C.1.2.1 C.2.2.2.1 hP wO_D hS r 3 x 3 (r := (RX3, TX3, 4)) hw rfl (by rw [← hcx]; exact hwx) rfl hin hd (fun H1 locs1 hP1 _ hS1 => fin H1 locs1 hP1 hS1)
end Rows
