/-! THE CLAIM OUT OF ONE WALK OF THE LAW'S BODY. Your part is whole_start (and what it stands on); all else here is the same for every law, but numbers. -/
def R_law : String := "MayNotPauseLaw"
def lw_P (b : Addr) (xs : List Int32) (args : Array Value) (s : State) : Prop := args = #[.ref b] ∧ s.IntsAt b xs ∧ xs.length ≤ 384 ∧ (Jvm.Cond.and given_1 narrow_1).before args s = true
def lw_Q (_ : Array Value) (s : State) (o : Outcome) (t : State) : Prop := o = .returned (some (.int 1)) ∧ Framed s o t [] 600000 7302250
def lw_Z (below : List Frame) (a : Array Value) (s : State) : State → Prop := fun t => ∃ o, t.status = .running ∧ Ended t below o ∧ lw_Q a s o t
/-- the law's own end, with 1 on the stack, nothing written that was there before, its room as the claim has it -/
theorem lw_ret {p : Program} {l : Launch} {e : Env} {s : State} {m : MethodId} {below : List Frame} {meth : Method} {c : Code} {b : Nat} (hx : p.tables.exec = Jvm.exec) (hb : c.code = code) (hr : meth.sig.returnType = ret) (hlocks : meth.locks = false) {pc : Nat} {H : Heap} {ls : Array Slot} (hdg : decode code pc = .ok (.ireturn, 1)) : W p l e room_1 s m #[Value.ref b] below meth c H [] 600000 7302250 (lw_Z below #[Value.ref b] s) (F0 m pc ls [.int 1]) := by
  intro T hT X
  obtain ⟨fs, hret, hrun, hended, hW, hframe⟩ := X.leave (v := some (.int 1)) (hlocks := hlocks) (fun h => by rw [hr] at h; cases h)
  have hmeth' : T.vm.method? m = some meth := X.method'
  refine ⟨T.setFrames fs, ?_, .returned (some (.int 1)), hrun, hended, rfl, ⟨_, rfl⟩, hW, hframe⟩
  jvm_step X.here [X.here.top, hx, hb, hdg, hmeth', hr, ret, narrow_b1]
  (try refine ⟨rfl, ?_⟩); (try refine ⟨rfl, ?_⟩)
  first | (intro acts; rw [hret _ acts rfl rfl rfl]) | rw [hret _ _ rfl rfl rfl]
  exact Steps.refl _
/-- what holds at the law's entry: the machine, the code, the tables' words (any of lw_tbl by 'hts w (by decide +kernel)'), the script of L ints xs at the cell b, what the Statement gives of the start (any of its parts by flat_of_before) -/
def lw_At (p : Program) (s : State) (m : MethodId) (meth : Method) (c : Code) (b L : Nat) (xs : Nat → Int32) : Prop :=
  p.tables.exec = Jvm.exec ∧ c.code = code ∧ meth.sig.returnType = ret ∧ c.maxLocals = 4 ∧ s.vm.findClass R_law = some m.cls ∧ (∀ w ∈ lw_tbl, w.before #[Value.ref b] s = true) ∧ va_X b L xs s s.heap ∧ b < s.heap.size ∧ meth.locks = false ∧ (Jvm.Cond.and given_1 narrow_1).before #[Value.ref b] s = true
/-- what is left: the law's loop, over the abstract heap -/
def lawAll : Prop := ∀ G : CX, gL G ≤ 384 → GL G Y_L_law 18 [(0, .ref 1000), (1, .ref 0), (2, .ref 58), (3, .int (0 : Int32))] IN0 (fun _ b => b = true)
theorem word_in {w : Cond} {args : Array Value} {s : State} (hts : ∀ w ∈ lw_tbl, w.before args s = true) (i : Nat) (h : lw_tbl[i]? = some w) : w.before args s = true := hts w (List.mem_of_getElem? h)
set_option maxRecDepth 100000 in
set_option maxHeartbeats 4000000 in
theorem whole_start_open (hall : lawAll) {p : Program} {e : Env} {s : State} {m : MethodId} {below : List Frame} {meth : Method} {c : Code} (l : Launch) {b L : Nat} {xs : Nat → Int32} (hL : L ≤ 384) (C0 : lw_At p s m meth c b L xs) : W p l e room_1 s m #[Value.ref b] below meth c s.heap [] 0 0 (lw_Z below #[Value.ref b] s) (entryFrame m ([Value.ref b] : List Value).toArray 4) := by
  obtain ⟨hx, hb, hr, hml, hown, hts, hX, hbl, hlocks, hgv⟩ := id C0
  have hnA : ∀ a : Nat, a < s.heap.size → ¬ (fun q : Nat => s.heap.size ≤ q) a := fun a h => Nat.not_le.mpr h
  have hflat := flat_of_before _ hgv
  have known : ∀ k : Nat, ∃ (cC : ClassId) (iS : Nat → Nat), ∀ q : vw_C, vwCl[k]? = some q → u_Kn s q.1 q.2.1 q.2.2 cC iS := by
    intro k
    match k with
    | 0 => obtain ⟨a, b, h⟩ := u_known (C := RX0) (T := TX0) (N := 9) (n := 9) hts inX0 (hts (.instantiable RX0 9) (by decide +kernel)); exact ⟨a, b, fun q hq => by cases hq; exact h⟩
    | 1 => obtain ⟨a, b, h⟩ := u_known (C := RX1) (T := TX1) (N := 5) (n := 5) hts inX1 (hts (.instantiable RX1 5) (by decide +kernel)); exact ⟨a, b, fun q hq => by cases hq; exact h⟩
    | 2 => obtain ⟨a, b, h⟩ := u_known (C := RX2) (T := TX2) (N := 4) (n := 4) hts inX2 (hts (.instantiable RX2 4) (by decide +kernel)); exact ⟨a, b, fun q hq => by cases hq; exact h⟩
    | 3 => obtain ⟨a, b, h⟩ := u_known (C := RX3) (T := TX3) (N := 4) (n := 4) hts inX3 (hts (.instantiable RX3 4) (by decide +kernel)); exact ⟨a, b, fun q hq => by cases hq; exact h⟩
    | 4 => obtain ⟨a, b, h⟩ := u_known (C := RX4) (T := TX4) (N := 3) (n := 3) hts inX4 (hts (.instantiable RX4 3) (by decide +kernel)); exact ⟨a, b, fun q hq => by cases hq; exact h⟩
    | 5 => obtain ⟨a, b, h⟩ := u_known (C := RX5) (T := TX5) (N := 4) (n := 4) hts inX5 (hts (.instantiable RX5 4) (by decide +kernel)); exact ⟨a, b, fun q hq => by cases hq; exact h⟩
    | 6 => obtain ⟨a, b, h⟩ := u_known (C := RX6) (T := TX6) (N := 15) (n := 15) hts inX6 (hts (.instantiable RX6 15) (by decide +kernel)); exact ⟨a, b, fun q hq => by cases hq; exact h⟩
    | 7 => obtain ⟨a, b, h⟩ := u_known (C := RX7) (T := TX7) (N := 12) (n := 12) hts inX7 (hts (.instantiable RX7 12) (by decide +kernel)); exact ⟨a, b, fun q hq => by cases hq; exact h⟩
    | 8 => obtain ⟨a, b, h⟩ := u_known (C := RX8) (T := TX8) (N := 30) (n := 30) hts inX8 (hts (.instantiable RX8 30) (by decide +kernel)); exact ⟨a, b, fun q hq => by cases hq; exact h⟩
    | k + 9 => exact ⟨0, fun _ => 0, fun q hq => by simp [vwCl] at hq⟩
  obtain ⟨dC, hdC⟩ : ∃ dC : Nat → ClassId, ∀ k, ∃ iS : Nat → Nat, ∀ q : vw_C, vwCl[k]? = some q → u_Kn s q.1 q.2.1 q.2.2 (dC k) iS := ⟨fun k => Classical.choose (known k), fun k => Classical.choose_spec (known k)⟩
  obtain ⟨dI, hdI⟩ : ∃ dI : Nat → Nat → Nat, ∀ k, ∀ q : vw_C, vwCl[k]? = some q → u_Kn s q.1 q.2.1 q.2.2 (dC k) (dI k) := ⟨fun k => Classical.choose (hdC k), fun k => Classical.choose_spec (hdC k)⟩
  have arrs : ∀ ty : FieldType, (ty = .int ∨ ty = .boolean) → (Cond.arrayClass ty).before #[Value.ref b] s = true → ∃ cA : ClassId, ArrOfT s cA ty ∧ va_RA s cA ty := by
    intro ty ht h
    obtain ⟨cA, kA, comp, h1, h2, h3⟩ : ∃ (cA : ClassId) (kA : Class) (comp : ClassId), s.vm.findClass ("[" ++ ty.toString) = some cA ∧ s.vm.classes[cA]? = some kA ∧ kA.kind = .array comp ty := by
      obtain ⟨cA, kA, comp, h1, h2, h3⟩ := Cond.arrayClass_spec h
      exact ⟨cA, kA, comp, h1, h2, h3⟩
    refine ⟨cA, fun n z => ⟨fun k h => (by cases h), kA, h2, comp, h3⟩, ?_⟩
    rcases ht with rfl | rfl <;> exact h1
  have arrq : ∀ C : String, (Cond.arrayOver (.object C)).before #[Value.ref b] s = true → ∃ cA : ClassId, ArrOfT s cA (.object C) ∧ va_RA s cA (.object C) := by
    intro C h
    obtain ⟨comp, cA, kA, h1, h2, h3, h4, h5⟩ := Cond.arrayOver_spec h
    exact ⟨cA, fun n z => ⟨fun k h => (by cases h), kA, h3, comp, h4⟩, kA, comp, h3, h4, h1, h5⟩
  obtain ⟨cI, hcI⟩ := arrs .int (Or.inl rfl) (hts (.arrayClass .int) (by decide +kernel))
  obtain ⟨cZ, hcZ⟩ := arrs .boolean (Or.inr rfl) (hts (.arrayClass .boolean) (by decide +kernel))
  have hoT : (Cond.arrayOver (.object "MayNotPause$Turn")).before #[Value.ref b] s = true := hts _ (by decide +kernel)
  have hoS : (Cond.arrayOver (.object "MayNotPause$Sheet")).before #[Value.ref b] s = true := hts _ (by decide +kernel)
  obtain ⟨cT, hcT⟩ := arrq _ hoT
  obtain ⟨cS, hcS⟩ := arrq _ hoS
  have hini : (Cond.initialized "MayNotPause").before #[Value.ref b] s = true := hts _ (by decide +kernel)
  obtain ⟨t1, e1, hT1⟩ := va_Tof (args := #[Value.ref b]) (s := s) (tm := .static "MayNotPause" "LEAST_SETTING" "[I") (ty := .int) (N := 6) (f := fun j => .int (lsF j)) (A := fun q : Nat => s.heap.size ≤ q) (by decide) (hflat _ (by decide +kernel)) (va_eqt (hflat (.eq (.length (.static "MayNotPause" "LEAST_SETTING" "[I")) (.int 6)) (by decide +kernel))) (fun j hj => by
    rcases (show j = 0 ∨ j = 1 ∨ j = 2 ∨ j = 3 ∨ j = 4 ∨ j = 5 by omega) with rfl | rfl | rfl | rfl | rfl | rfl
    · exact va_eqt (hflat (.eq (.elem (.static "MayNotPause" "LEAST_SETTING" "[I") (.int 0)) (.int 0)) (by decide +kernel))
    · exact va_eqt (hflat (.eq (.elem (.static "MayNotPause" "LEAST_SETTING" "[I") (.int 1)) (.int 1)) (by decide +kernel))
    · exact va_eqt (hflat (.eq (.elem (.static "MayNotPause" "LEAST_SETTING" "[I") (.int 2)) (.int 0)) (by decide +kernel))
    · exact va_eqt (hflat (.eq (.elem (.static "MayNotPause" "LEAST_SETTING" "[I") (.int 3)) (.int 0)) (by decide +kernel))
    · exact va_eqt (hflat (.eq (.elem (.static "MayNotPause" "LEAST_SETTING" "[I") (.int 4)) (.int 0)) (by decide +kernel))
    · exact va_eqt (hflat (.eq (.elem (.static "MayNotPause" "LEAST_SETTING" "[I") (.int 5)) (.int 0)) (by decide +kernel))) hnA
  obtain ⟨t2, e2, hT2⟩ := va_Tof (args := #[Value.ref b]) (s := s) (tm := .static "MayNotPause" "MOST_SETTING" "[I") (ty := .int) (N := 6) (f := fun j => .int (msF j)) (A := fun q : Nat => s.heap.size ≤ q) (by decide) (hflat _ (by decide +kernel)) (va_eqt (hflat (.eq (.length (.static "MayNotPause" "MOST_SETTING" "[I")) (.int 6)) (by decide +kernel))) (fun j hj => by
    rcases (show j = 0 ∨ j = 1 ∨ j = 2 ∨ j = 3 ∨ j = 4 ∨ j = 5 by omega) with rfl | rfl | rfl | rfl | rfl | rfl
    · exact va_eqt (hflat (.eq (.elem (.static "MayNotPause" "MOST_SETTING" "[I") (.int 0)) (.int 99)) (by decide +kernel))
    · exact va_eqt (hflat (.eq (.elem (.static "MayNotPause" "MOST_SETTING" "[I") (.int 1)) (.int 99)) (by decide +kernel))
    · exact va_eqt (hflat (.eq (.elem (.static "MayNotPause" "MOST_SETTING" "[I") (.int 2)) (.int 9)) (by decide +kernel))
    · exact va_eqt (hflat (.eq (.elem (.static "MayNotPause" "MOST_SETTING" "[I") (.int 3)) (.int 9)) (by decide +kernel))
    · exact va_eqt (hflat (.eq (.elem (.static "MayNotPause" "MOST_SETTING" "[I") (.int 4)) (.int 1)) (by decide +kernel))
    · exact va_eqt (hflat (.eq (.elem (.static "MayNotPause" "MOST_SETTING" "[I") (.int 5)) (.int 4095)) (by decide +kernel))) hnA
  have hZ1 : va_Z "MayNotPause" "LEAST_SETTING" "[I" (.ref t1) (fun q : Nat => s.heap.size ≤ q) s s.heap := va_Zof (hts (.laysStatic "MayNotPause" "LEAST_SETTING" "[I") (by decide +kernel)) hini e1 hnA
  have hZ2 : va_Z "MayNotPause" "MOST_SETTING" "[I" (.ref t2) (fun q : Nat => s.heap.size ≤ q) s s.heap := va_Zof (hts (.laysStatic "MayNotPause" "MOST_SETTING" "[I") (by decide +kernel)) hini e2 hnA
  let G : CX := ((dC, dI), fun t => if t = 9 then cI else if t = 10 then cZ else if t = 11 then cT else cS, s.heap.size, fun r => if r = 1000 then b else if r = 1001 then t1 else t2, L, xs)
  have hK : va_K G.1 vwCl (tyO G) s := by
    refine ⟨fun k q hq => hdI k q hq, fun k q hk => ?_⟩
    match k, hk with
    | 0, hk => cases hk; exact hcI
    | 1, hk => cases hk; exact hcZ
    | 2, hk => cases hk; exact hcT
    | 3, hk => cases hk; exact hcS
    | k + 4, hk => simp [tyO] at hk
  have hO : rO G s s.heap := ⟨⟨hX, hbl⟩, hT1, hT2, hZ1, hZ2, ⟨va_Nw.of rfl (hts (.methodLinkNest RX5 17 yX6_init RX7) (by decide +kernel)), va_Nw.of rfl (hts (.methodLinkNest RX7 55 yX4_init RX7) (by decide +kernel)), va_Nw.of rfl (hts (.methodLinkNest RX7 66 yX3_init RX7) (by decide +kernel))⟩, va_AO.of hoT, va_AO.of hoS⟩
  have hC : CT G Y_L_law p room_1 s m #[Value.ref b] meth c := ⟨⟨hx, hb, hml, hown, fun w hw => hts w (List.mem_filter.mp hw).1⟩, ⟨hr, hlocks, fun h => absurd h (by decide)⟩, ⟨by decide, by decide, by decide, by decide⟩, hK, hO, Nat.le_refl _⟩
  have hgo : Go G Y_L_law 0 [(0, .ref 1000)] [] [] zI 0 0 (pZ (fun _ b => b = true)) := law_start (go_loc _ [3, 2, 1, 0] rfl (hall G hL))
  have hl := lv_entry ([.ref b]) (n := 4) (Nat.le_of_ble_eq_true rfl)
  have hw := hgo p l e room_1 s m #[Value.ref b] below meth c s.heap [] _ hC (fun k q h => by simp [wO] at h) rfl va_S.rf hl
  rw [lg_entry_eq]
  intro T hT X
  obtain ⟨t, h1, o, h2, h3, ⟨sh', I', v, h4, ⟨h5, r, h6, h7⟩, h8, h9, h10⟩, L1, hF, hfree⟩ := hw T hT X
  subst h6
  have h7' : r = true := h7
  subst h7'
  refine ⟨t, h1, o, h2, h3, h4, ?_⟩
  obtain ⟨g1, g2, g3⟩ := hF
  refine ⟨g1, g2, ?_⟩
  obtain ⟨a1, a2, a3, a4, a5, a6⟩ := g3
  refine ⟨a1, a2, Nat.le_trans a3 (Nat.add_le_add_left (by decide) _), a4, Nat.le_trans a5 (by decide), fun a c hc => ?_⟩
  obtain ⟨c', d1, d2, d3, d4⟩ := a6 a c hc
  exact ⟨c', d1, d2, d3, fun i _ => d4 i (fun hm => absurd (hfree _ hm) (Nat.not_le.mpr (Array.getElem?_eq_some_iff.mp hc).1))⟩
theorem law_all : lawAll := fun _ hL => law_loop0 hL
theorem whole_start {p : Program} {e : Env} {s : State} {m : MethodId} {below : List Frame} {meth : Method} {c : Code} (l : Launch) {b L : Nat} {xs : Nat → Int32} (hL : L ≤ 384) (C0 : lw_At p s m meth c b L xs) : W p l e room_1 s m #[Value.ref b] below meth c s.heap [] 0 0 (lw_Z below #[Value.ref b] s) (entryFrame m ([Value.ref b] : List Value).toArray 4) := whole_start_open law_all l hL C0
