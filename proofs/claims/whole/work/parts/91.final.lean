/-! THE CLAIM OUT OF ONE WALK OF THE LAW'S BODY. Your part is whole_start (and what it stands on); all else here is the same for every law, but numbers. -/
def R_law : String := "WhoseNameLaw"
def lw_P (b : Addr) (xs : List Int32) (args : Array Value) (s : State) : Prop := args = #[.ref b] ∧ s.IntsAt b xs ∧ xs.length ≤ 4608 ∧ (Jvm.Cond.and given_1 narrow_1).before args s = true
def lw_Q (_ : Array Value) (s : State) (o : Outcome) (t : State) : Prop := o = .returned (some (.int 1)) ∧ Framed s o t [] 600000 7302250
def lw_Z (below : List Frame) (a : Array Value) (s : State) : State → Prop := fun t => ∃ o, t.status = .running ∧ Ended t below o ∧ lw_Q a s o t
/-- the law's own end, with 1 on the stack, nothing written that was there before, its room as the claim has it -/
theorem lw_ret {p : Program} {l : Launch} {e : Env} {s : State} {m : MethodId} {below : List Frame} {meth : Method} {c : Code} {b : Nat} (hx : p.tables.exec = Jvm.exec) (hb : c.code = code) (hr : meth.sig.returnType = ret) (hlocks : meth.locks = false) {pc : Nat} {H : Heap} {ls : Array Slot} (hdg : decode code pc = .ok (.ireturn, 1)) : W p l e room_1 s m #[Value.ref b] below meth c H [] 600000 7302250 (lw_Z below #[Value.ref b] s) (F0 m pc ls [.int 1]) := by
  intro T hT X
  obtain ⟨fs, hret, hrun, hended, hW, hframe⟩ := X.leave (v := some (.int 1)) (hlocks := hlocks) (fun h => by rw [hr] at h; cases h)
  have hmeth' : T.vm.method? m = some meth := X.method'
  refine ⟨T.setFrames fs, ?_, .returned (some (.int 1)), hrun, hended, rfl, ⟨_, rfl⟩, hW, hframe⟩
  jvm_step X.here [X.here.top, hx, hb, hdg, hmeth', hr, ret, narrow_b1]
  (try refine ⟨rfl, ?_⟩); (try refine ⟨rfl, ?_⟩)
  first | (intro acts; rw [hret _ acts rfl rfl rfl]) | rw [hret _ _ rfl rfl rfl]
  exact Steps.refl _
/-- what holds at the law's entry: the machine, the code, the tables' words (any of lw_tbl by 'hts w (by decide +kernel)'), the script of L ints xs at the cell b, what the Statement gives of the start (any of its parts by flat_of_before) -/
def lw_At (p : Program) (s : State) (m : MethodId) (meth : Method) (c : Code) (b L : Nat) (xs : Nat → Int32) : Prop :=
  p.tables.exec = Jvm.exec ∧ c.code = code ∧ meth.sig.returnType = ret ∧ c.maxLocals = 4 ∧ s.vm.findClass R_law = some m.cls ∧ (∀ w ∈ lw_tbl, w.before #[Value.ref b] s = true) ∧ va_X b L xs s s.heap ∧ b < s.heap.size ∧ meth.locks = false ∧ (Jvm.Cond.and given_1 narrow_1).before #[Value.ref b] s = true
theorem nv_st0 {s : State} {b : Nat} {A : Nat → Prop} (hgv : (Jvm.Cond.and given_1 narrow_1).before #[Value.ref b] s = true) (hts : ∀ w ∈ lw_tbl, w.before #[Value.ref b] s = true) (hA : ∀ a : Nat, a < s.heap.size → ¬ A a) : ∃ t : Nat, va_T .char t 9 (fun j => .int (List.getD [98, 115, 112, 116, 97, 119, 110, 111, 99] j 0)) A s s.heap ∧ va_Z "WhoseName" "LETTER_SIGNS" "[C" (.ref t) A s s.heap := by
  have hs := flat_of_before _ hgv
  have harr : (Cond.arrayOf (Term.static "WhoseName" "LETTER_SIGNS" "[C") .char).before #[Value.ref b] s = true := hs _ (by decide +kernel)
  have hlen := va_eqt (hs (Cond.eq (.length (Term.static "WhoseName" "LETTER_SIGNS" "[C")) (.int 9)) (by decide +kernel))
  obtain ⟨t, h1, h2⟩ := va_Tof (N := 9) (f := fun j => .int (List.getD [98, 115, 112, 116, 97, 119, 110, 111, 99] j 0)) (A := A) (by decide) harr hlen (fun j hj => by
    match j, hj with
    | 0, _ => exact va_eqt (hs (Cond.eq (.elem (Term.static "WhoseName" "LETTER_SIGNS" "[C") (.int 0)) (.int 98)) (by decide +kernel))
    | 1, _ => exact va_eqt (hs (Cond.eq (.elem (Term.static "WhoseName" "LETTER_SIGNS" "[C") (.int 1)) (.int 115)) (by decide +kernel))
    | 2, _ => exact va_eqt (hs (Cond.eq (.elem (Term.static "WhoseName" "LETTER_SIGNS" "[C") (.int 2)) (.int 112)) (by decide +kernel))
    | 3, _ => exact va_eqt (hs (Cond.eq (.elem (Term.static "WhoseName" "LETTER_SIGNS" "[C") (.int 3)) (.int 116)) (by decide +kernel))
    | 4, _ => exact va_eqt (hs (Cond.eq (.elem (Term.static "WhoseName" "LETTER_SIGNS" "[C") (.int 4)) (.int 97)) (by decide +kernel))
    | 5, _ => exact va_eqt (hs (Cond.eq (.elem (Term.static "WhoseName" "LETTER_SIGNS" "[C") (.int 5)) (.int 119)) (by decide +kernel))
    | 6, _ => exact va_eqt (hs (Cond.eq (.elem (Term.static "WhoseName" "LETTER_SIGNS" "[C") (.int 6)) (.int 110)) (by decide +kernel))
    | 7, _ => exact va_eqt (hs (Cond.eq (.elem (Term.static "WhoseName" "LETTER_SIGNS" "[C") (.int 7)) (.int 111)) (by decide +kernel))
    | 8, _ => exact va_eqt (hs (Cond.eq (.elem (Term.static "WhoseName" "LETTER_SIGNS" "[C") (.int 8)) (.int 99)) (by decide +kernel))
    | n + 9, h => exact absurd h (by omega)) hA
  exact ⟨t, h2, va_Zref (hts (.laysStatic "WhoseName" "LETTER_SIGNS" "[C") (List.mem_of_getElem? (i := 240) (by decide +kernel))) (hts (.initialized "WhoseName") (List.mem_of_getElem? (i := 74) (by decide +kernel))) h1 hA⟩
theorem nv_st1 {s : State} {b : Nat} {A : Nat → Prop} (hgv : (Jvm.Cond.and given_1 narrow_1).before #[Value.ref b] s = true) (hts : ∀ w ∈ lw_tbl, w.before #[Value.ref b] s = true) (hA : ∀ a : Nat, a < s.heap.size → ¬ A a) : ∃ t : Nat, va_T .int t 9 (fun j => .int (List.getD [2, 1, 99, 99, 99, 1, 2, 2, 9] j 0)) A s s.heap ∧ va_Z "WhoseName" "LETTER_MOST" "[I" (.ref t) A s s.heap := by
  have hs := flat_of_before _ hgv
  have harr : (Cond.arrayOf (Term.static "WhoseName" "LETTER_MOST" "[I") .int).before #[Value.ref b] s = true := hs _ (by decide +kernel)
  have hlen := va_eqt (hs (Cond.eq (.length (Term.static "WhoseName" "LETTER_MOST" "[I")) (.int 9)) (by decide +kernel))
  obtain ⟨t, h1, h2⟩ := va_Tof (N := 9) (f := fun j => .int (List.getD [2, 1, 99, 99, 99, 1, 2, 2, 9] j 0)) (A := A) (by decide) harr hlen (fun j hj => by
    match j, hj with
    | 0, _ => exact va_eqt (hs (Cond.eq (.elem (Term.static "WhoseName" "LETTER_MOST" "[I") (.int 0)) (.int 2)) (by decide +kernel))
    | 1, _ => exact va_eqt (hs (Cond.eq (.elem (Term.static "WhoseName" "LETTER_MOST" "[I") (.int 1)) (.int 1)) (by decide +kernel))
    | 2, _ => exact va_eqt (hs (Cond.eq (.elem (Term.static "WhoseName" "LETTER_MOST" "[I") (.int 2)) (.int 99)) (by decide +kernel))
    | 3, _ => exact va_eqt (hs (Cond.eq (.elem (Term.static "WhoseName" "LETTER_MOST" "[I") (.int 3)) (.int 99)) (by decide +kernel))
    | 4, _ => exact va_eqt (hs (Cond.eq (.elem (Term.static "WhoseName" "LETTER_MOST" "[I") (.int 4)) (.int 99)) (by decide +kernel))
    | 5, _ => exact va_eqt (hs (Cond.eq (.elem (Term.static "WhoseName" "LETTER_MOST" "[I") (.int 5)) (.int 1)) (by decide +kernel))
    | 6, _ => exact va_eqt (hs (Cond.eq (.elem (Term.static "WhoseName" "LETTER_MOST" "[I") (.int 6)) (.int 2)) (by decide +kernel))
    | 7, _ => exact va_eqt (hs (Cond.eq (.elem (Term.static "WhoseName" "LETTER_MOST" "[I") (.int 7)) (.int 2)) (by decide +kernel))
    | 8, _ => exact va_eqt (hs (Cond.eq (.elem (Term.static "WhoseName" "LETTER_MOST" "[I") (.int 8)) (.int 9)) (by decide +kernel))
    | n + 9, h => exact absurd h (by omega)) hA
  exact ⟨t, h2, va_Zref (hts (.laysStatic "WhoseName" "LETTER_MOST" "[I") (List.mem_of_getElem? (i := 254) (by decide +kernel))) (hts (.initialized "WhoseName") (List.mem_of_getElem? (i := 74) (by decide +kernel))) h1 hA⟩
theorem nv_st2 {s : State} {b : Nat} {A : Nat → Prop} (hgv : (Jvm.Cond.and given_1 narrow_1).before #[Value.ref b] s = true) (hts : ∀ w ∈ lw_tbl, w.before #[Value.ref b] s = true) (hA : ∀ a : Nat, a < s.heap.size → ¬ A a) : ∃ t : Nat, va_T .int t 9 (fun j => .int (List.getD [1, 1, 10, 0, 10, 1, 0, 1, 1] j 0)) A s s.heap ∧ va_Z "WhoseName" "LETTER_FIRST" "[I" (.ref t) A s s.heap := by
  have hs := flat_of_before _ hgv
  have harr : (Cond.arrayOf (Term.static "WhoseName" "LETTER_FIRST" "[I") .int).before #[Value.ref b] s = true := hs _ (by decide +kernel)
  have hlen := va_eqt (hs (Cond.eq (.length (Term.static "WhoseName" "LETTER_FIRST" "[I")) (.int 9)) (by decide +kernel))
  obtain ⟨t, h1, h2⟩ := va_Tof (N := 9) (f := fun j => .int (List.getD [1, 1, 10, 0, 10, 1, 0, 1, 1] j 0)) (A := A) (by decide) harr hlen (fun j hj => by
    match j, hj with
    | 0, _ => exact va_eqt (hs (Cond.eq (.elem (Term.static "WhoseName" "LETTER_FIRST" "[I") (.int 0)) (.int 1)) (by decide +kernel))
    | 1, _ => exact va_eqt (hs (Cond.eq (.elem (Term.static "WhoseName" "LETTER_FIRST" "[I") (.int 1)) (.int 1)) (by decide +kernel))
    | 2, _ => exact va_eqt (hs (Cond.eq (.elem (Term.static "WhoseName" "LETTER_FIRST" "[I") (.int 2)) (.int 10)) (by decide +kernel))
    | 3, _ => exact va_eqt (hs (Cond.eq (.elem (Term.static "WhoseName" "LETTER_FIRST" "[I") (.int 3)) (.int 0)) (by decide +kernel))
    | 4, _ => exact va_eqt (hs (Cond.eq (.elem (Term.static "WhoseName" "LETTER_FIRST" "[I") (.int 4)) (.int 10)) (by decide +kernel))
    | 5, _ => exact va_eqt (hs (Cond.eq (.elem (Term.static "WhoseName" "LETTER_FIRST" "[I") (.int 5)) (.int 1)) (by decide +kernel))
    | 6, _ => exact va_eqt (hs (Cond.eq (.elem (Term.static "WhoseName" "LETTER_FIRST" "[I") (.int 6)) (.int 0)) (by decide +kernel))
    | 7, _ => exact va_eqt (hs (Cond.eq (.elem (Term.static "WhoseName" "LETTER_FIRST" "[I") (.int 7)) (.int 1)) (by decide +kernel))
    | 8, _ => exact va_eqt (hs (Cond.eq (.elem (Term.static "WhoseName" "LETTER_FIRST" "[I") (.int 8)) (.int 1)) (by decide +kernel))
    | n + 9, h => exact absurd h (by omega)) hA
  exact ⟨t, h2, va_Zref (hts (.laysStatic "WhoseName" "LETTER_FIRST" "[I") (List.mem_of_getElem? (i := 224) (by decide +kernel))) (hts (.initialized "WhoseName") (List.mem_of_getElem? (i := 74) (by decide +kernel))) h1 hA⟩
theorem nv_st3 {s : State} {b : Nat} {A : Nat → Prop} (hgv : (Jvm.Cond.and given_1 narrow_1).before #[Value.ref b] s = true) (hts : ∀ w ∈ lw_tbl, w.before #[Value.ref b] s = true) (hA : ∀ a : Nat, a < s.heap.size → ¬ A a) : ∃ t : Nat, va_T .int t 15 (fun j => .int (List.getD [1, 2, 4, 8, 3, 5, 6, 9, 10, 12, 7, 11, 13, 14, 15] j 0)) A s s.heap ∧ va_Z "WhoseName" "SORT_SETS" "[I" (.ref t) A s s.heap := by
  have hs := flat_of_before _ hgv
  have harr : (Cond.arrayOf (Term.static "WhoseName" "SORT_SETS" "[I") .int).before #[Value.ref b] s = true := hs _ (by decide +kernel)
  have hlen := va_eqt (hs (Cond.eq (.length (Term.static "WhoseName" "SORT_SETS" "[I")) (.int 15)) (by decide +kernel))
  obtain ⟨t, h1, h2⟩ := va_Tof (N := 15) (f := fun j => .int (List.getD [1, 2, 4, 8, 3, 5, 6, 9, 10, 12, 7, 11, 13, 14, 15] j 0)) (A := A) (by decide) harr hlen (fun j hj => by
    match j, hj with
    | 0, _ => exact va_eqt (hs (Cond.eq (.elem (Term.static "WhoseName" "SORT_SETS" "[I") (.int 0)) (.int 1)) (by decide +kernel))
    | 1, _ => exact va_eqt (hs (Cond.eq (.elem (Term.static "WhoseName" "SORT_SETS" "[I") (.int 1)) (.int 2)) (by decide +kernel))
    | 2, _ => exact va_eqt (hs (Cond.eq (.elem (Term.static "WhoseName" "SORT_SETS" "[I") (.int 2)) (.int 4)) (by decide +kernel))
    | 3, _ => exact va_eqt (hs (Cond.eq (.elem (Term.static "WhoseName" "SORT_SETS" "[I") (.int 3)) (.int 8)) (by decide +kernel))
    | 4, _ => exact va_eqt (hs (Cond.eq (.elem (Term.static "WhoseName" "SORT_SETS" "[I") (.int 4)) (.int 3)) (by decide +kernel))
    | 5, _ => exact va_eqt (hs (Cond.eq (.elem (Term.static "WhoseName" "SORT_SETS" "[I") (.int 5)) (.int 5)) (by decide +kernel))
    | 6, _ => exact va_eqt (hs (Cond.eq (.elem (Term.static "WhoseName" "SORT_SETS" "[I") (.int 6)) (.int 6)) (by decide +kernel))
    | 7, _ => exact va_eqt (hs (Cond.eq (.elem (Term.static "WhoseName" "SORT_SETS" "[I") (.int 7)) (.int 9)) (by decide +kernel))
    | 8, _ => exact va_eqt (hs (Cond.eq (.elem (Term.static "WhoseName" "SORT_SETS" "[I") (.int 8)) (.int 10)) (by decide +kernel))
    | 9, _ => exact va_eqt (hs (Cond.eq (.elem (Term.static "WhoseName" "SORT_SETS" "[I") (.int 9)) (.int 12)) (by decide +kernel))
    | 10, _ => exact va_eqt (hs (Cond.eq (.elem (Term.static "WhoseName" "SORT_SETS" "[I") (.int 10)) (.int 7)) (by decide +kernel))
    | 11, _ => exact va_eqt (hs (Cond.eq (.elem (Term.static "WhoseName" "SORT_SETS" "[I") (.int 11)) (.int 11)) (by decide +kernel))
    | 12, _ => exact va_eqt (hs (Cond.eq (.elem (Term.static "WhoseName" "SORT_SETS" "[I") (.int 12)) (.int 13)) (by decide +kernel))
    | 13, _ => exact va_eqt (hs (Cond.eq (.elem (Term.static "WhoseName" "SORT_SETS" "[I") (.int 13)) (.int 14)) (by decide +kernel))
    | 14, _ => exact va_eqt (hs (Cond.eq (.elem (Term.static "WhoseName" "SORT_SETS" "[I") (.int 14)) (.int 15)) (by decide +kernel))
    | n + 15, h => exact absurd h (by omega)) hA
  exact ⟨t, h2, va_Zref (hts (.laysStatic "WhoseName" "SORT_SETS" "[I") (List.mem_of_getElem? (i := 642) (by decide +kernel))) (hts (.initialized "WhoseName") (List.mem_of_getElem? (i := 74) (by decide +kernel))) h1 hA⟩
theorem nv_arI {s : State} {a : Array Value} (h : (Cond.arrayClass .int).before a s = true) : ∃ cA : ClassId, ArrOfT s cA .int ∧ va_RA s cA .int := by
  obtain ⟨c, k, comp, h1, h2, h3⟩ := Cond.arrayClass_spec h
  exact ⟨c, fun n z => ⟨fun k h => (by cases h), k, h2, comp, h3⟩, h1⟩
theorem nv_arR {s : State} {a : Array Value} {C : String} (h : (Cond.arrayOver (.object C)).before a s = true) : ∃ cA : ClassId, ArrOfT s cA (.object C) ∧ va_RA s cA (.object C) := by
  obtain ⟨comp, c, k, h1, h2, h3, h4, h5⟩ := Cond.arrayOver_spec h
  exact ⟨c, fun n z => ⟨fun k h => (by cases h), k, h3, comp, h4⟩, k, comp, h3, h4, h1, h5⟩
set_option maxHeartbeats 4000000 in
/-- THE LAW, from its entry -/
theorem whole_start {p : Program} {e : Env} {s : State} {m : MethodId} {below : List Frame} {meth : Method} {c : Code} (l : Launch) {b L : Nat} {xs : Nat → Int32} (hL : L ≤ 4608) (C0 : lw_At p s m meth c b L xs) : W p l e room_1 s m #[Value.ref b] below meth c s.heap [] 0 0 (lw_Z below #[Value.ref b] s) (entryFrame m ([Value.ref b] : List Value).toArray 4) := by
  obtain ⟨hx, hb, hr, hml, hown, hts, hX, hbl, hlocks, hgv⟩ := C0
  have hgt : ∀ w ∈ nv_gt, w.before #[Value.ref b] s = true := fun w hw => hts w (nv_gt_tbl hw)
  have hnA : ∀ a : Nat, a < s.heap.size → ¬ (fun q : Nat => s.heap.size ≤ q) a := fun a h => Nat.not_le.mpr h
  obtain ⟨c0, i0, hc0⟩ := u_known (C := "WhoseName$After") (T := nvT0) (N := 5) (n := 5) hgt nvW0 (hts (.instantiable "WhoseName$After" 5) (List.mem_of_getElem? (i := 189) (by decide +kernel)))
  obtain ⟨c1, i1, hc1⟩ := u_known (C := "WhoseName$Back") (T := nvT1) (N := 4) (n := 4) hgt nvW1 (hts (.instantiable "WhoseName$Back" 4) (List.mem_of_getElem? (i := 142) (by decide +kernel)))
  obtain ⟨c2, i2, hc2⟩ := u_known (C := "WhoseName$Bargain") (T := nvT2) (N := 7) (n := 7) hgt nvW2 (hts (.instantiable "WhoseName$Bargain" 7) (List.mem_of_getElem? (i := 160) (by decide +kernel)))
  obtain ⟨c3, i3, hc3⟩ := u_known (C := "WhoseName$Law") (T := nvT3) (N := 4) (n := 4) hgt nvW3 (hts (.instantiable "WhoseName$Law" 4) (List.mem_of_getElem? (i := 210) (by decide +kernel)))
  obtain ⟨c4, i4, hc4⟩ := u_known (C := "WhoseName$Leave") (T := nvT4) (N := 10) (n := 10) hgt nvW4 (hts (.instantiable "WhoseName$Leave" 10) (List.mem_of_getElem? (i := 105) (by decide +kernel)))
  obtain ⟨c5, i5, hc5⟩ := u_known (C := "WhoseName$Sheet") (T := nvT5) (N := 4) (n := 4) hgt nvW5 (hts (.instantiable "WhoseName$Sheet" 4) (List.mem_of_getElem? (i := 271) (by decide +kernel)))
  obtain ⟨c6, i6, hc6⟩ := u_known (C := "WhoseName") (T := nvT6) (N := 18) (n := 18) hgt nvW6 (hts (.instantiable "WhoseName" 18) (List.mem_of_getElem? (i := 86) (by decide +kernel)))
  obtain ⟨c7, i7, hc7⟩ := u_known (C := "WhoseNameModel") (T := nvT7) (N := 47) (n := 47) hgt nvW7 (hts (.instantiable "WhoseNameModel" 47) (List.mem_of_getElem? (i := 719) (by decide +kernel)))
  obtain ⟨a0, ha0⟩ := nv_arI (hts (.arrayClass .int) (List.mem_of_getElem? (i := 141) (by decide +kernel)))
  have hao1 := hts (.arrayOver (.object "WhoseName$Leave")) (List.mem_of_getElem? (i := 94) (by decide +kernel))
  obtain ⟨a1, ha1⟩ := nv_arR hao1
  have hao2 := hts (.arrayOver (.object "WhoseName$Back")) (List.mem_of_getElem? (i := 96) (by decide +kernel))
  obtain ⟨a2, ha2⟩ := nv_arR hao2
  have hao3 := hts (.arrayOver (.object "WhoseName$Bargain")) (List.mem_of_getElem? (i := 98) (by decide +kernel))
  obtain ⟨a3, ha3⟩ := nv_arR hao3
  have hao4 := hts (.arrayOver (.object "WhoseName$After")) (List.mem_of_getElem? (i := 100) (by decide +kernel))
  obtain ⟨a4, ha4⟩ := nv_arR hao4
  have hao5 := hts (.arrayOver (.object "WhoseName$Law")) (List.mem_of_getElem? (i := 102) (by decide +kernel))
  obtain ⟨a5, ha5⟩ := nv_arR hao5
  have hao6 := hts (.arrayOver (.object "WhoseName$Sheet")) (List.mem_of_getElem? (i := 104) (by decide +kernel))
  obtain ⟨a6, ha6⟩ := nv_arR hao6
  obtain ⟨t0, hT0, hZ0⟩ := nv_st0 hgv hts hnA
  obtain ⟨t1, hT1, hZ1⟩ := nv_st1 hgv hts hnA
  obtain ⟨t2, hT2, hZ2⟩ := nv_st2 hgv hts hnA
  obtain ⟨t3, hT3, hZ3⟩ := nv_st3 hgv hts hnA
  obtain ⟨dC, hdC⟩ : ∃ f : Nat → ClassId, f 0 = c0 ∧ f 1 = c1 ∧ f 2 = c2 ∧ f 3 = c3 ∧ f 4 = c4 ∧ f 5 = c5 ∧ f 6 = c6 ∧ f 7 = c7 := ⟨fun k => match k with | 0 => c0 | 1 => c1 | 2 => c2 | 3 => c3 | 4 => c4 | 5 => c5 | 6 => c6 | _ => c7, rfl, rfl, rfl, rfl, rfl, rfl, rfl, rfl⟩
  obtain ⟨dI, hdI⟩ : ∃ f : Nat → Nat → Nat, f 0 = i0 ∧ f 1 = i1 ∧ f 2 = i2 ∧ f 3 = i3 ∧ f 4 = i4 ∧ f 5 = i5 ∧ f 6 = i6 ∧ f 7 = i7 := ⟨fun k => match k with | 0 => i0 | 1 => i1 | 2 => i2 | 3 => i3 | 4 => i4 | 5 => i5 | 6 => i6 | _ => i7, rfl, rfl, rfl, rfl, rfl, rfl, rfl, rfl⟩
  obtain ⟨cA, hcA⟩ : ∃ f : Nat → ClassId, f 0 = a0 ∧ f 1 = a1 ∧ f 2 = a2 ∧ f 3 = a3 ∧ f 4 = a4 ∧ f 5 = a5 ∧ f 6 = a6 := ⟨fun k => match k with | 0 => a0 | 1 => a1 | 2 => a2 | 3 => a3 | 4 => a4 | 5 => a5 | _ => a6, rfl, rfl, rfl, rfl, rfl, rfl, rfl⟩
  obtain ⟨sp, hsp⟩ : ∃ f : Nat → Nat, f 0 = t0 ∧ f 1 = t1 ∧ f 2 = t2 ∧ f 3 = t3 ∧ f 9 = b := ⟨fun k => match k with | 0 => t0 | 1 => t1 | 2 => t2 | 3 => t3 | _ => b, rfl, rfl, rfl, rfl, rfl⟩
  have hK : va_K (dC, dI) nv_cls (nv_tys cA) s := by
    refine ⟨fun k q hq => ?_, fun k q hq => ?_⟩
    · match k, hq with
      | 0, hq => cases hq; show u_Kn s _ _ _ (dC 0) (dI 0); rw [hdC.1, hdI.1]; exact hc0
      | 1, hq => cases hq; show u_Kn s _ _ _ (dC 1) (dI 1); rw [hdC.2.1, hdI.2.1]; exact hc1
      | 2, hq => cases hq; show u_Kn s _ _ _ (dC 2) (dI 2); rw [hdC.2.2.1, hdI.2.2.1]; exact hc2
      | 3, hq => cases hq; show u_Kn s _ _ _ (dC 3) (dI 3); rw [hdC.2.2.2.1, hdI.2.2.2.1]; exact hc3
      | 4, hq => cases hq; show u_Kn s _ _ _ (dC 4) (dI 4); rw [hdC.2.2.2.2.1, hdI.2.2.2.2.1]; exact hc4
      | 5, hq => cases hq; show u_Kn s _ _ _ (dC 5) (dI 5); rw [hdC.2.2.2.2.2.1, hdI.2.2.2.2.2.1]; exact hc5
      | 6, hq => cases hq; show u_Kn s _ _ _ (dC 6) (dI 6); rw [hdC.2.2.2.2.2.2.1, hdI.2.2.2.2.2.2.1]; exact hc6
      | 7, hq => cases hq; show u_Kn s _ _ _ (dC 7) (dI 7); rw [hdC.2.2.2.2.2.2.2, hdI.2.2.2.2.2.2.2]; exact hc7
      | k + 8, hq => simp [nv_cls] at hq
    · match k, hq with
      | 0, hq => cases hq; rw [hcA.1]; exact ha0
      | 1, hq => cases hq; rw [hcA.2.1]; exact ha1
      | 2, hq => cases hq; rw [hcA.2.2.1]; exact ha2
      | 3, hq => cases hq; rw [hcA.2.2.2.1]; exact ha3
      | 4, hq => cases hq; rw [hcA.2.2.2.2.1]; exact ha4
      | 5, hq => cases hq; rw [hcA.2.2.2.2.2.1]; exact ha5
      | 6, hq => cases hq; rw [hcA.2.2.2.2.2.2]; exact ha6
      | k + 7, hq => simp [nv_tys] at hq
  obtain ⟨h', hpure⟩ := nv_pure L hL xs
  have hSt : nv_S (l, (dC, dI), cA, sp, L, xs) (fun q : Nat => s.heap.size ≤ q) s := by
    refine ⟨fun i ty nm ds lst hi => ?_, ⟨?_, ?_, ?_⟩, fun C hC => ?_, fun w hw => ?_⟩
    · show va_T ty (sp i) lst.length _ _ s s.heap ∧ va_Z "WhoseName" nm ds (.ref (sp i)) _ s s.heap
      match i, hi with
      | 0, hi => cases hi; rw [hsp.1]; exact ⟨hT0, hZ0⟩
      | 1, hi => cases hi; rw [hsp.2.1]; exact ⟨hT1, hZ1⟩
      | 2, hi => cases hi; rw [hsp.2.2.1]; exact ⟨hT2, hZ2⟩
      | 3, hi => cases hi; rw [hsp.2.2.2.1]; exact ⟨hT3, hZ3⟩
      | i + 4, hi => simp [nv_stat] at hi
    · show va_X (sp 9) L xs s s.heap
      rw [hsp.2.2.2.2]; exact hX
    · show sp 9 < s.heap.size
      rw [hsp.2.2.2.2]; exact hbl
    · show ¬ s.heap.size ≤ sp 9
      rw [hsp.2.2.2.2]; exact Nat.not_le.mpr hbl
    · simp only [nv_aon, List.mem_cons, List.not_mem_nil, or_false] at hC
      rcases hC with rfl | rfl | rfl | rfl | rfl | rfl
      · exact va_AO.of hao1
      · exact va_AO.of hao2
      · exact va_AO.of hao3
      · exact va_AO.of hao4
      · exact va_AO.of hao5
      · exact va_AO.of hao6
    · unfold nv_nst at hw
      simp only [List.mem_cons, List.not_mem_nil, or_false] at hw
      rcases hw with rfl | rfl | rfl | rfl | rfl | rfl | rfl | rfl
      · exact va_Nw.of rfl (hts _ (List.mem_of_getElem? (i := 106) (by decide +kernel)))
      · exact va_Nw.of rfl (hts _ (List.mem_of_getElem? (i := 143) (by decide +kernel)))
      · exact va_Nw.of rfl (hts _ (List.mem_of_getElem? (i := 161) (by decide +kernel)))
      · exact va_Nw.of rfl (hts _ (List.mem_of_getElem? (i := 190) (by decide +kernel)))
      · exact va_Nw.of rfl (hts _ (List.mem_of_getElem? (i := 223) (by decide +kernel)))
      · exact va_Nw.of rfl (hts _ (List.mem_of_getElem? (i := 239) (by decide +kernel)))
      · exact va_Nw.of rfl (hts _ (List.mem_of_getElem? (i := 253) (by decide +kernel)))
      · exact va_Nw.of rfl (hts _ (List.mem_of_getElem? (i := 272) (by decide +kernel)))
  have hl := lv_entry ([.ref b]) (n := 4) (Nat.le_of_ble_eq_true rfl)
  rw [lg_entry_eq]
  have hC : nv_C (l, (dC, dI), cA, sp, L, xs) 10 qL_law (some (.int 1), nv_s h') p room_1 s m #[Value.ref b] meth c 0 (fun q : Nat => s.heap.size ≤ q) :=
    ⟨hx, hb, hml, hown, hgt, hK, fun _ h => h, hSt, fun h => absurd h (by decide), by decide, by decide, by show 113 - 0 ≤ 600000; decide, by show nv_sl 113 - nv_sl 0 ≤ 7302250; decide +kernel⟩
  have hXX : nv_X (l, (dC, dI), cA, sp, L, xs) qL_law (some (.int 1), nv_s h') p e room_1 s m #[Value.ref b] below meth c 0 (fun k => sp (k - 1000)) (fun q : Nat => s.heap.size ≤ q) (lw_Z below #[Value.ref b] s) := by
    intro ad H locs lsC pc hV hrt
    refine va_forget (fun q hq => hV.2.2.2.2.2.2.2 q hq) ?_
    refine W.widen (k := 600000) (n := 7302250) (by show 113 - 0 ≤ 600000; decide) (by show nv_sl 113 - nv_sl 0 ≤ 7302250; decide +kernel) ?_
    exact lw_ret hx hb hr hlocks hrt.1
  have K := nv_law0 (l, (dC, dI), cA, sp, L, xs) (tL_law_18 (l, (dC, dI), cA, sp, L, xs) L xs rfl rfl nv_fu 0 nv_h0 (true, h') hpure)
  have hV0 : nv_V (l, (dC, dI), cA, sp, L, xs) (some (.int 1), nv_s h') s 0 (fun k => sp (k - 1000)) (fun q : Nat => s.heap.size ≤ q) (fun k => sp (k - 1000)) (nv_hl [], nv_zl [], 0) s.heap [] :=
    ⟨⟨Nat.le_refl _, by show 0 ≤ 113; decide, by show 113 ≤ 1000; decide⟩, fun _ _ => rfl, fun i => by show sp (1000 + i - 1000) = sp i; rw [Nat.add_sub_cancel_left], fun k q h => by simp [nv_w] at h, ⟨fun i j x y h => by simp [nv_w] at h, fun k q h => by simp [nv_w] at h⟩, va_S.rf⟩
  have e9 : nv_ll (fun k => sp (k - 1000)) 0 [some (.ref 1009), none, none, none] = [(0, .ref (sp 9))] := rfl
  have hl2 : lv_has ((lg_sl [Value.ref b] ++ List.replicate (4 - (lg_sl [Value.ref b]).length) Slot.unset).toArray) 4 (nv_ll (fun k => sp (k - 1000)) 0 [some (.ref 1009), none, none, none]) := by
    rw [e9, hsp.2.2.2.2]
    exact hl
  exact K p e room_1 s m #[Value.ref b] below meth c 0 (fun k => sp (k - 1000)) _ _ hC hXX (fun k => sp (k - 1000)) s.heap [] _ hV0 hl2
-- ===== YOUR PART ENDS =====
set_option maxHeartbeats 4000000 in
theorem lw_walk (l : Launch) (b : Addr) (xs : List Int32) : MetFree l x (headSpec (Jvm.Cond.code x code maxLocals ret :: tables_1) room_1) (lw_P b xs) (fun _ _ _ _ _ => True) lw_Q := by
  refine MetFree.of_bodyS (code := code) (maxLocals := maxLocals) (ret := ret) (by decide) ?_ ?_
  · intro args s m h hn
    obtain ⟨meth, c, h1, h2, h3, h4, h5, h6, -, -⟩ := Cond.code_spec hn (atoms_spec (ws := Jvm.Cond.code x code maxLocals ret :: tables_1) h _ List.mem_cons_self)
    exact ⟨meth, c, h1, h2, h3, h4, h5, h6⟩
  · intro p e s m args below meth c s₁ B hml0 hP _
    obtain ⟨rfl, hx, hbd, hgv⟩ := hP
    obtain ⟨scr, harrAt, hlist, hof, hsmall⟩ := hx
    obtain ⟨hcb, hkn, -, -⟩ := State.arrayAt?_spec harrAt
    have hown : s.vm.findClass R_law = some m.cls := findClass_of_methodNamed B.named
    have hts0 : ∀ c ∈ (Jvm.Cond.code x code maxLocals ret :: tables_1), c.before #[Value.ref b] s = true := atoms_spec (ws := Jvm.Cond.code x code maxLocals ret :: tables_1) B.pre
    have hts : ∀ w ∈ lw_tbl, w.before #[Value.ref b] s = true := k2_hts_sels lw_privs (fun w hw => hts0 w (List.mem_cons_of_mem _ hw)) lw_privs_ok
    have hml : c.maxLocals = 4 := B.maxLocals_eq (hts0 _ List.mem_cons_self)
    have X₀ : Stand p l e room_1 s m #[Value.ref b] below meth c s₁ [] 0 0 := Stand.of_body B
    have hh0 : s₁.heap = s.heap := by rw [B.state]; rfl
    have hsz : scr.slots.size = xs.length := by rw [← Array.length_toList, hlist, List.length_map]
    have hval : ∀ j : Nat, j < xs.length → scr.slots[j]? = some (.int (xs.getD j 0)) := fun j hj => by
      rw [← Array.getElem?_toList, hlist]
      simp [hj]
    have hbl : b < s.heap.size := (Array.getElem?_eq_some_iff.mp hcb).1
    have hX : va_X b xs.length (fun j => xs.getD j 0) s s.heap := ⟨scr, hcb, hof, hkn, hsz, hval⟩
    have K : W p l e room_1 s m #[Value.ref b] below meth c s₁.heap [] 0 0 (lw_Z below #[Value.ref b] s) (entryFrame m ([Value.ref b] : List Value).toArray 4) := by
      rw [hh0]
      exact whole_start l hbd ⟨B.exec, B.bytes, B.returns, hml, hown, hts, hX, hbl, B.notSynchronized, hgv⟩
    obtain ⟨t, a1, o, b1, b2, b3⟩ := K s₁ rfl X₀
    exact ⟨t, o, a1, b1, b2, b3⟩
theorem lw_pre_spec {args : Array Value} {s : State} (h : (Jvm.Cond.and given_1 narrow_1).before args s = true) (hr : rest_1_c.before args s = true) : ∃ (b : Addr) (xs : List Int32), lw_P b xs args s := by
  have hs := flat_of_before _ h
  have hq := flat_of_before _ hr
  have hc : (Cond.count 1).before args s = true := hs _ (by decide +kernel)
  have harr : (Cond.arrayOf (.arg 0) .int).before args s = true := hs _ (by decide +kernel)
  have hle : (Cond.le (.length (.arg 0)) (.int 4608)).before args s = true := hs _ (by decide +kernel)
  have hlen : (Cond.isInt (.length (.arg 0))).before args s = true := hq _ (by decide +kernel)
  have hall : (Cond.all (.arg 0) (.isInt (.elem (.arg 0) (.index 0)))).before args s = true := hq _ (by decide +kernel)
  obtain ⟨b, xs, hb, hx⟩ := State.ints_of_pre rfl harr hlen hall
  have hsm : xs.length < 2 ^ 31 := hx.choose_spec.2.2.2
  have hev : (Term.length (.arg 0)).eval args s none [] s = some (.int xs.length.toInt32) := hx.length_eval hb
  have hv := Cond.le_ints hev (show (Term.int 4608).eval args s none [] s = some (.int 4608) from rfl)
  have hd : xs.length.toInt32 ≤ 4608 := by
    simpa [Cond.before, Cond.holds, hv] using hle
  have hN : xs.length ≤ 4608 := (Int32.ofNat_le_ofNat hsm (by decide)).mp (show Int32.ofNat xs.length ≤ Int32.ofNat 4608 from hd)
  exact ⟨b, xs, Cond.one_arg hc (show args[0]? = some (.ref b) from hb), hx, hN, h⟩
theorem lw_comes (l : Launch) : Comes l x (Jvm.Cond.code x code maxLocals ret :: tables_1) room_1 (fun tb e args s => Calls_1 tb e args s ∧ rest_1 tb e args s ∧ Pre_1 tb e args s)
    (fun _ _ args s o t => lw_Q args s o t) := by
  intro p e ha hc hk s m args below hf hfit hheap happ hpre
  obtain ⟨b, xs, hP⟩ := lw_pre_spec hpre.2.2 hpre.2.1
  obtain ⟨k, o, h1, h2, h3, hQ⟩ := lw_walk l b xs p e ha hc hk s m args below hf ((Spec.applies_iff_loose hf).mp happ).1 hP trivial
  exact ⟨k, o, h1, h2, h3, hQ⟩
theorem lw_frame {s t : State} {o : Outcome} {args : Array Value} (h : Framed s o t [] 600000 7302250) :
    Framed s o t (fieldLocs frame_1_writes args s ++ arrayLocs frame_1_arrays args s ++ staticLocs frame_1_statics s) 600000 7302250 := h
theorem lw_limb (L : Cond) (hL : ∀ (args : Array Value) (s t : State), L.after args s (.returned (some (.int 1))) t = true) :
    ArmFor flags0 classFile x code maxLocals ret World_1 tables_1 room_1 Calls_1 rest_1 Pre_1
      (fun tb e a s o t => postC L tb e a s o t ∧ Framed s o t (fieldLocs frame_1_writes a s ++ arrayLocs frame_1_arrays a s ++ staticLocs frame_1_statics s) 600000 7302250) := by
  intro l _ _ _ p e ha hc hk s m args below hf hfit hheap happ hpre
  obtain ⟨k, o, h1, h2, h3, rfl, hF⟩ := lw_comes l p e ha hc hk s m args below hf hfit hheap happ hpre
  exact ⟨k, _, h1, h2, h3, hL args s _, lw_frame hF⟩
theorem i_vc : Claimed_1_1 ∧ Claimed_1_2 := ⟨lw_limb limb_1_1 (fun args s t => by simp [limb_1_1, Cond.after, Cond.holds, Cond.value]), lw_limb limb_1_2 (fun args s t => Cond.after_iff.mpr (by
  first | (rw [show limb_1_2 = Cond.eq .result (.int 1) from rfl, Cond.eq_ints (x := 1) (y := 1) rfl rfl]; simp; done) | (simp [limb_1_2, Cond.value, Term.eval]; done)))⟩
