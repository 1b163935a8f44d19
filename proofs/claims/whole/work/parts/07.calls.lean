/-! ===== a table's ints copied into a cell; calls; a method's contract out of its frame ===== -/
section
variable {G : nv_G} {d : Nat} {M : nv_MI} {pc nx tgt : Nat} {ls : List (Option Value)} {st : List Value} {h : nv_Hp} {z : nv_Zp} {n : Nat} {r : nv_R}
theorem nv_cat8 {ad : Nat → Nat} {st : List Value} (hst : (st.map fun v => v.category).sum ≤ 8) : ((st.map (nv_cV ad)).map fun v => v.category).sum ≤ 8 := by
  rw [List.map_map, show (fun v : Value => v.category) ∘ nv_cV ad = fun v => v.category from funext fun v => nv_cV_cat ad v]
  exact hst
theorem nv_copyS {ix i k1 n1 : Nat} {nm ds : String} {l : List Int32} {sp dp len : Int32} (hi : nv_dc M pc (.invokestatic ix) 3 nx) (hL : nv_Lc M.1.cls ix) (hd : 1 ≤ d) (hs : nv_stat i = some (.int, nm, ds, l)) (hk1 : k1 < n ∧ nv_shp k1 = .inl (n1, none))
    (h1 : ¬ sp < 0) (h2 : ¬ dp < 0) (h3 : ¬ len < 0) (h4 : sp.toNatClampNeg + len.toNatClampNeg ≤ l.length) (h5 : dp.toNatClampNeg + len.toNatClampNeg ≤ n1) (hst : (st.map fun v => v.category).sum ≤ 8)
    (K : nv_E G d M nx ls st (nv_cp (fun j => l.getD j 0) h k1 sp.toNatClampNeg dp.toNatClampNeg len.toNatClampNeg, z, n) r) : nv_E G d M pc ls (.int len :: .int dp :: .ref k1 :: .int sp :: .ref (1000 + i) :: st) (h, z, n) r := by
  obtain ⟨hi, rfl⟩ := hi
  obtain ⟨l1, l2, l3, l4⟩ := hL
  intro p e R s m args below meth c n0 ad0 A Q hC hX ad H locs lsC hV hl
  have hTs := hC.2.2.2.2.1
  have hr := hC.2.2.2.2.2.2.2.2.2
  have hcat := nv_cat8 (ad := ad) hst
  obtain ⟨scr, hs1, hs2, hs3, hs4, -, hs5, hs7⟩ := (hC.2.2.2.2.2.2.2.1.1 i _ nm ds l hs).1
  have hS := hV.2.2.2.2.2
  have ha1 := hV.wg hk1.1 hk1.2
  have hc0 : H[G.2.2.2.1 i]? = some scr := by rw [hS.2.1 _ (Array.getElem?_eq_some_iff.mp hs1).1 hs7]; exact hs1
  have hc1 : H[ad k1]? = some (vp_cell (G.2.2.1 0) (n1, .inl (h k1))) := hV.2.2.2.1 k1 _ ha1
  have nn : ∀ w : Int32, ¬ w < 0 → w.toInt = (w.toNatClampNeg : Int) := by
    intro w hw
    have hw0 : (0 : Int) ≤ w.toInt := by
      have := Int32.not_lt.mp hw
      simpa using Int32.le_iff_toInt_le.mp this
    show w.toInt = ((w.toInt.toNat : Nat) : Int)
    omega
  intro T hT X
  obtain ⟨hs6, c0, hk0, cm0, hkk0⟩ := hs2
  obtain ⟨-, c1, hk1', cm1, hkk1⟩ := (hC.2.2.2.2.2.1.2 0 _ rfl).1 n1 (fun j => .int (h k1 j))
  have hst0 : (F0 m pc lsC ((Value.int len :: .int dp :: .ref k1 :: .int sp :: .ref (1000 + i) :: st).map (nv_cV ad))) = F0 m pc lsC (.int len :: .int dp :: .ref (ad k1) :: .int sp :: .ref (G.2.2.2.1 i) :: st.map (nv_cV ad)) := by
    simp only [List.map_cons, nv_cV_ref, nv_cV_int, hV.2.2.1 i]
  rw [hst0]
  have hnf : nativeFrameWords "java/lang/System" "arraycopy" 5 ≤ 20 := by decide +kernel
  obtain ⟨vm', X', step⟩ := X.arraycopy hC.1 hC.2.2.2.1 (hTs _ l1) (hTs _ l2) (hTs _ l3) (hTs _ l4) (src := G.2.2.2.1 i) (dst := ad k1) (cs := scr) (cd := vp_cell (G.2.2.1 0) (n1, .inl (h k1))) (srcPos := sp) (destPos := dp) (n := len) (by rw [hT]; exact hc0) (by rw [hT]; exact hc1)
    hs6 (fun _ h => by cases h) hs3 (fun h => by cases h) hk0 hk1' hkk0 hkk1 (by simp [refKind]) h1 h2 h3
    (by rw [nn sp h1, nn len h3]; omega)
    (by rw [nn dp h2, nn len h3]; show ¬ _ > ((arrV (G.2.2.1 0) n1 (fun j => .int (h k1 j))).slots.size : Int); rw [arrV_size]; omega)
    (fun vm₁ _ j hj => by
      have e : scr.slots.getD (sp.toNatClampNeg + j) .null = .int (l.getD (sp.toNatClampNeg + j) 0) := by
        rw [Array.getD_eq_getD_getElem?, hs5 _ (by omega)]
        rfl
      refine ⟨?_, ?_⟩
      · rw [e]; rfl
      · rw [e]
        exact trivial)
    (g := F0 m pc lsC (.int len :: .int dp :: .ref (ad k1) :: .int sp :: .ref (G.2.2.2.1 i) :: st.map (nv_cV ad))) rfl (by rw [hC.2.2.1]; exact hl.1) (rest := st.map (nv_cV ad)) rfl (by rw [hC.2.1]; exact hi) (by omega) (by show 2 * 0 + _ + _ ≤ _; omega)
  have e1 : copied scr (vp_cell (G.2.2.1 0) (n1, .inl (h k1))) sp dp len = vp_cell (G.2.2.1 0) (n1, .inl (va_cpy (fun j => l.getD j 0) (h k1) sp.toNatClampNeg dp.toNatClampNeg len.toNatClampNeg)) := va_copiedX (fun w => .int w) scr (G.2.2.1 0) (fun j => l.getD j 0) (h k1) hs5 h4
  rw [e1] at X' step
  have hlt : ad k1 < H.size := (Array.getElem?_eq_some_iff.mp hc1).1
  have hD := hV.2.2.2.2.1
  generalize hg : va_cpy (fun j => l.getD j 0) (h k1) sp.toNatClampNeg dp.toNatClampNeg len.toNatClampNeg = g at X' step
  have oq : ∀ q : Nat, q ≠ ad k1 → (H.setIfInBounds (ad k1) (vp_cell (G.2.2.1 0) (n1, .inl g)))[q]? = H[q]? := fun q hq => by simp [Array.getElem?_setIfInBounds, Ne.symm hq]
  have he : va_at G.2.1 nv_cls (ad k1, .inl (G.2.2.1 0, n1, .inl g)) (H.setIfInBounds (ad k1) (vp_cell (G.2.2.1 0) (n1, .inl g))) := by
    show (H.setIfInBounds (ad k1) _)[ad k1]? = some _
    simp [Array.getElem?_setIfInBounds, hlt]
  have hce : (.inl (G.2.2.1 0, n1, .inl g) : va_E) = nv_ce ad G.2.2.1 (nv_cp (fun j => l.getD j 0) h k1 sp.toNatClampNeg dp.toNatClampNeg len.toNatClampNeg) z k1 (nv_shp k1) := by
    rw [hk1.2, ← hg]
    show (.inl (G.2.2.1 0, n1, .inl (va_cpy (fun j => l.getD j 0) (h k1) sp.toNatClampNeg dp.toNatClampNeg len.toNatClampNeg)) : va_E) = .inl (G.2.2.1 0, n1, .inl (nv_cp (fun j => l.getD j 0) h k1 sp.toNatClampNeg dp.toNatClampNeg len.toNatClampNeg k1))
    congr 4
    funext b
    simp [nv_cp]
  have hS1 : ∀ Lx : List Loc, (∀ q ∈ Lx, q.base = ad k1) → va_S A s.heap (H.setIfInBounds (ad k1) (vp_cell (G.2.2.1 0) (n1, .inl g))) (locs ++ Lx) := fun Lx hLx => ⟨by simp; exact hS.1, fun q g1 g2 => by
      rw [oq q (fun e => g2 (by rw [e]; exact hD.2 k1 _ ha1))]
      exact hS.2.1 q g1 g2, fun q hq => by
      rcases List.mem_append.mp hq with h | h
      · exact hS.2.2 q h
      · rw [hLx q h]
        exact hD.2 k1 _ ha1⟩
  have hheap : ((T.setVm vm').setCell (ad k1) (vp_cell (G.2.2.1 0) (n1, .inl g))).heap = H.setIfInBounds (ad k1) (vp_cell (G.2.2.1 0) (n1, .inl g)) := by rw [← hT]; rfl
  obtain ⟨t, a1, b1⟩ := K p e R s m args below meth c n0 ad0 A Q hC hX ad _ _ lsC (hV.put hk1.1 hce (fun a i ha => by simp [nv_cp, ha]) (fun _ _ _ => rfl) (hV.2.2.2.1.set hD ha1 he oq) (hD.set ha1) (hS1 _ (fun q hq => by obtain ⟨z, -, hz⟩ := List.mem_map.mp hq; rw [← hz]))) hl _ hheap X'
  exact ⟨t, step t a1, b1⟩
/-- behind a call -/
theorem nv_go {G : nv_G} {p : Program} {e : Env} {R : Room} {s : State} {m : MethodId} {args : Array Value} {below : List Frame} {meth : Method} {c : Code} {H : Heap} {locs : List Loc} {cells slots mc ms n pc : Nat} {Q : State → Prop} {lsC : Array Slot} {rest st0 : List Value} {a : Array Value} {A A1 : Nat → Prop} {free : Addr → Prop} {r : nv_R} {ad : Nat → Nat}
    (hr : va_Run p G.1 e R s m args below meth c H locs cells slots mc ms (F0 m pc lsC st0) rest (nv_Q G n ad A1 r a) free) (hS : va_S A s.heap H locs) (hA : ∀ q, q < H.size → A1 q → A q) (hf : ∀ q, free q → A q)
    (kk : ∀ (ad' : Nat → Nat) (H1 : Heap) (locs1 : List Loc), (∀ k, (k < n ∨ nv_n r ≤ k) → ad' k = ad k) → va_P G.2.1 nv_cls (nv_w ad' G.2.2.1 r.2) H1 → va_D A1 (nv_w ad' G.2.2.1 r.2) → va_S A s.heap H1 locs1 → W p G.1 e R s m args below meth c H1 locs1 (cells + mc) (slots + ms) Q (F0 m (pc + 3) lsC ((r.1.map (nv_cV ad')).toList ++ rest))) :
    W p G.1 e R s m args below meth c H locs cells slots Q (F0 m pc lsC st0) := by
  intro T hT X
  obtain ⟨v, st₀, t, T', L, h0, X', hL, e1, e2, ⟨⟨ad', h1, hv, h3, h4⟩, hz, hk⟩, st⟩ := hr T hT X
  cases hv
  rw [h0] at hz hk
  obtain ⟨t2, a1, b1⟩ := kk ad' T'.heap (locs ++ L) h1 (by rw [e1]; exact h3) h4
    ⟨Nat.le_trans hS.1 (by rw [e1]; exact hz), fun q h1 h2 => by rw [e1, hk q (Nat.lt_of_lt_of_le h1 hS.1) (fun z => h2 (hA q (Nat.lt_of_lt_of_le h1 hS.1) z))]; exact hS.2.1 q h1 h2, fun q hq => by
      rcases List.mem_append.mp hq with h | h
      · exact hS.2.2 q h
      · exact hf _ (hL q h)⟩ T' rfl X'
  exact ⟨t2, st t2 a1, b1⟩
theorem nv_P_blind {G : nv_G} {ad : Nat → Nat} {sz : Nat} {av : List Value} {σ : nv_Sg} : FrameBlind (nv_P G ad sz av σ) := by
  intro a U g mk q
  obtain ⟨q0, q1, q2, q3, q4, q5⟩ := q
  refine ⟨q0, q1, q2, va_K.moved (u := U) (U := U.calling g mk a) (Vm.Alike.refl U.vm) q3, q4, ?_⟩
  exact nv_S.go (s := U) (U := U.calling g mk a) q5 (Vm.Alike.refl U.vm) ⟨Nat.le_refl _, fun _ _ _ => rfl⟩ (fun _ h => h) (nv_nst_same rfl)
/-- the callee's start, out of the caller's frame -/
theorem nv_pre {G : nv_G} {d : Nat} {M : nv_MI} {r r' : nv_R} {p : Program} {R : Room} {s : State} {m : MethodId} {args : Array Value} {meth : Method} {c : Code} {n0 : Nat} {A : Nat → Prop} {ad0 ad : Nat → Nat} {σ : nv_Sg} {H : Heap} {locs : List Loc} {av : List Value}
    (hC : nv_C G d M r p R s m args meth c n0 A) (hV : nv_V G r s n0 ad0 A ad σ H locs) : (∀ q, va_A (nv_w ad G.2.2.1 σ) H.size q → A q) ∧ ∀ U : State, U.heap = H → s.WarmedH U.vm → nv_P G ad H.size av σ (av.map (nv_cV ad)).toArray U := by
  have hS := hV.2.2.2.2.2
  have hF : ∀ q, va_A (nv_w ad G.2.2.1 σ) H.size q → A q := by
    intro q hq
    rcases hq with ⟨k, e, h⟩ | h
    · exact hV.2.2.2.2.1.2 k (q, e) h
    · exact hC.2.2.2.2.2.2.1 q (Nat.le_trans hS.1 h)
  refine ⟨hF, fun U hU hW => ⟨rfl, by rw [hU], by rw [hU]; exact hV.2.2.2.1, va_K.moved hW.alike hC.2.2.2.2.2.1, hV.2.2.2.2.1.weaken (fun _ _ _ _ => trivial), ?_⟩⟩
  exact nv_S.go hC.2.2.2.2.2.2.2.1 hW.alike ⟨by rw [hU]; exact hS.1, fun q h1 h2 => by rw [hU]; exact hS.2.1 q h1 h2⟩ hF (nv_nst_warm hW)
/-- what is known of a callee: its words, its arguments' number -/
def nv_Y (y : nv_MI) (na : Nat) : Prop := Cond.code y.1 y.2.1 y.2.2.1 y.2.2.2 ∈ nv_gt ∧ Cond.initialized y.1.cls ∈ nv_gt ∧ (y.1.cls ≠ "java/lang/invoke/MethodHandle" ∧ y.1.cls ≠ "java/lang/invoke/VarHandle" ∧ (parseMethodDescriptor y.1.desc).map (fun d => d.parameters.length) = some na) ∧ y.2.2.1 ≤ 21
def nv_Yv (y : nv_MI) (na : Nat) : Prop := nv_Y y na ∧ Cond.instanceMethod y.1 ∈ nv_gt ∧ Cond.selects y.1.cls y.1 y.1 ∈ nv_gt
def nv_Ys (y : nv_MI) (na : Nat) : Prop := nv_Y y na ∧ Cond.static y.1 ∈ nv_gt
def nv_Yi (y : nv_MI) (na : Nat) : Prop := nv_Y y na ∧ Cond.instanceMethod y.1 ∈ nv_gt ∧ y.1.name = "<init>" ∧ y.2.2.2 = none
theorem nv_gc {y : nv_MI} {na : Nat} (hy : nv_Y y na) : GoodIn nv_gt (.code y.1 y.2.1 y.2.2.1 y.2.2.2 :: nv_gt) := fun w hw => by
  rcases List.mem_cons.mp hw with rfl | hw
  · exact nv_gt_good _ hy.1
  · exact nv_gt_good _ hw
theorem nv_revmap {ad : Nat → Nat} {As : List Value} {st : List Value} : (As.reverse ++ st).map (nv_cV ad) = (As.map (nv_cV ad)).reverse ++ st.map (nv_cV ad) := by
  rw [List.map_append, List.map_reverse]
theorem nv_optmap {ad : Nat → Nat} {o : Option Value} {st : List Value} : (o.toList ++ st).map (nv_cV ad) = (o.map (nv_cV ad)).toList ++ st.map (nv_cV ad) := by
  cases o <;> simp
/-- a call that makes no cell: static -/
theorem nv_callS {ix d' na : Nat} {y : nv_MI} {As : List Value} {σ : nv_Sg} {r' : nv_R} (hM : nv_Mt G d' y As σ r') (hi : nv_dc M pc (.invokestatic ix) 3 nx) (hl' : Cond.methodLink M.1.cls ix y.1 ∈ nv_gt) (hy : nv_Ys y na) (hn : As.length = na) (hd : d' + 1 ≤ d) (hsz : nv_n r' = σ.2.2) (hst : (st.map fun v => v.category).sum ≤ 8)
    (K : nv_E G d M nx ls (r'.1.toList ++ st) r'.2 r) : nv_E G d M pc ls (As.reverse ++ st) σ r := by
  obtain ⟨hi, rfl⟩ := hi
  intro p e R s m args below meth c n0 ad0 A Q hC hX ad H locs lsC hV hl
  have hT := hC.2.2.2.2.1
  obtain ⟨hF, hP⟩ := nv_pre (r' := r') (av := As) hC hV
  have hR := hC.2.2.2.2.2.2.2.2.2
  obtain ⟨-, -, hM⟩ := hM
  have hM := hM ad H.size hV.2.2.1
  have hsz' : σ.2.2 = r'.2.2.2 := hsz.symm
  have hRR : d' + 1 ≤ R.frames ∧ 8 + (y.2.2.1 + 11) + 40 * d' ≤ R.locals := ⟨by omega, by have := hy.1.2.2.2; omega⟩
  have hrun := va_runS (e := e) (below := below) (meth := meth) (rest := st.map (nv_cV ad)) (As := As.map (nv_cV ad)) (g := F0 m pc lsC ((As.reverse ++ st).map (nv_cV ad))) (H := H) (locs := locs) (cells := σ.2.2 - n0) (slots := nv_sl σ.2.2 - nv_sl n0) ⟨hC.1, hC.2.1, hC.2.2.1, hC.2.2.2.1, hT⟩ hM
    (va_cwS (Ts := nv_gt) na hT (fun w hw => by
      unfold va_wsS at hw
      rcases List.mem_append.mp hw with hw | hw
      · simp only [List.mem_cons, List.not_mem_nil, or_false] at hw
        rcases hw with rfl | rfl | rfl
        · exact nv_gt_good _ hl'
        · exact nv_gt_good _ hy.2
        · exact nv_gt_good _ hy.1.2.1
      · exact nv_gc hy.1 w hw) rfl rfl rfl hy.1.2.2.1 hRR)
    ⟨nv_P_blind, fun U hU hW => hP U hU hW⟩ rfl (by rw [List.length_map]; exact hn) hl.1 nv_revmap (lv_room (nv_cat8 hst)) hi
    ⟨by rw [hsz, Nat.sub_self]; have := hV.1; omega, by rw [hsz, Nat.sub_self]; have := nv_sl_mono hV.1.2.1; omega⟩
  refine nv_go hrun hV.2.2.2.2.2 (fun q _ h => hF q h) hF (fun ad' H1 locs1 h1 h2 h3 h4 => ?_)
  have hae : ad' = ad := funext fun k => h1 k (by rw [hsz]; omega)
  subst hae
  rw [hsz, Nat.sub_self, Nat.sub_self, Nat.add_zero, Nat.add_zero, ← nv_optmap]
  have K' := K p e R s m args below meth c n0 ad0 A Q hC hX ad' H1 locs1 lsC ⟨by rw [← hsz']; exact hV.1, hV.2.1, hV.2.2.1, h2, h3.weaken (fun _ q _ h => hF q.1 h), h4⟩ hl
  rw [← hsz'] at K'
  exact K'
/-- a call that makes no cell: of an object's method -/
theorem nv_callV {ix d' na k ci : Nat} {fl : List (Option Nat)} {T : u_T} {N : Nat} {y : nv_MI} {As : List Value} {σ : nv_Sg} {r' : nv_R} (hM : nv_Mt G d' y (.ref k :: As) σ r') (hi : nv_dc M pc (.invokevirtual ix) 3 nx) (hl' : Cond.methodLink M.1.cls ix y.1 ∈ nv_gt) (hy : nv_Yv y na) (hk : k < σ.2.2 ∧ nv_shp k = .inr (ci, fl)) (hc : nv_cls[ci]? = some (y.1.cls, T, N)) (hn : As.length = na) (hd : d' + 1 ≤ d) (hsz : nv_n r' = σ.2.2) (hst : (st.map fun v => v.category).sum ≤ 8)
    (K : nv_E G d M nx ls (r'.1.toList ++ st) r'.2 r) : nv_E G d M pc ls (As.reverse ++ .ref k :: st) σ r := by
  obtain ⟨hi, rfl⟩ := hi
  intro p e R s m args below meth c n0 ad0 A Q hC hX ad H locs lsC hV hl
  have hT := hC.2.2.2.2.1
  obtain ⟨hF, hP⟩ := nv_pre (r' := r') (av := .ref k :: As) hC hV
  have hR := hC.2.2.2.2.2.2.2.2.2
  obtain ⟨-, -, hM⟩ := hM
  have hM := hM ad H.size hV.2.2.1
  have hsz' : σ.2.2 = r'.2.2.2 := hsz.symm
  have hRR : d' + 1 ≤ R.frames ∧ 8 + (y.2.2.1 + 11) + 40 * d' ≤ R.locals := ⟨by omega, by have := hy.1.2.2.2; omega⟩
  obtain ⟨h, z, n⟩ := σ
  have hV1 : n0 ≤ n ∧ n ≤ nv_n r ∧ nv_n r ≤ 1000 := hV.1
  have hsl : nv_sl n ≤ nv_sl (nv_n r) := nv_sl_mono hV1.2.1
  have hsq : nv_n r' = n := hsz
  have hrun := va_runV (e := e) (below := below) (meth := meth) (C := y.1.cls) (b := ad k) (rest := st.map (nv_cV ad)) (As := As.map (nv_cV ad)) (g := F0 m pc lsC ((As.reverse ++ .ref k :: st).map (nv_cV ad))) (H := H) (locs := locs) (cells := n - n0) (slots := nv_sl n - nv_sl n0) ⟨hC.1, hC.2.1, hC.2.2.1, hC.2.2.2.1, hT⟩ hM
    (cwV (Ts := nv_gt) na hT (fun w hw => by
      unfold wsV at hw
      rcases List.mem_append.mp hw with hw | hw
      · simp only [List.mem_cons, List.not_mem_nil, or_false] at hw
        rcases hw with rfl | rfl | rfl | rfl
        · exact nv_gt_good _ hl'
        · exact nv_gt_good _ hy.2.1
        · exact nv_gt_good _ hy.2.2
        · exact nv_gt_good _ hy.1.2.1
      · exact nv_gc hy.1 w hw) rfl rfl rfl ⟨rfl, hy.1.2.2.1⟩ hRR)
    ⟨nv_P_blind, va_recv hC.2.2.2.2.2.1 hV.2.2.2.1 hc (hV.wg hk.1 hk.2), fun U hU hW => hP U hU hW⟩ rfl (by rw [List.length_map]; exact hn) hl.1 nv_revmap (lv_room (nv_cat8 hst)) hi
    ⟨by show n - n0 + (nv_n r' - n) ≤ _; omega, by show nv_sl n - nv_sl n0 + (nv_sl (nv_n r') - nv_sl n) ≤ _; rw [hsq]; omega⟩
  refine nv_go hrun hV.2.2.2.2.2 (fun q _ h => hF q h) hF (fun ad' H1 locs1 h1 h2 h3 h4 => ?_)
  have hae : ad' = ad := funext fun k => h1 k (by rw [hsz]; omega)
  subst hae
  rw [hsz, Nat.sub_self, Nat.sub_self, Nat.add_zero, Nat.add_zero, ← nv_optmap]
  have K' := K p e R s m args below meth c n0 ad0 A Q hC hX ad' H1 locs1 lsC ⟨by rw [← hsz']; exact hV.1, hV.2.1, hV.2.2.1, h2, h3.weaken (fun _ q _ h => hF q.1 h), h4⟩ hl
  rw [← hsz'] at K'
  exact K'
/-- the locals at a method's entry -/
def nv_la : Nat → List Value → List (Option Value)
  | n, [] => List.replicate n none
  | n, .long x :: t => some (.long x) :: none :: nv_la (n - 2) t
  | n, .double x :: t => some (.double x) :: none :: nv_la (n - 2) t
  | n, .int x :: t => some (.int x) :: nv_la (n - 1) t
  | n, .float x :: t => some (.float x) :: nv_la (n - 1) t
  | n, .null :: t => some .null :: nv_la (n - 1) t
  | n, .ref x :: t => some (.ref x) :: nv_la (n - 1) t
  | n, .retAddr x :: t => some (.retAddr x) :: nv_la (n - 1) t
theorem nv_la_mem (ad : Nat → Nat) : ∀ (vs : List Value) (n i : Nat) (q : Nat × Value), q ∈ nv_ll ad i (nv_la n vs) → q ∈ lv_args i (vs.map (nv_cV ad))
  | [], n, i, q, h => by
    obtain ⟨j, v, -, h2⟩ := (nv_ll_mem ad _ i q).mp h
    simp only [nv_la] at h2
    rw [List.getElem?_replicate] at h2
    split at h2 <;> cases h2
  | v :: t, n, i, q, h => by
    cases v <;>
      (simp only [nv_la, nv_ll] at h
       rcases List.mem_cons.mp h with h | h
       · exact List.mem_cons.mpr (Or.inl h)
       · exact List.mem_cons.mpr (Or.inr (nv_la_mem ad t _ _ q h)))
/-- a method's contract out of its frame's -/
theorem nv_of {G : nv_G} {d : Nat} {M : nv_MI} {av : List Value} {σ : nv_Sg} {r : nv_R} (hy : plainName M.1.cls = true) (hn : ∀ ad : Nat → Nat, (lg_sl (av.map (nv_cV ad))).length ≤ M.2.2.1) (h1 : σ.2.2 ≤ nv_n r) (h2 : nv_n r ≤ 1000) (K : nv_E G d M 0 (nv_la M.2.2.1 av) [] σ r) : nv_Mt G d M av σ r := by
  refine ⟨h1, h2, fun ad sz had => ?_⟩
  refine Met.ofW (cc := M.2.1) (maxL := M.2.2.1) (ret := M.2.2.2) hy rfl ?_
  intro p e s m args below meth c s₁ B hml hv
  obtain ⟨rfl, hsz, hP, hK, hD0, hSt⟩ := hv
  have hts : ∀ w ∈ nv_gt, w.before _ s = true := fun w hw => atoms_spec (ws := .code M.1 M.2.1 M.2.2.1 M.2.2.2 :: nv_gt) B.pre w (List.mem_cons_of_mem _ hw)
  have hown : s.vm.findClass M.1.cls = some m.cls := findClass_of_methodNamed B.named
  have hnm : meth.name = M.1.name := (name_of_methodNamed B.named B.method).1
  subst hsz
  have hD := hD0.self (sz := s.heap.size)
  have hl := lv_entry (av.map (nv_cV ad)) (n := M.2.2.1) (hn ad)
  rw [lg_entry_eq]
  have hl2 : lv_has ((lg_sl (av.map (nv_cV ad)) ++ List.replicate (M.2.2.1 - (lg_sl (av.map (nv_cV ad))).length) Slot.unset).toArray) M.2.2.1 (nv_ll ad 0 (nv_la M.2.2.1 av)) := ⟨hl.1, hl.2.1, fun q hq => hl.2.2 q (nv_la_mem ad av _ 0 q hq)⟩
  have hlocks := B.notSynchronized
  have hC : nv_C G d M r p { frames := d, cells := nv_n r - σ.2.2, slots := nv_sl (nv_n r) - nv_sl σ.2.2, locals := 40 * d } s m (av.map (nv_cV ad)).toArray meth c σ.2.2 (va_A (nv_w ad G.2.2.1 σ) s.heap.size) :=
    ⟨B.exec, B.bytes, hml, hown, hts, hK, fun q h => Or.inr h, hSt, fun e => hnm.trans e, Nat.le_refl _, Nat.le_refl _, Nat.le_refl _, Nat.le_refl _⟩
  have hX : nv_X G M r p e { frames := d, cells := nv_n r - σ.2.2, slots := nv_sl (nv_n r) - nv_sl σ.2.2, locals := 40 * d } s m (av.map (nv_cV ad)).toArray below meth c σ.2.2 ad (va_A (nv_w ad G.2.2.1 σ) s.heap.size) (MQ below (nv_Q G σ.2.2 ad (va_A (nv_w ad G.2.2.1 σ) s.heap.size) r) (av.map (nv_cV ad)).toArray s (nv_n r - σ.2.2) (nv_sl (nv_n r) - nv_sl σ.2.2) (va_A (nv_w ad G.2.2.1 σ) s.heap.size)) := by
    intro ad' H locs lsC pc hV hrt
    have hq : ∀ t : State, t.heap = H → s.WarmedH t.vm → nv_Q G σ.2.2 ad (va_A (nv_w ad G.2.2.1 σ) s.heap.size) r (av.map (nv_cV ad)).toArray s (.returned (r.1.map (nv_cV ad'))) t := fun t ht hW => ⟨⟨ad', hV.2.1, rfl, by rw [ht]; exact hV.2.2.2.1, hV.2.2.2.2.1⟩, hV.2.2.2.2.2.F ht⟩
    obtain ⟨v, σ'⟩ := r
    rcases v with _ | v
    · exact W.vret B.exec B.bytes (B.returns.trans hrt.2) hq hV.2.2.2.2.2.2.2 hrt.1
    · cases v with
      | int x =>
        obtain ⟨g1, ty, g2, g3⟩ := hrt
        exact W.zret B.exec B.bytes (B.returns.trans g2) g3 hq hV.2.2.2.2.2.2.2 g1
      | long x => exact W.lret B.exec B.bytes (B.returns.trans hrt.2) hq hV.2.2.2.2.2.2.2 hrt.1
      | _ => exact hrt.elim
  have K' := K p e _ s m _ below meth c σ.2.2 ad _ _ hC hX ad s.heap [] _ ⟨⟨Nat.le_refl _, h1, h2⟩, fun _ _ => rfl, had, hP, hD, va_S.rf⟩ hl2
  rw [Nat.sub_self, Nat.sub_self] at K'
  exact K'
end
