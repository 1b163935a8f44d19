/-! ===== heaps as lists, for the constructors ===== -/
def nv_hl (l : List (Nat × Nat × Int32)) : nv_Hp := fun a b => match l.find? (fun q => q.1 == a && q.2.1 == b) with
  | some q => q.2.2
  | none => 0
def nv_zl (l : List (Nat × Nat)) : nv_Zp := fun a b => l.any (fun q => q.1 == a && q.2 == b)
theorem nv_hl_up (l : List (Nat × Nat × Int32)) (k j : Nat) (v : Int32) : nv_up (nv_hl l) k j v = nv_hl ((k, j, v) :: l) := by
  funext a b
  unfold nv_up nv_hl
  rw [List.find?_cons]
  by_cases h : a = k ∧ b = j
  · rw [if_pos h, h.1, h.2]; simp
  · rw [if_neg h]
    have : ((k, j, v).1 == a && (k, j, v).2.1 == b) = false := by
      simp only [Bool.and_eq_false_iff, beq_eq_false_iff_ne]
      by_cases h1 : k = a
      · right; exact fun h2 => h ⟨h1.symm, h2.symm⟩
      · left; exact h1
    rw [this]
theorem nv_zl_uz (l : List (Nat × Nat)) (k j : Nat) : nv_uz (nv_zl l) k j = nv_zl ((k, j) :: l) := by
  funext a b
  unfold nv_uz nv_zl
  rw [List.any_cons]
  by_cases h : a = k ∧ b = j
  · rw [if_pos h, h.1, h.2]; simp
  · rw [if_neg h]
    have : ((k, j).1 == a && (k, j).2 == b) = false := by
      simp only [Bool.and_eq_false_iff, beq_eq_false_iff_ne]
      by_cases h1 : k = a
      · right; exact fun h2 => h ⟨h1.symm, h2.symm⟩
      · left; exact h1
    rw [this, Bool.false_or]
theorem nv_hl_zh {l : List (Nat × Nat × Int32)} {n : Nat} (h : l.all (fun q => q.1 != n) = true) : nv_zh (nv_hl l) n = nv_hl l := by
  funext a b
  unfold nv_zh nv_hl
  by_cases ha : a = n
  · subst ha
    rw [if_pos rfl]
    have : l.find? (fun q => q.1 == a && q.2.1 == b) = none := by
      rw [List.find?_eq_none]
      intro q hq
      have := List.all_eq_true.mp h q hq
      simp_all
    rw [this]
  · rw [if_neg ha]
theorem nv_zl_zz {l : List (Nat × Nat)} {n : Nat} (h : l.all (fun q => q.1 != n) = true) : nv_zz (nv_zl l) n = nv_zl l := by
  funext a b
  unfold nv_zz nv_zl
  by_cases ha : a = n
  · subst ha
    rw [if_pos rfl]
    symm
    rw [List.any_eq_false]
    intro q hq
    have := List.all_eq_true.mp h q hq
    simp_all
  · rw [if_neg ha]
theorem nv_zl_wz {l : List (Nat × Nat)} {n : Nat} (h : l.all (fun q => decide (nv_tg q.1 q.2 < n)) = true) : nv_wz (nv_zl l) n := by
  intro k j hz
  unfold nv_zl at hz
  obtain ⟨q, hq, he⟩ := List.any_eq_true.mp hz
  simp only [Bool.and_eq_true, beq_iff_eq] at he
  have := List.all_eq_true.mp h q hq
  rw [← he.1, ← he.2]
  simpa using this
def nv_vb (n n' : Nat) : Value → Bool
  | .ref k => decide (k < n ∨ n' ≤ k)
  | _ => true
theorem nv_vb_vo {n n' : Nat} {v : Value} (h : nv_vb n n' v = true) : nv_vo n n' v := by
  intro k e
  subst e
  simpa [nv_vb] using h
theorem nv_lo_of {n n' : Nat} {ls : List (Option Value)} {st : List Value} (h : (ls.all (fun o => match o with | some v => nv_vb n n' v | none => true) && st.all (nv_vb n n')) = true) : nv_lo n n' ls st := by
  simp only [Bool.and_eq_true] at h
  exact ⟨fun v hv => nv_vb_vo (List.all_eq_true.mp h.1 (some v) hv), fun v hv => nv_vb_vo (List.all_eq_true.mp h.2 v hv)⟩
section
variable {G : nv_G} {d : Nat} {M : nv_MI} {pc nx tgt : Nat} {ls : List (Option Value)} {st : List Value} {n : Nat} {r : nv_R} {l : List (Nat × Nat × Int32)} {zl : List (Nat × Nat)} {σ : nv_Sg}
/-- what must be so of the lists where a cell is made -/
def nv_fr (l : List (Nat × Nat × Int32)) (zl : List (Nat × Nat)) (n : Nat) : Bool := l.all (fun q => q.1 != n) && (zl.all (fun q => q.1 != n) && zl.all (fun q => decide (nv_tg q.1 q.2 < n)))
theorem nv_LnewO {ix ci : Nat} {fl : List (Option Nat)} (hi : nv_dc M pc (.new ix) 3 nx) (hL : nv_Cl M.1.cls ix ci fl) (hs : nv_shp n = .inr (ci, fl)) (hf : nv_fr l zl n = true) (hn : n + 1 ≤ nv_n r) (ho : (ls.all (fun o => match o with | some v => nv_vb n (n + 1) v | none => true) && st.all (nv_vb n (n + 1))) = true) (K : nv_E G d M nx ls (.ref n :: st) (nv_hl l, nv_zl zl, n + 1) r) : nv_E G d M pc ls st (nv_hl l, nv_zl zl, n) r := by
  unfold nv_fr at hf
  simp only [Bool.and_eq_true] at hf
  refine nv_newO hi hL hs (nv_zl_wz hf.2.2) hn (nv_lo_of ho) ?_
  rw [nv_hl_zh hf.1, nv_zl_zz hf.2.1]
  exact K
theorem nv_LnewA {len : Nat} {x : Int32} (hi : nv_dc M pc (.newarray .int) 2 nx) (hg : Cond.arrayClass .int ∈ nv_gt) (hs : nv_shp n = .inl (len, none)) (hx : ¬ x < 0) (hx2 : x.toNatClampNeg = len) (hx3 : len ≤ 1000) (hf : nv_fr l zl n = true) (hn : n + 1 ≤ nv_n r) (ho : (ls.all (fun o => match o with | some v => nv_vb n (n + 1) v | none => true) && st.all (nv_vb n (n + 1))) = true) (K : nv_E G d M nx ls (.ref n :: st) (nv_hl l, nv_zl zl, n + 1) r) : nv_E G d M pc ls (.int x :: st) (nv_hl l, nv_zl zl, n) r := by
  unfold nv_fr at hf
  simp only [Bool.and_eq_true] at hf
  refine nv_newA hi hg hs hx hx2 hx3 (nv_zl_wz hf.2.2) hn (nv_lo_of ho) ?_
  rw [nv_hl_zh hf.1, nv_zl_zz hf.2.1]
  exact K
theorem nv_LnewR {ix len t b w : Nat} {x : Int32} {C : String} (hi : nv_dc M pc (.anewarray ix) 3 nx) (hg : Cond.classLink M.1.cls ix C ∈ nv_gt) (hC' : C ∈ nv_aon) (ht : ∀ cA : Nat → ClassId, (nv_tys cA)[t]? = some (cA t, .object C)) (hs : nv_shp n = .inl (len, some (t, b, w))) (hx : ¬ x < 0) (hx2 : x.toNatClampNeg = len) (hx3 : len ≤ 1000) (hf : nv_fr l zl n = true) (hn : n + 1 ≤ nv_n r) (ho : (ls.all (fun o => match o with | some v => nv_vb n (n + 1) v | none => true) && st.all (nv_vb n (n + 1))) = true) (K : nv_E G d M nx ls (.ref n :: st) (nv_hl l, nv_zl zl, n + 1) r) : nv_E G d M pc ls (.int x :: st) (nv_hl l, nv_zl zl, n) r := by
  unfold nv_fr at hf
  simp only [Bool.and_eq_true] at hf
  refine nv_newR hi hg hC' ht hs hx hx2 hx3 (nv_zl_wz hf.2.2) hn (nv_lo_of ho) ?_
  rw [nv_hl_zh hf.1, nv_zl_zz hf.2.1]
  exact K
theorem nv_LputF {ix ci j k t : Nat} {fl : List (Option Nat)} {ty : FieldType} (hF : nv_Ff M.1.cls ix ci j ty) (hi : nv_dc M pc (.putfield ix) 3 nx) (hk : k < n ∧ nv_shp k = .inr (ci, fl)) (hj : fl[j]? = some (some t)) (hin : M.1.name = "<init>") (hn : ∀ a : Nat, narrow ty (.ref a) = .ref a) (hfit : ∀ a : Nat, fits ty (.ref a) = true) (K : nv_E G d M nx ls st (nv_hl l, nv_zl ((k, j) :: zl), n) r) : nv_E G d M pc ls (.ref t :: .ref k :: st) (nv_hl l, nv_zl zl, n) r := by
  refine nv_putF hF hi hk hj hin hn hfit ?_
  rw [nv_zl_uz]
  exact K
theorem nv_LputI {ix ci j k : Nat} {fl : List (Option Nat)} {ty : FieldType} {x : Int32} (hF : nv_Fp M.1.cls ix ci j ty) (hi : nv_dc M pc (.putfield ix) 3 nx) (hk : k < n ∧ nv_shp k = .inr (ci, fl)) (hj : fl[j]? = some none) (hn : narrow ty (.int x) = .int x) (hfit : fits ty (.int x) = true) (K : nv_E G d M nx ls st (nv_hl ((k, j, x) :: l), nv_zl zl, n) r) : nv_E G d M pc ls (.int x :: .ref k :: st) (nv_hl l, nv_zl zl, n) r := by
  refine nv_putI hF hi hk hj hn hfit ?_
  rw [nv_hl_up]
  exact K
theorem nv_Liast {i x : Int32} {k len j : Nat} (hi : nv_dc M pc .iastore 1 nx) (hk : k < n ∧ nv_shp k = .inl (len, none)) (hin : nv_inb i len = true) (hj : i.toNatClampNeg = j) (K : nv_E G d M nx ls st (nv_hl ((k, j, x) :: l), nv_zl zl, n) r) : nv_E G d M pc ls (.int x :: .int i :: .ref k :: st) (nv_hl l, nv_zl zl, n) r := by
  subst hj
  refine nv_iast hi hk hin ?_
  rw [nv_hl_up]
  exact K
theorem nv_LastR {i : Int32} {k len t b w v ci j : Nat} {fl : List (Option Nat)} {C : String} {T : u_T} {N : Nat} (hi : nv_dc M pc .aastore 1 nx) (hk : k < n ∧ nv_shp k = .inl (len, some (t, b, w))) (ht : ∀ cA : Nat → ClassId, (nv_tys cA)[t]? = some (cA t, .object C)) (hin : nv_inb i len = true) (hj : i.toNatClampNeg = j) (hv : v = b + w * j) (hvn : v < n ∧ nv_shp v = .inr (ci, fl)) (hc : nv_cls[ci]? = some (C, T, N)) (K : nv_E G d M nx ls st (nv_hl l, nv_zl ((k, j) :: zl), n) r) : nv_E G d M pc ls (.ref v :: .int i :: .ref k :: st) (nv_hl l, nv_zl zl, n) r := by
  subst hj
  refine nv_astR hi hk ht hin hv hvn hc ?_
  rw [nv_zl_uz]
  exact K
theorem nv_LcpS {ix i k1 n1 : Nat} {nm ds : String} (hi : nv_dc M pc (.invokestatic ix) 3 nx) (hL : nv_Lc M.1.cls ix) (hd : 1 ≤ d) (hs : nv_stat i = some (.int, nm, ds, [1, 1, 10, 0, 10, 1, 0, 1, 1])) (hk1 : k1 < n ∧ nv_shp k1 = .inl (n1, none)) (h5 : 9 ≤ n1) (hst : (st.map fun v => v.category).sum ≤ 8)
    (K : nv_E G d M nx ls st (nv_hl ((k1, 0, 1) :: (k1, 1, 1) :: (k1, 2, 10) :: (k1, 3, 0) :: (k1, 4, 10) :: (k1, 5, 1) :: (k1, 6, 0) :: (k1, 7, 1) :: (k1, 8, 1) :: l), nv_zl zl, n) r) : nv_E G d M pc ls (.int 9 :: .int 0 :: .ref k1 :: .int 0 :: .ref (1000 + i) :: st) (nv_hl l, nv_zl zl, n) r := by
  have e9 : (Int32.toNatClampNeg 0) + (Int32.toNatClampNeg 9) = 9 := by decide
  refine nv_copyS (sp := 0) (dp := 0) (len := 9) hi hL hd hs hk1 (by decide) (by decide) (by decide) (by decide) (by rw [e9]; exact h5) hst ?_
  have e : nv_cp (fun j => List.getD [1, 1, 10, 0, 10, 1, 0, 1, 1] j 0) (nv_hl l) k1 (Int32.toNatClampNeg 0) (Int32.toNatClampNeg 0) (Int32.toNatClampNeg 9) = nv_hl ((k1, 0, 1) :: (k1, 1, 1) :: (k1, 2, 10) :: (k1, 3, 0) :: (k1, 4, 10) :: (k1, 5, 1) :: (k1, 6, 0) :: (k1, 7, 1) :: (k1, 8, 1) :: l) := by
    funext a b
    rw [show Int32.toNatClampNeg 0 = 0 from by decide, show Int32.toNatClampNeg 9 = 9 from by decide]
    rw [← nv_hl_up, ← nv_hl_up, ← nv_hl_up, ← nv_hl_up, ← nv_hl_up, ← nv_hl_up, ← nv_hl_up, ← nv_hl_up, ← nv_hl_up]
    unfold nv_cp va_cpy nv_up
    by_cases ha : a = k1
    · subst ha
      rcases (show b = 0 ∨ b = 1 ∨ b = 2 ∨ b = 3 ∨ b = 4 ∨ b = 5 ∨ b = 6 ∨ b = 7 ∨ b = 8 ∨ 9 ≤ b by omega) with rfl | rfl | rfl | rfl | rfl | rfl | rfl | rfl | rfl | hb
      all_goals first | (simp; done) | skip
      have h0 : ¬ (0 ≤ b ∧ b < 0 + 9) := by omega
      rw [if_pos rfl, if_neg h0]
      rw [if_neg (by omega), if_neg (by omega), if_neg (by omega), if_neg (by omega), if_neg (by omega), if_neg (by omega), if_neg (by omega), if_neg (by omega), if_neg (by omega)]
    · simp [ha]
  rw [e]
  exact K
theorem nv_icge1 {x y : Int32} (hi : nv_dic M pc .ge tgt nx) (hc : y ≤ x) (K : nv_E G d M tgt ls st σ r) : nv_E G d M pc ls (.int y :: .int x :: st) σ r := nv_icge hi (fun _ => K) (fun c => absurd hc c)
theorem nv_icge0 {x y : Int32} (hi : nv_dic M pc .ge tgt nx) (hc : ¬ y ≤ x) (K : nv_E G d M nx ls st σ r) : nv_E G d M pc ls (.int y :: .int x :: st) σ r := nv_icge hi (fun c => absurd c hc) (fun _ => K)
theorem nv_ifne0 {x : Int32} (hi : nv_dif M pc .ne tgt nx) (hc : x = 0) (K : nv_E G d M nx ls st σ r) : nv_E G d M pc ls (.int x :: st) σ r := nv_ifne hi (fun _ => K) (fun c => absurd hc c)
theorem nv_iceq1 {x y : Int32} (hi : nv_dic M pc .eq tgt nx) (hc : x = y) (K : nv_E G d M tgt ls st σ r) : nv_E G d M pc ls (.int y :: .int x :: st) σ r := nv_iceq hi (fun _ => K) (fun c => absurd hc c)
theorem nv_incL {i : Nat} {m : Int} {x v : Int32} (hi : nv_dc M pc (.iinc i m) 3 nx) (hv : ls[i]? = some (some (.int x))) (he : x + Int32.ofInt m = v) (hn : i < M.2.2.1) (hnl : nv_nl ls i = true) {ls' : List (Option Value)} (hl : ls.set i (some (.int v)) = ls') (K : nv_E G d M nx ls' st σ r) : nv_E G d M pc ls st σ r := by
  subst hl
  exact nv_iinc hi hv he hn hnl K
theorem nv_LgetI {ix ci j k : Nat} {fl : List (Option Nat)} {v : Int32} {h : nv_Hp} {z : nv_Zp} (hF : nv_Fl M.1.cls ix ci j) (hi : nv_dc M pc (.getfield ix) 3 nx) (hk : k < n ∧ nv_shp k = .inr (ci, fl)) (hj : fl[j]? = some none) (hv : h k j = v) (K : nv_E G d M nx ls (.int v :: st) (h, z, n) r) : nv_E G d M pc ls (.ref k :: st) (h, z, n) r := by
  subst hv
  exact nv_getI hF hi hk hj K
/-- a call of an object's method that makes no cell, over any heap -/
theorem nv_LcV {ix d' na k ci : Nat} {fl : List (Option Nat)} {T : u_T} {N : Nat} {y : nv_MI} {As : List Value} {r' : nv_R} (hM : nv_Mt G d' y (.ref k :: As) σ r') (hi : nv_dc M pc (.invokevirtual ix) 3 nx) (hl' : Cond.methodLink M.1.cls ix y.1 ∈ nv_gt) (hy : nv_Yv y na) (hk : k < σ.2.2 ∧ nv_shp k = .inr (ci, fl)) (hc : nv_cls[ci]? = some (y.1.cls, T, N)) (hn : As.length = na) (hd : d' + 1 ≤ d) (hsz : nv_n r' = σ.2.2) {stk : List Value} (hs : As.reverse ++ .ref k :: st = stk) (hst : (st.map fun v => v.category).sum ≤ 8)
    (K : nv_E G d M nx ls (r'.1.toList ++ st) r'.2 r) : nv_E G d M pc ls stk σ r := by
  subst hs
  exact nv_callV hM hi hl' hy hk hc hn hd hsz hst K
/-- other marks of references that are set, where there are any -/
def nv_rs : nv_Sh → Nat → Bool
  | .inl (_, none), _ => false
  | .inl (_, some _), _ => true
  | .inr (_, fl), j => (fl.getD j none).isSome
theorem nv_zconv {h : nv_Hp} {z z' : nv_Zp} (hz : ∀ k, k < n → ∀ j, j < nv_sz1 (nv_shp k) → nv_rs (nv_shp k) j = true → z k j = z' k j) (K : nv_E G d M pc ls st (h, z', n) r) : nv_E G d M pc ls st (h, z, n) r := by
  intro p e R s m args below meth c n0 ad0 A Q hC hX ad H locs lsC hV hl
  refine K p e R s m args below meth c n0 ad0 A Q hC hX ad H locs lsC ⟨hV.1, hV.2.1, hV.2.2.1, ?_, ?_, hV.2.2.2.2.2⟩ hl
  · intro k q hq
    have hk : k < n := by
      have := (List.getElem?_eq_some_iff.mp hq).1
      rwa [nv_w_len] at this
    rw [nv_w_get (σ := (h, z', n)) hk] at hq
    cases hq
    have h1 := hV.2.2.2.1 k _ (nv_w_get (σ := (h, z, n)) hk)
    have h2 := hz k hk
    show va_at G.2.1 nv_cls (ad k, nv_ce ad G.2.2.1 h z' k (nv_shp k)) H
    have h1' : va_at G.2.1 nv_cls (ad k, nv_ce ad G.2.2.1 h z k (nv_shp k)) H := h1
    generalize nv_shp k = e at h1' h2
    rcases e with ⟨m, _ | ⟨t, b, w⟩⟩ | ⟨ci, fl⟩
    · exact h1'
    · have e1 : vp_cell (G.2.2.1 t) (m, .inr (.inr (.inr (.inr (fun i => if z k i = true then some (ad (b + w * i)) else none))))) = vp_cell (G.2.2.1 t) (m, .inr (.inr (.inr (.inr (fun i => if z' k i = true then some (ad (b + w * i)) else none))))) := by
        rw [vp_cell_q, vp_cell_q]
        unfold arrV
        congr 2
        funext j
        simp only [h2 j.val j.isLt rfl]
      show H[ad k]? = some (vp_cell _ _)
      rw [← e1]
      exact h1'
    · have e1 : nv_fv ad h z k 0 fl = nv_fv ad h z' k 0 fl := by
        apply List.ext_getElem?
        intro i
        rw [nv_fv_get, nv_fv_get, Nat.zero_add]
        cases hf : fl[i]? with
        | none => rfl
        | some o =>
          have hi : i < fl.length := (List.getElem?_eq_some_iff.mp hf).1
          cases o with
          | none => rfl
          | some x => simp only [Option.map_some]; rw [h2 i hi (by show ((fl.getD i none).isSome) = true; rw [List.getD_eq_getElem?_getD, hf]; rfl)]
      simp only [nv_ce] at h1' ⊢
      rw [← e1]
      exact h1'
  · have hlen : ∀ {z : nv_Zp}, (nv_w ad G.2.2.1 (h, z, n)).length = n := fun {z} => nv_w_len (σ := (h, z, n))
    have key : ∀ (k : Nat) (q : Nat × va_E), (nv_w ad G.2.2.1 (h, z', n))[k]? = some q → ∃ q0, (nv_w ad G.2.2.1 (h, z, n))[k]? = some q0 ∧ q0.1 = q.1 := by
      intro k q hq
      have hk : k < n := by
        have := (List.getElem?_eq_some_iff.mp hq).1
        rwa [nv_w_len] at this
      rw [nv_w_get (σ := (h, z', n)) hk] at hq
      cases hq
      exact ⟨_, nv_w_get (σ := (h, z, n)) hk, rfl⟩
    refine ⟨fun i j x y hi hj hxy => ?_, fun k q hk => ?_⟩
    · obtain ⟨x0, a1, a2⟩ := key i x hi
      obtain ⟨y0, b1, b2⟩ := key j y hj
      exact hV.2.2.2.2.1.1 i j x0 y0 a1 b1 (a2.trans (hxy.trans b2.symm))
    · obtain ⟨q0, a1, a2⟩ := key k q hk
      rw [← a2]
      exact hV.2.2.2.2.1.2 k q0 a1
end
