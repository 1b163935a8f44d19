/-! ===== cells that are made ===== -/
def nv_zh (h : nv_Hp) (n : Nat) : nv_Hp := fun a b => if a = n then 0 else h a b
def nv_zz (z : nv_Zp) (n : Nat) : nv_Zp := fun a b => if a = n then false else z a b
/-- the place that a reference slot names -/
def nv_tg (k j : Nat) : Nat := match nv_shp k with
  | .inl (_, some (_, b, w)) => b + w * j
  | .inl (_, none) => 0
  | .inr (_, fl) => match fl[j]? with
    | some (some r) => r
    | _ => 0
/-- references that are set name cells that are made -/
def nv_wz (z : nv_Zp) (n : Nat) : Prop := ∀ k j, z k j = true → nv_tg k j < n
theorem nv_wz_new {z : nv_Zp} {n : Nat} (h : nv_wz z n) : nv_wz (nv_zz z n) (n + 1) := by
  intro k j hz
  unfold nv_zz at hz
  by_cases hk : k = n
  · rw [if_pos hk] at hz; cases hz
  · rw [if_neg hk] at hz
    exact Nat.lt_succ_of_lt (h k j hz)
theorem nv_wz_uz {z : nv_Zp} {n k j : Nat} (h : nv_wz z n) (ht : nv_tg k j < n) : nv_wz (nv_uz z k j) n := by
  intro a b hz
  unfold nv_uz at hz
  by_cases hk : a = k ∧ b = j
  · rw [hk.1, hk.2]; exact ht
  · rw [if_neg hk] at hz
    exact h a b hz
/-- no value names a place from n up to n' -/
def nv_vo (n n' : Nat) (v : Value) : Prop := ∀ k, v = .ref k → k < n ∨ n' ≤ k
theorem nv_vo_i {n n' : Nat} {x : Int32} : nv_vo n n' (.int x) := fun k h => by cases h
theorem nv_vo_r {n n' k : Nat} (h : k < n ∨ n' ≤ k) : nv_vo n n' (.ref k) := fun j e => by cases e; exact h
def nv_lo (n n' : Nat) (ls : List (Option Value)) (st : List Value) : Prop := (∀ v, some v ∈ ls → nv_vo n n' v) ∧ ∀ v ∈ st, nv_vo n n' v
theorem nv_cV_eq {n n' : Nat} {ad ad' : Nat → Nat} {v : Value} (h : ∀ k, (k < n ∨ n' ≤ k) → ad' k = ad k) (hv : nv_vo n n' v) : nv_cV ad' v = nv_cV ad v := by
  cases v with
  | ref k => simp only [nv_cV_ref]; rw [h k (hv k rfl)]
  | _ => rfl
theorem nv_map_eq {n n' : Nat} {ad ad' : Nat → Nat} {st : List Value} (h : ∀ k, (k < n ∨ n' ≤ k) → ad' k = ad k) (hv : ∀ v ∈ st, nv_vo n n' v) : st.map (nv_cV ad') = st.map (nv_cV ad) := List.map_congr_left (fun v hm => nv_cV_eq h (hv v hm))
theorem nv_ll_eq {n n' : Nat} {ad ad' : Nat → Nat} (h : ∀ k, (k < n ∨ n' ≤ k) → ad' k = ad k) : ∀ (ls : List (Option Value)) (i : Nat), (∀ v, some v ∈ ls → nv_vo n n' v) → nv_ll ad' i ls = nv_ll ad i ls
  | [], i, _ => rfl
  | none :: t, i, hv => by simp only [nv_ll]; exact nv_ll_eq h t (i + 1) (fun v hm => hv v (List.mem_cons_of_mem _ hm))
  | some v :: t, i, hv => by simp only [nv_ll]; rw [nv_ll_eq h t (i + 1) (fun v hm => hv v (List.mem_cons_of_mem _ hm)), nv_cV_eq h (hv v List.mem_cons_self)]
theorem nv_ce_ad {ad ad' : Nat → Nat} {cA : Nat → ClassId} {h : nv_Hp} {z : nv_Zp} {n k : Nat} (hw : nv_wz z n) (ha : ∀ j, j < n → ad' j = ad j) : nv_ce ad' cA h z k (nv_shp k) = nv_ce ad cA h z k (nv_shp k) := by
  have key := fun j => hw k j
  unfold nv_tg at key
  generalize nv_shp k = e at key
  rcases e with ⟨m, _ | ⟨t, b, w⟩⟩ | ⟨ci, fl⟩
  · rfl
  · simp only [nv_ce]
    congr 7
    funext i
    by_cases hz : z k i = true
    · rw [if_pos hz, if_pos hz, ha _ (key i hz)]
    · rw [if_neg hz, if_neg hz]
  · simp only [nv_ce]
    congr 2
    apply List.ext_getElem?
    intro i
    rw [nv_fv_get, nv_fv_get, Nat.zero_add]
    have hk := key i
    cases hf : fl[i]? with
    | none => rfl
    | some o =>
      cases o with
      | none => rfl
      | some r =>
        simp only [hf] at hk
        simp only [Option.map_some]
        by_cases hz : z k i = true
        · rw [if_pos hz, if_pos hz, ha r (hk hz)]
        · rw [if_neg hz, if_neg hz]
/-- one cell more -/
theorem nv_w_push {ad : Nat → Nat} {cA : Nat → ClassId} {h : nv_Hp} {z : nv_Zp} {n q : Nat} {e : va_E} (hw : nv_wz z n) (he : e = nv_ce (va_up ad n q) cA (nv_zh h n) (nv_zz z n) n (nv_shp n)) : nv_w ad cA (h, z, n) ++ [(q, e)] = nv_w (va_up ad n q) cA (nv_zh h n, nv_zz z n, n + 1) := by
  apply List.ext_getElem?
  intro i
  by_cases hi : i < n
  · rw [List.getElem?_append_left (by rw [nv_w_len]; exact hi), nv_w_get (σ := (h, z, n)) hi, nv_w_get (σ := (nv_zh h n, nv_zz z n, n + 1)) (Nat.lt_succ_of_lt hi)]
    have h1 : va_up ad n q i = ad i := by simp [va_up, Nat.ne_of_lt hi]
    rw [h1]
    show some (ad i, nv_ce ad cA h z i (nv_shp i)) = some (ad i, nv_ce (va_up ad n q) cA (nv_zh h n) (nv_zz z n) i (nv_shp i))
    have e1 : nv_ce (va_up ad n q) cA (nv_zh h n) (nv_zz z n) i (nv_shp i) = nv_ce (va_up ad n q) cA h z i (nv_shp i) := nv_ce_cong (nv_shp i) (fun j => by simp [nv_zh, Nat.ne_of_lt hi]) (fun j => by simp [nv_zz, Nat.ne_of_lt hi])
    have e2 : nv_ce (va_up ad n q) cA h z i (nv_shp i) = nv_ce ad cA h z i (nv_shp i) := nv_ce_ad hw (fun j hj => by simp [va_up, Nat.ne_of_lt hj])
    rw [e1, e2]
  · by_cases hn : i = n
    · subst hn
      rw [List.getElem?_append_right (by rw [nv_w_len]; exact Nat.le_refl _), nv_w_len, nv_w_get (σ := (nv_zh h i, nv_zz z i, i + 1)) (Nat.lt_succ_self i)]
      simp only [Nat.sub_self, List.getElem?_cons_zero]
      rw [he]
      simp [va_up]
    · rw [List.getElem?_eq_none (by rw [List.length_append, nv_w_len]; simp only [List.length_cons, List.length_nil]; omega), List.getElem?_eq_none (by rw [nv_w_len]; simp only; omega)]
section
variable {G : nv_G} {d : Nat} {M : nv_MI} {pc nx : Nat} {ls : List (Option Value)} {st : List Value} {h : nv_Hp} {z : nv_Zp} {n : Nat} {r : nv_R}
/-- the frame behind a new cell -/
theorem nv_V.new {s : State} {n0 q : Nat} {ad0 ad : Nat → Nat} {A : Nat → Prop} {H H1 : Heap} {locs : List Loc} {e : va_E} (hV : nv_V G r s n0 ad0 A ad (h, z, n) H locs) (hw : nv_wz z n) (hn : n + 1 ≤ nv_n r) (he : e = nv_ce (va_up ad n q) G.2.2.1 (nv_zh h n) (nv_zz z n) n (nv_shp n))
    (hP : va_P G.2.1 nv_cls (nv_w ad G.2.2.1 (h, z, n) ++ [(q, e)]) H1) (hD : va_D A (nv_w ad G.2.2.1 (h, z, n) ++ [(q, e)])) (hS : va_S A s.heap H1 locs) : nv_V G r s n0 ad0 A (va_up ad n q) (nv_zh h n, nv_zz z n, n + 1) H1 locs := by
  rw [nv_w_push hw he] at hP hD
  have h1 : n0 ≤ n ∧ n ≤ nv_n r ∧ nv_n r ≤ 1000 := hV.1
  refine ⟨⟨by show n0 ≤ n + 1; omega, hn, h1.2.2⟩, fun k hk => ?_, fun i => ?_, hP, hD, hS⟩
  · have : k ≠ n := by omega
    simp only [va_up, if_neg this]
    exact hV.2.1 k hk
  · have : 1000 + i ≠ n := by omega
    simp only [va_up, if_neg this]
    exact hV.2.2.1 i
theorem nv_go_new {p : Program} {e : Env} {R : Room} {s : State} {m : MethodId} {args : Array Value} {below : List Frame} {meth : Method} {c : Code} {n0 q k : Nat} {ad0 ad : Nat → Nat} {A : Nat → Prop} {Q : State → Prop} {H1 : Heap} {locs : List Loc} {lsC : Array Slot} {h' : nv_Hp} {z' : nv_Zp}
    (hC : nv_C G d M r p R s m args meth c n0 A) (hX : nv_X G M r p e R s m args below meth c n0 ad0 A Q) (hV : nv_V G r s n0 ad0 A (va_up ad n q) (h', z', n + 1) H1 locs) (hl : lv_has lsC M.2.2.1 (nv_ll ad 0 ls)) (ho : nv_lo n (n + 1) ls st) (hn0 : n0 ≤ n) (hk : nv_sz1 (nv_shp n) = k)
    (K : nv_E G d M nx ls (.ref n :: st) (h', z', n + 1) r) : W p G.1 e R s m args below meth c H1 locs (n - n0 + 1) (nv_sl n - nv_sl n0 + k) Q (F0 m nx lsC (.ref q :: st.map (nv_cV ad))) := by
  have hag : ∀ j, (j < n ∨ n + 1 ≤ j) → va_up ad n q j = ad j := fun j hj => by
    have : j ≠ n := by omega
    simp [va_up, this]
  have K' := K p e R s m args below meth c n0 ad0 A Q hC hX (va_up ad n q) H1 locs lsC hV (by rw [nv_ll_eq hag ls 0 ho.1]; exact hl)
  simp only [List.map_cons, nv_cV_ref] at K'
  rw [nv_map_eq hag ho.2] at K'
  have e1 : va_up ad n q n = q := by simp [va_up]
  rw [e1] at K'
  have e2 : n + 1 - n0 = n - n0 + 1 := by omega
  have e3 : nv_sl (n + 1) - nv_sl n0 = nv_sl n - nv_sl n0 + k := by
    have := nv_sl_mono hn0
    show nv_sl n + nv_sz1 (nv_shp n) - nv_sl n0 = _
    omega
  rw [e2, e3] at K'
  exact K'
/-- an object: the class ci that 'new ix' names -/
def nv_Cl (own : String) (ix ci : Nat) (fl : List (Option Nat)) : Prop := ∃ (C : String) (T : u_T) (N : Nat) (ty0 : Nat → FieldType), nv_cls[ci]? = some (C, T, N) ∧ N = fl.length ∧ Cond.classLink own ix C ∈ nv_gt ∧ Cond.instantiable C N ∈ nv_gt ∧ Cond.initialized C ∈ nv_gt ∧ (∀ w ∈ u_ws C T N, w ∈ nv_gt) ∧ (∀ k, k < N → parseFieldDescriptor (T k).2.2.1 = some (ty0 k)) ∧
  (∀ j, j < N → defaultValue (ty0 j) = match fl.getD j none with | none => .int 0 | some _ => .null)
theorem nv_newO {ix ci : Nat} {fl : List (Option Nat)} (hi : nv_dc M pc (.new ix) 3 nx) (hL : nv_Cl M.1.cls ix ci fl) (hs : nv_shp n = .inr (ci, fl)) (hw : nv_wz z n) (hn : n + 1 ≤ nv_n r) (ho : nv_lo n (n + 1) ls st) (K : nv_E G d M nx ls (.ref n :: st) (nv_zh h n, nv_zz z n, n + 1) r) : nv_E G d M pc ls st (h, z, n) r := by
  obtain ⟨hi, rfl⟩ := hi
  obtain ⟨C, T, N, ty0, f1, f2, f3, f4, f5, f6, f7, f8⟩ := hL
  intro p e R s m args below meth c n0 ad0 A Q hC hX ad H locs lsC hV hl
  have hT := hC.2.2.2.2.1
  have hr := hC.2.2.2.2.2.2.2.2.2
  have h1 : n0 ≤ n ∧ n ≤ nv_n r ∧ nv_n r ≤ 1000 := hV.1
  have h2 : nv_sl (n + 1) ≤ nv_sl (nv_n r) := nv_sl_mono hn
  have h3 : nv_sl (n + 1) = nv_sl n + N := by rw [f2]; show nv_sl n + nv_sz1 (nv_shp n) = _; rw [hs]; rfl
  have h4 := nv_sl_mono h1.1
  refine va_new (D := G.2.1) (cl := nv_cls) (ci := ci) (fs := nv_fv ad (nv_zh h n) (nv_zz z n) n 0 fl) hC.1 hC.2.1 hT f6 ty0 f7 hC.2.2.2.1 (hT _ f3) (hT _ f4) (hT _ f5) hC.2.2.2.2.2.1 hV.2.2.2.1 hV.2.2.2.2.1 hV.2.2.2.2.2 hC.2.2.2.2.2.2.1 f1 (fun j hj => ?_) (by show n - n0 + 1 ≤ _; omega) (by show nv_sl n - nv_sl n0 + N ≤ _; omega) hi (fun q H1 hP hD hS => ?_)
  · rw [f8 j hj]
    have hjl : j < fl.length := by omega
    unfold vp_V
    rw [List.getD_eq_getElem?_getD, List.getD_eq_getElem?_getD, nv_fv_get, List.getElem?_eq_getElem hjl]
    cases fl[j] with
    | none => simp [nv_zh]
    | some r => simp [nv_zz]
  · refine nv_go_new hC hX (hV.new hw hn ?_ hP hD hS) hl ho h1.1 (by rw [hs, f2]; rfl) K
    rw [hs]
    simp only [nv_ce]
    congr 2
    apply List.ext_getElem?
    intro i
    rw [nv_fv_get, nv_fv_get]
    cases fl[i]? with
    | none => rfl
    | some o => cases o <;> simp [nv_zz]
theorem nv_newA {len : Nat} {x : Int32} (hi : nv_dc M pc (.newarray .int) 2 nx) (hg : Cond.arrayClass .int ∈ nv_gt) (hs : nv_shp n = .inl (len, none)) (hx : ¬ x < 0) (hx2 : x.toNatClampNeg = len) (hx3 : len ≤ 1000) (hw : nv_wz z n) (hn : n + 1 ≤ nv_n r) (ho : nv_lo n (n + 1) ls st) (K : nv_E G d M nx ls (.ref n :: st) (nv_zh h n, nv_zz z n, n + 1) r) : nv_E G d M pc ls (.int x :: st) (h, z, n) r := by
  obtain ⟨hi, rfl⟩ := hi
  intro p e R s m args below meth c n0 ad0 A Q hC hX ad H locs lsC hV hl
  have hT := hC.2.2.2.2.1
  have hr := hC.2.2.2.2.2.2.2.2.2
  have h1 : n0 ≤ n ∧ n ≤ nv_n r ∧ nv_n r ≤ 1000 := hV.1
  have h2 : nv_sl (n + 1) ≤ nv_sl (nv_n r) := nv_sl_mono hn
  have h3 : nv_sl (n + 1) = nv_sl n + len := by show nv_sl n + nv_sz1 (nv_shp n) = _; rw [hs]; rfl
  have h4 := nv_sl_mono h1.1
  refine va_newa (atype := .int) (D := G.2.1) (cl := nv_cls) (ty := .int) (a0 := (len, .inl (fun _ => 0))) hC.1 hC.2.1 (hT _ hg) rfl hC.2.2.2.2.2.1 hV.2.2.2.1 hV.2.2.2.2.1 hV.2.2.2.2.2 hC.2.2.2.2.2.2.1 (fun cA => rfl) hx hx2 (by show len * 4 ≤ _; omega) (by show n - n0 + 1 ≤ _; omega) (by show nv_sl n - nv_sl n0 + len ≤ _; omega) hi (fun q cA H1 hK hP hD hS => ?_)
  have hcA : cA = G.2.2.1 0 := by
    have a1 := (hK.2 0 _ rfl).2
    have a2 := (hK.2 7 _ rfl).2
    exact Option.some.inj (a2.symm.trans a1)
  subst hcA
  refine nv_go_new hC hX (hV.new hw hn ?_ hP hD hS) hl ho h1.1 (by rw [hs]; rfl) K
  rw [hs]
  simp only [nv_ce]
  congr 4
  funext b
  simp [nv_zh]
theorem nv_newR {ix len t b w : Nat} {x : Int32} {C : String} (hi : nv_dc M pc (.anewarray ix) 3 nx) (hg : Cond.classLink M.1.cls ix C ∈ nv_gt) (hC' : C ∈ nv_aon) (ht : ∀ cA : Nat → ClassId, (nv_tys cA)[t]? = some (cA t, .object C)) (hs : nv_shp n = .inl (len, some (t, b, w))) (hx : ¬ x < 0) (hx2 : x.toNatClampNeg = len) (hx3 : len ≤ 1000) (hw : nv_wz z n) (hn : n + 1 ≤ nv_n r) (ho : nv_lo n (n + 1) ls st) (K : nv_E G d M nx ls (.ref n :: st) (nv_zh h n, nv_zz z n, n + 1) r) : nv_E G d M pc ls (.int x :: st) (h, z, n) r := by
  obtain ⟨hi, rfl⟩ := hi
  intro p e R s m args below meth c n0 ad0 A Q hC hX ad H locs lsC hV hl
  have hT := hC.2.2.2.2.1
  have hr := hC.2.2.2.2.2.2.2.2.2
  have h1 : n0 ≤ n ∧ n ≤ nv_n r ∧ nv_n r ≤ 1000 := hV.1
  have h2 : nv_sl (n + 1) ≤ nv_sl (nv_n r) := nv_sl_mono hn
  have h3 : nv_sl (n + 1) = nv_sl n + len := by show nv_sl n + nv_sz1 (nv_shp n) = _; rw [hs]; rfl
  have h4 := nv_sl_mono h1.1
  refine va_newq (D := G.2.1) (cl := nv_cls) hC.1 hC.2.1 hC.2.2.2.1 (hT _ hg) (hC.2.2.2.2.2.2.2.1.2.2.1 C hC') hC.2.2.2.2.2.1 hV.2.2.2.1 hV.2.2.2.2.1 hV.2.2.2.2.2 hC.2.2.2.2.2.2.1 hx hx2 (by omega) (by show n - n0 + 1 ≤ _; omega) (by show nv_sl n - nv_sl n0 + len ≤ _; omega) hi (fun q cA H1 hK hP hD hS => ?_)
  have hcA : cA = G.2.2.1 t := by
    have ht7 : t < 7 := (List.getElem?_eq_some_iff.mp (ht G.2.2.1)).1
    obtain ⟨-, -, -, -, -, a1⟩ := (hK.2 t (G.2.2.1 t, .object C) (by rw [List.getElem?_append_left ht7]; exact ht _)).2
    obtain ⟨-, -, -, -, -, a2⟩ := (hK.2 7 _ rfl).2
    exact Option.some.inj (a2.symm.trans a1)
  subst hcA
  refine nv_go_new hC hX (hV.new hw hn ?_ hP hD hS) hl ho h1.1 (by rw [hs]; rfl) K
  rw [hs]
  simp only [nv_ce]
  congr 7
  funext i
  simp [nv_zz]
/-- a reference put into an array of references: the cell that the shape says -/
theorem nv_astR {i : Int32} {k len t b w v ci : Nat} {fl : List (Option Nat)} {C : String} {T : u_T} {N : Nat} (hi : nv_dc M pc .aastore 1 nx) (hk : k < n ∧ nv_shp k = .inl (len, some (t, b, w))) (ht : ∀ cA : Nat → ClassId, (nv_tys cA)[t]? = some (cA t, .object C)) (hin : nv_inb i len = true) (hv : v = b + w * i.toNatClampNeg) (hvn : v < n ∧ nv_shp v = .inr (ci, fl)) (hc : nv_cls[ci]? = some (C, T, N)) (K : nv_E G d M nx ls st (h, nv_uz z k i.toNatClampNeg, n) r) : nv_E G d M pc ls (.ref v :: .int i :: .ref k :: st) (h, z, n) r := by
  obtain ⟨hi, rfl⟩ := hi
  intro p e R s m args below meth c n0 ad0 A Q hC hX ad H locs lsC hV hl
  refine va_astq (D := G.2.1) (cl := nv_cls) (r := (C, T, N)) hC.1 hC.2.1 hC.2.2.2.2.2.1 hV.2.2.2.1 hV.2.2.2.2.1 hV.2.2.2.2.2 k t v ci (hV.wg hk.1 hk.2) (ht _) (hV.wg hvn.1 hvn.2) hc (nv_inb_vp hin) hi (fun H1 locs1 hP hD hS => ?_)
  refine K p e R s m args below meth c n0 ad0 A Q hC hX ad H1 locs1 lsC (hV.put hk.1 (h' := h) (z' := nv_uz z k i.toNatClampNeg) ?_ (fun _ _ _ => rfl) (fun a j ha => by simp [nv_uz, ha]) hP hD hS) hl
  rw [hk.2]
  simp only [nv_ce]
  congr 7
  funext j
  by_cases hj : j = i.toNatClampNeg
  · subst hj
    simp [va_up, nv_uz, hv]
  · simp [va_up, nv_uz, hj]
def nv_Lo (own : String) (ix : Nat) : Prop := Cond.methodLink own ix Lib.objectInit ∈ nv_gt ∧ Cond.instanceMethod Lib.objectInit ∈ nv_gt ∧ Cond.code Lib.objectInit ⟨#[0xb1]⟩ 1 none ∈ nv_gt
theorem nv_objI {ix k : Nat} {σ : nv_Sg} (hi : nv_dc M pc (.invokespecial ix) 3 nx) (hL : nv_Lo M.1.cls ix) (hd : 1 ≤ d) (hst : (st.map fun v => v.category).sum ≤ 8) (K : nv_E G d M nx ls st σ r) : nv_E G d M pc ls (.ref k :: st) σ r := by
  obtain ⟨hi, rfl⟩ := hi
  obtain ⟨l1, l2, l3⟩ := hL
  intro p e R s m args below meth c n0 ad0 A Q hC hX ad H locs lsC hV hl
  have hT := hC.2.2.2.2.1
  have hr := hC.2.2.2.2.2.2.2.2.2
  have hcat := nv_cat8 (ad := ad) hst
  refine W.objInit hC.1 hC.2.1 hC.2.2.2.1 (hT _ l1) (hT _ l2) (hT _ l3) rfl (by rw [hC.2.2.1]; exact hl.1) rfl hi (by omega) (by show 2 * 0 + _ + 12 ≤ _; omega) ?_
  exact K p e R s m args below meth c n0 ad0 A Q hC hX ad H locs lsC hV hl
/-- a constructor's call, also one that makes cells -/
theorem nv_callC {ix d' na k : Nat} {y : nv_MI} {As : List Value} {σ : nv_Sg} {r' : nv_R} (hM : nv_Mt G d' y (.ref k :: As) σ r') (hr1 : r'.1 = none) (hi : nv_dc M pc (.invokespecial ix) 3 nx) (hl' : Cond.methodLink M.1.cls ix y.1 ∈ nv_gt ∨ ∃ host, Cond.methodLinkNest M.1.cls ix y.1 host ∈ nv_nst) (hy : nv_Yi y na) (hn : As.length = na) (hd : d' + 1 ≤ d) (hsz : nv_n r' ≤ nv_n r) (ho : nv_lo σ.2.2 (nv_n r') ls st) {stk : List Value} (hs : As.reverse ++ .ref k :: st = stk) (hst : (st.map fun v => v.category).sum ≤ 8)
    (K : nv_E G d M nx ls st r'.2 r) : nv_E G d M pc ls stk σ r := by
  subst hs
  obtain ⟨hi, rfl⟩ := hi
  intro p e R s m args below meth c n0 ad0 A Q hC hX ad H locs lsC hV hl
  have hT := hC.2.2.2.2.1
  obtain ⟨hF, hP⟩ := nv_pre (r' := r') (av := .ref k :: As) hC hV
  have hR := hC.2.2.2.2.2.2.2.2.2
  obtain ⟨hm1, hm2, hM⟩ := hM
  have hM := hM ad H.size hV.2.2.1
  obtain ⟨h, z, n⟩ := σ
  have hV1 : n0 ≤ n ∧ n ≤ nv_n r ∧ nv_n r ≤ 1000 := hV.1
  have hm1 : n ≤ nv_n r' := hm1
  have hsl1 : nv_sl n ≤ nv_sl (nv_n r') := nv_sl_mono hm1
  have hsl2 : nv_sl (nv_n r') ≤ nv_sl (nv_n r) := nv_sl_mono hsz
  have hsl0 : nv_sl n0 ≤ nv_sl n := nv_sl_mono hV1.1
  have hRR : d' + 1 ≤ R.frames ∧ 8 + (y.2.2.1 + 11) + 40 * d' ≤ R.locals := ⟨by omega, by have := hy.1.2.2.2; omega⟩
  have hfit : (n - n0) + (nv_n r' - n) ≤ R.cells ∧ (nv_sl n - nv_sl n0) + (nv_sl (nv_n r') - nv_sl n) ≤ R.slots := ⟨by omega, by omega⟩
  obtain ⟨y1, yb, ym, yr⟩ := y
  have hyr : yr = none := hy.2.2.2
  subst hyr
  have hrun : va_Run p G.1 e R s m args below meth c H locs (n - n0) (nv_sl n - nv_sl n0) (nv_n r' - n) (nv_sl (nv_n r') - nv_sl n) (F0 m pc lsC ((As.reverse ++ .ref k :: st).map (nv_cV ad))) (st.map (nv_cV ad)) (nv_Q G n ad (va_A (nv_w ad G.2.2.1 (h, z, n)) H.size) r' (Value.ref (ad k) :: As.map (nv_cV ad)).toArray) (va_A (nv_w ad G.2.2.1 (h, z, n)) H.size) := by
    rcases hl' with hl' | ⟨host, hl'⟩
    · exact va_runI (b := ad k) (As := As.map (nv_cV ad)) ⟨hC.1, hC.2.1, hC.2.2.1, hC.2.2.2.1, hT⟩ hM
        (cwI (Ts := nv_gt) na hT (nv_gc hy.1) rfl rfl rfl (hT _ hy.1.2.1) (hT _ hl') (hT _ hy.2.1) hy.2.2.1 hy.1.2.2.1 hRR)
        ⟨nv_P_blind, fun U hU hW => hP U hU hW⟩ rfl (by rw [List.length_map]; exact hn) hl.1 nv_revmap (lv_room (nv_cat8 hst)) hi hfit
    · exact va_runIN (b := ad k) (As := As.map (nv_cV ad)) ⟨hC.1, hC.2.1, hC.2.2.1, hC.2.2.2.1, hT⟩ hM
        ⟨va_cnB (Ts := nv_gt) na hT (nv_gc hy.1) rfl rfl rfl (hC.2.2.2.2.2.2.2.1.2.2.2 _ hl') (hT _ hy.1.2.1) hy.1.2.2.1 hRR, hy.2.2.1, hT _ hy.2.1⟩
        ⟨nv_P_blind, fun U hU hW => hP U hU hW⟩ rfl (by rw [List.length_map]; exact hn) hl.1 nv_revmap (lv_room (nv_cat8 hst)) hi hfit
  refine nv_go hrun hV.2.2.2.2.2 (fun q _ h => hF q h) hF (fun ad' H1 locs1 h1 h2 h3 h4 => ?_)
  have K' := K p e R s m args below meth c n0 ad0 A Q hC hX ad' H1 locs1 lsC ⟨⟨by show n0 ≤ nv_n r'; omega, hsz, hV1.2.2⟩, fun j hj => (h1 j (by omega)).trans (hV.2.1 j hj), fun i => (h1 _ (by omega)).trans (hV.2.2.1 i), h2, h3.weaken (fun _ q _ h => hF q.1 h), h4⟩ (by rw [nv_ll_eq h1 ls 0 ho.1]; exact hl)
  rw [hr1]
  rw [nv_map_eq h1 ho.2] at K'
  have e1 : nv_n r' - n0 = n - n0 + (nv_n r' - n) := by omega
  have e2 : nv_sl (nv_n r') - nv_sl n0 = nv_sl n - nv_sl n0 + (nv_sl (nv_n r') - nv_sl n) := by omega
  have K'' : W p G.1 e R s m args below meth c H1 locs1 (nv_n r' - n0) (nv_sl (nv_n r') - nv_sl n0) Q (F0 m (pc + 3) lsC (st.map (nv_cV ad))) := K'
  rw [e1, e2] at K''
  exact K''
end
